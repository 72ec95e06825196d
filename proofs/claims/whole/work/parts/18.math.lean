-- Math.max, min, abs
def mx (x y : Int32) : Int32 := if x < y then y else x
def mn (x y : Int32) : Int32 := if y < x then y else x
def ab (x : Int32) : Int32 := if 0 ≤ x then x else 0 - x
section JMA
variable {α : Type} {Θ : Th} {l : Launch} {M : Mi} {h : Nat} {G : α → Option AV} {pc : Nat} {ls : List (Option AV)} {st : List AV} {s : Mem} {o : Option (α × Mem)}
theorem s_mmax {i : Nat} {x y : Int32} (n : Nat) (hd : decode M.2.1 pc = .ok (.invokestatic i, 3)) (hn : pc + 3 = n) (hw1 : Cond.methodLink M.1.cls i Lib.Math.max.name ∈ gtb) (hw2 : Cond.static Lib.Math.max.name ∈ gtb) (hw3 : Cond.initialized "java/lang/Math" ∈ gtb) (hw4 : Cond.code Lib.Math.max.name Lib.Math.max.code 2 (some .int) ∈ gtb) (hh : 1 ≤ h) (hcat : catS st ≤ 8) (k : Js Θ l M h G n ls (vI (mx x y) :: st) s o) : Js Θ l M h G pc ls (vI y :: vI x :: st) s o := by
  subst hn
  intro r s' ho p e S m args below meth c H locs lr C hS hR hL
  refine va_mmax C.1 C.2.1 (C.2.2.2.1.trans hL.1.symm) C.2.2.2.2.1 (cx_word C hw1) (cx_word C hw2) (cx_word C hw3) (cx_word C hw4) hh ?_ (Nat.le_refl _) (Nat.le_refl _) hd (k r s' ho p e S m args below meth c H locs lr C hS hR hL)
  rw [catS_eq]
  show catS st + 13 ≤ 100 * h
  omega
theorem s_mmin {i : Nat} {x y : Int32} (n : Nat) (hd : decode M.2.1 pc = .ok (.invokestatic i, 3)) (hn : pc + 3 = n) (hw1 : Cond.methodLink M.1.cls i Lib.Math.min.name ∈ gtb) (hw2 : Cond.static Lib.Math.min.name ∈ gtb) (hw3 : Cond.initialized "java/lang/Math" ∈ gtb) (hw4 : Cond.code Lib.Math.min.name Lib.Math.min.code 2 (some .int) ∈ gtb) (hh : 1 ≤ h) (hcat : catS st ≤ 8) (k : Js Θ l M h G n ls (vI (mn x y) :: st) s o) : Js Θ l M h G pc ls (vI y :: vI x :: st) s o := by
  subst hn
  intro r s' ho p e S m args below meth c H locs lr C hS hR hL
  refine va_mmin C.1 C.2.1 (C.2.2.2.1.trans hL.1.symm) C.2.2.2.2.1 (cx_word C hw1) (cx_word C hw2) (cx_word C hw3) (cx_word C hw4) hh ?_ (Nat.le_refl _) (Nat.le_refl _) hd (k r s' ho p e S m args below meth c H locs lr C hS hR hL)
  rw [catS_eq]
  show catS st + 13 ≤ 100 * h
  omega
theorem s_mabs {i : Nat} {x : Int32} (n : Nat) (hd : decode M.2.1 pc = .ok (.invokestatic i, 3)) (hn : pc + 3 = n) (hw1 : Cond.methodLink M.1.cls i Lib.Math.abs.name ∈ gtb) (hw2 : Cond.static Lib.Math.abs.name ∈ gtb) (hw3 : Cond.initialized "java/lang/Math" ∈ gtb) (hw4 : Cond.code Lib.Math.abs.name Lib.Math.abs.code 1 (some .int) ∈ gtb) (hh : 1 ≤ h) (hcat : catS st ≤ 8) (k : Js Θ l M h G n ls (vI (ab x) :: st) s o) : Js Θ l M h G pc ls (vI x :: st) s o := by
  subst hn
  intro r s' ho p e S m args below meth c H locs lr C hS hR hL
  refine va_mabs C.1 C.2.1 (C.2.2.2.1.trans hL.1.symm) C.2.2.2.2.1 (cx_word C hw1) (cx_word C hw2) (cx_word C hw3) (cx_word C hw4) hh ?_ (Nat.le_refl _) (Nat.le_refl _) hd (k r s' ho p e S m args below meth c H locs lr C hS hR hL)
  rw [catS_eq]
  show catS st + 13 ≤ 100 * h
  omega
end JMA
theorem wc_max : Cond.code Lib.Math.max.name Lib.Math.max.code 2 (some .int) ∈ gtb := mem_g 457 (by decide +kernel) (by decide +kernel)
theorem wt_max : Cond.static Lib.Math.max.name ∈ gtb := mem_g 456 (by decide +kernel) (by decide +kernel)
theorem wc_min : Cond.code Lib.Math.min.name Lib.Math.min.code 2 (some .int) ∈ gtb := mem_g 454 (by decide +kernel) (by decide +kernel)
theorem wt_min : Cond.static Lib.Math.min.name ∈ gtb := mem_g 453 (by decide +kernel) (by decide +kernel)
theorem wc_abs : Cond.code Lib.Math.abs.name Lib.Math.abs.code 1 (some .int) ∈ gtb := mem_g 616 (by decide +kernel) (by decide +kernel)
theorem wt_abs : Cond.static Lib.Math.abs.name ∈ gtb := mem_g 615 (by decide +kernel) (by decide +kernel)
theorem wm_452 : Cond.methodLink RX7 23 Lib.Math.min.name ∈ gtb := mem_g 452 (by decide +kernel) (by decide +kernel)
theorem wm_455 : Cond.methodLink RX7 29 Lib.Math.max.name ∈ gtb := mem_g 455 (by decide +kernel) (by decide +kernel)
theorem wm_530 : Cond.methodLink RX9 23 Lib.Math.min.name ∈ gtb := mem_g 530 (by decide +kernel) (by decide +kernel)
theorem wm_531 : Cond.methodLink RX9 29 Lib.Math.max.name ∈ gtb := mem_g 531 (by decide +kernel) (by decide +kernel)
theorem wm_588 : Cond.methodLink RX5 29 Lib.Math.min.name ∈ gtb := mem_g 588 (by decide +kernel) (by decide +kernel)
theorem wm_589 : Cond.methodLink RX5 35 Lib.Math.max.name ∈ gtb := mem_g 589 (by decide +kernel) (by decide +kernel)
theorem wm_614 : Cond.methodLink RX0 71 Lib.Math.abs.name ∈ gtb := mem_g 614 (by decide +kernel) (by decide +kernel)
theorem wm_624 : Cond.methodLink RX0 86 Lib.Math.max.name ∈ gtb := mem_g 624 (by decide +kernel) (by decide +kernel)
theorem wm_839 : Cond.methodLink RX1 28 Lib.Math.max.name ∈ gtb := mem_g 839 (by decide +kernel) (by decide +kernel)
theorem wm_926 : Cond.methodLink RX11 338 Lib.Math.abs.name ∈ gtb := mem_g 926 (by decide +kernel) (by decide +kernel)
theorem wm_969 : Cond.methodLink RX8 102 Lib.Math.abs.name ∈ gtb := mem_g 969 (by decide +kernel) (by decide +kernel)
theorem wm_970 : Cond.methodLink RX8 107 Lib.Math.max.name ∈ gtb := mem_g 970 (by decide +kernel) (by decide +kernel)
theorem wm_1069 : Cond.methodLink RX2 43 Lib.Math.min.name ∈ gtb := mem_g 1069 (by decide +kernel) (by decide +kernel)
theorem wm_1128 : Cond.methodLink RX11 396 Lib.Math.min.name ∈ gtb := mem_g 1128 (by decide +kernel) (by decide +kernel)
theorem wm_1129 : Cond.methodLink RX11 399 Lib.Math.max.name ∈ gtb := mem_g 1129 (by decide +kernel) (by decide +kernel)
theorem wi_math : Cond.initialized "java/lang/Math" ∈ gtb := mem_g 88 (by decide +kernel) (by decide +kernel)
