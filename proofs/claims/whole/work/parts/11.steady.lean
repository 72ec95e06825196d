-- the steady state: all 98 cells made; short forms of the rows; the classes; the cells
def Tn : Tg := (NNc, RT, 0, 0)
abbrev Js {α : Type} (Θ : Th) (l : Launch) (M : Mi) (h : Nat) (G : α → Option AV) (pc : Nat) (ls : List (Option AV)) (st : List AV) (s : Mem) (o : Option (α × Mem)) : Prop := Jg Θ l M h G Tn NNc RT 0 0 pc ls st s o
abbrev Cs {α : Type} (Θ : Th) (l : Launch) (M : Mi) (h : Nat) (G : α → Option AV) (as : List AV) (s : Mem) (o : Option (α × Mem)) : Prop := Ct Θ l M h G Tn NNc RT as s o
/-- a value by name -/
def nm {α β : Type} (a : α) (f : α → β) : β := f a
def gC (q : Nat) : Unit → Option AV := fun _ => some (vR q)
def OA (q c : Nat) : Prop := 0 < q ∧ q ≤ NNc ∧ kd q = c
def AA (q k n : Nat) : Prop := 0 < q ∧ q ≤ NNc ∧ kd q = k ∧ ln q = n
def FA (q j : Nat) (CN fn ds : String) (fin : Bool) (kf : Nat) : Prop := ∃ (c : Nat) (Tb : u_T) (ty : Nat → FieldType), Cls c CN Tb ty ∧ 0 < q ∧ q ≤ NNc ∧ kd q = c ∧ j < nf c ∧ Tb j = (CN, fn, ds, fin) ∧ fk c j = kf
theorem nn9 : NNc < 900 := by decide
section JS
variable {α β : Type} {Θ : Th} {l : Launch} {M M2 : Mi} {h h2 : Nat} {G : α → Option AV} {G2 : β → Option AV} {pc : Nat} {ls : List (Option AV)} {st : List AV} {s : Mem} {o : Option (α × Mem)} {o2 : Option (β × Mem)} {g : β → Mem → Option (α × Mem)}
theorem s_getI {q j i : Nat} {CN fn : String} {fin : Bool} (n : Nat) (hF : FA q j CN fn "I" fin 0) (hw : Cond.fieldLink M.1.cls i CN fn "I" ∈ gtb) (hd : decode M.2.1 pc = .ok (.getfield i, 3)) (hn : pc + 3 = n) (k : Js Θ l M h G n ls (vI (s.1 q j) :: st) s o) : Js Θ l M h G pc ls (vR q :: st) s o := by
  obtain ⟨c, Tb, ty, hC, q1, q2, hk, hj, hT, h0⟩ := hF
  refine j_get n hC hd hn q1 q2 nn9 hk hj (by rw [hT]) hw (fun Θ => ?_) k
  unfold fcont
  rw [hk, h0]
  skip
  rfl
theorem s_getL {q j i : Nat} {CN fn : String} {fin : Bool} (n : Nat) (hF : FA q j CN fn "J" fin 1) (hw : Cond.fieldLink M.1.cls i CN fn "J" ∈ gtb) (hd : decode M.2.1 pc = .ok (.getfield i, 3)) (hn : pc + 3 = n) (k : Js Θ l M h G n ls (vL (s.2 q j) :: st) s o) : Js Θ l M h G pc ls (vR q :: st) s o := by
  obtain ⟨c, Tb, ty, hC, q1, q2, hk, hj, hT, h0⟩ := hF
  refine j_get n hC hd hn q1 q2 nn9 hk hj (by rw [hT]) hw (fun Θ => ?_) k
  unfold fcont
  rw [hk, h0]
  skip
  rfl
theorem s_getR {q j i : Nat} {CN fn ds : String} {fin : Bool} {x : Nat} (n : Nat) (hF : FA q j CN fn ds fin 2) (hw : Cond.fieldLink M.1.cls i CN fn ds ∈ gtb) (hd : decode M.2.1 pc = .ok (.getfield i, 3)) (hn : pc + 3 = n) (hx : RT q j = x) (k : Js Θ l M h G n ls (vR x :: st) s o) : Js Θ l M h G pc ls (vR q :: st) s o := by
  obtain ⟨c, Tb, ty, hC, q1, q2, hk, hj, hT, h0⟩ := hF
  refine j_get n hC hd hn q1 q2 nn9 hk hj (by rw [hT]) hw (fun Θ => ?_) k
  unfold fcont
  rw [hk, h0]
  rw [hx]
  rfl
theorem s_putI {q j i : Nat} {CN fn : String} {x : Int32} (n : Nat) (hF : FA q j CN fn "I" false 0) (hw : Cond.fieldLink M.1.cls i CN fn "I" ∈ gtb) (hd : decode M.2.1 pc = .ok (.putfield i, 3)) (hn : pc + 3 = n) (k : Js Θ l M h G n ls st (wI s q j x) o) : Js Θ l M h G pc ls (vI x :: vR q :: st) s o := by
  obtain ⟨c, Tb, ty, hC, q1, q2, hk, hj, hT, h0⟩ := hF
  exact j_putI n hC hd hn q1 q2 nn9 hk hj hT (Or.inl rfl) hw h0 k
theorem s_putL {q j i : Nat} {CN fn : String} {x : Int64} (n : Nat) (hF : FA q j CN fn "J" false 1) (hw : Cond.fieldLink M.1.cls i CN fn "J" ∈ gtb) (hd : decode M.2.1 pc = .ok (.putfield i, 3)) (hn : pc + 3 = n) (k : Js Θ l M h G n ls st (wL s q j x) o) : Js Θ l M h G pc ls (vL x :: vR q :: st) s o := by
  obtain ⟨c, Tb, ty, hC, q1, q2, hk, hj, hT, h0⟩ := hF
  exact j_putL n hC hd hn q1 q2 nn9 hk hj hT (Or.inl rfl) hw h0 k
theorem s_iaload {q z : Nat} {i : Int32} (n : Nat) (hA : AA q 20 z) (hd : decode M.2.1 pc = .ok (.iaload, 1)) (hn : pc + 1 = n) (k : inb i z = true → Js Θ l M h G n ls (vI (s.1 q (ix i)) :: st) s o) : Js Θ l M h G pc ls (vI i :: vR q :: st) s (if inb i z = true then o else none) := j_iaload n hd hn hA.1 hA.2.1 nn9 hA.2.2.1 hA.2.2.2 k
theorem s_baload {q z : Nat} {i : Int32} (n : Nat) (hA : AA q 21 z ∨ AA q 22 z) (hd : decode M.2.1 pc = .ok (.baload, 1)) (hn : pc + 1 = n) (k : inb i z = true → Js Θ l M h G n ls (vI (s.1 q (ix i)) :: st) s o) : Js Θ l M h G pc ls (vI i :: vR q :: st) s (if inb i z = true then o else none) := by
  rcases hA with hA | hA
  · exact j_baload n hd hn hA.1 hA.2.1 nn9 (Or.inl hA.2.2.1) hA.2.2.2 k
  · exact j_baload n hd hn hA.1 hA.2.1 nn9 (Or.inr hA.2.2.1) hA.2.2.2 k
theorem s_iastore {q z : Nat} {i x : Int32} (n : Nat) (hA : AA q 20 z) (hd : decode M.2.1 pc = .ok (.iastore, 1)) (hn : pc + 1 = n) (k : inb i z = true → Js Θ l M h G n ls st (wI s q (ix i) x) o) : Js Θ l M h G pc ls (vI x :: vI i :: vR q :: st) s (if inb i z = true then o else none) := j_iastore n hd hn hA.1 hA.2.1 nn9 hA.2.2.1 hA.2.2.2 k
theorem s_bastore {q z : Nat} {i x : Int32} (n : Nat) (hA : AA q 21 z) (hd : decode M.2.1 pc = .ok (.bastore, 1)) (hn : pc + 1 = n) (k : inb i z = true → Js Θ l M h G n ls st (wI s q (ix i) x.toInt8.toInt32) o) : Js Θ l M h G pc ls (vI x :: vI i :: vR q :: st) s (if inb i z = true then o else none) := j_bastore n hd hn hA.1 hA.2.1 nn9 hA.2.2.1 hA.2.2.2 k
theorem s_zastore {q z : Nat} {i x : Int32} (n : Nat) (hA : AA q 22 z) (hd : decode M.2.1 pc = .ok (.bastore, 1)) (hn : pc + 1 = n) (k : inb i z = true → Js Θ l M h G n ls st (wI s q (ix i) (vp_nar .boolean x)) o) : Js Θ l M h G pc ls (vI x :: vI i :: vR q :: st) s (if inb i z = true then o else none) := j_zastore n hd hn hA.1 hA.2.1 nn9 hA.2.2.1 hA.2.2.2 k
theorem s_alen {q c z : Nat} {v : Int32} (n : Nat) (hA : AA q c z) (h1 : 20 ≤ c) (h2 : c < 25) (hv : Int32.ofNat z = v) (hd : decode M.2.1 pc = .ok (.arraylength, 1)) (hn : pc + 1 = n) (k : Js Θ l M h G n ls (vI v :: st) s o) : Js Θ l M h G pc ls (vR q :: st) s o := j_alen n hd hn hA.1 hA.2.1 nn9 hA.2.2.1 h1 h2 (by rw [hA.2.2.2]; exact hv) k
theorem s_aaload {q c z : Nat} {i : Int32} (n : Nat) (hA : AA q c z) (h1 : c = 23 ∨ c = 24) (hd : decode M.2.1 pc = .ok (.aaload, 1)) (hn : pc + 1 = n) (k : inb i z = true → Js Θ l M h G n ls (vR (RT q (ix i)) :: st) s o) : Js Θ l M h G pc ls (vI i :: vR q :: st) s (if inb i z = true then o else none) := j_aaload n hd hn hA.1 hA.2.1 nn9 hA.2.2.1 h1 hA.2.2.2 k
theorem s_copy {q0 q1 n0 n1 i : Nat} {sp dp z : Int32} (n : Nat) (hA : AA q0 20 n0) (hB : AA q1 20 n1) (hd : decode M.2.1 pc = .ok (.invokestatic i, 3)) (hn : pc + 3 = n) (hw1 : Cond.methodLink M.1.cls i arraycopyName ∈ gtb) (hw2 : Cond.native arraycopyName ∈ gtb) (hw3 : Cond.static arraycopyName ∈ gtb) (hw4 : Cond.initialized "java/lang/System" ∈ gtb) (hh : 1 ≤ h) (hcat : catS st ≤ 8) (k : Js Θ l M h G n ls st (wF s q1 (va_cpy (s.1 q0) (s.1 q1) (ix sp) (ix dp) (ix z))) o) : Js Θ l M h G pc ls (vI z :: vI dp :: vR q1 :: vI sp :: vR q0 :: st) s (if ¬ sp < 0 ∧ ¬ dp < 0 ∧ ¬ z < 0 ∧ ix sp + ix z ≤ n0 ∧ ix dp + ix z ≤ n1 then o else none) := j_copy n hd hn hw1 hw2 hw3 hw4 hA.1 hA.2.1 hB.1 hB.2.1 nn9 (Nat.le_refl _) hA.2.2.1 hB.2.2.1 hA.2.2.2 hB.2.2.2 hh hcat k
theorem s_iret {x : Int32} (hd : decode M.2.1 pc = .ok (.ireturn, 1)) (hr : M.2.2.2 = some .int) : Js Θ l M h gI pc ls [vI x] s (some (x, s)) := j_iret hd hr rfl rfl (Nat.le_refl _) (Nat.le_refl _)
theorem s_zret {x : Int32} (hd : decode M.2.1 pc = .ok (.ireturn, 1)) (hr : M.2.2.2 = some .boolean) (hx : x = 0 ∨ x = 1) : Js Θ l M h gI pc ls [vI x] s (some (x, s)) := j_zret hd hr hx rfl rfl (Nat.le_refl _) (Nat.le_refl _)
theorem s_zretG {x : Int32} (hd : decode M.2.1 pc = .ok (.ireturn, 1)) (hr : M.2.2.2 = some .boolean) : Js Θ l M h gI pc ls [vI x] s (if x = 0 ∨ x = 1 then some (x, s) else none) := j_zretG hd hr rfl rfl (Nat.le_refl _) (Nat.le_refl _)
theorem s_lret {x : Int64} (hd : decode M.2.1 pc = .ok (.lreturn, 1)) (hr : M.2.2.2 = some .long) : Js Θ l M h gL pc ls [vL x] s (some (x, s)) := j_lret hd hr rfl rfl (Nat.le_refl _) (Nat.le_refl _)
theorem s_aret {q : Nat} {rt : FieldType} (hd : decode M.2.1 pc = .ok (.areturn, 1)) (hr : M.2.2.2 = some rt) (hrt : (∃ n, rt = .object n) ∨ ∃ t, rt = .array t) : Js Θ l M h gR pc ls [vR q] s (some (q, s)) := j_aret hd hr hrt rfl rfl (Nat.le_refl _) (Nat.le_refl _)
theorem s_aretC {q : Nat} {rt : FieldType} (hd : decode M.2.1 pc = .ok (.areturn, 1)) (hr : M.2.2.2 = some rt) (hrt : (∃ n, rt = .object n) ∨ ∃ t, rt = .array t) : Js Θ l M h (gC q) pc ls [vR q] s (some ((), s)) := by
  intro r s' ho
  cases ho
  exact s_aret (Θ := Θ) (l := l) (M := M) (h := h) (pc := pc) (ls := ls) (s := s) hd hr hrt q s rfl
theorem s_ret (hd : decode M.2.1 pc = .ok (.return_, 1)) (hr : M.2.2.2 = none) : Js Θ l M h gU pc ls [] s (some ((), s)) := j_ret hd hr rfl rfl (Nat.le_refl _) (Nat.le_refl _)
theorem s_nmI {x : Int32} {f : Int32 → Option (α × Mem)} (k : ∀ y : Int32, Js Θ l M h G pc ls (vI y :: st) s (f y)) : Js Θ l M h G pc ls (vI x :: st) s (nm x f) := k x
theorem s_nmL {x : Int64} {f : Int64 → Option (α × Mem)} (k : ∀ y : Int64, Js Θ l M h G pc ls (vL y :: st) s (f y)) : Js Θ l M h G pc ls (vL x :: st) s (nm x f) := k x
theorem s_callVi {q c i : Nat} {Tb : u_T} {ty : Nat → FieldType} {stk : List AV} {o2 : Option (Int32 × Mem)} {g : Int32 → Mem → Option (α × Mem)} (as : List AV) (n : Nat) (hO : OA q c) (hC : Cls c M2.1.cls Tb ty) (hM : MkV M2 as.length) (hw : Cond.methodLink M.1.cls i M2.1 ∈ gtb) (hd : decode M.2.1 pc = .ok (.invokevirtual i, 3)) (hn : pc + 3 = n) (hst : stk = as.reverse ++ vR q :: st) (hct : Cs Θ l M2 h2 gI (vR q :: as) s o2) (hh : h2 + 1 ≤ h) (hL9 : M2.2.2.1 ≤ 60) (hcat : catS st ≤ 8) (k : ∀ (r : Int32) (s1 : Mem), Js Θ l M h G n ls (vI r :: st) s1 (g r s1)) : Js Θ l M h G pc ls stk s (bnd o2 g) := j_callV as n hC hM hw hd hn hst hO.1 hO.2.1 nn9 hO.2.2 hct hh hL9 hcat (Nat.le_refl _) (Nat.le_refl _) k
theorem s_callSi {i : Nat} {stk : List AV} {o2 : Option (Int32 × Mem)} {g : Int32 → Mem → Option (α × Mem)} (as : List AV) (n : Nat) (hM : MkS M2 as.length) (hw : Cond.methodLink M.1.cls i M2.1 ∈ gtb ∨ ∃ host, Cond.methodLinkNest M.1.cls i M2.1 host ∈ nwL) (hd : decode M.2.1 pc = .ok (.invokestatic i, 3)) (hn : pc + 3 = n) (hst : stk = as.reverse ++ st) (hct : Cs Θ l M2 h2 gI as s o2) (hh : h2 + 1 ≤ h) (hL9 : M2.2.2.1 ≤ 60) (hcat : catS st ≤ 8) (k : ∀ (r : Int32) (s1 : Mem), Js Θ l M h G n ls (vI r :: st) s1 (g r s1)) : Js Θ l M h G pc ls stk s (bnd o2 g) := j_callS as n hM hw hd hn hst hct hh hL9 hcat (Nat.le_refl _) (Nat.le_refl _) k
theorem s_callVl {q c i : Nat} {Tb : u_T} {ty : Nat → FieldType} {stk : List AV} {o2 : Option (Int64 × Mem)} {g : Int64 → Mem → Option (α × Mem)} (as : List AV) (n : Nat) (hO : OA q c) (hC : Cls c M2.1.cls Tb ty) (hM : MkV M2 as.length) (hw : Cond.methodLink M.1.cls i M2.1 ∈ gtb) (hd : decode M.2.1 pc = .ok (.invokevirtual i, 3)) (hn : pc + 3 = n) (hst : stk = as.reverse ++ vR q :: st) (hct : Cs Θ l M2 h2 gL (vR q :: as) s o2) (hh : h2 + 1 ≤ h) (hL9 : M2.2.2.1 ≤ 60) (hcat : catS st ≤ 8) (k : ∀ (r : Int64) (s1 : Mem), Js Θ l M h G n ls (vL r :: st) s1 (g r s1)) : Js Θ l M h G pc ls stk s (bnd o2 g) := j_callV as n hC hM hw hd hn hst hO.1 hO.2.1 nn9 hO.2.2 hct hh hL9 hcat (Nat.le_refl _) (Nat.le_refl _) k
theorem s_callSl {i : Nat} {stk : List AV} {o2 : Option (Int64 × Mem)} {g : Int64 → Mem → Option (α × Mem)} (as : List AV) (n : Nat) (hM : MkS M2 as.length) (hw : Cond.methodLink M.1.cls i M2.1 ∈ gtb ∨ ∃ host, Cond.methodLinkNest M.1.cls i M2.1 host ∈ nwL) (hd : decode M.2.1 pc = .ok (.invokestatic i, 3)) (hn : pc + 3 = n) (hst : stk = as.reverse ++ st) (hct : Cs Θ l M2 h2 gL as s o2) (hh : h2 + 1 ≤ h) (hL9 : M2.2.2.1 ≤ 60) (hcat : catS st ≤ 8) (k : ∀ (r : Int64) (s1 : Mem), Js Θ l M h G n ls (vL r :: st) s1 (g r s1)) : Js Θ l M h G pc ls stk s (bnd o2 g) := j_callS as n hM hw hd hn hst hct hh hL9 hcat (Nat.le_refl _) (Nat.le_refl _) k
theorem s_callVr {q c i : Nat} {Tb : u_T} {ty : Nat → FieldType} {stk : List AV} {o2 : Option (Nat × Mem)} {g : Nat → Mem → Option (α × Mem)} (as : List AV) (n : Nat) (hO : OA q c) (hC : Cls c M2.1.cls Tb ty) (hM : MkV M2 as.length) (hw : Cond.methodLink M.1.cls i M2.1 ∈ gtb) (hd : decode M.2.1 pc = .ok (.invokevirtual i, 3)) (hn : pc + 3 = n) (hst : stk = as.reverse ++ vR q :: st) (hct : Cs Θ l M2 h2 gR (vR q :: as) s o2) (hh : h2 + 1 ≤ h) (hL9 : M2.2.2.1 ≤ 60) (hcat : catS st ≤ 8) (k : ∀ (r : Nat) (s1 : Mem), Js Θ l M h G n ls (vR r :: st) s1 (g r s1)) : Js Θ l M h G pc ls stk s (bnd o2 g) := j_callV as n hC hM hw hd hn hst hO.1 hO.2.1 nn9 hO.2.2 hct hh hL9 hcat (Nat.le_refl _) (Nat.le_refl _) k
theorem s_callSr {i : Nat} {stk : List AV} {o2 : Option (Nat × Mem)} {g : Nat → Mem → Option (α × Mem)} (as : List AV) (n : Nat) (hM : MkS M2 as.length) (hw : Cond.methodLink M.1.cls i M2.1 ∈ gtb ∨ ∃ host, Cond.methodLinkNest M.1.cls i M2.1 host ∈ nwL) (hd : decode M.2.1 pc = .ok (.invokestatic i, 3)) (hn : pc + 3 = n) (hst : stk = as.reverse ++ st) (hct : Cs Θ l M2 h2 gR as s o2) (hh : h2 + 1 ≤ h) (hL9 : M2.2.2.1 ≤ 60) (hcat : catS st ≤ 8) (k : ∀ (r : Nat) (s1 : Mem), Js Θ l M h G n ls (vR r :: st) s1 (g r s1)) : Js Θ l M h G pc ls stk s (bnd o2 g) := j_callS as n hM hw hd hn hst hct hh hL9 hcat (Nat.le_refl _) (Nat.le_refl _) k
theorem s_callVu {q c i : Nat} {Tb : u_T} {ty : Nat → FieldType} {stk : List AV} {o2 : Option (Unit × Mem)} {g : Unit → Mem → Option (α × Mem)} (as : List AV) (n : Nat) (hO : OA q c) (hC : Cls c M2.1.cls Tb ty) (hM : MkV M2 as.length) (hw : Cond.methodLink M.1.cls i M2.1 ∈ gtb) (hd : decode M.2.1 pc = .ok (.invokevirtual i, 3)) (hn : pc + 3 = n) (hst : stk = as.reverse ++ vR q :: st) (hct : Cs Θ l M2 h2 gU (vR q :: as) s o2) (hh : h2 + 1 ≤ h) (hL9 : M2.2.2.1 ≤ 60) (hcat : catS st ≤ 8) (k : ∀ (r : Unit) (s1 : Mem), Js Θ l M h G n ls (st) s1 (g r s1)) : Js Θ l M h G pc ls stk s (bnd o2 g) := j_callV as n hC hM hw hd hn hst hO.1 hO.2.1 nn9 hO.2.2 hct hh hL9 hcat (Nat.le_refl _) (Nat.le_refl _) k
theorem s_callSu {i : Nat} {stk : List AV} {o2 : Option (Unit × Mem)} {g : Unit → Mem → Option (α × Mem)} (as : List AV) (n : Nat) (hM : MkS M2 as.length) (hw : Cond.methodLink M.1.cls i M2.1 ∈ gtb ∨ ∃ host, Cond.methodLinkNest M.1.cls i M2.1 host ∈ nwL) (hd : decode M.2.1 pc = .ok (.invokestatic i, 3)) (hn : pc + 3 = n) (hst : stk = as.reverse ++ st) (hct : Cs Θ l M2 h2 gU as s o2) (hh : h2 + 1 ≤ h) (hL9 : M2.2.2.1 ≤ 60) (hcat : catS st ≤ 8) (k : ∀ (r : Unit) (s1 : Mem), Js Θ l M h G n ls (st) s1 (g r s1)) : Js Θ l M h G pc ls stk s (bnd o2 g) := j_callS as n hM hw hd hn hst hct hh hL9 hcat (Nat.le_refl _) (Nat.le_refl _) k
theorem s_callVc {q c i z : Nat} {Tb : u_T} {ty : Nat → FieldType} {stk : List AV} {o2 : Option (Unit × Mem)} {g : Unit → Mem → Option (α × Mem)} (as : List AV) (n : Nat) (hO : OA q c) (hC : Cls c M2.1.cls Tb ty) (hM : MkV M2 as.length) (hw : Cond.methodLink M.1.cls i M2.1 ∈ gtb) (hd : decode M.2.1 pc = .ok (.invokevirtual i, 3)) (hn : pc + 3 = n) (hst : stk = as.reverse ++ vR q :: st) (hct : Cs Θ l M2 h2 (gC z) (vR q :: as) s o2) (hh : h2 + 1 ≤ h) (hL9 : M2.2.2.1 ≤ 60) (hcat : catS st ≤ 8) (k : ∀ (r : Unit) (s1 : Mem), Js Θ l M h G n ls (vR z :: st) s1 (g r s1)) : Js Θ l M h G pc ls stk s (bnd o2 g) := j_callV as n hC hM hw hd hn hst hO.1 hO.2.1 nn9 hO.2.2 hct hh hL9 hcat (Nat.le_refl _) (Nat.le_refl _) k
end JS
theorem cc0 : Cls 0 RX0 TX0 tyX0 := ⟨by decide, rfl, by decide +kernel, tyX0_ok, nmX0⟩
theorem df0 : Dfl 0 tyX0 := by
  intro k hk
  have hk : k < 13 := hk
  rcases (show k = 0 ∨ k = 1 ∨ k = 2 ∨ k = 3 ∨ k = 4 ∨ k = 5 ∨ k = 6 ∨ k = 7 ∨ k = 8 ∨ k = 9 ∨ k = 10 ∨ k = 11 ∨ k = 12 by omega) with rfl | rfl | rfl | rfl | rfl | rfl | rfl | rfl | rfl | rfl | rfl | rfl | rfl <;> rfl
theorem cc1 : Cls 1 RX1 TX1 tyX1 := ⟨by decide, rfl, by decide +kernel, tyX1_ok, nmX1⟩
theorem df1 : Dfl 1 tyX1 := by
  intro k hk
  have hk : k < 4 := hk
  rcases (show k = 0 ∨ k = 1 ∨ k = 2 ∨ k = 3 by omega) with rfl | rfl | rfl | rfl <;> rfl
theorem cc2 : Cls 2 RX2 TX2 tyX2 := ⟨by decide, rfl, by decide +kernel, tyX2_ok, nmX2⟩
theorem df2 : Dfl 2 tyX2 := by
  intro k hk
  have hk : k < 8 := hk
  rcases (show k = 0 ∨ k = 1 ∨ k = 2 ∨ k = 3 ∨ k = 4 ∨ k = 5 ∨ k = 6 ∨ k = 7 by omega) with rfl | rfl | rfl | rfl | rfl | rfl | rfl | rfl <;> rfl
theorem cc3 : Cls 3 RX3 TX3 tyX3 := ⟨by decide, rfl, by decide +kernel, tyX3_ok, nmX3⟩
theorem df3 : Dfl 3 tyX3 := by
  intro k hk
  have hk : k < 2 := hk
  rcases (show k = 0 ∨ k = 1 by omega) with rfl | rfl <;> rfl
theorem cc4 : Cls 4 RX4 TX4 tyX4 := ⟨by decide, rfl, by decide +kernel, tyX4_ok, nmX4⟩
theorem df4 : Dfl 4 tyX4 := by
  intro k hk
  have hk : k < 6 := hk
  rcases (show k = 0 ∨ k = 1 ∨ k = 2 ∨ k = 3 ∨ k = 4 ∨ k = 5 by omega) with rfl | rfl | rfl | rfl | rfl | rfl <;> rfl
theorem cc5 : Cls 5 RX5 TX5 tyX5 := ⟨by decide, rfl, by decide +kernel, tyX5_ok, nmX5⟩
theorem df5 : Dfl 5 tyX5 := by
  intro k hk
  have hk : k < 4 := hk
  rcases (show k = 0 ∨ k = 1 ∨ k = 2 ∨ k = 3 by omega) with rfl | rfl | rfl | rfl <;> rfl
theorem cc6 : Cls 6 RX6 TX6 tyX6 := ⟨by decide, rfl, by decide +kernel, tyX6_ok, nmX6⟩
theorem df6 : Dfl 6 tyX6 := by
  intro k hk
  have hk : k < 3 := hk
  rcases (show k = 0 ∨ k = 1 ∨ k = 2 by omega) with rfl | rfl | rfl <;> rfl
theorem cc7 : Cls 7 RX7 TX7 tyX7 := ⟨by decide, rfl, by decide +kernel, tyX7_ok, nmX7⟩
theorem df7 : Dfl 7 tyX7 := by
  intro k hk
  have hk : k < 2 := hk
  rcases (show k = 0 ∨ k = 1 by omega) with rfl | rfl <;> rfl
theorem cc8 : Cls 8 RX8 TX8 tyX8 := ⟨by decide, rfl, by decide +kernel, tyX8_ok, nmX8⟩
theorem df8 : Dfl 8 tyX8 := by
  intro k hk
  have hk : k < 15 := hk
  rcases (show k = 0 ∨ k = 1 ∨ k = 2 ∨ k = 3 ∨ k = 4 ∨ k = 5 ∨ k = 6 ∨ k = 7 ∨ k = 8 ∨ k = 9 ∨ k = 10 ∨ k = 11 ∨ k = 12 ∨ k = 13 ∨ k = 14 by omega) with rfl | rfl | rfl | rfl | rfl | rfl | rfl | rfl | rfl | rfl | rfl | rfl | rfl | rfl | rfl <;> rfl
theorem cc9 : Cls 9 RX9 TX9 tyX9 := ⟨by decide, rfl, by decide +kernel, tyX9_ok, nmX9⟩
theorem df9 : Dfl 9 tyX9 := by
  intro k hk
  have hk : k < 2 := hk
  rcases (show k = 0 ∨ k = 1 by omega) with rfl | rfl <;> rfl
theorem cc10 : Cls 10 RX10 TX10 tyX10 := ⟨by decide, rfl, by decide +kernel, tyX10_ok, nmX10⟩
theorem df10 : Dfl 10 tyX10 := by
  intro k hk
  have hk : k < 5 := hk
  rcases (show k = 0 ∨ k = 1 ∨ k = 2 ∨ k = 3 ∨ k = 4 by omega) with rfl | rfl | rfl | rfl | rfl <;> rfl
theorem cc11 : Cls 11 RX11 TX11 tyX11 := ⟨by decide, rfl, by decide +kernel, tyX11_ok, nmX11⟩
theorem df11 : Dfl 11 tyX11 := by
  intro k hk
  have hk : k < 11 := hk
  rcases (show k = 0 ∨ k = 1 ∨ k = 2 ∨ k = 3 ∨ k = 4 ∨ k = 5 ∨ k = 6 ∨ k = 7 ∨ k = 8 ∨ k = 9 ∨ k = 10 by omega) with rfl | rfl | rfl | rfl | rfl | rfl | rfl | rfl | rfl | rfl | rfl <;> rfl
theorem cc12 : Cls 12 RX12 TX12 tyX12 := ⟨by decide, rfl, by decide +kernel, tyX12_ok, nmX12⟩
theorem df12 : Dfl 12 tyX12 := by
  intro k hk
  have hk : k < 55 := hk
  rcases (show k = 0 ∨ k = 1 ∨ k = 2 ∨ k = 3 ∨ k = 4 ∨ k = 5 ∨ k = 6 ∨ k = 7 ∨ k = 8 ∨ k = 9 ∨ k = 10 ∨ k = 11 ∨ k = 12 ∨ k = 13 ∨ k = 14 ∨ k = 15 ∨ k = 16 ∨ k = 17 ∨ k = 18 ∨ k = 19 ∨ k = 20 ∨ k = 21 ∨ k = 22 ∨ k = 23 ∨ k = 24 ∨ k = 25 ∨ k = 26 ∨ k = 27 ∨ k = 28 ∨ k = 29 ∨ k = 30 ∨ k = 31 ∨ k = 32 ∨ k = 33 ∨ k = 34 ∨ k = 35 ∨ k = 36 ∨ k = 37 ∨ k = 38 ∨ k = 39 ∨ k = 40 ∨ k = 41 ∨ k = 42 ∨ k = 43 ∨ k = 44 ∨ k = 45 ∨ k = 46 ∨ k = 47 ∨ k = 48 ∨ k = 49 ∨ k = 50 ∨ k = 51 ∨ k = 52 ∨ k = 53 ∨ k = 54 by omega) with rfl | rfl | rfl | rfl | rfl | rfl | rfl | rfl | rfl | rfl | rfl | rfl | rfl | rfl | rfl | rfl | rfl | rfl | rfl | rfl | rfl | rfl | rfl | rfl | rfl | rfl | rfl | rfl | rfl | rfl | rfl | rfl | rfl | rfl | rfl | rfl | rfl | rfl | rfl | rfl | rfl | rfl | rfl | rfl | rfl | rfl | rfl | rfl | rfl | rfl | rfl | rfl | rfl | rfl | rfl <;> rfl
theorem oa1 : OA 1 11 := ⟨by decide, by decide, by decide +kernel⟩
theorem fa1_0 : FA 1 0 RX11 "told" "LHeavierSide$Told;" true 2 := ⟨11, TX11, tyX11, cc11, by decide, by decide, by decide +kernel, by decide +kernel, rfl, by decide +kernel⟩
theorem fa1_1 : FA 1 1 RX11 "rows" "[LHeavierSide$Row;" true 2 := ⟨11, TX11, tyX11, cc11, by decide, by decide, by decide +kernel, by decide +kernel, rfl, by decide +kernel⟩
theorem fa1_2 : FA 1 2 RX11 "texts" "[LHeavierSide$Text;" true 2 := ⟨11, TX11, tyX11, cc11, by decide, by decide, by decide +kernel, by decide +kernel, rfl, by decide +kernel⟩
theorem fa1_3 : FA 1 3 RX11 "barge" "LHeavierSide$Barge;" true 2 := ⟨11, TX11, tyX11, cc11, by decide, by decide, by decide +kernel, by decide +kernel, rfl, by decide +kernel⟩
theorem fa1_4 : FA 1 4 RX11 "quarrels" "LHeavierSide$Quarrels;" true 2 := ⟨11, TX11, tyX11, cc11, by decide, by decide, by decide +kernel, by decide +kernel, rfl, by decide +kernel⟩
theorem fa1_5 : FA 1 5 RX11 "rite" "LHeavierSide$Rite;" true 2 := ⟨11, TX11, tyX11, cc11, by decide, by decide, by decide +kernel, by decide +kernel, rfl, by decide +kernel⟩
theorem fa1_6 : FA 1 6 RX11 "deeds" "LHeavierSide$Deeds;" true 2 := ⟨11, TX11, tyX11, cc11, by decide, by decide, by decide +kernel, by decide +kernel, rfl, by decide +kernel⟩
theorem fa1_7 : FA 1 7 RX11 "kept" "LHeavierSide$Kept;" true 2 := ⟨11, TX11, tyX11, cc11, by decide, by decide, by decide +kernel, by decide +kernel, rfl, by decide +kernel⟩
theorem fa1_8 : FA 1 8 RX11 "seatings" "LHeavierSide$Seatings;" true 2 := ⟨11, TX11, tyX11, cc11, by decide, by decide, by decide +kernel, by decide +kernel, rfl, by decide +kernel⟩
theorem fa1_9 : FA 1 9 RX11 "leaving" "LHeavierSide$Leaving;" true 2 := ⟨11, TX11, tyX11, cc11, by decide, by decide, by decide +kernel, by decide +kernel, rfl, by decide +kernel⟩
theorem fa1_10 : FA 1 10 RX11 "invitation" "LHeavierSide$Invitation;" true 2 := ⟨11, TX11, tyX11, cc11, by decide, by decide, by decide +kernel, by decide +kernel, rfl, by decide +kernel⟩
theorem oa2 : OA 2 10 := ⟨by decide, by decide, by decide +kernel⟩
theorem fa2_0 : FA 2 0 RX10 "asked" "I" false 0 := ⟨10, TX10, tyX10, cc10, by decide, by decide, by decide +kernel, by decide +kernel, rfl, by decide +kernel⟩
theorem fa2_1 : FA 2 1 RX10 "upper" "J" false 1 := ⟨10, TX10, tyX10, cc10, by decide, by decide, by decide +kernel, by decide +kernel, rfl, by decide +kernel⟩
theorem fa2_2 : FA 2 2 RX10 "lower" "J" false 1 := ⟨10, TX10, tyX10, cc10, by decide, by decide, by decide +kernel, by decide +kernel, rfl, by decide +kernel⟩
theorem fa2_3 : FA 2 3 RX10 "finding" "I" false 0 := ⟨10, TX10, tyX10, cc10, by decide, by decide, by decide +kernel, by decide +kernel, rfl, by decide +kernel⟩
theorem fa2_4 : FA 2 4 RX10 "times" "[I" true 2 := ⟨10, TX10, tyX10, cc10, by decide, by decide, by decide +kernel, by decide +kernel, rfl, by decide +kernel⟩
theorem aa3 : AA 3 20 6 := ⟨by decide, by decide, by decide +kernel, by decide +kernel⟩
theorem aa4 : AA 4 23 6 := ⟨by decide, by decide, by decide +kernel, by decide +kernel⟩
theorem aa5 : AA 5 24 4 := ⟨by decide, by decide, by decide +kernel, by decide +kernel⟩
theorem oa6 : OA 6 0 := ⟨by decide, by decide, by decide +kernel⟩
theorem fa6_0 : FA 6 0 RX0 "benches" "I" false 0 := ⟨0, TX0, tyX0, cc0, by decide, by decide, by decide +kernel, by decide +kernel, rfl, by decide +kernel⟩
theorem fa6_1 : FA 6 1 RX0 "guests" "I" false 0 := ⟨0, TX0, tyX0, cc0, by decide, by decide, by decide +kernel, by decide +kernel, rfl, by decide +kernel⟩
theorem fa6_2 : FA 6 2 RX0 "limit" "I" false 0 := ⟨0, TX0, tyX0, cc0, by decide, by decide, by decide +kernel, by decide +kernel, rfl, by decide +kernel⟩
theorem fa6_3 : FA 6 3 RX0 "rain" "I" false 0 := ⟨0, TX0, tyX0, cc0, by decide, by decide, by decide +kernel, by decide +kernel, rfl, by decide +kernel⟩
theorem fa6_4 : FA 6 4 RX0 "quarrels" "LHeavierSide$Quarrels;" true 2 := ⟨0, TX0, tyX0, cc0, by decide, by decide, by decide +kernel, by decide +kernel, rfl, by decide +kernel⟩
theorem fa6_5 : FA 6 5 RX0 "xs" "[I" true 2 := ⟨0, TX0, tyX0, cc0, by decide, by decide, by decide +kernel, by decide +kernel, rfl, by decide +kernel⟩
theorem fa6_6 : FA 6 6 RX0 "whoSits" "[I" true 2 := ⟨0, TX0, tyX0, cc0, by decide, by decide, by decide +kernel, by decide +kernel, rfl, by decide +kernel⟩
theorem fa6_7 : FA 6 7 RX0 "kinds" "[I" true 2 := ⟨0, TX0, tyX0, cc0, by decide, by decide, by decide +kernel, by decide +kernel, rfl, by decide +kernel⟩
theorem fa6_8 : FA 6 8 RX0 "weights" "[I" true 2 := ⟨0, TX0, tyX0, cc0, by decide, by decide, by decide +kernel, by decide +kernel, rfl, by decide +kernel⟩
theorem fa6_9 : FA 6 9 RX0 "kins" "[I" true 2 := ⟨0, TX0, tyX0, cc0, by decide, by decide, by decide +kernel, by decide +kernel, rfl, by decide +kernel⟩
theorem fa6_10 : FA 6 10 RX0 "sitsOn" "[I" true 2 := ⟨0, TX0, tyX0, cc0, by decide, by decide, by decide +kernel, by decide +kernel, rfl, by decide +kernel⟩
theorem fa6_11 : FA 6 11 RX0 "moments" "[I" true 2 := ⟨0, TX0, tyX0, cc0, by decide, by decide, by decide +kernel, by decide +kernel, rfl, by decide +kernel⟩
theorem fa6_12 : FA 6 12 RX0 "seatTakers" "I" false 0 := ⟨0, TX0, tyX0, cc0, by decide, by decide, by decide +kernel, by decide +kernel, rfl, by decide +kernel⟩
theorem oa7 : OA 7 5 := ⟨by decide, by decide, by decide +kernel⟩
theorem fa7_0 : FA 7 0 RX5 "size" "I" false 0 := ⟨5, TX5, tyX5, cc5, by decide, by decide, by decide +kernel, by decide +kernel, rfl, by decide +kernel⟩
theorem fa7_1 : FA 7 1 RX5 "ones" "[I" true 2 := ⟨5, TX5, tyX5, cc5, by decide, by decide, by decide +kernel, by decide +kernel, rfl, by decide +kernel⟩
theorem fa7_2 : FA 7 2 RX5 "others" "[I" true 2 := ⟨5, TX5, tyX5, cc5, by decide, by decide, by decide +kernel, by decide +kernel, rfl, by decide +kernel⟩
theorem fa7_3 : FA 7 3 RX5 "foes" "[I" true 2 := ⟨5, TX5, tyX5, cc5, by decide, by decide, by decide +kernel, by decide +kernel, rfl, by decide +kernel⟩
theorem aa8 : AA 8 20 8 := ⟨by decide, by decide, by decide +kernel, by decide +kernel⟩
theorem aa9 : AA 9 20 8 := ⟨by decide, by decide, by decide +kernel, by decide +kernel⟩
theorem aa10 : AA 10 20 7 := ⟨by decide, by decide, by decide +kernel, by decide +kernel⟩
theorem aa11 : AA 11 20 8 := ⟨by decide, by decide, by decide +kernel, by decide +kernel⟩
theorem aa12 : AA 12 20 8 := ⟨by decide, by decide, by decide +kernel, by decide +kernel⟩
theorem aa13 : AA 13 20 7 := ⟨by decide, by decide, by decide +kernel, by decide +kernel⟩
theorem aa14 : AA 14 20 7 := ⟨by decide, by decide, by decide +kernel, by decide +kernel⟩
theorem aa15 : AA 15 20 7 := ⟨by decide, by decide, by decide +kernel, by decide +kernel⟩
theorem aa16 : AA 16 20 7 := ⟨by decide, by decide, by decide +kernel, by decide +kernel⟩
theorem aa17 : AA 17 20 168 := ⟨by decide, by decide, by decide +kernel, by decide +kernel⟩
theorem oa18 : OA 18 6 := ⟨by decide, by decide, by decide +kernel⟩
theorem fa18_0 : FA 18 0 RX6 "minutes" "I" false 0 := ⟨6, TX6, tyX6, cc6, by decide, by decide, by decide +kernel, by decide +kernel, rfl, by decide +kernel⟩
theorem fa18_1 : FA 18 1 RX6 "postures" "[I" true 2 := ⟨6, TX6, tyX6, cc6, by decide, by decide, by decide +kernel, by decide +kernel, rfl, by decide +kernel⟩
theorem fa18_2 : FA 18 2 RX6 "postureSet" "I" false 0 := ⟨6, TX6, tyX6, cc6, by decide, by decide, by decide +kernel, by decide +kernel, rfl, by decide +kernel⟩
theorem aa19 : AA 19 20 40 := ⟨by decide, by decide, by decide +kernel, by decide +kernel⟩
theorem oa20 : OA 20 1 := ⟨by decide, by decide, by decide +kernel⟩
theorem fa20_0 : FA 20 0 RX1 "size" "I" false 0 := ⟨1, TX1, tyX1, cc1, by decide, by decide, by decide +kernel, by decide +kernel, rfl, by decide +kernel⟩
theorem fa20_1 : FA 20 1 RX1 "sorts" "[I" true 2 := ⟨1, TX1, tyX1, cc1, by decide, by decide, by decide +kernel, by decide +kernel, rfl, by decide +kernel⟩
theorem fa20_2 : FA 20 2 RX1 "guests" "[I" true 2 := ⟨1, TX1, tyX1, cc1, by decide, by decide, by decide +kernel, by decide +kernel, rfl, by decide +kernel⟩
theorem fa20_3 : FA 20 3 RX1 "others" "[I" true 2 := ⟨1, TX1, tyX1, cc1, by decide, by decide, by decide +kernel, by decide +kernel, rfl, by decide +kernel⟩
theorem aa21 : AA 21 20 60 := ⟨by decide, by decide, by decide +kernel, by decide +kernel⟩
theorem aa22 : AA 22 20 60 := ⟨by decide, by decide, by decide +kernel, by decide +kernel⟩
theorem aa23 : AA 23 20 60 := ⟨by decide, by decide, by decide +kernel, by decide +kernel⟩
theorem oa24 : OA 24 3 := ⟨by decide, by decide, by decide +kernel⟩
theorem fa24_0 : FA 24 0 RX3 "there" "[Z" true 2 := ⟨3, TX3, tyX3, cc3, by decide, by decide, by decide +kernel, by decide +kernel, rfl, by decide +kernel⟩
theorem fa24_1 : FA 24 1 RX3 "sitsOn" "[I" true 2 := ⟨3, TX3, tyX3, cc3, by decide, by decide, by decide +kernel, by decide +kernel, rfl, by decide +kernel⟩
theorem aa25 : AA 25 22 3 := ⟨by decide, by decide, by decide +kernel, by decide +kernel⟩
theorem aa26 : AA 26 20 21 := ⟨by decide, by decide, by decide +kernel, by decide +kernel⟩
theorem oa27 : OA 27 8 := ⟨by decide, by decide, by decide +kernel⟩
theorem fa27_0 : FA 27 0 RX8 "leastWorst" "I" false 0 := ⟨8, TX8, tyX8, cc8, by decide, by decide, by decide +kernel, by decide +kernel, rfl, by decide +kernel⟩
theorem fa27_1 : FA 27 1 RX8 "leastSits" "[I" true 2 := ⟨8, TX8, tyX8, cc8, by decide, by decide, by decide +kernel, by decide +kernel, rfl, by decide +kernel⟩
theorem fa27_2 : FA 27 2 RX8 "all" "I" false 0 := ⟨8, TX8, tyX8, cc8, by decide, by decide, by decide +kernel, by decide +kernel, rfl, by decide +kernel⟩
theorem fa27_3 : FA 27 3 RX8 "level" "I" false 0 := ⟨8, TX8, tyX8, cc8, by decide, by decide, by decide +kernel, by decide +kernel, rfl, by decide +kernel⟩
theorem fa27_4 : FA 27 4 RX8 "barge" "LHeavierSide$Barge;" true 2 := ⟨8, TX8, tyX8, cc8, by decide, by decide, by decide +kernel, by decide +kernel, rfl, by decide +kernel⟩
theorem fa27_5 : FA 27 5 RX8 "rite" "LHeavierSide$Rite;" true 2 := ⟨8, TX8, tyX8, cc8, by decide, by decide, by decide +kernel, by decide +kernel, rfl, by decide +kernel⟩
theorem fa27_6 : FA 27 6 RX8 "coming" "[I" true 2 := ⟨8, TX8, tyX8, cc8, by decide, by decide, by decide +kernel, by decide +kernel, rfl, by decide +kernel⟩
theorem fa27_7 : FA 27 7 RX8 "comers" "I" false 0 := ⟨8, TX8, tyX8, cc8, by decide, by decide, by decide +kernel, by decide +kernel, rfl, by decide +kernel⟩
theorem fa27_8 : FA 27 8 RX8 "sitsOn" "[I" true 2 := ⟨8, TX8, tyX8, cc8, by decide, by decide, by decide +kernel, by decide +kernel, rfl, by decide +kernel⟩
theorem fa27_9 : FA 27 9 RX8 "levelOn" "[I" true 2 := ⟨8, TX8, tyX8, cc8, by decide, by decide, by decide +kernel, by decide +kernel, rfl, by decide +kernel⟩
theorem fa27_10 : FA 27 10 RX8 "freeSeats" "[I" true 2 := ⟨8, TX8, tyX8, cc8, by decide, by decide, by decide +kernel, by decide +kernel, rfl, by decide +kernel⟩
theorem fa27_11 : FA 27 11 RX8 "whoSits" "[I" true 2 := ⟨8, TX8, tyX8, cc8, by decide, by decide, by decide +kernel, by decide +kernel, rfl, by decide +kernel⟩
theorem fa27_12 : FA 27 12 RX8 "sittingMoments" "[I" true 2 := ⟨8, TX8, tyX8, cc8, by decide, by decide, by decide +kernel, by decide +kernel, rfl, by decide +kernel⟩
theorem fa27_13 : FA 27 13 RX8 "standingMoments" "[I" true 2 := ⟨8, TX8, tyX8, cc8, by decide, by decide, by decide +kernel, by decide +kernel, rfl, by decide +kernel⟩
theorem fa27_14 : FA 27 14 RX8 "kneelingMoments" "[I" true 2 := ⟨8, TX8, tyX8, cc8, by decide, by decide, by decide +kernel, by decide +kernel, rfl, by decide +kernel⟩
theorem aa28 : AA 28 20 7 := ⟨by decide, by decide, by decide +kernel, by decide +kernel⟩
theorem aa29 : AA 29 20 7 := ⟨by decide, by decide, by decide +kernel, by decide +kernel⟩
theorem aa30 : AA 30 20 7 := ⟨by decide, by decide, by decide +kernel, by decide +kernel⟩
theorem aa31 : AA 31 20 7 := ⟨by decide, by decide, by decide +kernel, by decide +kernel⟩
theorem aa32 : AA 32 20 8 := ⟨by decide, by decide, by decide +kernel, by decide +kernel⟩
theorem aa33 : AA 33 20 10 := ⟨by decide, by decide, by decide +kernel, by decide +kernel⟩
theorem aa34 : AA 34 20 56 := ⟨by decide, by decide, by decide +kernel, by decide +kernel⟩
theorem aa35 : AA 35 20 56 := ⟨by decide, by decide, by decide +kernel, by decide +kernel⟩
theorem aa36 : AA 36 20 56 := ⟨by decide, by decide, by decide +kernel, by decide +kernel⟩
theorem oa37 : OA 37 4 := ⟨by decide, by decide, by decide +kernel⟩
theorem fa37_0 : FA 37 0 RX4 "barge" "LHeavierSide$Barge;" true 2 := ⟨4, TX4, tyX4, cc4, by decide, by decide, by decide +kernel, by decide +kernel, rfl, by decide +kernel⟩
theorem fa37_1 : FA 37 1 RX4 "isLevelSet" "[Z" true 2 := ⟨4, TX4, tyX4, cc4, by decide, by decide, by decide +kernel, by decide +kernel, rfl, by decide +kernel⟩
theorem fa37_2 : FA 37 2 RX4 "canEmpty" "[Z" true 2 := ⟨4, TX4, tyX4, cc4, by decide, by decide, by decide +kernel, by decide +kernel, rfl, by decide +kernel⟩
theorem fa37_3 : FA 37 3 RX4 "reached" "[Z" true 2 := ⟨4, TX4, tyX4, cc4, by decide, by decide, by decide +kernel, by decide +kernel, rfl, by decide +kernel⟩
theorem fa37_4 : FA 37 4 RX4 "order" "[I" true 2 := ⟨4, TX4, tyX4, cc4, by decide, by decide, by decide +kernel, by decide +kernel, rfl, by decide +kernel⟩
theorem fa37_5 : FA 37 5 RX4 "crew" "I" false 0 := ⟨4, TX4, tyX4, cc4, by decide, by decide, by decide +kernel, by decide +kernel, rfl, by decide +kernel⟩
theorem aa38 : AA 38 22 128 := ⟨by decide, by decide, by decide +kernel, by decide +kernel⟩
theorem aa39 : AA 39 22 128 := ⟨by decide, by decide, by decide +kernel, by decide +kernel⟩
theorem aa40 : AA 40 22 128 := ⟨by decide, by decide, by decide +kernel, by decide +kernel⟩
theorem aa41 : AA 41 20 7 := ⟨by decide, by decide, by decide +kernel, by decide +kernel⟩
theorem oa42 : OA 42 2 := ⟨by decide, by decide, by decide +kernel⟩
theorem fa42_0 : FA 42 0 RX2 "invited" "I" false 0 := ⟨2, TX2, tyX2, cc2, by decide, by decide, by decide +kernel, by decide +kernel, rfl, by decide +kernel⟩
theorem fa42_1 : FA 42 1 RX2 "least" "I" false 0 := ⟨2, TX2, tyX2, cc2, by decide, by decide, by decide +kernel, by decide +kernel, rfl, by decide +kernel⟩
theorem fa42_2 : FA 42 2 RX2 "cheapest" "[I" true 2 := ⟨2, TX2, tyX2, cc2, by decide, by decide, by decide +kernel, by decide +kernel, rfl, by decide +kernel⟩
theorem fa42_3 : FA 42 3 RX2 "barge" "LHeavierSide$Barge;" true 2 := ⟨2, TX2, tyX2, cc2, by decide, by decide, by decide +kernel, by decide +kernel, rfl, by decide +kernel⟩
theorem fa42_4 : FA 42 4 RX2 "tried" "[I" true 2 := ⟨2, TX2, tyX2, cc2, by decide, by decide, by decide +kernel, by decide +kernel, rfl, by decide +kernel⟩
theorem fa42_5 : FA 42 5 RX2 "newcomers" "[I" true 2 := ⟨2, TX2, tyX2, cc2, by decide, by decide, by decide +kernel, by decide +kernel, rfl, by decide +kernel⟩
theorem fa42_6 : FA 42 6 RX2 "weights" "[I" true 2 := ⟨2, TX2, tyX2, cc2, by decide, by decide, by decide +kernel, by decide +kernel, rfl, by decide +kernel⟩
theorem fa42_7 : FA 42 7 RX2 "costs" "[I" true 2 := ⟨2, TX2, tyX2, cc2, by decide, by decide, by decide +kernel, by decide +kernel, rfl, by decide +kernel⟩
theorem aa43 : AA 43 20 4 := ⟨by decide, by decide, by decide +kernel, by decide +kernel⟩
theorem aa44 : AA 44 20 4 := ⟨by decide, by decide, by decide +kernel, by decide +kernel⟩
theorem aa45 : AA 45 20 8 := ⟨by decide, by decide, by decide +kernel, by decide +kernel⟩
theorem aa46 : AA 46 20 4 := ⟨by decide, by decide, by decide +kernel, by decide +kernel⟩
theorem aa47 : AA 47 20 4 := ⟨by decide, by decide, by decide +kernel, by decide +kernel⟩
theorem oa48 : OA 48 7 := ⟨by decide, by decide, by decide +kernel⟩
theorem aa49 : AA 49 20 60 := ⟨by decide, by decide, by decide +kernel, by decide +kernel⟩
theorem oa50 : OA 50 7 := ⟨by decide, by decide, by decide +kernel⟩
theorem aa51 : AA 51 20 60 := ⟨by decide, by decide, by decide +kernel, by decide +kernel⟩
theorem oa52 : OA 52 7 := ⟨by decide, by decide, by decide +kernel⟩
theorem aa53 : AA 53 20 60 := ⟨by decide, by decide, by decide +kernel, by decide +kernel⟩
theorem oa54 : OA 54 7 := ⟨by decide, by decide, by decide +kernel⟩
theorem aa55 : AA 55 20 60 := ⟨by decide, by decide, by decide +kernel, by decide +kernel⟩
theorem oa56 : OA 56 7 := ⟨by decide, by decide, by decide +kernel⟩
theorem aa57 : AA 57 20 60 := ⟨by decide, by decide, by decide +kernel, by decide +kernel⟩
theorem oa58 : OA 58 7 := ⟨by decide, by decide, by decide +kernel⟩
theorem aa59 : AA 59 20 60 := ⟨by decide, by decide, by decide +kernel, by decide +kernel⟩
theorem oa60 : OA 60 9 := ⟨by decide, by decide, by decide +kernel⟩
theorem aa61 : AA 61 21 60 := ⟨by decide, by decide, by decide +kernel, by decide +kernel⟩
theorem oa62 : OA 62 9 := ⟨by decide, by decide, by decide +kernel⟩
theorem aa63 : AA 63 21 60 := ⟨by decide, by decide, by decide +kernel, by decide +kernel⟩
theorem oa64 : OA 64 9 := ⟨by decide, by decide, by decide +kernel⟩
theorem aa65 : AA 65 21 60 := ⟨by decide, by decide, by decide +kernel, by decide +kernel⟩
theorem oa66 : OA 66 9 := ⟨by decide, by decide, by decide +kernel⟩
theorem aa67 : AA 67 21 60 := ⟨by decide, by decide, by decide +kernel, by decide +kernel⟩
theorem oa68 : OA 68 12 := ⟨by decide, by decide, by decide +kernel⟩
theorem fa68_0 : FA 68 0 RX12 "latest" "I" false 0 := ⟨12, TX12, tyX12, cc12, by decide, by decide, by decide +kernel, by decide +kernel, rfl, by decide +kernel⟩
theorem fa68_1 : FA 68 1 RX12 "came" "[I" true 2 := ⟨12, TX12, tyX12, cc12, by decide, by decide, by decide +kernel, by decide +kernel, rfl, by decide +kernel⟩
theorem fa68_2 : FA 68 2 RX12 "asked" "I" false 0 := ⟨12, TX12, tyX12, cc12, by decide, by decide, by decide +kernel, by decide +kernel, rfl, by decide +kernel⟩
theorem fa68_3 : FA 68 3 RX12 "upper" "J" false 1 := ⟨12, TX12, tyX12, cc12, by decide, by decide, by decide +kernel, by decide +kernel, rfl, by decide +kernel⟩
theorem fa68_4 : FA 68 4 RX12 "lower" "J" false 1 := ⟨12, TX12, tyX12, cc12, by decide, by decide, by decide +kernel, by decide +kernel, rfl, by decide +kernel⟩
theorem fa68_5 : FA 68 5 RX12 "sizes" "[I" true 2 := ⟨12, TX12, tyX12, cc12, by decide, by decide, by decide +kernel, by decide +kernel, rfl, by decide +kernel⟩
theorem fa68_6 : FA 68 6 RX12 "rows" "[I" true 2 := ⟨12, TX12, tyX12, cc12, by decide, by decide, by decide +kernel, by decide +kernel, rfl, by decide +kernel⟩
theorem fa68_7 : FA 68 7 RX12 "copied" "[I" true 2 := ⟨12, TX12, tyX12, cc12, by decide, by decide, by decide +kernel, by decide +kernel, rfl, by decide +kernel⟩
theorem fa68_8 : FA 68 8 RX12 "textSizes" "[I" true 2 := ⟨12, TX12, tyX12, cc12, by decide, by decide, by decide +kernel, by decide +kernel, rfl, by decide +kernel⟩
theorem fa68_9 : FA 68 9 RX12 "bytes" "[B" true 2 := ⟨12, TX12, tyX12, cc12, by decide, by decide, by decide +kernel, by decide +kernel, rfl, by decide +kernel⟩
theorem fa68_10 : FA 68 10 RX12 "benchMany" "I" false 0 := ⟨12, TX12, tyX12, cc12, by decide, by decide, by decide +kernel, by decide +kernel, rfl, by decide +kernel⟩
theorem fa68_11 : FA 68 11 RX12 "xs" "[I" true 2 := ⟨12, TX12, tyX12, cc12, by decide, by decide, by decide +kernel, by decide +kernel, rfl, by decide +kernel⟩
theorem fa68_12 : FA 68 12 RX12 "n" "I" false 0 := ⟨12, TX12, tyX12, cc12, by decide, by decide, by decide +kernel, by decide +kernel, rfl, by decide +kernel⟩
theorem fa68_13 : FA 68 13 RX12 "kinds" "[I" true 2 := ⟨12, TX12, tyX12, cc12, by decide, by decide, by decide +kernel, by decide +kernel, rfl, by decide +kernel⟩
theorem fa68_14 : FA 68 14 RX12 "weights" "[I" true 2 := ⟨12, TX12, tyX12, cc12, by decide, by decide, by decide +kernel, by decide +kernel, rfl, by decide +kernel⟩
theorem fa68_15 : FA 68 15 RX12 "kins" "[I" true 2 := ⟨12, TX12, tyX12, cc12, by decide, by decide, by decide +kernel, by decide +kernel, rfl, by decide +kernel⟩
theorem fa68_16 : FA 68 16 RX12 "sits" "[I" true 2 := ⟨12, TX12, tyX12, cc12, by decide, by decide, by decide +kernel, by decide +kernel, rfl, by decide +kernel⟩
theorem fa68_17 : FA 68 17 RX12 "limitNow" "I" false 0 := ⟨12, TX12, tyX12, cc12, by decide, by decide, by decide +kernel, by decide +kernel, rfl, by decide +kernel⟩
theorem fa68_18 : FA 68 18 RX12 "rainNow" "I" false 0 := ⟨12, TX12, tyX12, cc12, by decide, by decide, by decide +kernel, by decide +kernel, rfl, by decide +kernel⟩
theorem fa68_19 : FA 68 19 RX12 "minuteMany" "I" false 0 := ⟨12, TX12, tyX12, cc12, by decide, by decide, by decide +kernel, by decide +kernel, rfl, by decide +kernel⟩
theorem fa68_20 : FA 68 20 RX12 "minutes" "[I" true 2 := ⟨12, TX12, tyX12, cc12, by decide, by decide, by decide +kernel, by decide +kernel, rfl, by decide +kernel⟩
theorem fa68_21 : FA 68 21 RX12 "readAt" "I" false 0 := ⟨12, TX12, tyX12, cc12, by decide, by decide, by decide +kernel, by decide +kernel, rfl, by decide +kernel⟩
theorem fa68_22 : FA 68 22 RX12 "readNumber" "I" false 0 := ⟨12, TX12, tyX12, cc12, by decide, by decide, by decide +kernel, by decide +kernel, rfl, by decide +kernel⟩
theorem fa68_23 : FA 68 23 RX12 "readBenches" "I" false 0 := ⟨12, TX12, tyX12, cc12, by decide, by decide, by decide +kernel, by decide +kernel, rfl, by decide +kernel⟩
theorem fa68_24 : FA 68 24 RX12 "readGuests" "I" false 0 := ⟨12, TX12, tyX12, cc12, by decide, by decide, by decide +kernel, by decide +kernel, rfl, by decide +kernel⟩
theorem fa68_25 : FA 68 25 RX12 "readXs" "[I" true 2 := ⟨12, TX12, tyX12, cc12, by decide, by decide, by decide +kernel, by decide +kernel, rfl, by decide +kernel⟩
theorem fa68_26 : FA 68 26 RX12 "readKinds" "[I" true 2 := ⟨12, TX12, tyX12, cc12, by decide, by decide, by decide +kernel, by decide +kernel, rfl, by decide +kernel⟩
theorem fa68_27 : FA 68 27 RX12 "readWeights" "[I" true 2 := ⟨12, TX12, tyX12, cc12, by decide, by decide, by decide +kernel, by decide +kernel, rfl, by decide +kernel⟩
theorem fa68_28 : FA 68 28 RX12 "readKins" "[I" true 2 := ⟨12, TX12, tyX12, cc12, by decide, by decide, by decide +kernel, by decide +kernel, rfl, by decide +kernel⟩
theorem fa68_29 : FA 68 29 RX12 "quarrelMany" "I" false 0 := ⟨12, TX12, tyX12, cc12, by decide, by decide, by decide +kernel, by decide +kernel, rfl, by decide +kernel⟩
theorem fa68_30 : FA 68 30 RX12 "quarrelOne" "[I" true 2 := ⟨12, TX12, tyX12, cc12, by decide, by decide, by decide +kernel, by decide +kernel, rfl, by decide +kernel⟩
theorem fa68_31 : FA 68 31 RX12 "quarrelOther" "[I" true 2 := ⟨12, TX12, tyX12, cc12, by decide, by decide, by decide +kernel, by decide +kernel, rfl, by decide +kernel⟩
theorem fa68_32 : FA 68 32 RX12 "deedMany" "I" false 0 := ⟨12, TX12, tyX12, cc12, by decide, by decide, by decide +kernel, by decide +kernel, rfl, by decide +kernel⟩
theorem fa68_33 : FA 68 33 RX12 "deeds" "[I" true 2 := ⟨12, TX12, tyX12, cc12, by decide, by decide, by decide +kernel, by decide +kernel, rfl, by decide +kernel⟩
theorem fa68_34 : FA 68 34 RX12 "isKept" "[Z" true 2 := ⟨12, TX12, tyX12, cc12, by decide, by decide, by decide +kernel, by decide +kernel, rfl, by decide +kernel⟩
theorem fa68_35 : FA 68 35 RX12 "kept" "[I" true 2 := ⟨12, TX12, tyX12, cc12, by decide, by decide, by decide +kernel, by decide +kernel, rfl, by decide +kernel⟩
theorem fa68_36 : FA 68 36 RX12 "worstMinute" "I" false 0 := ⟨12, TX12, tyX12, cc12, by decide, by decide, by decide +kernel, by decide +kernel, rfl, by decide +kernel⟩
theorem fa68_37 : FA 68 37 RX12 "seatings" "I" false 0 := ⟨12, TX12, tyX12, cc12, by decide, by decide, by decide +kernel, by decide +kernel, rfl, by decide +kernel⟩
theorem fa68_38 : FA 68 38 RX12 "through" "I" false 0 := ⟨12, TX12, tyX12, cc12, by decide, by decide, by decide +kernel, by decide +kernel, rfl, by decide +kernel⟩
theorem fa68_39 : FA 68 39 RX12 "bestWorst" "I" false 0 := ⟨12, TX12, tyX12, cc12, by decide, by decide, by decide +kernel, by decide +kernel, rfl, by decide +kernel⟩
theorem fa68_40 : FA 68 40 RX12 "bestSits" "[I" true 2 := ⟨12, TX12, tyX12, cc12, by decide, by decide, by decide +kernel, by decide +kernel, rfl, by decide +kernel⟩
theorem fa68_41 : FA 68 41 RX12 "benchesOf" "[I" true 2 := ⟨12, TX12, tyX12, cc12, by decide, by decide, by decide +kernel, by decide +kernel, rfl, by decide +kernel⟩
theorem fa68_42 : FA 68 42 RX12 "orders" "I" false 0 := ⟨12, TX12, tyX12, cc12, by decide, by decide, by decide +kernel, by decide +kernel, rfl, by decide +kernel⟩
theorem fa68_43 : FA 68 43 RX12 "firstSet" "I" false 0 := ⟨12, TX12, tyX12, cc12, by decide, by decide, by decide +kernel, by decide +kernel, rfl, by decide +kernel⟩
theorem fa68_44 : FA 68 44 RX12 "lastSet" "I" false 0 := ⟨12, TX12, tyX12, cc12, by decide, by decide, by decide +kernel, by decide +kernel, rfl, by decide +kernel⟩
theorem fa68_45 : FA 68 45 RX12 "leaving" "[I" true 2 := ⟨12, TX12, tyX12, cc12, by decide, by decide, by decide +kernel, by decide +kernel, rfl, by decide +kernel⟩
theorem fa68_46 : FA 68 46 RX12 "firstLeaving" "[I" true 2 := ⟨12, TX12, tyX12, cc12, by decide, by decide, by decide +kernel, by decide +kernel, rfl, by decide +kernel⟩
theorem fa68_47 : FA 68 47 RX12 "invitedMany" "I" false 0 := ⟨12, TX12, tyX12, cc12, by decide, by decide, by decide +kernel, by decide +kernel, rfl, by decide +kernel⟩
theorem fa68_48 : FA 68 48 RX12 "invitedWeight" "[I" true 2 := ⟨12, TX12, tyX12, cc12, by decide, by decide, by decide +kernel, by decide +kernel, rfl, by decide +kernel⟩
theorem fa68_49 : FA 68 49 RX12 "invitedCost" "[I" true 2 := ⟨12, TX12, tyX12, cc12, by decide, by decide, by decide +kernel, by decide +kernel, rfl, by decide +kernel⟩
theorem fa68_50 : FA 68 50 RX12 "invitedOn" "[I" true 2 := ⟨12, TX12, tyX12, cc12, by decide, by decide, by decide +kernel, by decide +kernel, rfl, by decide +kernel⟩
theorem fa68_51 : FA 68 51 RX12 "bestOn" "[I" true 2 := ⟨12, TX12, tyX12, cc12, by decide, by decide, by decide +kernel, by decide +kernel, rfl, by decide +kernel⟩
theorem fa68_52 : FA 68 52 RX12 "freeOn" "[I" true 2 := ⟨12, TX12, tyX12, cc12, by decide, by decide, by decide +kernel, by decide +kernel, rfl, by decide +kernel⟩
theorem fa68_53 : FA 68 53 RX12 "cheapest" "I" false 0 := ⟨12, TX12, tyX12, cc12, by decide, by decide, by decide +kernel, by decide +kernel, rfl, by decide +kernel⟩
theorem fa68_54 : FA 68 54 RX12 "hash" "J" false 1 := ⟨12, TX12, tyX12, cc12, by decide, by decide, by decide +kernel, by decide +kernel, rfl, by decide +kernel⟩
theorem aa69 : AA 69 20 6 := ⟨by decide, by decide, by decide +kernel, by decide +kernel⟩
theorem aa70 : AA 70 20 6 := ⟨by decide, by decide, by decide +kernel, by decide +kernel⟩
theorem aa71 : AA 71 20 360 := ⟨by decide, by decide, by decide +kernel, by decide +kernel⟩
theorem aa72 : AA 72 20 60 := ⟨by decide, by decide, by decide +kernel, by decide +kernel⟩
theorem aa73 : AA 73 20 4 := ⟨by decide, by decide, by decide +kernel, by decide +kernel⟩
theorem aa74 : AA 74 21 240 := ⟨by decide, by decide, by decide +kernel, by decide +kernel⟩
theorem aa75 : AA 75 20 8 := ⟨by decide, by decide, by decide +kernel, by decide +kernel⟩
theorem aa76 : AA 76 20 7 := ⟨by decide, by decide, by decide +kernel, by decide +kernel⟩
theorem aa77 : AA 77 20 7 := ⟨by decide, by decide, by decide +kernel, by decide +kernel⟩
theorem aa78 : AA 78 20 7 := ⟨by decide, by decide, by decide +kernel, by decide +kernel⟩
theorem aa79 : AA 79 20 8 := ⟨by decide, by decide, by decide +kernel, by decide +kernel⟩
theorem aa80 : AA 80 20 40 := ⟨by decide, by decide, by decide +kernel, by decide +kernel⟩
theorem aa81 : AA 81 20 8 := ⟨by decide, by decide, by decide +kernel, by decide +kernel⟩
theorem aa82 : AA 82 20 7 := ⟨by decide, by decide, by decide +kernel, by decide +kernel⟩
theorem aa83 : AA 83 20 7 := ⟨by decide, by decide, by decide +kernel, by decide +kernel⟩
theorem aa84 : AA 84 20 7 := ⟨by decide, by decide, by decide +kernel, by decide +kernel⟩
theorem aa85 : AA 85 20 8 := ⟨by decide, by decide, by decide +kernel, by decide +kernel⟩
theorem aa86 : AA 86 20 8 := ⟨by decide, by decide, by decide +kernel, by decide +kernel⟩
theorem aa87 : AA 87 20 480 := ⟨by decide, by decide, by decide +kernel, by decide +kernel⟩
theorem aa88 : AA 88 22 3 := ⟨by decide, by decide, by decide +kernel, by decide +kernel⟩
theorem aa89 : AA 89 20 21 := ⟨by decide, by decide, by decide +kernel, by decide +kernel⟩
theorem aa90 : AA 90 20 7 := ⟨by decide, by decide, by decide +kernel, by decide +kernel⟩
theorem aa91 : AA 91 20 7 := ⟨by decide, by decide, by decide +kernel, by decide +kernel⟩
theorem aa92 : AA 92 20 7 := ⟨by decide, by decide, by decide +kernel, by decide +kernel⟩
theorem aa93 : AA 93 20 7 := ⟨by decide, by decide, by decide +kernel, by decide +kernel⟩
theorem aa94 : AA 94 20 4 := ⟨by decide, by decide, by decide +kernel, by decide +kernel⟩
theorem aa95 : AA 95 20 4 := ⟨by decide, by decide, by decide +kernel, by decide +kernel⟩
theorem aa96 : AA 96 20 4 := ⟨by decide, by decide, by decide +kernel, by decide +kernel⟩
theorem aa97 : AA 97 20 4 := ⟨by decide, by decide, by decide +kernel, by decide +kernel⟩
theorem aa98 : AA 98 20 8 := ⟨by decide, by decide, by decide +kernel, by decide +kernel⟩
theorem row_all : ∀ q, q < 99 → kd q = 7 → 0 < q ∧ q + 1 ≤ NNc ∧ RT q 1 = q + 1 ∧ kd (q + 1) = 20 ∧ ln (q + 1) = 60 := by decide +kernel
theorem row_lt {q : Nat} (hq : kd q = 7) : q < 99 := by
  rcases Nat.lt_or_ge q 99 with h | h
  · exact h
  · exfalso
    have h1 : kd q = 99 := by unfold kd; rw [List.getD_eq_getElem?_getD, List.getElem?_eq_none (by exact h)]; rfl
    rw [h1] at hq
    exact absurd hq (by decide)
theorem row_pl {q : Nat} (hq : kd q = 7) : RT q 1 = q + 1 := (row_all q (row_lt hq) hq).2.2.1
theorem row_oa {q : Nat} (hq : kd q = 7) : OA q 7 := by
  have h := row_all q (row_lt hq) hq
  exact ⟨h.1, by omega, hq⟩
theorem row_aa {q : Nat} (hq : kd q = 7) : AA (q + 1) 20 60 := by
  have h := row_all q (row_lt hq) hq
  exact ⟨by omega, h.2.1, h.2.2.2.1, h.2.2.2.2⟩
theorem row_fa0 {q : Nat} (hq : kd q = 7) : FA q 0 RX7 "size" "I" false 0 := ⟨7, TX7, tyX7, cc7, (row_oa hq).1, (row_oa hq).2.1, hq, by decide +kernel, rfl, by decide +kernel⟩
theorem row_fa1 {q : Nat} (hq : kd q = 7) : FA q 1 RX7 "places" "[I" true 2 := ⟨7, TX7, tyX7, cc7, (row_oa hq).1, (row_oa hq).2.1, hq, by decide +kernel, rfl, by decide +kernel⟩
theorem txt_all : ∀ q, q < 99 → kd q = 9 → 0 < q ∧ q + 1 ≤ NNc ∧ RT q 1 = q + 1 ∧ kd (q + 1) = 21 ∧ ln (q + 1) = 60 := by decide +kernel
theorem txt_lt {q : Nat} (hq : kd q = 9) : q < 99 := by
  rcases Nat.lt_or_ge q 99 with h | h
  · exact h
  · exfalso
    have h1 : kd q = 99 := by unfold kd; rw [List.getD_eq_getElem?_getD, List.getElem?_eq_none (by exact h)]; rfl
    rw [h1] at hq
    exact absurd hq (by decide)
theorem txt_pl {q : Nat} (hq : kd q = 9) : RT q 1 = q + 1 := (txt_all q (txt_lt hq) hq).2.2.1
theorem txt_oa {q : Nat} (hq : kd q = 9) : OA q 9 := by
  have h := txt_all q (txt_lt hq) hq
  exact ⟨h.1, by omega, hq⟩
theorem txt_aa {q : Nat} (hq : kd q = 9) : AA (q + 1) 21 60 := by
  have h := txt_all q (txt_lt hq) hq
  exact ⟨by omega, h.2.1, h.2.2.2.1, h.2.2.2.2⟩
theorem txt_fa0 {q : Nat} (hq : kd q = 9) : FA q 0 RX9 "size" "I" false 0 := ⟨9, TX9, tyX9, cc9, (txt_oa hq).1, (txt_oa hq).2.1, hq, by decide +kernel, rfl, by decide +kernel⟩
theorem txt_fa1 {q : Nat} (hq : kd q = 9) : FA q 1 RX9 "bytes" "[B" true 2 := ⟨9, TX9, tyX9, cc9, (txt_oa hq).1, (txt_oa hq).2.1, hq, by decide +kernel, rfl, by decide +kernel⟩
