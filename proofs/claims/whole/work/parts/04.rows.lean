-- rows of the judgement: constants, locals, arithmetic, branches (by a program)
section JR
variable {α : Type} {Θ : Th} {l : Launch} {M : Mi} {h : Nat} {G : α → Option AV} {T : Tg} {N : Nat} {ρ : Rf} {ce sl pc : Nat} {ls : List (Option AV)} {st : List AV} {s : Mem} {o o1 o2 : Option (α × Mem)}
theorem j_iconst {z : Int} {v : Int32} (n : Nat) (hd : decode M.2.1 pc = .ok (.iconst z, 1)) (hn : pc + 1 = n) (hv : Int32.ofInt z = v) (k : Jg Θ l M h G T N ρ ce sl n ls (vI v :: st) s o) : Jg Θ l M h G T N ρ ce sl pc ls (st) s o := by
  subst hn
  intro r s' ho p e S m args below meth c H locs lr C hS hR hL
  exact lv_iconst C.1 C.2.1 hd hv (k r s' ho p e S m args below meth c H locs lr C hS hR hL)
theorem j_bipush {z : Int} {v : Int32} (n : Nat) (hd : decode M.2.1 pc = .ok (.bipush z, 2)) (hn : pc + 2 = n) (hv : (Int8.ofInt z).toInt32 = v) (k : Jg Θ l M h G T N ρ ce sl n ls (vI v :: st) s o) : Jg Θ l M h G T N ρ ce sl pc ls (st) s o := by
  subst hn
  intro r s' ho p e S m args below meth c H locs lr C hS hR hL
  exact lv_bipush C.1 C.2.1 hd hv (k r s' ho p e S m args below meth c H locs lr C hS hR hL)
theorem j_sipush {z : Int} {v : Int32} (n : Nat) (hd : decode M.2.1 pc = .ok (.sipush z, 3)) (hn : pc + 3 = n) (hv : (Int16.ofInt z).toInt32 = v) (k : Jg Θ l M h G T N ρ ce sl n ls (vI v :: st) s o) : Jg Θ l M h G T N ρ ce sl pc ls (st) s o := by
  subst hn
  intro r s' ho p e S m args below meth c H locs lr C hS hR hL
  exact lv_sipush C.1 C.2.1 hd hv (k r s' ho p e S m args below meth c H locs lr C hS hR hL)
theorem j_lconst {z : Fin 2} {v : Int64} (n : Nat) (hd : decode M.2.1 pc = .ok (.lconst z, 1)) (hn : pc + 1 = n) (hv : Int64.ofNat (z : Nat) = v) (k : Jg Θ l M h G T N ρ ce sl n ls (vL v :: st) s o) : Jg Θ l M h G T N ρ ce sl pc ls (st) s o := by
  subst hn
  intro r s' ho p e S m args below meth c H locs lr C hS hR hL
  exact lv_lconst C.1 C.2.1 hd hv (k r s' ho p e S m args below meth c H locs lr C hS hR hL)
theorem j_ldcw {i : Nat} {v : Int32} (n : Nat) (hd : decode M.2.1 pc = .ok (.ldc_w i, 3)) (hn : pc + 3 = n) (hw : Cond.constant M.1.cls i v ∈ gtb) (k : Jg Θ l M h G T N ρ ce sl n ls (vI v :: st) s o) : Jg Θ l M h G T N ρ ce sl pc ls (st) s o := by
  subst hn
  intro r s' ho p e S m args below meth c H locs lr C hS hR hL
  exact lv_ldcw C.1 C.2.1 C.2.2.2.2.1 (C.2.2.2.2.2.1 _ (List.mem_cons_of_mem _ hw)) hd (k r s' ho p e S m args below meth c H locs lr C hS hR hL)
theorem j_ldc2 {i : Nat} {v : Int64} (n : Nat) (hd : decode M.2.1 pc = .ok (.ldc2_w i, 3)) (hn : pc + 3 = n) (hw : Cond.constantLong M.1.cls i v ∈ gtb) (k : Jg Θ l M h G T N ρ ce sl n ls (vL v :: st) s o) : Jg Θ l M h G T N ρ ce sl pc ls (st) s o := by
  subst hn
  intro r s' ho p e S m args below meth c H locs lr C hS hR hL
  exact lv_ldc2 C.1 C.2.1 C.2.2.2.2.1 (C.2.2.2.2.2.1 _ (List.mem_cons_of_mem _ hw)) hd (k r s' ho p e S m args below meth c H locs lr C hS hR hL)
theorem j_null (n : Nat) (hd : decode M.2.1 pc = .ok (.aconst_null, 1)) (hn : pc + 1 = n) (k : Jg Θ l M h G T N ρ ce sl n ls (vR 0 :: st) s o) : Jg Θ l M h G T N ρ ce sl pc ls (st) s o := by
  subst hn
  intro r s' ho p e S m args below meth c H locs lr C hS hR hL
  exact lv_null C.1 C.2.1 hd (k r s' ho p e S m args below meth c H locs lr C hS hR hL)
theorem j_iload_n {z : Fin 4} {x : Int32} (n : Nat) (hd : decode M.2.1 pc = .ok (.iload_n z, 1)) (hn : pc + 1 = n) (hi : ls[(z : Nat)]? = some (some (vI x))) (k : Jg Θ l M h G T N ρ ce sl n ls (vI x :: st) s o) : Jg Θ l M h G T N ρ ce sl pc ls (st) s o := by
  subst hn
  intro r s' ho p e S m args below meth c H locs lr C hS hR hL
  exact lv_iload_n C.1 C.2.1 hd rfl (lr_at hL hi) (k r s' ho p e S m args below meth c H locs lr C hS hR hL)
theorem j_iload {i : Nat} {x : Int32} (n : Nat) (hd : decode M.2.1 pc = .ok (.iload i, 2)) (hn : pc + 2 = n) (hi : ls[i]? = some (some (vI x))) (k : Jg Θ l M h G T N ρ ce sl n ls (vI x :: st) s o) : Jg Θ l M h G T N ρ ce sl pc ls (st) s o := by
  subst hn
  intro r s' ho p e S m args below meth c H locs lr C hS hR hL
  exact lv_iload C.1 C.2.1 hd (lr_at hL hi) (k r s' ho p e S m args below meth c H locs lr C hS hR hL)
theorem j_lload_n {z : Fin 4} {x : Int64} (n : Nat) (hd : decode M.2.1 pc = .ok (.lload_n z, 1)) (hn : pc + 1 = n) (hi : ls[(z : Nat)]? = some (some (vL x))) (k : Jg Θ l M h G T N ρ ce sl n ls (vL x :: st) s o) : Jg Θ l M h G T N ρ ce sl pc ls (st) s o := by
  subst hn
  intro r s' ho p e S m args below meth c H locs lr C hS hR hL
  exact lv_lload_n C.1 C.2.1 hd rfl (lr_at hL hi) (k r s' ho p e S m args below meth c H locs lr C hS hR hL)
theorem j_lload {i : Nat} {x : Int64} (n : Nat) (hd : decode M.2.1 pc = .ok (.lload i, 2)) (hn : pc + 2 = n) (hi : ls[i]? = some (some (vL x))) (k : Jg Θ l M h G T N ρ ce sl n ls (vL x :: st) s o) : Jg Θ l M h G T N ρ ce sl pc ls (st) s o := by
  subst hn
  intro r s' ho p e S m args below meth c H locs lr C hS hR hL
  exact lv_lload C.1 C.2.1 hd (lr_at hL hi) (k r s' ho p e S m args below meth c H locs lr C hS hR hL)
theorem j_aload_n {z : Fin 4} {q : Nat} (n : Nat) (hd : decode M.2.1 pc = .ok (.aload_n z, 1)) (hn : pc + 1 = n) (hi : ls[(z : Nat)]? = some (some (vR q))) (k : Jg Θ l M h G T N ρ ce sl n ls (vR q :: st) s o) : Jg Θ l M h G T N ρ ce sl pc ls st s o := by
  subst hn
  intro r s' ho p e S m args below meth c H locs lr C hS hR hL
  have h1 := lr_at hL hi
  have h2 := (k r s' ho p e S m args below meth c H locs lr C hS hR hL)
  have e9 : cv Θ (vR q) = va_rf (adO Θ q) := rfl
  simp only [List.map_cons] at h2
  rw [e9] at h1 h2
  cases hq : adO Θ q with
  | none => rw [hq] at h1 h2; exact lv_aload_nN C.1 C.2.1 hd rfl h1 h2
  | some a => rw [hq] at h1 h2; exact lv_aload_n C.1 C.2.1 hd rfl h1 h2
theorem j_aload {i : Nat} {q : Nat} (n : Nat) (hd : decode M.2.1 pc = .ok (.aload i, 2)) (hn : pc + 2 = n) (hi : ls[i]? = some (some (vR q))) (k : Jg Θ l M h G T N ρ ce sl n ls (vR q :: st) s o) : Jg Θ l M h G T N ρ ce sl pc ls st s o := by
  subst hn
  intro r s' ho p e S m args below meth c H locs lr C hS hR hL
  have h1 := lr_at hL hi
  have h2 := (k r s' ho p e S m args below meth c H locs lr C hS hR hL)
  have e9 : cv Θ (vR q) = va_rf (adO Θ q) := rfl
  simp only [List.map_cons] at h2
  rw [e9] at h1 h2
  cases hq : adO Θ q with
  | none => rw [hq] at h1 h2; exact lv_aloadN C.1 C.2.1 hd h1 h2
  | some a => rw [hq] at h1 h2; exact lv_aload C.1 C.2.1 hd h1 h2
theorem j_istore_n {z : Fin 4} {i : Nat} {x : Int32} {ls' : List (Option AV)} (n : Nat) (hd : decode M.2.1 pc = .ok (.istore_n z, 1)) (hn : pc + 1 = n) (hz : (z : Nat) = i) (hl : i < M.2.2.1) (hok : okS ls i = true) (hs : ls.set i (some (vI x)) = ls') (k : Jg Θ l M h G T N ρ ce sl n ls' st s o) : Jg Θ l M h G T N ρ ce sl pc ls (vI x :: st) s o := by
  subst hn; subst hs
  intro r s' ho p e S m args below meth c H locs lr C hS hR hL
  exact lv_istore_n C.1 C.2.1 hd hz hL hl rfl (fun lr' h' => k r s' ho p e S m args below meth c H locs lr' C hS hR (lr_store1 hok h'))
theorem j_istore {i : Nat} {x : Int32} {ls' : List (Option AV)} (n : Nat) (hd : decode M.2.1 pc = .ok (.istore i, 2)) (hn : pc + 2 = n) (hl : i < M.2.2.1) (hok : okS ls i = true) (hs : ls.set i (some (vI x)) = ls') (k : Jg Θ l M h G T N ρ ce sl n ls' st s o) : Jg Θ l M h G T N ρ ce sl pc ls (vI x :: st) s o := by
  subst hn; subst hs
  intro r s' ho p e S m args below meth c H locs lr C hS hR hL
  exact lv_istore C.1 C.2.1 hd hL hl rfl (fun lr' h' => k r s' ho p e S m args below meth c H locs lr' C hS hR (lr_store1 hok h'))
theorem j_astore_n {z : Fin 4} {i q : Nat} {ls' : List (Option AV)} (n : Nat) (hd : decode M.2.1 pc = .ok (.astore_n z, 1)) (hn : pc + 1 = n) (hz : (z : Nat) = i) (hl : i < M.2.2.1) (hok : okS ls i = true) (hs : ls.set i (some (vR q)) = ls') (k : Jg Θ l M h G T N ρ ce sl n ls' st s o) : Jg Θ l M h G T N ρ ce sl pc ls (vR q :: st) s o := by
  subst hn; subst hs
  intro r s' ho p e S m args below meth c H locs lr C hS hR hL
  have e9 : cv Θ (vR q) = va_rf (adO Θ q) := rfl
  have k2 := fun lr' h' => k r s' ho p e S m args below meth c H locs lr' C hS hR (lr_store1 (Θ := Θ) (v := vR q) (nL := M.2.2.1) hok h')
  simp only [List.map_cons]
  rw [e9] at k2 ⊢
  cases hq : adO Θ q with
  | none => rw [hq] at k2; exact lv_astore_nN C.1 C.2.1 hd hz hL hl rfl k2
  | some a => rw [hq] at k2; exact lv_astore_n C.1 C.2.1 hd hz hL hl rfl k2
theorem j_astore {i q : Nat} {ls' : List (Option AV)} (n : Nat) (hd : decode M.2.1 pc = .ok (.astore i, 2)) (hn : pc + 2 = n) (hl : i < M.2.2.1) (hok : okS ls i = true) (hs : ls.set i (some (vR q)) = ls') (k : Jg Θ l M h G T N ρ ce sl n ls' st s o) : Jg Θ l M h G T N ρ ce sl pc ls (vR q :: st) s o := by
  subst hn; subst hs
  intro r s' ho p e S m args below meth c H locs lr C hS hR hL
  have e9 : cv Θ (vR q) = va_rf (adO Θ q) := rfl
  have k2 := fun lr' h' => k r s' ho p e S m args below meth c H locs lr' C hS hR (lr_store1 (Θ := Θ) (v := vR q) (nL := M.2.2.1) hok h')
  simp only [List.map_cons]
  rw [e9] at k2 ⊢
  cases hq : adO Θ q with
  | none => rw [hq] at k2; exact lv_astoreN C.1 C.2.1 hd hL hl rfl k2
  | some a => rw [hq] at k2; exact lv_astore C.1 C.2.1 hd hL hl rfl k2
theorem prs_set2 {i : Nat} {v : AV} (hok : okS ls i = true) {q : Nat × Value} (hq : q ∈ prs Θ ((ls.set i (some v)).set (i + 1) none)) :
    q ∈ (i, cv Θ v) :: (prs Θ ls).filter (fun q => !(q.1 == i) && (!(q.1 == i + 1) && !(q.1 + 1 == i && q.2.category == 2))) := by
  obtain ⟨w, h1, h2⟩ := prs_of hq
  have hne : q.1 ≠ i + 1 := by
    intro e9
    rw [e9] at h1
    by_cases hl : i + 1 < (ls.set i (some v)).length
    · rw [List.getElem?_set_self hl] at h1
      cases h1
    · rw [List.getElem?_eq_none (by simpa using hl)] at h1
      cases h1
  rw [List.getElem?_set_ne (fun e => hne e.symm)] at h1
  have h3 : q ∈ prs Θ (ls.set i (some v)) := by
    obtain ⟨a, b⟩ := q
    simp only at h1 h2
    subst h2
    exact prs_mem h1
  rcases List.mem_cons.mp (prs_set1 hok h3) with h4 | h4
  · rw [h4]
    exact List.mem_cons_self
  · obtain ⟨h5, h6⟩ := List.mem_filter.mp h4
    refine List.mem_cons_of_mem _ (List.mem_filter.mpr ⟨h5, ?_⟩)
    simp only [Bool.and_eq_true] at h6 ⊢
    refine ⟨h6.1, ?_, h6.2⟩
    simp [hne]
theorem j_lstore_n {z : Fin 4} {i : Nat} {x : Int64} {ls' : List (Option AV)} (n : Nat) (hd : decode M.2.1 pc = .ok (.lstore_n z, 1)) (hn : pc + 1 = n) (hz : (z : Nat) = i) (hl : i + 1 < M.2.2.1) (hok : okS ls i = true) (hs : (ls.set i (some (vL x))).set (i + 1) none = ls') (k : Jg Θ l M h G T N ρ ce sl n ls' st s o) : Jg Θ l M h G T N ρ ce sl pc ls (vL x :: st) s o := by
  subst hn; subst hs
  intro r s' ho p e S m args below meth c H locs lr C hS hR hL
  exact lv_lstore_n C.1 C.2.1 hd hz hL hl rfl (fun lr' h' => k r s' ho p e S m args below meth c H locs lr' C hS hR (lr_has_sub h' (fun q hq => prs_set2 hok hq)))
theorem j_lstore {i : Nat} {x : Int64} {ls' : List (Option AV)} (n : Nat) (hd : decode M.2.1 pc = .ok (.lstore i, 2)) (hn : pc + 2 = n) (hl : i + 1 < M.2.2.1) (hok : okS ls i = true) (hs : (ls.set i (some (vL x))).set (i + 1) none = ls') (k : Jg Θ l M h G T N ρ ce sl n ls' st s o) : Jg Θ l M h G T N ρ ce sl pc ls (vL x :: st) s o := by
  subst hn; subst hs
  intro r s' ho p e S m args below meth c H locs lr C hS hR hL
  exact lv_lstore C.1 C.2.1 hd hL hl rfl (fun lr' h' => k r s' ho p e S m args below meth c H locs lr' C hS hR (lr_has_sub h' (fun q hq => prs_set2 hok hq)))
theorem j_iinc {i : Nat} {z : Int} {x v : Int32} {ls' : List (Option AV)} (n : Nat) (hd : decode M.2.1 pc = .ok (.iinc i z, 3)) (hn : pc + 3 = n) (hi : ls[i]? = some (some (vI x))) (hv : x + Int32.ofInt z = v) (hl : i < M.2.2.1) (hok : okS ls i = true) (hs : ls.set i (some (vI v)) = ls') (k : Jg Θ l M h G T N ρ ce sl n ls' st s o) : Jg Θ l M h G T N ρ ce sl pc ls st s o := by
  subst hn; subst hs
  intro r s' ho p e S m args below meth c H locs lr C hS hR hL
  obtain ⟨kk, hkk⟩ := List.getElem?_of_mem (prs_mem (Θ := Θ) hi)
  exact lv_iinc C.1 C.2.1 hd hL hkk hv hl rfl (fun lr' h' => k r s' ho p e S m args below meth c H locs lr' C hS hR (lr_store1 (v := vI v) hok h'))
theorem j_iadd {x y : Int32} (n : Nat) (hd : decode M.2.1 pc = .ok (.iadd, 1)) (hn : pc + 1 = n) (k : Jg Θ l M h G T N ρ ce sl n ls (vI (x + y) :: st) s o) : Jg Θ l M h G T N ρ ce sl pc ls (vI y :: vI x :: st) s o := by
  subst hn
  intro r s' ho p e S m args below meth c H locs lr C hS hR hL
  exact lv_iadd C.1 C.2.1 hd (k r s' ho p e S m args below meth c H locs lr C hS hR hL)
theorem j_isub {x y : Int32} (n : Nat) (hd : decode M.2.1 pc = .ok (.isub, 1)) (hn : pc + 1 = n) (k : Jg Θ l M h G T N ρ ce sl n ls (vI (x - y) :: st) s o) : Jg Θ l M h G T N ρ ce sl pc ls (vI y :: vI x :: st) s o := by
  subst hn
  intro r s' ho p e S m args below meth c H locs lr C hS hR hL
  exact lv_isub C.1 C.2.1 hd (k r s' ho p e S m args below meth c H locs lr C hS hR hL)
theorem j_imul {x y : Int32} (n : Nat) (hd : decode M.2.1 pc = .ok (.imul, 1)) (hn : pc + 1 = n) (k : Jg Θ l M h G T N ρ ce sl n ls (vI (x * y) :: st) s o) : Jg Θ l M h G T N ρ ce sl pc ls (vI y :: vI x :: st) s o := by
  subst hn
  intro r s' ho p e S m args below meth c H locs lr C hS hR hL
  exact lv_imul C.1 C.2.1 hd (k r s' ho p e S m args below meth c H locs lr C hS hR hL)
theorem j_iand {x y : Int32} (n : Nat) (hd : decode M.2.1 pc = .ok (.iand, 1)) (hn : pc + 1 = n) (k : Jg Θ l M h G T N ρ ce sl n ls (vI (x &&& y) :: st) s o) : Jg Θ l M h G T N ρ ce sl pc ls (vI y :: vI x :: st) s o := by
  subst hn
  intro r s' ho p e S m args below meth c H locs lr C hS hR hL
  exact lv_iand C.1 C.2.1 hd (k r s' ho p e S m args below meth c H locs lr C hS hR hL)
theorem j_ior {x y : Int32} (n : Nat) (hd : decode M.2.1 pc = .ok (.ior, 1)) (hn : pc + 1 = n) (k : Jg Θ l M h G T N ρ ce sl n ls (vI (x ||| y) :: st) s o) : Jg Θ l M h G T N ρ ce sl pc ls (vI y :: vI x :: st) s o := by
  subst hn
  intro r s' ho p e S m args below meth c H locs lr C hS hR hL
  exact lv_ior C.1 C.2.1 hd (k r s' ho p e S m args below meth c H locs lr C hS hR hL)
theorem j_ixor {x y : Int32} (n : Nat) (hd : decode M.2.1 pc = .ok (.ixor, 1)) (hn : pc + 1 = n) (k : Jg Θ l M h G T N ρ ce sl n ls (vI (x ^^^ y) :: st) s o) : Jg Θ l M h G T N ρ ce sl pc ls (vI y :: vI x :: st) s o := by
  subst hn
  intro r s' ho p e S m args below meth c H locs lr C hS hR hL
  exact lv_ixor C.1 C.2.1 hd (k r s' ho p e S m args below meth c H locs lr C hS hR hL)
theorem j_ineg {x : Int32} (n : Nat) (hd : decode M.2.1 pc = .ok (.ineg, 1)) (hn : pc + 1 = n) (k : Jg Θ l M h G T N ρ ce sl n ls (vI (0 - x) :: st) s o) : Jg Θ l M h G T N ρ ce sl pc ls (vI x :: st) s o := by
  subst hn
  intro r s' ho p e S m args below meth c H locs lr C hS hR hL
  exact lv_ineg C.1 C.2.1 hd (k r s' ho p e S m args below meth c H locs lr C hS hR hL)
theorem j_ishl {x y : Int32} (n : Nat) (hd : decode M.2.1 pc = .ok (.ishl, 1)) (hn : pc + 1 = n) (k : Jg Θ l M h G T N ρ ce sl n ls (vI (x <<< (y &&& 31)) :: st) s o) : Jg Θ l M h G T N ρ ce sl pc ls (vI y :: vI x :: st) s o := by
  subst hn
  intro r s' ho p e S m args below meth c H locs lr C hS hR hL
  exact lv_ishl C.1 C.2.1 hd (k r s' ho p e S m args below meth c H locs lr C hS hR hL)
theorem j_ishr {x y : Int32} (n : Nat) (hd : decode M.2.1 pc = .ok (.ishr, 1)) (hn : pc + 1 = n) (k : Jg Θ l M h G T N ρ ce sl n ls (vI (x >>> (y &&& 31)) :: st) s o) : Jg Θ l M h G T N ρ ce sl pc ls (vI y :: vI x :: st) s o := by
  subst hn
  intro r s' ho p e S m args below meth c H locs lr C hS hR hL
  exact lv_ishr C.1 C.2.1 hd (k r s' ho p e S m args below meth c H locs lr C hS hR hL)
theorem j_iushr {x y v : Int32} (n : Nat) (hd : decode M.2.1 pc = .ok (.iushr, 1)) (hn : pc + 1 = n) (hv : (x.toUInt32 >>> (y.toUInt32 &&& Int32.toUInt32 31)).toInt32 = v) (k : Jg Θ l M h G T N ρ ce sl n ls (vI v :: st) s o) : Jg Θ l M h G T N ρ ce sl pc ls (vI y :: vI x :: st) s o := by
  subst hn
  intro r s' ho p e S m args below meth c H locs lr C hS hR hL
  exact lv_iushr C.1 C.2.1 hd hv (k r s' ho p e S m args below meth c H locs lr C hS hR hL)
theorem j_ladd {x y : Int64} (n : Nat) (hd : decode M.2.1 pc = .ok (.ladd, 1)) (hn : pc + 1 = n) (k : Jg Θ l M h G T N ρ ce sl n ls (vL (x + y) :: st) s o) : Jg Θ l M h G T N ρ ce sl pc ls (vL y :: vL x :: st) s o := by
  subst hn
  intro r s' ho p e S m args below meth c H locs lr C hS hR hL
  exact lv_ladd C.1 C.2.1 hd (k r s' ho p e S m args below meth c H locs lr C hS hR hL)
theorem j_lmul {x y : Int64} (n : Nat) (hd : decode M.2.1 pc = .ok (.lmul, 1)) (hn : pc + 1 = n) (k : Jg Θ l M h G T N ρ ce sl n ls (vL (x * y) :: st) s o) : Jg Θ l M h G T N ρ ce sl pc ls (vL y :: vL x :: st) s o := by
  subst hn
  intro r s' ho p e S m args below meth c H locs lr C hS hR hL
  exact lv_lmul C.1 C.2.1 hd (k r s' ho p e S m args below meth c H locs lr C hS hR hL)
theorem j_i2l {x : Int32} (n : Nat) (hd : decode M.2.1 pc = .ok (.i2l, 1)) (hn : pc + 1 = n) (k : Jg Θ l M h G T N ρ ce sl n ls (vL x.toInt64 :: st) s o) : Jg Θ l M h G T N ρ ce sl pc ls (vI x :: st) s o := by
  subst hn
  intro r s' ho p e S m args below meth c H locs lr C hS hR hL
  exact lv_i2l C.1 C.2.1 hd rfl (k r s' ho p e S m args below meth c H locs lr C hS hR hL)
theorem j_l2i {x : Int64} (n : Nat) (hd : decode M.2.1 pc = .ok (.l2i, 1)) (hn : pc + 1 = n) (k : Jg Θ l M h G T N ρ ce sl n ls (vI x.toInt32 :: st) s o) : Jg Θ l M h G T N ρ ce sl pc ls (vL x :: st) s o := by
  subst hn
  intro r s' ho p e S m args below meth c H locs lr C hS hR hL
  exact lv_l2i C.1 C.2.1 hd rfl (k r s' ho p e S m args below meth c H locs lr C hS hR hL)
theorem j_i2b {x : Int32} (n : Nat) (hd : decode M.2.1 pc = .ok (.i2b, 1)) (hn : pc + 1 = n) (k : Jg Θ l M h G T N ρ ce sl n ls (vI x.toInt8.toInt32 :: st) s o) : Jg Θ l M h G T N ρ ce sl pc ls (vI x :: st) s o := by
  subst hn
  intro r s' ho p e S m args below meth c H locs lr C hS hR hL
  exact lv_i2b C.1 C.2.1 hd rfl (k r s' ho p e S m args below meth c H locs lr C hS hR hL)
theorem j_lcmp {x y : Int64} (n : Nat) (hd : decode M.2.1 pc = .ok (.lcmp, 1)) (hn : pc + 1 = n) (k : Jg Θ l M h G T N ρ ce sl n ls (vI (lg_cmp x y) :: st) s o) : Jg Θ l M h G T N ρ ce sl pc ls (vL y :: vL x :: st) s o := by
  subst hn
  intro r s' ho p e S m args below meth c H locs lr C hS hR hL
  exact W.lcmp C.1 C.2.1 hd (k r s' ho p e S m args below meth c H locs lr C hS hR hL)
theorem j_dup {v : AV} (n : Nat) (hd : decode M.2.1 pc = .ok (.dup, 1)) (hn : pc + 1 = n) (hv : isLg v = false) (k : Jg Θ l M h G T N ρ ce sl n ls (v :: v :: st) s o) : Jg Θ l M h G T N ρ ce sl pc ls (v :: st) s o := by
  subst hn
  intro r s' ho p e S m args below meth c H locs lr C hS hR hL
  exact lv_dup C.1 C.2.1 hd (by rw [cv_cat, hv]; rfl) (k r s' ho p e S m args below meth c H locs lr C hS hR hL)
theorem j_dup2 {v w : AV} (n : Nat) (hd : decode M.2.1 pc = .ok (.dup2, 1)) (hn : pc + 1 = n) (hv : isLg v = false) (hw : isLg w = false) (k : Jg Θ l M h G T N ρ ce sl n ls (v :: w :: v :: w :: st) s o) : Jg Θ l M h G T N ρ ce sl pc ls (v :: w :: st) s o := by
  subst hn
  intro r s' ho p e S m args below meth c H locs lr C hS hR hL
  exact lv_dup2_11 C.1 C.2.1 hd (by rw [cv_cat, hv]; rfl) (by rw [cv_cat, hw]; rfl) (k r s' ho p e S m args below meth c H locs lr C hS hR hL)
theorem j_idiv {x y : Int32} (n : Nat) (hd : decode M.2.1 pc = .ok (.idiv, 1)) (hn : pc + 1 = n) (k : ¬ y = 0 → Jg Θ l M h G T N ρ ce sl n ls (vI (x / y) :: st) s o) : Jg Θ l M h G T N ρ ce sl pc ls (vI y :: vI x :: st) s (if y = 0 then none else o) := by
  subst hn
  intro r s' ho p e S m args below meth c H locs lr C hS hR hL
  by_cases hy : y = 0
  · rw [if_pos hy] at ho; cases ho
  · rw [if_neg hy] at ho
    exact lv_idiv C.1 C.2.1 hd hy (k hy r s' ho p e S m args below meth c H locs lr C hS hR hL)
theorem j_idivC {x y : Int32} (n : Nat) (hd : decode M.2.1 pc = .ok (.idiv, 1)) (hn : pc + 1 = n) (hy : ¬ y = 0) (k : Jg Θ l M h G T N ρ ce sl n ls (vI (x / y) :: st) s o) : Jg Θ l M h G T N ρ ce sl pc ls (vI y :: vI x :: st) s o := by
  subst hn
  intro r s' ho p e S m args below meth c H locs lr C hS hR hL
  exact lv_idiv C.1 C.2.1 hd hy (k r s' ho p e S m args below meth c H locs lr C hS hR hL)
theorem j_irem {x y : Int32} (n : Nat) (hd : decode M.2.1 pc = .ok (.irem, 1)) (hn : pc + 1 = n) (k : ¬ y = 0 → Jg Θ l M h G T N ρ ce sl n ls (vI (x - x / y * y) :: st) s o) : Jg Θ l M h G T N ρ ce sl pc ls (vI y :: vI x :: st) s (if y = 0 then none else o) := by
  subst hn
  intro r s' ho p e S m args below meth c H locs lr C hS hR hL
  by_cases hy : y = 0
  · rw [if_pos hy] at ho; cases ho
  · rw [if_neg hy] at ho
    exact lv_irem C.1 C.2.1 hd hy (k hy r s' ho p e S m args below meth c H locs lr C hS hR hL)
theorem j_iremC {x y : Int32} (n : Nat) (hd : decode M.2.1 pc = .ok (.irem, 1)) (hn : pc + 1 = n) (hy : ¬ y = 0) (k : Jg Θ l M h G T N ρ ce sl n ls (vI (x - x / y * y) :: st) s o) : Jg Θ l M h G T N ρ ce sl pc ls (vI y :: vI x :: st) s o := by
  subst hn
  intro r s' ho p e S m args below meth c H locs lr C hS hR hL
  exact lv_irem C.1 C.2.1 hd hy (k r s' ho p e S m args below meth c H locs lr C hS hR hL)
theorem j_ldiv {x y : Int64} (n : Nat) (hd : decode M.2.1 pc = .ok (.ldiv, 1)) (hn : pc + 1 = n) (k : ¬ y = 0 → Jg Θ l M h G T N ρ ce sl n ls (vL (x / y) :: st) s o) : Jg Θ l M h G T N ρ ce sl pc ls (vL y :: vL x :: st) s (if y = 0 then none else o) := by
  subst hn
  intro r s' ho p e S m args below meth c H locs lr C hS hR hL
  by_cases hy : y = 0
  · rw [if_pos hy] at ho; cases ho
  · rw [if_neg hy] at ho
    exact lv_ldiv C.1 C.2.1 hd hy (k hy r s' ho p e S m args below meth c H locs lr C hS hR hL)
theorem j_ldivC {x y : Int64} (n : Nat) (hd : decode M.2.1 pc = .ok (.ldiv, 1)) (hn : pc + 1 = n) (hy : ¬ y = 0) (k : Jg Θ l M h G T N ρ ce sl n ls (vL (x / y) :: st) s o) : Jg Θ l M h G T N ρ ce sl pc ls (vL y :: vL x :: st) s o := by
  subst hn
  intro r s' ho p e S m args below meth c H locs lr C hS hR hL
  exact lv_ldiv C.1 C.2.1 hd hy (k r s' ho p e S m args below meth c H locs lr C hS hR hL)
theorem j_lrem {x y : Int64} (n : Nat) (hd : decode M.2.1 pc = .ok (.lrem, 1)) (hn : pc + 1 = n) (k : ¬ y = 0 → Jg Θ l M h G T N ρ ce sl n ls (vL (x - x / y * y) :: st) s o) : Jg Θ l M h G T N ρ ce sl pc ls (vL y :: vL x :: st) s (if y = 0 then none else o) := by
  subst hn
  intro r s' ho p e S m args below meth c H locs lr C hS hR hL
  by_cases hy : y = 0
  · rw [if_pos hy] at ho; cases ho
  · rw [if_neg hy] at ho
    exact lv_lrem C.1 C.2.1 hd hy (k hy r s' ho p e S m args below meth c H locs lr C hS hR hL)
theorem j_lremC {x y : Int64} (n : Nat) (hd : decode M.2.1 pc = .ok (.lrem, 1)) (hn : pc + 1 = n) (hy : ¬ y = 0) (k : Jg Θ l M h G T N ρ ce sl n ls (vL (x - x / y * y) :: st) s o) : Jg Θ l M h G T N ρ ce sl pc ls (vL y :: vL x :: st) s o := by
  subst hn
  intro r s' ho p e S m args below meth c H locs lr C hS hR hL
  exact lv_lrem C.1 C.2.1 hd hy (k r s' ho p e S m args below meth c H locs lr C hS hR hL)
theorem j_icmp_eq {x y : Int32} {off : Int} (tgt n : Nat) (hd : decode M.2.1 pc = .ok (.if_icmp .eq off, 3)) (ht : (pc : Int) + off = (tgt : Int)) (hn : pc + 3 = n) (k1 : x = y → Jg Θ l M h G T N ρ ce sl tgt ls st s o1) (k2 : ¬ x = y → Jg Θ l M h G T N ρ ce sl n ls st s o2) : Jg Θ l M h G T N ρ ce sl pc ls (vI y :: vI x :: st) s (if x = y then o1 else o2) := by
  subst hn
  intro r s' ho p e S m args below meth c H locs lr C hS hR hL
  exact lv_icmp_eq C.1 C.2.1 hd ht (fun hc => by rw [if_pos hc] at ho; exact k1 hc r s' ho p e S m args below meth c H locs lr C hS hR hL) (fun hc => by rw [if_neg hc] at ho; exact k2 hc r s' ho p e S m args below meth c H locs lr C hS hR hL)
theorem j_icmp_eq_T {x y : Int32} {off : Int} (tgt n : Nat) (hd : decode M.2.1 pc = .ok (.if_icmp .eq off, 3)) (ht : (pc : Int) + off = (tgt : Int)) (hn : pc + 3 = n) (hc : x = y) (k : Jg Θ l M h G T N ρ ce sl tgt ls st s o) : Jg Θ l M h G T N ρ ce sl pc ls (vI y :: vI x :: st) s o := by
  have h1 := j_icmp_eq (o1 := o) (o2 := none) tgt n hd ht hn (fun _ => k) (fun h => absurd hc h)
  rw [if_pos hc] at h1
  exact h1
theorem j_icmp_eq_F {x y : Int32} {off : Int} (tgt n : Nat) (hd : decode M.2.1 pc = .ok (.if_icmp .eq off, 3)) (ht : (pc : Int) + off = (tgt : Int)) (hn : pc + 3 = n) (hc : ¬ x = y) (k : Jg Θ l M h G T N ρ ce sl n ls st s o) : Jg Θ l M h G T N ρ ce sl pc ls (vI y :: vI x :: st) s o := by
  have h1 := j_icmp_eq (o1 := none) (o2 := o) tgt n hd ht hn (fun h => absurd h hc) (fun _ => k)
  rw [if_neg hc] at h1
  exact h1
theorem j_if_eq {x : Int32} {off : Int} (tgt n : Nat) (hd : decode M.2.1 pc = .ok (.ifCond .eq off, 3)) (ht : (pc : Int) + off = (tgt : Int)) (hn : pc + 3 = n) (k1 : x = 0 → Jg Θ l M h G T N ρ ce sl tgt ls st s o1) (k2 : ¬ x = 0 → Jg Θ l M h G T N ρ ce sl n ls st s o2) : Jg Θ l M h G T N ρ ce sl pc ls (vI x :: st) s (if x = 0 then o1 else o2) := by
  subst hn
  intro r s' ho p e S m args below meth c H locs lr C hS hR hL
  exact lv_if_eq C.1 C.2.1 hd ht (fun hc => by rw [if_pos hc] at ho; exact k1 hc r s' ho p e S m args below meth c H locs lr C hS hR hL) (fun hc => by rw [if_neg hc] at ho; exact k2 hc r s' ho p e S m args below meth c H locs lr C hS hR hL)
theorem j_if_eq_T {x : Int32} {off : Int} (tgt n : Nat) (hd : decode M.2.1 pc = .ok (.ifCond .eq off, 3)) (ht : (pc : Int) + off = (tgt : Int)) (hn : pc + 3 = n) (hc : x = 0) (k : Jg Θ l M h G T N ρ ce sl tgt ls st s o) : Jg Θ l M h G T N ρ ce sl pc ls (vI x :: st) s o := by
  have h1 := j_if_eq (o1 := o) (o2 := none) tgt n hd ht hn (fun _ => k) (fun h => absurd hc h)
  rw [if_pos hc] at h1
  exact h1
theorem j_if_eq_F {x : Int32} {off : Int} (tgt n : Nat) (hd : decode M.2.1 pc = .ok (.ifCond .eq off, 3)) (ht : (pc : Int) + off = (tgt : Int)) (hn : pc + 3 = n) (hc : ¬ x = 0) (k : Jg Θ l M h G T N ρ ce sl n ls st s o) : Jg Θ l M h G T N ρ ce sl pc ls (vI x :: st) s o := by
  have h1 := j_if_eq (o1 := none) (o2 := o) tgt n hd ht hn (fun h => absurd h hc) (fun _ => k)
  rw [if_neg hc] at h1
  exact h1
theorem j_icmp_ne {x y : Int32} {off : Int} (tgt n : Nat) (hd : decode M.2.1 pc = .ok (.if_icmp .ne off, 3)) (ht : (pc : Int) + off = (tgt : Int)) (hn : pc + 3 = n) (k1 : x = y → Jg Θ l M h G T N ρ ce sl n ls st s o1) (k2 : ¬ x = y → Jg Θ l M h G T N ρ ce sl tgt ls st s o2) : Jg Θ l M h G T N ρ ce sl pc ls (vI y :: vI x :: st) s (if x = y then o1 else o2) := by
  subst hn
  intro r s' ho p e S m args below meth c H locs lr C hS hR hL
  exact lv_icmp_ne C.1 C.2.1 hd ht (fun hc => by rw [if_neg hc] at ho; exact k2 hc r s' ho p e S m args below meth c H locs lr C hS hR hL) (fun hc => by rw [if_pos hc] at ho; exact k1 hc r s' ho p e S m args below meth c H locs lr C hS hR hL)
theorem j_icmp_ne_T {x y : Int32} {off : Int} (tgt n : Nat) (hd : decode M.2.1 pc = .ok (.if_icmp .ne off, 3)) (ht : (pc : Int) + off = (tgt : Int)) (hn : pc + 3 = n) (hc : x = y) (k : Jg Θ l M h G T N ρ ce sl n ls st s o) : Jg Θ l M h G T N ρ ce sl pc ls (vI y :: vI x :: st) s o := by
  have h1 := j_icmp_ne (o1 := o) (o2 := none) tgt n hd ht hn (fun _ => k) (fun h => absurd hc h)
  rw [if_pos hc] at h1
  exact h1
theorem j_icmp_ne_F {x y : Int32} {off : Int} (tgt n : Nat) (hd : decode M.2.1 pc = .ok (.if_icmp .ne off, 3)) (ht : (pc : Int) + off = (tgt : Int)) (hn : pc + 3 = n) (hc : ¬ x = y) (k : Jg Θ l M h G T N ρ ce sl tgt ls st s o) : Jg Θ l M h G T N ρ ce sl pc ls (vI y :: vI x :: st) s o := by
  have h1 := j_icmp_ne (o1 := none) (o2 := o) tgt n hd ht hn (fun h => absurd h hc) (fun _ => k)
  rw [if_neg hc] at h1
  exact h1
theorem j_if_ne {x : Int32} {off : Int} (tgt n : Nat) (hd : decode M.2.1 pc = .ok (.ifCond .ne off, 3)) (ht : (pc : Int) + off = (tgt : Int)) (hn : pc + 3 = n) (k1 : x = 0 → Jg Θ l M h G T N ρ ce sl n ls st s o1) (k2 : ¬ x = 0 → Jg Θ l M h G T N ρ ce sl tgt ls st s o2) : Jg Θ l M h G T N ρ ce sl pc ls (vI x :: st) s (if x = 0 then o1 else o2) := by
  subst hn
  intro r s' ho p e S m args below meth c H locs lr C hS hR hL
  exact lv_if_ne C.1 C.2.1 hd ht (fun hc => by rw [if_neg hc] at ho; exact k2 hc r s' ho p e S m args below meth c H locs lr C hS hR hL) (fun hc => by rw [if_pos hc] at ho; exact k1 hc r s' ho p e S m args below meth c H locs lr C hS hR hL)
theorem j_if_ne_T {x : Int32} {off : Int} (tgt n : Nat) (hd : decode M.2.1 pc = .ok (.ifCond .ne off, 3)) (ht : (pc : Int) + off = (tgt : Int)) (hn : pc + 3 = n) (hc : x = 0) (k : Jg Θ l M h G T N ρ ce sl n ls st s o) : Jg Θ l M h G T N ρ ce sl pc ls (vI x :: st) s o := by
  have h1 := j_if_ne (o1 := o) (o2 := none) tgt n hd ht hn (fun _ => k) (fun h => absurd hc h)
  rw [if_pos hc] at h1
  exact h1
theorem j_if_ne_F {x : Int32} {off : Int} (tgt n : Nat) (hd : decode M.2.1 pc = .ok (.ifCond .ne off, 3)) (ht : (pc : Int) + off = (tgt : Int)) (hn : pc + 3 = n) (hc : ¬ x = 0) (k : Jg Θ l M h G T N ρ ce sl tgt ls st s o) : Jg Θ l M h G T N ρ ce sl pc ls (vI x :: st) s o := by
  have h1 := j_if_ne (o1 := none) (o2 := o) tgt n hd ht hn (fun h => absurd h hc) (fun _ => k)
  rw [if_neg hc] at h1
  exact h1
theorem j_icmp_lt {x y : Int32} {off : Int} (tgt n : Nat) (hd : decode M.2.1 pc = .ok (.if_icmp .lt off, 3)) (ht : (pc : Int) + off = (tgt : Int)) (hn : pc + 3 = n) (k1 : x < y → Jg Θ l M h G T N ρ ce sl tgt ls st s o1) (k2 : ¬ x < y → Jg Θ l M h G T N ρ ce sl n ls st s o2) : Jg Θ l M h G T N ρ ce sl pc ls (vI y :: vI x :: st) s (if x < y then o1 else o2) := by
  subst hn
  intro r s' ho p e S m args below meth c H locs lr C hS hR hL
  exact lv_icmp_lt C.1 C.2.1 hd ht (fun hc => by rw [if_pos hc] at ho; exact k1 hc r s' ho p e S m args below meth c H locs lr C hS hR hL) (fun hc => by rw [if_neg hc] at ho; exact k2 hc r s' ho p e S m args below meth c H locs lr C hS hR hL)
theorem j_icmp_lt_T {x y : Int32} {off : Int} (tgt n : Nat) (hd : decode M.2.1 pc = .ok (.if_icmp .lt off, 3)) (ht : (pc : Int) + off = (tgt : Int)) (hn : pc + 3 = n) (hc : x < y) (k : Jg Θ l M h G T N ρ ce sl tgt ls st s o) : Jg Θ l M h G T N ρ ce sl pc ls (vI y :: vI x :: st) s o := by
  have h1 := j_icmp_lt (o1 := o) (o2 := none) tgt n hd ht hn (fun _ => k) (fun h => absurd hc h)
  rw [if_pos hc] at h1
  exact h1
theorem j_icmp_lt_F {x y : Int32} {off : Int} (tgt n : Nat) (hd : decode M.2.1 pc = .ok (.if_icmp .lt off, 3)) (ht : (pc : Int) + off = (tgt : Int)) (hn : pc + 3 = n) (hc : ¬ x < y) (k : Jg Θ l M h G T N ρ ce sl n ls st s o) : Jg Θ l M h G T N ρ ce sl pc ls (vI y :: vI x :: st) s o := by
  have h1 := j_icmp_lt (o1 := none) (o2 := o) tgt n hd ht hn (fun h => absurd h hc) (fun _ => k)
  rw [if_neg hc] at h1
  exact h1
theorem j_if_lt {x : Int32} {off : Int} (tgt n : Nat) (hd : decode M.2.1 pc = .ok (.ifCond .lt off, 3)) (ht : (pc : Int) + off = (tgt : Int)) (hn : pc + 3 = n) (k1 : x < 0 → Jg Θ l M h G T N ρ ce sl tgt ls st s o1) (k2 : ¬ x < 0 → Jg Θ l M h G T N ρ ce sl n ls st s o2) : Jg Θ l M h G T N ρ ce sl pc ls (vI x :: st) s (if x < 0 then o1 else o2) := by
  subst hn
  intro r s' ho p e S m args below meth c H locs lr C hS hR hL
  exact lv_if_lt C.1 C.2.1 hd ht (fun hc => by rw [if_pos hc] at ho; exact k1 hc r s' ho p e S m args below meth c H locs lr C hS hR hL) (fun hc => by rw [if_neg hc] at ho; exact k2 hc r s' ho p e S m args below meth c H locs lr C hS hR hL)
theorem j_if_lt_T {x : Int32} {off : Int} (tgt n : Nat) (hd : decode M.2.1 pc = .ok (.ifCond .lt off, 3)) (ht : (pc : Int) + off = (tgt : Int)) (hn : pc + 3 = n) (hc : x < 0) (k : Jg Θ l M h G T N ρ ce sl tgt ls st s o) : Jg Θ l M h G T N ρ ce sl pc ls (vI x :: st) s o := by
  have h1 := j_if_lt (o1 := o) (o2 := none) tgt n hd ht hn (fun _ => k) (fun h => absurd hc h)
  rw [if_pos hc] at h1
  exact h1
theorem j_if_lt_F {x : Int32} {off : Int} (tgt n : Nat) (hd : decode M.2.1 pc = .ok (.ifCond .lt off, 3)) (ht : (pc : Int) + off = (tgt : Int)) (hn : pc + 3 = n) (hc : ¬ x < 0) (k : Jg Θ l M h G T N ρ ce sl n ls st s o) : Jg Θ l M h G T N ρ ce sl pc ls (vI x :: st) s o := by
  have h1 := j_if_lt (o1 := none) (o2 := o) tgt n hd ht hn (fun h => absurd h hc) (fun _ => k)
  rw [if_neg hc] at h1
  exact h1
theorem j_icmp_ge {x y : Int32} {off : Int} (tgt n : Nat) (hd : decode M.2.1 pc = .ok (.if_icmp .ge off, 3)) (ht : (pc : Int) + off = (tgt : Int)) (hn : pc + 3 = n) (k1 : x < y → Jg Θ l M h G T N ρ ce sl n ls st s o1) (k2 : ¬ x < y → Jg Θ l M h G T N ρ ce sl tgt ls st s o2) : Jg Θ l M h G T N ρ ce sl pc ls (vI y :: vI x :: st) s (if x < y then o1 else o2) := by
  subst hn
  intro r s' ho p e S m args below meth c H locs lr C hS hR hL
  exact lv_icmp_ge C.1 C.2.1 hd ht (fun hc => by have hc := Int32.not_lt.mpr hc; rw [if_neg hc] at ho; exact k2 hc r s' ho p e S m args below meth c H locs lr C hS hR hL) (fun hc => by have hc := Int32.not_le.mp hc; rw [if_pos hc] at ho; exact k1 hc r s' ho p e S m args below meth c H locs lr C hS hR hL)
theorem j_icmp_ge_T {x y : Int32} {off : Int} (tgt n : Nat) (hd : decode M.2.1 pc = .ok (.if_icmp .ge off, 3)) (ht : (pc : Int) + off = (tgt : Int)) (hn : pc + 3 = n) (hc : x < y) (k : Jg Θ l M h G T N ρ ce sl n ls st s o) : Jg Θ l M h G T N ρ ce sl pc ls (vI y :: vI x :: st) s o := by
  have h1 := j_icmp_ge (o1 := o) (o2 := none) tgt n hd ht hn (fun _ => k) (fun h => absurd hc h)
  rw [if_pos hc] at h1
  exact h1
theorem j_icmp_ge_F {x y : Int32} {off : Int} (tgt n : Nat) (hd : decode M.2.1 pc = .ok (.if_icmp .ge off, 3)) (ht : (pc : Int) + off = (tgt : Int)) (hn : pc + 3 = n) (hc : ¬ x < y) (k : Jg Θ l M h G T N ρ ce sl tgt ls st s o) : Jg Θ l M h G T N ρ ce sl pc ls (vI y :: vI x :: st) s o := by
  have h1 := j_icmp_ge (o1 := none) (o2 := o) tgt n hd ht hn (fun h => absurd h hc) (fun _ => k)
  rw [if_neg hc] at h1
  exact h1
theorem j_if_ge {x : Int32} {off : Int} (tgt n : Nat) (hd : decode M.2.1 pc = .ok (.ifCond .ge off, 3)) (ht : (pc : Int) + off = (tgt : Int)) (hn : pc + 3 = n) (k1 : x < 0 → Jg Θ l M h G T N ρ ce sl n ls st s o1) (k2 : ¬ x < 0 → Jg Θ l M h G T N ρ ce sl tgt ls st s o2) : Jg Θ l M h G T N ρ ce sl pc ls (vI x :: st) s (if x < 0 then o1 else o2) := by
  subst hn
  intro r s' ho p e S m args below meth c H locs lr C hS hR hL
  exact lv_if_ge C.1 C.2.1 hd ht (fun hc => by have hc := Int32.not_lt.mpr hc; rw [if_neg hc] at ho; exact k2 hc r s' ho p e S m args below meth c H locs lr C hS hR hL) (fun hc => by have hc := Int32.not_le.mp hc; rw [if_pos hc] at ho; exact k1 hc r s' ho p e S m args below meth c H locs lr C hS hR hL)
theorem j_if_ge_T {x : Int32} {off : Int} (tgt n : Nat) (hd : decode M.2.1 pc = .ok (.ifCond .ge off, 3)) (ht : (pc : Int) + off = (tgt : Int)) (hn : pc + 3 = n) (hc : x < 0) (k : Jg Θ l M h G T N ρ ce sl n ls st s o) : Jg Θ l M h G T N ρ ce sl pc ls (vI x :: st) s o := by
  have h1 := j_if_ge (o1 := o) (o2 := none) tgt n hd ht hn (fun _ => k) (fun h => absurd hc h)
  rw [if_pos hc] at h1
  exact h1
theorem j_if_ge_F {x : Int32} {off : Int} (tgt n : Nat) (hd : decode M.2.1 pc = .ok (.ifCond .ge off, 3)) (ht : (pc : Int) + off = (tgt : Int)) (hn : pc + 3 = n) (hc : ¬ x < 0) (k : Jg Θ l M h G T N ρ ce sl tgt ls st s o) : Jg Θ l M h G T N ρ ce sl pc ls (vI x :: st) s o := by
  have h1 := j_if_ge (o1 := none) (o2 := o) tgt n hd ht hn (fun h => absurd h hc) (fun _ => k)
  rw [if_neg hc] at h1
  exact h1
theorem j_icmp_gt {x y : Int32} {off : Int} (tgt n : Nat) (hd : decode M.2.1 pc = .ok (.if_icmp .gt off, 3)) (ht : (pc : Int) + off = (tgt : Int)) (hn : pc + 3 = n) (k1 : y < x → Jg Θ l M h G T N ρ ce sl tgt ls st s o1) (k2 : ¬ y < x → Jg Θ l M h G T N ρ ce sl n ls st s o2) : Jg Θ l M h G T N ρ ce sl pc ls (vI y :: vI x :: st) s (if y < x then o1 else o2) := by
  subst hn
  intro r s' ho p e S m args below meth c H locs lr C hS hR hL
  exact lv_icmp_gt C.1 C.2.1 hd ht (fun hc => by rw [if_pos hc] at ho; exact k1 hc r s' ho p e S m args below meth c H locs lr C hS hR hL) (fun hc => by rw [if_neg hc] at ho; exact k2 hc r s' ho p e S m args below meth c H locs lr C hS hR hL)
theorem j_icmp_gt_T {x y : Int32} {off : Int} (tgt n : Nat) (hd : decode M.2.1 pc = .ok (.if_icmp .gt off, 3)) (ht : (pc : Int) + off = (tgt : Int)) (hn : pc + 3 = n) (hc : y < x) (k : Jg Θ l M h G T N ρ ce sl tgt ls st s o) : Jg Θ l M h G T N ρ ce sl pc ls (vI y :: vI x :: st) s o := by
  have h1 := j_icmp_gt (o1 := o) (o2 := none) tgt n hd ht hn (fun _ => k) (fun h => absurd hc h)
  rw [if_pos hc] at h1
  exact h1
theorem j_icmp_gt_F {x y : Int32} {off : Int} (tgt n : Nat) (hd : decode M.2.1 pc = .ok (.if_icmp .gt off, 3)) (ht : (pc : Int) + off = (tgt : Int)) (hn : pc + 3 = n) (hc : ¬ y < x) (k : Jg Θ l M h G T N ρ ce sl n ls st s o) : Jg Θ l M h G T N ρ ce sl pc ls (vI y :: vI x :: st) s o := by
  have h1 := j_icmp_gt (o1 := none) (o2 := o) tgt n hd ht hn (fun h => absurd h hc) (fun _ => k)
  rw [if_neg hc] at h1
  exact h1
theorem j_if_gt {x : Int32} {off : Int} (tgt n : Nat) (hd : decode M.2.1 pc = .ok (.ifCond .gt off, 3)) (ht : (pc : Int) + off = (tgt : Int)) (hn : pc + 3 = n) (k1 : 0 < x → Jg Θ l M h G T N ρ ce sl tgt ls st s o1) (k2 : ¬ 0 < x → Jg Θ l M h G T N ρ ce sl n ls st s o2) : Jg Θ l M h G T N ρ ce sl pc ls (vI x :: st) s (if 0 < x then o1 else o2) := by
  subst hn
  intro r s' ho p e S m args below meth c H locs lr C hS hR hL
  exact lv_if_gt C.1 C.2.1 hd ht (fun hc => by rw [if_pos hc] at ho; exact k1 hc r s' ho p e S m args below meth c H locs lr C hS hR hL) (fun hc => by rw [if_neg hc] at ho; exact k2 hc r s' ho p e S m args below meth c H locs lr C hS hR hL)
theorem j_if_gt_T {x : Int32} {off : Int} (tgt n : Nat) (hd : decode M.2.1 pc = .ok (.ifCond .gt off, 3)) (ht : (pc : Int) + off = (tgt : Int)) (hn : pc + 3 = n) (hc : 0 < x) (k : Jg Θ l M h G T N ρ ce sl tgt ls st s o) : Jg Θ l M h G T N ρ ce sl pc ls (vI x :: st) s o := by
  have h1 := j_if_gt (o1 := o) (o2 := none) tgt n hd ht hn (fun _ => k) (fun h => absurd hc h)
  rw [if_pos hc] at h1
  exact h1
theorem j_if_gt_F {x : Int32} {off : Int} (tgt n : Nat) (hd : decode M.2.1 pc = .ok (.ifCond .gt off, 3)) (ht : (pc : Int) + off = (tgt : Int)) (hn : pc + 3 = n) (hc : ¬ 0 < x) (k : Jg Θ l M h G T N ρ ce sl n ls st s o) : Jg Θ l M h G T N ρ ce sl pc ls (vI x :: st) s o := by
  have h1 := j_if_gt (o1 := none) (o2 := o) tgt n hd ht hn (fun h => absurd h hc) (fun _ => k)
  rw [if_neg hc] at h1
  exact h1
theorem j_icmp_le {x y : Int32} {off : Int} (tgt n : Nat) (hd : decode M.2.1 pc = .ok (.if_icmp .le off, 3)) (ht : (pc : Int) + off = (tgt : Int)) (hn : pc + 3 = n) (k1 : y < x → Jg Θ l M h G T N ρ ce sl n ls st s o1) (k2 : ¬ y < x → Jg Θ l M h G T N ρ ce sl tgt ls st s o2) : Jg Θ l M h G T N ρ ce sl pc ls (vI y :: vI x :: st) s (if y < x then o1 else o2) := by
  subst hn
  intro r s' ho p e S m args below meth c H locs lr C hS hR hL
  exact lv_icmp_le C.1 C.2.1 hd ht (fun hc => by have hc := Int32.not_lt.mpr hc; rw [if_neg hc] at ho; exact k2 hc r s' ho p e S m args below meth c H locs lr C hS hR hL) (fun hc => by have hc := Int32.not_le.mp hc; rw [if_pos hc] at ho; exact k1 hc r s' ho p e S m args below meth c H locs lr C hS hR hL)
theorem j_icmp_le_T {x y : Int32} {off : Int} (tgt n : Nat) (hd : decode M.2.1 pc = .ok (.if_icmp .le off, 3)) (ht : (pc : Int) + off = (tgt : Int)) (hn : pc + 3 = n) (hc : y < x) (k : Jg Θ l M h G T N ρ ce sl n ls st s o) : Jg Θ l M h G T N ρ ce sl pc ls (vI y :: vI x :: st) s o := by
  have h1 := j_icmp_le (o1 := o) (o2 := none) tgt n hd ht hn (fun _ => k) (fun h => absurd hc h)
  rw [if_pos hc] at h1
  exact h1
theorem j_icmp_le_F {x y : Int32} {off : Int} (tgt n : Nat) (hd : decode M.2.1 pc = .ok (.if_icmp .le off, 3)) (ht : (pc : Int) + off = (tgt : Int)) (hn : pc + 3 = n) (hc : ¬ y < x) (k : Jg Θ l M h G T N ρ ce sl tgt ls st s o) : Jg Θ l M h G T N ρ ce sl pc ls (vI y :: vI x :: st) s o := by
  have h1 := j_icmp_le (o1 := none) (o2 := o) tgt n hd ht hn (fun h => absurd h hc) (fun _ => k)
  rw [if_neg hc] at h1
  exact h1
theorem j_if_le {x : Int32} {off : Int} (tgt n : Nat) (hd : decode M.2.1 pc = .ok (.ifCond .le off, 3)) (ht : (pc : Int) + off = (tgt : Int)) (hn : pc + 3 = n) (k1 : 0 < x → Jg Θ l M h G T N ρ ce sl n ls st s o1) (k2 : ¬ 0 < x → Jg Θ l M h G T N ρ ce sl tgt ls st s o2) : Jg Θ l M h G T N ρ ce sl pc ls (vI x :: st) s (if 0 < x then o1 else o2) := by
  subst hn
  intro r s' ho p e S m args below meth c H locs lr C hS hR hL
  exact lv_if_le C.1 C.2.1 hd ht (fun hc => by have hc := Int32.not_lt.mpr hc; rw [if_neg hc] at ho; exact k2 hc r s' ho p e S m args below meth c H locs lr C hS hR hL) (fun hc => by have hc := Int32.not_le.mp hc; rw [if_pos hc] at ho; exact k1 hc r s' ho p e S m args below meth c H locs lr C hS hR hL)
theorem j_if_le_T {x : Int32} {off : Int} (tgt n : Nat) (hd : decode M.2.1 pc = .ok (.ifCond .le off, 3)) (ht : (pc : Int) + off = (tgt : Int)) (hn : pc + 3 = n) (hc : 0 < x) (k : Jg Θ l M h G T N ρ ce sl n ls st s o) : Jg Θ l M h G T N ρ ce sl pc ls (vI x :: st) s o := by
  have h1 := j_if_le (o1 := o) (o2 := none) tgt n hd ht hn (fun _ => k) (fun h => absurd hc h)
  rw [if_pos hc] at h1
  exact h1
theorem j_if_le_F {x : Int32} {off : Int} (tgt n : Nat) (hd : decode M.2.1 pc = .ok (.ifCond .le off, 3)) (ht : (pc : Int) + off = (tgt : Int)) (hn : pc + 3 = n) (hc : ¬ 0 < x) (k : Jg Θ l M h G T N ρ ce sl tgt ls st s o) : Jg Θ l M h G T N ρ ce sl pc ls (vI x :: st) s o := by
  have h1 := j_if_le (o1 := none) (o2 := o) tgt n hd ht hn (fun h => absurd h hc) (fun _ => k)
  rw [if_neg hc] at h1
  exact h1
theorem j_goto {off : Int} (tgt : Nat) (hd : decode M.2.1 pc = .ok (.goto off, 3)) (ht : (pc : Int) + off = (tgt : Int)) (k : Jg Θ l M h G T N ρ ce sl tgt ls st s o) : Jg Θ l M h G T N ρ ce sl pc ls st s o := by
  intro r s' ho p e S m args below meth c H locs lr C hS hR hL
  exact lv_goto C.1 C.2.1 hd ht (k r s' ho p e S m args below meth c H locs lr C hS hR hL)
theorem j_ifnull {q : Nat} {off : Int} (tgt n : Nat) (hd : decode M.2.1 pc = .ok (.ifnull off, 3)) (ht : (pc : Int) + off = (tgt : Int)) (hn : pc + 3 = n) (k1 : q = 0 → Jg Θ l M h G T N ρ ce sl tgt ls st s o1) (k2 : ¬ q = 0 → Jg Θ l M h G T N ρ ce sl n ls st s o2) : Jg Θ l M h G T N ρ ce sl pc ls (vR q :: st) s (if q = 0 then o1 else o2) := by
  subst hn
  intro r s' ho p e S m args below meth c H locs lr C hS hR hL
  have e9 : cv Θ (vR q) = va_rf (adO Θ q) := rfl
  simp only [List.map_cons]
  rw [e9]
  by_cases hq : q = 0
  · rw [if_pos hq] at ho
    have e2 : adO Θ q = none := by rw [adO, if_pos hq]
    rw [e2]
    exact lv_ifnullN C.1 C.2.1 hd ht (k1 hq r s' ho p e S m args below meth c H locs lr C hS hR hL)
  · rw [if_neg hq] at ho
    have e2 : adO Θ q = some (adr Θ q) := by rw [adO, if_neg hq]
    rw [e2]
    exact lv_ifnull C.1 C.2.1 hd (k2 hq r s' ho p e S m args below meth c H locs lr C hS hR hL)
theorem j_ifnull_T {q : Nat} {off : Int} (tgt n : Nat) (hd : decode M.2.1 pc = .ok (.ifnull off, 3)) (ht : (pc : Int) + off = (tgt : Int)) (hn : pc + 3 = n) (hc : q = 0) (k : Jg Θ l M h G T N ρ ce sl tgt ls st s o) : Jg Θ l M h G T N ρ ce sl pc ls (vR q :: st) s o := by
  have h1 := j_ifnull (o1 := o) (o2 := none) tgt n hd ht hn (fun _ => k) (fun h => absurd hc h)
  rw [if_pos hc] at h1
  exact h1
theorem j_ifnull_F {q : Nat} {off : Int} (tgt n : Nat) (hd : decode M.2.1 pc = .ok (.ifnull off, 3)) (ht : (pc : Int) + off = (tgt : Int)) (hn : pc + 3 = n) (hc : ¬ q = 0) (k : Jg Θ l M h G T N ρ ce sl n ls st s o) : Jg Θ l M h G T N ρ ce sl pc ls (vR q :: st) s o := by
  have h1 := j_ifnull (o1 := none) (o2 := o) tgt n hd ht hn (fun h => absurd h hc) (fun _ => k)
  rw [if_neg hc] at h1
  exact h1
theorem j_ifnonnull {q : Nat} {off : Int} (tgt n : Nat) (hd : decode M.2.1 pc = .ok (.ifnonnull off, 3)) (ht : (pc : Int) + off = (tgt : Int)) (hn : pc + 3 = n) (k1 : q = 0 → Jg Θ l M h G T N ρ ce sl n ls st s o1) (k2 : ¬ q = 0 → Jg Θ l M h G T N ρ ce sl tgt ls st s o2) : Jg Θ l M h G T N ρ ce sl pc ls (vR q :: st) s (if q = 0 then o1 else o2) := by
  subst hn
  intro r s' ho p e S m args below meth c H locs lr C hS hR hL
  have e9 : cv Θ (vR q) = va_rf (adO Θ q) := rfl
  simp only [List.map_cons]
  rw [e9]
  by_cases hq : q = 0
  · rw [if_pos hq] at ho
    have e2 : adO Θ q = none := by rw [adO, if_pos hq]
    rw [e2]
    exact lv_ifnonnullN C.1 C.2.1 hd (k1 hq r s' ho p e S m args below meth c H locs lr C hS hR hL)
  · rw [if_neg hq] at ho
    have e2 : adO Θ q = some (adr Θ q) := by rw [adO, if_neg hq]
    rw [e2]
    exact lv_ifnonnull C.1 C.2.1 hd ht (k2 hq r s' ho p e S m args below meth c H locs lr C hS hR hL)
theorem j_ifnonnull_T {q : Nat} {off : Int} (tgt n : Nat) (hd : decode M.2.1 pc = .ok (.ifnonnull off, 3)) (ht : (pc : Int) + off = (tgt : Int)) (hn : pc + 3 = n) (hc : q = 0) (k : Jg Θ l M h G T N ρ ce sl n ls st s o) : Jg Θ l M h G T N ρ ce sl pc ls (vR q :: st) s o := by
  have h1 := j_ifnonnull (o1 := o) (o2 := none) tgt n hd ht hn (fun _ => k) (fun h => absurd hc h)
  rw [if_pos hc] at h1
  exact h1
theorem j_ifnonnull_F {q : Nat} {off : Int} (tgt n : Nat) (hd : decode M.2.1 pc = .ok (.ifnonnull off, 3)) (ht : (pc : Int) + off = (tgt : Int)) (hn : pc + 3 = n) (hc : ¬ q = 0) (k : Jg Θ l M h G T N ρ ce sl tgt ls st s o) : Jg Θ l M h G T N ρ ce sl pc ls (vR q :: st) s o := by
  have h1 := j_ifnonnull (o1 := none) (o2 := o) tgt n hd ht hn (fun h => absurd h hc) (fun _ => k)
  rw [if_neg hc] at h1
  exact h1
theorem j_none : Jg Θ l M h G T N ρ ce sl pc ls st s (none : Option (α × Mem)) := by
  intro r s' ho
  cases ho
theorem j_sub {ls' : List (Option AV)} (hs : subL ls' ls) (k : Jg Θ l M h G T N ρ ce sl pc ls' st s o) : Jg Θ l M h G T N ρ ce sl pc ls st s o := by
  intro r s' ho p e S m args below meth c H locs lr C hS hR hL
  exact k r s' ho p e S m args below meth c H locs lr C hS hR (lr_sub hL hs)
theorem j_ite {c : Prop} [Decidable c] (k1 : c → Jg Θ l M h G T N ρ ce sl pc ls st s o1) (k2 : ¬ c → Jg Θ l M h G T N ρ ce sl pc ls st s o2) : Jg Θ l M h G T N ρ ce sl pc ls st s (if c then o1 else o2) := by
  by_cases hc : c
  · rw [if_pos hc]; exact k1 hc
  · rw [if_neg hc]; exact k2 hc
theorem j_eq (he : o = o1) (k : Jg Θ l M h G T N ρ ce sl pc ls st s o1) : Jg Θ l M h G T N ρ ce sl pc ls st s o := by
  subst he
  exact k
end JR
