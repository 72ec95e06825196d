section JA
variable {α : Type} {Θ : Th} {l : Launch} {M : Mi} {h : Nat} {G : α → Option AV} {T : Tg} {N : Nat} {ρ : Rf} {ce sl pc : Nat} {ls : List (Option AV)} {st : List AV} {s : Mem} {o o1 o2 : Option (α × Mem)}
theorem ty_at {Θ : Th} : (tysT Θ)[0]? = some (Θ.2.2.2 20, .int) ∧ (tysT Θ)[1]? = some (Θ.2.2.2 21, .byte) ∧ (tysT Θ)[2]? = some (Θ.2.2.2 22, .boolean) ∧ (tysT Θ)[3]? = some (Θ.2.2.2 23, .object "HeavierSide$Row") ∧ (tysT Θ)[4]? = some (Θ.2.2.2 24, .object "HeavierSide$Text") := ⟨rfl, rfl, rfl, rfl, rfl⟩
theorem at_int {q c : Nat} (hq1 : 0 < q) (hq2 : q ≤ N) (hk : kd q = c) (h1 : 20 ≤ c) (h2 : c < 23) : (wsN Θ N ρ s)[q - 1]? = some (Θ.2.1 + q, .inl (Θ.2.2.2 c, ln q, .inl (s.1 q))) := by
  rw [wsN_at hq1 hq2, cell_int hk h1 h2]
theorem set_int {q c j : Nat} {x : Int32} (hq1 : 0 < q) (hq2 : q ≤ N) (hk : kd q = c) (h1 : 20 ≤ c) (h2 : c < 23) : (wsN Θ N ρ s).set (q - 1) (Θ.2.1 + q, .inl (Θ.2.2.2 c, ln q, .inl (upd (s.1 q) j x))) = wsN Θ N ρ (wI s q j x) := by
  refine wsN_set hq1 hq2 ?_ (fun a ha => cell_congr (wI_ne ha) rfl rfl)
  rw [cell_int hk h1 h2, wI_eq]
theorem arr_upd {cA : ClassId} {n i : Nat} {f : Nat → Int32} {x : Int32} : (vp_cell cA (n, .inl f)).setSlot i (.int x) = vp_cell cA (n, .inl (upd f i x)) := by
  rw [vp_cell_i, vp_cell_i, arrV_store]
  congr 2
  funext q
  by_cases hq : q = i
  · subst hq
    simp [updV, upd]
  · simp [updV, upd, hq]
theorem j_iaload {q : Nat} {i : Int32} (n : Nat) (hd : decode M.2.1 pc = .ok (.iaload, 1)) (hn : pc + 1 = n) (hq1 : 0 < q) (hq2 : q ≤ N) (hN : N < 900) (hk : kd q = 20) {z : Nat} (hz : ln q = z) (k : inb i z = true → Jg Θ l M h G T N ρ ce sl n ls (vI (s.1 q (ix i)) :: st) s o) : Jg Θ l M h G T N ρ ce sl pc ls (vI i :: vR q :: st) s (if inb i z = true then o else none) := by
  subst hn; subst hz
  intro r s' ho p e S m args below meth c H locs lr C hS hR hL
  by_cases hb : inb i (ln q) = true
  · rw [if_pos hb] at ho
    simp only [List.map_cons]
    rw [cv_ref hq1 (by omega)]
    exact va_iald C.1 C.2.1 C.2.2.2.2.2.2.2.2.1.1 hR.1 (q - 1) 0 (at_int hq1 hq2 hk (by omega) (by omega)) ty_at.1 (inb_in hb) hd (k hb r s' ho p e S m args below meth c H locs lr C hS hR hL)
  · rw [if_neg hb] at ho
    cases ho
theorem j_baload {q : Nat} {i : Int32} (n : Nat) (hd : decode M.2.1 pc = .ok (.baload, 1)) (hn : pc + 1 = n) (hq1 : 0 < q) (hq2 : q ≤ N) (hN : N < 900) (hk : kd q = 21 ∨ kd q = 22) {z : Nat} (hz : ln q = z) (k : inb i z = true → Jg Θ l M h G T N ρ ce sl n ls (vI (s.1 q (ix i)) :: st) s o) : Jg Θ l M h G T N ρ ce sl pc ls (vI i :: vR q :: st) s (if inb i z = true then o else none) := by
  subst hn; subst hz
  intro r s' ho p e S m args below meth c H locs lr C hS hR hL
  by_cases hb : inb i (ln q) = true
  · rw [if_pos hb] at ho
    simp only [List.map_cons]
    rw [cv_ref hq1 (by omega)]
    rcases hk with hk | hk
    · exact va_bald C.1 C.2.1 C.2.2.2.2.2.2.2.2.1.1 hR.1 (q - 1) 1 (at_int hq1 hq2 hk (by omega) (by omega)) ty_at.2.1 (inb_in hb) hd (k hb r s' ho p e S m args below meth c H locs lr C hS hR hL)
    · exact va_zald C.1 C.2.1 C.2.2.2.2.2.2.2.2.1.1 hR.1 (q - 1) 2 (at_int hq1 hq2 hk (by omega) (by omega)) ty_at.2.2.1 (inb_in hb) hd (k hb r s' ho p e S m args below meth c H locs lr C hS hR hL)
  · rw [if_neg hb] at ho
    cases ho
theorem j_alen {q c : Nat} {v : Int32} (n : Nat) (hd : decode M.2.1 pc = .ok (.arraylength, 1)) (hn : pc + 1 = n) (hq1 : 0 < q) (hq2 : q ≤ N) (hN : N < 900) (hk : kd q = c) (h1 : 20 ≤ c) (h2 : c < 25) (hv : Int32.ofNat (ln q) = v) (k : Jg Θ l M h G T N ρ ce sl n ls (vI v :: st) s o) : Jg Θ l M h G T N ρ ce sl pc ls (vR q :: st) s o := by
  subst hn
  intro r s' ho p e S m args below meth cd H locs lr C hS hR hL
  have k2 := k r s' ho p e S m args below meth cd H locs lr C hS hR hL
  simp only [List.map_cons] at k2 ⊢
  rw [cv_ref hq1 (by omega)]
  have hK := C.2.2.2.2.2.2.2.2.1.1
  have hcell := wsN_at (Θ := Θ) (ρ := ρ) (s := s) hq1 hq2
  rcases (show c = 20 ∨ c = 21 ∨ c = 22 ∨ c = 23 ∨ c = 24 by omega) with e1 | e1 | e1 | e1 | e1 <;> subst e1
  · rw [cell_int hk (by omega) (by omega)] at hcell
    exact va_alen C.1 C.2.1 hK hR.1 (q - 1) 0 hcell ty_at.1 hv hd k2
  · rw [cell_int hk (by omega) (by omega)] at hcell
    exact va_alen C.1 C.2.1 hK hR.1 (q - 1) 1 hcell ty_at.2.1 hv hd k2
  · rw [cell_int hk (by omega) (by omega)] at hcell
    exact va_alen C.1 C.2.1 hK hR.1 (q - 1) 2 hcell ty_at.2.2.1 hv hd k2
  · rw [cell_ref hk (by omega)] at hcell
    exact va_alen C.1 C.2.1 hK hR.1 (q - 1) 3 hcell ty_at.2.2.2.1 hv hd k2
  · rw [cell_ref hk (by omega)] at hcell
    exact va_alen C.1 C.2.1 hK hR.1 (q - 1) 4 hcell ty_at.2.2.2.2 hv hd k2
theorem j_iastore {q : Nat} {i x : Int32} (n : Nat) (hd : decode M.2.1 pc = .ok (.iastore, 1)) (hn : pc + 1 = n) (hq1 : 0 < q) (hq2 : q ≤ N) (hN : N < 900) (hk : kd q = 20) {z : Nat} (hz : ln q = z) (k : inb i z = true → Jg Θ l M h G T N ρ ce sl n ls st (wI s q (ix i) x) o) : Jg Θ l M h G T N ρ ce sl pc ls (vI x :: vI i :: vR q :: st) s (if inb i z = true then o else none) := by
  subst hn; subst hz
  intro r s' ho p e S m args below meth c H locs lr C hS hR hL
  by_cases hb : inb i (ln q) = true
  · rw [if_pos hb] at ho
    simp only [List.map_cons]
    rw [cv_ref hq1 (by omega)]
    have hat := at_int (Θ := Θ) (ρ := ρ) (s := s) hq1 hq2 hk (by omega) (by omega)
    have hD := wsN_D Θ N ρ s
    refine W.iast C.1 C.2.1 (hR.1 (q - 1) _ hat) ((C.2.2.2.2.2.2.2.2.1.1.2 0 _ ty_at.1).1 (ln q) (fun j => .int (s.1 q j))) (fun z => by cases z) (by show ¬ (i < 0 ∨ (arrV _ _ _).slots.size ≤ _); rw [arrV_size]; exact inb_in hb) rfl rfl hd fun H1 e1 z oq => ?_
    have hP1 : va_P Θ.1 vwCl ((wsN Θ N ρ s).set (q - 1) (Θ.2.1 + q, .inl (Θ.2.2.2 20, ln q, .inl (upd (s.1 q) (ix i) x)))) H1 := by
      refine hR.1.set hD hat ?_ oq
      show H1[Θ.2.1 + q]? = some (vp_cell _ _)
      rw [e1]
      exact congrArg some arr_upd
    exact k hb r s' ho p e S m args below meth c H1 _ lr C (hS.put z oq (hD.2 _ _ hat)) (Rel_lift hP1 (set_int hq1 hq2 hk (by omega) (by omega)) z hR.2) hL
  · rw [if_neg hb] at ho
    cases ho
theorem j_bastore {q : Nat} {i x : Int32} (n : Nat) (hd : decode M.2.1 pc = .ok (.bastore, 1)) (hn : pc + 1 = n) (hq1 : 0 < q) (hq2 : q ≤ N) (hN : N < 900) (hk : kd q = 21) {z : Nat} (hz : ln q = z) (k : inb i z = true → Jg Θ l M h G T N ρ ce sl n ls st (wI s q (ix i) x.toInt8.toInt32) o) : Jg Θ l M h G T N ρ ce sl pc ls (vI x :: vI i :: vR q :: st) s (if inb i z = true then o else none) := by
  subst hn; subst hz
  intro r s' ho p e S m args below meth c H locs lr C hS hR hL
  by_cases hb : inb i (ln q) = true
  · rw [if_pos hb] at ho
    simp only [List.map_cons]
    rw [cv_ref hq1 (by omega)]
    have hat := at_int (Θ := Θ) (ρ := ρ) (s := s) hq1 hq2 hk (by omega) (by omega)
    have hD := wsN_D Θ N ρ s
    refine W.bast C.1 C.2.1 (hR.1 (q - 1) _ hat) ((C.2.2.2.2.2.2.2.2.1.1.2 1 _ ty_at.2.1).1 (ln q) (fun j => .int (s.1 q j))) (fun z => by cases z) (by show ¬ (i < 0 ∨ (arrV _ _ _).slots.size ≤ _); rw [arrV_size]; exact inb_in hb) rfl rfl hd fun H1 e1 z oq => ?_
    have hP1 : va_P Θ.1 vwCl ((wsN Θ N ρ s).set (q - 1) (Θ.2.1 + q, .inl (Θ.2.2.2 21, ln q, .inl (upd (s.1 q) (ix i) x.toInt8.toInt32)))) H1 := by
      refine hR.1.set hD hat ?_ oq
      show H1[Θ.2.1 + q]? = some (vp_cell _ _)
      rw [e1]
      exact congrArg some arr_upd
    exact k hb r s' ho p e S m args below meth c H1 _ lr C (hS.put z oq (hD.2 _ _ hat)) (Rel_lift hP1 (set_int hq1 hq2 hk (by omega) (by omega)) z hR.2) hL
  · rw [if_neg hb] at ho
    cases ho
/-- into a row of booleans -/
theorem j_zastore {q : Nat} {i x : Int32} (n : Nat) (hd : decode M.2.1 pc = .ok (.bastore, 1)) (hn : pc + 1 = n) (hq1 : 0 < q) (hq2 : q ≤ N) (hN : N < 900) (hk : kd q = 22) {z : Nat} (hz : ln q = z) (k : inb i z = true → Jg Θ l M h G T N ρ ce sl n ls st (wI s q (ix i) (vp_nar .boolean x)) o) : Jg Θ l M h G T N ρ ce sl pc ls (vI x :: vI i :: vR q :: st) s (if inb i z = true then o else none) := by
  subst hn; subst hz
  intro r s' ho p e S m args below meth c H locs lr C hS hR hL
  by_cases hb : inb i (ln q) = true
  · rw [if_pos hb] at ho
    simp only [List.map_cons]
    rw [cv_ref hq1 (by omega)]
    have hat := at_int (Θ := Θ) (ρ := ρ) (s := s) hq1 hq2 hk (by omega) (by omega)
    have hD := wsN_D Θ N ρ s
    refine W.zast C.1 C.2.1 (hR.1 (q - 1) _ hat) ((C.2.2.2.2.2.2.2.2.1.1.2 2 _ ty_at.2.2.1).1 (ln q) (fun j => .int (s.1 q j))) (fun z => by cases z) (by show ¬ (i < 0 ∨ (arrV _ _ _).slots.size ≤ _); rw [arrV_size]; exact inb_in hb) rfl rfl hd fun H1 e1 z oq => ?_
    have hP1 : va_P Θ.1 vwCl ((wsN Θ N ρ s).set (q - 1) (Θ.2.1 + q, .inl (Θ.2.2.2 22, ln q, .inl (upd (s.1 q) (ix i) (vp_nar .boolean x))))) H1 := by
      refine hR.1.set hD hat ?_ oq
      show H1[Θ.2.1 + q]? = some (vp_cell _ _)
      rw [e1]
      exact congrArg some arr_upd
    exact k hb r s' ho p e S m args below meth c H1 _ lr C (hS.put z oq (hD.2 _ _ hat)) (Rel_lift hP1 (set_int hq1 hq2 hk (by omega) (by omega)) z hR.2) hL
  · rw [if_neg hb] at ho
    cases ho
/-- a row of references -/
theorem j_aaload {q c : Nat} {i : Int32} (n : Nat) (hd : decode M.2.1 pc = .ok (.aaload, 1)) (hn : pc + 1 = n) (hq1 : 0 < q) (hq2 : q ≤ N) (hN : N < 900) (hk : kd q = c) (h1 : c = 23 ∨ c = 24) {z : Nat} (hz : ln q = z) (k : inb i z = true → Jg Θ l M h G T N ρ ce sl n ls (vR (ρ q (ix i)) :: st) s o) : Jg Θ l M h G T N ρ ce sl pc ls (vI i :: vR q :: st) s (if inb i z = true then o else none) := by
  subst hn; subst hz
  intro r s' ho p e S m args below meth cd H locs lr C hS hR hL
  by_cases hb : inb i (ln q) = true
  · rw [if_pos hb] at ho
    simp only [List.map_cons]
    rw [cv_ref hq1 (by omega)]
    have hcell := wsN_at (Θ := Θ) (ρ := ρ) (s := s) hq1 hq2
    rw [cell_ref hk (by omega)] at hcell
    rcases h1 with h1 | h1 <;> subst h1
    · exact va_aldq C.1 C.2.1 C.2.2.2.2.2.2.2.2.1.1 hR.1 (q - 1) 3 hcell ty_at.2.2.2.1 (inb_in hb) hd (k hb r s' ho p e S m args below meth cd H locs lr C hS hR hL)
    · exact va_aldq C.1 C.2.1 C.2.2.2.2.2.2.2.2.1.1 hR.1 (q - 1) 4 hcell ty_at.2.2.2.2 (inb_in hb) hd (k hb r s' ho p e S m args below meth cd H locs lr C hS hR hL)
  · rw [if_neg hb] at ho
    cases ho
/-- the static rows -/
theorem j_getstatic {t i : Nat} (n : Nat) (hd : decode M.2.1 pc = .ok (.getstatic i, 3)) (hn : pc + 3 = n) (ht : t < 4) (hw : Cond.fieldLink M.1.cls i "HeavierSide$Barge" (stN t) "[I" ∈ gtb) (k : Jg Θ l M h G T N ρ ce sl n ls (vR (901 + t) :: st) s o) : Jg Θ l M h G T N ρ ce sl pc ls st s o := by
  subst hn
  intro r s' ho p e S m args below meth c H locs lr C hS hR hL
  have k2 := k r s' ho p e S m args below meth c H locs lr C hS hR hL
  simp only [List.map_cons] at k2
  have e9 : cv Θ (vR (901 + t)) = .ref (Θ.2.2.1 t) := by
    show va_rf (adO Θ (901 + t)) = _
    rw [adO, if_neg (by omega), adr, if_neg (by omega)]
    have : 901 + t - 901 = t := by omega
    rw [this]
    rfl
  rw [e9] at k2
  exact va_gets C.1 C.2.1 (C.2.2.2.2.2.2.2.2.1.2.1 t ht).1 hS C.2.2.2.2.1 (cx_word C hw) (fun _ h9 => h9) hd k2
theorem cv_st {t : Nat} : cv Θ (vR (901 + t)) = .ref (Θ.2.2.1 t) := by
  show va_rf (adO Θ (901 + t)) = _
  rw [adO, if_neg (by omega), adr, if_neg (by omega)]
  have : 901 + t - 901 = t := by omega
  rw [this]
  rfl
theorem j_ialoadS {t : Nat} {i : Int32} (n : Nat) (hd : decode M.2.1 pc = .ok (.iaload, 1)) (hn : pc + 1 = n) (ht : t < 4) (k : inb i 6 = true → Jg Θ l M h G T N ρ ce sl n ls (vI (stc t (ix i)) :: st) s o) : Jg Θ l M h G T N ρ ce sl pc ls (vI i :: vR (901 + t) :: st) s (if inb i 6 = true then o else none) := by
  subst hn
  intro r s' ho p e S m args below meth c H locs lr C hS hR hL
  by_cases hb : inb i 6 = true
  · rw [if_pos hb] at ho
    simp only [List.map_cons]
    rw [cv_st]
    exact va_ti C.1 C.2.1 (C.2.2.2.2.2.2.2.2.1.2.1 t ht).2 hS (inb_in hb) rfl hd (k hb r s' ho p e S m args below meth c H locs lr C hS hR hL)
  · rw [if_neg hb] at ho
    cases ho
theorem j_alenS {t : Nat} (n : Nat) (hd : decode M.2.1 pc = .ok (.arraylength, 1)) (hn : pc + 1 = n) (ht : t < 4) (k : Jg Θ l M h G T N ρ ce sl n ls (vI 6 :: st) s o) : Jg Θ l M h G T N ρ ce sl pc ls (vR (901 + t) :: st) s o := by
  subst hn
  intro r s' ho p e S m args below meth c H locs lr C hS hR hL
  simp only [List.map_cons]
  rw [cv_st]
  exact va_tlen C.1 C.2.1 (C.2.2.2.2.2.2.2.2.1.2.1 t ht).2 hS (v := 6) rfl hd (k r s' ho p e S m args below meth c H locs lr C hS hR hL)
end JA
