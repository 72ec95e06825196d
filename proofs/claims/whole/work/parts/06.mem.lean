section JM
variable {α : Type} {Θ : Th} {l : Launch} {M : Mi} {h : Nat} {G : α → Option AV} {T : Tg} {N : Nat} {ρ : Rf} {ce sl pc : Nat} {ls : List (Option AV)} {st : List AV} {s : Mem} {o o1 o2 : Option (α × Mem)}
theorem Rel_lift {H H1 : Heap} {ws : va_W} {ρ' : Rf} {s' : Mem} (hP : va_P Θ.1 vwCl ws H1) (he : ws = wsN Θ N ρ' s') (hz : H1.size = H.size) (h0 : N < NNc → H.size = Θ.2.1 + 1 + N) : Rel Θ N ρ' s' H1 := ⟨he ▸ hP, fun hn => hz.trans (h0 hn)⟩
theorem P_size {H : Heap} (hN : 0 < N) (hP : va_P Θ.1 vwCl (wsN Θ N ρ s) H) : Θ.2.1 + N < H.size := (hP _ _ (wsN_at (q := N) hN (Nat.le_refl N))).lt
/-- a store's frame: the size stays -/
theorem S_size {A : Nat → Prop} {H0 H : Heap} {locs : List Loc} (h : va_S A H0 H locs) : H0.size ≤ H.size := h.1
/-- what a final or a plain field asks of the method -/
def pOk (M : Mi) (CN : String) (fin : Bool) : Prop := fin = false ∨ (fin = true ∧ M.1.name = "<init>" ∧ CN = M.1.cls)
theorem j_putG {q c j i : Nat} {CN nm ds : String} {Tb : u_T} {ty : Nat → FieldType} {v : AV} {ρ' : Rf} {s2 : Mem} (n : Nat) (hC : Cls c CN Tb ty) (hd : decode M.2.1 pc = .ok (.putfield i, 3)) (hn : pc + 3 = n) (hq1 : 0 < q) (hq2 : q ≤ N) (hN : N < 900) (hk : kd q = c) (hj : j < nf c) {fin : Bool} (hT : Tb j = (CN, nm, ds, fin)) (hf : pOk M CN fin) (hw : Cond.fieldLink M.1.cls i CN nm ds ∈ gtb)
    {fty : FieldType} (hds : parseFieldDescriptor ds = some fty) (hnar : narrow fty (cv Θ v) = cv Θ v) (hfit : fits fty (cv Θ v) = true)
    (hv : fcont Θ ρ' s2 q j = cv Θ v) (ho1 : ∀ b, b ≠ j → fcont Θ ρ' s2 q b = fcont Θ ρ s q b) (ho2 : ∀ a, a ≠ q → cellOf Θ ρ' s2 a = cellOf Θ ρ s a)
    (k : Jg Θ l M h G T N ρ' ce sl n ls st s2 o) : Jg Θ l M h G T N ρ ce sl pc ls (v :: vR q :: st) s o := by
  subst hn
  intro r s' ho p e S m args below meth cd H locs lr C hS hR hL
  simp only [List.map_cons]
  rw [cv_ref hq1 (by omega)]
  obtain ⟨hc1, hcl, hin, hty, hnm⟩ := hC
  have hcell := wsN_at (Θ := Θ) (ρ := ρ) (s := s) hq1 hq2
  rw [cell_obj hk (by omega)] at hcell
  have e1 : (Tb j).1 = CN := by rw [hT]
  have e2 : (Tb j).2.1 = nm := by rw [hT]
  have e3 : (Tb j).2.2.1 = ds := by rw [hT]
  have e4 : (Tb j).2.2.2 = fin := by rw [hT]
  have hset : (wsN Θ N ρ s).set (q - 1) (Θ.2.1 + q, .inr (c, ((List.range (nf c)).map (fcont Θ ρ s q)).set j (cv Θ v))) = wsN Θ N ρ' s2 := by
    refine wsN_set hq1 hq2 ?_ ho2
    rw [cell_obj hk (by omega), list_set_map hv ho1]
  have fin' : ∀ (H1 : Heap) (locs1 : List Loc), va_P Θ.1 vwCl ((wsN Θ N ρ s).set (q - 1) (Θ.2.1 + q, .inr (c, ((List.range (nf c)).map (fcont Θ ρ s q)).set j (cv Θ v)))) H1 → va_S (Ar Θ) S.heap H1 locs1 → H1.size = H.size → W p l e (rmH h T.2.2.1 T.2.2.2) S m args below meth cd H1 locs1 ce sl (MQ below (Qo Θ G T r s') args S T.2.2.1 T.2.2.2 (Ar Θ)) (F0 m (pc + 3) lr (st.map (cv Θ))) := by
    intro H1 locs1 hP1 hS1 hz
    exact k r s' ho p e S m args below meth cd H1 locs1 lr C hS1 (Rel_lift hP1 hset hz hR.2) hL
  have hK := C.2.2.2.2.2.2.2.2.1.1
  obtain ⟨r0, h1, cell, q1, q2, q3, q4⟩ := hR.1 (q - 1) _ hcell
  have hr0 : r0 = (CN, Tb, nf c) := Option.some.inj (h1.symm.trans hcl)
  subst hr0
  have hap := va_apart (own := M.1.cls) (cx_tbl C) hin ty hty hnm hK hcl
  obtain ⟨hSl, hfc, kC, hkC, hkind⟩ := hK.1 c _ hcl
  obtain ⟨cf, kf, fi, f, hi, hsl⟩ := hSl j hj
  have hlay := cx_word C (hin _ (u_in_lay hj))
  have hD := wsN_D Θ N ρ s
  have hlen : j < ((List.range (nf c)).map (fcont Θ ρ s q)).length := by rw [List.length_map, List.length_range]; exact hj
  have hlk : (Cond.fieldLink M.1.cls i CN nm ds).before args S = true := cx_word C hw
  have hi' : S.fieldFound? CN nm ds = some (cf, kf, fi, f) := by rw [← e1, ← e2, ← e3]; exact hi
  unfold u_lay at hlay
  rcases hf with hf | ⟨hf, hini, hown⟩
  · rw [e4, hf] at hlay
    rw [if_neg (by decide)] at hlay
    have hst := (u_facts hfc hkC (u_lays (cx_tbl C) hin hj) hi).1
    have h6 := u_store hfc hkC hkind hlay hi (by rw [e3]; exact hds) hnar hfit
    refine W.putK C.1 C.2.1 (f := f) ⟨C.2.2.2.2.1, hlk, ⟨_, _, _, hi'⟩, hst⟩ (by rw [q2]; exact h6) q1 q3 (by rw [hsl]; exact k2_hasslot (q4 j hj)) rfl rfl hd fun H' z1 z2 z3 => ?_
    rw [hsl] at z1 ⊢
    exact fin' H' _ (hR.1.set hD hcell ⟨_, hcl, t_OB.to (V := updV (vp_V ((List.range (nf c)).map (fcont Θ ρ s q))) j (cv Θ v)) ⟨_, z1, q2, q3, t_set q4 hap hj (cv Θ v)⟩ (fun b _ => vp_updV_set hlen (cv Θ v) b)⟩ z3) (hS.put z2 z3 (hD.2 (q - 1) _ hcell)) z2
  · rw [e4, hf] at hlay
    rw [if_pos rfl] at hlay
    have hst := (u_facts hfc hkC (u_lays (cx_tbl C) hin hj) hi).1
    have hcf : m.cls = cf := by
      obtain ⟨_, _, c', _, _, _, -, -, hf', -, -, -, hown2, -⟩ := Cond.laysFinal_spec hlay
      have z1 : c' = cf := by have := hi.symm.trans hf'; simp at this; exact this.1.symm
      rw [e1, hown] at hown2
      rw [← z1]; exact Option.some.inj (C.2.2.2.2.1.symm.trans hown2)
    have h6 := u_fits hfc hkC hkind (Or.inr hlay) hi (by rw [e3]; exact hds) hnar hfit
    refine W.putFinK C.1 C.2.1 C.2.2.2.2.1 hlk hi' hst hcf (C.2.2.2.2.2.2.2.1.trans hini) (by rw [q2]; exact h6) q1 q3 (by rw [hsl]; exact k2_hasslot (q4 j hj)) rfl rfl hd fun H' z1 z2 z3 => ?_
    rw [hsl] at z1 ⊢
    exact fin' H' _ (hR.1.set hD hcell ⟨_, hcl, t_OB.to (V := updV (vp_V ((List.range (nf c)).map (fcont Θ ρ s q))) j (cv Θ v)) ⟨_, z1, q2, q3, t_set q4 hap hj (cv Θ v)⟩ (fun b _ => vp_updV_set hlen (cv Θ v) b)⟩ z3) (hS.put z2 z3 (hD.2 (q - 1) _ hcell)) z2
/-- putfield of an int -/
theorem j_putI {q c j i : Nat} {CN nm : String} {Tb : u_T} {ty : Nat → FieldType} {x : Int32} (n : Nat) (hC : Cls c CN Tb ty) (hd : decode M.2.1 pc = .ok (.putfield i, 3)) (hn : pc + 3 = n) (hq1 : 0 < q) (hq2 : q ≤ N) (hN : N < 900) (hk : kd q = c) (hj : j < nf c) {fin : Bool} (hT : Tb j = (CN, nm, "I", fin)) (hf : pOk M CN fin) (hw : Cond.fieldLink M.1.cls i CN nm "I" ∈ gtb) (h0 : fk c j = 0)
    (k : Jg Θ l M h G T N ρ ce sl n ls st (wI s q j x) o) : Jg Θ l M h G T N ρ ce sl pc ls (vI x :: vR q :: st) s o := by
  refine j_putG (v := vI x) (fty := .int) n hC hd hn hq1 hq2 hN hk hj hT hf hw (by decide +kernel) rfl rfl ?_ ?_ ?_ k
  · unfold fcont
    rw [hk, h0, if_pos rfl]
    simp [wI, cv]
  · intro b hb
    unfold fcont
    simp [wI, hb]
  · intro a ha
    exact cell_congr (wI_ne ha) rfl rfl
theorem j_putL {q c j i : Nat} {CN nm : String} {Tb : u_T} {ty : Nat → FieldType} {x : Int64} (n : Nat) (hC : Cls c CN Tb ty) (hd : decode M.2.1 pc = .ok (.putfield i, 3)) (hn : pc + 3 = n) (hq1 : 0 < q) (hq2 : q ≤ N) (hN : N < 900) (hk : kd q = c) (hj : j < nf c) {fin : Bool} (hT : Tb j = (CN, nm, "J", fin)) (hf : pOk M CN fin) (hw : Cond.fieldLink M.1.cls i CN nm "J" ∈ gtb) (h0 : fk c j = 1)
    (k : Jg Θ l M h G T N ρ ce sl n ls st (wL s q j x) o) : Jg Θ l M h G T N ρ ce sl pc ls (vL x :: vR q :: st) s o := by
  refine j_putG (v := vL x) (fty := .long) n hC hd hn hq1 hq2 hN hk hj hT hf hw (by decide +kernel) rfl rfl ?_ ?_ ?_ k
  · unfold fcont
    rw [hk, h0, if_neg (by decide), if_pos rfl]
    simp [wL, cv]
  · intro b hb
    unfold fcont
    simp [wL, hb]
  · intro a ha
    exact cell_congr rfl (wL_ne ha) rfl
theorem j_putR {q c j i x : Nat} {CN nm ds : String} {Tb : u_T} {ty : Nat → FieldType} (n : Nat) (hC : Cls c CN Tb ty) (hd : decode M.2.1 pc = .ok (.putfield i, 3)) (hn : pc + 3 = n) (hq1 : 0 < q) (hq2 : q ≤ N) (hN : N < 900) (hk : kd q = c) (hj : j < nf c) {fin : Bool} (hT : Tb j = (CN, nm, ds, fin)) (hf : pOk M CN fin) (hw : Cond.fieldLink M.1.cls i CN nm ds ∈ gtb) (h0 : fk c j = 2) {fty : FieldType} (hds : parseFieldDescriptor ds = some fty) (hr : (∃ z, fty = .object z) ∨ ∃ z, fty = .array z)
    (k : Jg Θ l M h G T N (wR ρ q j x) ce sl n ls st s o) : Jg Θ l M h G T N ρ ce sl pc ls (vR x :: vR q :: st) s o := by
  have e9 : cv Θ (vR x) = va_rf (adO Θ x) := rfl
  refine j_putG (v := vR x) (fty := fty) n hC hd hn hq1 hq2 hN hk hj hT hf hw hds ?_ ?_ ?_ ?_ ?_ k
  · rw [e9]
    rcases hr with ⟨z, rfl⟩ | ⟨z, rfl⟩ <;> cases adO Θ x <;> rfl
  · rw [e9]
    rcases hr with ⟨z, rfl⟩ | ⟨z, rfl⟩ <;> cases adO Θ x <;> rfl
  · unfold fcont
    rw [hk, h0, if_neg (by decide), if_neg (by decide)]
    simp [wR, cv]
  · intro b hb
    unfold fcont
    simp [wR, hb]
  · intro a ha
    exact cell_congr rfl rfl (wR_ne ha)
theorem inb_in {i : Int32} {n : Nat} (h : inb i n = true) : vp_in i n := by
  unfold inb at h
  rw [Bool.and_eq_true, decide_eq_true_eq, decide_eq_true_eq] at h
  rintro (h1 | h1)
  · exact absurd h1 (Int32.not_lt.mpr h.1)
  · omega
end JM
