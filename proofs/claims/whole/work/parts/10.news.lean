/-- a class's fresh fields -/
def Dfl (c : Nat) (ty : Nat → FieldType) : Prop := ∀ k, k < nf c → defaultValue (ty k) = if fk c k = 0 then .int 0 else if fk c k = 1 then .long 0 else .null
/-- a cell that is still blank -/
def Blk (s : Mem) (ρ : Rf) (q : Nat) : Prop := (∀ j, s.1 q j = 0) ∧ (∀ j, s.2 q j = 0) ∧ ∀ j, ρ q j = 0
section JN
variable {α : Type} {Θ : Th} {l : Launch} {M : Mi} {h : Nat} {G : α → Option AV} {T : Tg} {N : Nat} {ρ : Rf} {ce sl pc : Nat} {ls : List (Option AV)} {st : List AV} {s : Mem} {o o1 o2 : Option (α × Mem)}
theorem Rel_push {H H1 : Heap} {e : va_E} (hR : Rel Θ N ρ s H) (hN : N < NNc) (he : cellOf Θ ρ s (N + 1) = e) (hat : va_at Θ.1 vwCl (Θ.2.1 + (N + 1), e) H1) (hz : H1.size = H.size + 1) (ho : ∀ q, q < H.size → H1[q]? = H[q]?) : Rel Θ (N + 1) ρ s H1 := by
  refine ⟨?_, fun _ => by rw [hz, hR.2 hN]; omega⟩
  rw [← wsN_push (a := Θ.2.1 + (N + 1)) rfl he]
  refine (hR.1.kept (fun k x hx => ho x.1 ((hR.1 k x hx).lt))).app (fun k x hx => ?_)
  have hk : k < 1 := (List.getElem?_eq_some_iff.mp hx).1
  rw [show k = 0 by omega] at hx
  cases hx
  exact hat
theorem S_push {H0 H H1 : Heap} {locs : List Loc} (hS : va_S (Ar Θ) H0 H locs) (hz : H1.size = H.size + 1) (ho : ∀ q, q < H.size → H1[q]? = H[q]?) : va_S (Ar Θ) H0 H1 locs :=
  ⟨Nat.le_trans hS.1 (by omega), fun x h1 h2 => (ho x (Nat.lt_of_lt_of_le h1 hS.1)).trans (hS.2.1 x h1 h2), hS.2.2⟩
theorem j_new {c i : Nat} {CN : String} {Tb : u_T} {ty : Nat → FieldType} (n : Nat) (hC : Cls c CN Tb ty) (hdf : Dfl c ty) (hd : decode M.2.1 pc = .ok (.new i, 3)) (hn : pc + 3 = n) (hw1 : Cond.classLink M.1.cls i CN ∈ gtb) (hw2 : Cond.instantiable CN (nf c) ∈ gtb) (hw3 : Cond.initialized CN ∈ gtb) (hN : N < NNc) (hN2 : N + 1 < 900) (hk : kd (N + 1) = c) (hb : Blk s ρ (N + 1)) (hce : ce + 1 ≤ T.2.2.1) (hsl : sl + nf c ≤ T.2.2.2)
    (k : Jg Θ l M h G T (N + 1) ρ (ce + 1) (sl + nf c) n ls (vR (N + 1) :: st) s o) : Jg Θ l M h G T N ρ ce sl pc ls st s o := by
  subst hn
  intro r s' ho p e S m args below meth cd H locs lr C hS hR hL
  obtain ⟨hc1, hcl, hin, hty, hnm⟩ := hC
  have hK := C.2.2.2.2.2.2.2.2.1.1
  have hKn := hK.1 c _ hcl
  have hsz : H.size = Θ.2.1 + (N + 1) := by rw [hR.2 hN]; omega
  refine W.newcK C.1 C.2.1 C.2.2.2.2.1 (cx_word C hw1) (cx_word C hw2) (cx_word C hw3) rfl hd hce hsl hKn.2.1 hsz fun H1 kC hkC e1 z1 o1 => ?_
  have hat : va_at Θ.1 vwCl (Θ.2.1 + (N + 1), .inr (c, (List.range (nf c)).map (fcont Θ ρ s (N + 1)))) H1 := by
    refine ⟨_, hcl, (u_born ty (cx_tbl C) hin hKn hkC e1 hty).to (fun j hj => ?_)⟩
    rw [hdf j hj]
    unfold vp_V
    rw [List.getD_eq_getElem?_getD, List.getElem?_map, List.getElem?_range hj]
    simp only [Option.map_some, Option.getD_some]
    unfold fcont
    rw [hk, hb.1 j, hb.2.1 j, hb.2.2 j]
    rfl
  have k2 := k r s' ho p e S m args below meth cd H1 locs lr C (S_push hS (by omega) (fun q hq => o1 q (by omega))) (Rel_push hR hN (cell_obj hk (by omega)) hat (by omega) (fun q hq => o1 q (by omega))) hL
  simp only [List.map_cons] at k2
  rw [cv_ref (by omega) hN2] at k2
  exact k2
theorem j_newarray {c : Nat} {at_ : ArrayType} {ty : FieldType} {z : Int32} {n0 : Nat} (n : Nat) (hc : c = 20 ∨ c = 21 ∨ c = 22) (hty : newarray.typeOf at_ = ty) (htc : (tysT Θ)[c - 20]? = some (Θ.2.2.2 c, ty)) (hp : ty = .int ∨ ty = .byte ∨ ty = .boolean) (hd : decode M.2.1 pc = .ok (.newarray at_, 2)) (hn : pc + 2 = n) (hw : Cond.arrayClass ty ∈ gtb) (hN : N < NNc) (hN2 : N + 1 < 900) (hk : kd (N + 1) = c) (hln : ln (N + 1) = n0) (hz : ¬ z < 0) (hz2 : z.toNatClampNeg = n0) (hz3 : n0 ≤ 1000) (hb : Blk s ρ (N + 1)) (hce : ce + 1 ≤ T.2.2.1) (hsl : sl + n0 ≤ T.2.2.2)
    (k : Jg Θ l M h G T (N + 1) ρ (ce + 1) (sl + n0) n ls (vR (N + 1) :: st) s o) : Jg Θ l M h G T N ρ ce sl pc ls (vI z :: st) s o := by
  subst hn; subst hty
  intro r s' ho p e S m args below meth cd H locs lr C hS hR hL
  have hK := C.2.2.2.2.2.2.2.2.1.1
  have hsz : H.size = Θ.2.1 + (N + 1) := by rw [hR.2 hN]; omega
  have hbytes : n0 * componentBytes (newarray.typeOf at_) ≤ 536870912 := by
    have : componentBytes (newarray.typeOf at_) ≤ 8 := by cases at_ <;> decide
    calc n0 * componentBytes (newarray.typeOf at_) ≤ 1000 * 8 := Nat.mul_le_mul hz3 this
      _ ≤ 536870912 := by decide
  refine va_newaK (g := F0 m pc lr _) C.1 C.2.1 (cx_word C hw) rfl hd rfl hz hz2 hbytes hce hsl hsz fun H1 cA e1 z1 o1 hAr hNm => ?_
  have hcA : cA = Θ.2.2.2 c := by
    have h1 := (hK.2 _ _ htc).2
    have h2 : S.vm.findClass ("[" ++ (newarray.typeOf at_).toString) = some (Θ.2.2.2 c) := by
      rcases hp with hp | hp | hp <;> (rw [hp] at h1 ⊢; exact h1)
    exact Option.some.inj (hNm.symm.trans h2)
  subst hcA
  have hat : va_at Θ.1 vwCl (Θ.2.1 + (N + 1), .inl (Θ.2.2.2 c, ln (N + 1), .inl (s.1 (N + 1)))) H1 := by
    show H1[Θ.2.1 + (N + 1)]? = some (vp_cell _ _)
    rw [e1, vp_cell_i, hln]
    have e2 : (fun _ : Nat => defaultValue (newarray.typeOf at_)) = fun j => Value.int (s.1 (N + 1) j) := by
      funext j
      rw [hb.1 j]
      rcases hp with hp | hp | hp <;> (rw [hp]; rfl)
    rw [e2]
  have k2 := k r s' ho p e S m args below meth cd H1 locs lr C (S_push hS (by omega) (fun q hq => o1 q (by omega))) (Rel_push hR hN (cell_int hk (by omega) (by omega)) hat (by omega) (fun q hq => o1 q (by omega))) hL
  simp only [List.map_cons] at k2
  rw [cv_ref (by omega) hN2] at k2
  exact k2
theorem j_anewarray {c i : Nat} {CN : String} {z : Int32} {n0 : Nat} (n : Nat) (hc : (c = 23 ∧ CN = "HeavierSide$Row") ∨ (c = 24 ∧ CN = "HeavierSide$Text")) (hd : decode M.2.1 pc = .ok (.anewarray i, 3)) (hn : pc + 3 = n) (hw : Cond.classLink M.1.cls i CN ∈ gtb) (hN : N < NNc) (hN2 : N + 1 < 900) (hk : kd (N + 1) = c) (hln : ln (N + 1) = n0) (hz : ¬ z < 0) (hz2 : z.toNatClampNeg = n0) (hz3 : n0 ≤ 1000) (hb : Blk s ρ (N + 1)) (hce : ce + 1 ≤ T.2.2.1) (hsl : sl + n0 ≤ T.2.2.2)
    (k : Jg Θ l M h G T (N + 1) ρ (ce + 1) (sl + n0) n ls (vR (N + 1) :: st) s o) : Jg Θ l M h G T N ρ ce sl pc ls (vI z :: st) s o := by
  subst hn; subst hz2
  intro r s' ho p e S m args below meth cd H locs lr C hS hR hL
  have hF := C.2.2.2.2.2.2.2.2.1
  have hK := hF.1
  have hsz : H.size = Θ.2.1 + (N + 1) := by rw [hR.2 hN]; omega
  have hAO : va_AO CN S ∧ S.vm.findClass ("[" ++ (FieldType.object CN).toString) = some (Θ.2.2.2 c) := by
    rcases hc with ⟨rfl, rfl⟩ | ⟨rfl, rfl⟩
    · obtain ⟨_, _, _, _, _, h5⟩ := (hK.2 3 _ ty_at.2.2.2.1).2
      exact ⟨hF.2.2.2.1, h5⟩
    · obtain ⟨_, _, _, _, _, h5⟩ := (hK.2 4 _ ty_at.2.2.2.2).2
      exact ⟨hF.2.2.2.2, h5⟩
  refine W.anew (g := F0 m pc lr _) C.1 C.2.1 C.2.2.2.2.1 (cx_word C hw) (va_AO.use hAO.1) rfl hd rfl hz (by omega) hce hsl fun cA kA comp f1 f2 f3 f4 => ?_
  have hcA : cA = Θ.2.2.2 c := Option.some.inj (f1.symm.trans hAO.2)
  subst hcA
  generalize hH1 : H.push ({ cls := Θ.2.2.2 c, slots := Array.replicate z.toNatClampNeg .null, vm := .none } : Cell) = H1
  have z1 : H1.size = H.size + 1 := by rw [← hH1, Array.size_push]
  have e1 : H1[H.size]? = some (arrV (Θ.2.2.2 c) z.toNatClampNeg (fun _ => .null)) := by rw [← hH1, Array.getElem?_push_size, ← arrV_new]
  have o1 : ∀ q : Nat, q < H.size → H1[q]? = H[q]? := fun q hq => by rw [← hH1, Array.getElem?_push, if_neg (Nat.ne_of_lt hq)]
  have hat : va_at Θ.1 vwCl (Θ.2.1 + (N + 1), .inl (Θ.2.2.2 c, ln (N + 1), .inr (.inr (.inr (.inr (fun k => adO Θ (ρ (N + 1) k))))))) H1 := by
    show H1[Θ.2.1 + (N + 1)]? = some (vp_cell _ _)
    rw [← hsz, e1, vp_cell_q, hln]
    have e2 : (fun _ : Nat => Value.null) = fun j => va_rf (adO Θ (ρ (N + 1) j)) := by
      funext j
      rw [hb.2.2 j]
      rfl
    rw [e2]
  have k2 := k r s' ho p e S m args below meth cd H1 locs lr C (S_push hS z1 o1) (Rel_push hR hN (cell_ref hk (by omega)) hat z1 o1) hL
  simp only [List.map_cons] at k2
  rw [cv_ref (by omega) hN2, ← hsz] at k2
  exact k2
theorem j_aastore {q c cv_ x : Nat} {CN : String} {Tb : u_T} {ty : Nat → FieldType} {i : Int32} (n : Nat) (hc : (c = 23 ∧ CN = "HeavierSide$Row") ∨ (c = 24 ∧ CN = "HeavierSide$Text")) (hC : Cls cv_ CN Tb ty) (hd : decode M.2.1 pc = .ok (.aastore, 1)) (hn : pc + 1 = n) (hq1 : 0 < q) (hq2 : q ≤ N) (hN : N < 900) (hk : kd q = c) (hx1 : 0 < x) (hx2 : x ≤ N) (hkx : kd x = cv_) {z : Nat} (hz : ln q = z) (hb : inb i z = true)
    (k : Jg Θ l M h G T N (wR ρ q (ix i) x) ce sl n ls st s o) : Jg Θ l M h G T N ρ ce sl pc ls (vR x :: vI i :: vR q :: st) s o := by
  subst hn; subst hz
  intro r s' ho p e S m args below meth cd H locs lr C hS hR hL
  simp only [List.map_cons]
  rw [cv_ref hq1 (by omega), cv_ref hx1 (by omega)]
  obtain ⟨hc1, hcl, hin, hty, hnm⟩ := hC
  have hK := C.2.2.2.2.2.2.2.2.1.1
  have hcell := wsN_at (Θ := Θ) (ρ := ρ) (s := s) hq1 hq2
  rw [cell_ref hk (by omega)] at hcell
  have hcx := wsN_at (Θ := Θ) (ρ := ρ) (s := s) hx1 hx2
  rw [cell_obj hkx (by omega)] at hcx
  have hD := wsN_D Θ N ρ s
  obtain ⟨r', hr', cellV, g1, g2, g3, -⟩ := hR.1 (x - 1) _ hcx
  have hcls := (hK.1 cv_ _ hcl).2
  have hra : ∃ (kA : Class), S.vm.classes[Θ.2.2.2 c]? = some kA ∧ kA.kind = .array (Θ.1.1 cv_) (.object CN) := by
    rcases hc with ⟨rfl, rfl⟩ | ⟨rfl, rfl⟩
    · obtain ⟨kA, comp, k1, k2, k3, -⟩ := (hK.2 3 _ ty_at.2.2.2.1).2
      have hcomp : comp = Θ.1.1 cv_ := Option.some.inj (k3.symm.trans hcls.1)
      exact ⟨kA, k1, hcomp ▸ k2⟩
    · obtain ⟨kA, comp, k1, k2, k3, -⟩ := (hK.2 4 _ ty_at.2.2.2.2).2
      have hcomp : comp = Θ.1.1 cv_ := Option.some.inj (k3.symm.trans hcls.1)
      exact ⟨kA, k1, hcomp ▸ k2⟩
  obtain ⟨kA, k1, k2⟩ := hra
  obtain ⟨kC, hkC, -⟩ := hcls.2
  have hin2 := inb_in hb
  refine W.aast C.1 C.2.1 (hR.1 (q - 1) _ hcell) (fun q h => by cases h) (fun h => by cases h) k1 k2 rfl hkC ⟨fun z => hin2 (Or.inl z), by show _ < (arrV _ _ _).slots.size; rw [arrV_size]; exact Nat.not_le.mp (fun z => hin2 (Or.inr z))⟩ g1 (fun q h => by rw [g3] at h; cases h) (by rw [g2]; exact hkC) (by rw [g2]; exact va_assign hcls) rfl rfl hd fun H1 e1 z oq => ?_
  have hat : va_at Θ.1 vwCl (Θ.2.1 + q, .inl (Θ.2.2.2 c, ln q, .inr (.inr (.inr (.inr (fun k => adO Θ (wR ρ q (ix i) x q k))))))) H1 := by
    show H1[Θ.2.1 + q]? = some (vp_cell _ _)
    rw [e1, vp_cell_q, vp_cell_q, arrV_store]
    congr 2
    funext b
    by_cases hb2 : b = ix i
    · subst hb2
      have e3 : adO Θ x = some (Θ.2.1 + x) := by rw [adO, if_neg (by omega), adr_lo (by omega)]
      simp [updV, wR, e3, ix, va_rf]
    · have hb3 : ¬ b = i.toNatClampNeg := hb2
      simp [updV, wR, hb2, hb3]
  have hset : (wsN Θ N ρ s).set (q - 1) (Θ.2.1 + q, .inl (Θ.2.2.2 c, ln q, .inr (.inr (.inr (.inr (fun k => adO Θ (wR ρ q (ix i) x q k))))))) = wsN Θ N (wR ρ q (ix i) x) s :=
    wsN_set hq1 hq2 (cell_ref hk (by omega)) (fun a ha => cell_congr rfl rfl (wR_ne ha))
  exact k r s' ho p e S m args below meth cd H1 _ lr C (hS.put z oq (hD.2 _ _ hcell)) (Rel_lift (hR.1.set hD hcell hat oq) hset z hR.2) hL
-- switches
theorem j_tabIn {dflt lo hi off : Int} {offs : Array Int} {len : Nat} {x v : Int32} (tgt : Nat) (hd : decode M.2.1 pc = .ok (.tableswitch dflt lo hi offs, len)) (hx : x = v) (h1 : ¬ v.toInt < lo) (h2 : ¬ hi < v.toInt) (ho : offs[(v.toInt - lo).toNat]? = some off) (ht : (pc : Int) + off = (tgt : Int)) (k : Jg Θ l M h G T N ρ ce sl tgt ls st s o) : Jg Θ l M h G T N ρ ce sl pc ls (vI x :: st) s o := by
  subst hx
  intro r s' ho2 p e S m args below meth cd H locs lr C hS hR hL
  exact lv_tableIn C.1 C.2.1 hd h1 h2 ho ht (k r s' ho2 p e S m args below meth cd H locs lr C hS hR hL)
theorem j_tabOut {dflt lo hi : Int} {offs : Array Int} {len : Nat} {x : Int32} (tgt : Nat) (hd : decode M.2.1 pc = .ok (.tableswitch dflt lo hi offs, len)) (hx : x.toInt < lo ∨ hi < x.toInt) (ht : (pc : Int) + dflt = (tgt : Int)) (k : Jg Θ l M h G T N ρ ce sl tgt ls st s o) : Jg Θ l M h G T N ρ ce sl pc ls (vI x :: st) s o := by
  intro r s' ho2 p e S m args below meth cd H locs lr C hS hR hL
  exact lv_tableOut C.1 C.2.1 hd hx ht (k r s' ho2 p e S m args below meth cd H locs lr C hS hR hL)
theorem j_lookup {dflt off : Int} {ps : Array (Int × Int)} {len : Nat} {x : Int32} (tgt : Nat) (hd : decode M.2.1 pc = .ok (.lookupswitch dflt ps, len)) (hp : (ps.toList.zip (ps.toList.drop 1)).all (fun (a, next) => a.1 < next.1) = true) (ho : Op.lookupswitch.offset ps.toList dflt x.toInt = off) (ht : (pc : Int) + off = (tgt : Int)) (k : Jg Θ l M h G T N ρ ce sl tgt ls st s o) : Jg Θ l M h G T N ρ ce sl pc ls (vI x :: st) s o := by
  intro r s' ho2 p e S m args below meth cd H locs lr C hS hR hL
  exact lv_lookup C.1 C.2.1 hd hp ho ht (k r s' ho2 p e S m args below meth cd H locs lr C hS hR hL)
end JN
