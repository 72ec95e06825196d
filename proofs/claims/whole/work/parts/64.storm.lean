-- storm
def nx (x : Int64) : Int64 := (x * 48271) - (x * 48271) / 2147483647 * 2147483647
def cl (v : Int32) : Int32 := if 200 < v then 200 else if v < -200 then -200 else v
theorem cl_eq (v : Int32) : mx (-200) (mn 200 v) = cl v := by
  unfold mx mn cl
  have e1 : (200 : Int32).toInt = 200 := by decide
  have e2 : (-200 : Int32).toInt = -200 := by decide
  by_cases h : 200 < v
  · have h1 : ¬ v < 200 := fun z => by
      have a1 := Int32.lt_iff_toInt_lt.mp z
      have a2 := Int32.lt_iff_toInt_lt.mp h
      omega
    rw [if_pos h, if_neg h1, if_pos (by decide)]
  · rw [if_neg h]
    by_cases h1 : v < 200
    · rw [if_pos h1]
      by_cases h2 : v < -200
      · have h3 : ¬ -200 < v := fun z => by
          have a1 := Int32.lt_iff_toInt_lt.mp z
          have a2 := Int32.lt_iff_toInt_lt.mp h2
          omega
        rw [if_pos h2, if_neg h3]
      · rw [if_neg h2]
        by_cases h3 : -200 < v
        · rw [if_pos h3]
        · rw [if_neg h3]
          apply Int32.toInt_inj.mp
          have a1 : ¬ v.toInt < (-200 : Int32).toInt := fun z => h2 (Int32.lt_iff_toInt_lt.mpr z)
          have a2 : ¬ (-200 : Int32).toInt < v.toInt := fun z => h3 (Int32.lt_iff_toInt_lt.mpr z)
          omega
    · have e : v = 200 := by
        apply Int32.toInt_inj.mp
        have a1 : ¬ v.toInt < (200 : Int32).toInt := fun z => h1 (Int32.lt_iff_toInt_lt.mpr z)
        have a2 : ¬ (200 : Int32).toInt < v.toInt := fun z => h (Int32.lt_iff_toInt_lt.mpr z)
        omega
      subst e
      decide
section STM
variable {s : Mem} {nb n nm' : Nat}
def stm (s : Mem) (n : Nat) (x0 : Int64) (r0 : Int32) : Nat → Int64 × Int32 × Int32
  | 0 => (x0, r0, 0)
  | j + 1 => (nx (stm s n x0 r0 j).1, cl ((stm s n x0 r0 j).2.1 + ((nx (stm s n x0 r0 j).1 - nx (stm s n x0 r0 j).1 / 7 * 7).toInt32 - 3)), if lev s (cl ((stm s n x0 r0 j).2.1 + ((nx (stm s n x0 r0 j).1 - nx (stm s n x0 r0 j).1 / 7 * 7).toInt32 - 3)) + sumI (mo s (pv s j)) n) = 0 then (stm s n x0 r0 j).2.2 + 1 else (stm s n x0 r0 j).2.2)
theorem storm1 (gd : Gd s nb n) (ge : Ge s nb n) (gg : Gg s nm') (x0 : Int64) (r0 : Int32) (κ : Int32 → Int32 → Mem → Option (Int32 × Mem)) : fX11_storm_L31 κ FU x0 r0 0 0 s = κ (stm s n x0 r0 nm').2.1 (stm s n x0 r0 nm').2.2 s := by
  have h40 := gg.2.1
  have key := lp0 (fun k j => fX11_storm_L31 κ k (stm s n x0 r0 j).1 (stm s n x0 r0 j).2.1 (stm s n x0 r0 j).2.2 (nI j) s) (κ (stm s n x0 r0 nm').2.1 (stm s n x0 r0 nm').2.2 s) nm' ?_ ?_ (by omega)
  · exact key
  · intro j k hj
    show fX11_storm_L31 κ (k + 1) _ _ _ (nI j) s = fX11_storm_L31 κ k _ _ _ (nI (j + 1)) s
    rw [fX11_storm_L31, gg.2.2.1, if_pos (nI_lt hj (by omega)), stm]
    generalize stm s n x0 r0 j = t
    obtain ⟨x, r, c⟩ := t
    simp only [nm_eq]
    rw [postureIn_ok gg hj, bnd_some, dry_ok gd ge (pv_ok gg hj).1, bnd_some, isLevel_ok gd, bnd_some, nI_1, cl_eq, Int32.add_comm (sumI (mo s (pv s j)) n)]
    show (if lev s (cl (r + ((nx x - nx x / 7 * 7).toInt32 - 3)) + sumI (mo s (pv s j)) n) = 0 then _ else _) = _
    by_cases hb : lev s (cl (r + ((nx x - nx x / 7 * 7).toInt32 - 3)) + sumI (mo s (pv s j)) n) = 0
    · rw [if_pos hb, if_pos hb]
      rfl
    · rw [if_neg hb, if_neg hb]
      rfl
  · intro k
    show fX11_storm_L31 κ (k + 1) _ _ _ (nI nm') s = _
    rw [fX11_storm_L31, gg.2.2.1, if_neg (nI_nlt (Nat.le_refl _) (by omega))]
theorem storm_step (gd : Gd s nb n) (gg : Gg s nm') {j : Nat} (hj : j < nm') (κ : Int32 → Int32 → Mem → Option (Int32 × Mem)) (k : Nat) (y : Int64) (c v : Int32) :
    (if 200 < v then
        if inb (nI j) 40 = true then
        bnd (fX12_listOf (s.1 80 (ix (nI j))) 200 s) (fun r11 s12 =>
        bnd (fX12_isLevel r11 s12) (fun r13 s14 =>
        if r13 = 0 then
          nm (c + 1) (fun v16 =>
          fX12_storm_L28 κ k y 200 v16 (nI j + 1) s14)
        else
          nm (c + 0) (fun v17 =>
          fX12_storm_L28 κ k y 200 v17 (nI j + 1) s14)))
        else none
      else
        if v < (-200) then
          if inb (nI j) 40 = true then
          bnd (fX12_listOf (s.1 80 (ix (nI j))) (-200) s) (fun r20 s21 =>
          bnd (fX12_isLevel r20 s21) (fun r22 s23 =>
          if r22 = 0 then
            nm (c + 1) (fun v25 =>
            fX12_storm_L28 κ k y (-200) v25 (nI j + 1) s23)
          else
            nm (c + 0) (fun v26 =>
            fX12_storm_L28 κ k y (-200) v26 (nI j + 1) s23)))
          else none
        else
          if inb (nI j) 40 = true then
          bnd (fX12_listOf (s.1 80 (ix (nI j))) v s) (fun r28 s29 =>
          bnd (fX12_isLevel r28 s29) (fun r30 s31 =>
          if r30 = 0 then
            nm (c + 1) (fun v33 =>
            fX12_storm_L28 κ k y v v33 (nI j + 1) s31)
          else
            nm (c + 0) (fun v34 =>
            fX12_storm_L28 κ k y v v34 (nI j + 1) s31)))
          else none) = fX12_storm_L28 κ k y (cl v) (if lev s (cl v + sumI (mo s (pv s j)) n) = 0 then c + 1 else c) (nI (j + 1)) s := by
  have h40 := gg.2.1
  have go : ∀ z : Int32, (if inb (nI j) 40 = true then
        bnd (fX12_listOf (s.1 80 (ix (nI j))) z s) (fun r11 s12 =>
        bnd (fX12_isLevel r11 s12) (fun r13 s14 =>
        if r13 = 0 then
          nm (c + 1) (fun v16 =>
          fX12_storm_L28 κ k y z v16 (nI j + 1) s14)
        else
          nm (c + 0) (fun v17 =>
          fX12_storm_L28 κ k y z v17 (nI j + 1) s14)))
        else none) = fX12_storm_L28 κ k y z (if lev s (z + sumI (mo s (pv s j)) n) = 0 then c + 1 else c) (nI (j + 1)) s := by
    intro z
    rw [if_pos (inb_ok (by omega) (by decide)), ix_nI (by omega), mmin_ok gd gg hj, bnd_some, mLevel_ok, bnd_some, nI_1, nm_eq, nm_eq, Int32.add_zero]
    by_cases hb : lev s (z + sumI (mo s (pv s j)) n) = 0
    · rw [if_pos hb, if_pos hb]
    · rw [if_neg hb, if_neg hb]
  unfold cl
  rw [go, go, go]
  by_cases h1 : 200 < v
  · rw [if_pos h1, if_pos h1]
  · rw [if_neg h1, if_neg h1]
    by_cases h2 : v < -200
    · rw [if_pos h2, if_pos h2]
    · rw [if_neg h2, if_neg h2]
theorem storm2 (gd : Gd s nb n) (gg : Gg s nm') (x0 : Int64) (r0 : Int32) (κ : Int32 → Int32 → Mem → Option (Int32 × Mem)) : fX12_storm_L28 κ FU x0 r0 0 0 s = κ (stm s n x0 r0 nm').2.1 (stm s n x0 r0 nm').2.2 s := by
  have h40 := gg.2.1
  have key := lp0 (fun k j => fX12_storm_L28 κ k (stm s n x0 r0 j).1 (stm s n x0 r0 j).2.1 (stm s n x0 r0 j).2.2 (nI j) s) (κ (stm s n x0 r0 nm').2.1 (stm s n x0 r0 nm').2.2 s) nm' ?_ ?_ (by omega)
  · exact key
  · intro j k hj
    show fX12_storm_L28 κ (k + 1) _ _ _ (nI j) s = fX12_storm_L28 κ k _ _ _ (nI (j + 1)) s
    rw [fX12_storm_L28, gg.2.2.2.1, if_pos (nI_lt hj (by omega)), stm]
    generalize stm s n x0 r0 j = t
    obtain ⟨x, r, c⟩ := t
    show nm (48271 * x - 48271 * x / 2147483647 * 2147483647) _ = _
    rw [nm_eq, nm_eq, Int64.mul_comm 48271 x]
    show _ = fX12_storm_L28 κ k (nx x) (cl (r + ((nx x - nx x / 7 * 7).toInt32 - 3))) (if lev s (cl (r + ((nx x - nx x / 7 * 7).toInt32 - 3)) + sumI (mo s (pv s j)) n) = 0 then c + 1 else c) (nI (j + 1)) s
    rw [← nx]
    exact storm_step gd gg hj κ k (nx x) c _
  · intro k
    show fX12_storm_L28 κ (k + 1) _ _ _ (nI nm') s = _
    rw [fX12_storm_L28, gg.2.2.2.1, if_neg (nI_nlt (Nat.le_refl _) (by omega))]
theorem stm_eq (v : Int32) (n : Nat) (x0 : Int64) (r0 : Int32) : ∀ j, stm (wI s 2 0 v) n x0 r0 j = stm s n x0 r0 j
  | 0 => rfl
  | j + 1 => by
    rw [stm, stm, stm_eq v n x0 r0 j]
    rfl
end STM
theorem al_storm (a1 : Int32) : Alike (fX11_storm a1) (fX12_storm a1) := by
  intro s hI
  obtain ⟨nb, n, nq, nm, nd, ga, gb, gc, gd, ge, gf, gg, gh, gi, gj⟩ := id hI
  unfold fX11_storm fX12_storm
  by_cases h : a1 < 1 ∨ 2147483646 < a1
  · exact ⟨-1, s, s, by rw [within_f h, bnd_some, if_pos rfl], by rw [in_eq, within_f h, bnd_some, if_pos rfl], hI⟩
  · have h1 : ¬ a1 < 1 := fun z => h (Or.inl z)
    have h2 : ¬ 2147483646 < a1 := fun z => h (Or.inr z)
    refine ⟨(stm s n a1.toInt64 (s.1 68 18) nm).2.2, wI s 2 0 (stm s n a1.toInt64 (s.1 68 18) nm).2.1, _, ?_, ?_, Inv_tell hI (stm s n a1.toInt64 (s.1 68 18) nm).2.1⟩
    · rw [within_t h1 h2, bnd_some, if_neg one_ne, nm_eq, nm_eq, gd.rn, storm1 gd ge gg, f_tell, bnd_some]
    · have e : (wI s 2 0 (stm s n a1.toInt64 (s.1 68 18) nm).2.1).1 68 18 = s.1 68 18 := rfl
      rw [in_eq, within_t h1 h2, bnd_some, if_neg one_ne, nm_eq, nm_eq, e, storm2 (Gd_told _ gd) (Gg_told _ gg), stm_eq, f_tells, bnd_some]
