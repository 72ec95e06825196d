-- leaving: who is reached; firsts, lasts, the first order
theorem pow_le : ∀ m, m < 128 → ∀ g, g < 7 → m.testBit g = true → 2 ^ g ≤ m := by decide +kernel
section PL2
variable {s x y : Mem} {nb n crew : Nat} {LV : Nat → Bool}
theorem reach_ok {m : Nat} (hm : m < 128) (ha : ∀ m', m' < m → B01 (y.1 38 m') (LV m' = true)) : ∃ y', fX4_reachFrom (nI m) y = some ((), y') ∧ Sm y y' ∧ (∀ a, a ≠ 40 → y'.1 a = y.1 a) ∧ ∀ m', (stp1 LV m m' → y'.1 40 m' = 1) ∧ (¬ stp1 LV m m' → y'.1 40 m' = y.1 40 m') := by
  unfold fX4_reachFrom
  have key := lp_inv0 (fun k j (z : Mem) => fX4_reachFrom_L2 (fun s7 => some ((), s7)) (nI m) k (nI j) z) (fun j z => Sm y z ∧ (∀ a, a ≠ 40 → z.1 a = y.1 a) ∧ ∀ m', ((∃ g, g < j ∧ m.testBit g = true ∧ m' = del m g ∧ LV m' = true) → z.1 40 m' = 1) ∧ (¬ (∃ g, g < j ∧ m.testBit g = true ∧ m' = del m g ∧ LV m' = true) → z.1 40 m' = y.1 40 m')) 7 y ⟨SmX.rf y, fun _ _ => rfl, fun m' => ⟨fun ⟨g, hg, _⟩ => absurd hg (by omega), fun _ => rfl⟩⟩ ?_ (by omega)
  · obtain ⟨z, k, ⟨i1, i2, i3⟩, e⟩ := key
    refine ⟨z, ?_, i1, i2, i3⟩
    have e' : fX4_reachFrom_L2 (fun s7 => some ((), s7)) (nI m) FU 0 y = fX4_reachFrom_L2 (fun s7 => some ((), s7)) (nI m) (k + 1) (nI 7) z := e
    rw [e', fX4_reachFrom_L2, if_neg (by decide)]
  · rintro j k z hj ⟨i1, i2, i3⟩
    show ∃ z', _ ∧ fX4_reachFrom_L2 _ (nI m) (k + 1) (nI j) z = fX4_reachFrom_L2 _ (nI m) k (nI (j + 1)) z'
    obtain ⟨d1, d2, d3⟩ := del_tab m hm j hj
    rw [fX4_reachFrom_L2, if_pos ((lt_num (b := 7) (by omega) (by decide)).mpr hj), nm_eq, b_del hm hj, nI_1]
    have skip : (¬ (m.testBit j = true ∧ LV (del m j) = true)) → (Sm y z ∧ (∀ a, a ≠ 40 → z.1 a = y.1 a) ∧ ∀ m', ((∃ g, g < j + 1 ∧ m.testBit g = true ∧ m' = del m g ∧ LV m' = true) → z.1 40 m' = 1) ∧ (¬ (∃ g, g < j + 1 ∧ m.testBit g = true ∧ m' = del m g ∧ LV m' = true) → z.1 40 m' = y.1 40 m')) := by
      intro hn
      refine ⟨i1, i2, fun m' => ⟨fun ⟨g, hg, h1, h2, h3⟩ => ?_, fun h => (i3 m').2 (fun ⟨g, hg, h1⟩ => h ⟨g, by omega, h1⟩)⟩⟩
      by_cases c : g = j
      · subst c
        exact absurd ⟨h1, by rw [← h2]; exact h3⟩ hn
      · exact (i3 m').1 ⟨g, by omega, h1, h2, h3⟩
    cases hb : m.testBit j with
    | false =>
      rw [d3 hb, if_pos rfl]
      exact ⟨z, skip (fun h => by rw [hb] at h; exact absurd h.1 (by decide)), rfl⟩
    | true =>
      obtain ⟨d4, _, _⟩ := d2 hb
      have hi : inb (nI (del m j)) 128 = true := inb_ok d1 (by decide)
      rw [if_neg (fun z => by
        have := (nI_eq (by omega) (by omega)).mp z
        omega), if_pos hi, ix_nI (by omega), i2 38 (by decide)]
      have b1 := ha (del m j) d4
      by_cases c1 : LV (del m j) = true
      · rw [if_neg (fun z => b1.ne.mp z c1), if_pos hi, nar1]
        refine ⟨_, ⟨i1.tr (sm37 (by decide) (by decide)), fun a h => by rw [wI_ne h]; exact i2 a h, fun m' => ⟨fun ⟨g, hg, h1, h2, h3⟩ => ?_, fun h => ?_⟩⟩, rfl⟩
        · rw [rdq]
          by_cases c : m' = del m j
          · rw [if_pos c]
          · rw [if_neg c]
            have : g ≠ j := fun z => c (by rw [h2, z])
            exact (i3 m').1 ⟨g, by omega, h1, h2, h3⟩
        · rw [rdq]
          by_cases c : m' = del m j
          · exact absurd ⟨j, by omega, hb, c, by rw [c]; exact c1⟩ h
          · rw [if_neg c]
            exact (i3 m').2 (fun ⟨g, hg, h1⟩ => h ⟨g, by omega, h1⟩)
      · rw [if_pos (b1.ne.mpr c1)]
        exact ⟨z, skip (fun h => c1 h.2), rfl⟩
theorem plan95 (hc : crew < 128) (h37 : y.1 37 5 = nI crew) (h : ∀ m, m ≤ crew → B01 (y.1 38 m) (LV m = true) ∧ B01 (y.1 39 m) (CE LV m) ∧ B01 (y.1 40 m) (m = crew)) : ∃ y', fX4_plan_L95 (fun s32 => some ((), s32)) FU (nI crew) y = some ((), y') ∧ Sm y y' ∧ PA y' LV crew := by
  have key := lp_inv0 (fun k j (z : Mem) => fX4_plan_L95 (fun s32 => some ((), s32)) k (nI (crew - j)) z) (fun j z => Sm y z ∧ z.1 37 5 = nI crew ∧ ∀ m, m ≤ crew → B01 (z.1 38 m) (LV m = true) ∧ B01 (z.1 39 m) (CE LV m) ∧ B01 (z.1 40 m) (m = crew ∨ ∃ m2, crew - j < m2 ∧ m2 ≤ crew ∧ RR LV crew m2 ∧ stp1 LV m2 m)) crew y ⟨SmX.rf y, h37, fun m hm => by
    obtain ⟨b1, b2, b3⟩ := h m hm
    refine ⟨b1, b2, ?_⟩
    rcases b3 with ⟨e, hp⟩ | ⟨e, hp⟩
    · exact Or.inl ⟨e, Or.inl hp⟩
    · exact Or.inr ⟨e, fun z => z.elim hp (fun ⟨m2, h1, h2, _⟩ => by omega)⟩⟩ ?_ (by omega)
  · obtain ⟨z, k, ⟨i1, i2, i3⟩, e⟩ := key
    refine ⟨z, ?_, i1, i2, fun m hm => ?_⟩
    · have e' : fX4_plan_L95 (fun s32 => some ((), s32)) FU (nI crew) y = fX4_plan_L95 (fun s32 => some ((), s32)) (k + 1) (nI (crew - crew)) z := e
      rw [e', Nat.sub_self, fX4_plan_L95, if_neg (show ¬ (0 : Int32) < nI 0 by decide)]
    · obtain ⟨b1, b2, b3⟩ := i3 m hm
      refine ⟨b1, b2, ?_⟩
      have hiff : (m = crew ∨ ∃ m2, crew - crew < m2 ∧ m2 ≤ crew ∧ RR LV crew m2 ∧ stp1 LV m2 m) ↔ RR LV crew m := by
        constructor
        · rintro (rfl | ⟨m2, _, _, h1, h2⟩)
          · exact RR.rf _
          · exact h1.tl h2
        · intro hr
          rcases hr.ct with e | ⟨m2, h1, h2⟩
          · exact Or.inl e.symm
          · have hle := h1.le hc
            have := stp_lt (by omega) h2
            exact Or.inr ⟨m2, by omega, hle, h1, h2⟩
      rcases b3 with ⟨e, hp⟩ | ⟨e, hp⟩
      · exact Or.inl ⟨e, hiff.mp hp⟩
      · exact Or.inr ⟨e, fun z => hp (hiff.mpr z)⟩
  · rintro j k z hj ⟨i1, i2, i3⟩
    show ∃ z', _ ∧ fX4_plan_L95 _ (k + 1) (nI (crew - j)) z = fX4_plan_L95 _ k (nI (crew - (j + 1))) z'
    have hprd : nI (crew - j) + (-1) = nI (crew - (j + 1)) := by rw [show crew - j = (crew - (j + 1)) + 1 by omega, nI_prd]
    have hp0 : (0 : Int32) < nI (crew - j) := nI_lt (a := 0) (by omega) (by omega)
    have hiff : ((crew - j = crew ∨ ∃ m2, crew - j < m2 ∧ m2 ≤ crew ∧ RR LV crew m2 ∧ stp1 LV m2 (crew - j))) ↔ RR LV crew (crew - j) := by
      constructor
      · rintro (e | ⟨m2, _, _, h1, h2⟩)
        · rw [e]
          exact RR.rf _
        · exact h1.tl h2
      · intro hr
        rcases hr.ct with e | ⟨m2, h1, h2⟩
        · exact Or.inl e.symm
        · have hle := h1.le hc
          have := stp_lt (by omega) h2
          exact Or.inr ⟨m2, by omega, hle, h1, h2⟩
    have b3 := (i3 (crew - j) (by omega)).2.2
    rw [fX4_plan_L95, if_pos hp0, if_pos (inb_ok (by omega) (by decide)), ix_nI (by omega), hprd]
    by_cases c : RR LV crew (crew - j)
    · rw [if_neg (fun w => b3.ne.mp w (hiff.mpr c))]
      obtain ⟨z', e, m1, m2, m3⟩ := reach_ok (y := z) (LV := LV) (m := crew - j) (by omega) (fun m' hm' => (i3 m' (by omega)).1)
      rw [e, bnd_some]
      refine ⟨z', ⟨i1.tr m1, by rw [m2 37 (by decide)]; exact i2, fun m hm => ?_⟩, rfl⟩
      obtain ⟨b1, b2, b4⟩ := i3 m hm
      refine ⟨by rw [m2 38 (by decide)]; exact b1, by rw [m2 39 (by decide)]; exact b2, ?_⟩
      by_cases c2 : stp1 LV (crew - j) m
      · exact Or.inl ⟨(m3 m).1 c2, Or.inr ⟨crew - j, by omega, by omega, c, c2⟩⟩
      · rw [(m3 m).2 c2]
        rcases b4 with ⟨e4, hp⟩ | ⟨e4, hp⟩
        · exact Or.inl ⟨e4, hp.imp id (fun ⟨m2, w1, w2⟩ => ⟨m2, by omega, w2⟩)⟩
        · refine Or.inr ⟨e4, fun w => ?_⟩
          rcases w with w | ⟨m2, w1, w2, w3, w4⟩
          · exact hp (Or.inl w)
          · by_cases c3 : m2 = crew - j
            · rw [c3] at w4
              exact c2 w4
            · exact hp (Or.inr ⟨m2, by omega, w2, w3, w4⟩)
    · rw [if_pos (b3.ne.mpr (fun w => c (hiff.mp w)))]
      refine ⟨z, ⟨i1, i2, fun m hm => ?_⟩, rfl⟩
      obtain ⟨b1, b2, b4⟩ := i3 m hm
      refine ⟨b1, b2, ?_⟩
      rcases b4 with ⟨e4, hp⟩ | ⟨e4, hp⟩
      · exact Or.inl ⟨e4, hp.imp id (fun ⟨m2, w1, w2⟩ => ⟨m2, by omega, w2⟩)⟩
      · refine Or.inr ⟨e4, fun w => ?_⟩
        rcases w with w | ⟨m2, w1, w2, w3, w4⟩
        · exact hp (Or.inl w)
        · by_cases c3 : m2 = crew - j
          · rw [c3] at w3
            exact c w3
          · exact hp (Or.inr ⟨m2, by omega, w2, w3, w4⟩)
theorem plan_ok (gd : Gd s nb n) (ge : Ge s nb n) : ∃ y, fX4_plan s = some ((), y) ∧ Sm s y ∧ PA y (LVs s n) (msk (std s) n) := by
  have h7 := gd.ln
  have hc := msk_lt128 (std s) h7
  unfold fX4_plan
  rw [seatedSet_ok gd ge, bnd_some, b_127 _ hc]
  obtain ⟨y, e, m1, m2, m3⟩ := plan16 gd ge hc (fun s25 => nm (s25.1 37 5) (fun v26 => fX4_plan_L95 (fun s32 => some ((), s32)) FU v26 s25))
  obtain ⟨y', e', m4, m5⟩ := plan95 hc m2 m3
  refine ⟨y', ?_, m1.tr m4, m5⟩
  rw [e, nm_eq, m2, e']
theorem firsts_ok (hc : crew < 128) (pa : PA y LV crew) : ∃ Q : Nat → Bool, (∀ g, Q g = true ↔ okL LV crew g) ∧ fX4_firsts y = some (nI (msk Q 7), y) := by
  obtain ⟨Q, hQ, e⟩ := who_ok (x := y) (LV := LV) hc (fun m' hm' => ⟨(pa.2 m' (by omega)).1, (pa.2 m' (by omega)).2.1⟩)
  refine ⟨Q, hQ, ?_⟩
  unfold fX4_firsts
  rw [pa.1, e, bnd_some]
theorem msk_orp {p : Nat → Bool} {j : Nat} (hj : j < 7) : nI (msk p j) ||| nI (2 ^ j) = nI (msk p j + 2 ^ j) := by rw [← b_one j (by omega), msk_or hj]
theorem lasts_ok (hc : crew < 128) (pa : PA y LV crew) : ∃ Q : Nat → Bool, (∀ g, Q g = true ↔ (crew.testBit g = true ∧ lstL LV crew g)) ∧ fX4_lasts y = some (nI (msk Q 7), y) := by
  obtain ⟨Q, hQ⟩ := clsB (fun g => crew.testBit g = true ∧ lstL LV crew g)
  refine ⟨Q, hQ, ?_⟩
  have i0 : inb 0 128 = true := by decide
  have x0 : ix 0 = 0 := by decide
  unfold fX4_lasts
  have key := lp0 (fun k j => fX4_lasts_L4 (fun v9 s10 => some (v9, s10)) k (nI (msk Q j)) (nI j) y) (some (nI (msk Q 7), y)) 7 ?_ ?_ (by omega)
  · exact key
  · intro j k hj
    show fX4_lasts_L4 _ (k + 1) _ (nI j) y = fX4_lasts_L4 _ k _ (nI (j + 1)) y
    have hno : (¬ (crew.testBit j = true ∧ lstL LV crew j)) → msk Q (j + 1) = msk Q j := fun h => by
      have : Q j = false := by
        cases hq : Q j with
        | false => rfl
        | true => exact absurd ((hQ j).mp hq) h
      rw [msk, this]
      rfl
    rw [fX4_lasts_L4, if_pos ((lt_num (b := 7) (by omega) (by decide)).mpr hj), nm_eq, b_one j (by omega), pa.1, nI_1]
    cases hb : crew.testBit j with
    | false =>
      rw [if_pos ((b_tst j hj crew hc).mpr hb), hno (fun z => by rw [hb] at z; exact absurd z.1 (by decide))]
    | true =>
      have hle := pow_le crew hc j hj hb
      have p128 := (pow_tab j hj).1
      rw [if_neg (fun z => by have := (b_tst j hj crew hc).mp z; rw [hb] at this; exact absurd this (by decide)), if_pos (inb_ok p128 (by decide)), ix_nI (by omega), if_pos i0, x0, nm_eq]
      by_cases c1 : RR LV crew (2 ^ j)
      · rw [if_neg (fun z => (pa.2 _ hle).2.2.ne.mp z c1)]
        by_cases c2 : LV 0 = true
        · have hq : Q j = true := (hQ j).mpr ⟨hb, c1, c2⟩
          rw [if_neg (fun z => (pa.2 0 (by omega)).1.ne.mp z c2), msk_orp hj, msk, hq]
          rfl
        · rw [if_pos ((pa.2 0 (by omega)).1.ne.mpr c2), hno (fun z => c2 z.2.2)]
      · rw [if_pos ((pa.2 _ hle).2.2.ne.mpr c1), hno (fun z => c1 z.2.1)]
  · intro k
    show fX4_lasts_L4 _ (k + 1) _ (nI 7) y = _
    rw [fX4_lasts_L4, if_neg (by decide)]
theorem canLeave_ok (hc : crew < 128) (pa : PA y LV crew) : (CE LV crew → fX4_allCanLeave y = some (1, y)) ∧ (¬ CE LV crew → fX4_allCanLeave y = some (0, y)) := by
  have b := (pa.2 crew (Nat.le_refl _)).2.1
  unfold fX4_allCanLeave
  rw [pa.1, if_pos (inb_ok hc (by decide)), ix_nI (by omega)]
  rcases b with ⟨e, hp⟩ | ⟨e, hp⟩
  · rw [e, if_pos (Or.inr rfl)]
    exact ⟨fun _ => rfl, fun z => absurd hp z⟩
  · rw [e, if_pos (Or.inl rfl)]
    exact ⟨fun z => absurd z hp, fun _ => rfl⟩
theorem leastOf_ok {Q : Nat → Bool} {g0 : Nat} (hg : g0 < 7) (hq : Q g0 = true) (hn : ∀ g, g < g0 → Q g = false) : fX4_leastOf (nI (msk Q 7)) y = some (nI g0, y) := by
  have main : ∀ d j k, j + d = g0 → d < k → fX4_leastOf_L2 (fun s3 => some (0, s3)) (nI (msk Q 7)) k (nI j) y = some (nI g0, y) := by
    intro d
    induction d with
    | zero =>
      intro j k h1 h2
      obtain ⟨k', rfl⟩ : ∃ k', k = k' + 1 := ⟨k - 1, by omega⟩
      have e : j = g0 := by omega
      subst e
      have hb : (msk Q 7).testBit j = true := by rw [msk_bit, decide_eq_true hg, hq]; rfl
      rw [fX4_leastOf_L2, if_pos ((lt_num (b := 7) (by omega) (by decide)).mpr hg), b_one j (by omega), if_neg (fun z => by have := (b_tst j hg _ (msk_lt128 Q (by decide))).mp z; rw [hb] at this; exact absurd this (by decide))]
    | succ d ih =>
      intro j k h1 h2
      obtain ⟨k', rfl⟩ : ∃ k', k = k' + 1 := ⟨k - 1, by omega⟩
      have hb : (msk Q 7).testBit j = false := by rw [msk_bit, hn j (by omega), Bool.and_false]
      rw [fX4_leastOf_L2, if_pos ((lt_num (b := 7) (by omega) (by decide)).mpr (by omega)), b_one j (by omega), if_pos ((b_tst j (by omega) _ (msk_lt128 Q (by decide))).mpr hb), nI_1]
      exact ih (j + 1) k' (by omega) (by omega)
  exact main g0 0 FU (by omega) (by unfold FU; omega)
theorem gs_ok (hc : crew < 128) (h : CE LV crew) : ∀ i, i ≤ pcN crew → gsL LV crew i ≤ crew ∧ CE LV (gsL LV crew i) ∧ pcN (gsL LV crew i) + i = pcN crew
  | 0, _ => ⟨Nat.le_refl _, h, rfl⟩
  | i + 1, hi => by
    obtain ⟨h1, h2, h3⟩ := gs_ok hc h i (by omega)
    have hne : gsL LV crew i ≠ 0 := fun z => by
      rw [z] at h3
      have : pcN 0 = 0 := by decide
      omega
    obtain ⟨g1, ⟨g2, g3, g4⟩, _⟩ := gf0_ok ((CE_iff hne).mp h2)
    obtain ⟨d1, d2, _⟩ := del_tab (gsL LV crew i) (by omega) _ g1
    obtain ⟨d3, d4, _⟩ := d2 g2
    show del _ _ ≤ _ ∧ CE LV (del _ _) ∧ _
    refine ⟨by omega, g4, ?_⟩
    show pcN (del (gsL LV crew i) (gf0 LV (gsL LV crew i))) + (i + 1) = _
    omega
theorem order_ok (hc : crew < 128) (pa : PA y LV crew) (h : CE LV crew) : ∃ y', fX4_firstOrder y = some ((), y') ∧ Sm y y' ∧ (∀ a, a ≠ 41 → y'.1 a = y.1 a) ∧ ∀ i, i < pcN crew → y'.1 41 i = nI (gf0 LV (gsL LV crew i)) := by
  have hp7 : pcN crew ≤ 7 := by
    have : ∀ m, m < 128 → pcN m ≤ 7 := by decide +kernel
    exact this crew hc
  unfold fX4_firstOrder
  rw [nm_eq, pa.1]
  have key := lp_inv0 (fun k j (z : Mem) => fX4_firstOrder_L7 (fun s10 => some ((), s10)) k (nI (gsL LV crew j)) (nI j) z) (fun j z => Sm y z ∧ (∀ a, a ≠ 41 → z.1 a = y.1 a) ∧ ∀ i, i < j → z.1 41 i = nI (gf0 LV (gsL LV crew i))) (pcN crew) y ⟨SmX.rf y, fun _ _ => rfl, fun i hi => absurd hi (by omega)⟩ ?_ (by omega)
  · obtain ⟨z, k, ⟨i1, i2, i3⟩, e⟩ := key
    refine ⟨z, ?_, i1, i2, i3⟩
    have e' : fX4_firstOrder_L7 (fun s10 => some ((), s10)) FU (nI crew) 0 y = fX4_firstOrder_L7 (fun s10 => some ((), s10)) (k + 1) (nI (gsL LV crew (pcN crew))) (nI (pcN crew)) z := e
    obtain ⟨h1, h2, h3⟩ := gs_ok hc h (pcN crew) (Nat.le_refl _)
    have h0 : gsL LV crew (pcN crew) = 0 := (pc_0 _ (by omega)).mp (by omega)
    rw [e', fX4_firstOrder_L7, h0, if_pos (show nI 0 = 0 from rfl), ite_self]
  · rintro j k z hj ⟨i1, i2, i3⟩
    show ∃ z', _ ∧ fX4_firstOrder_L7 _ (k + 1) (nI (gsL LV crew j)) (nI j) z = fX4_firstOrder_L7 _ k (nI (gsL LV crew (j + 1))) (nI (j + 1)) z'
    obtain ⟨h1, h2, h3⟩ := gs_ok hc h j (by omega)
    have hne : gsL LV crew j ≠ 0 := fun w => by
      rw [w] at h3
      have : pcN 0 = 0 := by decide
      omega
    obtain ⟨g1, g2, g3⟩ := gf0_ok ((CE_iff hne).mp h2)
    obtain ⟨Q, hQ, hw⟩ := who_ok (x := z) (LV := LV) (m := gsL LV crew j) (by omega) (fun m' hm' => by
      rw [i2 38 (by decide), i2 39 (by decide)]
      exact ⟨(pa.2 m' (by omega)).1, (pa.2 m' (by omega)).2.1⟩)
    have hl := leastOf_ok (y := z) (Q := Q) g1 ((hQ _).mpr g2) (fun g hg => by
      cases hq : Q g with
      | false => rfl
      | true => exact absurd ((hQ g).mp hq) (g3 g hg))
    refine ⟨wI z 41 j (nI (gf0 LV (gsL LV crew j))), ⟨i1.tr (sm37 (by decide) (by decide)), fun a ha => by rw [wI_ne ha]; exact i2 a ha, fun i hi => ?_⟩, ?_⟩
    · rw [rdq]
      by_cases c : i = j
      · rw [if_pos c, c]
      · rw [if_neg c, i3 i (by omega)]
    · rw [fX4_firstOrder_L7, if_pos ((lt_num (b := 7) (by omega) (by decide)).mpr (by omega)), if_neg (fun w => hne ((eq_num (b := 0) (by omega) (by decide)).mp w)), hw, bnd_some, hl, bnd_some, if_pos (inb_ok (by omega) (by decide)), nm_eq, b_del (by omega) g1, ix_nI (by omega), nI_1]
      rfl
end PL2
