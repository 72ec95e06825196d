-- seatings: how the class's search begins
section SC3
variable {s x y : Mem} {nb n nq nm' : Nat}
theorem whoAny (gd : Gd y nb n) (ge : Ge y nb n) {b : Nat} (hb : b < 60) : fX0_whoOn (nI b) y = some (nI (msk (fun h => decide (y.1 79 h = nI b)) n), y) := by
  have h8 := gd.lb
  by_cases c : b < nb
  · exact whoOn_ok gd ge c
  · have e : msk (fun h => decide (y.1 79 h = nI b)) n = 0 := by
      rw [msk_cong (q := fun _ => false) (fun h hh => decide_eq_false (fun z => ?_)), msk_zero (fun _ => rfl)]
      rcases gd.sts h hh with w | ⟨b', hb', w⟩
      · rw [w] at z
        exact m9_nI (by omega) z
      · rw [w] at z
        have := (nI_eq (by omega) (by omega)).mp z
        omega
    unfold fX0_whoOn
    rw [isB_f gd.b6 (Or.inr (Int32.not_lt.mp (nI_nlt (by omega) (by omega)))), bnd_some, if_pos rfl, e]
    rfl
theorem seatsAny (gd : Gd y nb n) (ge : Ge y nb n) {b : Nat} (hb : b < 60) : fX0_seatsTaken (nI b) y = some (nI (tkF y n (y.1 79) b), y) := by
  have h7 := gd.ln
  unfold fX0_seatsTaken
  rw [whoAny gd ge hb, bnd_some, ge.2.2, b_and _ (msk_lt128 _ h7) _ (msk_lt128 _ h7), msk_and, bc_ok _ (msk_lt128 _ h7), bnd_some, pc_msk (by omega)]
  rfl
theorem k33 (h : SmX (fun a => a = 33) s y) (gd : Gd s nb n) (ge : Ge s nb n) (gg : Gg s nm') : Gd y nb n ∧ Ge y nb n ∧ Gg y nm' := ⟨Gd_keep h (fun a ha => by omega) gd, Ge_keep h (fun a ha => by omega) ge, Gg_keep h (fun a ha => by omega) gg⟩
theorem tkF_eq (h : SmX (fun a => a = 33) s y) (f : Nat → Int32) (b : Nat) : tkF y n f b = tkF s n f b := by
  unfold tkF
  rw [h.1 76 (by unfold Cr; omega) (by omega)]
theorem se23 (gd : Gd s nb n) (ge : Ge s nb n) (gg : Gg s nm') (h : SmX (fun a => a = 33) s x) (κ : Mem → Option (Unit × Mem)) : ∃ y, fX8_search_L23 κ FU 0 x = κ y ∧ SmX (fun a => a = 33) s y ∧ y.1 27 = x.1 27 ∧ (∀ k, 1 ≤ k → k ≤ 8 → y.1 33 k = nI (msk (fun h => decide (s.1 79 h = nI k - 1)) n)) ∧ y.1 33 0 = x.1 33 0 ∧ y.1 33 9 = x.1 33 9 ∧ ∀ b, b < 8 → y.1 32 b = 2 - nI (tkF s n (s.1 79) b) := by
  have key := lp_inv0 (fun t j (y : Mem) => fX8_search_L23 κ t (nI j) y) (fun j y => SmX (fun a => a = 33) s y ∧ y.1 27 = x.1 27 ∧ (∀ k, 1 ≤ k → k ≤ j → y.1 33 k = nI (msk (fun h => decide (s.1 79 h = nI k - 1)) n)) ∧ y.1 33 0 = x.1 33 0 ∧ y.1 33 9 = x.1 33 9 ∧ ∀ b, b < j → y.1 32 b = 2 - nI (tkF s n (s.1 79) b)) 8 x ⟨h, rfl, fun k h1 h2 => absurd h1 (by omega), rfl, rfl, fun b hb => absurd hb (by omega)⟩ ?_ (by omega)
  · obtain ⟨y, t, i1, e⟩ := key
    refine ⟨y, ?_, i1⟩
    have e' : fX8_search_L23 κ FU 0 x = fX8_search_L23 κ (t + 1) (nI 8) y := e
    rw [e', fX8_search_L23, if_neg (by decide)]
  · rintro j t y hj ⟨i1, i2, i3, i4, i5, i6⟩
    show ∃ y', _ ∧ fX8_search_L23 κ (t + 1) (nI j) y = fX8_search_L23 κ t (nI (j + 1)) y'
    obtain ⟨g1, g2, _⟩ := k33 i1 gd ge gg
    have y79 : y.1 79 = s.1 79 := i1.1 79 (by unfold Cr; omega) (by omega)
    have s1 : nI (j + 1) - 1 = nI j := by rw [← nI_1, Int32.add_sub_cancel]
    have i1' : ∀ v, SmX (fun a => a = 33) s (wI y 33 (j + 1) v) := fun v => i1.tr (sm27 (by decide) (by decide))
    have hst : ∀ v, fX0_seatsTaken (nI j) (wI y 33 (j + 1) v) = some (nI (tkF s n (s.1 79) j), wI y 33 (j + 1) v) := fun v => by
      obtain ⟨g3, g4, _⟩ := k33 (i1' v) gd ge gg
      rw [seatsAny g3 g4 (by omega), wI_ne (by decide), y79, tkF_eq (i1' v)]
    refine ⟨wI (wI y 33 (j + 1) (nI (msk (fun h => decide (s.1 79 h = nI j)) n))) 32 j (2 - nI (tkF s n (s.1 79) j)), ⟨(i1' _).tr (sm27 (by decide) (by decide)), i2, fun k h1 h2 => ?_, i4, ?_, fun b hb => ?_⟩, ?_⟩
    · rw [wI_ne (by decide), rdq]
      by_cases c : k = j + 1
      · rw [if_pos c, c, s1]
      · rw [if_neg c, i3 k h1 (by omega)]
    · show (if 9 = j + 1 then _ else y.1 33 9) = _
      rw [if_neg (by omega), i5]
    · rw [rdq]
      by_cases c : b = j
      · rw [if_pos c, c]
      · rw [if_neg c, wI_ne (by decide), i6 b (by omega)]
    · rw [fX8_search_L23, if_pos ((lt_num (b := 8) (by omega) (by decide)).mpr hj), whoAny g1 g2 (by omega), bnd_some, y79, nI_1, if_pos (inb_ok (by omega) (by decide)), ix_nI (show j + 1 < 2 ^ 31 by omega), hst, bnd_some, if_pos (inb_ok hj (by decide)), ix_nI (show j < 2 ^ 31 by omega)]
theorem hasP_ok (gg : Gg y nm') {p : Nat} (hp : p < 3) : fX6_hasPosture (nI p) y = some (if hsP y nm' p then 1 else 0, y) := by
  have hb : (msk (fun p => decide (∃ m, m < nm' ∧ y.1 80 m = nI p)) 3).testBit p = hsP y nm' p := by
    rw [msk_bit, decide_eq_true hp, Bool.true_and]
    rfl
  have ht := b_tst p (by omega) _ (msk_lt128 (fun p => decide (∃ m, m < nm' ∧ y.1 80 m = nI p)) (show 3 ≤ 7 by decide))
  rw [hb] at ht
  unfold fX6_hasPosture
  rw [gg.2.2.2.2.2.2, b_one p (by omega)]
  cases hh : hsP y nm' p with
  | false => rw [if_pos (ht.mpr hh), if_neg (show ¬ (false = true) by decide)]
  | true => rw [if_neg (fun z => by rw [ht.mp z] at hh; exact absurd hh (by decide)), if_pos (rfl : true = true)]
theorem mS_eq (h : SmX (fun a => a = 33) s y) (p g b : Nat) : mS y nm' p g b = mS s nm' p g b ∧ hsP y nm' p = hsP s nm' p := by
  unfold mS hsP
  rw [h.1 75 (by unfold Cr; omega) (by omega), h.1 76 (by unfold Cr; omega) (by omega), h.1 77 (by unfold Cr; omega) (by omega), h.1 80 (by unfold Cr; omega) (by omega)]
  exact ⟨rfl, rfl⟩
theorem momIn_ok (gd : Gd s nb n) (ge : Ge s nb n) (gg : Gg s nm') (h : SmX (fun a => a = 33) s y) {g b p : Nat} (hg : g < n) (hb : b < 8) (hp : p < 3) : ∃ v, fX8_momentIn (nI g) (nI b) (nI p) y = some (v, y) ∧ (b < nb → v = mS s nm' p g b) := by
  obtain ⟨g1, g2, g3⟩ := k33 h gd ge gg
  have h7 := gd.ln
  unfold fX8_momentIn
  rw [hasP_ok g3 hp, bnd_some, ← (mS_eq (nm' := nm') h p g b).1]
  unfold mS
  cases hsP y nm' p with
  | false => exact ⟨0, rfl, fun _ => rfl⟩
  | true =>
    rw [if_pos (rfl : true = true), if_neg one_ne, if_pos (rfl : true = true)]
    by_cases c : b < nb
    · exact ⟨_, by rw [momentOf_ok g1 g2 hg c hp, bnd_some], fun _ => rfl⟩
    · refine ⟨0, ?_, fun z => absurd z c⟩
      unfold fX0_momentOf
      rw [isG_t g1.g6 (by omega) hg, bnd_some, if_neg one_ne, isB_f g1.b6 (Or.inr (Int32.not_lt.mp (nI_nlt (by omega) (by omega)))), bnd_some, if_pos rfl, bnd_some]
theorem reckon_ok (gd : Gd s nb n) (ge : Ge s nb n) (gg : Gg s nm') (h : SmX (fun a => a = 33) s y) {g : Nat} (hg : g < n) : ∃ z, fX8_reckonMoments (nI g) y = some ((), z) ∧ SmX (fun a => a = 33) s z ∧ (∀ a, a ≠ 34 → a ≠ 35 → a ≠ 36 → z.1 a = y.1 a) ∧ (∀ i, i < 8 * g → z.1 34 i = y.1 34 i ∧ z.1 35 i = y.1 35 i ∧ z.1 36 i = y.1 36 i) ∧ ∀ b, b < nb → z.1 34 (g * 8 + b) = mS s nm' 0 g b ∧ z.1 35 (g * 8 + b) = mS s nm' 1 g b ∧ z.1 36 (g * 8 + b) = mS s nm' 2 g b := by
  have h7 := gd.ln
  have h8 := gd.lb
  unfold fX8_reckonMoments
  have key := lp_inv0 (fun t j (z : Mem) => fX8_reckonMoments_L2 (fun s12 => some ((), s12)) (nI g) t (nI j) z) (fun j z => SmX (fun a => a = 33) s z ∧ (∀ a, a ≠ 34 → a ≠ 35 → a ≠ 36 → z.1 a = y.1 a) ∧ (∀ i, i < 8 * g → z.1 34 i = y.1 34 i ∧ z.1 35 i = y.1 35 i ∧ z.1 36 i = y.1 36 i) ∧ ∀ b, b < j → b < nb → z.1 34 (g * 8 + b) = mS s nm' 0 g b ∧ z.1 35 (g * 8 + b) = mS s nm' 1 g b ∧ z.1 36 (g * 8 + b) = mS s nm' 2 g b) 8 y ⟨h, fun _ _ _ _ => rfl, fun _ _ => ⟨rfl, rfl, rfl⟩, fun b hb => absurd hb (by omega)⟩ ?_ (by omega)
  · obtain ⟨z, t, ⟨i1, i2, i3, i4⟩, e⟩ := key
    refine ⟨z, ?_, i1, i2, i3, fun b hb => i4 b (by omega) hb⟩
    have e' : fX8_reckonMoments_L2 (fun s12 => some ((), s12)) (nI g) FU 0 y = fX8_reckonMoments_L2 (fun s12 => some ((), s12)) (nI g) (t + 1) (nI 8) z := e
    rw [e', fX8_reckonMoments_L2, if_neg (by decide)]
  · rintro j t z hj ⟨i1, i2, i3, i4⟩
    show ∃ z', _ ∧ fX8_reckonMoments_L2 _ (nI g) (t + 1) (nI j) z = fX8_reckonMoments_L2 _ (nI g) t (nI (j + 1)) z'
    have v2 : nI g * 8 + nI j = nI (g * 8 + j) := by rw [show (8 : Int32) = nI 8 from rfl, pk_mul, nI_add]
    have hv : inb (nI (g * 8 + j)) 56 = true := inb_ok (by omega) (by decide)
    obtain ⟨a0, e0, w0⟩ := momIn_ok gd ge gg i1 (p := 0) hg hj (by decide)
    have e0' : fX8_momentIn (nI g) (nI j) 0 z = some (a0, z) := e0
    have s1 : SmX (fun a => a = 33) s (wI z 34 (g * 8 + j) a0) := i1.tr (sm27 (by decide) (by decide))
    obtain ⟨a1, e1, w1⟩ := momIn_ok gd ge gg s1 (p := 1) hg hj (by decide)
    have e1' : fX8_momentIn (nI g) (nI j) 1 (wI z 34 (g * 8 + j) a0) = some (a1, wI z 34 (g * 8 + j) a0) := e1
    have s2 : SmX (fun a => a = 33) s (wI (wI z 34 (g * 8 + j) a0) 35 (g * 8 + j) a1) := s1.tr (sm27 (by decide) (by decide))
    obtain ⟨a2, e2, w2⟩ := momIn_ok gd ge gg s2 (p := 2) hg hj (by decide)
    have e2' : fX8_momentIn (nI g) (nI j) 2 (wI (wI z 34 (g * 8 + j) a0) 35 (g * 8 + j) a1) = some (a2, wI (wI z 34 (g * 8 + j) a0) 35 (g * 8 + j) a1) := e2
    refine ⟨wI (wI (wI z 34 (g * 8 + j) a0) 35 (g * 8 + j) a1) 36 (g * 8 + j) a2, ⟨s2.tr (sm27 (by decide) (by decide)), fun a h1 h2 h3 => by rw [wI_ne h3, wI_ne h2, wI_ne h1]; exact i2 a h1 h2 h3, fun i hi => ?_, fun b hb hb2 => ?_⟩, ?_⟩
    · show (if i = g * 8 + j then a0 else z.1 34 i) = _ ∧ (if i = g * 8 + j then a1 else z.1 35 i) = _ ∧ (if i = g * 8 + j then a2 else z.1 36 i) = _
      rw [if_neg (by omega), if_neg (by omega), if_neg (by omega)]
      exact i3 i hi
    · show (if g * 8 + b = g * 8 + j then a0 else z.1 34 (g * 8 + b)) = _ ∧ (if g * 8 + b = g * 8 + j then a1 else z.1 35 (g * 8 + b)) = _ ∧ (if g * 8 + b = g * 8 + j then a2 else z.1 36 (g * 8 + b)) = _
      by_cases c : b = j
      · subst c
        rw [if_pos rfl, if_pos rfl, if_pos rfl]
        exact ⟨w0 hb2, w1 hb2, w2 hb2⟩
      · rw [if_neg (by omega), if_neg (by omega), if_neg (by omega)]
        exact i4 b (by omega) hb2
    · rw [fX8_reckonMoments_L2, if_pos ((lt_num (b := 8) (by omega) (by decide)).mpr hj), nm_eq, v2, e0', bnd_some, if_pos hv, ix_nI (by omega), e1', bnd_some, if_pos hv, e2', bnd_some, if_pos hv, nI_1]
theorem se69 (gd : Gd s nb n) (ge : Ge s nb n) (gg : Gg s nm') (h : SmX (fun a => a = 33) s x) (x277 : x.1 27 7 = nI 0) (κ : Mem → Option (Unit × Mem)) : ∃ y, fX8_search_L69 κ FU 0 x = κ y ∧ SmX (fun a => a = 33) s y ∧ y.1 33 = x.1 33 ∧ y.1 32 = x.1 32 ∧ (∀ j, j ≠ 7 → y.1 27 j = x.1 27 j) ∧ y.1 27 7 = nI (cntN (cmr s n) 7) ∧ (∀ h, h < 7 → cmr s n h = true → y.1 29 (cntN (cmr s n) h) = nI h) ∧ (∀ h, h < 7 → h < n → y.1 30 h = s.1 79 h) ∧ (∀ h, h < 7 → y.1 31 h = 0) ∧ ∀ h, h < 7 → cmr s n h = true → ∀ b, b < nb → y.1 34 (h * 8 + b) = mS s nm' 0 h b ∧ y.1 35 (h * 8 + b) = mS s nm' 1 h b ∧ y.1 36 (h * 8 + b) = mS s nm' 2 h b := by
  have h7 := gd.ln
  have h8 := gd.lb
  have key := lp_inv0 (fun t j (y : Mem) => fX8_search_L69 κ t (nI j) y) (fun j y => SmX (fun a => a = 33) s y ∧ y.1 33 = x.1 33 ∧ y.1 32 = x.1 32 ∧ (∀ j, j ≠ 7 → y.1 27 j = x.1 27 j) ∧ y.1 27 7 = nI (cntN (cmr s n) j) ∧ (∀ h, h < j → cmr s n h = true → y.1 29 (cntN (cmr s n) h) = nI h) ∧ (∀ h, h < j → h < n → y.1 30 h = s.1 79 h) ∧ (∀ h, h < j → y.1 31 h = 0) ∧ ∀ h, h < j → cmr s n h = true → ∀ b, b < nb → y.1 34 (h * 8 + b) = mS s nm' 0 h b ∧ y.1 35 (h * 8 + b) = mS s nm' 1 h b ∧ y.1 36 (h * 8 + b) = mS s nm' 2 h b) 7 x ⟨h, rfl, rfl, fun _ _ => rfl, x277, fun h hh => absurd hh (by omega), fun h hh => absurd hh (by omega), fun h hh => absurd hh (by omega), fun h hh => absurd hh (by omega)⟩ ?_ (by omega)
  · obtain ⟨y, t, i1, e⟩ := key
    refine ⟨y, ?_, i1⟩
    have e' : fX8_search_L69 κ FU 0 x = fX8_search_L69 κ (t + 1) (nI 7) y := e
    rw [e', fX8_search_L69, if_neg (by decide)]
  · rintro j t y hj ⟨i1, i2, i3, i4, i5, i6, i7, i8, i9⟩
    show ∃ y', _ ∧ fX8_search_L69 κ (t + 1) (nI j) y = fX8_search_L69 κ t (nI (j + 1)) y'
    obtain ⟨g1, g2, g3⟩ := k33 i1 gd ge gg
    have y79 : y.1 79 = s.1 79 := i1.1 79 (by unfold Cr; omega) (by omega)
    have hi : inb (nI j) 7 = true := inb_ok hj (by decide)
    have hcl := cntN_le (cmr s n) j
    generalize hv : (if j < n then y.1 79 j else -9) = v
    have sm1 : SmX (fun a => a = 33) s (wI (wI y 30 j v) 31 j 0) := (i1.tr (sm27 (by decide) (by decide))).tr (sm27 (by decide) (by decide))
    have y61 : (wI (wI y 30 j v) 31 j 0).1 6 1 = nI n := g1.g6
    rw [fX8_search_L69, if_pos ((lt_num (b := 7) (by omega) (by decide)).mpr hj), benchAny g1 hj, bnd_some, hv, if_pos hi, if_pos hi, ix_nI (show j < 2 ^ 31 by omega), nI_1 j]
    -- what holds in any case
    have b30 : ∀ h, h < j + 1 → h < n → (if h = j then v else y.1 30 h) = s.1 79 h := fun h hh hn => by
      by_cases c : h = j
      · rw [if_pos c, ← hv, c, if_pos (by omega), y79]
      · rw [if_neg c, i7 h (by omega) hn]
    have b31 : ∀ h, h < j + 1 → (if h = j then 0 else y.1 31 h) = 0 := fun h hh => by
      by_cases c : h = j
      · rw [if_pos c]
      · rw [if_neg c, i8 h (by omega)]
    have skip : cmr s n j = false → (SmX (fun a => a = 33) s (wI (wI y 30 j v) 31 j 0) ∧ (wI (wI y 30 j v) 31 j 0).1 33 = x.1 33 ∧ (wI (wI y 30 j v) 31 j 0).1 32 = x.1 32 ∧ (∀ j', j' ≠ 7 → (wI (wI y 30 j v) 31 j 0).1 27 j' = x.1 27 j') ∧ (wI (wI y 30 j v) 31 j 0).1 27 7 = nI (cntN (cmr s n) (j + 1)) ∧ (∀ h, h < j + 1 → cmr s n h = true → (wI (wI y 30 j v) 31 j 0).1 29 (cntN (cmr s n) h) = nI h) ∧ (∀ h, h < j + 1 → h < n → (wI (wI y 30 j v) 31 j 0).1 30 h = s.1 79 h) ∧ (∀ h, h < j + 1 → (wI (wI y 30 j v) 31 j 0).1 31 h = 0) ∧ ∀ h, h < j + 1 → cmr s n h = true → ∀ b, b < nb → (wI (wI y 30 j v) 31 j 0).1 34 (h * 8 + b) = mS s nm' 0 h b ∧ (wI (wI y 30 j v) 31 j 0).1 35 (h * 8 + b) = mS s nm' 1 h b ∧ (wI (wI y 30 j v) 31 j 0).1 36 (h * 8 + b) = mS s nm' 2 h b) := by
      intro hc
      have hlt : ∀ h, h < j + 1 → cmr s n h = true → h < j := fun h hh hc2 => by
        by_cases e : h = j
        · rw [e, hc] at hc2
          exact absurd hc2 (by decide)
        · omega
      refine ⟨sm1, i2, i3, i4, ?_, fun h hh hc2 => i6 h (hlt h hh hc2) hc2, b30, b31, fun h hh hc2 => i9 h (hlt h hh hc2) hc2⟩
      rw [cnt_f hc]
      exact i5
    by_cases hn : j < n
    · rw [isG_t y61 (by omega) hn, bnd_some, if_neg one_ne, if_pos hi]
      have r30 : (wI (wI y 30 j v) 31 j 0).1 30 j = v := by
        rw [wI_ne (by decide), rdq, if_pos rfl]
      have vv : v = s.1 79 j := by rw [← hv, if_pos hn, y79]
      rw [r30]
      by_cases c : v = -9
      · have hc : cmr s n j = true := decide_eq_true ⟨hn, vv.symm.trans c⟩
        have r27 : (wI (wI y 30 j v) 31 j 0).1 27 7 = nI (cntN (cmr s n) j) := i5
        have q27 : ∀ w, (wI (wI (wI y 30 j v) 31 j 0) 29 (cntN (cmr s n) j) w).1 27 7 = nI (cntN (cmr s n) j) := fun w => i5
        rw [if_pos c, r27, if_pos (inb_ok (by omega) (by decide)), ix_nI (show cntN (cmr s n) j < 2 ^ 31 by omega), q27, nI_1]
        have sm2 : SmX (fun a => a = 33) s (wI (wI (wI (wI y 30 j v) 31 j 0) 29 (cntN (cmr s n) j) (nI j)) 27 7 (nI (cntN (cmr s n) j + 1))) := (sm1.tr (sm27 (by decide) (by decide))).tr (sm27 (by decide) (by decide))
        obtain ⟨z, ez, m1, m2, m3, m4⟩ := reckon_ok gd ge gg sm2 hn
        rw [ez, bnd_some]
        refine ⟨z, ⟨m1, ?_, ?_, fun j' hj' => ?_, ?_, fun h hh hc2 => ?_, fun h hh hn2 => ?_, fun h hh => ?_, fun h hh hc2 b hb => ?_⟩, rfl⟩
        · rw [m2 33 (by decide) (by decide) (by decide)]
          exact i2
        · rw [m2 32 (by decide) (by decide) (by decide)]
          exact i3
        · rw [m2 27 (by decide) (by decide) (by decide), rdq, if_neg hj']
          exact i4 j' hj'
        · rw [m2 27 (by decide) (by decide) (by decide), rdq, if_pos rfl, cnt_t hc]
        · rw [m2 29 (by decide) (by decide) (by decide), wI_ne (by decide), rdq]
          by_cases e : h = j
          · rw [e, if_pos rfl]
          · rw [if_neg (fun w => e (cnt_inj hc2 hc w))]
            exact i6 h (by omega) hc2
        · rw [m2 30 (by decide) (by decide) (by decide)]
          exact b30 h hh hn2
        · rw [m2 31 (by decide) (by decide) (by decide)]
          exact b31 h hh
        · by_cases e : h = j
          · rw [e]
            exact m4 b hb
          · obtain ⟨w1, w2, w3⟩ := m3 (h * 8 + b) (by omega)
            rw [w1, w2, w3]
            exact i9 h (by omega) hc2 b hb
      · rw [if_neg c]
        exact ⟨_, skip (decide_eq_false (fun z => c (vv.trans z.2))), rfl⟩
    · rw [isG_f y61 (Or.inr (Int32.not_lt.mp (nI_nlt (by omega) (by omega)))), bnd_some, if_pos rfl]
      exact ⟨_, skip (decide_eq_false (fun z => hn z.1)), rfl⟩
theorem startIn_ok (gd : Gd s nb n) (ge : Ge s nb n) (gg : Gg s nm') (h : SmX (fun a => a = 33) s y) {p : Nat} (hp : p < 3) : fX8_startIn (nI p) y = some (AL s n nm' p (s.1 79), y) := by
  obtain ⟨g1, g2, g3⟩ := k33 h gd ge gg
  unfold fX8_startIn
  rw [hasP_ok g3 hp, bnd_some, (mS_eq (nm' := nm') h p 0 0).2]
  unfold AL
  cases hsP s nm' p with
  | false => rfl
  | true =>
    rw [if_pos (rfl : true = true), if_neg one_ne, if_pos (rfl : true = true), list_ok g1 g2 hp, bnd_some, mo_eq (h.1 75 (by unfold Cr; omega) (by omega)) (h.1 76 (by unfold Cr; omega) (by omega)) (h.1 77 (by unfold Cr; omega) (by omega)) (h.1 79 (by unfold Cr; omega) (by omega)), h.2.1 18 (by unfold Cf; omega) (by omega)]
    rfl
/-- all that the seatings tell -/
noncomputable def ST (s : Mem) (nb n nq nm' : Nat) : Ss := layS nb (mayS s n nq) (Wf s n nm') (lvW s) n 0 (s.1 79) (0, 0, none, fun _ => 0)
theorem searchS (gd : Gd s nb n) (ge : Ge s nb n) (gg : Gg s nm') (gf : Gf s n nq) (gj : Gj s) : ∃ x, fX8_search s = some ((), x) ∧ CQ s x nb n nm' 0 (s.1 79) (ST s nb n nq nm') ∧ SsOk n (ST s nb n nq nm') := by
  have h7 := gd.ln
  have h8 := gd.lb
  have sm0 : SmX (fun a => a = 33) s (wI (wI (wI (wI s 27 2 0) 27 3 0) 27 0 (-9)) 27 7 0) := (((sm27 (by decide) (by decide)).tr (sm27 (by decide) (by decide))).tr (sm27 (by decide) (by decide))).tr (sm27 (by decide) (by decide))
  obtain ⟨y, ey, i1, i2, i3, i4, i5, i6⟩ := se23 gd ge gg sm0 (fun s8 => fX8_search_L69 (fun s22 => bnd (fX8_startIn 0 s22) (fun r23 s24 => bnd (fX8_startIn 1 s24) (fun r25 s26 => bnd (fX8_startIn 2 s26) (fun r27 s28 => bnd (fX8_tryComer 9 0 r23 r25 r27 s28) (fun r29 s30 => some ((), s30)))))) FU 0 s8)
  obtain ⟨z, ez, j1, j2, j3, j4, j5, j6, j7, j8, j9⟩ := se69 gd ge gg i1 (by rw [i2]; rfl) (fun s22 => bnd (fX8_startIn 0 s22) (fun r23 s24 => bnd (fX8_startIn 1 s24) (fun r25 s26 => bnd (fX8_startIn 2 s26) (fun r27 s28 => bnd (fX8_tryComer 9 0 r23 r25 r27 s28) (fun r29 s30 => some ((), s30))))))
  have hcn : cntN (cmr s n) 7 = cntN (cmr s n) n := by
    have := cntN_out (p := cmr s n) (n := n) (7 - n) (fun k hk => decide_eq_false (fun z => by omega))
    rw [show n + (7 - n) = 7 by omega] at this
    exact this
  have nobody : ∀ w : Int32, (∀ h, h < n → s.1 79 h ≠ w) → (0 : Int32) = nI (msk (fun h => decide (s.1 79 h = w)) n) := fun w hw => by
    rw [msk_cong (q := fun _ => false) (fun h hh => decide_eq_false (hw h hh)), msk_zero (fun _ => rfl)]
    rfl
  have cq : CQ s z nb n nm' 0 (s.1 79) (0, 0, none, fun _ => 0) := by
    refine ⟨j1, by rw [j5, hcn], fun h hh => j6 h (by omega), fun h hh _ => j7 h (by omega) hh, fun k hk => ?_, fun b hb => ?_, fun h hh => j9 h (by omega), ?_, ?_, Or.inl ⟨rfl, ?_⟩, fun h hh => ?_⟩
    · rw [j2]
      by_cases c0 : k = 0
      · rw [c0, i4]
        show s.1 33 0 = _
        rw [gj.2.1]
        refine nobody _ (fun h hh w => ?_)
        rcases gd.sts h hh with e | ⟨b, hb, e⟩
        · rw [e] at w
          exact absurd w (by decide)
        · rw [e] at w
          exact nI_neg (by omega) (by decide) w
      · by_cases c9 : k = 9
        · rw [c9, i5]
          show s.1 33 9 = _
          rw [gj.2.2, show nI 9 - 1 = nI 8 from by decide]
          refine nobody _ (fun h hh w => ?_)
          rcases gd.sts h hh with e | ⟨b, hb, e⟩
          · rw [e] at w
            exact m9_nI (by decide) w
          · rw [e] at w
            have := (nI_eq (by omega) (by decide)).mp w
            omega
        · exact i3 k (by omega) (by omega)
    · rw [j3]
      exact i6 b (by omega)
    · rw [j4 2 (by decide), i2]
      rfl
    · rw [j4 3 (by decide), i2]
      rfl
    · rw [j4 0 (by decide), i2]
      rfl
    · rw [j8 h hh]
      split <;> rfl
  have so : SsOk n ((0, 0, none, fun _ => 0) : Ss) := ⟨Nat.le_refl _, (fun b hb => by cases hb), ⟨fun _ => rfl, fun _ => rfl⟩, (fun _ _ => (by decide : (0 : Nat) < 256))⟩
  obtain ⟨x, ex, cx, ox⟩ := layS_C gd ge gg gf n 0 (s.1 79) (0, 0, none, fun _ => 0) 9 z (by omega) (by omega) gd.sts (fun h hh => absurd hh (by omega)) (fun _ _ _ => rfl) so cq
  have ex' : fX8_tryComer 9 0 (AL s n nm' 0 (s.1 79)) (AL s n nm' 1 (s.1 79)) (AL s n nm' 2 (s.1 79)) z = some ((), x) := ex
  have t0 : fX8_startIn 0 z = some (AL s n nm' 0 (s.1 79), z) := startIn_ok gd ge gg j1 (p := 0) (by decide)
  have t1 : fX8_startIn 1 z = some (AL s n nm' 1 (s.1 79), z) := startIn_ok gd ge gg j1 (p := 1) (by decide)
  have t2 : fX8_startIn 2 z = some (AL s n nm' 2 (s.1 79), z) := startIn_ok gd ge gg j1 (p := 2) (by decide)
  refine ⟨x, ?_, cx, ox⟩
  unfold fX8_search
  rw [ey, ez, t0, bnd_some, t1, bnd_some, t2, bnd_some, ex', bnd_some]
end SC3
