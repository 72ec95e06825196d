-- mark
theorem kd4 : ∀ k, k < 6 → stc 3 k = (if nI k = 4 then 1 else if nI k = 5 then 2 else 0) := by decide +kernel
section MRK
variable {s : Mem} {nb n : Nat}
theorem ofK4 {k : Nat} (hk : k < 6) : fX0_ofKind_904 (nI k) s = some (if nI k = 4 then 1 else if nI k = 5 then 2 else 0, s) := by
  unfold fX0_ofKind_904
  rw [if_neg (nI_nonneg (by omega)), if_pos ((lt_num (by omega) (by decide)).mpr hk), if_pos (inb_ok hk (by decide)), ix_nI (by omega), kd4 k hk]
/-- a guest of kind k passes for z -/
def isz (k z : Int32) : Prop := k = z ∨ (z = 1 ∧ k = 4) ∨ (z = 2 ∧ k = 5)
theorem isOf_t (gd : Gd s nb n) {g z : Nat} (hg : g < n) (h : isz (s.1 76 g) (nI z)) : fX0_isOf (nI g) (nI z) s = some (1, s) := by
  obtain ⟨k, hk, ek⟩ := gd.kds g hg
  unfold isz at h
  unfold fX0_isOf
  rw [kindOf_ok gd hg, bnd_some]
  by_cases h1 : s.1 76 g = nI z
  · rw [if_pos h1]
  · rw [if_neg h1, kindOf_ok gd hg, bnd_some, ek, ofK4 hk, bnd_some]
    rw [ek] at h h1
    rcases h with h | ⟨h, h2⟩ | ⟨h, h2⟩
    · exact absurd h h1
    · rw [h2, h, if_pos rfl, if_pos rfl]
    · rw [h2, h]
      exact if_pos (by decide)
theorem isOf_f (gd : Gd s nb n) {g z : Nat} (hg : g < n) (hz : 1 ≤ z ∧ z ≤ 5) (h : ¬ isz (s.1 76 g) (nI z)) : fX0_isOf (nI g) (nI z) s = some (0, s) := by
  obtain ⟨k, hk, ek⟩ := gd.kds g hg
  unfold isz at h
  unfold fX0_isOf
  rw [kindOf_ok gd hg, bnd_some, if_neg (fun z => h (Or.inl z)), kindOf_ok gd hg, bnd_some, ek, ofK4 hk, bnd_some]
  rw [ek] at h
  by_cases h4 : nI k = 4
  · rw [if_pos h4, if_neg (fun z => h (Or.inr (Or.inl ⟨z.symm, h4⟩)))]
  · rw [if_neg h4]
    by_cases h5 : nI k = 5
    · rw [if_pos h5, if_neg (fun z => h (Or.inr (Or.inr ⟨z.symm, h5⟩)))]
    · rw [if_neg h5, if_neg (fun e => by
        have := (nI_eq (a := 0) (b := z) (by decide) (by omega)).mp e
        omega)]
/-- what the reference does once the kind passes -/
def tmk (a1 a2 : Int32) (s5 : Mem) : Option (Int32 × Mem) :=
  if inb a1 8 = true then
      nm (s5.1 79 (ix a1)) (fun v11 =>
      if a2 = 1 then
        if v11 = (-9) then
          some (0, s5)
        else
          bnd (fX12_momentOf a1 v11 1 s5) (fun r14 s15 =>
          bnd (fX12_momentOf a1 v11 0 s15) (fun r16 s17 =>
          some (r14 - r16, s17)))
      else if a2 = 2 then
        if v11 = (-9) then
          some (0, s5)
        else
          bnd (fX12_momentOf a1 v11 2 s5) (fun r20 s21 =>
          bnd (fX12_momentOf a1 v11 0 s21) (fun r22 s23 =>
          some (r20 - r22, s23)))
      else if a2 = 3 then
        if v11 = (-9) then
          some ((-9), s5)
        else
          bnd (fX12_setOn v11 s5) (fun r26 s27 =>
          bnd (fX12_bits r26 s27) (fun r28 s29 =>
          some (r28 - 1, s29)))
      else if a2 = 4 then
        if v11 = (-9) then
          some (0, s5)
        else
          bnd (fX12_outOf a1 v11 1 s5) (fun r32 s33 =>
          some (r32, s33))
      else
        bnd (fX12_kinSeated a1 s5) (fun r34 s35 =>
        some (r34, s35)))
      else none
theorem mark_t (a1 a2 : Int32) (s : Mem) (hg : fX12_isGuest a1 s = some (1, s)) (hw : fX12_in a2 1 5 s = some (1, s)) (hi : inb a1 7 = true) (h : isz (s.1 76 (ix a1)) a2) : fX12_mark a1 a2 s = tmk a1 a2 s := by
  unfold fX12_mark
  rw [hg, bnd_some, if_neg one_ne, hw, bnd_some, if_neg one_ne, if_pos hi, nm_eq]
  rcases h with h | ⟨h, h2⟩ | ⟨h, h2⟩
  · rw [if_pos h]
    rfl
  · by_cases h0 : s.1 76 (ix a1) = a2
    · rw [if_pos h0]
      rfl
    · rw [if_neg h0, if_pos h, if_pos h2]
      rfl
  · by_cases h0 : s.1 76 (ix a1) = a2
    · rw [if_pos h0]
      rfl
    · rw [if_neg h0, if_neg (by rw [h]; decide), if_pos h, if_pos h2]
      rfl
theorem mark_f (a1 a2 : Int32) (s : Mem) (hg : fX12_isGuest a1 s = some (1, s)) (hw : fX12_in a2 1 5 s = some (1, s)) (hi : inb a1 7 = true) (h : ¬ isz (s.1 76 (ix a1)) a2) : fX12_mark a1 a2 s = bnd (fX12_meets 3 s) (fun r s => some (r, s)) := by
  unfold fX12_mark
  rw [hg, bnd_some, if_neg one_ne, hw, bnd_some, if_neg one_ne, if_pos hi, nm_eq, if_neg (fun z => h (Or.inl z))]
  by_cases h1 : a2 = 1
  · rw [if_pos h1, if_neg (fun z => h (Or.inr (Or.inl ⟨h1, z⟩))), if_neg (by rw [h1]; decide)]
  · rw [if_neg h1]
    by_cases h2 : a2 = 2
    · rw [if_pos h2, if_neg (fun z => h (Or.inr (Or.inr ⟨h2, z⟩)))]
    · rw [if_neg h2]
theorem clr_tab : ∀ g, g < 7 → ∀ i, i < 7 → (127 - 2 ^ g).testBit i = decide (i ≠ g) := by decide +kernel
theorem msk_clr (p : Nat → Bool) {n g : Nat} (hn : n ≤ 7) (hg : g < 7) : msk p n &&& (127 - 2 ^ g) = msk (fun i => p i && decide (i ≠ g)) n := by
  apply msk_eq
  intro i
  rw [Nat.testBit_and, msk_bit]
  by_cases h : i < n
  · rw [clr_tab g hg i (by omega), decide_eq_true h, Bool.true_and, Bool.true_and]
  · rw [decide_eq_false h, Bool.false_and, Bool.false_and, Bool.false_and]
def kst (s : Mem) (g h : Nat) : Bool := (std s h && decide (s.1 78 h = s.1 78 g)) && decide (h ≠ g)
theorem kinSeated_ok (hgg : s.1 68 12 = nI n) (h7 : n ≤ 7) {g : Nat} (hg : g < n) : fX12_kinSeated (nI g) s = some (nI (cntN (kst s g) n), s) := by
  unfold fX12_kinSeated
  have key := lp0 (fun k j => fX12_kinSeated_L4 (fun v6 s7 => some (v6, s7)) (nI g) k (nI (cntN (kst s g) j)) (nI j) s) (some (nI (cntN (kst s g) n), s)) n ?_ ?_ (by omega)
  · exact key
  · intro j k hj
    show fX12_kinSeated_L4 _ (nI g) (k + 1) _ (nI j) s = fX12_kinSeated_L4 _ (nI g) k _ (nI (j + 1)) s
    rw [fX12_kinSeated_L4, hgg, if_pos (nI_lt hj (by omega)), if_pos (inb_ok (by omega) (by decide)), if_pos (inb_ok (by omega) (by decide)), if_pos (inb_ok (by omega) (by decide)), ix_nI (by omega), ix_nI (by omega), cntN]
    simp only [nm_eq, nI_1, Int32.add_zero]
    by_cases h1 : j = g
    · have e : kst s g j = false := by
        unfold kst
        rw [decide_eq_false (fun z : j ≠ g => z h1), Bool.and_false]
      rw [if_pos (by rw [h1]), e]
      rfl
    · have h1' : ¬ nI j = nI g := fun z => h1 ((nI_eq (by omega) (by omega)).mp z)
      rw [if_neg h1']
      by_cases h2 : s.1 79 j = -9
      · have e : kst s g j = false := by
          unfold kst std
          rw [decide_eq_false (fun z : s.1 79 j ≠ -9 => z h2)]
          rfl
        rw [if_pos h2, e]
        rfl
      · rw [if_neg h2]
        by_cases h3 : s.1 78 j = s.1 78 g
        · have e : kst s g j = true := by
            unfold kst std
            rw [decide_eq_true (show s.1 79 j ≠ -9 from h2), decide_eq_true h3, decide_eq_true (show j ≠ g from h1)]
            rfl
          rw [if_pos h3, e]
          rfl
        · have e : kst s g j = false := by
            unfold kst std
            rw [decide_eq_false h3, Bool.and_false, Bool.false_and]
          rw [if_neg h3, e]
          rfl
  · intro k
    show fX12_kinSeated_L4 _ (nI g) (k + 1) _ (nI n) s = _
    rw [fX12_kinSeated_L4, hgg, if_neg (nI_nlt (Nat.le_refl n) (by omega))]
end MRK
