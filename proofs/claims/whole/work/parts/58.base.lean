-- what the small methods of both sides answer under the invariant
theorem pl_cases (a : Int32) (n : Nat) (hn : n ≤ 60) : (a < 0 ∨ nI n ≤ a) ∨ ∃ b : Nat, b < n ∧ a = nI b := by
  rcases i_cases a n (by omega) with h | h | h
  · exact Or.inl (Or.inl h)
  · exact Or.inl (Or.inr h.2)
  · exact Or.inr h
theorem isB_f {a : Int32} {nb : Nat} {s : Mem} (h : s.1 6 0 = nI nb) (ha : a < 0 ∨ nI nb ≤ a) : fX0_isBench a s = some (0, s) := by
  unfold fX0_isBench
  by_cases h1 : a < 0
  · rw [if_pos h1]
  · have h2 : ¬ a < nI nb := Int32.not_lt.mpr (ha.resolve_left h1)
    rw [if_neg h1, h, if_neg h2]
theorem isB_t {b nb : Nat} {s : Mem} (h : s.1 6 0 = nI nb) (hn : nb ≤ 60) (hb : b < nb) : fX0_isBench (nI b) s = some (1, s) := by
  unfold fX0_isBench
  rw [if_neg (nI_nonneg (by omega)), h, if_pos (nI_lt hb (by omega))]
theorem isG_f {a : Int32} {nb : Nat} {s : Mem} (h : s.1 6 1 = nI nb) (ha : a < 0 ∨ nI nb ≤ a) : fX0_isGuest a s = some (0, s) := by
  unfold fX0_isGuest
  by_cases h1 : a < 0
  · rw [if_pos h1]
  · have h2 : ¬ a < nI nb := Int32.not_lt.mpr (ha.resolve_left h1)
    rw [if_neg h1, h, if_neg h2]
theorem isG_t {b nb : Nat} {s : Mem} (h : s.1 6 1 = nI nb) (hn : nb ≤ 60) (hb : b < nb) : fX0_isGuest (nI b) s = some (1, s) := by
  unfold fX0_isGuest
  rw [if_neg (nI_nonneg (by omega)), h, if_pos (nI_lt hb (by omega))]
theorem mB_f {a : Int32} {nb : Nat} {s : Mem} (h : s.1 68 10 = nI nb) (hn : nb ≤ 60) (ha : a < 0 ∨ nI nb ≤ a) : fX12_isBench a s = some (0, s) := by
  unfold fX12_isBench
  rw [h, in_no hn ha, bnd_some, if_pos (Or.inl rfl)]
theorem mB_t {b nb : Nat} {s : Mem} (h : s.1 68 10 = nI nb) (hn : nb ≤ 60) (hb : b < nb) : fX12_isBench (nI b) s = some (1, s) := by
  unfold fX12_isBench
  rw [h, in_yes hn hb, bnd_some, if_pos (Or.inr rfl)]
theorem mG_f {a : Int32} {nb : Nat} {s : Mem} (h : s.1 68 12 = nI nb) (hn : nb ≤ 60) (ha : a < 0 ∨ nI nb ≤ a) : fX12_isGuest a s = some (0, s) := by
  unfold fX12_isGuest
  rw [h, in_no hn ha, bnd_some, if_pos (Or.inl rfl)]
theorem mG_t {b nb : Nat} {s : Mem} (h : s.1 68 12 = nI nb) (hn : nb ≤ 60) (hb : b < nb) : fX12_isGuest (nI b) s = some (1, s) := by
  unfold fX12_isGuest
  rw [h, in_yes hn hb, bnd_some, if_pos (Or.inr rfl)]
section GET
variable {s : Mem} {nb n : Nat}
theorem Gd.b6 (g : Gd s nb n) : s.1 6 0 = nI nb := g.2.2.2.1
theorem Gd.b68 (g : Gd s nb n) : s.1 68 10 = nI nb := g.2.2.2.2.1
theorem Gd.g6 (g : Gd s nb n) : s.1 6 1 = nI n := g.2.2.2.2.2.1
theorem Gd.g68 (g : Gd s nb n) : s.1 68 12 = nI n := g.2.2.2.2.2.2.1
theorem Gd.c11 (g : Gd s nb n) : s.1 11 = s.1 75 := g.2.2.2.2.2.2.2.2.2.1
theorem Gd.c13 (g : Gd s nb n) : s.1 13 = s.1 76 := g.2.2.2.2.2.2.2.2.2.2.1
theorem Gd.c14 (g : Gd s nb n) : s.1 14 = s.1 77 := g.2.2.2.2.2.2.2.2.2.2.2.1
theorem Gd.c15 (g : Gd s nb n) : s.1 15 = s.1 78 := g.2.2.2.2.2.2.2.2.2.2.2.2.1
theorem Gd.c16 (g : Gd s nb n) : s.1 16 = s.1 79 := g.2.2.2.2.2.2.2.2.2.2.2.2.2.1
theorem Gd.xs (g : Gd s nb n) : ∀ b, b < nb → -9 ≤ (s.1 75 b).toInt ∧ (s.1 75 b).toInt ≤ 9 := g.2.2.2.2.2.2.2.2.2.2.2.2.2.2.2.2.1
theorem Gd.kds (g : Gd s nb n) : ∀ g, g < n → ∃ k : Nat, k < 6 ∧ s.1 76 g = nI k := g.2.2.2.2.2.2.2.2.2.2.2.2.2.2.2.2.2.1
theorem Gd.wts (g : Gd s nb n) : ∀ g, g < n → ∃ w : Nat, 1 ≤ w ∧ w ≤ 9 ∧ s.1 77 g = nI w := g.2.2.2.2.2.2.2.2.2.2.2.2.2.2.2.2.2.2.1
theorem Gd.kns (g : Gd s nb n) : ∀ g, g < n → s.1 78 g = 0 ∨ s.1 78 g = 1 := g.2.2.2.2.2.2.2.2.2.2.2.2.2.2.2.2.2.2.2.1
theorem Gd.sts (g : Gd s nb n) : ∀ g, g < n → StOk nb (s.1 79 g) := g.2.2.2.2.2.2.2.2.2.2.2.2.2.2.2.2.2.2.2.2
theorem Gd.lb (g : Gd s nb n) : nb ≤ 8 := g.1
theorem Gd.ln (g : Gd s nb n) : n ≤ 7 := g.2.1
theorem xOf_ok (g : Gd s nb n) {b : Nat} (hb : b < nb) : fX0_xOf (nI b) s = some (s.1 75 b, s) := by
  have h8 := g.lb
  unfold fX0_xOf
  rw [isB_t g.b6 (by omega) hb, bnd_some, if_neg one_ne, if_pos (inb_ok (by omega) (by decide)), ix_nI (by omega), g.c11]
theorem kindOf_ok (g : Gd s nb n) {h : Nat} (hh : h < n) : fX0_kindOf (nI h) s = some (s.1 76 h, s) := by
  have h8 := g.ln
  unfold fX0_kindOf
  rw [isG_t g.g6 (by omega) hh, bnd_some, if_neg one_ne, if_pos (inb_ok (by omega) (by decide)), ix_nI (by omega), g.c13]
theorem weightOf_ok (g : Gd s nb n) {h : Nat} (hh : h < n) : fX0_weightOf (nI h) s = some (s.1 77 h, s) := by
  have h8 := g.ln
  unfold fX0_weightOf
  rw [isG_t g.g6 (by omega) hh, bnd_some, if_neg one_ne, if_pos (inb_ok (by omega) (by decide)), ix_nI (by omega), g.c14]
theorem kinOf_ok (g : Gd s nb n) {h : Nat} (hh : h < n) : fX0_kinOf (nI h) s = some (s.1 78 h, s) := by
  have h8 := g.ln
  unfold fX0_kinOf
  rw [isG_t g.g6 (by omega) hh, bnd_some, if_neg one_ne, if_pos (inb_ok (by omega) (by decide)), ix_nI (by omega), g.c15]
theorem benchOf_ok (g : Gd s nb n) {h : Nat} (hh : h < n) : fX0_benchOf (nI h) s = some (s.1 79 h, s) := by
  have h8 := g.ln
  unfold fX0_benchOf
  rw [isG_t g.g6 (by omega) hh, bnd_some, if_neg one_ne, if_pos (inb_ok (by omega) (by decide)), ix_nI (by omega), g.c16]
theorem whoOn_ok (g : Gd s nb n) (e : Ge s nb n) {b : Nat} (hb : b < nb) : fX0_whoOn (nI b) s = some (nI (msk (fun h => decide (s.1 79 h = nI b)) n), s) := by
  have h8 := g.lb
  unfold fX0_whoOn
  rw [isB_t g.b6 (by omega) hb, bnd_some, if_neg one_ne, if_pos (inb_ok (by omega) (by decide)), ix_nI (by omega), e.1 b hb]
theorem kd3 : ∀ k, k < 6 → stc 2 k = (if nI k = 2 ∨ nI k = 5 then 2 else 1) := by decide +kernel
theorem ofK3 {k : Nat} (hk : k < 6) : fX0_ofKind_903 (nI k) s = some (if nI k = 2 ∨ nI k = 5 then 2 else 1, s) := by
  unfold fX0_ofKind_903
  rw [if_neg (nI_nonneg (by omega)), if_pos ((lt_num (by omega) (by decide)).mpr hk), if_pos (inb_ok hk (by decide)), ix_nI (by omega), kd3 k hk]
theorem weighs_ok (g : Gd s nb n) {h : Nat} (hh : h < n) : fX0_weighs (nI h) s = some (wgh (s.1 76) (s.1 77) h, s) := by
  obtain ⟨k, hk, ek⟩ := g.kds h hh
  unfold fX0_weighs
  rw [weightOf_ok g hh, bnd_some, kindOf_ok g hh, bnd_some, ek, ofK3 hk, bnd_some]
  unfold wgh
  rw [ek]
  by_cases h1 : nI k = 2 ∨ nI k = 5
  · rw [if_pos h1, if_pos h1, Int32.mul_comm]
  · rw [if_neg h1, if_neg h1, Int32.mul_one]
theorem mweighs_ok {h : Nat} (hh : h < 7) : fX12_weighs (nI h) s = some (wgh (s.1 76) (s.1 77) h, s) := by
  unfold fX12_weighs wgh
  simp only [inb_ok hh (show 7 ≤ 100000 by decide), ix_nI (show h < 2 ^ 31 by omega), if_true]
  by_cases h1 : s.1 76 h = 2
  · rw [if_pos h1, if_pos (Or.inl h1)]
  · rw [if_neg h1]
    by_cases h2 : s.1 76 h = 5
    · rw [if_pos h2, if_pos (Or.inr h2)]
    · rw [if_neg h2, if_neg (fun z => z.elim h1 h2)]
end GET
-- bits
theorem bc_ok : ∀ m, m < 128 → ∀ s : Mem, fJ6_bitCount_0f7a4 (nI m) s = some (nI (pcN m), s) := by
  have h : ∀ m, m < 128 → (fJ6_bitCount_0f7a4 (nI m) ((fun _ _ => 0, fun _ _ => 0) : Mem)).map (·.1) = some (nI (pcN m)) := by decide +kernel
  intro m hm s
  have h2 := h m hm
  unfold fJ6_bitCount_0f7a4 at h2 ⊢
  simp only [nm_eq, Option.map_some, Option.some.injEq] at h2 ⊢
  rw [h2]
theorem low_ok : ∀ m, m < 128 → m ≠ 0 → nI m &&& (nI m - 1) = nI (m &&& (m - 1)) ∧ pcN (m &&& (m - 1)) + 1 = pcN m ∧ (m &&& (m - 1)) < m ∧ ¬ nI m = 0 := by decide +kernel
theorem bitsL_ok (κ : Int32 → Mem → Option (Int32 × Mem)) (s : Mem) : ∀ (p k m : Nat) (x : Nat), m < 128 → pcN m = p → p < k → fX12_bits_L4 κ k (nI x) (nI m) s = κ (nI (x + p)) s
  | 0, k + 1, m, x, hm, hp, hk => by
    by_cases h0 : m = 0
    · subst h0
      rw [fX12_bits_L4, if_pos (show nI 0 = 0 from rfl)]
      rfl
    · have := (low_ok m hm h0).2.1
      omega
  | p + 1, k + 1, m, x, hm, hp, hk => by
    by_cases h0 : m = 0
    · subst h0
      have : pcN 0 = 0 := by decide
      omega
    · obtain ⟨h1, h2, h3, h4⟩ := low_ok m hm h0
      rw [fX12_bits_L4, if_neg h4, nm_eq, h1, nI_1, bitsL_ok κ s p k _ (x + 1) (by omega) (by omega) (by omega)]
      rw [show x + 1 + p = x + (p + 1) by omega]
theorem bits_ok {m : Nat} (hm : m < 128) (s : Mem) : fX12_bits (nI m) s = some (nI (pcN m), s) := by
  have h1 : pcN m ≤ 8 := cntN_le _ _
  unfold fX12_bits
  have h := bitsL_ok (fun v3 s4 => some (v3, s4)) s (pcN m) FU m 0 hm rfl (by unfold FU; omega)
  rw [Nat.zero_add] at h
  exact h
/-- a set with one more place -/
theorem msk_or {p : Nat → Bool} {j : Nat} (hj : j < 7) : nI (msk p j) ||| ((1 : Int32) <<< (nI j &&& 31)) = nI (msk p j + 2 ^ j) := by
  have h := msk_lt p j
  have h2 : msk p j < 128 := msk_lt128 p (by omega)
  rw [b_one j (by omega), b_or j hj _ h2]
  have h3 := Nat.two_pow_add_eq_or_of_lt h 1
  rw [Nat.mul_one] at h3
  rw [Nat.or_comm, Nat.add_comm, h3]
section LOOPS
variable {s : Mem} {nb n : Nat}
theorem setOn_ok (hg : s.1 68 12 = nI n) (hn : n ≤ 7) (y : Int32) : fX12_setOn y s = some (nI (msk (fun h => decide (s.1 79 h = y)) n), s) := by
  unfold fX12_setOn
  have key := lp0 (fun k j => fX12_setOn_L4 (fun v6 s7 => some (v6, s7)) y k (nI (msk (fun h => decide (s.1 79 h = y)) j)) (nI j) s) (some (nI (msk (fun h => decide (s.1 79 h = y)) n), s)) n ?_ ?_ (by omega)
  · exact key
  · intro j k hj
    show fX12_setOn_L4 _ y (k + 1) _ (nI j) s = fX12_setOn_L4 _ y k _ (nI (j + 1)) s
    rw [fX12_setOn_L4, hg, if_pos (nI_lt hj (by omega)), if_pos (inb_ok (by omega) (by decide)), nm_eq, nm_eq, nI_1, ix_nI (by omega), msk]
    by_cases h1 : s.1 79 j = y
    · rw [if_pos h1, if_pos (decide_eq_true h1), msk_or (by omega)]
    · rw [if_neg h1, if_neg (by rw [decide_eq_false h1]; decide), Int32.or_zero]
      rfl
  · intro k
    show fX12_setOn_L4 _ y (k + 1) _ (nI n) s = _
    rw [fX12_setOn_L4, hg, if_neg (nI_nlt (Nat.le_refl n) (by omega))]
theorem takenOn_ok (hg : s.1 68 12 = nI n) (hn : n ≤ 7) (y : Int32) : fX12_takenOn y s = some (nI (cntN (fun h => decide (s.1 79 h = y) && decide (s.1 76 h ≠ 3)) n), s) := by
  unfold fX12_takenOn
  have key := lp0 (fun k j => fX12_takenOn_L4 (fun v6 s7 => some (v6, s7)) y k (nI (cntN (fun h => decide (s.1 79 h = y) && decide (s.1 76 h ≠ 3)) j)) (nI j) s) (some (nI (cntN (fun h => decide (s.1 79 h = y) && decide (s.1 76 h ≠ 3)) n), s)) n ?_ ?_ (by omega)
  · exact key
  · intro j k hj
    show fX12_takenOn_L4 _ y (k + 1) _ (nI j) s = fX12_takenOn_L4 _ y k _ (nI (j + 1)) s
    rw [fX12_takenOn_L4, hg, if_pos (nI_lt hj (by omega)), if_pos (inb_ok (by omega) (by decide)), if_pos (inb_ok (by omega) (by decide)), ix_nI (by omega), cntN]
    simp only [nm_eq, nI_1, Int32.add_zero]
    by_cases h1 : s.1 79 j = y
    · rw [if_pos h1]
      by_cases h2 : s.1 76 j = 3
      · rw [if_pos h2]
        simp [h1, h2]
      · rw [if_neg h2]
        simp [h1, h2]
    · rw [if_neg h1]
      simp [h1]
  · intro k
    show fX12_takenOn_L4 _ y (k + 1) _ (nI n) s = _
    rw [fX12_takenOn_L4, hg, if_neg (nI_nlt (Nat.le_refl n) (by omega))]
theorem weightOn_ok (hg : s.1 68 12 = nI n) (hn : n ≤ 7) (y : Int32) : fX12_weightOn y s = some (sumI (fun h => if s.1 79 h = y then wgh (s.1 76) (s.1 77) h else 0) n, s) := by
  unfold fX12_weightOn
  have key := lp0 (fun k j => fX12_weightOn_L4 (fun v6 s7 => some (v6, s7)) y k (sumI (fun h => if s.1 79 h = y then wgh (s.1 76) (s.1 77) h else 0) j) (nI j) s) (some (sumI (fun h => if s.1 79 h = y then wgh (s.1 76) (s.1 77) h else 0) n, s)) n ?_ ?_ (by omega)
  · exact key
  · intro j k hj
    show fX12_weightOn_L4 _ y (k + 1) _ (nI j) s = fX12_weightOn_L4 _ y k _ (nI (j + 1)) s
    rw [fX12_weightOn_L4, hg, if_pos (nI_lt hj (by omega)), if_pos (inb_ok (by omega) (by decide)), mweighs_ok (by omega), bnd_some, nm_eq, nm_eq, nI_1, ix_nI (by omega), sumI]
    by_cases h1 : s.1 79 j = y
    · rw [if_pos h1, if_pos h1]
    · rw [if_neg h1, if_neg h1]
  · intro k
    show fX12_weightOn_L4 _ y (k + 1) _ (nI n) s = _
    rw [fX12_weightOn_L4, hg, if_neg (nI_nlt (Nat.le_refl n) (by omega))]
theorem weighAll_ok (g : Gd s nb n) {m : Nat} (hm : m < 128) : fX0_weighAll (nI m) s = some (sumI (fun h => if m.testBit h then wgh (s.1 76) (s.1 77) h else 0) n, s) := by
  have hn := g.ln
  unfold fX0_weighAll
  have key := lp0 (fun k j => fX0_weighAll_L4 (fun v6 s7 => some (v6, s7)) (nI m) k (sumI (fun h => if m.testBit h then wgh (s.1 76) (s.1 77) h else 0) j) (nI j) s) (some (sumI (fun h => if m.testBit h then wgh (s.1 76) (s.1 77) h else 0) n, s)) n ?_ ?_ (by omega)
  · exact key
  · intro j k hj
    show fX0_weighAll_L4 _ (nI m) (k + 1) _ (nI j) s = fX0_weighAll_L4 _ (nI m) k _ (nI (j + 1)) s
    rw [fX0_weighAll_L4, g.g6, if_pos (nI_lt hj (by omega)), weighs_ok g hj, bnd_some, nm_eq, nI_1, sumI, b_one j (by omega)]
    cases h1 : m.testBit j with
    | false =>
      rw [if_pos ((b_tst j (by omega) m hm).mpr h1), if_neg (by decide), Int32.add_zero]
    | true =>
      have h2 : ¬ nI m &&& nI (2 ^ j) = 0 := fun z => by
        have := (b_tst j (by omega) m hm).mp z
        rw [h1] at this
        exact absurd this (by decide)
      rw [if_neg h2, if_pos rfl]
  · intro k
    show fX0_weighAll_L4 _ (nI m) (k + 1) _ (nI n) s = _
    rw [fX0_weighAll_L4, g.g6, if_neg (nI_nlt (Nat.le_refl n) (by omega))]
theorem msk_and (p q : Nat → Bool) (n : Nat) : msk p n &&& msk q n = msk (fun i => p i && q i) n := by
  apply msk_eq
  intro i
  rw [Nat.testBit_and, msk_bit, msk_bit]
  cases decide (i < n) <;> rfl
theorem seatsTaken_ok (g : Gd s nb n) (e : Ge s nb n) {b : Nat} (hb : b < nb) : fX0_seatsTaken (nI b) s = some (nI (cntN (fun h => decide (s.1 79 h = nI b) && decide (s.1 76 h ≠ 3)) n), s) := by
  have hn := g.ln
  unfold fX0_seatsTaken
  rw [whoOn_ok g e hb, bnd_some, e.2.2, b_and _ (msk_lt128 _ hn) _ (msk_lt128 _ hn), msk_and, bc_ok _ (msk_lt128 _ hn), bnd_some, pc_msk (by omega)]
end LOOPS
