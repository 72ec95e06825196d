-- sets of guests
theorem b_orm : ∀ a, a < 128 → ∀ b, b < 128 → nI a ||| nI b = nI (a ||| b) := by decide +kernel
theorem msk_orm (p q : Nat → Bool) (n : Nat) : msk p n ||| msk q n = msk (fun i => p i || q i) n := by
  apply msk_eq
  intro i
  rw [Nat.testBit_or, msk_bit, msk_bit]
  cases decide (i < n) <;> rfl
theorem b_all : ∀ n, n ≤ 7 → (1 : Int32) <<< (nI n &&& 31) - 1 = nI (2 ^ n - 1) := by decide +kernel
section SETS
variable {s : Mem} {nb n : Nat}
theorem everybody_ok (gd : Gd s nb n) : fX0_everybody s = some (nI (2 ^ n - 1), s) := by
  unfold fX0_everybody
  rw [gd.g6, b_all n gd.ln]
/-- sits on one of the first benches -/
def sb (s : Mem) : Nat → Nat → Bool
  | 0, _ => false
  | j + 1, h => sb s j h || decide (s.1 79 h = nI j)
theorem sb_iff (s : Mem) (h : Nat) : ∀ j, sb s j h = true ↔ ∃ b, b < j ∧ s.1 79 h = nI b
  | 0 => by
    rw [sb]
    exact ⟨fun z => absurd z (by decide), fun ⟨b, hb, _⟩ => absurd hb (by omega)⟩
  | j + 1 => by
    rw [sb, Bool.or_eq_true, sb_iff s h j, decide_eq_true_iff]
    constructor
    · rintro (⟨b, hb, e⟩ | e)
      · exact ⟨b, by omega, e⟩
      · exact ⟨j, by omega, e⟩
    · rintro ⟨b, hb, e⟩
      by_cases h2 : b = j
      · subst h2
        exact Or.inr e
      · exact Or.inl ⟨b, by omega, e⟩
def std (s : Mem) (h : Nat) : Bool := decide (s.1 79 h ≠ -9)
theorem sb_std (gd : Gd s nb n) {h : Nat} (hh : h < n) : sb s nb h = std s h := by
  have h8 := gd.lb
  apply Bool.eq_iff_iff.mpr
  rw [sb_iff]
  unfold std
  rw [decide_eq_true_iff]
  rcases gd.sts h hh with e | ⟨b, hb, e⟩
  · rw [e]
    exact ⟨fun ⟨b, hb, z⟩ => absurd z (m9_nI (by omega)), fun z => absurd rfl z⟩
  · rw [e]
    exact ⟨fun _ => nI_m9 (by omega), fun _ => ⟨b, hb, rfl⟩⟩
theorem seatedSet_ok (gd : Gd s nb n) (ge : Ge s nb n) : fX0_seatedSet s = some (nI (msk (std s) n), s) := by
  have h8 := gd.lb
  have h7 := gd.ln
  unfold fX0_seatedSet
  rw [← msk_cong (p := sb s nb) (fun k hk => sb_std gd hk)]
  have key := lp0 (fun k j => fX0_seatedSet_L4 (fun v4 s5 => some (v4, s5)) k (nI (msk (sb s j) n)) (nI j) s) (some (nI (msk (sb s nb) n), s)) nb ?_ ?_ (by omega)
  · have e : msk (sb s 0) n = 0 := by
      have : ∀ m, msk (sb s 0) m = 0 := by
        intro m
        induction m with
        | zero => rfl
        | succ m ih => rw [msk, ih]; rfl
      exact this n
    have key2 : fX0_seatedSet_L4 (fun v4 s5 => some (v4, s5)) FU (nI (msk (sb s 0) n)) (nI 0) s = some (nI (msk (sb s nb) n), s) := key
    rw [e] at key2
    exact key2
  · intro j k hj
    show fX0_seatedSet_L4 _ (k + 1) _ (nI j) s = fX0_seatedSet_L4 _ k _ (nI (j + 1)) s
    rw [fX0_seatedSet_L4, gd.b6, if_pos (nI_lt hj (by omega)), if_pos (inb_ok (by omega) (by decide)), nm_eq, nI_1, ix_nI (by omega), ge.1 j hj, b_orm _ (msk_lt128 _ h7) _ (msk_lt128 _ h7), msk_orm]
    rfl
  · intro k
    show fX0_seatedSet_L4 _ (k + 1) _ (nI nb) s = _
    rw [fX0_seatedSet_L4, gd.b6, if_neg (nI_nlt (Nat.le_refl _) (by omega))]
theorem seatedCount_ok (gd : Gd s nb n) (ge : Ge s nb n) : fX0_seatedCount s = some (nI (cntN (std s) n), s) := by
  have h7 := gd.ln
  unfold fX0_seatedCount
  rw [seatedSet_ok gd ge, bnd_some, bc_ok _ (msk_lt128 _ h7), bnd_some, pc_msk (by omega)]
theorem seatedMany_ok (hg : s.1 68 12 = nI n) (h7 : n ≤ 7) : fX12_seatedMany s = some (nI (cntN (std s) n), s) := by
  unfold fX12_seatedMany
  have key := lp0 (fun k j => fX12_seatedMany_L4 (fun v4 s5 => some (v4, s5)) k (nI (cntN (std s) j)) (nI j) s) (some (nI (cntN (std s) n), s)) n ?_ ?_ (by omega)
  · exact key
  · intro j k hj
    show fX12_seatedMany_L4 _ (k + 1) _ (nI j) s = fX12_seatedMany_L4 _ k _ (nI (j + 1)) s
    rw [fX12_seatedMany_L4, hg, if_pos (nI_lt hj (by omega)), if_pos (inb_ok (by omega) (by decide)), ix_nI (by omega), cntN]
    simp only [nm_eq, nI_1, Int32.add_zero]
    by_cases h : s.1 79 j = -9
    · have e : std s j = false := decide_eq_false (fun z => z h)
      rw [if_pos h, e]
      rfl
    · have e : std s j = true := decide_eq_true h
      rw [if_neg h, e]
      rfl
  · intro k
    show fX12_seatedMany_L4 _ (k + 1) _ (nI n) s = _
    rw [fX12_seatedMany_L4, hg, if_neg (nI_nlt (Nat.le_refl _) (by omega))]
theorem kinSet_ok (gd : Gd s nb n) (y : Int32) : fX0_kinSet y s = some (nI (msk (fun h => decide (s.1 78 h = y)) n), s) := by
  have h7 := gd.ln
  unfold fX0_kinSet
  have key := lp0 (fun k j => fX0_kinSet_L4 (fun v6 s7 => some (v6, s7)) y k (nI (msk (fun h => decide (s.1 78 h = y)) j)) (nI j) s) (some (nI (msk (fun h => decide (s.1 78 h = y)) n), s)) n ?_ ?_ (by omega)
  · exact key
  · intro j k hj
    show fX0_kinSet_L4 _ y (k + 1) _ (nI j) s = fX0_kinSet_L4 _ y k _ (nI (j + 1)) s
    rw [fX0_kinSet_L4, gd.g6, if_pos (nI_lt hj (by omega)), if_pos (inb_ok (by omega) (by decide)), nm_eq, nI_1, ix_nI (by omega), msk, gd.c15]
    by_cases h1 : s.1 78 j = y
    · rw [if_pos h1, if_pos (decide_eq_true h1), msk_or (by omega)]
    · rw [if_neg h1, if_neg (by rw [decide_eq_false h1]; decide)]
      rfl
  · intro k
    show fX0_kinSet_L4 _ y (k + 1) _ (nI n) s = _
    rw [fX0_kinSet_L4, gd.g6, if_neg (nI_nlt (Nat.le_refl n) (by omega))]
theorem weightAll_ok (hg : s.1 68 12 = nI n) (h7 : n ≤ 7) : fX12_weightAll s = some (sumI (wgh (s.1 76) (s.1 77)) n, s) := by
  unfold fX12_weightAll
  have key := lp0 (fun k j => fX12_weightAll_L4 (fun v6 s7 => some (v6, s7)) k (sumI (wgh (s.1 76) (s.1 77)) j) (nI j) s) (some (sumI (wgh (s.1 76) (s.1 77)) n, s)) n ?_ ?_ (by omega)
  · exact key
  · intro j k hj
    show fX12_weightAll_L4 _ (k + 1) _ (nI j) s = fX12_weightAll_L4 _ k _ (nI (j + 1)) s
    rw [fX12_weightAll_L4, hg, if_pos (nI_lt hj (by omega)), mweighs_ok (by omega), bnd_some, nm_eq, nI_1, sumI]
  · intro k
    show fX12_weightAll_L4 _ (k + 1) _ (nI n) s = _
    rw [fX12_weightAll_L4, hg, if_neg (nI_nlt (Nat.le_refl n) (by omega))]
theorem b_has : ∀ m, m < 128 → ∀ h, h < 7 → ((nI m >>> (nI h &&& 31)) &&& 1 = 1 ↔ m.testBit h = true) := by decide +kernel
theorem has_ok {m h : Nat} (hm : m < 128) (hh : h < 7) : fX12_has (nI m) (nI h) s = some (if m.testBit h then 1 else 0, s) := by
  unfold fX12_has
  cases e : m.testBit h with
  | false =>
    rw [if_neg (fun z => by have := (b_has m hm h hh).mp z; rw [e] at this; exact absurd this (by decide))]
    rfl
  | true =>
    rw [if_pos ((b_has m hm h hh).mpr e)]
    rfl
theorem mweightOf_ok (hg : s.1 68 12 = nI n) (h7 : n ≤ 7) {m : Nat} (hm : m < 128) : fX12_weightOf (nI m) s = some (sumI (fun h => if m.testBit h then wgh (s.1 76) (s.1 77) h else 0) n, s) := by
  unfold fX12_weightOf
  have key := lp0 (fun k j => fX12_weightOf_L4 (fun v6 s7 => some (v6, s7)) (nI m) k (sumI (fun h => if m.testBit h then wgh (s.1 76) (s.1 77) h else 0) j) (nI j) s) (some (sumI (fun h => if m.testBit h then wgh (s.1 76) (s.1 77) h else 0) n, s)) n ?_ ?_ (by omega)
  · exact key
  · intro j k hj
    show fX12_weightOf_L4 _ (nI m) (k + 1) _ (nI j) s = fX12_weightOf_L4 _ (nI m) k _ (nI (j + 1)) s
    rw [fX12_weightOf_L4, hg, if_pos (nI_lt hj (by omega)), has_ok hm (by omega), bnd_some, mweighs_ok (by omega), bnd_some, nm_eq, nm_eq, nI_1, sumI]
    cases e : m.testBit j with
    | false =>
      rw [if_pos (by decide), if_neg (by decide)]
    | true =>
      rw [if_neg (by decide), if_pos rfl]
  · intro k
    show fX12_weightOf_L4 _ (nI m) (k + 1) _ (nI n) s = _
    rw [fX12_weightOf_L4, hg, if_neg (nI_nlt (Nat.le_refl n) (by omega))]
end SETS
