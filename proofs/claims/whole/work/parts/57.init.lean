-- the invariant holds at the start
theorem si0 : sInit.1 11 = sInit.1 75 := rfl
theorem inv_init : Inv sInit := by
  refine ⟨0, 0, 0, 1, 0, ⟨rfl, rfl, rfl, rfl, rfl⟩, ?_, ?_, ⟨by decide, by decide, fun h => absurd h (by decide), rfl, rfl, rfl, rfl, rfl, rfl, rfl, rfl, rfl, rfl, rfl, ⟨0, by decide, rfl⟩, by decide, ?_, ?_, ?_, ?_, ?_⟩, ⟨?_, ?_, rfl⟩, ⟨by decide, rfl, rfl, rfl, rfl, ?_, ?_⟩, ⟨by decide, by decide, rfl, rfl, rfl, ?_, ?_⟩, ⟨by decide, rfl, rfl, ?_⟩, ?_, ?_⟩
  · intro r hr
    have h : r = 0 ∨ r = 1 ∨ r = 2 ∨ r = 3 ∨ r = 4 ∨ r = 5 := by omega
    rcases h with rfl | rfl | rfl | rfl | rfl | rfl <;> exact ⟨rfl, Or.inl rfl, fun i n h1 h2 h3 => absurd h1.symm (nI_neg (z := -1) (by omega) (by decide))⟩
  · intro r hr
    have h : r = 0 ∨ r = 1 ∨ r = 2 ∨ r = 3 := by omega
    rcases h with rfl | rfl | rfl | rfl <;> exact ⟨rfl, Or.inl rfl, fun i n h1 h2 h3 => absurd h1.symm (nI_neg (z := -1) (by omega) (by decide))⟩
  all_goals try (intro a ha; exact absurd ha (by omega))
  · intro g hg
    have key : ∀ p : Nat → Bool, (∀ k, k < 7 → p k = false) → sInit.1 10 g = nI (msk p 7) := fun p hp => by
      rw [msk_cong (q := fun _ => false) hp]
      rfl
    apply key
    intro k _
    apply decide_eq_false
    rintro ⟨q, hq, _⟩
    omega
  · intro m hm
    have h : m = 0 := by omega
    subst h
    exact ⟨0, by decide, rfl⟩
  · have key : ∀ p : Nat → Bool, (∀ k, k < 3 → p k = decide (k = 0)) → sInit.1 18 2 = nI (msk p 3) := fun p hp => by
      rw [msk_cong (q := fun k => decide (k = 0)) hp]
      rfl
    apply key
    intro k hk
    apply decide_eq_decide.mpr
    constructor
    · rintro ⟨m, hm, h⟩
      have h2 : m = 0 := by omega
      subst h2
      have h3 : nI 0 = nI k := h
      exact ((nI_eq (by omega) (by omega)).mp h3).symm
    · rintro rfl
      exact ⟨0, by decide, rfl⟩
  · intro k hk
    have h : k = 0 ∨ k = 1 ∨ k = 2 := by omega
    rcases h with rfl | rfl | rfl <;> exact ⟨rfl, Or.inl rfl, fun h => absurd h (by decide)⟩
  · exact ⟨fun b _ => rfl, rfl, rfl⟩
