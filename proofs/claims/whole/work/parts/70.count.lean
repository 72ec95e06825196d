-- count
section CNT
variable {s : Mem} {nb n : Nat}
def c4 (s : Mem) (z h : Nat) : Bool := decide ((z = 4 ∧ (s.1 76 h = 1 ∨ s.1 76 h = 4)) ∨ (z = 5 ∧ (s.1 76 h = 2 ∨ s.1 76 h = 5)))
theorem cL4 (hg : s.1 68 12 = nI n) (h7 : n ≤ 7) {z : Nat} (hz : z ≤ 9) (κ : Int32 → Mem → Option (Int32 × Mem)) : fX12_counted_L4 κ (nI z) FU 0 0 s = κ (nI (cntN (c4 s z) n)) s := by
  have key := lp0 (fun k j => fX12_counted_L4 κ (nI z) k (nI (cntN (c4 s z) j)) (nI j) s) (κ (nI (cntN (c4 s z) n)) s) n ?_ ?_ (by omega)
  · exact key
  · intro j k hj
    show fX12_counted_L4 κ (nI z) (k + 1) _ (nI j) s = fX12_counted_L4 κ (nI z) k _ (nI (j + 1)) s
    have hin : inb (nI j) 7 = true := inb_ok (by omega) (by decide)
    rw [fX12_counted_L4, hg, if_pos (nI_lt hj (by omega)), cntN]
    simp only [nm_eq, nI_1, Int32.add_zero, ix_nI (show j < 2 ^ 31 by omega)]
    by_cases h4 : z = 4
    · subst h4
      rw [if_pos (show nI 4 = 4 from rfl), if_pos hin]
      by_cases h1 : s.1 76 j = 1
      · have e : c4 s 4 j = true := decide_eq_true (Or.inl ⟨rfl, Or.inl h1⟩)
        rw [if_pos h1, e]
        rfl
      · rw [if_neg h1, if_pos hin]
        by_cases h2 : s.1 76 j = 4
        · have e : c4 s 4 j = true := decide_eq_true (Or.inl ⟨rfl, Or.inr h2⟩)
          rw [if_pos h2, e]
          rfl
        · have e : c4 s 4 j = false := decide_eq_false (by
            rintro (⟨_, h | h⟩ | ⟨h, _⟩)
            · exact h1 h
            · exact h2 h
            · omega)
          rw [if_neg h2, if_neg (show ¬ nI 4 = 5 by decide), e]
          rfl
    · have h4' : ¬ nI z = 4 := fun e => h4 ((eq_num (b := 4) (by omega) (by decide)).mp e)
      rw [if_neg h4']
      by_cases h5 : z = 5
      · subst h5
        rw [if_pos (show nI 5 = 5 from rfl), if_pos hin]
        by_cases h1 : s.1 76 j = 2
        · have e : c4 s 5 j = true := decide_eq_true (Or.inr ⟨rfl, Or.inl h1⟩)
          rw [if_pos h1, e]
          rfl
        · rw [if_neg h1, if_pos hin]
          by_cases h2 : s.1 76 j = 5
          · have e : c4 s 5 j = true := decide_eq_true (Or.inr ⟨rfl, Or.inr h2⟩)
            rw [if_pos h2, e]
            rfl
          · have e : c4 s 5 j = false := decide_eq_false (by
              rintro (⟨h, _⟩ | ⟨_, h | h⟩)
              · omega
              · exact h1 h
              · exact h2 h)
            rw [if_neg h2, e]
            rfl
      · have h5' : ¬ nI z = 5 := fun e => h5 ((eq_num (b := 5) (by omega) (by decide)).mp e)
        have e : c4 s z j = false := decide_eq_false (by
          rintro (⟨h, _⟩ | ⟨h, _⟩)
          · exact h4 h
          · exact h5 h)
        rw [if_neg h5', e]
        rfl
  · intro k
    show fX12_counted_L4 κ (nI z) (k + 1) _ (nI n) s = _
    rw [fX12_counted_L4, hg, if_neg (nI_nlt (Nat.le_refl n) (by omega))]
def c6 (s : Mem) (z y q h : Nat) : Bool := decide (z = y ∧ ¬ s.1 q h < 0)
theorem cL78 {z : Nat} (hz : z ≤ 9) (c : Nat) (κ : Int32 → Mem → Option (Int32 × Mem)) : fX12_counted_L78 κ (nI z) FU (nI c) 0 s = κ (nI (c + cntN (c6 s z 6 70) 6)) s := by
  have key := lp0 (fun k j => fX12_counted_L78 κ (nI z) k (nI (c + cntN (c6 s z 6 70) j)) (nI j) s) (κ (nI (c + cntN (c6 s z 6 70) 6)) s) 6 ?_ ?_ (by omega)
  · exact key
  · intro j k hj
    show fX12_counted_L78 κ (nI z) (k + 1) _ (nI j) s = fX12_counted_L78 κ (nI z) k _ (nI (j + 1)) s
    rw [fX12_counted_L78, if_pos ((lt_num (b := 6) (by omega) (by decide)).mpr hj), if_pos (inb_ok hj (by decide)), cntN]
    simp only [nm_eq, nI_1, Int32.add_zero, ix_nI (show j < 2 ^ 31 by omega)]
    by_cases h6 : z = 6
    · subst h6
      rw [if_pos (show nI 6 = 6 from rfl)]
      by_cases h1 : s.1 70 j < 0
      · have e : c6 s 6 6 70 j = false := decide_eq_false (fun h => h.2 h1)
        rw [if_pos h1, e]
        rfl
      · have e : c6 s 6 6 70 j = true := decide_eq_true ⟨rfl, h1⟩
        rw [if_neg h1, e]
        rfl
    · have h6' : ¬ nI z = 6 := fun e => h6 ((eq_num (b := 6) (by omega) (by decide)).mp e)
      have e : c6 s z 6 70 j = false := decide_eq_false (fun h => h6 h.1)
      rw [if_neg h6', e]
      rfl
  · intro k
    show fX12_counted_L78 κ (nI z) (k + 1) _ (nI 6) s = _
    rw [fX12_counted_L78, if_neg (by decide)]
theorem cL115 {z : Nat} (hz : z ≤ 9) (c : Nat) (κ : Int32 → Mem → Option (Int32 × Mem)) : fX12_counted_L115 κ (nI z) FU (nI c) 0 s = κ (nI (c + cntN (c6 s z 7 73) 4)) s := by
  have key := lp0 (fun k j => fX12_counted_L115 κ (nI z) k (nI (c + cntN (c6 s z 7 73) j)) (nI j) s) (κ (nI (c + cntN (c6 s z 7 73) 4)) s) 4 ?_ ?_ (by omega)
  · exact key
  · intro j k hj
    show fX12_counted_L115 κ (nI z) (k + 1) _ (nI j) s = fX12_counted_L115 κ (nI z) k _ (nI (j + 1)) s
    rw [fX12_counted_L115, if_pos ((lt_num (b := 4) (by omega) (by decide)).mpr hj), if_pos (inb_ok hj (by decide)), cntN]
    simp only [nm_eq, nI_1, Int32.add_zero, ix_nI (show j < 2 ^ 31 by omega)]
    by_cases h6 : z = 7
    · subst h6
      rw [if_pos (show nI 7 = 7 from rfl)]
      by_cases h1 : s.1 73 j < 0
      · have e : c6 s 7 7 73 j = false := decide_eq_false (fun h => h.2 h1)
        rw [if_pos h1, e]
        rfl
      · have e : c6 s 7 7 73 j = true := decide_eq_true ⟨rfl, h1⟩
        rw [if_neg h1, e]
        rfl
    · have h6' : ¬ nI z = 7 := fun e => h6 ((eq_num (b := 7) (by omega) (by decide)).mp e)
      have e : c6 s z 7 73 j = false := decide_eq_false (fun h => h6 h.1)
      rw [if_neg h6', e]
      rfl
  · intro k
    show fX12_counted_L115 κ (nI z) (k + 1) _ (nI 4) s = _
    rw [fX12_counted_L115, if_neg (by decide)]
end CNT
