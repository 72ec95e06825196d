-- tools of the pure part: the store, numbers, loops
theorem rd_wI (s : Mem) (q j a b : Nat) (v : Int32) : (wI s q j v).1 a b = if a = q then (if b = j then v else s.1 a b) else s.1 a b := rfl
theorem rdL_wI (s : Mem) (q j : Nat) (v : Int32) : (wI s q j v).2 = s.2 := rfl
theorem rd_wL (s : Mem) (q j : Nat) (v : Int64) : (wL s q j v).1 = s.1 := rfl
theorem rdL_wL (s : Mem) (q j a b : Nat) (v : Int64) : (wL s q j v).2 a b = if a = q then (if b = j then v else s.2 a b) else s.2 a b := rfl
theorem rd_wF (s : Mem) (q a : Nat) (f : Nat → Int32) : (wF s q f).1 a = if a = q then f else s.1 a := rfl
theorem rdL_wF (s : Mem) (q : Nat) (f : Nat → Int32) : (wF s q f).2 = s.2 := rfl
theorem nm_eq {α β : Type} (a : α) (f : α → β) : nm a f = f a := rfl
theorem ix_nI {k : Nat} (h : k < 2 ^ 31) : ix (nI k) = k := nI_clamp h
theorem nI_nonneg {k : Nat} (h : k < 2 ^ 31) : ¬ nI k < 0 := nI_pos h
theorem inb_nI {k n : Nat} (h : k < 2 ^ 31) : inb (nI k) n = decide (k < n) := by
  unfold inb
  rw [nI_clamp h, decide_eq_true (nI_pos' h), Bool.true_and]
theorem inb_ok {k n : Nat} (h : k < n) (hn : n ≤ 100000) : inb (nI k) n = true := by
  rw [inb_nI (by omega), decide_eq_true h]
theorem lt_num {a b : Nat} (ha : a < 2 ^ 31) (hb : b < 2 ^ 31) : (nI a < (OfNat.ofNat b : Int32)) ↔ a < b := nI_ltI ha hb
theorem le_num {a b : Nat} (ha : a < 2 ^ 31) (hb : b < 2 ^ 31) : (nI a ≤ (OfNat.ofNat b : Int32)) ↔ a ≤ b := nI_leI ha hb
theorem num_lt {a b : Nat} (ha : a < 2 ^ 31) (hb : b < 2 ^ 31) : ((OfNat.ofNat b : Int32) < nI a) ↔ b < a := nI_ltI hb ha
theorem num_le {a b : Nat} (ha : a < 2 ^ 31) (hb : b < 2 ^ 31) : ((OfNat.ofNat b : Int32) ≤ nI a) ↔ b ≤ a := nI_leI hb ha
theorem eq_num {a b : Nat} (ha : a < 2 ^ 31) (hb : b < 2 ^ 31) : (nI a = (OfNat.ofNat b : Int32)) ↔ a = b := nI_eq ha hb
theorem num_is (b : Nat) : (OfNat.ofNat b : Int32) = nI b := rfl
theorem nI_neg {a : Nat} {z : Int32} (h : a < 2 ^ 31) (hz : z < 0) : ¬ nI a = z := fun e => nI_pos h (e ▸ hz)
theorem m9_lt : (-9 : Int32) < 0 := by decide
theorem nI_m9 {a : Nat} (h : a < 2 ^ 31) : ¬ nI a = -9 := nI_neg h m9_lt
theorem m9_nI {a : Nat} (h : a < 2 ^ 31) : ¬ (-9 : Int32) = nI a := fun e => nI_m9 h e.symm
theorem i_cases (x : Int32) (n : Nat) (hn : n < 2 ^ 31) : x < 0 ∨ (¬ x < 0 ∧ nI n ≤ x) ∨ ∃ j : Nat, j < n ∧ x = nI j := by
  rcases pk_ix x hn with h | h | h
  · exact Or.inl h
  · refine Or.inr (Or.inl ⟨fun h2 => ?_, h⟩)
    have h3 : (0 : Int32) ≤ nI n := nI_pos' hn
    exact absurd h2 (Int32.not_lt.mpr (Int32.le_trans h3 h))
  · exact Or.inr (Or.inr h)
/-- a loop that runs through 0 .. n -/
theorem lp_run {R : Type} (L : Nat → Nat → R) (r : R) (n : Nat) (hs : ∀ j k, j < n → L (k + 1) j = L k (j + 1)) (he : ∀ k, L (k + 1) n = r) : ∀ d j k, j + d = n → d < k → L k j = r
  | 0, j, k, h1, h2 => by
    obtain ⟨k', rfl⟩ : ∃ k', k = k' + 1 := ⟨k - 1, by omega⟩
    have : j = n := by omega
    rw [this]
    exact he k'
  | d + 1, j, k, h1, h2 => by
    obtain ⟨k', rfl⟩ : ∃ k', k = k' + 1 := ⟨k - 1, by omega⟩
    rw [hs j k' (by omega)]
    exact lp_run L r n hs he d (j + 1) k' (by omega) (by omega)
theorem lp0 {R : Type} (L : Nat → Nat → R) (r : R) (n : Nat) (hs : ∀ j k, j < n → L (k + 1) j = L k (j + 1)) (he : ∀ k, L (k + 1) n = r) (hn : n < 100000) : L FU 0 = r := lp_run L r n hs he n 0 FU (by omega) hn
def sumI (f : Nat → Int32) : Nat → Int32
  | 0 => 0
  | n + 1 => sumI f n + f n
theorem sumI_cong {f g : Nat → Int32} : ∀ {n : Nat}, (∀ k, k < n → f k = g k) → sumI f n = sumI g n
  | 0, _ => rfl
  | n + 1, h => by
    rw [sumI, sumI, sumI_cong (fun k hk => h k (by omega)), h n (by omega)]
-- counting and sets of places
def cntN (p : Nat → Bool) : Nat → Nat
  | 0 => 0
  | n + 1 => cntN p n + (if p n then 1 else 0)
theorem cntN_le (p : Nat → Bool) : ∀ n, cntN p n ≤ n
  | 0 => Nat.le_refl _
  | n + 1 => by
    have h := cntN_le p n
    rw [cntN]
    split <;> omega
theorem cntN_cong {p q : Nat → Bool} : ∀ {n : Nat}, (∀ k, k < n → p k = q k) → cntN p n = cntN q n
  | 0, _ => rfl
  | n + 1, h => by
    rw [cntN, cntN, cntN_cong (fun k hk => h k (by omega)), h n (by omega)]
def msk (p : Nat → Bool) : Nat → Nat
  | 0 => 0
  | n + 1 => msk p n + (if p n then 2 ^ n else 0)
theorem msk_lt (p : Nat → Bool) : ∀ n, msk p n < 2 ^ n
  | 0 => Nat.zero_lt_one
  | n + 1 => by
    have h := msk_lt p n
    rw [msk, Nat.pow_succ]
    split <;> omega
theorem msk_cong {p q : Nat → Bool} : ∀ {n : Nat}, (∀ k, k < n → p k = q k) → msk p n = msk q n
  | 0, _ => rfl
  | n + 1, h => by
    rw [msk, msk, msk_cong (fun k hk => h k (by omega)), h n (by omega)]
theorem msk_bit (p : Nat → Bool) : ∀ (n i : Nat), (msk p n).testBit i = (decide (i < n) && p i)
  | 0, i => by simp [msk]
  | n + 1, i => by
    have h := msk_lt p n
    have ih := msk_bit p n i
    rw [msk]
    cases hp : p n with
    | false =>
      simp only [Bool.false_eq_true, if_false, Nat.add_zero]
      rw [ih]
      by_cases hi : i = n
      · subst hi
        simp [hp]
      · have e : decide (i < n) = decide (i < n + 1) := by
          apply decide_eq_decide.mpr
          omega
        rw [e]
    | true =>
      simp only [if_true]
      rw [Nat.add_comm]
      by_cases hi : i = n
      · subst hi
        rw [Nat.testBit_two_pow_add_eq, ih]
        simp [hp]
      · by_cases hl : i < n
        · rw [Nat.testBit_two_pow_add_gt hl, ih]
          simp [hl, Nat.lt_succ_of_lt hl]
        · have h2 : 2 ^ n + msk p n < 2 ^ i := by
            have : 2 ^ (n + 1) ≤ 2 ^ i := Nat.pow_le_pow_right (by decide) (by omega)
            rw [Nat.pow_succ] at this
            omega
          rw [Nat.testBit_lt_two_pow h2]
          have : ¬ i < n + 1 := by omega
          simp [this]
theorem msk_eq {p : Nat → Bool} {n m : Nat} (h : ∀ i, m.testBit i = (decide (i < n) && p i)) : m = msk p n := by
  apply Nat.eq_of_testBit_eq
  intro i
  rw [h, msk_bit]
theorem msk_lt128 (p : Nat → Bool) {n : Nat} (h : n ≤ 7) : msk p n < 128 := Nat.lt_of_lt_of_le (msk_lt p n) (Nat.pow_le_pow_right (by decide) h : 2 ^ n ≤ 2 ^ 7)
/-- how many bits of a small number are set -/
def pcN (m : Nat) : Nat := cntN m.testBit 8
theorem cntN_out {p : Nat → Bool} {n : Nat} : ∀ d, (∀ k, n ≤ k → p k = false) → cntN p (n + d) = cntN p n
  | 0, _ => rfl
  | d + 1, h => by
    rw [Nat.add_succ, cntN, cntN_out d h, h (n + d) (by omega)]
    rfl
theorem pc_msk {p : Nat → Bool} {n : Nat} (hn : n ≤ 8) : pcN (msk p n) = cntN p n := by
  unfold pcN
  have h1 : cntN (msk p n).testBit 8 = cntN (fun i => decide (i < n) && p i) 8 := cntN_cong (fun k _ => msk_bit p n k)
  have h2 : cntN (fun i => decide (i < n) && p i) (n + (8 - n)) = cntN (fun i => decide (i < n) && p i) n := cntN_out (8 - n) (fun k hk => by simp; omega)
  rw [show n + (8 - n) = 8 by omega] at h2
  rw [h1, h2]
  exact cntN_cong (fun k hk => by simp [hk])
-- the machine's own bits, below 128 (256)
theorem b_one : ∀ g, g < 8 → (1 : Int32) <<< (nI g &&& 31) = nI (2 ^ g) := by decide +kernel
theorem b_or : ∀ g, g < 7 → ∀ m, m < 128 → nI m ||| nI (2 ^ g) = nI (m ||| 2 ^ g) := by decide +kernel
theorem b_clr : ∀ g, g < 7 → ∀ m, m < 128 → nI m &&& (nI (2 ^ g) ^^^ (-1)) = nI (m &&& (127 - 2 ^ g)) := by decide +kernel
theorem b_tst : ∀ g, g < 7 → ∀ m, m < 128 → (nI m &&& nI (2 ^ g) = 0 ↔ m.testBit g = false) := by decide +kernel
theorem b_and : ∀ a, a < 128 → ∀ b, b < 128 → nI a &&& nI b = nI (a &&& b) := by decide +kernel
