-- texts read: rite
/-- what is filled, place behind place, by those that p picks -/
def gX (p : Nat → Bool) (v F : Nat → Int32) : Nat → (Nat → Int32)
  | 0 => F
  | j + 1 => if p j then upd (gX p v F j) (cntN p j) (v j) else gX p v F j
theorem gX_t {p : Nat → Bool} {v F : Nat → Int32} {j : Nat} (h : p j = true) : gX p v F (j + 1) = upd (gX p v F j) (cntN p j) (v j) := by
  rw [gX, if_pos h]
theorem gX_f {p : Nat → Bool} {v F : Nat → Int32} {j : Nat} (h : p j = false) : gX p v F (j + 1) = gX p v F j := by
  rw [gX, h]
  rfl
theorem cnt_t {p : Nat → Bool} {j : Nat} (h : p j = true) : cntN p (j + 1) = cntN p j + 1 := by
  rw [cntN, if_pos h]
theorem cnt_f {p : Nat → Bool} {j : Nat} (h : p j = false) : cntN p (j + 1) = cntN p j := by
  rw [cntN, h]
  rfl
theorem cnt_mono (p : Nat → Bool) {j : Nat} : ∀ {m : Nat}, j ≤ m → cntN p j ≤ cntN p m
  | 0, h => by
    rw [show j = 0 by omega]
    exact Nat.le_refl _
  | m + 1, h => by
    by_cases e : j = m + 1
    · rw [e]
      exact Nat.le_refl _
    · have := cnt_mono p (j := j) (m := m) (by omega)
      rw [cntN]
      omega
theorem gX_ge {p : Nat → Bool} {v F : Nat → Int32} {b : Nat} : ∀ j, cntN p j ≤ b → gX p v F j b = F b
  | 0, _ => rfl
  | j + 1, h => by
    cases hp : p j with
    | false =>
      rw [cnt_f hp] at h
      rw [gX_f hp, gX_ge j h]
    | true =>
      rw [cnt_t hp] at h
      rw [gX_t hp, uq_n _ _ (by omega), gX_ge j (by omega)]
theorem gX_lt {p : Nat → Bool} {v F F' : Nat → Int32} {b : Nat} : ∀ j, b < cntN p j → gX p v F j b = gX p v F' j b
  | 0, h => absurd h (Nat.not_lt_zero _)
  | j + 1, h => by
    cases hp : p j with
    | false =>
      rw [cnt_f hp] at h
      rw [gX_f hp, gX_f hp, gX_lt j h]
    | true =>
      rw [cnt_t hp] at h
      rw [gX_t hp, gX_t hp]
      by_cases e : b = cntN p j
      · rw [e, uq_s, uq_s]
      · rw [uq_n _ _ e, uq_n _ _ e, gX_lt j (by omega)]
theorem gX_mix {p : Nat → Bool} {v F F' : Nat → Int32} (j : Nat) : (fun b => if b < cntN p j then gX p v F j b else F' b) = gX p v F' j := by
  funext b
  by_cases h : b < cntN p j
  · rw [if_pos h, gX_lt j h]
  · rw [if_neg h, gX_ge j (by omega)]
theorem gX_all {p : Nat → Bool} {v F : Nat → Int32} {P : Int32 → Prop} {b : Nat} : ∀ j, (∀ i, i < j → p i = true → P (v i)) → b < cntN p j → P (gX p v F j b)
  | 0, _, h => absurd h (Nat.not_lt_zero _)
  | j + 1, hv, h => by
    cases hp : p j with
    | false =>
      rw [cnt_f hp] at h
      rw [gX_f hp]
      exact gX_all j (fun i hi => hv i (by omega)) h
    | true =>
      rw [cnt_t hp] at h
      rw [gX_t hp]
      by_cases e : b = cntN p j
      · rw [e, uq_s]
        exact hv j (by omega) hp
      · rw [uq_n _ _ e]
        exact gX_all j (fun i hi => hv i (by omega)) (by omega)
def TxC (x : Mem) (t m : Nat) (c : Nat → Int32) : Prop := x.1 (60 + 2 * t) 0 = nI m ∧ ∀ i, i < m → x.1 (61 + 2 * t) i = c i
def TxR (x : Mem) (t m : Nat) (c : Nat → Int32) : Prop := x.1 73 t = nI m ∧ ∀ i, i < m → x.1 74 (60 * t + i) = c i
section RIT
variable {s x : Mem} {t m : Nat} {c : Nat → Int32}
theorem byteC (h : TxC x t m c) (hm : m ≤ 60) {i : Nat} (hi : i < m) : fX9_byteAt (60 + 2 * t) (nI i) x = some (c i, x) := by
  unfold fX9_byteAt
  rw [thas_t h.1 hm hi, bnd_some, if_neg one_ne, if_pos (inb_ok (by omega) (by decide)), ix_nI (by omega), e60, h.2 i hi]
theorem byteR (h : TxR x t m c) (ht : t < 4) (hm : m ≤ 60) {i : Nat} (hi : i < m) : fX12_byteAt (nI t) (nI i) x = some (c i, x) := by
  unfold fX12_byteAt
  rw [if_pos (inb_ok ht (by decide)), ix_nI (by omega), h.1, if_pos (nI_lt hi (by omega)), six0, if_pos (inb_ok (by omega) (by decide)), ix_nI (by omega), h.2 i hi]
theorem byteR0 (h : TxR x t m c) (ht : t < 4) (hm : m ≤ 60) : fX12_byteAt (nI t) (nI m) x = some (0, x) := by
  unfold fX12_byteAt
  rw [if_pos (inb_ok ht (by decide)), ix_nI (by omega), h.1, if_neg (nI_nlt (Nat.le_refl m) (by omega))]
def pst (y : Int32) : Int32 := if y = 115 then 0 else if y = 116 then 1 else if y = 107 then 2 else -9
theorem pstC (y : Int32) : fX9_postureByLetter y s = some (pst y, s) := by
  unfold fX9_postureByLetter pst
  by_cases h1 : y = 115
  · subst h1
    rfl
  · by_cases h2 : y = 116
    · subst h2
      rfl
    · by_cases h3 : y = 107
      · subst h3
        rfl
      · rw [if_neg h3, if_neg h1, if_neg h2, if_neg h1, if_neg h2, if_neg h3]
theorem pstR (y : Int32) : fX12_postureOf y s = some (pst y, s) := by
  unfold fX12_postureOf pst
  by_cases h1 : y = 115
  · subst h1
    rfl
  · by_cases h2 : y = 116
    · subst h2
      rfl
    · by_cases h3 : y = 107
      · subst h3
        rfl
      · rw [if_neg h1, if_neg h2, if_neg h3, if_neg h1, if_neg h2, if_neg h3]
theorem pst_cases (y : Int32) : pst y = -9 ∨ ∃ p : Nat, p < 3 ∧ pst y = nI p := by
  unfold pst
  by_cases h1 : y = 115
  · rw [if_pos h1]
    exact Or.inr ⟨0, by decide, rfl⟩
  · by_cases h2 : y = 116
    · rw [if_neg h1, if_pos h2]
      exact Or.inr ⟨1, by decide, rfl⟩
    · by_cases h3 : y = 107
      · rw [if_neg h1, if_neg h2, if_pos h3]
        exact Or.inr ⟨2, by decide, rfl⟩
      · rw [if_neg h1, if_neg h2, if_neg h3]
        exact Or.inl rfl
def isP (c : Nat → Int32) (i : Nat) : Bool := decide (pst (c i) ≠ -9)
theorem isP_t {i : Nat} (h : ¬ pst (c i) = -9) : isP c i = true := decide_eq_true h
theorem isP_f {i : Nat} (h : pst (c i) = -9) : isP c i = false := decide_eq_false (fun z => z h)
def rwk (c : Nat → Int32) (m : Nat) : Nat → Nat → Int32
  | 0, j => if cntN (isP c) j = 0 then nI m else -9
  | d + 1, j => if isP c j then (if cntN (isP c) j < 40 then rwk c m d (j + 1) else nI j) else (if c j = 32 then rwk c m d (j + 1) else nI j)
theorem rwk_ok (hm : m ≤ 60) : ∀ d j, j + d = m → cntN (isP c) j ≤ 40 → rwk c m d j = -9 → (∀ i, j ≤ i → i < m → isP c i = false → c i = 32) ∧ cntN (isP c) m ≤ 40 ∧ cntN (isP c) m ≠ 0
  | 0, j, h1, h2, h3 => by
    have e : j = m := by omega
    subst e
    rw [rwk] at h3
    by_cases h : cntN (isP c) j = 0
    · rw [if_pos h] at h3
      exact absurd h3 (nI_m9 (by omega))
    · exact ⟨fun i h4 h5 => absurd h5 (by omega), h2, h⟩
  | d + 1, j, h1, h2, h3 => by
    rw [rwk] at h3
    cases hp : isP c j with
    | true =>
      rw [hp, if_pos rfl] at h3
      by_cases h : cntN (isP c) j < 40
      · rw [if_pos h] at h3
        obtain ⟨a1, a2⟩ := rwk_ok hm d (j + 1) (by omega) (by rw [cnt_t hp]; omega) h3
        refine ⟨fun i h4 h5 h6 => ?_, a2⟩
        by_cases e : i = j
        · rw [e, hp] at h6
          exact absurd h6 (by decide)
        · exact a1 i (by omega) h5 h6
      · rw [if_neg h] at h3
        exact absurd h3 (nI_m9 (by omega))
    | false =>
      rw [hp, if_neg (by decide)] at h3
      by_cases h : c j = 32
      · rw [if_pos h] at h3
        obtain ⟨a1, a2⟩ := rwk_ok hm d (j + 1) (by omega) (by rw [cnt_f hp]; exact h2) h3
        refine ⟨fun i h4 h5 h6 => ?_, a2⟩
        by_cases e : i = j
        · rw [e]
          exact h
        · exact a1 i (by omega) h5 h6
      · rw [if_neg h] at h3
        exact absurd h3 (nI_m9 (by omega))
theorem cnt60 (p : Nat → Bool) {j m : Nat} (h : j ≤ m) (hm : m ≤ 60) : cntN p j ≤ 60 := by
  have := cntN_le p j
  omega
theorem rwkC (h : TxC x t m c) (hm : m ≤ 60) : ∀ d j k, j + d = m → d < k → fX9_faultAsRite_L4 (fun v9 s10 => if v9 = 0 then some (s10.1 (60 + 2 * t) 0, s10) else some ((-9), s10)) (60 + 2 * t) k (nI (cntN (isP c) j)) (nI j) x = some (rwk c m d j, x)
  | 0, j, k, h1, h2 => by
    obtain ⟨k', rfl⟩ : ∃ k', k = k' + 1 := ⟨k - 1, by omega⟩
    have hc := cnt60 (isP c) (show j ≤ m by omega) hm
    rw [fX9_faultAsRite_L4, h.1, if_neg (nI_nlt (by omega) (by omega)), rwk]
    by_cases e : cntN (isP c) j = 0
    · rw [if_pos e, e, if_pos (show nI 0 = 0 from rfl)]
    · rw [if_neg e, if_neg (fun z => e ((eq_num (b := 0) (by omega) (by decide)).mp z))]
  | d + 1, j, k, h1, h2 => by
    obtain ⟨k', rfl⟩ : ∃ k', k = k' + 1 := ⟨k - 1, by omega⟩
    have hc := cnt60 (isP c) (show j ≤ m by omega) hm
    rw [fX9_faultAsRite_L4, h.1, if_pos (nI_lt (by omega) (by omega)), byteC h hm (by omega), bnd_some, pstC, bnd_some, rwk, nI_1, nI_1]
    by_cases e : pst (c j) = -9
    · have hp := isP_f e
      rw [if_pos e, hp, if_neg (show ¬ (false = true) by decide)]
      by_cases e2 : c j = 32
      · have ih := rwkC h hm d (j + 1) k' (by omega) (by omega)
        rw [cnt_f hp] at ih
        rw [if_pos e2, if_pos e2, ih]
      · rw [if_neg e2, if_neg e2]
    · have hp := isP_t e
      rw [if_neg e, hp, if_pos rfl]
      by_cases e2 : cntN (isP c) j < 40
      · have ih := rwkC h hm d (j + 1) k' (by omega) (by omega)
        rw [cnt_t hp] at ih
        rw [if_pos ((lt_num (b := 40) (by omega) (by decide)).mpr e2), if_pos e2, ih]
      · rw [if_neg (fun z => e2 ((lt_num (b := 40) (by omega) (by decide)).mp z)), if_neg e2]
theorem p32 : pst 32 = -9 := by decide
theorem rwkR (h : TxR x t m c) (ht : t < 4) (hm : m ≤ 60) : ∀ d j k, j + d = m → d < k → cntN (isP c) j ≤ 40 → fX12_riteFault_L4 (fun v10 s11 => if v10 = 0 then if inb (nI t) 4 = true then some (s11.1 73 (ix (nI t)), s11) else none else some ((-9), s11)) (nI t) k (nI (cntN (isP c) j)) (nI j) x = some (rwk c m d j, x)
  | 0, j, k, h1, h2, h4 => by
    obtain ⟨k', rfl⟩ : ∃ k', k = k' + 1 := ⟨k - 1, by omega⟩
    have hin : inb (nI t) 4 = true := inb_ok ht (by decide)
    have hc := cnt60 (isP c) (show j ≤ m by omega) hm
    rw [fX12_riteFault_L4, if_pos hin, ix_nI (by omega), h.1, if_neg (nI_nlt (by omega) (by omega)), rwk]
    by_cases e : cntN (isP c) j = 0
    · rw [if_pos e, e, if_pos (show nI 0 = 0 from rfl), if_pos hin]
    · rw [if_neg e, if_neg (fun z => e ((eq_num (b := 0) (by omega) (by decide)).mp z))]
  | d + 1, j, k, h1, h2, h4 => by
    obtain ⟨k', rfl⟩ : ∃ k', k = k' + 1 := ⟨k - 1, by omega⟩
    have hin : inb (nI t) 4 = true := inb_ok ht (by decide)
    have hc := cnt60 (isP c) (show j ≤ m by omega) hm
    rw [fX12_riteFault_L4, if_pos hin, ix_nI (show t < 2 ^ 31 by omega), h.1, if_pos (nI_lt (by omega) (by omega)), byteR h ht hm (by omega), bnd_some, pstR, bnd_some, rwk, nI_1, nI_1]
    by_cases e : c j = 32
    · have hp : isP c j = false := isP_f (by rw [e]; exact p32)
      have ih := rwkR h ht hm d (j + 1) k' (by omega) (by omega) (by rw [cnt_f hp]; exact h4)
      rw [cnt_f hp] at ih
      rw [ix_nI (show t < 2 ^ 31 by omega)] at ih
      rw [if_pos e, hp, if_neg (show ¬ (false = true) by decide), if_pos e, ih]
    · rw [if_neg e]
      by_cases e2 : pst (c j) = -9
      · rw [if_pos e2, isP_f e2, if_neg (show ¬ (false = true) by decide), if_neg e]
      · have hp := isP_t e2
        rw [if_neg e2, hp, if_pos rfl]
        by_cases e3 : cntN (isP c) j = 40
        · rw [if_pos (show nI (cntN (isP c) j) = 40 by rw [e3]; rfl), if_neg (by omega)]
        · have ih := rwkR h ht hm d (j + 1) k' (by omega) (by omega) (by rw [cnt_t hp]; omega)
          rw [cnt_t hp] at ih
          rw [ix_nI (show t < 2 ^ 31 by omega)] at ih
          rw [if_neg (fun z => e3 ((eq_num (b := 40) (by omega) (by decide)).mp z)), if_pos (by omega), ih]
theorem faultC (h : TxC x t m c) (hm : m ≤ 60) : fX9_faultAsRite (60 + 2 * t) x = some (rwk c m m 0, x) := rwkC h hm m 0 FU (by omega) (by unfold FU; omega)
theorem faultR (h : TxR x t m c) (ht : t < 4) (hm : m ≤ 60) : fX12_riteFault (nI t) x = some (rwk c m m 0, x) := rwkR h ht hm m 0 FU (by omega) (by unfold FU; omega) (Nat.zero_le _)
theorem radd {k p : Nat} (hk : k < 40) (h : x.1 18 0 = nI k) : fX6_add (nI p) x = some ((), wI (wI (wI x 19 k (nI p)) 18 2 (x.1 18 2 ||| ((1 : Int32) <<< (nI p &&& 31)))) 18 0 (nI (k + 1))) := by
  have r1 : ∀ (y : Mem) (j : Nat) (v : Int32), (wI y 19 j v).1 18 0 = y.1 18 0 := fun _ _ _ => rfl
  have r2 : ∀ (y : Mem) (j : Nat) (v : Int32), (wI y 19 j v).1 18 2 = y.1 18 2 := fun _ _ _ => rfl
  have r3 : ∀ (y : Mem) (v : Int32), (wI y 18 2 v).1 18 0 = y.1 18 0 := fun _ _ => rfl
  unfold fX6_add
  simp only [r1, r2, r3, h]
  rw [if_pos ((lt_num (b := 40) (by omega) (by decide)).mpr hk), if_pos (inb_ok hk (by decide)), ix_nI (by omega), nI_1]
/-- the class fills its rite -/
theorem fillC (h : TxC x t m c) (ht : t < 4) (hm : m ≤ 60) (h40 : cntN (isP c) m ≤ 40) (h0 : x.1 18 0 = nI 0) (h2 : x.1 18 2 = 0) : ∃ x', fX9_fillRite_18 (60 + 2 * t) x = some ((), x') ∧ SmX (fun a => a = 18 ∨ a = 19) x x' ∧ x'.1 18 0 = nI (cntN (isP c) m) ∧ x'.1 19 = gX (isP c) (fun i => pst (c i)) (x.1 19) m ∧ ∃ Q : Nat → Bool, (∀ p, p < 3 → (Q p = true ↔ ∃ i, i < cntN (isP c) m ∧ gX (isP c) (fun i => pst (c i)) (x.1 19) m i = nI p)) ∧ x'.1 18 2 = nI (msk Q 3) := by
  unfold fX9_fillRite_18
  have key := lp_inv0 (fun k j (y : Mem) => fX9_fillRite_18_L2 (fun s9 => some ((), s9)) (60 + 2 * t) k (nI j) y) (fun j y => SmX (fun a => a = 18 ∨ a = 19) x y ∧ y.1 18 0 = nI (cntN (isP c) j) ∧ y.1 19 = gX (isP c) (fun i => pst (c i)) (x.1 19) j ∧ ∃ Q : Nat → Bool, (∀ p, p < 3 → (Q p = true ↔ ∃ i, i < cntN (isP c) j ∧ gX (isP c) (fun i => pst (c i)) (x.1 19) j i = nI p)) ∧ y.1 18 2 = nI (msk Q 3)) m x ?_ ?_ (by omega)
  · obtain ⟨x', k, ⟨i1, i2, i3, i4⟩, e⟩ := key
    refine ⟨x', ?_, i1, i2, i3, i4⟩
    have e' : fX9_fillRite_18_L2 (fun s9 => some ((), s9)) (60 + 2 * t) FU 0 x = fX9_fillRite_18_L2 (fun s9 => some ((), s9)) (60 + 2 * t) (k + 1) (nI m) x' := e
    rw [e', fX9_fillRite_18_L2, i1.1 (60 + 2 * t) (by unfold Cr; omega) (by omega), h.1, if_neg (nI_nlt (Nat.le_refl m) (by omega))]
  · refine ⟨SmX.rf x, h0, rfl, fun _ => false, fun p hp => ⟨fun z => absurd z Bool.false_ne_true, fun ⟨i, hi, _⟩ => absurd hi (Nat.not_lt_zero _)⟩, ?_⟩
    rw [h2, msk_zero (fun _ => rfl)]
    rfl
  · rintro j k y hj ⟨i1, i2, i3, Q, hQ, i4⟩
    show ∃ y', _ ∧ fX9_fillRite_18_L2 _ (60 + 2 * t) (k + 1) (nI j) y = fX9_fillRite_18_L2 _ (60 + 2 * t) k (nI (j + 1)) y'
    have hy : TxC y t m c := ⟨by rw [i1.1 (60 + 2 * t) (by unfold Cr; omega) (by omega)]; exact h.1, by rw [i1.1 (61 + 2 * t) (by unfold Cr; omega) (by omega)]; exact h.2⟩
    rw [fX9_fillRite_18_L2, hy.1, if_pos (nI_lt hj (by omega)), byteC hy hm hj, bnd_some, pstC, bnd_some, nI_1]
    rcases pst_cases (c j) with e | ⟨p, hp, e⟩
    · have hpf := isP_f e
      rw [if_pos e]
      refine ⟨y, ⟨i1, ?_, ?_, Q, ?_, i4⟩, rfl⟩
      · rw [cnt_f hpf]
        exact i2
      · rw [gX_f hpf]
        exact i3
      · rw [cnt_f hpf, gX_f hpf]
        exact hQ
    · have hpt : isP c j = true := isP_t (by rw [e]; exact nI_m9 (by omega))
      have hlt : cntN (isP c) j < 40 := by
        have h1 : cntN (isP c) (j + 1) ≤ cntN (isP c) m := cnt_mono _ (by omega)
        rw [cnt_t hpt] at h1
        omega
      rw [e, if_neg (nI_m9 (by omega)), radd hlt i2, bnd_some]
      refine ⟨_, ⟨i1.tr (((SmX.wI (by omega) (by omega) (by omega)).tr (SmX.wI (by omega) (by omega) (by omega))).tr (SmX.wI (by omega) (by omega) (by omega))), ?_, ?_, fun q => Q q || decide (q = p), ?_, ?_⟩, rfl⟩
      · rw [cnt_t hpt]
        rfl
      · rw [gX_t hpt, wI_ne (by decide), wI_ne (by decide), wI_eq, i3, e]
      · intro q hq
        rw [cnt_t hpt, gX_t hpt, Bool.or_eq_true, hQ q hq, decide_eq_true_iff]
        constructor
        · rintro (⟨i, hi, hc⟩ | rfl)
          · exact ⟨i, by omega, by rw [uq_n _ _ (by omega)]; exact hc⟩
          · exact ⟨cntN (isP c) j, by omega, by rw [uq_s]; exact e⟩
        · rintro ⟨i, hi, hc⟩
          by_cases e2 : i = cntN (isP c) j
          · rw [e2, uq_s] at hc
            exact Or.inr ((nI_eq (by omega) (by omega)).mp (hc.symm.trans e))
          · rw [uq_n _ _ e2] at hc
            exact Or.inl ⟨i, by omega, hc⟩
      · show y.1 18 2 ||| ((1 : Int32) <<< (nI p &&& 31)) = _
        rw [i4, b_one p (by omega), b_or p (by omega) _ (msk_lt128 _ (by decide)), msk_or1 _ hp]
/-- the reference fills its rite -/
theorem fillR (h : TxR x t m c) (ht : t < 4) (hm : m ≤ 60) (h40 : cntN (isP c) m ≤ 40) (h32 : ∀ i, i < m → isP c i = false → c i = 32) (h0 : x.1 68 19 = nI 0) (κ : Mem → Option (Int32 × Mem)) : ∃ x', fX12_rite_L44 κ (nI t) FU 0 x = κ x' ∧ SmX (fun a => a = 80 ∨ a = 1019) x x' ∧ x'.1 68 19 = nI (cntN (isP c) m) ∧ x'.1 80 = gX (isP c) (fun i => pst (c i)) (x.1 80) m := by
  have hin : inb (nI t) 4 = true := inb_ok ht (by decide)
  have key := lp_inv0 (fun k j (y : Mem) => fX12_rite_L44 κ (nI t) k (nI j) y) (fun j y => SmX (fun a => a = 80 ∨ a = 1019) x y ∧ y.1 68 19 = nI (cntN (isP c) j) ∧ y.1 80 = gX (isP c) (fun i => pst (c i)) (x.1 80) j) m x ⟨SmX.rf x, h0, rfl⟩ ?_ (by omega)
  · obtain ⟨x', k, ⟨i1, i2, i3⟩, e⟩ := key
    refine ⟨x', ?_, i1, i2, i3⟩
    have e' : fX12_rite_L44 κ (nI t) FU 0 x = fX12_rite_L44 κ (nI t) (k + 1) (nI m) x' := e
    rw [e', fX12_rite_L44, if_pos hin, i1.1 73 (by unfold Cr; omega) (by omega), ix_nI (by omega), h.1, if_neg (nI_nlt (Nat.le_refl m) (by omega))]
  · rintro j k y hj ⟨i1, i2, i3⟩
    show ∃ y', _ ∧ fX12_rite_L44 _ (nI t) (k + 1) (nI j) y = fX12_rite_L44 _ (nI t) k (nI (j + 1)) y'
    have hy : TxR y t m c := ⟨by rw [i1.1 73 (by unfold Cr; omega) (by omega)]; exact h.1, by rw [i1.1 74 (by unfold Cr; omega) (by omega)]; exact h.2⟩
    rw [fX12_rite_L44, if_pos hin, ix_nI (show t < 2 ^ 31 by omega), hy.1, if_pos (nI_lt hj (by omega)), byteR hy ht hm hj, bnd_some, nI_1]
    by_cases e : c j = 32
    · have hpf : isP c j = false := isP_f (by rw [e]; exact p32)
      rw [if_pos e]
      refine ⟨y, ⟨i1, ?_, ?_⟩, rfl⟩
      · rw [cnt_f hpf]
        exact i2
      · rw [gX_f hpf]
        exact i3
    · have hpt : isP c j = true := by
        cases hb : isP c j with
        | true => rfl
        | false => exact absurd (h32 j hj hb) e
      have hlt : cntN (isP c) j < 40 := by
        have h1 : cntN (isP c) (j + 1) ≤ cntN (isP c) m := cnt_mono _ (by omega)
        rw [cnt_t hpt] at h1
        omega
      rw [if_neg e, byteR hy ht hm hj, bnd_some, pstR, bnd_some, i2, if_pos (inb_ok hlt (by decide)), ix_nI (show cntN (isP c) j < 2 ^ 31 by omega)]
      have r1 : (wI y 80 (cntN (isP c) j) (pst (c j))).1 68 19 = y.1 68 19 := rfl
      rw [r1, i2, nI_1]
      refine ⟨_, ⟨i1.tr ((SmX.wI (by unfold Cr; omega) (by omega) (by omega)).tr (SmX.wI (by unfold Cr; omega) (by omega) (by omega))), ?_, ?_⟩, rfl⟩
      · rw [cnt_t hpt]
        rfl
      · rw [gX_t hpt, wI_ne (by decide), wI_eq, i3]
end RIT
section RI2
variable {s : Mem}
theorem txC (hI : Inv s) {t m : Nat} (ht : t < 4) (hm : s.1 73 t = nI m) (h60 : m ≤ 60) : TxC s t m (fun i => s.1 74 (60 * t + i)) ∧ TxR s t m (fun i => s.1 74 (60 * t + i)) := by
  obtain ⟨g1, g2, g3⟩ := hI.gc t ht
  exact ⟨⟨g1.trans hm, fun i hi => g3 i m hm hi h60⟩, hm, fun _ _ => rfl⟩
end RI2
theorem al_rite (a1 : Int32) : Alike (fX11_rite a1) (fX12_rite a1) := by
  intro s hI
  unfold fX11_rite fX12_rite
  rcases txt_cases a1 with h | ⟨t, ht, rfl⟩
  · exact ⟨-1, s, s, by rw [textOf_bad h, bnd_some, if_pos rfl], by rw [isText_bad h, bnd_some, if_pos rfl], hI⟩
  · obtain ⟨g1, g2, g3⟩ := hI.gc t ht
    have hin : inb (nI t) 4 = true := inb_ok ht (by decide)
    rw [textOf_ok ht, bnd_some, if_neg txt_ne, if_pos (rt5 t ht).2]
    rcases szOk_cases g2 with ⟨hm, -⟩ | ⟨m, h60, hm⟩
    · obtain ⟨s1, s2, e1, e2, e3⟩ := found_al hI (f := 1) (by decide)
      refine ⟨-3, s1, s2, ?_, ?_, e3⟩
      · rw [tmiss_t (by rw [g1]; exact hm), bnd_some, if_neg one_ne]
        show bnd (fX10_found (nI 1) s) _ = _
        rw [e1, bnd_some]
      · rw [isText_ok ht, bnd_some, if_neg one_ne, if_pos hin, ix_nI (by omega), f_found73 (by decide) e1, if_pos hm]
        show bnd (fX12_meets (nI 1) s1) _ = _
        rw [e2, bnd_some]
    · obtain ⟨tc, tr⟩ := txC hI ht hm h60
      generalize hcc : (fun i => s.1 74 (60 * t + i)) = c at *
      rw [tmiss_f (g1.trans hm) h60, bnd_some, if_pos rfl, faultC tc h60, bnd_some]
      by_cases hf : rwk c m m 0 = -9
      · obtain ⟨a1, a2, a3⟩ := rwk_ok h60 m 0 (by omega) (Nat.zero_le _) hf
        obtain ⟨nb, n, nq, nm, nd, ga, gb, gc, gd, ge, gf, gg, gh, gi, gj⟩ := id hI
        have tc0 : TxC (wI (wI s 18 0 0) 18 2 0) t m c := by
          refine ⟨?_, ?_⟩
          · rw [wI_ne (by omega), wI_ne (by omega)]
            exact tc.1
          · rw [wI_ne (by omega), wI_ne (by omega)]
            exact tc.2
        obtain ⟨sa, ea, ma, w1, w2, Q, hQ, w3⟩ := fillC tc0 ht h60 a2 rfl rfl
        have m1 : SmX (fun a => a = 18 ∨ a = 19) s sa := ((SmX.wI (by omega) (by omega) (by omega)).tr (SmX.wI (by omega) (by omega) (by omega))).tr ma
        have tr1 : TxR sa t m c := by
          refine ⟨?_, ?_⟩
          · rw [m1.1 73 (by unfold Cr; omega) (by omega)]
            exact tr.1
          · rw [m1.1 74 (by unfold Cr; omega) (by omega)]
            exact tr.2
        have tr2 : TxR (wI sa 68 19 0) t m c := tr1
        obtain ⟨sb, eb, mb, v1, v2⟩ := fillR tr2 ht h60 a2 (fun i hi => a1 i (Nat.zero_le _) hi) rfl (fun s21 => some (s21.1 68 19, s21))
        have hS : SmX (fun a => a = 18 ∨ a = 19 ∨ a = 80 ∨ a = 1019) s sb := ((m1.mono (fun a ha => by omega)).tr (SmX.wI (by unfold Cr; omega) (by omega) (by omega))).tr (mb.mono (fun a ha => by omega))
        refine ⟨nI (cntN (isP c) m), sa, sb, ?_, ?_, ?_⟩
        · rw [if_pos hf]
          unfold fX6_clear
          rw [bnd_some, ea, bnd_some, w1]
        · rw [isText_ok ht, bnd_some, if_neg one_ne, if_pos hin, ix_nI (by omega), tr1.1, if_neg (nI_nonneg (by omega)), faultR tr1 ht h60, bnd_some, if_pos hf, eb, v1]
        · refine ⟨nb, n, nq, cntN (isP c) m, nd, Ga_keep hS (fun a ha => by omega) ga, Gb_keep hS (fun a ha => by omega) gb, Gc_keep hS (fun a ha => by omega) gc, Gd_keep hS (fun a ha => by omega) gd, Ge_keep hS (fun a ha => by omega) ge, Gf_keep hS (fun a ha => by omega) gf, ?_, Gh_keep hS (fun a ha => by omega) gh, Gi_keep hS (fun a ha => by omega) gi, Gj_keep hS (fun a ha => by omega) gj⟩
          have b18 : sb.1 18 = sa.1 18 := (mb.1 18 (by unfold Cr; omega) (by omega)).trans (wI_ne (by decide))
          have b19 : sb.1 19 = sa.1 19 := (mb.1 19 (by unfold Cr; omega) (by omega)).trans (wI_ne (by decide))
          have c19 : sb.1 19 = sb.1 80 := by
            rw [b19, w2, v2]
            have q1 : (wI (wI s 18 0 0) 18 2 0).1 19 = s.1 19 := rfl
            have q2 : (wI sa 68 19 0).1 80 = s.1 80 := m1.1 80 (by unfold Cr; omega) (by omega)
            rw [q1, q2, gg.2.2.2.2.1]
          refine ⟨by omega, a2, ?_, v1, c19, fun i hi => ?_, ?_⟩
          · rw [b18]
            exact w1
          · rw [v2]
            exact gX_all (P := fun y => ∃ p : Nat, p < 3 ∧ y = nI p) m (fun i _ hp => (pst_cases (c i)).resolve_left (of_decide_eq_true hp)) hi
          · rw [b18, w3]
            congr 1
            refine msk_cong (fun p hp => ?_)
            apply Bool.eq_iff_iff.mpr
            rw [hQ p hp, decide_eq_true_iff, ← c19, b19, w2]
      · refine ⟨-4, s, s, ?_, ?_, hI⟩
        · rw [if_neg hf]
        · rw [isText_ok ht, bnd_some, if_neg one_ne, if_pos hin, ix_nI (by omega), tr.1, if_neg (nI_nonneg (by omega)), faultR tr ht h60, bnd_some, if_neg hf]
