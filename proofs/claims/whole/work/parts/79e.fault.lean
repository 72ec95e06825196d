-- a text read as a barge: fault
def knd (y : Int32) : Int32 := if y = 97 then 1 else if y = 99 then 3 else if y = 103 then 0 else if y = 104 then 4 else if y = 107 then 5 else if y = 117 then 2 else -9
def isBl (c : Nat → Int32) (i : Nat) : Bool := decide (c i = 108 ∨ c i = 114 ∨ c i = 109)
def isKl (c : Nat → Int32) (i : Nat) : Bool := decide (knd (c i) ≠ -9)
/-- a figure from a to b -/
def dgt (y : Int32) (a b : Nat) : Prop := ∃ w : Nat, a ≤ w ∧ w ≤ b ∧ y = nI (48 + w)
theorem wth_iff {y : Int32} {a b : Nat} (hb : b < 1000) (hab : a ≤ b) : (¬ y < nI a ∧ ¬ nI b < y) ↔ ∃ w : Nat, a ≤ w ∧ w ≤ b ∧ y = nI w := by
  constructor
  · rintro ⟨h1, h2⟩
    have h0 : ¬ y < 0 := fun z => h1 (Int32.lt_of_lt_of_le z (nI_pos' (by omega)))
    obtain ⟨w, hw, rfl⟩ := rng_nI (n := b) (by omega) h0 h2
    refine ⟨w, ?_, hw, rfl⟩
    refine Nat.le_of_not_lt (fun z => h1 (nI_lt z (by omega)))
  · rintro ⟨w, h1, h2, rfl⟩
    exact ⟨nI_nlt h1 (by omega), nI_nlt h2 (by omega)⟩
theorem dgt_iff {y : Int32} {a b : Nat} (hb : b < 100) (hab : a ≤ b) : dgt y a b ↔ (¬ y < nI (48 + a) ∧ ¬ nI (48 + b) < y) := by
  rw [wth_iff (by omega) (by omega)]
  constructor
  · rintro ⟨w, h1, h2, e⟩
    exact ⟨48 + w, by omega, by omega, e⟩
  · rintro ⟨w, h1, h2, e⟩
    exact ⟨w - 48, by omega, by omega, by rw [e, show 48 + (w - 48) = w by omega]⟩
theorem dgt_iff2 {y : Int32} {a b : Nat} (hb : b < 100) (hab : a ≤ b) : dgt y a b ↔ (¬ y - 48 < nI a ∧ ¬ nI b < y - 48) := by
  rw [wth_iff (by omega) (by omega)]
  constructor
  · rintro ⟨w, h1, h2, e⟩
    refine ⟨w, h1, h2, ?_⟩
    rw [e, show (48 : Int32) = nI 48 from rfl, pk_sub (by omega), Nat.add_sub_cancel_left]
  · rintro ⟨w, h1, h2, e⟩
    refine ⟨w, h1, h2, ?_⟩
    have e2 : y - 48 + 48 = nI w + 48 := by rw [e]
    rw [Int32.sub_add_cancel] at e2
    rw [e2, show (48 : Int32) = nI 48 from rfl, nI_add, Nat.add_comm]
theorem dg_tab : ∀ w, w < 10 → knd (nI (48 + w)) = -9 ∧ ¬ (nI (48 + w) = 108 ∨ nI (48 + w) = 114 ∨ nI (48 + w) = 109) ∧ ¬ nI (48 + w) = 32 := by decide +kernel
section FLT
variable {s x : Mem} {t m : Nat} {c : Nat → Int32}
theorem dg_no {i a b : Nat} (hb : b ≤ 9) (h : dgt (c i) a b) : isBl c i = false ∧ isKl c i = false := by
  obtain ⟨w, h1, h2, e⟩ := h
  obtain ⟨k1, k2, _⟩ := dg_tab w (by omega)
  unfold isBl isKl
  rw [e]
  exact ⟨decide_eq_false k2, decide_eq_false (fun z => z k1)⟩
theorem bl_kl {i : Nat} (h : isBl c i = true) : isKl c i = false := by
  unfold isBl at h
  unfold isKl
  rcases of_decide_eq_true h with e | e | e
  · rw [e]
    decide
  · rw [e]
    decide
  · rw [e]
    decide
theorem k32 : knd 32 = -9 := by decide
/-- what is due behind a figure -/
def fdue (due : Nat) : Nat := if due = 2 then 3 else 0
def dlo (due : Nat) : Nat := if due = 3 then 0 else 1
def dhi (due : Nat) : Nat := if due = 3 then 1 else 9
noncomputable def cf (c : Nat → Int32) (m : Nat) : Nat → Nat → Nat → Int32
  | 0, j, due => if cntN (isBl c) j = 0 then nI m else if due = 0 then -9 else nI m
  | d + 1, j, due => if due = 0 then
      (if isBl c j then (if 0 < cntN (isKl c) j then nI j else if cntN (isBl c) j < 8 then cf c m d (j + 1) (if c j = 109 then 0 else 1) else nI j)
       else if isKl c j then (if cntN (isBl c) j = 0 then nI j else if cntN (isKl c) j < 7 then cf c m d (j + 1) 2 else nI j)
       else if c j = 32 then cf c m d (j + 1) 0 else nI j)
      else @ite _ (dgt (c j) (dlo due) (dhi due)) (Classical.propDecidable _) (cf c m d (j + 1) (fdue due)) (nI j)
theorem figC_t {y : Int32} {due : Nat} (h0 : 1 ≤ due) (hd : due ≤ 3) (h : dgt y (dlo due) (dhi due)) : fX9_isFigureDue y (nI due) s = some (1, s) := by
  unfold fX9_isFigureDue
  by_cases e : due = 3
  · subst e
    have h' : dgt y 0 1 := h
    rw [dgt_iff (by decide) (by decide)] at h'
    rw [if_pos (show nI 3 = 3 from rfl), within_t (lo := 48) (hi := 49) h'.1 h'.2, bnd_some, if_pos (Or.inr rfl)]
  · have h' : dgt y 1 9 := by
      unfold dlo dhi at h
      rw [if_neg e, if_neg e] at h
      exact h
    rw [dgt_iff (by decide) (by decide)] at h'
    rw [if_neg (fun z => e ((eq_num (b := 3) (by omega) (by decide)).mp z)), within_t (lo := 49) (hi := 57) h'.1 h'.2, bnd_some, if_pos (Or.inr rfl)]
theorem figC_f {y : Int32} {due : Nat} (h0 : 1 ≤ due) (hd : due ≤ 3) (h : ¬ dgt y (dlo due) (dhi due)) : fX9_isFigureDue y (nI due) s = some (0, s) := by
  have hor : ∀ {p q : Prop}, ¬ (¬ p ∧ ¬ q) → p ∨ q := by
    intro p q hn
    by_cases hp : p
    · exact Or.inl hp
    · by_cases hq : q
      · exact Or.inr hq
      · exact absurd ⟨hp, hq⟩ hn
  unfold fX9_isFigureDue
  by_cases e : due = 3
  · subst e
    have h' : ¬ dgt y 0 1 := h
    rw [dgt_iff (by decide) (by decide)] at h'
    have h2 := hor h'
    rw [if_pos (show nI 3 = 3 from rfl), within_f (lo := 48) (hi := 49) h2, bnd_some, if_pos (Or.inl rfl)]
  · have h' : ¬ dgt y 1 9 := by
      unfold dlo dhi at h
      rw [if_neg e, if_neg e] at h
      exact h
    rw [dgt_iff (by decide) (by decide)] at h'
    have h2 := hor h'
    rw [if_neg (fun z => e ((eq_num (b := 3) (by omega) (by decide)).mp z)), within_f (lo := 49) (hi := 57) h2, bnd_some, if_pos (Or.inl rfl)]
theorem blC_t {i : Nat} (h : isBl c i = true) : fX9_isBenchLetter (c i) s = some (1, s) := by
  unfold fX9_isBenchLetter
  by_cases e1 : c i = 108
  · rw [if_pos e1]
  · by_cases e2 : c i = 114
    · rw [if_neg e1, if_pos e2]
    · rw [if_neg e1, if_neg e2, if_pos (((of_decide_eq_true h).resolve_left e1).resolve_left e2)]
theorem blC_f {i : Nat} (h : isBl c i = false) : fX9_isBenchLetter (c i) s = some (0, s) := by
  have hn := of_decide_eq_false h
  unfold fX9_isBenchLetter
  rw [if_neg (fun z => hn (Or.inl z)), if_neg (fun z => hn (Or.inr (Or.inl z))), if_neg (fun z => hn (Or.inr (Or.inr z)))]
theorem ifs {α β : Type} {p : Prop} [Decidable p] (a b : α) (y : β) (hab : Option (α × β)) (h : hab = if p then some (b, y) else some (a, y)) : hab = some (if p then b else a, y) := by
  rw [h]
  by_cases e : p
  · rw [if_pos e, if_pos e]
  · rw [if_neg e, if_neg e]
theorem kndC (y : Int32) : fX9_kindByLetter y s = some (knd y, s) := by
  unfold fX9_kindByLetter knd
  by_cases h1 : y = 97
  · rw [if_pos h1, if_pos h1]
  · rw [if_neg h1, if_neg h1]
    by_cases h2 : y = 99
    · rw [if_pos h2, if_pos h2]
    · rw [if_neg h2, if_neg h2]
      by_cases h3 : y = 103
      · rw [if_pos h3, if_pos h3]
      · rw [if_neg h3, if_neg h3]
        by_cases h4 : y = 104
        · rw [if_pos h4, if_pos h4]
        · rw [if_neg h4, if_neg h4]
          by_cases h5 : y = 107
          · rw [if_pos h5, if_pos h5]
          · rw [if_neg h5, if_neg h5]
            by_cases h6 : y = 117
            · rw [if_pos h6, if_pos h6]
            · rw [if_neg h6, if_neg h6]
theorem kndR (y : Int32) : fX12_kindOf y s = some (knd y, s) := kndC y
theorem knd_cases (y : Int32) : knd y = -9 ∨ ∃ k : Nat, k < 6 ∧ knd y = nI k := by
  unfold knd
  by_cases h1 : y = 97
  · rw [if_pos h1]
    exact Or.inr ⟨1, by decide, rfl⟩
  · by_cases h2 : y = 99
    · rw [if_neg h1, if_pos h2]
      exact Or.inr ⟨3, by decide, rfl⟩
    · by_cases h3 : y = 103
      · rw [if_neg h1, if_neg h2, if_pos h3]
        exact Or.inr ⟨0, by decide, rfl⟩
      · by_cases h4 : y = 104
        · rw [if_neg h1, if_neg h2, if_neg h3, if_pos h4]
          exact Or.inr ⟨4, by decide, rfl⟩
        · by_cases h5 : y = 107
          · rw [if_neg h1, if_neg h2, if_neg h3, if_neg h4, if_pos h5]
            exact Or.inr ⟨5, by decide, rfl⟩
          · by_cases h6 : y = 117
            · rw [if_neg h1, if_neg h2, if_neg h3, if_neg h4, if_neg h5, if_pos h6]
              exact Or.inr ⟨2, by decide, rfl⟩
            · rw [if_neg h1, if_neg h2, if_neg h3, if_neg h4, if_neg h5, if_neg h6]
              exact Or.inl rfl
theorem cfC (h : TxC x t m c) (hm : m ≤ 60) : ∀ d j k due, due ≤ 3 → j + d = m → d < k → fX9_faultAsBarge_L9 (fun v21 v22 s23 => if v21 = 0 then some (s23.1 (60 + 2 * t) 0, s23) else if v22 = 0 then some ((-9), s23) else some (s23.1 (60 + 2 * t) 0, s23)) (60 + 2 * t) k (nI (cntN (isBl c) j)) (nI (cntN (isKl c) j)) (nI due) (nI j) x = some (cf c m d j due, x)
  | 0, j, k, due, h3, h1, h2 => by
    obtain ⟨k', rfl⟩ : ∃ k', k = k' + 1 := ⟨k - 1, by omega⟩
    have hc := cnt60 (isBl c) (show j ≤ m by omega) hm
    rw [fX9_faultAsBarge_L9, h.1, if_neg (nI_nlt (by omega) (by omega)), cf]
    by_cases e : cntN (isBl c) j = 0
    · rw [if_pos e, e, if_pos (show nI 0 = 0 from rfl)]
    · rw [if_neg e, if_neg (fun z => e ((eq_num (b := 0) (by omega) (by decide)).mp z))]
      by_cases e2 : due = 0
      · rw [if_pos e2, e2, if_pos (show nI 0 = 0 from rfl)]
      · rw [if_neg e2, if_neg (fun z => e2 ((eq_num (b := 0) (by omega) (by decide)).mp z))]
  | d + 1, j, k, due, h3, h1, h2 => by
    obtain ⟨k', rfl⟩ : ∃ k', k = k' + 1 := ⟨k - 1, by omega⟩
    have hc := cnt60 (isBl c) (show j ≤ m by omega) hm
    have hc2 := cnt60 (isKl c) (show j ≤ m by omega) hm
    have ih := fun due' hd' => cfC h hm d (j + 1) k' due' hd' (by omega) (by omega)
    rw [fX9_faultAsBarge_L9, h.1, if_pos (nI_lt (by omega) (by omega)), byteC h hm (by omega), bnd_some, cf, nI_1, nI_1, nI_1]
    by_cases e : due = 0
    · subst e
      rw [if_pos (show nI 0 = 0 from rfl), if_pos rfl]
      cases hb : isBl c j with
      | true =>
        have hk := bl_kl hb
        rw [cnt_t hb, cnt_f hk] at ih
        rw [blC_t hb, bnd_some, if_neg one_ne, if_pos rfl]
        by_cases e1 : 0 < cntN (isKl c) j
        · rw [if_pos (show (0 : Int32) < nI (cntN (isKl c) j) from nI_lt (a := 0) e1 (by omega)), if_pos e1]
        · rw [if_neg (show ¬ (0 : Int32) < nI (cntN (isKl c) j) from nI_nlt (a := 0) (by omega) (by omega)), if_neg e1]
          by_cases e2 : cntN (isBl c) j < 8
          · rw [if_pos ((lt_num (b := 8) (by omega) (by decide)).mpr e2), if_pos e2]
            by_cases e3 : c j = 109
            · rw [if_pos e3, if_pos e3]
              exact ih 0 (by decide)
            · rw [if_neg e3, if_neg e3]
              exact ih 1 (by decide)
          · rw [if_neg (fun z => e2 ((lt_num (b := 8) (by omega) (by decide)).mp z)), if_neg e2]
      | false =>
        rw [cnt_f hb] at ih
        rw [blC_f hb, bnd_some, if_pos rfl, kndC, bnd_some, if_neg (show ¬ (false = true) by decide)]
        by_cases e1 : knd (c j) = -9
        · have hk : isKl c j = false := decide_eq_false (fun z => z e1)
          rw [cnt_f hk] at ih
          rw [if_pos e1, hk, if_neg (show ¬ (false = true) by decide)]
          by_cases e2 : c j = 32
          · rw [if_pos e2, if_pos e2]
            exact ih 0 (by decide)
          · rw [if_neg e2, if_neg e2]
        · have hk : isKl c j = true := decide_eq_true e1
          rw [cnt_t hk] at ih
          rw [if_neg e1, hk, if_pos rfl]
          by_cases e2 : cntN (isBl c) j = 0
          · rw [if_pos e2, e2, if_pos (show nI 0 = 0 from rfl)]
          · rw [if_neg e2, if_neg (fun z => e2 ((eq_num (b := 0) (by omega) (by decide)).mp z))]
            by_cases e3 : cntN (isKl c) j < 7
            · rw [if_pos ((lt_num (b := 7) (by omega) (by decide)).mpr e3), if_pos e3]
              exact ih 2 (by decide)
            · rw [if_neg (fun z => e3 ((lt_num (b := 7) (by omega) (by decide)).mp z)), if_neg e3]
    · rw [if_neg (fun z => e ((eq_num (b := 0) (by omega) (by decide)).mp z)), if_neg e]
      by_cases e1 : dgt (c j) (dlo due) (dhi due)
      · obtain ⟨q1, q2⟩ := dg_no (by unfold dhi; split <;> omega) e1
        rw [cnt_f q1, cnt_f q2] at ih
        rw [figC_t (by omega) h3 e1, bnd_some, if_neg one_ne, if_pos e1]
        unfold fdue
        by_cases e2 : due = 2
        · rw [if_pos e2, e2, if_pos (show nI 2 = 2 from rfl)]
          exact ih 3 (by decide)
        · rw [if_neg e2, if_neg (fun z => e2 ((eq_num (b := 2) (by omega) (by decide)).mp z))]
          exact ih 0 (by decide)
      · rw [figC_f (by omega) h3 e1, bnd_some, if_pos rfl, if_neg e1]
theorem bfaultC (h : TxC x t m c) (hm : m ≤ 60) : fX9_faultAsBarge (60 + 2 * t) x = some (cf c m m 0 0, x) := cfC h hm m 0 FU 0 (by decide) (by omega) (by unfold FU; omega)
-- the reference
def xv (c : Nat → Int32) (i : Nat) : Int32 := if c i = 109 then 0 else if c i = 108 then 0 - (c (i + 1) - 48) else c (i + 1) - 48
def kv (c : Nat → Int32) (i : Nat) : Int32 := knd (c i)
def wv (c : Nat → Int32) (i : Nat) : Int32 := c (i + 1) - 48
def nv (c : Nat → Int32) (i : Nat) : Int32 := c (i + 2) - 48
def RefP (s x : Mem) (c : Nat → Int32) (j : Nat) : Prop := Sm s x ∧ x.1 68 21 = nI j ∧ x.1 68 23 = nI (cntN (isBl c) j) ∧ x.1 68 24 = nI (cntN (isKl c) j) ∧ x.1 81 = gX (isBl c) (xv c) (s.1 81) j ∧ x.1 82 = gX (isKl c) (kv c) (s.1 82) j ∧ x.1 83 = gX (isKl c) (wv c) (s.1 83) j ∧ x.1 84 = gX (isKl c) (nv c) (s.1 84) j
theorem sm68 {a : Nat} {v : Int32} (h1 : 21 ≤ a) (h2 : a ≤ 24) : Sm x (wI x 68 a v) := SmX.wI (by unfold Cr; omega) (fun _ h => by unfold Cf at h; omega) (by omega)
theorem sm81 {q a : Nat} {v : Int32} (h1 : 81 ≤ q) (h2 : q ≤ 84) : Sm x (wI x q a v) := SmX.wI (by unfold Cr; omega) (by omega) (by omega)
theorem TxR.sm {y : Mem} (h : TxR x t m c) (hs : Sm x y) : TxR y t m c := ⟨by rw [hs.1 73 (by unfold Cr; omega) id]; exact h.1, by rw [hs.1 74 (by unfold Cr; omega) id]; exact h.2⟩
theorem figR_t (h : TxR x t m c) (ht : t < 4) (hm : m ≤ 60) {j lo hi : Nat} (hj : j < m) (h21 : x.1 68 21 = nI j) (hlo : lo ≤ hi) (hhi : hi ≤ 9) (hd : dgt (c j) lo hi) : fX12_figure (nI t) (nI lo) (nI hi) x = some (1, wI (wI x 68 22 (c j - 48)) 68 21 (nI (j + 1))) := by
  have r1 : (wI x 68 22 (c j - 48)).1 68 22 = c j - 48 := rfl
  have r2 : (wI x 68 22 (c j - 48)).1 68 21 = x.1 68 21 := rfl
  obtain ⟨w1, w2⟩ := (dgt_iff2 (by omega) hlo).mp hd
  unfold fX12_figure
  rw [h21, byteR h ht hm hj, bnd_some, r1, in_eq, within_t w1 w2, bnd_some, if_neg one_ne, if_pos (Or.inr rfl), r2, h21, nI_1]
theorem figR_f (h : TxR x t m c) (ht : t < 4) (hm : m ≤ 60) {j lo hi : Nat} (hj : j ≤ m) (h21 : x.1 68 21 = nI j) (hlo : lo ≤ hi) (hhi : hi ≤ 9) (hd : j < m → ¬ dgt (c j) lo hi) : ∃ v, fX12_figure (nI t) (nI lo) (nI hi) x = some (0, wI (wI x 68 22 v) 68 21 (nI j)) := by
  have hor : ∀ {p q : Prop}, ¬ (¬ p ∧ ¬ q) → p ∨ q := by
    intro p q hn
    by_cases hp : p
    · exact Or.inl hp
    · by_cases hq : q
      · exact Or.inr hq
      · exact absurd ⟨hp, hq⟩ hn
  have main : ∀ y, fX12_byteAt (nI t) (nI j) x = some (y, x) → ¬ dgt y lo hi → fX12_figure (nI t) (nI lo) (nI hi) x = some (0, wI (wI x 68 22 (y - 48)) 68 21 (nI j)) := by
    intro y hy hn
    have r1 : (wI x 68 22 (y - 48)).1 68 22 = y - 48 := rfl
    have r2 : (wI x 68 22 (y - 48)).1 68 21 = x.1 68 21 := rfl
    rw [dgt_iff2 (by omega) hlo] at hn
    have h2 := hor hn
    unfold fX12_figure
    rw [h21, hy, bnd_some, r1, in_eq, within_f h2, bnd_some, if_pos rfl, if_pos (Or.inl rfl), r2, h21, Int32.add_zero]
  by_cases e : j < m
  · exact ⟨_, main _ (byteR h ht hm e) (hd e)⟩
  · have ej : j = m := by omega
    subst ej
    refine ⟨_, main 0 (byteR0 h ht hm) ?_⟩
    rintro ⟨w, w1, w2, w3⟩
    have := (nI_eq (a := 0) (b := 48 + w) (by omega) (by omega)).mp w3
    omega
end FLT
