-- leaving: sets, who can come down to which
def del (m g : Nat) : Nat := m &&& (127 - 2 ^ g)
theorem del_tab : ∀ m, m < 128 → ∀ g, g < 7 → del m g < 128 ∧ (m.testBit g = true → del m g < m ∧ pcN (del m g) + 1 = pcN m ∧ (del m g = 0 → m = 2 ^ g)) ∧ (m.testBit g = false → del m g = m) := by decide +kernel
theorem del_bit : ∀ m, m < 128 → ∀ g, g < 7 → ∀ i, i < 7 → (del m g).testBit i = (m.testBit i && decide (i ≠ g)) := by decide +kernel
theorem pow_tab : ∀ g, g < 7 → 2 ^ g < 128 ∧ 2 ^ g ≠ 0 ∧ ∀ i, i < 7 → (2 ^ g).testBit i = decide (i = g) := by decide +kernel
theorem pc_0 : ∀ m, m < 128 → (pcN m = 0 ↔ m = 0) := by decide +kernel
theorem del_pow : ∀ g, g < 7 → del (2 ^ g) g = 0 := by decide +kernel
theorem bits_eq {a b : Nat} (ha : a < 128) (hb : b < 128) (h : ∀ i, i < 7 → a.testBit i = b.testBit i) : a = b := by
  apply Nat.eq_of_testBit_eq
  intro i
  by_cases hi : i < 7
  · exact h i hi
  · have h2 : 128 ≤ 2 ^ i := (Nat.pow_le_pow_right (by decide) (by omega) : 2 ^ 7 ≤ 2 ^ i)
    rw [Nat.testBit_lt_two_pow (by omega), Nat.testBit_lt_two_pow (by omega)]
section LEV
variable {LV : Nat → Bool}
/-- one goes, and it is level -/
def stp1 (LV : Nat → Bool) (m m' : Nat) : Prop := ∃ g, g < 7 ∧ m.testBit g = true ∧ m' = del m g ∧ LV m' = true
def Rk (LV : Nat → Bool) : Nat → Nat → Nat → Prop
  | 0, m, m' => m = m'
  | k + 1, m, m' => ∃ m2, stp1 LV m m2 ∧ Rk LV k m2 m'
def RR (LV : Nat → Bool) (m m' : Nat) : Prop := ∃ k, Rk LV k m m'
theorem RR.rf (m : Nat) : RR LV m m := ⟨0, rfl⟩
theorem RR.hd {m m2 m' : Nat} (h : stp1 LV m m2) (h2 : RR LV m2 m') : RR LV m m' := by
  obtain ⟨k, hk⟩ := h2
  exact ⟨k + 1, m2, h, hk⟩
theorem RR.cs {m m' : Nat} (h : RR LV m m') : m = m' ∨ ∃ m2, stp1 LV m m2 ∧ RR LV m2 m' := by
  obtain ⟨k, hk⟩ := h
  cases k with
  | zero => exact Or.inl hk
  | succ k =>
    obtain ⟨m2, h1, h2⟩ := hk
    exact Or.inr ⟨m2, h1, k, h2⟩
theorem Rk.tl : ∀ (k m m2 m' : Nat), Rk LV k m m2 → stp1 LV m2 m' → Rk LV (k + 1) m m'
  | 0, m, m2, m', h1, h2 => by
    have e : m = m2 := h1
    subst e
    exact ⟨m', h2, rfl⟩
  | k + 1, m, m2, m', ⟨m3, h1, h3⟩, h2 => ⟨m3, h1, Rk.tl k m3 m2 m' h3 h2⟩
theorem RR.tl {m m2 m' : Nat} (h : RR LV m m2) (h2 : stp1 LV m2 m') : RR LV m m' := by
  obtain ⟨k, hk⟩ := h
  exact ⟨k + 1, Rk.tl k m m2 m' hk h2⟩
theorem Rk.ct : ∀ (k m m' : Nat), Rk LV (k + 1) m m' → ∃ m2, Rk LV k m m2 ∧ stp1 LV m2 m'
  | 0, m, m', ⟨m2, h1, h2⟩ => by
    have e : m2 = m' := h2
    subst e
    exact ⟨m, rfl, h1⟩
  | k + 1, m, m', ⟨m2, h1, h2⟩ => by
    obtain ⟨m3, h3, h4⟩ := Rk.ct k m2 m' h2
    exact ⟨m3, ⟨m2, h1, h3⟩, h4⟩
theorem RR.ct {m m' : Nat} (h : RR LV m m') : m = m' ∨ ∃ m2, RR LV m m2 ∧ stp1 LV m2 m' := by
  obtain ⟨k, hk⟩ := h
  cases k with
  | zero => exact Or.inl hk
  | succ k =>
    obtain ⟨m2, h1, h2⟩ := Rk.ct k m m' hk
    exact Or.inr ⟨m2, ⟨k, h1⟩, h2⟩
theorem stp_lt {m m' : Nat} (hm : m < 128) (h : stp1 LV m m') : m' < m := by
  obtain ⟨g, hg, hb, rfl, _⟩ := h
  exact ((del_tab m hm g hg).2.1 hb).1
theorem Rk.le : ∀ (k m m' : Nat), m < 128 → Rk LV k m m' → m' ≤ m
  | 0, m, m', _, h => by
    have e : m = m' := h
    omega
  | k + 1, m, m', hm, ⟨m2, h1, h2⟩ => by
    have := stp_lt hm h1
    have := Rk.le k m2 m' (by omega) h2
    omega
theorem RR.le {m m' : Nat} (hm : m < 128) (h : RR LV m m') : m' ≤ m := by
  obtain ⟨k, hk⟩ := h
  exact Rk.le k m m' hm hk
theorem RR.z {m' : Nat} (h : RR LV 0 m') : m' = 0 := by
  have := h.le (by decide)
  omega
/-- from such a set on all can go -/
def CE (LV : Nat → Bool) (m : Nat) : Prop := RR LV m 0
/-- who may go first -/
def okL (LV : Nat → Bool) (m g : Nat) : Prop := m.testBit g = true ∧ LV (del m g) = true ∧ CE LV (del m g)
theorem CE_iff {m : Nat} (h0 : m ≠ 0) : CE LV m ↔ ∃ g, g < 7 ∧ okL LV m g := by
  constructor
  · intro h
    rcases RR.cs h with e | ⟨m2, ⟨g, hg, hb, rfl, hl⟩, h2⟩
    · exact absurd e h0
    · exact ⟨g, hg, hb, hl, h2⟩
  · rintro ⟨g, hg, hb, hl, hc⟩
    exact RR.hd ⟨g, hg, hb, rfl, hl⟩ hc
theorem CE_0 : CE LV 0 := RR.rf 0
/-- who can be the last -/
def lstL (LV : Nat → Bool) (m q : Nat) : Prop := RR LV m (2 ^ q) ∧ LV 0 = true
theorem lst_iff {m q : Nat} (hm : m < 128) (hq : q < 7) (h0 : m ≠ 0) : lstL LV m q ↔ ∃ g, g < 7 ∧ m.testBit g = true ∧ LV (del m g) = true ∧ ((del m g = 0 ∧ q = g) ∨ (del m g ≠ 0 ∧ lstL LV (del m g) q)) := by
  obtain ⟨_, p0, pb⟩ := pow_tab q hq
  constructor
  · rintro ⟨h, hl⟩
    rcases RR.cs h with e | ⟨m2, ⟨g, hg, hb, rfl, hl2⟩, h2⟩
    · refine ⟨q, hq, by rw [e, pb q hq]; exact decide_eq_true rfl, ?_, Or.inl ⟨by rw [e]; exact del_pow q hq, rfl⟩⟩
      rw [e, del_pow q hq]
      exact hl
    · refine ⟨g, hg, hb, hl2, Or.inr ⟨fun z => ?_, h2, hl⟩⟩
      rw [z] at h2
      exact p0 h2.z
  · rintro ⟨g, hg, hb, hl, h | ⟨h1, h2, h3⟩⟩
    · obtain ⟨hd, rfl⟩ := h
      have e := ((del_tab m hm q hq).2.1 hb).2.2 hd
      rw [hd] at hl
      exact ⟨by rw [e]; exact RR.rf _, hl⟩
    · exact ⟨RR.hd ⟨g, hg, hb, rfl, hl⟩ h2, h3⟩
/-- the least who may go first -/
noncomputable def gfL (LV : Nat → Bool) (m : Nat) : Nat → Nat → Nat
  | 0, _ => 0
  | d + 1, g => @ite _ (okL LV m g) (Classical.propDecidable _) g (gfL LV m d (g + 1))
theorem gf_is {m g0 : Nat} : ∀ d g, g ≤ g0 → g0 < g + d → okL LV m g0 → (∀ g', g ≤ g' → g' < g0 → ¬ okL LV m g') → gfL LV m d g = g0
  | 0, g, h1, h2, _, _ => absurd h2 (by omega)
  | d + 1, g, h1, h2, h3, h4 => by
    rw [gfL]
    by_cases e : g = g0
    · rw [if_pos (by rw [e]; exact h3), e]
    · rw [if_neg (h4 g (Nat.le_refl g) (by omega))]
      exact gf_is d (g + 1) (by omega) (by omega) h3 (fun g' h5 h6 => h4 g' (by omega) h6)
noncomputable def gf0 (LV : Nat → Bool) (m : Nat) : Nat := gfL LV m 7 0
noncomputable def gsL (LV : Nat → Bool) (m : Nat) : Nat → Nat
  | 0 => m
  | i + 1 => del (gsL LV m i) (gf0 LV (gsL LV m i))
theorem gs_s (m : Nat) : ∀ i, gsL LV (del m (gf0 LV m)) i = gsL LV m (i + 1)
  | 0 => rfl
  | i + 1 => by
    rw [gsL, gs_s m i]
    rfl
/-- the first that fits -/
theorem least_ex {P : Nat → Prop} : ∀ n, (∃ g, g < n ∧ P g) → ∃ g, g < n ∧ P g ∧ ∀ g', g' < g → ¬ P g'
  | 0, ⟨g, hg, _⟩ => absurd hg (by omega)
  | n + 1, ⟨g, hg, hp⟩ => by
    by_cases e : ∃ g, g < n ∧ P g
    · obtain ⟨g1, h1, h2, h3⟩ := least_ex n e
      exact ⟨g1, by omega, h2, h3⟩
    · have : g = n := Classical.byContradiction (fun z => e ⟨g, by omega, hp⟩)
      subst this
      exact ⟨g, by omega, hp, fun g' hg' hp' => e ⟨g', hg', hp'⟩⟩
theorem gf0_ok {m : Nat} (h : ∃ g, g < 7 ∧ okL LV m g) : gf0 LV m < 7 ∧ okL LV m (gf0 LV m) ∧ ∀ g, g < gf0 LV m → ¬ okL LV m g := by
  obtain ⟨g, h1, h2, h3⟩ := least_ex 7 h
  have e : gf0 LV m = g := gf_is 7 0 (Nat.zero_le _) (by omega) h2 (fun g' _ hg' => h3 g' hg')
  rw [e]
  exact ⟨h1, h2, h3⟩
end LEV
