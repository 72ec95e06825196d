-- moments, lists
theorem kd1 : ∀ k, k < 6 → stc 0 k = (if nI k = 1 then 1 else if nI k = 4 then 2 else 0) := by decide +kernel
theorem kd2 : ∀ k, k < 6 → stc 1 k = (if nI k = 2 then 1 else if nI k = 5 then 2 else 0) := by decide +kernel
section MOM
variable {s : Mem} {nb n : Nat}
theorem ofK1 {k : Nat} (hk : k < 6) : fX0_ofKind_901 (nI k) s = some (if nI k = 1 then 1 else if nI k = 4 then 2 else 0, s) := by
  unfold fX0_ofKind_901
  rw [if_neg (nI_nonneg (by omega)), if_pos ((lt_num (by omega) (by decide)).mpr hk), if_pos (inb_ok hk (by decide)), ix_nI (by omega), kd1 k hk]
theorem ofK2 {k : Nat} (hk : k < 6) : fX0_ofKind_902 (nI k) s = some (if nI k = 2 then 1 else if nI k = 5 then 2 else 0, s) := by
  unfold fX0_ofKind_902
  rw [if_neg (nI_nonneg (by omega)), if_pos ((lt_num (by omega) (by decide)).mpr hk), if_pos (inb_ok hk (by decide)), ix_nI (by omega), kd2 k hk]
theorem posture_f {a : Int32} (h : a < 0 ∨ 2 < a) : fX11_isPosture a s = some (0, s) := by
  unfold fX11_isPosture
  by_cases h1 : a < 0
  · rw [if_pos h1]
  · have h2 : ¬ a < 3 := fun z => by
      have h3 := Int32.lt_iff_toInt_lt.mp z
      have h4 := Int32.lt_iff_toInt_lt.mp (h.resolve_left h1)
      have e2 : (2 : Int32).toInt = 2 := by decide
      have e3 : (3 : Int32).toInt = 3 := by decide
      omega
    rw [if_neg h1, if_neg h2]
theorem posture_t {p : Nat} (h : p < 3) : fX11_isPosture (nI p) s = some (1, s) := by
  unfold fX11_isPosture
  rw [if_neg (nI_nonneg (by omega)), if_pos ((lt_num (by omega) (by decide)).mpr h)]
theorem mplace {g b p : Nat} : ((nI g * 8 + nI b) * 3) + nI p = nI ((g * 8 + b) * 3 + p) := by
  rw [show (8 : Int32) = nI 8 from rfl, show (3 : Int32) = nI 3 from rfl, pk_mul, nI_add, pk_mul, nI_add]
theorem momentOf_ok (gd : Gd s nb n) (ge : Ge s nb n) {g b p : Nat} (hg : g < n) (hb : b < nb) (hp : p < 3) : fX0_momentOf (nI g) (nI b) (nI p) s = some (mom (s.1 75) (s.1 76) (s.1 77) g b p, s) := by
  have h8 := gd.lb
  have h7 := gd.ln
  unfold fX0_momentOf fX0_momentPlace
  rw [isG_t gd.g6 (by omega) hg, bnd_some, if_neg one_ne, isB_t gd.b6 (by omega) hb, bnd_some, if_neg one_ne, posture_t hp, bnd_some, if_neg one_ne, bnd_some, mplace, if_pos (inb_ok (by omega) (by decide)), ix_nI (by omega), ge.2.1 g hg b hb p hp]
theorem momentOf_no (gd : Gd s nb n) {g p : Nat} (hg : g < n) : fX0_momentOf (nI g) (-9) (nI p) s = some (0, s) := by
  have h7 := gd.ln
  unfold fX0_momentOf
  rw [isG_t gd.g6 (by omega) hg, bnd_some, if_neg one_ne, isB_f gd.b6 (Or.inl (by decide)), bnd_some, if_pos rfl]
theorem i_pos_cases (d : Int32) : (d < 0 ∧ ¬ 0 < d) ∨ (d = 0) ∨ (0 < d ∧ ¬ d < 0) := by
  have e0 : (0 : Int32).toInt = 0 := by decide
  by_cases h : d < 0
  · refine Or.inl ⟨h, fun z => ?_⟩
    have h1 := Int32.lt_iff_toInt_lt.mp h
    have h2 := Int32.lt_iff_toInt_lt.mp z
    omega
  · by_cases h0 : 0 < d
    · exact Or.inr (Or.inr ⟨h0, h⟩)
    · refine Or.inr (Or.inl (Int32.toInt_inj.mp ?_))
      have h1 : ¬ d.toInt < (0 : Int32).toInt := fun z => h (Int32.lt_iff_toInt_lt.mpr z)
      have h2 : ¬ (0 : Int32).toInt < d.toInt := fun z => h0 (Int32.lt_iff_toInt_lt.mpr z)
      omega
theorem greater0 (d : Int32) : fX12_greater 0 d s = some (if 0 < d then d else 0, s) := by
  unfold fX12_greater
  rcases i_pos_cases d with ⟨h1, h2⟩ | h | ⟨h1, h2⟩
  · rw [if_pos h1, if_neg h2]
  · subst h
    rw [if_neg (by decide), if_neg (by decide)]
  · rw [if_neg h2, if_pos h1]
theorem sizeOf_ok (x : Int32) : fX12_sizeOf x s = some (if x < 0 then 0 - x else x, s) := by
  unfold fX12_sizeOf
  by_cases h : x < 0
  · rw [if_pos h, if_pos h]
  · rw [if_neg h, if_neg h]
theorem bnd_if {α β : Type} {c : Prop} [Decidable c] (x y : α) (s : Mem) (f : α → Mem → Option (β × Mem)) : bnd (some (if c then x else y, s)) f = if c then f x s else f y s := by
  by_cases h : c
  · rw [if_pos h, if_pos h, bnd_some]
  · rw [if_neg h, if_neg h, bnd_some]
theorem outOf_ok {g b p : Nat} (hg : g < 7) (hb : b < 8) (hp : p < 3) : fX12_outOf (nI g) (nI b) (nI p) s = some (out3 (s.1 76 g) (s.1 75 b) p, s) := by
  unfold fX12_outOf out3
  rw [if_pos (inb_ok hb (by decide)), ix_nI (by omega), nm_eq, if_pos (inb_ok hg (by decide)), ix_nI (by omega), nm_eq]
  generalize s.1 75 b = x
  generalize s.1 76 g = k
  rw [sizeOf_ok, bnd_some]
  generalize (if x < 0 then 0 - x else x) = f
  have h : p = 0 ∨ p = 1 ∨ p = 2 := by omega
  rcases h with rfl | rfl | rfl
  · rw [if_neg (show ¬ nI 0 = 1 by decide), if_neg (show ¬ nI 0 = 2 by decide)]
    by_cases hx : x = 0
    · rw [if_pos hx, if_pos hx]
    · rw [if_neg hx, if_neg hx]
      rfl
  · rw [if_pos (show nI 1 = 1 by decide)]
    simp only [nm_eq, if_neg (show ¬ nI 1 = 2 by decide)]
    by_cases hx : x = 0
    · simp only [if_pos hx, ite_self]
    · simp only [if_neg hx, if_true]
      by_cases h1 : k = 1
      · simp only [if_pos h1]
      · by_cases h4 : k = 4
        · simp only [if_neg h1, if_pos h4]
        · simp only [if_neg h1, if_neg h4]
  · rw [if_neg (show ¬ nI 2 = 1 by decide), if_pos (show nI 2 = 2 by decide)]
    simp only [greater0, bnd_some]
    by_cases hx : x = 0
    · simp only [if_pos hx, ite_self]
    · simp only [if_neg hx, if_true]
      by_cases h1 : k = 2
      · simp only [if_pos h1]
        rfl
      · by_cases h4 : k = 5
        · simp only [if_neg h1, if_pos h4]
          rfl
        · simp only [if_neg h1, if_neg h4]
          rfl
theorem mmom_ok {g b p : Nat} (hg : g < 7) (hb : b < 8) (hp : p < 3) : fX12_momentOf (nI g) (nI b) (nI p) s = some (mom (s.1 75) (s.1 76) (s.1 77) g b p, s) := by
  unfold fX12_momentOf mom
  rw [if_pos (inb_ok hb (by decide)), ix_nI (by omega)]
  by_cases h : s.1 75 b < 0
  · rw [if_pos h, if_pos h, outOf_ok hg hb hp, bnd_some, mweighs_ok hg, bnd_some]
  · rw [if_neg h, if_neg h, outOf_ok hg hb hp, bnd_some, mweighs_ok hg, bnd_some]
/-- what a guest adds to the list -/
def mo (s : Mem) (p g : Nat) : Int32 := if s.1 79 g = -9 then 0 else mom (s.1 75) (s.1 76) (s.1 77) g (ix (s.1 79 g)) p
theorem mlist_ok (gd : Gd s nb n) {p : Nat} (hp : p < 3) (r : Int32) : fX12_listOf (nI p) r s = some (r + sumI (mo s p) n, s) := by
  have h8 := gd.lb
  have h7 := gd.ln
  unfold fX12_listOf
  have key := lp0 (fun k j => fX12_listOf_L5 (fun v9 s10 => some (v9, s10)) (nI p) k (r + sumI (mo s p) j) (nI j) s) (some (r + sumI (mo s p) n, s)) n ?_ ?_ (by omega)
  · rw [← key]
    show _ = fX12_listOf_L5 _ (nI p) FU (r + 0) (nI 0) s
    rw [Int32.add_zero]
    rfl
  · intro j k hj
    show fX12_listOf_L5 _ (nI p) (k + 1) _ (nI j) s = fX12_listOf_L5 _ (nI p) k _ (nI (j + 1)) s
    rw [fX12_listOf_L5, gd.g68, if_pos (nI_lt hj (by omega)), if_pos (inb_ok (by omega) (by decide)), if_pos (inb_ok (by omega) (by decide)), ix_nI (by omega), sumI]
    unfold mo
    rcases gd.sts j hj with h | ⟨b, hb, h⟩
    · rw [if_pos h, if_pos h, nm_eq, Int32.add_zero, Int32.add_zero, nI_1]
    · rw [h, if_neg (nI_m9 (by omega)), if_neg (nI_m9 (by omega)), mmom_ok (by omega) (by omega) hp, bnd_some, nm_eq, nI_1, ix_nI (by omega), Int32.add_assoc]
  · intro k
    show fX12_listOf_L5 _ (nI p) (k + 1) _ (nI n) s = _
    rw [fX12_listOf_L5, gd.g68, if_neg (nI_nlt (Nat.le_refl n) (by omega))]
theorem dry_ok (gd : Gd s nb n) (ge : Ge s nb n) {p : Nat} (hp : p < 3) : fX0_dryListIn (nI p) s = some (sumI (mo s p) n, s) := by
  have h8 := gd.lb
  have h7 := gd.ln
  unfold fX0_dryListIn
  have key := lp0 (fun k j => fX0_dryListIn_L4 (fun v9 s10 => some (v9, s10)) (nI p) k (sumI (mo s p) j) (nI j) s) (some (sumI (mo s p) n, s)) n ?_ ?_ (by omega)
  · exact key
  · intro j k hj
    show fX0_dryListIn_L4 _ (nI p) (k + 1) _ (nI j) s = fX0_dryListIn_L4 _ (nI p) k _ (nI (j + 1)) s
    rw [fX0_dryListIn_L4, gd.g6, if_pos (nI_lt hj (by omega)), if_pos (inb_ok (by omega) (by decide)), ix_nI (by omega), sumI, gd.c16]
    unfold mo
    rcases gd.sts j hj with h | ⟨b, hb, h⟩
    · rw [if_pos h, h, momentOf_no gd hj, bnd_some, nm_eq, nI_1]
    · rw [h, if_neg (nI_m9 (by omega)), momentOf_ok gd ge hj hb hp, bnd_some, nm_eq, nI_1, ix_nI (by omega)]
  · intro k
    show fX0_dryListIn_L4 _ (nI p) (k + 1) _ (nI n) s = _
    rw [fX0_dryListIn_L4, gd.g6, if_neg (nI_nlt (Nat.le_refl n) (by omega))]
theorem Gd.rn (g : Gd s nb n) : s.1 6 3 = s.1 68 18 := g.2.2.2.2.2.2.2.2.1
theorem Gd.lm (g : Gd s nb n) : s.1 6 2 = s.1 68 17 := g.2.2.2.2.2.2.2.1
theorem list_ok (gd : Gd s nb n) (ge : Ge s nb n) {p : Nat} (hp : p < 3) : fX0_listIn (nI p) s = some (s.1 68 18 + sumI (mo s p) n, s) := by
  unfold fX0_listIn
  rw [dry_ok gd ge hp, bnd_some, gd.rn, Int32.add_comm]
theorem ab_eq (x : Int32) : ab x = if x < 0 then 0 - x else x := by
  unfold ab
  by_cases h : x < 0
  · rw [if_pos h, if_neg (Int32.not_le.mpr h)]
  · rw [if_neg h, if_pos (Int32.not_lt.mp h)]
def lev (s : Mem) (x : Int32) : Int32 := if s.1 68 17 < ab x then 0 else 1
theorem isLevel_ok (gd : Gd s nb n) (x : Int32) : fX0_isLevel x s = some (lev s x, s) := by
  unfold fX0_isLevel lev
  rw [gd.lm]
  by_cases h : s.1 68 17 < ab x
  · rw [if_pos h, if_pos h]
  · rw [if_neg h, if_neg h]
theorem mLevel_ok (x : Int32) : fX12_isLevel x s = some (lev s x, s) := by
  unfold fX12_isLevel lev
  rw [sizeOf_ok, bnd_some, ← ab_eq]
  by_cases h : s.1 68 17 < ab x
  · rw [if_pos h, if_pos h]
  · rw [if_neg h, if_neg h]
theorem lev_cases (s : Mem) (x : Int32) : lev s x = 0 ∨ lev s x = 1 := by
  unfold lev
  by_cases h : s.1 68 17 < ab x
  · exact Or.inl (if_pos h)
  · exact Or.inr (if_neg h)
theorem mo_eq {s s' : Mem} (h1 : s'.1 75 = s.1 75) (h2 : s'.1 76 = s.1 76) (h3 : s'.1 77 = s.1 77) (h4 : s'.1 79 = s.1 79) (p : Nat) : mo s' p = mo s p := by
  funext g
  unfold mo
  rw [h1, h2, h3, h4]
end MOM
theorem al_list (a1 : Int32) : Alike (fX11_list a1) (fX12_list a1) := by
  intro s hI
  obtain ⟨nb, n, nq, nm, nd, ga, gb, gc, gd, ge, gf, gg, gh, gi, gj⟩ := id hI
  unfold fX11_list fX12_list
  by_cases h : a1 < 0 ∨ 2 < a1
  · exact ⟨-1, s, s, by rw [posture_f h, bnd_some, if_pos rfl], by rw [in_eq, within_f h, bnd_some, if_pos rfl], hI⟩
  · have h1 : ¬ a1 < 0 := fun z => h (Or.inl z)
    have h2 : ¬ 2 < a1 := fun z => h (Or.inr z)
    obtain ⟨p, hp, rfl⟩ := rng_nI (n := 2) (by decide) h1 h2
    have hv : ∀ v, lev (wI s 2 0 v) v = lev s v := fun v => rfl
    have g2 := Gd_told (s.1 68 18 + sumI (mo s p) n) gd
    have e2 := mo_eq (s := s) (s' := wI s 2 0 (s.1 68 18 + sumI (mo s p) n)) rfl rfl rfl rfl p
    have e3 : (wI s 2 0 (s.1 68 18 + sumI (mo s p) n)).1 68 18 = s.1 68 18 := rfl
    refine ⟨lev s (s.1 68 18 + sumI (mo s p) n), wI s 2 0 (s.1 68 18 + sumI (mo s p) n), wI (wI s 2 0 (s.1 68 18 + sumI (mo s p) n)) 68 2 (s.1 68 18 + sumI (mo s p) n), ?_, ?_, Inv_tell hI _⟩
    · rw [posture_t (by omega), bnd_some, if_neg one_ne, list_ok gd ge (by omega), bnd_some, f_tell, bnd_some, isLevel_ok g2, bnd_some, hv]
      rcases lev_cases s (s.1 68 18 + sumI (mo s p) n) with h | h
      · rw [h, if_pos rfl]
      · rw [h, if_neg one_ne]
    · rw [in_eq, within_t h1 h2, bnd_some, if_neg one_ne, mlist_ok g2 (by omega), bnd_some, e2, e3, mLevel_ok, bnd_some, hv]
      rcases lev_cases s (s.1 68 18 + sumI (mo s p) n) with h | h
      · rw [h, if_pos rfl, f_tells, bnd_some]
      · rw [h, if_neg one_ne, f_tells, bnd_some]
