-- moments, lists
theorem kd1 : ∀ k, k < 6 → stc 0 k = (if nI k = 1 then 1 else if nI k = 4 then 2 else 0) := by decide +kernel
theorem kd2 : ∀ k, k < 6 → stc 1 k = (if nI k = 2 then 1 else if nI k = 5 then 2 else 0) := by decide +kernel
section MOM
variable {s : Mem} {nb n : Nat}
theorem ofK1 {k : Nat} (hk : k < 6) : fX0_ofKind_901 (nI k) s = some (if nI k = 1 then 1 else if nI k = 4 then 2 else 0, s) := by
  unfold fX0_ofKind_901
  rw [if_neg (nI_nonneg (by omega)), if_pos ((lt_num (by omega) (by decide)).mpr hk), if_pos (inb_ok hk (by decide)), ix_nI (by omega), kd1 k hk]
theorem ofK2 {k : Nat} (hk : k < 6) : fX0_ofKind_902 (nI k) s = some (if nI k = 2 then 1 else if nI k = 5 then 2 else 0, s) := by
  unfold fX0_ofKind_902
  rw [if_neg (nI_nonneg (by omega)), if_pos ((lt_num (by omega) (by decide)).mpr hk), if_pos (inb_ok hk (by decide)), ix_nI (by omega), kd2 k hk]
theorem posture_f {a : Int32} (h : a < 0 ∨ 2 < a) : fX11_isPosture a s = some (0, s) := by
  unfold fX11_isPosture
  by_cases h1 : a < 0
  · rw [if_pos h1]
  · have h2 : ¬ a < 3 := fun z => by
      have h3 := Int32.lt_iff_toInt_lt.mp z
      have h4 := Int32.lt_iff_toInt_lt.mp (h.resolve_left h1)
      have e2 : (2 : Int32).toInt = 2 := by decide
      have e3 : (3 : Int32).toInt = 3 := by decide
      omega
    rw [if_neg h1, if_neg h2]
theorem posture_t {p : Nat} (h : p < 3) : fX11_isPosture (nI p) s = some (1, s) := by
  unfold fX11_isPosture
  rw [if_neg (nI_nonneg (by omega)), if_pos ((lt_num (by omega) (by decide)).mpr h)]
theorem mplace {g b p : Nat} : ((nI g * 8 + nI b) * 3) + nI p = nI ((g * 8 + b) * 3 + p) := by
  rw [show (8 : Int32) = nI 8 from rfl, show (3 : Int32) = nI 3 from rfl, pk_mul, nI_add, pk_mul, nI_add]
theorem momentOf_ok (gd : Gd s nb n) (ge : Ge s nb n) {g b p : Nat} (hg : g < n) (hb : b < nb) (hp : p < 3) : fX0_momentOf (nI g) (nI b) (nI p) s = some (mom (s.1 75) (s.1 76) (s.1 77) g b p, s) := by
  have h8 := gd.lb
  have h7 := gd.ln
  unfold fX0_momentOf fX0_momentPlace
  rw [isG_t gd.g6 (by omega) hg, bnd_some, if_neg one_ne, isB_t gd.b6 (by omega) hb, bnd_some, if_neg one_ne, posture_t hp, bnd_some, if_neg one_ne, bnd_some, mplace, if_pos (inb_ok (by omega) (by decide)), ix_nI (by omega), ge.2.1 g hg b hb p hp]
theorem momentOf_no (gd : Gd s nb n) {g p : Nat} (hg : g < n) : fX0_momentOf (nI g) (-9) (nI p) s = some (0, s) := by
  have h7 := gd.ln
  unfold fX0_momentOf
  rw [isG_t gd.g6 (by omega) hg, bnd_some, if_neg one_ne, isB_f gd.b6 (Or.inl (by decide)), bnd_some, if_pos rfl]
theorem outOf_ok {g b p : Nat} (hg : g < 7) (hb : b < 8) (hp : p < 3) : fX12_outOf (nI g) (nI b) (nI p) s = some (out3 (s.1 76 g) (s.1 75 b) p, s) := by
  unfold fX12_outOf out3 fX12_sizeOf fX12_greater
  rw [if_pos (inb_ok hb (by decide)), ix_nI (by omega), nm_eq, if_pos (inb_ok hg (by decide)), ix_nI (by omega), nm_eq]
  generalize s.1 75 b = x
  generalize s.1 76 g = k
  have h : p = 0 ∨ p = 1 ∨ p = 2 := by omega
  by_cases hx : x = 0
  · subst hx
    rcases h with rfl | rfl | rfl
    · simp [nm_eq, bnd_some, show ¬ nI 0 = 1 by decide, show ¬ nI 0 = 2 by decide]
    · simp [nm_eq, bnd_some, show nI 1 = 1 by decide]
    · simp [nm_eq, bnd_some, show ¬ nI 2 = 1 by decide, show nI 2 = 2 by decide]
      sorry
  · by_cases hl : x < 0
    · sorry
    · sorry
end MOM
