theorem szOk_cases {x : Int32} (h : SzOk x) : (x < 0 ∧ x = -1) ∨ ∃ n : Nat, n ≤ 60 ∧ x = nI n := by
  rcases h with h | h
  · exact Or.inl ⟨by rw [h]; decide, h⟩
  · exact Or.inr h
theorem in_no {a : Int32} {n : Nat} (hn : n ≤ 60) (h : a < 0 ∨ nI n ≤ a) (s : Mem) : fX12_in a 0 (nI n - 1) s = some (0, s) := by
  rw [in_eq]
  refine within_f ?_ s
  rcases h with h | h
  · exact Or.inl h
  · refine Or.inr (Int32.lt_iff_toInt_lt.mpr ?_)
    have h1 := Int32.le_iff_toInt_le.mp h
    rw [nI_toInt (by omega)] at h1
    rw [show nI n - 1 = nI n - nI 1 from rfl, pk_sub_toInt (by omega) (by decide)]
    omega
theorem in_yes {i n : Nat} (hn : n ≤ 60) (h : i < n) (s : Mem) : fX12_in (nI i) 0 (nI n - 1) s = some (1, s) := by
  rw [in_eq]
  refine within_t (nI_nonneg (by omega)) (fun z => ?_) s
  have h1 := Int32.lt_iff_toInt_lt.mp z
  rw [show nI n - 1 = nI n - nI 1 from rfl, pk_sub_toInt (by omega) (by decide), nI_toInt (by omega)] at h1
  omega
theorem rowAt_ok {r i : Nat} (hr : r < 6) (hi : i < 60) (s : Mem) : fX12_rowAt (nI r) (nI i) s = some (s.1 71 (60 * r + i), s) := by
  unfold fX12_rowAt
  rw [six0, if_pos (inb_ok (by omega) (by decide)), ix_nI (by omega)]
theorem miss_t {q : Nat} {s : Mem} (h : s.1 q 0 < 0) : fX7_isMissing q s = some (1, s) := by
  unfold fX7_isMissing
  rw [if_pos h]
theorem miss_f {q n : Nat} {s : Mem} (h : s.1 q 0 = nI n) (hn : n ≤ 60) : fX7_isMissing q s = some (0, s) := by
  unfold fX7_isMissing
  rw [h, if_neg (nI_nonneg (by omega))]
theorem has_f {q n : Nat} {a : Int32} {s : Mem} (h : s.1 q 0 = nI n) (ha : a < 0 ∨ nI n ≤ a) : fX7_has q a s = some (0, s) := by
  unfold fX7_has
  by_cases h1 : a < 0
  · rw [if_pos h1]
  · have h2 : ¬ a < nI n := Int32.not_lt.mpr (ha.resolve_left h1)
    rw [if_neg h1, h, if_neg h2]
theorem has_t {q n i : Nat} {s : Mem} (h : s.1 q 0 = nI n) (hn : n ≤ 60) (hi : i < n) : fX7_has q (nI i) s = some (1, s) := by
  unfold fX7_has
  rw [if_neg (nI_nonneg (by omega)), h, if_pos (nI_lt hi (by omega))]
theorem placeAt_ok {q n i : Nat} {s : Mem} (h : s.1 q 0 = nI n) (hn : n ≤ 60) (hi : i < n) : fX7_placeAt q (nI i) s = some (s.1 (q + 1) i, s) := by
  unfold fX7_placeAt
  rw [has_t h hn hi, bnd_some, if_neg one_ne, if_pos (inb_ok (by omega) (by decide)), ix_nI (by omega)]
theorem set_ok {q n i : Nat} {v : Int32} {s : Mem} (h : s.1 q 0 = nI n) (hn : n ≤ 60) (hi : i < n) : fX7_set q (nI i) v s = some ((), wI s (q + 1) i v) := by
  unfold fX7_set
  rw [has_t h hn hi, bnd_some, if_neg one_ne, if_pos (inb_ok (by omega) (by decide)), ix_nI (by omega)]
theorem m3_ne : ¬ (-3 : Int32) = 0 := by decide
theorem e48 (r : Nat) : 48 + 2 * r + 1 = 49 + 2 * r := by omega
theorem al_at (a1 a2 : Int32) : Alike (fX11_at a1 a2) (fX12_at a1 a2) := by
  intro s hI
  unfold fX11_at fX12_at
  rcases row_cases a1 with h | ⟨r, hr, rfl⟩
  · refine ⟨-1, s, s, ?_, ?_, hI⟩
    · rw [rowOf_bad h, bnd_some, if_pos rfl]
    · rw [isRow_bad h, bnd_some, if_pos rfl]
  · obtain ⟨g1, g2, g3⟩ := hI.gb r hr
    have hin : inb (nI r) 6 = true := inb_ok hr (by decide)
    rw [rowOf_ok hr, bnd_some, if_neg row_ne, if_pos (rt4 r hr).2]
    unfold fX11_placeRefused
    rcases szOk_cases g2 with ⟨hm, -⟩ | ⟨n, hn, hm⟩
    · obtain ⟨s1, s2, e1, e2, e3⟩ := found_al hI (f := 1) (by decide)
      have k : s1.1 70 = s.1 70 := by
        rw [f_found (by decide)] at e1
        cases e1
        rw [wI_ne (by decide), wI_ne (by decide)]
      refine ⟨-3, s1, s2, ?_, ?_, e3⟩
      · rw [miss_t (by rw [g1]; exact hm), bnd_some, if_neg one_ne]
        show bnd (bnd (fX10_found (nI 1) s) _) _ = _
        rw [e1, bnd_some, bnd_some, if_neg m3_ne]
      · rw [isRow_ok hr, bnd_some, if_neg one_ne, if_pos hin, ix_nI (by omega), k, if_pos hm]
        show bnd (fX12_meets (nI 1) s1) _ = _
        rw [e2, bnd_some]
    · have hq : s.1 (48 + 2 * r) 0 = nI n := g1.trans hm
      rw [miss_f hq hn, bnd_some, if_pos rfl]
      rcases i_cases a2 n (by omega) with z | z | ⟨i, hi, rfl⟩
      all_goals try (
        have z' : a2 < 0 ∨ nI n ≤ a2 := by first | exact Or.inl z | exact Or.inr z.2
        obtain ⟨s1, s2, e1, e2, e3⟩ := found_al hI (f := 2) (by decide)
        have k : s1.1 70 = s.1 70 := by
          rw [f_found (by decide)] at e1
          cases e1
          rw [wI_ne (by decide), wI_ne (by decide)]
        refine ⟨-3, s1, s2, ?_, ?_, e3⟩
        · rw [has_f hq z', bnd_some, if_pos rfl]
          show bnd (bnd (fX10_found (nI 2) s) _) _ = _
          rw [e1, bnd_some, bnd_some, if_neg m3_ne]
        · rw [isRow_ok hr, bnd_some, if_neg one_ne, if_pos hin, ix_nI (by omega), k, hm, if_neg (nI_nonneg (by omega)), if_pos hin, in_no hn z', bnd_some, if_pos rfl]
          show bnd (fX12_meets (nI 2) s1) _ = _
          rw [e2, bnd_some])
      have hv : s.1 (49 + 2 * r) i = s.1 71 (60 * r + i) := g3 i n hm hi hn
      refine ⟨1, wI s 2 0 (s.1 71 (60 * r + i)), wI (wI s 2 0 (s.1 71 (60 * r + i))) 68 2 (s.1 71 (60 * r + i)), ?_, ?_, Inv_tell hI _⟩
      · rw [has_t hq hn hi, bnd_some, if_neg one_ne, bnd_some, if_pos rfl, placeAt_ok hq hn hi, bnd_some, e48, hv, f_tell, bnd_some]
      · rw [isRow_ok hr, bnd_some, if_neg one_ne, if_pos hin, ix_nI (by omega), wI_ne (by decide), hm, if_neg (nI_nonneg (by omega)), if_pos hin, in_yes hn hi, bnd_some, if_neg one_ne, rowAt_ok hr (by omega), bnd_some, wI_ne (by decide), f_tells, bnd_some]
theorem Inv_lay {s : Mem} {r i n : Nat} {v : Int32} (hI : Inv s) (hr : r < 6) (hm : s.1 70 r = nI n) (hi : i < n) (hn : n ≤ 60) : Inv (wI (wI s (49 + 2 * r) i v) 71 (60 * r + i) v) := by
  obtain ⟨g1, g2, g3⟩ := hI.gb r hr
  refine Inv_row hI hr ((SmX.wI (by omega) (by omega) (by omega)).tr (SmX.wI (by omega) (by omega) (by omega))) (fun j hj => ?_) (fun j hj => ?_) ⟨?_, ?_, fun j m h1 h2 h3 => ?_⟩
  · rw [wI_ne (by decide), wI_ne (by omega)]
  · rw [rd_wI, if_pos rfl, if_neg (by omega), wI_ne (by omega)]
  · rw [wI_ne (by omega), wI_ne (by omega), wI_ne (by decide), wI_ne (by omega)]
    exact g1
  · rw [wI_ne (by decide), wI_ne (by omega)]
    exact g2
  · rw [wI_ne (by decide), wI_ne (by omega)] at h1
    rw [wI_ne (by omega), rd_wI, if_pos rfl, rd_wI, if_pos rfl]
    by_cases hj : j = i
    · rw [if_pos hj, if_pos (by omega)]
    · rw [if_neg hj, if_neg (by omega), wI_ne (by omega)]
      exact g3 j m h1 h2 h3
theorem al_lay (a1 a2 a3 : Int32) : Alike (fX11_lay a1 a2 a3) (fX12_lay a1 a2 a3) := by
  intro s hI
  unfold fX11_lay fX12_lay
  rcases row_cases a1 with h | ⟨r, hr, rfl⟩
  · refine ⟨-1, s, s, ?_, ?_, hI⟩
    · rw [rowOf_bad h, bnd_some, if_pos rfl]
    · rw [isRow_bad h, bnd_some, if_pos rfl]
  · obtain ⟨g1, g2, g3⟩ := hI.gb r hr
    have hin : inb (nI r) 6 = true := inb_ok hr (by decide)
    rw [rowOf_ok hr, bnd_some, if_neg row_ne, if_pos (rt4 r hr).2]
    unfold fX11_placeRefused
    rcases szOk_cases g2 with ⟨hm, -⟩ | ⟨n, hn, hm⟩
    · obtain ⟨s1, s2, e1, e2, e3⟩ := found_al hI (f := 1) (by decide)
      have k : s1.1 70 = s.1 70 := by
        rw [f_found (by decide)] at e1
        cases e1
        rw [wI_ne (by decide), wI_ne (by decide)]
      refine ⟨-3, s1, s2, ?_, ?_, e3⟩
      · rw [miss_t (by rw [g1]; exact hm), bnd_some, if_neg one_ne]
        show bnd (bnd (fX10_found (nI 1) s) _) _ = _
        rw [e1, bnd_some, bnd_some, if_neg m3_ne]
      · rw [isRow_ok hr, bnd_some, if_neg one_ne, if_pos hin, ix_nI (by omega), k, if_pos hm]
        show bnd (fX12_meets (nI 1) s1) _ = _
        rw [e2, bnd_some]
    · have hq : s.1 (48 + 2 * r) 0 = nI n := g1.trans hm
      rw [miss_f hq hn, bnd_some, if_pos rfl]
      rcases i_cases a2 n (by omega) with z | z | ⟨i, hi, rfl⟩
      all_goals try (
        have z' : a2 < 0 ∨ nI n ≤ a2 := by first | exact Or.inl z | exact Or.inr z.2
        obtain ⟨s1, s2, e1, e2, e3⟩ := found_al hI (f := 2) (by decide)
        have k : s1.1 70 = s.1 70 := by
          rw [f_found (by decide)] at e1
          cases e1
          rw [wI_ne (by decide), wI_ne (by decide)]
        refine ⟨-3, s1, s2, ?_, ?_, e3⟩
        · rw [has_f hq z', bnd_some, if_pos rfl]
          show bnd (bnd (fX10_found (nI 2) s) _) _ = _
          rw [e1, bnd_some, bnd_some, if_neg m3_ne]
        · rw [isRow_ok hr, bnd_some, if_neg one_ne, if_pos hin, ix_nI (by omega), k, hm, if_neg (nI_nonneg (by omega)), if_pos hin, in_no hn z', bnd_some, if_pos rfl]
          show bnd (fX12_meets (nI 2) s1) _ = _
          rw [e2, bnd_some])
      have hv : s.1 (49 + 2 * r) i = s.1 71 (60 * r + i) := g3 i n hm hi hn
      have hq2 : (wI s 2 0 (s.1 71 (60 * r + i))).1 (48 + 2 * r) 0 = nI n := by rw [wI_ne (by omega)]; exact hq
      refine ⟨1, wI (wI s 2 0 (s.1 71 (60 * r + i))) (49 + 2 * r) i a3, wI (wI (wI (wI s 2 0 (s.1 71 (60 * r + i))) (49 + 2 * r) i a3) 71 (60 * r + i) a3) 68 2 (s.1 71 (60 * r + i)), ?_, ?_, ?_⟩
      · rw [has_t hq hn hi, bnd_some, if_neg one_ne, bnd_some, if_pos rfl, placeAt_ok hq hn hi, bnd_some, e48, hv, f_tell, bnd_some, set_ok hq2 hn hi, bnd_some, e48]
      · rw [isRow_ok hr, bnd_some, if_neg one_ne, if_pos hin, ix_nI (by omega), wI_ne (by omega), wI_ne (by decide), hm, if_neg (nI_nonneg (by omega)), if_pos hin, in_yes hn hi, bnd_some, if_neg one_ne, rowAt_ok hr (by omega), bnd_some, six0, if_pos (inb_ok (by omega) (by decide)), ix_nI (by omega), wI_ne (by omega), wI_ne (by decide), f_tells, bnd_some]
      · have h1 : Inv (wI (wI s 2 0 (s.1 71 (60 * r + i))) 68 2 (s.1 71 (60 * r + i))) := Inv_tell hI _
        have e : wI (wI (wI (wI s 2 0 (s.1 71 (60 * r + i))) (49 + 2 * r) i a3) 71 (60 * r + i) a3) 68 2 (s.1 71 (60 * r + i)) = wI (wI (wI (wI s 2 0 (s.1 71 (60 * r + i))) 68 2 (s.1 71 (60 * r + i))) (49 + 2 * r) i a3) 71 (60 * r + i) a3 := by
          rw [wI_sw (q := 71) (q' := 68) (by decide), wI_sw (q := 49 + 2 * r) (q' := 68) (by omega)]
        rw [e]
        refine Inv_lay h1 hr (n := n) ?_ hi hn
        rw [wI_ne (by decide), wI_ne (by decide)]
        exact hm
