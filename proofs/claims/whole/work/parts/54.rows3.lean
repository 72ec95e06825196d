theorem al_tear (a1 : Int32) : Alike (fX11_tear a1) (fX12_tear a1) := by
  intro s hI
  unfold fX11_tear fX12_tear
  rcases row_cases a1 with h | ⟨r, hr, rfl⟩
  · refine ⟨-1, s, s, ?_, ?_, hI⟩
    · rw [rowOf_bad h, bnd_some, if_pos rfl]
    · rw [isRow_bad h, bnd_some, if_pos rfl]
  · obtain ⟨g1, g2, g3⟩ := hI.gb r hr
    have hin : inb (nI r) 6 = true := inb_ok hr (by decide)
    rw [rowOf_ok hr, bnd_some, if_neg row_ne, if_pos (rt4 r hr).2]
    rcases szOk_cases g2 with ⟨hm, -⟩ | ⟨n, hn, hm⟩
    · obtain ⟨s1, s2, e1, e2, e3⟩ := found_al hI (f := 1) (by decide)
      have k : s1.1 70 = s.1 70 := by
        rw [f_found (by decide)] at e1
        cases e1
        rw [wI_ne (by decide), wI_ne (by decide)]
      refine ⟨-3, s1, s2, ?_, ?_, e3⟩
      · rw [miss_t (by rw [g1]; exact hm), bnd_some, if_neg one_ne]
        show bnd (fX10_found (nI 1) s) _ = _
        rw [e1, bnd_some]
      · rw [isRow_ok hr, bnd_some, if_neg one_ne, if_pos hin, ix_nI (by omega), k, if_pos hm]
        show bnd (fX12_meets (nI 1) s1) _ = _
        rw [e2, bnd_some]
    · have hq : s.1 (48 + 2 * r) 0 = nI n := g1.trans hm
      refine ⟨1, wI s (48 + 2 * r) 0 (-1), wI (wI s (48 + 2 * r) 0 (-1)) 70 r (-1), ?_, ?_, ?_⟩
      · rw [miss_f hq hn, bnd_some, if_pos rfl]
        rfl
      · rw [isRow_ok hr, bnd_some, if_neg one_ne, if_pos hin, ix_nI (by omega), wI_ne (by omega), hm, if_neg (nI_nonneg (by omega)), if_pos hin]
      · refine Inv_row hI hr ((SmX.wI (by omega) (by omega) (by omega)).tr (SmX.wI (by omega) (by omega) (by omega))) (fun j hj => ?_) (fun j hj => ?_) ⟨?_, ?_, fun j m h1 h2 h3 => ?_⟩
        · rw [rd_wI, if_pos rfl, if_neg hj, wI_ne (by omega)]
        · rw [wI_ne (by decide), wI_ne (by omega)]
        · rw [wI_ne (by omega)]
          simp [wI]
        · refine Or.inl ?_
          simp [wI]
        · have h4 : (wI (wI s (48 + 2 * r) 0 (-1)) 70 r (-1)).1 70 r = -1 := by simp [wI]
          rw [h4] at h1
          exact absurd h1.symm (nI_neg (by omega) (by decide))
def sumL (f : Nat → Int64) : Nat → Int64
  | 0 => 0
  | n + 1 => sumL f n + f n
theorem sumL_cong {f g : Nat → Int64} : ∀ {n : Nat}, (∀ k, k < n → f k = g k) → sumL f n = sumL g n
  | 0, _ => rfl
  | n + 1, h => by
    rw [sumL, sumL, sumL_cong (fun k hk => h k (by omega)), h n (by omega)]
theorem sum_ok {q n : Nat} {s : Mem} (h : s.1 q 0 = nI n) (hn : n ≤ 60) : fX7_sum q s = some (sumL (fun i => (s.1 (q + 1) i).toInt64) n, s) := by
  unfold fX7_sum
  have key := lp0 (fun k j => fX7_sum_L4 (fun v4 s5 => some (v4, s5)) q k (sumL (fun i => (s.1 (q + 1) i).toInt64) j) (nI j) s) (some (sumL (fun i => (s.1 (q + 1) i).toInt64) n, s)) n ?_ ?_ (by omega)
  · exact key
  · intro j k hj
    show fX7_sum_L4 _ q (k + 1) _ (nI j) s = fX7_sum_L4 _ q k _ (nI (j + 1)) s
    rw [fX7_sum_L4, h, if_pos (nI_lt hj (by omega)), if_pos (inb_ok (by omega) (by decide)), nm_eq, nI_1, ix_nI (by omega)]
    rfl
  · intro k
    show fX7_sum_L4 _ q (k + 1) _ (nI n) s = _
    rw [fX7_sum_L4, h, if_neg (nI_nlt (Nat.le_refl n) (by omega))]
theorem meanL_ok {r n : Nat} {s : Mem} (hr : r < 6) (h : s.1 70 r = nI n) (hn : n ≤ 60) (κ : Int64 → Mem → Option (Int32 × Mem)) : fX12_mean_L44 κ (nI r) FU 0 0 s = κ (sumL (fun i => (s.1 71 (60 * r + i)).toInt64) n) s := by
  have hin : inb (nI r) 6 = true := inb_ok hr (by decide)
  have key := lp0 (fun k j => fX12_mean_L44 κ (nI r) k (sumL (fun i => (s.1 71 (60 * r + i)).toInt64) j) (nI j) s) (κ (sumL (fun i => (s.1 71 (60 * r + i)).toInt64) n) s) n ?_ ?_ (by omega)
  · exact key
  · intro j k hj
    show fX12_mean_L44 κ (nI r) (k + 1) _ (nI j) s = fX12_mean_L44 κ (nI r) k _ (nI (j + 1)) s
    rw [fX12_mean_L44, if_pos hin, ix_nI (by omega), h, if_pos (nI_lt hj (by omega)), rowAt_ok hr (by omega), bnd_some, nm_eq, nI_1]
    rfl
  · intro k
    show fX12_mean_L44 κ (nI r) (k + 1) _ (nI n) s = _
    rw [fX12_mean_L44, if_pos hin, ix_nI (by omega), h, if_neg (nI_nlt (Nat.le_refl n) (by omega))]
theorem toL_ne {n : Nat} (h0 : 0 < n) (hn : n ≤ 100000) : ¬ (nI n).toInt64 = 0 := by
  rw [nI_l (by omega)]
  intro e
  have := (lN_eq (a := n) (b := 0) (by omega) (by decide)).mp e
  omega
theorem al_mean (a1 : Int32) : Alike (fX11_mean a1) (fX12_mean a1) := by
  intro s hI
  unfold fX11_mean fX12_mean
  rcases row_cases a1 with h | ⟨r, hr, rfl⟩
  · refine ⟨-1, s, s, ?_, ?_, hI⟩
    · rw [rowOf_bad h, bnd_some, if_pos rfl]
    · rw [isRow_bad h, bnd_some, if_pos rfl]
  · obtain ⟨g1, g2, g3⟩ := hI.gb r hr
    have hin : inb (nI r) 6 = true := inb_ok hr (by decide)
    rw [rowOf_ok hr, bnd_some, if_neg row_ne, if_pos (rt4 r hr).2]
    rcases szOk_cases g2 with ⟨hm, -⟩ | ⟨n, hn, hm⟩
    · obtain ⟨s1, s2, e1, e2, e3⟩ := found_al hI (f := 1) (by decide)
      have k : s1.1 70 = s.1 70 := by
        rw [f_found (by decide)] at e1
        cases e1
        rw [wI_ne (by decide), wI_ne (by decide)]
      refine ⟨-3, s1, s2, ?_, ?_, e3⟩
      · rw [miss_t (by rw [g1]; exact hm), bnd_some, if_neg one_ne]
        show bnd (fX10_found (nI 1) s) _ = _
        rw [e1, bnd_some]
      · rw [isRow_ok hr, bnd_some, if_neg one_ne, if_pos hin, ix_nI (by omega), k, if_pos hm]
        show bnd (fX12_meets (nI 1) s1) _ = _
        rw [e2, bnd_some]
    · have hq : s.1 (48 + 2 * r) 0 = nI n := g1.trans hm
      rw [miss_f hq hn, bnd_some, if_pos rfl, hq]
      by_cases h0 : n = 0
      · subst h0
        obtain ⟨s1, s2, e1, e2, e3⟩ := found_al hI (f := 4) (by decide)
        have k : s1.1 70 = s.1 70 := by
          rw [f_found (by decide)] at e1
          cases e1
          rw [wI_ne (by decide), wI_ne (by decide)]
        refine ⟨-3, s1, s2, ?_, ?_, e3⟩
        · rw [if_pos nI_0]
          show bnd (fX10_found (nI 4) s) _ = _
          rw [e1, bnd_some]
        · rw [isRow_ok hr, bnd_some, if_neg one_ne, if_pos hin, ix_nI (by omega), k, hm, if_neg (nI_nonneg (by decide)), if_pos hin, if_pos nI_0]
          show bnd (fX12_meets (nI 4) s1) _ = _
          rw [e2, bnd_some]
      · have hn0 : ¬ nI n = 0 := nI_ne0 (by omega) (by omega)
        have hs : sumL (fun i => (s.1 (48 + 2 * r + 1) i).toInt64) n = sumL (fun i => (s.1 71 (60 * r + i)).toInt64) n := sumL_cong (fun i hi => by rw [e48, g3 i n hm hi hn])
        obtain ⟨z, hz⟩ : ∃ z : Int32, z = (sumL (fun i => (s.1 71 (60 * r + i)).toInt64) n / (nI n).toInt64).toInt32 := ⟨_, rfl⟩
        refine ⟨1, wI s 2 0 z, wI (wI s 2 0 z) 68 2 z, ?_, ?_, Inv_tell hI _⟩
        · rw [if_neg hn0, sum_ok hq hn, bnd_some, hq, if_neg (toL_ne (by omega) (by omega)), hs, ← hz, f_tell, bnd_some]
        · have hm2 : (wI s 2 0 z).1 70 r = nI n := by rw [wI_ne (by decide)]; exact hm
          have e71 : (wI s 2 0 z).1 71 = s.1 71 := wI_ne (by decide)
          rw [isRow_ok hr, bnd_some, if_neg one_ne, if_pos hin, ix_nI (by omega), hm2, if_neg (nI_nonneg (by omega)), if_pos hin, if_neg hn0, meanL_ok hr hm2 hn, if_pos hin, hm2, if_neg (toL_ne (by omega) (by omega)), e71, ← hz, f_tells, bnd_some]
