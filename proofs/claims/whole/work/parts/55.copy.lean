-- copy
theorem copy1_ok {r i n : Nat} (hr : r < 6) (hi : i + n ≤ 60) (y3 y4 : Int32) (κ : Mem → Option (Int32 × Mem)) (s : Mem) : fX12_copy_L104 κ (nI r) (nI i) y3 y4 (nI n) FU 0 s = κ (wF s 72 (fun j => if j < n then s.1 71 (60 * r + (i + j)) else s.1 72 j)) := by
  have key := lp0 (fun k j => fX12_copy_L104 κ (nI r) (nI i) y3 y4 (nI n) k (nI j) (wF s 72 (fun b => if b < j then s.1 71 (60 * r + (i + b)) else s.1 72 b))) (κ (wF s 72 (fun j => if j < n then s.1 71 (60 * r + (i + j)) else s.1 72 j))) n ?_ ?_ (by omega)
  · rw [← key]
    show _ = fX12_copy_L104 κ (nI r) (nI i) y3 y4 (nI n) FU (nI 0) (wF s 72 (fun b => if b < 0 then s.1 71 (60 * r + (i + b)) else s.1 72 b))
    have e : (fun b => if b < 0 then s.1 71 (60 * r + (i + b)) else s.1 72 b) = s.1 72 := by
      funext b
      rw [if_neg (by omega)]
    rw [e, wF_self]
    rfl
  · intro j k hj
    show fX12_copy_L104 κ (nI r) (nI i) y3 y4 (nI n) (k + 1) (nI j) _ = fX12_copy_L104 κ (nI r) (nI i) y3 y4 (nI n) k (nI (j + 1)) _
    rw [fX12_copy_L104, if_pos (nI_lt hj (by omega)), nI_add, rowAt_ok hr (by omega), bnd_some, if_pos (inb_ok (by omega) (by decide)), nI_1, ix_nI (by omega), wI_wF]
    congr 2
    funext b
    by_cases hb : b = j
    · rw [if_pos hb, if_pos (by omega), rd_wF, if_neg (by decide), hb]
    · rw [if_neg hb]
      by_cases h2 : b < j
      · rw [if_pos h2, if_pos (by omega)]
      · rw [if_neg h2, if_neg (by omega)]
  · intro k
    show fX12_copy_L104 κ (nI r) (nI i) y3 y4 (nI n) (k + 1) (nI n) _ = _
    rw [fX12_copy_L104, if_neg (nI_nlt (Nat.le_refl n) (by omega))]
theorem copy2_ok {t j n : Nat} (ht : t < 6) (hj : j + n ≤ 60) (κ : Mem → Option (Int32 × Mem)) (s : Mem) : fX12_copy_L136 κ (nI t) (nI j) (nI n) FU 0 s = κ (wF s 71 (fun b => if 60 * t + j ≤ b ∧ b < 60 * t + j + n then s.1 72 (b - (60 * t + j)) else s.1 71 b)) := by
  have key := lp0 (fun k m => fX12_copy_L136 κ (nI t) (nI j) (nI n) k (nI m) (wF s 71 (fun b => if 60 * t + j ≤ b ∧ b < 60 * t + j + m then s.1 72 (b - (60 * t + j)) else s.1 71 b))) (κ (wF s 71 (fun b => if 60 * t + j ≤ b ∧ b < 60 * t + j + n then s.1 72 (b - (60 * t + j)) else s.1 71 b))) n ?_ ?_ (by omega)
  · rw [← key]
    show _ = fX12_copy_L136 κ (nI t) (nI j) (nI n) FU (nI 0) (wF s 71 (fun b => if 60 * t + j ≤ b ∧ b < 60 * t + j + 0 then s.1 72 (b - (60 * t + j)) else s.1 71 b))
    have e : (fun b => if 60 * t + j ≤ b ∧ b < 60 * t + j + 0 then s.1 72 (b - (60 * t + j)) else s.1 71 b) = s.1 71 := by
      funext b
      rw [if_neg (by omega)]
    rw [e, wF_self]
    rfl
  · intro m k hm
    show fX12_copy_L136 κ (nI t) (nI j) (nI n) (k + 1) (nI m) _ = fX12_copy_L136 κ (nI t) (nI j) (nI n) k (nI (m + 1)) _
    rw [fX12_copy_L136, if_pos (nI_lt hm (by omega)), if_pos (inb_ok (by omega) (by decide)), six0, nI_add, if_pos (inb_ok (by omega) (by decide)), nI_1, ix_nI (by omega), ix_nI (by omega), wI_wF]
    congr 2
    funext b
    by_cases hb : b = 60 * t + j + m
    · rw [if_pos hb, if_pos (by omega), rd_wF, if_neg (by decide), hb, Nat.add_sub_cancel_left]
    · rw [if_neg hb]
      by_cases h2 : 60 * t + j ≤ b ∧ b < 60 * t + j + m
      · rw [if_pos h2, if_pos (by omega)]
      · rw [if_neg h2, if_neg (by omega)]
  · intro k
    show fX12_copy_L136 κ (nI t) (nI j) (nI n) (k + 1) (nI n) _ = _
    rw [fX12_copy_L136, if_neg (nI_nlt (Nat.le_refl n) (by omega))]
/-- n places from i on lie within m -/
theorem holds_t {q m i n : Nat} {s : Mem} (h : s.1 q 0 = nI m) (hm : m ≤ 60) (hi : i + n ≤ m) : fX7_holds q (nI i) (nI n) s = some (1, s) := by
  unfold fX7_holds
  rw [if_neg (nI_nonneg (by omega)), h, if_neg (nI_nlt (by omega) (by omega)), if_neg (nI_nonneg (by omega)), pk_sub (by omega), if_neg (nI_nlt (by omega) (by omega))]
theorem holds_f {q m n : Nat} {a : Int32} {s : Mem} (h : s.1 q 0 = nI m) (hm : m ≤ 60) (hn : n < 2 ^ 31) (ha : ¬ ∃ i : Nat, a = nI i ∧ i + n ≤ m) : fX7_holds q a (nI n) s = some (0, s) := by
  unfold fX7_holds
  rcases i_cases a (m + 1) (by omega) with z | z | ⟨i, hi, rfl⟩
  · rw [if_pos z]
  · have h2 : nI m < a := Int32.lt_of_lt_of_le (nI_lt (Nat.lt_succ_self m) (by omega)) z.2
    rw [if_neg z.1, h, if_pos h2]
  · rw [if_neg (nI_nonneg (by omega)), h, if_neg (nI_nlt (by omega) (by omega)), if_neg (nI_nonneg hn), pk_sub (by omega), if_pos (nI_lt ?_ hn)]
    refine Nat.lt_of_not_le (fun z => ha ⟨i, rfl, by omega⟩)
theorem lgc_gt (x y : Int64) : (0 < lg_cmp x y) ↔ y < x := by
  unfold lg_cmp
  by_cases h1 : y < x
  · rw [if_pos h1]
    exact ⟨fun _ => h1, fun _ => by decide⟩
  · rw [if_neg h1]
    by_cases h2 : x = y
    · rw [if_pos h2]
      exact ⟨fun z => absurd z (by decide), fun z => absurd z h1⟩
    · rw [if_neg h2]
      exact ⟨fun z => absurd z (by decide), fun z => absurd z h1⟩
theorem sumgt {i n m : Nat} (hi : i < 2 ^ 31) (hn : n < 2 ^ 31) (hm : m ≤ 60) : (0 < lg_cmp ((nI i).toInt64 + (nI n).toInt64) (nI m).toInt64) ↔ m < i + n := by
  rw [lgc_gt, nI_l hi, nI_l hn, nI_l (by omega), lN_add, pk_lLT (by omega) (by omega)]
theorem f_found70 {f : Nat} (hf : f < 6) {s s1 : Mem} {x : Int32} (e1 : fX10_found (nI f) s = some (x, s1)) : s1.1 70 = s.1 70 := by
  rw [f_found hf] at e1
  cases e1
  rw [wI_ne (by decide), wI_ne (by decide)]
theorem i_nn (x : Int32) : x < 0 ∨ ∃ i : Nat, i < 2 ^ 31 ∧ x = nI i := by
  by_cases h : x < 0
  · exact Or.inl h
  · exact Or.inr (nI_of h)
def Gd2 (a : Int32) (n m : Nat) : Prop := ∃ i : Nat, a = nI i ∧ i + n ≤ m
theorem mcopy {r t n m1 m2 : Nat} {a2 a4 : Int32} {s1 : Mem} (hr : r < 6) (ht : t < 6) (hn : n < 2 ^ 31) (h1 : s1.1 70 r = nI m1) (h2 : s1.1 70 t = nI m2) (hm1 : m1 ≤ 60) (hm2 : m2 ≤ 60) :
    (Gd2 a2 n m1 → Gd2 a4 n m2 → fX12_copy (nI r) a2 (nI t) a4 (nI n) s1 = fX12_copy_L104 (fun s36 => fX12_copy_L136 (fun s40 => some (1, s40)) (nI t) a4 (nI n) FU 0 s36) (nI r) a2 (nI t) a4 (nI n) FU 0 s1) ∧
    (¬ (Gd2 a2 n m1 ∧ Gd2 a4 n m2) → fX12_copy (nI r) a2 (nI t) a4 (nI n) s1 = bnd (fX12_meets 2 s1) (fun r6 s7 => some (r6, s7))) := by
  have hir : inb (nI r) 6 = true := inb_ok hr (by decide)
  have hit : inb (nI t) 6 = true := inb_ok ht (by decide)
  unfold fX12_copy
  rw [isRow_ok hr, bnd_some, if_neg one_ne, isRow_ok ht, bnd_some, if_neg one_ne, if_neg (nI_nonneg hn), if_pos hir, ix_nI (by omega), ix_nI (by omega), h1, h2, if_neg (nI_nonneg (by omega)), if_pos hit, if_neg (nI_nonneg (by omega)), if_pos hir, if_pos hit]
  refine ⟨?_, ?_⟩
  · rintro ⟨i, rfl, hi⟩ ⟨j, rfl, hj⟩
    rw [if_neg (nI_nonneg (by omega)), if_neg (nI_nonneg (by omega)), if_neg, if_neg]
    · rw [sumgt (by omega) hn hm2]
      omega
    · rw [sumgt (by omega) hn hm1]
      omega
  · intro hg
    rcases i_nn a2 with z | ⟨i, hi, rfl⟩
    · rw [if_pos z]
    · rw [if_neg (nI_nonneg hi)]
      rcases i_nn a4 with z | ⟨j, hj, rfl⟩
      · rw [if_pos z]
      · rw [if_neg (nI_nonneg hj)]
        by_cases c1 : m1 < i + n
        · rw [if_pos ((sumgt hi hn hm1).mpr c1)]
        · rw [if_neg (fun z => c1 ((sumgt hi hn hm1).mp z))]
          have c2 : m2 < j + n := Nat.lt_of_not_le (fun z => hg ⟨⟨i, rfl, by omega⟩, ⟨j, rfl, z⟩⟩)
          rw [if_pos ((sumgt hj hn hm2).mpr c2)]
theorem mcopy1 {r t n : Nat} {a2 a4 : Int32} {s1 : Mem} (hr : r < 6) (ht : t < 6) (hn : n < 2 ^ 31) (h : s1.1 70 r < 0 ∨ s1.1 70 t < 0) : fX12_copy (nI r) a2 (nI t) a4 (nI n) s1 = bnd (fX12_meets 1 s1) (fun r6 s7 => some (r6, s7)) := by
  have hir : inb (nI r) 6 = true := inb_ok hr (by decide)
  have hit : inb (nI t) 6 = true := inb_ok ht (by decide)
  unfold fX12_copy
  rw [isRow_ok hr, bnd_some, if_neg one_ne, isRow_ok ht, bnd_some, if_neg one_ne, if_neg (nI_nonneg hn), if_pos hir, ix_nI (by omega), ix_nI (by omega)]
  by_cases h1 : s1.1 70 r < 0
  · rw [if_pos h1]
  · rw [if_neg h1, if_pos hit, if_pos (h.resolve_left h1)]
theorem al_copy (a1 a2 a3 a4 a5 : Int32) : Alike (fX11_copy a1 a2 a3 a4 a5) (fX12_copy a1 a2 a3 a4 a5) := by
  intro s hI
  rcases row_cases a1 with h | ⟨r, hr, rfl⟩
  · unfold fX11_copy fX12_copy
    refine ⟨-1, s, s, ?_, ?_, hI⟩
    · rcases row_cases a3 with h3 | ⟨t, ht, rfl⟩
      · rw [rowOf_bad h, bnd_some, rowOf_bad h3, bnd_some, if_pos rfl]
      · rw [rowOf_bad h, bnd_some, rowOf_ok ht, bnd_some, if_pos rfl]
    · rw [isRow_bad h, bnd_some, if_pos rfl]
  rcases row_cases a3 with h | ⟨t, ht, rfl⟩
  · unfold fX11_copy fX12_copy
    refine ⟨-1, s, s, ?_, ?_, hI⟩
    · rw [rowOf_ok hr, bnd_some, rowOf_bad h, bnd_some, if_neg row_ne, if_pos rfl]
    · rw [isRow_ok hr, bnd_some, if_neg one_ne, isRow_bad h, bnd_some, if_pos rfl]
  rcases i_nn a5 with h5 | ⟨n, hn, rfl⟩
  · unfold fX11_copy fX12_copy
    obtain ⟨s1, s2, e1, e2, e3⟩ := found_al hI (f := 5) (by decide)
    refine ⟨-3, s1, s2, ?_, ?_, e3⟩
    · rw [rowOf_ok hr, bnd_some, rowOf_ok ht, bnd_some, if_neg row_ne, if_neg row_ne, if_pos h5]
      show bnd (fX10_found (nI 5) s) _ = _
      rw [e1, bnd_some]
    · rw [isRow_ok hr, bnd_some, if_neg one_ne, isRow_ok ht, bnd_some, if_neg one_ne, if_pos h5]
      show bnd (fX12_meets (nI 5) s1) _ = _
      rw [e2, bnd_some]
  obtain ⟨g1, g2, g3⟩ := hI.gb r hr
  obtain ⟨k1, k2, k3⟩ := hI.gb t ht
  have fd : ∀ f, f < 6 → (∀ s1, s1.1 70 = s.1 70 → fX12_copy (nI r) a2 (nI t) a4 (nI n) s1 = bnd (fX12_meets (nI f) s1) (fun r6 s7 => some (r6, s7))) → fX11_copy (nI r) a2 (nI t) a4 (nI n) s = bnd (fX10_found (nI f) s) (fun r8 s9 => some (r8, s9)) → ∃ (x : Int32) (s1 s2 : Mem), fX11_copy (nI r) a2 (nI t) a4 (nI n) s = some (x, s1) ∧ fX12_copy (nI r) a2 (nI t) a4 (nI n) s1 = some (x, s2) ∧ Inv s2 := by
    intro f hf hg hc
    obtain ⟨s1, s2, e1, e2, e3⟩ := found_al hI hf
    refine ⟨-3, s1, s2, by rw [hc, e1, bnd_some], ?_, e3⟩
    rw [hg s1 (f_found70 hf e1), e2, bnd_some]
  have hc0 : fX11_copy (nI r) a2 (nI t) a4 (nI n) s = fX11_copy (nI r) a2 (nI t) a4 (nI n) s := rfl
  conv at hc0 => rhs; unfold fX11_copy
  rw [rowOf_ok hr, bnd_some, rowOf_ok ht, bnd_some, if_neg row_ne, if_neg row_ne, if_neg (nI_nonneg hn), if_pos (rt4 r hr).2] at hc0
  rcases szOk_cases g2 with ⟨hm, -⟩ | ⟨m1, hm1, hm⟩
  · rw [miss_t (by rw [g1]; exact hm), bnd_some, if_neg one_ne] at hc0
    exact fd 1 (by decide) (fun s1 e => mcopy1 hr ht hn (Or.inl (by rw [e]; exact hm))) hc0
  have hq1 : s.1 (48 + 2 * r) 0 = nI m1 := g1.trans hm
  rw [miss_f hq1 hm1, bnd_some, if_pos rfl, if_pos (rt4 t ht).2] at hc0
  rcases szOk_cases k2 with ⟨km, -⟩ | ⟨m2, hm2, km⟩
  · rw [miss_t (by rw [k1]; exact km), bnd_some, if_neg one_ne] at hc0
    exact fd 1 (by decide) (fun s1 e => mcopy1 hr ht hn (Or.inr (by rw [e]; exact km))) hc0
  have hq2 : s.1 (48 + 2 * t) 0 = nI m2 := k1.trans km
  rw [miss_f hq2 hm2, bnd_some, if_pos rfl] at hc0
  by_cases hg1 : Gd2 a2 n m1
  · by_cases hg2 : Gd2 a4 n m2
    · obtain ⟨i, rfl, hi⟩ := id hg1
      obtain ⟨j, rfl, hj⟩ := id hg2
      rw [holds_t hq1 hm1 hi, bnd_some, if_neg one_ne, holds_t hq2 hm2 hj, bnd_some, if_neg one_ne, if_pos ⟨nI_nonneg (by omega), nI_nonneg (by omega), nI_nonneg hn, by rw [ix_nI (by omega), ix_nI hn]; omega, by rw [ix_nI (by omega), ix_nI hn]; omega⟩, ix_nI (by omega), ix_nI (by omega), ix_nI hn, e48, e48] at hc0
      have hmod := (mcopy (a2 := nI i) (a4 := nI j) (s1 := wF s (49 + 2 * t) (va_cpy (s.1 (49 + 2 * r)) (s.1 (49 + 2 * t)) i j n)) hr ht hn (m1 := m1) (m2 := m2) (by rw [wF_ne (by omega)]; exact hm) (by rw [wF_ne (by omega)]; exact km) hm1 hm2).1 hg1 hg2
      rw [copy1_ok hr (by omega), copy2_ok ht (by omega)] at hmod
      refine ⟨1, _, _, hc0, hmod, ?_⟩
      · refine Inv_row hI ht (((SmX.wF (by omega) (by omega) (by omega)).tr (SmX.wF (by unfold Cr; omega) (by omega) (by omega))).tr (SmX.wF (by omega) (by omega) (by omega))) (fun z hz => ?_) (fun z hz => ?_) ⟨?_, ?_, fun z m h1 h2 h3 => ?_⟩
        · rw [wF_ne (by decide), wF_ne (by decide), wF_ne (by omega)]
        · rw [rd_wF, if_pos rfl, if_neg (by omega), wF_ne (by decide), wF_ne (by omega)]
        · rw [wF_ne (by omega), wF_ne (by omega), wF_ne (by omega), wF_ne (by omega), wF_ne (by omega), wF_ne (by omega)]
          exact k1
        · rw [wF_ne (by decide), wF_ne (by decide), wF_ne (by omega)]
          exact k2
        · rw [wF_ne (by decide), wF_ne (by decide), wF_ne (by omega)] at h1
          rw [wF_ne (by omega), wF_ne (by omega), rd_wF, if_pos rfl, rd_wF, if_pos rfl]
          unfold va_cpy
          by_cases hz : j ≤ z ∧ z < j + n
          · rw [if_pos hz, if_pos (by omega), rd_wF, if_pos rfl, if_pos (by omega), wF_ne (by omega), g3 (i + (z - j)) m1 hm (by omega) hm1]
            have e9 : 60 * t + z - (60 * t + j) = z - j := by omega
            rw [e9]
          · rw [if_neg hz, if_neg (by omega), wF_ne (by decide), wF_ne (by omega)]
            exact k3 z m h1 h2 h3
    · obtain ⟨i, rfl, hi⟩ := id hg1
      rw [holds_t hq1 hm1 hi, bnd_some, if_neg one_ne, holds_f hq2 hm2 hn hg2, bnd_some, if_pos rfl] at hc0
      exact fd 2 (by decide) (fun s1 e => (mcopy hr ht hn (by rw [e]; exact hm) (by rw [e]; exact km) hm1 hm2).2 (fun z => hg2 z.2)) hc0
  · rw [holds_f hq1 hm1 hn hg1, bnd_some, if_pos rfl] at hc0
    exact fd 2 (by decide) (fun s1 e => (mcopy hr ht hn (by rw [e]; exact hm) (by rw [e]; exact km) hm1 hm2).2 (fun z => hg1 z.1)) hc0
