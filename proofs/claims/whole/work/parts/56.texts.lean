-- texts
/-- a text is changed, alike on both sides -/
theorem Inv_txt {s s' : Mem} {r : Nat} (hI : Inv s) (hr : r < 4) (h : SmX (fun a => a = 60 + 2 * r ∨ a = 61 + 2 * r ∨ a = 73 ∨ a = 74) s s') (h70 : ∀ j, j ≠ r → s'.1 73 j = s.1 73 j) (h71 : ∀ j, (j < 60 * r ∨ 60 * r + 60 ≤ j) → s'.1 74 j = s.1 74 j)
    (hn : s'.1 (60 + 2 * r) 0 = s'.1 73 r ∧ SzOk (s'.1 73 r) ∧ ∀ i n : Nat, s'.1 73 r = nI n → i < n → n ≤ 60 → s'.1 (61 + 2 * r) i = s'.1 74 (60 * r + i)) : Inv s' := by
  obtain ⟨nb, n, nq, nm, nd, ga, gb, gc, gd, ge, gf, gg, gh, gi, gj⟩ := hI
  refine ⟨nb, n, nq, nm, nd, Ga_keep h (fun a ha => by omega) ga, Gb_keep h (fun a ha => by omega) gb, ?_, Gd_keep h (fun a ha => by omega) gd, Ge_keep h (fun a ha => by omega) ge, Gf_keep h (fun a ha => by omega) gf, Gg_keep h (fun a ha => by omega) gg, Gh_keep h (fun a ha => by omega) gh, Gi_keep h (fun a ha => by omega) gi, Gj_keep h (fun a ha => by omega) gj⟩
  intro r' hr'
  by_cases e : r' = r
  · subst e
    exact hn
  · obtain ⟨g1, g2, g3⟩ := gc r' hr'
    rw [h.1 (60 + 2 * r') (by unfold Cr; omega) (by omega), h.1 (61 + 2 * r') (by unfold Cr; omega) (by omega), h70 r' e]
    refine ⟨g1, g2, fun i m h1 h2 h3 => ?_⟩
    rw [h71 _ (by omega)]
    exact g3 i m h1 h2 h3
theorem textOf_bad {a : Int32} (h : a < 0 ∨ nI 4 ≤ a) (s : Mem) : fX11_textOf a s = some (0, s) := by
  unfold fX11_textOf
  by_cases h1 : a < 0
  · rw [if_pos h1]
  · have h2 : ¬ a < 4 := Int32.not_lt.mpr (h.resolve_left h1)
    rw [if_neg h1, if_neg h2]
theorem rt5 : ∀ r, r < 4 → RT 5 r = 60 + 2 * r ∧ kd (60 + 2 * r) = 9 := by decide +kernel
theorem textOf_ok {r : Nat} (hr : r < 4) (s : Mem) : fX11_textOf (nI r) s = some (60 + 2 * r, s) := by
  unfold fX11_textOf
  rw [if_neg (nI_nonneg (by omega)), if_pos ((lt_num (by omega) (by decide)).mpr hr), if_pos (inb_ok hr (by decide)), ix_nI (by omega), (rt5 r hr).1]
theorem isText_bad {a : Int32} (h : a < 0 ∨ nI 4 ≤ a) (s : Mem) : fX12_isText a s = some (0, s) := by
  have h2 : a < 0 ∨ 3 < a := h.elim Or.inl (fun z => Or.inr (Int32.lt_of_lt_of_le (by decide : (3 : Int32) < nI 4) z))
  unfold fX12_isText
  rw [in_eq, within_f h2, bnd_some, if_pos (Or.inl rfl)]
theorem isText_ok {r : Nat} (hr : r < 4) (s : Mem) : fX12_isText (nI r) s = some (1, s) := by
  have h2 : ¬ 3 < nI r := fun z => by
    have := (num_lt (a := r) (b := 3) (by omega) (by decide)).mp z
    omega
  unfold fX12_isText
  rw [in_eq, within_t (nI_nonneg (by omega)) h2, bnd_some, if_pos (Or.inr rfl)]
theorem txt_cases (a : Int32) : (a < 0 ∨ nI 4 ≤ a) ∨ ∃ r : Nat, r < 4 ∧ a = nI r := by
  rcases i_cases a 4 (by decide) with h | h | h
  · exact Or.inl (Or.inl h)
  · exact Or.inl (Or.inr h.2)
  · exact Or.inr h
theorem txt_ne {r : Nat} : ¬ 60 + 2 * r = 0 := by omega
theorem e60 (r : Nat) : 60 + 2 * r + 1 = 61 + 2 * r := by omega
theorem b32 : (Int32.toInt8 32).toInt32 = 32 := by decide
theorem trenew_ok {q n : Nat} (hn : n ≤ 60) (s : Mem) : fX9_renew q (nI n) s = some ((), zf (wI s q 0 (nI n)) (q + 1) 0 n 32) := by
  unfold fX9_renew
  rw [mxmn hn]
  generalize hs0 : wI s q 0 (nI n) = s0
  have hsz : s0.1 q 0 = nI n := by rw [← hs0]; simp [wI]
  have hne : q ≠ q + 1 := by omega
  have key := lp0 (fun k j => fX9_renew_L16 (fun s3 => some ((), s3)) q k (nI j) (zf s0 (q + 1) 0 j 32)) (some ((), zf s0 (q + 1) 0 n 32)) n ?_ ?_ (by omega)
  · rw [← key]
    show _ = fX9_renew_L16 (fun s3 => some ((), s3)) q FU (nI 0) (zf s0 (q + 1) 0 0 32)
    rw [zf_0]
    rfl
  · intro j k hj
    show fX9_renew_L16 _ q (k + 1) (nI j) (zf s0 (q + 1) 0 j 32) = fX9_renew_L16 _ q k (nI (j + 1)) (zf s0 (q + 1) 0 (j + 1) 32)
    rw [fX9_renew_L16, zf_ne hne, hsz, if_pos (nI_lt hj (by omega)), if_pos (inb_ok (by omega) (by decide)), nI_1, ix_nI (by omega), b32]
    have := zf_s s0 (q + 1) 0 j 32
    rw [Nat.zero_add] at this
    rw [this]
  · intro k
    show fX9_renew_L16 _ q (k + 1) (nI n) (zf s0 (q + 1) 0 n 32) = _
    rw [fX9_renew_L16, zf_ne hne, hsz, if_neg (nI_nlt (Nat.le_refl n) (by omega))]
theorem textL_ok {r : Nat} (hr : r < 4) (κ : Mem → Option (Int32 × Mem)) (a2 : Int32) (s : Mem) : fX12_text_L34 κ (nI r) a2 FU 0 s = κ (zf s 74 (60 * r) 60 32) := by
  have key := lp0 (fun k j => fX12_text_L34 κ (nI r) a2 k (nI j) (zf s 74 (60 * r) j 32)) (κ (zf s 74 (60 * r) 60 32)) 60 ?_ ?_ (by omega)
  · rw [← key]
    show _ = fX12_text_L34 κ (nI r) a2 FU (nI 0) (zf s 74 (60 * r) 0 32)
    rw [zf_0]
    rfl
  · intro j k hj
    show fX12_text_L34 κ (nI r) a2 (k + 1) (nI j) (zf s 74 (60 * r) j 32) = fX12_text_L34 κ (nI r) a2 k (nI (j + 1)) (zf s 74 (60 * r) (j + 1) 32)
    rw [fX12_text_L34, if_pos ((lt_num (by omega) (by decide)).mpr hj), six0, if_pos (inb_ok (by omega) (by decide)), nI_1, ix_nI (by omega), b32, zf_s]
  · intro k
    show fX12_text_L34 κ (nI r) a2 (k + 1) (nI 60) (zf s 74 (60 * r) 60 32) = _
    rw [fX12_text_L34, if_neg (by decide)]
theorem al_text (a1 a2 : Int32) : Alike (fX11_text a1 a2) (fX12_text a1 a2) := by
  intro s hI
  unfold fX11_text fX12_text
  rcases txt_cases a1 with h | ⟨r, hr, rfl⟩
  · refine ⟨-1, s, s, ?_, ?_, hI⟩
    · rw [textOf_bad h, bnd_some, if_pos rfl]
    · rw [isText_bad h, bnd_some, if_pos rfl]
  · rw [textOf_ok hr, bnd_some, if_neg txt_ne]
    by_cases h60 : 60 < a2
    · refine ⟨-1, s, s, ?_, ?_, hI⟩
      · rw [if_pos h60]
      · rw [isText_ok hr, bnd_some, if_neg one_ne, if_pos h60]
    · rw [if_neg h60]
      by_cases h0 : a2 < 0
      · obtain ⟨s1, s2, e1, e2, e3⟩ := found_al hI (f := 5) (by decide)
        refine ⟨-3, s1, s2, ?_, ?_, e3⟩
        · rw [if_pos h0]
          show bnd (fX10_found (nI 5) s) _ = _
          rw [e1, bnd_some]
        · rw [isText_ok hr, bnd_some, if_neg one_ne, if_neg h60, if_pos h0]
          show bnd (fX12_meets (nI 5) s1) _ = _
          rw [e2, bnd_some]
      · obtain ⟨n, hn, rfl⟩ := rng_nI (n := 60) (by decide) h0 h60
        have hk := (rt5 r hr).2
        refine ⟨nI n, zf (wI s (60 + 2 * r) 0 (nI n)) (60 + 2 * r + 1) 0 n 32, zf (wI (zf (wI s (60 + 2 * r) 0 (nI n)) (60 + 2 * r + 1) 0 n 32) 73 r (nI n)) 74 (60 * r) 60 32, ?_, ?_, ?_⟩
        · rw [if_neg h0, if_pos hk, trenew_ok hn, bnd_some]
        · rw [isText_ok hr, bnd_some, if_neg one_ne, if_neg h60, if_neg h0, if_pos (inb_ok hr (by decide)), textL_ok hr, ix_nI (by omega)]
        · rw [e60]
          refine Inv_txt hI hr ((((SmX.wI (by omega) (by omega) (by omega)).tr (SmX.wF (by omega) (by omega) (by omega))).tr (SmX.wI (by omega) (by omega) (by omega))).tr (SmX.wF (by omega) (by omega) (by omega))) (fun j hj => ?_) (fun j hj => ?_) ⟨?_, ?_, fun i m h1 h2 h3 => ?_⟩
          · rw [zf_ne (by decide), rd_wI, if_pos rfl, if_neg hj, zf_ne (by omega), wI_ne (by omega)]
          · rw [zf_at, if_neg (by omega), wI_ne (by decide), zf_ne (by omega), wI_ne (by omega)]
          · rw [zf_ne (by omega), wI_ne (by omega), zf_ne (by omega), zf_ne (by omega)]
            simp [wI]
          · rw [zf_ne (by omega)]
            refine Or.inr ⟨n, hn, ?_⟩
            simp [wI]
          · have h4 : nI m = nI n := by
              rw [← h1, zf_ne (by omega)]
              simp [wI]
            have h5 : m = n := (nI_eq (by omega) (by omega)).mp h4
            subst h5
            rw [zf_ne (by omega), wI_ne (by omega), zf_at, zf_at, if_pos (by omega), if_pos (by omega)]
theorem tmiss_t {q : Nat} {s : Mem} (h : s.1 q 0 < 0) : fX9_isMissing q s = some (1, s) := by
  unfold fX9_isMissing
  rw [if_pos h]
theorem tmiss_f {q n : Nat} {s : Mem} (h : s.1 q 0 = nI n) (hn : n ≤ 60) : fX9_isMissing q s = some (0, s) := by
  unfold fX9_isMissing
  rw [h, if_neg (nI_nonneg (by omega))]
theorem thas_f {q n : Nat} {a : Int32} {s : Mem} (h : s.1 q 0 = nI n) (ha : a < 0 ∨ nI n ≤ a) : fX9_has q a s = some (0, s) := by
  unfold fX9_has
  by_cases h1 : a < 0
  · rw [if_pos h1]
  · have h2 : ¬ a < nI n := Int32.not_lt.mpr (ha.resolve_left h1)
    rw [if_neg h1, h, if_neg h2]
theorem thas_t {q n i : Nat} {s : Mem} (h : s.1 q 0 = nI n) (hn : n ≤ 60) (hi : i < n) : fX9_has q (nI i) s = some (1, s) := by
  unfold fX9_has
  rw [if_neg (nI_nonneg (by omega)), h, if_pos (nI_lt hi (by omega))]
theorem f_found73 {f : Nat} (hf : f < 6) {s s1 : Mem} {x : Int32} (e1 : fX10_found (nI f) s = some (x, s1)) : s1.1 73 = s.1 73 := by
  rw [f_found hf] at e1
  cases e1
  rw [wI_ne (by decide), wI_ne (by decide)]
theorem Inv_put {s : Mem} {r i n : Nat} {v : Int32} (hI : Inv s) (hr : r < 4) (hm : s.1 73 r = nI n) (hi : i < n) (hn : n ≤ 60) : Inv (wI (wI s (61 + 2 * r) i v) 74 (60 * r + i) v) := by
  obtain ⟨g1, g2, g3⟩ := hI.gc r hr
  refine Inv_txt hI hr ((SmX.wI (by omega) (by omega) (by omega)).tr (SmX.wI (by omega) (by omega) (by omega))) (fun j hj => ?_) (fun j hj => ?_) ⟨?_, ?_, fun j m h1 h2 h3 => ?_⟩
  · rw [wI_ne (by decide), wI_ne (by omega)]
  · rw [rd_wI, if_pos rfl, if_neg (by omega), wI_ne (by omega)]
  · rw [wI_ne (by omega), wI_ne (by omega), wI_ne (by decide), wI_ne (by omega)]
    exact g1
  · rw [wI_ne (by decide), wI_ne (by omega)]
    exact g2
  · rw [wI_ne (by decide), wI_ne (by omega)] at h1
    rw [wI_ne (by omega), rd_wI, if_pos rfl, rd_wI, if_pos rfl]
    by_cases hj : j = i
    · rw [if_pos hj, if_pos (by omega)]
    · rw [if_neg hj, if_neg (by omega), wI_ne (by omega)]
      exact g3 j m h1 h2 h3
theorem al_put (a1 a2 a3 : Int32) : Alike (fX11_put a1 a2 a3) (fX12_put a1 a2 a3) := by
  intro s hI
  unfold fX11_put fX12_put
  rcases txt_cases a1 with h | ⟨r, hr, rfl⟩
  · refine ⟨-1, s, s, ?_, ?_, hI⟩
    · rw [textOf_bad h, bnd_some, if_pos rfl]
    · rw [isText_bad h, bnd_some, if_pos rfl]
  · obtain ⟨g1, g2, g3⟩ := hI.gc r hr
    have hin : inb (nI r) 4 = true := inb_ok hr (by decide)
    rw [textOf_ok hr, bnd_some, if_neg txt_ne, if_pos (rt5 r hr).2]
    rcases szOk_cases g2 with ⟨hm, -⟩ | ⟨n, hn, hm⟩
    · obtain ⟨s1, s2, e1, e2, e3⟩ := found_al hI (f := 1) (by decide)
      refine ⟨-3, s1, s2, ?_, ?_, e3⟩
      · rw [tmiss_t (by rw [g1]; exact hm), bnd_some, if_neg one_ne]
        show bnd (fX10_found (nI 1) s) _ = _
        rw [e1, bnd_some]
      · rw [isText_ok hr, bnd_some, if_neg one_ne, if_pos hin, ix_nI (by omega), f_found73 (by decide) e1, if_pos hm]
        show bnd (fX12_meets (nI 1) s1) _ = _
        rw [e2, bnd_some]
    · have hq : s.1 (60 + 2 * r) 0 = nI n := g1.trans hm
      rw [tmiss_f hq hn, bnd_some, if_pos rfl]
      rcases i_cases a2 n (by omega) with z | z | ⟨i, hi, rfl⟩
      all_goals try (
        have z' : a2 < 0 ∨ nI n ≤ a2 := by first | exact Or.inl z | exact Or.inr z.2
        obtain ⟨s1, s2, e1, e2, e3⟩ := found_al hI (f := 2) (by decide)
        refine ⟨-3, s1, s2, ?_, ?_, e3⟩
        · rw [thas_f hq z', bnd_some, if_pos rfl]
          show bnd (fX10_found (nI 2) s) _ = _
          rw [e1, bnd_some]
        · rw [isText_ok hr, bnd_some, if_neg one_ne, if_pos hin, ix_nI (by omega), f_found73 (by decide) e1, hm, if_neg (nI_nonneg (by omega)), if_pos hin, in_no hn z', bnd_some, if_pos rfl]
          show bnd (fX12_meets (nI 2) s1) _ = _
          rw [e2, bnd_some])
      have hv : s.1 (61 + 2 * r) i = s.1 74 (60 * r + i) := g3 i n hm hi hn
      have hi60 : inb (nI i) 60 = true := inb_ok (by omega) (by decide)
      have hi24 : inb (nI (60 * r + i)) 240 = true := inb_ok (by omega) (by decide)
      refine ⟨s.1 (61 + 2 * r) i + 1000, wI s (61 + 2 * r) i (Int32.toInt8 ((Int32.toInt8 a3).toInt32)).toInt32, wI (wI s (61 + 2 * r) i (Int32.toInt8 ((Int32.toInt8 a3).toInt32)).toInt32) 74 (60 * r + i) (Int32.toInt8 ((Int32.toInt8 a3).toInt32)).toInt32, ?_, ?_, Inv_put hI hr hm hi hn⟩
      · rw [thas_t hq hn hi, bnd_some, if_neg one_ne, if_pos hi60, nm_eq, if_pos hi60, ix_nI (by omega), e60]
      · rw [isText_ok hr, bnd_some, if_neg one_ne, if_pos hin, ix_nI (by omega), wI_ne (by omega), hm, if_neg (nI_nonneg (by omega)), if_pos hin, in_yes hn hi, bnd_some, if_neg one_ne, six0, if_pos hi24, nm_eq, if_pos hi24, ix_nI (by omega), wI_ne (by omega), hv, Int32.add_comm]
