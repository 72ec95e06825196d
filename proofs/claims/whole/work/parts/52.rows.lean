-- rows
theorem rowOf_bad {a : Int32} (h : a < 0 ∨ nI 6 ≤ a) (s : Mem) : fX11_rowOf a s = some (0, s) := by
  unfold fX11_rowOf
  by_cases h1 : a < 0
  · rw [if_pos h1]
  · have h2 : ¬ a < 6 := Int32.not_lt.mpr (h.resolve_left h1)
    rw [if_neg h1, if_neg h2]
theorem rt4 : ∀ r, r < 6 → RT 4 r = 48 + 2 * r ∧ kd (48 + 2 * r) = 7 := by decide +kernel
theorem rowOf_ok {r : Nat} (hr : r < 6) (s : Mem) : fX11_rowOf (nI r) s = some (48 + 2 * r, s) := by
  unfold fX11_rowOf
  rw [if_neg (nI_nonneg (by omega)), if_pos ((lt_num (by omega) (by decide)).mpr hr), if_pos (inb_ok hr (by decide)), ix_nI (by omega), (rt4 r hr).1]
theorem isRow_bad {a : Int32} (h : a < 0 ∨ nI 6 ≤ a) (s : Mem) : fX12_isRow a s = some (0, s) := by
  have h2 : a < 0 ∨ 5 < a := h.elim Or.inl (fun z => Or.inr (Int32.lt_of_lt_of_le (by decide : (5 : Int32) < nI 6) z))
  unfold fX12_isRow
  rw [in_eq, within_f h2, bnd_some, if_pos (Or.inl rfl)]
theorem isRow_ok {r : Nat} (hr : r < 6) (s : Mem) : fX12_isRow (nI r) s = some (1, s) := by
  have h2 : ¬ 5 < nI r := fun z => by
    have := (num_lt (a := r) (b := 5) (by omega) (by decide)).mp z
    omega
  unfold fX12_isRow
  rw [in_eq, within_t (nI_nonneg (by omega)) h2, bnd_some, if_pos (Or.inr rfl)]
theorem row_cases (a : Int32) : (a < 0 ∨ nI 6 ≤ a) ∨ ∃ r : Nat, r < 6 ∧ a = nI r := by
  rcases i_cases a 6 (by decide) with h | h | h
  · exact Or.inl (Or.inl h)
  · exact Or.inl (Or.inr h.2)
  · exact Or.inr h
theorem row_ne {r : Nat} : ¬ 48 + 2 * r = 0 := by omega
/-- places lo .. lo + n of cell q hold v -/
def zf (s : Mem) (q lo n : Nat) (v : Int32) : Mem := wF s q (fun j => if lo ≤ j ∧ j < lo + n then v else s.1 q j)
theorem wF_self (s : Mem) (q : Nat) : wF s q (s.1 q) = s := by
  unfold wF
  have : (fun a => if a = q then s.1 q else s.1 a) = s.1 := by
    funext a
    by_cases h : a = q
    · rw [if_pos h, h]
    · rw [if_neg h]
  rw [this]
theorem zf_0 (s : Mem) (q lo : Nat) (v : Int32) : zf s q lo 0 v = s := by
  unfold zf
  have : (fun j => if lo ≤ j ∧ j < lo + 0 then v else s.1 q j) = s.1 q := by
    funext j
    rw [if_neg (by omega)]
  rw [this, wF_self]
theorem wI_wF (s : Mem) (q j : Nat) (f : Nat → Int32) (v : Int32) : wI (wF s q f) q j v = wF s q (fun b => if b = j then v else f b) := by
  unfold wI wF
  congr 1
  funext a b
  by_cases h : a = q
  · simp [h]
  · simp [h]
theorem zf_s (s : Mem) (q lo n : Nat) (v : Int32) : wI (zf s q lo n v) q (lo + n) v = zf s q lo (n + 1) v := by
  unfold zf
  rw [wI_wF]
  congr 1
  funext b
  by_cases h : b = lo + n
  · rw [if_pos h, if_pos (by omega)]
  · rw [if_neg h]
    by_cases h2 : lo ≤ b ∧ b < lo + n
    · rw [if_pos h2, if_pos (by omega)]
    · rw [if_neg h2, if_neg (by omega)]
theorem zf_ne {s : Mem} {q lo n a : Nat} {v : Int32} (h : a ≠ q) : (zf s q lo n v).1 a = s.1 a := wF_ne h
theorem zf_at {s : Mem} {q lo n j : Nat} {v : Int32} : (zf s q lo n v).1 q j = if lo ≤ j ∧ j < lo + n then v else s.1 q j := by
  unfold zf
  rw [rd_wF, if_pos rfl]
theorem mxmn {n : Nat} (h : n ≤ 60) : mx 0 (mn 60 (nI n)) = nI n := by
  have h1 : mn 60 (nI n) = nI n := by
    unfold mn
    by_cases h2 : nI n < 60
    · rw [if_pos h2]
    · rw [if_neg h2]
      have h3 : ¬ n < 60 := fun z => h2 ((lt_num (by omega) (by decide)).mpr z)
      have h4 : n = 60 := by omega
      rw [h4]
      rfl
  rw [h1]
  unfold mx
  by_cases h2 : (0 : Int32) < nI n
  · rw [if_pos h2]
  · rw [if_neg h2]
    have h3 : ¬ 0 < n := fun z => h2 ((num_lt (by omega) (by decide)).mpr z)
    have h4 : n = 0 := by omega
    rw [h4]
    rfl
theorem renew_ok {q n : Nat} (hn : n ≤ 60) (s : Mem) : fX7_renew q (nI n) s = some ((), zf (wI s q 0 (nI n)) (q + 1) 0 n 0) := by
  unfold fX7_renew
  rw [mxmn hn]
  generalize hs0 : wI s q 0 (nI n) = s0
  have hsz : s0.1 q 0 = nI n := by rw [← hs0]; simp [wI]
  have hne : q ≠ q + 1 := by omega
  have key := lp0 (fun k j => fX7_renew_L16 (fun s3 => some ((), s3)) q k (nI j) (zf s0 (q + 1) 0 j 0)) (some ((), zf s0 (q + 1) 0 n 0)) n ?_ ?_ (by omega)
  · rw [← key]
    show _ = fX7_renew_L16 (fun s3 => some ((), s3)) q FU (nI 0) (zf s0 (q + 1) 0 0 0)
    rw [zf_0]
    rfl
  · intro j k hj
    show fX7_renew_L16 _ q (k + 1) (nI j) (zf s0 (q + 1) 0 j 0) = fX7_renew_L16 _ q k (nI (j + 1)) (zf s0 (q + 1) 0 (j + 1) 0)
    rw [fX7_renew_L16, zf_ne hne, hsz, if_pos (nI_lt hj (by omega)), if_pos (inb_ok (by omega) (by decide)), nI_1, ix_nI (by omega)]
    have := zf_s s0 (q + 1) 0 j 0
    rw [Nat.zero_add] at this
    rw [this]
  · intro k
    show fX7_renew_L16 _ q (k + 1) (nI n) (zf s0 (q + 1) 0 n 0) = _
    rw [fX7_renew_L16, zf_ne hne, hsz, if_neg (nI_nlt (Nat.le_refl n) (by omega))]
theorem six0 (r i : Nat) : (60 : Int32) * nI r + nI i = nI (60 * r + i) := by
  rw [show (60 : Int32) = nI 60 from rfl, pk_mul, nI_add]
theorem rowL_ok {r : Nat} (hr : r < 6) (κ : Mem → Option (Int32 × Mem)) (a2 : Int32) (s : Mem) : fX12_row_L34 κ (nI r) a2 FU 0 s = κ (zf s 71 (60 * r) 60 0) := by
  have key := lp0 (fun k j => fX12_row_L34 κ (nI r) a2 k (nI j) (zf s 71 (60 * r) j 0)) (κ (zf s 71 (60 * r) 60 0)) 60 ?_ ?_ (by omega)
  · rw [← key]
    show _ = fX12_row_L34 κ (nI r) a2 FU (nI 0) (zf s 71 (60 * r) 0 0)
    rw [zf_0]
    rfl
  · intro j k hj
    show fX12_row_L34 κ (nI r) a2 (k + 1) (nI j) (zf s 71 (60 * r) j 0) = fX12_row_L34 κ (nI r) a2 k (nI (j + 1)) (zf s 71 (60 * r) (j + 1) 0)
    rw [fX12_row_L34, if_pos ((lt_num (by omega) (by decide)).mpr hj), six0, if_pos (inb_ok (by omega) (by decide)), nI_1, ix_nI (by omega), zf_s]
  · intro k
    show fX12_row_L34 κ (nI r) a2 (k + 1) (nI 60) (zf s 71 (60 * r) 60 0) = _
    rw [fX12_row_L34, if_neg (by decide)]
theorem found_al {s : Mem} (hI : Inv s) {f : Nat} (hf : f < 6) : ∃ s1 s2, fX10_found (nI f) s = some (-3, s1) ∧ fX12_meets (nI f) s1 = some (-3, s2) ∧ Inv s2 := ⟨_, _, f_found hf s, f_meets hf _, al_found hI f⟩
theorem al_row (a1 a2 : Int32) : Alike (fX11_row a1 a2) (fX12_row a1 a2) := by
  intro s hI
  unfold fX11_row fX12_row
  rcases row_cases a1 with h | ⟨r, hr, rfl⟩
  · refine ⟨-1, s, s, ?_, ?_, hI⟩
    · rw [rowOf_bad h, bnd_some, if_pos rfl]
    · rw [isRow_bad h, bnd_some, if_pos rfl]
  · rw [rowOf_ok hr, bnd_some, if_neg row_ne]
    by_cases h60 : 60 < a2
    · refine ⟨-1, s, s, ?_, ?_, hI⟩
      · rw [if_pos h60]
      · rw [isRow_ok hr, bnd_some, if_neg one_ne, if_pos h60]
    · rw [if_neg h60]
      by_cases h0 : a2 < 0
      · obtain ⟨s1, s2, e1, e2, e3⟩ := found_al hI (f := 5) (by decide)
        refine ⟨-3, s1, s2, ?_, ?_, e3⟩
        · rw [if_pos h0]
          show bnd (fX10_found (nI 5) s) _ = _
          rw [e1, bnd_some]
        · rw [isRow_ok hr, bnd_some, if_neg one_ne, if_neg h60, if_pos h0]
          show bnd (fX12_meets (nI 5) s1) _ = _
          rw [e2, bnd_some]
      · obtain ⟨n, hn, rfl⟩ := rng_nI (n := 60) (by decide) h0 h60
        have hk := (rt4 r hr).2
        refine ⟨nI n, zf (wI s (48 + 2 * r) 0 (nI n)) (48 + 2 * r + 1) 0 n 0, zf (wI (zf (wI s (48 + 2 * r) 0 (nI n)) (48 + 2 * r + 1) 0 n 0) 70 r (nI n)) 71 (60 * r) 60 0, ?_, ?_, ?_⟩
        · rw [if_neg h0, if_pos hk, renew_ok hn, bnd_some]
        · rw [isRow_ok hr, bnd_some, if_neg one_ne, if_neg h60, if_neg h0, if_pos (inb_ok hr (by decide)), rowL_ok hr, ix_nI (by omega)]
        · have e1 : 48 + 2 * r + 1 = 49 + 2 * r := by omega
          rw [e1]
          have hS : SmX (fun a => a = 48 + 2 * r ∨ a = 49 + 2 * r ∨ a = 70 ∨ a = 71) s (zf (wI (zf (wI s (48 + 2 * r) 0 (nI n)) (49 + 2 * r) 0 n 0) 70 r (nI n)) 71 (60 * r) 60 0) :=
            (((SmX.wI (by omega) (by omega) (by omega)).tr (SmX.wF (by omega) (by omega) (by omega))).tr (SmX.wI (by omega) (by omega) (by omega))).tr (SmX.wF (by omega) (by omega) (by omega))
          refine Inv_row hI hr hS (fun j hj => ?_) (fun j hj => ?_) ⟨?_, ?_, fun i m h1 h2 h3 => ?_⟩
          · rw [zf_ne (by decide), rd_wI, if_pos rfl, if_neg hj, zf_ne (by omega), wI_ne (by omega)]
          · rw [zf_at, if_neg (by omega), wI_ne (by decide), zf_ne (by omega), wI_ne (by omega)]
          · rw [zf_ne (by omega), wI_ne (by omega), zf_ne (by omega), zf_ne (by omega)]
            simp [wI]
          · rw [zf_ne (by omega)]
            refine Or.inr ⟨n, hn, ?_⟩
            simp [wI]
          · have h4 : nI m = nI n := by
              rw [← h1, zf_ne (by omega)]
              simp [wI]
            have h5 : m = n := (nI_eq (by omega) (by omega)).mp h4
            subst h5
            rw [zf_ne (by omega), wI_ne (by omega), zf_at, zf_at, if_pos (by omega), if_pos (by omega)]
