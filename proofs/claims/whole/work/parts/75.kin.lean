-- kin
theorem b_xor : ∀ a, a < 128 → ∀ b, b < 128 → nI a ^^^ nI b = nI (a ^^^ b) := by decide +kernel
/-- the first that beats all that fit ahead of it -/
def fq (c : Nat → Bool) (t : Nat → Nat → Bool) : Nat → Option Nat
  | 0 => none
  | j + 1 => match fq c t j with
    | none => if c j then some j else none
    | some m => if c j && t m j then some j else some m
theorem fq_n {c : Nat → Bool} {t : Nat → Nat → Bool} {j : Nat} (h : fq c t j = none) : fq c t (j + 1) = if c j then some j else none := by simp only [fq, h]
theorem fq_s {c : Nat → Bool} {t : Nat → Nat → Bool} {j m : Nat} (h : fq c t j = some m) : fq c t (j + 1) = if c j && t m j then some j else some m := by simp only [fq, h]
theorem fq_lt {c : Nat → Bool} {t : Nat → Nat → Bool} : ∀ (j m : Nat), fq c t j = some m → m < j
  | 0, m, h => absurd h (by simp [fq])
  | j + 1, m, h => by
    cases hf : fq c t j with
    | none =>
      rw [fq_n hf] at h
      by_cases hc : c j = true
      · rw [if_pos hc] at h
        cases h
        omega
      · rw [if_neg hc] at h
        cases h
    | some m' =>
      rw [fq_s hf] at h
      have := fq_lt j m' hf
      by_cases hc : (c j && t m' j) = true
      · rw [if_pos hc] at h
        cases h
        omega
      · rw [if_neg hc] at h
        cases h
        omega
theorem fq_cong {c c' : Nat → Bool} {t : Nat → Nat → Bool} : ∀ {n : Nat}, (∀ k, k < n → c k = c' k) → fq c t n = fq c' t n
  | 0, _ => rfl
  | n + 1, h => by
    rw [fq, fq, fq_cong (fun k hk => h k (by omega)), h n (by omega)]
theorem sumI_add (F G : Nat → Int32) : ∀ n, sumI F n + sumI G n = sumI (fun h => F h + G h) n
  | 0 => by rw [sumI, sumI, sumI, Int32.add_zero]
  | n + 1 => by
    rw [sumI, sumI, sumI, ← sumI_add F G n]
    ac_rfl
theorem subI {x y : Int32} (h1 : -500000 ≤ x.toInt ∧ x.toInt ≤ 500000) (h2 : -500000 ≤ y.toInt ∧ y.toInt ≤ 500000) : (x - y).toInt = x.toInt - y.toInt := by
  rw [Int32.toInt_sub, bm (by omega) (by omega)]
theorem abI {x : Int32} (h1 : -500000 ≤ x.toInt ∧ x.toInt ≤ 500000) : (ab x).toInt = if x.toInt < 0 then - x.toInt else x.toInt := by
  have e0 : (0 : Int32).toInt = 0 := by decide
  rw [ab_eq]
  by_cases h : x < 0
  · have h3 := (lt0_iff x).mp h
    rw [if_pos h, if_pos h3, subI (by omega) (by omega)]
    omega
  · have h3 : ¬ x.toInt < 0 := fun z => h ((lt0_iff x).mpr z)
    rw [if_neg h, if_neg h3]
section KIN
variable {s : Mem} {nb n : Nat}
def kmk (s : Mem) (n : Nat) (y : Int32) : Nat := msk (fun h => decide (s.1 78 h = y)) n
def kc (s : Mem) (n : Nat) (d y : Int32) (j : Nat) : Bool := decide (¬ d < ab (2 * ws s n (kmk s n y ^^^ j) - wall s n))
def kt (m j : Nat) : Bool := decide (pcN j < pcN m)
theorem xor_lt {a b : Nat} (ha : a < 128) (hb : b < 128) : a ^^^ b < 128 := Nat.xor_lt_two_pow (n := 7) ha hb
theorem ws_xor (gd : Gd s nb n) (j : Nat) : ws s n (kmk s n 1 ^^^ j) + ws s n (kmk s n 0 ^^^ j) = wall s n := by
  unfold ws wall
  rw [sumI_add]
  refine sumI_cong (fun h hh => ?_)
  unfold kmk
  show (if _ then _ else _) + (if _ then _ else _) = _
  rw [Nat.testBit_xor, Nat.testBit_xor, msk_bit, msk_bit, decide_eq_true hh, Bool.true_and, Bool.true_and]
  rcases gd.kns h hh with e | e
  · rw [e, decide_eq_false (show ¬ (0 : Int32) = 1 by decide), decide_eq_true (show (0 : Int32) = 0 from rfl)]
    cases j.testBit h with
    | false => exact Int32.zero_add _
    | true => exact Int32.add_zero _
  · rw [e, decide_eq_true (show (1 : Int32) = 1 from rfl), decide_eq_false (show ¬ (1 : Int32) = 0 by decide)]
    cases j.testBit h with
    | false => exact Int32.add_zero _
    | true => exact Int32.zero_add _
theorem kc_sym (gd : Gd s nb n) (d : Int32) (j : Nat) : kc s n d 0 j = kc s n d 1 j := by
  have h1 := ws_small gd (kmk s n 1 ^^^ j)
  have h2 := ws_small gd (kmk s n 0 ^^^ j)
  have h3 := ws_xor gd j
  have h4 := wall_small gd
  have h5 : (wall s n).toInt = (ws s n (kmk s n 1 ^^^ j)).toInt + (ws s n (kmk s n 0 ^^^ j)).toInt := by
    rw [← h3, addI (by omega) (by omega)]
  have e : ab (2 * ws s n (kmk s n 0 ^^^ j) - wall s n) = ab (2 * ws s n (kmk s n 1 ^^^ j) - wall s n) := by
    apply Int32.toInt_inj.mp
    have d1 : (2 * ws s n (kmk s n 0 ^^^ j)).toInt = 2 * (ws s n (kmk s n 0 ^^^ j)).toInt := by
      rw [Int32.two_mul, addI (by omega) (by omega)]
      omega
    have d2 : (2 * ws s n (kmk s n 1 ^^^ j)).toInt = 2 * (ws s n (kmk s n 1 ^^^ j)).toInt := by
      rw [Int32.two_mul, addI (by omega) (by omega)]
      omega
    have d3 : (2 * ws s n (kmk s n 0 ^^^ j) - wall s n).toInt = (2 * ws s n (kmk s n 0 ^^^ j)).toInt - (wall s n).toInt := subI (by omega) (by omega)
    have d4 : (2 * ws s n (kmk s n 1 ^^^ j) - wall s n).toInt = (2 * ws s n (kmk s n 1 ^^^ j)).toInt - (wall s n).toInt := subI (by omega) (by omega)
    rw [abI (by omega), abI (by omega), d3, d4, d1, d2, h5]
    split <;> split <;> omega
  unfold kc
  rw [e]
theorem nI_ne9 {m : Nat} (h : m < 1000) : ¬ nI m = -9 := nI_m9 (by omega)
theorem pc8 (m : Nat) : pcN m ≤ 8 := cntN_le _ 8
theorem kin1 (gd : Gd s nb n) (d : Int32) (κ : Int32 → Int32 → Mem → Option (Int32 × Mem)) : fX11_kin_L46 κ d (wall s n) (nI (kmk s n 1)) FU (-9) 0 0 s = κ (oI (fq (kc s n d 1) kt (2 ^ n)) (-9) (fun m => nI (pcN m))) (oI (fq (kc s n d 1) kt (2 ^ n)) 0 nI) s := by
  have h7 := gd.ln
  have hN := p7 h7
  have hN0 := p0 n
  have hev := everybody_ok gd
  have hg : kmk s n 1 < 128 := msk_lt128 _ h7
  generalize 2 ^ n = N at *
  have key := lp0 (fun k j => fX11_kin_L46 κ d (wall s n) (nI (kmk s n 1)) k (oI (fq (kc s n d 1) kt j) (-9) (fun m => nI (pcN m))) (oI (fq (kc s n d 1) kt j) 0 nI) (nI j) s) (κ (oI (fq (kc s n d 1) kt N) (-9) (fun m => nI (pcN m))) (oI (fq (kc s n d 1) kt N) 0 nI) s) N ?_ ?_ (by omega)
  · exact key
  · intro j k hj
    show fX11_kin_L46 κ d (wall s n) (nI (kmk s n 1)) (k + 1) _ _ (nI j) s = fX11_kin_L46 κ d (wall s n) (nI (kmk s n 1)) k _ _ (nI (j + 1)) s
    rw [fX11_kin_L46, hev, bnd_some, if_neg (nI_nlt (by omega) (by omega)), b_xor _ hg _ (by omega), weighAll_ok gd (xor_lt hg (by omega)), bnd_some, nm_eq, bc_ok j (by omega), bnd_some, nI_1]
    show (if d < ab (2 * ws s n (kmk s n 1 ^^^ j) - wall s n) then _ else _) = _
    cases hm : fq (kc s n d 1) kt j with
    | none =>
      rw [fq_n hm]
      by_cases c1 : d < ab (2 * ws s n (kmk s n 1 ^^^ j) - wall s n)
      · have e : kc s n d 1 j = false := decide_eq_false (fun z => z c1)
        rw [if_pos c1, e]
        rfl
      · have e : kc s n d 1 j = true := decide_eq_true c1
        rw [if_neg c1, e]
        rfl
    | some m =>
      rw [fq_s hm]
      have hp := pc8 m
      have hp2 := pc8 j
      by_cases c1 : d < ab (2 * ws s n (kmk s n 1 ^^^ j) - wall s n)
      · have e : kc s n d 1 j = false := decide_eq_false (fun z => z c1)
        rw [if_pos c1, e]
        rfl
      · have e : kc s n d 1 j = true := decide_eq_true c1
        rw [if_neg c1, e, Bool.true_and]
        show (if nI (pcN m) = -9 then _ else if nI (pcN j) < nI (pcN m) then _ else _) = _
        rw [if_neg (nI_ne9 (by omega))]
        by_cases c2 : pcN j < pcN m
        · have e2 : kt m j = true := decide_eq_true c2
          rw [if_pos (nI_lt c2 (by omega)), e2]
          rfl
        · have e2 : kt m j = false := decide_eq_false c2
          rw [if_neg (nI_nlt (by omega) (by omega)), e2]
          rfl
  · intro k
    show fX11_kin_L46 κ d (wall s n) (nI (kmk s n 1)) (k + 1) _ _ (nI N) s = _
    rw [fX11_kin_L46, hev, bnd_some, if_pos (nI_lt (by omega) (by omega))]
theorem kin22 (gd : Gd s nb n) (y1 y2 : Int32) (κ : Int32 → Mem → Option (Int32 × Mem)) : fX12_kin_L22 κ y1 y2 FU 0 0 s = κ (nI (kmk s n 0)) s := by
  have h7 := gd.ln
  have key := lp0 (fun k j => fX12_kin_L22 κ y1 y2 k (nI (kmk s j 0)) (nI j) s) (κ (nI (kmk s n 0)) s) n ?_ ?_ (by omega)
  · exact key
  · intro j k hj
    show fX12_kin_L22 κ y1 y2 (k + 1) _ (nI j) s = fX12_kin_L22 κ y1 y2 k _ (nI (j + 1)) s
    rw [fX12_kin_L22, gd.g68, if_pos (nI_lt hj (by omega)), if_pos (inb_ok (by omega) (by decide)), nm_eq, nm_eq, nI_1, ix_nI (by omega)]
    unfold kmk
    rw [msk]
    by_cases h1 : s.1 78 j = 0
    · rw [if_pos h1, if_pos (decide_eq_true h1), msk_or (by omega)]
    · rw [if_neg h1, if_neg (by rw [decide_eq_false h1]; decide), Int32.or_zero]
      rfl
  · intro k
    show fX12_kin_L22 κ y1 y2 (k + 1) _ (nI n) s = _
    rw [fX12_kin_L22, gd.g68, if_neg (nI_nlt (Nat.le_refl n) (by omega))]
theorem kin2 (gd : Gd s nb n) (d : Int32) (κ : Int32 → Mem → Option (Int32 × Mem)) : fX12_kin_L65 κ d (wall s n) (nI (kmk s n 0)) FU (-9) 0 s = κ (oI (fq (kc s n d 0) kt (2 ^ n)) (-9) nI) s := by
  have h7 := gd.ln
  have hN := p7 h7
  have hN0 := p0 n
  have hsh := b_shl n h7
  have hg : kmk s n 0 < 128 := msk_lt128 _ h7
  generalize 2 ^ n = N at *
  have key := lp0 (fun k j => fX12_kin_L65 κ d (wall s n) (nI (kmk s n 0)) k (oI (fq (kc s n d 0) kt j) (-9) nI) (nI j) s) (κ (oI (fq (kc s n d 0) kt N) (-9) nI) s) N ?_ ?_ (by omega)
  · exact key
  · intro j k hj
    show fX12_kin_L65 κ d (wall s n) (nI (kmk s n 0)) (k + 1) _ (nI j) s = fX12_kin_L65 κ d (wall s n) (nI (kmk s n 0)) k _ (nI (j + 1)) s
    rw [fX12_kin_L65, gd.g68, hsh, if_pos (nI_lt hj (by omega)), b_xor _ hg _ (by omega), mweightOf_ok gd.g68 h7 (xor_lt hg (by omega)), bnd_some, sizeOf_ok, bnd_some, ← ab_eq, bits_ok (show j < 128 by omega), bnd_some, nI_1]
    show (if d < ab (2 * ws s n (kmk s n 0 ^^^ j) - wall s n) then _ else _) = _
    cases hm : fq (kc s n d 0) kt j with
    | none =>
      rw [fq_n hm]
      by_cases c1 : d < ab (2 * ws s n (kmk s n 0 ^^^ j) - wall s n)
      · have e : kc s n d 0 j = false := decide_eq_false (fun z => z c1)
        rw [if_pos c1, e]
        rfl
      · have e : kc s n d 0 j = true := decide_eq_true c1
        rw [if_neg c1, e]
        rfl
    | some m =>
      rw [fq_s hm]
      have hp := pc8 m
      have hp2 := pc8 j
      have hml := fq_lt _ _ hm
      by_cases c1 : d < ab (2 * ws s n (kmk s n 0 ^^^ j) - wall s n)
      · have e : kc s n d 0 j = false := decide_eq_false (fun z => z c1)
        rw [if_pos c1, e]
        rfl
      · have e : kc s n d 0 j = true := decide_eq_true c1
        rw [if_neg c1, e, Bool.true_and]
        show (if nI m = -9 then _ else bnd (fX12_bits (nI m) s) _) = _
        rw [if_neg (nI_ne9 (by omega)), bits_ok (by omega), bnd_some]
        by_cases c2 : pcN j < pcN m
        · have e2 : kt m j = true := decide_eq_true c2
          rw [if_pos (nI_lt c2 (by omega)), e2]
          rfl
        · have e2 : kt m j = false := decide_eq_false c2
          rw [if_neg (nI_nlt (by omega) (by omega)), e2]
          rfl
  · intro k
    show fX12_kin_L65 κ d (wall s n) (nI (kmk s n 0)) (k + 1) _ (nI N) s = _
    rw [fX12_kin_L65, gd.g68, hsh, if_neg (nI_nlt (Nat.le_refl N) (by omega))]
end KIN
theorem al_kin (a1 : Int32) : Alike (fX11_kin a1) (fX12_kin a1) := by
  intro s hI
  obtain ⟨nb, n, nq, nm, nd, ga, gb, gc, gd, ge, gf, gg, gh, gi, gj⟩ := id hI
  have h7 := gd.ln
  have hN := p7 h7
  have hN0 := p0 n
  unfold fX11_kin fX12_kin
  by_cases h : a1 < 0 ∨ 99 < a1
  · exact ⟨-1, s, s, by rw [within_f h, bnd_some, if_pos rfl], by rw [in_eq, within_f h, bnd_some, if_pos rfl], hI⟩
  · have h1 : ¬ a1 < 0 := fun z => h (Or.inl z)
    have h2 : ¬ 99 < a1 := fun z => h (Or.inr z)
    have ha : fX0_weighAll (nI (2 ^ n - 1)) s = some (wall s n, s) := by
      rw [weighAll_ok gd (by omega), ← ws_all]
      rfl
    have hks : fX0_kinSet 1 s = some (nI (kmk s n 1), s) := kinSet_ok gd 1
    have hcc : fq (kc s n a1 0) kt (2 ^ n) = fq (kc s n a1 1) kt (2 ^ n) := fq_cong (fun k _ => kc_sym gd a1 k)
    cases ho : fq (kc s n a1 1) kt (2 ^ n) with
    | none =>
      refine ⟨-9, s, s, ?_, ?_, hI⟩
      · rw [within_t h1 h2, bnd_some, if_neg one_ne, everybody_ok gd, bnd_some, ha, bnd_some, hks, bnd_some, kin1 gd, ho]
        rfl
      · rw [in_eq, within_t h1 h2, bnd_some, if_neg one_ne, weightAll_ok gd.g68 h7, bnd_some]
        show fX12_kin_L22 _ a1 (wall s n) FU 0 0 s = _
        rw [kin22 gd]
        show fX12_kin_L65 _ a1 (wall s n) _ FU (-9) 0 s = _
        rw [kin2 gd, hcc, ho]
        rfl
    | some m =>
      have hml := fq_lt _ _ ho
      have hp := pc8 m
      refine ⟨nI (pcN m), wI s 2 0 (nI m), wI (wI s 2 0 (nI m)) 68 2 (nI m), ?_, ?_, Inv_tell hI _⟩
      · rw [within_t h1 h2, bnd_some, if_neg one_ne, everybody_ok gd, bnd_some, ha, bnd_some, hks, bnd_some, kin1 gd, ho]
        show (if nI (pcN m) = -9 then _ else _) = _
        rw [if_neg (nI_ne9 (by omega))]
        rfl
      · have gd2 := Gd_told (nI m) gd
        have e1 : kc (wI s 2 0 (nI m)) n a1 0 = kc s n a1 0 := rfl
        rw [in_eq, within_t h1 h2, bnd_some, if_neg one_ne, weightAll_ok gd2.g68 h7, bnd_some, kin22 gd2]
        show fX12_kin_L65 _ a1 (wall (wI s 2 0 (nI m)) n) _ FU (-9) 0 _ = _
        rw [kin2 gd2, e1, hcc, ho]
        show (if nI m = -9 then _ else bnd (fX12_bits (nI m) _) _) = _
        rw [if_neg (nI_ne9 (by omega)), bits_ok (by omega), bnd_some, f_tells, bnd_some]
        rfl
