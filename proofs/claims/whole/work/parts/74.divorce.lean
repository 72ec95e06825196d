-- divorce, kin
theorem nI_prd (a : Nat) : nI (a + 1) + (-1) = nI a := by
  rw [← nI_1, Int32.add_assoc, show (1 : Int32) + (-1) = 0 from by decide, Int32.add_zero]
theorem p7 {n : Nat} (h : n ≤ 7) : 2 ^ n ≤ 128 := (Nat.pow_le_pow_right (by decide) h : 2 ^ n ≤ 2 ^ 7)
theorem p0 (n : Nat) : 0 < 2 ^ n := Nat.pow_pos (by decide)
theorem b_shl : ∀ n, n ≤ 7 → (1 : Int32) <<< (nI n &&& 31) = nI (2 ^ n) := by decide +kernel
/-- the least of those not below 0, the first of all -/
def Bst (f : Nat → Int) (lo hi m : Nat) : Prop := lo ≤ m ∧ m < hi ∧ 0 ≤ f m ∧ ∀ i, lo ≤ i → i < hi → 0 ≤ f i → f m < f i ∨ (f m = f i ∧ m ≤ i)
theorem Bst.uq {f : Nat → Int} {lo hi m m' : Nat} (h : Bst f lo hi m) (h' : Bst f lo hi m') : m = m' := by
  obtain ⟨a1, a2, a3, a4⟩ := h
  obtain ⟨b1, b2, b3, b4⟩ := h'
  have c1 := a4 m' b1 b2 b3
  have c2 := b4 m a1 a2 a3
  omega
theorem Bst.dn {f : Nat → Int} {lo hi m : Nat} (h : Bst f (lo + 1) hi m) : (f lo < 0 ∨ f m < f lo → Bst f lo hi m) ∧ (0 ≤ f lo → f lo ≤ f m → Bst f lo hi lo) := by
  obtain ⟨a1, a2, a3, a4⟩ := h
  refine ⟨fun c => ⟨by omega, a2, a3, fun i h1 h2 h3 => ?_⟩, fun c1 c2 => ⟨Nat.le_refl _, by omega, c1, fun i h1 h2 h3 => ?_⟩⟩
  · by_cases e : i = lo
    · subst e
      omega
    · exact a4 i (by omega) h2 h3
  · by_cases e : i = lo
    · subst e
      omega
    · have := a4 i (by omega) h2 h3
      omega
theorem Bst.up {f : Nat → Int} {hi m : Nat} (h : Bst f 0 hi m) : (f hi < 0 ∨ f m ≤ f hi → Bst f 0 (hi + 1) m) ∧ (0 ≤ f hi → f hi < f m → Bst f 0 (hi + 1) hi) := by
  obtain ⟨a1, a2, a3, a4⟩ := h
  refine ⟨fun c => ⟨by omega, by omega, a3, fun i h1 h2 h3 => ?_⟩, fun c1 c2 => ⟨by omega, by omega, c1, fun i h1 h2 h3 => ?_⟩⟩
  · by_cases e : i = hi
    · subst e
      omega
    · exact a4 i h1 (by omega) h3
  · by_cases e : i = hi
    · subst e
      omega
    · have := a4 i h1 (by omega) h3
      omega
section DIV
variable {s : Mem} {nb n : Nat}
/-- what a set weighs -/
def ws (s : Mem) (n m : Nat) : Int32 := sumI (fun h => if m.testBit h then wgh (s.1 76) (s.1 77) h else 0) n
def wall (s : Mem) (n : Nat) : Int32 := sumI (wgh (s.1 76) (s.1 77)) n
def wd (s : Mem) (n m : Nat) : Int32 := 2 * ws s n m - wall s n
def wdI (s : Mem) (n m : Nat) : Int := (wd s n m).toInt
theorem ws_all : ws s n (2 ^ n - 1) = wall s n := sumI_cong (fun k hk => by
  rw [Nat.testBit_two_pow_sub_one, decide_eq_true hk, if_pos rfl])
theorem wd_all : wd s n (2 ^ n - 1) = wall s n := by
  unfold wd
  rw [ws_all, Int32.two_mul, Int32.add_sub_cancel]
theorem wgh_tab : ∀ k, k < 6 → ∀ w, w < 10 → 0 ≤ (if nI k = 2 ∨ nI k = 5 then 2 * nI w else nI w).toInt ∧ (if nI k = 2 ∨ nI k = 5 then 2 * nI w else nI w).toInt ≤ 18 := by decide +kernel
theorem wgh_small (gd : Gd s nb n) {g : Nat} (hg : g < n) : 0 ≤ (wgh (s.1 76) (s.1 77) g).toInt ∧ (wgh (s.1 76) (s.1 77) g).toInt ≤ 18 := by
  obtain ⟨k, hk, ek⟩ := gd.kds g hg
  obtain ⟨w, _, hw, ew⟩ := gd.wts g hg
  unfold wgh
  rw [ek, ew]
  exact wgh_tab k hk w (by omega)
theorem wsum_small (gd : Gd s nb n) (m : Nat) : ∀ j, j ≤ n → 0 ≤ (sumI (fun h => if m.testBit h then wgh (s.1 76) (s.1 77) h else 0) j).toInt ∧ (sumI (fun h => if m.testBit h then wgh (s.1 76) (s.1 77) h else 0) j).toInt ≤ 18 * (j : Int)
  | 0, _ => by
    rw [sumI]
    decide
  | j + 1, hj => by
    have h7 := gd.ln
    have ih := wsum_small gd m j (by omega)
    have hm := wgh_small gd (g := j) (by omega)
    have h2 : 0 ≤ ((if m.testBit j then wgh (s.1 76) (s.1 77) j else 0 : Int32)).toInt ∧ ((if m.testBit j then wgh (s.1 76) (s.1 77) j else 0 : Int32)).toInt ≤ 18 := by
      by_cases e : m.testBit j = true
      · rw [if_pos e]
        exact hm
      · rw [if_neg e]
        decide
    rw [sumI, addI (by omega) (by omega)]
    omega
theorem ws_small (gd : Gd s nb n) (m : Nat) : 0 ≤ (ws s n m).toInt ∧ (ws s n m).toInt ≤ 126 := by
  have h := wsum_small gd m n (Nat.le_refl n)
  have h7 := gd.ln
  unfold ws
  omega
theorem wall_small (gd : Gd s nb n) : 0 ≤ (wall s n).toInt ∧ (wall s n).toInt ≤ 126 := by
  have h := ws_small gd (2 ^ n - 1)
  rw [ws_all] at h
  exact h
def dI (N j : Nat) : Int32 := if j < N then nI (N - 1 - j) else -1
theorem dI_s {N j : Nat} (h : j < N) : nI (N - 1 - j) + (-1) = dI N (j + 1) := by
  unfold dI
  by_cases e : j + 1 < N
  · rw [if_pos e, show N - 1 - j = (N - 1 - (j + 1)) + 1 by omega, nI_prd]
  · rw [if_neg e, show N - 1 - j = 0 by omega]
    decide
theorem m1_neg : (-1 : Int32) < 0 := by decide
theorem lt0_iff (x : Int32) : x < 0 ↔ x.toInt < 0 := by
  rw [Int32.lt_iff_toInt_lt, show (0 : Int32).toInt = 0 from by decide]
theorem divorce1 (gd : Gd s nb n) (κ : Int32 → Int32 → Mem → Option (Int32 × Mem)) : ∃ m, Bst (wdI s n) 0 (2 ^ n) m ∧ fX11_divorce_L34 κ (wall s n) FU (wall s n) (nI (2 ^ n - 1)) (nI (2 ^ n - 1)) s = κ (wd s n m) (nI m) s := by
  have hN := p7 gd.ln
  have hN0 := p0 n
  have hA := wall_small gd
  generalize hNe : 2 ^ n = N at *
  have hall : wd s n (N - 1) = wall s n := by rw [← hNe]; exact wd_all
  have key := lp_inv0 (fun k j (x : Int32 × Int32) => fX11_divorce_L34 κ (wall s n) k x.1 x.2 (dI N j) s) (fun j x => ∃ m, Bst (wdI s n) (if j = 0 then N - 1 else N - j) N m ∧ x = (wd s n m, nI m)) N (wall s n, nI (N - 1)) ?_ ?_ (by omega)
  · obtain ⟨x', k', hx, hk⟩ := key
    obtain ⟨m, hm, rfl⟩ := hx
    rw [if_neg (by omega), Nat.sub_self] at hm
    refine ⟨m, hm, ?_⟩
    have e0 : dI N 0 = nI (N - 1) := if_pos hN0
    have eN : dI N N = -1 := if_neg (by omega)
    have hk2 : fX11_divorce_L34 κ (wall s n) FU (wall s n) (nI (N - 1)) (dI N 0) s = fX11_divorce_L34 κ (wall s n) (k' + 1) (wd s n m) (nI m) (dI N N) s := hk
    rw [e0, eN] at hk2
    rw [hk2, fX11_divorce_L34, if_pos m1_neg]
  · refine ⟨N - 1, ⟨Nat.le_refl _, by omega, ?_, fun i h1 h2 _ => ?_⟩, by rw [hall]⟩
    · unfold wdI
      rw [hall]
      exact hA.1
    · have h1' : N - 1 ≤ i := h1
      have : i = N - 1 := by omega
      subst this
      exact Or.inr ⟨rfl, Nat.le_refl _⟩
  · rintro j k x hj ⟨m, hm, rfl⟩
    show ∃ x' : Int32 × Int32, _ ∧ fX11_divorce_L34 κ (wall s n) (k + 1) (wd s n m) (nI m) (dI N j) s = fX11_divorce_L34 κ (wall s n) k x'.1 x'.2 (dI N (j + 1)) s
    have ej : dI N j = nI (N - 1 - j) := if_pos hj
    rw [ej, fX11_divorce_L34, if_neg (nI_nonneg (by omega)), weighAll_ok gd (show N - 1 - j < 128 by omega), bnd_some, nm_eq, dI_s hj]
    show ∃ x', _ ∧ (if wd s n (N - 1 - j) < 0 then _ else if wd s n m < wd s n (N - 1 - j) then _ else _) = _
    have hlt : wd s n m < wd s n (N - 1 - j) ↔ wdI s n m < wdI s n (N - 1 - j) := Int32.lt_iff_toInt_lt
    have h0 : wd s n (N - 1 - j) < 0 ↔ wdI s n (N - 1 - j) < 0 := lt0_iff _
    by_cases hj0 : j = 0
    · subst hj0
      rw [if_pos rfl] at hm
      have em : m = N - 1 := by
        have := hm.1
        have := hm.2.1
        omega
      subst em
      rw [show N - 1 - 0 = N - 1 from rfl] at *
      have hp := hm.2.2.1
      refine ⟨(wd s n (N - 1), nI (N - 1)), ⟨N - 1, ?_, rfl⟩, ?_⟩
      · rw [if_neg (by omega)]
        exact hm
      · rw [if_neg (fun z => by have := h0.mp z; omega), if_neg (fun z => by have := hlt.mp z; omega)]
        rfl
    · rw [if_neg hj0, show N - j = (N - 1 - j) + 1 by omega] at hm
      have hd := hm.dn
      by_cases c1 : wd s n (N - 1 - j) < 0
      · rw [if_pos c1]
        refine ⟨(wd s n m, nI m), ⟨m, ?_, rfl⟩, rfl⟩
        rw [if_neg (by omega), show N - (j + 1) = N - 1 - j by omega]
        exact hd.1 (Or.inl (h0.mp c1))
      · rw [if_neg c1]
        by_cases c2 : wd s n m < wd s n (N - 1 - j)
        · rw [if_pos c2]
          refine ⟨(wd s n m, nI m), ⟨m, ?_, rfl⟩, rfl⟩
          rw [if_neg (by omega), show N - (j + 1) = N - 1 - j by omega]
          exact hd.1 (Or.inr (hlt.mp c2))
        · rw [if_neg c2]
          refine ⟨(wd s n (N - 1 - j), nI (N - 1 - j)), ⟨N - 1 - j, ?_, rfl⟩, rfl⟩
          rw [if_neg (by omega), show N - (j + 1) = N - 1 - j by omega]
          exact hd.2 (Int.not_lt.mp (fun z => c1 (h0.mpr z))) (Int.not_lt.mp (fun z => c2 (hlt.mpr z)))
theorem divorce2 (gd : Gd s nb n) (κ : Int32 → Int32 → Mem → Option (Int32 × Mem)) : ∃ m, Bst (wdI s n) 0 (2 ^ n) m ∧ fX12_divorce_L12 κ (wall s n) FU 0 (-1) 0 s = κ (nI m) (wd s n m) s := by
  have hN := p7 gd.ln
  have h7 := gd.ln
  have hN0 := p0 n
  have hA := wall_small gd
  have hsh := b_shl n h7
  generalize hNe : 2 ^ n = N at *
  have hall : wd s n (N - 1) = wall s n := by rw [← hNe]; exact wd_all
  have key := lp_inv0 (fun k j (x : Int32 × Int32) => fX12_divorce_L12 κ (wall s n) k x.1 x.2 (nI j) s) (fun j x => (x = (0, -1) ∧ ∀ i, i < j → wdI s n i < 0) ∨ ∃ m, Bst (wdI s n) 0 j m ∧ x = (nI m, wd s n m)) N (0, -1) (Or.inl ⟨rfl, fun i hi => absurd hi (by omega)⟩) ?_ (by omega)
  · obtain ⟨x', k', hx, hk⟩ := key
    rcases hx with ⟨_, h⟩ | ⟨m, hm, rfl⟩
    · have := h (N - 1) (by omega)
      unfold wdI at this
      rw [hall] at this
      omega
    · refine ⟨m, hm, ?_⟩
      have hk2 : fX12_divorce_L12 κ (wall s n) FU 0 (-1) 0 s = fX12_divorce_L12 κ (wall s n) (k' + 1) (nI m) (wd s n m) (nI N) s := hk
      rw [hk2, fX12_divorce_L12, gd.g68, hsh, if_neg (nI_nlt (Nat.le_refl N) (by omega))]
  · intro j k x hj hx
    show ∃ x' : Int32 × Int32, _ ∧ fX12_divorce_L12 κ (wall s n) (k + 1) x.1 x.2 (nI j) s = fX12_divorce_L12 κ (wall s n) k x'.1 x'.2 (nI (j + 1)) s
    rw [fX12_divorce_L12, gd.g68, hsh, if_pos (nI_lt hj (by omega)), mweightOf_ok gd.g68 h7 (show j < 128 by omega), bnd_some, nm_eq, nI_1]
    show ∃ x', _ ∧ (if wd s n j < 0 then _ else if x.2 < 0 then _ else if wd s n j < x.2 then _ else _) = _
    have h0 : wd s n j < 0 ↔ wdI s n j < 0 := lt0_iff _
    rcases hx with ⟨rfl, h⟩ | ⟨m, hm, rfl⟩
    · by_cases c1 : wd s n j < 0
      · rw [if_pos c1]
        refine ⟨(0, -1), Or.inl ⟨rfl, fun i hi => ?_⟩, rfl⟩
        by_cases e : i = j
        · subst e
          exact h0.mp c1
        · exact h i (by omega)
      · rw [if_neg c1, if_pos m1_neg]
        refine ⟨(nI j, wd s n j), Or.inr ⟨j, ⟨by omega, by omega, Int.not_lt.mp (fun z => c1 (h0.mpr z)), fun i h1 h2 h3 => ?_⟩, rfl⟩, rfl⟩
        by_cases e : i = j
        · subst e
          exact Or.inr ⟨rfl, Nat.le_refl _⟩
        · have := h i (by omega)
          omega
    · have hu := hm.up
      have hm0 := hm.2.2.1
      have hlt : wd s n j < wd s n m ↔ wdI s n j < wdI s n m := Int32.lt_iff_toInt_lt
      by_cases c1 : wd s n j < 0
      · rw [if_pos c1]
        exact ⟨(nI m, wd s n m), Or.inr ⟨m, hu.1 (Or.inl (h0.mp c1)), rfl⟩, rfl⟩
      · rw [if_neg c1]
        show ∃ x', _ ∧ (if wd s n m < 0 then _ else if wd s n j < wd s n m then _ else _) = _
        rw [if_neg (fun z => by have := (lt0_iff _).mp z; unfold wdI at hm0; omega)]
        by_cases c2 : wd s n j < wd s n m
        · rw [if_pos c2]
          exact ⟨(nI j, wd s n j), Or.inr ⟨j, hu.2 (Int.not_lt.mp (fun z => c1 (h0.mpr z))) (hlt.mp c2), rfl⟩, rfl⟩
        · rw [if_neg c2]
          exact ⟨(nI m, wd s n m), Or.inr ⟨m, hu.1 (Or.inr (Int.not_lt.mp (fun z => c2 (hlt.mpr z)))), rfl⟩, rfl⟩
end DIV
theorem al_divorce : Alike fX11_divorce fX12_divorce := by
  intro s hI
  obtain ⟨nb, n, nq, nm, nd, ga, gb, gc, gd, ge, gf, gg, gh, gi, gj⟩ := id hI
  have h7 := gd.ln
  have hN := p7 h7
  have hN0 := p0 n
  have ha : fX0_weighAll (nI (2 ^ n - 1)) s = some (wall s n, s) := by
    rw [weighAll_ok gd (by omega), ← ws_all]
    rfl
  obtain ⟨m, hm, e1⟩ := divorce1 gd (fun v15 v16 s17 => bnd (fX10_tell v16 s17) (fun r18 s19 => some (v15, s19)))
  have gd2 := Gd_told (nI m) gd
  obtain ⟨m2, hm2, e2⟩ := divorce2 gd2 (fun v10 v11 s12 => bnd (fX12_tells v10 v11 s12) (fun r13 s14 => some (r13, s14)))
  have hw : wdI (wI s 2 0 (nI m)) n = wdI s n := rfl
  rw [hw] at hm2
  have e := hm.uq hm2
  subst e
  unfold fX11_divorce fX12_divorce
  refine ⟨wd s n m, wI s 2 0 (nI m), wI (wI s 2 0 (nI m)) 68 2 (nI m), ?_, ?_, Inv_tell hI _⟩
  · rw [everybody_ok gd, bnd_some, ha, bnd_some, everybody_ok gd, bnd_some, everybody_ok gd, bnd_some, e1, f_tell, bnd_some]
  · rw [weightAll_ok gd2.g68 h7, bnd_some]
    show fX12_divorce_L12 _ (wall (wI s 2 0 (nI m)) n) FU 0 (-1) 0 _ = _
    rw [e2, f_tells, bnd_some]
    rfl
