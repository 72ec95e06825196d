-- how large a list can be; worst, need
theorem bm {z : Int} (h1 : -1000000 ≤ z) (h2 : z ≤ 1000000) : z.bmod (2 ^ 32) = z := by
  apply Int.bmod_eq_of_le <;> omega
theorem addI {x y : Int32} (h1 : -500000 ≤ x.toInt ∧ x.toInt ≤ 500000) (h2 : -500000 ≤ y.toInt ∧ y.toInt ≤ 500000) : (x + y).toInt = x.toInt + y.toInt := by
  rw [Int32.toInt_add, bm (by omega) (by omega)]
theorem mom_tab : ∀ k, k < 6 → ∀ w, w < 10 → ∀ i, i < 19 → ∀ p, p < 3 → -200 ≤ ((if nI i - 9 < 0 then -1 else 1) * out3 (nI k) (nI i - 9) p * (if nI k = 2 ∨ nI k = 5 then 2 * nI w else nI w)).toInt ∧ ((if nI i - 9 < 0 then -1 else 1) * out3 (nI k) (nI i - 9) p * (if nI k = 2 ∨ nI k = 5 then 2 * nI w else nI w)).toInt ≤ 200 := by decide +kernel
section WST
variable {s : Mem} {nb n nm' : Nat}
theorem mom_small (gd : Gd s nb n) {g b p : Nat} (hg : g < n) (hb : b < nb) (hp : p < 3) : -200 ≤ (mom (s.1 75) (s.1 76) (s.1 77) g b p).toInt ∧ (mom (s.1 75) (s.1 76) (s.1 77) g b p).toInt ≤ 200 := by
  obtain ⟨k, hk, ek⟩ := gd.kds g hg
  obtain ⟨w, _, hw, ew⟩ := gd.wts g hg
  obtain ⟨x1, x2⟩ := gd.xs b hb
  obtain ⟨i, hi, ei⟩ : ∃ i : Nat, i < 19 ∧ s.1 75 b = nI i - 9 := by
    refine ⟨((s.1 75 b).toInt + 9).toNat, by omega, ?_⟩
    apply Int32.toInt_inj.mp
    rw [show (9 : Int32) = nI 9 from rfl, pk_sub_toInt (by omega) (by decide)]
    omega
  unfold mom wgh
  rw [ek, ew, ei]
  exact mom_tab k hk w (by omega) i hi p hp
theorem mo_small (gd : Gd s nb n) {g p : Nat} (hg : g < n) (hp : p < 3) : -200 ≤ (mo s p g).toInt ∧ (mo s p g).toInt ≤ 200 := by
  have h8 := gd.lb
  unfold mo
  rcases gd.sts g hg with h | ⟨b, hb, h⟩
  · rw [if_pos h]
    decide
  · rw [h, if_neg (nI_m9 (by omega)), ix_nI (by omega)]
    exact mom_small gd hg hb hp
theorem sum_small (gd : Gd s nb n) {p : Nat} (hp : p < 3) : ∀ j, j ≤ n → -200 * (j : Int) ≤ (sumI (mo s p) j).toInt ∧ (sumI (mo s p) j).toInt ≤ 200 * (j : Int)
  | 0, _ => by
    rw [sumI]
    decide
  | j + 1, hj => by
    have h7 := gd.ln
    have ih := sum_small gd hp j (by omega)
    have hm := mo_small gd (g := j) (by omega) hp
    rw [sumI, addI (by omega) (by omega)]
    omega
theorem Gd.rnb (g : Gd s nb n) : -200 ≤ (s.1 68 18).toInt ∧ (s.1 68 18).toInt ≤ 200 := g.2.2.2.2.2.2.2.2.2.2.2.2.2.2.2.1
theorem mv_small (gd : Gd s nb n) (gg : Gg s nm') {m : Nat} (hm : m < nm') : -1600 ≤ (mv s n m).toInt ∧ (mv s n m).toInt ≤ 1600 := by
  have h7 := gd.ln
  have h1 := sum_small gd (pv_ok gg hm).1 n (Nat.le_refl n)
  have h2 := gd.rnb
  unfold mv
  rw [addI (by omega) (by omega)]
  omega
theorem ab_small {x : Int32} (h1 : -1000000 ≤ x.toInt) (h2 : x.toInt ≤ 1000000) : 0 ≤ (ab x).toInt ∧ (ab x).toInt ≤ 1000000 := by
  have e0 : (0 : Int32).toInt = 0 := by decide
  rw [ab_eq]
  by_cases h : x < 0
  · have h3 := Int32.lt_iff_toInt_lt.mp h
    rw [if_pos h, Int32.toInt_sub, e0, bm (by omega) (by omega)]
    omega
  · have h3 : ¬ x.toInt < (0 : Int32).toInt := fun z => h (Int32.lt_iff_toInt_lt.mpr z)
    rw [if_neg h]
    omega
/-- the first of the greatest -/
def am (f : Nat → Int32) : Nat → Nat
  | 0 => 0
  | j + 1 => if f (am f j) < f j then j else am f j
theorem am_lt (f : Nat → Int32) {N : Nat} (hN : 0 < N) : ∀ j, j ≤ N → am f j < N
  | 0, _ => hN
  | j + 1, h => by
    rw [am]
    have := am_lt f hN j (by omega)
    split <;> omega
def sz (s : Mem) (n m : Nat) : Int32 := ab (mv s n m)
theorem sizeIn_ok (gd : Gd s nb n) (ge : Ge s nb n) (gg : Gg s nm') {m : Nat} (hm : m < nm') : fX11_sizeIn (nI m) s = some (sz s n m, s) := by
  unfold fX11_sizeIn
  rw [postureIn_ok gg hm, bnd_some, cmin_ok gd ge gg hm, bnd_some]
  rfl
theorem worst1 (gd : Gd s nb n) (ge : Ge s nb n) (gg : Gg s nm') : fX11_worstMinute s = some (nI (am (sz s n) nm'), s) := by
  have h40 := gg.2.1
  have h1 := gg.1
  unfold fX11_worstMinute
  have key := lp_run (fun k j => fX11_worstMinute_L4 (fun v7 s8 => some (v7, s8)) k (nI (am (sz s n) j)) (nI j) s) (some (nI (am (sz s n) nm'), s)) nm' ?_ ?_ (nm' - 1) 1 FU (by omega) (by unfold FU; omega)
  · have e : am (sz s n) 1 = 0 := by
      rw [am, am]
      split <;> rfl
    have key2 : fX11_worstMinute_L4 (fun v7 s8 => some (v7, s8)) FU (nI (am (sz s n) 1)) (nI 1) s = some (nI (am (sz s n) nm'), s) := key
    rw [e] at key2
    exact key2
  · intro j k hj
    show fX11_worstMinute_L4 _ (k + 1) _ (nI j) s = fX11_worstMinute_L4 _ k _ (nI (j + 1)) s
    rw [fX11_worstMinute_L4, gg.2.2.1, if_pos (nI_lt hj (by omega)), sizeIn_ok gd ge gg hj, bnd_some, sizeIn_ok gd ge gg (am_lt _ h1 j (by omega)), bnd_some, nI_1, am]
    by_cases h : sz s n (am (sz s n) j) < sz s n j
    · rw [if_pos h, if_pos h]
    · rw [if_neg h, if_neg h]
  · intro k
    show fX11_worstMinute_L4 _ (k + 1) _ (nI nm') s = _
    rw [fX11_worstMinute_L4, gg.2.2.1, if_neg (nI_nlt (Nat.le_refl _) (by omega))]
theorem wI_ov (s : Mem) (q j : Nat) (u v : Int32) : wI (wI s q j u) q j v = wI s q j v := by
  unfold wI
  congr 1
  funext a b
  by_cases h : a = q
  · by_cases h2 : b = j
    · simp [h, h2]
    · simp [h, h2]
  · simp [h]
theorem wI_id (s : Mem) (q j : Nat) : wI s q j (s.1 q j) = s := by
  unfold wI
  have e : (fun a b => if a = q then (if b = j then s.1 q j else s.1 a b) else s.1 a b) = s.1 := by
    funext a b
    by_cases h : a = q
    · by_cases h2 : b = j
      · simp [h, h2]
      · simp [h, h2]
    · simp [h]
  exact congrArg (fun z => (z, s.2)) e
end WST
