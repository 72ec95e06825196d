-- the reference's cells alone; far
theorem uq_s (f : Nat → Int32) (g : Nat) (v : Int32) : upd f g v g = v := if_pos rfl
theorem uq_n (f : Nat → Int32) {g h : Nat} (v : Int32) (e : h ≠ g) : upd f g v h = f h := if_neg e
theorem wI_79 (s : Mem) (g : Nat) (v : Int32) : (wI s 79 g v).1 79 = upd (s.1 79) g v := rfl
theorem sumI_upd (F : Nat → Int32) (g : Nat) (v : Int32) : ∀ n, g < n → sumI (upd F g v) n = sumI F n - F g + v
  | 0, h => absurd h (by omega)
  | n + 1, h => by
    by_cases e : g = n
    · subst e
      rw [sumI, sumI, uq_s, sumI_cong (f := upd F g v) (g := F) (fun k hk => uq_n F v (by omega)), Int32.add_sub_cancel]
    · rw [sumI, sumI, uq_n F v (fun z => e z.symm), sumI_upd F g v n (by omega)]
      simp only [Int32.sub_eq_add_neg]
      ac_rfl
/-- a loop with a state that is only known to keep something -/
theorem lp_inv {R X : Type} (L : Nat → Nat → X → R) (Iv : Nat → X → Prop) (n : Nat) (hs : ∀ j k x, j < n → Iv j x → ∃ x', Iv (j + 1) x' ∧ L (k + 1) j x = L k (j + 1) x') : ∀ d j k x, j + d = n → d < k → Iv j x → ∃ x' k', Iv n x' ∧ L k j x = L (k' + 1) n x'
  | 0, j, k, x, h1, h2, h3 => by
    have e : j = n := by omega
    subst e
    exact ⟨x, k - 1, h3, by rw [show k - 1 + 1 = k by omega]⟩
  | d + 1, j, k, x, h1, h2, h3 => by
    obtain ⟨k', rfl⟩ : ∃ k', k = k' + 1 := ⟨k - 1, by omega⟩
    obtain ⟨x', h4, h5⟩ := hs j k' x (by omega) h3
    rw [h5]
    exact lp_inv L Iv n hs d (j + 1) k' x' (by omega) (by omega) h4
theorem lp_inv0 {R X : Type} (L : Nat → Nat → X → R) (Iv : Nat → X → Prop) (n : Nat) (x : X) (h0 : Iv 0 x) (hs : ∀ j k x, j < n → Iv j x → ∃ x', Iv (j + 1) x' ∧ L (k + 1) j x = L k (j + 1) x') (hn : n < 100000) : ∃ x' k', Iv n x' ∧ L FU 0 x = L (k' + 1) n x' := lp_inv L Iv n hs n 0 FU x (by omega) hn h0
section FAR
variable {s : Mem} {nb n : Nat}
def Rd (s : Mem) (nb n : Nat) : Prop := nb ≤ 8 ∧ n ≤ 7 ∧ s.1 68 10 = nI nb ∧ s.1 68 12 = nI n ∧ ∀ g, g < n → StOk nb (s.1 79 g)
theorem Gd.rd (g : Gd s nb n) : Rd s nb n := ⟨g.lb, g.ln, g.b68, g.g68, g.sts⟩
theorem Rd.up (r : Rd s nb n) {g : Nat} {v : Int32} (hv : StOk nb v) : Rd (wI s 79 g v) nb n := by
  refine ⟨r.1, r.2.1, r.2.2.1, r.2.2.2.1, fun h hh => ?_⟩
  rw [wI_79]
  by_cases e : h = g
  · rw [e, uq_s]
    exact hv
  · rw [uq_n _ _ e]
    exact r.2.2.2.2 h hh
theorem rlist_ok (rd : Rd s nb n) {p : Nat} (hp : p < 3) (r : Int32) : fX12_listOf (nI p) r s = some (r + sumI (mo s p) n, s) := by
  obtain ⟨h8, h7, hb, hg, hst⟩ := rd
  unfold fX12_listOf
  have key := lp0 (fun k j => fX12_listOf_L5 (fun v9 s10 => some (v9, s10)) (nI p) k (r + sumI (mo s p) j) (nI j) s) (some (r + sumI (mo s p) n, s)) n ?_ ?_ (by omega)
  · rw [← key]
    show _ = fX12_listOf_L5 _ (nI p) FU (r + 0) (nI 0) s
    rw [Int32.add_zero]
    rfl
  · intro j k hj
    show fX12_listOf_L5 _ (nI p) (k + 1) _ (nI j) s = fX12_listOf_L5 _ (nI p) k _ (nI (j + 1)) s
    rw [fX12_listOf_L5, hg, if_pos (nI_lt hj (by omega)), if_pos (inb_ok (by omega) (by decide)), if_pos (inb_ok (by omega) (by decide)), ix_nI (by omega), sumI]
    unfold mo
    rcases hst j hj with h | ⟨b, hb, h⟩
    · rw [if_pos h, if_pos h, nm_eq, Int32.add_zero, Int32.add_zero, nI_1]
    · rw [h, if_neg (nI_m9 (by omega)), if_neg (nI_m9 (by omega)), mmom_ok (by omega) (by omega) hp, bnd_some, nm_eq, nI_1, ix_nI (by omega), Int32.add_assoc]
  · intro k
    show fX12_listOf_L5 _ (nI p) (k + 1) _ (nI n) s = _
    rw [fX12_listOf_L5, hg, if_neg (nI_nlt (Nat.le_refl n) (by omega))]
theorem mo_up {g b p : Nat} (hb : b < 8) : mo (wI s 79 g (nI b)) p = upd (mo s p) g (mom (s.1 75) (s.1 76) (s.1 77) g b p) := by
  funext h
  unfold mo
  rw [wI_79, show (wI s 79 g (nI b)).1 75 = s.1 75 from rfl, show (wI s 79 g (nI b)).1 76 = s.1 76 from rfl, show (wI s 79 g (nI b)).1 77 = s.1 77 from rfl]
  by_cases e : h = g
  · rw [e, uq_s, uq_s, if_neg (nI_m9 (by omega)), ix_nI (by omega)]
  · rw [uq_n _ _ e, uq_n _ _ e]
theorem momentAt_ok (gd : Gd s nb n) (ge : Ge s nb n) {g p : Nat} (hg : g < n) (hp : p < 3) : fX0_momentOf (nI g) (s.1 79 g) (nI p) s = some (mo s p g, s) := by
  have h8 := gd.lb
  unfold mo
  rcases gd.sts g hg with h | ⟨b, hb, h⟩
  · rw [if_pos h, h, momentOf_no gd hg]
  · rw [h, if_neg (nI_m9 (by omega)), momentOf_ok gd ge hg hb hp, ix_nI (by omega)]
/-- the first of the greatest among those that fit -/
def fr (c : Nat → Bool) (v : Nat → Int32) : Nat → Option Nat
  | 0 => none
  | j + 1 => match fr c v j with
    | none => if c j then some j else none
    | some m => if c j && decide (v m < v j) then some j else some m
theorem fr_n {c : Nat → Bool} {v : Nat → Int32} {j : Nat} (h : fr c v j = none) : fr c v (j + 1) = if c j then some j else none := by simp only [fr, h]
theorem fr_s {c : Nat → Bool} {v : Nat → Int32} {j m : Nat} (h : fr c v j = some m) : fr c v (j + 1) = if c j && decide (v m < v j) then some j else some m := by simp only [fr, h]
def oI (o : Option Nat) (d : Int32) (v : Nat → Int32) : Int32 := match o with
  | none => d
  | some m => v m
def frC (s : Mem) (n g p b : Nat) : Bool := decide (lev s ((s.1 68 18 + sumI (mo s p) n) - mo s p g + mom (s.1 75) (s.1 76) (s.1 77) g b p) ≠ 0)
def frV (s : Mem) (b : Nat) : Int32 := ab (s.1 75 b)
theorem frV_pos (gd : Gd s nb n) {b : Nat} (hb : b < nb) : 0 ≤ (frV s b).toInt := (ab_small (by have := gd.xs b hb; omega) (by have := gd.xs b hb; omega)).1
theorem m9_ltv {x : Int32} (h : 0 ≤ x.toInt) : -9 < x := by
  apply Int32.lt_iff_toInt_lt.mpr
  have e : (-9 : Int32).toInt = -9 := by decide
  omega
theorem far1 (gd : Gd s nb n) (ge : Ge s nb n) {g p : Nat} (hg : g < n) (hp : p < 3) (κ : Int32 → Int32 → Mem → Option (Int32 × Mem)) : fX11_far_L58 κ (nI g) (nI p) ((s.1 68 18 + sumI (mo s p) n) - mo s p g) FU (-9) (-9) 0 s = κ (oI (fr (frC s n g p) (frV s) nb) (-9) (frV s)) (oI (fr (frC s n g p) (frV s) nb) (-9) nI) s := by
  have h8 := gd.lb
  have key := lp0 (fun k j => fX11_far_L58 κ (nI g) (nI p) ((s.1 68 18 + sumI (mo s p) n) - mo s p g) k (oI (fr (frC s n g p) (frV s) j) (-9) (frV s)) (oI (fr (frC s n g p) (frV s) j) (-9) nI) (nI j) s) (κ (oI (fr (frC s n g p) (frV s) nb) (-9) (frV s)) (oI (fr (frC s n g p) (frV s) nb) (-9) nI) s) nb ?_ ?_ (by omega)
  · exact key
  · intro j k hj
    show fX11_far_L58 κ (nI g) (nI p) _ (k + 1) _ _ (nI j) s = fX11_far_L58 κ (nI g) (nI p) _ k _ _ (nI (j + 1)) s
    rw [fX11_far_L58, gd.b6, if_pos (nI_lt hj (by omega)), xOf_ok gd hj, bnd_some, nm_eq, momentOf_ok gd ge hg hj hp, bnd_some, isLevel_ok gd, bnd_some, nI_1]
    show (if _ < frV s j then _ else _) = _
    cases hm : fr (frC s n g p) (frV s) j with
    | none =>
      rw [fr_n hm]
      show (if -9 < frV s j then _ else _) = _
      rw [if_pos (m9_ltv (frV_pos gd hj))]
      by_cases hl : lev s ((s.1 68 18 + sumI (mo s p) n) - mo s p g + mom (s.1 75) (s.1 76) (s.1 77) g j p) = 0
      · have e : frC s n g p j = false := decide_eq_false (fun z => z hl)
        rw [if_pos hl, e]
        rfl
      · have e : frC s n g p j = true := decide_eq_true hl
        rw [if_neg hl, e]
        rfl
    | some m =>
      rw [fr_s hm]
      show (if frV s m < frV s j then _ else _) = _
      by_cases hl : lev s ((s.1 68 18 + sumI (mo s p) n) - mo s p g + mom (s.1 75) (s.1 76) (s.1 77) g j p) = 0
      · have e : frC s n g p j = false := decide_eq_false (fun z => z hl)
        rw [if_pos hl, e, ite_self]
        rfl
      · have e : frC s n g p j = true := decide_eq_true hl
        rw [if_neg hl, e, Bool.true_and]
        by_cases h : frV s m < frV s j
        · rw [if_pos h, if_pos (decide_eq_true h)]
          rfl
        · rw [if_neg h, if_neg (by rw [decide_eq_false h]; decide)]
  · intro k
    show fX11_far_L58 κ (nI g) (nI p) _ (k + 1) _ _ (nI nb) s = _
    rw [fX11_far_L58, gd.b6, if_neg (nI_nlt (Nat.le_refl nb) (by omega))]
def st79 (s : Mem) (g : Nat) : Nat → Mem
  | 0 => s
  | j + 1 => wI s 79 g (nI j)
theorem st79_w (s : Mem) (g j : Nat) (v : Int32) : wI (st79 s g j) 79 g v = wI s 79 g v := by
  cases j with
  | zero => rfl
  | succ j => exact wI_ov s 79 g _ _
theorem far2 (rd : Rd s nb n) (hx : ∀ b, b < nb → 0 ≤ (frV s b).toInt) {g p : Nat} (hg : g < n) (hp : p < 3) (y : Int32) (κ : Int32 → Int32 → Mem → Option (Int32 × Mem)) : fX12_far_L36 κ (nI g) (nI p) y FU (-9) (-1) 0 s = κ (oI (fr (frC s n g p) (frV s) nb) (-9) nI) (oI (fr (frC s n g p) (frV s) nb) (-1) (frV s)) (st79 s g nb) := by
  have h8 := rd.1
  have h7 := rd.2.1
  have key := lp0 (fun k j => fX12_far_L36 κ (nI g) (nI p) y k (oI (fr (frC s n g p) (frV s) j) (-9) nI) (oI (fr (frC s n g p) (frV s) j) (-1) (frV s)) (nI j) (st79 s g j)) (κ (oI (fr (frC s n g p) (frV s) nb) (-9) nI) (oI (fr (frC s n g p) (frV s) nb) (-1) (frV s)) (st79 s g nb)) nb ?_ ?_ (by omega)
  · exact key
  · intro j k hj
    show fX12_far_L36 κ (nI g) (nI p) y (k + 1) _ _ (nI j) (st79 s g j) = fX12_far_L36 κ (nI g) (nI p) y k _ _ (nI (j + 1)) (wI s 79 g (nI j))
    have e10 : (st79 s g j).1 68 10 = nI nb := by
      cases j with
      | zero => exact rd.2.2.1
      | succ j => exact rd.2.2.1
    have e18 : (wI s 79 g (nI j)).1 68 18 = s.1 68 18 := rfl
    have e75 : (wI s 79 g (nI j)).1 75 = s.1 75 := rfl
    have hsum : s.1 68 18 + sumI (mo (wI s 79 g (nI j)) p) n = (s.1 68 18 + sumI (mo s p) n) - mo s p g + mom (s.1 75) (s.1 76) (s.1 77) g j p := by
      rw [mo_up (by omega), sumI_upd _ _ _ n hg]
      simp only [Int32.sub_eq_add_neg]
      ac_rfl
    rw [fX12_far_L36, e10, if_pos (nI_lt hj (by omega)), if_pos (inb_ok (by omega) (by decide)), ix_nI (by omega), st79_w, e18, rlist_ok (rd.up (Or.inr ⟨j, hj, rfl⟩)) hp, bnd_some, hsum, mLevel_ok, bnd_some, if_pos (inb_ok (by omega) (by decide)), ix_nI (by omega), sizeOf_ok, bnd_some, sizeOf_ok, bnd_some, e75, ← ab_eq, nI_1]
    show (if lev s ((s.1 68 18 + sumI (mo s p) n) - mo s p g + mom (s.1 75) (s.1 76) (s.1 77) g j p) = 0 then _ else if _ < frV s j then _ else _) = _
    cases hm : fr (frC s n g p) (frV s) j with
    | none =>
      rw [fr_n hm]
      by_cases hl : lev s ((s.1 68 18 + sumI (mo s p) n) - mo s p g + mom (s.1 75) (s.1 76) (s.1 77) g j p) = 0
      · have e : frC s n g p j = false := decide_eq_false (fun z => z hl)
        rw [if_pos hl, e]
        rfl
      · have e : frC s n g p j = true := decide_eq_true hl
        rw [if_neg hl, e]
        show (if -1 < frV s j then _ else _) = _
        rw [if_pos (m1_lt (hx j hj))]
        rw [if_pos (inb_ok (by omega) (by decide))]
        rfl
    | some m =>
      rw [fr_s hm]
      by_cases hl : lev s ((s.1 68 18 + sumI (mo s p) n) - mo s p g + mom (s.1 75) (s.1 76) (s.1 77) g j p) = 0
      · have e : frC s n g p j = false := decide_eq_false (fun z => z hl)
        rw [if_pos hl, e]
        rfl
      · have e : frC s n g p j = true := decide_eq_true hl
        rw [if_neg hl, e, Bool.true_and]
        show (if frV s m < frV s j then _ else _) = _
        by_cases h : frV s m < frV s j
        · rw [if_pos h, if_pos (decide_eq_true h)]
          rw [if_pos (inb_ok (by omega) (by decide))]
          rfl
        · rw [if_neg h, if_neg (by rw [decide_eq_false h]; decide)]
  · intro k
    show fX12_far_L36 κ (nI g) (nI p) y (k + 1) _ _ (nI nb) (st79 s g nb) = _
    have e10 : (st79 s g nb).1 68 10 = nI nb := by
      cases nb with
      | zero => exact rd.2.2.1
      | succ j => exact rd.2.2.1
    rw [fX12_far_L36, e10, if_neg (nI_nlt (Nat.le_refl nb) (by omega))]
end FAR
theorem al_far (a1 a2 : Int32) : Alike (fX11_far a1 a2) (fX12_far a1 a2) := by
  intro s hI
  obtain ⟨nb, n, nq, nm, nd, ga, gb, gc, gd, ge, gf, gg, gh, gi, gj⟩ := id hI
  have h7 := gd.ln
  have h8 := gd.lb
  unfold fX11_far fX12_far
  rcases pl_cases a1 n (by omega) with hb | ⟨g, hg, rfl⟩
  · exact ⟨-1, s, s, by rw [isG_f gd.g6 hb, bnd_some, if_pos rfl], by rw [mG_f gd.g68 (by omega) hb, bnd_some, if_pos rfl], hI⟩
  · by_cases h : a2 < 0 ∨ 2 < a2
    · exact ⟨-1, s, s, by rw [isG_t gd.g6 (by omega) hg, bnd_some, if_neg one_ne, posture_f h, bnd_some, if_pos rfl], by rw [mG_t gd.g68 (by omega) hg, bnd_some, if_neg one_ne, in_eq, within_f h, bnd_some, if_pos rfl], hI⟩
    · have h1 : ¬ a2 < 0 := fun z => h (Or.inl z)
      have h2 : ¬ 2 < a2 := fun z => h (Or.inr z)
      obtain ⟨p, hp, rfl⟩ := rng_nI (n := 2) (by decide) h1 h2
      have c1 := far1 gd ge hg (p := p) (by omega) (fun v24 v25 s26 => if v25 = (-9) then some (v24, s26) else bnd (fX10_tell v25 s26) (fun r28 s29 => some (v24, s29)))
      have hc : ∀ o, o = fr (frC s n g p) (frV s) nb → ∃ (r : Int32) (s1 s2 : Mem), (if oI o (-9) nI = (-9) then some (oI o (-9) (frV s), s) else bnd (fX10_tell (oI o (-9) nI) s) (fun r28 s29 => some (oI o (-9) (frV s), s29))) = some (r, s1) ∧ (Rd s1 nb n ∧ (∀ b, b < nb → 0 ≤ (frV s1 b).toInt) ∧ s1.1 68 12 = nI n ∧ fr (frC s1 n g p) (frV s1) nb = o ∧ s1.1 79 = s.1 79 ∧ frV s1 = frV s) ∧ (if oI o (-9) nI = (-9) then some ((-9), s1) else bnd (fX12_tells (oI o (-9) nI) (oI o (-1) (frV s)) s1) (fun r28 s29 => some (r28, s29))) = some (r, s2) ∧ Inv s2 := by
        intro o ho
        have hx : ∀ b, b < nb → 0 ≤ (frV s b).toInt := fun b hb => frV_pos gd hb
        cases o with
        | none => exact ⟨-9, s, s, rfl, ⟨gd.rd, hx, gd.g68, ho.symm, rfl, rfl⟩, rfl, hI⟩
        | some m =>
          have hm : m < 8 := by
            have : ∀ j, j ≤ nb → ∀ m, fr (frC s n g p) (frV s) j = some m → m < nb := by
              intro j
              induction j with
              | zero => intro _ m h; exact absurd h (by simp [fr])
              | succ j ih =>
                intro hj m h
                cases hf : fr (frC s n g p) (frV s) j with
                | none =>
                  rw [fr_n hf] at h
                  by_cases hc : frC s n g p j = true
                  · rw [if_pos hc] at h
                    cases h
                    omega
                  · rw [if_neg hc] at h
                    cases h
                | some m' =>
                  rw [fr_s hf] at h
                  by_cases hc : (frC s n g p j && decide (frV s m' < frV s j)) = true
                  · rw [if_pos hc] at h
                    cases h
                    omega
                  · rw [if_neg hc] at h
                    cases h
                    exact ih (by omega) _ hf
            have := this nb (Nat.le_refl nb) m ho.symm
            omega
          have hne : ¬ nI m = -9 := nI_m9 (by omega)
          have e1 : oI (some m) (-9) nI = nI m := rfl
          refine ⟨frV s m, wI s 2 0 (nI m), wI (wI s 2 0 (nI m)) 68 2 (nI m), ?_, ⟨(Gd_told _ gd).rd, hx, gd.g68, ho.symm, rfl, rfl⟩, ?_, Inv_tell hI _⟩
          · rw [e1, if_neg hne, f_tell, bnd_some]
            rfl
          · rw [e1, if_neg hne, f_tells, bnd_some]
            rfl
      obtain ⟨r, s1, s2, e1, ⟨rd, hx, eg, ef, e79, ev⟩, e2, hI2⟩ := hc _ rfl
      refine ⟨r, s1, s2, ?_, ?_, hI2⟩
      · rw [isG_t gd.g6 (by omega) hg, bnd_some, if_neg one_ne, posture_t (by omega), bnd_some, if_neg one_ne, list_ok gd ge (by omega), bnd_some, benchOf_ok gd hg, bnd_some, momentAt_ok gd ge hg (by omega), bnd_some, nm_eq, c1]
        exact e1
      · have hin : inb (nI g) 8 = true := inb_ok (by omega) (by decide)
        rw [mG_t eg (by omega) hg, bnd_some, if_neg one_ne, in_eq, within_t h1 h2, bnd_some, if_neg one_ne, if_pos hin, nm_eq, far2 rd hx hg (by omega), if_pos hin, ef, ix_nI (by omega), st79_w, wI_id, ev]
        exact e2
