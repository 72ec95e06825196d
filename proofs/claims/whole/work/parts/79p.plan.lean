-- leaving: the class's plan
def cmG (s : Mem) (n g : Nat) : Int32 := if g < n then mo s 0 g else 0
def valL (s : Mem) (n m : Nat) : Int32 := s.1 68 18 + sumI (fun g => if m.testBit g then cmG s n g else 0) 7
def LVs (s : Mem) (n m : Nat) : Bool := decide (lev s (valL s n m) ≠ 0)
def B01 (x : Int32) (P : Prop) : Prop := (x = 1 ∧ P) ∨ (x = 0 ∧ ¬ P)
theorem B01.ne {x : Int32} {P : Prop} (h : B01 x P) : x = 0 ↔ ¬ P := by
  rcases h with ⟨rfl, hp⟩ | ⟨rfl, hp⟩
  · exact ⟨fun z => absurd z (by decide), fun z => absurd hp z⟩
  · exact ⟨fun _ => hp, fun _ => rfl⟩
theorem B01.nar {x : Int32} {P : Prop} (h : B01 x P) : vp_nar .boolean x = x := by
  rcases h with ⟨rfl, _⟩ | ⟨rfl, _⟩
  · exact nar1
  · exact nar0
theorem b_127 : ∀ m, m < 128 → nI m &&& 127 = nI m := by decide +kernel
theorem clsB (P : Nat → Prop) : ∃ Q : Nat → Bool, ∀ g, Q g = true ↔ P g := ⟨fun g => @decide (P g) (Classical.propDecidable _), fun g => @decide_eq_true_iff (P g) (Classical.propDecidable _)⟩
section PLN
variable {s x : Mem} {nb n : Nat}
theorem valL_eq {s' : Mem} (h1 : s'.1 75 = s.1 75) (h2 : s'.1 76 = s.1 76) (h3 : s'.1 77 = s.1 77) (h4 : s'.1 79 = s.1 79) (h5 : s'.1 68 18 = s.1 68 18) (n m : Nat) : valL s' n m = valL s n m := by
  unfold valL cmG
  rw [h5, mo_eq h1 h2 h3 h4]
theorem valSm (h : Sm s x) (n m : Nat) : valL x n m = valL s n m := valL_eq (h.1 75 (by unfold Cr; omega) id) (h.1 76 (by unfold Cr; omega) id) (h.1 77 (by unfold Cr; omega) id) (h.1 79 (by unfold Cr; omega) id) (h.2.1 18 (by unfold Cf; omega) id) n m
theorem momAny (gd : Gd x nb n) (ge : Ge x nb n) {j : Nat} (hj : j < 7) (k : Int32 → Mem → Option (Int32 × Mem)) : bnd (fX0_benchOf (nI j) x) (fun r4 s5 => bnd (fX0_momentOf (nI j) r4 0 s5) k) = k (cmG x n j) x := by
  rw [benchAny gd hj, bnd_some]
  unfold cmG
  by_cases c : j < n
  · have h := momentAt_ok gd ge c (p := 0) (by decide)
    have h' : fX0_momentOf (nI j) (x.1 79 j) 0 x = some (mo x 0 j, x) := h
    rw [if_pos c, if_pos c, h', bnd_some]
  · rw [if_neg c, if_neg c]
    unfold fX0_momentOf
    rw [isG_f gd.g6 (Or.inr (Int32.not_lt.mp (nI_nlt (by omega) (by omega)))), bnd_some, if_pos rfl, bnd_some]
theorem listL_ok (gd : Gd x nb n) (ge : Ge x nb n) {m : Nat} (hm : m < 128) : fX4_listOf (nI m) x = some (valL x n m, x) := by
  unfold fX4_listOf
  rw [nm_eq, gd.rn]
  have key := lp0 (fun k j => fX4_listOf_L10 (fun v9 s10 => some (v9, s10)) (nI m) k (x.1 68 18 + sumI (fun g => if m.testBit g then cmG x n g else 0) j) (nI j) x) (some (valL x n m, x)) 7 ?_ ?_ (by omega)
  · rw [← key]
    show _ = fX4_listOf_L10 _ (nI m) FU (x.1 68 18 + 0) (nI 0) x
    rw [Int32.add_zero]
    rfl
  · intro j k hj
    show fX4_listOf_L10 _ (nI m) (k + 1) _ (nI j) x = fX4_listOf_L10 _ (nI m) k _ (nI (j + 1)) x
    rw [fX4_listOf_L10, if_pos ((lt_num (b := 7) (by omega) (by decide)).mpr hj), b_one j (by omega), nI_1, sumI]
    cases hb : m.testBit j with
    | false =>
      rw [if_pos ((b_tst j hj m hm).mpr hb), if_neg (show ¬ (false = true) by decide), Int32.add_zero]
    | true =>
      rw [if_neg (fun z => by have := (b_tst j hj m hm).mp z; rw [hb] at this; exact absurd this (by decide)), if_pos rfl, momAny gd ge hj, nm_eq, Int32.add_assoc]
  · intro k
    show fX4_listOf_L10 _ (nI m) (k + 1) _ (nI 7) x = _
    rw [fX4_listOf_L10, if_neg (by decide)]
    rfl
theorem b_del {m g : Nat} (hm : m < 128) (hg : g < 7) : nI m &&& (((1 : Int32) <<< (nI g &&& 31)) ^^^ (-1)) = nI (del m g) := by
  rw [b_one g (by omega), b_clr g hg m hm]
  rfl
theorem who_ok {LV : Nat → Bool} {m : Nat} (hm : m < 128) (ha : ∀ m', m' < m → B01 (x.1 38 m') (LV m' = true) ∧ B01 (x.1 39 m') (CE LV m')) : ∃ Q : Nat → Bool, (∀ g, Q g = true ↔ okL LV m g) ∧ fX4_whoMayLeave (nI m) x = some (nI (msk Q 7), x) := by
  obtain ⟨Q, hQi⟩ := clsB (fun g => okL LV m g)
  refine ⟨Q, hQi, ?_⟩
  unfold fX4_whoMayLeave
  have key := lp0 (fun k j => fX4_whoMayLeave_L4 (fun v9 s10 => some (v9, s10)) (nI m) k (nI (msk Q j)) (nI j) x) (some (nI (msk Q 7), x)) 7 ?_ ?_ (by omega)
  · exact key
  · intro j k hj
    show fX4_whoMayLeave_L4 _ (nI m) (k + 1) _ (nI j) x = fX4_whoMayLeave_L4 _ (nI m) k _ (nI (j + 1)) x
    obtain ⟨d1, d2, d3⟩ := del_tab m hm j hj
    have hno : Q j = false → msk Q (j + 1) = msk Q j := fun h => by
      rw [msk, h]
      rfl
    rw [fX4_whoMayLeave_L4, if_pos ((lt_num (b := 7) (by omega) (by decide)).mpr hj), nm_eq, b_del hm hj, nI_1]
    cases hb : m.testBit j with
    | false =>
      have hq : Q j = false := by
        cases h : Q j with
        | false => rfl
        | true =>
          have := ((hQi j).mp h).1
          rw [hb] at this
          exact absurd this (by decide)
      rw [d3 hb, if_pos rfl, hno hq]
    | true =>
      obtain ⟨d4, _, _⟩ := d2 hb
      have hi : inb (nI (del m j)) 128 = true := inb_ok d1 (by decide)
      obtain ⟨b1, b2⟩ := ha (del m j) d4
      rw [if_neg (fun z => by
        have := (nI_eq (by omega) (by omega)).mp z
        omega), if_pos hi, ix_nI (by omega)]
      by_cases c1 : LV (del m j) = true
      · rw [if_neg (fun z => b1.ne.mp z c1), if_pos hi]
        by_cases c2 : CE LV (del m j)
        · have hq : Q j = true := (hQi j).mpr ⟨hb, c1, c2⟩
          rw [if_neg (fun z => b2.ne.mp z c2), nm_eq, msk_or hj, msk, hq]
          rfl
        · have hq : Q j = false := by
            cases h : Q j with
            | false => rfl
            | true => exact absurd ((hQi j).mp h).2.2 c2
          rw [if_pos (b2.ne.mpr c2), hno hq]
      · have hq : Q j = false := by
          cases h : Q j with
          | false => rfl
          | true => exact absurd ((hQi j).mp h).2.1 c1
        rw [if_pos (b1.ne.mpr c1), hno hq]
  · intro k
    show fX4_whoMayLeave_L4 _ (nI m) (k + 1) _ (nI 7) x = _
    rw [fX4_whoMayLeave_L4, if_neg (by decide)]
theorem sm37 {y : Mem} {q j : Nat} {v : Int32} (h1 : 34 ≤ q) (h2 : q ≤ 41) : Sm y (wI y q j v) := SmX.wI (by unfold Cr; omega) (by omega) (by omega)
theorem lev_b {s y : Mem} (h : Sm s y) (l : Int32) : lev y l = lev s l := by
  unfold lev
  rw [h.2.1 17 (by unfold Cf; omega) id]
/-- the arrays behind the plan -/
def PA (y : Mem) (LV : Nat → Bool) (crew : Nat) : Prop := y.1 37 5 = nI crew ∧ ∀ m, m ≤ crew → B01 (y.1 38 m) (LV m = true) ∧ B01 (y.1 39 m) (CE LV m) ∧ B01 (y.1 40 m) (RR LV crew m)
theorem plan16 (gd : Gd s nb n) (ge : Ge s nb n) {crew : Nat} (hc : crew < 128) (κ : Mem → Option (Unit × Mem)) : ∃ y, fX4_plan_L16 κ FU 0 (wI s 37 5 (nI crew)) = κ y ∧ Sm s y ∧ y.1 37 5 = nI crew ∧ ∀ m, m ≤ crew → B01 (y.1 38 m) (LVs s n m = true) ∧ B01 (y.1 39 m) (CE (LVs s n) m) ∧ B01 (y.1 40 m) (m = crew) := by
  have key := lp_inv0 (fun k j (y : Mem) => fX4_plan_L16 κ k (nI j) y) (fun j y => Sm s y ∧ y.1 37 5 = nI crew ∧ ∀ m, m < j → B01 (y.1 38 m) (LVs s n m = true) ∧ B01 (y.1 39 m) (CE (LVs s n) m) ∧ B01 (y.1 40 m) (m = crew)) (crew + 1) (wI s 37 5 (nI crew)) ⟨sm37 (by decide) (by decide), rfl, fun m hm => absurd hm (by omega)⟩ ?_ (by omega)
  · obtain ⟨y, k, ⟨i1, i2, i3⟩, e⟩ := key
    refine ⟨y, ?_, i1, i2, fun m hm => i3 m (by omega)⟩
    have e' : fX4_plan_L16 κ FU 0 (wI s 37 5 (nI crew)) = fX4_plan_L16 κ (k + 1) (nI (crew + 1)) y := e
    rw [e', fX4_plan_L16, i2, if_pos (nI_lt (by omega) (by omega))]
  · rintro j k y hj ⟨i1, i2, i3⟩
    show ∃ y', _ ∧ fX4_plan_L16 κ (k + 1) (nI j) y = fX4_plan_L16 κ k (nI (j + 1)) y'
    have gdy : Gd y nb n := Gd_keep i1 (fun _ _ => id) gd
    have gey : Ge y nb n := Ge_keep i1 (fun _ _ => id) ge
    have hi : inb (nI j) 128 = true := inb_ok (by omega) (by decide)
    have hr : B01 (lev s (valL s n j)) (LVs s n j = true) := by
      have hd : LVs s n j = true ↔ lev s (valL s n j) ≠ 0 := decide_eq_true_iff
      rcases lev_cases s (valL s n j) with h | h
      · exact Or.inr ⟨h, fun z => hd.mp z h⟩
      · exact Or.inl ⟨h, hd.mpr (by rw [h]; exact one_ne)⟩
    -- the three cells of one set
    have fin : ∀ e f : Int32, B01 e (CE (LVs s n) j) → B01 f (j = crew) → (Sm s (wI (wI (wI y 38 j (lev s (valL s n j))) 39 j e) 40 j f) ∧ (wI (wI (wI y 38 j (lev s (valL s n j))) 39 j e) 40 j f).1 37 5 = nI crew ∧ ∀ m, m < j + 1 → B01 ((wI (wI (wI y 38 j (lev s (valL s n j))) 39 j e) 40 j f).1 38 m) (LVs s n m = true) ∧ B01 ((wI (wI (wI y 38 j (lev s (valL s n j))) 39 j e) 40 j f).1 39 m) (CE (LVs s n) m) ∧ B01 ((wI (wI (wI y 38 j (lev s (valL s n j))) 39 j e) 40 j f).1 40 m) (m = crew)) := by
      intro e f he hf
      refine ⟨((i1.tr (sm37 (by decide) (by decide))).tr (sm37 (by decide) (by decide))).tr (sm37 (by decide) (by decide)), i2, fun m hm => ?_⟩
      show B01 (if m = j then _ else y.1 38 m) _ ∧ B01 (if m = j then _ else y.1 39 m) _ ∧ B01 (if m = j then _ else y.1 40 m) _
      by_cases c : m = j
      · rw [if_pos c, if_pos c, if_pos c, c]
        exact ⟨hr, he, hf⟩
      · rw [if_neg c, if_neg c, if_neg c]
        exact i3 m (by omega)
    have hcr : ∀ z : Mem, z.1 37 5 = nI crew → ((nI j = z.1 37 5) ↔ j = crew) := fun z hz => by
      rw [hz]
      exact nI_eq (by omega) (by omega)
    have q1 : ∀ (z : Mem) (v : Int32), (wI z 39 j v).1 37 5 = z.1 37 5 := fun _ _ => rfl
    have q2 : ∀ (z : Mem) (v : Int32), (wI z 38 j v).1 37 5 = z.1 37 5 := fun _ _ => rfl
    -- how it goes on, once who can be emptied is known
    have go : ∀ e : Int32, B01 e (CE (LVs s n) j) → ∃ y', (Sm s y' ∧ y'.1 37 5 = nI crew ∧ ∀ m, m < j + 1 → B01 (y'.1 38 m) (LVs s n m = true) ∧ B01 (y'.1 39 m) (CE (LVs s n) m) ∧ B01 (y'.1 40 m) (m = crew)) ∧ (if nI j = nI crew then fX4_plan_L16 κ k (nI (j + 1)) (wI (wI (wI y 38 j (lev s (valL s n j))) 39 j e) 40 j 1) else fX4_plan_L16 κ k (nI (j + 1)) (wI (wI (wI y 38 j (lev s (valL s n j))) 39 j e) 40 j 0)) = fX4_plan_L16 κ k (nI (j + 1)) y' := by
      intro e he
      by_cases c : j = crew
      · refine ⟨_, fin e 1 he (Or.inl ⟨rfl, c⟩), ?_⟩
        rw [if_pos (by rw [c])]
      · refine ⟨_, fin e 0 he (Or.inr ⟨rfl, c⟩), ?_⟩
        rw [if_neg (fun z => c ((nI_eq (by omega) (by omega)).mp z))]
    rw [fX4_plan_L16, i2, if_neg (nI_nlt (by omega) (by omega)), listL_ok gdy gey (by omega), bnd_some, isLevel_ok gdy, bnd_some, lev_b i1, valSm i1, hr.nar, if_pos hi, nI_1]
    by_cases c0 : j = 0
    · subst c0
      rw [if_pos (show nI 0 = 0 from rfl), if_pos hi, ix_nI (by decide), nar1, nar0, q1, q2, i2, if_pos hi, if_pos hi]
      exact go 1 (Or.inl ⟨rfl, CE_0⟩)
    · obtain ⟨Q, hQ, hw⟩ := who_ok (LV := LVs s n) (x := wI y 38 j (lev s (valL s n j))) (m := j) (by omega) (fun m' hm' => by
        obtain ⟨z1, z2, _⟩ := i3 m' hm'
        refine ⟨?_, z2⟩
        rw [rdq, if_neg (by omega)]
        exact z1)
      rw [if_neg (fun z => c0 ((eq_num (b := 0) (by omega) (by decide)).mp z)), ix_nI (by omega), hw, bnd_some, q1, q1, q2, i2, if_pos hi, if_pos hi, if_pos hi, if_pos hi, if_pos hi, if_pos hi, nar0, nar1]
      have hz : nI (msk Q 7) = 0 ↔ ¬ CE (LVs s n) j := by
        rw [show (0 : Int32) = nI 0 from rfl, nI_eq (by have := msk_lt128 Q (show 7 ≤ 7 by decide); omega) (by decide), msk_z, CE_iff c0]
        constructor
        · rintro h ⟨g, hg, hg2⟩
          have := h g hg
          rw [(hQ g).mpr hg2] at this
          exact absurd this (by decide)
        · intro h g hg
          cases hq : Q g with
          | false => rfl
          | true => exact absurd ⟨g, hg, (hQ g).mp hq⟩ h
      by_cases c1 : CE (LVs s n) j
      · rw [if_neg (fun z => hz.mp z c1)]
        exact go 1 (Or.inl ⟨rfl, c1⟩)
      · rw [if_pos (hz.mpr c1)]
        exact go 0 (Or.inr ⟨rfl, c1⟩)
end PLN
