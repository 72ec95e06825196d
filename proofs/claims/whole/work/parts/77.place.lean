-- who sits where: place, mayTake (class); isAtPeace, sitsOn (reference)
section PLC
variable {s : Mem} {nb n nq : Nat} {f : Nat → Int32}
/-- the class's cells of who sits where -/
def Cst (s : Mem) (nb n : Nat) (f : Nat → Int32) : Prop := nb ≤ 8 ∧ n ≤ 7 ∧ s.1 6 0 = nI nb ∧ s.1 6 1 = nI n ∧ s.1 16 = f ∧ (∀ g, g < n → StOk nb (f g)) ∧ ∀ b, b < nb → s.1 12 b = nI (msk (fun g => decide (f g = nI b)) n)
theorem cs_of (gd : Gd s nb n) (ge : Ge s nb n) : Cst s nb n (s.1 79) := ⟨gd.lb, gd.ln, gd.b6, gd.g6, gd.c16, gd.sts, ge.1⟩
def clr (f : Nat → Int32) (g b h : Nat) : Bool := decide (f h = nI b) && decide (h ≠ g)
theorem clr_upd {g b x' : Nat} {x : Int32} (hx : StOk nb x) (hb : b < 60) (h8 : nb ≤ 8) (h : Nat) (hne : x ≠ nI b) : decide (upd f g x h = nI b) = clr f g b h := by
  unfold clr
  by_cases e : h = g
  · subst e
    rw [uq_s, decide_eq_false hne, decide_eq_false (fun z : h ≠ h => z rfl), Bool.and_false]
  · rw [uq_n _ _ e, decide_eq_true (show h ≠ g from e), Bool.and_true]
theorem clr_upd2 {g b : Nat} (h : Nat) : decide (upd f g (nI b) h = nI b) = (clr f g b h || decide (h = g)) := by
  unfold clr
  by_cases e : h = g
  · subst e
    rw [uq_s, decide_eq_true rfl, decide_eq_true (rfl : h = h), Bool.or_true]
  · rw [uq_n _ _ e, decide_eq_true (show h ≠ g from e), Bool.and_true, decide_eq_false e, Bool.or_false]
/-- behind the clearing -/
def s1c (s : Mem) (f : Nat → Int32) (g : Nat) : Mem := if f g = -9 then s else wI s 12 (ix (f g)) ((s.1 12 (ix (f g))) &&& (((1 : Int32) <<< (nI g &&& 31)) ^^^ (-1)))
theorem s1c_sm (s : Mem) (f : Nat → Int32) (g : Nat) : SmX (fun a => a = 12) s (s1c s f g) := by
  unfold s1c
  by_cases h : f g = -9
  · rw [if_pos h]
    exact SmX.rf s
  · rw [if_neg h]
    exact SmX.wI (by unfold Cr; omega) (by omega) (by omega)
theorem s1c_ok (cs : Cst s nb n f) {g : Nat} (hg : g < n) : ∀ b, b < nb → (s1c s f g).1 12 b = nI (msk (clr f g b) n) := by
  obtain ⟨h8, h7, e0, e1, e16, hst, h12⟩ := cs
  intro b hb
  unfold s1c
  rcases hst g hg with e | ⟨w, hw, e⟩
  · rw [if_pos e, h12 b hb]
    congr 1
    refine msk_cong (fun h hh => ?_)
    unfold clr
    by_cases c : h = g
    · subst c
      rw [e, decide_eq_false (m9_nI (by omega))]
      rfl
    · rw [decide_eq_true (show h ≠ g from c), Bool.and_true]
  · rw [e, if_neg (nI_m9 (by omega)), ix_nI (by omega), rdq]
    by_cases c : b = w
    · subst c
      rw [if_pos rfl, h12 b hb, b_one g (by omega), b_clr g (by omega) _ (msk_lt128 _ h7), msk_clr _ h7 (by omega)]
      rfl
    · rw [if_neg c, h12 b hb]
      congr 1
      refine msk_cong (fun h hh => ?_)
      unfold clr
      by_cases c2 : h = g
      · subst c2
        rw [e, decide_eq_false (fun z => c ((nI_eq (by omega) (by omega)).mp z).symm)]
        rfl
      · rw [decide_eq_true (show h ≠ g from c2), Bool.and_true]
theorem place_ok (cs : Cst s nb n f) {g : Nat} (hg : g < n) {x : Int32} (hx : StOk nb x) : ∃ s', fX0_place (nI g) x s = some ((), s') ∧ Cst s' nb n (upd f g x) ∧ SmX (fun a => a = 12 ∨ a = 16) s s' := by
  obtain ⟨h8, h7, e0, e1, e16, hst, h12⟩ := id cs
  have hm := s1c_ok cs hg
  have hsm := s1c_sm s f g
  have hi : inb (nI g) 7 = true := inb_ok (by omega) (by decide)
  have f0 : (s1c s f g).1 6 0 = nI nb := by rw [hsm.2.2.1 0 (by omega)]; exact e0
  have f1 : (s1c s f g).1 6 1 = nI n := by rw [hsm.2.2.1 1 (by omega)]; exact e1
  have f16 : (s1c s f g).1 16 = f := by rw [hsm.1 16 (by unfold Cr; omega) (by omega)]; exact e16
  have hst' : ∀ h, h < n → StOk nb (upd f g x h) := by
    intro h hh
    by_cases c : h = g
    · rw [c, uq_s]
      exact hx
    · rw [uq_n _ _ c]
      exact hst h hh
  have hA : SmX (fun a => a = 12 ∨ a = 16) s (wI (s1c s f g) 16 g x) := (hsm.mono (fun a ha => Or.inl ha)).tr (SmX.wI (by unfold Cr; omega) (by omega) (by omega))
  have t16 : (wI (s1c s f g) 16 g x).1 16 = upd f g x := by rw [wI_eq, f16]
  have t0 : (wI (s1c s f g) 16 g x).1 6 0 = nI nb := f0
  have key : fX0_place (nI g) x s = bnd (fX0_isBench x (s1c s f g)) (fun r26 s27 =>
    if r26 = 0 then
      bnd (fX0_isBench x (wI s27 16 g (-9))) (fun r30 s31 =>
      if r30 = 0 then
        some ((), s31)
      else
        if inb x 8 = true then
        some ((), wI s31 12 (ix x) ((s31.1 12 (ix x)) ||| ((1 : Int32) <<< (nI g &&& 31))))
        else none)
    else
      bnd (fX0_isBench x (wI s27 16 g x)) (fun r36 s37 =>
      if r36 = 0 then
        some ((), s37)
      else
        if inb x 8 = true then
        some ((), wI s37 12 (ix x) ((s37.1 12 (ix x)) ||| ((1 : Int32) <<< (nI g &&& 31))))
        else none)) := by
    have ei : ∀ (c : Prop) [Decidable c] (y : Option (Unit × Mem)), (if c then (if c then y else none) else none) = (if c then y else none) := by
      intro c _ y
      by_cases h : c
      · rw [if_pos h, if_pos h]
      · rw [if_neg h, if_neg h]
    unfold fX0_place s1c
    rw [isG_t e1 (by omega) hg, bnd_some, if_neg one_ne, if_pos hi, nm_eq, ix_nI (by omega), e16]
    simp only [hi, if_true]
    rcases hst g hg with e | ⟨w, hw, e⟩
    · rw [e, isB_f e0 (Or.inl (by decide)), bnd_some, if_pos rfl, if_pos rfl]
      simp only [ei]
    · have hiw : inb (nI w) 8 = true := inb_ok (by omega) (by decide)
      rw [e, isB_t e0 (by omega) hw, bnd_some, if_neg one_ne, if_neg (nI_m9 (by omega)), if_pos hiw, if_pos hiw]
      simp only [ei]
  rcases id hx with rfl | ⟨b, hb, rfl⟩
  · refine ⟨wI (s1c s f g) 16 g (-9), ?_, ⟨h8, h7, f0, f1, t16, hst', fun b hb => ?_⟩, hA⟩
    · rw [key, isB_f f0 (Or.inl (by decide)), bnd_some, if_pos rfl, isB_f (show (wI (s1c s f g) 16 g (-9)).1 6 0 = nI nb from f0) (Or.inl (by decide)), bnd_some, if_pos rfl]
    · rw [wI_ne (by decide), hm b hb]
      congr 1
      exact msk_cong (fun h hh => (clr_upd (x' := 0) hx (by omega) h8 h (m9_nI (by omega))).symm)
  · have hib : inb (nI b) 8 = true := inb_ok (by omega) (by decide)
    refine ⟨wI (wI (s1c s f g) 16 g (nI b)) 12 b (nI (msk (clr f g b) n ||| 2 ^ g)), ?_, ⟨h8, h7, f0, f1, ?_, hst', fun b' hb' => ?_⟩, hA.tr (SmX.wI (by unfold Cr; omega) (by omega) (by omega))⟩
    · rw [key, isB_t f0 (by omega) hb, bnd_some, if_neg one_ne, isB_t (show (wI (s1c s f g) 16 g (nI b)).1 6 0 = nI nb from f0) (by omega) hb, bnd_some, if_neg one_ne, if_pos hib, ix_nI (by omega), wI_ne (by decide), hm b hb, b_one g (by omega), b_or g (by omega) _ (msk_lt128 _ h7)]
    · rw [wI_ne (by decide)]
      exact t16
    · rw [rdq]
      by_cases c : b' = b
      · subst c
        rw [if_pos rfl, msk_or1 _ hg]
        congr 1
        exact msk_cong (fun h hh => (clr_upd2 h).symm)
      · rw [if_neg c, wI_ne (by decide), hm b' hb']
        congr 1
        exact msk_cong (fun h hh => (clr_upd (x' := 0) hx (by omega) h8 h (fun z => c ((nI_eq (by omega) (by omega)).mp z).symm)).symm)
/-- who sits at c, the class's answer; -1 and the number behind the last bench too -/
theorem whoC (cs : Cst s nb n f) {c : Int32} (hc : c = -1 ∨ ∃ k : Nat, k ≤ nb ∧ c = nI k) : fX0_whoOn c s = some (nI (msk (fun h => decide (f h = c)) n), s) := by
  obtain ⟨h8, h7, e0, e1, e16, hst, h12⟩ := cs
  have hz : (∀ h, h < n → f h ≠ c) → nI (msk (fun h => decide (f h = c)) n) = 0 := by
    intro hh
    rw [msk_cong (q := fun _ => false) (fun k hk => decide_eq_false (hh k hk)), msk_zero (fun _ => rfl)]
    rfl
  unfold fX0_whoOn
  rcases hc with rfl | ⟨k, hk, rfl⟩
  · rw [isB_f e0 (Or.inl (by decide)), bnd_some, if_pos rfl, hz]
    intro h hh
    rcases hst h hh with e | ⟨b, hb, e⟩
    · rw [e]
      decide
    · rw [e]
      exact nI_neg (by omega) (by decide)
  · by_cases c2 : k = nb
    · subst c2
      rw [isB_f e0 (Or.inr (Int32.not_lt.mp (nI_nlt (Nat.le_refl k) (by omega)))), bnd_some, if_pos rfl, hz]
      intro h hh
      rcases hst h hh with e | ⟨b, hb, e⟩
      · rw [e]
        exact m9_nI (by omega)
      · rw [e]
        exact fun z => by have := (nI_eq (by omega) (by omega)).mp z; omega
    · rw [isB_t e0 (by omega) (by omega), bnd_some, if_neg one_ne, if_pos (inb_ok (by omega) (by decide)), ix_nI (by omega), h12 k (by omega)]
/-- two sit too near -/
def nr (x y : Int32) : Prop := x ≠ -9 ∧ y ≠ -9 ∧ ¬ 1 < ab (x - y)
theorem nr_tab : ∀ b, b < 8 → ∀ c, c < 8 → ((nI c = nI b - 1 ∨ nI c = nI b ∨ nI c = nI b + 1) ↔ ¬ 1 < ab (nI b - nI c)) ∧ ((1 < ab (nI b - nI c)) ↔ (1 < ab (nI c - nI b))) := by decide +kernel
theorem nr_sym {x y : Int32} (hx : StOk nb x) (hy : StOk nb y) (h8 : nb ≤ 8) : nr x y ↔ nr y x := by
  unfold nr
  rcases hx with rfl | ⟨b, hb, rfl⟩
  · exact ⟨fun z => absurd rfl z.1, fun z => absurd rfl z.2.1⟩
  · rcases hy with rfl | ⟨c, hc, rfl⟩
    · exact ⟨fun z => absurd rfl z.2.1, fun z => absurd rfl z.1⟩
    · rw [(nr_tab b (by omega) c (by omega)).2]
      exact ⟨fun ⟨a, b, c⟩ => ⟨b, a, c⟩, fun ⟨a, b, c⟩ => ⟨b, a, c⟩⟩
def okT (kd f : Nat → Int32) (n b : Nat) : Prop := cntN (fun h => decide (f h = nI b) && decide (kd h ≠ 3)) n ≤ 2
def okQ (q1 q2 f : Nat → Int32) (nq g : Nat) : Prop := ∀ q, q < nq → (q1 q = nI g ∨ q2 q = nI g) → ¬ nr (f (ix (q1 q))) (f (ix (q2 q)))
/-- whether g may sit on b -/
def mayP (kd q1 q2 f : Nat → Int32) (n nq g b : Nat) : Prop := okT kd (upd f g (nI b)) n b ∧ okQ q1 q2 (upd f g (nI b)) nq g
def Qd (q1 q2 : Nat → Int32) (n nq : Nat) : Prop := nq ≤ 8 ∧ ∀ q, q < nq → ∃ g h : Nat, g < n ∧ h < n ∧ g ≠ h ∧ q1 q = nI g ∧ q2 q = nI h
theorem okQ_iff {q1 q2 : Nat → Int32} (hq : Qd q1 q2 n nq) (h7 : n ≤ 7) (h8 : nb ≤ 8) (hst : ∀ g, g < n → StOk nb (f g)) {g : Nat} (hg : g < n) : okQ q1 q2 f nq g ↔ ∀ h, h < n → FOq q1 q2 nq g h → h ≠ g ∧ ¬ nr (f g) (f h) := by
  constructor
  · rintro ho h hh ⟨q, hq1, hc⟩
    obtain ⟨a, b, ha, hb, hab, ea, eb⟩ := hq.2 q hq1
    have hne : h ≠ g := by
      intro z
      subst z
      rw [ea, eb] at hc
      rcases hc with ⟨c1, c2⟩ | ⟨c1, c2⟩
      · exact hab (((nI_eq (by omega) (by omega)).mp c1).trans ((nI_eq (by omega) (by omega)).mp c2).symm)
      · exact hab (((nI_eq (by omega) (by omega)).mp c1).trans ((nI_eq (by omega) (by omega)).mp c2).symm)
    refine ⟨hne, ?_⟩
    rcases hc with ⟨c1, c2⟩ | ⟨c1, c2⟩
    · have := ho q hq1 (Or.inl c1)
      rw [c1, c2, ix_nI (by omega), ix_nI (by omega)] at this
      exact this
    · have := ho q hq1 (Or.inr c2)
      rw [c1, c2, ix_nI (by omega), ix_nI (by omega), nr_sym (hst h hh) (hst g hg) h8] at this
      exact this
  · intro hf q hq1 hc
    obtain ⟨a, b, ha, hb, hab, ea, eb⟩ := hq.2 q hq1
    rw [ea, eb, ix_nI (by omega), ix_nI (by omega)]
    rcases hc with c1 | c1
    · have e : a = g := (nI_eq (by omega) (by omega)).mp (ea.symm.trans c1)
      subst e
      exact (hf b hb ⟨q, hq1, Or.inl ⟨ea, eb⟩⟩).2
    · have e : b = g := (nI_eq (by omega) (by omega)).mp (eb.symm.trans c1)
      subst e
      rw [nr_sym (hst a ha) (hst b hb) h8]
      exact (hf a ha ⟨q, hq1, Or.inr ⟨ea, eb⟩⟩).2
theorem cntN_up1 {p q : Nat → Bool} {g : Nat} (hq : q g = false) (h : ∀ k, k ≠ g → p k = q k) : ∀ n, g < n → cntN p n = cntN q n + (if p g then 1 else 0)
  | 0, h => absurd h (by omega)
  | n + 1, hg => by
    by_cases e : g = n
    · subst e
      rw [cntN, cntN, hq, cntN_cong (p := p) (q := q) (fun k hk => h k (by omega))]
      rfl
    · rw [cntN, cntN, cntN_up1 hq h n (by omega), h n (fun z => e z.symm)]
      omega
theorem seatsFor_ok (e1 : s.1 6 1 = nI n) (h7 : n ≤ 7) {g : Nat} (hg : g < n) : fX0_seatsFor (nI g) s = some (if s.1 13 g = 3 then 0 else 1, s) := by
  unfold fX0_seatsFor fX0_kindOf
  rw [isG_t e1 (by omega) hg, bnd_some, if_neg one_ne, if_pos (inb_ok (by omega) (by decide)), ix_nI (by omega), bnd_some]
  by_cases h : s.1 13 g = 3
  · rw [if_pos h, if_pos h]
  · rw [if_neg h, if_neg h]
theorem taken_ok (cs : Cst s nb n f) (hk : s.1 6 12 = nI (msk (fun g => decide (s.1 13 g ≠ 3)) n)) {b : Nat} (hb : b < nb) : fX0_seatsTaken (nI b) s = some (nI (cntN (fun h => decide (f h = nI b) && decide (s.1 13 h ≠ 3)) n), s) := by
  have h7 := cs.2.1
  unfold fX0_seatsTaken
  rw [whoC cs (Or.inr ⟨b, by omega, rfl⟩), bnd_some, hk, b_and _ (msk_lt128 _ h7) _ (msk_lt128 _ h7), msk_and, bc_ok _ (msk_lt128 _ h7), bnd_some, pc_msk (by omega)]
theorem msk_ext (p : Nat → Bool) (h7 : n ≤ 7) : msk p n = msk (fun h => decide (h < n) && p h) 7 := by
  apply msk_eq
  intro i
  rw [msk_bit]
  by_cases c : i < n
  · rw [decide_eq_true c, decide_eq_true (show i < 7 by omega)]
    rfl
  · rw [decide_eq_false c, Bool.false_and, Bool.and_false]
theorem msk_z {p : Nat → Bool} : msk p n = 0 ↔ ∀ i, i < n → p i = false := by
  constructor
  · intro h i hi
    have := msk_bit p n i
    rw [h, Nat.zero_testBit, decide_eq_true hi, Bool.true_and] at this
    exact this.symm
  · intro h
    rw [msk_cong (q := fun _ => false) h, msk_zero (fun _ => rfl)]
theorem nI_sub1 {b : Nat} : nI b - 1 = -1 ∨ ∃ k, k + 1 = b ∧ nI b - 1 = nI k := by
  cases b with
  | zero => exact Or.inl (by decide)
  | succ k => exact Or.inr ⟨k, rfl, by rw [← nI_1, Int32.add_sub_cancel]⟩
theorem mayTake_ok (cs : Cst s nb n f) (hk : s.1 6 12 = nI (msk (fun g => decide (s.1 13 g ≠ 3)) n)) {q1 q2 : Nat → Int32} (fo : Fo s q1 q2 nq) (hq : Qd q1 q2 n nq) {g b : Nat} (hg : g < n) (hb : b < nb) (hne : f g ≠ nI b) : (mayP (s.1 13) q1 q2 f n nq g b → fX0_mayTake (nI g) (nI b) s = some (1, s)) ∧ (¬ mayP (s.1 13) q1 q2 f n nq g b → fX0_mayTake (nI g) (nI b) s = some (0, s)) := by
  obtain ⟨h8, h7, e0, e1, e16, hst, h12⟩ := id cs
  have hst' : ∀ h, h < n → StOk nb (upd f g (nI b) h) := by
    intro h hh
    by_cases c : h = g
    · rw [c, uq_s]
      exact Or.inr ⟨b, hb, rfl⟩
    · rw [uq_n _ _ c]
      exact hst h hh
  have hcnt : cntN (fun h => decide (upd f g (nI b) h = nI b) && decide (s.1 13 h ≠ 3)) n = cntN (fun h => decide (f h = nI b) && decide (s.1 13 h ≠ 3)) n + (if s.1 13 g = 3 then 0 else 1) := by
    rw [cntN_up1 (p := fun h => decide (upd f g (nI b) h = nI b) && decide (s.1 13 h ≠ 3)) (q := fun h => decide (f h = nI b) && decide (s.1 13 h ≠ 3)) (g := g) (by rw [decide_eq_false hne]; rfl) (fun k hk => by rw [uq_n _ _ hk]) n hg, uq_s]
    by_cases c : s.1 13 g = 3
    · rw [if_pos c, decide_eq_false (fun z : s.1 13 g ≠ 3 => z c), Bool.and_false]
      rfl
    · rw [if_neg c, decide_eq_true (show s.1 13 g ≠ 3 from c), decide_eq_true rfl]
      rfl
  have hcl := cntN_le (fun h => decide (f h = nI b) && decide (s.1 13 h ≠ 3)) n
  have hsum : nI (cntN (fun h => decide (f h = nI b) && decide (s.1 13 h ≠ 3)) n) + (if s.1 13 g = 3 then (0 : Int32) else 1) = nI (cntN (fun h => decide (upd f g (nI b) h = nI b) && decide (s.1 13 h ≠ 3)) n) := by
    rw [hcnt]
    by_cases c : s.1 13 g = 3
    · rw [if_pos c, if_pos c, Int32.add_zero]
      rfl
    · rw [if_neg c, if_neg c, nI_1]
  have hcl2 := cntN_le (fun h => decide (upd f g (nI b) h = nI b) && decide (s.1 13 h ≠ 3)) n
  obtain ⟨Q, hQ1, hQ2⟩ := fo
  have hfoes : fX5_foesOf (nI g) s = some (nI (msk (Q g) 7), s) := by
    unfold fX5_foesOf
    rw [if_neg (nI_nonneg (by omega)), if_pos ((lt_num (b := 7) (by omega) (by decide)).mpr (by omega)), if_pos (inb_ok (by omega) (by decide)), ix_nI (by omega), hQ2 g (by omega)]
  have hb1 : nI b - 1 = -1 ∨ ∃ k : Nat, k ≤ nb ∧ nI b - 1 = nI k := by
    rcases nI_sub1 (b := b) with h | ⟨k, hk, h⟩
    · exact Or.inl h
    · exact Or.inr ⟨k, by omega, h⟩
  have hall : fX0_mayTake (nI g) (nI b) s = if 2 < nI (cntN (fun h => decide (upd f g (nI b) h = nI b) && decide (s.1 13 h ≠ 3)) n) then some (0, s) else if nI (msk (fun h => decide (h < n) && (decide (f h = nI b - 1) || decide (f h = nI b) || decide (f h = nI b + 1))) 7 &&& msk (Q g) 7) = 0 then some (1, s) else some (0, s) := by
    unfold fX0_mayTake
    rw [taken_ok cs hk hb, bnd_some, seatsFor_ok e1 h7 hg, bnd_some, hsum, whoC cs hb1, bnd_some, whoC cs (Or.inr ⟨b, by omega, rfl⟩), bnd_some, whoC cs (c := nI b + 1) (Or.inr ⟨b + 1, by omega, nI_1 b⟩), bnd_some, nm_eq, hfoes, bnd_some, b_orm _ (msk_lt128 _ h7) _ (msk_lt128 _ h7), msk_orm, b_orm _ (msk_lt128 _ h7) _ (msk_lt128 _ h7), msk_orm, b_and _ (msk_lt128 _ h7) _ (msk_lt128 _ (by decide)), msk_ext _ h7]
  have hz : nI (msk (fun h => decide (h < n) && (decide (f h = nI b - 1) || decide (f h = nI b) || decide (f h = nI b + 1))) 7 &&& msk (Q g) 7) = 0 ↔ okQ q1 q2 (upd f g (nI b)) nq g := by
    rw [msk_and, show (0 : Int32) = nI 0 from rfl, nI_eq (by have := msk_lt128 (fun h => (decide (h < n) && (decide (f h = nI b - 1) || decide (f h = nI b) || decide (f h = nI b + 1))) && Q g h) (show 7 ≤ 7 by decide); omega) (by decide), msk_z, okQ_iff hq h7 h8 hst' hg]
    constructor
    · intro hz h hh hfo
      have hne2 : h ≠ g := by
        obtain ⟨q, hq1, hc⟩ := hfo
        obtain ⟨a, b', ha, hb', hab, ea, eb⟩ := hq.2 q hq1
        intro z
        subst z
        rw [ea, eb] at hc
        rcases hc with ⟨c1, c2⟩ | ⟨c1, c2⟩
        · exact hab (((nI_eq (by omega) (by omega)).mp c1).trans ((nI_eq (by omega) (by omega)).mp c2).symm)
        · exact hab (((nI_eq (by omega) (by omega)).mp c1).trans ((nI_eq (by omega) (by omega)).mp c2).symm)
      refine ⟨hne2, ?_⟩
      rw [uq_s, uq_n _ _ hne2]
      rintro ⟨n1, n2, n3⟩
      have hzh := hz h (by omega)
      rw [(hQ1 g h (by omega) (by omega)).mpr hfo, Bool.and_true, decide_eq_true hh, Bool.true_and] at hzh
      rcases hst h hh with e | ⟨c, hc, e⟩
      · exact n2 e
      · rw [e] at hzh n3
        have := (nr_tab b (by omega) c (by omega)).1.mpr n3
        rcases this with t | t | t
        · rw [decide_eq_true t] at hzh
          exact absurd hzh (by simp)
        · rw [decide_eq_true t, Bool.or_true] at hzh
          exact absurd hzh (by simp)
        · rw [decide_eq_true t, Bool.or_true] at hzh
          exact absurd hzh (by simp)
    · intro hf h h7'
      by_cases hh : h < n
      · cases hqg : Q g h with
        | false => rw [Bool.and_false]
        | true =>
          obtain ⟨hne2, hnr⟩ := hf h hh ((hQ1 g h (by omega) h7').mp hqg)
          rw [uq_s, uq_n _ _ hne2] at hnr
          rw [Bool.and_true, decide_eq_true hh, Bool.true_and]
          rcases hst h hh with e | ⟨c, hc, e⟩
          · rw [e, decide_eq_false (m9_nI (by omega)), nI_1, decide_eq_false (m9_nI (by omega))]
            rcases nI_sub1 (b := b) with z | ⟨k, hk', z⟩
            · rw [z]
              decide
            · rw [z, decide_eq_false (m9_nI (by omega))]
              rfl
          · rw [e] at hnr ⊢
            have : ¬ (nI c = nI b - 1 ∨ nI c = nI b ∨ nI c = nI b + 1) := fun z => hnr ⟨nI_m9 (by omega), nI_m9 (by omega), (nr_tab b (by omega) c (by omega)).1.mp z⟩
            rw [decide_eq_false (fun z => this (Or.inl z)), decide_eq_false (fun z => this (Or.inr (Or.inl z))), decide_eq_false (fun z => this (Or.inr (Or.inr z)))]
            rfl
      · rw [decide_eq_false hh]
        rfl
  have hc2 : (2 < nI (cntN (fun h => decide (upd f g (nI b) h = nI b) && decide (s.1 13 h ≠ 3)) n)) ↔ ¬ okT (s.1 13) (upd f g (nI b)) n b := by
    unfold okT
    rw [num_lt (b := 2) (by omega) (by decide)]
    omega
  rw [hall]
  refine ⟨fun hm => ?_, fun hm => ?_⟩
  · rw [if_neg (fun z => (hc2.mp z) hm.1), if_pos (hz.mpr hm.2)]
  · by_cases c1 : okT (s.1 13) (upd f g (nI b)) n b
    · rw [if_neg (fun z => (hc2.mp z) c1), if_neg (fun z => hm ⟨c1, hz.mp z⟩)]
    · rw [if_pos (hc2.mpr c1)]
-- the reference
def pb (s : Mem) (g : Nat) : Nat → Bool
  | 0 => true
  | j + 1 => pb s g j && !(decide (s.1 85 j = nI g ∨ s.1 86 j = nI g) && brk s j)
theorem pb_iff (s : Mem) (g : Nat) : ∀ j, pb s g j = true ↔ okQ (s.1 85) (s.1 86) (s.1 79) j g
  | 0 => ⟨fun _ q hq => absurd hq (by omega), fun _ => rfl⟩
  | j + 1 => by
    rw [pb, Bool.and_eq_true, pb_iff s g j]
    have hb : brk s j = true ↔ nr (s.1 79 (ix (s.1 85 j))) (s.1 79 (ix (s.1 86 j))) := decide_eq_true_iff
    constructor
    · rintro ⟨h1, h2⟩ q hq hc
      by_cases e : q = j
      · subst e
        intro hn
        rw [decide_eq_true hc, hb.mpr hn] at h2
        exact absurd h2 (by decide)
      · exact h1 q (by omega) hc
    · intro h
      refine ⟨fun q hq => h q (by omega), ?_⟩
      by_cases hc : s.1 85 j = nI g ∨ s.1 86 j = nI g
      · have := h j (by omega) hc
        rw [decide_eq_true hc]
        cases hbb : brk s j with
        | false => rfl
        | true => exact absurd (hb.mp hbb) this
      · rw [decide_eq_false hc]
        rfl
theorem peace_ok (rq : Rq s n nq) (h7 : n ≤ 7) (g : Nat) : fX12_isAtPeace (nI g) s = some (if pb s g nq then 1 else 0, s) := by
  have hq8 := rq.1
  unfold fX12_isAtPeace
  have key := lp0 (fun k j => fX12_isAtPeace_L4 (fun v13 s14 => if v13 = 0 ∨ v13 = 1 then some (v13, s14) else none) (nI g) k (if pb s g j then 1 else 0) (nI j) s) (some (if pb s g nq then 1 else 0, s)) nq ?_ ?_ (by omega)
  · exact key
  · intro j k hj
    show fX12_isAtPeace_L4 _ (nI g) (k + 1) _ (nI j) s = fX12_isAtPeace_L4 _ (nI g) k _ (nI (j + 1)) s
    have hi : inb (nI j) 8 = true := inb_ok (by omega) (by decide)
    rw [fX12_isAtPeace_L4, rq.2.1, if_pos (nI_lt hj (by omega)), if_pos hi, ix_nI (by omega), isBroken_ok rq h7 hj, nI_1, pb]
    simp only [bnd_some]
    cases h1 : pb s g j with
    | false =>
      rw [Bool.false_and]
      rfl
    | true =>
      rw [Bool.true_and, if_neg (show ¬ (if true = true then (1 : Int32) else 0) = 0 by decide)]
      by_cases c1 : s.1 85 j = nI g
      · rw [if_pos c1, decide_eq_true (Or.inl c1)]
        cases brk s j with
        | false => rfl
        | true => rfl
      · rw [if_neg c1, if_pos hi]
        by_cases c2 : s.1 86 j = nI g
        · rw [if_pos c2, decide_eq_true (Or.inr c2)]
          cases brk s j with
          | false => rfl
          | true => rfl
        · rw [if_neg c2, decide_eq_false (fun z => z.elim c1 c2)]
          rfl
  · intro k
    show fX12_isAtPeace_L4 _ (nI g) (k + 1) _ (nI nq) s = _
    rw [fX12_isAtPeace_L4, rq.2.1, if_neg (nI_nlt (Nat.le_refl nq) (by omega))]
    cases pb s g nq with
    | false => rfl
    | true => rfl
theorem peace_t (rq : Rq s n nq) (h7 : n ≤ 7) {g : Nat} (h : okQ (s.1 85) (s.1 86) (s.1 79) nq g) : fX12_isAtPeace (nI g) s = some (1, s) := by
  rw [peace_ok rq h7, (pb_iff s g nq).mpr h]
  rfl
theorem peace_f (rq : Rq s n nq) (h7 : n ≤ 7) {g : Nat} (h : ¬ okQ (s.1 85) (s.1 86) (s.1 79) nq g) : fX12_isAtPeace (nI g) s = some (0, s) := by
  rw [peace_ok rq h7]
  cases hb : pb s g nq with
  | false => rfl
  | true => exact absurd ((pb_iff s g nq).mp hb) h
theorem sitsOn_ok (rd : Rd s nb n) (rq : Rq s n nq) {g b : Nat} (hg : g < n) (hb : b < nb) : (mayP (s.1 76) (s.1 85) (s.1 86) (s.1 79) n nq g b → fX12_sitsOn (nI g) (nI b) s = some (1, wI s 79 g (nI b))) ∧ (¬ mayP (s.1 76) (s.1 85) (s.1 86) (s.1 79) n nq g b → fX12_sitsOn (nI g) (nI b) s = some (0, s)) := by
  have h7 := rd.2.1
  have hi : inb (nI g) 8 = true := inb_ok (by omega) (by decide)
  have hcl := cntN_le (fun h => decide ((wI s 79 g (nI b)).1 79 h = nI b) && decide ((wI s 79 g (nI b)).1 76 h ≠ 3)) n
  have rq' : Rq (wI s 79 g (nI b)) n nq := rq
  have ht : fX12_takenOn (nI b) (wI s 79 g (nI b)) = some (nI (cntN (fun h => decide ((wI s 79 g (nI b)).1 79 h = nI b) && decide ((wI s 79 g (nI b)).1 76 h ≠ 3)) n), wI s 79 g (nI b)) := takenOn_ok (show (wI s 79 g (nI b)).1 68 12 = nI n from rd.2.2.2.1) h7 (nI b)
  have hc2 : (2 < nI (cntN (fun h => decide ((wI s 79 g (nI b)).1 79 h = nI b) && decide ((wI s 79 g (nI b)).1 76 h ≠ 3)) n)) ↔ ¬ okT (s.1 76) (upd (s.1 79) g (nI b)) n b := by
    rw [num_lt (b := 2) (by omega) (by decide)]
    exact Iff.symm Nat.not_le
  have hall : fX12_sitsOn (nI g) (nI b) s = if 2 < nI (cntN (fun h => decide ((wI s 79 g (nI b)).1 79 h = nI b) && decide ((wI s 79 g (nI b)).1 76 h ≠ 3)) n) then some (0, s) else bnd (fX12_isAtPeace (nI g) (wI s 79 g (nI b))) (fun r8 s9 => if r8 = 0 then some (0, wI s9 79 g (s.1 79 g)) else some (1, wI s9 79 g (nI b))) := by
    unfold fX12_sitsOn
    rw [if_pos hi, nm_eq, if_pos hi, ix_nI (by omega), ht, bnd_some, if_pos hi, wI_ov, wI_id]
    simp only [hi, if_true]
  rw [hall]
  refine ⟨fun hm => ?_, fun hm => ?_⟩
  · rw [if_neg (fun z => (hc2.mp z) hm.1), peace_t rq' h7 (g := g) hm.2, bnd_some, if_neg one_ne, wI_ov]
  · by_cases c1 : okT (s.1 76) (upd (s.1 79) g (nI b)) n b
    · rw [if_neg (fun z => (hc2.mp z) c1), peace_f rq' h7 (g := g) (fun z => hm ⟨c1, z⟩), bnd_some, if_pos rfl, wI_ov, wI_id]
    · rw [if_pos (hc2.mpr c1)]
end PLC
