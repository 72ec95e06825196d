-- seatings: the search, pure; the reference
/-- seatings, those level through, the best, the benches of each in those level through -/
abbrev Ss : Type := Nat × Nat × Bs × (Nat → Nat)
def bsS (w : Int32) (f : Nat → Int32) (bs : Bs) : Bs := match bs with
  | none => some (w, f)
  | some b => if w < b.1 then some (w, f) else some b
def lfS (W : (Nat → Int32) → Int32) (lvl : Int32 → Bool) (f : Nat → Int32) (st : Ss) : Ss := (st.1 + 1, (if lvl (W f) then st.2.1 + 1 else st.2.1), bsS (W f) f st.2.2.1, (if lvl (W f) then (fun h => st.2.2.2 h ||| 2 ^ ix (f h)) else st.2.2.2))
noncomputable def layS (nb : Nat) (may : (Nat → Int32) → Nat → Nat → Prop) (W : (Nat → Int32) → Int32) (lvl : Int32 → Bool) : Nat → Nat → (Nat → Int32) → Ss → Ss
  | 0, _, f, st => lfS W lvl f st
  | k + 1, g, f, st => if f g = -9 then ivb (fun b z => @ite _ (may f g b) (Classical.propDecidable _) (layS nb may W lvl k (g + 1) (upd f g (nI b)) z) z) st nb else layS nb may W lvl k (g + 1) f st
/-- what holds of such a state -/
def SsOk (n : Nat) (st : Ss) : Prop := st.2.1 ≤ st.1 ∧ (∀ b, st.2.2.1 = some b → 0 ≤ b.1.toInt) ∧ (st.2.2.1 = none ↔ st.1 = 0) ∧ ∀ h, h < n → st.2.2.2 h < 256
theorem lf_ok {n : Nat} {W : (Nat → Int32) → Int32} {lvl : Int32 → Bool} {f : Nat → Int32} {st : Ss} (hw : 0 ≤ (W f).toInt) (hf : ∀ h, h < n → ∃ b : Nat, b < 8 ∧ f h = nI b) (h : SsOk n st) : SsOk n (lfS W lvl f st) := by
  obtain ⟨h1, h2, h3, h4⟩ := h
  refine ⟨?_, fun b hb => ?_, ?_, fun g hg => ?_⟩
  · show (if lvl (W f) then st.2.1 + 1 else st.2.1) ≤ st.1 + 1
    split <;> omega
  · have hb' : bsS (W f) f st.2.2.1 = some b := hb
    unfold bsS at hb'
    cases e : st.2.2.1 with
    | none =>
      rw [e] at hb'
      cases hb'
      exact hw
    | some b' =>
      rw [e] at hb'
      have hb2 : (if W f < b'.1 then some (W f, f) else some b') = some b := hb'
      by_cases c : W f < b'.1
      · rw [if_pos c] at hb2
        cases hb2
        exact hw
      · rw [if_neg c] at hb2
        cases hb2
        exact h2 _ e
  · show bsS (W f) f st.2.2.1 = none ↔ st.1 + 1 = 0
    constructor
    · intro e
      unfold bsS at e
      cases e2 : st.2.2.1 with
      | none => rw [e2] at e; cases e
      | some b =>
        rw [e2] at e
        have e3 : (if W f < b.1 then some (W f, f) else some b) = none := e
        by_cases c : W f < b.1
        · rw [if_pos c] at e3; cases e3
        · rw [if_neg c] at e3; cases e3
    · intro e
      omega
  · show (if lvl (W f) then (fun h => st.2.2.2 h ||| 2 ^ ix (f h)) else st.2.2.2) g < 256
    by_cases c : lvl (W f) = true
    · rw [if_pos c]
      obtain ⟨b, hb, e⟩ := hf g hg
      show st.2.2.2 g ||| 2 ^ ix (f g) < 256
      rw [e, ix_nI (by omega)]
      exact (b_or8 b hb _ (h4 g hg)).2
    · rw [if_neg c]
      exact h4 g hg
theorem am_ge (F : Nat → Int32) : ∀ N m, m < N → ¬ F (am F N) < F m
  | 0, m, h => absurd h (by omega)
  | N + 1, m, h => by
    rw [am]
    by_cases c : F (am F N) < F N
    · rw [if_pos c]
      by_cases e : m = N
      · rw [e]
        exact fun z => Int32.lt_irrefl z
      · have := am_ge F N m (by omega)
        intro z
        have z1 := Int32.lt_iff_toInt_lt.mp z
        have z2 := Int32.lt_iff_toInt_lt.mp c
        exact this (Int32.lt_iff_toInt_lt.mpr (by omega))
    · rw [if_neg c]
      by_cases e : m = N
      · rw [e]
        exact c
      · exact am_ge F N m (by omega)
section SR1
variable {s x : Mem} {nb n nq nm' : Nat}
/-- the worst of a seating -/
def Wf (s : Mem) (n nm' : Nat) (f : Nat → Int32) : Int32 := sz (wF s 79 f) n (am (sz (wF s 79 f) n) nm')
def lvW (s : Mem) (w : Int32) : Bool := decide (lev s w ≠ 0)
def mayS (s : Mem) (n nq : Nat) (f : Nat → Int32) (g b : Nat) : Prop := mayP (s.1 76) (s.1 85) (s.1 86) f n nq g b
theorem sz_f {f : Nat → Int32} (h : SmX (fun a => a = 79) s x) (hf : x.1 79 = f) : sz x n = sz (wF s 79 f) n := by
  funext m
  unfold sz
  rw [mv_eq (s := wF s 79 f) (s' := x) (h.1 75 (by unfold Cr; omega) (by omega)) (h.1 76 (by unfold Cr; omega) (by omega)) (h.1 77 (by unfold Cr; omega) (by omega)) hf (h.1 80 (by unfold Cr; omega) (by omega)) (h.2.1 18 (by unfold Cf; omega) (by omega))]
theorem Gd_hat {f : Nat → Int32} (gd : Gd s nb n) (hst : ∀ g, g < n → StOk nb (f g)) : Gd (wF (wF s 79 f) 16 f) nb n := by
  obtain ⟨d1, d2, d3, d4, d5, d6, d7, d8, d9, d10, d11, d12, d13, d14, d15, d16, d17, d18, d19, d20, d21⟩ := gd
  exact ⟨d1, d2, d3, d4, d5, d6, d7, d8, d9, d10, d11, d12, d13, rfl, d15, d16, d17, d18, d19, d20, hst⟩
theorem szf_pos {f : Nat → Int32} (gd : Gd s nb n) (gg : Gg s nm') (hst : ∀ g, g < n → StOk nb (f g)) {m : Nat} (hm : m < nm') : 0 ≤ (sz (wF s 79 f) n m).toInt := by
  have g1 := Gd_hat gd hst
  have g2 : Gg (wF (wF s 79 f) 16 f) nm' := gg
  have h := mv_small g1 g2 hm
  have h' : -1600 ≤ (mv (wF s 79 f) n m).toInt ∧ (mv (wF s 79 f) n m).toInt ≤ 1600 := h
  exact (ab_small (by omega) (by omega)).1
theorem Wf_pos {f : Nat → Int32} (gd : Gd s nb n) (gg : Gg s nm') (hst : ∀ g, g < n → StOk nb (f g)) : 0 ≤ (Wf s n nm' f).toInt := szf_pos gd gg hst (am_lt _ gg.1 nm' (Nat.le_refl _))
theorem ab_pos {w : Int32} (h : 0 ≤ w.toInt) : ab w = w := by
  rw [ab_eq, if_neg (fun z => by have := (lt0_iff w).mp z; omega)]
/-- the reference's cells on the way -/
def RQs (s x : Mem) (n : Nat) (f : Nat → Int32) (st : Ss) : Prop := SmX (fun a => a = 79) s x ∧ x.1 79 = f ∧ x.1 68 37 = nI st.1 ∧ x.1 68 38 = nI st.2.1 ∧ ((st.2.2.1 = none ∧ x.1 68 39 = -1) ∨ ∃ b, st.2.2.1 = some b ∧ x.1 68 39 = b.1 ∧ ∀ h, h < n → x.1 90 h = b.2 h) ∧ ∀ h, h < n → x.1 91 h = nI (st.2.2.2 h)
theorem RQs.rd {f : Nat → Int32} {st : Ss} (h : RQs s x n f st) (rd : Rd s nb n) (hst : ∀ g, g < n → StOk nb (f g)) : Rd x nb n := ⟨rd.1, rd.2.1, by rw [h.1.2.1 10 (by unfold Cf; omega) (by omega)]; exact rd.2.2.1, by rw [h.1.2.1 12 (by unfold Cf; omega) (by omega)]; exact rd.2.2.2.1, by rw [h.2.1]; exact hst⟩
theorem RQs.rq {f : Nat → Int32} {st : Ss} (h : RQs s x n f st) (rq : Rq s n nq) : Rq x n nq := ⟨rq.1, by rw [h.1.2.1 29 (by unfold Cf; omega) (by omega)]; exact rq.2.1, by rw [h.1.1 85 (by unfold Cr; omega) (by omega), h.1.1 86 (by unfold Cr; omega) (by omega)]; exact rq.2.2⟩
theorem ms37 {y : Mem} (h7 : n ≤ 7) (h : y.1 68 12 = nI n) (w : Int32) (κ : Mem → Option (Unit × Mem)) : fX12_meetsSeating_L37 κ w FU 0 y = κ (wF y 90 (fun i => if i < n then y.1 79 i else y.1 90 i)) := by
  have key := lp0 (fun t j => fX12_meetsSeating_L37 κ w t (nI j) (wF y 90 (fun i => if i < j then y.1 79 i else y.1 90 i))) (κ (wF y 90 (fun i => if i < n then y.1 79 i else y.1 90 i))) n ?_ ?_ (by omega)
  · rw [← key]
    show _ = fX12_meetsSeating_L37 κ w FU (nI 0) (wF y 90 (fun i => if i < 0 then y.1 79 i else y.1 90 i))
    have e : (fun i => if i < 0 then y.1 79 i else y.1 90 i) = y.1 90 := by
      funext b
      rw [if_neg (by omega)]
    rw [e, wF_self]
    rfl
  · intro j t hj
    show fX12_meetsSeating_L37 κ w (t + 1) (nI j) _ = fX12_meetsSeating_L37 κ w t (nI (j + 1)) _
    have h12 : ∀ F, (wF y 90 F).1 68 12 = nI n := fun F => h
    have h79 : ∀ F, (wF y 90 F).1 79 = y.1 79 := fun F => rfl
    rw [fX12_meetsSeating_L37, h12, if_pos (nI_lt hj (by omega)), if_pos (inb_ok (by omega) (by decide)), if_pos (inb_ok (by omega) (by decide)), ix_nI (by omega), h79, nI_1, wI_wF]
    congr 2
    funext b
    by_cases hb : b = j
    · rw [if_pos hb, if_pos (by omega), hb]
    · rw [if_neg hb]
      by_cases h2 : b < j
      · rw [if_pos h2, if_pos (by omega)]
      · rw [if_neg h2, if_neg (by omega)]
  · intro t
    show fX12_meetsSeating_L37 κ w (t + 1) (nI n) _ = _
    have h12 : ∀ F, (wF y 90 F).1 68 12 = nI n := fun F => h
    rw [fX12_meetsSeating_L37, h12, if_neg (nI_nlt (Nat.le_refl n) (by omega))]
theorem ms83 {y : Mem} {lv : Nat → Nat} (h7 : n ≤ 7) (h : y.1 68 12 = nI n) (hlv : ∀ i, i < n → lv i < 256 ∧ y.1 91 i = nI (lv i)) (hf : ∀ i, i < n → ∃ b : Nat, b < 8 ∧ y.1 79 i = nI b) : ∃ z, fX12_meetsSeating_L83 (fun s13 => some ((), s13)) FU 0 y = some ((), z) ∧ Sm y z ∧ (∀ a, a ≠ 91 → z.1 a = y.1 a) ∧ ∀ i, i < n → z.1 91 i = nI (lv i ||| 2 ^ ix (y.1 79 i)) := by
  have key := lp_inv0 (fun t j (z : Mem) => fX12_meetsSeating_L83 (fun s13 => some ((), s13)) t (nI j) z) (fun j z => Sm y z ∧ (∀ a, a ≠ 91 → z.1 a = y.1 a) ∧ ∀ i, i < n → z.1 91 i = if i < j then nI (lv i ||| 2 ^ ix (y.1 79 i)) else nI (lv i)) n y ⟨SmX.rf y, fun _ _ => rfl, fun i hi => by rw [if_neg (by omega)]; exact (hlv i hi).2⟩ ?_ (by omega)
  · obtain ⟨z, t, ⟨i1, i2, i3⟩, e⟩ := key
    refine ⟨z, ?_, i1, i2, fun i hi => by rw [i3 i hi, if_pos hi]⟩
    have e' : fX12_meetsSeating_L83 (fun s13 => some ((), s13)) FU 0 y = fX12_meetsSeating_L83 (fun s13 => some ((), s13)) (t + 1) (nI n) z := e
    rw [e', fX12_meetsSeating_L83, i2 68 (by decide), h, if_neg (nI_nlt (Nat.le_refl n) (by omega))]
  · rintro j t z hj ⟨i1, i2, i3⟩
    show ∃ z', _ ∧ fX12_meetsSeating_L83 _ (t + 1) (nI j) z = fX12_meetsSeating_L83 _ t (nI (j + 1)) z'
    obtain ⟨b, hb, eb⟩ := hf j hj
    have hi : inb (nI j) 7 = true := inb_ok (by omega) (by decide)
    have hz := i3 j hj
    rw [if_neg (by omega)] at hz
    refine ⟨wI z 91 j (nI (lv j ||| 2 ^ ix (y.1 79 j))), ⟨i1.tr (sm90 (by decide) (by decide)), fun a ha => by rw [wI_ne ha]; exact i2 a ha, fun i hi' => ?_⟩, ?_⟩
    · rw [rdq]
      by_cases c : i = j
      · rw [if_pos c, if_pos (by omega), c]
      · rw [if_neg c, i3 i hi']
        by_cases c2 : i < j
        · rw [if_pos c2, if_pos (by omega)]
        · rw [if_neg c2, if_neg (by omega)]
    · rw [fX12_meetsSeating_L83, i2 68 (by decide), h, if_pos (nI_lt hj (by omega)), if_pos hi, if_pos (inb_ok (by omega) (by decide)), if_pos hi, ix_nI (by omega), hz, i2 79 (by decide), eb, b_one b hb, (b_or8 b hb _ (hlv j hj).1).1, ix_nI (by omega), nI_1]
theorem meets_ok (gd : Gd s nb n) (gg : Gg s nm') {f : Nat → Int32} {st : Ss} (hf : ∀ h, h < n → ∃ b : Nat, b < nb ∧ f h = nI b) (hs : SsOk n st) (hx : RQs s x n f st) : ∃ x', fX12_meetsSeating x = some ((), x') ∧ RQs s x' n f (lfS (Wf s n nm') (lvW s) f st) := by
  have h7 := gd.ln
  have h8 := gd.lb
  have hst : ∀ g, g < n → StOk nb (f g) := fun g hg => Or.inr (hf g hg)
  obtain ⟨i1, i2, i3, i4, i5, i6⟩ := id hx
  have rd := hx.rd gd.rd hst
  have ggx : Gg x nm' := Gg_keep i1 (fun a ha => by omega) gg
  have hsz := sz_f (n := n) i1 i2
  have hw2 := worst2R rd ggx (fun m hm => by rw [hsz]; exact szf_pos gd gg hst hm)
  have hww : sz x n (am (sz x n) nm') = Wf s n nm' f := by
    rw [hsz]
    rfl
  rw [hww] at hw2
  have hwp := Wf_pos gd gg hst
  generalize hwv : Wf s n nm' f = wv at *
  generalize (nI (am (sz x n) nm')) = v36 at *
  -- the state once the seating is counted
  have hy0 : SmX (fun a => a = 79) s (wI (wI x 68 36 v36) 68 37 (nI (st.1 + 1))) := (i1.tr (sm4x (by decide))).tr (sm4x (by decide))
  have y12 : (wI (wI x 68 36 v36) 68 37 (nI (st.1 + 1))).1 68 12 = nI n := rd.2.2.2.1
  have y17 : (wI (wI x 68 36 v36) 68 37 (nI (st.1 + 1))).1 68 17 = s.1 68 17 := i1.2.1 17 (by unfold Cf; omega) (by omega)
  generalize hyy : wI (wI x 68 36 v36) 68 37 (nI (st.1 + 1)) = y at *
  have y79 : y.1 79 = f := by rw [← hyy, wI_ne (by decide), wI_ne (by decide)]; exact i2
  have y37 : y.1 68 37 = nI (st.1 + 1) := by rw [← hyy]; rfl
  have y38 : y.1 68 38 = nI st.2.1 := by rw [← hyy]; exact i4
  have y39 : y.1 68 39 = x.1 68 39 := by rw [← hyy]; rfl
  have y90 : y.1 90 = x.1 90 := by rw [← hyy]; rfl
  have y91 : y.1 91 = x.1 91 := by rw [← hyy]; rfl
  have hlv : lvW s wv = true ↔ ¬ s.1 68 17 < wv := by
    unfold lvW lev
    rw [ab_pos hwp]
    by_cases c : s.1 68 17 < wv
    · rw [if_pos c]
      exact ⟨fun h => absurd (of_decide_eq_true h) (fun z => z rfl), fun h => absurd c h⟩
    · rw [if_neg c]
      exact ⟨fun _ => c, fun _ => by decide⟩
  -- the end: level through or not
  have fin : ∀ (z : Mem) (bs : Bs), SmX (fun a => a = 79) s z → z.1 79 = f → z.1 68 12 = nI n → z.1 68 17 = s.1 68 17 → z.1 68 37 = nI (st.1 + 1) → z.1 68 38 = nI st.2.1 → ((bs = none ∧ z.1 68 39 = -1) ∨ ∃ b, bs = some b ∧ z.1 68 39 = b.1 ∧ ∀ h, h < n → z.1 90 h = b.2 h) → z.1 91 = x.1 91 → bsS wv f st.2.2.1 = bs → ∃ x', (if (z.1 68 17) < wv then some ((), z) else fX12_meetsSeating_L83 (fun s13 => some ((), s13)) FU 0 (wI z 68 38 ((z.1 68 38) + 1))) = some ((), x') ∧ RQs s x' n f (lfS (Wf s n nm') (lvW s) f st) := by
    intro z bs k1 k2 k3 k4 k5 k6 k7 k8 k9
    rw [k4]
    by_cases c : s.1 68 17 < wv
    · have hl : lvW s wv = false := by
        cases h : lvW s wv with
        | false => rfl
        | true => exact absurd c (hlv.mp h)
      rw [if_pos c]
      refine ⟨z, rfl, k1, k2, k5, ?_, ?_, ?_⟩
      · show z.1 68 38 = nI (if lvW s (Wf s n nm' f) then st.2.1 + 1 else st.2.1)
        rw [hwv, hl]
        exact k6
      · show (bsS (Wf s n nm' f) f st.2.2.1 = none ∧ _) ∨ ∃ b, bsS (Wf s n nm' f) f st.2.2.1 = some b ∧ _
        rw [hwv, k9]
        exact k7
      · intro h hh
        show z.1 91 h = nI ((if lvW s (Wf s n nm' f) then (fun h => st.2.2.2 h ||| 2 ^ ix (f h)) else st.2.2.2) h)
        rw [hwv, hl, k8]
        exact i6 h hh
    · have hl : lvW s wv = true := hlv.mpr c
      have z91 : ∀ i, i < n → st.2.2.2 i < 256 ∧ (wI z 68 38 (nI (st.2.1 + 1))).1 91 i = nI (st.2.2.2 i) := fun i hi => ⟨hs.2.2.2 i hi, by rw [wI_ne (by decide), k8]; exact i6 i hi⟩
      have z79 : (wI z 68 38 (nI (st.2.1 + 1))).1 79 = f := by rw [wI_ne (by decide)]; exact k2
      obtain ⟨w, ew, w1, w2, w3⟩ := ms83 (y := wI z 68 38 (nI (st.2.1 + 1))) (lv := st.2.2.2) h7 (show (wI z 68 38 (nI (st.2.1 + 1))).1 68 12 = nI n from k3) z91 (fun i hi => by
        rw [z79]
        obtain ⟨b, hb, e⟩ := hf i hi
        exact ⟨b, by omega, e⟩)
      rw [if_neg c, k6, nI_1, ew]
      have w68 : w.1 68 = (wI z 68 38 (nI (st.2.1 + 1))).1 68 := w2 68 (by decide)
      refine ⟨w, rfl, (k1.tr (sm4x (by decide))).tr w1.to, ?_, ?_, ?_, ?_, ?_⟩
      · rw [w2 79 (by decide)]
        exact z79
      · rw [w68]
        exact k5
      · show w.1 68 38 = nI (if lvW s (Wf s n nm' f) then st.2.1 + 1 else st.2.1)
        rw [hwv, hl, w68]
        rfl
      · show (bsS (Wf s n nm' f) f st.2.2.1 = none ∧ _) ∨ ∃ b, bsS (Wf s n nm' f) f st.2.2.1 = some b ∧ _
        rw [hwv, k9, w68, w2 90 (by decide)]
        exact k7
      · intro h hh
        show w.1 91 h = nI ((if lvW s (Wf s n nm' f) then (fun h => st.2.2.2 h ||| 2 ^ ix (f h)) else st.2.2.2) h)
        rw [hwv, hl, w3 h hh, z79]
        rfl
  -- a better one
  have better : bsS wv f st.2.2.1 = some (wv, f) → ∃ x', fX12_meetsSeating_L37 (fun s7 => if (s7.1 68 17) < wv then some ((), s7) else fX12_meetsSeating_L83 (fun s13 => some ((), s13)) FU 0 (wI s7 68 38 ((s7.1 68 38) + 1))) wv FU 0 (wI y 68 39 wv) = some ((), x') ∧ RQs s x' n f (lfS (Wf s n nm') (lvW s) f st) := by
    intro hbs
    rw [ms37 h7 (show (wI y 68 39 wv).1 68 12 = nI n from y12)]
    refine fin _ (some (wv, f)) ((hy0.tr (sm4x (by decide))).tr (SmX.wF (by unfold Cr; omega) (by decide) (by decide))) ?_ y12 y17 y37 y38 (Or.inr ⟨(wv, f), rfl, rfl, fun h hh => ?_⟩) y91 hbs
    · rw [wF_ne (by decide), wI_ne (by decide)]
      exact y79
    · show (if h < n then y.1 79 h else y.1 90 h) = f h
      rw [if_pos hh, y79]
  have hyw : wI (wI x 68 36 v36) 68 37 ((wI x 68 36 v36).1 68 37 + 1) = y := by
    rw [← hyy]
    show wI (wI x 68 36 v36) 68 37 (x.1 68 37 + 1) = _
    rw [i3, nI_1]
  unfold fX12_meetsSeating
  rw [hw2, bnd_some, hyw, y39]
  rcases i5 with ⟨e1, e2⟩ | ⟨b, e1, e2, e3⟩
  · rw [e2, if_pos m1_neg]
    exact better (by rw [e1]; rfl)
  · have hn : ¬ b.1 < 0 := fun z => by
      have := (lt0_iff _).mp z
      have := hs.2.1 b e1
      omega
    rw [e2, if_neg hn]
    have hbe : bsS wv f st.2.2.1 = if wv < b.1 then some (wv, f) else some b := by
      rw [e1]
      rfl
    by_cases c : wv < b.1
    · rw [if_pos c] at hbe ⊢
      exact better hbe
    · rw [if_neg c] at hbe ⊢
      exact fin y (some b) hy0 y79 y12 y17 y37 y38 (Or.inr ⟨b, rfl, by rw [y39]; exact e2, by rw [y90]; exact e3⟩) y91 hbe
end SR1
