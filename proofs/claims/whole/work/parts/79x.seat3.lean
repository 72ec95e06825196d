-- seatings: the class's cells
section SC1
variable {s x : Mem} {nb n nq nm' : Nat}
def cmr (s : Mem) (n h : Nat) : Bool := decide (h < n ∧ s.1 79 h = -9)
def tkF (s : Mem) (n : Nat) (f : Nat → Int32) (b : Nat) : Nat := cntN (fun h => decide (f h = nI b) && decide (s.1 76 h ≠ 3)) n
def hsP (s : Mem) (nm' p : Nat) : Bool := decide (∃ m, m < nm' ∧ s.1 80 m = nI p)
def mS (s : Mem) (nm' p h b : Nat) : Int32 := if hsP s nm' p then mom (s.1 75) (s.1 76) (s.1 77) h b p else 0
def AL (s : Mem) (n nm' p : Nat) (f : Nat → Int32) : Int32 := if hsP s nm' p then s.1 68 18 + sumI (mof (s.1 75) (s.1 76) (s.1 77) f p) n else 0
theorem AL_s {f : Nat → Int32} {g b p : Nat} (hg : g < n) (hb : b < 8) (hf : f g = -9) : AL s n nm' p f + mS s nm' p g b = AL s n nm' p (upd f g (nI b)) := by
  unfold AL mS
  cases hsP s nm' p with
  | false => rw [if_neg (show ¬ (false = true) by decide), if_neg (show ¬ (false = true) by decide), if_neg (show ¬ (false = true) by decide), Int32.add_zero]
  | true =>
    rw [if_pos rfl, if_pos rfl, if_pos rfl]
    have e : mof (s.1 75) (s.1 76) (s.1 77) (upd f g (nI b)) p = upd (mof (s.1 75) (s.1 76) (s.1 77) f p) g (mom (s.1 75) (s.1 76) (s.1 77) g b p) := by
      funext h
      unfold mof
      by_cases c : h = g
      · rw [c, uq_s, uq_s, if_neg (nI_m9 (by omega)), ix_nI (by omega)]
      · rw [uq_n _ _ c, uq_n _ _ c]
    have e0 : mof (s.1 75) (s.1 76) (s.1 77) f p g = 0 := by
      unfold mof
      rw [if_pos hf]
    rw [e, sumI_upd _ _ _ n hg, e0, Int32.sub_zero, Int32.add_assoc]
theorem mxI (x y : Int32) : (mx x y).toInt = if x.toInt < y.toInt then y.toInt else x.toInt := by
  unfold mx
  by_cases h : x < y
  · rw [if_pos h, if_pos (Int32.lt_iff_toInt_lt.mp h)]
  · rw [if_neg h, if_neg (fun z => h (Int32.lt_iff_toInt_lt.mpr z))]
/-- the class's worst is the reference's -/
theorem AL_W (gd : Gd s nb n) (gg : Gg s nm') {f : Nat → Int32} (hst : ∀ g, g < n → StOk nb (f g)) : mx (ab (AL s n nm' 0 f)) (mx (ab (AL s n nm' 1 f)) (ab (AL s n nm' 2 f))) = Wf s n nm' f := by
  have hN := gg.1
  have ggf : Gg (wF s 79 f) nm' := gg
  have hpv : ∀ m, m < nm' → pv (wF s 79 f) m < 3 ∧ s.1 80 m = nI (pv (wF s 79 f) m) := fun m hm => pv_ok ggf hm
  have hsz : ∀ m, m < nm' → sz (wF s 79 f) n m = ab (AL s n nm' (pv (wF s 79 f) m) f) := fun m hm => by
    have hh : hsP s nm' (pv (wF s 79 f) m) = true := decide_eq_true ⟨m, hm, (hpv m hm).2⟩
    unfold AL
    rw [hh, if_pos rfl]
    rfl
  have hge : ∀ p, p < 3 → (ab (AL s n nm' p f)).toInt ≤ (Wf s n nm' f).toInt := by
    intro p hp
    cases hh : hsP s nm' p with
    | false =>
      have e : AL s n nm' p f = 0 := by
        unfold AL
        rw [hh]
        rfl
      rw [e]
      exact Wf_pos gd gg hst
    | true =>
      obtain ⟨m, hm, e⟩ := of_decide_eq_true hh
      have ep : pv (wF s 79 f) m = p := (nI_eq (by have := (hpv m hm).1; omega) (by omega)).mp ((hpv m hm).2.symm.trans e)
      have h1 := am_ge (sz (wF s 79 f) n) nm' m hm
      rw [hsz m hm, ep] at h1
      exact Int.not_lt.mp (fun z => h1 (Int32.lt_iff_toInt_lt.mpr z))
  have heq : ∃ p, p < 3 ∧ Wf s n nm' f = ab (AL s n nm' p f) := ⟨pv (wF s 79 f) (am (sz (wF s 79 f) n) nm'), (hpv _ (am_lt _ hN nm' (Nat.le_refl _))).1, hsz _ (am_lt _ hN nm' (Nat.le_refl _))⟩
  apply Int32.toInt_inj.mp
  have h0 := hge 0 (by decide)
  have h1 := hge 1 (by decide)
  have h2 := hge 2 (by decide)
  rw [mxI, mxI]
  obtain ⟨p, hp, e⟩ := heq
  have hp3 : p = 0 ∨ p = 1 ∨ p = 2 := by omega
  rw [e] at h0 h1 h2 ⊢
  rcases hp3 with rfl | rfl | rfl
  · split <;> split <;> omega
  · split <;> split <;> omega
  · split <;> split <;> omega
/-- the class's cells on the way -/
def CQ (s x : Mem) (nb n nm' g : Nat) (f : Nat → Int32) (st : Ss) : Prop := SmX (fun a => a = 33) s x ∧ x.1 27 7 = nI (cntN (cmr s n) n) ∧ (∀ h, h < n → cmr s n h = true → x.1 29 (cntN (cmr s n) h) = nI h) ∧ (∀ h, h < n → (h < g ∨ cmr s n h = false) → x.1 30 h = f h) ∧ (∀ k, k ≤ 9 → x.1 33 k = nI (msk (fun h => decide (f h = nI k - 1)) n)) ∧ (∀ b, b < nb → x.1 32 b = 2 - nI (tkF s n f b)) ∧ (∀ h, h < n → cmr s n h = true → ∀ b, b < nb → x.1 34 (h * 8 + b) = mS s nm' 0 h b ∧ x.1 35 (h * 8 + b) = mS s nm' 1 h b ∧ x.1 36 (h * 8 + b) = mS s nm' 2 h b) ∧ x.1 27 2 = nI st.1 ∧ x.1 27 3 = nI st.2.1 ∧ ((st.2.2.1 = none ∧ x.1 27 0 = -9) ∨ ∃ b, st.2.2.1 = some b ∧ x.1 27 0 = b.1 ∧ ∀ h, h < n → x.1 28 h = b.2 h) ∧ ∀ h, h < 7 → x.1 31 h = if cmr s n h then nI (st.2.2.2 h) else 0
theorem CQ.up {g : Nat} {f : Nat → Int32} {st : Ss} (h : CQ s x nb n nm' g f st) (hg : cmr s n g = false) : CQ s x nb n nm' (g + 1) f st := by
  obtain ⟨h1, h2, h3, h4, h5⟩ := h
  refine ⟨h1, h2, h3, fun i hi hc => h4 i hi ?_, h5⟩
  by_cases e : i = g
  · rw [e]
    exact Or.inr hg
  · exact hc.imp (fun z => by omega) id
theorem CQ.dn {g : Nat} {f : Nat → Int32} {st : Ss} (h : CQ s x nb n nm' (g + 1) f st) : CQ s x nb n nm' g f st := by
  obtain ⟨h1, h2, h3, h4, h5⟩ := h
  exact ⟨h1, h2, h3, fun i hi hc => h4 i hi (hc.imp (fun z => by omega) id), h5⟩
theorem cnt_inv {p : Nat → Bool} {i : Nat} : ∀ n, i < cntN p n → ∃ h, h < n ∧ p h = true ∧ cntN p h = i
  | 0, hi => absurd hi (Nat.not_lt_zero _)
  | n + 1, hi => by
    cases hp : p n with
    | false =>
      rw [cnt_f hp] at hi
      obtain ⟨h, h1, h2⟩ := cnt_inv n hi
      exact ⟨h, by omega, h2⟩
    | true =>
      rw [cnt_t hp] at hi
      by_cases e : i = cntN p n
      · exact ⟨n, by omega, hp, e.symm⟩
      · obtain ⟨h, h1, h2⟩ := cnt_inv (p := p) (i := i) n (by omega)
        exact ⟨h, by omega, h2⟩
theorem cnt_inj {p : Nat → Bool} {a b : Nat} (ha : p a = true) (hb : p b = true) (h : cntN p a = cntN p b) : a = b := by
  by_cases c : a < b
  · have := cnt_mono p (show a + 1 ≤ b by omega)
    rw [cnt_t ha] at this
    omega
  · by_cases c2 : b < a
    · have := cnt_mono p (show b + 1 ≤ a by omega)
      rw [cnt_t hb] at this
      omega
    · omega
theorem sm27 {y : Mem} {q j : Nat} {v : Int32} (h1 : 27 ≤ q) (h2 : q ≤ 36) : SmX (fun a => a = 33) y (wI y q j v) := SmX.wI (by unfold Cr; omega) (by omega) (by omega)
theorem note33 {y : Mem} {f : Nat → Int32} {lv : Nat → Nat} (h7 : n ≤ 7) (w : Int32) (h277 : y.1 27 7 = nI (cntN (cmr s n) n)) (h29 : ∀ h, h < n → cmr s n h = true → y.1 29 (cntN (cmr s n) h) = nI h) (h30 : ∀ h, h < n → y.1 30 h = f h) (hf : ∀ h, h < n → ∃ b : Nat, b < 8 ∧ f h = nI b) (hlv : ∀ h, h < n → lv h < 256) (h31 : ∀ h, h < 7 → y.1 31 h = if cmr s n h then nI (lv h) else 0) (κ : Mem → Option (Unit × Mem)) : ∃ z, fX8_noteSeating_L33 κ w FU 0 y = κ z ∧ Sm y z ∧ (∀ a, a ≠ 31 → z.1 a = y.1 a) ∧ ∀ h, h < 7 → z.1 31 h = if cmr s n h then nI (lv h ||| 2 ^ ix (f h)) else 0 := by
  have hcl := cntN_le (cmr s n) n
  have hcm : ∀ h, cmr s n h = true → h < n := fun h hh => (of_decide_eq_true hh).1
  have key := lp_inv0 (fun t j (z : Mem) => fX8_noteSeating_L33 κ w t (nI j) z) (fun j z => Sm y z ∧ (∀ a, a ≠ 31 → z.1 a = y.1 a) ∧ ∀ h, h < 7 → z.1 31 h = if cmr s n h then (if cntN (cmr s n) h < j then nI (lv h ||| 2 ^ ix (f h)) else nI (lv h)) else 0) (cntN (cmr s n) n) y ⟨SmX.rf y, fun _ _ => rfl, fun h hh => by rw [if_neg (Nat.not_lt_zero _)]; exact h31 h hh⟩ ?_ (by omega)
  · obtain ⟨z, t, ⟨i1, i2, i3⟩, e⟩ := key
    refine ⟨z, ?_, i1, i2, fun h hh => ?_⟩
    · have e' : fX8_noteSeating_L33 κ w FU 0 y = fX8_noteSeating_L33 κ w (t + 1) (nI (cntN (cmr s n) n)) z := e
      rw [e', fX8_noteSeating_L33, i2 27 (by decide), h277, if_neg (nI_nlt (Nat.le_refl _) (by omega))]
    · rw [i3 h hh]
      cases hc : cmr s n h with
      | false => rfl
      | true =>
        have h1 := cnt_mono (cmr s n) (show h + 1 ≤ n from hcm h hc)
        rw [cnt_t hc] at h1
        rw [if_pos (rfl : true = true), if_pos (rfl : true = true), if_pos (show cntN (cmr s n) h < cntN (cmr s n) n by omega)]
  · rintro j t z hj ⟨i1, i2, i3⟩
    show ∃ z', _ ∧ fX8_noteSeating_L33 κ w (t + 1) (nI j) z = fX8_noteSeating_L33 κ w t (nI (j + 1)) z'
    obtain ⟨g, hg, hgc, hgj⟩ := cnt_inv n hj
    obtain ⟨b, hb, eb⟩ := hf g hg
    have e29 : z.1 29 j = nI g := by rw [i2 29 (by decide), ← hgj, h29 g hg hgc]
    have e30 : z.1 30 g = nI b := by rw [i2 30 (by decide), h30 g hg, eb]
    have e31 : z.1 31 g = nI (lv g) := by rw [i3 g (by omega), hgc, if_pos (rfl : true = true), if_neg (by omega)]
    have hi : inb (nI g) 7 = true := inb_ok (by omega) (by decide)
    refine ⟨wI z 31 g (nI (lv g ||| 2 ^ ix (f g))), ⟨i1.tr (SmX.wI (by unfold Cr; omega) (by omega) (by omega)), fun a ha => by rw [wI_ne ha]; exact i2 a ha, fun h hh => ?_⟩, ?_⟩
    · rw [rdq]
      by_cases c : h = g
      · rw [if_pos c, c, hgc, if_pos (rfl : true = true), if_pos (by omega)]
      · rw [if_neg c, i3 h hh]
        cases hc : cmr s n h with
        | false => rfl
        | true =>
          have hne : cntN (cmr s n) h ≠ j := fun z => c (cnt_inj hc hgc (z.trans hgj.symm))
          rw [if_pos (rfl : true = true), if_pos (rfl : true = true)]
          by_cases c2 : cntN (cmr s n) h < j
          · rw [if_pos c2, if_pos (by omega)]
          · rw [if_neg c2, if_neg (by omega)]
    · rw [fX8_noteSeating_L33, i2 27 (by decide), h277, if_pos (nI_lt hj (by omega)), if_pos (inb_ok (by omega) (by decide)), ix_nI (show j < 2 ^ 31 by omega), nm_eq, e29, if_pos hi, if_pos hi, if_pos hi, ix_nI (show g < 2 ^ 31 by omega), e31, e30, b_one b hb, (b_or8 b hb _ (hlv g hg)).1, eb, ix_nI (by omega), nI_1]
theorem noteS (gd : Gd s nb n) (gg : Gg s nm') {f : Nat → Int32} {st : Ss} (hf : ∀ h, h < n → ∃ b : Nat, b < nb ∧ f h = nI b) (hs : SsOk n st) (hx : CQ s x nb n nm' n f st) : ∃ x', fX8_noteSeating (Wf s n nm' f) x = some ((), x') ∧ CQ s x' nb n nm' n f (lfS (Wf s n nm') (lvW s) f st) := by
  have h7 := gd.ln
  have h8 := gd.lb
  have hst : ∀ g, g < n → StOk nb (f g) := fun g hg => Or.inr (hf g hg)
  have hwp := Wf_pos gd gg hst
  obtain ⟨c1, c2, c3, c4, c5, c6, c7, c8, c9, c10, c11⟩ := hx
  have hf8 : ∀ h, h < n → ∃ b : Nat, b < 8 ∧ f h = nI b := fun h hh => by
    obtain ⟨b, hb, e⟩ := hf h hh
    exact ⟨b, by omega, e⟩
  have gdy : Gd (wI x 27 2 (nI (st.1 + 1))) nb n := Gd_keep (c1.tr (sm27 (by decide) (by decide))) (fun a ha => by omega) gd
  have hlvy : lev (wI x 27 2 (nI (st.1 + 1))) (Wf s n nm' f) = lev s (Wf s n nm' f) := by
    unfold lev
    have : (wI x 27 2 (nI (st.1 + 1))).1 68 17 = s.1 68 17 := c1.2.1 17 (by unfold Cf; omega) (by omega)
    rw [this]
  have i07 : ix 7 = 7 := by decide
  have i00 : ix 0 = 0 := by decide
  have cond : ¬ (0 : Int32) < 0 ∧ ¬ (0 : Int32) < 0 ∧ ¬ (7 : Int32) < 0 ∧ 0 + 7 ≤ 7 ∧ 0 + 7 ≤ 7 := by decide
  -- the end: better or not
  have fin : ∀ (z : Mem) (thr : Nat) (lv : Nat → Nat), SmX (fun a => a = 33) s z → (∀ a, a ≠ 27 → a ≠ 31 → z.1 a = x.1 a) → z.1 27 7 = x.1 27 7 → z.1 27 2 = nI (st.1 + 1) → z.1 27 3 = nI thr → z.1 27 0 = x.1 27 0 → (∀ h, h < 7 → z.1 31 h = if cmr s n h then nI (lv h) else 0) → lfS (Wf s n nm') (lvW s) f st = (st.1 + 1, thr, bsS (Wf s n nm' f) f st.2.2.1, lv) → ∃ x', (if (z.1 27 0) = (-9) then
      if ¬ (0 : Int32) < 0 ∧ ¬ (0 : Int32) < 0 ∧ ¬ (7 : Int32) < 0 ∧ ix 0 + ix 7 ≤ 7 ∧ ix 0 + ix 7 ≤ 7 then
      some ((), wF (wI z 27 0 (Wf s n nm' f)) 28 (va_cpy ((wI z 27 0 (Wf s n nm' f)).1 30) ((wI z 27 0 (Wf s n nm' f)).1 28) (ix 0) (ix 0) (ix 7)))
      else none
    else
      if (Wf s n nm' f) < (z.1 27 0) then
        if ¬ (0 : Int32) < 0 ∧ ¬ (0 : Int32) < 0 ∧ ¬ (7 : Int32) < 0 ∧ ix 0 + ix 7 ≤ 7 ∧ ix 0 + ix 7 ≤ 7 then
        some ((), wF (wI z 27 0 (Wf s n nm' f)) 28 (va_cpy ((wI z 27 0 (Wf s n nm' f)).1 30) ((wI z 27 0 (Wf s n nm' f)).1 28) (ix 0) (ix 0) (ix 7)))
        else none
      else
        some ((), z)) = some ((), x') ∧ CQ s x' nb n nm' n f (lfS (Wf s n nm') (lvW s) f st) := by
    intro z thr lv k1 k2 k3 k4 k5 k6 k7 k8
    rw [i07, i00, if_pos cond, k6, k8]
    have z30 : ∀ h, h < n → z.1 30 h = f h := fun h hh => by rw [k2 30 (by decide) (by decide)]; exact c4 h hh (Or.inl hh)
    have new : CQ s (wF (wI z 27 0 (Wf s n nm' f)) 28 (va_cpy ((wI z 27 0 (Wf s n nm' f)).1 30) ((wI z 27 0 (Wf s n nm' f)).1 28) 0 0 7)) nb n nm' n f (st.1 + 1, thr, some (Wf s n nm' f, f), lv) := by
      have q : ∀ a, a ≠ 27 → a ≠ 28 → a ≠ 31 → (wF (wI z 27 0 (Wf s n nm' f)) 28 (va_cpy ((wI z 27 0 (Wf s n nm' f)).1 30) ((wI z 27 0 (Wf s n nm' f)).1 28) 0 0 7)).1 a = x.1 a := fun a w1 w2 w3 => by rw [wF_ne w2, wI_ne w1, k2 a w1 w3]
      refine ⟨(k1.tr (sm27 (by decide) (by decide))).tr (SmX.wF (by unfold Cr; omega) (by decide) (by decide)), ?_, ?_, ?_, ?_, ?_, ?_, k4, k5, Or.inr ⟨(Wf s n nm' f, f), rfl, rfl, fun h hh => ?_⟩, k7⟩
      · show z.1 27 7 = _
        rw [k3]
        exact c2
      · rw [q 29 (by decide) (by decide) (by decide)]
        exact c3
      · rw [q 30 (by decide) (by decide) (by decide)]
        exact c4
      · rw [q 33 (by decide) (by decide) (by decide)]
        exact c5
      · rw [q 32 (by decide) (by decide) (by decide)]
        exact c6
      · rw [q 34 (by decide) (by decide) (by decide), q 35 (by decide) (by decide) (by decide), q 36 (by decide) (by decide) (by decide)]
        exact c7
      · rw [rd_wF, if_pos rfl]
        unfold va_cpy
        rw [if_pos (by omega), Nat.zero_add, Nat.sub_zero, wI_ne (by decide)]
        exact z30 h hh
    rcases c10 with ⟨e1, e2⟩ | ⟨b, e1, e2, e3⟩
    · rw [e2, if_pos rfl, e1]
      exact ⟨_, rfl, new⟩
    · have hne : ¬ b.1 = -9 := fun w => by
        have h := hs.2.1 b e1
        rw [w] at h
        exact absurd h (by decide)
      have hbe : bsS (Wf s n nm' f) f st.2.2.1 = if Wf s n nm' f < b.1 then some (Wf s n nm' f, f) else some b := by
        rw [e1]
        rfl
      rw [e2, if_neg hne, hbe]
      by_cases c : Wf s n nm' f < b.1
      · rw [if_pos c, if_pos c]
        exact ⟨_, rfl, new⟩
      · rw [if_neg c, if_neg c]
        refine ⟨z, rfl, k1, by rw [k3]; exact c2, ?_, ?_, ?_, ?_, ?_, k4, k5, Or.inr ⟨b, rfl, by rw [k6]; exact e2, ?_⟩, k7⟩
        · rw [k2 29 (by decide) (by decide)]
          exact c3
        · rw [k2 30 (by decide) (by decide)]
          exact c4
        · rw [k2 33 (by decide) (by decide)]
          exact c5
        · rw [k2 32 (by decide) (by decide)]
          exact c6
        · rw [k2 34 (by decide) (by decide), k2 35 (by decide) (by decide), k2 36 (by decide) (by decide)]
          exact c7
        · rw [k2 28 (by decide) (by decide)]
          exact e3
  unfold fX8_noteSeating
  rw [c8, nI_1, isLevel_ok gdy, bnd_some, hlvy]
  by_cases c : lev s (Wf s n nm' f) = 0
  · have hl : lvW s (Wf s n nm' f) = false := decide_eq_false (fun z => z c)
    rw [if_pos c]
    refine fin (wI x 27 2 (nI (st.1 + 1))) st.2.1 st.2.2.2 (c1.tr (sm27 (by decide) (by decide))) (fun a w1 _ => wI_ne w1) rfl rfl c9 rfl c11 ?_
    unfold lfS
    rw [hl]
    rfl
  · have hl : lvW s (Wf s n nm' f) = true := decide_eq_true c
    have r3 : (wI x 27 2 (nI (st.1 + 1))).1 27 3 = nI st.2.1 := c9
    rw [if_neg c, r3, nI_1]
    obtain ⟨z, ez, m1, m2, m3⟩ := note33 (s := s) (y := wI (wI x 27 2 (nI (st.1 + 1))) 27 3 (nI (st.2.1 + 1))) (f := f) (lv := st.2.2.2) h7 (Wf s n nm' f) c2 c3 (fun h hh => c4 h hh (Or.inl hh)) hf8 (fun h hh => hs.2.2.2 h hh) c11 (fun s12 => if (s12.1 27 0) = (-9) then
      if ¬ (0 : Int32) < 0 ∧ ¬ (0 : Int32) < 0 ∧ ¬ (7 : Int32) < 0 ∧ ix 0 + ix 7 ≤ 7 ∧ ix 0 + ix 7 ≤ 7 then
      some ((), wF (wI s12 27 0 (Wf s n nm' f)) 28 (va_cpy ((wI s12 27 0 (Wf s n nm' f)).1 30) ((wI s12 27 0 (Wf s n nm' f)).1 28) (ix 0) (ix 0) (ix 7)))
      else none
    else
      if (Wf s n nm' f) < (s12.1 27 0) then
        if ¬ (0 : Int32) < 0 ∧ ¬ (0 : Int32) < 0 ∧ ¬ (7 : Int32) < 0 ∧ ix 0 + ix 7 ≤ 7 ∧ ix 0 + ix 7 ≤ 7 then
        some ((), wF (wI s12 27 0 (Wf s n nm' f)) 28 (va_cpy ((wI s12 27 0 (Wf s n nm' f)).1 30) ((wI s12 27 0 (Wf s n nm' f)).1 28) (ix 0) (ix 0) (ix 7)))
        else none
      else
        some ((), s12))
    rw [ez]
    have z27 : z.1 27 = (wI (wI x 27 2 (nI (st.1 + 1))) 27 3 (nI (st.2.1 + 1))).1 27 := m2 27 (by decide)
    refine fin z (st.2.1 + 1) (fun h => st.2.2.2 h ||| 2 ^ ix (f h)) (((c1.tr (sm27 (by decide) (by decide))).tr (sm27 (by decide) (by decide))).tr m1.to) (fun a w1 w2 => by rw [m2 a w2, wI_ne w1, wI_ne w1]) (by rw [z27]; rfl) (by rw [z27]; rfl) (by rw [z27]; rfl) (by rw [z27]; rfl) m3 ?_
    unfold lfS
    rw [hl]
    rfl
end SC1
