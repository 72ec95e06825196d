-- seatings: best, ways, sure, where
section SC4
variable {s x y z : Mem} {nb n nq nm' : Nat}
theorem Inv_33 (hI : Inv s) (h : SmX (fun a => a = 33) s x) (h0 : x.1 33 0 = 0) (h9 : x.1 33 9 = 0) : Inv x := by
  obtain ⟨nb, n, nq, nm, nd, ga, gb, gc, gd, ge, gf, gg, gh, gi, gj⟩ := hI
  refine ⟨nb, n, nq, nm, nd, Ga_keep h (fun a ha => by omega) ga, Gb_keep h (fun a ha => by omega) gb, Gc_keep h (fun a ha => by omega) gc, Gd_keep h (fun a ha => by omega) gd, Ge_keep h (fun a ha => by omega) ge, Gf_keep h (fun a ha => by omega) gf, Gg_keep h (fun a ha => by omega) gg, Gh_keep h (fun a ha => by omega) gh, Gi_keep h (fun a ha => by omega) gi, ?_, h0, h9⟩
  rw [h.1 45 (by unfold Cr; omega) (by omega)]
  exact gj.1
theorem CQ_33 (gd : Gd s nb n) {st : Ss} (h : CQ s x nb n nm' 0 (s.1 79) st) : x.1 33 0 = 0 ∧ x.1 33 9 = 0 := by
  have h8 := gd.lb
  have nobody : ∀ w : Int32, (∀ h, h < n → s.1 79 h ≠ w) → nI (msk (fun h => decide (s.1 79 h = w)) n) = 0 := fun w hw => by
    rw [msk_cong (q := fun _ => false) (fun h hh => decide_eq_false (hw h hh)), msk_zero (fun _ => rfl)]
    rfl
  constructor
  · rw [h.2.2.2.2.1 0 (by decide), show nI 0 - 1 = -1 from by decide]
    refine nobody _ (fun h hh w => ?_)
    rcases gd.sts h hh with e | ⟨b, hb, e⟩
    · rw [e] at w
      exact absurd w (by decide)
    · rw [e] at w
      have := nI_nonneg (k := b) (by omega)
      rw [w] at this
      exact this m1_neg
  · rw [h.2.2.2.2.1 9 (by decide), show nI 9 - 1 = nI 8 from by decide]
    refine nobody _ (fun h hh w => ?_)
    rcases gd.sts h hh with e | ⟨b, hb, e⟩
    · rw [e] at w
      exact m9_nI (by decide) w
    · rw [e] at w
      have := (nI_eq (by omega) (by decide)).mp w
      omega
theorem cnt_compl (p : Nat → Bool) : ∀ n, cntN (fun i => !(p i)) n + cntN p n = n
  | 0 => rfl
  | n + 1 => by
    have := cnt_compl p n
    rw [cntN, cntN]
    cases p n <;> simp <;> omega
theorem st_le (gd : Gd s nb n) (h5 : n ≤ cntN (std s) n + 5) : (ST s nb n nq nm').1 ≤ 32768 := by
  have hc := cnt_compl (std s) n
  have h1 := lay_le gd.lb (may := mayS s n nq) (W := Wf s n nm') (lvl := lvW s) n 0 (s.1 79) (0, 0, none, fun _ => 0) (cntN (fun i => !(std s i)) n) (fun f' hf => cntN_cong (fun i _ => by
    show decide (f' (0 + i) = -9) = !(std s i)
    unfold std
    rw [Nat.zero_add, hf i (Nat.zero_le _), decide_not, Bool.not_not]))
  have h2 : 8 ^ cntN (fun i => !(std s i)) n ≤ 8 ^ 5 := Nat.pow_le_pow_right (by decide) (by omega)
  have h3 : (ST s nb n nq nm').1 ≤ 0 + 8 ^ cntN (fun i => !(std s i)) n := h1
  omega
def X4 (a : Nat) : Prop := a = 2 ∨ a = 33 ∨ (48 ≤ a ∧ a ≤ 59) ∨ a = 3000
theorem ST_eq (h : SmX X4 s z) : ST z nb n nq nm' = ST s nb n nq nm' := by
  unfold X4 at h
  have k : ∀ q, 70 ≤ q → Cr q → z.1 q = s.1 q := fun q w1 w2 => h.1 q w2 (by
    unfold Cr at w2
    omega)
  have f : ∀ j, Cf j → z.1 68 j = s.1 68 j := fun j w => h.2.1 j w (by
    unfold Cf at w
    omega)
  have k75 := k 75 (by decide) (by unfold Cr; omega)
  have k76 := k 76 (by decide) (by unfold Cr; omega)
  have k77 := k 77 (by decide) (by unfold Cr; omega)
  have k79 := k 79 (by decide) (by unfold Cr; omega)
  have k80 := k 80 (by decide) (by unfold Cr; omega)
  have k85 := k 85 (by decide) (by unfold Cr; omega)
  have k86 := k 86 (by decide) (by unfold Cr; omega)
  have e1 : mayS z n nq = mayS s n nq := by
    funext f' g b
    unfold mayS
    rw [k76, k85, k86]
  have e2 : Wf z n nm' = Wf s n nm' := by
    funext f'
    have e : sz (wF z 79 f') n = sz (wF s 79 f') n := by
      funext m
      unfold sz
      rw [mv_eq (s := wF s 79 f') (s' := wF z 79 f') k75 k76 k77 rfl k80 (f 18 (by unfold Cf; omega))]
    unfold Wf
    rw [e]
  have e3 : lvW z = lvW s := by
    funext w
    unfold lvW lev
    rw [f 17 (by unfold Cf; omega)]
  unfold ST
  rw [e1, e2, e3, k79]
theorem nd49 (κ : Mem → Option (Int32 × Mem)) : ∃ z, fX12_needSeatings_L49 κ FU 0 x = κ z ∧ Sm x z ∧ (∀ a, a ≠ 91 → z.1 a = x.1 a) ∧ ∀ i, i < 7 → z.1 91 i = 0 := by
  have key := lp_inv0 (fun t j (y : Mem) => fX12_needSeatings_L49 κ t (nI j) y) (fun j y => Sm x y ∧ (∀ a, a ≠ 91 → y.1 a = x.1 a) ∧ ∀ i, i < j → y.1 91 i = 0) 7 x ⟨SmX.rf x, fun _ _ => rfl, fun i hi => absurd hi (by omega)⟩ ?_ (by omega)
  · obtain ⟨y, t, i1, e⟩ := key
    refine ⟨y, ?_, i1⟩
    have e' : fX12_needSeatings_L49 κ FU 0 x = fX12_needSeatings_L49 κ (t + 1) (nI 7) y := e
    rw [e', fX12_needSeatings_L49, if_neg (by decide)]
  · rintro j t y hj ⟨i1, i2, i3⟩
    show ∃ y', _ ∧ fX12_needSeatings_L49 κ (t + 1) (nI j) y = fX12_needSeatings_L49 κ t (nI (j + 1)) y'
    refine ⟨wI y 91 j 0, ⟨i1.tr (sm90 (by decide) (by decide)), fun a ha => by rw [wI_ne ha, i2 a ha], fun i hi => ?_⟩, ?_⟩
    · rw [rdq]
      by_cases c : i = j
      · rw [if_pos c]
      · rw [if_neg c, i3 i (by omega)]
    · rw [fX12_needSeatings_L49, if_pos ((lt_num (b := 7) (by omega) (by decide)).mpr hj), if_pos (inb_ok hj (by decide)), ix_nI (by omega), nI_1]
theorem nds (gd : Gd y nb n) (gg : Gg y nm') (gf : Gf y n nq) (hn : nb ≠ 0) (h5 : n ≤ cntN (std y) n + 5) : ∃ x', fX12_needSeatings 1 y = some (0, x') ∧ Sm y x' ∧ RQs y x' n (y.1 79) (ST y nb n nq nm') := by
  have h7 := gd.ln
  have h8 := gd.lb
  have hc := cntN_le (std y) n
  have nz : ¬ y.1 68 10 = 0 := by
    rw [gd.b68]
    exact fun z => hn ((eq_num (b := 0) (by omega) (by decide)).mp z)
  have nl : ¬ (5 : Int32) < nI n - nI (cntN (std y) n) := by
    rw [pk_sub hc]
    exact fun z => by
      have := (num_lt (b := 5) (by omega) (by decide)).mp z
      omega
  have s0 : Sm y (wI (wI (wI y 68 37 0) 68 38 0) 68 39 (-1)) := ((sm53 (by decide)).tr (sm53 (by decide))).tr (sm53 (by decide))
  obtain ⟨z, ez, sz0, oz, v91⟩ := nd49 (x := wI (wI (wI y 68 37 0) 68 38 0) 68 39 (-1)) (fun s8 => bnd (fX12_laySeatings 9 0 s8) (fun r9 s10 => some ((0 : Int32), s10)))
  have o68 := oz 68 (by decide)
  have s1 : Sm y z := s0.tr sz0
  have rq : RQs y z n (y.1 79) (0, 0, none, fun _ => 0) := by
    refine ⟨s1.to, s1.1 79 (by unfold Cr; omega) id, ?_, ?_, Or.inl ⟨rfl, ?_⟩, fun h hh => ?_⟩
    · rw [o68]
      rfl
    · rw [o68]
      rfl
    · rw [o68]
      rfl
    · rw [v91 h (by omega)]
      rfl
  have so : SsOk n ((0, 0, none, fun _ => 0) : Ss) := ⟨Nat.le_refl _, (fun b hb => by cases hb), ⟨fun _ => rfl, fun _ => rfl⟩, (fun _ _ => (by decide : (0 : Nat) < 256))⟩
  obtain ⟨x', ex, rx, ox⟩ := layS_R gd gg gf n 0 (y.1 79) (0, 0, none, fun _ => 0) 9 z (by omega) (by omega) gd.sts (fun h hh => absurd hh (by omega)) so rq
  have ex' : fX12_laySeatings 9 0 z = some ((), x') := ex
  refine ⟨x', ?_, ?_, rx⟩
  · unfold fX12_needSeatings
    rw [if_neg one_ne, if_neg nz, seatedMany_ok gd.g68 h7, bnd_some, gd.g68, if_neg nl, ez, ex', bnd_some]
  · obtain ⟨j1, j2, _⟩ := rx
    refine ⟨fun a ha _ => ?_, fun j hj _ => j1.2.1 j hj (by omega), fun j _ => j1.2.2.1 j (by omega), fun _ => j1.2.2.2 (by omega)⟩
    by_cases e : a = 79
    · rw [e, j2]
    · exact j1.1 a ha e
theorem refgo (gd : Gd s nb n) (gg : Gg s nm') (gf : Gf s n nq) (hn : nb ≠ 0) (h5 : n ≤ cntN (std s) n + 5) (h : SmX X4 s z) : ∃ x', fX12_needSeatings 1 z = some (0, x') ∧ Sm z x' ∧ RQs z x' n (s.1 79) (ST s nb n nq nm') := by
  have hs := ST_eq (nb := nb) (n := n) (nq := nq) (nm' := nm') h
  unfold X4 at h
  have k79 : z.1 79 = s.1 79 := h.1 79 (by unfold Cr; omega) (by omega)
  have es : std z = std s := by
    funext g
    unfold std
    rw [k79]
  have := nds (Gd_keep h (fun a ha => by omega) gd) (Gg_keep h (fun a ha => by omega) gg) (Gf_keep h (fun a ha => by omega) gf) hn (by rw [es]; exact h5)
  rw [hs, k79] at this
  exact this
theorem refs (gd : Gd s nb n) (ge : Ge s nb n) : (∃ v : Int32, v < 0 ∧ ¬ v = 0 ∧ fX11_seatingsRefused s = some (v, s) ∧ fX12_needSeatings 1 s = some (v, s)) ∨ (nb ≠ 0 ∧ n ≤ cntN (std s) n + 5 ∧ fX11_seatingsRefused s = some (0, s)) := by
  have h7 := gd.ln
  have h8 := gd.lb
  have hc := cntN_le (std s) n
  unfold fX11_seatingsRefused fX12_needSeatings
  rw [if_neg one_ne, gd.b6, gd.b68]
  by_cases e : nb = 0
  · refine Or.inl ⟨-4, by decide, by decide, ?_, ?_⟩
    · rw [if_pos (by rw [e]; rfl)]
    · rw [if_pos (by rw [e]; rfl)]
  · have nz : ¬ nI nb = 0 := fun z => e ((eq_num (b := 0) (by omega) (by decide)).mp z)
    rw [if_neg nz, if_neg nz, seatedCount_ok gd ge, bnd_some, seatedMany_ok gd.g68 h7, bnd_some, gd.g6, gd.g68, pk_sub hc]
    by_cases c : 5 < n - cntN (std s) n
    · have l : (5 : Int32) < nI (n - cntN (std s) n) := (num_lt (b := 5) (by omega) (by decide)).mpr c
      exact Or.inl ⟨-6, by decide, by decide, by rw [if_pos l], by rw [if_pos l]⟩
    · have l : ¬ (5 : Int32) < nI (n - cntN (std s) n) := fun z => c ((num_lt (b := 5) (by omega) (by decide)).mp z)
      exact Or.inr ⟨e, by omega, by rw [if_neg l]⟩
theorem lb31 {h : Nat} (hh : h < 7) : fX8_levelBenches (nI h) x = some (x.1 31 h, x) := by
  unfold fX8_levelBenches
  rw [if_neg (nI_nonneg (by omega)), if_pos ((lt_num (b := 7) (by omega) (by decide)).mpr hh), if_pos (inb_ok hh (by decide)), ix_nI (by omega)]
theorem pc_256 : ∀ m, m < 256 → pcN m ≤ 8 := by decide +kernel
def eS (s : Mem) (n : Nat) (lv : Nat → Nat) (h : Nat) : Nat := if cmr s n h then lv h else 0
def sS (s : Mem) (n : Nat) (lv : Nat → Nat) (h : Nat) : Bool := decide (pcN (eS s n lv h) = 1)
theorem sure22 {lv : Nat → Nat} (h61 : x.1 6 1 = nI n) (h7 : n ≤ 7) (hlv : ∀ h, h < n → lv h < 256) (h31 : ∀ h, h < 7 → x.1 31 h = if cmr s n h then nI (lv h) else 0) (κ : Int32 → Mem → Option (Int32 × Mem)) : fX11_sure_L22 κ FU 0 0 x = κ (nI (msk (sS s n lv) n)) x := by
  have key := lp0 (fun k j => fX11_sure_L22 κ k (nI (msk (sS s n lv) j)) (nI j) x) (κ (nI (msk (sS s n lv) n)) x) n ?_ ?_ (by omega)
  · exact key
  · intro j k hj
    show fX11_sure_L22 κ (k + 1) _ (nI j) x = fX11_sure_L22 κ k _ (nI (j + 1)) x
    have e1 : x.1 31 j = nI (eS s n lv j) := by
      rw [h31 j (by omega)]
      unfold eS
      split <;> rfl
    have e2 : eS s n lv j < 256 := by
      unfold eS
      split
      · exact hlv j hj
      · decide
    have e3 := pc_256 _ e2
    rw [fX11_sure_L22, h61, if_pos (nI_lt hj (by omega)), lb31 (by omega), bnd_some, e1, bc_256 _ e2, bnd_some, nm_eq, nI_1, msk]
    by_cases c : pcN (eS s n lv j) = 1
    · rw [if_pos ((eq_num (b := 1) (by omega) (by decide)).mpr c), if_pos (show sS s n lv j = true from decide_eq_true c), msk_or (by omega)]
    · rw [if_neg (fun z => c ((eq_num (b := 1) (by omega) (by decide)).mp z)), if_neg (by rw [show sS s n lv j = false from decide_eq_false c]; decide)]
      rfl
  · intro k
    show fX11_sure_L22 κ (k + 1) _ (nI n) x = _
    rw [fX11_sure_L22, h61, if_neg (nI_nlt (Nat.le_refl n) (by omega))]
theorem sure16 {lv : Nat → Nat} (h12 : x.1 68 12 = nI n) (h7 : n ≤ 7) (h79 : x.1 79 = s.1 79) (hlv : ∀ h, h < n → lv h < 256) (h91 : ∀ h, h < n → x.1 91 h = nI (lv h)) (κ : Int32 → Mem → Option (Int32 × Mem)) : fX12_sure_L16 κ FU 0 0 x = κ (nI (msk (sS s n lv) n)) x := by
  have key := lp0 (fun k j => fX12_sure_L16 κ k (nI (msk (sS s n lv) j)) (nI j) x) (κ (nI (msk (sS s n lv) n)) x) n ?_ ?_ (by omega)
  · exact key
  · intro j k hj
    show fX12_sure_L16 κ (k + 1) _ (nI j) x = fX12_sure_L16 κ k _ (nI (j + 1)) x
    rw [fX12_sure_L16, h12, if_pos (nI_lt hj (by omega)), if_pos (inb_ok (show j < 8 by omega) (by decide)), ix_nI (by omega), h79, nI_1, msk]
    by_cases c9 : s.1 79 j = -9
    · have e1 : eS s n lv j = lv j := if_pos (decide_eq_true ⟨hj, c9⟩)
      have e3 := pc_256 _ (hlv j hj)
      rw [if_pos c9, if_pos (inb_ok (show j < 7 by omega) (by decide)), h91 j hj, bits_256 (hlv j hj), bnd_some, nm_eq, nm_eq, Int32.or_zero]
      by_cases c : pcN (lv j) = 1
      · rw [if_pos ((eq_num (b := 1) (by omega) (by decide)).mpr c), if_pos (show sS s n lv j = true from decide_eq_true (by rw [e1]; exact c)), msk_or (by omega)]
      · rw [if_neg (fun z => c ((eq_num (b := 1) (by omega) (by decide)).mp z)), if_neg (by rw [show sS s n lv j = false from decide_eq_false (by rw [e1]; exact c)]; decide)]
        rfl
    · have e1 : eS s n lv j = 0 := if_neg (by rw [show cmr s n j = false from decide_eq_false (fun z => c9 z.2)]; decide)
      rw [if_neg c9, nm_eq, Int32.or_zero, if_neg (by rw [show sS s n lv j = false from decide_eq_false (by rw [e1]; decide)]; decide)]
      rfl
  · intro k
    show fX12_sure_L16 κ (k + 1) _ (nI n) x = _
    rw [fX12_sure_L16, h12, if_neg (nI_nlt (Nat.le_refl n) (by omega))]
theorem best37 {r : Nat} (hr : r < 6) (h7 : n ≤ 7) (h : x.1 68 12 = nI n) (κ : Mem → Option (Int32 × Mem)) : fX12_best_L37 κ (nI r) FU 0 x = κ (wF x 71 (rF x 90 r n 60)) := by
  have key := lp0 (fun k j => fX12_best_L37 κ (nI r) k (nI j) (wF x 71 (rF x 90 r n j))) (κ (wF x 71 (rF x 90 r n 60))) 60 ?_ ?_ (by omega)
  · rw [← key]
    show _ = fX12_best_L37 κ (nI r) FU (nI 0) (wF x 71 (rF x 90 r n 0))
    rw [rF_0, wF_self]
    rfl
  · intro j k hj
    show fX12_best_L37 κ (nI r) (k + 1) (nI j) _ = fX12_best_L37 κ (nI r) k (nI (j + 1)) _
    have h12 : ∀ F, (wF x 71 F).1 68 12 = nI n := fun F => h
    have h90 : ∀ F, (wF x 71 F).1 90 = x.1 90 := fun F => rfl
    rw [fX12_best_L37, if_pos ((lt_num (b := 60) (by omega) (by decide)).mpr hj), h12, six0, if_pos (inb_ok (show 60 * r + j < 360 by omega) (by decide)), if_pos (inb_ok (show 60 * r + j < 360 by omega) (by decide)), ix_nI (show 60 * r + j < 2 ^ 31 by omega), ix_nI (show j < 2 ^ 31 by omega), h90, nI_1, wI_wF, wI_wF, ← rF_s]
    by_cases e : j < n
    · rw [if_pos (nI_lt e (by omega)), if_pos (inb_ok (by omega) (by decide)), if_pos e]
    · rw [if_neg (nI_nlt (by omega) (by omega)), if_neg e]
  · intro k
    show fX12_best_L37 κ (nI r) (k + 1) (nI 60) _ = _
    rw [fX12_best_L37, if_neg (by decide)]
theorem Sm_L {a b : Mem} (h : Sm a b) (q j : Nat) (v : Int64) : Sm (wL a q j v) (wL b q j v) := by
  refine ⟨h.1, h.2.1, h.2.2.1, fun _ => ?_⟩
  unfold wL
  rw [h.2.2.2 id]
theorem lt16 {b : Nat} (h : b < 65536) : b < 2 ^ 16 := h
theorem share_big {a b : Nat} (ha : a < 65536) (hb : b < 65536) (h0 : 0 < b) (s : Mem) : fX10_share (nI a) (nI b) s = some ((), wL (wL s 2 1 (up a b)) 2 2 (dn a b)) := by
  unfold fX10_share fX10_greatestDivisor
  have hg := gcd1 (fun v4 s5 => some (v4, s5)) s 16 FU a b 0 (by omega) (by omega) (lt16 hb) (by decide) (by decide)
  rw [show (0 : Int32) = nI 0 from rfl, hg, bnd_some]
  by_cases h : a = 0
  · subst h
    rw [if_neg (nI_nlt (Nat.le_refl 0) (by decide))]
    unfold up dn
    rw [Nat.gcd_zero_left, Nat.zero_div, Nat.div_self h0]
    rfl
  · have hp : 0 < Nat.gcd a b := Nat.gcd_pos_of_pos_right a h0
    have hle : Nat.gcd a b ≤ b := Nat.gcd_le_right a h0
    have hne : ¬ nI (Nat.gcd a b) = nI 0 := fun z => by
      have := (nI_eq (by omega) (by decide)).mp z
      omega
    rw [if_pos (nI_lt (by omega) (by omega)), if_pos (nI_lt h0 (by omega)), if_pos (nI_lt hp (by omega)), if_neg hne, if_neg hne, nI_quo (by omega) (by omega), nI_quo (by omega) (by omega)]
    rfl
theorem share_nil (s : Mem) : fX10_share (nI 0) (nI 0) s = some ((), wL (wL s 2 1 (up 0 1)) 2 2 (dn 0 1)) := by
  unfold fX10_share fX10_greatestDivisor
  have hg := gcd1 (fun v4 s5 => some (v4, s5)) s 16 FU 0 0 0 (by omega) (by omega) (lt16 (by decide)) (by decide) (by decide)
  rw [show (0 : Int32) = nI 0 from rfl, hg, bnd_some, if_neg (nI_nlt (Nat.le_refl 0) (by decide))]
  unfold up dn
  rw [Nat.gcd_zero_left, Nat.zero_div, Nat.div_self (by decide)]
  rfl
theorem fraction_big {a b : Nat} (ha : a < 65536) (hb : b < 65536) (h0 : 0 < b) (r : Int32) (s : Mem) : fX12_fraction (nI a) (nI b) r s = some (r, wL (wL s 68 3 (up a b)) 68 4 (dn a b)) := by
  unfold fX12_fraction
  rw [gcd2 _ (nI a) (nI b) r s 16 FU a b (by omega) (by omega) (lt16 hb) (by decide)]
  have hp : 0 < Nat.gcd a b := Nat.gcd_pos_of_pos_right a h0
  have hle : Nat.gcd a b ≤ b := Nat.gcd_le_right a h0
  have hne : ¬ nI (Nat.gcd a b) = 0 := fun z => by
    have := (nI_eq (b := 0) (by omega) (by decide)).mp z
    omega
  rw [if_neg hne, if_neg hne, nI_quo (by omega) (by omega), nI_quo (by omega) (by omega)]
  rfl
end SC4
/-- the class's search, and what stands behind it -/
theorem cgo {s : Mem} {nb n nq nm' : Nat} (hI : Inv s) (gd : Gd s nb n) (ge : Ge s nb n) (gg : Gg s nm') (gf : Gf s n nq) : ∃ x, fX8_search s = some ((), x) ∧ Inv x ∧ SmX (fun a => a = 33) s x ∧ SmX X4 s x ∧ CQ s x nb n nm' 0 (s.1 79) (ST s nb n nq nm') ∧ SsOk n (ST s nb n nq nm') := by
  obtain ⟨_, _, _, _, _, _, _, _, _, _, _, _, _, _, gj⟩ := id hI
  obtain ⟨x, ex, cx, ox⟩ := searchS gd ge gg gf gj
  obtain ⟨z0, z9⟩ := CQ_33 gd cx
  exact ⟨x, ex, Inv_33 hI cx.1 z0 z9, cx.1, cx.1.mono (fun a ha => by unfold X4; omega), cx, ox⟩
theorem al_ways : Alike fX11_ways fX12_ways := by
  intro s hI
  obtain ⟨nb, n, nq, nm, nd, ga, gb, gc, gd, ge, gf, gg, gh, gi, gj⟩ := id hI
  unfold fX11_ways fX12_ways
  rcases refs gd ge with ⟨v, v1, v2, e1, e2⟩ | ⟨hn, h5, e1⟩
  · exact ⟨v, s, s, by rw [e1, bnd_some, if_neg v2], by rw [e2, bnd_some, if_pos v1], hI⟩
  · obtain ⟨x, ex, hIx, mx, m4, cx, ox⟩ := cgo hI gd ge gg gf
    have hle := st_le (nq := nq) (nm' := nm) gd h5
    have ht := ox.1
    have c2 : x.1 27 2 = nI (ST s nb n nq nm).1 := cx.2.2.2.2.2.2.2.1
    have c3 : x.1 27 3 = nI (ST s nb n nq nm).2.1 := cx.2.2.2.2.2.2.2.2.1
    have fin : ∀ u d : Int64, fX10_share (x.1 27 3) (x.1 27 2) x = some ((), wL (wL x 2 1 u) 2 2 d) → (∀ x', x'.1 68 37 = x.1 27 2 → x'.1 68 38 = x.1 27 3 → (if (x'.1 68 37) = 0 then bnd (fX12_fraction (x'.1 68 38) 1 (x'.1 68 38) x') (fun r5 s6 => some (r5, s6)) else bnd (fX12_fraction (x'.1 68 38) (x'.1 68 37) (x'.1 68 38) x') (fun r7 s8 => some (r7, s8))) = some (x'.1 68 38, wL (wL x' 68 3 u) 68 4 d)) → ∃ (r : Int32) (s1 s2 : Mem), (bnd (fX11_seatingsRefused s) (fun r1 s2 => if r1 = 0 then bnd (fX8_search s2) (fun r4 s5 => bnd (fX10_share (s5.1 27 3) (s5.1 27 2) s5) (fun r6 s7 => some (s7.1 27 3, s7))) else some (r1, s2))) = some (r, s1) ∧ (bnd (fX12_needSeatings 1 s1) (fun r1 s2 => if r1 < 0 then some (r1, s2) else if (s2.1 68 37) = 0 then bnd (fX12_fraction (s2.1 68 38) 1 (s2.1 68 38) s2) (fun r5 s6 => some (r5, s6)) else bnd (fX12_fraction (s2.1 68 38) (s2.1 68 37) (s2.1 68 38) s2) (fun r7 s8 => some (r7, s8)))) = some (r, s2) ∧ Inv s2 := by
      intro u d h1 h2
      have mz : SmX X4 s (wL (wL x 2 1 u) 2 2 d) := (m4.tr (SmX.wL (by unfold X4; omega))).tr (SmX.wL (by unfold X4; omega))
      obtain ⟨x', ex', sx', rx'⟩ := refgo gd gg gf hn h5 mz
      have d7 : x'.1 68 37 = x.1 27 2 := by rw [rx'.2.2.1, c2]
      have d8 : x'.1 68 38 = x.1 27 3 := by rw [rx'.2.2.2.1, c3]
      refine ⟨x.1 27 3, wL (wL x 2 1 u) 2 2 d, wL (wL x' 68 3 u) 68 4 d, ?_, ?_, ?_⟩
      · rw [e1, bnd_some, if_pos rfl, ex, bnd_some, h1, bnd_some]
        rfl
      · rw [ex', bnd_some, if_neg (show ¬ (0 : Int32) < 0 by decide), h2 x' d7 d8, d8]
      · exact Inv_same (Inv_share hIx u d) (Sm_L (Sm_L sx' _ _ _) _ _ _)
    by_cases c0 : (ST s nb n nq nm).1 = 0
    · have t0 : (ST s nb n nq nm).2.1 = 0 := by omega
      rw [c0] at c2
      rw [t0] at c3
      refine fin (up 0 1) (dn 0 1) (by rw [c2, c3, share_nil]) (fun x' h7 h8 => ?_)
      have hf : ∀ r, fX12_fraction (nI 0) 1 r x' = some (r, wL (wL x' 68 3 (up 0 1)) 68 4 (dn 0 1)) := fun r => fraction_big (a := 0) (b := 1) (by decide) (by decide) (by decide) r x'
      rw [h7, h8, c2, c3, if_pos (show nI 0 = 0 from rfl), hf, bnd_some]
    · refine fin (up (ST s nb n nq nm).2.1 (ST s nb n nq nm).1) (dn (ST s nb n nq nm).2.1 (ST s nb n nq nm).1) (by rw [c2, c3, share_big (by omega) (by omega) (by omega)]) (fun x' h7 h8 => ?_)
      rw [h7, h8, c2, c3, if_neg (fun z => c0 ((eq_num (b := 0) (by omega) (by decide)).mp z)), fraction_big (by omega) (by omega) (by omega), bnd_some]
theorem al_sure : Alike fX11_sure fX12_sure := by
  intro s hI
  obtain ⟨nb, n, nq, nm, nd, ga, gb, gc, gd, ge, gf, gg, gh, gi, gj⟩ := id hI
  have h7 := gd.ln
  unfold fX11_sure fX12_sure
  rcases refs gd ge with ⟨v, v1, v2, e1, e2⟩ | ⟨hn, h5, e1⟩
  · exact ⟨v, s, s, by rw [e1, bnd_some, if_neg v2], by rw [e2, bnd_some, if_pos v1], hI⟩
  · obtain ⟨x, ex, hIx, mx, m4, cx, ox⟩ := cgo hI gd ge gg gf
    obtain ⟨x', ex', sx', rx'⟩ := refgo gd gg gf hn h5 m4
    have x61 : x.1 6 1 = nI n := by
      rw [mx.2.2.1 1 (by omega)]
      exact gd.g6
    have x12 : x'.1 68 12 = nI n := by
      rw [sx'.2.1 12 (by unfold Cf; omega) id, mx.2.1 12 (by unfold Cf; omega) (by omega)]
      exact gd.g68
    refine ⟨nI (msk (sS s n (ST s nb n nq nm).2.2.2) n), x, x', ?_, ?_, Inv_same hIx sx'⟩
    · rw [e1, bnd_some, if_pos rfl, ex, bnd_some, sure22 (s := s) x61 h7 ox.2.2.2 cx.2.2.2.2.2.2.2.2.2.2]
    · rw [ex', bnd_some, if_neg (show ¬ (0 : Int32) < 0 by decide), sure16 (s := s) x12 h7 rx'.2.1 ox.2.2.2 rx'.2.2.2.2.2]
theorem al_where (a1 : Int32) : Alike (fX11_where a1) (fX12_where a1) := by
  intro s hI
  obtain ⟨nb, n, nq, nm, nd, ga, gb, gc, gd, ge, gf, gg, gh, gi, gj⟩ := id hI
  have h7 := gd.ln
  unfold fX11_where fX12_where
  rcases pl_cases a1 n (by omega) with h | ⟨g, hg, rfl⟩
  · exact ⟨-1, s, s, by rw [isG_f gd.g6 h, bnd_some, if_pos rfl], by rw [mG_f gd.g68 (by omega) h, bnd_some, if_pos rfl], hI⟩
  · have mG : ∀ y : Mem, y.1 68 12 = nI n → fX12_isGuest (nI g) y = some (1, y) := fun y hy => mG_t hy (by omega) hg
    have i8 : inb (nI g) 8 = true := inb_ok (by omega) (by decide)
    have i7 : inb (nI g) 7 = true := inb_ok (by omega) (by decide)
    rw [isG_t gd.g6 (by omega) hg, bnd_some, if_neg one_ne, benchOf_ok gd hg, bnd_some]
    by_cases c : s.1 79 g = -9
    · rw [if_pos c]
      rcases refs gd ge with ⟨v, v1, v2, e1, e2⟩ | ⟨hn, h5, e1⟩
      · refine ⟨v, s, s, by rw [e1, bnd_some, if_neg v2], ?_, hI⟩
        rw [mG s gd.g68, bnd_some, if_neg one_ne, if_pos i8, ix_nI (by omega), if_pos c, e2, bnd_some, if_pos v1]
      · obtain ⟨x, ex, hIx, mx, m4, cx, ox⟩ := cgo hI gd ge gg gf
        have hl := ox.2.2.2 g hg
        have c31 : x.1 31 g = nI ((ST s nb n nq nm).2.2.2 g) := by
          rw [cx.2.2.2.2.2.2.2.2.2.2 g (by omega), if_pos (show cmr s n g = true from decide_eq_true ⟨hg, c⟩)]
        have mz : SmX X4 s (wI x 2 0 (nI ((ST s nb n nq nm).2.2.2 g))) := m4.tr (SmX.wI (fun _ => Or.inl rfl) (by omega) (by omega))
        obtain ⟨x', ex', sx', rx'⟩ := refgo gd gg gf hn h5 mz
        have z12 : (wI x 2 0 (nI ((ST s nb n nq nm).2.2.2 g))).1 68 12 = nI n := by
          rw [wI_ne (by decide), mx.2.1 12 (by unfold Cf; omega) (by omega)]
          exact gd.g68
        have z79 : (wI x 2 0 (nI ((ST s nb n nq nm).2.2.2 g))).1 79 g = -9 := by
          rw [wI_ne (by decide), mx.1 79 (by unfold Cr; omega) (by omega), c]
        refine ⟨nI (pcN ((ST s nb n nq nm).2.2.2 g)), wI x 2 0 (nI ((ST s nb n nq nm).2.2.2 g)), wI x' 68 2 (nI ((ST s nb n nq nm).2.2.2 g)), ?_, ?_, Inv_same (Inv_tell hIx _) (Sm_tell sx' _)⟩
        · rw [e1, bnd_some, if_pos rfl, ex, bnd_some, lb31 (by omega), bnd_some, c31, f_tell, bnd_some, bc_256 _ hl, bnd_some]
        · rw [mG _ z12, bnd_some, if_neg one_ne, if_pos i8, ix_nI (by omega), if_pos z79, ex', bnd_some, if_neg (show ¬ (0 : Int32) < 0 by decide), if_pos i7, if_pos i7, rx'.2.2.2.2.2 g hg, bits_256 hl, bnd_some, f_tells, bnd_some]
    · rw [if_neg c]
      refine ⟨-4, s, s, rfl, ?_, hI⟩
      rw [mG s gd.g68, bnd_some, if_neg one_ne, if_pos i8, ix_nI (by omega), if_neg c]
theorem al_best (a1 : Int32) : Alike (fX11_best a1) (fX12_best a1) := by
  intro s hI
  obtain ⟨nb, n, nq, nm, nd, ga, gb, gc, gd, ge, gf, gg, gh, gi, gj⟩ := id hI
  have h7 := gd.ln
  unfold fX11_best fX12_best
  rcases row_cases a1 with h | ⟨r, hr, rfl⟩
  · have hz : fX12_needSeatings 0 s = some (-1, s) := by
      unfold fX12_needSeatings
      rw [if_pos rfl]
    exact ⟨-1, s, s, by rw [rowOf_bad h, bnd_some, if_pos rfl], by rw [isRow_bad h, bnd_some, hz, bnd_some, if_pos m1_neg], hI⟩
  · rw [rowOf_ok hr, bnd_some, if_neg row_ne]
    rcases refs gd ge with ⟨v, v1, v2, e1, e2⟩ | ⟨hn, h5, e1⟩
    · exact ⟨v, s, s, by rw [e1, bnd_some, if_neg v2], by rw [isRow_ok hr, bnd_some, e2, bnd_some, if_pos v1], hI⟩
    · obtain ⟨x, ex, hIx, mx, m4, cx, ox⟩ := cgo hI gd ge gg gf
      have hle := st_le (nq := nq) (nm' := nm) gd h5
      have c2 : x.1 27 2 = nI (ST s nb n nq nm).1 := cx.2.2.2.2.2.2.2.1
      have x61 : x.1 6 1 = nI n := by
        rw [mx.2.2.1 1 (by omega)]
        exact gd.g6
      rw [e1, bnd_some, if_pos rfl, ex, bnd_some, c2, x61]
      by_cases c0 : (ST s nb n nq nm).1 = 0
      · obtain ⟨x', ex', sx', rx'⟩ := refgo gd gg gf hn h5 m4
        refine ⟨-9, x, x', ?_, ?_, Inv_same hIx sx'⟩
        · rw [c0, if_pos (show nI 0 = 0 from rfl)]
        · rw [isRow_ok hr, bnd_some, ex', bnd_some, if_neg (show ¬ (0 : Int32) < 0 by decide), rx'.2.2.1, c0, if_pos (show nI 0 = 0 from rfl)]
      · have nz : ¬ nI (ST s nb n nq nm).1 = 0 := fun z => c0 ((eq_num (b := 0) (by omega) (by decide)).mp z)
        obtain ⟨b0, hb0⟩ : ∃ b0, (ST s nb n nq nm).2.2.1 = some b0 := by
          cases e : (ST s nb n nq nm).2.2.1 with
          | none => exact absurd (ox.2.2.1.mp e) c0
          | some b => exact ⟨b, rfl⟩
        obtain ⟨e27, e28⟩ : x.1 27 0 = b0.1 ∧ ∀ h, h < n → x.1 28 h = b0.2 h := by
          rcases cx.2.2.2.2.2.2.2.2.2.1 with ⟨w, _⟩ | ⟨b', w, w1, w2⟩
          · rw [hb0] at w
            cases w
          · rw [hb0] at w
            cases w
            exact ⟨w1, w2⟩
        obtain ⟨z, ez, mz, z0, zv, zo⟩ := take_any (x := x) (q := 48 + 2 * r) (c := 28) (L := 7) (M := n) h7 (by decide) (by omega) (by omega) (by unfold Cr; omega) (by omega)
        have ez' : fX7_take_28 (48 + 2 * r) (nI n) x = some ((), z) := ez
        have mz' : SmX (fun a => a = 48 + 2 * r ∨ a = 49 + 2 * r) x z := mz.mono (fun c hc => by omega)
        have m5 : SmX X4 s z := m4.tr (mz'.mono (fun c hc => by unfold X4; omega))
        obtain ⟨x', ex', sx', rx'⟩ := refgo gd gg gf hn h5 m5
        obtain ⟨f39, f90⟩ : x'.1 68 39 = b0.1 ∧ ∀ h, h < n → x'.1 90 h = b0.2 h := by
          rcases rx'.2.2.2.2.1 with ⟨w, _⟩ | ⟨b', w, w1, w2⟩
          · rw [hb0] at w
            cases w
          · rw [hb0] at w
            cases w
            exact ⟨w1, w2⟩
        have x12 : x'.1 68 12 = nI n := by
          rw [sx'.2.1 12 (by unfold Cf; omega) id, mz'.2.1 12 (by unfold Cf; omega) (by omega), mx.2.1 12 (by unfold Cf; omega) (by omega)]
          exact gd.g68
        have hin : inb (nI r) 6 = true := inb_ok hr (by decide)
        refine ⟨b0.1, z, wF (wI x' 70 r (nI n)) 71 (rF (wI x' 70 r (nI n)) 90 r n 60), ?_, ?_, ?_⟩
        · rw [if_neg nz, if_pos (rt4 r hr).2, ez', bnd_some, zo 27 (by omega) (by omega), e27]
        · rw [isRow_ok hr, bnd_some, ex', bnd_some, if_neg (show ¬ (0 : Int32) < 0 by decide), rx'.2.2.1, if_neg nz, if_pos hin, ix_nI (by omega), x12, best37 hr h7 (show (wI x' 70 r (nI n)).1 68 12 = nI n from x12)]
          show some (x'.1 68 39, _) = _
          rw [f39]
        · refine Inv_ans (M := n) hIx hr (by omega) mz' ((sx'.to.tr (SmX.wI (by omega) (by omega) (by omega))).tr (SmX.wF (by omega) (by decide) (by decide))) z0 (fun j => ?_) (fun j hj => ?_) (fun i hi => ?_)
          · rw [wF_ne (by decide), rdq, sx'.1 70 (by unfold Cr; omega) id]
          · rw [rd_wF, if_pos rfl, rF_out hj, wI_ne (by decide), sx'.1 71 (by unfold Cr; omega) id]
          · rw [rd_wF, if_pos rfl, rF_at hi (by omega), wI_ne (by decide), f90 i hi, ← e48, zv i hi, e28 i hi]
