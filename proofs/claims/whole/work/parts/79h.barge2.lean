-- barge: the reference's cells; both
section BR2
variable {s x y : Mem} {t m nb n : Nat} {c : Nat → Int32}
theorem nar0 : vp_nar .boolean 0 = 0 := by decide
theorem L55 (h8 : nb ≤ 8) (h : y.1 68 10 = nI nb) (κ : Mem → Option (Int32 × Mem)) : fX12_barge_L55 κ FU 0 y = κ (wF y 75 (fun b => if b < nb then y.1 81 b else y.1 75 b)) := by
  have key := lp0 (fun k j => fX12_barge_L55 κ k (nI j) (wF y 75 (fun b => if b < j then y.1 81 b else y.1 75 b))) (κ (wF y 75 (fun b => if b < nb then y.1 81 b else y.1 75 b))) nb ?_ ?_ (by omega)
  · rw [← key]
    show _ = fX12_barge_L55 κ FU (nI 0) (wF y 75 (fun b => if b < 0 then y.1 81 b else y.1 75 b))
    have e : (fun b => if b < 0 then y.1 81 b else y.1 75 b) = y.1 75 := by
      funext b
      rw [if_neg (by omega)]
    rw [e, wF_self]
    rfl
  · intro j k hj
    show fX12_barge_L55 κ (k + 1) (nI j) _ = fX12_barge_L55 κ k (nI (j + 1)) _
    have h10 : ∀ F, (wF y 75 F).1 68 10 = nI nb := fun F => h
    have h81 : ∀ F, (wF y 75 F).1 81 = y.1 81 := fun F => rfl
    have hi : inb (nI j) 8 = true := inb_ok (by omega) (by decide)
    rw [fX12_barge_L55, h10, if_pos (nI_lt hj (by omega)), if_pos hi, if_pos hi, ix_nI (by omega), h81, nI_1, wI_wF]
    congr 2
    funext b
    by_cases hb : b = j
    · rw [if_pos hb, if_pos (by omega), hb]
    · rw [if_neg hb]
      by_cases h2 : b < j
      · rw [if_pos h2, if_pos (by omega)]
      · rw [if_neg h2, if_neg (by omega)]
  · intro k
    show fX12_barge_L55 κ (k + 1) (nI nb) _ = _
    have h10 : ∀ F, (wF y 75 F).1 68 10 = nI nb := fun F => h
    rw [fX12_barge_L55, h10, if_neg (nI_nlt (Nat.le_refl nb) (by omega))]
def mxf (n : Nat) (F G : Nat → Int32) (i : Nat) : Int32 := if i < n then F i else G i
theorem mxf_s (n : Nat) (F G : Nat → Int32) : upd (mxf n F G) n (F n) = mxf (n + 1) F G := by
  funext i
  unfold mxf
  by_cases e : i = n
  · rw [e, uq_s, if_pos (by omega)]
  · rw [uq_n _ _ e]
    by_cases e2 : i < n
    · rw [if_pos e2, if_pos (by omega)]
    · rw [if_neg e2, if_neg (by omega)]
theorem mxf_0 (F G : Nat → Int32) : mxf 0 F G = G := by
  funext i
  exact if_neg (by omega)
theorem L83 (h7 : n ≤ 7) (h : y.1 68 12 = nI n) (κ : Mem → Option (Int32 × Mem)) : ∃ z, fX12_barge_L83 κ FU 0 y = κ z ∧ SmX (fun a => 76 ≤ a ∧ a ≤ 79) y z ∧ z.1 76 = mxf n (y.1 82) (y.1 76) ∧ z.1 77 = mxf n (y.1 83) (y.1 77) ∧ z.1 78 = mxf n (y.1 84) (y.1 78) ∧ z.1 79 = mxf n (fun _ => -9) (y.1 79) := by
  have key := lp_inv0 (fun k j (z : Mem) => fX12_barge_L83 κ k (nI j) z) (fun j z => SmX (fun a => 76 ≤ a ∧ a ≤ 79) y z ∧ z.1 76 = mxf j (y.1 82) (y.1 76) ∧ z.1 77 = mxf j (y.1 83) (y.1 77) ∧ z.1 78 = mxf j (y.1 84) (y.1 78) ∧ z.1 79 = mxf j (fun _ => -9) (y.1 79) ∧ z.1 82 = y.1 82 ∧ z.1 83 = y.1 83 ∧ z.1 84 = y.1 84) n y ⟨SmX.rf y, (mxf_0 _ _).symm, (mxf_0 _ _).symm, (mxf_0 _ _).symm, (mxf_0 _ _).symm, rfl, rfl, rfl⟩ ?_ (by omega)
  · obtain ⟨z, k, ⟨i1, i2, i3, i4, i5, _⟩, e⟩ := key
    refine ⟨z, ?_, i1, i2, i3, i4, i5⟩
    have e' : fX12_barge_L83 κ FU 0 y = fX12_barge_L83 κ (k + 1) (nI n) z := e
    rw [e', fX12_barge_L83, i1.2.1 12 (by unfold Cf; omega) (by omega), h, if_neg (nI_nlt (Nat.le_refl n) (by omega))]
  · rintro j k z hj ⟨i1, i2, i3, i4, i5, i6, i7, i8⟩
    show ∃ z', _ ∧ fX12_barge_L83 κ (k + 1) (nI j) z = fX12_barge_L83 κ k (nI (j + 1)) z'
    have hi : inb (nI j) 7 = true := inb_ok (by omega) (by decide)
    have hi8 : inb (nI j) 8 = true := inb_ok (by omega) (by decide)
    rw [fX12_barge_L83, i1.2.1 12 (by unfold Cf; omega) (by omega), h, if_pos (nI_lt hj (by omega)), if_pos hi, if_pos hi, if_pos hi, if_pos hi, if_pos hi, if_pos hi, if_pos hi8, ix_nI (by omega), nI_1]
    refine ⟨_, ⟨(((i1.tr (SmX.wI (by omega) (by omega) (by omega))).tr (SmX.wI (by omega) (by omega) (by omega))).tr (SmX.wI (by omega) (by omega) (by omega))).tr (SmX.wI (by omega) (by omega) (by omega)), ?_, ?_, ?_, ?_, ?_, ?_, ?_⟩, rfl⟩
    · rw [wI_ne (by decide), wI_ne (by decide), wI_ne (by decide), wI_eq, i2, i6, mxf_s]
    · rw [wI_ne (by decide), wI_ne (by decide), wI_eq, wI_ne (by decide), wI_ne (by decide), i3, i7, mxf_s]
    · rw [wI_ne (by decide), wI_eq, wI_ne (by decide), wI_ne (by decide), wI_ne (by decide), wI_ne (by decide), i4, i8, mxf_s]
    · rw [wI_eq, wI_ne (by decide), wI_ne (by decide), wI_ne (by decide), i5]
      exact mxf_s j (fun _ => -9) (y.1 79)
    · exact i6
    · exact i7
    · exact i8
theorem L143 (κ : Mem → Option (Int32 × Mem)) : ∃ z, fX12_barge_L143 κ FU 0 y = κ z ∧ SmX (fun a => a = 88) y z ∧ ∀ k, k < 3 → z.1 88 k = 0 := by
  have key := lp_inv0 (fun k j (z : Mem) => fX12_barge_L143 κ k (nI j) z) (fun j z => SmX (fun a => a = 88) y z ∧ ∀ k, k < j → z.1 88 k = 0) 3 y ⟨SmX.rf y, fun k hk => absurd hk (by omega)⟩ ?_ (by omega)
  · obtain ⟨z, k, ⟨i1, i2⟩, e⟩ := key
    refine ⟨z, ?_, i1, i2⟩
    have e' : fX12_barge_L143 κ FU 0 y = fX12_barge_L143 κ (k + 1) (nI 3) z := e
    rw [e', fX12_barge_L143, if_neg (by decide)]
  · rintro j k z hj ⟨i1, i2⟩
    show ∃ z', _ ∧ fX12_barge_L143 κ (k + 1) (nI j) z = fX12_barge_L143 κ k (nI (j + 1)) z'
    refine ⟨wI z 88 j 0, ⟨i1.tr (SmX.wI (by omega) (by omega) (by omega)), fun k' hk' => ?_⟩, ?_⟩
    · rw [rdq]
      by_cases e : k' = j
      · rw [if_pos e]
      · rw [if_neg e, i2 k' (by omega)]
    · rw [fX12_barge_L143, if_pos ((lt_num (b := 3) (by omega) (by decide)).mpr hj), if_pos (inb_ok hj (by decide)), ix_nI (by omega), nar0, nI_1]
theorem kforget : ∃ z, fX3_forgetAll y = some ((), z) ∧ SmX (fun a => a = 25) y z ∧ ∀ k, k < 3 → z.1 25 k = 0 := by
  unfold fX3_forgetAll
  have key := lp_inv0 (fun k j (z : Mem) => fX3_forgetAll_L2 (fun s3 => some ((), s3)) k (nI j) z) (fun j z => SmX (fun a => a = 25) y z ∧ ∀ k, k < j → z.1 25 k = 0) 3 y ⟨SmX.rf y, fun k hk => absurd hk (by omega)⟩ ?_ (by omega)
  · obtain ⟨z, k, ⟨i1, i2⟩, e⟩ := key
    refine ⟨z, ?_, i1, i2⟩
    have e' : fX3_forgetAll_L2 (fun s3 => some ((), s3)) FU 0 y = fX3_forgetAll_L2 (fun s3 => some ((), s3)) (k + 1) (nI 3) z := e
    rw [e', fX3_forgetAll_L2, if_neg (by decide)]
  · rintro j k z hj ⟨i1, i2⟩
    show ∃ z', _ ∧ fX3_forgetAll_L2 _ (k + 1) (nI j) z = fX3_forgetAll_L2 _ k (nI (j + 1)) z'
    refine ⟨wI z 25 j 0, ⟨i1.tr (SmX.wI (by omega) (by omega) (by omega)), fun k' hk' => ?_⟩, ?_⟩
    · rw [rdq]
      by_cases e : k' = j
      · rw [if_pos e]
      · rw [if_neg e, i2 k' (by omega)]
    · rw [fX3_forgetAll_L2, if_pos ((lt_num (b := 3) (by omega) (by decide)).mpr hj), if_pos (inb_ok hj (by decide)), ix_nI (by omega), nar0, nI_1]
/-- what barge may change -/
def Xb (a : Nat) : Prop := a = 7 ∨ a = 10 ∨ (11 ≤ a ∧ a ≤ 17) ∨ a = 20 ∨ a = 25 ∨ (75 ≤ a ∧ a ≤ 79) ∨ a = 88 ∨ a = 1010 ∨ a = 1012 ∨ a = 1029 ∨ a = 1032 ∨ a = 2000 ∨ a = 2001 ∨ a = 2012
end BR2
theorem al_barge (a1 : Int32) : Alike (fX11_barge a1) (fX12_barge a1) := by
  intro s hI
  unfold fX11_barge fX12_barge
  rcases txt_cases a1 with h | ⟨t, ht, rfl⟩
  · exact ⟨-1, s, s, by rw [textOf_bad h, bnd_some, if_pos rfl], by rw [isText_bad h, bnd_some, if_pos rfl], hI⟩
  · obtain ⟨g1, g2, g3⟩ := hI.gc t ht
    have hin : inb (nI t) 4 = true := inb_ok ht (by decide)
    rw [textOf_ok ht, bnd_some, if_neg txt_ne, if_pos (rt5 t ht).2]
    rcases szOk_cases g2 with ⟨hm, -⟩ | ⟨m, h60, hm⟩
    · obtain ⟨s1, s2, e1, e2, e3⟩ := found_al hI (f := 1) (by decide)
      refine ⟨-3, s1, s2, ?_, ?_, e3⟩
      · rw [tmiss_t (by rw [g1]; exact hm), bnd_some, if_neg one_ne]
        show bnd (fX10_found (nI 1) s) _ = _
        rw [e1, bnd_some]
      · rw [isText_ok ht, bnd_some, if_neg one_ne, if_pos hin, ix_nI (by omega), f_found73 (by decide) e1, if_pos hm]
        show bnd (fX12_meets (nI 1) s1) _ = _
        rw [e2, bnd_some]
    · obtain ⟨tc, tr⟩ := txC hI ht hm h60
      generalize hcc : (fun i => s.1 74 (60 * t + i)) = c at *
      rw [tmiss_f (g1.trans hm) h60, bnd_some, if_pos rfl, bfaultC tc h60, bnd_some]
      by_cases hf : cf c m m 0 0 = -9
      · obtain ⟨nb0, n0, nq, nm, nd, ga, gb, gc, gd, ge, gf, gg, gh, gi, gj⟩ := id hI
        -- the counts are small: read off the reference's own reading of s
        obtain ⟨_, _, _, hsm⟩ := bfaultR tr ht h60
        obtain ⟨_, hb8, hk7, hb0⟩ := hsm hf
        have hL : ∀ i, i < m → LF c m i := fun i hi => cf_ok h60 m 0 0 (by omega) hf i (Nat.zero_le _) hi
        -- the class: clear
        have hq0 : ∀ q, q < nq → ∃ g h : Nat, g < 7 ∧ h < 7 ∧ g ≠ h ∧ (wI (wI (wI s 6 0 0) 6 1 0) 6 12 0).1 8 q = nI g ∧ (wI (wI (wI s 6 0 0) 6 1 0) 6 12 0).1 9 q = nI h := by
          intro q hq
          obtain ⟨g, h, hg, hh, hne, c1, c2⟩ := gf.2.2.2.2.2.1 q hq
          have := gd.ln
          refine ⟨g, h, by omega, by omega, hne, ?_, ?_⟩
          · show s.1 8 q = _
            rw [gf.2.2.2.1]
            exact c1
          · show s.1 9 q = _
            rw [gf.2.2.2.2.1]
            exact c2
        obtain ⟨sa, ea, ma, a7, afo⟩ := cutTo_ok (s := wI (wI (wI s 6 0 0) 6 1 0) 6 12 0) (z := 0) (Nat.zero_le nq) gf.1 gf.2.1 hq0
        have m0 : SmX Xb s (wI (wI (wI s 6 0 0) 6 1 0) 6 12 0) := ((SmX.wI (by unfold Cr; omega) (by omega) (fun _ => by unfold Xb; omega)).tr (SmX.wI (by unfold Cr; omega) (by omega) (fun _ => by unfold Xb; omega))).tr (SmX.wI (by unfold Cr; omega) (by omega) (fun _ => by unfold Xb; omega))
        have ma' : SmX Xb s sa := m0.tr (ma.mono (fun a ha => by unfold Xb; omega))
        have tca : TxC sa t m c := ⟨by rw [ma'.1 (60 + 2 * t) (by unfold Cr; omega) (by unfold Xb; omega)]; exact tc.1, by rw [ma'.1 (61 + 2 * t) (by unfold Cr; omega) (by unfold Xb; omega)]; exact tc.2⟩
        have a60 : sa.1 6 0 = nI 0 := by rw [ma.2.2.1 0 (by omega)]; rfl
        have a61 : sa.1 6 1 = nI 0 := by rw [ma.2.2.1 1 (by omega)]; rfl
        have a612 : sa.1 6 12 = 0 := by rw [ma.2.2.1 12 (by omega)]; rfl
        obtain ⟨sb, eb, cb0, cb1, cb2, cb3, cb4, cb5, cb6, cb7, cb8, cb9, cb10⟩ := fillB tca ht h60 hL hk7 hb8 a60 a61 a612
        have mb' : SmX Xb s sb := ma'.tr (cb0.mono (fun a ha => by unfold Xf at ha; unfold Xb; omega))
        obtain ⟨sc, ec, mc, c25⟩ := kforget (y := wI sb 20 0 0)
        have mbc : SmX (fun a => a = 20 ∨ a = 25) sb sc := (SmX.wI (by omega) (by omega) (by omega) : SmX (fun a => a = 20 ∨ a = 25) sb (wI sb 20 0 0)).tr (mc.mono (fun a ha => by omega))
        have mc' : SmX Xb s sc := mb'.tr (mbc.mono (fun a ha => by unfold Xb; omega))
        have trc : TxR sc t m c := ⟨by rw [mc'.1 73 (by unfold Cr; omega) (by unfold Xb; omega)]; exact tr.1, by rw [mc'.1 74 (by unfold Cr; omega) (by unfold Xb; omega)]; exact tr.2⟩
        -- the reference
        obtain ⟨sd, ed, md, hsd⟩ := bfaultR trc ht h60
        obtain ⟨⟨r0, r1, r2, r3, r4, r5, r6, r7⟩, _⟩ := hsd hf
        have hse : SmX (fun a => a = 1010 ∨ a = 1012) sd (wI (wI sd 68 10 (nI (cntN (isBl c) m))) 68 12 (nI (cntN (isKl c) m))) := (SmX.wI (by unfold Cr; omega) (by omega) (by omega)).tr (SmX.wI (by unfold Cr; omega) (by omega) (by omega))
        generalize hsee : wI (wI sd 68 10 (nI (cntN (isBl c) m))) 68 12 (nI (cntN (isKl c) m)) = se at *
        have se10 : se.1 68 10 = nI (cntN (isBl c) m) := by rw [← hsee]; rfl
        have se12 : se.1 68 12 = nI (cntN (isKl c) m) := by rw [← hsee]; rfl
        have seq : ∀ q, q ≠ 68 → se.1 q = sd.1 q := fun q hq => by rw [← hsee, wI_ne hq, wI_ne hq]
        obtain ⟨sg, eg, mg, g76, g77, g78, g79⟩ := L83 (y := wF se 75 (fun b => if b < cntN (isBl c) m then se.1 81 b else se.1 75 b)) hk7 se12 (fun s23 => fX12_barge_L143 (fun s26 => some ((wI (wI s26 68 29 0) 68 32 0).1 68 10, wI (wI s26 68 29 0) 68 32 0)) FU 0 s23)
        obtain ⟨sh, eh, mh, h88⟩ := L143 (y := sg) (fun s26 => some ((wI (wI s26 68 29 0) 68 32 0).1 68 10, wI (wI s26 68 29 0) 68 32 0))
        have mfh : SmX (fun a => (75 ≤ a ∧ a ≤ 79) ∨ a = 88) se sh := ((SmX.wF (by omega) (by decide) (by decide) : SmX (fun a => (75 ≤ a ∧ a ≤ 79) ∨ a = 88) se (wF se 75 (fun b => if b < cntN (isBl c) m then se.1 81 b else se.1 75 b))).tr (mg.mono (fun a ha => by omega))).tr (mh.mono (fun a ha => by omega))
        have hS : SmX Xb s (wI (wI sh 68 29 0) 68 32 0) := ((((mc'.tr md.to).tr (hse.mono (fun a ha => by unfold Xb; omega))).tr (mfh.mono (fun a ha => by unfold Xb; omega))).tr (SmX.wI (by unfold Cr; omega) (fun _ _ => by unfold Xb; omega) (by omega))).tr (SmX.wI (by unfold Cr; omega) (fun _ _ => by unfold Xb; omega) (by omega))
        have h10 : sh.1 68 10 = nI (cntN (isBl c) m) := by rw [mfh.2.1 10 (by unfold Cf; omega) (by omega)]; exact se10
        have h12 : sh.1 68 12 = nI (cntN (isKl c) m) := by rw [mfh.2.1 12 (by unfold Cf; omega) (by omega)]; exact se12
        refine ⟨nI (cntN (isBl c) m), sc, wI (wI sh 68 29 0) 68 32 0, ?_, ?_, ?_⟩
        · rw [if_pos hf]
          unfold fX0_clear fX1_forgetAll
          have ea' : fX5_cutTo 0 (wI (wI (wI s 6 0 0) 6 1 0) 6 12 0) = some ((), sa) := ea
          rw [ea', bnd_some, bnd_some, eb, bnd_some, bnd_some, ec, bnd_some, mbc.2.2.1 0 (by omega), cb1]
        · rw [isText_ok ht, bnd_some, if_neg one_ne, if_pos hin, ix_nI (by omega), trc.1, if_neg (nI_nonneg (by omega)), ed, bnd_some, if_pos hf]
          have hst : wI (wI sd 68 10 (sd.1 68 23)) 68 12 ((wI sd 68 10 (sd.1 68 23)).1 68 24) = se := by
            rw [← hsee]
            show wI (wI sd 68 10 (sd.1 68 23)) 68 12 (sd.1 68 24) = _
            rw [r2, r3]
          rw [hst, L55 hb8 se10, eg, eh]
          show some (sh.1 68 10, _) = _
          rw [h10]
        · -- the invariant
          have tq : ∀ q, q ≠ 68 → (wI (wI sh 68 29 0) 68 32 0).1 q = sh.1 q := fun q hq => by rw [wI_ne hq, wI_ne hq]
          have hq : ∀ q, Cr q → ¬ (75 ≤ q ∧ q ≤ 79) → q ≠ 88 → q ≠ 68 → (wI (wI sh 68 29 0) 68 32 0).1 q = sc.1 q := fun q w1 w2 w3 w4 => by
            rw [tq q w4, mfh.1 q w1 (by omega), seq q w4, md.1 q w1 id]
          have hqb : ∀ q, Cr q → ¬ (75 ≤ q ∧ q ≤ 79) → q ≠ 88 → q ≠ 68 → q ≠ 20 → q ≠ 25 → (wI (wI sh 68 29 0) 68 32 0).1 q = sb.1 q := fun q w1 w2 w3 w4 w5 w6 => by
            rw [hq q w1 w2 w3 w4, mbc.1 q w1 (by omega)]
          have t6 : ∀ j, (wI (wI sh 68 29 0) 68 32 0).1 6 j = sb.1 6 j := fun j => by
            rw [tq 6 (by decide), mfh.2.2.1 j (by omega), seq 6 (by decide), md.2.2.1 j id, mbc.2.2.1 j (by omega)]
          have old : ∀ q, 75 ≤ q → q ≤ 79 → sd.1 q = s.1 q := fun q w1 w2 => by
            rw [md.1 q (by unfold Cr; omega) id, mbc.1 q (by unfold Cr; omega) (by omega), cb0.1 q (by unfold Cr; omega) (by unfold Xf; omega), ma.1 q (by unfold Cr; omega) (by omega)]
            rw [wI_ne (by omega), wI_ne (by omega), wI_ne (by omega)]
          have olda : ∀ q, 11 ≤ q → q ≤ 17 → sa.1 q = s.1 q := fun q w1 w2 => by
            rw [ma.1 q (by unfold Cr; omega) (by omega), wI_ne (by omega), wI_ne (by omega), wI_ne (by omega)]
          have hg : ∀ q, 76 ≤ q → q ≤ 79 → (wI (wI sh 68 29 0) 68 32 0).1 q = sg.1 q := fun q w1 w2 => by rw [tq q (by omega), mh.1 q (by unfold Cr; omega) (by omega)]
          have fq' : ∀ q, q ≠ 75 → q ≠ 68 → (wF se 75 (fun b => if b < cntN (isBl c) m then se.1 81 b else se.1 75 b)).1 q = sd.1 q := fun q w1 w2 => by rw [wF_ne w1, seq q w2]
          have t75 : (wI (wI sh 68 29 0) 68 32 0).1 75 = gX (isBl c) (xv c) (s.1 75) m := by
            rw [tq 75 (by decide), mh.1 75 (by unfold Cr; omega) (by omega), mg.1 75 (by unfold Cr; omega) (by omega)]
            show (fun b => if b < cntN (isBl c) m then se.1 81 b else se.1 75 b) = _
            rw [seq 81 (by decide), seq 75 (by decide), r4, old 75 (by decide) (by decide)]
            exact gX_mix m
          have t76 : (wI (wI sh 68 29 0) 68 32 0).1 76 = gX (isKl c) (kv c) (s.1 76) m := by
            rw [hg 76 (by decide) (by decide), g76, fq' 82 (by decide) (by decide), fq' 76 (by decide) (by decide), r5, old 76 (by decide) (by decide)]
            exact gX_mix m
          have t77 : (wI (wI sh 68 29 0) 68 32 0).1 77 = gX (isKl c) (wv c) (s.1 77) m := by
            rw [hg 77 (by decide) (by decide), g77, fq' 83 (by decide) (by decide), fq' 77 (by decide) (by decide), r6, old 77 (by decide) (by decide)]
            exact gX_mix m
          have t78 : (wI (wI sh 68 29 0) 68 32 0).1 78 = gX (isKl c) (nv c) (s.1 78) m := by
            rw [hg 78 (by decide) (by decide), g78, fq' 84 (by decide) (by decide), fq' 78 (by decide) (by decide), r7, old 78 (by decide) (by decide)]
            exact gX_mix m
          have t79 : (wI (wI sh 68 29 0) 68 32 0).1 79 = gX (isKl c) (fun _ => -9) (s.1 79) m := by
            rw [hg 79 (by decide) (by decide), g79, fq' 79 (by decide) (by decide), old 79 (by decide) (by decide)]
            funext i
            unfold mxf
            by_cases e : i < cntN (isKl c) m
            · rw [if_pos e]
              exact (gX_all (P := fun y => y = -9) m (fun _ _ _ => rfl) e).symm
            · rw [if_neg e, gX_ge m (by omega)]
          have u11 : (wI (wI sh 68 29 0) 68 32 0).1 11 = gX (isBl c) (xv c) (s.1 75) m := by
            rw [hqb 11 (by unfold Cr; omega) (by omega) (by decide) (by decide) (by decide) (by decide), cb3, olda 11 (by decide) (by decide), gd.c11]
          have u13 : (wI (wI sh 68 29 0) 68 32 0).1 13 = gX (isKl c) (kv c) (s.1 76) m := by
            rw [hqb 13 (by unfold Cr; omega) (by omega) (by decide) (by decide) (by decide) (by decide), cb5, olda 13 (by decide) (by decide), gd.c13]
          have u14 : (wI (wI sh 68 29 0) 68 32 0).1 14 = gX (isKl c) (wv c) (s.1 77) m := by
            rw [hqb 14 (by unfold Cr; omega) (by omega) (by decide) (by decide) (by decide) (by decide), cb6, olda 14 (by decide) (by decide), gd.c14]
          have u15 : (wI (wI sh 68 29 0) 68 32 0).1 15 = gX (isKl c) (nv c) (s.1 78) m := by
            rw [hqb 15 (by unfold Cr; omega) (by omega) (by decide) (by decide) (by decide) (by decide), cb7, olda 15 (by decide) (by decide), gd.c15]
          have u16 : (wI (wI sh 68 29 0) 68 32 0).1 16 = gX (isKl c) (fun _ => -9) (s.1 79) m := by
            rw [hqb 16 (by unfold Cr; omega) (by omega) (by decide) (by decide) (by decide) (by decide), cb8, olda 16 (by decide) (by decide), gd.c16]
          have b11 : sb.1 11 = gX (isBl c) (xv c) (s.1 75) m := by rw [cb3, olda 11 (by decide) (by decide), gd.c11]
          have b13 : sb.1 13 = gX (isKl c) (kv c) (s.1 76) m := by rw [cb5, olda 13 (by decide) (by decide), gd.c13]
          have b14 : sb.1 14 = gX (isKl c) (wv c) (s.1 77) m := by rw [cb6, olda 14 (by decide) (by decide), gd.c14]
          refine ⟨cntN (isBl c) m, cntN (isKl c) m, 0, nm, 0, Ga_keep hS (fun a ha => by unfold Xb; omega) ga, Gb_keep hS (fun a ha => by unfold Xb; omega) gb, Gc_keep hS (fun a ha => by unfold Xb; omega) gc, ?_, ?_, ?_, Gg_keep hS (fun a ha => by unfold Xb; omega) gg, ?_, ?_, Gj_keep hS (fun a ha => by unfold Xb; omega) gj⟩
          · refine ⟨hb8, hk7, fun _ => by omega, ?_, h10, ?_, h12, ?_, ?_, u11.trans t75.symm, u13.trans t76.symm, u14.trans t77.symm, u15.trans t78.symm, u16.trans t79.symm, ?_, ?_, ?_, ?_, ?_, ?_, ?_⟩
            · rw [t6]
              exact cb1
            · rw [t6]
              exact cb2
            · rw [hS.2.2.1 2 (by unfold Xb; omega), hS.2.1 17 (by unfold Cf; omega) (by unfold Xb; omega)]
              exact gd.lm
            · rw [hS.2.2.1 3 (by unfold Xb; omega), hS.2.1 18 (by unfold Cf; omega) (by unfold Xb; omega)]
              exact gd.rn
            · rw [hS.2.1 17 (by unfold Cf; omega) (by unfold Xb; omega)]
              exact gd.2.2.2.2.2.2.2.2.2.2.2.2.2.2.1
            · rw [hS.2.1 18 (by unfold Cf; omega) (by unfold Xb; omega)]
              exact gd.rnb
            · rw [t75]
              intro b hb
              exact gX_all (P := fun y => -9 ≤ y.toInt ∧ y.toInt ≤ 9) m (fun i hi hp => xv_rng (hL i hi) hp) hb
            · rw [t76]
              intro g hg
              exact gX_all (P := fun y => ∃ k : Nat, k < 6 ∧ y = nI k) m (fun i hi hp => (knd_cases (c i)).resolve_left (of_decide_eq_true hp)) hg
            · rw [t77]
              intro g hg
              exact gX_all (P := fun y => ∃ w : Nat, 1 ≤ w ∧ w ≤ 9 ∧ y = nI w) m (fun i hi hp => dg_val ((hL i hi).2 hp).2.2.2.1) hg
            · rw [t78]
              intro g hg
              refine gX_all (P := fun y => y = 0 ∨ y = 1) m (fun i hi hp => ?_) hg
              obtain ⟨w, w1, w2, ew⟩ := dg_val ((hL i hi).2 hp).2.2.2.2
              have e01 : w = 0 ∨ w = 1 := by omega
              rcases e01 with rfl | rfl
              · exact Or.inl ew
              · exact Or.inr ew
            · rw [t79]
              intro g hg
              exact gX_all (P := fun y => StOk (cntN (isBl c) m) y) m (fun i hi hp => Or.inl rfl) hg
          · refine ⟨?_, ?_, ?_⟩
            · intro b hb
              rw [hqb 12 (by unfold Cr; omega) (by omega) (by decide) (by decide) (by decide) (by decide), cb4, gX_all (P := fun y => y = 0) m (fun _ _ _ => rfl) hb, msk_cong (q := fun _ => false) (fun g hg => ?_), msk_zero (fun _ => rfl)]
              · rfl
              · rw [t79, gX_all (P := fun y => y = -9) m (fun _ _ _ => rfl) hg]
                exact decide_eq_false (m9_nI (by omega))
            · rw [hqb 17 (by unfold Cr; omega) (by omega) (by decide) (by decide) (by decide) (by decide), t75, t76, t77, ← b11, ← b13, ← b14]
              exact cb10
            · rw [t6, cb9, t76, ← b13]
          · have q8 := hS.1 8 (by unfold Cr; omega) (by unfold Xb; omega)
            have q9 := hS.1 9 (by unfold Cr; omega) (by unfold Xb; omega)
            have q85 := hS.1 85 (by unfold Cr; omega) (by unfold Xb; omega)
            have q86 := hS.1 86 (by unfold Cr; omega) (by unfold Xb; omega)
            refine ⟨by omega, ?_, rfl, by rw [q8, q85]; exact gf.2.2.2.1, by rw [q9, q86]; exact gf.2.2.2.2.1, fun q hq => absurd hq (by omega), ?_⟩
            · rw [hqb 7 (by unfold Cr; omega) (by omega) (by decide) (by decide) (by decide) (by decide), cb0.1 7 (by unfold Cr; omega) (by unfold Xf; omega)]
              exact a7
            · rw [hqb 10 (by unfold Cr; omega) (by omega) (by decide) (by decide) (by decide) (by decide), cb0.1 10 (by unfold Cr; omega) (by unfold Xf; omega), q85, q86]
              have := afo.gf
              intro g hg
              rw [this g hg]
              congr 1
          · refine ⟨by omega, ?_, rfl, fun j hj => absurd hj (by omega)⟩
            rw [hq 20 (by unfold Cr; omega) (by omega) (by decide) (by decide), mc.1 20 (by unfold Cr; omega) (by omega)]
            rfl
          · intro k hk
            have e25 : (wI (wI sh 68 29 0) 68 32 0).1 25 k = 0 := by
              rw [hq 25 (by unfold Cr; omega) (by omega) (by decide) (by decide)]
              exact c25 k hk
            have e88 : (wI (wI sh 68 29 0) 68 32 0).1 88 k = 0 := by
              rw [tq 88 (by decide)]
              exact h88 k hk
            refine ⟨e25.trans e88.symm, Or.inl e88, fun z => ?_⟩
            rw [e88] at z
            exact absurd z (by decide)
      · obtain ⟨x', ex, sx, _⟩ := bfaultR tr ht h60
        refine ⟨-4, s, x', ?_, ?_, Inv_same hI sx⟩
        · rw [if_neg hf]
        · rw [isText_ok ht, bnd_some, if_neg one_ne, if_pos hin, ix_nI (by omega), tr.1, if_neg (nI_nonneg (by omega)), ex, bnd_some, if_neg hf]
