-- aisle
def mof (xs kd wt f : Nat → Int32) (p g : Nat) : Int32 := if f g = -9 then 0 else mom xs kd wt g (ix (f g)) p
theorem mo_mof (s : Mem) (p : Nat) : mo s p = mof (s.1 75) (s.1 76) (s.1 77) (s.1 79) p := rfl
section AIS
variable {s : Mem} {nb n nq : Nat} {f : Nat → Int32}
def Mt (s : Mem) (nb n : Nat) (xs kd wt : Nat → Int32) : Prop := ∀ g, g < n → ∀ b, b < nb → ∀ p, p < 3 → s.1 17 ((g * 8 + b) * 3 + p) = mom xs kd wt g b p
theorem momentC (cs : Cst s nb n f) {xs kd wt : Nat → Int32} (mt : Mt s nb n xs kd wt) {g p : Nat} (hg : g < n) (hp : p < 3) : fX0_momentOf (nI g) (f g) (nI p) s = some (mof xs kd wt f p g, s) := by
  obtain ⟨h8, h7, e0, e1, e16, hst, h12⟩ := cs
  unfold mof
  rcases hst g hg with h | ⟨b, hb, h⟩
  · rw [if_pos h, h]
    unfold fX0_momentOf
    rw [isG_t e1 (by omega) hg, bnd_some, if_neg one_ne, isB_f e0 (Or.inl (by decide)), bnd_some, if_pos rfl]
  · rw [h, if_neg (nI_m9 (by omega)), ix_nI (by omega)]
    unfold fX0_momentOf fX0_momentPlace
    rw [isG_t e1 (by omega) hg, bnd_some, if_neg one_ne, isB_t e0 (by omega) hb, bnd_some, if_neg one_ne, posture_t hp, bnd_some, if_neg one_ne, bnd_some, mplace, if_pos (inb_ok (by omega) (by decide)), ix_nI (by omega), mt g hg b hb p hp]
theorem listC (cs : Cst s nb n f) {xs kd wt : Nat → Int32} (mt : Mt s nb n xs kd wt) {p : Nat} (hp : p < 3) : fX0_listIn (nI p) s = some (s.1 6 3 + sumI (mof xs kd wt f p) n, s) := by
  have h7 := cs.2.1
  unfold fX0_listIn fX0_dryListIn
  have key := lp0 (fun k j => fX0_dryListIn_L4 (fun v9 s10 => some (v9, s10)) (nI p) k (sumI (mof xs kd wt f p) j) (nI j) s) (some (sumI (mof xs kd wt f p) n, s)) n ?_ ?_ (by omega)
  · have key2 : fX0_dryListIn_L4 (fun v9 s10 => some (v9, s10)) (nI p) FU 0 0 s = some (sumI (mof xs kd wt f p) n, s) := key
    rw [key2, bnd_some, Int32.add_comm]
  · intro j k hj
    show fX0_dryListIn_L4 _ (nI p) (k + 1) _ (nI j) s = fX0_dryListIn_L4 _ (nI p) k _ (nI (j + 1)) s
    rw [fX0_dryListIn_L4, cs.2.2.2.1, if_pos (nI_lt hj (by omega)), if_pos (inb_ok (by omega) (by decide)), ix_nI (by omega), sumI, cs.2.2.2.2.1, momentC cs mt hj hp, bnd_some, nm_eq, nI_1]
  · intro k
    show fX0_dryListIn_L4 _ (nI p) (k + 1) _ (nI n) s = _
    rw [fX0_dryListIn_L4, cs.2.2.2.1, if_neg (nI_nlt (Nat.le_refl n) (by omega))]
def av (s : Mem) (n g h : Nat) : Int32 := ab (s.1 68 18 + sumI (mof (s.1 75) (s.1 76) (s.1 77) (sw (s.1 79) g h) 0) n)
noncomputable def aT (s : Mem) (n nq g h : Nat) (a : Int32 × Int32) : Int32 × Int32 := @ite _ (chP (s.1 76) (s.1 85) (s.1 86) (s.1 79) n nq g h) (Classical.propDecidable _) (if av s n g h < a.1 then (av s n g h, nI (10 * g + h)) else a) a
def inr (T : Nat → Nat → Int32 × Int32 → Int32 × Int32) (g : Nat) (a : Int32 × Int32) : Nat → Int32 × Int32
  | 0 => a
  | j + 1 => if g < j then T g j (inr T g a j) else inr T g a j
theorem inr_b (T : Nat → Nat → Int32 × Int32 → Int32 × Int32) (g : Nat) (a : Int32 × Int32) : ∀ j, j ≤ g + 1 → inr T g a j = a
  | 0, _ => rfl
  | j + 1, h => by
    rw [inr, if_neg (by omega)]
    exact inr_b T g a j (by omega)
def otr (T : Nat → Nat → Int32 × Int32 → Int32 × Int32) (n : Nat) (a : Int32 × Int32) : Nat → Int32 × Int32
  | 0 => a
  | g + 1 => inr T g (otr T n a g) n
theorem aisle_in (gd : Gd s nb n) (ge : Ge s nb n) (gf : Gf s n nq) {g : Nat} (hg : g < n) (a : Int32 × Int32) {x : Mem} (cx : Cst x nb n (s.1 79)) (mx1 : SmX Xp s x) (κ : Int32 → Int32 → Mem → Option (Int32 × Mem)) : ∃ x', Cst x' nb n (s.1 79) ∧ SmX Xp s x' ∧ fX11_aisle_L33 κ (nI g) FU a.1 a.2 (nI (g + 1)) x = κ (inr (aT s n nq) g a n).1 (inr (aT s n nq) g a n).2 x' := by
  have h7 := gd.ln
  have key := lp_inv (fun k j (x : (Int32 × Int32) × Mem) => fX11_aisle_L33 κ (nI g) k x.1.1 x.1.2 (nI j) x.2) (fun j x => g < j ∧ x.1 = inr (aT s n nq) g a j ∧ Cst x.2 nb n (s.1 79) ∧ SmX Xp s x.2) n ?_ (n - (g + 1)) (g + 1) FU (a, x) (by omega) (by unfold FU; omega) ⟨by omega, (inr_b _ _ _ _ (Nat.le_refl _)).symm, cx, mx1⟩
  · obtain ⟨⟨a', x'⟩, t, ⟨_, i1, i2, i3⟩, e⟩ := key
    have i1' : a' = inr (aT s n nq) g a n := i1
    subst i1'
    refine ⟨x', i2, i3, ?_⟩
    have e' : fX11_aisle_L33 κ (nI g) FU a.1 a.2 (nI (g + 1)) x = fX11_aisle_L33 κ (nI g) (t + 1) (inr (aT s n nq) g a n).1 (inr (aT s n nq) g a n).2 (nI n) x' := e
    have c6 : x'.1 6 1 = nI n := i2.2.2.2.1
    rw [e', fX11_aisle_L33, c6, if_neg (nI_nlt (Nat.le_refl n) (by omega))]
  · rintro j t ⟨a', y⟩ hj ⟨hgj, i1, i2, i3⟩
    have i1' : a' = inr (aT s n nq) g a j := i1
    have i2 : Cst y nb n (s.1 79) := i2
    have i3 : SmX Xp s y := i3
    show ∃ x' : (Int32 × Int32) × Mem, _ ∧ fX11_aisle_L33 κ (nI g) (t + 1) a'.1 a'.2 (nI j) y = fX11_aisle_L33 κ (nI g) t x'.1.1 x'.1.2 (nI (j + 1)) x'.2
    have rq : ∀ (z : Mem), SmX Xp s z → ∀ q, q ≠ 12 → q ≠ 16 → Cr q → z.1 q = s.1 q := fun z hz q w1 w2 w3 => hz.1 q w3 (by unfold Xp; omega)
    have y13 : y.1 13 = s.1 76 := (rq y i3 13 (by decide) (by decide) (by unfold Cr; omega)).trans gd.c13
    have yk : y.1 6 12 = nI (msk (fun g => decide (y.1 13 g ≠ 3)) n) := by
      rw [y13, i3.2.2.1 12 (by unfold Xp; omega)]
      exact ge.2.2
    have yfo : Fo y (s.1 85) (s.1 86) nq := by
      obtain ⟨Q, w1, w2⟩ := gf.fo
      exact ⟨Q, w1, by rw [rq y i3 10 (by decide) (by decide) (by unfold Cr; omega)]; exact w2⟩
    have ht := trade_ok i2 yk yfo gf.qd hg hj (show g ≠ j by omega)
    rw [y13] at ht
    have e10 : 10 * nI g + nI j = nI (10 * g + j) := by rw [show (10 : Int32) = nI 10 from rfl, pk_mul, nI_add]
    have hT : inr (aT s n nq) g a (j + 1) = aT s n nq g j a' := by rw [inr, if_pos hgj, i1']
    rw [fX11_aisle_L33, i2.2.2.2.1, if_pos (nI_lt hj (by omega)), nI_1]
    by_cases hc : chP (s.1 76) (s.1 85) (s.1 86) (s.1 79) n nq g j
    · obtain ⟨z, ez, cz, mz⟩ := ht.1 hc
      have mz' := i3.tr mz
      have zmt : Mt z nb n (s.1 75) (s.1 76) (s.1 77) := by
        unfold Mt
        rw [rq z mz' 17 (by decide) (by decide) (by unfold Cr; omega)]
        exact ge.2.1
      obtain ⟨w, ew, cw, mw⟩ := cswap_ok cz hg hj
      rw [sw_sw _ (show g ≠ j by omega)] at cw
      have hl : fX0_listIn 0 z = some (s.1 68 18 + sumI (mof (s.1 75) (s.1 76) (s.1 77) (sw (s.1 79) g j) 0) n, z) := by
        have := listC cz zmt (p := 0) (by decide)
        rw [mz'.2.2.1 3 (by unfold Xp; omega), gd.rn] at this
        exact this
      rw [ez, bnd_some, if_neg one_ne, hl, bnd_some, nm_eq, ew, bnd_some, nm_eq, e10]
      show ∃ x' : (Int32 × Int32) × Mem, _ ∧ (if av s n g j < a'.1 then _ else _) = _
      by_cases c2 : av s n g j < a'.1
      · rw [if_pos c2]
        refine ⟨((av s n g j, nI (10 * g + j)), w), ⟨by omega, ?_, cw, mz'.tr mw⟩, rfl⟩
        rw [hT]
        unfold aT
        rw [if_pos hc, if_pos c2]
      · rw [if_neg c2]
        refine ⟨(a', w), ⟨by omega, ?_, cw, mz'.tr mw⟩, rfl⟩
        rw [hT]
        unfold aT
        rw [if_pos hc, if_neg c2]
    · obtain ⟨z, ez, cz, mz⟩ := ht.2 hc
      rw [ez, bnd_some, if_pos rfl]
      refine ⟨(a', z), ⟨by omega, ?_, cz, i3.tr mz⟩, rfl⟩
      rw [hT]
      unfold aT
      rw [if_neg hc]
theorem aisle1 (gd : Gd s nb n) (ge : Ge s nb n) (gf : Gf s n nq) (a : Int32 × Int32) (κ : Int32 → Int32 → Mem → Option (Int32 × Mem)) : ∃ x', Cst x' nb n (s.1 79) ∧ SmX Xp s x' ∧ fX11_aisle_L17 κ FU a.1 a.2 0 s = κ (otr (aT s n nq) n a n).1 (otr (aT s n nq) n a n).2 x' := by
  have h7 := gd.ln
  have key := lp_inv0 (fun k j (x : (Int32 × Int32) × Mem) => fX11_aisle_L17 κ k x.1.1 x.1.2 (nI j) x.2) (fun j x => x.1 = otr (aT s n nq) n a j ∧ Cst x.2 nb n (s.1 79) ∧ SmX Xp s x.2) n (a, s) ⟨rfl, cs_of gd ge, SmX.rf s⟩ ?_ (by omega)
  · obtain ⟨⟨a', x'⟩, t, ⟨i1, i2, i3⟩, e⟩ := key
    have i1' : a' = otr (aT s n nq) n a n := i1
    subst i1'
    refine ⟨x', i2, i3, ?_⟩
    have e' : fX11_aisle_L17 κ FU a.1 a.2 0 s = fX11_aisle_L17 κ (t + 1) (otr (aT s n nq) n a n).1 (otr (aT s n nq) n a n).2 (nI n) x' := e
    have c6 : x'.1 6 1 = nI n := i2.2.2.2.1
    rw [e', fX11_aisle_L17, c6, if_neg (nI_nlt (Nat.le_refl n) (by omega))]
  · rintro g t ⟨a', y⟩ hg ⟨i1, i2, i3⟩
    have i1' : a' = otr (aT s n nq) n a g := i1
    have i2 : Cst y nb n (s.1 79) := i2
    show ∃ x' : (Int32 × Int32) × Mem, _ ∧ fX11_aisle_L17 κ (t + 1) a'.1 a'.2 (nI g) y = fX11_aisle_L17 κ t x'.1.1 x'.1.2 (nI (g + 1)) x'.2
    rw [fX11_aisle_L17, i2.2.2.2.1, if_pos (nI_lt hg (by omega)), nm_eq, nI_1]
    obtain ⟨x', c1, m1, e⟩ := aisle_in gd ge gf hg a' i2 i3 (fun v17 v18 s19 => fX11_aisle_L17 κ t v17 v18 (nI (g + 1)) s19)
    refine ⟨(inr (aT s n nq) g a' n, x'), ⟨?_, c1, m1⟩, e⟩
    show inr (aT s n nq) g a' n = otr (aT s n nq) n a (g + 1)
    rw [otr, i1']
theorem aisle2_in (rd : Rd s nb n) (rq : Rq s n nq) {g : Nat} (hg : g < n) (a : Int32 × Int32) (κ : Int32 → Int32 → Mem → Option (Int32 × Mem)) : fX12_aisle_L31 κ (nI g) FU a.2 a.1 (nI (g + 1)) s = κ (inr (aT s n nq) g a n).2 (inr (aT s n nq) g a n).1 s := by
  have h7 := rd.2.1
  have key := lp_inv (fun k j (x : Int32 × Int32) => fX12_aisle_L31 κ (nI g) k x.2 x.1 (nI j) s) (fun j x => g < j ∧ x = inr (aT s n nq) g a j) n ?_ (n - (g + 1)) (g + 1) FU a (by omega) (by unfold FU; omega) ⟨by omega, (inr_b _ _ _ _ (Nat.le_refl _)).symm⟩
  · obtain ⟨a', t, ⟨_, rfl⟩, e⟩ := key
    have e' : fX12_aisle_L31 κ (nI g) FU a.2 a.1 (nI (g + 1)) s = fX12_aisle_L31 κ (nI g) (t + 1) (inr (aT s n nq) g a n).2 (inr (aT s n nq) g a n).1 (nI n) s := e
    rw [e', fX12_aisle_L31, rd.2.2.2.1, if_neg (nI_nlt (Nat.le_refl n) (by omega))]
  · rintro j t a' hj ⟨hgj, i1⟩
    show ∃ x' : Int32 × Int32, _ ∧ fX12_aisle_L31 κ (nI g) (t + 1) a'.2 a'.1 (nI j) s = fX12_aisle_L31 κ (nI g) t x'.2 x'.1 (nI (j + 1)) s
    have ht := canChange_ok rd rq hg hj (show g ≠ j by omega)
    have e10 : 10 * nI g + nI j = nI (10 * g + j) := by rw [show (10 : Int32) = nI 10 from rfl, pk_mul, nI_add]
    have hT : inr (aT s n nq) g a (j + 1) = aT s n nq g j a' := by rw [inr, if_pos hgj, i1]
    rw [fX12_aisle_L31, rd.2.2.2.1, if_pos (nI_lt hj (by omega)), nI_1]
    by_cases hc : chP (s.1 76) (s.1 85) (s.1 86) (s.1 79) n nq g j
    · have rd2 : Rd (swp s g j) nb n := by
        refine ⟨rd.1, rd.2.1, rd.2.2.1, rd.2.2.2.1, fun i hi => ?_⟩
        show StOk nb (sw (s.1 79) g j i)
        by_cases c1 : i = j
        · rw [c1, sw_h]
          exact rd.2.2.2.2 g hg
        · by_cases c2 : i = g
          · rw [c2, sw_g _ (by omega)]
            exact rd.2.2.2.2 j hj
          · rw [sw_o _ c2 c1]
            exact rd.2.2.2.2 i hi
      have hl : fX12_listOf 0 ((swp s g j).1 68 18) (swp s g j) = some (s.1 68 18 + sumI (mof (s.1 75) (s.1 76) (s.1 77) (sw (s.1 79) g j) 0) n, swp s g j) := rlist_ok rd2 (p := 0) (by decide) _
      rw [ht.1 hc, bnd_some, if_neg one_ne, mswap_ok s (by omega) (by omega), bnd_some, hl, bnd_some, sizeOf_ok, bnd_some, ← ab_eq, mswap_ok _ (by omega) (by omega), bnd_some, swp_swp s (by omega), nm_eq, e10]
      show ∃ x' : Int32 × Int32, _ ∧ (if av s n g j < a'.1 then (if av s n g j < a'.1 then _ else _) else (if av s n g j < a'.1 then _ else _)) = _
      by_cases c2 : av s n g j < a'.1
      · rw [if_pos c2, if_pos c2]
        refine ⟨(av s n g j, nI (10 * g + j)), ⟨by omega, ?_⟩, rfl⟩
        rw [hT]
        unfold aT
        rw [if_pos hc, if_pos c2]
      · rw [if_neg c2, if_neg c2]
        refine ⟨a', ⟨by omega, ?_⟩, rfl⟩
        rw [hT]
        unfold aT
        rw [if_pos hc, if_neg c2]
    · rw [ht.2 hc, bnd_some, if_pos rfl]
      refine ⟨a', ⟨by omega, ?_⟩, rfl⟩
      rw [hT]
      unfold aT
      rw [if_neg hc]
theorem aisle2 (rd : Rd s nb n) (rq : Rq s n nq) (a : Int32 × Int32) (κ : Int32 → Int32 → Mem → Option (Int32 × Mem)) : fX12_aisle_L18 κ FU a.2 a.1 0 s = κ (otr (aT s n nq) n a n).2 (otr (aT s n nq) n a n).1 s := by
  have h7 := rd.2.1
  have key := lp_inv0 (fun k j (x : Int32 × Int32) => fX12_aisle_L18 κ k x.2 x.1 (nI j) s) (fun j x => x = otr (aT s n nq) n a j) n a rfl ?_ (by omega)
  · obtain ⟨a', t, rfl, e⟩ := key
    have e' : fX12_aisle_L18 κ FU a.2 a.1 0 s = fX12_aisle_L18 κ (t + 1) (otr (aT s n nq) n a n).2 (otr (aT s n nq) n a n).1 (nI n) s := e
    rw [e', fX12_aisle_L18, rd.2.2.2.1, if_neg (nI_nlt (Nat.le_refl n) (by omega))]
  · rintro g t a' hg i1
    show ∃ x' : Int32 × Int32, _ ∧ fX12_aisle_L18 κ (t + 1) a'.2 a'.1 (nI g) s = fX12_aisle_L18 κ t x'.2 x'.1 (nI (g + 1)) s
    rw [fX12_aisle_L18, rd.2.2.2.1, if_pos (nI_lt hg (by omega)), nm_eq, nI_1]
    refine ⟨inr (aT s n nq) g a' n, ?_, aisle2_in rd rq hg a' (fun v23 v24 s25 => fX12_aisle_L18 κ t v23 v24 (nI (g + 1)) s25)⟩
    rw [otr, i1]
theorem aT_eq {s' : Mem} (h75 : s'.1 75 = s.1 75) (h76 : s'.1 76 = s.1 76) (h77 : s'.1 77 = s.1 77) (h79 : s'.1 79 = s.1 79) (h85 : s'.1 85 = s.1 85) (h86 : s'.1 86 = s.1 86) (h18 : s'.1 68 18 = s.1 68 18) : aT s' = aT s := by
  funext n nq g h a
  unfold aT av
  rw [h75, h76, h77, h79, h85, h86, h18]
end AIS
theorem al_aisle : Alike fX11_aisle fX12_aisle := by
  intro s hI
  obtain ⟨nb, n, nq, nm, nd, ga, gb, gc, gd, ge, gf, gg, gh, gi, gj⟩ := id hI
  have h7 := gd.ln
  have h8 := gd.lb
  have l1 : fX0_listIn 0 s = some (s.1 68 18 + sumI (mo s 0) n, s) := list_ok gd ge (p := 0) (by decide)
  obtain ⟨x, cx, mx1, e1⟩ := aisle1 gd ge gf (ab (s.1 68 18 + sumI (mo s 0) n), -9) (fun v20 v21 s22 => if v21 = (-9) then some (v21, s22) else bnd (fX10_tell v20 s22) (fun r24 s25 => some (v21, s25)))
  have hIx := Inv_cst hI gd ge gh cx mx1
  generalize hr : otr (aT s n nq) n (ab (s.1 68 18 + sumI (mo s 0) n), -9) n = r at *
  have rq : ∀ (z : Mem), SmX Xp s z → ∀ q, q ≠ 12 → q ≠ 16 → Cr q → z.1 q = s.1 q := fun z hz q w1 w2 w3 => hz.1 q w3 (by unfold Xp; omega)
  have xq : ∀ q, q ≠ 12 → q ≠ 16 → Cr q → x.1 q = s.1 q := rq x mx1
  have x75 := xq 75 (by decide) (by decide) (by unfold Cr; omega)
  have x76 := xq 76 (by decide) (by decide) (by unfold Cr; omega)
  have x77 := xq 77 (by decide) (by decide) (by unfold Cr; omega)
  have x79 := xq 79 (by decide) (by decide) (by unfold Cr; omega)
  have x85 := xq 85 (by decide) (by decide) (by unfold Cr; omega)
  have x86 := xq 86 (by decide) (by decide) (by unfold Cr; omega)
  have x18 : x.1 68 18 = s.1 68 18 := mx1.2.1 18 (by unfold Cf; omega) (by unfold Xp; omega)
  have x10 : x.1 68 10 = nI nb := by rw [mx1.2.1 10 (by unfold Cf; omega) (by unfold Xp; omega)]; exact gd.b68
  have x12 : x.1 68 12 = nI n := by rw [mx1.2.1 12 (by unfold Cf; omega) (by unfold Xp; omega)]; exact gd.g68
  have x29 : x.1 68 29 = nI nq := by rw [mx1.2.1 29 (by unfold Cf; omega) (by unfold Xp; omega)]; exact gf.2.2.1
  -- the reference from any state that has these cells
  have ref : ∀ y : Mem, y.1 75 = s.1 75 → y.1 76 = s.1 76 → y.1 77 = s.1 77 → y.1 79 = s.1 79 → y.1 85 = s.1 85 → y.1 86 = s.1 86 → y.1 68 18 = s.1 68 18 → y.1 68 10 = nI nb → y.1 68 12 = nI n → y.1 68 29 = nI nq → fX12_aisle y = if r.2 = (-9) then some ((-9), y) else bnd (fX12_tells r.1 r.2 y) (fun r30 s31 => some (r30, s31)) := by
    intro y h75 h76 h77 h79 h85 h86 h18 h10 h12 h29
    have rd : Rd y nb n := ⟨h8, h7, h10, h12, by rw [h79]; exact gd.sts⟩
    have rqy : Rq y n nq := ⟨gf.1, h29, by rw [h85, h86]; exact gf.2.2.2.2.2.1⟩
    have hl : fX12_listOf 0 (y.1 68 18) y = some (y.1 68 18 + sumI (mo y 0) n, y) := rlist_ok rd (p := 0) (by decide) _
    have a2 := aisle2 rd rqy (ab (s.1 68 18 + sumI (mo s 0) n), -9) (fun v26 v27 s28 => if v26 = (-9) then some ((-9), s28) else bnd (fX12_tells v27 v26 s28) (fun r30 s31 => some (r30, s31)))
    rw [aT_eq h75 h76 h77 h79 h85 h86 h18, hr] at a2
    unfold fX12_aisle
    rw [hl, bnd_some, sizeOf_ok, bnd_some, ← ab_eq, h18, mo_eq h75 h76 h77 h79]
    exact a2
  have cls : fX11_aisle s = if r.2 = (-9) then some (r.2, x) else bnd (fX10_tell r.1 x) (fun r24 s25 => some (r.2, s25)) := by
    unfold fX11_aisle
    rw [l1, bnd_some, nm_eq]
    exact e1
  by_cases c : r.2 = -9
  · refine ⟨-9, x, x, ?_, ?_, hIx⟩
    · rw [cls, if_pos c, c]
    · rw [ref x x75 x76 x77 x79 x85 x86 x18 x10 x12 x29, if_pos c]
  · refine ⟨r.2, wI x 2 0 r.1, wI (wI x 2 0 r.1) 68 2 r.1, ?_, ?_, Inv_tell hIx r.1⟩
    · rw [cls, if_neg c, f_tell, bnd_some]
    · rw [ref (wI x 2 0 r.1) x75 x76 x77 x79 x85 x86 x18 x10 x12 x29, if_neg c, f_tells, bnd_some]
