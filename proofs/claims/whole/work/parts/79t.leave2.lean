-- leave, leavers
section LVE
variable {s x y : Mem} {nb n : Nat} {LV : Nat → Bool}
theorem Rk.sub : ∀ (k m m' : Nat), m < 128 → Rk LV k m m' → ∀ i, i < 7 → m'.testBit i = true → m.testBit i = true
  | 0, m, m', _, h, i, _, hb => by
    have e : m = m' := h
    rw [e]
    exact hb
  | k + 1, m, m', hm, ⟨m2, ⟨g, hg, hgb, e, _⟩, h2⟩, i, hi, hb => by
    have d1 := (del_tab m hm g hg).1
    rw [← e] at d1
    have := Rk.sub k m2 m' d1 h2 i hi hb
    rw [e, del_bit m hm g hg i hi, Bool.and_eq_true] at this
    exact this.1
theorem lst_bit {m q : Nat} (hm : m < 128) (hq : q < 7) (h : lstL LV m q) : m.testBit q = true := by
  obtain ⟨⟨k, hk⟩, _⟩ := h
  refine Rk.sub k m _ hm hk q hq ?_
  rw [(pow_tab q hq).2.2 q hq]
  exact decide_eq_true rfl
theorem LVs_eq {s' : Mem} (h1 : s'.1 75 = s.1 75) (h2 : s'.1 76 = s.1 76) (h3 : s'.1 77 = s.1 77) (h4 : s'.1 79 = s.1 79) (h5 : s'.1 68 18 = s.1 68 18) (h6 : s'.1 68 17 = s.1 68 17) : LVs s' n = LVs s n := by
  funext m
  unfold LVs lev
  rw [valL_eq h1 h2 h3 h4 h5, h6]
theorem allLeave_ok (rd : Rd y nb n) : ∃ x' c' F' L', fX12_allLeave y = some ((), x') ∧ Sm y x' ∧ x'.1 68 42 = nI c' ∧ c' ≤ 1000000000 ∧ (c' = 0 ↔ ¬ CE (LVs y n) (msk (std y) n)) ∧ x'.1 68 43 = nI F' ∧ F' < 128 ∧ (∀ q, q < 7 → (F'.testBit q = true ↔ okL (LVs y n) (msk (std y) n) q)) ∧ x'.1 68 44 = nI L' ∧ L' < 128 ∧ (∀ q, q < 7 → (L'.testBit q = true ↔ (msk (std y) n).testBit q = true ∧ lstL (LVs y n) (msk (std y) n) q)) ∧ (CE (LVs y n) (msk (std y) n) → ∀ i, i < pcN (msk (std y) n) → x'.1 93 i = nI (gf0 (LVs y n) (gsL (LVs y n) (msk (std y) n) i))) := by
  have h7 := rd.2.1
  have hc := msk_lt128 (std y) h7
  have hbit : ∀ g, g < 7 → ((msk (std y) n).testBit g = true ↔ g < n ∧ y.1 79 g ≠ -9) := fun g hg => by
    rw [msk_bit, Bool.and_eq_true, decide_eq_true_iff]
    exact and_congr Iff.rfl decide_eq_true_iff
  have efm : fmL (y.1 79) n (msk (std y) n) = y.1 79 := by
    funext g
    unfold fmL
    by_cases e : g < n ∧ (msk (std y) n).testBit g = false
    · rw [if_pos e]
      have : y.1 79 g = -9 := Classical.byContradiction (fun z => by
        have := (hbit g (by omega)).mpr ⟨e.1, z⟩
        rw [e.2] at this
        exact absurd this (by decide))
      exact this.symm
    · rw [if_neg e]
  have hp7 : pcN (msk (std y) n) ≤ 7 := by
    have : ∀ m, m < 128 → pcN m ≤ 7 := by decide +kernel
    exact this _ hc
  have hpow : 7 ^ pcN (msk (std y) n) ≤ 823543 := (Nat.pow_le_pow_right (by decide) hp7 : 7 ^ pcN (msk (std y) n) ≤ 7 ^ 7)
  have lq : LQ y (wI (wI (wI y 68 42 0) 68 43 0) 68 44 0) n (msk (std y) n) 0 (fun _ => 0) 0 0 0 := ⟨((sm4x (by decide)).tr (sm4x (by decide))).tr (sm4x (by decide)), efm.symm, fun i hi => absurd hi (by omega), rfl, rfl, rfl⟩
  obtain ⟨x', ex, c', F', L', k1, k2, k3, k4, k5, k6, k7, k8, k9, k10⟩ := layL rd (pcN (msk (std y) n)) 0 (msk (std y) n) (fun _ => 0) 0 0 0 9 _ rfl (by omega) (by omega) ⟨hc, fun g hg hb => (hbit g hg).mp hb⟩ (fun i hi => absurd hi (by omega)) (by decide) (by decide) (by omega) lq
  obtain ⟨j1, j2, j3, j4, j5, j6⟩ := k1
  refine ⟨x', c', F', L', ?_, ?_, j4, by omega, k6, j5, k2, fun q hq => ?_, j6, k3, fun q hq => ?_, fun hce i hi => ?_⟩
  · unfold fX12_allLeave
    have ex' : fX12_layLeaving 9 0 (wI (wI (wI y 68 42 0) 68 43 0) 68 44 0) = some ((), x') := ex
    rw [ex', bnd_some]
  · refine ⟨fun a ha _ => ?_, fun j hj _ => j1.2.1 j hj (by omega), fun j _ => j1.2.2.1 j (by omega), fun _ => j1.2.2.2 (by omega)⟩
    by_cases e : a = 79
    · rw [e, j2, efm]
    · exact j1.1 a ha e
  · rw [k7 q hq]
    constructor
    · rintro (h | h)
      · rw [Nat.zero_testBit] at h
        exact absurd h (by decide)
      · rcases h with ⟨_, h, _⟩ | ⟨_, g, hg, ho, e⟩
        · omega
        · have : q = g := e
          rw [this]
          exact ho
    · intro h
      refine Or.inr (Or.inr ⟨fun z => ?_, q, hq, h, rfl⟩)
      have := h.1
      rw [z, Nat.zero_testBit] at this
      exact absurd this (by decide)
  · rw [k8 q hq]
    constructor
    · rintro (h | h)
      · rw [Nat.zero_testBit] at h
        exact absurd h (by decide)
      · rcases h with ⟨_, h, _⟩ | ⟨_, h⟩
        · omega
        · exact ⟨lst_bit hc hq h, h⟩
    · rintro ⟨hb, h⟩
      refine Or.inr (Or.inr ⟨fun z => ?_, h⟩)
      rw [z, Nat.zero_testBit] at hb
      exact absurd hb (by decide)
  · have := (k10 rfl hce).2 i hi
    rw [Nat.zero_add] at this
    exact this
theorem Sm_tell {a b : Mem} (h : Sm a b) (v : Int32) : Sm (wI a 68 2 v) (wI b 68 2 v) := by
  refine ⟨fun c hc _ => ?_, fun j hj _ => ?_, fun j _ => ?_, fun _ => h.2.2.2 id⟩
  · have h68 : c ≠ 68 := by
      unfold Cr at hc
      omega
    rw [wI_ne h68, wI_ne h68]
    exact h.1 c hc id
  · rw [rdq, rdq, h.2.1 j hj id]
  · rw [wI_ne (by decide), wI_ne (by decide)]
    exact h.2.2.1 j id
theorem Rd_sm (rd : Rd s nb n) (h : SmX (fun a => a = 2 ∨ (48 ≤ a ∧ a ≤ 59)) s x) : Rd x nb n := ⟨rd.1, rd.2.1, by rw [h.2.1 10 (by unfold Cf; omega) (by omega)]; exact rd.2.2.1, by rw [h.2.1 12 (by unfold Cf; omega) (by omega)]; exact rd.2.2.2.1, by rw [h.1 79 (by unfold Cr; omega) (by omega)]; exact rd.2.2.2.2⟩
theorem LVs_sm (h : SmX (fun a => a = 2 ∨ (48 ≤ a ∧ a ≤ 59)) s x) : LVs x n = LVs s n := LVs_eq (h.1 75 (by unfold Cr; omega) (by omega)) (h.1 76 (by unfold Cr; omega) (by omega)) (h.1 77 (by unfold Cr; omega) (by omega)) (h.1 79 (by unfold Cr; omega) (by omega)) (h.2.1 18 (by unfold Cf; omega) (by omega)) (h.2.1 17 (by unfold Cf; omega) (by omega))
theorem std_sm (h : SmX (fun a => a = 2 ∨ (48 ≤ a ∧ a ≤ 59)) s x) : std x = std s := by
  funext g
  unfold std
  rw [h.1 79 (by unfold Cr; omega) (by omega)]
theorem lv37 {r P : Nat} (hr : r < 6) (hP : P ≤ 7) (κ : Mem → Option (Int32 × Mem)) : fX12_leave_L37 κ (nI r) (nI P) FU 0 x = κ (wF x 71 (rF x 93 r P 60)) := by
  have key := lp0 (fun k j => fX12_leave_L37 κ (nI r) (nI P) k (nI j) (wF x 71 (rF x 93 r P j))) (κ (wF x 71 (rF x 93 r P 60))) 60 ?_ ?_ (by omega)
  · rw [← key]
    show _ = fX12_leave_L37 κ (nI r) (nI P) FU (nI 0) (wF x 71 (rF x 93 r P 0))
    rw [rF_0, wF_self]
    rfl
  · intro j k hj
    show fX12_leave_L37 κ (nI r) (nI P) (k + 1) (nI j) _ = fX12_leave_L37 κ (nI r) (nI P) k (nI (j + 1)) _
    have h93 : ∀ F, (wF x 71 F).1 93 = x.1 93 := fun F => rfl
    rw [fX12_leave_L37, if_pos ((lt_num (b := 60) (by omega) (by decide)).mpr hj), six0, if_pos (inb_ok (show 60 * r + j < 360 by omega) (by decide)), if_pos (inb_ok (show 60 * r + j < 360 by omega) (by decide)), ix_nI (show 60 * r + j < 2 ^ 31 by omega), ix_nI (show j < 2 ^ 31 by omega), h93, nI_1, wI_wF, wI_wF, ← rF_s]
    by_cases e : j < P
    · rw [if_pos (nI_lt e (by omega)), if_pos (inb_ok (by omega) (by decide)), if_pos e]
    · rw [if_neg (nI_nlt (by omega) (by omega)), if_neg e]
  · intro k
    show fX12_leave_L37 κ (nI r) (nI P) (k + 1) (nI 60) _ = _
    rw [fX12_leave_L37, if_neg (by decide)]
end LVE
theorem al_leavers : Alike fX11_leavers fX12_leavers := by
  intro s hI
  obtain ⟨nb, n, nq, nm, nd, ga, gb, gc, gd, ge, gf, gg, gh, gi, gj⟩ := id hI
  have h7 := gd.ln
  have hc := msk_lt128 (std s) h7
  obtain ⟨y, ey, sy, pa⟩ := plan_ok gd ge
  obtain ⟨QL, hQL, eL⟩ := lasts_ok hc pa
  have pa2 : PA (wI y 2 0 (nI (msk QL 7))) (LVs s n) (msk (std s) n) := pa
  obtain ⟨QF, hQF, eF⟩ := firsts_ok hc pa2
  have hIy := Inv_same hI sy
  have hS : SmX (fun a => a = 2 ∨ (48 ≤ a ∧ a ≤ 59)) s (wI y 2 0 (nI (msk QL 7))) := sy.to.tr (SmX.wI (by omega) (by omega) (by omega))
  obtain ⟨x', c', F', L', ex, sx, _, _, _, x43, hF, bF, x44, hL, bL, _⟩ := allLeave_ok (Rd_sm gd.rd hS)
  rw [LVs_sm hS, std_sm hS] at bF bL
  have eqF : F' = msk QF 7 := bits_eq hF (msk_lt128 _ (by decide)) (fun i hi => by
    rw [msk_bit, decide_eq_true hi, Bool.true_and]
    apply Bool.eq_iff_iff.mpr
    rw [bF i hi, hQF])
  have eqL : L' = msk QL 7 := bits_eq hL (msk_lt128 _ (by decide)) (fun i hi => by
    rw [msk_bit, decide_eq_true hi, Bool.true_and]
    apply Bool.eq_iff_iff.mpr
    rw [bL i hi, hQL])
  refine ⟨nI (msk QF 7), wI y 2 0 (nI (msk QL 7)), wI x' 68 2 (nI (msk QL 7)), ?_, ?_, ?_⟩
  · unfold fX11_leavers
    rw [ey, bnd_some, eL, bnd_some, f_tell, bnd_some, eF, bnd_some]
  · unfold fX12_leavers
    rw [ex, bnd_some, x43, x44, eqF, eqL, f_tells, bnd_some]
  · exact Inv_same (Inv_tell hIy (nI (msk QL 7))) (Sm_tell sx _)
theorem al_leave (a1 : Int32) : Alike (fX11_leave a1) (fX12_leave a1) := by
  intro s hI
  obtain ⟨nb, n, nq, nm, nd, ga, gb, gc, gd, ge, gf, gg, gh, gi, gj⟩ := id hI
  have h7 := gd.ln
  have hc := msk_lt128 (std s) h7
  unfold fX11_leave fX12_leave
  rcases row_cases a1 with h | ⟨r, hr, rfl⟩
  · exact ⟨-1, s, s, by rw [rowOf_bad h, bnd_some, if_pos rfl], by rw [isRow_bad h, bnd_some, if_pos rfl], hI⟩
  · obtain ⟨y, ey, sy, pa⟩ := plan_ok gd ge
    have hIy := Inv_same hI sy
    rw [rowOf_ok hr, bnd_some, if_neg row_ne, ey, bnd_some]
    by_cases hce : CE (LVs s n) (msk (std s) n)
    · have gdy : Gd y nb n := Gd_keep sy (fun _ _ => id) gd
      have gey : Ge y nb n := Ge_keep sy (fun _ _ => id) ge
      have hcnt : fX0_seatedCount y = some (nI (pcN (msk (std s) n)), y) := by
        have hst : std y = std s := std_sm sy.to
        rw [seatedCount_ok gdy gey, hst, pc_msk (by omega)]
      have hp7 : pcN (msk (std s) n) ≤ 7 := by
        rw [pc_msk (by omega)]
        have := cntN_le (std s) n
        omega
      obtain ⟨y2, e2, s2, o2, v2⟩ := order_ok hc pa hce
      have hIy2 := Inv_same hIy s2
      obtain ⟨z, ez, mz, z0, zv, zo⟩ := take_any (x := y2) (q := 48 + 2 * r) (c := 41) (L := 7) (M := pcN (msk (std s) n)) hp7 (by decide) (by omega) (by omega) (by unfold Cr; omega) (by omega)
      have ez' : fX7_take_41 (48 + 2 * r) (nI (pcN (msk (std s) n))) y2 = some ((), z) := ez
      have mz' : SmX (fun a => a = 48 + 2 * r ∨ a = 49 + 2 * r) y2 z := mz.mono (fun c hc => by omega)
      have hS : SmX (fun a => a = 2 ∨ (48 ≤ a ∧ a ≤ 59)) s z := (sy.to.tr s2.to).tr (mz'.mono (fun c hc => by omega))
      have rdz := Rd_sm gd.rd hS
      obtain ⟨x', c', F', L', ex, sx, x42, hc', hce', _, _, _, _, _, _, ov⟩ := allLeave_ok rdz
      rw [LVs_sm hS, std_sm hS] at hce' ov
      have hne : ¬ x'.1 68 42 = 0 := by
        rw [x42]
        exact fun w => hce'.mp ((eq_num (b := 0) (by omega) (by decide)).mp w) hce
      have x12 : x'.1 68 12 = nI n := by
        rw [sx.2.1 12 (by unfold Cf; omega) id]
        exact rdz.2.2.2.1
      have xst : std x' = std s := by
        have : std x' = std z := by
          funext g
          unfold std
          rw [sx.1 79 (by unfold Cr; omega) id]
        rw [this, std_sm hS]
      have hin : inb (nI r) 6 = true := inb_ok hr (by decide)
      refine ⟨nI (pcN (msk (std s) n)), z, wF (wI x' 70 r (nI (pcN (msk (std s) n)))) 71 (rF (wI x' 70 r (nI (pcN (msk (std s) n)))) 93 r (pcN (msk (std s) n)) 60), ?_, ?_, ?_⟩
      · rw [(canLeave_ok hc pa).1 hce, bnd_some, if_neg one_ne, hcnt, bnd_some, e2, bnd_some, if_pos (rt4 r hr).2, ez', bnd_some]
      · rw [isRow_ok hr, bnd_some, if_neg one_ne, ex, bnd_some, if_neg hne, seatedMany_ok x12 h7, bnd_some, xst, ← pc_msk (by omega), if_pos hin, ix_nI (by omega), lv37 hr hp7]
      · refine Inv_ans (M := pcN (msk (std s) n)) hIy2 hr (by omega) mz' ((sx.to.tr (SmX.wI (by omega) (by omega) (by omega))).tr (SmX.wF (by omega) (by decide) (by decide))) z0 (fun j => ?_) (fun j hj => ?_) (fun i hi => ?_)
        · rw [wF_ne (by decide), rdq, sx.1 70 (by unfold Cr; omega) id]
        · rw [rd_wF, if_pos rfl, rF_out hj, wI_ne (by decide), sx.1 71 (by unfold Cr; omega) id]
        · rw [rd_wF, if_pos rfl, rF_at hi (by omega), wI_ne (by decide), ov hce i hi, ← e48, zv i hi, v2 i hi]
    · have hS : SmX (fun a => a = 2 ∨ (48 ≤ a ∧ a ≤ 59)) s y := sy.to
      obtain ⟨x', c', F', L', ex, sx, x42, hc', hce', _⟩ := allLeave_ok (Rd_sm gd.rd hS)
      rw [LVs_sm hS, std_sm hS] at hce'
      refine ⟨-9, y, x', ?_, ?_, Inv_same hIy sx⟩
      · rw [(canLeave_ok hc pa).2 hce, bnd_some, if_pos rfl]
      · rw [isRow_ok hr, bnd_some, if_neg one_ne, ex, bnd_some, x42, hce'.mpr hce, if_pos (show nI 0 = 0 from rfl)]
