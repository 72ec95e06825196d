-- change
def sw (f : Nat → Int32) (g h : Nat) : Nat → Int32 := upd (upd f g (f h)) h (f g)
theorem sw_h (f : Nat → Int32) (g h : Nat) : sw f g h h = f g := uq_s _ _ _
theorem sw_g (f : Nat → Int32) {g h : Nat} (e : g ≠ h) : sw f g h g = f h := by
  unfold sw
  rw [uq_n _ _ e, uq_s]
theorem sw_o (f : Nat → Int32) {g h i : Nat} (e1 : i ≠ g) (e2 : i ≠ h) : sw f g h i = f i := by
  unfold sw
  rw [uq_n _ _ e2, uq_n _ _ e1]
theorem sw_sw (f : Nat → Int32) {g h : Nat} (e : g ≠ h) : sw (sw f g h) g h = f := by
  funext i
  by_cases c1 : i = h
  · rw [c1, sw_h, sw_g _ e]
  · by_cases c2 : i = g
    · rw [c2, sw_g _ e, sw_h]
    · rw [sw_o _ c2 c1, sw_o _ c2 c1]
theorem wI_asF (s : Mem) (q j : Nat) (v : Int32) : wI s q j v = wF s q (upd (s.1 q) j v) := by
  have e : (wI s q j v).1 = (wF s q (upd (s.1 q) j v)).1 := by
    funext a
    by_cases h : a = q
    · subst h
      rw [wI_eq, rd_wF, if_pos rfl]
    · rw [wI_ne h, wF_ne h]
  exact Prod.ext e rfl
theorem wF_wF (s : Mem) (q : Nat) (f f' : Nat → Int32) : wF (wF s q f) q f' = wF s q f' := by
  have e : (wF (wF s q f) q f').1 = (wF s q f').1 := by
    funext a
    by_cases h : a = q
    · rw [rd_wF, if_pos h, rd_wF, if_pos h]
    · rw [wF_ne h, wF_ne h, wF_ne h]
  exact Prod.ext e rfl
def swp (s : Mem) (g h : Nat) : Mem := wF s 79 (sw (s.1 79) g h)
theorem swp_swp (s : Mem) {g h : Nat} (e : g ≠ h) : swp (swp s g h) g h = s := by
  unfold swp
  have e1 : (wF s 79 (sw (s.1 79) g h)).1 79 = sw (s.1 79) g h := rfl
  rw [e1, wF_wF, sw_sw _ e, wF_self]
theorem mswap_ok (s : Mem) {g h : Nat} (hg : g < 8) (hh : h < 8) : fX12_swap (nI g) (nI h) s = some ((), swp s g h) := by
  have h1 : inb (nI g) 8 = true := inb_ok hg (by decide)
  have h2 : inb (nI h) 8 = true := inb_ok hh (by decide)
  unfold fX12_swap
  rw [if_pos h1, nm_eq, if_pos h2, if_pos h1, if_pos h2, ix_nI (show g < 2 ^ 31 by omega), ix_nI (show h < 2 ^ 31 by omega), wI_asF, wI_asF, wF_wF]
  rfl
/-- whether two may change -/
def chP (kd q1 q2 f : Nat → Int32) (n nq g h : Nat) : Prop := f g ≠ -9 ∧ f h ≠ -9 ∧ f g ≠ f h ∧ okT kd (sw f g h) n (ix (f h)) ∧ okT kd (sw f g h) n (ix (f g)) ∧ okQ q1 q2 (sw f g h) nq g ∧ okQ q1 q2 (sw f g h) nq h
section CHG
variable {s : Mem} {nb n nq : Nat} {f : Nat → Int32}
theorem canChange_ok (rd : Rd s nb n) (rq : Rq s n nq) {g h : Nat} (hg : g < n) (hh : h < n) (hgh : g ≠ h) : (chP (s.1 76) (s.1 85) (s.1 86) (s.1 79) n nq g h → fX12_canChange (nI g) (nI h) s = some (1, s)) ∧ (¬ chP (s.1 76) (s.1 85) (s.1 86) (s.1 79) n nq g h → fX12_canChange (nI g) (nI h) s = some (0, s)) := by
  have h7 := rd.2.1
  have h8 := rd.1
  have i1 : inb (nI g) 8 = true := inb_ok (by omega) (by decide)
  have i2 : inb (nI h) 8 = true := inb_ok (by omega) (by decide)
  have sg := rd.2.2.2.2 g hg
  have sh := rd.2.2.2.2 h hh
  have rq' : Rq (swp s g h) n nq := rq
  have e12 : (swp s g h).1 68 12 = nI n := rd.2.2.2.1
  have e79 : (swp s g h).1 79 = sw (s.1 79) g h := rfl
  have e76 : (swp s g h).1 76 = s.1 76 := rfl
  have e85 : (swp s g h).1 85 = s.1 85 := rfl
  have e86 : (swp s g h).1 86 = s.1 86 := rfl
  unfold fX12_canChange
  rw [if_pos i1, if_pos i2, if_pos i1, if_pos i2, ix_nI (show g < 2 ^ 31 by omega), ix_nI (show h < 2 ^ 31 by omega)]
  unfold chP
  by_cases c1 : s.1 79 g = -9
  · rw [if_pos c1]
    exact ⟨fun z => absurd c1 z.1, fun _ => rfl⟩
  · by_cases c2 : s.1 79 h = -9
    · rw [if_neg c1, if_pos c2]
      exact ⟨fun z => absurd c2 z.2.1, fun _ => rfl⟩
    · by_cases c3 : s.1 79 g = s.1 79 h
      · rw [if_neg c1, if_neg c2, if_pos c3]
        exact ⟨fun z => absurd c3 z.2.2.1, fun _ => rfl⟩
      · obtain ⟨b, hb, eb⟩ := sg.resolve_left c1
        obtain ⟨c, hc, ec⟩ := sh.resolve_left c2
        have t1 : ∀ x, (2 < nI (cntN (fun i => decide (sw (s.1 79) g h i = nI x) && decide (s.1 76 i ≠ 3)) n)) ↔ ¬ okT (s.1 76) (sw (s.1 79) g h) n x := by
          intro x
          have hcl := cntN_le (fun i => decide (sw (s.1 79) g h i = nI x) && decide (s.1 76 i ≠ 3)) n
          rw [num_lt (b := 2) (by omega) (by decide)]
          exact Iff.symm Nat.not_le
        rw [if_neg c1, if_neg c2, if_neg c3, mswap_ok s (by omega) (by omega), bnd_some, if_pos i1, e79, sw_g _ hgh, takenOn_ok e12 h7, bnd_some, if_pos i2, e79, sw_h, takenOn_ok e12 h7, bnd_some, e79, e76, ec, eb, ix_nI (by omega), ix_nI (by omega), mswap_ok _ (by omega) (by omega), bnd_some, swp_swp s hgh]
        by_cases d1 : okT (s.1 76) (sw (s.1 79) g h) n c
        · rw [if_neg (fun z => (t1 c).mp z d1)]
          by_cases d2 : okT (s.1 76) (sw (s.1 79) g h) n b
          · rw [if_neg (fun z => (t1 b).mp z d2)]
            by_cases d3 : okQ (s.1 85) (s.1 86) (sw (s.1 79) g h) nq g
            · rw [peace_t rq' h7 (g := g) d3, bnd_some, if_neg one_ne]
              by_cases d4 : okQ (s.1 85) (s.1 86) (sw (s.1 79) g h) nq h
              · rw [peace_t rq' h7 (g := h) d4, bnd_some, if_neg one_ne, mswap_ok _ (by omega) (by omega), bnd_some, swp_swp s hgh]
                exact ⟨fun _ => rfl, fun z => absurd ⟨nI_m9 (by omega), nI_m9 (by omega), fun e => c3 (by rw [eb, ec]; exact e), d1, d2, d3, d4⟩ z⟩
              · rw [peace_f rq' h7 (g := h) d4, bnd_some, if_pos rfl, mswap_ok _ (by omega) (by omega), bnd_some, swp_swp s hgh]
                exact ⟨fun z => absurd z.2.2.2.2.2.2 d4, fun _ => rfl⟩
            · rw [peace_f rq' h7 (g := g) d3, bnd_some, if_pos rfl, mswap_ok _ (by omega) (by omega), bnd_some, swp_swp s hgh]
              exact ⟨fun z => absurd z.2.2.2.2.2.1 d3, fun _ => rfl⟩
          · rw [if_pos ((t1 b).mpr d2)]
            exact ⟨fun z => absurd z.2.2.2.2.1 d2, fun _ => rfl⟩
        · rw [if_pos ((t1 c).mpr d1)]
          exact ⟨fun z => absurd z.2.2.2.1 d1, fun _ => rfl⟩
theorem benchC (cs : Cst s nb n f) {g : Nat} (hg : g < n) : fX0_benchOf (nI g) s = some (f g, s) := by
  have h7 := cs.2.1
  unfold fX0_benchOf
  rw [isG_t cs.2.2.2.1 (by omega) hg, bnd_some, if_neg one_ne, if_pos (inb_ok (by omega) (by decide)), ix_nI (by omega), cs.2.2.2.2.1]
theorem trade_iff {kd q1 q2 f2 f3 : Nat → Int32} (hq : Qd q1 q2 n nq) (h7 : n ≤ 7) (h8 : nb ≤ 8) (hst2 : ∀ g, g < n → StOk nb (f2 g)) (hst3 : ∀ g, g < n → StOk nb (f3 g)) {g h b c : Nat} (hg : g < n) (hh : h < n) (hgh : g ≠ h) (hb : b < nb) (hc : c < nb) (hbc : b ≠ c) (e3 : f3 = upd f2 h (nI b)) (e2g : f2 g = nI c) (e2h : f2 h = -9) :
    ((okT kd f2 n c ∧ okQ q1 q2 f2 nq g) ∧ (okT kd f3 n b ∧ okQ q1 q2 f3 nq h)) ↔ (okT kd f3 n c ∧ okT kd f3 n b ∧ okQ q1 q2 f3 nq g ∧ okQ q1 q2 f3 nq h) := by
  have e3h : f3 h = nI b := by rw [e3, uq_s]
  have e3o : ∀ i, i ≠ h → f3 i = f2 i := fun i hi => by rw [e3, uq_n _ _ hi]
  have t : okT kd f2 n c ↔ okT kd f3 n c := by
    unfold okT
    rw [cntN_cong (p := fun i => decide (f2 i = nI c) && decide (kd i ≠ 3)) (q := fun i => decide (f3 i = nI c) && decide (kd i ≠ 3)) (fun i hi => ?_)]
    show (decide (f2 i = nI c) && decide (kd i ≠ 3)) = (decide (f3 i = nI c) && decide (kd i ≠ 3))
    by_cases e : i = h
    · rw [e, e3h, e2h, decide_eq_false (m9_nI (by omega)), decide_eq_false (fun z => hbc ((nI_eq (by omega) (by omega)).mp z))]
    · rw [e3o i e]
  have q2' := okQ_iff (f := f2) hq h7 h8 hst2 hg
  have q3g := okQ_iff (f := f3) hq h7 h8 hst3 hg
  have q3h := okQ_iff (f := f3) hq h7 h8 hst3 hh
  constructor
  · rintro ⟨⟨a1, a2⟩, a3, a4⟩
    refine ⟨t.mp a1, a3, ?_, a4⟩
    rw [q3g]
    intro i hi hfo
    have h2 := (q2'.mp a2) i hi hfo
    refine ⟨h2.1, ?_⟩
    by_cases e : i = h
    · subst e
      have h3 := (q3h.mp a4) g hg (by
        obtain ⟨q, hq1, hc1⟩ := hfo
        exact ⟨q, hq1, hc1.symm⟩)
      rw [nr_sym (hst3 g hg) (hst3 i hi) h8]
      exact h3.2
    · rw [e3o i e, e3o g hgh]
      exact h2.2
  · rintro ⟨a1, a2, a3, a4⟩
    refine ⟨⟨t.mpr a1, ?_⟩, a2, a4⟩
    rw [q2']
    intro i hi hfo
    have h3 := (q3g.mp a3) i hi hfo
    refine ⟨h3.1, ?_⟩
    by_cases e : i = h
    · rw [e, e2h]
      exact fun z => z.2.1 rfl
    · rw [← e3o i e, ← e3o g hgh]
      exact h3.2
def Xp (a : Nat) : Prop := a = 12 ∨ a = 16
theorem trade_ok (cs : Cst s nb n f) (hk : s.1 6 12 = nI (msk (fun g => decide (s.1 13 g ≠ 3)) n)) {q1 q2 : Nat → Int32} (fo : Fo s q1 q2 nq) (hq : Qd q1 q2 n nq) {g h : Nat} (hg : g < n) (hh : h < n) (hgh : g ≠ h) :
    (chP (s.1 13) q1 q2 f n nq g h → ∃ s', fX0_trade (nI g) (nI h) s = some (1, s') ∧ Cst s' nb n (sw f g h) ∧ SmX Xp s s') ∧ (¬ chP (s.1 13) q1 q2 f n nq g h → ∃ s', fX0_trade (nI g) (nI h) s = some (0, s') ∧ Cst s' nb n f ∧ SmX Xp s s') := by
  obtain ⟨h8, h7, e0, e1, e16, hst, h12⟩ := id cs
  unfold fX0_trade
  rw [benchC cs hg, bnd_some, benchC cs hh, bnd_some]
  unfold chP
  by_cases c1 : f g = -9
  · rw [if_pos c1]
    exact ⟨fun z => absurd c1 z.1, fun _ => ⟨s, rfl, cs, SmX.rf s⟩⟩
  · by_cases c2 : f h = -9
    · rw [if_neg c1, if_pos c2]
      exact ⟨fun z => absurd c2 z.2.1, fun _ => ⟨s, rfl, cs, SmX.rf s⟩⟩
    · by_cases c3 : f g = f h
      · rw [if_neg c1, if_neg c2, if_pos c3]
        exact ⟨fun z => absurd c3 z.2.2.1, fun _ => ⟨s, rfl, cs, SmX.rf s⟩⟩
      · obtain ⟨b, hb, eb⟩ := (hst g hg).resolve_left c1
        obtain ⟨c, hc, ec⟩ := (hst h hh).resolve_left c2
        have hbc : b ≠ c := fun z => c3 (by rw [eb, ec, z])
        rw [if_neg c1, if_neg c2, if_neg c3, eb, ec, ix_nI (by omega), ix_nI (by omega)]
        obtain ⟨s1, p1, cs1, m1⟩ := place_ok cs hh (x := -9) (Or.inl rfl)
        have x1 : ∀ a, a ≠ 12 → a ≠ 16 → Cr a → s1.1 a = s.1 a := fun a ha hb hc => m1.1 a hc (by omega)
        have k1 : s1.1 6 12 = nI (msk (fun g => decide (s1.1 13 g ≠ 3)) n) := by
          rw [m1.2.2.1 12 (by omega), x1 13 (by decide) (by decide) (by unfold Cr; omega)]
          exact hk
        have fo1 : Fo s1 q1 q2 nq := by
          obtain ⟨Q, w1, w2⟩ := fo
          exact ⟨Q, w1, by rw [x1 10 (by decide) (by decide) (by unfold Cr; omega)]; exact w2⟩
        have f1g : upd f h (-9) g = nI b := by rw [uq_n _ _ hgh]; exact eb
        have hm1 := mayTake_ok cs1 k1 fo1 hq hg hc (by rw [f1g]; exact fun z => hbc ((nI_eq (by omega) (by omega)).mp z))
        rw [x1 13 (by decide) (by decide) (by unfold Cr; omega)] at hm1
        rw [p1, bnd_some]
        -- back to where they sat
        have back : ∀ (sx : Mem) (fx : Nat → Int32), Cst sx nb n fx → SmX Xp s sx → (∀ i, i ≠ g → i ≠ h → fx i = f i) → ∃ sy sz, fX0_place (nI g) (nI b) sx = some ((), sy) ∧ fX0_place (nI h) (nI c) sy = some ((), sz) ∧ Cst sz nb n f ∧ SmX Xp s sz := by
          intro sx fx cx mx1 hx
          obtain ⟨sy, py, cy, my⟩ := place_ok cx hg (x := nI b) (Or.inr ⟨b, hb, rfl⟩)
          obtain ⟨sz, pz, cz, mz⟩ := place_ok cy hh (x := nI c) (Or.inr ⟨c, hc, rfl⟩)
          refine ⟨sy, sz, py, pz, ?_, (mx1.tr my).tr mz⟩
          have e : upd (upd fx g (nI b)) h (nI c) = f := by
            funext i
            by_cases d1 : i = h
            · rw [d1, uq_s, ec]
            · rw [uq_n _ _ d1]
              by_cases d2 : i = g
              · rw [d2, uq_s, eb]
              · rw [uq_n _ _ d2, hx i d2 d1]
          rw [e] at cz
          exact cz
        by_cases mm1 : mayP (s.1 13) q1 q2 (upd f h (-9)) n nq g c
        · rw [hm1.1 mm1, bnd_some, if_neg one_ne]
          obtain ⟨s2, p2, cs2, m2⟩ := place_ok cs1 hg (x := nI c) (Or.inr ⟨c, hc, rfl⟩)
          have x2 : ∀ a, a ≠ 12 → a ≠ 16 → Cr a → s2.1 a = s.1 a := fun a ha hb hc => (m2.1 a hc (by omega)).trans (x1 a ha hb hc)
          have k2 : s2.1 6 12 = nI (msk (fun g => decide (s2.1 13 g ≠ 3)) n) := by
            rw [m2.2.2.1 12 (by omega), m1.2.2.1 12 (by omega), x2 13 (by decide) (by decide) (by unfold Cr; omega)]
            exact hk
          have fo2 : Fo s2 q1 q2 nq := by
            obtain ⟨Q, w1, w2⟩ := fo
            exact ⟨Q, w1, by rw [x2 10 (by decide) (by decide) (by unfold Cr; omega)]; exact w2⟩
          have f2h : upd (upd f h (-9)) g (nI c) h = -9 := by rw [uq_n _ _ (fun z => hgh z.symm), uq_s]
          have f2g : upd (upd f h (-9)) g (nI c) g = nI c := uq_s _ _ _
          have hm2 := mayTake_ok cs2 k2 fo2 hq hh hb (by rw [f2h]; exact m9_nI (by omega))
          rw [x2 13 (by decide) (by decide) (by unfold Cr; omega)] at hm2
          have e3 : sw f g h = upd (upd (upd f h (-9)) g (nI c)) h (nI b) := by
            funext i
            by_cases d1 : i = h
            · rw [d1, sw_h, uq_s, eb]
            · rw [uq_n _ _ d1]
              by_cases d2 : i = g
              · rw [d2, sw_g _ hgh, uq_s, ec]
              · rw [uq_n _ _ d2, uq_n _ _ d1, sw_o _ d2 d1]
          have hst3 : ∀ i, i < n → StOk nb (sw f g h i) := by
            intro i hi
            rw [e3]
            by_cases d1 : i = h
            · rw [d1, uq_s]
              exact Or.inr ⟨b, hb, rfl⟩
            · rw [uq_n _ _ d1]
              exact cs2.2.2.2.2.2.1 i hi
          have hiff := trade_iff (kd := s.1 13) hq h7 h8 cs2.2.2.2.2.2.1 hst3 hg hh hgh hb hc hbc e3 f2g f2h
          rw [p2, bnd_some]
          by_cases mm2 : mayP (s.1 13) q1 q2 (upd (upd f h (-9)) g (nI c)) n nq h b
          · rw [hm2.1 mm2, bnd_some, if_neg one_ne]
            obtain ⟨s3, p3, cs3, m3⟩ := place_ok cs2 hg (x := nI c) (Or.inr ⟨c, hc, rfl⟩)
            obtain ⟨s4, p4, cs4, m4⟩ := place_ok cs3 hh (x := nI b) (Or.inr ⟨b, hb, rfl⟩)
            have e4 : upd (upd (upd (upd f h (-9)) g (nI c)) g (nI c)) h (nI b) = sw f g h := by
              rw [e3]
              congr 1
              funext i
              by_cases d2 : i = g
              · rw [d2, uq_s, uq_s]
              · rw [uq_n _ _ d2]
            rw [e4] at cs4
            rw [p3, bnd_some, if_neg one_ne, p4, bnd_some, if_pos (Or.inr rfl)]
            refine ⟨fun _ => ⟨s4, rfl, cs4, ((m1.tr m2).tr m3).tr m4⟩, fun z => absurd ?_ z⟩
            unfold mayP at mm1 mm2
            rw [← e3] at mm2
            obtain ⟨w1, w2, w3, w4⟩ := hiff.mp ⟨mm1, mm2⟩
            exact ⟨nI_m9 (by omega), nI_m9 (by omega), fun z => hbc ((nI_eq (by omega) (by omega)).mp z), w1, w2, w3, w4⟩
          · rw [hm2.2 mm2, bnd_some, if_pos rfl]
            obtain ⟨sy, sz, py, pz, cz, mz⟩ := back s2 _ cs2 (m1.tr m2) (fun i d1 d2 => by rw [uq_n _ _ d1, uq_n _ _ d2])
            rw [py, bnd_some, if_pos rfl, pz, bnd_some, if_pos (Or.inl rfl)]
            refine ⟨fun z => absurd ?_ mm2, fun _ => ⟨sz, rfl, cz, mz⟩⟩
            have := hiff.mpr z.2.2.2
            unfold mayP
            rw [← e3]
            exact this.2
        · rw [hm1.2 mm1, bnd_some, if_pos rfl, if_pos rfl]
          obtain ⟨sy, sz, py, pz, cz, mz⟩ := back s1 _ cs1 m1 (fun i d1 d2 => by rw [uq_n _ _ d2])
          rw [py, bnd_some, if_pos rfl, pz, bnd_some, if_pos (Or.inl rfl)]
          refine ⟨fun z => absurd ?_ mm1, fun _ => ⟨sz, rfl, cz, mz⟩⟩
          have e3 : sw f g h = upd (upd (upd f h (-9)) g (nI c)) h (nI b) := by
            funext i
            by_cases d1 : i = h
            · rw [d1, sw_h, uq_s, eb]
            · rw [uq_n _ _ d1]
              by_cases d2 : i = g
              · rw [d2, sw_g _ hgh, uq_s, ec]
              · rw [uq_n _ _ d2, uq_n _ _ d1, sw_o _ d2 d1]
          have hst2 : ∀ i, i < n → StOk nb (upd (upd f h (-9)) g (nI c) i) := by
            intro i hi
            by_cases d1 : i = g
            · rw [d1, uq_s]
              exact Or.inr ⟨c, hc, rfl⟩
            · rw [uq_n _ _ d1]
              exact cs1.2.2.2.2.2.1 i hi
          have hst3 : ∀ i, i < n → StOk nb (sw f g h i) := by
            intro i hi
            rw [e3]
            by_cases d1 : i = h
            · rw [d1, uq_s]
              exact Or.inr ⟨b, hb, rfl⟩
            · rw [uq_n _ _ d1]
              exact hst2 i hi
          have hiff := trade_iff (kd := s.1 13) hq h7 h8 hst2 hst3 hg hh hgh hb hc hbc e3 (uq_s _ _ _) (by rw [uq_n _ _ (fun z => hgh z.symm), uq_s])
          exact (hiff.mpr z.2.2.2).1
/-- the class's cells of who sits where, moved about but as they were -/
theorem Inv_cst (hI : Inv s) (gd : Gd s nb n) (ge : Ge s nb n) {nd : Nat} (gh : Gh s nb n nd) {s' : Mem} (cs : Cst s' nb n (s.1 79)) (hm : SmX Xp s s') : Inv s' := by
  have e79 : s'.1 79 = s.1 79 := hm.1 79 (by unfold Cr; omega) (by unfold Xp; omega)
  refine Inv_sit (nd' := nd) hI gd ge (hm.mono (fun a ha => by unfold Xp at ha; unfold Xs; omega)) ?_ ?_ ?_ ?_ ?_
  · rw [e79]
    exact cs.2.2.2.2.1
  · rw [e79]
    exact gd.sts
  · rw [e79]
    exact cs.2.2.2.2.2.2
  · intro g _
    rw [e79]
  · exact Gh_keep hm (fun a ha => by unfold Xp; omega) gh
end CHG
theorem al_change (a1 a2 : Int32) : Alike (fX11_change a1 a2) (fX12_change a1 a2) := by
  intro s hI
  obtain ⟨nb, n, nq, nm, nd, ga, gb, gc, gd, ge, gf, gg, gh, gi, gj⟩ := id hI
  have h7 := gd.ln
  have h8 := gd.lb
  unfold fX11_change fX12_change
  rcases pl_cases a1 n (by omega) with hb | ⟨g, hg, rfl⟩
  · exact ⟨-1, s, s, by rw [isG_f gd.g6 hb, bnd_some, if_pos rfl], by rw [mG_f gd.g68 (by omega) hb, bnd_some, if_pos rfl], hI⟩
  · rcases pl_cases a2 n (by omega) with hb | ⟨h, hh, rfl⟩
    · exact ⟨-1, s, s, by rw [isG_t gd.g6 (by omega) hg, bnd_some, if_neg one_ne, isG_f gd.g6 hb, bnd_some, if_pos rfl], by rw [mG_t gd.g68 (by omega) hg, bnd_some, if_neg one_ne, mG_f gd.g68 (by omega) hb, bnd_some, if_pos rfl], hI⟩
    · by_cases hne : g = h
      · subst hne
        exact ⟨-1, s, s, by rw [isG_t gd.g6 (by omega) hg, bnd_some, if_neg one_ne, isG_t gd.g6 (by omega) hh, bnd_some, if_neg one_ne, if_pos rfl], by rw [mG_t gd.g68 (by omega) hg, bnd_some, if_neg one_ne, mG_t gd.g68 (by omega) hh, bnd_some, if_neg one_ne, if_pos rfl], hI⟩
      · have hne' : ¬ nI g = nI h := fun z => hne ((nI_eq (by omega) (by omega)).mp z)
        have ht := trade_ok (cs_of gd ge) (Ge.tk gd ge) gf.fo gf.qd hg hh hne
        rw [gd.c13] at ht
        by_cases hc : chP (s.1 76) (s.1 85) (s.1 86) (s.1 79) n nq g h
        · obtain ⟨sa, ea, ca, ma⟩ := ht.1 hc
          obtain ⟨h60, g20, g32, _⟩ := id gh
          have h20 : sa.1 20 0 = nI nd := by
            rw [ma.1 20 (by unfold Cr; omega) (by unfold Xp; omega)]
            exact g20
          obtain ⟨sb, eb, rb1, rb2, rb3, rb4, rb5⟩ := remember_ok h60 h20 (nI 2) (nI g) (nI h)
          have mb : SmX (fun a => a = 12 ∨ a = 16 ∨ (20 ≤ a ∧ a ≤ 23)) s sb := (ma.mono (fun a ha => by unfold Xp at ha; omega)).tr (rb1.mono (fun a ha => by omega))
          have h32 : sb.1 68 32 = nI nd := by
            rw [mb.2.1 32 (by unfold Cf; omega) (by omega)]
            exact g32
          obtain ⟨sd, ed, rd1, rd2, rd3⟩ := remembers_ok h60 h32 (nI 2)
          have h12 : sb.1 68 12 = nI n := by
            rw [mb.2.1 12 (by unfold Cf; omega) (by omega)]
            exact gd.g68
          have h10 : sb.1 68 10 = nI nb := by
            rw [mb.2.1 10 (by unfold Cf; omega) (by omega)]
            exact gd.b68
          have h79 : sb.1 79 = s.1 79 := mb.1 79 (by unfold Cr; omega) (by omega)
          have h76 : sb.1 76 = s.1 76 := mb.1 76 (by unfold Cr; omega) (by omega)
          have h85 : sb.1 85 = s.1 85 := mb.1 85 (by unfold Cr; omega) (by omega)
          have h86 : sb.1 86 = s.1 86 := mb.1 86 (by unfold Cr; omega) (by omega)
          have rd : Rd sb nb n := ⟨h8, h7, h10, h12, by rw [h79]; exact gd.sts⟩
          have rq : Rq sb n nq := ⟨gf.1, by rw [mb.2.1 29 (by unfold Cf; omega) (by omega)]; exact gf.2.2.1, by rw [h85, h86]; exact gf.2.2.2.2.2.1⟩
          have hs := (canChange_ok rd rq hg hh hne).1 (by rw [h79, h76, h85, h86]; exact hc)
          have d79 : sd.1 79 = s.1 79 := (rd1.1 79 (by unfold Cr; omega) (by omega)).trans h79
          have b87 : sb.1 87 = s.1 87 := mb.1 87 (by unfold Cr; omega) (by omega)
          refine ⟨1, sb, swp sd g h, ?_, ?_, ?_⟩
          · rw [isG_t gd.g6 (by omega) hg, bnd_some, if_neg one_ne, isG_t gd.g6 (by omega) hh, bnd_some, if_neg one_ne, if_neg hne', ea, bnd_some, if_neg one_ne, show (2 : Int32) = nI 2 from rfl, eb, bnd_some]
          · rw [mG_t h12 (by omega) hg, bnd_some, if_neg one_ne, mG_t h12 (by omega) hh, bnd_some, if_neg one_ne, if_neg hne', hs, bnd_some, if_neg one_ne, show (2 : Int32) = nI 2 from rfl, ed, bnd_some, mswap_ok _ (by omega) (by omega), bnd_some]
          · have t79 : (swp sd g h).1 79 = sw (s.1 79) g h := by
              rw [← d79]
              rfl
            have t16 : (swp sd g h).1 16 = sw (s.1 79) g h := by
              show sd.1 16 = _
              rw [rd1.1 16 (by unfold Cr; omega) (by omega), rb1.1 16 (by unfold Cr; omega) (by omega)]
              exact ca.2.2.2.2.1
            have t12 : (swp sd g h).1 12 = sa.1 12 := by
              show sd.1 12 = _
              rw [rd1.1 12 (by unfold Cr; omega) (by omega), rb1.1 12 (by unfold Cr; omega) (by omega)]
            have tq : ∀ q, q ≠ 79 → (swp sd g h).1 q = sd.1 q := fun q hq => wF_ne hq
            have t21 : ∀ q, 20 ≤ q → q ≤ 23 → (swp sd g h).1 q = sb.1 q := fun q w1 w2 => by rw [tq q (by omega), rd1.1 q (by unfold Cr; omega) (by omega)]
            have a21 : ∀ q, 20 ≤ q → q ≤ 23 → sa.1 q = s.1 q := fun q w1 w2 => ma.1 q (by unfold Cr; omega) (by unfold Xp; omega)
            have hS : SmX Xs s (swp sd g h) := ((mb.mono (fun a ha => by unfold Xs; omega)).tr (rd1.mono (fun a ha => by unfold Xs; omega))).tr (SmX.wF (fun _ => by unfold Xs; omega) (by decide) (by decide))
            refine Inv_sit (nd' := rm nd + 1) hI gd ge hS (t16.trans t79.symm) ?_ ?_ ?_ ?_
            · rw [t79]
              exact ca.2.2.2.2.2.1
            · rw [t79, t12]
              exact ca.2.2.2.2.2.2
            · intro i hi
              rw [t79, sw_o _ (by omega) (by omega)]
            · refine Gh_new (k := 2) (gg := g) (o := nI h) gh gd.sts h7 (by omega) hg (fun _ => ⟨h, hh, rfl, fun z => hne' z.symm⟩) (fun z => absurd rfl z) ?_ rd2 ?_ ?_ ?_ ?_ ?_
              · rw [t21 20 (by decide) (by decide)]
                exact rb2
              · intro j hj
                rw [t21 21 (by decide) (by decide), rb3 j hj, a21 21 (by decide) (by decide)]
              · intro j hj
                rw [t21 22 (by decide) (by decide), rb4 j hj, a21 22 (by decide) (by decide)]
              · intro j hj
                rw [t21 23 (by decide) (by decide), rb5 j hj, a21 23 (by decide) (by decide)]
              · intro j i hj hi
                rw [tq 87 (by decide), rd3 j i hj hi, h79, b87]
              · intro i hi
                unfold und
                rw [if_pos (show nI 2 = 2 from rfl), t79, ix_nI (by omega), ix_nI (by omega), sw_h, sw_g _ hne]
                by_cases c1 : i = g
                · rw [c1, if_pos rfl]
                · rw [if_neg (fun z => c1 ((nI_eq (by omega) (by omega)).mp z))]
                  by_cases c2 : i = h
                  · rw [c2, if_pos rfl]
                  · rw [if_neg (fun z => c2 ((nI_eq (by omega) (by omega)).mp z)), sw_o _ c1 c2]
        · obtain ⟨sa, ea, ca, ma⟩ := ht.2 hc
          have hIa := Inv_cst hI gd ge gh ca ma
          have h12 : sa.1 68 12 = nI n := by
            rw [ma.2.1 12 (by unfold Cf; omega) (by unfold Xp; omega)]
            exact gd.g68
          have h10 : sa.1 68 10 = nI nb := by
            rw [ma.2.1 10 (by unfold Cf; omega) (by unfold Xp; omega)]
            exact gd.b68
          have hq : ∀ q, q ≠ 12 → q ≠ 16 → Cr q → sa.1 q = s.1 q := fun q w1 w2 w3 => ma.1 q w3 (by unfold Xp; omega)
          have h79 := hq 79 (by decide) (by decide) (by unfold Cr; omega)
          have h76 := hq 76 (by decide) (by decide) (by unfold Cr; omega)
          have h85 := hq 85 (by decide) (by decide) (by unfold Cr; omega)
          have h86 := hq 86 (by decide) (by decide) (by unfold Cr; omega)
          have rd : Rd sa nb n := ⟨h8, h7, h10, h12, by rw [h79]; exact gd.sts⟩
          have rq : Rq sa n nq := ⟨gf.1, by rw [ma.2.1 29 (by unfold Cf; omega) (by unfold Xp; omega)]; exact gf.2.2.1, by rw [h85, h86]; exact gf.2.2.2.2.2.1⟩
          have hs := (canChange_ok rd rq hg hh hne).2 (by rw [h79, h76, h85, h86]; exact hc)
          refine ⟨-4, sa, sa, ?_, ?_, hIa⟩
          · rw [isG_t gd.g6 (by omega) hg, bnd_some, if_neg one_ne, isG_t gd.g6 (by omega) hh, bnd_some, if_neg one_ne, if_neg hne', ea, bnd_some, if_pos rfl]
          · rw [mG_t h12 (by omega) hg, bnd_some, if_neg one_ne, mG_t h12 (by omega) hh, bnd_some, if_neg one_ne, if_neg hne', hs, bnd_some, if_pos rfl]
