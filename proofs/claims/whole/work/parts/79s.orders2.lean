-- leaving: all orders
section OR2
variable {s x : Mem} {nb n : Nat}
theorem layL (rd : Rd s nb n) : ∀ p d m pa c F L K x, pcN m = p → p + d ≤ 7 → p < K → SbL (s.1 79) n m → (∀ i, i < d → pa i < 7) → F < 128 → L < 128 → c + 7 ^ p ≤ 1000000000 → LQ s x n m d pa c F L → ∃ x', fX12_layLeaving K (nI d) x = some ((), x') ∧ LO s n (LVs s n) p d m pa c F L x x' := by
  intro p
  induction p with
  | zero =>
    intro d m pa c F L K x hp hd hK sb hpa hF hL hc hx
    have em : m = 0 := (pc_0 m sb.1).mp hp
    subst em
    obtain ⟨K', rfl⟩ : ∃ K', K = K' + 1 := ⟨K - 1, by omega⟩
    exact lay_leaf rd (by omega) hpa hF hL (by omega) hx
  | succ p ih =>
    intro d m pa c F L K x hp hd hK sb hpa hF hL hc hx
    obtain ⟨K', rfl⟩ : ∃ K', K = K' + 1 := ⟨K - 1, by omega⟩
    have h7 := rd.2.1
    have hm := sb.1
    have hm0 : m ≠ 0 := fun z => by
      rw [z] at hp
      have : pcN 0 = 0 := by decide
      omega
    have hmI : ¬ nI m = 0 := fun z => hm0 ((eq_num (b := 0) (by omega) (by decide)).mp z)
    have hset : fX12_seatedSet x = some (nI m, x) := by
      rw [seatedR (lq_rd rd hx).2.2.2.1 h7, lq_set h7 sb hx]
    have hP : 7 ^ (p + 1) = 7 * 7 ^ p := by rw [Nat.pow_succ, Nat.mul_comm]
    have hd7 : inb (nI d) 7 = true := inb_ok (by omega) (by decide)
    rw [fX12_layLeaving]
    unfold fX12_layLeaving_B
    rw [hset, bnd_some, if_neg hmI]
    have key := lp_inv0 (fun t j (z : Mem) => fX12_layLeaving_L92 (fX12_layLeaving K') (fun s29 => some ((), s29)) (nI d) t (nI j) z) (fun j z => ∃ cj Fj Lj : Nat, LQ s z n m d pa cj Fj Lj ∧ Fj < 128 ∧ Lj < 128 ∧ c ≤ cj ∧ cj ≤ c + j * 7 ^ p ∧ (cj = c ↔ ∀ g, g < j → ¬ okL (LVs s n) m g) ∧ (∀ q, q < 7 → (Fj.testBit q = true ↔ F.testBit q = true ∨ ∃ g, g < j ∧ okL (LVs s n) m g ∧ q = upN pa d g 0)) ∧ (∀ q, q < 7 → (Lj.testBit q = true ↔ L.testBit q = true ∨ ∃ g, g < j ∧ m.testBit g = true ∧ LVs s n (del m g) = true ∧ ((del m g = 0 ∧ q = g) ∨ (del m g ≠ 0 ∧ lstL (LVs s n) (del m g) q)))) ∧ ((c ≠ 0 ∨ ∀ g, g < j → ¬ okL (LVs s n) m g) → z.1 93 = x.1 93) ∧ (c = 0 → ∀ g0, g0 < j → okL (LVs s n) m g0 → (∀ g, g < g0 → ¬ okL (LVs s n) m g) → (∀ i, i < d → z.1 93 i = nI (pa i)) ∧ z.1 93 d = nI g0 ∧ ∀ i, i < p → z.1 93 (d + 1 + i) = nI (gf0 (LVs s n) (gsL (LVs s n) (del m g0) i)))) n x ⟨c, F, L, hx, hF, hL, Nat.le_refl _, by omega, ⟨fun _ g hg => absurd hg (by omega), fun _ => rfl⟩, fun q _ => ⟨Or.inl, fun h => h.elim id (fun ⟨g, hg, _⟩ => absurd hg (by omega))⟩, fun q _ => ⟨Or.inl, fun h => h.elim id (fun ⟨g, hg, _⟩ => absurd hg (by omega))⟩, fun _ => rfl, fun _ g0 hg0 => absurd hg0 (by omega)⟩ ?_ (by omega)
    · obtain ⟨z, t, ⟨cj, Fj, Lj, i1, i2, i3, i4, i5, i6, i7, i8, i9, i10⟩, e⟩ := key
      have e' : fX12_layLeaving_L92 (fX12_layLeaving K') (fun s29 => some ((), s29)) (nI d) FU 0 x = fX12_layLeaving_L92 (fX12_layLeaving K') (fun s29 => some ((), s29)) (nI d) (t + 1) (nI n) z := e
      have z12 : z.1 68 12 = nI n := (lq_rd rd i1).2.2.2.1
      -- those beyond n are not there
      have hgn : ∀ g, g < 7 → okL (LVs s n) m g → g < n := fun g hg ho => (sb.2 g hg ho.1).1
      have hex : (∃ g, g < 7 ∧ okL (LVs s n) m g) ↔ ∃ g, g < n ∧ okL (LVs s n) m g := ⟨fun ⟨g, hg, ho⟩ => ⟨g, hgn g hg ho, ho⟩, fun ⟨g, hg, ho⟩ => ⟨g, by omega, ho⟩⟩
      have hno : ¬ CE (LVs s n) m ↔ ∀ g, g < n → ¬ okL (LVs s n) m g := by
        rw [CE_iff hm0, hex]
        exact ⟨fun h g hg ho => h ⟨g, hg, ho⟩, fun h ⟨g, hg, ho⟩ => h g hg ho⟩
      refine ⟨z, ?_, cj, Fj, Lj, i1, i2, i3, i4, ?_, ?_, ?_, ?_, ?_, ?_⟩
      · rw [e', fX12_layLeaving_L92, z12, if_neg (nI_nlt (Nat.le_refl n) (by omega))]
      · have : n * 7 ^ p ≤ 7 * 7 ^ p := Nat.mul_le_mul_right _ h7
        omega
      · rw [i6, hno]
      · intro q hq
        rw [i7 q hq]
        refine or_congr Iff.rfl ⟨fun ⟨g, hg, ho, hq'⟩ => Or.inr ⟨hm0, g, by omega, ho, hq'⟩, fun h => ?_⟩
        rcases h with ⟨h, _⟩ | ⟨_, g, hg, ho, hq'⟩
        · exact absurd h hm0
        · exact ⟨g, hgn g hg ho, ho, hq'⟩
      · intro q hq
        rw [i8 q hq]
        refine or_congr Iff.rfl ⟨fun ⟨g, hg, h1⟩ => Or.inr ⟨hm0, (lst_iff hm hq hm0).mpr ⟨g, by omega, h1⟩⟩, fun h => ?_⟩
        rcases h with ⟨h, _⟩ | ⟨_, h⟩
        · exact absurd h hm0
        · obtain ⟨g, hg, h1, h2⟩ := (lst_iff hm hq hm0).mp h
          exact ⟨g, (sb.2 g hg h1).1, h1, h2⟩
      · intro h
        exact i9 (h.imp id hno.mp)
      · intro hc0 hce
        obtain ⟨g1, g2, g3⟩ := gf0_ok ((CE_iff hm0).mp hce)
        obtain ⟨w1, w2, w3⟩ := i10 hc0 (gf0 (LVs s n) m) (hgn _ g1 g2) g2 g3
        refine ⟨w1, fun i hi => ?_⟩
        cases i with
        | zero => exact w2
        | succ i =>
          rw [show d + (i + 1) = d + 1 + i by omega, w3 i (by omega), gs_s]
    · rintro j t z hj ⟨cj, Fj, Lj, i1, i2, i3, i4, i5, i6, i7, i8, i9, i10⟩
      show ∃ z', _ ∧ fX12_layLeaving_L92 (fX12_layLeaving K') _ (nI d) (t + 1) (nI j) z = fX12_layLeaving_L92 (fX12_layLeaving K') _ (nI d) t (nI (j + 1)) z'
      have z12 : z.1 68 12 = nI n := (lq_rd rd i1).2.2.2.1
      have hj8 : inb (nI j) 8 = true := inb_ok (by omega) (by decide)
      have hstd := lq_std h7 sb i1 hj
      have hmul : (j + 1) * 7 ^ p = j * 7 ^ p + 7 ^ p := Nat.succ_mul j (7 ^ p)
      have hmul7 : (j + 1) * 7 ^ p ≤ 7 * 7 ^ p := Nat.mul_le_mul_right _ (by omega)
      have hPp : 0 < 7 ^ p := Nat.pow_pos (by decide)
      -- where j adds nothing
      have skip : ∀ z' : Mem, LQ s z' n m d pa cj Fj Lj → z'.1 93 = z.1 93 → ¬ (m.testBit j = true ∧ LVs s n (del m j) = true) → (∃ cj Fj Lj : Nat, LQ s z' n m d pa cj Fj Lj ∧ Fj < 128 ∧ Lj < 128 ∧ c ≤ cj ∧ cj ≤ c + (j + 1) * 7 ^ p ∧ (cj = c ↔ ∀ g, g < j + 1 → ¬ okL (LVs s n) m g) ∧ (∀ q, q < 7 → (Fj.testBit q = true ↔ F.testBit q = true ∨ ∃ g, g < j + 1 ∧ okL (LVs s n) m g ∧ q = upN pa d g 0)) ∧ (∀ q, q < 7 → (Lj.testBit q = true ↔ L.testBit q = true ∨ ∃ g, g < j + 1 ∧ m.testBit g = true ∧ LVs s n (del m g) = true ∧ ((del m g = 0 ∧ q = g) ∨ (del m g ≠ 0 ∧ lstL (LVs s n) (del m g) q)))) ∧ ((c ≠ 0 ∨ ∀ g, g < j + 1 → ¬ okL (LVs s n) m g) → z'.1 93 = x.1 93) ∧ (c = 0 → ∀ g0, g0 < j + 1 → okL (LVs s n) m g0 → (∀ g, g < g0 → ¬ okL (LVs s n) m g) → (∀ i, i < d → z'.1 93 i = nI (pa i)) ∧ z'.1 93 d = nI g0 ∧ ∀ i, i < p → z'.1 93 (d + 1 + i) = nI (gf0 (LVs s n) (gsL (LVs s n) (del m g0) i)))) := by
        intro z' hz' h93 hn
        have hnj : ¬ okL (LVs s n) m j := fun h => hn ⟨h.1, h.2.1⟩
        have hall : (∀ g, g < j + 1 → ¬ okL (LVs s n) m g) ↔ ∀ g, g < j → ¬ okL (LVs s n) m g := ⟨fun h g hg => h g (by omega), fun h g hg => by
          by_cases e : g = j
          · rw [e]
            exact hnj
          · exact h g (by omega)⟩
        refine ⟨cj, Fj, Lj, hz', i2, i3, i4, by omega, i6.trans hall.symm, fun q hq => ?_, fun q hq => ?_, fun h => ?_, fun hc0 g0 hg0 ho hmin => ?_⟩
        · rw [i7 q hq]
          refine or_congr Iff.rfl ⟨fun ⟨g, hg, h1⟩ => ⟨g, by omega, h1⟩, fun ⟨g, hg, h1, h2⟩ => ?_⟩
          by_cases e : g = j
          · rw [e] at h1
            exact absurd h1 hnj
          · exact ⟨g, by omega, h1, h2⟩
        · rw [i8 q hq]
          refine or_congr Iff.rfl ⟨fun ⟨g, hg, h1⟩ => ⟨g, by omega, h1⟩, fun ⟨g, hg, h1, h2, h3⟩ => ?_⟩
          by_cases e : g = j
          · rw [e] at h1 h2
            exact absurd ⟨h1, h2⟩ hn
          · exact ⟨g, by omega, h1, h2, h3⟩
        · rw [h93]
          exact i9 (h.imp id hall.mp)
        · rw [h93]
          have : g0 ≠ j := fun e => hnj (by rw [← e]; exact ho)
          exact i10 hc0 g0 (by omega) ho hmin
      rw [fX12_layLeaving_L92, z12, if_pos (nI_lt hj (by omega)), if_pos hj8, ix_nI (show j < 2 ^ 31 by omega)]
      cases hb : m.testBit j with
      | false =>
        rw [if_pos (hstd.mpr hb), nI_1]
        exact ⟨z, skip z i1 rfl (fun h => by rw [hb] at h; exact absurd h.1 (by decide)), rfl⟩
      | true =>
        obtain ⟨j1, j2, j3, j4, j5, j6⟩ := id i1
        have hne : ¬ z.1 79 j = -9 := fun w => by
          have := hstd.mp w
          rw [hb] at this
          exact absurd this (by decide)
        have hzj : z.1 79 j = s.1 79 j := by
          rw [j2]
          exact if_neg (fun w => by rw [hb] at w; exact absurd w.2 (by decide))
        obtain ⟨d1, d2, _⟩ := del_tab m hm j (by omega)
        obtain ⟨d3, d4, _⟩ := d2 hb
        -- the state once j is gone
        have q79 : (wI (wI z 79 j (-9)) 92 d (nI j)).1 79 = fmL (s.1 79) n (del m j) := by
          rw [wI_ne (by decide), wI_79, j2, fm_del h7 hm hj]
        have q0 : SmX (fun a => a = 79) s (wI (wI z 79 j (-9)) 92 d (nI j)) := (j1.tr (SmX.wI (by omega) (by omega) (by omega))).tr (sm92 (by decide) (by decide))
        have lq1 : LQ s (wI (wI z 79 j (-9)) 92 d (nI j)) n (del m j) (d + 1) (upN pa d j) cj Fj Lj := by
          refine ⟨q0, q79, fun i hi => ?_, j4, j5, j6⟩
          rw [rdq]
          unfold upN
          by_cases e : i = d
          · rw [if_pos e, if_pos e]
          · rw [if_neg e, if_neg e, wI_ne (by decide), j3 i (by omega)]
        have rd1 := lq_rd rd lq1
        have hl : fX12_listOf 0 ((wI (wI z 79 j (-9)) 92 d (nI j)).1 68 18) (wI (wI z 79 j (-9)) 92 d (nI j)) = some (valL s n (del m j), wI (wI z 79 j (-9)) 92 d (nI j)) := by
          have := rlist_ok rd1 (p := 0) (by decide) ((wI (wI z 79 j (-9)) 92 d (nI j)).1 68 18)
          rw [fm_val h7 (q0.1 75 (by unfold Cr; omega) (by omega)) (q0.1 76 (by unfold Cr; omega) (by omega)) (q0.1 77 (by unfold Cr; omega) (by omega)) (q0.2.1 18 (by unfold Cf; omega) (by omega)) q79] at this
          exact this
        have hlv : lev (wI (wI z 79 j (-9)) 92 d (nI j)) (valL s n (del m j)) = lev s (valL s n (del m j)) := by
          unfold lev
          rw [q0.2.1 17 (by unfold Cf; omega) (by omega)]
        -- back again
        have back : ∀ (y : Mem) (c' F' L' : Nat), LQ s y n (del m j) (d + 1) (upN pa d j) c' F' L' → LQ s (wI y 79 j (s.1 79 j)) n m d pa c' F' L' := by
          intro y c' F' L' hy
          obtain ⟨k1, k2, k3, k4, k5, k6⟩ := hy
          refine ⟨k1.tr (SmX.wI (by omega) (by omega) (by omega)), ?_, fun i hi => ?_, k4, k5, k6⟩
          · rw [wI_79, k2, fm_bk h7 hm hj hb]
          · rw [wI_ne (by decide), k3 i (by omega)]
            unfold upN
            rw [if_neg (by omega)]
        rw [if_neg hne, if_pos hj8, nm_eq, if_pos hj8, if_pos hd7, ix_nI (show d < 2 ^ 31 by omega), hzj, hl, bnd_some, mLevel_ok, bnd_some, hlv, if_pos hj8, nI_1 j]
        by_cases hlev : lev s (valL s n (del m j)) = 0
        · have hLVf : ¬ LVs s n (del m j) = true := fun w => of_decide_eq_true w hlev
          rw [if_pos hlev]
          exact ⟨_, skip _ (back _ cj Fj Lj lq1) rfl (fun h => hLVf h.2), rfl⟩
        · have hLV : LVs s n (del m j) = true := decide_eq_true hlev
          have hok : okL (LVs s n) m j ↔ CE (LVs s n) (del m j) := ⟨fun h => h.2.2, fun h => ⟨hb, hLV, h⟩⟩
          obtain ⟨y, ey, c', F', L', k1, k2, k3, k4, k5, k6, k7, k8, k9, k10⟩ := ih (d + 1) (del m j) (upN pa d j) cj Fj Lj K' _ (by omega) (by omega) (by omega) (Sb_del sb (by omega)) (fun i hi => by
            unfold upN
            by_cases e : i = d
            · rw [if_pos e]; omega
            · rw [if_neg e]; exact hpa i (by omega)) i2 i3 (by omega) lq1
          rw [if_neg hlev, nI_1, ey, bnd_some, if_pos hj8]
          have y93 : ∀ v, (wI y 79 j v).1 93 = y.1 93 := fun v => wI_ne (by decide)
          have z93 : (wI (wI z 79 j (-9)) 92 d (nI j)).1 93 = z.1 93 := by rw [wI_ne (by decide), wI_ne (by decide)]
          have hall : (∀ g, g < j + 1 → ¬ okL (LVs s n) m g) ↔ (∀ g, g < j → ¬ okL (LVs s n) m g) ∧ ¬ CE (LVs s n) (del m j) := ⟨fun h => ⟨fun g hg => h g (by omega), fun w => h j (by omega) (hok.mpr w)⟩, fun ⟨h1, h2⟩ g hg => by
            by_cases e : g = j
            · rw [e]
              exact fun w => h2 (hok.mp w)
            · exact h1 g (by omega)⟩
          refine ⟨wI y 79 j (s.1 79 j), ⟨c', F', L', back y c' F' L' k1, k2, k3, by omega, by omega, ?_, fun q hq => ?_, fun q hq => ?_, fun h => ?_, fun hc0 g0 hg0 ho hmin => ?_⟩, rfl⟩
          · rw [hall, ← i6, ← k6]
            omega
          · rw [k7 q hq, i7 q hq, fstO_s]
            constructor
            · rintro ((h | ⟨g, hg, h1, h2⟩) | ⟨h1, h2⟩)
              · exact Or.inl h
              · exact Or.inr ⟨g, by omega, h1, h2⟩
              · exact Or.inr ⟨j, by omega, hok.mpr h1, h2⟩
            · rintro (h | ⟨g, hg, h1, h2⟩)
              · exact Or.inl (Or.inl h)
              · by_cases e : g = j
                · subst e
                  exact Or.inr ⟨hok.mp h1, h2⟩
                · exact Or.inl (Or.inr ⟨g, by omega, h1, h2⟩)
          · rw [k8 q hq, i8 q hq]
            have hud : upN pa d j (d + 1 - 1) = j := by
              unfold upN
              rw [if_pos (by omega)]
            constructor
            · rintro ((h | ⟨g, hg, h1⟩) | h)
              · exact Or.inl h
              · exact Or.inr ⟨g, by omega, h1⟩
              · refine Or.inr ⟨j, by omega, hb, hLV, ?_⟩
                rcases h with ⟨w1, _, w2⟩ | w
                · exact Or.inl ⟨w1, w2.trans hud⟩
                · exact Or.inr w
            · rintro (h | ⟨g, hg, h1, h2, h3⟩)
              · exact Or.inl (Or.inl h)
              · by_cases e : g = j
                · subst e
                  refine Or.inr ?_
                  rcases h3 with ⟨w1, w2⟩ | w
                  · exact Or.inl ⟨w1, by omega, w2.trans hud.symm⟩
                  · exact Or.inr w
                · exact Or.inl (Or.inr ⟨g, by omega, h1, h2, h3⟩)
          · rw [y93]
            rcases h with h | h
            · rw [k9 (Or.inl (by omega)), z93]
              exact i9 (Or.inl h)
            · obtain ⟨h1, h2⟩ := hall.mp h
              rw [k9 (Or.inr h2), z93]
              exact i9 (Or.inr h1)
          · rw [y93]
            by_cases e : g0 = j
            · subst e
              have hcj : cj = c := i6.mpr hmin
              obtain ⟨w1, w2⟩ := k10 (by omega) (hok.mp ho)
              refine ⟨fun i hi => ?_, ?_, w2⟩
              · rw [w1 i (by omega)]
                unfold upN
                rw [if_neg (by omega)]
              · rw [w1 d (by omega)]
                unfold upN
                rw [if_pos rfl]
            · have hcj : cj ≠ 0 := fun w => by
                have : cj = c := by omega
                exact (i6.mp this) g0 (by omega) ho
              rw [k9 (Or.inl hcj), z93]
              exact i10 hc0 g0 (by omega) ho hmin
end OR2
