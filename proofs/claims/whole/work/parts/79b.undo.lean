-- undo, keep, on
section UND
variable {s : Mem} {nb n nd : Nat} {f : Nat → Int32}
theorem cswap_ok (cs : Cst s nb n f) {g h : Nat} (hg : g < n) (hh : h < n) : ∃ s', fX0_swap (nI g) (nI h) s = some ((), s') ∧ Cst s' nb n (sw f g h) ∧ SmX Xp s s' := by
  have hst := cs.2.2.2.2.2.1
  obtain ⟨s1, p1, c1, m1⟩ := place_ok cs hg (hst h hh)
  obtain ⟨s2, p2, c2, m2⟩ := place_ok c1 hh (hst g hg)
  refine ⟨s2, ?_, c2, m1.tr m2⟩
  unfold fX0_swap
  rw [benchC cs hg, bnd_some, benchC cs hh, bnd_some, p1, bnd_some, p2, bnd_some]
theorem last_ok {m : Nat} (hm : m < 60) (h : s.1 20 0 = nI (m + 1)) : fX1_lastSort s = some (s.1 21 m, s) ∧ fX1_lastGuest s = some (s.1 22 m, s) ∧ fX1_lastOther s = some (s.1 23 m, s) ∧ fX1_forgetLast s = some ((), wI s 20 0 (nI m)) := by
  have e1 : (0 : Int32) < nI (m + 1) := nI_lt (a := 0) (by omega) (by omega)
  have e2 : ¬ (60 : Int32) < nI (m + 1) := fun z => by
    have := (num_lt (b := 60) (by omega) (by decide)).mp z
    omega
  have e3 : nI (m + 1) - 1 = nI m := by rw [← nI_1, Int32.add_sub_cancel]
  have e4 : inb (nI m) 60 = true := inb_ok hm (by decide)
  have e5 : mx 0 (nI m) = nI m := by
    unfold mx
    by_cases c : m = 0
    · subst c
      decide
    · rw [if_pos]
      exact nI_lt (a := 0) (by omega) (by omega)
  unfold fX1_lastSort fX1_lastGuest fX1_lastOther fX1_forgetLast
  rw [h, if_pos e1, if_neg e2, e3, if_pos e4, if_pos e1, if_neg e2, if_pos e4, if_pos e1, if_neg e2, if_pos e4, e5, ix_nI (by omega)]
  exact ⟨rfl, rfl, rfl, rfl⟩
theorem undoL {m : Nat} (hm : m < 60) (h : s.1 68 32 = nI m) (κ : Mem → Option (Int32 × Mem)) : fX12_undo_L22 κ FU 0 s = κ (wF s 79 (fun i => if i < 7 then s.1 87 (8 * m + i) else s.1 79 i)) := by
  have key := lp0 (fun k j => fX12_undo_L22 κ k (nI j) (wF s 79 (fun i => if i < j then s.1 87 (8 * m + i) else s.1 79 i))) (κ (wF s 79 (fun i => if i < 7 then s.1 87 (8 * m + i) else s.1 79 i))) 7 ?_ ?_ (by omega)
  · rw [← key]
    show _ = fX12_undo_L22 κ FU (nI 0) (wF s 79 (fun i => if i < 0 then s.1 87 (8 * m + i) else s.1 79 i))
    have e : (fun i => if i < 0 then s.1 87 (8 * m + i) else s.1 79 i) = s.1 79 := by
      funext b
      rw [if_neg (by omega)]
    rw [e, wF_self]
    rfl
  · intro j k hj
    show fX12_undo_L22 κ (k + 1) (nI j) _ = fX12_undo_L22 κ k (nI (j + 1)) _
    have h32 : ∀ F, (wF s 79 F).1 68 32 = nI m := fun F => h
    have h87 : ∀ F, (wF s 79 F).1 87 = s.1 87 := fun F => rfl
    have e8 : (8 : Int32) * nI m + nI j = nI (8 * m + j) := by rw [show (8 : Int32) = nI 8 from rfl, pk_mul, nI_add]
    rw [fX12_undo_L22, if_pos ((lt_num (b := 7) (by omega) (by decide)).mpr hj), h32, e8, if_pos (inb_ok (by omega) (by decide)), if_pos (inb_ok (by omega) (by decide)), ix_nI (by omega), ix_nI (by omega), h87, nI_1, wI_wF]
    congr 2
    funext b
    by_cases hb : b = j
    · rw [if_pos hb, if_pos (by omega), hb]
    · rw [if_neg hb]
      by_cases h2 : b < j
      · rw [if_pos h2, if_pos (by omega)]
      · rw [if_neg h2, if_neg (by omega)]
  · intro k
    show fX12_undo_L22 κ (k + 1) (nI 7) _ = _
    rw [fX12_undo_L22, if_neg (by decide)]
end UND
theorem al_undo : Alike fX11_undo fX12_undo := by
  intro s hI
  obtain ⟨nb, n, nq, nm, nd, ga, gb, gc, gd, ge, gf, gg, gh, gi, gj⟩ := id hI
  have h7 := gd.ln
  have h8 := gd.lb
  obtain ⟨h60, g20, g32, gall⟩ := id gh
  cases nd with
  | zero => exact ⟨-4, s, s, by unfold fX11_undo; rw [if_pos (show s.1 20 0 = 0 from g20)], by unfold fX12_undo; rw [if_pos (show s.1 68 32 = 0 from g32)], hI⟩
  | succ m =>
    have hne : ¬ nI (m + 1) = 0 := fun z => by
      have := (eq_num (b := 0) (by omega) (by decide)).mp z
      omega
    obtain ⟨l1, l2, l3, l4⟩ := last_ok (show m < 60 by omega) g20
    obtain ⟨a1, ⟨k, hk, a2⟩, ⟨g, hg, a3⟩, a4, a5, a6, a7⟩ := gall m (by omega)
    have hnx : nxt s (m + 1) m = s.1 79 := by
      funext i
      unfold nxt
      rw [if_neg (by omega)]
    rw [hnx, a2, a3] at a6
    have csa : Cst (wI s 20 0 (nI m)) nb n (s.1 79) := cs_of gd ge
    have key : ∃ sb f', fX11_undo s = some (nI k, sb) ∧ Cst sb nb n f' ∧ SmX Xp (wI s 20 0 (nI m)) sb ∧ ∀ i, f' i = if i < 7 then s.1 87 (8 * m + i) else s.1 79 i := by
      by_cases c : k = 2
      · subst c
        obtain ⟨h, hh, e1, e2⟩ := a4 (by rw [a2]; rfl)
        have hgh : g ≠ h := fun z => e2 (by rw [e1, a3, z])
        obtain ⟨sb, p1, c1, m1⟩ := cswap_ok csa hg hh
        refine ⟨sb, _, ?_, c1, m1, fun i => ?_⟩
        · unfold fX11_undo
          rw [g20, if_neg hne, l1, bnd_some, l2, bnd_some, l3, bnd_some, l4, bnd_some, a2, if_pos (show nI 2 = 2 from rfl), a3, e1, p1, bnd_some]
        · by_cases ci : i < 7
          · rw [if_pos ci, a6 i ci, e1]
            unfold und
            rw [if_pos (show nI 2 = 2 from rfl), ix_nI (by omega), ix_nI (by omega)]
            by_cases c1 : i = g
            · rw [c1, if_pos rfl, sw_g _ hgh]
            · rw [if_neg (fun z => c1 ((nI_eq (by omega) (by omega)).mp z))]
              by_cases c2 : i = h
              · rw [c2, if_pos rfl, sw_h]
              · rw [if_neg (fun z => c2 ((nI_eq (by omega) (by omega)).mp z)), sw_o _ c1 c2]
          · rw [if_neg ci, sw_o _ (by omega) (by omega)]
      · have hk2 : ¬ nI k = 2 := fun z => c ((eq_num (b := 2) (by omega) (by decide)).mp z)
        obtain ⟨sb, p1, c1, m1⟩ := place_ok csa hg (a5 (by rw [a2]; exact hk2))
        refine ⟨sb, _, ?_, c1, m1, fun i => ?_⟩
        · unfold fX11_undo
          rw [g20, if_neg hne, l1, bnd_some, l2, bnd_some, l3, bnd_some, l4, bnd_some, a2, if_neg hk2, a3, p1, bnd_some]
        · by_cases ci : i < 7
          · rw [if_pos ci, a6 i ci]
            unfold und
            rw [if_neg hk2]
            by_cases c1 : i = g
            · rw [c1, if_pos rfl, uq_s]
            · rw [if_neg (fun z => c1 ((nI_eq (by omega) (by omega)).mp z)), uq_n _ _ c1]
          · rw [if_neg ci, uq_n _ _ (by omega)]
    obtain ⟨sb, f', e1, cb, mb, hf⟩ := key
    have m1 : SmX (fun a => a = 12 ∨ a = 16 ∨ a = 20) s sb := (SmX.wI (by unfold Cr; omega) (by omega) (by omega) : SmX (fun a => a = 12 ∨ a = 16 ∨ a = 20) s (wI s 20 0 (nI m))).tr (mb.mono (fun a ha => by unfold Xp at ha; omega))
    have b79 : sb.1 79 = s.1 79 := m1.1 79 (by unfold Cr; omega) (by omega)
    have b87 : sb.1 87 = s.1 87 := m1.1 87 (by unfold Cr; omega) (by omega)
    have b32 : sb.1 68 32 = nI (m + 1) := by
      rw [m1.2.1 32 (by unfold Cf; omega) (by omega)]
      exact g32
    have eF : (fun i => if i < 7 then (wI sb 68 32 (nI m)).1 87 (8 * m + i) else (wI sb 68 32 (nI m)).1 79 i) = f' := by
      funext i
      rw [hf i, wI_ne (by decide), wI_ne (by decide), b79, b87]
    have e3 : nI (m + 1) - 1 = nI m := by rw [← nI_1, Int32.add_sub_cancel]
    have e8 : (8 : Int32) * nI m + 7 = nI (8 * m + 7) := by rw [show (8 : Int32) = nI 8 from rfl, show (7 : Int32) = nI 7 from rfl, pk_mul, nI_add]
    refine ⟨nI k, sb, wF (wI sb 68 32 (nI m)) 79 f', e1, ?_, ?_⟩
    · unfold fX12_undo
      rw [b32, if_neg hne, e3, undoL (show m < 60 by omega) rfl, eF]
      show (if inb ((8 * nI m) + 7) 480 = true then some (sb.1 87 (ix ((8 * nI m) + 7)), _) else none) = _
      rw [e8, if_pos (inb_ok (by omega) (by decide)), ix_nI (by omega), b87, ← a1, a2]
    · have hS : SmX Xs s (wF (wI sb 68 32 (nI m)) 79 f') := ((m1.mono (fun a ha => by unfold Xs; omega)).tr (SmX.wI (by unfold Cr; omega) (fun _ _ => by unfold Xs; omega) (by omega))).tr (SmX.wF (fun _ => by unfold Xs; omega) (by decide) (by decide))
      have tq : ∀ q, q ≠ 79 → q ≠ 68 → (wF (wI sb 68 32 (nI m)) 79 f').1 q = sb.1 q := fun q w1 w2 => by rw [wF_ne w1, wI_ne w2]
      have t79 : (wF (wI sb 68 32 (nI m)) 79 f').1 79 = f' := rfl
      refine Inv_sit (nd' := m) hI gd ge hS ?_ ?_ ?_ ?_ ?_
      · rw [t79, tq 16 (by decide) (by decide)]
        exact cb.2.2.2.2.1
      · rw [t79]
        exact cb.2.2.2.2.2.1
      · rw [t79, tq 12 (by decide) (by decide)]
        exact cb.2.2.2.2.2.2
      · intro i hi
        rw [t79, hf i]
        by_cases ci : i < 7
        · rw [if_pos ci, a6 i ci]
          unfold und
          have c1 : ¬ nI i = nI g := fun z => by
            have := (nI_eq (by omega) (by omega)).mp z
            omega
          by_cases c : nI k = 2
          · obtain ⟨h, hh, e1, e2⟩ := a4 (by rw [a2]; exact c)
            rw [if_pos c, if_neg c1, e1, if_neg (fun z => by
              have := (nI_eq (by omega) (by omega)).mp z
              omega)]
          · rw [if_neg c, if_neg c1]
        · rw [if_neg ci]
      · refine ⟨by omega, ?_, rfl, fun j hj => ?_⟩
        · rw [tq 20 (by decide) (by decide), mb.1 20 (by unfold Cr; omega) (by unfold Xp; omega)]
          rfl
        · obtain ⟨b1, b2, b3, b4, b5, b6, b7⟩ := gall j (by omega)
          have r : ∀ q, q ≠ 12 → q ≠ 16 → q ≠ 20 → q ≠ 79 → q ≠ 68 → Cr q → (wF (wI sb 68 32 (nI m)) 79 f').1 q = s.1 q := fun q w1 w2 w3 w4 w5 w6 => by rw [tq q w4 w5, m1.1 q w6 (by omega)]
          have r21 := r 21 (by decide) (by decide) (by decide) (by decide) (by decide) (by unfold Cr; omega)
          have r22 := r 22 (by decide) (by decide) (by decide) (by decide) (by decide) (by unfold Cr; omega)
          have r23 := r 23 (by decide) (by decide) (by decide) (by decide) (by decide) (by unfold Cr; omega)
          have r87 := r 87 (by decide) (by decide) (by decide) (by decide) (by decide) (by unfold Cr; omega)
          rw [r21, r22, r23, r87]
          refine ⟨b1, b2, b3, b4, b5, fun i hi => ?_, b7⟩
          rw [b6 i hi]
          refine und_cong (fun i' hi' => ?_) hi (fun c => ?_)
          · unfold nxt
            rw [t79, r87, if_pos (by omega)]
            by_cases c : j + 1 < m
            · rw [if_pos c]
            · rw [if_neg c, hf i', if_pos hi', show j + 1 = m by omega]
          · obtain ⟨h, hh, e1, _⟩ := b4 c
            obtain ⟨g', hg', e2⟩ := b3
            rw [e1, e2, ix_nI (by omega), ix_nI (by omega)]
            omega
section KEP
variable {s : Mem} {nb n nd : Nat} {f : Nat → Int32}
theorem nar1 : vp_nar .boolean 1 = 1 := by decide
theorem benchAny (gd : Gd s nb n) {j : Nat} (hj : j < 7) : fX0_benchOf (nI j) s = some (if j < n then s.1 79 j else -9, s) := by
  by_cases c : j < n
  · rw [if_pos c, benchOf_ok gd c]
  · rw [if_neg c]
    unfold fX0_benchOf
    rw [isG_f gd.g6 (Or.inr (Int32.not_lt.mp (nI_nlt (by omega) (by omega)))), bnd_some, if_pos rfl]
def kF (s : Mem) (n k m i : Nat) : Int32 := if 7 * k ≤ i ∧ i < 7 * k + m then (if i - 7 * k < n then s.1 79 (i - 7 * k) else -9) else s.1 26 i
theorem take_ok (gd : Gd s nb n) {k : Nat} (hk : k < 3) : fX3_take_6 (nI k) s = some ((), wF (wI s 25 k 1) 26 (kF s n k 7)) := by
  unfold fX3_take_6
  have h2 : ¬ (2 : Int32) < nI k := fun z => by
    have := (num_lt (b := 2) (by omega) (by decide)).mp z
    omega
  rw [within_t (nI_nonneg (by omega)) h2, bnd_some, if_neg one_ne, if_pos (inb_ok hk (by decide)), ix_nI (by omega), nar1]
  have key := lp0 (fun t j => fX3_take_6_L19 (fun s9 => some ((), s9)) (nI k) t (nI j) (wF (wI s 25 k 1) 26 (kF s n k j))) (some ((), wF (wI s 25 k 1) 26 (kF s n k 7))) 7 ?_ ?_ (by omega)
  · rw [← key]
    show _ = fX3_take_6_L19 _ (nI k) FU (nI 0) (wF (wI s 25 k 1) 26 (kF s n k 0))
    have e : kF s n k 0 = (wI s 25 k 1).1 26 := by
      funext b
      unfold kF
      rw [if_neg (by omega)]
      rfl
    rw [e, wF_self]
    rfl
  · intro j t hj
    show fX3_take_6_L19 _ (nI k) (t + 1) (nI j) _ = fX3_take_6_L19 _ (nI k) t (nI (j + 1)) _
    have gdx : Gd (wF (wI s 25 k 1) 26 (kF s n k j)) nb n := gd
    have e79 : (wF (wI s 25 k 1) 26 (kF s n k j)).1 79 = s.1 79 := rfl
    have e8 : nI k * 7 + nI j = nI (7 * k + j) := by rw [show (7 : Int32) = nI 7 from rfl, pk_mul, nI_add, Nat.mul_comm]
    rw [fX3_take_6_L19, if_pos ((lt_num (b := 7) (by omega) (by decide)).mpr hj), benchAny gdx hj, bnd_some, e8, if_pos (inb_ok (by omega) (by decide)), ix_nI (by omega), nI_1, wI_wF, e79]
    congr 2
    funext b
    unfold kF
    by_cases hb : b = 7 * k + j
    · rw [if_pos hb, if_pos (show 7 * k ≤ b ∧ b < 7 * k + (j + 1) by omega), hb, Nat.add_sub_cancel_left]
    · rw [if_neg hb]
      by_cases h2 : 7 * k ≤ b ∧ b < 7 * k + j
      · rw [if_pos h2, if_pos (show 7 * k ≤ b ∧ b < 7 * k + (j + 1) by omega)]
      · rw [if_neg h2, if_neg (show ¬ (7 * k ≤ b ∧ b < 7 * k + (j + 1)) by omega)]
  · intro t
    show fX3_take_6_L19 _ (nI k) (t + 1) (nI 7) _ = _
    rw [fX3_take_6_L19, if_neg (by decide)]
def kR (s : Mem) (k m i : Nat) : Int32 := if 7 * k ≤ i ∧ i < 7 * k + m then s.1 79 (i - 7 * k) else s.1 89 i
theorem keepL {k : Nat} (hk : k < 3) (κ : Mem → Option (Int32 × Mem)) : fX12_keep_L23 κ (nI k) FU 0 s = κ (wF s 89 (kR s k 7)) := by
  have key := lp0 (fun t j => fX12_keep_L23 κ (nI k) t (nI j) (wF s 89 (kR s k j))) (κ (wF s 89 (kR s k 7))) 7 ?_ ?_ (by omega)
  · rw [← key]
    show _ = fX12_keep_L23 κ (nI k) FU (nI 0) (wF s 89 (kR s k 0))
    have e : kR s k 0 = s.1 89 := by
      funext b
      unfold kR
      rw [if_neg (by omega)]
    rw [e, wF_self]
    rfl
  · intro j t hj
    show fX12_keep_L23 κ (nI k) (t + 1) (nI j) _ = fX12_keep_L23 κ (nI k) t (nI (j + 1)) _
    have e79 : (wF s 89 (kR s k j)).1 79 = s.1 79 := rfl
    have e8 : 7 * nI k + nI j = nI (7 * k + j) := by rw [show (7 : Int32) = nI 7 from rfl, pk_mul, nI_add]
    rw [fX12_keep_L23, if_pos ((lt_num (b := 7) (by omega) (by decide)).mpr hj), if_pos (inb_ok (by omega) (by decide)), e8, if_pos (inb_ok (by omega) (by decide)), ix_nI (by omega), ix_nI (by omega), nI_1, wI_wF, e79]
    congr 2
    funext b
    unfold kR
    by_cases hb : b = 7 * k + j
    · rw [if_pos hb, if_pos (show 7 * k ≤ b ∧ b < 7 * k + (j + 1) by omega), hb, Nat.add_sub_cancel_left]
    · rw [if_neg hb]
      by_cases h2 : 7 * k ≤ b ∧ b < 7 * k + j
      · rw [if_pos h2, if_pos (show 7 * k ≤ b ∧ b < 7 * k + (j + 1) by omega)]
      · rw [if_neg h2, if_neg (show ¬ (7 * k ≤ b ∧ b < 7 * k + (j + 1)) by omega)]
  · intro t
    show fX12_keep_L23 κ (nI k) (t + 1) (nI 7) _ = _
    rw [fX12_keep_L23, if_neg (by decide)]
end KEP
theorem al_keep (a1 : Int32) : Alike (fX11_keep a1) (fX12_keep a1) := by
  intro s hI
  obtain ⟨nb, n, nq, nm, nd, ga, gb, gc, gd, ge, gf, gg, gh, gi, gj⟩ := id hI
  have h7 := gd.ln
  have h8 := gd.lb
  unfold fX11_keep fX12_keep
  by_cases h : a1 < 0 ∨ 2 < a1
  · exact ⟨-1, s, s, by rw [within_f h, bnd_some, if_pos rfl], by rw [in_eq, within_f h, bnd_some, if_pos rfl], hI⟩
  · have h1 : ¬ a1 < 0 := fun z => h (Or.inl z)
    have h2 : ¬ 2 < a1 := fun z => h (Or.inr z)
    obtain ⟨k, hk, rfl⟩ := rng_nI (n := 2) (by decide) h1 h2
    by_cases hb : nb = 0
    · subst hb
      exact ⟨-4, s, s, by rw [within_t h1 h2, bnd_some, if_neg one_ne, if_pos (show s.1 6 0 = 0 from gd.b6)], by rw [in_eq, within_t h1 h2, bnd_some, if_neg one_ne, if_pos (show s.1 68 10 = 0 from gd.b68)], hI⟩
    · have hnz : ¬ nI nb = 0 := fun z => hb ((eq_num (b := 0) (by omega) (by decide)).mp z)
      have gd1 : Gd (wF (wI s 25 k 1) 26 (kF s n k 7)) nb n := gd
      have ge1 : Ge (wF (wI s 25 k 1) 26 (kF s n k 7)) nb n := ge
      have m1 : SmX (fun a => a = 25 ∨ a = 26 ∨ a = 88 ∨ a = 89) s (wF (wI s 25 k 1) 26 (kF s n k 7)) := (SmX.wI (by unfold Cr; omega) (by omega) (by omega)).tr (SmX.wF (by unfold Cr; omega) (by decide) (by decide))
      generalize hs1 : wF (wI s 25 k 1) 26 (kF s n k 7) = s1 at *
      have q25 : ∀ i, s1.1 25 i = if i = k then 1 else s.1 25 i := by
        rw [← hs1]
        exact fun i => rfl
      have q26 : s1.1 26 = kF s n k 7 := by
        rw [← hs1]
        rfl
      have q79 : s1.1 79 = s.1 79 := m1.1 79 (by unfold Cr; omega) (by omega)
      have q88 : s1.1 88 = s.1 88 := by
        rw [← hs1]
        rfl
      have q89 : s1.1 89 = s.1 89 := by
        rw [← hs1]
        rfl
      have hS : SmX (fun a => a = 25 ∨ a = 26 ∨ a = 88 ∨ a = 89) s (wI (wF s1 89 (kR s1 k 7)) 88 k 1) := (m1.tr (SmX.wF (by unfold Cr; omega) (by decide) (by decide))).tr (SmX.wI (by unfold Cr; omega) (by omega) (by omega))
      refine ⟨nI (cntN (std s1) n), s1, wI (wF s1 89 (kR s1 k 7)) 88 k 1, ?_, ?_, ?_⟩
      · rw [within_t h1 h2, bnd_some, if_neg one_ne, gd.b6, if_neg hnz, take_ok gd (by omega), bnd_some, hs1, seatedCount_ok gd1 ge1, bnd_some]
      · rw [in_eq, within_t h1 h2, bnd_some, if_neg one_ne, gd1.b68, if_neg hnz, keepL (by omega), if_pos (inb_ok (by omega) (by decide)), ix_nI (by omega), nar1, seatedMany_ok (show (wI (wF s1 89 (kR s1 k 7)) 88 k 1).1 68 12 = nI n from gd1.g68) h7, bnd_some]
        rfl
      · refine ⟨nb, n, nq, nm, nd, Ga_keep hS (fun a ha => by omega) ga, Gb_keep hS (fun a ha => by omega) gb, Gc_keep hS (fun a ha => by omega) gc, Gd_keep hS (fun a ha => by omega) gd, Ge_keep hS (fun a ha => by omega) ge, Gf_keep hS (fun a ha => by omega) gf, Gg_keep hS (fun a ha => by omega) gg, Gh_keep hS (fun a ha => by omega) gh, ?_, Gj_keep hS (fun a ha => by omega) gj⟩
        intro k' hk'
        have t25 : (wI (wF s1 89 (kR s1 k 7)) 88 k 1).1 25 k' = if k' = k then 1 else s.1 25 k' := q25 k'
        have t26 : (wI (wF s1 89 (kR s1 k 7)) 88 k 1).1 26 = kF s n k 7 := q26
        have t88 : (wI (wF s1 89 (kR s1 k 7)) 88 k 1).1 88 k' = if k' = k then 1 else s.1 88 k' := by
          rw [← q88]
          rfl
        have t89 : (wI (wF s1 89 (kR s1 k 7)) 88 k 1).1 89 = kR s1 k 7 := rfl
        have t79 : (wI (wF s1 89 (kR s1 k 7)) 88 k 1).1 79 = s.1 79 := q79
        rw [t25, t26, t88, t89, t79]
        unfold kF kR
        by_cases c : k' = k
        · subst c
          rw [if_pos rfl, if_pos rfl]
          refine ⟨rfl, Or.inr rfl, fun _ => ⟨fun g hg => ?_, fun g w1 w2 => ?_⟩⟩
          · have hP : 7 * k' ≤ 7 * k' + g ∧ 7 * k' + g < 7 * k' + 7 := by omega
            rw [if_pos hP, if_pos hP, Nat.add_sub_cancel_left, if_pos hg, q79]
            exact ⟨rfl, gd.sts g hg⟩
          · rw [if_pos (by omega), Nat.add_sub_cancel_left, q79]
        · rw [if_neg c, if_neg c]
          obtain ⟨b1, b2, b3⟩ := gi k' hk'
          refine ⟨b1, b2, fun z => ⟨fun g hg => ?_, fun g w1 w2 => ?_⟩⟩
          · rw [if_neg (by omega), if_neg (by omega), q89]
            exact (b3 z).1 g hg
          · rw [if_neg (by omega), q89]
            exact (b3 z).2 g w1 w2
section ONN
variable {s : Mem} {nb n nd : Nat} {f : Nat → Int32}
def sbf (f : Nat → Int32) : Nat → Nat → Bool
  | 0, _ => false
  | j + 1, h => sbf f j h || decide (f h = nI j)
theorem sbf_iff (f : Nat → Int32) (h : Nat) : ∀ j, sbf f j h = true ↔ ∃ b, b < j ∧ f h = nI b
  | 0 => by
    rw [sbf]
    exact ⟨fun z => absurd z (by decide), fun ⟨b, hb, _⟩ => absurd hb (by omega)⟩
  | j + 1 => by
    rw [sbf, Bool.or_eq_true, sbf_iff f h j, decide_eq_true_iff]
    constructor
    · rintro (⟨b, hb, e⟩ | e)
      · exact ⟨b, by omega, e⟩
      · exact ⟨j, by omega, e⟩
    · rintro ⟨b, hb, e⟩
      by_cases h2 : b = j
      · subst h2
        exact Or.inr e
      · exact Or.inl ⟨b, by omega, e⟩
theorem seatedSetC (cs : Cst s nb n f) : fX0_seatedSet s = some (nI (msk (fun h => decide (f h ≠ -9)) n), s) := by
  obtain ⟨h8, h7, e0, e1, e16, hst, h12⟩ := cs
  unfold fX0_seatedSet
  have hcg : msk (sbf f nb) n = msk (fun h => decide (f h ≠ -9)) n := msk_cong (fun h hh => by
    apply Bool.eq_iff_iff.mpr
    rw [sbf_iff, decide_eq_true_iff]
    rcases hst h hh with e | ⟨b, hb, e⟩
    · rw [e]
      exact ⟨fun ⟨b, hb, z⟩ => absurd z (m9_nI (by omega)), fun z => absurd rfl z⟩
    · rw [e]
      exact ⟨fun _ => nI_m9 (by omega), fun _ => ⟨b, hb, rfl⟩⟩)
  rw [← hcg]
  have key := lp0 (fun k j => fX0_seatedSet_L4 (fun v4 s5 => some (v4, s5)) k (nI (msk (sbf f j) n)) (nI j) s) (some (nI (msk (sbf f nb) n), s)) nb ?_ ?_ (by omega)
  · have e : msk (sbf f 0) n = 0 := msk_zero (fun _ => rfl) n
    have key2 : fX0_seatedSet_L4 (fun v4 s5 => some (v4, s5)) FU (nI (msk (sbf f 0) n)) (nI 0) s = some (nI (msk (sbf f nb) n), s) := key
    rw [e] at key2
    exact key2
  · intro j k hj
    show fX0_seatedSet_L4 _ (k + 1) _ (nI j) s = fX0_seatedSet_L4 _ k _ (nI (j + 1)) s
    rw [fX0_seatedSet_L4, e0, if_pos (nI_lt hj (by omega)), if_pos (inb_ok (by omega) (by decide)), nm_eq, nI_1, ix_nI (by omega), h12 j hj, b_orm _ (msk_lt128 _ h7) _ (msk_lt128 _ h7), msk_orm]
    rfl
  · intro k
    show fX0_seatedSet_L4 _ (k + 1) _ (nI nb) s = _
    rw [fX0_seatedSet_L4, e0, if_neg (nI_nlt (Nat.le_refl _) (by omega))]
theorem seatedCountC (cs : Cst s nb n f) : fX0_seatedCount s = some (nI (cntN (fun h => decide (f h ≠ -9)) n), s) := by
  have h7 := cs.2.1
  unfold fX0_seatedCount
  rw [seatedSetC cs, bnd_some, bc_ok _ (msk_lt128 _ h7), bnd_some, pc_msk (by omega)]
theorem hask_t {k : Nat} (hk : k < 3) (h : s.1 25 k = 1) : fX3_has (nI k) s = some (1, s) := by
  unfold fX3_has
  rw [if_neg (nI_nonneg (by omega)), if_pos ((lt_num (b := 3) (by omega) (by decide)).mpr hk), if_pos (inb_ok hk (by decide)), ix_nI (by omega), h, if_neg one_ne]
theorem hask_f {k : Nat} (hk : k < 3) (h : s.1 25 k = 0) : fX3_has (nI k) s = some (0, s) := by
  unfold fX3_has
  rw [if_neg (nI_nonneg (by omega)), if_pos ((lt_num (b := 3) (by omega) (by decide)).mpr hk), if_pos (inb_ok hk (by decide)), ix_nI (by omega), if_pos h]
theorem kbench {k j : Nat} (hk : k < 3) (hj : j < 7) (h : s.1 25 k = 1) : fX3_benchOf (nI k) (nI j) s = some (s.1 26 (7 * k + j), s) := by
  have e8 : nI k * 7 + nI j = nI (7 * k + j) := by rw [show (7 : Int32) = nI 7 from rfl, pk_mul, nI_add, Nat.mul_comm]
  unfold fX3_benchOf
  rw [hask_t hk h, bnd_some, if_neg one_ne, if_neg (nI_nonneg (by omega)), if_pos ((lt_num (b := 7) (by omega) (by decide)).mpr hj), e8, if_pos (inb_ok (by omega) (by decide)), ix_nI (by omega)]
theorem restore_ok (cs : Cst s nb n f) {k : Nat} (hk : k < 3) (h25 : s.1 25 k = 1) (hst : ∀ g, g < n → StOk nb (s.1 26 (7 * k + g))) : ∃ s', fX3_restore_6 (nI k) s = some ((), s') ∧ Cst s' nb n (fun i => if i < n then s.1 26 (7 * k + i) else f i) ∧ SmX Xp s s' := by
  have h7 := cs.2.1
  unfold fX3_restore_6
  have key := lp_inv0 (fun t j (x : Mem) => fX3_restore_6_L2 (fun s6 => some ((), s6)) (nI k) t (nI j) x) (fun j x => Cst x nb n (fun i => if i < j then s.1 26 (7 * k + i) else f i) ∧ SmX Xp s x) n s ?_ ?_ (by omega)
  · obtain ⟨x, t, ⟨i1, i2⟩, e⟩ := key
    refine ⟨x, ?_, i1, i2⟩
    have e' : fX3_restore_6_L2 (fun s6 => some ((), s6)) (nI k) FU 0 s = fX3_restore_6_L2 (fun s6 => some ((), s6)) (nI k) (t + 1) (nI n) x := e
    rw [e', fX3_restore_6_L2, i1.2.2.2.1, if_neg (nI_nlt (Nat.le_refl n) (by omega))]
  · have e : (fun i => if i < 0 then s.1 26 (7 * k + i) else f i) = f := by
      funext b
      rw [if_neg (by omega)]
    refine ⟨?_, SmX.rf s⟩
    rw [e]
    exact cs
  · rintro j t x hj ⟨i1, i2⟩
    show ∃ x', _ ∧ fX3_restore_6_L2 _ (nI k) (t + 1) (nI j) x = fX3_restore_6_L2 _ (nI k) t (nI (j + 1)) x'
    have x25 : x.1 25 = s.1 25 := i2.1 25 (by unfold Cr; omega) (by unfold Xp; omega)
    have x26 : x.1 26 = s.1 26 := i2.1 26 (by unfold Cr; omega) (by unfold Xp; omega)
    obtain ⟨x', p1, c1, m1⟩ := place_ok i1 hj (hst j hj)
    have e : upd (fun i => if i < j then s.1 26 (7 * k + i) else f i) j (s.1 26 (7 * k + j)) = fun i => if i < j + 1 then s.1 26 (7 * k + i) else f i := by
      funext i
      by_cases c : i = j
      · rw [c, uq_s, if_pos (by omega)]
      · rw [uq_n _ _ c]
        by_cases c2 : i < j
        · rw [if_pos c2, if_pos (by omega)]
        · rw [if_neg c2, if_neg (by omega)]
    rw [e] at c1
    refine ⟨x', ⟨c1, i2.tr m1⟩, ?_⟩
    rw [fX3_restore_6_L2, i1.2.2.2.1, if_pos (nI_lt hj (by omega)), kbench hk (by omega) (by rw [x25]; exact h25), bnd_some, x26, p1, bnd_some, nI_1]
theorem onL {k : Nat} (hk : k < 3) (κ : Mem → Option (Int32 × Mem)) : fX12_on_L28 κ (nI k) FU 0 s = κ (wF s 79 (fun i => if i < 7 then s.1 89 (7 * k + i) else s.1 79 i)) := by
  have key := lp0 (fun t j => fX12_on_L28 κ (nI k) t (nI j) (wF s 79 (fun i => if i < j then s.1 89 (7 * k + i) else s.1 79 i))) (κ (wF s 79 (fun i => if i < 7 then s.1 89 (7 * k + i) else s.1 79 i))) 7 ?_ ?_ (by omega)
  · rw [← key]
    show _ = fX12_on_L28 κ (nI k) FU (nI 0) (wF s 79 (fun i => if i < 0 then s.1 89 (7 * k + i) else s.1 79 i))
    have e : (fun i => if i < 0 then s.1 89 (7 * k + i) else s.1 79 i) = s.1 79 := by
      funext b
      rw [if_neg (by omega)]
    rw [e, wF_self]
    rfl
  · intro j t hj
    show fX12_on_L28 κ (nI k) (t + 1) (nI j) _ = fX12_on_L28 κ (nI k) t (nI (j + 1)) _
    have h89 : ∀ F, (wF s 79 F).1 89 = s.1 89 := fun F => rfl
    have e8 : 7 * nI k + nI j = nI (7 * k + j) := by rw [show (7 : Int32) = nI 7 from rfl, pk_mul, nI_add]
    rw [fX12_on_L28, if_pos ((lt_num (b := 7) (by omega) (by decide)).mpr hj), e8, if_pos (inb_ok (by omega) (by decide)), if_pos (inb_ok (by omega) (by decide)), ix_nI (by omega), ix_nI (by omega), h89, nI_1, wI_wF]
    congr 2
    funext b
    by_cases hb : b = j
    · rw [if_pos hb, if_pos (by omega), hb]
    · rw [if_neg hb]
      by_cases h2 : b < j
      · rw [if_pos h2, if_pos (by omega)]
      · rw [if_neg h2, if_neg (by omega)]
  · intro t
    show fX12_on_L28 κ (nI k) (t + 1) (nI 7) _ = _
    rw [fX12_on_L28, if_neg (by decide)]
end ONN
theorem al_on (a1 : Int32) : Alike (fX11_on a1) (fX12_on a1) := by
  intro s hI
  obtain ⟨nb, n, nq, nm, nd, ga, gb, gc, gd, ge, gf, gg, gh, gi, gj⟩ := id hI
  have h7 := gd.ln
  have h8 := gd.lb
  unfold fX11_on fX12_on
  by_cases h : a1 < 0 ∨ 2 < a1
  · exact ⟨-1, s, s, by rw [within_f h, bnd_some, if_pos rfl], by rw [in_eq, within_f h, bnd_some, if_pos rfl], hI⟩
  · have h1 : ¬ a1 < 0 := fun z => h (Or.inl z)
    have h2 : ¬ 2 < a1 := fun z => h (Or.inr z)
    obtain ⟨k, hk, rfl⟩ := rng_nI (n := 2) (by decide) h1 h2
    obtain ⟨b1, b2, b3⟩ := gi k (by omega)
    have hin : inb (nI k) 3 = true := inb_ok (by omega) (by decide)
    rcases b2 with b2 | b2
    · obtain ⟨s1, s2, e1, e2, hI2⟩ := found_al hI (f := 1) (by decide)
      have e88 : s1.1 88 = s.1 88 := by
        rw [f_found (by decide)] at e1
        cases e1
        rfl
      refine ⟨-3, s1, s2, ?_, ?_, hI2⟩
      · rw [within_t h1 h2, bnd_some, if_neg one_ne, hask_f (by omega) (b1.trans b2), bnd_some, if_pos rfl]
        show bnd (fX10_found (nI 1) s) _ = _
        rw [e1, bnd_some]
      · rw [in_eq, within_t h1 h2, bnd_some, if_neg one_ne, if_pos hin, ix_nI (by omega), e88, if_pos b2]
        show bnd (fX12_meets (nI 1) s1) _ = _
        rw [e2, bnd_some]
    · obtain ⟨b4, b5⟩ := b3 b2
      obtain ⟨sa, ea, ca, ma⟩ := restore_ok (cs_of gd ge) (k := k) (by omega) (b1.trans b2) (fun g hg => by rw [(b4 g hg).1]; exact (b4 g hg).2)
      have cb : Cst (wI sa 20 0 0) nb n (fun i => if i < n then s.1 26 (7 * k + i) else s.1 79 i) := ca
      have mb : SmX (fun a => a = 12 ∨ a = 16 ∨ a = 20) s (wI sa 20 0 0) := (ma.mono (fun a ha => by unfold Xp at ha; omega)).tr (SmX.wI (by unfold Cr; omega) (by omega) (by omega))
      have t20 : (wI sa 20 0 0).1 20 0 = nI 0 := rfl
      generalize hsb : wI sa 20 0 0 = sb at *
      have b79 : sb.1 79 = s.1 79 := mb.1 79 (by unfold Cr; omega) (by omega)
      have b88 : sb.1 88 = s.1 88 := mb.1 88 (by unfold Cr; omega) (by omega)
      have b89 : sb.1 89 = s.1 89 := mb.1 89 (by unfold Cr; omega) (by omega)
      have b12 : sb.1 68 12 = nI n := by
        rw [mb.2.1 12 (by unfold Cf; omega) (by omega)]
        exact gd.g68
      have eF : (fun i => if i < 7 then sb.1 89 (7 * k + i) else sb.1 79 i) = fun i => if i < n then s.1 26 (7 * k + i) else s.1 79 i := by
        funext i
        rw [b79, b89]
        by_cases c : i < n
        · rw [if_pos c, if_pos (by omega), (b4 i c).1]
        · rw [if_neg c]
          by_cases c2 : i < 7
          · rw [if_pos c2, b5 i (by omega) c2]
          · rw [if_neg c2]
      generalize hF : (fun i => if i < n then s.1 26 (7 * k + i) else s.1 79 i) = F at *
      refine ⟨nI (cntN (fun h => decide (F h ≠ -9)) n), sb, wI (wF sb 79 F) 68 32 0, ?_, ?_, ?_⟩
      · rw [within_t h1 h2, bnd_some, if_neg one_ne, hask_t (by omega) (b1.trans b2), bnd_some, if_neg one_ne, ea, bnd_some]
        unfold fX1_forgetAll
        rw [bnd_some, hsb, seatedCountC cb, bnd_some]
      · rw [in_eq, within_t h1 h2, bnd_some, if_neg one_ne, if_pos hin, ix_nI (by omega), b88, b2, if_neg one_ne, onL (by omega), eF, seatedMany_ok (show (wI (wF sb 79 F) 68 32 0).1 68 12 = nI n from b12) h7, bnd_some]
        rfl
      · have hS : SmX Xs s (wI (wF sb 79 F) 68 32 0) := ((mb.mono (fun a ha => by unfold Xs; omega)).tr (SmX.wF (fun _ => by unfold Xs; omega) (by decide) (by decide))).tr (SmX.wI (by unfold Cr; omega) (fun _ _ => by unfold Xs; omega) (by omega))
        have t79 : (wI (wF sb 79 F) 68 32 0).1 79 = F := rfl
        have tq : ∀ q, q ≠ 79 → q ≠ 68 → (wI (wF sb 79 F) 68 32 0).1 q = sb.1 q := fun q w1 w2 => by rw [wI_ne w2, wF_ne w1]
        refine Inv_sit (nd' := 0) hI gd ge hS ?_ ?_ ?_ ?_ ?_
        · rw [t79, tq 16 (by decide) (by decide)]
          exact cb.2.2.2.2.1
        · rw [t79]
          exact cb.2.2.2.2.2.1
        · rw [t79, tq 12 (by decide) (by decide)]
          exact cb.2.2.2.2.2.2
        · intro i hi
          rw [t79, ← hF]
          exact if_neg (by omega)
        · exact ⟨by omega, by rw [tq 20 (by decide) (by decide)]; exact t20, rfl, fun j hj => absurd hj (by omega)⟩
