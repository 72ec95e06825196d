-- cousins: the class's search
section CSN
variable {s : Mem} {nb n M : Nat} {w cs : Nat → Int32}
def tkN (s : Mem) (n b : Nat) : Nat := cntN (fun h => decide (s.1 79 h = nI b) && decide (s.1 76 h ≠ 3)) n
def lvB (s : Mem) (l : Int32) : Bool := decide (lev s l ≠ 0)
/-- the class's best by now -/
def BC (x : Mem) (M : Nat) (bs : Bs) : Prop := (bs = none ∧ x.1 42 1 = -9) ∨ ∃ b, bs = some b ∧ x.1 42 1 = b.1 ∧ ∀ i, i < M → x.1 43 i = b.2 i
def CI (s x : Mem) (M : Nat) (w cs : Nat → Int32) (k : Nat) (u : Nat → Nat) (tr : Nat → Int32) (bs : Bs) : Prop := SmX (fun a => a = 45) s x ∧ x.1 42 0 = nI M ∧ BC x M bs ∧ (∀ i, i < k → x.1 44 i = tr i) ∧ (∀ b, b < 8 → x.1 45 b = nI (u b)) ∧ ∀ i, i < M → x.1 46 i = w i ∧ x.1 47 i = cs i
theorem note_ok {x : Mem} (hM : M ≤ 4) (h : x.1 42 0 = nI M) (c0 : Int32) : fX2_noteCheaper c0 x = some ((), wF (wI x 42 1 c0) 43 (fun i => if i < M then x.1 44 i else x.1 43 i)) := by
  unfold fX2_noteCheaper
  have key := lp0 (fun k j => fX2_noteCheaper_L7 (fun s4 => some ((), s4)) k (nI j) (wF (wI x 42 1 c0) 43 (fun i => if i < j then x.1 44 i else x.1 43 i))) (some ((), wF (wI x 42 1 c0) 43 (fun i => if i < M then x.1 44 i else x.1 43 i))) M ?_ ?_ (by omega)
  · rw [← key]
    show _ = fX2_noteCheaper_L7 _ FU (nI 0) (wF (wI x 42 1 c0) 43 (fun i => if i < 0 then x.1 44 i else x.1 43 i))
    have e : (fun i => if i < 0 then x.1 44 i else x.1 43 i) = (wI x 42 1 c0).1 43 := by
      funext b
      rw [if_neg (by omega)]
      rfl
    rw [e, wF_self]
    rfl
  · intro j k hj
    show fX2_noteCheaper_L7 _ (k + 1) (nI j) _ = fX2_noteCheaper_L7 _ k (nI (j + 1)) _
    have h42 : ∀ F, (wF (wI x 42 1 c0) 43 F).1 42 0 = nI M := fun F => h
    have h44 : ∀ F, (wF (wI x 42 1 c0) 43 F).1 44 = x.1 44 := fun F => rfl
    have hi : inb (nI j) 4 = true := inb_ok (by omega) (by decide)
    rw [fX2_noteCheaper_L7, h42, if_pos (nI_lt hj (by omega)), if_pos hi, if_pos hi, ix_nI (by omega), h44, nI_1, wI_wF]
    congr 2
    funext b
    by_cases hb : b = j
    · rw [if_pos hb, if_pos (by omega), hb]
    · rw [if_neg hb]
      by_cases h2 : b < j
      · rw [if_pos h2, if_pos (by omega)]
      · rw [if_neg h2, if_neg (by omega)]
  · intro k
    show fX2_noteCheaper_L7 _ (k + 1) (nI M) _ = _
    have h42 : ∀ F, (wF (wI x 42 1 c0) 43 F).1 42 0 = nI M := fun F => h
    rw [fX2_noteCheaper_L7, h42, if_neg (nI_nlt (Nat.le_refl M) (by omega))]
theorem sm42 {x : Mem} {q j : Nat} {v : Int32} (h1 : 42 ≤ q) (h2 : q ≤ 47) : SmX (fun a => a = 45) x (wI x q j v) := SmX.wI (by unfold Cr; omega) (by omega) (by omega)
theorem CI.gd {x : Mem} {k : Nat} {u : Nat → Nat} {tr : Nat → Int32} {bs : Bs} (h : CI s x M w cs k u tr bs) (gd : Gd s nb n) : Gd x nb n := Gd_keep h.1 (fun a ha => by omega) gd
theorem CI.ge {x : Mem} {k : Nat} {u : Nat → Nat} {tr : Nat → Int32} {bs : Bs} (h : CI s x M w cs k u tr bs) (ge : Ge s nb n) : Ge x nb n := Ge_keep h.1 (fun a ha => by omega) ge
theorem CI.lv {x : Mem} {k : Nat} {u : Nat → Nat} {tr : Nat → Int32} {bs : Bs} (h : CI s x M w cs k u tr bs) (l : Int32) : lev x l = lev s l := by
  unfold lev
  rw [h.1.2.1 17 (by unfold Cf; omega) (by omega)]
/-- what the class does where it goes on -/
def tcM (rec : Int32 → Int32 → Int32 → Mem → Option (Unit × Mem)) (a1 a2 a3 : Int32) (s : Mem) : Option (Unit × Mem) := if a1 < (s.1 42 0) then
    if a1 < 4 then
      fX2_tryCousin_L51 rec (fun s11 =>
        if inb a1 4 = true then
        bnd (rec (a1 + 1) a2 a3 (wI s11 44 (ix a1) (-9))) (fun r13 s14 =>
        some ((), s14))
        else none) a1 a2 a3 FU 0 s
    else
      bnd (fX0_isLevel a2 s) (fun r15 s16 =>
      if r15 = 0 then
        some ((), s16)
      else
        bnd (fX2_noteCheaper a3 s16) (fun r18 s19 =>
        some ((), s19)))
  else
    bnd (fX0_isLevel a2 s) (fun r20 s21 =>
    if r20 = 0 then
      some ((), s21)
    else
      bnd (fX2_noteCheaper a3 s21) (fun r23 s24 =>
      some ((), s24)))
theorem tcB (rec : Int32 → Int32 → Int32 → Mem → Option (Unit × Mem)) (a1 a2 a3 : Int32) (x : Mem) : fX2_tryCousin_B rec a1 a2 a3 x = if x.1 42 1 = (-9) then tcM rec a1 a2 a3 x else if a3 < (x.1 42 1) then tcM rec a1 a2 a3 x else some ((), x) := rfl
theorem tryC (gd : Gd s nb n) (ge : Ge s nb n) (hM : M ≤ 4) (hc : ∀ i, i < M → 0 ≤ (cs i).toInt ∧ (cs i).toInt ≤ 99) : ∀ d K k u l c0 tr bs x, k + d = M → d < K → (∀ b, b < 8 → u b ≤ k) → 0 ≤ c0.toInt → c0.toInt ≤ 99 * (k : Int) → BsOk bs → CI s x M w cs k u tr bs → ∃ x', fX2_tryCousin K (nI k) l c0 x = some ((), x') ∧ CI s x' M w cs k u tr (inv nb (tkN s n) (s.1 75) w cs (lvB s) d k u l c0 tr bs) := by
  intro d
  induction d with
  | zero =>
    intro K k u l c0 tr bs x hk hK hu h0 h1 hb hx
    obtain ⟨K', rfl⟩ : ∃ K', K = K' + 1 := ⟨K - 1, by omega⟩
    have ek : k = M := by omega
    subst ek
    obtain ⟨i1, i2, i3, i4, i5, i6⟩ := id hx
    have main : ∃ x', tcM (fX2_tryCousin K') (nI k) l c0 x = some ((), x') ∧ ((¬ ∃ b, bs = some b ∧ ¬ c0 < b.1) → CI s x' k w cs k u tr (inv nb (tkN s n) (s.1 75) w cs (lvB s) 0 k u l c0 tr bs)) := by
      unfold tcM
      rw [i2, if_neg (nI_nlt (Nat.le_refl k) (by omega)), isLevel_ok (hx.gd gd), bnd_some, hx.lv]
      by_cases e : lev s l = 0
      · rw [if_pos e]
        refine ⟨x, rfl, fun _ => ?_⟩
        have el : leaf (lvB s) l c0 tr bs = bs := by
          unfold leaf lvB
          rw [if_neg (by rw [decide_eq_false (fun z => z e)]; decide)]
        show CI s x k w cs k u tr (leaf (lvB s) l c0 tr bs)
        rw [el]
        exact hx
      · rw [if_neg e, note_ok hM i2, bnd_some]
        refine ⟨_, rfl, fun hn => ?_⟩
        have el : leaf (lvB s) l c0 tr bs = some (c0, tr) := by
          unfold leaf lvB
          rw [if_pos (decide_eq_true e)]
          cases bs with
          | none => rfl
          | some b =>
            show (if c0 < b.1 then some (c0, tr) else some b) = _
            by_cases e2 : c0 < b.1
            · rw [if_pos e2]
            · exact absurd ⟨b, rfl, e2⟩ hn
        show CI s _ k w cs k u tr (leaf (lvB s) l c0 tr bs)
        rw [el]
        refine ⟨(i1.tr (sm42 (by decide) (by decide))).tr (SmX.wF (by unfold Cr; omega) (by decide) (by decide)), i2, Or.inr ⟨(c0, tr), rfl, rfl, fun i hi => ?_⟩, i4, i5, i6⟩
        show (if i < k then x.1 44 i else x.1 43 i) = tr i
        rw [if_pos hi, i4 i hi]
    rw [fX2_tryCousin, tcB]
    obtain ⟨x', e1, e2⟩ := main
    rcases i3 with ⟨rfl, e⟩ | ⟨b, rfl, e, eb⟩
    · rw [if_pos e]
      exact ⟨x', e1, e2 (fun ⟨b, z, _⟩ => by cases z)⟩
    · have hne : ¬ x.1 42 1 = -9 := fun z => by
        have h := hb b rfl
        rw [← e, z] at h
        exact absurd h (by decide)
      rw [if_neg hne, e]
      by_cases e3 : c0 < b.1
      · rw [if_pos e3]
        exact ⟨x', e1, e2 (fun ⟨b', z, h⟩ => by cases z; exact h e3)⟩
      · rw [if_neg e3]
        refine ⟨x, rfl, ?_⟩
        rw [prune hc hM 0 k u l c0 tr b (by omega) h0 h1 e3]
        exact hx
  | succ d ih =>
    intro K k u l c0 tr bs x hk hK hu h0 h1 hb hx
    obtain ⟨K', rfl⟩ : ∃ K', K = K' + 1 := ⟨K - 1, by omega⟩
    obtain ⟨i1, i2, i3, i4, i5, i6⟩ := id hx
    have h8 := gd.lb
    have h7 := gd.ln
    obtain ⟨q1, q2⟩ := hc k (by omega)
    obtain ⟨q3, q4, q5⟩ := cost_s (cs := cs) (k := k) (by omega) h0 h1 q1 q2
    have hk4 : inb (nI k) 4 = true := inb_ok (by omega) (by decide)
    have main : ∃ x', tcM (fX2_tryCousin K') (nI k) l c0 x = some ((), x') ∧ CI s x' M w cs k u tr (inv nb (tkN s n) (s.1 75) w cs (lvB s) (d + 1) k u l c0 tr bs) := by
      unfold tcM
      rw [i2, if_pos (nI_lt (by omega) (by omega)), if_pos ((lt_num (b := 4) (by omega) (by decide)).mpr (by omega))]
      have key := lp_inv0 (fun t j (y : Mem) => fX2_tryCousin_L51 (fX2_tryCousin K') (fun s11 => if inb (nI k) 4 = true then bnd (fX2_tryCousin K' (nI k + 1) l c0 (wI s11 44 (ix (nI k)) (-9))) (fun r13 s14 => some ((), s14)) else none) (nI k) l c0 t (nI j) y) (fun j y => CI s y M w cs k u tr (ivb (fun b z => if tkN s n b + u b < 2 then inv nb (tkN s n) (s.1 75) w cs (lvB s) d (k + 1) (upN u b (u b + 1)) (l + s.1 75 b * w k) (c0 + cs k) (upd tr k (nI b)) z else z) bs j) ∧ BsOk (ivb (fun b z => if tkN s n b + u b < 2 then inv nb (tkN s n) (s.1 75) w cs (lvB s) d (k + 1) (upN u b (u b + 1)) (l + s.1 75 b * w k) (c0 + cs k) (upd tr k (nI b)) z else z) bs j)) nb x ⟨hx, hb⟩ ?_ (by omega)
      · obtain ⟨y, t, ⟨cy, by1⟩, e⟩ := key
        have e' : fX2_tryCousin_L51 (fX2_tryCousin K') (fun s11 => if inb (nI k) 4 = true then bnd (fX2_tryCousin K' (nI k + 1) l c0 (wI s11 44 (ix (nI k)) (-9))) (fun r13 s14 => some ((), s14)) else none) (nI k) l c0 FU 0 x = fX2_tryCousin_L51 (fX2_tryCousin K') (fun s11 => if inb (nI k) 4 = true then bnd (fX2_tryCousin K' (nI k + 1) l c0 (wI s11 44 (ix (nI k)) (-9))) (fun r13 s14 => some ((), s14)) else none) (nI k) l c0 (t + 1) (nI nb) y := e
        rw [e', fX2_tryCousin_L51, (cy.gd gd).b6, if_neg (nI_nlt (Nat.le_refl nb) (by omega)), if_pos hk4, ix_nI (by omega), nI_1]
        obtain ⟨j1, j2, j3, j4, j5, j6⟩ := cy
        have cy' : CI s (wI y 44 k (-9)) M w cs (k + 1) u (upd tr k (-9)) (ivb (fun b z => if tkN s n b + u b < 2 then inv nb (tkN s n) (s.1 75) w cs (lvB s) d (k + 1) (upN u b (u b + 1)) (l + s.1 75 b * w k) (c0 + cs k) (upd tr k (nI b)) z else z) bs nb) := by
          refine ⟨j1.tr (sm42 (by decide) (by decide)), j2, j3, fun i hi => ?_, j5, j6⟩
          rw [rdq]
          by_cases c : i = k
          · rw [if_pos c, c, uq_s]
          · rw [if_neg c, uq_n _ _ c, j4 i (by omega)]
        obtain ⟨x', ex, cx⟩ := ih K' (k + 1) u l c0 (upd tr k (-9)) _ _ (by omega) (by omega) (fun b hb' => by have := hu b hb'; omega) h0 (by omega) by1 cy'
        rw [ex, bnd_some]
        refine ⟨x', rfl, ?_⟩
        obtain ⟨l1, l2, l3, l4, l5, l6⟩ := cx
        refine ⟨l1, l2, ?_, fun i hi => ?_, l5, l6⟩
        · rw [inv]
          exact l3
        · rw [l4 i (by omega), uq_n _ _ (by omega)]
      · rintro j t y hj ⟨cy, by1⟩
        show ∃ y', _ ∧ fX2_tryCousin_L51 (fX2_tryCousin K') _ (nI k) l c0 (t + 1) (nI j) y = fX2_tryCousin_L51 (fX2_tryCousin K') _ (nI k) l c0 t (nI (j + 1)) y'
        obtain ⟨j1, j2, j3, j4, j5, j6⟩ := id cy
        have hj8 : inb (nI j) 8 = true := inb_ok (by omega) (by decide)
        have y79 : y.1 79 = s.1 79 := j1.1 79 (by unfold Cr; omega) (by omega)
        have y76 : y.1 76 = s.1 76 := j1.1 76 (by unfold Cr; omega) (by omega)
        have htk : fX0_seatsTaken (nI j) y = some (nI (tkN s n j), y) := by
          rw [seatsTaken_ok (cy.gd gd) (cy.ge ge) hj, y79, y76]
          rfl
        have htl : tkN s n j ≤ n := cntN_le _ _
        have huj := hu j (by omega)
        rw [fX2_tryCousin_L51, (cy.gd gd).b6, if_pos (nI_lt hj (by omega)), htk, bnd_some, if_pos hj8, ix_nI (show j < 2 ^ 31 by omega), j5 j (by omega), nI_add, nI_1 j, ivb]
        generalize ivb (fun b z => if tkN s n b + u b < 2 then inv nb (tkN s n) (s.1 75) w cs (lvB s) d (k + 1) (upN u b (u b + 1)) (l + s.1 75 b * w k) (c0 + cs k) (upd tr k (nI b)) z else z) bs j = z0 at cy by1 j3 ⊢
        by_cases e : tkN s n j + u j < 2
        · rw [if_pos ((lt_num (b := 2) (by omega) (by decide)).mpr e), if_pos e]
          have cy' : CI s (wI (wI y 44 k (nI j)) 45 j (nI (u j + 1))) M w cs (k + 1) (upN u j (u j + 1)) (upd tr k (nI j)) z0 := by
            refine ⟨(j1.tr (sm42 (by decide) (by decide))).tr (sm42 (by decide) (by decide)), j2, j3, fun i hi => ?_, fun b hb' => ?_, j6⟩
            · rw [wI_ne (by decide), rdq]
              by_cases c : i = k
              · rw [if_pos c, c, uq_s]
              · rw [if_neg c, uq_n _ _ c, j4 i (by omega)]
            · rw [rdq]
              unfold upN
              by_cases c : b = j
              · rw [if_pos c, if_pos c]
              · rw [if_neg c, if_neg c, wI_ne (by decide), j5 b hb']
          obtain ⟨y2, e2, c2⟩ := ih K' (k + 1) (upN u j (u j + 1)) (l + s.1 75 j * w k) (c0 + cs k) (upd tr k (nI j)) z0 _ (by omega) (by omega) (fun b hb' => by
            unfold upN
            have := hu b hb'
            by_cases c : b = j
            · rw [if_pos c]; omega
            · rw [if_neg c]; omega) q3 q4 by1 cy'
          have hxo : fX0_xOf (nI j) (wI (wI y 44 k (nI j)) 45 j (nI (u j + 1))) = some (s.1 75 j, wI (wI y 44 k (nI j)) 45 j (nI (u j + 1))) := by
            rw [xOf_ok (cy'.gd gd) hj, cy'.1.1 75 (by unfold Cr; omega) (by omega)]
          have r45 : (wI y 44 k (nI j)).1 45 j = nI (u j) := j5 j (by omega)
          have r46 : (wI (wI y 44 k (nI j)) 45 j (nI (u j + 1))).1 46 k = w k := (j6 k (by omega)).1
          have r47 : (wI (wI y 44 k (nI j)) 45 j (nI (u j + 1))).1 47 k = cs k := (j6 k (by omega)).2
          have hsc : fX2_seatCousin (fX2_tryCousin K') (nI k) (nI j) l c0 y = some ((), wI y2 45 j (nI (u j))) := by
            unfold fX2_seatCousin
            rw [if_pos hk4, if_pos hj8, if_pos hj8, if_pos hk4, ix_nI (show k < 2 ^ 31 by omega), ix_nI (show j < 2 ^ 31 by omega), r45, nI_1, hxo, bnd_some, if_pos hk4, r46, r47, nI_1, Int32.mul_comm, e2, bnd_some, if_pos hj8, if_pos hj8, c2.2.2.2.2.1 j (by omega)]
            unfold upN
            rw [if_pos rfl, ← nI_1, Int32.add_sub_cancel]
          rw [hsc, bnd_some]
          obtain ⟨l1, l2, l3, l4, l5, l6⟩ := c2
          refine ⟨wI y2 45 j (nI (u j)), ⟨⟨l1.tr (sm42 (by decide) (by decide)), l2, l3, fun i hi => ?_, fun b hb' => ?_, l6⟩, inv_ok hc hM d (k + 1) _ _ _ _ z0 (by omega) q3 q4 by1⟩, rfl⟩
          · rw [wI_ne (by decide), l4 i (by omega), uq_n _ _ (by omega)]
          · rw [rdq]
            by_cases c : b = j
            · rw [if_pos c, c]
            · rw [if_neg c, l5 b hb']
              unfold upN
              rw [if_neg c]
        · rw [if_neg (fun z => e ((lt_num (b := 2) (by omega) (by decide)).mp z)), if_neg e]
          exact ⟨y, ⟨cy, by1⟩, rfl⟩
    rw [fX2_tryCousin, tcB]
    obtain ⟨x', e1, e2⟩ := main
    rcases i3 with ⟨rfl, e⟩ | ⟨b, rfl, e, eb⟩
    · rw [if_pos e]
      exact ⟨x', e1, e2⟩
    · have hne : ¬ x.1 42 1 = -9 := fun z => by
        have h := hb b rfl
        rw [← e, z] at h
        exact absurd h (by decide)
      rw [if_neg hne, e]
      by_cases e3 : c0 < b.1
      · rw [if_pos e3]
        exact ⟨x', e1, e2⟩
      · rw [if_neg e3]
        refine ⟨x, rfl, ?_⟩
        rw [prune hc hM (d + 1) k u l c0 tr b (by omega) h0 h1 e3]
        exact hx
end CSN
