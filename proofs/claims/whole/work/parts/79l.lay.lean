-- cousins: the reference's search
section LAY
variable {s : Mem} {nb n M : Nat} {w cs : Nat → Int32}
def BR (x : Mem) (M : Nat) (bs : Bs) : Prop := (bs = none ∧ x.1 68 53 = -1) ∨ ∃ b, bs = some b ∧ x.1 68 53 = b.1 ∧ ∀ i, i < M → x.1 97 i = b.2 i
def RI (s x : Mem) (nb n M : Nat) (w cs : Nat → Int32) (k : Nat) (u : Nat → Nat) (tr : Nat → Int32) (bs : Bs) : Prop := Sm s x ∧ x.1 68 47 = nI M ∧ BR x M bs ∧ (∀ i, i < k → x.1 96 i = tr i) ∧ (∀ b, b < nb → x.1 98 b + nI (u b) = 2 - nI (tkN s n b)) ∧ ∀ i, i < M → x.1 94 i = w i ∧ x.1 95 i = cs i
theorem sm90 {x : Mem} {q j : Nat} {v : Int32} (h1 : 90 ≤ q) (h2 : q ≤ 98) : Sm x (wI x q j v) := SmX.wI (by unfold Cr; omega) (by omega) (by omega)
theorem sm53 {x : Mem} {j : Nat} {v : Int32} (h : 33 ≤ j) : Sm x (wI x 68 j v) := SmX.wI (by unfold Cr; omega) (fun _ z => by unfold Cf at z; omega) (by omega)
theorem L39_ok {x : Mem} {k : Nat} (hk : k ≤ 4) (rec : Int32 → Int32 → Int32 → Mem → Option (Unit × Mem)) : fX12_layInvited_L39 rec (fun s9 => some ((), s9)) (nI k) FU 0 x = some ((), wF x 97 (fun i => if i < k then x.1 96 i else x.1 97 i)) := by
  have key := lp0 (fun t j => fX12_layInvited_L39 rec (fun s9 => some ((), s9)) (nI k) t (nI j) (wF x 97 (fun i => if i < j then x.1 96 i else x.1 97 i))) (some ((), wF x 97 (fun i => if i < k then x.1 96 i else x.1 97 i))) k ?_ ?_ (by omega)
  · rw [← key]
    show _ = fX12_layInvited_L39 rec _ (nI k) FU (nI 0) (wF x 97 (fun i => if i < 0 then x.1 96 i else x.1 97 i))
    have e : (fun i => if i < 0 then x.1 96 i else x.1 97 i) = x.1 97 := by
      funext b
      rw [if_neg (by omega)]
    rw [e, wF_self]
    rfl
  · intro j t hj
    show fX12_layInvited_L39 rec _ (nI k) (t + 1) (nI j) _ = fX12_layInvited_L39 rec _ (nI k) t (nI (j + 1)) _
    have h96 : ∀ F, (wF x 97 F).1 96 = x.1 96 := fun F => rfl
    have hi : inb (nI j) 4 = true := inb_ok (by omega) (by decide)
    rw [fX12_layInvited_L39, if_pos (nI_lt hj (by omega)), if_pos hi, if_pos hi, ix_nI (by omega), h96, nI_1, wI_wF]
    congr 2
    funext b
    by_cases hb : b = j
    · rw [if_pos hb, if_pos (by omega), hb]
    · rw [if_neg hb]
      by_cases h2 : b < j
      · rw [if_pos h2, if_pos (by omega)]
      · rw [if_neg h2, if_neg (by omega)]
  · intro t
    show fX12_layInvited_L39 rec _ (nI k) (t + 1) (nI k) _ = _
    rw [fX12_layInvited_L39, if_neg (nI_nlt (Nat.le_refl k) (by omega))]
theorem free_pos {a : Int32} {t u : Nat} (ht : t ≤ 10) (hu : u ≤ 10) (h : a + nI u = 2 - nI t) : 0 < a ↔ t + u < 2 := by
  have e : a = 2 - nI t - nI u := by rw [← h, Int32.add_sub_cancel]
  have e1 : (2 - nI t).toInt = 2 - (t : Int) := pk_sub_toInt (a := 2) (b := t) (by decide) (by omega)
  have e2 : (nI u).toInt = (u : Int) := nI_toInt (by omega)
  rw [Int32.lt_iff_toInt_lt, e, subI (by omega) (by omega), e1, e2, show (0 : Int32).toInt = 0 from by decide]
  omega
theorem free_dn {a c : Int32} {u : Nat} (h : a + nI u = c) : (a - 1) + nI (u + 1) = c := by
  rw [← nI_1, Int32.add_comm (nI u) 1, ← Int32.add_assoc, Int32.sub_add_cancel, h]
theorem free_up {a c : Int32} {u : Nat} (h : a + nI (u + 1) = c) : (a + 1) + nI u = c := by
  rw [← h, ← nI_1, Int32.add_assoc, Int32.add_comm 1 (nI u)]
theorem RI.lv {x : Mem} {k : Nat} {u : Nat → Nat} {tr : Nat → Int32} {bs : Bs} (h : RI s x nb n M w cs k u tr bs) (l : Int32) : lev x l = lev s l := by
  unfold lev
  rw [h.1.2.1 17 (by unfold Cf; omega) id]
theorem layRq (rd : Rd s nb n) (hM : M ≤ 4) (hc : ∀ i, i < M → 0 ≤ (cs i).toInt ∧ (cs i).toInt ≤ 99) : ∀ d K k u l c0 tr bs x, k + d = M → d < K → (∀ b, b < 8 → u b ≤ k) → 0 ≤ c0.toInt → c0.toInt ≤ 99 * (k : Int) → BsOk bs → RI s x nb n M w cs k u tr bs → ∃ x', fX12_layInvited K (nI k) l c0 x = some ((), x') ∧ RI s x' nb n M w cs k u tr (inv nb (tkN s n) (s.1 75) w cs (lvB s) d k u l c0 tr bs) := by
  intro d
  induction d with
  | zero =>
    intro K k u l c0 tr bs x hk hK hu h0 h1 hb hx
    obtain ⟨K', rfl⟩ : ∃ K', K = K' + 1 := ⟨K - 1, by omega⟩
    have ek : k = M := by omega
    subst ek
    obtain ⟨i1, i2, i3, i4, i5, i6⟩ := id hx
    rw [fX12_layInvited]
    unfold fX12_layInvited_B
    rw [i2, if_pos rfl, mLevel_ok, bnd_some, hx.lv]
    show ∃ x', _ ∧ RI s x' nb n k w cs k u tr (leaf (lvB s) l c0 tr bs)
    by_cases e : lev s l = 0
    · rw [if_pos e]
      refine ⟨x, rfl, ?_⟩
      have el : leaf (lvB s) l c0 tr bs = bs := by
        unfold leaf lvB
        rw [if_neg (by rw [decide_eq_false (fun z => z e)]; decide)]
      rw [el]
      exact hx
    · rw [if_neg e]
      have good : RI s (wF (wI x 68 53 c0) 97 (fun i => if i < k then (wI x 68 53 c0).1 96 i else (wI x 68 53 c0).1 97 i)) nb n k w cs k u tr (some (c0, tr)) := by
        refine ⟨(i1.tr (sm53 (by decide))).tr (SmX.wF (by unfold Cr; omega) (by decide) (by decide)), i2, Or.inr ⟨(c0, tr), rfl, rfl, fun i hi => ?_⟩, i4, i5, i6⟩
        show (if i < k then x.1 96 i else x.1 97 i) = tr i
        rw [if_pos hi, i4 i hi]
      have hL := L39_ok (x := wI x 68 53 c0) (k := k) (by omega) (fX12_layInvited K')
      rcases i3 with ⟨rfl, e3⟩ | ⟨b, rfl, e3, eb⟩
      · have el : leaf (lvB s) l c0 tr none = some (c0, tr) := by
          unfold leaf lvB
          rw [if_pos (decide_eq_true e)]
        rw [e3, if_pos m1_neg, hL, el]
        exact ⟨_, rfl, good⟩
      · have hn : ¬ b.1 < 0 := fun z => by
          have := (lt0_iff _).mp z
          have := hb b rfl
          omega
        rw [e3, if_neg hn]
        by_cases e4 : c0 < b.1
        · have el : leaf (lvB s) l c0 tr (some b) = some (c0, tr) := by
            unfold leaf lvB
            rw [if_pos (decide_eq_true e)]
            show (if c0 < b.1 then some (c0, tr) else some b) = _
            rw [if_pos e4]
          rw [if_pos e4, hL, el]
          exact ⟨_, rfl, good⟩
        · have el : leaf (lvB s) l c0 tr (some b) = some b := by
            unfold leaf lvB
            rw [if_pos (decide_eq_true e)]
            show (if c0 < b.1 then some (c0, tr) else some b) = _
            rw [if_neg e4]
          rw [if_neg e4, el]
          exact ⟨x, rfl, hx⟩
  | succ d ih =>
    intro K k u l c0 tr bs x hk hK hu h0 h1 hb hx
    obtain ⟨K', rfl⟩ : ∃ K', K = K' + 1 := ⟨K - 1, by omega⟩
    obtain ⟨i1, i2, i3, i4, i5, i6⟩ := id hx
    have h8 := rd.1
    have h7 := rd.2.1
    obtain ⟨q1, q2⟩ := hc k (by omega)
    obtain ⟨q3, q4, q5⟩ := cost_s (cs := cs) (k := k) (by omega) h0 h1 q1 q2
    have hk4 : inb (nI k) 4 = true := inb_ok (by omega) (by decide)
    rw [fX12_layInvited]
    unfold fX12_layInvited_B
    rw [i2, if_neg (fun z => by
      have := (nI_eq (by omega) (by omega)).mp z
      omega)]
    have key := lp_inv0 (fun t j (y : Mem) => fX12_layInvited_L69 (fX12_layInvited K') (fun s25 => if inb (nI k) 4 = true then bnd (fX12_layInvited K' (nI k + 1) l c0 (wI s25 96 (ix (nI k)) (-9))) (fun r27 s28 => some ((), s28)) else none) (nI k) l c0 t (nI j) y) (fun j y => RI s y nb n M w cs k u tr (ivb (fun b z => if tkN s n b + u b < 2 then inv nb (tkN s n) (s.1 75) w cs (lvB s) d (k + 1) (upN u b (u b + 1)) (l + s.1 75 b * w k) (c0 + cs k) (upd tr k (nI b)) z else z) bs j) ∧ BsOk (ivb (fun b z => if tkN s n b + u b < 2 then inv nb (tkN s n) (s.1 75) w cs (lvB s) d (k + 1) (upN u b (u b + 1)) (l + s.1 75 b * w k) (c0 + cs k) (upd tr k (nI b)) z else z) bs j)) nb x ⟨hx, hb⟩ ?_ (by omega)
    · obtain ⟨y, t, ⟨cy, by1⟩, e⟩ := key
      have e' : fX12_layInvited_L69 (fX12_layInvited K') (fun s25 => if inb (nI k) 4 = true then bnd (fX12_layInvited K' (nI k + 1) l c0 (wI s25 96 (ix (nI k)) (-9))) (fun r27 s28 => some ((), s28)) else none) (nI k) l c0 FU 0 x = fX12_layInvited_L69 (fX12_layInvited K') (fun s25 => if inb (nI k) 4 = true then bnd (fX12_layInvited K' (nI k + 1) l c0 (wI s25 96 (ix (nI k)) (-9))) (fun r27 s28 => some ((), s28)) else none) (nI k) l c0 (t + 1) (nI nb) y := e
      obtain ⟨j1, j2, j3, j4, j5, j6⟩ := id cy
      have y10 : y.1 68 10 = nI nb := by rw [j1.2.1 10 (by unfold Cf; omega) id]; exact rd.2.2.1
      rw [e', fX12_layInvited_L69, y10, if_neg (nI_nlt (Nat.le_refl nb) (by omega)), if_pos hk4, ix_nI (by omega), nI_1]
      have cy' : RI s (wI y 96 k (-9)) nb n M w cs (k + 1) u (upd tr k (-9)) (ivb (fun b z => if tkN s n b + u b < 2 then inv nb (tkN s n) (s.1 75) w cs (lvB s) d (k + 1) (upN u b (u b + 1)) (l + s.1 75 b * w k) (c0 + cs k) (upd tr k (nI b)) z else z) bs nb) := by
        refine ⟨j1.tr (sm90 (by decide) (by decide)), j2, j3, fun i hi => ?_, j5, j6⟩
        rw [rdq]
        by_cases c : i = k
        · rw [if_pos c, c, uq_s]
        · rw [if_neg c, uq_n _ _ c, j4 i (by omega)]
      obtain ⟨x', ex, cx⟩ := ih K' (k + 1) u l c0 (upd tr k (-9)) _ _ (by omega) (by omega) (fun b hb' => by have := hu b hb'; omega) h0 (by omega) by1 cy'
      rw [ex, bnd_some]
      refine ⟨x', rfl, ?_⟩
      obtain ⟨l1, l2, l3, l4, l5, l6⟩ := cx
      refine ⟨l1, l2, ?_, fun i hi => ?_, l5, l6⟩
      · rw [inv]
        exact l3
      · rw [l4 i (by omega), uq_n _ _ (by omega)]
    · rintro j t y hj ⟨cy, by1⟩
      show ∃ y', _ ∧ fX12_layInvited_L69 (fX12_layInvited K') _ (nI k) l c0 (t + 1) (nI j) y = fX12_layInvited_L69 (fX12_layInvited K') _ (nI k) l c0 t (nI (j + 1)) y'
      obtain ⟨j1, j2, j3, j4, j5, j6⟩ := id cy
      have hj8 : inb (nI j) 8 = true := inb_ok (by omega) (by decide)
      have y10 : y.1 68 10 = nI nb := by rw [j1.2.1 10 (by unfold Cf; omega) id]; exact rd.2.2.1
      have htl : tkN s n j ≤ n := cntN_le _ _
      have huj := hu j (by omega)
      have hfp := free_pos (show tkN s n j ≤ 10 by omega) (show u j ≤ 10 by omega) (j5 j hj)
      rw [fX12_layInvited_L69, y10, if_pos (nI_lt hj (by omega)), if_pos hj8, ix_nI (show j < 2 ^ 31 by omega), nI_1 j, ivb]
      generalize ivb (fun b z => if tkN s n b + u b < 2 then inv nb (tkN s n) (s.1 75) w cs (lvB s) d (k + 1) (upN u b (u b + 1)) (l + s.1 75 b * w k) (c0 + cs k) (upd tr k (nI b)) z else z) bs j = z0 at cy by1 j3 ⊢
      by_cases e : tkN s n j + u j < 2
      · rw [if_pos (hfp.mpr e), if_pos e, if_pos hj8, if_pos hj8, if_pos hk4, if_pos hj8, if_pos hk4, if_pos hk4, ix_nI (show k < 2 ^ 31 by omega)]
        have cy' : RI s (wI (wI y 98 j (y.1 98 j - 1)) 96 k (nI j)) nb n M w cs (k + 1) (upN u j (u j + 1)) (upd tr k (nI j)) z0 := by
          refine ⟨(j1.tr (sm90 (by decide) (by decide))).tr (sm90 (by decide) (by decide)), j2, j3, fun i hi => ?_, fun b hb' => ?_, j6⟩
          · rw [rdq]
            by_cases c : i = k
            · rw [if_pos c, c, uq_s]
            · rw [if_neg c, uq_n _ _ c, wI_ne (by decide), j4 i (by omega)]
          · rw [wI_ne (by decide), rdq]
            unfold upN
            by_cases c : b = j
            · rw [if_pos c, if_pos c, c]
              exact free_dn (j5 j hj)
            · rw [if_neg c, if_neg c, j5 b hb']
        obtain ⟨y2, e2, c2⟩ := ih K' (k + 1) (upN u j (u j + 1)) (l + s.1 75 j * w k) (c0 + cs k) (upd tr k (nI j)) z0 _ (by omega) (by omega) (fun b hb' => by
          unfold upN
          have := hu b hb'
          by_cases c : b = j
          · rw [if_pos c]; omega
          · rw [if_neg c]; omega) q3 q4 by1 cy'
        have r75 : (wI (wI y 98 j (y.1 98 j - 1)) 96 k (nI j)).1 75 = s.1 75 := by
          rw [wI_ne (by decide), wI_ne (by decide)]
          exact j1.1 75 (by unfold Cr; omega) id
        have r94 : (wI (wI y 98 j (y.1 98 j - 1)) 96 k (nI j)).1 94 k = w k := (j6 k (by omega)).1
        have r95 : (wI (wI y 98 j (y.1 98 j - 1)) 96 k (nI j)).1 95 k = cs k := (j6 k (by omega)).2
        rw [r75, r94, r95, nI_1 k, e2, bnd_some, if_pos hj8, if_pos hj8]
        obtain ⟨l1, l2, l3, l4, l5, l6⟩ := c2
        refine ⟨wI y2 98 j (y2.1 98 j + 1), ⟨⟨l1.tr (sm90 (by decide) (by decide)), l2, l3, fun i hi => ?_, fun b hb' => ?_, l6⟩, inv_ok hc hM d (k + 1) _ _ _ _ z0 (by omega) q3 q4 by1⟩, rfl⟩
        · rw [wI_ne (by decide), l4 i (by omega), uq_n _ _ (by omega)]
        · rw [rdq]
          have l5b := l5 b hb'
          unfold upN at l5b
          by_cases c : b = j
          · rw [if_pos c]
            rw [if_pos c, c] at l5b
            rw [c]
            exact free_up l5b
          · rw [if_neg c]
            rw [if_neg c] at l5b
            exact l5b
      · rw [if_neg (fun z => e (hfp.mp z)), if_neg e]
        exact ⟨y, ⟨cy, by1⟩, rfl⟩
end LAY
