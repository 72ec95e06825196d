-- deeds: remembering on both sides, what the invariant says behind it
def rm (nd : Nat) : Nat := if nd = 60 then 59 else nd
def ro (nd : Nat) : Nat := if nd = 60 then 1 else 0
theorem rm_ro {nd : Nat} (h : nd ≤ 60) : rm nd + ro nd = nd ∧ rm nd ≤ 59 := by
  unfold rm ro
  split <;> omega
section DEE
variable {s : Mem} {nb n nd : Nat}
theorem rem_app {m : Nat} (hm : m < 60) (h : s.1 20 0 = nI m) (a1 a2 a3 : Int32) : (if inb (s.1 20 0) 60 = true then
    if inb ((wI s 21 (ix (s.1 20 0)) a1).1 20 0) 60 = true then
    if inb ((wI (wI s 21 (ix (s.1 20 0)) a1) 22 (ix ((wI s 21 (ix (s.1 20 0)) a1).1 20 0)) a2).1 20 0) 60 = true then
    some ((), wI (wI (wI (wI s 21 (ix (s.1 20 0)) a1) 22 (ix ((wI s 21 (ix (s.1 20 0)) a1).1 20 0)) a2) 23 (ix ((wI (wI s 21 (ix (s.1 20 0)) a1) 22 (ix ((wI s 21 (ix (s.1 20 0)) a1).1 20 0)) a2).1 20 0)) a3) 20 0 (((wI (wI (wI s 21 (ix (s.1 20 0)) a1) 22 (ix ((wI s 21 (ix (s.1 20 0)) a1).1 20 0)) a2) 23 (ix ((wI (wI s 21 (ix (s.1 20 0)) a1) 22 (ix ((wI s 21 (ix (s.1 20 0)) a1).1 20 0)) a2).1 20 0)) a3).1 20 0) + 1))
    else none
    else none
    else none) = some ((), wI (wI (wI (wI s 21 m a1) 22 m a2) 23 m a3) 20 0 (nI (m + 1))) := by
  have r1 : ∀ (t : Mem) (j : Nat) (v : Int32), (wI t 21 j v).1 20 0 = t.1 20 0 := fun _ _ _ => rfl
  have r2 : ∀ (t : Mem) (j : Nat) (v : Int32), (wI t 22 j v).1 20 0 = t.1 20 0 := fun _ _ _ => rfl
  have r3 : ∀ (t : Mem) (j : Nat) (v : Int32), (wI t 23 j v).1 20 0 = t.1 20 0 := fun _ _ _ => rfl
  have hi : inb (nI m) 60 = true := inb_ok hm (by decide)
  simp only [r1, r2, r3, h]
  rw [if_pos hi, if_pos hi, if_pos hi, ix_nI (by omega), nI_1]
/-- the class remembers -/
def Rem (s s' : Mem) (nd : Nat) (a1 a2 a3 : Int32) : Prop := SmX (fun a => 20 ≤ a ∧ a ≤ 23) s s' ∧ s'.1 20 0 = nI (rm nd + 1) ∧ (∀ j, j ≤ rm nd → s'.1 21 j = if j = rm nd then a1 else s.1 21 (j + ro nd)) ∧ (∀ j, j ≤ rm nd → s'.1 22 j = if j = rm nd then a2 else s.1 22 (j + ro nd)) ∧ ∀ j, j ≤ rm nd → s'.1 23 j = if j = rm nd then a3 else s.1 23 (j + ro nd)
theorem sm_d {q j : Nat} {v : Int32} (h1 : 20 ≤ q) (h2 : q ≤ 23) : SmX (fun a => 20 ≤ a ∧ a ≤ 23) s (wI s q j v) := SmX.wI (by omega) (by omega) (by omega)
theorem remember_ok (hn : nd ≤ 60) (h : s.1 20 0 = nI nd) (a1 a2 a3 : Int32) : ∃ s', fX1_remember a1 a2 a3 s = some ((), s') ∧ Rem s s' nd a1 a2 a3 := by
  unfold fX1_remember
  by_cases hc : nd = 60
  · subst hc
    have e60 : ¬ nI 60 < 60 := by decide
    rw [h, if_neg e60]
    unfold fX1_forgetFirst
    have key := lp_inv (fun k j (x : Mem) => fX1_forgetFirst_L2 (fun s8 => some ((), wI s8 20 0 59)) k (nI j) x) (fun j x => 1 ≤ j ∧ SmX (fun a => 20 ≤ a ∧ a ≤ 23) s x ∧ x.1 20 = s.1 20 ∧ (∀ i, x.1 21 i = if i + 1 < j then s.1 21 (i + 1) else s.1 21 i) ∧ (∀ i, x.1 22 i = if i + 1 < j then s.1 22 (i + 1) else s.1 22 i) ∧ ∀ i, x.1 23 i = if i + 1 < j then s.1 23 (i + 1) else s.1 23 i) 60 ?_ 59 1 FU s (by omega) (by unfold FU; omega) ⟨Nat.le_refl 1, SmX.rf s, rfl, fun i => by rw [if_neg (by omega)], fun i => by rw [if_neg (by omega)], fun i => by rw [if_neg (by omega)]⟩
    · obtain ⟨x, k, ⟨_, i1, i2, i3, i4, i5⟩, e⟩ := key
      have e' : fX1_forgetFirst_L2 (fun s8 => some ((), wI s8 20 0 59)) FU 1 s = fX1_forgetFirst_L2 (fun s8 => some ((), wI s8 20 0 59)) (k + 1) (nI 60) x := e
      rw [e', fX1_forgetFirst_L2, if_neg e60, bnd_some]
      have h59 : (wI x 20 0 59).1 20 0 = nI 59 := rfl
      rw [h59, if_pos (show nI 59 < 60 by decide), ← h59, rem_app (s := wI x 20 0 59) (m := 59) (by decide) h59]
      refine ⟨_, rfl, (((((i1.tr (sm_d (by decide) (by decide))).tr (sm_d (by decide) (by decide))).tr (sm_d (by decide) (by decide))).tr (sm_d (by decide) (by decide))).tr (sm_d (by decide) (by decide))), rfl, fun j hj => ?_, fun j hj => ?_, fun j hj => ?_⟩
      · have hj' : j ≤ 59 := hj
        show (if j = 59 then a1 else x.1 21 j) = if j = 59 then a1 else s.1 21 (j + 1)
        by_cases c : j = 59
        · rw [if_pos c, if_pos c]
        · rw [if_neg c, if_neg c, i3, if_pos (by omega)]
      · have hj' : j ≤ 59 := hj
        show (if j = 59 then a2 else x.1 22 j) = if j = 59 then a2 else s.1 22 (j + 1)
        by_cases c : j = 59
        · rw [if_pos c, if_pos c]
        · rw [if_neg c, if_neg c, i4, if_pos (by omega)]
      · have hj' : j ≤ 59 := hj
        show (if j = 59 then a3 else x.1 23 j) = if j = 59 then a3 else s.1 23 (j + 1)
        by_cases c : j = 59
        · rw [if_pos c, if_pos c]
        · rw [if_neg c, if_neg c, i5, if_pos (by omega)]
    · rintro j k x hj ⟨hj0, i1, i2, i3, i4, i5⟩
      show ∃ x', _ ∧ fX1_forgetFirst_L2 _ (k + 1) (nI j) x = fX1_forgetFirst_L2 _ k (nI (j + 1)) x'
      have hs1 : nI j - 1 = nI (j - 1) := pk_sub (a := j) (b := 1) (by omega)
      have q1 : inb (nI j) 60 = true := inb_ok hj (by decide)
      have q2 : inb (nI (j - 1)) 60 = true := inb_ok (by omega) (by decide)
      refine ⟨wI (wI (wI x 21 (j - 1) (x.1 21 j)) 22 (j - 1) (x.1 22 j)) 23 (j - 1) (x.1 23 j), ⟨by omega, ((i1.tr (sm_d (by decide) (by decide))).tr (sm_d (by decide) (by decide))).tr (sm_d (by decide) (by decide)), i2, fun i => ?_, fun i => ?_, fun i => ?_⟩, ?_⟩
      · show (if i = j - 1 then x.1 21 j else x.1 21 i) = _
        by_cases c : i = j - 1
        · rw [if_pos c, if_pos (by omega), i3, if_neg (by omega), show i + 1 = j by omega]
        · rw [if_neg c, i3]
          by_cases c2 : i + 1 < j
          · rw [if_pos c2, if_pos (by omega)]
          · rw [if_neg c2, if_neg (by omega)]
      · show (if i = j - 1 then x.1 22 j else x.1 22 i) = _
        by_cases c : i = j - 1
        · rw [if_pos c, if_pos (by omega), i4, if_neg (by omega), show i + 1 = j by omega]
        · rw [if_neg c, i4]
          by_cases c2 : i + 1 < j
          · rw [if_pos c2, if_pos (by omega)]
          · rw [if_neg c2, if_neg (by omega)]
      · show (if i = j - 1 then x.1 23 j else x.1 23 i) = _
        by_cases c : i = j - 1
        · rw [if_pos c, if_pos (by omega), i5, if_neg (by omega), show i + 1 = j by omega]
        · rw [if_neg c, i5]
          by_cases c2 : i + 1 < j
          · rw [if_pos c2, if_pos (by omega)]
          · rw [if_neg c2, if_neg (by omega)]
      · rw [fX1_forgetFirst_L2, if_pos ((lt_num (b := 60) (by omega) (by decide)).mpr hj), hs1, if_pos q1, if_pos q2, if_pos q1, if_pos q2, if_pos q1, if_pos q2, ix_nI (show j < 2 ^ 31 by omega), ix_nI (show j - 1 < 2 ^ 31 by omega), nI_1]
        rfl
  · have hlt : nI nd < 60 := (lt_num (b := 60) (by omega) (by decide)).mpr (by omega)
    have e1 : rm nd = nd := if_neg hc
    have e2 : ro nd = 0 := if_neg hc
    refine ⟨wI (wI (wI (wI s 21 nd a1) 22 nd a2) 23 nd a3) 20 0 (nI (nd + 1)), ?_, ?_⟩
    · rw [← rem_app (s := s) (show nd < 60 by omega) h]
      rw [← h] at hlt
      rw [if_pos hlt, if_pos hlt]
    · unfold Rem
      rw [e1, e2]
      exact ⟨((((sm_d (by decide) (by decide))).tr (sm_d (by decide) (by decide))).tr (sm_d (by decide) (by decide))).tr (sm_d (by decide) (by decide)), rfl, fun j hj => rfl, fun j hj => rfl, fun j hj => rfl⟩
theorem rem51 {m : Nat} (hm : m < 60) (h : s.1 68 32 = nI m) (y : Int32) (κ : Mem → Option (Unit × Mem)) : fX12_remembers_L51 κ y FU 0 s = κ (wF s 87 (fun i => if 8 * m ≤ i ∧ i < 8 * m + 7 then s.1 79 (i - 8 * m) else s.1 87 i)) := by
  have key := lp0 (fun k j => fX12_remembers_L51 κ y k (nI j) (wF s 87 (fun i => if 8 * m ≤ i ∧ i < 8 * m + j then s.1 79 (i - 8 * m) else s.1 87 i))) (κ (wF s 87 (fun i => if 8 * m ≤ i ∧ i < 8 * m + 7 then s.1 79 (i - 8 * m) else s.1 87 i))) 7 ?_ ?_ (by omega)
  · rw [← key]
    show _ = fX12_remembers_L51 κ y FU (nI 0) (wF s 87 (fun i => if 8 * m ≤ i ∧ i < 8 * m + 0 then s.1 79 (i - 8 * m) else s.1 87 i))
    have e : (fun i => if 8 * m ≤ i ∧ i < 8 * m + 0 then s.1 79 (i - 8 * m) else s.1 87 i) = s.1 87 := by
      funext b
      rw [if_neg (by omega)]
    rw [e, wF_self]
    rfl
  · intro j k hj
    show fX12_remembers_L51 κ y (k + 1) (nI j) _ = fX12_remembers_L51 κ y k (nI (j + 1)) _
    have h32 : ∀ F, (wF s 87 F).1 68 32 = nI m := fun F => h
    have h79 : ∀ F, (wF s 87 F).1 79 = s.1 79 := fun F => rfl
    have e8 : (8 : Int32) * nI m + nI j = nI (8 * m + j) := by rw [show (8 : Int32) = nI 8 from rfl, pk_mul, nI_add]
    rw [fX12_remembers_L51, if_pos ((lt_num (b := 7) (by omega) (by decide)).mpr hj), if_pos (inb_ok (by omega) (by decide)), h32, e8, if_pos (inb_ok (by omega) (by decide)), ix_nI (by omega), ix_nI (by omega), h79, nI_1, wI_wF]
    congr 2
    funext b
    by_cases hb : b = 8 * m + j
    · rw [if_pos hb, if_pos (by omega), hb, Nat.add_sub_cancel_left]
    · rw [if_neg hb]
      by_cases h2 : 8 * m ≤ b ∧ b < 8 * m + j
      · rw [if_pos h2, if_pos (by omega)]
      · rw [if_neg h2, if_neg (by omega)]
  · intro k
    show fX12_remembers_L51 κ y (k + 1) (nI 7) _ = _
    rw [fX12_remembers_L51, if_neg (by decide)]
theorem rem11 (y : Int32) (κ : Mem → Option (Unit × Mem)) : fX12_remembers_L11 κ y FU 0 s = κ (wF s 87 (fun i => if i < 472 then s.1 87 (i + 8) else s.1 87 i)) := by
  have key := lp0 (fun k j => fX12_remembers_L11 κ y k (nI j) (wF s 87 (fun i => if i < j then s.1 87 (i + 8) else s.1 87 i))) (κ (wF s 87 (fun i => if i < 472 then s.1 87 (i + 8) else s.1 87 i))) 472 ?_ ?_ (by omega)
  · rw [← key]
    show _ = fX12_remembers_L11 κ y FU (nI 0) (wF s 87 (fun i => if i < 0 then s.1 87 (i + 8) else s.1 87 i))
    have e : (fun i => if i < 0 then s.1 87 (i + 8) else s.1 87 i) = s.1 87 := by
      funext b
      rw [if_neg (by omega)]
    rw [e, wF_self]
    rfl
  · intro j k hj
    show fX12_remembers_L11 κ y (k + 1) (nI j) _ = fX12_remembers_L11 κ y k (nI (j + 1)) _
    have e8 : nI j + 8 = nI (j + 8) := nI_add j 8
    have hr : (wF s 87 (fun i => if i < j then s.1 87 (i + 8) else s.1 87 i)).1 87 (j + 8) = s.1 87 (j + 8) := if_neg (by omega)
    rw [fX12_remembers_L11, if_pos ((lt_num (b := 472) (by omega) (by decide)).mpr hj), e8, if_pos (inb_ok (by omega) (by decide)), if_pos (inb_ok (by omega) (by decide)), ix_nI (by omega), ix_nI (by omega), hr, nI_1, wI_wF]
    congr 2
    funext b
    by_cases hb : b = j
    · rw [if_pos hb, if_pos (by omega), hb]
    · rw [if_neg hb]
      by_cases h2 : b < j
      · rw [if_pos h2, if_pos (by omega)]
      · rw [if_neg h2, if_neg (by omega)]
  · intro k
    show fX12_remembers_L11 κ y (k + 1) (nI 472) _ = _
    rw [fX12_remembers_L11, if_neg (by decide)]
theorem rem_end {m : Nat} (hm : m < 60) (h : s.1 68 32 = nI m) (a1 : Int32) : (if inb ((8 * (s.1 68 32)) + 7) 480 = true then
      some ((), wI (wI s 87 (ix ((8 * (s.1 68 32)) + 7)) a1) 68 32 (((wI s 87 (ix ((8 * (s.1 68 32)) + 7)) a1).1 68 32) + 1))
      else none) = some ((), wI (wI s 87 (8 * m + 7) a1) 68 32 (nI (m + 1))) := by
  have r1 : ∀ (t : Mem) (j : Nat) (v : Int32), (wI t 87 j v).1 68 32 = t.1 68 32 := fun _ _ _ => rfl
  have e8 : (8 : Int32) * nI m + 7 = nI (8 * m + 7) := by rw [show (8 : Int32) = nI 8 from rfl, show (7 : Int32) = nI 7 from rfl, pk_mul, nI_add]
  simp only [r1, h]
  rw [e8, if_pos (inb_ok (by omega) (by decide)), ix_nI (by omega), nI_1]
/-- the reference remembers -/
def Rmr (s s' : Mem) (nd : Nat) (a : Int32) : Prop := SmX (fun c => c = 87 ∨ c = 1032) s s' ∧ s'.1 68 32 = nI (rm nd + 1) ∧ ∀ j g, j ≤ rm nd → g < 8 → s'.1 87 (8 * j + g) = if j = rm nd then (if g < 7 then s.1 79 g else a) else s.1 87 (8 * (j + ro nd) + g)
theorem remembers_ok (hn : nd ≤ 60) (h : s.1 68 32 = nI nd) (a : Int32) : ∃ s', fX12_remembers a s = some ((), s') ∧ Rmr s s' nd a := by
  unfold fX12_remembers
  by_cases hc : nd = 60
  · subst hc
    rw [if_pos (show s.1 68 32 = 60 from h), rem11]
    have h59 : (wF s 87 (fun i => if i < 472 then s.1 87 (i + 8) else s.1 87 i)).1 68 32 - 1 = nI 59 := by
      show s.1 68 32 - 1 = nI 59
      rw [h]
      decide
    rw [h59, rem51 (m := 59) (by decide) rfl, rem_end (m := 59) (by decide) rfl]
    refine ⟨_, rfl, ((((SmX.wF (by unfold Cr; omega) (by decide) (by decide)).tr (SmX.wI (by unfold Cr; omega) (by omega) (by omega))).tr (SmX.wF (by unfold Cr; omega) (by decide) (by decide))).tr (SmX.wI (by unfold Cr; omega) (by omega) (by omega))).tr (SmX.wI (by unfold Cr; omega) (by omega) (by omega)), rfl, fun j g hj hg => ?_⟩
    have hj' : j ≤ 59 := hj
    show (if 8 * j + g = 8 * 59 + 7 then a else if 8 * 59 ≤ 8 * j + g ∧ 8 * j + g < 8 * 59 + 7 then s.1 79 (8 * j + g - 8 * 59) else if 8 * j + g < 472 then s.1 87 (8 * j + g + 8) else s.1 87 (8 * j + g)) = if j = 59 then (if g < 7 then s.1 79 g else a) else s.1 87 (8 * (j + 1) + g)
    by_cases c : j = 59
    · subst c
      rw [if_pos rfl]
      by_cases c2 : g < 7
      · rw [if_neg (by omega), if_pos (by omega), if_pos c2, Nat.add_sub_cancel_left]
      · rw [if_pos (by omega), if_neg c2]
    · rw [if_neg (by omega), if_neg (by omega), if_pos (by omega), if_neg c, show 8 * j + g + 8 = 8 * (j + 1) + g by omega]
  · have e1 : rm nd = nd := if_neg hc
    have e2 : ro nd = 0 := if_neg hc
    have hne : ¬ s.1 68 32 = 60 := by
      rw [h]
      exact fun z => hc ((eq_num (b := 60) (by omega) (by decide)).mp z)
    have h32 : (wF s 87 (fun i => if 8 * nd ≤ i ∧ i < 8 * nd + 7 then s.1 79 (i - 8 * nd) else s.1 87 i)).1 68 32 = nI nd := h
    rw [if_neg hne, rem51 (show nd < 60 by omega) h, rem_end (show nd < 60 by omega) h32]
    unfold Rmr
    rw [e1, e2]
    refine ⟨_, rfl, ((SmX.wF (by unfold Cr; omega) (by decide) (by decide)).tr (SmX.wI (by unfold Cr; omega) (by omega) (by omega))).tr (SmX.wI (by unfold Cr; omega) (by omega) (by omega)), rfl, fun j g hj hg => ?_⟩
    show (if 8 * j + g = 8 * nd + 7 then a else if 8 * nd ≤ 8 * j + g ∧ 8 * j + g < 8 * nd + 7 then s.1 79 (8 * j + g - 8 * nd) else s.1 87 (8 * j + g)) = if j = nd then (if g < 7 then s.1 79 g else a) else s.1 87 (8 * (j + 0) + g)
    by_cases c : j = nd
    · subst c
      rw [if_pos rfl]
      by_cases c2 : g < 7
      · rw [if_neg (by omega), if_pos (by omega), if_pos c2, Nat.add_sub_cancel_left]
      · rw [if_pos (by omega), if_neg c2]
    · rw [if_neg (by omega), if_neg (by omega), if_neg c]
      rfl
theorem und_cong {k g0 o : Int32} {F F' : Nat → Int32} (h : ∀ i, i < 7 → F i = F' i) {g : Nat} (hg : g < 7) (h2 : k = 2 → ix o < 7 ∧ ix g0 < 7) : und k g0 o F g = und k g0 o F' g := by
  unfold und
  by_cases c : k = 2
  · rw [if_pos c, if_pos c, h _ (h2 c).1, h _ (h2 c).2, h g hg]
  · rw [if_neg c, if_neg c, h g hg]
theorem Gh_new {s2 : Mem} {k gg : Nat} {o : Int32} (gh : Gh s nb n nd) (sts : ∀ g, g < n → StOk nb (s.1 79 g)) (h7 : n ≤ 7) (hk : k < 3) (hgg : gg < n) (ho2 : k = 2 → ∃ h : Nat, h < n ∧ o = nI h ∧ o ≠ nI gg) (ho : k ≠ 2 → StOk nb o)
    (c20 : s2.1 20 0 = nI (rm nd + 1)) (c32 : s2.1 68 32 = nI (rm nd + 1))
    (c21 : ∀ j, j ≤ rm nd → s2.1 21 j = if j = rm nd then nI k else s.1 21 (j + ro nd)) (c22 : ∀ j, j ≤ rm nd → s2.1 22 j = if j = rm nd then nI gg else s.1 22 (j + ro nd)) (c23 : ∀ j, j ≤ rm nd → s2.1 23 j = if j = rm nd then o else s.1 23 (j + ro nd))
    (c87 : ∀ j g, j ≤ rm nd → g < 8 → s2.1 87 (8 * j + g) = if j = rm nd then (if g < 7 then s.1 79 g else nI k) else s.1 87 (8 * (j + ro nd) + g))
    (hu : ∀ g, g < 7 → s.1 79 g = und (nI k) (nI gg) o (s2.1 79) g) : Gh s2 nb n (rm nd + 1) := by
  obtain ⟨h60, g20, g32, gall⟩ := gh
  obtain ⟨hr1, hr2⟩ := rm_ro h60
  refine ⟨by omega, c20, c32, fun j hj => ?_⟩
  by_cases e : j = rm nd
  · have en : nxt s2 (rm nd + 1) j = s2.1 79 := by
      funext g
      unfold nxt
      rw [if_neg (by omega)]
    rw [c21 j (by omega), c22 j (by omega), c23 j (by omega), c87 j 7 (by omega) (by decide), if_pos e, if_pos e, if_pos e, if_pos e, if_neg (by decide), en]
    refine ⟨rfl, ⟨k, hk, rfl⟩, ⟨gg, hgg, rfl⟩, fun c => ?_, fun c => ?_, fun g hg => ?_, fun g hg => ?_⟩
    · obtain ⟨h, hh, e1, e2⟩ := ho2 ((nI_eq (b := 2) (by omega) (by decide)).mp c)
      exact ⟨h, hh, e1, e2⟩
    · exact ho (fun z => c (by rw [z]; rfl))
    · rw [c87 j g (by omega) (by omega), if_pos e, if_pos hg]
      exact hu g hg
    · rw [c87 j g (by omega) (by omega), if_pos e, if_pos (by omega)]
      exact sts g hg
  · obtain ⟨a1, a2, a3, a4, a5, a6, a7⟩ := gall (j + ro nd) (by omega)
    rw [c21 j (by omega), c22 j (by omega), c23 j (by omega), c87 j 7 (by omega) (by decide), if_neg e, if_neg e, if_neg e, if_neg e]
    refine ⟨a1, a2, a3, a4, a5, fun g hg => ?_, fun g hg => ?_⟩
    · rw [c87 j g (by omega) (by omega), if_neg e, a6 g hg]
      refine und_cong (fun i hi => ?_) hg (fun c => ?_)
      · unfold nxt
        rw [if_pos (show j + 1 < rm nd + 1 by omega), c87 (j + 1) i (by omega) (by omega)]
        by_cases c2 : j + 1 = rm nd
        · rw [if_neg (by omega), if_pos c2, if_pos hi]
        · rw [if_pos (by omega), if_neg c2, show j + ro nd + 1 = j + 1 + ro nd by omega]
      · obtain ⟨h, hh, e1, _⟩ := a4 c
        obtain ⟨g', hg', e2⟩ := a3
        rw [e1, e2, ix_nI (by omega), ix_nI (by omega)]
        omega
    · rw [c87 j g (by omega) (by omega), if_neg e]
      exact a7 g hg
/-- who sits where and the deeds change -/
def Xs (a : Nat) : Prop := a = 12 ∨ a = 16 ∨ (20 ≤ a ∧ a ≤ 23) ∨ a = 79 ∨ a = 87 ∨ a = 1032
theorem Inv_sit {s2 : Mem} {nd' : Nat} (hI : Inv s) (gd : Gd s nb n) (ge : Ge s nb n) (hS : SmX Xs s s2) (h16 : s2.1 16 = s2.1 79) (hst : ∀ g, g < n → StOk nb (s2.1 79 g)) (h12 : ∀ b, b < nb → s2.1 12 b = nI (msk (fun g => decide (s2.1 79 g = nI b)) n)) (hout : ∀ g, n ≤ g → s2.1 79 g = s.1 79 g) (gh : Gh s2 nb n nd') : Inv s2 := by
  obtain ⟨nb', n', nq, nm, nd, ga, gb, gc, gd', ge', gf, gg, gh', gi, gj⟩ := hI
  have e1 : nb' = nb := (nI_eq (by have := gd'.lb; omega) (by have := gd.lb; omega)).mp (gd'.b68.symm.trans gd.b68)
  have e2 : n' = n := (nI_eq (by have := gd'.ln; omega) (by have := gd.ln; omega)).mp (gd'.g68.symm.trans gd.g68)
  subst e1
  subst e2
  unfold Xs at hS
  refine ⟨nb', n', nq, nm, nd', Ga_keep hS (fun a ha => by omega) ga, Gb_keep hS (fun a ha => by omega) gb, Gc_keep hS (fun a ha => by omega) gc, ?_, ?_, Gf_keep hS (fun a ha => by omega) gf, Gg_keep hS (fun a ha => by omega) gg, gh, ?_, Gj_keep hS (fun a ha => by omega) gj⟩
  · obtain ⟨d1, d2, d3, d4, d5, d6, d7, d8, d9, d10, d11, d12, d13, d14, d15, d16, d17, d18, d19, d20, d21⟩ := gd
    unfold Gd
    rw [hS.1 11 (by unfold Cr; omega) (by omega), hS.1 75 (by unfold Cr; omega) (by omega), hS.1 13 (by unfold Cr; omega) (by omega), hS.1 76 (by unfold Cr; omega) (by omega), hS.1 14 (by unfold Cr; omega) (by omega), hS.1 77 (by unfold Cr; omega) (by omega), hS.1 15 (by unfold Cr; omega) (by omega), hS.1 78 (by unfold Cr; omega) (by omega), hS.2.1 10 (by unfold Cf; omega) (by omega), hS.2.1 12 (by unfold Cf; omega) (by omega), hS.2.1 17 (by unfold Cf; omega) (by omega), hS.2.1 18 (by unfold Cf; omega) (by omega), hS.2.2.1 0 (by omega), hS.2.2.1 1 (by omega), hS.2.2.1 2 (by omega), hS.2.2.1 3 (by omega)]
    exact ⟨d1, d2, d3, d4, d5, d6, d7, d8, d9, d10, d11, d12, d13, h16, d15, d16, d17, d18, d19, d20, hst⟩
  · obtain ⟨a1, a2, a3⟩ := ge
    refine ⟨h12, ?_, ?_⟩
    · rw [hS.1 17 (by unfold Cr; omega) (by omega), hS.1 75 (by unfold Cr; omega) (by omega), hS.1 76 (by unfold Cr; omega) (by omega), hS.1 77 (by unfold Cr; omega) (by omega)]
      exact a2
    · rw [hS.2.2.1 12 (by omega), hS.1 76 (by unfold Cr; omega) (by omega)]
      exact a3
  · intro k hk
    obtain ⟨a1, a2, a3⟩ := gi k hk
    rw [hS.1 25 (by unfold Cr; omega) (by omega), hS.1 88 (by unfold Cr; omega) (by omega), hS.1 26 (by unfold Cr; omega) (by omega), hS.1 89 (by unfold Cr; omega) (by omega)]
    refine ⟨a1, a2, fun c => ⟨(a3 c).1, fun g h1 h2 => ?_⟩⟩
    rw [hout g h1]
    exact (a3 c).2 g h1 h2
end DEE
