-- the reference reads a text as a barge; fault
section FL2
variable {s x : Mem} {t m : Nat} {c : Nat → Int32}
theorem rbench_no (h : TxR x t m c) (ht : t < 4) (hm : m ≤ 60) {j : Nat} (hj : j < m) (hr : RefP s x c j) (hn : 0 < cntN (isKl c) j ∨ cntN (isBl c) j = 8) : fX12_readsBench (nI t) x = some (0, x) := by
  obtain ⟨r0, r1, r2, r3, _⟩ := hr
  have hc := cnt60 (isKl c) (show j ≤ m by omega) hm
  unfold fX12_readsBench
  rw [r1, byteR h ht hm hj, bnd_some, r3, r2]
  by_cases e : 0 < cntN (isKl c) j
  · rw [if_pos (show (0 : Int32) < nI (cntN (isKl c) j) from nI_lt (a := 0) e (by omega))]
  · rw [if_neg (show ¬ (0 : Int32) < nI (cntN (isKl c) j) from nI_nlt (a := 0) (by omega) (by omega)), hn.resolve_left e, if_pos (show nI 8 = 8 from rfl)]
theorem rbench_m (h : TxR x t m c) (ht : t < 4) (hm : m ≤ 60) {j : Nat} (hj : j < m) (hr : RefP s x c j) (hn : cntN (isKl c) j = 0) (hb : cntN (isBl c) j < 8) (hc : c j = 109) : ∃ x', fX12_readsBench (nI t) x = some (1, x') ∧ RefP s x' c (j + 1) := by
  obtain ⟨r0, r1, r2, r3, r4, r5, r6, r7⟩ := hr
  have hbl : isBl c j = true := decide_eq_true (Or.inr (Or.inr hc))
  have hkl := bl_kl hbl
  have q1 : ∀ (y : Mem) (v : Int32), (wI y 68 21 v).1 68 23 = y.1 68 23 := fun _ _ => rfl
  have q2 : ∀ (y : Mem) (i : Nat) (v : Int32), (wI y 81 i v).1 68 23 = y.1 68 23 := fun _ _ _ => rfl
  refine ⟨wI (wI (wI x 68 21 (nI (j + 1))) 81 (cntN (isBl c) j) 0) 68 23 (nI (cntN (isBl c) j + 1)), ?_, ((r0.tr (sm68 (by decide) (by decide))).tr (sm81 (by decide) (by decide))).tr (sm68 (by decide) (by decide)), rfl, ?_, ?_, ?_, ?_, ?_, ?_⟩
  · unfold fX12_readsBench
    simp only [r1]
    rw [byteR h ht hm hj, bnd_some, r3, hn, if_neg (show ¬ (0 : Int32) < nI 0 by decide), if_neg (show ¬ x.1 68 23 = 8 from fun z => by
      rw [r2] at z
      have := (eq_num (b := 8) (by omega) (by decide)).mp z
      omega), if_pos hc, if_pos hc]
    simp only [q1, q2, r1, r2]
    rw [if_pos (inb_ok hb (by decide)), ix_nI (by omega), nI_1, nI_1]
  · rw [cnt_t hbl]
    rfl
  · rw [cnt_f hkl]
    exact r3
  · rw [gX_t hbl, wI_ne (by decide), wI_eq, wI_ne (by decide), r4]
    unfold xv
    rw [if_pos hc]
  · rw [gX_f hkl]
    exact r5
  · rw [gX_f hkl]
    exact r6
  · rw [gX_f hkl]
    exact r7
theorem rbench_f (h : TxR x t m c) (ht : t < 4) (hm : m ≤ 60) {j : Nat} (hj : j < m) (hr : RefP s x c j) (hn : cntN (isKl c) j = 0) (hb : cntN (isBl c) j < 8) (hc : ¬ c j = 109) (hd : j + 1 < m → ¬ dgt (c (j + 1)) 1 9) : ∃ x', fX12_readsBench (nI t) x = some (0, x') ∧ Sm s x' ∧ x'.1 68 21 = nI (j + 1) := by
  obtain ⟨r0, r1, r2, r3, r4, r5, r6, r7⟩ := hr
  obtain ⟨v, hv⟩ := figR_f (x := wI x 68 21 (nI (j + 1))) (h.sm (sm68 (by decide) (by decide))) ht hm (j := j + 1) (lo := 1) (hi := 9) (by omega) rfl (by decide) (by decide) hd
  have hv' : fX12_figure (nI t) 1 9 (wI x 68 21 (nI (j + 1))) = some (0, wI (wI (wI x 68 21 (nI (j + 1))) 68 22 v) 68 21 (nI (j + 1))) := hv
  refine ⟨wI (wI (wI x 68 21 (nI (j + 1))) 68 22 v) 68 21 (nI (j + 1)), ?_, ((r0.tr (sm68 (a := 21) (by decide) (by decide))).tr (sm68 (a := 22) (by decide) (by decide))).tr (sm68 (a := 21) (by decide) (by decide)), rfl⟩
  unfold fX12_readsBench
  simp only [r1]
  rw [byteR h ht hm hj, bnd_some, r3, hn, if_neg (show ¬ (0 : Int32) < nI 0 by decide), if_neg (show ¬ x.1 68 23 = 8 from fun z => by
    rw [r2] at z
    have := (eq_num (b := 8) (by omega) (by decide)).mp z
    omega), if_neg hc]
  simp only [r1]
  rw [nI_1, hv', bnd_some, if_pos rfl]
theorem rbench_t (h : TxR x t m c) (ht : t < 4) (hm : m ≤ 60) {j : Nat} (hj : j + 1 < m) (hr : RefP s x c j) (hn : cntN (isKl c) j = 0) (hb : cntN (isBl c) j < 8) (hbl : isBl c j = true) (hc : ¬ c j = 109) (hd : dgt (c (j + 1)) 1 9) : ∃ x', fX12_readsBench (nI t) x = some (1, x') ∧ RefP s x' c (j + 2) := by
  obtain ⟨r0, r1, r2, r3, r4, r5, r6, r7⟩ := hr
  have hkl := bl_kl hbl
  obtain ⟨d1, d2⟩ := dg_no (by decide) hd
  have hv := figR_t (x := wI x 68 21 (nI (j + 1))) (h.sm (sm68 (by decide) (by decide))) ht hm (j := j + 1) (lo := 1) (hi := 9) hj rfl (by decide) (by decide) hd
  have hv' : fX12_figure (nI t) 1 9 (wI x 68 21 (nI (j + 1))) = some (1, wI (wI (wI x 68 21 (nI (j + 1))) 68 22 (c (j + 1) - 48)) 68 21 (nI (j + 2))) := hv
  have q2 : ∀ (y : Mem) (i : Nat) (v : Int32), (wI y 81 i v).1 68 23 = y.1 68 23 := fun _ _ _ => rfl
  have q3 : (wI (wI (wI x 68 21 (nI (j + 1))) 68 22 (c (j + 1) - 48)) 68 21 (nI (j + 2))).1 68 23 = nI (cntN (isBl c) j) := r2
  have q4 : (wI (wI (wI x 68 21 (nI (j + 1))) 68 22 (c (j + 1) - 48)) 68 21 (nI (j + 2))).1 68 22 = c (j + 1) - 48 := rfl
  have hxv : xv c j = if c j = 108 then 0 - (c (j + 1) - 48) else c (j + 1) - 48 := by
    unfold xv
    rw [if_neg hc]
  refine ⟨wI (wI (wI (wI (wI x 68 21 (nI (j + 1))) 68 22 (c (j + 1) - 48)) 68 21 (nI (j + 2))) 81 (cntN (isBl c) j) (xv c j)) 68 23 (nI (cntN (isBl c) j + 1)), ?_, ((((r0.tr (sm68 (by decide) (by decide))).tr (sm68 (by decide) (by decide))).tr (sm68 (by decide) (by decide))).tr (sm81 (by decide) (by decide))).tr (sm68 (by decide) (by decide)), rfl, ?_, ?_, ?_, ?_, ?_, ?_⟩
  · unfold fX12_readsBench
    simp only [r1]
    rw [byteR h ht hm (by omega), bnd_some, r3, hn, if_neg (show ¬ (0 : Int32) < nI 0 by decide), if_neg (show ¬ x.1 68 23 = 8 from fun z => by
      rw [r2] at z
      have := (eq_num (b := 8) (by omega) (by decide)).mp z
      omega), if_neg hc]
    simp only [r1]
    rw [nI_1, hv', bnd_some, if_neg one_ne, if_neg hc]
    simp only [q2, q3, q4]
    rw [if_pos (inb_ok hb (by decide)), if_pos (inb_ok hb (by decide)), ix_nI (by omega), nI_1, hxv]
    by_cases e : c j = 108
    · rw [if_pos e, if_pos e]
    · rw [if_neg e, if_neg e]
  · rw [cnt_f d1, cnt_t hbl]
    rfl
  · rw [cnt_f d2, cnt_f hkl]
    exact r3
  · rw [gX_f d1, gX_t hbl, wI_ne (by decide), wI_eq, wI_ne (by decide), wI_ne (by decide), wI_ne (by decide), r4]
  · rw [gX_f d2, gX_f hkl]
    exact r5
  · rw [gX_f d2, gX_f hkl]
    exact r6
  · rw [gX_f d2, gX_f hkl]
    exact r7
theorem rguest_no (h : TxR x t m c) (ht : t < 4) (hm : m ≤ 60) {j : Nat} (hj : j < m) (hr : RefP s x c j) (hn : knd (c j) = -9 ∨ cntN (isBl c) j = 0 ∨ cntN (isKl c) j = 7) : fX12_readsGuest (nI t) x = some (0, x) := by
  obtain ⟨r0, r1, r2, r3, _⟩ := hr
  have hc := cnt60 (isBl c) (show j ≤ m by omega) hm
  unfold fX12_readsGuest
  rw [r1, byteR h ht hm hj, bnd_some, kndR, bnd_some, r3, r2]
  by_cases e : knd (c j) = -9
  · rw [if_pos e]
  · rw [if_neg e]
    by_cases e2 : cntN (isBl c) j = 0
    · rw [e2, if_pos (show nI 0 = 0 from rfl)]
    · rw [if_neg (fun z => e2 ((eq_num (b := 0) (by omega) (by decide)).mp z)), (hn.resolve_left e).resolve_left e2, if_pos (show nI 7 = 7 from rfl)]
theorem rguest_go (h : TxR x t m c) (ht : t < 4) (hm : m ≤ 60) {j : Nat} (hj : j < m) (hr : RefP s x c j) (hk : ¬ knd (c j) = -9) (hb : cntN (isBl c) j ≠ 0) (hn : cntN (isKl c) j < 7) : fX12_readsGuest (nI t) x = bnd (fX12_figure (nI t) 1 9 (wI x 68 21 (nI (j + 1)))) (fun r8 s9 =>
      if r8 = 0 then
        some (0, s9)
      else
        if inb (s9.1 68 24) 7 = true then
        bnd (fX12_figure (nI t) 0 1 (wI s9 83 (ix (s9.1 68 24)) (s9.1 68 22))) (fun r12 s13 =>
        if r12 = 0 then
          some (0, s13)
        else
          if inb (s13.1 68 24) 7 = true then
          if inb ((wI s13 84 (ix (s13.1 68 24)) (s13.1 68 22)).1 68 24) 7 = true then
          some (1, wI (wI (wI s13 84 (ix (s13.1 68 24)) (s13.1 68 22)) 82 (ix ((wI s13 84 (ix (s13.1 68 24)) (s13.1 68 22)).1 68 24)) (knd (c j))) 68 24 (((wI (wI s13 84 (ix (s13.1 68 24)) (s13.1 68 22)) 82 (ix ((wI s13 84 (ix (s13.1 68 24)) (s13.1 68 22)).1 68 24)) (knd (c j))).1 68 24) + 1))
          else none
          else none)
        else none) := by
  obtain ⟨r0, r1, r2, r3, _⟩ := hr
  have hc := cnt60 (isBl c) (show j ≤ m by omega) hm
  unfold fX12_readsGuest
  rw [r1, byteR h ht hm hj, bnd_some, kndR, bnd_some, if_neg hk, if_neg (show ¬ x.1 68 23 = 0 from fun z => by
    rw [r2] at z
    exact hb ((eq_num (b := 0) (by omega) (by decide)).mp z)), if_neg (show ¬ x.1 68 24 = 7 from fun z => by
    rw [r3] at z
    have := (eq_num (b := 7) (by omega) (by decide)).mp z
    omega), r1, nI_1]
theorem rguest_f1 (h : TxR x t m c) (ht : t < 4) (hm : m ≤ 60) {j : Nat} (hj : j < m) (hr : RefP s x c j) (hk : ¬ knd (c j) = -9) (hb : cntN (isBl c) j ≠ 0) (hn : cntN (isKl c) j < 7) (hd : j + 1 < m → ¬ dgt (c (j + 1)) 1 9) : ∃ x', fX12_readsGuest (nI t) x = some (0, x') ∧ Sm s x' ∧ x'.1 68 21 = nI (j + 1) := by
  have r0 := hr.1
  obtain ⟨v, hv⟩ := figR_f (x := wI x 68 21 (nI (j + 1))) (h.sm (sm68 (by decide) (by decide))) ht hm (j := j + 1) (lo := 1) (hi := 9) (by omega) rfl (by decide) (by decide) hd
  have hv' : fX12_figure (nI t) 1 9 (wI x 68 21 (nI (j + 1))) = some (0, wI (wI (wI x 68 21 (nI (j + 1))) 68 22 v) 68 21 (nI (j + 1))) := hv
  refine ⟨wI (wI (wI x 68 21 (nI (j + 1))) 68 22 v) 68 21 (nI (j + 1)), ?_, ((r0.tr (sm68 (a := 21) (by decide) (by decide))).tr (sm68 (a := 22) (by decide) (by decide))).tr (sm68 (a := 21) (by decide) (by decide)), rfl⟩
  rw [rguest_go h ht hm hj hr hk hb hn, hv', bnd_some, if_pos rfl]
theorem rguest_2 (h : TxR x t m c) (ht : t < 4) (hm : m ≤ 60) {j : Nat} (hj : j + 1 < m) (hr : RefP s x c j) (hk : ¬ knd (c j) = -9) (hb : cntN (isBl c) j ≠ 0) (hn : cntN (isKl c) j < 7) (hd : dgt (c (j + 1)) 1 9) : ∃ y, Sm s y ∧ y.1 68 21 = nI (j + 2) ∧ y.1 68 23 = nI (cntN (isBl c) j) ∧ y.1 68 24 = nI (cntN (isKl c) j) ∧ y.1 81 = x.1 81 ∧ y.1 82 = x.1 82 ∧ y.1 83 = upd (x.1 83) (cntN (isKl c) j) (wv c j) ∧ y.1 84 = x.1 84 ∧ fX12_readsGuest (nI t) x = bnd (fX12_figure (nI t) 0 1 y) (fun r12 s13 =>
        if r12 = 0 then
          some (0, s13)
        else
          if inb (s13.1 68 24) 7 = true then
          if inb ((wI s13 84 (ix (s13.1 68 24)) (s13.1 68 22)).1 68 24) 7 = true then
          some (1, wI (wI (wI s13 84 (ix (s13.1 68 24)) (s13.1 68 22)) 82 (ix ((wI s13 84 (ix (s13.1 68 24)) (s13.1 68 22)).1 68 24)) (knd (c j))) 68 24 (((wI (wI s13 84 (ix (s13.1 68 24)) (s13.1 68 22)) 82 (ix ((wI s13 84 (ix (s13.1 68 24)) (s13.1 68 22)).1 68 24)) (knd (c j))).1 68 24) + 1))
          else none
          else none) := by
  obtain ⟨r0, r1, r2, r3, r4, r5, r6, r7⟩ := id hr
  have hv := figR_t (x := wI x 68 21 (nI (j + 1))) (h.sm (sm68 (by decide) (by decide))) ht hm (j := j + 1) (lo := 1) (hi := 9) hj rfl (by decide) (by decide) hd
  have hv' : fX12_figure (nI t) 1 9 (wI x 68 21 (nI (j + 1))) = some (1, wI (wI (wI x 68 21 (nI (j + 1))) 68 22 (c (j + 1) - 48)) 68 21 (nI (j + 2))) := hv
  have q3 : (wI (wI (wI x 68 21 (nI (j + 1))) 68 22 (c (j + 1) - 48)) 68 21 (nI (j + 2))).1 68 24 = nI (cntN (isKl c) j) := r3
  have q4 : (wI (wI (wI x 68 21 (nI (j + 1))) 68 22 (c (j + 1) - 48)) 68 21 (nI (j + 2))).1 68 22 = c (j + 1) - 48 := rfl
  refine ⟨wI (wI (wI (wI x 68 21 (nI (j + 1))) 68 22 (c (j + 1) - 48)) 68 21 (nI (j + 2))) 83 (cntN (isKl c) j) (wv c j), (((r0.tr (sm68 (by decide) (by decide))).tr (sm68 (by decide) (by decide))).tr (sm68 (by decide) (by decide))).tr (sm81 (by decide) (by decide)), rfl, r2, r3, rfl, rfl, ?_, rfl, ?_⟩
  · rw [wI_eq, wI_ne (by decide), wI_ne (by decide), wI_ne (by decide)]
  · rw [rguest_go h ht hm (by omega) hr hk hb hn, hv', bnd_some, if_neg one_ne, q3, q4, if_pos (inb_ok hn (by decide)), ix_nI (by omega)]
    rfl
theorem rguest_f2 (h : TxR x t m c) (ht : t < 4) (hm : m ≤ 60) {j : Nat} (hj : j + 1 < m) (hr : RefP s x c j) (hk : ¬ knd (c j) = -9) (hb : cntN (isBl c) j ≠ 0) (hn : cntN (isKl c) j < 7) (hd : dgt (c (j + 1)) 1 9) (hd2 : j + 2 < m → ¬ dgt (c (j + 2)) 0 1) : ∃ x', fX12_readsGuest (nI t) x = some (0, x') ∧ Sm s x' ∧ x'.1 68 21 = nI (j + 2) := by
  obtain ⟨y, y0, y1, y2, y3, y4, y5, y6, y7, e⟩ := rguest_2 h ht hm hj hr hk hb hn hd
  have ts : TxR y t m c := by
    refine ⟨?_, ?_⟩
    · rw [y0.1 73 (by unfold Cr; omega) id, ← hr.1.1 73 (by unfold Cr; omega) id]
      exact h.1
    · rw [y0.1 74 (by unfold Cr; omega) id, ← hr.1.1 74 (by unfold Cr; omega) id]
      exact h.2
  obtain ⟨v, hv⟩ := figR_f ts ht hm (j := j + 2) (lo := 0) (hi := 1) (by omega) y1 (by decide) (by decide) hd2
  have hv' : fX12_figure (nI t) 0 1 y = some (0, wI (wI y 68 22 v) 68 21 (nI (j + 2))) := hv
  refine ⟨wI (wI y 68 22 v) 68 21 (nI (j + 2)), ?_, (y0.tr (sm68 (a := 22) (by decide) (by decide))).tr (sm68 (a := 21) (by decide) (by decide)), rfl⟩
  rw [e, hv', bnd_some, if_pos rfl]
theorem rguest_t (h : TxR x t m c) (ht : t < 4) (hm : m ≤ 60) {j : Nat} (hj : j + 2 < m) (hr : RefP s x c j) (hk : ¬ knd (c j) = -9) (hbl : isBl c j = false) (hb : cntN (isBl c) j ≠ 0) (hn : cntN (isKl c) j < 7) (hd : dgt (c (j + 1)) 1 9) (hd2 : dgt (c (j + 2)) 0 1) : ∃ x', fX12_readsGuest (nI t) x = some (1, x') ∧ RefP s x' c (j + 3) := by
  obtain ⟨y, y0, y1, y2, y3, y4, y5, y6, y7, e⟩ := rguest_2 h ht hm (by omega) hr hk hb hn hd
  obtain ⟨r0, r1, r2, r3, r4, r5, r6, r7⟩ := id hr
  have hkl : isKl c j = true := decide_eq_true hk
  obtain ⟨d1, d2⟩ := dg_no (by decide) hd
  obtain ⟨d3, d4⟩ := dg_no (i := j + 2) (by decide) hd2
  have ts : TxR y t m c := by
    refine ⟨?_, ?_⟩
    · rw [y0.1 73 (by unfold Cr; omega) id, ← hr.1.1 73 (by unfold Cr; omega) id]
      exact h.1
    · rw [y0.1 74 (by unfold Cr; omega) id, ← hr.1.1 74 (by unfold Cr; omega) id]
      exact h.2
  have hv := figR_t ts ht hm (j := j + 2) (lo := 0) (hi := 1) hj y1 (by decide) (by decide) hd2
  have hv' : fX12_figure (nI t) 0 1 y = some (1, wI (wI y 68 22 (nv c j)) 68 21 (nI (j + 3))) := hv
  have q1 : ∀ (z : Mem) (i : Nat) (v : Int32), (wI z 84 i v).1 68 24 = z.1 68 24 := fun _ _ _ => rfl
  have q2 : ∀ (z : Mem) (i : Nat) (v : Int32), (wI z 82 i v).1 68 24 = z.1 68 24 := fun _ _ _ => rfl
  have q3 : (wI (wI y 68 22 (nv c j)) 68 21 (nI (j + 3))).1 68 24 = nI (cntN (isKl c) j) := y3
  have q4 : (wI (wI y 68 22 (nv c j)) 68 21 (nI (j + 3))).1 68 22 = nv c j := rfl
  refine ⟨wI (wI (wI (wI (wI y 68 22 (nv c j)) 68 21 (nI (j + 3))) 84 (cntN (isKl c) j) (nv c j)) 82 (cntN (isKl c) j) (kv c j)) 68 24 (nI (cntN (isKl c) j + 1)), ?_, ((((y0.tr (sm68 (by decide) (by decide))).tr (sm68 (by decide) (by decide))).tr (sm81 (by decide) (by decide))).tr (sm81 (by decide) (by decide))).tr (sm68 (by decide) (by decide)), rfl, ?_, ?_, ?_, ?_, ?_, ?_⟩
  · rw [e, hv', bnd_some, if_neg one_ne]
    simp only [q1, q2, q3, q4]
    rw [if_pos (inb_ok hn (by decide)), if_pos (inb_ok hn (by decide)), ix_nI (by omega), nI_1]
    rfl
  · rw [cnt_f d3, cnt_f d1, cnt_f hbl]
    exact y2
  · rw [cnt_f d4, cnt_f d2, cnt_t hkl]
    rfl
  · rw [gX_f d3, gX_f d1, gX_f hbl, ← r4, ← y4]
    rfl
  · rw [gX_f d4, gX_f d2, gX_t hkl, ← r5, ← y5, wI_ne (by decide), wI_eq]
    rfl
  · rw [gX_f d4, gX_f d2, gX_t hkl, ← r6, ← y6]
    rfl
  · rw [gX_f d4, gX_f d2, gX_t hkl, ← r7, ← y7, wI_ne (by decide), wI_ne (by decide), wI_eq]
    rfl
/-- behind the text, where the reference ends -/
def κR (t : Nat) (s21 : Mem) : Option (Int32 × Mem) := if (s21.1 68 23) = 0 then
    if inb (nI t) 4 = true then
    some (s21.1 73 (ix (nI t)), s21)
    else none
  else
    some ((-9), s21)
theorem cf0 {j due : Nat} (h : due ≠ 0) : cf c m 0 j due = nI m := by
  rw [cf, if_neg h]
  split <;> rfl
theorem cfR (hs : TxR s t m c) (ht : t < 4) (hm : m ≤ 60) : ∀ D d j k x, d ≤ D → j + d = m → d < k → RefP s x c j → cntN (isBl c) j ≤ 8 → cntN (isKl c) j ≤ 7 → ∃ x', fX12_faultOf_L15 (κR t) (nI t) k x = some (cf c m d j 0, x') ∧ Sm s x' ∧ (cf c m d j 0 = -9 → RefP s x' c m ∧ cntN (isBl c) m ≤ 8 ∧ cntN (isKl c) m ≤ 7 ∧ cntN (isBl c) m ≠ 0) := by
  intro D
  induction D with
  | zero =>
    intro d j k x hd h1 h2 hr hb8 hk7
    have hd0 : d = 0 := by omega
    subst hd0
    have ej : j = m := by omega
    subst ej
    obtain ⟨k', rfl⟩ : ∃ k', k = k' + 1 := ⟨k - 1, by omega⟩
    have hin : inb (nI t) 4 = true := inb_ok ht (by decide)
    have hx := hs.sm hr.1
    refine ⟨x, ?_, hr.1, fun z => ⟨hr, hb8, hk7, ?_⟩⟩
    · rw [fX12_faultOf_L15, if_pos hin, ix_nI (by omega), hx.1, hr.2.1, if_neg (nI_nlt (Nat.le_refl j) (by omega)), cf, if_pos rfl]
      unfold κR
      rw [hr.2.2.1]
      by_cases e : cntN (isBl c) j = 0
      · rw [if_pos e, e, if_pos (show nI 0 = 0 from rfl), if_pos hin, ix_nI (by omega), hx.1]
      · rw [if_neg e, if_neg (fun z => e ((eq_num (b := 0) (by omega) (by decide)).mp z))]
    · intro e
      rw [cf, if_pos e] at z
      exact nI_m9 (by omega) z
  | succ D ih =>
    intro d j k x hd h1 h2 hr hb8 hk7
    cases d with
    | zero => exact ih 0 j k x (by omega) h1 h2 hr hb8 hk7
    | succ d =>
      obtain ⟨k', rfl⟩ : ∃ k', k = k' + 1 := ⟨k - 1, by omega⟩
      have hin : inb (nI t) 4 = true := inb_ok ht (by decide)
      have hx := hs.sm hr.1
      have hnj : ∀ (i : Nat), i ≤ m → ¬ nI i = -9 := fun i hi => nI_m9 (by omega)
      rw [fX12_faultOf_L15, if_pos hin, ix_nI (show t < 2 ^ 31 by omega), hx.1, hr.2.1, if_pos (nI_lt (by omega) (by omega)), byteR hx ht hm (by omega), bnd_some]
      -- one token read, and what follows
      have fin : ∀ (v : Int32) (y : Mem), v = cf c m (d + 1) j 0 → (∃ i, i ≤ m ∧ v = nI i) → Sm s y → y.1 68 21 = v → ∃ x', (some (y.1 68 21, y) : Option (Int32 × Mem)) = some (cf c m (d + 1) j 0, x') ∧ Sm s x' ∧ (cf c m (d + 1) j 0 = -9 → RefP s x' c m ∧ cntN (isBl c) m ≤ 8 ∧ cntN (isKl c) m ≤ 7 ∧ cntN (isBl c) m ≠ 0) := by
        intro v y hv ⟨i, hi, ei⟩ hy e21
        refine ⟨y, by rw [e21, hv], hy, fun z => ?_⟩
        rw [← hv, ei] at z
        exact absurd z (hnj i hi)
      have bench : isBl c j = true → ∃ x', bnd (fX12_readsBench (nI t) x) (fun r7 s8 => if r7 = 0 then some (s8.1 68 21, s8) else fX12_faultOf_L15 (κR t) (nI t) k' s8) = some (cf c m (d + 1) j 0, x') ∧ Sm s x' ∧ (cf c m (d + 1) j 0 = -9 → RefP s x' c m ∧ cntN (isBl c) m ≤ 8 ∧ cntN (isKl c) m ≤ 7 ∧ cntN (isBl c) m ≠ 0) := by
        intro hbl
        have hkl := bl_kl hbl
        have hcf : cf c m (d + 1) j 0 = if 0 < cntN (isKl c) j then nI j else if cntN (isBl c) j < 8 then cf c m d (j + 1) (if c j = 109 then 0 else 1) else nI j := by
          rw [cf, if_pos rfl, hbl, if_pos rfl]
        by_cases e1 : 0 < cntN (isKl c) j
        · rw [rbench_no hx ht hm (by omega) hr (Or.inl e1), bnd_some, if_pos rfl]
          exact fin (nI j) x (by rw [hcf, if_pos e1]) ⟨j, by omega, rfl⟩ hr.1 hr.2.1
        · by_cases e2 : cntN (isBl c) j < 8
          · rw [if_neg e1, if_pos e2] at hcf
            by_cases e3 : c j = 109
            · obtain ⟨y, ey, ry⟩ := rbench_m hx ht hm (by omega) hr (by omega) e2 e3
              rw [if_pos e3] at hcf
              rw [ey, bnd_some, if_neg one_ne, hcf]
              exact ih d (j + 1) k' y (by omega) (by omega) (by omega) ry (by rw [cnt_t hbl]; omega) (by rw [cnt_f hkl]; exact hk7)
            · rw [if_neg e3] at hcf
              cases d with
              | zero =>
                rw [cf0 (by decide)] at hcf
                obtain ⟨y, ey, sy, r21⟩ := rbench_f hx ht hm (by omega) hr (by omega) e2 e3 (fun z => by omega)
                rw [ey, bnd_some, if_pos rfl]
                exact fin (nI m) y (by rw [hcf]) ⟨m, by omega, rfl⟩ sy (by rw [r21, show j + 1 = m by omega])
              | succ d =>
                have hcf2 : cf c m (d + 1) (j + 1) 1 = @ite _ (dgt (c (j + 1)) 1 9) (Classical.propDecidable _) (cf c m d (j + 2) 0) (nI (j + 1)) := by
                  rw [cf, if_neg (by decide)]
                  rfl
                by_cases e4 : dgt (c (j + 1)) 1 9
                · obtain ⟨y, ey, ry⟩ := rbench_t hx ht hm (by omega) hr (by omega) e2 hbl e3 e4
                  obtain ⟨d1, d2⟩ := dg_no (by decide) e4
                  rw [if_pos e4] at hcf2
                  rw [hcf2] at hcf
                  rw [ey, bnd_some, if_neg one_ne, hcf]
                  exact ih d (j + 2) k' y (by omega) (by omega) (by omega) ry (by rw [cnt_f d1, cnt_t hbl]; omega) (by rw [cnt_f d2, cnt_f hkl]; exact hk7)
                · rw [if_neg e4] at hcf2
                  rw [hcf2] at hcf
                  obtain ⟨y, ey, sy, r21⟩ := rbench_f hx ht hm (by omega) hr (by omega) e2 e3 (fun _ => e4)
                  rw [ey, bnd_some, if_pos rfl]
                  exact fin (nI (j + 1)) y (by rw [hcf]) ⟨j + 1, by omega, rfl⟩ sy r21
          · rw [rbench_no hx ht hm (by omega) hr (Or.inr (by omega)), bnd_some, if_pos rfl]
            exact fin (nI j) x (by rw [hcf, if_neg e1, if_neg e2]) ⟨j, by omega, rfl⟩ hr.1 hr.2.1
      have bl3 : ∀ (A B : Option (Int32 × Mem)), isBl c j = true → (if c j = 108 then A else if c j = 114 then A else if c j = 109 then A else B) = A := by
        intro A B hbl
        by_cases z1 : c j = 108
        · rw [if_pos z1]
        · by_cases z2 : c j = 114
          · rw [if_neg z1, if_pos z2]
          · rw [if_neg z1, if_neg z2, if_pos (((of_decide_eq_true hbl).resolve_left z1).resolve_left z2)]
      by_cases e0 : c j = 32
      · have hbl : isBl c j = false := by
          unfold isBl
          rw [e0]
          decide
        have hkl : isKl c j = false := by
          unfold isKl
          rw [e0]
          decide
        have hcf : cf c m (d + 1) j 0 = cf c m d (j + 1) 0 := by
          rw [cf, if_pos rfl, hbl, if_neg (show ¬ (false = true) by decide), hkl, if_neg (show ¬ (false = true) by decide), if_pos e0]
        rw [if_pos e0, hcf, hr.2.1, nI_1]
        refine ih d (j + 1) k' _ (by omega) (by omega) (by omega) ?_ (by rw [cnt_f hbl]; exact hb8) (by rw [cnt_f hkl]; exact hk7)
        obtain ⟨r0, r1, r2, r3, r4, r5, r6, r7⟩ := hr
        refine ⟨r0.tr (sm68 (by decide) (by decide)), rfl, ?_, ?_, ?_, ?_, ?_, ?_⟩
        · rw [cnt_f hbl]
          exact r2
        · rw [cnt_f hkl]
          exact r3
        · rw [gX_f hbl]
          exact r4
        · rw [gX_f hkl]
          exact r5
        · rw [gX_f hkl]
          exact r6
        · rw [gX_f hkl]
          exact r7
      · rw [if_neg e0]
        cases hbl : isBl c j with
        | true =>
          rw [bl3 _ _ hbl]
          exact bench hbl
        | false =>
          have hnb := of_decide_eq_false hbl
          rw [if_neg (fun z => hnb (Or.inl z)), if_neg (fun z => hnb (Or.inr (Or.inl z))), if_neg (fun z => hnb (Or.inr (Or.inr z)))]
          have hcf : cf c m (d + 1) j 0 = if isKl c j then (if cntN (isBl c) j = 0 then nI j else if cntN (isKl c) j < 7 then cf c m d (j + 1) 2 else nI j) else nI j := by
            rw [cf, if_pos rfl, hbl, if_neg (show ¬ (false = true) by decide), if_neg e0]
          by_cases e1 : knd (c j) = -9
          · have hkl : isKl c j = false := decide_eq_false (fun z => z e1)
            rw [hkl, if_neg (show ¬ (false = true) by decide)] at hcf
            rw [rguest_no hx ht hm (by omega) hr (Or.inl e1), bnd_some, if_pos rfl]
            exact fin (nI j) x (by rw [hcf]) ⟨j, by omega, rfl⟩ hr.1 hr.2.1
          · have hkl : isKl c j = true := decide_eq_true e1
            rw [hkl, if_pos rfl] at hcf
            by_cases e2 : cntN (isBl c) j = 0
            · rw [rguest_no hx ht hm (by omega) hr (Or.inr (Or.inl e2)), bnd_some, if_pos rfl]
              exact fin (nI j) x (by rw [hcf, if_pos e2]) ⟨j, by omega, rfl⟩ hr.1 hr.2.1
            · rw [if_neg e2] at hcf
              by_cases e3 : cntN (isKl c) j < 7
              · rw [if_pos e3] at hcf
                cases d with
                | zero =>
                  rw [cf0 (by decide)] at hcf
                  obtain ⟨y, ey, sy, r21⟩ := rguest_f1 hx ht hm (by omega) hr e1 e2 e3 (fun z => by omega)
                  rw [ey, bnd_some, if_pos rfl]
                  exact fin (nI m) y (by rw [hcf]) ⟨m, by omega, rfl⟩ sy (by rw [r21, show j + 1 = m by omega])
                | succ d =>
                  have hcf2 : cf c m (d + 1) (j + 1) 2 = @ite _ (dgt (c (j + 1)) 1 9) (Classical.propDecidable _) (cf c m d (j + 2) 3) (nI (j + 1)) := by
                    rw [cf, if_neg (by decide)]
                    rfl
                  by_cases e4 : dgt (c (j + 1)) 1 9
                  · obtain ⟨d1, d2⟩ := dg_no (by decide) e4
                    rw [if_pos e4] at hcf2
                    rw [hcf2] at hcf
                    cases d with
                    | zero =>
                      rw [cf0 (by decide)] at hcf
                      obtain ⟨y, ey, sy, r21⟩ := rguest_f2 hx ht hm (by omega) hr e1 e2 e3 e4 (fun z => by omega)
                      rw [ey, bnd_some, if_pos rfl]
                      exact fin (nI m) y (by rw [hcf]) ⟨m, by omega, rfl⟩ sy (by rw [r21, show j + 2 = m by omega])
                    | succ d =>
                      have hcf3 : cf c m (d + 1) (j + 2) 3 = @ite _ (dgt (c (j + 2)) 0 1) (Classical.propDecidable _) (cf c m d (j + 3) 0) (nI (j + 2)) := by
                        rw [cf, if_neg (by decide)]
                        rfl
                      by_cases e5 : dgt (c (j + 2)) 0 1
                      · obtain ⟨d3, d4⟩ := dg_no (i := j + 2) (by decide) e5
                        rw [if_pos e5] at hcf3
                        rw [hcf3] at hcf
                        obtain ⟨y, ey, ry⟩ := rguest_t hx ht hm (by omega) hr e1 hbl e2 e3 e4 e5
                        rw [ey, bnd_some, if_neg one_ne, hcf]
                        exact ih d (j + 3) k' y (by omega) (by omega) (by omega) ry (by rw [cnt_f d3, cnt_f d1, cnt_f hbl]; exact hb8) (by rw [cnt_f d4, cnt_f d2, cnt_t hkl]; omega)
                      · rw [if_neg e5] at hcf3
                        rw [hcf3] at hcf
                        obtain ⟨y, ey, sy, r21⟩ := rguest_f2 hx ht hm (by omega) hr e1 e2 e3 e4 (fun _ => e5)
                        rw [ey, bnd_some, if_pos rfl]
                        exact fin (nI (j + 2)) y (by rw [hcf]) ⟨j + 2, by omega, rfl⟩ sy r21
                  · rw [if_neg e4] at hcf2
                    rw [hcf2] at hcf
                    obtain ⟨y, ey, sy, r21⟩ := rguest_f1 hx ht hm (by omega) hr e1 e2 e3 (fun _ => e4)
                    rw [ey, bnd_some, if_pos rfl]
                    exact fin (nI (j + 1)) y (by rw [hcf]) ⟨j + 1, by omega, rfl⟩ sy r21
              · rw [rguest_no hx ht hm (by omega) hr (Or.inr (Or.inr (by omega))), bnd_some, if_pos rfl]
                exact fin (nI j) x (by rw [hcf, if_neg e3]) ⟨j, by omega, rfl⟩ hr.1 hr.2.1
theorem bfaultR (hs : TxR s t m c) (ht : t < 4) (hm : m ≤ 60) : ∃ x', fX12_faultOf (nI t) s = some (cf c m m 0 0, x') ∧ Sm s x' ∧ (cf c m m 0 0 = -9 → RefP s x' c m ∧ cntN (isBl c) m ≤ 8 ∧ cntN (isKl c) m ≤ 7 ∧ cntN (isBl c) m ≠ 0) := by
  refine cfR hs ht hm m m 0 FU (wI (wI (wI s 68 21 0) 68 23 0) 68 24 0) (Nat.le_refl _) (by omega) (by unfold FU; omega) ?_ (Nat.zero_le _) (Nat.zero_le _)
  exact ⟨((sm68 (a := 21) (by decide) (by decide)).tr (sm68 (a := 23) (by decide) (by decide))).tr (sm68 (a := 24) (by decide) (by decide)), rfl, rfl, rfl, rfl, rfl, rfl, rfl⟩
end FL2
theorem al_fault (a1 a2 : Int32) (h2 : a2 = 0 ∨ a2 = 1) : Alike (fX11_fault a1 a2) (fX12_fault a1 a2) := by
  intro s hI
  unfold fX11_fault fX12_fault
  rcases txt_cases a1 with h | ⟨t, ht, rfl⟩
  · exact ⟨-1, s, s, by rw [textOf_bad h, bnd_some, if_pos rfl], by rw [isText_bad h, bnd_some, if_pos rfl], hI⟩
  · obtain ⟨g1, g2, g3⟩ := hI.gc t ht
    have hin : inb (nI t) 4 = true := inb_ok ht (by decide)
    rw [textOf_ok ht, bnd_some, if_neg txt_ne, if_pos (rt5 t ht).2]
    rcases szOk_cases g2 with ⟨hm, -⟩ | ⟨m, h60, hm⟩
    · obtain ⟨s1, s2, e1, e2, e3⟩ := found_al hI (f := 1) (by decide)
      refine ⟨-3, s1, s2, ?_, ?_, e3⟩
      · rw [tmiss_t (by rw [g1]; exact hm), bnd_some, if_neg one_ne]
        show bnd (fX10_found (nI 1) s) _ = _
        rw [e1, bnd_some]
      · rw [isText_ok ht, bnd_some, if_neg one_ne, if_pos hin, ix_nI (by omega), f_found73 (by decide) e1, if_pos hm]
        show bnd (fX12_meets (nI 1) s1) _ = _
        rw [e2, bnd_some]
    · obtain ⟨tc, tr⟩ := txC hI ht hm h60
      generalize hcc : (fun i => s.1 74 (60 * t + i)) = c at *
      rw [tmiss_f (g1.trans hm) h60, bnd_some, if_pos rfl]
      by_cases e : a2 = 0
      · obtain ⟨x', ex, sx, _⟩ := bfaultR tr ht h60
        refine ⟨cf c m m 0 0, s, x', ?_, ?_, Inv_same hI sx⟩
        · rw [if_pos e, bfaultC tc h60, bnd_some]
        · rw [isText_ok ht, bnd_some, if_neg one_ne, if_pos hin, ix_nI (by omega), tr.1, if_neg (nI_nonneg (by omega)), if_pos e, ex, bnd_some]
      · refine ⟨rwk c m m 0, s, s, ?_, ?_, hI⟩
        · rw [if_neg e, faultC tc h60, bnd_some]
        · rw [isText_ok ht, bnd_some, if_neg one_ne, if_pos hin, ix_nI (by omega), tr.1, if_neg (nI_nonneg (by omega)), if_neg e, faultR tr ht h60, bnd_some]
