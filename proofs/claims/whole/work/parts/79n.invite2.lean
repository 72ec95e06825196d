-- invite: both sides
section IN2
variable {s x : Mem} {nb n m : Nat}
theorem inv52 (rd : Rd x nb n) {κ : Mem → Option (Int32 × Mem)} {y3 : Int32} {W C : Nat → Int32} (h47 : x.1 68 47 = nI m) (hwc : ∀ i, i < m → x.1 94 i = W i ∧ x.1 95 i = C i) : ∃ y, fX12_invite_L52 κ y3 FU 0 x = κ y ∧ Sm x y ∧ y.1 68 47 = nI m ∧ (∀ i, i < m → y.1 94 i = W i ∧ y.1 95 i = C i) ∧ ∀ b, b < nb → y.1 98 b = 2 - nI (tkN x n b) := by
  have h8 := rd.1
  have h7 := rd.2.1
  have key := lp_inv0 (fun k j (y : Mem) => fX12_invite_L52 κ y3 k (nI j) y) (fun j y => Sm x y ∧ y.1 68 47 = nI m ∧ (∀ i, i < m → y.1 94 i = W i ∧ y.1 95 i = C i) ∧ ∀ b, b < j → y.1 98 b = 2 - nI (tkN x n b)) nb x ⟨SmX.rf x, h47, hwc, fun b hb => absurd hb (by omega)⟩ ?_ (by omega)
  · obtain ⟨y, k, ⟨i1, i2, i3, i4⟩, e⟩ := key
    refine ⟨y, ?_, i1, i2, i3, i4⟩
    have e' : fX12_invite_L52 κ y3 FU 0 x = fX12_invite_L52 κ y3 (k + 1) (nI nb) y := e
    rw [e', fX12_invite_L52, i1.2.1 10 (by unfold Cf; omega) id, rd.2.2.1, if_neg (nI_nlt (Nat.le_refl nb) (by omega))]
  · rintro j k y hj ⟨i1, i2, i3, i4⟩
    show ∃ y', _ ∧ fX12_invite_L52 κ y3 (k + 1) (nI j) y = fX12_invite_L52 κ y3 k (nI (j + 1)) y'
    have y12 : y.1 68 12 = nI n := by rw [i1.2.1 12 (by unfold Cf; omega) id]; exact rd.2.2.2.1
    have y79 : y.1 79 = x.1 79 := i1.1 79 (by unfold Cr; omega) id
    have y76 : y.1 76 = x.1 76 := i1.1 76 (by unfold Cr; omega) id
    have ht : fX12_takenOn (nI j) y = some (nI (tkN x n j), y) := by
      rw [takenOn_ok y12 h7, y79, y76]
      rfl
    refine ⟨wI y 98 j (2 - nI (tkN x n j)), ⟨i1.tr (sm90 (by decide) (by decide)), i2, i3, fun b hb => ?_⟩, ?_⟩
    · rw [rdq]
      by_cases c : b = j
      · rw [if_pos c, c]
      · rw [if_neg c, i4 b (by omega)]
    · rw [fX12_invite_L52, i1.2.1 10 (by unfold Cf; omega) id, rd.2.2.1, if_pos (nI_lt hj (by omega)), ht, bnd_some, if_pos (inb_ok (by omega) (by decide)), ix_nI (by omega), nI_1]
def rF (x : Mem) (c r M j i : Nat) : Int32 := if 60 * r ≤ i ∧ i < 60 * r + j then (if i - 60 * r < M then x.1 c (i - 60 * r) else 0) else x.1 71 i
theorem rF_s {c r M j : Nat} : (fun b => if b = 60 * r + j then (if j < M then x.1 c j else 0) else rF x c r M j b) = rF x c r M (j + 1) := by
  funext b
  unfold rF
  by_cases e : b = 60 * r + j
  · rw [if_pos e, if_pos (show 60 * r ≤ b ∧ b < 60 * r + (j + 1) by omega), e, Nat.add_sub_cancel_left]
  · rw [if_neg e]
    by_cases e2 : 60 * r ≤ b ∧ b < 60 * r + j
    · rw [if_pos e2, if_pos (show 60 * r ≤ b ∧ b < 60 * r + (j + 1) by omega)]
    · rw [if_neg e2, if_neg (show ¬ (60 * r ≤ b ∧ b < 60 * r + (j + 1)) by omega)]
theorem rF_0 {c r M : Nat} : rF x c r M 0 = x.1 71 := by
  funext b
  unfold rF
  rw [if_neg (by omega)]
theorem rF_at {c r M i : Nat} (hi : i < M) (hM : M ≤ 60) : rF x c r M 60 (60 * r + i) = x.1 c i := by
  unfold rF
  rw [if_pos (by omega), Nat.add_sub_cancel_left, if_pos hi]
theorem rF_out {c r M j : Nat} (h : j < 60 * r ∨ 60 * r + 60 ≤ j) : rF x c r M 60 j = x.1 71 j := by
  unfold rF
  rw [if_neg (by omega)]
theorem inv125 {t : Nat} (ht : t < 6) (hm : m ≤ 4) (h : x.1 68 47 = nI m) (κ : Mem → Option (Int32 × Mem)) : fX12_invite_L125 κ (nI t) FU 0 x = κ (wF x 71 (rF x 97 t m 60)) := by
  have key := lp0 (fun k j => fX12_invite_L125 κ (nI t) k (nI j) (wF x 71 (rF x 97 t m j))) (κ (wF x 71 (rF x 97 t m 60))) 60 ?_ ?_ (by omega)
  · rw [← key]
    show _ = fX12_invite_L125 κ (nI t) FU (nI 0) (wF x 71 (rF x 97 t m 0))
    rw [rF_0, wF_self]
    rfl
  · intro j k hj
    show fX12_invite_L125 κ (nI t) (k + 1) (nI j) _ = fX12_invite_L125 κ (nI t) k (nI (j + 1)) _
    have h47 : ∀ F, (wF x 71 F).1 68 47 = nI m := fun F => h
    have h97 : ∀ F, (wF x 71 F).1 97 = x.1 97 := fun F => rfl
    rw [fX12_invite_L125, if_pos ((lt_num (b := 60) (by omega) (by decide)).mpr hj), h47, six0, if_pos (inb_ok (show 60 * t + j < 360 by omega) (by decide)), if_pos (inb_ok (show 60 * t + j < 360 by omega) (by decide)), ix_nI (show 60 * t + j < 2 ^ 31 by omega), ix_nI (show j < 2 ^ 31 by omega), h97, nI_1, wI_wF, wI_wF, ← rF_s]
    by_cases e : j < m
    · rw [if_pos (nI_lt e (by omega)), if_pos (inb_ok (by omega) (by decide)), if_pos e]
    · rw [if_neg (nI_nlt (by omega) (by omega)), if_neg e]
  · intro k
    show fX12_invite_L125 κ (nI t) (k + 1) (nI 60) _ = _
    rw [fX12_invite_L125, if_neg (by decide)]
/-- what is best of all -/
def bsI (x : Mem) (nb n m a b : Nat) : Bs := inv nb (tkN x n) (x.1 75) (fun i => x.1 71 (60 * a + i)) (fun i => x.1 71 (60 * b + i)) (lvB x) m 0 (fun _ => 0) (x.1 68 18 + sumI (mo x 0) n) 0 (fun _ => 0) none
theorem okI_c {a b : Nat} (h : okI x a b m = true) : ∀ i, i < m → 0 ≤ (x.1 71 (60 * b + i)).toInt ∧ (x.1 71 (60 * b + i)).toInt ≤ 99 := by
  intro i hi
  have h1 := andB_t m h hi
  rw [Bool.and_eq_true] at h1
  obtain ⟨z1, z2⟩ := of_decide_eq_true h1.2
  rw [Int32.not_lt, Int32.le_iff_toInt_le] at z1 z2
  exact ⟨z1, z2⟩
theorem bs_ok {a b : Nat} (hm : m ≤ 4) (h : okI x a b m = true) : BsOk (bsI x nb n m a b) := inv_ok (okI_c h) hm m 0 _ _ 0 _ none (by omega) (by decide) (by decide) (fun b hb => by cases hb)
theorem inviteR (rd : Rd x nb n) {a b t : Nat} (ha : a < 6) (hb : b < 6) (ht : t < 6) (hn : nb ≠ 0) (hm : m ≤ 4) (h1 : x.1 70 a = nI m) (h2 : x.1 70 b = nI m) (hok : okI x a b m = true) : (bsI x nb n m a b = none → ∃ y, fX12_invite (nI a) (nI b) (nI t) x = some (-9, y) ∧ Sm x y) ∧ ∀ b0, bsI x nb n m a b = some b0 → ∃ y, fX12_invite (nI a) (nI b) (nI t) x = some (b0.1, y) ∧ SmX (fun a => a = 70 ∨ a = 71) x y ∧ (∀ j, y.1 70 j = if j = t then nI m else x.1 70 j) ∧ (∀ j, (j < 60 * t ∨ 60 * t + 60 ≤ j) → y.1 71 j = x.1 71 j) ∧ ∀ i, i < m → y.1 71 (60 * t + i) = b0.2 i := by
  have h8 := rd.1
  obtain ⟨y1, e1, s1, y47, ywc⟩ := (need_go ha hb hm h1 h2).2 hok
  have nz : ¬ x.1 68 10 = 0 := by
    rw [rd.2.2.1]
    exact fun z => hn ((eq_num (b := 0) (by omega) (by decide)).mp z)
  have rd1 : Rd y1 nb n := ⟨rd.1, rd.2.1, by rw [s1.2.1 10 (by unfold Cf; omega) id]; exact rd.2.2.1, by rw [s1.2.1 12 (by unfold Cf; omega) id]; exact rd.2.2.2.1, by rw [s1.1 79 (by unfold Cr; omega) id]; exact rd.2.2.2.2⟩
  obtain ⟨y2, e2, s2, z47, zwc, z98⟩ := inv52 rd1 (κ := fun s18 => bnd (fX12_listOf 0 ((wI s18 68 53 (-1)).1 68 18) (wI s18 68 53 (-1))) (fun r19 s20 => bnd (fX12_layInvited 9 0 r19 0 s20) (fun r21 s22 => if (s22.1 68 53) < 0 then some ((-9), s22) else if inb (nI t) 6 = true then fX12_invite_L125 (fun s30 => some (s30.1 68 53, s30)) (nI t) FU 0 (wI s22 70 (ix (nI t)) (s22.1 68 47)) else none))) (y3 := nI t) (m := m) y47 ywc
  have s3 : Sm x (wI y2 68 53 (-1)) := (s1.tr s2).tr (sm53 (by decide))
  have q79 : (wI y2 68 53 (-1)).1 79 = x.1 79 := s3.1 79 (by unfold Cr; omega) id
  have q75 : (wI y2 68 53 (-1)).1 75 = x.1 75 := s3.1 75 (by unfold Cr; omega) id
  have q76 : (wI y2 68 53 (-1)).1 76 = x.1 76 := s3.1 76 (by unfold Cr; omega) id
  have q77 : (wI y2 68 53 (-1)).1 77 = x.1 77 := s3.1 77 (by unfold Cr; omega) id
  have q18 : (wI y2 68 53 (-1)).1 68 18 = x.1 68 18 := s3.2.1 18 (by unfold Cf; omega) id
  have rd3 : Rd (wI y2 68 53 (-1)) nb n := ⟨rd.1, rd.2.1, by rw [s3.2.1 10 (by unfold Cf; omega) id]; exact rd.2.2.1, by rw [s3.2.1 12 (by unfold Cf; omega) id]; exact rd.2.2.2.1, by rw [q79]; exact rd.2.2.2.2⟩
  have hl : fX12_listOf 0 ((wI y2 68 53 (-1)).1 68 18) (wI y2 68 53 (-1)) = some (x.1 68 18 + sumI (mo x 0) n, wI y2 68 53 (-1)) := by
    have := rlist_ok rd3 (p := 0) (by decide) ((wI y2 68 53 (-1)).1 68 18)
    rw [mo_eq q75 q76 q77 q79, q18] at this
    rw [q18]
    exact this
  have tke : ∀ b, tkN y1 n b = tkN x n b := fun b => by
    unfold tkN
    rw [s1.1 79 (by unfold Cr; omega) id, s1.1 76 (by unfold Cr; omega) id]
  have ri : RI x (wI y2 68 53 (-1)) nb n m (fun i => x.1 71 (60 * a + i)) (fun i => x.1 71 (60 * b + i)) 0 (fun _ => 0) (fun _ => 0) none := by
    refine ⟨s3, z47, Or.inl ⟨rfl, rfl⟩, fun i hi => absurd hi (by omega), fun b hb => ?_, zwc⟩
    show y2.1 98 b + 0 = _
    rw [Int32.add_zero, z98 b hb, tke]
  obtain ⟨y4, e4, r4⟩ := layRq rd hm (okI_c hok) m 9 0 (fun _ => 0) (x.1 68 18 + sumI (mo x 0) n) 0 (fun _ => 0) none _ (by omega) (by omega) (fun _ _ => Nat.le_refl _) (by decide) (by decide) (fun b hb => by cases hb) ri
  have e4' : fX12_layInvited 9 0 (x.1 68 18 + sumI (mo x 0) n) 0 (wI y2 68 53 (-1)) = some ((), y4) := e4
  have r4' : RI x y4 nb n m (fun i => x.1 71 (60 * a + i)) (fun i => x.1 71 (60 * b + i)) 0 (fun _ => 0) (fun _ => 0) (bsI x nb n m a b) := r4
  have hbo := bs_ok (x := x) (nb := nb) (n := n) hm hok
  have hit : inb (nI t) 6 = true := inb_ok ht (by decide)
  have all : fX12_invite (nI a) (nI b) (nI t) x = if (y4.1 68 53) < 0 then some ((-9), y4) else fX12_invite_L125 (fun s30 => some (s30.1 68 53, s30)) (nI t) FU 0 (wI y4 70 t (nI m)) := by
    unfold fX12_invite
    rw [isRow_ok ha, bnd_some, if_neg one_ne, isRow_ok hb, bnd_some, if_neg one_ne, isRow_ok ht, bnd_some, if_neg one_ne, if_neg nz, e1, bnd_some, if_neg (show ¬ (0 : Int32) < 0 by decide), e2, hl, bnd_some, e4', bnd_some, if_pos hit, ix_nI (by omega), r4'.2.1]
  obtain ⟨l1, l2, l3, l4, l5, l6⟩ := r4'
  refine ⟨fun hnone => ?_, fun b0 hsome => ?_⟩
  · rcases l3 with ⟨_, e⟩ | ⟨b, hb', _⟩
    · exact ⟨y4, by rw [all, e, if_pos m1_neg], l1⟩
    · rw [hnone] at hb'
      cases hb'
  · rcases l3 with ⟨hb', _⟩ | ⟨b', hb', e, eb⟩
    · rw [hsome] at hb'
      cases hb'
    · rw [hsome] at hb'
      cases hb'
      have hnn : ¬ b0.1 < 0 := fun z => by
        have := (lt0_iff _).mp z
        have := hbo b0 hsome
        omega
      refine ⟨wF (wI y4 70 t (nI m)) 71 (rF (wI y4 70 t (nI m)) 97 t m 60), ?_, (l1.to.tr (SmX.wI (by omega) (by omega) (by omega))).tr (SmX.wF (by omega) (by decide) (by decide)), fun j => ?_, fun j hj => ?_, fun i hi => ?_⟩
      · rw [all, e, if_neg hnn, inv125 ht hm (show (wI y4 70 t (nI m)).1 68 47 = nI m from l2)]
        show some (y4.1 68 53, _) = _
        rw [e]
      · rw [wF_ne (by decide), rdq, l1.1 70 (by unfold Cr; omega) id]
      · rw [rd_wF, if_pos rfl, rF_out hj, wI_ne (by decide), l1.1 71 (by unfold Cr; omega) id]
      · rw [rd_wF, if_pos rfl, rF_at hi (by omega), wI_ne (by decide), eb i hi]
theorem Inv_45 (hI : Inv s) (h : SmX (fun a => a = 45) s x) (h45 : ∀ b, b < 8 → x.1 45 b = 0) : Inv x := by
  obtain ⟨nb, n, nq, nm, nd, ga, gb, gc, gd, ge, gf, gg, gh, gi, gj⟩ := hI
  refine ⟨nb, n, nq, nm, nd, Ga_keep h (fun a ha => by omega) ga, Gb_keep h (fun a ha => by omega) gb, Gc_keep h (fun a ha => by omega) gc, Gd_keep h (fun a ha => by omega) gd, Ge_keep h (fun a ha => by omega) ge, Gf_keep h (fun a ha => by omega) gf, Gg_keep h (fun a ha => by omega) gg, Gh_keep h (fun a ha => by omega) gh, Gi_keep h (fun a ha => by omega) gi, h45, ?_⟩
  rw [h.1 33 (by unfold Cr; omega) (by omega)]
  exact gj.2
/-- the class's search, from the rows -/
theorem searchC (hI : Inv s) (gd : Gd s nb n) (ge : Ge s nb n) {a b : Nat} (ha : a < 6) (hb : b < 6) (hm : m ≤ 4) (h1 : s.1 70 a = nI m) (h2 : s.1 70 b = nI m) (hok : okI s a b m = true) : ∃ x, fX2_search (48 + 2 * a) (48 + 2 * b) s = some ((), x) ∧ SmX (fun a => a = 45) s x ∧ (∀ b, b < 8 → x.1 45 b = 0) ∧ x.1 42 0 = nI m ∧ BC x m (bsI s nb n m a b) := by
  obtain ⟨_, _, _, _, _, _, gb, _, _, _, _, _, _, _, gj⟩ := id hI
  obtain ⟨a1, a2, a3⟩ := gb a ha
  obtain ⟨b1, b2, b3⟩ := gb b hb
  have emn : mn (s.1 (48 + 2 * a) 0) 4 = nI m := by
    rw [a1, h1]
    exact mn_l (L := 4) hm (by decide)
  unfold fX2_search
  rw [emn]
  have key := lp_inv0 (fun k j (y : Mem) => fX2_search_L20 (fun s8 => bnd (fX0_listIn 0 s8) (fun r9 s10 => bnd (fX2_tryCousin 9 0 r9 0 s10) (fun r11 s12 => some ((), s12)))) (48 + 2 * a) (48 + 2 * b) k (nI j) y) (fun j y => SmX (fun a => a = 45) s y ∧ y.1 42 0 = nI m ∧ y.1 42 1 = -9 ∧ y.1 45 = s.1 45 ∧ ∀ i, i < j → y.1 46 i = s.1 71 (60 * a + i) ∧ y.1 47 i = s.1 71 (60 * b + i)) m (wI (wI s 42 0 (nI m)) 42 1 (-9)) ⟨(sm42 (by decide) (by decide)).tr (sm42 (by decide) (by decide)), rfl, rfl, rfl, fun i hi => absurd hi (by omega)⟩ ?_ (by omega)
  · obtain ⟨y, k, ⟨i1, i2, i3, i4, i5⟩, e⟩ := key
    have e' : fX2_search_L20 (fun s8 => bnd (fX0_listIn 0 s8) (fun r9 s10 => bnd (fX2_tryCousin 9 0 r9 0 s10) (fun r11 s12 => some ((), s12)))) (48 + 2 * a) (48 + 2 * b) FU 0 (wI (wI s 42 0 (nI m)) 42 1 (-9)) = fX2_search_L20 (fun s8 => bnd (fX0_listIn 0 s8) (fun r9 s10 => bnd (fX2_tryCousin 9 0 r9 0 s10) (fun r11 s12 => some ((), s12)))) (48 + 2 * a) (48 + 2 * b) (k + 1) (nI m) y := e
    have gdy : Gd y nb n := Gd_keep i1 (fun a ha => by omega) gd
    have gey : Ge y nb n := Ge_keep i1 (fun a ha => by omega) ge
    have hl : fX0_listIn 0 y = some (s.1 68 18 + sumI (mo s 0) n, y) := by
      have := list_ok gdy gey (p := 0) (by decide)
      rw [mo_eq (s := s) (i1.1 75 (by unfold Cr; omega) (by omega)) (i1.1 76 (by unfold Cr; omega) (by omega)) (i1.1 77 (by unfold Cr; omega) (by omega)) (i1.1 79 (by unfold Cr; omega) (by omega)), i1.2.1 18 (by unfold Cf; omega) (by omega)] at this
      exact this
    have ci : CI s y m (fun i => s.1 71 (60 * a + i)) (fun i => s.1 71 (60 * b + i)) 0 (fun _ => 0) (fun _ => 0) none := by
      refine ⟨i1, i2, Or.inl ⟨rfl, i3⟩, fun i hi => absurd hi (by omega), fun b hb => ?_, i5⟩
      rw [i4]
      exact gj.1 b hb
    obtain ⟨x, ex, cx⟩ := tryC gd ge hm (okI_c hok) m 9 0 (fun _ => 0) (s.1 68 18 + sumI (mo s 0) n) 0 (fun _ => 0) none y (by omega) (by omega) (fun _ _ => Nat.le_refl _) (by decide) (by decide) (fun b hb => by cases hb) ci
    have ex' : fX2_tryCousin 9 0 (s.1 68 18 + sumI (mo s 0) n) 0 y = some ((), x) := ex
    obtain ⟨l1, l2, l3, l4, l5, l6⟩ := cx
    refine ⟨x, ?_, l1, l5, l2, l3⟩
    rw [e', fX2_search_L20, i2, if_neg (nI_nlt (Nat.le_refl m) (by omega)), hl, bnd_some, ex', bnd_some]
  · rintro j k y hj ⟨i1, i2, i3, i4, i5⟩
    show ∃ y', _ ∧ fX2_search_L20 _ (48 + 2 * a) (48 + 2 * b) (k + 1) (nI j) y = fX2_search_L20 _ (48 + 2 * a) (48 + 2 * b) k (nI (j + 1)) y'
    have hi : inb (nI j) 4 = true := inb_ok (by omega) (by decide)
    have ya : y.1 (48 + 2 * a) 0 = nI m := by rw [i1.1 (48 + 2 * a) (by unfold Cr; omega) (by omega), a1, h1]
    have va : y.1 (48 + 2 * a + 1) j = s.1 71 (60 * a + j) := by rw [e48, i1.1 (49 + 2 * a) (by unfold Cr; omega) (by omega), a3 j m h1 hj (by omega)]
    have yb : ∀ v, (wI y 46 j v).1 (48 + 2 * b) 0 = nI m := fun v => by rw [wI_ne (by omega), i1.1 (48 + 2 * b) (by unfold Cr; omega) (by omega), b1, h2]
    have vb : ∀ v, (wI y 46 j v).1 (48 + 2 * b + 1) j = s.1 71 (60 * b + j) := fun v => by rw [wI_ne (by omega), e48, i1.1 (49 + 2 * b) (by unfold Cr; omega) (by omega), b3 j m h2 hj (by omega)]
    refine ⟨wI (wI y 46 j (s.1 71 (60 * a + j))) 47 j (s.1 71 (60 * b + j)), ⟨(i1.tr (sm42 (by decide) (by decide))).tr (sm42 (by decide) (by decide)), i2, i3, i4, fun i hi' => ?_⟩, ?_⟩
    · rw [wI_ne (by decide), rdq, rdq]
      by_cases c : i = j
      · rw [if_pos c, if_pos c, c]
        exact ⟨rfl, rfl⟩
      · rw [if_neg c, if_neg c, wI_ne (by decide)]
        exact i5 i (by omega)
    · rw [fX2_search_L20, i2, if_pos (nI_lt hj (by omega)), placeAt_ok ya (by omega) hj, bnd_some, if_pos hi, ix_nI (by omega), va, placeAt_ok (yb _) (by omega) hj, bnd_some, if_pos hi, vb, nI_1]
theorem fnd_q {f : Nat} (hf : f < 6) {s s1 : Mem} {y : Int32} (e1 : fX10_found (nI f) s = some (y, s1)) (q : Nat) (h2 : q ≠ 2) (h3 : q ≠ 3) : s1.1 q = s.1 q := by
  rw [f_found hf] at e1
  cases e1
  rw [wI_ne h3, wI_ne h2]
theorem bsI_eq {s' : Mem} (h75 : s'.1 75 = s.1 75) (h76 : s'.1 76 = s.1 76) (h77 : s'.1 77 = s.1 77) (h79 : s'.1 79 = s.1 79) (h71 : s'.1 71 = s.1 71) (h17 : s'.1 68 17 = s.1 68 17) (h18 : s'.1 68 18 = s.1 68 18) (nb n m a b : Nat) : bsI s' nb n m a b = bsI s nb n m a b := by
  have e1 : tkN s' n = tkN s n := by
    funext b
    unfold tkN
    rw [h79, h76]
  have e2 : lvB s' = lvB s := by
    funext l
    unfold lvB lev
    rw [h17]
  unfold bsI
  rw [e1, e2, h75, h71, h18, mo_eq h75 h76 h77 h79]
end IN2
theorem al_invite (a1 a2 a3 : Int32) : Alike (fX11_invite a1 a2 a3) (fX12_invite a1 a2 a3) := by
  intro s hI
  obtain ⟨nb, n, nq, nm, nd, ga, gb, gc, gd, ge, gf, gg, gh, gi, gj⟩ := id hI
  have h8 := gd.lb
  -- rows that are none
  by_cases hbad : (a1 < 0 ∨ nI 6 ≤ a1) ∨ (a2 < 0 ∨ nI 6 ≤ a2) ∨ (a3 < 0 ∨ nI 6 ≤ a3)
  · refine ⟨-1, s, s, ?_, ?_, hI⟩
    · have hr : ∀ a : Int32, ∃ r, fX11_rowOf a s = some (r, s) ∧ ((a < 0 ∨ nI 6 ≤ a) → r = 0) := fun a => by
        rcases row_cases a with h | ⟨r, hr, rfl⟩
        · exact ⟨0, rowOf_bad h s, fun _ => rfl⟩
        · exact ⟨48 + 2 * r, rowOf_ok hr s, fun z => by
            rcases z with z | z
            · exact absurd z (nI_nonneg (by omega))
            · exact absurd z (Int32.not_le.mpr (nI_lt hr (by decide)))⟩
      obtain ⟨r1, e1, z1⟩ := hr a1
      obtain ⟨r2, e2, z2⟩ := hr a2
      obtain ⟨r3, e3, z3⟩ := hr a3
      unfold fX11_invite
      rw [e1, bnd_some, e2, bnd_some, e3, bnd_some]
      by_cases c1 : r1 = 0
      · rw [if_pos c1]
      · rw [if_neg c1]
        by_cases c2 : r2 = 0
        · rw [if_pos c2]
        · rw [if_neg c2]
          by_cases c3 : r3 = 0
          · rw [if_pos c3]
          · exact absurd hbad (fun h => h.elim (fun z => c1 (z1 z)) (fun h => h.elim (fun z => c2 (z2 z)) (fun z => c3 (z3 z))))
    · have hr : ∀ a : Int32, (fX12_isRow a s = some (0, s)) ∨ (fX12_isRow a s = some (1, s) ∧ ¬ (a < 0 ∨ nI 6 ≤ a)) := fun a => by
        rcases row_cases a with h | ⟨r, hr, rfl⟩
        · exact Or.inl (isRow_bad h s)
        · exact Or.inr ⟨isRow_ok hr s, fun z => by
            rcases z with z | z
            · exact absurd z (nI_nonneg (by omega))
            · exact absurd z (Int32.not_le.mpr (nI_lt hr (by decide)))⟩
      unfold fX12_invite
      rcases hr a1 with e1 | ⟨e1, n1⟩
      · rw [e1, bnd_some, if_pos rfl]
      · rw [e1, bnd_some, if_neg one_ne]
        rcases hr a2 with e2 | ⟨e2, n2⟩
        · rw [e2, bnd_some, if_pos rfl]
        · rw [e2, bnd_some, if_neg one_ne]
          rcases hr a3 with e3 | ⟨e3, n3⟩
          · rw [e3, bnd_some, if_pos rfl]
          · exact absurd hbad (fun h => h.elim n1 (fun h => h.elim n2 n3))
  · obtain ⟨a, ha, rfl⟩ := (row_cases a1).resolve_left (fun z => hbad (Or.inl z))
    obtain ⟨b, hb, rfl⟩ := (row_cases a2).resolve_left (fun z => hbad (Or.inr (Or.inl z)))
    obtain ⟨t, ht, rfl⟩ := (row_cases a3).resolve_left (fun z => hbad (Or.inr (Or.inr z)))
    have cls : fX11_invite (nI a) (nI b) (nI t) s = if (s.1 6 0) = 0 then
        some ((-4), s)
      else
        bnd (fX7_isMissing (48 + 2 * a) s) (fun r12 s13 =>
        if r12 = 0 then
          bnd (fX7_isMissing (48 + 2 * b) s13) (fun r16 s17 =>
          if r16 = 0 then
            if 4 < (s17.1 (48 + 2 * a) 0) then
              bnd (fX10_found 5 s17) (fun r20 s21 =>
              some (r20, s21))
            else
              if (s17.1 (48 + 2 * b) 0) = (s17.1 (48 + 2 * a) 0) then
                bnd (fX7_allWithin (48 + 2 * a) 1 9 s17) (fun r23 s24 =>
                if r23 = 0 then
                  bnd (fX10_found 3 s24) (fun r26 s27 =>
                  some (r26, s27))
                else
                  bnd (fX7_allWithin (48 + 2 * b) 0 99 s24) (fun r28 s29 =>
                  if r28 = 0 then
                    bnd (fX10_found 3 s29) (fun r31 s32 =>
                    some (r31, s32))
                  else
                    bnd (fX2_search (48 + 2 * a) (48 + 2 * b) s29) (fun r33 s34 =>
                    if (s34.1 42 1) = (-9) then
                      some (s34.1 42 1, s34)
                    else
                      bnd (fX7_take_43 (48 + 2 * t) (s34.1 42 0) s34) (fun r37 s38 =>
                      some (s38.1 42 1, s38)))))
              else
                bnd (fX10_found 5 s17) (fun r39 s40 =>
                some (r39, s40))
          else
            bnd (fX10_found 1 s17) (fun r41 s42 =>
            some (r41, s42)))
        else
          bnd (fX10_found 1 s13) (fun r43 s44 =>
          some (r43, s44))) := by
      unfold fX11_invite
      rw [rowOf_ok ha, bnd_some, rowOf_ok hb, bnd_some, rowOf_ok ht, bnd_some, if_neg row_ne, if_neg row_ne, if_neg row_ne, if_pos (rt4 a ha).2]
      simp only [if_pos (rt4 b hb).2, if_pos (rt4 t ht).2]
    by_cases hn : nb = 0
    · subst hn
      refine ⟨-4, s, s, ?_, ?_, hI⟩
      · rw [cls, if_pos (show s.1 6 0 = 0 from gd.b6)]
      · unfold fX12_invite
        rw [isRow_ok ha, bnd_some, if_neg one_ne, isRow_ok hb, bnd_some, if_neg one_ne, isRow_ok ht, bnd_some, if_neg one_ne, if_pos (show s.1 68 10 = 0 from gd.b68)]
    · have nz : ¬ nI nb = 0 := fun z => hn ((eq_num (b := 0) (by omega) (by decide)).mp z)
      rw [cls, gd.b6, if_neg nz]
      obtain ⟨p1, p2, p3⟩ := gb a ha
      obtain ⟨q1, q2, q3⟩ := gb b hb
      -- what is found, alike
      have found : ∀ f : Nat, f < 6 → ((∀ y : Mem, y.1 70 = s.1 70 → y.1 71 = s.1 71 → fX12_needInvited (nI a) (nI b) y = bnd (fX12_meets (nI f) y) (fun r s => some (r, s)))) → ∃ (r : Int32) (s1 s2 : Mem), bnd (fX10_found (nI f) s) (fun r s => some (r, s)) = some (r, s1) ∧ fX12_invite (nI a) (nI b) (nI t) s1 = some (r, s2) ∧ Inv s2 := by
        intro f hf hneed
        obtain ⟨s1, s2, e1, e2, e3⟩ := found_al hI hf
        have k := fnd_q hf e1
        refine ⟨-3, s1, s2, by rw [e1, bnd_some], ?_, e3⟩
        unfold fX12_invite
        rw [isRow_ok ha, bnd_some, if_neg one_ne, isRow_ok hb, bnd_some, if_neg one_ne, isRow_ok ht, bnd_some, if_neg one_ne, k 68 (by decide) (by decide), gd.b68, if_neg nz, hneed s1 (k 70 (by decide) (by decide)) (k 71 (by decide) (by decide)), e2, bnd_some, bnd_some, if_pos (show (-3 : Int32) < 0 by decide)]
      rcases szOk_cases p2 with ⟨hm1, -⟩ | ⟨m1, l1, hm1⟩
      · rw [miss_t (by rw [p1]; exact hm1), bnd_some, if_neg one_ne]
        exact found 1 (by decide) (fun y h70 _ => need_miss ha hb (Or.inl (by rw [h70]; exact hm1)))
      · have c1 : s.1 (48 + 2 * a) 0 = nI m1 := p1.trans hm1
        rw [miss_f c1 l1, bnd_some, if_pos rfl]
        rcases szOk_cases q2 with ⟨hm2, -⟩ | ⟨m2, l2, hm2⟩
        · rw [miss_t (by rw [q1]; exact hm2), bnd_some, if_neg one_ne]
          exact found 1 (by decide) (fun y h70 _ => need_miss ha hb (Or.inr (by rw [h70]; exact hm2)))
        · have c2 : s.1 (48 + 2 * b) 0 = nI m2 := q1.trans hm2
          rw [miss_f c2 l2, bnd_some, if_pos rfl, c1, c2]
          by_cases h4 : 4 < m1
          · rw [if_pos ((num_lt (b := 4) (by omega) (by decide)).mpr h4)]
            exact found 5 (by decide) (fun y h70 _ => need_size ha hb (by rw [h70]; exact hm1) (by rw [h70]; exact hm2) l1 l2 (Or.inl h4))
          · rw [if_neg (fun z => h4 ((num_lt (b := 4) (by omega) (by decide)).mp z))]
            by_cases he : m1 = m2
            · subst he
              rw [if_pos rfl, allW l1 c1, bnd_some]
              have hA : andB (fun i => wiB 1 9 (s.1 (48 + 2 * a + 1) i)) m1 = andB (fun i => wiB 1 9 (s.1 71 (60 * a + i))) m1 := andB_cong m1 (fun i hi => by
                show wiB 1 9 _ = wiB 1 9 _
                rw [e48, p3 i m1 hm1 hi l1])
              have hB : andB (fun i => wiB 0 99 (s.1 (48 + 2 * b + 1) i)) m1 = andB (fun i => wiB 0 99 (s.1 71 (60 * b + i))) m1 := andB_cong m1 (fun i hi => by
                show wiB 0 99 _ = wiB 0 99 _
                rw [e48, q3 i m1 hm2 hi l1])
              have hO : okI s a b m1 = (andB (fun i => wiB 1 9 (s.1 71 (60 * a + i))) m1 && andB (fun i => wiB 0 99 (s.1 71 (60 * b + i))) m1) := andB_and _ _ m1
              have unl : okI s a b m1 = false → ∃ (r : Int32) (s1 s2 : Mem), bnd (fX10_found 3 s) (fun r s => some (r, s)) = some (r, s1) ∧ fX12_invite (nI a) (nI b) (nI t) s1 = some (r, s2) ∧ Inv s2 := fun ho => found 3 (by decide) (fun y h70 h71 => (need_go (m := m1) ha hb (by omega) (by rw [h70]; exact hm1) (by rw [h70]; exact hm2)).1 (by
                unfold okI at ho ⊢
                rw [h71]
                exact ho))
              rw [hA]
              cases hA' : andB (fun i => wiB 1 9 (s.1 71 (60 * a + i))) m1 with
              | false =>
                rw [if_pos (by decide)]
                exact unl (by rw [hO, hA']; rfl)
              | true =>
                rw [if_neg (by decide), allW l1 c2, bnd_some, hB]
                cases hB' : andB (fun i => wiB 0 99 (s.1 71 (60 * b + i))) m1 with
                | false =>
                  rw [if_pos (by decide)]
                  exact unl (by rw [hO, hA', hB']; rfl)
                | true =>
                  have hok : okI s a b m1 = true := by rw [hO, hA', hB']; rfl
                  rw [if_neg (by decide)]
                  obtain ⟨x, ex, mx1, x45, x42, xbc⟩ := searchC hI gd ge ha hb (by omega) hm1 hm2 hok
                  have hIx := Inv_45 hI mx1 x45
                  have hbo := bs_ok (x := s) (nb := nb) (n := n) (show m1 ≤ 4 by omega) hok
                  rw [ex, bnd_some]
                  -- any state with the reference's cells as they were
                  have same : ∀ y : Mem, SmX (fun c => c = 45 ∨ c = 48 + 2 * t ∨ c = 49 + 2 * t) s y → Rd y nb n ∧ y.1 70 a = nI m1 ∧ y.1 70 b = nI m1 ∧ okI y a b m1 = true ∧ bsI y nb n m1 a b = bsI s nb n m1 a b := by
                    intro y hy
                    have k : ∀ q, 70 ≤ q → Cr q → y.1 q = s.1 q := fun q w1 w2 => hy.1 q w2 (by omega)
                    have f : ∀ j, Cf j → y.1 68 j = s.1 68 j := fun j w => hy.2.1 j w (by omega)
                    have k71 := k 71 (by decide) (by unfold Cr; omega)
                    refine ⟨⟨gd.lb, gd.ln, by rw [f 10 (by unfold Cf; omega)]; exact gd.b68, by rw [f 12 (by unfold Cf; omega)]; exact gd.g68, by rw [k 79 (by decide) (by unfold Cr; omega)]; exact gd.sts⟩, ?_, ?_, ?_, ?_⟩
                    · rw [k 70 (by decide) (by unfold Cr; omega)]
                      exact hm1
                    · rw [k 70 (by decide) (by unfold Cr; omega)]
                      exact hm2
                    · unfold okI at hok ⊢
                      rw [k71]
                      exact hok
                    · exact bsI_eq (k 75 (by decide) (by unfold Cr; omega)) (k 76 (by decide) (by unfold Cr; omega)) (k 77 (by decide) (by unfold Cr; omega)) (k 79 (by decide) (by unfold Cr; omega)) k71 (f 17 (by unfold Cf; omega)) (f 18 (by unfold Cf; omega)) nb n m1 a b
                  rcases xbc with ⟨hb0, e42⟩ | ⟨b0, hb0, e42, eb⟩
                  · obtain ⟨rdy, y1, y2, y3, y4⟩ := same x (mx1.mono (fun c hc => Or.inl hc))
                    obtain ⟨y, ey, sy⟩ := (inviteR rdy ha hb ht hn (by omega) y1 y2 y3).1 (y4.trans hb0)
                    exact ⟨-9, x, y, by rw [e42, if_pos rfl], ey, Inv_same hIx sy⟩
                  · have hne : ¬ x.1 42 1 = -9 := fun z => by
                      have h := hbo b0 hb0
                      rw [← e42, z] at h
                      exact absurd h (by decide)
                    obtain ⟨z, ez, mz, z0, zv, zo⟩ := take_any (x := x) (q := 48 + 2 * t) (c := 43) (L := 4) (M := m1) (by omega) (by decide) (by omega) (by omega) (by unfold Cr; omega) (by omega)
                    have ez' : fX7_take_43 (48 + 2 * t) (nI m1) x = some ((), z) := ez
                    have mz' : SmX (fun a => a = 48 + 2 * t ∨ a = 49 + 2 * t) x z := mz.mono (fun c hc => by omega)
                    obtain ⟨rdy, y1, y2, y3, y4⟩ := same z ((mx1.mono (fun c hc => Or.inl hc)).tr (mz'.mono (fun c hc => Or.inr hc)))
                    obtain ⟨y, ey, sy, s70, s71, sv⟩ := (inviteR rdy ha hb ht hn (by omega) y1 y2 y3).2 b0 (y4.trans hb0)
                    refine ⟨b0.1, z, y, ?_, ey, ?_⟩
                    · rw [if_neg hne, x42, ez', bnd_some, zo 42 (by omega) (by omega), e42]
                    · refine Inv_ans hIx ht (by omega) mz' sy z0 s70 s71 (fun i hi => ?_)
                      have e49 : z.1 (49 + 2 * t) i = x.1 43 i := by
                        rw [← e48]
                        exact zv i hi
                      rw [e49, eb i hi, sv i hi]
            · rw [if_neg (fun z => he ((nI_eq (by omega) (by omega)).mp z).symm)]
              exact found 5 (by decide) (fun y h70 _ => need_size ha hb (by rw [h70]; exact hm1) (by rw [h70]; exact hm2) l1 l2 (Or.inr he))
