-- worst, need: the reference's side
section WS2
variable {s : Mem} {nb n nm' : Nat}
/-- the reference's cells while it looks for the worst minute -/
def wst (s : Mem) (f : Nat → Int32) : Nat → Mem
  | 0 => s
  | j + 1 => wI s 68 36 (nI (am f (j + 1)))
def wsx (f : Nat → Int32) : Nat → Int32
  | 0 => -1
  | j + 1 => f (am f (j + 1))
theorem wst_eq (s : Mem) (f : Nat → Int32) (j : Nat) : (wst s f j).1 75 = s.1 75 ∧ (wst s f j).1 76 = s.1 76 ∧ (wst s f j).1 77 = s.1 77 ∧ (wst s f j).1 79 = s.1 79 ∧ (wst s f j).1 80 = s.1 80 ∧ (wst s f j).1 68 18 = s.1 68 18 := by
  cases j with
  | zero => exact ⟨rfl, rfl, rfl, rfl, rfl, rfl⟩
  | succ j => exact ⟨rfl, rfl, rfl, rfl, rfl, rfl⟩
theorem Sm_36 (s : Mem) (v : Int32) : Sm s (wI s 68 36 v) := SmX.wI (by unfold Cr; omega) (fun _ h => by unfold Cf at h; omega) (by omega)
theorem Sm_wst (s : Mem) (f : Nat → Int32) (j : Nat) : Sm s (wst s f j) := by
  cases j with
  | zero => exact SmX.rf s
  | succ j => exact Sm_36 s _
theorem wst_s (s : Mem) (f : Nat → Int32) (j : Nat) : wI (wst s f j) 68 36 (nI (am f (j + 1))) = wst s f (j + 1) := by
  cases j with
  | zero => rfl
  | succ j => exact wI_ov s 68 36 _ _
theorem m1_lt {x : Int32} (h : 0 ≤ x.toInt) : -1 < x := by
  apply Int32.lt_iff_toInt_lt.mpr
  have e : (-1 : Int32).toInt = -1 := by decide
  omega
theorem greater_up {x y : Int32} (h : x < y) (s : Mem) : fX12_greater x y s = some (y, s) := by
  unfold fX12_greater
  have h1 : ¬ y < x := fun z => by
    have a1 := Int32.lt_iff_toInt_lt.mp z
    have a2 := Int32.lt_iff_toInt_lt.mp h
    omega
  rw [if_neg h1]
theorem greater_no {x y : Int32} (h : ¬ x < y) (s : Mem) : fX12_greater x y s = some (x, s) := by
  unfold fX12_greater
  by_cases h1 : y < x
  · rw [if_pos h1]
  · have e : y = x := by
      apply Int32.toInt_inj.mp
      have a1 : ¬ y.toInt < x.toInt := fun z => h1 (Int32.lt_iff_toInt_lt.mpr z)
      have a2 : ¬ x.toInt < y.toInt := fun z => h (Int32.lt_iff_toInt_lt.mpr z)
      omega
    rw [if_neg h1, e]
theorem worst2 (gd : Gd s nb n) (gg : Gg s nm') : fX12_worstNow s = some (sz s n (am (sz s n) nm'), wI s 68 36 (nI (am (sz s n) nm'))) := by
  have h40 := gg.2.1
  have h1 := gg.1
  unfold fX12_worstNow
  have key := lp0 (fun k j => fX12_worstNow_L4 (fun v12 s13 => some (v12, s13)) k (wsx (sz s n) j) (nI j) (wst s (sz s n) j)) (some (wsx (sz s n) nm', wst s (sz s n) nm')) nm' ?_ ?_ (by omega)
  · have e : ∀ m, 1 ≤ m → some (wsx (sz s n) m, wst s (sz s n) m) = some (sz s n (am (sz s n) m), wI s 68 36 (nI (am (sz s n) m))) := by
      intro m hm
      cases m with
      | zero => omega
      | succ m => rfl
    rw [← e nm' h1]
    exact key
  · intro j k hj
    show fX12_worstNow_L4 _ (k + 1) _ (nI j) (wst s (sz s n) j) = fX12_worstNow_L4 _ k _ (nI (j + 1)) (wst s (sz s n) (j + 1))
    have gd2 : Gd (wst s (sz s n) j) nb n := Gd_keep (Sm_wst s _ j) (fun _ _ => id) gd
    have gg2 : Gg (wst s (sz s n) j) nm' := Gg_keep (Sm_wst s _ j) (fun _ _ => id) gg
    obtain ⟨q1, q2, q3, q4, q5, q6⟩ := wst_eq s (sz s n) j
    rw [fX12_worstNow_L4, gg2.2.2.2.1, if_pos (nI_lt hj (by omega)), if_pos (inb_ok (by omega) (by decide)), ix_nI (by omega), mminv_ok gd2 gg2 hj, bnd_some, sizeOf_ok, bnd_some, ← ab_eq, mv_eq q1 q2 q3 q4 q5 q6, nI_1]
    show (if wsx (sz s n) j < sz s n j then bnd (fX12_greater (wsx (sz s n) j) (sz s n j) _) _ else bnd (fX12_greater (wsx (sz s n) j) (sz s n j) _) _) = _
    have hs := ab_small (x := mv s n j) (by have := mv_small gd gg hj; omega) (by have := mv_small gd gg hj; omega)
    cases j with
    | zero =>
      have h2 : wsx (sz s n) 0 < sz s n 0 := m1_lt hs.1
      have e : am (sz s n) 1 = 0 := by
        rw [am, am]
        split <;> rfl
      rw [if_pos h2, greater_up h2, bnd_some]
      show _ = fX12_worstNow_L4 _ k (sz s n (am (sz s n) 1)) (nI 1) (wI s 68 36 (nI (am (sz s n) 1)))
      rw [e]
      rfl
    | succ j =>
      by_cases h2 : wsx (sz s n) (j + 1) < sz s n (j + 1)
      · have e : am (sz s n) (j + 1 + 1) = j + 1 := by
          rw [am]
          exact if_pos h2
        rw [if_pos h2, greater_up h2, bnd_some, ← wst_s s (sz s n) (j + 1), e]
        show _ = fX12_worstNow_L4 _ k (sz s n (am (sz s n) (j + 1 + 1))) _ _
        rw [e]
      · have e : am (sz s n) (j + 1 + 1) = am (sz s n) (j + 1) := by
          rw [am]
          exact if_neg h2
        rw [if_neg h2, greater_no h2, bnd_some, wI_id]
        show _ = fX12_worstNow_L4 _ k (sz s n (am (sz s n) (j + 1 + 1))) _ (wI s 68 36 (nI (am (sz s n) (j + 1 + 1))))
        rw [e]
        rfl
  · intro k
    show fX12_worstNow_L4 _ (k + 1) _ (nI nm') (wst s (sz s n) nm') = _
    have gg2 : Gg (wst s (sz s n) nm') nm' := Gg_keep (Sm_wst s _ nm') (fun _ _ => id) gg
    rw [fX12_worstNow_L4, gg2.2.2.2.1, if_neg (nI_nlt (Nat.le_refl _) (by omega))]
end WS2
theorem al_need : Alike fX11_need fX12_need := by
  intro s hI
  obtain ⟨nb, n, nq, nm, nd, ga, gb, gc, gd, ge, gf, gg, gh, gi, gj⟩ := id hI
  have hm := am_lt (sz s n) gg.1 nm (Nat.le_refl nm)
  unfold fX11_need fX12_need
  rw [worst1 gd ge gg, bnd_some, sizeIn_ok gd ge gg hm, bnd_some]
  by_cases h : 999 < sz s n (am (sz s n) nm)
  · refine ⟨-9, s, wI s 68 36 (nI (am (sz s n) nm)), if_pos h, ?_, Inv_same hI (Sm_36 s _)⟩
    rw [worst2 gd gg, bnd_some, if_pos h]
  · refine ⟨sz s n (am (sz s n) nm), s, wI s 68 36 (nI (am (sz s n) nm)), if_neg h, ?_, Inv_same hI (Sm_36 s _)⟩
    rw [worst2 gd gg, bnd_some, if_neg h]
theorem Ge_told {s : Mem} {nb n : Nat} (v : Int32) (g : Ge s nb n) : Ge (wI s 2 0 v) nb n := Ge_keep (X := fun a => a = 2) (SmX.wI (fun h => rfl) (by omega) (by omega)) (fun a ha => by omega) g
theorem sz_eq (s : Mem) (v : Int32) (n : Nat) : sz (wI s 2 0 v) n = sz s n := by
  funext m
  unfold sz
  rw [mv_eq (s := s) (s' := wI s 2 0 v) rfl rfl rfl rfl rfl rfl]
theorem al_worst : Alike fX11_worst fX12_worst := by
  intro s hI
  obtain ⟨nb, n, nq, nm, nd, ga, gb, gc, gd, ge, gf, gg, gh, gi, gj⟩ := id hI
  have hm := am_lt (sz s n) gg.1 nm (Nat.le_refl nm)
  unfold fX11_worst fX12_worst
  refine ⟨sz s n (am (sz s n) nm), wI s 2 0 (nI (am (sz s n) nm)), wI (wI (wI s 2 0 (nI (am (sz s n) nm))) 68 36 (nI (am (sz s n) nm))) 68 2 (nI (am (sz s n) nm)), ?_, ?_, ?_⟩
  · rw [worst1 gd ge gg, bnd_some, f_tell, bnd_some, sizeIn_ok (Gd_told _ gd) (Ge_told _ ge) (Gg_told _ gg) hm, bnd_some, sz_eq]
  · rw [worst2 (Gd_told _ gd) (Gg_told _ gg), bnd_some, sz_eq, f_tells, bnd_some]
    rfl
  · refine Inv_keep hI (((SmX.wI (fun _ => by unfold Xt; omega) (by omega) (by omega)).tr ((Sm_36 _ _).to)).tr (SmX.wI (by unfold Cr; omega) (fun _ _ => by unfold Xt; omega) (by omega))) ?_
    obtain ⟨h1, h2, h3, h4, h5⟩ := hI.ga
    exact ⟨rfl, h2, h3, h4, h5⟩
