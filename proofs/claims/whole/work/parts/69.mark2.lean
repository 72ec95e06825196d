-- mark: both sides
section MR2
variable {s : Mem} {nb n : Nat}
theorem farOut4 (x : Int32) : fX0_farOut 4 x 1 s = some (out3 4 x 1, s) := by
  unfold fX0_farOut out3
  have e4 : fX0_ofKind_901 4 s = some (2, s) := ofK1 (k := 4) (by decide)
  rw [nm_eq, e4, bnd_some, ab_eq]
  by_cases hx : x = 0
  · subst hx
    rfl
  · have h1 : ¬ (if x < 0 then 0 - x else x) = 0 := by
      by_cases h : x < 0
      · rw [if_pos h]
        intro z
        apply hx
        rw [Int32.zero_sub] at z
        have h2 : - -x = -(0 : Int32) := congrArg (fun y => -y) z
        rw [Int32.neg_neg] at h2
        exact h2
      · rw [if_neg h]
        exact hx
    rw [if_neg h1, if_neg (by decide), if_pos rfl, if_neg hx]
    rfl
theorem xOf_no (gd : Gd s nb n) : fX0_xOf (-9) s = some (0, s) := by
  unfold fX0_xOf
  rw [isB_f gd.b6 (Or.inl (by decide)), bnd_some, if_pos rfl]
/-- what the class does once the kind passes -/
def cmk (a1 a2 : Int32) (s : Mem) : Option (Int32 × Mem) :=
      bnd (fX0_benchOf a1 s) (fun r12 s13 =>
      if a2 = 1 then
        bnd (fX0_momentOf a1 r12 1 s13) (fun r15 s16 =>
        bnd (fX0_momentOf a1 r12 0 s16) (fun r17 s18 =>
        some (r15 - r17, s18)))
      else if a2 = 2 then
        bnd (fX0_momentOf a1 r12 2 s13) (fun r20 s21 =>
        bnd (fX0_momentOf a1 r12 0 s21) (fun r22 s23 =>
        some (r20 - r22, s23)))
      else if a2 = 3 then
        if r12 = (-9) then
          some ((-9), s13)
        else
          bnd (fX0_whoOn r12 s13) (fun r26 s27 =>
          bnd (fJ6_bitCount_0f7a4 r26 s27) (fun r28 s29 =>
          some (r28 - 1, s29)))
      else if a2 = 4 then
        bnd (fX0_xOf r12 s13) (fun r31 s32 =>
        bnd (fX0_farOut 4 r31 1 s32) (fun r33 s34 =>
        some (r33, s34)))
      else
        bnd (fX0_seatedSet s13) (fun r35 s36 =>
        bnd (fX0_kinOf a1 s36) (fun r37 s38 =>
        bnd (fX0_kinSet r37 s38) (fun r39 s40 =>
        bnd (fJ6_bitCount_0f7a4 ((r35 &&& r39) &&& (((1 : Int32) <<< (a1 &&& 31)) ^^^ (-1))) s40) (fun r41 s42 =>
        some (r41, s42))))))
theorem both_mk (gd : Gd s nb n) (ge : Ge s nb n) {g z : Nat} (hg : g < n) (hz : 1 ≤ z ∧ z ≤ 5) (hk : isz (s.1 76 g) (nI z)) : ∃ v, cmk (nI g) (nI z) s = some (v, s) ∧ tmk (nI g) (nI z) s = some (v, s) := by
  have h7 := gd.ln
  have h8 := gd.lb
  unfold cmk tmk
  rw [benchOf_ok gd hg, bnd_some, if_pos (inb_ok (by omega) (by decide)), ix_nI (by omega), nm_eq]
  have hz5 : z = 1 ∨ z = 2 ∨ z = 3 ∨ z = 4 ∨ z = 5 := by omega
  rcases gd.sts g hg with e | ⟨b, hb, e⟩
  · rw [e]
    have m0 : fX0_momentOf (nI g) (-9) 0 s = some (0, s) := momentOf_no gd (p := 0) hg
    have m1 : fX0_momentOf (nI g) (-9) 1 s = some (0, s) := momentOf_no gd (p := 1) hg
    have m2 : fX0_momentOf (nI g) (-9) 2 s = some (0, s) := momentOf_no gd (p := 2) hg
    rcases hz5 with rfl | rfl | rfl | rfl | rfl
    · exact ⟨0, by rw [if_pos (by decide), m1, bnd_some, m0, bnd_some]; rfl, by rw [if_pos (by decide), if_pos rfl]⟩
    · exact ⟨0, by rw [if_neg (by decide), if_pos (by decide), m2, bnd_some, m0, bnd_some]; rfl, by rw [if_neg (by decide), if_pos (by decide), if_pos rfl]⟩
    · exact ⟨-9, by rw [if_neg (by decide), if_neg (by decide), if_pos (by decide), if_pos rfl], by rw [if_neg (by decide), if_neg (by decide), if_pos (by decide), if_pos rfl]⟩
    · exact ⟨0, by rw [if_neg (by decide), if_neg (by decide), if_neg (by decide), if_pos (by decide), xOf_no gd, bnd_some, farOut4, bnd_some]; rfl, by rw [if_neg (by decide), if_neg (by decide), if_neg (by decide), if_pos (by decide), if_pos rfl]⟩
    · refine ⟨nI (cntN (kst s g) n), ?_, ?_⟩
      · rw [if_neg (by decide), if_neg (by decide), if_neg (by decide), if_neg (by decide), seatedSet_ok gd ge, bnd_some, kinOf_ok gd hg, bnd_some, kinSet_ok gd, bnd_some, b_and _ (msk_lt128 _ h7) _ (msk_lt128 _ h7), msk_and, b_one g (by omega), b_clr g (by omega) _ (msk_lt128 _ h7), msk_clr _ h7 (by omega), bc_ok _ (msk_lt128 _ h7), bnd_some, pc_msk (by omega)]
        rfl
      · rw [if_neg (by decide), if_neg (by decide), if_neg (by decide), if_neg (by decide), kinSeated_ok gd.g68 h7 hg, bnd_some]
  · rw [e]
    have hne : ¬ nI b = -9 := nI_m9 (by omega)
    have m0 : fX0_momentOf (nI g) (nI b) 0 s = some (mom (s.1 75) (s.1 76) (s.1 77) g b 0, s) := momentOf_ok gd ge (p := 0) hg hb (by decide)
    have m1 : fX0_momentOf (nI g) (nI b) 1 s = some (mom (s.1 75) (s.1 76) (s.1 77) g b 1, s) := momentOf_ok gd ge (p := 1) hg hb (by decide)
    have m2 : fX0_momentOf (nI g) (nI b) 2 s = some (mom (s.1 75) (s.1 76) (s.1 77) g b 2, s) := momentOf_ok gd ge (p := 2) hg hb (by decide)
    have q0 : fX12_momentOf (nI g) (nI b) 0 s = some (mom (s.1 75) (s.1 76) (s.1 77) g b 0, s) := mmom_ok (p := 0) (by omega) (by omega) (by decide)
    have q1 : fX12_momentOf (nI g) (nI b) 1 s = some (mom (s.1 75) (s.1 76) (s.1 77) g b 1, s) := mmom_ok (p := 1) (by omega) (by omega) (by decide)
    have q2 : fX12_momentOf (nI g) (nI b) 2 s = some (mom (s.1 75) (s.1 76) (s.1 77) g b 2, s) := mmom_ok (p := 2) (by omega) (by omega) (by decide)
    rcases hz5 with rfl | rfl | rfl | rfl | rfl
    · exact ⟨_, by rw [if_pos (by decide), m1, bnd_some, m0, bnd_some], by rw [if_pos (by decide), if_neg hne, q1, bnd_some, q0, bnd_some]⟩
    · exact ⟨_, by rw [if_neg (by decide), if_pos (by decide), m2, bnd_some, m0, bnd_some], by rw [if_neg (by decide), if_pos (by decide), if_neg hne, q2, bnd_some, q0, bnd_some]⟩
    · exact ⟨_, by rw [if_neg (by decide), if_neg (by decide), if_pos (by decide), if_neg hne, whoOn_ok gd ge hb, bnd_some, bc_ok _ (msk_lt128 _ h7), bnd_some], by rw [if_neg (by decide), if_neg (by decide), if_pos (by decide), if_neg hne, setOn_ok gd.g68 h7, bnd_some, bits_ok (msk_lt128 _ h7), bnd_some]⟩
    · have hk4 : s.1 76 g = 4 := by
        rcases hk with h | ⟨h, _⟩ | ⟨h, _⟩
        · exact h
        · exact absurd h (by decide)
        · exact absurd h (by decide)
      have o1 : fX12_outOf (nI g) (nI b) 1 s = some (out3 (s.1 76 g) (s.1 75 b) 1, s) := outOf_ok (p := 1) (by omega) (by omega) (by decide)
      rw [hk4] at o1
      exact ⟨_, by rw [if_neg (by decide), if_neg (by decide), if_neg (by decide), if_pos (by decide), xOf_ok gd hb, bnd_some, farOut4, bnd_some], by rw [if_neg (by decide), if_neg (by decide), if_neg (by decide), if_pos (by decide), if_neg hne, o1, bnd_some]⟩
    · refine ⟨nI (cntN (kst s g) n), ?_, ?_⟩
      · rw [if_neg (by decide), if_neg (by decide), if_neg (by decide), if_neg (by decide), seatedSet_ok gd ge, bnd_some, kinOf_ok gd hg, bnd_some, kinSet_ok gd, bnd_some, b_and _ (msk_lt128 _ h7) _ (msk_lt128 _ h7), msk_and, b_one g (by omega), b_clr g (by omega) _ (msk_lt128 _ h7), msk_clr _ h7 (by omega), bc_ok _ (msk_lt128 _ h7), bnd_some, pc_msk (by omega)]
        rfl
      · rw [if_neg (by decide), if_neg (by decide), if_neg (by decide), if_neg (by decide), kinSeated_ok gd.g68 h7 hg, bnd_some]
end MR2
theorem al_mark (a1 a2 : Int32) : Alike (fX11_mark a1 a2) (fX12_mark a1 a2) := by
  intro s hI
  obtain ⟨nb, n, nq, nm, nd, ga, gb, gc, gd, ge, gf, gg, gh, gi, gj⟩ := id hI
  have h7 := gd.ln
  rcases pl_cases a1 n (by omega) with hb | ⟨g, hg, rfl⟩
  · exact ⟨-1, s, s, by unfold fX11_mark; rw [isG_f gd.g6 hb, bnd_some, if_pos rfl], by unfold fX12_mark; rw [mG_f gd.g68 (by omega) hb, bnd_some, if_pos rfl], hI⟩
  · by_cases h : a2 < 1 ∨ 5 < a2
    · exact ⟨-1, s, s, by unfold fX11_mark; rw [isG_t gd.g6 (by omega) hg, bnd_some, if_neg one_ne, within_f h, bnd_some, if_pos rfl], by unfold fX12_mark; rw [mG_t gd.g68 (by omega) hg, bnd_some, if_neg one_ne, in_eq, within_f h, bnd_some, if_pos rfl], hI⟩
    · have h1 : ¬ a2 < 1 := fun z => h (Or.inl z)
      have h2 : ¬ 5 < a2 := fun z => h (Or.inr z)
      obtain ⟨z, hz, rfl⟩ : ∃ j : Nat, (1 ≤ j ∧ j ≤ 5) ∧ a2 = nI j := by
        rcases i_cases a2 6 (by decide) with z | z | ⟨j, hj, rfl⟩
        · exact absurd (Int32.lt_trans z (by decide : (0 : Int32) < 1)) h1
        · exact absurd (show (5 : Int32) < a2 from Int32.lt_of_lt_of_le (by decide : (5 : Int32) < nI 6) z.2) h2
        · refine ⟨j, ⟨?_, by omega⟩, rfl⟩
          by_cases h0 : j = 0
          · subst h0
            exact absurd (by decide) h1
          · omega
      have ei : ix (nI g) = g := ix_nI (by omega)
      have hw : ∀ s' : Mem, fX12_in (nI z) 1 5 s' = some (1, s') := fun s' => by rw [in_eq, within_t h1 h2]
      by_cases hk : isz (s.1 76 g) (nI z)
      · obtain ⟨v, hc, ht⟩ := both_mk gd ge hg hz hk
        refine ⟨v, s, s, ?_, ?_, hI⟩
        · rw [← hc]
          unfold fX11_mark
          rw [isG_t gd.g6 (by omega) hg, bnd_some, if_neg one_ne, within_t h1 h2, bnd_some, if_neg one_ne, isOf_t gd hg hk, bnd_some, if_neg one_ne]
          rfl
        · rw [mark_t _ _ s (mG_t gd.g68 (by omega) hg) (hw s) (inb_ok (by omega) (by decide)) (by rw [ei]; exact hk), ht]
      · obtain ⟨s1, s2, e1, e2, hI2⟩ := found_al hI (f := 3) (by decide)
        have e76 : s1.1 76 = s.1 76 ∧ s1.1 68 12 = s.1 68 12 := by
          rw [f_found (by decide)] at e1
          cases e1
          exact ⟨rfl, rfl⟩
        refine ⟨-3, s1, s2, ?_, ?_, hI2⟩
        · unfold fX11_mark
          rw [isG_t gd.g6 (by omega) hg, bnd_some, if_neg one_ne, within_t h1 h2, bnd_some, if_neg one_ne, isOf_f gd hg hz hk, bnd_some, if_pos rfl]
          show bnd (fX10_found (nI 3) s) _ = _
          rw [e1, bnd_some]
        · rw [mark_f _ _ s1 (mG_t (e76.2.trans gd.g68) (by omega) hg) (hw s1) (inb_ok (by omega) (by decide)) (by rw [ei, e76.1]; exact hk)]
          show bnd (fX12_meets (nI 3) s1) _ = _
          rw [e2, bnd_some]
