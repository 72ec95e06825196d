-- seatings: bits of benches, the worst minute for any seating, who may sit near
section ST0
variable {s : Mem} {nb n nm' : Nat}
theorem rminv_ok (rd : Rd s nb n) (gg : Gg s nm') {m : Nat} (hm : m < nm') : fX12_listOf (s.1 80 m) (s.1 68 18) s = some (mv s n m, s) := by
  rw [(pv_ok gg hm).2]
  exact rlist_ok rd (pv_ok gg hm).1 _
theorem worst2R (rd : Rd s nb n) (gg : Gg s nm') (hsm : ∀ m, m < nm' → 0 ≤ (sz s n m).toInt) : fX12_worstNow s = some (sz s n (am (sz s n) nm'), wI s 68 36 (nI (am (sz s n) nm'))) := by
  have h40 := gg.2.1
  have h1 := gg.1
  unfold fX12_worstNow
  have key := lp0 (fun k j => fX12_worstNow_L4 (fun v12 s13 => some (v12, s13)) k (wsx (sz s n) j) (nI j) (wst s (sz s n) j)) (some (wsx (sz s n) nm', wst s (sz s n) nm')) nm' ?_ ?_ (by omega)
  · have e : ∀ m, 1 ≤ m → some (wsx (sz s n) m, wst s (sz s n) m) = some (sz s n (am (sz s n) m), wI s 68 36 (nI (am (sz s n) m))) := by
      intro m hm
      cases m with
      | zero => omega
      | succ m => rfl
    rw [← e nm' h1]
    exact key
  · intro j k hj
    show fX12_worstNow_L4 _ (k + 1) _ (nI j) (wst s (sz s n) j) = fX12_worstNow_L4 _ k _ (nI (j + 1)) (wst s (sz s n) (j + 1))
    have rd2 : Rd (wst s (sz s n) j) nb n := Rd_sm rd ((Sm_wst s _ j).to)
    have gg2 : Gg (wst s (sz s n) j) nm' := Gg_keep (Sm_wst s _ j) (fun _ _ => id) gg
    obtain ⟨q1, q2, q3, q4, q5, q6⟩ := wst_eq s (sz s n) j
    rw [fX12_worstNow_L4, gg2.2.2.2.1, if_pos (nI_lt hj (by omega)), if_pos (inb_ok (by omega) (by decide)), ix_nI (by omega), rminv_ok rd2 gg2 hj, bnd_some, sizeOf_ok, bnd_some, ← ab_eq, mv_eq q1 q2 q3 q4 q5 q6, nI_1]
    show (if wsx (sz s n) j < sz s n j then bnd (fX12_greater (wsx (sz s n) j) (sz s n j) _) _ else bnd (fX12_greater (wsx (sz s n) j) (sz s n j) _) _) = _
    have hs := hsm j hj
    cases j with
    | zero =>
      have h2 : wsx (sz s n) 0 < sz s n 0 := m1_lt hs
      have e : am (sz s n) 1 = 0 := by
        rw [am, am]
        split <;> rfl
      rw [if_pos h2, greater_up h2, bnd_some]
      show _ = fX12_worstNow_L4 _ k (sz s n (am (sz s n) 1)) (nI 1) (wI s 68 36 (nI (am (sz s n) 1)))
      rw [e]
      rfl
    | succ j =>
      by_cases h2 : wsx (sz s n) (j + 1) < sz s n (j + 1)
      · have e : am (sz s n) (j + 1 + 1) = j + 1 := by
          rw [am]
          exact if_pos h2
        rw [if_pos h2, greater_up h2, bnd_some, ← wst_s s (sz s n) (j + 1), e]
        show _ = fX12_worstNow_L4 _ k (sz s n (am (sz s n) (j + 1 + 1))) _ _
        rw [e]
      · have e : am (sz s n) (j + 1 + 1) = am (sz s n) (j + 1) := by
          rw [am]
          exact if_neg h2
        rw [if_neg h2, greater_no h2, bnd_some, wI_id]
        show _ = fX12_worstNow_L4 _ k (sz s n (am (sz s n) (j + 1 + 1))) _ (wI s 68 36 (nI (am (sz s n) (j + 1 + 1))))
        rw [e]
        rfl
  · intro k
    show fX12_worstNow_L4 _ (k + 1) _ (nI nm') (wst s (sz s n) nm') = _
    have gg2 : Gg (wst s (sz s n) nm') nm' := Gg_keep (Sm_wst s _ nm') (fun _ _ => id) gg
    rw [fX12_worstNow_L4, gg2.2.2.2.1, if_neg (nI_nlt (Nat.le_refl _) (by omega))]
theorem near_ok {nq : Nat} {f q1 q2 : Nat → Int32} {Q : Nat → Nat → Bool} (h8 : nb ≤ 8) (h7 : n ≤ 7) (hst : ∀ h, h < n → StOk nb (f h)) (hq : Qd q1 q2 n nq) (hQ1 : ∀ g i, g < 7 → i < 7 → (Q g i = true ↔ FOq q1 q2 nq g i)) {g b : Nat} (hg : g < n) (hb : b < nb) : nI (msk (fun h => decide (h < n) && (decide (f h = nI b - 1) || decide (f h = nI b) || decide (f h = nI b + 1))) 7 &&& msk (Q g) 7) = 0 ↔ okQ q1 q2 (upd f g (nI b)) nq g := by
  have hst' : ∀ h, h < n → StOk nb (upd f g (nI b) h) := by
    intro h hh
    by_cases c : h = g
    · rw [c, uq_s]
      exact Or.inr ⟨b, hb, rfl⟩
    · rw [uq_n _ _ c]
      exact hst h hh
  rw [msk_and, show (0 : Int32) = nI 0 from rfl, nI_eq (by have := msk_lt128 (fun h => (decide (h < n) && (decide (f h = nI b - 1) || decide (f h = nI b) || decide (f h = nI b + 1))) && Q g h) (show 7 ≤ 7 by decide); omega) (by decide), msk_z, okQ_iff hq h7 h8 hst' hg]
  constructor
  · intro hz h hh hfo
    have hne2 : h ≠ g := by
      obtain ⟨q, hq1, hc⟩ := hfo
      obtain ⟨a, b', ha, hb', hab, ea, eb⟩ := hq.2 q hq1
      intro z
      subst z
      rw [ea, eb] at hc
      rcases hc with ⟨c1, c2⟩ | ⟨c1, c2⟩
      · exact hab (((nI_eq (by omega) (by omega)).mp c1).trans ((nI_eq (by omega) (by omega)).mp c2).symm)
      · exact hab (((nI_eq (by omega) (by omega)).mp c1).trans ((nI_eq (by omega) (by omega)).mp c2).symm)
    refine ⟨hne2, ?_⟩
    rw [uq_s, uq_n _ _ hne2]
    rintro ⟨n1, n2, n3⟩
    have hzh := hz h (by omega)
    rw [(hQ1 g h (by omega) (by omega)).mpr hfo, Bool.and_true, decide_eq_true hh, Bool.true_and] at hzh
    rcases hst h hh with e | ⟨c, hc, e⟩
    · exact n2 e
    · rw [e] at hzh n3
      have := (nr_tab b (by omega) c (by omega)).1.mpr n3
      rcases this with t | t | t
      · rw [decide_eq_true t] at hzh
        exact absurd hzh (by simp)
      · rw [decide_eq_true t, Bool.or_true] at hzh
        exact absurd hzh (by simp)
      · rw [decide_eq_true t, Bool.or_true] at hzh
        exact absurd hzh (by simp)
  · intro hf h h7'
    by_cases hh : h < n
    · cases hqg : Q g h with
      | false => rw [Bool.and_false]
      | true =>
        obtain ⟨hne2, hnr⟩ := hf h hh ((hQ1 g h (by omega) h7').mp hqg)
        rw [uq_s, uq_n _ _ hne2] at hnr
        rw [Bool.and_true, decide_eq_true hh, Bool.true_and]
        rcases hst h hh with e | ⟨c, hc, e⟩
        · rw [e, decide_eq_false (m9_nI (by omega)), nI_1, decide_eq_false (m9_nI (by omega))]
          rcases nI_sub1 (b := b) with z | ⟨k, hk', z⟩
          · rw [z]
            decide
          · rw [z, decide_eq_false (m9_nI (by omega))]
            rfl
        · rw [e] at hnr ⊢
          have : ¬ (nI c = nI b - 1 ∨ nI c = nI b ∨ nI c = nI b + 1) := fun z => hnr ⟨nI_m9 (by omega), nI_m9 (by omega), (nr_tab b (by omega) c (by omega)).1.mp z⟩
          rw [decide_eq_false (fun z => this (Or.inl z)), decide_eq_false (fun z => this (Or.inr (Or.inl z))), decide_eq_false (fun z => this (Or.inr (Or.inr z)))]
          rfl
    · rw [decide_eq_false hh]
      rfl
end ST0
-- numbers below 256
theorem bc_256 : ∀ m, m < 256 → ∀ s : Mem, fJ6_bitCount_0f7a4 (nI m) s = some (nI (pcN m), s) := by
  have h : ∀ m, m < 256 → (fJ6_bitCount_0f7a4 (nI m) ((fun _ _ => 0, fun _ _ => 0) : Mem)).map (·.1) = some (nI (pcN m)) := by decide +kernel
  intro m hm s
  have h2 := h m hm
  unfold fJ6_bitCount_0f7a4 at h2 ⊢
  simp only [nm_eq, Option.map_some, Option.some.injEq] at h2 ⊢
  rw [h2]
theorem low_256 : ∀ m, m < 256 → m ≠ 0 → nI m &&& (nI m - 1) = nI (m &&& (m - 1)) ∧ pcN (m &&& (m - 1)) + 1 = pcN m ∧ (m &&& (m - 1)) < m ∧ ¬ nI m = 0 := by decide +kernel
theorem bitsL_256 (κ : Int32 → Mem → Option (Int32 × Mem)) (s : Mem) : ∀ (p k m : Nat) (x : Nat), m < 256 → pcN m = p → p < k → fX12_bits_L4 κ k (nI x) (nI m) s = κ (nI (x + p)) s
  | 0, k + 1, m, x, hm, hp, hk => by
    by_cases h0 : m = 0
    · subst h0
      rw [fX12_bits_L4, if_pos (show nI 0 = 0 from rfl)]
      rfl
    · have := (low_256 m hm h0).2.1
      omega
  | p + 1, k + 1, m, x, hm, hp, hk => by
    by_cases h0 : m = 0
    · subst h0
      have : pcN 0 = 0 := by decide
      omega
    · obtain ⟨h1, h2, h3, h4⟩ := low_256 m hm h0
      rw [fX12_bits_L4, if_neg h4, nm_eq, h1, nI_1, bitsL_256 κ s p k _ (x + 1) (by omega) (by omega) (by omega)]
      rw [show x + 1 + p = x + (p + 1) by omega]
theorem bits_256 {m : Nat} (hm : m < 256) (s : Mem) : fX12_bits (nI m) s = some (nI (pcN m), s) := by
  have h1 : pcN m ≤ 8 := cntN_le _ _
  unfold fX12_bits
  have h := bitsL_256 (fun v3 s4 => some (v3, s4)) s (pcN m) FU m 0 hm rfl (by unfold FU; omega)
  rw [Nat.zero_add] at h
  exact h
theorem b_or8 : ∀ g, g < 8 → ∀ m, m < 256 → nI m ||| nI (2 ^ g) = nI (m ||| 2 ^ g) ∧ (m ||| 2 ^ g) < 256 := by decide +kernel
