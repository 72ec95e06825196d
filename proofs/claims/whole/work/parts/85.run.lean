-- the run of the law, call by call
theorem lg_cmp_self (x : Int64) : lg_cmp x x = 0 := by simp [lg_cmp]
theorem run_fin {o : Option (Int32 × Mem)} {s' : Mem} (h : o = some (1, s')) : ∃ s', o = some (1, s') := ⟨s', h⟩
set_option maxHeartbeats 4000000 in
theorem law_run (L : Nat) (xs : Nat → Int32) (hL : L ≤ 3072) : ∀ (k i : Nat) (s : Mem), Inv s → i ≤ L → L + 1 ≤ i + 6 * k → ∃ s', fL_L18 L xs (k + 1) (nI i) s = some (1, s') := by
  intro k
  induction k with
  | zero => intro i s hI hi hk; omega
  | succ k ih =>
    intro i s hI hi hk
    rw [fL_L18]
    have hsub : (nI L - 6).toInt = (L : Int) - 6 := pk_sub_toInt (a := L) (b := 6) (by omega) (by omega)
    have hit : (nI i).toInt = (i : Int) := nI_toInt (by omega)
    by_cases hx : (nI L) - 6 < nI i
    · rw [if_pos hx]
      exact ⟨s, rfl⟩
    · rw [if_neg hx]
      have hle : i + 6 ≤ L := by
        have h1 := Int32.not_lt.mp hx
        rw [Int32.le_iff_toInt_le, hsub, hit] at h1
        omega
      have e0 : inb (nI i) L = true := inb_ok (by omega) (by omega)
      have e1 : inb (nI i + 1) L = true := by rw [nI_1]; exact inb_ok (by omega) (by omega)
      have e2 : inb (nI i + 2) L = true := by rw [show nI i + 2 = nI (i + 2) from nI_add i 2]; exact inb_ok (by omega) (by omega)
      have e3 : inb (nI i + 3) L = true := by rw [show nI i + 3 = nI (i + 3) from nI_add i 3]; exact inb_ok (by omega) (by omega)
      have e4 : inb (nI i + 4) L = true := by rw [show nI i + 4 = nI (i + 4) from nI_add i 4]; exact inb_ok (by omega) (by omega)
      have e5 : inb (nI i + 5) L = true := by rw [show nI i + 5 = nI (i + 5) from nI_add i 5]; exact inb_ok (by omega) (by omega)
      have e6 : nI i + 6 = nI (i + 6) := nI_add i 6
      obtain ⟨k', rfl⟩ : ∃ k', k = k' + 1 := ⟨k - 1, by omega⟩
      have go : ∀ s', Inv s' → ∃ s'', fL_L18 L xs (k' + 1 + 1) (nI i + 6) s' = some (1, s'') := fun s' hs' => by
        rw [e6]
        exact ih (i + 6) s' hs' hle (by omega)
      clear ih hsub hit hx hk
      rw [if_pos e0]
      generalize xs (ix (nI i)) &&& 63 = v at *
      generalize xs (ix (nI i + 1)) = v1 at *
      generalize xs (ix (nI i + 2)) = v2 at *
      generalize xs (ix (nI i + 3)) = v3 at *
      generalize xs (ix (nI i + 4)) = v4 at *
      generalize xs (ix (nI i + 5)) = v5 at *
      by_cases c0 : v = 0
      · obtain ⟨r, s1, s2, h1, h2, h3⟩ := al_row v1 v2 s hI
        rw [if_pos c0, if_pos e1, if_pos e2, h1, bnd_some, if_pos e1, if_pos e2, h2, bnd_some, if_pos rfl]
        exact go s2 h3
      rw [if_neg c0]
      by_cases c1 : v = 1
      · obtain ⟨r, s1, s2, h1, h2, h3⟩ := al_lay v1 v2 v3 s hI
        rw [if_pos c1, if_pos e1, if_pos e2, if_pos e3, h1, bnd_some, if_pos e1, if_pos e2, if_pos e3, h2, bnd_some, if_pos rfl]
        exact go s2 h3
      rw [if_neg c1]
      by_cases c2 : v = 2
      · obtain ⟨r, s1, s2, h1, h2, h3⟩ := al_at v1 v2 s hI
        rw [if_pos c2, if_pos e1, if_pos e2, h1, bnd_some, if_pos e1, if_pos e2, h2, bnd_some, if_pos rfl]
        exact go s2 h3
      rw [if_neg c2]
      by_cases c3 : v = 3
      · obtain ⟨r, s1, s2, h1, h2, h3⟩ := al_tear v1 s hI
        rw [if_pos c3, if_pos e1, h1, bnd_some, if_pos e1, h2, bnd_some, if_pos rfl]
        exact go s2 h3
      rw [if_neg c3]
      by_cases c4 : v = 4
      · obtain ⟨r, s1, s2, h1, h2, h3⟩ := al_copy v1 v2 v3 v4 v5 s hI
        rw [if_pos c4, if_pos e1, if_pos e2, if_pos e3, if_pos e4, if_pos e5, h1, bnd_some, if_pos e1, if_pos e2, if_pos e3, if_pos e4, if_pos e5, h2, bnd_some, if_pos rfl]
        exact go s2 h3
      rw [if_neg c4]
      by_cases c5 : v = 5
      · obtain ⟨r, s1, s2, h1, h2, h3⟩ := al_mean v1 s hI
        rw [if_pos c5, if_pos e1, h1, bnd_some, if_pos e1, h2, bnd_some, if_pos rfl]
        exact go s2 h3
      rw [if_neg c5]
      by_cases c6 : v = 6
      · obtain ⟨r, s1, s2, h1, h2, h3⟩ := al_text v1 v2 s hI
        rw [if_pos c6, if_pos e1, if_pos e2, h1, bnd_some, if_pos e1, if_pos e2, h2, bnd_some, if_pos rfl]
        exact go s2 h3
      rw [if_neg c6]
      by_cases c7 : v = 7
      · obtain ⟨r, s1, s2, h1, h2, h3⟩ := al_put v1 v2 v3 s hI
        rw [if_pos c7, if_pos e1, if_pos e2, if_pos e3, h1, bnd_some, if_pos e1, if_pos e2, if_pos e3, h2, bnd_some, if_pos rfl]
        exact go s2 h3
      rw [if_neg c7]
      by_cases c8 : v = 8
      · rw [if_pos c8, if_pos e1, if_pos e2]
        by_cases hz : v2 = 0
        · obtain ⟨r, s1, s2, h1, h2, h3⟩ := al_fault v1 0 (Or.inl rfl) s hI
          rw [if_pos hz, h1, bnd_some, if_pos e1, if_pos e2, if_pos hz, h2, bnd_some, if_pos rfl]
          exact go s2 h3
        · obtain ⟨r, s1, s2, h1, h2, h3⟩ := al_fault v1 1 (Or.inr rfl) s hI
          rw [if_neg hz, h1, bnd_some, if_pos e1, if_pos e2, if_neg hz, h2, bnd_some, if_pos rfl]
          exact go s2 h3
      rw [if_neg c8]
      by_cases c9 : v = 9
      · obtain ⟨r, s1, s2, h1, h2, h3⟩ := al_barge v1 s hI
        rw [if_pos c9, if_pos e1, h1, bnd_some, if_pos e1, h2, bnd_some, if_pos rfl]
        exact go s2 h3
      rw [if_neg c9]
      by_cases c10 : v = 10
      · obtain ⟨r, s1, s2, h1, h2, h3⟩ := al_rite v1 s hI
        rw [if_pos c10, if_pos e1, h1, bnd_some, if_pos e1, h2, bnd_some, if_pos rfl]
        exact go s2 h3
      rw [if_neg c10]
      by_cases c11 : v = 11
      · obtain ⟨r, s1, s2, h1, h2, h3⟩ := al_bench v1 v2 s hI
        rw [if_pos c11, if_pos e1, if_pos e2, h1, bnd_some, if_pos e1, if_pos e2, h2, bnd_some, if_pos rfl]
        exact go s2 h3
      rw [if_neg c11]
      by_cases c12 : v = 12
      · obtain ⟨r, s1, s2, h1, h2, h3⟩ := al_guest v1 v2 s hI
        rw [if_pos c12, if_pos e1, if_pos e2, h1, bnd_some, if_pos e1, if_pos e2, h2, bnd_some, if_pos rfl]
        exact go s2 h3
      rw [if_neg c12]
      by_cases c13 : v = 13
      · obtain ⟨r, s1, s2, h1, h2, h3⟩ := al_mark v1 v2 s hI
        rw [if_pos c13, if_pos e1, if_pos e2, h1, bnd_some, if_pos e1, if_pos e2, h2, bnd_some, if_pos rfl]
        exact go s2 h3
      rw [if_neg c13]
      by_cases c14 : v = 14
      · obtain ⟨r, s1, s2, h1, h2, h3⟩ := al_limit v1 s hI
        rw [if_pos c14, if_pos e1, h1, bnd_some, if_pos e1, h2, bnd_some, if_pos rfl]
        exact go s2 h3
      rw [if_neg c14]
      by_cases c15 : v = 15
      · obtain ⟨r, s1, s2, h1, h2, h3⟩ := al_rain v1 s hI
        rw [if_pos c15, if_pos e1, h1, bnd_some, if_pos e1, h2, bnd_some, if_pos rfl]
        exact go s2 h3
      rw [if_neg c15]
      by_cases c16 : v = 16
      · obtain ⟨r, s1, s2, h1, h2, h3⟩ := al_quarrel v1 v2 s hI
        rw [if_pos c16, if_pos e1, if_pos e2, h1, bnd_some, if_pos e1, if_pos e2, h2, bnd_some, if_pos rfl]
        exact go s2 h3
      rw [if_neg c16]
      by_cases c17 : v = 17
      · obtain ⟨r, s1, s2, h1, h2, h3⟩ := al_peace v1 s hI
        rw [if_pos c17, if_pos e1, h1, bnd_some, if_pos e1, h2, bnd_some, if_pos rfl]
        exact go s2 h3
      rw [if_neg c17]
      by_cases c18 : v = 18
      · obtain ⟨r, s1, s2, h1, h2, h3⟩ := al_seat v1 v2 s hI
        rw [if_pos c18, if_pos e1, if_pos e2, h1, bnd_some, if_pos e1, if_pos e2, h2, bnd_some, if_pos rfl]
        exact go s2 h3
      rw [if_neg c18]
      by_cases c19 : v = 19
      · obtain ⟨r, s1, s2, h1, h2, h3⟩ := al_rise v1 s hI
        rw [if_pos c19, if_pos e1, h1, bnd_some, if_pos e1, h2, bnd_some, if_pos rfl]
        exact go s2 h3
      rw [if_neg c19]
      by_cases c20 : v = 20
      · obtain ⟨r, s1, s2, h1, h2, h3⟩ := al_change v1 v2 s hI
        rw [if_pos c20, if_pos e1, if_pos e2, h1, bnd_some, if_pos e1, if_pos e2, h2, bnd_some, if_pos rfl]
        exact go s2 h3
      rw [if_neg c20]
      by_cases c21 : v = 21
      · obtain ⟨r, s1, s2, h1, h2, h3⟩ := al_undo s hI
        rw [if_pos c21, h1, bnd_some, h2, bnd_some, if_pos rfl]
        exact go s2 h3
      rw [if_neg c21]
      by_cases c22 : v = 22
      · obtain ⟨r, s1, s2, h1, h2, h3⟩ := al_keep v1 s hI
        rw [if_pos c22, if_pos e1, h1, bnd_some, if_pos e1, h2, bnd_some, if_pos rfl]
        exact go s2 h3
      rw [if_neg c22]
      by_cases c23 : v = 23
      · obtain ⟨r, s1, s2, h1, h2, h3⟩ := al_on v1 s hI
        rw [if_pos c23, if_pos e1, h1, bnd_some, if_pos e1, h2, bnd_some, if_pos rfl]
        exact go s2 h3
      rw [if_neg c23]
      by_cases c24 : v = 24
      · obtain ⟨r, s1, s2, h1, h2, h3⟩ := al_list v1 s hI
        rw [if_pos c24, if_pos e1, h1, bnd_some, if_pos e1, h2, bnd_some, if_pos rfl]
        exact go s2 h3
      rw [if_neg c24]
      by_cases c25 : v = 25
      · obtain ⟨r, s1, s2, h1, h2, h3⟩ := al_when s hI
        rw [if_pos c25, h1, bnd_some, h2, bnd_some, if_pos rfl]
        exact go s2 h3
      rw [if_neg c25]
      by_cases c26 : v = 26
      · obtain ⟨r, s1, s2, h1, h2, h3⟩ := al_minutes s hI
        rw [if_pos c26, h1, bnd_some, h2, bnd_some, if_pos rfl]
        exact go s2 h3
      rw [if_neg c26]
      by_cases c27 : v = 27
      · obtain ⟨r, s1, s2, h1, h2, h3⟩ := al_worst s hI
        rw [if_pos c27, h1, bnd_some, h2, bnd_some, if_pos rfl]
        exact go s2 h3
      rw [if_neg c27]
      by_cases c28 : v = 28
      · obtain ⟨r, s1, s2, h1, h2, h3⟩ := al_need s hI
        rw [if_pos c28, h1, bnd_some, h2, bnd_some, if_pos rfl]
        exact go s2 h3
      rw [if_neg c28]
      by_cases c29 : v = 29
      · obtain ⟨r, s1, s2, h1, h2, h3⟩ := al_best v1 s hI
        rw [if_pos c29, if_pos e1, h1, bnd_some, if_pos e1, h2, bnd_some, if_pos rfl]
        exact go s2 h3
      rw [if_neg c29]
      by_cases c30 : v = 30
      · obtain ⟨r, s1, s2, h1, h2, h3⟩ := al_ways s hI
        rw [if_pos c30, h1, bnd_some, h2, bnd_some, if_pos rfl]
        exact go s2 h3
      rw [if_neg c30]
      by_cases c31 : v = 31
      · obtain ⟨r, s1, s2, h1, h2, h3⟩ := al_sure s hI
        rw [if_pos c31, h1, bnd_some, h2, bnd_some, if_pos rfl]
        exact go s2 h3
      rw [if_neg c31]
      by_cases c32 : v = 32
      · obtain ⟨r, s1, s2, h1, h2, h3⟩ := al_where v1 s hI
        rw [if_pos c32, if_pos e1, h1, bnd_some, if_pos e1, h2, bnd_some, if_pos rfl]
        exact go s2 h3
      rw [if_neg c32]
      by_cases c33 : v = 33
      · obtain ⟨r, s1, s2, h1, h2, h3⟩ := al_aisle s hI
        rw [if_pos c33, h1, bnd_some, h2, bnd_some, if_pos rfl]
        exact go s2 h3
      rw [if_neg c33]
      by_cases c34 : v = 34
      · obtain ⟨r, s1, s2, h1, h2, h3⟩ := al_leave v1 s hI
        rw [if_pos c34, if_pos e1, h1, bnd_some, if_pos e1, h2, bnd_some, if_pos rfl]
        exact go s2 h3
      rw [if_neg c34]
      by_cases c35 : v = 35
      · obtain ⟨r, s1, s2, h1, h2, h3⟩ := al_leavers s hI
        rw [if_pos c35, h1, bnd_some, h2, bnd_some, if_pos rfl]
        exact go s2 h3
      rw [if_neg c35]
      by_cases c36 : v = 36
      · obtain ⟨r, s1, s2, h1, h2, h3⟩ := al_invite v1 v2 v3 s hI
        rw [if_pos c36, if_pos e1, if_pos e2, if_pos e3, h1, bnd_some, if_pos e1, if_pos e2, if_pos e3, h2, bnd_some, if_pos rfl]
        exact go s2 h3
      rw [if_neg c36]
      by_cases c37 : v = 37
      · obtain ⟨r, s1, s2, h1, h2, h3⟩ := al_far v1 v2 s hI
        rw [if_pos c37, if_pos e1, if_pos e2, h1, bnd_some, if_pos e1, if_pos e2, h2, bnd_some, if_pos rfl]
        exact go s2 h3
      rw [if_neg c37]
      by_cases c38 : v = 38
      · obtain ⟨r, s1, s2, h1, h2, h3⟩ := al_crossed s hI
        rw [if_pos c38, h1, bnd_some, h2, bnd_some, if_pos rfl]
        exact go s2 h3
      rw [if_neg c38]
      by_cases c39 : v = 39
      · obtain ⟨r, s1, s2, h1, h2, h3⟩ := al_divorce s hI
        rw [if_pos c39, h1, bnd_some, h2, bnd_some, if_pos rfl]
        exact go s2 h3
      rw [if_neg c39]
      by_cases c40 : v = 40
      · obtain ⟨r, s1, s2, h1, h2, h3⟩ := al_kin v1 s hI
        rw [if_pos c40, if_pos e1, h1, bnd_some, if_pos e1, h2, bnd_some, if_pos rfl]
        exact go s2 h3
      rw [if_neg c40]
      by_cases c41 : v = 41
      · obtain ⟨r, s1, s2, h1, h2, h3⟩ := al_odds v1 v2 s hI
        rw [if_pos c41, if_pos e1, if_pos e2, h1, bnd_some, if_pos e1, if_pos e2, h2, bnd_some, if_pos rfl]
        exact go s2 h3
      rw [if_neg c41]
      by_cases c42 : v = 42
      · obtain ⟨r, s1, s2, h1, h2, h3⟩ := al_storm v1 s hI
        rw [if_pos c42, if_pos e1, h1, bnd_some, if_pos e1, h2, bnd_some, if_pos rfl]
        exact go s2 h3
      rw [if_neg c42]
      by_cases c43 : v = 43
      · obtain ⟨r, s1, s2, h1, h2, h3⟩ := al_asked s hI
        rw [if_pos c43, h1, bnd_some, h2, bnd_some, if_pos rfl]
        exact go s2 h3
      rw [if_neg c43]
      by_cases c44 : v = 44
      · obtain ⟨r, s1, s2, h1, h2, h3⟩ := al_upper s hI
        rw [if_pos c44, h1, bnd_some, h2, bnd_some, if_pos (lg_cmp_self r)]
        exact go s2 h3
      rw [if_neg c44]
      by_cases c45 : v = 45
      · obtain ⟨r, s1, s2, h1, h2, h3⟩ := al_lower s hI
        rw [if_pos c45, h1, bnd_some, h2, bnd_some, if_pos (lg_cmp_self r)]
        exact go s2 h3
      rw [if_neg c45]
      by_cases c46 : v = 46
      · obtain ⟨r, s1, s2, h1, h2, h3⟩ := al_count v1 s hI
        rw [if_pos c46, if_pos e1, h1, bnd_some, if_pos e1, h2, bnd_some, if_pos rfl]
        exact go s2 h3
      rw [if_neg c46]
      by_cases c47 : v = 47
      · obtain ⟨r, s1, s2, h1, h2, h3⟩ := al_finding s hI
        rw [if_pos c47, h1, bnd_some, h2, bnd_some, if_pos rfl]
        exact go s2 h3
      rw [if_neg c47]
      by_cases c48 : v = 48
      · obtain ⟨r, s1, s2, h1, h2, h3⟩ := al_findings v1 s hI
        rw [if_pos c48, if_pos e1, h1, bnd_some, if_pos e1, h2, bnd_some, if_pos rfl]
        exact go s2 h3
      rw [if_neg c48]
      by_cases c49 : v = 49
      · obtain ⟨r, s1, s2, h1, h2, h3⟩ := al_digest s hI
        rw [if_pos c49, h1, bnd_some, h2, bnd_some, if_pos (lg_cmp_self r)]
        exact go s2 h3
      rw [if_neg c49]
      exact go s hI
theorem pure_main (L : Nat) (xs : Nat → Int32) (hL : L ≤ 3072) : ∃ (k : Nat) (s' : Mem), fL_L18 L xs k 0 sInit = some (1, s') := by
  obtain ⟨s', h⟩ := law_run L xs hL (L + 1) 0 sInit inv_init (Nat.zero_le _) (by omega)
  exact ⟨_, s', h⟩
