-- odds, storm
def om (a j : Nat) : Int32 := (0 - nI a) + nI j
theorem om_s (a j : Nat) : om a j + 1 = om a (j + 1) := by
  unfold om
  rw [Int32.add_assoc, nI_1]
theorem om_lt {a j : Nat} (ha : a ≤ 200) (hj : j ≤ 500) : nI a < om a j ↔ 2 * a < j := by
  have e : om a j = nI j - nI a := by
    unfold om
    rw [Int32.zero_sub, Int32.add_comm, ← Int32.sub_eq_add_neg]
  rw [e, Int32.lt_iff_toInt_lt, pk_sub_toInt (by omega) (by omega), nI_toInt (by omega)]
  omega
section ODD
variable {s : Mem} {nb n nm' : Nat}
def oko (s : Mem) (a : Nat) (d : Int32) (j : Nat) : Bool := decide (lev s (om a j + d) ≠ 0)
theorem odds1 (gd : Gd s nb n) {a : Nat} (ha : a ≤ 200) (d : Int32) (κ : Int32 → Mem → Option (Int32 × Mem)) : fX11_odds_L36 κ (nI a) d FU 0 (0 - nI a) s = κ (nI (cntN (oko s a d) (2 * a + 1))) s := by
  have key := lp0 (fun k j => fX11_odds_L36 κ (nI a) d k (nI (cntN (oko s a d) j)) (om a j) s) (κ (nI (cntN (oko s a d) (2 * a + 1))) s) (2 * a + 1) ?_ ?_ (by omega)
  · rw [← key]
    show _ = fX11_odds_L36 κ (nI a) d FU (nI 0) ((0 - nI a) + 0) s
    rw [Int32.add_zero]
    rfl
  · intro j k hj
    show fX11_odds_L36 κ (nI a) d (k + 1) _ (om a j) s = fX11_odds_L36 κ (nI a) d k _ (om a (j + 1)) s
    rw [fX11_odds_L36, if_neg (fun z => by have := (om_lt ha (by omega)).mp z; omega), isLevel_ok gd, bnd_some, cntN, nI_1, om_s, Int32.add_comm d]
    by_cases hb : lev s (om a j + d) = 0
    · have h3 : oko s a d j = false := decide_eq_false (fun z => z hb)
      rw [if_pos hb, h3]
      rfl
    · have h3 : oko s a d j = true := decide_eq_true hb
      rw [if_neg hb, h3]
      rfl
  · intro k
    show fX11_odds_L36 κ (nI a) d (k + 1) _ (om a (2 * a + 1)) s = _
    rw [fX11_odds_L36, if_pos ((om_lt ha (by omega)).mpr (by omega))]
theorem odds2 (gd : Gd s nb n) {a p : Nat} (ha : a ≤ 200) (hp : p < 3) (κ : Int32 → Mem → Option (Int32 × Mem)) : fX12_odds_L28 κ (nI p) (nI a) FU 0 (0 - nI a) s = κ (nI (cntN (oko s a (sumI (mo s p) n)) (2 * a + 1))) s := by
  have key := lp0 (fun k j => fX12_odds_L28 κ (nI p) (nI a) k (nI (cntN (oko s a (sumI (mo s p) n)) j)) (om a j) s) (κ (nI (cntN (oko s a (sumI (mo s p) n)) (2 * a + 1))) s) (2 * a + 1) ?_ ?_ (by omega)
  · rw [← key]
    show _ = fX12_odds_L28 κ (nI p) (nI a) FU (nI 0) ((0 - nI a) + 0) s
    rw [Int32.add_zero]
    rfl
  · intro j k hj
    show fX12_odds_L28 κ (nI p) (nI a) (k + 1) _ (om a j) s = fX12_odds_L28 κ (nI p) (nI a) k _ (om a (j + 1)) s
    rw [fX12_odds_L28, if_neg (fun z => by have := (om_lt ha (by omega)).mp z; omega), mlist_ok gd hp, bnd_some, mLevel_ok, bnd_some, cntN]
    simp only [nm_eq, nI_1, Int32.add_zero, om_s]
    by_cases hb : lev s (om a j + sumI (mo s p) n) = 0
    · have h3 : oko s a (sumI (mo s p) n) j = false := decide_eq_false (fun z => z hb)
      rw [if_pos hb, h3]
      rfl
    · have h3 : oko s a (sumI (mo s p) n) j = true := decide_eq_true hb
      rw [if_neg hb, h3]
      rfl
  · intro k
    show fX12_odds_L28 κ (nI p) (nI a) (k + 1) _ (om a (2 * a + 1)) s = _
    rw [fX12_odds_L28, if_pos ((om_lt ha (by omega)).mpr (by omega))]
end ODD
theorem two_a (a : Nat) : (2 : Int32) * nI a + 1 = nI (2 * a + 1) := by
  rw [show (2 : Int32) = nI 2 from rfl, pk_mul, nI_1]
theorem al_odds (a1 a2 : Int32) : Alike (fX11_odds a1 a2) (fX12_odds a1 a2) := by
  intro s hI
  obtain ⟨nb, n, nq, nm, nd, ga, gb, gc, gd, ge, gf, gg, gh, gi, gj⟩ := id hI
  unfold fX11_odds fX12_odds
  by_cases h : a1 < 0 ∨ 2 < a1
  · exact ⟨-1, s, s, by rw [posture_f h, bnd_some, if_pos rfl], by rw [in_eq, within_f h, bnd_some, if_pos rfl], hI⟩
  · have h1 : ¬ a1 < 0 := fun z => h (Or.inl z)
    have h2 : ¬ 2 < a1 := fun z => h (Or.inr z)
    obtain ⟨p, hp, rfl⟩ := rng_nI (n := 2) (by decide) h1 h2
    by_cases h' : a2 < 0 ∨ 200 < a2
    · exact ⟨-1, s, s, by rw [posture_t (by omega), bnd_some, if_neg one_ne, within_f h', bnd_some, if_pos rfl], by rw [in_eq, within_t h1 h2, bnd_some, if_neg one_ne, in_eq, within_f h', bnd_some, if_pos rfl], hI⟩
    · have h3 : ¬ a2 < 0 := fun z => h' (Or.inl z)
      have h4 : ¬ 200 < a2 := fun z => h' (Or.inr z)
      obtain ⟨a, ha, rfl⟩ := rng_nI (n := 200) (by decide) h3 h4
      have hc := cntN_le (oko s a (sumI (mo s p) n)) (2 * a + 1)
      refine ⟨nI (cntN (oko s a (sumI (mo s p) n)) (2 * a + 1)), wL (wL s 2 1 (up (cntN (oko s a (sumI (mo s p) n)) (2 * a + 1)) (2 * a + 1))) 2 2 (dn (cntN (oko s a (sumI (mo s p) n)) (2 * a + 1)) (2 * a + 1)), _, ?_, ?_, Inv_share hI (up (cntN (oko s a (sumI (mo s p) n)) (2 * a + 1)) (2 * a + 1)) (dn (cntN (oko s a (sumI (mo s p) n)) (2 * a + 1)) (2 * a + 1))⟩
      · rw [posture_t (by omega), bnd_some, if_neg one_ne, within_t h3 h4, bnd_some, if_neg one_ne, dry_ok gd ge (by omega), bnd_some, nm_eq, odds1 gd ha, two_a, share_ok (by omega) (by omega) (by omega), bnd_some]
      · have e : ∀ u d v, oko (wL (wL s 2 1 u) 2 2 d) a v = oko s a v := fun _ _ _ => rfl
        have e2 : ∀ u d v, mo (wL (wL s 2 1 u) 2 2 d) v = mo s v := fun _ _ _ => rfl
        have gd2 : ∀ u d, Gd (wL (wL s 2 1 u) 2 2 d) nb n := fun _ _ => gd
        rw [in_eq, within_t h1 h2, bnd_some, if_neg one_ne, in_eq, within_t h3 h4, bnd_some, if_neg one_ne, nm_eq, odds2 (gd2 _ _) ha (by omega), e, e2, two_a, fraction_ok (by omega) (by omega) (by omega), bnd_some]
