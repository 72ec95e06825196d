-- shares: minutes, odds
def up (a b : Nat) : Int64 := (nI (a / Nat.gcd a b)).toInt64
def dn (a b : Nat) : Int64 := (nI (b / Nat.gcd a b)).toInt64
theorem lt15 {b : Nat} (h : b < 32768) : b < 2 ^ 15 := h
theorem share_ok {a b : Nat} (ha : a < 32768) (hb : b < 32768) (h0 : 0 < b) (s : Mem) : fX10_share (nI a) (nI b) s = some ((), wL (wL s 2 1 (up a b)) 2 2 (dn a b)) := by
  unfold fX10_share fX10_greatestDivisor
  have hg := gcd1 (fun v4 s5 => some (v4, s5)) s 15 FU a b 0 (by omega) (by omega) (lt15 hb) (by decide) (by decide)
  rw [show (0 : Int32) = nI 0 from rfl, hg, bnd_some]
  by_cases h : a = 0
  · subst h
    rw [if_neg (nI_nlt (Nat.le_refl 0) (by decide))]
    unfold up dn
    rw [Nat.gcd_zero_left, Nat.zero_div, Nat.div_self h0]
    rfl
  · have hp : 0 < Nat.gcd a b := Nat.gcd_pos_of_pos_right a h0
    have hle : Nat.gcd a b ≤ b := Nat.gcd_le_right a h0
    have hne : ¬ nI (Nat.gcd a b) = nI 0 := fun z => by
      have := (nI_eq (by omega) (by decide)).mp z
      omega
    rw [if_pos (nI_lt (by omega) (by omega)), if_pos (nI_lt h0 (by omega)), if_pos (nI_lt hp (by omega)), if_neg hne, if_neg hne, nI_quo (by omega) (by omega), nI_quo (by omega) (by omega)]
    rfl
theorem fraction_ok {a b : Nat} (ha : a < 32768) (hb : b < 32768) (h0 : 0 < b) (r : Int32) (s : Mem) : fX12_fraction (nI a) (nI b) r s = some (r, wL (wL s 68 3 (up a b)) 68 4 (dn a b)) := by
  unfold fX12_fraction
  rw [gcd2 _ (nI a) (nI b) r s 15 FU a b (by omega) (by omega) (lt15 hb) (by decide)]
  have hp : 0 < Nat.gcd a b := Nat.gcd_pos_of_pos_right a h0
  have hle : Nat.gcd a b ≤ b := Nat.gcd_le_right a h0
  have hne : ¬ nI (Nat.gcd a b) = 0 := fun z => by
    have := (nI_eq (b := 0) (by omega) (by decide)).mp z
    omega
  rw [if_neg hne, if_neg hne, nI_quo (by omega) (by omega), nI_quo (by omega) (by omega)]
  rfl
theorem Inv_share {s : Mem} (hI : Inv s) (u d : Int64) : Inv (wL (wL (wL (wL s 2 1 u) 2 2 d) 68 3 u) 68 4 d) := by
  refine Inv_keep hI ((((SmX.wL (by unfold Xt; omega)).tr (SmX.wL (by unfold Xt; omega))).tr (SmX.wL (by unfold Xt; omega))).tr (SmX.wL (by unfold Xt; omega))) ?_
  obtain ⟨h1, h2, h3, h4, h5⟩ := hI.ga
  exact ⟨h1, rfl, rfl, h4, h5⟩
section SHR
variable {s : Mem} {nb n nm' : Nat}
def okm (s : Mem) (n m : Nat) : Bool := !(bad s n m)
theorem minutes1 (gd : Gd s nb n) (ge : Ge s nb n) (gg : Gg s nm') (κ : Int32 → Mem → Option (Int32 × Mem)) : fX11_minutes_L4 κ FU 0 0 s = κ (nI (cntN (okm s n) nm')) s := by
  have h40 := gg.2.1
  have key := lp0 (fun k j => fX11_minutes_L4 κ k (nI (cntN (okm s n) j)) (nI j) s) (κ (nI (cntN (okm s n) nm')) s) nm' ?_ ?_ (by omega)
  · exact key
  · intro j k hj
    show fX11_minutes_L4 κ (k + 1) _ (nI j) s = fX11_minutes_L4 κ k _ (nI (j + 1)) s
    rw [fX11_minutes_L4, gg.2.2.1, if_pos (nI_lt hj (by omega)), postureIn_ok gg hj, bnd_some, cmin_ok gd ge gg hj, bnd_some, isLevel_ok gd, bnd_some, cntN, nI_1, nI_1]
    by_cases hb : lev s (mv s n j) = 0
    · have h3 : okm s n j = false := by
        unfold okm bad
        rw [decide_eq_true hb]
        rfl
      rw [if_pos hb, h3]
      rfl
    · have h3 : okm s n j = true := by
        unfold okm bad
        rw [decide_eq_false hb]
        rfl
      rw [if_neg hb, h3]
      rfl
  · intro k
    show fX11_minutes_L4 κ (k + 1) _ (nI nm') s = _
    rw [fX11_minutes_L4, gg.2.2.1, if_neg (nI_nlt (Nat.le_refl _) (by omega))]
theorem minutes2 (gd : Gd s nb n) (gg : Gg s nm') (κ : Int32 → Mem → Option (Int32 × Mem)) : fX12_minutes_L4 κ FU 0 0 s = κ (nI (cntN (okm s n) nm')) s := by
  have h40 := gg.2.1
  have key := lp0 (fun k j => fX12_minutes_L4 κ k (nI (cntN (okm s n) j)) (nI j) s) (κ (nI (cntN (okm s n) nm')) s) nm' ?_ ?_ (by omega)
  · exact key
  · intro j k hj
    show fX12_minutes_L4 κ (k + 1) _ (nI j) s = fX12_minutes_L4 κ k _ (nI (j + 1)) s
    rw [fX12_minutes_L4, gg.2.2.2.1, if_pos (nI_lt hj (by omega)), if_pos (inb_ok (by omega) (by decide)), ix_nI (by omega), mminv_ok gd gg hj, bnd_some, mLevel_ok, bnd_some, cntN]
    simp only [nm_eq, nI_1, Int32.add_zero]
    by_cases hb : lev s (mv s n j) = 0
    · have h3 : okm s n j = false := by
        unfold okm bad
        rw [decide_eq_true hb]
        rfl
      rw [if_pos hb, h3]
      rfl
    · have h3 : okm s n j = true := by
        unfold okm bad
        rw [decide_eq_false hb]
        rfl
      rw [if_neg hb, h3]
      rfl
  · intro k
    show fX12_minutes_L4 κ (k + 1) _ (nI nm') s = _
    rw [fX12_minutes_L4, gg.2.2.2.1, if_neg (nI_nlt (Nat.le_refl _) (by omega))]
theorem Gd_L {q j : Nat} (v : Int64) (g : Gd s nb n) : Gd (wL s q j v) nb n := g
theorem Gg_L {q j : Nat} (v : Int64) (g : Gg s nm') : Gg (wL s q j v) nm' := g
end SHR
theorem al_minutes : Alike fX11_minutes fX12_minutes := by
  intro s hI
  obtain ⟨nb, n, nq, nm, nd, ga, gb, gc, gd, ge, gf, gg, gh, gi, gj⟩ := id hI
  have h40 := gg.2.1
  have h1 := gg.1
  have hc := cntN_le (okm s n) nm
  refine ⟨nI (cntN (okm s n) nm), wL (wL s 2 1 (up (cntN (okm s n) nm) nm)) 2 2 (dn (cntN (okm s n) nm) nm), wL (wL (wL (wL s 2 1 (up (cntN (okm s n) nm) nm)) 2 2 (dn (cntN (okm s n) nm) nm)) 68 3 (up (cntN (okm s n) nm) nm)) 68 4 (dn (cntN (okm s n) nm) nm), ?_, ?_, Inv_share hI _ _⟩
  · unfold fX11_minutes
    rw [minutes1 gd ge gg, gg.2.2.1, share_ok (by omega) (by omega) (by omega), bnd_some]
  · have gd2 : Gd (wL (wL s 2 1 (up (cntN (okm s n) nm) nm)) 2 2 (dn (cntN (okm s n) nm) nm)) nb n := gd
    have gg2 : Gg (wL (wL s 2 1 (up (cntN (okm s n) nm) nm)) 2 2 (dn (cntN (okm s n) nm) nm)) nm := gg
    have e : okm (wL (wL s 2 1 (up (cntN (okm s n) nm) nm)) 2 2 (dn (cntN (okm s n) nm) nm)) n = okm s n := rfl
    unfold fX12_minutes
    rw [minutes2 gd2 gg2, gg2.2.2.2.1, e, fraction_ok (by omega) (by omega) (by omega), bnd_some]
