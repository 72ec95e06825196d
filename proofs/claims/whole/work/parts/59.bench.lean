-- bench, guest
def bv (s : Mem) (n b z : Nat) : Int32 := if z = 0 then s.1 75 b else if z = 1 then nI (cntN (fun h => decide (s.1 79 h = nI b) && decide (s.1 76 h ≠ 3)) n) else if z = 2 then sumI (fun h => if s.1 79 h = nI b then wgh (s.1 76) (s.1 77) h else 0) n else nI (msk (fun h => decide (s.1 79 h = nI b)) n)
theorem bv_eq {s s' : Mem} (h1 : s'.1 75 = s.1 75) (h2 : s'.1 76 = s.1 76) (h3 : s'.1 77 = s.1 77) (h4 : s'.1 79 = s.1 79) (n b z : Nat) : bv s' n b z = bv s n b z := by
  unfold bv
  rw [h1, h2, h3, h4]
theorem ofBench_ok {s : Mem} {nb n b z : Nat} (g : Gd s nb n) (e : Ge s nb n) (hb : b < nb) (hz : z ≤ 3) : fX11_ofBench (nI b) (nI z) s = some (bv s n b z, s) := by
  have hn := g.ln
  have h : z = 0 ∨ z = 1 ∨ z = 2 ∨ z = 3 := by omega
  unfold fX11_ofBench bv
  rcases h with rfl | rfl | rfl | rfl
  · rw [if_pos (by decide), xOf_ok g hb, bnd_some, if_pos rfl]
  · rw [if_neg (by decide), if_pos (by decide), seatsTaken_ok g e hb, bnd_some, if_neg (by decide), if_pos rfl]
  · rw [if_neg (by decide), if_neg (by decide), if_pos (by decide), whoOn_ok g e hb, bnd_some, weighAll_ok g (msk_lt128 _ hn), bnd_some, if_neg (by decide), if_neg (by decide), if_pos rfl]
    have h1 : sumI (fun h => if (msk (fun h => decide (s.1 79 h = nI b)) n).testBit h then wgh (s.1 76) (s.1 77) h else 0) n = sumI (fun h => if s.1 79 h = nI b then wgh (s.1 76) (s.1 77) h else 0) n := sumI_cong (fun k hk => by
      rw [msk_bit, decide_eq_true hk, Bool.true_and]
      by_cases h2 : s.1 79 k = nI b
      · rw [if_pos (decide_eq_true h2), if_pos h2]
      · rw [if_neg (by rw [decide_eq_false h2]; decide), if_neg h2])
    rw [h1]
  · rw [if_neg (by decide), if_neg (by decide), if_neg (by decide), whoOn_ok g e hb, bnd_some, if_neg (by decide), if_neg (by decide), if_neg (by decide)]
theorem benchTells_ok {s : Mem} {nb n b z : Nat} (g : Gd s nb n) (hb : b < nb) (hz : z ≤ 3) : fX12_benchTells (nI b) (nI z) s = some (bv s n b z, s) := by
  have hn := g.ln
  have h8 := g.lb
  have h : z = 0 ∨ z = 1 ∨ z = 2 ∨ z = 3 := by omega
  unfold fX12_benchTells bv
  rcases h with rfl | rfl | rfl | rfl
  · rw [if_pos (by decide), if_pos (inb_ok (by omega) (by decide)), ix_nI (by omega), if_pos rfl]
  · rw [if_neg (by decide), if_pos (by decide), takenOn_ok g.g68 hn, bnd_some, if_neg (by decide), if_pos rfl]
  · rw [if_neg (by decide), if_neg (by decide), if_pos (by decide), weightOn_ok g.g68 hn, bnd_some, if_neg (by decide), if_neg (by decide), if_pos rfl]
  · rw [if_neg (by decide), if_neg (by decide), if_neg (by decide), setOn_ok g.g68 hn, bnd_some, if_neg (by decide), if_neg (by decide), if_neg (by decide)]
theorem Gd_told {s : Mem} {nb n : Nat} (v : Int32) (g : Gd s nb n) : Gd (wI s 2 0 v) nb n := Gd_keep (X := fun a => a = 2) (SmX.wI (fun h => rfl) (by omega) (by omega)) (fun a ha => by omega) g
theorem al_bench (a1 a2 : Int32) : Alike (fX11_bench a1 a2) (fX12_bench a1 a2) := by
  intro s hI
  obtain ⟨nb, n, nq, nm, nd, ga, gb, gc, gd, ge, gf, gg, gh, gi, gj⟩ := id hI
  have h8 := gd.lb
  unfold fX11_bench fX12_bench
  rcases pl_cases a1 nb (by omega) with hb | ⟨b, hb, rfl⟩
  · exact ⟨-1, s, s, by rw [isB_f gd.b6 hb, bnd_some, if_pos rfl], by rw [mB_f gd.b68 (by omega) hb, bnd_some, if_pos rfl], hI⟩
  · by_cases h : a2 < 0 ∨ 3 < a2
    · exact ⟨-1, s, s, by rw [isB_t gd.b6 (by omega) hb, bnd_some, if_neg one_ne, within_f h, bnd_some, if_pos rfl], by rw [mB_t gd.b68 (by omega) hb, bnd_some, if_neg one_ne, in_eq, within_f h, bnd_some, if_pos rfl], hI⟩
    · have h1 : ¬ a2 < 0 := fun z => h (Or.inl z)
      have h2 : ¬ 3 < a2 := fun z => h (Or.inr z)
      obtain ⟨z, hz, rfl⟩ := rng_nI (n := 3) (by decide) h1 h2
      refine ⟨1, wI s 2 0 (bv s n b z), wI (wI s 2 0 (bv s n b z)) 68 2 (bv s n b z), ?_, ?_, Inv_tell hI _⟩
      · rw [isB_t gd.b6 (by omega) hb, bnd_some, if_neg one_ne, within_t h1 h2, bnd_some, if_neg one_ne, ofBench_ok gd ge hb hz, bnd_some, f_tell, bnd_some]
      · have g2 := Gd_told (bv s n b z) gd
        rw [mB_t g2.b68 (by omega) hb, bnd_some, if_neg one_ne, in_eq, within_t h1 h2, bnd_some, if_neg one_ne, benchTells_ok g2 hb hz, bnd_some, f_tells, bnd_some, bv_eq (s := s) (s' := wI s 2 0 (bv s n b z)) rfl rfl rfl rfl]
def gv (s : Mem) (g z : Nat) : Int32 := if z = 0 then s.1 76 g else if z = 1 then s.1 77 g else if z = 2 then s.1 78 g else if z = 3 then s.1 79 g else wgh (s.1 76) (s.1 77) g
theorem gv_eq {s s' : Mem} (h1 : s'.1 78 = s.1 78) (h2 : s'.1 76 = s.1 76) (h3 : s'.1 77 = s.1 77) (h4 : s'.1 79 = s.1 79) (g z : Nat) : gv s' g z = gv s g z := by
  unfold gv
  rw [h1, h2, h3, h4]
theorem ofGuest_ok {s : Mem} {nb n b z : Nat} (g : Gd s nb n) (hb : b < n) (hz : z ≤ 4) : fX11_ofGuest (nI b) (nI z) s = some (gv s b z, s) := by
  have h : z = 0 ∨ z = 1 ∨ z = 2 ∨ z = 3 ∨ z = 4 := by omega
  unfold fX11_ofGuest gv
  rcases h with rfl | rfl | rfl | rfl | rfl
  · rw [if_pos (by decide), kindOf_ok g hb, bnd_some, if_pos rfl]
  · rw [if_neg (by decide), if_pos (by decide), weightOf_ok g hb, bnd_some, if_neg (by decide), if_pos rfl]
  · rw [if_neg (by decide), if_neg (by decide), if_pos (by decide), kinOf_ok g hb, bnd_some, if_neg (by decide), if_neg (by decide), if_pos rfl]
  · rw [if_neg (by decide), if_neg (by decide), if_neg (by decide), if_pos (by decide), benchOf_ok g hb, bnd_some, if_neg (by decide), if_neg (by decide), if_neg (by decide), if_pos rfl]
  · rw [if_neg (by decide), if_neg (by decide), if_neg (by decide), if_neg (by decide), weighs_ok g hb, bnd_some, if_neg (by decide), if_neg (by decide), if_neg (by decide), if_neg (by decide)]
theorem guestTells_ok {s : Mem} {nb n b z : Nat} (g : Gd s nb n) (hb : b < n) (hz : z ≤ 4) : fX12_guestTells (nI b) (nI z) s = some (gv s b z, s) := by
  have h : z = 0 ∨ z = 1 ∨ z = 2 ∨ z = 3 ∨ z = 4 := by omega
  have hn := g.ln
  unfold fX12_guestTells gv
  rcases h with rfl | rfl | rfl | rfl | rfl
  · rw [if_pos (by decide), if_pos (inb_ok (by omega) (by decide)), ix_nI (by omega), if_pos rfl]
  · rw [if_neg (by decide), if_pos (by decide), if_pos (inb_ok (by omega) (by decide)), ix_nI (by omega), if_neg (by decide), if_pos rfl]
  · rw [if_neg (by decide), if_neg (by decide), if_pos (by decide), if_pos (inb_ok (by omega) (by decide)), ix_nI (by omega), if_neg (by decide), if_neg (by decide), if_pos rfl]
  · rw [if_neg (by decide), if_neg (by decide), if_neg (by decide), if_pos (by decide), if_pos (inb_ok (by omega) (by decide)), ix_nI (by omega), if_neg (by decide), if_neg (by decide), if_neg (by decide), if_pos rfl]
  · rw [if_neg (by decide), if_neg (by decide), if_neg (by decide), if_neg (by decide), mweighs_ok (by omega), bnd_some, if_neg (by decide), if_neg (by decide), if_neg (by decide), if_neg (by decide)]
theorem al_guest (a1 a2 : Int32) : Alike (fX11_guest a1 a2) (fX12_guest a1 a2) := by
  intro s hI
  obtain ⟨nb, n, nq, nm, nd, ga, gb, gc, gd, ge, gf, gg, gh, gi, gj⟩ := id hI
  have h8 := gd.ln
  unfold fX11_guest fX12_guest
  rcases pl_cases a1 n (by omega) with hb | ⟨b, hb, rfl⟩
  · exact ⟨-1, s, s, by rw [isG_f gd.g6 hb, bnd_some, if_pos rfl], by rw [mG_f gd.g68 (by omega) hb, bnd_some, if_pos rfl], hI⟩
  · by_cases h : a2 < 0 ∨ 4 < a2
    · exact ⟨-1, s, s, by rw [isG_t gd.g6 (by omega) hb, bnd_some, if_neg one_ne, within_f h, bnd_some, if_pos rfl], by rw [mG_t gd.g68 (by omega) hb, bnd_some, if_neg one_ne, in_eq, within_f h, bnd_some, if_pos rfl], hI⟩
    · have h1 : ¬ a2 < 0 := fun z => h (Or.inl z)
      have h2 : ¬ 4 < a2 := fun z => h (Or.inr z)
      obtain ⟨z, hz, rfl⟩ := rng_nI (n := 4) (by decide) h1 h2
      refine ⟨1, wI s 2 0 (gv s b z), wI (wI s 2 0 (gv s b z)) 68 2 (gv s b z), ?_, ?_, Inv_tell hI _⟩
      · rw [isG_t gd.g6 (by omega) hb, bnd_some, if_neg one_ne, within_t h1 h2, bnd_some, if_neg one_ne, ofGuest_ok gd hb hz, bnd_some, f_tell, bnd_some]
      · have g2 := Gd_told (gv s b z) gd
        rw [mG_t g2.g68 (by omega) hb, bnd_some, if_neg one_ne, in_eq, within_t h1 h2, bnd_some, if_neg one_ne, guestTells_ok g2 hb hz, bnd_some, f_tells, bnd_some, gv_eq (s := s) (s' := wI s 2 0 (gv s b z)) rfl rfl rfl rfl]
