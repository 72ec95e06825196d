-- count: the class's loops, both sides
section CN2
variable {s : Mem} {nb n : Nat}
theorem howMany_ok (gd : Gd s nb n) {z : Nat} (hz : z = 1 ∨ z = 2) : fX0_howManyOf (nI z) s = some (nI (cntN (c4 s (z + 3)) n), s) := by
  have h7 := gd.ln
  unfold fX0_howManyOf
  have key := lp0 (fun k j => fX0_howManyOf_L4 (fun v6 s7 => some (v6, s7)) (nI z) k (nI (cntN (c4 s (z + 3)) j)) (nI j) s) (some (nI (cntN (c4 s (z + 3)) n), s)) n ?_ ?_ (by omega)
  · exact key
  · intro j k hj
    show fX0_howManyOf_L4 _ (nI z) (k + 1) _ (nI j) s = fX0_howManyOf_L4 _ (nI z) k _ (nI (j + 1)) s
    rw [fX0_howManyOf_L4, gd.g6, if_pos (nI_lt hj (by omega)), cntN]
    have hiff : c4 s (z + 3) j = true ↔ isz (s.1 76 j) (nI z) := by
      unfold c4 isz
      rw [decide_eq_true_iff]
      rcases hz with rfl | rfl
      · constructor
        · rintro (⟨_, h | h⟩ | ⟨h, _⟩)
          · exact Or.inl h
          · exact Or.inr (Or.inl ⟨rfl, h⟩)
          · omega
        · rintro (h | ⟨_, h⟩ | ⟨h, _⟩)
          · exact Or.inl ⟨rfl, Or.inl h⟩
          · exact Or.inl ⟨rfl, Or.inr h⟩
          · exact absurd h (by decide)
      · constructor
        · rintro (⟨h, _⟩ | ⟨_, h | h⟩)
          · omega
          · exact Or.inl h
          · exact Or.inr (Or.inr ⟨rfl, h⟩)
        · rintro (h | ⟨h, _⟩ | ⟨_, h⟩)
          · exact Or.inr ⟨rfl, Or.inl h⟩
          · exact absurd h (by decide)
          · exact Or.inr ⟨rfl, Or.inr h⟩
    by_cases hk : isz (s.1 76 j) (nI z)
    · rw [isOf_t gd hj hk, bnd_some, if_neg one_ne, nm_eq, nI_1, nI_1, hiff.mpr hk]
      rfl
    · have e : c4 s (z + 3) j = false := by
        cases h : c4 s (z + 3) j with
        | false => rfl
        | true => exact absurd (hiff.mp h) hk
      rw [isOf_f gd hj (by omega) hk, bnd_some, if_pos rfl, nm_eq, nI_1, Int32.add_zero, e]
      rfl
  · intro k
    show fX0_howManyOf_L4 _ (nI z) (k + 1) _ (nI n) s = _
    rw [fX0_howManyOf_L4, gd.g6, if_neg (nI_nlt (Nat.le_refl n) (by omega))]
theorem rowsThere_ok (gb : Gb s) : fX11_rowsThere s = some (nI (cntN (c6 s 6 6 70) 6), s) := by
  unfold fX11_rowsThere
  have key := lp0 (fun k j => fX11_rowsThere_L13 (fun v6 s7 => some (v6, s7)) 6 k (nI (cntN (c6 s 6 6 70) j)) (nI j) s) (some (nI (cntN (c6 s 6 6 70) 6), s)) 6 ?_ ?_ (by omega)
  · exact key
  · intro j k hj
    show fX11_rowsThere_L13 _ 6 (k + 1) _ (nI j) s = fX11_rowsThere_L13 _ 6 k _ (nI (j + 1)) s
    obtain ⟨g1, g2, _⟩ := gb j hj
    rw [fX11_rowsThere_L13, if_pos ((lt_num (b := 6) (by omega) (by decide)).mpr hj), if_pos (inb_ok hj (by decide)), ix_nI (by omega), (rt4 j hj).1, if_neg row_ne, if_pos (rt4 j hj).2, cntN]
    simp only [nm_eq, nI_1, Int32.add_zero]
    rcases szOk_cases g2 with ⟨h, _⟩ | ⟨m, hm, h⟩
    · have e : c6 s 6 6 70 j = false := decide_eq_false (fun z => z.2 h)
      rw [miss_t (by rw [g1]; exact h), bnd_some, if_neg one_ne, e]
      rfl
    · have e : c6 s 6 6 70 j = true := decide_eq_true ⟨rfl, by rw [h]; exact nI_nonneg (by omega)⟩
      rw [miss_f (g1.trans h) hm, bnd_some, if_pos rfl, e]
      rfl
  · intro k
    show fX11_rowsThere_L13 _ 6 (k + 1) _ (nI 6) s = _
    rw [fX11_rowsThere_L13, if_neg (by decide)]
theorem textsThere_ok (gc : Gc s) : fX11_textsThere s = some (nI (cntN (c6 s 7 7 73) 4), s) := by
  unfold fX11_textsThere
  have key := lp0 (fun k j => fX11_textsThere_L13 (fun v6 s7 => some (v6, s7)) 4 k (nI (cntN (c6 s 7 7 73) j)) (nI j) s) (some (nI (cntN (c6 s 7 7 73) 4), s)) 4 ?_ ?_ (by omega)
  · exact key
  · intro j k hj
    show fX11_textsThere_L13 _ 4 (k + 1) _ (nI j) s = fX11_textsThere_L13 _ 4 k _ (nI (j + 1)) s
    obtain ⟨g1, g2, _⟩ := gc j hj
    rw [fX11_textsThere_L13, if_pos ((lt_num (b := 4) (by omega) (by decide)).mpr hj), if_pos (inb_ok hj (by decide)), ix_nI (by omega), (rt5 j hj).1, if_neg txt_ne, if_pos (rt5 j hj).2, cntN]
    simp only [nm_eq, nI_1, Int32.add_zero]
    rcases szOk_cases g2 with ⟨h, _⟩ | ⟨m, hm, h⟩
    · have e : c6 s 7 7 73 j = false := decide_eq_false (fun z => z.2 h)
      rw [tmiss_t (by rw [g1]; exact h), bnd_some, if_neg one_ne, e]
      rfl
    · have e : c6 s 7 7 73 j = true := decide_eq_true ⟨rfl, by rw [h]; exact nI_nonneg (by omega)⟩
      rw [tmiss_f (g1.trans h) hm, bnd_some, if_pos rfl, e]
      rfl
  · intro k
    show fX11_textsThere_L13 _ 4 (k + 1) _ (nI 4) s = _
    rw [fX11_textsThere_L13, if_neg (by decide)]
theorem cnt0 {p : Nat → Bool} (h : ∀ k, p k = false) : ∀ n, cntN p n = 0
  | 0 => rfl
  | n + 1 => by
    rw [cntN, cnt0 h n, h n]
    rfl
theorem c4_no {z : Nat} (h4 : z ≠ 4) (h5 : z ≠ 5) (s : Mem) (n : Nat) : cntN (c4 s z) n = 0 := cnt0 (fun k => decide_eq_false (by
  rintro (⟨h, _⟩ | ⟨h, _⟩)
  · exact h4 h
  · exact h5 h)) n
theorem c6_no {z y : Nat} (h : z ≠ y) (s : Mem) (q n : Nat) : cntN (c6 s z y q) n = 0 := cnt0 (fun k => decide_eq_false (fun e => h e.1)) n
end CN2
theorem al_count (a1 : Int32) : Alike (fX11_count a1) (fX12_count a1) := by
  intro s hI
  obtain ⟨nb, n, nq, nm, nd, ga, gb, gc, gd, ge, gf, gg, gh, gi, gj⟩ := id hI
  have h7 := gd.ln
  unfold fX11_count fX12_count
  by_cases h : a1 < 0 ∨ 9 < a1
  · exact ⟨-1, s, s, by rw [within_f h, bnd_some, if_pos rfl], by rw [in_eq, within_f h, bnd_some, if_pos rfl], hI⟩
  · have h1 : ¬ a1 < 0 := fun z => h (Or.inl z)
    have h2 : ¬ 9 < a1 := fun z => h (Or.inr z)
    obtain ⟨z, hz, rfl⟩ := rng_nI (n := 9) (by decide) h1 h2
    have key : ∃ v, fX11_countOf (nI z) s = some (v, s) ∧ fX12_counted (nI z) s = some (v, s) := by
      unfold fX11_countOf fX12_counted
      rw [cL4 gd.g68 h7 hz, cL78 hz, cL115 hz]
      have hz10 : z = 0 ∨ z = 1 ∨ z = 2 ∨ z = 3 ∨ z = 4 ∨ z = 5 ∨ z = 6 ∨ z = 7 ∨ z = 8 ∨ z = 9 := by omega
      rcases hz10 with rfl | rfl | rfl | rfl | rfl | rfl | rfl | rfl | rfl | rfl
      · exact ⟨nI nb, by rw [if_pos (by decide), gd.b6], by rw [if_pos (by decide), gd.b68]⟩
      · exact ⟨nI n, by rw [if_neg (by decide), if_pos (by decide), gd.g6], by rw [if_neg (by decide), if_pos (by decide), gd.g68]⟩
      · exact ⟨_, by rw [if_neg (by decide), if_neg (by decide), if_pos (by decide), seatedCount_ok gd ge, bnd_some], by rw [if_neg (by decide), if_neg (by decide), if_pos (by decide), seatedMany_ok gd.g68 h7, bnd_some]⟩
      · exact ⟨nI nm, by rw [if_neg (by decide), if_neg (by decide), if_neg (by decide), if_pos (by decide), gg.2.2.1], by rw [if_neg (by decide), if_neg (by decide), if_neg (by decide), if_pos (by decide), gg.2.2.2.1]⟩
      · have e := howMany_ok gd (z := 1) (Or.inl rfl)
        refine ⟨nI (cntN (c4 s 4) n), ?_, ?_⟩
        · rw [if_neg (by decide), if_neg (by decide), if_neg (by decide), if_neg (by decide), if_pos (by decide), show (1 : Int32) = nI 1 from rfl, e, bnd_some]
        · rw [c6_no (by decide), c6_no (by decide), if_neg (by decide), if_neg (by decide), if_neg (by decide), if_neg (by decide), if_pos (by decide)]
          rfl
      · have e := howMany_ok gd (z := 2) (Or.inr rfl)
        refine ⟨nI (cntN (c4 s 5) n), ?_, ?_⟩
        · rw [if_neg (by decide), if_neg (by decide), if_neg (by decide), if_neg (by decide), if_neg (by decide), if_pos (by decide), show (2 : Int32) = nI 2 from rfl, e, bnd_some]
        · rw [c6_no (by decide), c6_no (by decide), if_neg (by decide), if_neg (by decide), if_neg (by decide), if_neg (by decide), if_neg (by decide), if_pos (by decide)]
          rfl
      · refine ⟨nI (cntN (c6 s 6 6 70) 6), ?_, ?_⟩
        · rw [if_neg (by decide), if_neg (by decide), if_neg (by decide), if_neg (by decide), if_neg (by decide), if_neg (by decide), if_pos (by decide), rowsThere_ok gb, bnd_some]
        · rw [c4_no (by decide) (by decide), c6_no (z := 6) (y := 7) (by decide), if_neg (by decide), if_neg (by decide), if_neg (by decide), if_neg (by decide), if_neg (by decide), if_neg (by decide), if_pos (by decide), Nat.zero_add]
          rfl
      · refine ⟨nI (cntN (c6 s 7 7 73) 4), ?_, ?_⟩
        · rw [if_neg (by decide), if_neg (by decide), if_neg (by decide), if_neg (by decide), if_neg (by decide), if_neg (by decide), if_neg (by decide), if_pos (by decide), textsThere_ok gc, bnd_some]
        · rw [c4_no (by decide) (by decide), c6_no (z := 7) (y := 6) (by decide), if_neg (by decide), if_neg (by decide), if_neg (by decide), if_neg (by decide), if_neg (by decide), if_neg (by decide), if_neg (by decide), if_pos (by decide), Nat.zero_add]
      · exact ⟨nI nq, by rw [if_neg (by decide), if_neg (by decide), if_neg (by decide), if_neg (by decide), if_neg (by decide), if_neg (by decide), if_neg (by decide), if_neg (by decide), if_pos (by decide), gf.2.1], by rw [if_neg (by decide), if_neg (by decide), if_neg (by decide), if_neg (by decide), if_neg (by decide), if_neg (by decide), if_neg (by decide), if_neg (by decide), if_pos (by decide), gf.2.2.1]⟩
      · exact ⟨nI nd, by rw [if_neg (by decide), if_neg (by decide), if_neg (by decide), if_neg (by decide), if_neg (by decide), if_neg (by decide), if_neg (by decide), if_neg (by decide), if_neg (by decide), gh.2.1], by rw [if_neg (by decide), if_neg (by decide), if_neg (by decide), if_neg (by decide), if_neg (by decide), if_neg (by decide), if_neg (by decide), if_neg (by decide), if_neg (by decide), if_pos (by decide), gh.2.2.1]⟩
    obtain ⟨v, e1, e2⟩ := key
    exact ⟨v, s, s, by rw [within_t h1 h2, bnd_some, if_neg one_ne, e1, bnd_some], by rw [in_eq, within_t h1 h2, bnd_some, if_neg one_ne, e2, bnd_some], hI⟩
