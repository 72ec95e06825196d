theorem within_t {x lo hi : Int32} (h1 : ¬ x < lo) (h2 : ¬ hi < x) (s : Mem) : fX11_isWithin x lo hi s = some (1, s) := by
  unfold fX11_isWithin
  rw [if_neg h1, if_neg h2]
theorem within_f {x lo hi : Int32} (h : x < lo ∨ hi < x) (s : Mem) : fX11_isWithin x lo hi s = some (0, s) := by
  unfold fX11_isWithin
  by_cases h1 : x < lo
  · rw [if_pos h1]
  · rw [if_neg h1, if_pos (h.resolve_left h1)]
theorem in_eq (x lo hi : Int32) (s : Mem) : fX12_in x lo hi s = fX11_isWithin x lo hi s := rfl
theorem one_ne : ¬ (1 : Int32) = 0 := by decide
theorem al_findings (a1 : Int32) : Alike (fX11_findings a1) (fX12_findings a1) := by
  intro s hI
  unfold fX11_findings fX12_findings
  by_cases h : a1 < 1 ∨ 5 < a1
  · refine ⟨-1, s, s, ?_, ?_, hI⟩
    · rw [within_f h, bnd_some, if_pos rfl]
    · rw [in_eq, within_f h, bnd_some, if_pos rfl]
  · have h1 : ¬ a1 < 1 := fun z => h (Or.inl z)
    have h2 : ¬ 5 < a1 := fun z => h (Or.inr z)
    obtain ⟨j, hj, rfl⟩ : ∃ j : Nat, j < 6 ∧ a1 = nI j := by
      rcases i_cases a1 6 (by decide) with z | z | z
      · exact absurd (Int32.lt_trans z (by decide : (0 : Int32) < 1)) h1
      · exact absurd (show (5 : Int32) < a1 from Int32.lt_of_lt_of_le (by decide : (5 : Int32) < nI 6) z.2) h2
      · exact z
    refine ⟨s.1 3 j, s, s, ?_, ?_, hI⟩
    · rw [within_t h1 h2, bnd_some, if_neg one_ne]
      unfold fX10_timesFound
      rw [if_neg (nI_nonneg (by omega)), if_pos ((lt_num (by omega) (by decide)).mpr hj), if_pos (inb_ok hj (by decide)), bnd_some, ix_nI (by omega)]
    · rw [in_eq, within_t h1 h2, bnd_some, if_neg one_ne, if_pos (inb_ok hj (by decide)), ix_nI (by omega), hI.ga.2.2.2.2]
theorem rng_nI {x : Int32} {n : Nat} (hn : n < 1000000) (h1 : ¬ x < 0) (h2 : ¬ nI n < x) : ∃ j : Nat, j ≤ n ∧ x = nI j := by
  rcases i_cases x (n + 1) (by omega) with z | z | ⟨j, hj, rfl⟩
  · exact absurd z h1
  · exact absurd (Int32.lt_of_lt_of_le (nI_lt (Nat.lt_succ_self n) (by omega)) z.2) h2
  · exact ⟨j, by omega, rfl⟩
theorem Inv_gd {s : Mem} (h : Inv s) : ∃ nb n, Gd s nb n := by obtain ⟨nb, n, _, _, _, _, _, _, gd, _⟩ := h; exact ⟨nb, n, gd⟩
theorem al_limit (a1 : Int32) : Alike (fX11_limit a1) (fX12_limit a1) := by
  intro s hI
  unfold fX11_limit fX12_limit
  by_cases h : a1 < 0 ∨ 999 < a1
  · refine ⟨-1, s, s, ?_, ?_, hI⟩
    · rw [within_f h, bnd_some, if_pos rfl]
    · rw [in_eq, within_f h, bnd_some, if_pos rfl]
  · have h1 : ¬ a1 < 0 := fun z => h (Or.inl z)
    have h2 : ¬ 999 < a1 := fun z => h (Or.inr z)
    obtain ⟨z, hz, rfl⟩ := rng_nI (n := 999) (by decide) h1 h2
    obtain ⟨nb, n, nq, nm, nd, ga, gb, gc, gd, ge, gf, gg, gh, gi, gj⟩ := hI
    refine ⟨s.1 6 2, wI s 6 2 (nI z), wI (wI s 6 2 (nI z)) 68 17 (nI z), ?_, ?_, ?_⟩
    · rw [within_t h1 h2, bnd_some, if_neg one_ne]
      rfl
    · rw [in_eq, within_t h1 h2, bnd_some, if_neg one_ne]
      have e : s.1 6 2 = s.1 68 17 := gd.2.2.2.2.2.2.2.1
      rw [e]
      rfl
    · have hS : SmX (fun a => a = 1017 ∨ a = 2002) s (wI (wI s 6 2 (nI z)) 68 17 (nI z)) := (SmX.wI (by unfold Cr; omega) (by omega) (by omega)).tr (SmX.wI (by unfold Cr; omega) (by omega) (by omega))
      refine ⟨nb, n, nq, nm, nd, Ga_keep hS (fun a ha => by omega) ga, Gb_keep hS (fun a ha => by omega) gb, Gc_keep hS (fun a ha => by omega) gc, ?_, Ge_keep hS (fun a ha => by omega) ge, Gf_keep hS (fun a ha => by omega) gf, Gg_keep hS (fun a ha => by omega) gg, Gh_keep hS (fun a ha => by omega) gh, Gi_keep hS (fun a ha => by omega) gi, gj⟩
      obtain ⟨d1, d2, d3, d4, d5, d6, d7, d8, d9, d10, d11, d12, d13, d14, d15, d16, d17⟩ := gd
      exact ⟨d1, d2, d3, d4, d5, d6, d7, rfl, d9, d10, d11, d12, d13, d14, ⟨z, hz, rfl⟩, d16, d17⟩
theorem al_rain (a1 : Int32) : Alike (fX11_rain a1) (fX12_rain a1) := by
  intro s hI
  unfold fX11_rain fX12_rain
  by_cases h : a1 < -200 ∨ 200 < a1
  · refine ⟨-1, s, s, ?_, ?_, hI⟩
    · rw [within_f h, bnd_some, if_pos rfl]
    · rw [in_eq, within_f h, bnd_some, if_pos rfl]
  · have h1 : ¬ a1 < -200 := fun z => h (Or.inl z)
    have h2 : ¬ 200 < a1 := fun z => h (Or.inr z)
    have hrg : -200 ≤ a1.toInt ∧ a1.toInt ≤ 200 := by
      rw [Int32.not_lt, Int32.le_iff_toInt_le] at h1 h2
      exact ⟨h1, h2⟩
    obtain ⟨nb, n, nq, nm, nd, ga, gb, gc, gd, ge, gf, gg, gh, gi, gj⟩ := hI
    have e : s.1 6 3 = s.1 68 18 := gd.2.2.2.2.2.2.2.2.1
    refine ⟨1, wI (wI s 2 0 (s.1 6 3)) 6 3 a1, wI (wI (wI (wI s 2 0 (s.1 6 3)) 6 3 a1) 68 18 a1) 68 2 (s.1 68 18), ?_, ?_, ?_⟩
    · rw [within_t h1 h2, bnd_some, if_neg one_ne]
      rfl
    · rw [in_eq, within_t h1 h2, bnd_some, if_neg one_ne]
      rfl
    · have hS : SmX (fun a => a = 1018 ∨ a = 2003 ∨ a = 2 ∨ a = 1002) s (wI (wI (wI (wI s 2 0 (s.1 6 3)) 6 3 a1) 68 18 a1) 68 2 (s.1 68 18)) := (((SmX.wI (by omega) (by omega) (by omega)).tr (SmX.wI (by unfold Cr; omega) (by omega) (by omega))).tr (SmX.wI (by unfold Cr; omega) (by omega) (by omega))).tr (SmX.wI (by unfold Cr; omega) (by omega) (by omega))
      refine ⟨nb, n, nq, nm, nd, ?_, Gb_keep hS (fun a ha => by omega) gb, Gc_keep hS (fun a ha => by omega) gc, ?_, Ge_keep hS (fun a ha => by omega) ge, Gf_keep hS (fun a ha => by omega) gf, Gg_keep hS (fun a ha => by omega) gg, Gh_keep hS (fun a ha => by omega) gh, Gi_keep hS (fun a ha => by omega) gi, gj⟩
      · obtain ⟨g1, g2, g3, g4, g5⟩ := ga
        exact ⟨e, g2, g3, g4, g5⟩
      · obtain ⟨d1, d2, d3, d4, d5, d6, d7, d8, d9, d10, d11, d12, d13, d14, d15, d16, d17⟩ := gd
        exact ⟨d1, d2, d3, d4, d5, d6, d7, d8, rfl, d10, d11, d12, d13, d14, d15, hrg, d17⟩
