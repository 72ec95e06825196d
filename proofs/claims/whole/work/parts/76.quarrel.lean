-- quarrel, peace
theorem msk_or1 (p : Nat → Bool) {n h : Nat} (hh : h < n) : msk p n ||| 2 ^ h = msk (fun i => p i || decide (i = h)) n := by
  apply msk_eq
  intro i
  rw [Nat.testBit_or, msk_bit, Nat.testBit_two_pow]
  by_cases e : i = h
  · subst e
    rw [decide_eq_true hh, decide_eq_true (rfl : i = i), Bool.or_true, Bool.or_true, Bool.and_true]
  · rw [decide_eq_false e, decide_eq_false (fun z : h = i => e z.symm), Bool.or_false, Bool.or_false]
theorem msk_zero {p : Nat → Bool} (h : ∀ k, p k = false) : ∀ n, msk p n = 0
  | 0 => rfl
  | n + 1 => by
    rw [msk, msk_zero h n, h n]
    rfl
theorem rdq (s : Mem) (q j b : Nat) (v : Int32) : (wI s q j v).1 q b = if b = j then v else s.1 q b := if_pos rfl
section QRL
variable {s : Mem} {nb n nq : Nat}
/-- two of whom the first z quarrels tell -/
def FOq (q1 q2 : Nat → Int32) (z g h : Nat) : Prop := ∃ q, q < z ∧ ((q1 q = nI g ∧ q2 q = nI h) ∨ (q1 q = nI h ∧ q2 q = nI g))
theorem FOq_s {q1 q2 : Nat → Int32} {z a b g h : Nat} (ha : a < 7) (hb : b < 7) (hg : g < 7) (hh : h < 7) (e1 : q1 z = nI a) (e2 : q2 z = nI b) : FOq q1 q2 (z + 1) g h ↔ FOq q1 q2 z g h ∨ (g = a ∧ h = b) ∨ (g = b ∧ h = a) := by
  constructor
  · rintro ⟨q, hq, hc⟩
    by_cases e : q = z
    · subst e
      rw [e1, e2] at hc
      rcases hc with ⟨c1, c2⟩ | ⟨c1, c2⟩
      · exact Or.inr (Or.inl ⟨((nI_eq (by omega) (by omega)).mp c1).symm, ((nI_eq (by omega) (by omega)).mp c2).symm⟩)
      · exact Or.inr (Or.inr ⟨((nI_eq (by omega) (by omega)).mp c2).symm, ((nI_eq (by omega) (by omega)).mp c1).symm⟩)
    · exact Or.inl ⟨q, by omega, hc⟩
  · rintro (⟨q, hq, hc⟩ | ⟨rfl, rfl⟩ | ⟨rfl, rfl⟩)
    · exact ⟨q, by omega, hc⟩
    · exact ⟨z, by omega, Or.inl ⟨e1, e2⟩⟩
    · exact ⟨z, by omega, Or.inr ⟨e1, e2⟩⟩
theorem within7 {a : Nat} (ha : a < 7) (s : Mem) : fX11_isWithin (nI a) 0 6 s = some (1, s) := within_t (nI_nonneg (by omega)) (fun z => by
  have := (num_lt (a := a) (b := 6) (by omega) (by decide)).mp z
  omega) s
theorem noteFoes_ok {P Q : Nat → Nat → Bool} {a b : Nat} (ha : a < 7) (hb : b < 7) (hab : a ≠ b) (h : ∀ g, g < 7 → s.1 10 g = nI (msk (P g) 7)) (hQ : ∀ g i, g < 7 → i < 7 → (Q g i = true ↔ P g i = true ∨ (g = a ∧ i = b) ∨ (g = b ∧ i = a))) : ∃ s', fX5_noteFoes (nI a) (nI b) s = some ((), s') ∧ SmX (fun c => c = 10) s s' ∧ ∀ g, g < 7 → s'.1 10 g = nI (msk (Q g) 7) := by
  have hia : inb (nI a) 7 = true := inb_ok ha (by decide)
  have hib : inb (nI b) 7 = true := inb_ok hb (by decide)
  refine ⟨wI (wI s 10 a (nI (msk (P a) 7 ||| 2 ^ b))) 10 b (nI (msk (P b) 7 ||| 2 ^ a)), ?_, (SmX.wI (by unfold Cr; omega) (by omega) (by omega)).tr (SmX.wI (by unfold Cr; omega) (by omega) (by omega)), fun g hg => ?_⟩
  · unfold fX5_noteFoes
    rw [within7 ha, bnd_some, if_neg one_ne, within7 hb, bnd_some, if_neg one_ne, if_pos hia, if_pos hia, if_pos hib, if_pos hib, ix_nI (show a < 2 ^ 31 by omega), ix_nI (show b < 2 ^ 31 by omega), rdq, if_neg (fun z => hab z.symm), h a ha, h b hb, b_one a (by omega), b_one b (by omega), b_or b hb _ (msk_lt128 _ (by decide)), b_or a ha _ (msk_lt128 _ (by decide))]
  · rw [rdq, rdq]
    have hQb : ∀ i, i < 7 → Q g i = (P g i || (decide (g = a ∧ i = b) || decide (g = b ∧ i = a))) := by
      intro i hi
      apply Bool.eq_iff_iff.mpr
      rw [hQ g i hg hi, Bool.or_eq_true, Bool.or_eq_true, decide_eq_true_iff, decide_eq_true_iff]
    by_cases e : g = b
    · subst e
      rw [if_pos rfl, msk_or1 _ ha]
      congr 1
      refine msk_cong (fun i hi => ?_)
      rw [hQb i hi, decide_eq_false (fun z : g = a ∧ i = g => hab z.1.symm), Bool.false_or]
      congr 1
      apply decide_eq_decide.mpr
      omega
    · rw [if_neg e]
      by_cases e2 : g = a
      · subst e2
        rw [if_pos rfl, msk_or1 _ hb]
        congr 1
        refine msk_cong (fun i hi => ?_)
        rw [hQb i hi, decide_eq_false (fun z : g = b ∧ i = g => e z.1), Bool.or_false]
        congr 1
        apply decide_eq_decide.mpr
        omega
      · rw [if_neg e2, h g hg]
        congr 1
        refine msk_cong (fun i hi => ?_)
        rw [hQb i hi, decide_eq_false (fun z : g = a ∧ i = b => e2 z.1), decide_eq_false (fun z : g = b ∧ i = a => e z.1), Bool.or_false, Bool.or_false]
/-- the foes that the class keeps, for the first z quarrels -/
def Fo (s : Mem) (q1 q2 : Nat → Int32) (z : Nat) : Prop := ∃ Q : Nat → Nat → Bool, (∀ g i, g < 7 → i < 7 → (Q g i = true ↔ FOq q1 q2 z g i)) ∧ ∀ g, g < 7 → s.1 10 g = nI (msk (Q g) 7)
theorem Gf.fo (gf : Gf s n nq) : Fo s (s.1 85) (s.1 86) nq := ⟨fun g h => decide (∃ q, q < nq ∧ ((s.1 85 q = nI g ∧ s.1 86 q = nI h) ∨ (s.1 85 q = nI h ∧ s.1 86 q = nI g))), fun g i _ _ => decide_eq_true_iff, gf.2.2.2.2.2.2⟩
theorem Fo.gf {q1 q2 : Nat → Int32} {z : Nat} (h : Fo s q1 q2 z) : ∀ g, g < 7 → s.1 10 g = nI (msk (fun h => decide (∃ q, q < z ∧ ((q1 q = nI g ∧ q2 q = nI h) ∨ (q1 q = nI h ∧ q2 q = nI g)))) 7) := by
  obtain ⟨Q, h1, h2⟩ := h
  intro g hg
  rw [h2 g hg]
  congr 1
  refine msk_cong (fun i hi => ?_)
  apply Bool.eq_iff_iff.mpr
  rw [h1 g i hg hi, decide_eq_true_iff]
  rfl
theorem Fo_s {q1 q2 : Nat → Int32} {z a b : Nat} (ha : a < 7) (hb : b < 7) (hab : a ≠ b) (e1 : q1 z = nI a) (e2 : q2 z = nI b) (h : Fo s q1 q2 z) : ∃ s', fX5_noteFoes (nI a) (nI b) s = some ((), s') ∧ SmX (fun c => c = 10) s s' ∧ Fo s' q1 q2 (z + 1) := by
  obtain ⟨Q, h1, h2⟩ := h
  obtain ⟨s', e, hs, h3⟩ := noteFoes_ok (Q := fun g i => Q g i || (decide (g = a ∧ i = b) || decide (g = b ∧ i = a))) ha hb hab h2 (fun g i hg hi => by rw [Bool.or_eq_true, Bool.or_eq_true, decide_eq_true_iff, decide_eq_true_iff])
  refine ⟨s', e, hs, _, fun g i hg hi => ?_, h3⟩
  rw [FOq_s ha hb hg hi e1 e2, Bool.or_eq_true, Bool.or_eq_true, decide_eq_true_iff, decide_eq_true_iff, h1 g i hg hi]
theorem mxmq {nq z : Nat} (h : z ≤ nq) (h8 : nq ≤ 8) : mx 0 (mn (nI nq) (nI z)) = nI z := by
  have e : mn (nI nq) (nI z) = nI z := by
    unfold mn
    by_cases c : z < nq
    · rw [if_pos (nI_lt c (by omega))]
    · rw [if_neg (nI_nlt (by omega) (by omega)), show z = nq by omega]
  rw [e]
  unfold mx
  by_cases c : z = 0
  · subst c
    decide
  · rw [if_pos]
    exact nI_lt (a := 0) (by omega) (by omega)
theorem cutTo_ok {z : Nat} (hz : z ≤ nq) (h8 : nq ≤ 8) (h7 : s.1 7 0 = nI nq) (hq : ∀ q, q < nq → ∃ g h : Nat, g < 7 ∧ h < 7 ∧ g ≠ h ∧ s.1 8 q = nI g ∧ s.1 9 q = nI h) : ∃ s', fX5_cutTo (nI z) s = some ((), s') ∧ SmX (fun c => c = 7 ∨ c = 10) s s' ∧ s'.1 7 0 = nI z ∧ Fo s' (s.1 8) (s.1 9) z := by
  unfold fX5_cutTo
  rw [h7, mxmq hz h8]
  have hS0 : SmX (fun c => c = 7 ∨ c = 10) s (wI s 7 0 (nI z)) := SmX.wI (by unfold Cr; omega) (by omega) (by omega)
  have key := lp_inv0 (fun k j (x : Mem) => fX5_cutTo_L18 (fun s3 => fX5_cutTo_L39 (fun s9 => some ((), s9)) FU 0 s3) k (nI j) x) (fun j x => SmX (fun c => c = 7 ∨ c = 10) s x ∧ x.1 7 0 = nI z ∧ ∀ g, g < j → x.1 10 g = 0) 7 (wI s 7 0 (nI z)) ⟨hS0, rfl, fun g hg => absurd hg (by omega)⟩ ?_ (by omega)
  · obtain ⟨s1, k1, ⟨i1, i2, i3⟩, e1⟩ := key
    have e1' : fX5_cutTo_L18 (fun s3 => fX5_cutTo_L39 (fun s9 => some ((), s9)) FU 0 s3) FU 0 (wI s 7 0 (nI z)) = fX5_cutTo_L18 (fun s3 => fX5_cutTo_L39 (fun s9 => some ((), s9)) FU 0 s3) (k1 + 1) (nI 7) s1 := e1
    rw [e1', fX5_cutTo_L18, if_neg (by decide)]
    have hf0 : Fo s1 (s.1 8) (s.1 9) 0 := ⟨fun _ _ => false, fun g i _ _ => ⟨fun z => absurd z Bool.false_ne_true, fun ⟨q, hq, _⟩ => absurd hq (by omega)⟩, fun g hg => by
      rw [i3 g hg, msk_zero (fun _ => rfl)]
      rfl⟩
    have key := lp_inv0 (fun k j (x : Mem) => fX5_cutTo_L39 (fun s9 => some ((), s9)) k (nI j) x) (fun j x => SmX (fun c => c = 7 ∨ c = 10) s x ∧ x.1 7 0 = nI z ∧ Fo x (s.1 8) (s.1 9) j) z s1 ⟨i1, i2, hf0⟩ ?_ (by omega)
    · obtain ⟨s2, k2, ⟨j1, j2, j3⟩, e2⟩ := key
      have e2' : fX5_cutTo_L39 (fun s9 => some ((), s9)) FU 0 s1 = fX5_cutTo_L39 (fun s9 => some ((), s9)) (k2 + 1) (nI z) s2 := e2
      refine ⟨s2, ?_, j1, j2, j3⟩
      rw [e2', fX5_cutTo_L39, j2, if_neg (nI_nlt (Nat.le_refl z) (by omega))]
    · rintro j k x hj ⟨x1, x2, x3⟩
      show ∃ x', _ ∧ fX5_cutTo_L39 _ (k + 1) (nI j) x = fX5_cutTo_L39 _ k (nI (j + 1)) x'
      obtain ⟨a, b, ha, hb, hab, ea, eb⟩ := hq j (by omega)
      obtain ⟨x', g1, g2, g3⟩ := Fo_s ha hb hab ea eb x3
      have hi : inb (nI j) 8 = true := inb_ok (by omega) (by decide)
      refine ⟨x', ⟨x1.tr (g2.mono (fun c hc => Or.inr hc)), ?_, g3⟩, ?_⟩
      · rw [g2.1 7 (by unfold Cr; omega) (by omega)]
        exact x2
      · rw [fX5_cutTo_L39, x2, if_pos (nI_lt hj (by omega)), if_pos hi, if_pos hi, ix_nI (by omega), x1.1 8 (by unfold Cr; omega) (by omega), x1.1 9 (by unfold Cr; omega) (by omega), ea, eb, g1, bnd_some, nI_1]
  · rintro j k x hj ⟨x1, x2, x3⟩
    show ∃ x', _ ∧ fX5_cutTo_L18 _ (k + 1) (nI j) x = fX5_cutTo_L18 _ k (nI (j + 1)) x'
    refine ⟨wI x 10 j 0, ⟨x1.tr (SmX.wI (by unfold Cr; omega) (by omega) (by omega)), x2, fun g hg => ?_⟩, ?_⟩
    · rw [rdq]
      by_cases e : g = j
      · rw [if_pos e]
      · rw [if_neg e, x3 g (by omega)]
    · rw [fX5_cutTo_L18, if_pos ((lt_num (b := 7) (by omega) (by decide)).mpr hj), if_pos (inb_ok (by omega) (by decide)), ix_nI (by omega), nI_1]
end QRL
theorem al_peace (a1 : Int32) : Alike (fX11_peace a1) (fX12_peace a1) := by
  intro s hI
  obtain ⟨nb, n, nq, nm, nd, ga, gb, gc, gd, ge, gf, gg, gh, gi, gj⟩ := id hI
  have h7 := gd.ln
  have hq8 := gf.1
  unfold fX11_peace fX12_peace
  by_cases h : a1 < 0 ∨ nI nq < a1
  · exact ⟨-1, s, s, by rw [gf.2.1, within_f h, bnd_some, if_pos rfl], by rw [gf.2.2.1, in_eq, within_f h, bnd_some, if_pos rfl], hI⟩
  · have h1 : ¬ a1 < 0 := fun z => h (Or.inl z)
    have h2 : ¬ nI nq < a1 := fun z => h (Or.inr z)
    obtain ⟨z, hz, rfl⟩ := rng_nI (n := nq) (by omega) h1 h2
    obtain ⟨s1, e1, e2, e3, e4⟩ := cutTo_ok hz hq8 gf.2.1 (fun q hq => by
      obtain ⟨g, h, hg, hh, hne, c1, c2⟩ := gf.2.2.2.2.2.1 q hq
      exact ⟨g, h, by omega, by omega, hne, by rw [gf.2.2.2.1]; exact c1, by rw [gf.2.2.2.2.1]; exact c2⟩)
    have h29 : s1.1 68 29 = nI nq := by
      rw [e2.2.1 29 (by unfold Cf; omega) (by omega)]
      exact gf.2.2.1
    refine ⟨nI nq - nI z, s1, wI s1 68 29 (nI z), ?_, ?_, ?_⟩
    · rw [gf.2.1, within_t h1 h2, bnd_some, if_neg one_ne, nm_eq, gf.2.1, e1, bnd_some]
    · rw [h29, in_eq, within_t h1 h2, bnd_some, if_neg one_ne, nm_eq, h29]
    · have hS : SmX (fun c => c = 7 ∨ c = 10 ∨ c = 1029) s (wI s1 68 29 (nI z)) := (e2.mono (fun c hc => by omega)).tr (SmX.wI (by unfold Cr; omega) (by omega) (by omega))
      refine ⟨nb, n, z, nm, nd, Ga_keep hS (fun a ha => by omega) ga, Gb_keep hS (fun a ha => by omega) gb, Gc_keep hS (fun a ha => by omega) gc, Gd_keep hS (fun a ha => by omega) gd, Ge_keep hS (fun a ha => by omega) ge, ?_, Gg_keep hS (fun a ha => by omega) gg, Gh_keep hS (fun a ha => by omega) gh, Gi_keep hS (fun a ha => by omega) gi, Gj_keep hS (fun a ha => by omega) gj⟩
      obtain ⟨d1, d2, d3, d4, d5, d6, d7⟩ := gf
      have q8 := hS.1 8 (by unfold Cr; omega) (by omega)
      have q9 := hS.1 9 (by unfold Cr; omega) (by omega)
      have q85 := hS.1 85 (by unfold Cr; omega) (by omega)
      have q86 := hS.1 86 (by unfold Cr; omega) (by omega)
      refine ⟨by omega, ?_, rfl, by rw [q8, q85]; exact d4, by rw [q9, q86]; exact d5, fun q hq => by rw [q85, q86]; exact d6 q (by omega), ?_⟩
      · rw [wI_ne (by decide)]
        exact e3
      · rw [q85, q86, wI_ne (by decide), ← d4, ← d5]
        exact e4.gf
theorem mquarrel {s : Mem} {n nq g h : Nat} (h7 : n ≤ 7) (hg : g < n) (hh : h < n) (hne : g ≠ h) (hq : nq < 8) (e12 : s.1 68 12 = nI n) (e29 : s.1 68 29 = nI nq) : fX12_quarrel (nI g) (nI h) s = some (nI nq, wI (wI (wI s 85 nq (nI g)) 86 nq (nI h)) 68 29 (nI (nq + 1))) := by
  have r1 : ∀ (t : Mem) (j : Nat) (v : Int32), (wI t 85 j v).1 68 29 = t.1 68 29 := fun _ _ _ => rfl
  have r2 : ∀ (t : Mem) (j : Nat) (v : Int32), (wI t 86 j v).1 68 29 = t.1 68 29 := fun _ _ _ => rfl
  have r3 : ∀ (t : Mem) (v : Int32), (wI t 68 29 v).1 68 29 = v := fun _ _ => rfl
  have hi : inb (nI nq) 8 = true := inb_ok hq (by decide)
  unfold fX12_quarrel
  rw [mG_t e12 (by omega) hg, bnd_some, if_neg one_ne, mG_t e12 (by omega) hh, bnd_some, if_neg one_ne, if_neg (fun z => hne ((nI_eq (by omega) (by omega)).mp z))]
  simp only [r1, r2, r3, e29]
  rw [if_neg (fun z => by have := (eq_num (b := 8) (by omega) (by decide)).mp z; omega), if_pos hi, if_pos hi, ix_nI (by omega), nI_1, ← nI_1, Int32.add_sub_cancel]
theorem cadd {s : Mem} {nq g h : Nat} (hq : nq < 8) (e7 : s.1 7 0 = nI nq) : fX5_add (nI g) (nI h) s = bnd (fX5_noteFoes (nI g) (nI h) (wI (wI (wI s 8 nq (nI g)) 9 nq (nI h)) 7 0 (nI (nq + 1)))) (fun r4 s5 => some ((), s5)) := by
  have r1 : ∀ (t : Mem) (j : Nat) (v : Int32), (wI t 8 j v).1 7 0 = t.1 7 0 := fun _ _ _ => rfl
  have r2 : ∀ (t : Mem) (j : Nat) (v : Int32), (wI t 9 j v).1 7 0 = t.1 7 0 := fun _ _ _ => rfl
  have hi : inb (nI nq) 8 = true := inb_ok hq (by decide)
  unfold fX5_add
  simp only [r1, r2, e7]
  rw [if_pos ((lt_num (b := 8) (by omega) (by decide)).mpr hq), if_pos hi, if_pos hi, ix_nI (by omega), nI_1]
theorem al_quarrel (a1 a2 : Int32) : Alike (fX11_quarrel a1 a2) (fX12_quarrel a1 a2) := by
  intro s hI
  obtain ⟨nb, n, nq, nm, nd, ga, gb, gc, gd, ge, gf, gg, gh, gi, gj⟩ := id hI
  have h7 := gd.ln
  have hq8 := gf.1
  rcases pl_cases a1 n (by omega) with hb | ⟨g, hg, rfl⟩
  · exact ⟨-1, s, s, by unfold fX11_quarrel; rw [isG_f gd.g6 hb, bnd_some, if_pos rfl], by unfold fX12_quarrel; rw [mG_f gd.g68 (by omega) hb, bnd_some, if_pos rfl], hI⟩
  · rcases pl_cases a2 n (by omega) with hb | ⟨h, hh, rfl⟩
    · exact ⟨-1, s, s, by unfold fX11_quarrel; rw [isG_t gd.g6 (by omega) hg, bnd_some, if_neg one_ne, isG_f gd.g6 hb, bnd_some, if_pos rfl], by unfold fX12_quarrel; rw [mG_t gd.g68 (by omega) hg, bnd_some, if_neg one_ne, mG_f gd.g68 (by omega) hb, bnd_some, if_pos rfl], hI⟩
    · by_cases hne : g = h
      · subst hne
        exact ⟨-1, s, s, by unfold fX11_quarrel; rw [isG_t gd.g6 (by omega) hg, bnd_some, if_neg one_ne, isG_t gd.g6 (by omega) hh, bnd_some, if_neg one_ne, if_pos rfl], by unfold fX12_quarrel; rw [mG_t gd.g68 (by omega) hg, bnd_some, if_neg one_ne, mG_t gd.g68 (by omega) hh, bnd_some, if_neg one_ne, if_pos rfl], hI⟩
      · have hne' : ¬ nI g = nI h := fun z => hne ((nI_eq (by omega) (by omega)).mp z)
        by_cases hf : nq = 8
        · subst hf
          refine ⟨-2, s, s, ?_, ?_, hI⟩
          · unfold fX11_quarrel
            rw [isG_t gd.g6 (by omega) hg, bnd_some, if_neg one_ne, isG_t gd.g6 (by omega) hh, bnd_some, if_neg one_ne, if_neg hne', gf.2.1, if_neg (by decide)]
          · unfold fX12_quarrel
            rw [mG_t gd.g68 (by omega) hg, bnd_some, if_neg one_ne, mG_t gd.g68 (by omega) hh, bnd_some, if_neg one_ne, if_neg hne', if_pos (show s.1 68 29 = 8 from gf.2.2.1)]
        · have hlt : nq < 8 := by omega
          have hA : SmX (fun c => c = 7 ∨ c = 8 ∨ c = 9) s (wI (wI (wI s 8 nq (nI g)) 9 nq (nI h)) 7 0 (nI (nq + 1))) := ((SmX.wI (by unfold Cr; omega) (by omega) (by omega)).tr (SmX.wI (by unfold Cr; omega) (by omega) (by omega))).tr (SmX.wI (by unfold Cr; omega) (by omega) (by omega))
          have hfo : Fo (wI (wI (wI s 8 nq (nI g)) 9 nq (nI h)) 7 0 (nI (nq + 1))) (upd (s.1 85) nq (nI g)) (upd (s.1 86) nq (nI h)) nq := by
            obtain ⟨Q, h1, h2⟩ := gf.fo
            refine ⟨Q, fun g' i hg' hi => ?_, h2⟩
            rw [h1 g' i hg' hi]
            constructor
            · rintro ⟨q, hq, hc⟩
              refine ⟨q, hq, ?_⟩
              rw [uq_n _ _ (by omega), uq_n _ _ (by omega)]
              exact hc
            · rintro ⟨q, hq, hc⟩
              refine ⟨q, hq, ?_⟩
              rw [uq_n _ _ (by omega), uq_n _ _ (by omega)] at hc
              exact hc
          obtain ⟨s1, e1, e2, e3⟩ := Fo_s (show g < 7 by omega) (show h < 7 by omega) hne (uq_s _ _ _) (uq_s _ _ _) hfo
          have hB : SmX (fun c => c = 7 ∨ c = 8 ∨ c = 9 ∨ c = 10) s s1 := (hA.mono (fun c hc => by omega)).tr (e2.mono (fun c hc => by omega))
          have h12 : s1.1 68 12 = nI n := by
            rw [hB.2.1 12 (by unfold Cf; omega) (by omega)]
            exact gd.g68
          have h29 : s1.1 68 29 = nI nq := by
            rw [hB.2.1 29 (by unfold Cf; omega) (by omega)]
            exact gf.2.2.1
          have h70 : s1.1 7 = (wI (wI (wI s 8 nq (nI g)) 9 nq (nI h)) 7 0 (nI (nq + 1))).1 7 := e2.1 7 (by unfold Cr; omega) (by omega)
          have h8 : s1.1 8 = upd (s.1 8) nq (nI g) := e2.1 8 (by unfold Cr; omega) (by omega)
          have h9 : s1.1 9 = upd (s.1 9) nq (nI h) := e2.1 9 (by unfold Cr; omega) (by omega)
          have h85 : s1.1 85 = s.1 85 := hB.1 85 (by unfold Cr; omega) (by omega)
          have h86 : s1.1 86 = s.1 86 := hB.1 86 (by unfold Cr; omega) (by omega)
          refine ⟨nI nq, s1, _, ?_, mquarrel h7 hg hh hne hlt h12 h29, ?_⟩
          · unfold fX11_quarrel
            rw [isG_t gd.g6 (by omega) hg, bnd_some, if_neg one_ne, isG_t gd.g6 (by omega) hh, bnd_some, if_neg one_ne, if_neg hne', gf.2.1, if_pos ((lt_num (b := 8) (by omega) (by decide)).mpr hlt), cadd hlt gf.2.1, e1, bnd_some, bnd_some, h70]
            show some (nI (nq + 1) - 1, s1) = _
            rw [← nI_1, Int32.add_sub_cancel]
          · have hS : SmX (fun c => c = 7 ∨ c = 8 ∨ c = 9 ∨ c = 10 ∨ c = 85 ∨ c = 86 ∨ c = 1029) s (wI (wI (wI s1 85 nq (nI g)) 86 nq (nI h)) 68 29 (nI (nq + 1))) := (((hB.mono (fun c hc => by omega)).tr (SmX.wI (by unfold Cr; omega) (by omega) (by omega))).tr (SmX.wI (by unfold Cr; omega) (by omega) (by omega))).tr (SmX.wI (by unfold Cr; omega) (by omega) (by omega))
            refine ⟨nb, n, nq + 1, nm, nd, Ga_keep hS (fun a ha => by omega) ga, Gb_keep hS (fun a ha => by omega) gb, Gc_keep hS (fun a ha => by omega) gc, Gd_keep hS (fun a ha => by omega) gd, Ge_keep hS (fun a ha => by omega) ge, ?_, Gg_keep hS (fun a ha => by omega) gg, Gh_keep hS (fun a ha => by omega) gh, Gi_keep hS (fun a ha => by omega) gi, Gj_keep hS (fun a ha => by omega) gj⟩
            have t85 : (wI (wI (wI s1 85 nq (nI g)) 86 nq (nI h)) 68 29 (nI (nq + 1))).1 85 = upd (s.1 85) nq (nI g) := by
              rw [wI_ne (by decide), wI_ne (by decide), wI_eq, h85]
            have t86 : (wI (wI (wI s1 85 nq (nI g)) 86 nq (nI h)) 68 29 (nI (nq + 1))).1 86 = upd (s.1 86) nq (nI h) := by
              rw [wI_ne (by decide), wI_eq, wI_ne (by decide), h86]
            obtain ⟨d1, d2, d3, d4, d5, d6, d7⟩ := gf
            refine ⟨by omega, ?_, rfl, ?_, ?_, ?_, ?_⟩
            · rw [wI_ne (by decide), wI_ne (by decide), wI_ne (by decide), h70]
              rfl
            · rw [t85, wI_ne (by decide), wI_ne (by decide), wI_ne (by decide), h8, d4]
            · rw [t86, wI_ne (by decide), wI_ne (by decide), wI_ne (by decide), h9, d5]
            · intro q hq
              rw [t85, t86]
              by_cases e : q = nq
              · subst e
                exact ⟨g, h, hg, hh, hne, uq_s _ _ _, uq_s _ _ _⟩
              · rw [uq_n _ _ e, uq_n _ _ e]
                exact d6 q (by omega)
            · rw [t85, t86, wI_ne (by decide), wI_ne (by decide), wI_ne (by decide)]
              exact e3.gf
