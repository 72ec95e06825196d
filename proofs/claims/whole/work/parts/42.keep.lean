-- what leaves the invariant, or a part of it, as it was
def Cr (a : Nat) : Prop := a = 2 ∨ a = 3 ∨ (7 ≤ a ∧ a ≤ 26 ∧ a ≠ 24) ∨ a = 33 ∨ a = 45 ∨ (48 ≤ a ∧ a ≤ 67) ∨ (69 ≤ a ∧ a ≤ 71) ∨ (73 ≤ a ∧ a ≤ 80) ∨ (85 ≤ a ∧ a ≤ 89)
def Cf (j : Nat) : Prop := j = 0 ∨ j = 2 ∨ j = 10 ∨ j = 12 ∨ j = 17 ∨ j = 18 ∨ j = 19 ∨ j = 29 ∨ j = 32
/-- the same but for what is scratch, and X: cells by their numbers, the reference's fields by 1000 more, the barge's by 2000 more, the longs 3000 -/
def SmX (X : Nat → Prop) (s s' : Mem) : Prop := (∀ a, Cr a → ¬ X a → s'.1 a = s.1 a) ∧ (∀ j, Cf j → ¬ X (1000 + j) → s'.1 68 j = s.1 68 j) ∧ (∀ j, ¬ X (2000 + j) → s'.1 6 j = s.1 6 j) ∧ (¬ X 3000 → s'.2 = s.2)
abbrev Sm (s s' : Mem) : Prop := SmX (fun _ => False) s s'
theorem SmX.rf {X : Nat → Prop} (s : Mem) : SmX X s s := ⟨fun _ _ _ => rfl, fun _ _ _ => rfl, fun _ _ => rfl, fun _ => rfl⟩
theorem SmX.tr {X : Nat → Prop} {s s1 s2 : Mem} (h : SmX X s s1) (h2 : SmX X s1 s2) : SmX X s s2 := ⟨fun a ha hx => (h2.1 a ha hx).trans (h.1 a ha hx), fun j hj hx => (h2.2.1 j hj hx).trans (h.2.1 j hj hx), fun j hx => (h2.2.2.1 j hx).trans (h.2.2.1 j hx), fun hx => (h2.2.2.2 hx).trans (h.2.2.2 hx)⟩
theorem SmX.mono {X Y : Nat → Prop} {s s1 : Mem} (h : SmX X s s1) (hxy : ∀ a, X a → Y a) : SmX Y s s1 := ⟨fun a ha hx => h.1 a ha (fun z => hx (hxy _ z)), fun j hj hx => h.2.1 j hj (fun z => hx (hxy _ z)), fun j hx => h.2.2.1 j (fun z => hx (hxy _ z)), fun hx => h.2.2.2 (fun z => hx (hxy _ z))⟩
theorem Sm.to {X : Nat → Prop} {s s1 : Mem} (h : Sm s s1) : SmX X s s1 := h.mono (fun _ z => z.elim)
theorem SmX.wI {X : Nat → Prop} {s : Mem} {q j : Nat} {v : Int32} (h1 : Cr q → X q) (h2 : q = 68 → Cf j → X (1000 + j)) (h3 : q = 6 → X (2000 + j)) : SmX X s (wI s q j v) := by
  refine ⟨fun a ha hx => wI_ne (fun e => hx (e ▸ h1 (e ▸ ha))), fun i hi hx => ?_, fun i hx => ?_, fun _ => rfl⟩
  · rw [rd_wI]
    by_cases hq : 68 = q
    · have h4 : ¬ i = j := fun e => hx (e ▸ h2 hq.symm (e ▸ hi))
      rw [if_pos hq, if_neg h4]
    · rw [if_neg hq]
  · rw [rd_wI]
    by_cases hq : 6 = q
    · have h4 : ¬ i = j := fun e => hx (e ▸ h3 hq.symm)
      rw [if_pos hq, if_neg h4]
    · rw [if_neg hq]
theorem SmX.wL {X : Nat → Prop} {s : Mem} {q j : Nat} {v : Int64} (h : X 3000) : SmX X s (wL s q j v) := ⟨fun _ _ _ => rfl, fun _ _ _ => rfl, fun _ _ => rfl, fun hx => absurd h hx⟩
theorem SmX.wF {X : Nat → Prop} {s : Mem} {q : Nat} {f : Nat → Int32} (h1 : Cr q → X q) (h2 : q ≠ 68) (h3 : q ≠ 6) : SmX X s (wF s q f) := by
  refine ⟨fun a ha hx => wF_ne (fun e => hx (e ▸ h1 (e ▸ ha))), fun i _ _ => ?_, fun i _ => ?_, fun _ => rfl⟩
  · rw [wF_ne (fun e => h2 e.symm)]
  · rw [wF_ne (fun e => h3 e.symm)]
theorem Gb_keep {X : Nat → Prop} {s s' : Mem} (h : SmX X s s') (hX : ∀ a, ((48 ≤ a ∧ a ≤ 59) ∨ a = 70 ∨ a = 71) → ¬ X a) (g : Gb s) : Gb s' := by
  intro r hr
  rw [h.1 (48 + 2 * r) (by unfold Cr; omega) (hX _ (by omega)), h.1 (49 + 2 * r) (by unfold Cr; omega) (hX _ (by omega)), h.1 70 (by unfold Cr; omega) (hX _ (by omega)), h.1 71 (by unfold Cr; omega) (hX _ (by omega))]
  exact g r hr
theorem Gc_keep {X : Nat → Prop} {s s' : Mem} (h : SmX X s s') (hX : ∀ a, ((60 ≤ a ∧ a ≤ 67) ∨ a = 73 ∨ a = 74) → ¬ X a) (g : Gc s) : Gc s' := by
  intro r hr
  rw [h.1 (60 + 2 * r) (by unfold Cr; omega) (hX _ (by omega)), h.1 (61 + 2 * r) (by unfold Cr; omega) (hX _ (by omega)), h.1 73 (by unfold Cr; omega) (hX _ (by omega)), h.1 74 (by unfold Cr; omega) (hX _ (by omega))]
  exact g r hr
theorem Gd_keep {X : Nat → Prop} {s s' : Mem} {nb n : Nat} (h : SmX X s s') (hX : ∀ a, (a = 11 ∨ a = 13 ∨ a = 14 ∨ a = 15 ∨ a = 16 ∨ a = 75 ∨ a = 76 ∨ a = 77 ∨ a = 78 ∨ a = 79 ∨ a = 1010 ∨ a = 1012 ∨ a = 1017 ∨ a = 1018 ∨ a = 2000 ∨ a = 2001 ∨ a = 2002 ∨ a = 2003) → ¬ X a) (g : Gd s nb n) : Gd s' nb n := by
  unfold Gd
  rw [h.1 11 (by unfold Cr; omega) (hX _ (by omega)), h.1 13 (by unfold Cr; omega) (hX _ (by omega)), h.1 14 (by unfold Cr; omega) (hX _ (by omega)), h.1 15 (by unfold Cr; omega) (hX _ (by omega)), h.1 16 (by unfold Cr; omega) (hX _ (by omega)), h.1 75 (by unfold Cr; omega) (hX _ (by omega)), h.1 76 (by unfold Cr; omega) (hX _ (by omega)), h.1 77 (by unfold Cr; omega) (hX _ (by omega)), h.1 78 (by unfold Cr; omega) (hX _ (by omega)), h.1 79 (by unfold Cr; omega) (hX _ (by omega)), h.2.1 10 (by unfold Cf; omega) (hX _ (by omega)), h.2.1 12 (by unfold Cf; omega) (hX _ (by omega)), h.2.1 17 (by unfold Cf; omega) (hX _ (by omega)), h.2.1 18 (by unfold Cf; omega) (hX _ (by omega)), h.2.2.1 0 (hX _ (by omega)), h.2.2.1 1 (hX _ (by omega)), h.2.2.1 2 (hX _ (by omega)), h.2.2.1 3 (hX _ (by omega))]
  exact g
theorem Ge_keep {X : Nat → Prop} {s s' : Mem} {nb n : Nat} (h : SmX X s s') (hX : ∀ a, (a = 12 ∨ a = 17 ∨ a = 75 ∨ a = 76 ∨ a = 77 ∨ a = 79 ∨ a = 2012) → ¬ X a) (g : Ge s nb n) : Ge s' nb n := by
  unfold Ge
  rw [h.1 12 (by unfold Cr; omega) (hX _ (by omega)), h.1 17 (by unfold Cr; omega) (hX _ (by omega)), h.1 75 (by unfold Cr; omega) (hX _ (by omega)), h.1 76 (by unfold Cr; omega) (hX _ (by omega)), h.1 77 (by unfold Cr; omega) (hX _ (by omega)), h.1 79 (by unfold Cr; omega) (hX _ (by omega)), h.2.2.1 12 (hX _ (by omega))]
  exact g
theorem Gf_keep {X : Nat → Prop} {s s' : Mem} {n nq : Nat} (h : SmX X s s') (hX : ∀ a, (a = 7 ∨ a = 8 ∨ a = 9 ∨ a = 10 ∨ a = 85 ∨ a = 86 ∨ a = 1029) → ¬ X a) (g : Gf s n nq) : Gf s' n nq := by
  unfold Gf
  rw [h.1 7 (by unfold Cr; omega) (hX _ (by omega)), h.1 8 (by unfold Cr; omega) (hX _ (by omega)), h.1 9 (by unfold Cr; omega) (hX _ (by omega)), h.1 10 (by unfold Cr; omega) (hX _ (by omega)), h.1 85 (by unfold Cr; omega) (hX _ (by omega)), h.1 86 (by unfold Cr; omega) (hX _ (by omega)), h.2.1 29 (by unfold Cf; omega) (hX _ (by omega))]
  exact g
theorem Gg_keep {X : Nat → Prop} {s s' : Mem} {nm : Nat} (h : SmX X s s') (hX : ∀ a, (a = 18 ∨ a = 19 ∨ a = 80 ∨ a = 1019) → ¬ X a) (g : Gg s nm) : Gg s' nm := by
  unfold Gg
  rw [h.1 18 (by unfold Cr; omega) (hX _ (by omega)), h.1 19 (by unfold Cr; omega) (hX _ (by omega)), h.1 80 (by unfold Cr; omega) (hX _ (by omega)), h.2.1 19 (by unfold Cf; omega) (hX _ (by omega))]
  exact g
theorem nxt_keep {X : Nat → Prop} {s s' : Mem} (h : SmX X s s') (hX : ∀ a, (a = 79 ∨ a = 87) → ¬ X a) (nd j : Nat) : nxt s' nd j = nxt s nd j := by
  funext g
  unfold nxt
  rw [h.1 87 (by unfold Cr; omega) (hX _ (by omega)), h.1 79 (by unfold Cr; omega) (hX _ (by omega))]
theorem Gh_keep {X : Nat → Prop} {s s' : Mem} {nb n nd : Nat} (h : SmX X s s') (hX : ∀ a, (a = 20 ∨ a = 21 ∨ a = 22 ∨ a = 23 ∨ a = 79 ∨ a = 87 ∨ a = 1032) → ¬ X a) (g : Gh s nb n nd) : Gh s' nb n nd := by
  unfold Gh
  rw [h.1 20 (by unfold Cr; omega) (hX _ (by omega)), h.1 21 (by unfold Cr; omega) (hX _ (by omega)), h.1 22 (by unfold Cr; omega) (hX _ (by omega)), h.1 23 (by unfold Cr; omega) (hX _ (by omega)), h.1 87 (by unfold Cr; omega) (hX _ (by omega)), h.2.1 32 (by unfold Cf; omega) (hX _ (by omega))]
  simp only [nxt_keep h (fun a ha => hX a (by omega))]
  exact g
theorem Gi_keep {X : Nat → Prop} {s s' : Mem} {nb n : Nat} (h : SmX X s s') (hX : ∀ a, (a = 25 ∨ a = 26 ∨ a = 79 ∨ a = 88 ∨ a = 89) → ¬ X a) (g : Gi s nb n) : Gi s' nb n := by
  unfold Gi
  rw [h.1 25 (by unfold Cr; omega) (hX _ (by omega)), h.1 26 (by unfold Cr; omega) (hX _ (by omega)), h.1 79 (by unfold Cr; omega) (hX _ (by omega)), h.1 88 (by unfold Cr; omega) (hX _ (by omega)), h.1 89 (by unfold Cr; omega) (hX _ (by omega))]
  exact g
theorem Ga_keep {X : Nat → Prop} {s s' : Mem} (h : SmX X s s') (hX : ∀ a, (a = 2 ∨ a = 3 ∨ a = 69 ∨ a = 1000 ∨ a = 1002 ∨ a = 3000) → ¬ X a) (g : Ga s) : Ga s' := by
  unfold Ga
  rw [h.1 2 (by unfold Cr; omega) (hX _ (by omega)), h.1 3 (by unfold Cr; omega) (hX _ (by omega)), h.1 69 (by unfold Cr; omega) (hX _ (by omega)), h.2.1 0 (by unfold Cf; omega) (hX _ (by omega)), h.2.1 2 (by unfold Cf; omega) (hX _ (by omega)), h.2.2.2 (hX _ (by omega))]
  exact g
theorem Gj_keep {X : Nat → Prop} {s s' : Mem} (h : SmX X s s') (hX : ∀ a, (a = 33 ∨ a = 45) → ¬ X a) (g : Gj s) : Gj s' := by
  unfold Gj
  rw [h.1 33 (by unfold Cr; omega) (hX _ (by omega)), h.1 45 (by unfold Cr; omega) (hX _ (by omega))]
  exact g
/-- what is told changes, and scratch -/
def Xt (a : Nat) : Prop := a = 2 ∨ a = 3 ∨ a = 69 ∨ a = 1000 ∨ a = 1002 ∨ a = 3000
theorem Inv_keep {s s' : Mem} (hI : Inv s) (h : SmX Xt s s') (ha : Ga s') : Inv s' := by
  obtain ⟨nb, n, nq, nm, nd, ga, gb, gc, gd, ge, gf, gg, gh, gi, gj⟩ := hI
  unfold Xt at h
  exact ⟨nb, n, nq, nm, nd, ha, Gb_keep h (fun a ha => by omega) gb, Gc_keep h (fun a ha => by omega) gc, Gd_keep h (fun a ha => by omega) gd, Ge_keep h (fun a ha => by omega) ge, Gf_keep h (fun a ha => by omega) gf, Gg_keep h (fun a ha => by omega) gg, Gh_keep h (fun a ha => by omega) gh, Gi_keep h (fun a ha => by omega) gi, Gj_keep h (fun a ha => by omega) gj⟩
theorem Inv_same {s s' : Mem} (hI : Inv s) (h : Sm s s') : Inv s' := by
  refine Inv_keep hI h.to ?_
  obtain ⟨nb, n, nq, nm, nd, ga, _⟩ := hI
  exact Ga_keep h (fun _ _ => id) ga
/-- a row is changed, alike on both sides -/
theorem Inv_row {s s' : Mem} {r : Nat} (hI : Inv s) (hr : r < 6) (h : SmX (fun a => a = 48 + 2 * r ∨ a = 49 + 2 * r ∨ a = 70 ∨ a = 71) s s') (h70 : ∀ j, j ≠ r → s'.1 70 j = s.1 70 j) (h71 : ∀ j, (j < 60 * r ∨ 60 * r + 60 ≤ j) → s'.1 71 j = s.1 71 j)
    (hn : s'.1 (48 + 2 * r) 0 = s'.1 70 r ∧ SzOk (s'.1 70 r) ∧ ∀ i n : Nat, s'.1 70 r = nI n → i < n → n ≤ 60 → s'.1 (49 + 2 * r) i = s'.1 71 (60 * r + i)) : Inv s' := by
  obtain ⟨nb, n, nq, nm, nd, ga, gb, gc, gd, ge, gf, gg, gh, gi, gj⟩ := hI
  refine ⟨nb, n, nq, nm, nd, Ga_keep h (fun a ha => by omega) ga, ?_, Gc_keep h (fun a ha => by omega) gc, Gd_keep h (fun a ha => by omega) gd, Ge_keep h (fun a ha => by omega) ge, Gf_keep h (fun a ha => by omega) gf, Gg_keep h (fun a ha => by omega) gg, Gh_keep h (fun a ha => by omega) gh, Gi_keep h (fun a ha => by omega) gi, Gj_keep h (fun a ha => by omega) gj⟩
  intro r' hr'
  by_cases e : r' = r
  · subst e
    exact hn
  · obtain ⟨g1, g2, g3⟩ := gb r' hr'
    rw [h.1 (48 + 2 * r') (by unfold Cr; omega) (by omega), h.1 (49 + 2 * r') (by unfold Cr; omega) (by omega), h70 r' e]
    refine ⟨g1, g2, fun i m h1 h2 h3 => ?_⟩
    rw [h71 _ (by omega)]
    exact g3 i m h1 h2 h3
theorem Inv.ga {s : Mem} (h : Inv s) : Ga s := by obtain ⟨_, _, _, _, _, ga, _⟩ := h; exact ga
theorem Inv.gb {s : Mem} (h : Inv s) : Gb s := by obtain ⟨_, _, _, _, _, _, gb, _⟩ := h; exact gb
theorem Inv.gc {s : Mem} (h : Inv s) : Gc s := by obtain ⟨_, _, _, _, _, _, _, gc, _⟩ := h; exact gc
-- told by both sides
theorem Ga_tell {s : Mem} (g : Ga s) (v : Int32) : Ga (wI (wI s 2 0 v) 68 2 v) := by
  obtain ⟨h1, h2, h3, h4, h5⟩ := g
  refine ⟨rfl, h2, h3, h4, ?_⟩
  rw [wI_ne (by decide), wI_ne (by decide), wI_ne (by decide), wI_ne (by decide)]
  exact h5
theorem Inv_tell {s : Mem} (hI : Inv s) (v : Int32) : Inv (wI (wI s 2 0 v) 68 2 v) :=
  Inv_keep hI ((SmX.wI (fun _ => by unfold Xt; omega) (by omega) (by omega)).tr (SmX.wI (by unfold Cr; omega) (fun _ _ => by unfold Xt; omega) (by omega))) (Ga_tell hI.ga v)
theorem Ga_found {s : Mem} (g : Ga s) (f : Nat) (v : Int32) : Ga (wI (wI (wI (wI s 2 3 v) 3 f (s.1 3 f + 1)) 68 0 v) 69 f (s.1 69 f + 1)) := by
  obtain ⟨h1, h2, h3, h4, h5⟩ := g
  refine ⟨h1, h2, h3, rfl, ?_⟩
  funext j
  have h6 : s.1 3 j = s.1 69 j := congrFun h5 j
  by_cases hj : j = f
  · subst hj
    simp [wI, h5]
  · simp [wI, hj, h6]
theorem Inv_found {s : Mem} (hI : Inv s) (f : Nat) (v : Int32) : Inv (wI (wI (wI (wI s 2 3 v) 3 f (s.1 3 f + 1)) 68 0 v) 69 f (s.1 69 f + 1)) :=
  Inv_keep hI ((((SmX.wI (fun _ => by unfold Xt; omega) (by omega) (by omega)).tr (SmX.wI (fun _ => by unfold Xt; omega) (by omega) (by omega))).tr (SmX.wI (by unfold Cr; omega) (fun _ _ => by unfold Xt; omega) (by omega))).tr (SmX.wI (fun _ => by unfold Xt; omega) (by omega) (by omega))) (Ga_found hI.ga f v)
theorem f_tell (v : Int32) (s : Mem) : fX10_tell v s = some ((), wI s 2 0 v) := rfl
theorem f_tells (v r : Int32) (s : Mem) : fX12_tells v r s = some (r, wI s 68 2 v) := rfl
theorem f_found {f : Nat} (hf : f < 6) (s : Mem) : fX10_found (nI f) s = some (-3, wI (wI s 2 3 (nI f)) 3 f (s.1 3 f + 1)) := by
  unfold fX10_found
  rw [if_neg (nI_nonneg (by omega)), if_pos ((lt_num (by omega) (by decide)).mpr hf), if_pos (inb_ok hf (by decide)), if_pos (inb_ok hf (by decide)), ix_nI (by omega)]
  rfl
theorem f_meets {f : Nat} (hf : f < 6) (s : Mem) : fX12_meets (nI f) s = some (-3, wI (wI s 68 0 (nI f)) 69 f (s.1 69 f + 1)) := by
  unfold fX12_meets
  rw [if_pos (inb_ok hf (by decide)), if_pos (inb_ok hf (by decide)), ix_nI (by omega)]
  rfl
/-- the class finds f, then the reference: alike -/
theorem al_found {s : Mem} (hI : Inv s) (f : Nat) : Inv (wI (wI (wI (wI s 2 3 (nI f)) 3 f (s.1 3 f + 1)) 68 0 (nI f)) 69 f ((wI (wI s 2 3 (nI f)) 3 f (s.1 3 f + 1)).1 69 f + 1)) := Inv_found hI f (nI f)
theorem wI_sw {s : Mem} {q j q' j' : Nat} {v v' : Int32} (h : q ≠ q') : wI (wI s q j v) q' j' v' = wI (wI s q' j' v') q j v := by
  unfold wI
  congr 1
  funext a b
  by_cases h1 : a = q
  · have h2 : ¬ a = q' := fun e => h (h1.symm.trans e)
    simp [h1, h]
  · simp [h1]
