-- crossed
section CRS
variable {s : Mem} {nb n nq : Nat}
/-- quarrels, the reference's cells -/
def Rq (s : Mem) (n nq : Nat) : Prop := nq ≤ 8 ∧ s.1 68 29 = nI nq ∧ ∀ q, q < nq → ∃ g h : Nat, g < n ∧ h < n ∧ g ≠ h ∧ s.1 85 q = nI g ∧ s.1 86 q = nI h
theorem Gf.rq (g : Gf s n nq) : Rq s n nq := ⟨g.1, g.2.2.1, g.2.2.2.2.2.1⟩
def qa (s : Mem) (q : Nat) : Int32 := s.1 79 (ix (s.1 85 q))
def qb (s : Mem) (q : Nat) : Int32 := s.1 79 (ix (s.1 86 q))
def brk (s : Mem) (q : Nat) : Bool := decide (qa s q ≠ -9 ∧ qb s q ≠ -9 ∧ ¬ 1 < ab (qa s q - qb s q))
def crs (s : Mem) (q : Nat) : Bool := decide (qa s q ≠ -9 ∧ qb s q ≠ -9 ∧ s.1 75 (ix (qa s q)) * s.1 75 (ix (qb s q)) < 0)
theorem isBroken_ok (rq : Rq s n nq) (h7 : n ≤ 7) {q : Nat} (hq : q < nq) : fX12_isBroken (nI q) s = some (if brk s q then 1 else 0, s) := by
  obtain ⟨h8, _, hf⟩ := rq
  obtain ⟨g, h, hg, hh, _, e1, e2⟩ := hf q hq
  have b1 : qa s q = s.1 79 g := by
    unfold qa
    rw [e1, ix_nI (by omega)]
  have b2 : qb s q = s.1 79 h := by
    unfold qb
    rw [e2, ix_nI (by omega)]
  have hin : inb (nI q) 8 = true := inb_ok (by omega) (by decide)
  have hig : inb (nI g) 8 = true := inb_ok (by omega) (by decide)
  have hih : inb (nI h) 8 = true := inb_ok (by omega) (by decide)
  unfold fX12_isBroken
  rw [if_pos hin, ix_nI (show q < 2 ^ 31 by omega), e1, e2, if_pos hig, nm_eq, if_pos hin, if_pos hih, nm_eq, ix_nI (show g < 2 ^ 31 by omega), ix_nI (show h < 2 ^ 31 by omega), sizeOf_ok, bnd_some, ← ab_eq]
  unfold brk
  rw [b1, b2]
  by_cases c1 : s.1 79 g = -9
  · rw [if_pos c1, decide_eq_false (fun z => z.1 c1)]
    rfl
  · by_cases c2 : s.1 79 h = -9
    · rw [if_neg c1, if_pos c2, decide_eq_false (fun z => z.2.1 c2)]
      rfl
    · by_cases c3 : 1 < ab (s.1 79 g - s.1 79 h)
      · rw [if_neg c1, if_neg c2, if_pos c3, decide_eq_false (fun z => z.2.2 c3)]
        rfl
      · rw [if_neg c1, if_neg c2, if_neg c3, decide_eq_true ⟨c1, c2, c3⟩]
        rfl
theorem oneOf_ok (gf : Gf s n nq) {q : Nat} (hq : q < nq) : fX5_oneOf (nI q) s = some (s.1 85 q, s) := by
  have h8 := gf.1
  unfold fX5_oneOf
  rw [if_neg (nI_nonneg (by omega)), gf.2.1, if_pos (nI_lt hq (by omega)), if_pos (inb_ok (by omega) (by decide)), ix_nI (by omega), gf.2.2.2.1]
theorem otherOf_ok (gf : Gf s n nq) {q : Nat} (hq : q < nq) : fX5_otherOf (nI q) s = some (s.1 86 q, s) := by
  have h8 := gf.1
  unfold fX5_otherOf
  rw [if_neg (nI_nonneg (by omega)), gf.2.1, if_pos (nI_lt hq (by omega)), if_pos (inb_ok (by omega) (by decide)), ix_nI (by omega), gf.2.2.2.2.1]
theorem crossed1 (gd : Gd s nb n) (gf : Gf s n nq) (κ : Int32 → Int32 → Mem → Option (Int32 × Mem)) : fX11_crossed_L6 κ FU 0 0 0 s = κ (nI (cntN (crs s) nq)) (nI (cntN (brk s) nq)) s := by
  have h7 := gd.ln
  have h8 := gd.lb
  have hq8 := gf.1
  have key := lp0 (fun k j => fX11_crossed_L6 κ k (nI (cntN (crs s) j)) (nI (cntN (brk s) j)) (nI j) s) (κ (nI (cntN (crs s) nq)) (nI (cntN (brk s) nq)) s) nq ?_ ?_ (by omega)
  · exact key
  · intro j k hj
    show fX11_crossed_L6 κ (k + 1) _ _ (nI j) s = fX11_crossed_L6 κ k _ _ (nI (j + 1)) s
    obtain ⟨g, h, hg, hh, _, e1, e2⟩ := gf.rq.2.2 j hj
    have b1 : qa s j = s.1 79 g := by
      unfold qa
      rw [e1, ix_nI (by omega)]
    have b2 : qb s j = s.1 79 h := by
      unfold qb
      rw [e2, ix_nI (by omega)]
    rw [fX11_crossed_L6, gf.2.1, if_pos (nI_lt hj (by omega)), oneOf_ok gf hj, bnd_some, e1, benchOf_ok gd hg, bnd_some, otherOf_ok gf hj, bnd_some, e2, benchOf_ok gd hh, bnd_some, cntN, cntN]
    unfold crs brk
    rw [b1, b2]
    simp only [nI_1]
    rcases gd.sts g hg with c1 | ⟨b, hb, c1⟩
    · rw [if_pos c1, decide_eq_false (fun z => z.1 c1), decide_eq_false (fun z => z.1 c1)]
      rfl
    · have c1' : ¬ s.1 79 g = -9 := by rw [c1]; exact nI_m9 (by omega)
      rcases gd.sts h hh with c2 | ⟨c, hc, c2⟩
      · rw [if_neg c1', if_pos c2, decide_eq_false (fun z => z.2.1 c2), decide_eq_false (fun z => z.2.1 c2)]
        rfl
      · have c2' : ¬ s.1 79 h = -9 := by rw [c2]; exact nI_m9 (by omega)
        rw [if_neg c1', if_neg c2']
        have x1 : fX0_xOf (s.1 79 g) s = some (s.1 75 (ix (s.1 79 g)), s) := by rw [c1, xOf_ok gd hb, ix_nI (by omega)]
        have x2 : fX0_xOf (s.1 79 h) s = some (s.1 75 (ix (s.1 79 h)), s) := by rw [c2, xOf_ok gd hc, ix_nI (by omega)]
        rw [x1, bnd_some, x2, bnd_some]
        by_cases c3 : s.1 75 (ix (s.1 79 g)) * s.1 75 (ix (s.1 79 h)) < 0
        · rw [if_pos c3, decide_eq_true (⟨c1', c2', c3⟩ : s.1 79 g ≠ -9 ∧ s.1 79 h ≠ -9 ∧ s.1 75 (ix (s.1 79 g)) * s.1 75 (ix (s.1 79 h)) < 0)]
          by_cases c4 : 1 < ab (s.1 79 g - s.1 79 h)
          · rw [if_pos c4, decide_eq_false (fun z => z.2.2 c4)]
            rfl
          · rw [if_neg c4, decide_eq_true (⟨c1', c2', c4⟩ : s.1 79 g ≠ -9 ∧ s.1 79 h ≠ -9 ∧ ¬ 1 < ab (s.1 79 g - s.1 79 h))]
            rfl
        · rw [if_neg c3, decide_eq_false (fun z : s.1 79 g ≠ -9 ∧ s.1 79 h ≠ -9 ∧ s.1 75 (ix (s.1 79 g)) * s.1 75 (ix (s.1 79 h)) < 0 => c3 z.2.2)]
          by_cases c4 : 1 < ab (s.1 79 g - s.1 79 h)
          · rw [if_pos c4, decide_eq_false (fun z => z.2.2 c4)]
            rfl
          · rw [if_neg c4, decide_eq_true (⟨c1', c2', c4⟩ : s.1 79 g ≠ -9 ∧ s.1 79 h ≠ -9 ∧ ¬ 1 < ab (s.1 79 g - s.1 79 h))]
            rfl
  · intro k
    show fX11_crossed_L6 κ (k + 1) _ _ (nI nq) s = _
    rw [fX11_crossed_L6, gf.2.1, if_neg (nI_nlt (Nat.le_refl nq) (by omega))]
theorem crossed2 (rd : Rd s nb n) (rq : Rq s n nq) (κ : Int32 → Int32 → Mem → Option (Int32 × Mem)) : fX12_crossed_L6 κ FU 0 0 0 s = κ (nI (cntN (crs s) nq)) (nI (cntN (brk s) nq)) s := by
  have h7 := rd.2.1
  have h8 := rd.1
  have hq8 := rq.1
  have key := lp0 (fun k j => fX12_crossed_L6 κ k (nI (cntN (crs s) j)) (nI (cntN (brk s) j)) (nI j) s) (κ (nI (cntN (crs s) nq)) (nI (cntN (brk s) nq)) s) nq ?_ ?_ (by omega)
  · exact key
  · intro j k hj
    show fX12_crossed_L6 κ (k + 1) _ _ (nI j) s = fX12_crossed_L6 κ k _ _ (nI (j + 1)) s
    obtain ⟨g, h, hg, hh, _, e1, e2⟩ := rq.2.2 j hj
    have b1 : qa s j = s.1 79 g := by
      unfold qa
      rw [e1, ix_nI (by omega)]
    have b2 : qb s j = s.1 79 h := by
      unfold qb
      rw [e2, ix_nI (by omega)]
    have hin : inb (nI j) 8 = true := inb_ok (by omega) (by decide)
    have hig : inb (nI g) 8 = true := inb_ok (by omega) (by decide)
    have hih : inb (nI h) 8 = true := inb_ok (by omega) (by decide)
    rw [fX12_crossed_L6, rq.2.1, if_pos (nI_lt hj (by omega)), if_pos hin, ix_nI (show j < 2 ^ 31 by omega), e1, e2, if_pos hig, nm_eq, if_pos hin, if_pos hih, nm_eq, ix_nI (show g < 2 ^ 31 by omega), ix_nI (show h < 2 ^ 31 by omega), isBroken_ok rq h7 hj, cntN, cntN]
    simp only [bnd_some, nm_eq, nI_1, Int32.add_zero]
    unfold crs
    rw [b1, b2]
    rcases rd.2.2.2.2 g hg with c1 | ⟨b, hb, c1⟩
    · have k2 : brk s j = false := decide_eq_false (fun z => z.1 (b1.trans c1))
      rw [if_pos c1, decide_eq_false (fun z => z.1 c1), k2]
      rfl
    · have c1' : ¬ s.1 79 g = -9 := by rw [c1]; exact nI_m9 (by omega)
      rcases rd.2.2.2.2 h hh with c2 | ⟨c, hc, c2⟩
      · have k2 : brk s j = false := decide_eq_false (fun z => z.2.1 (b2.trans c2))
        rw [if_neg c1', if_pos c2, decide_eq_false (fun z => z.2.1 c2), k2]
        rfl
      · have c2' : ¬ s.1 79 h = -9 := by rw [c2]; exact nI_m9 (by omega)
        have i1 : inb (s.1 79 g) 8 = true := by rw [c1]; exact inb_ok (by omega) (by decide)
        have i2 : inb (s.1 79 h) 8 = true := by rw [c2]; exact inb_ok (by omega) (by decide)
        rw [if_neg c1', if_neg c2', if_pos i1, if_pos i2]
        by_cases c3 : s.1 75 (ix (s.1 79 g)) * s.1 75 (ix (s.1 79 h)) < 0
        · rw [if_pos c3, decide_eq_true (⟨c1', c2', c3⟩ : s.1 79 g ≠ -9 ∧ s.1 79 h ≠ -9 ∧ s.1 75 (ix (s.1 79 g)) * s.1 75 (ix (s.1 79 h)) < 0)]
          cases brk s j with
          | false => rfl
          | true => rfl
        · rw [if_neg c3, decide_eq_false (fun z : s.1 79 g ≠ -9 ∧ s.1 79 h ≠ -9 ∧ s.1 75 (ix (s.1 79 g)) * s.1 75 (ix (s.1 79 h)) < 0 => c3 z.2.2)]
          cases brk s j with
          | false => rfl
          | true => rfl
  · intro k
    show fX12_crossed_L6 κ (k + 1) _ _ (nI nq) s = _
    rw [fX12_crossed_L6, rq.2.1, if_neg (nI_nlt (Nat.le_refl nq) (by omega))]
end CRS
theorem al_crossed : Alike fX11_crossed fX12_crossed := by
  intro s hI
  obtain ⟨nb, n, nq, nm, nd, ga, gb, gc, gd, ge, gf, gg, gh, gi, gj⟩ := id hI
  have rd2 := (Gd_told (nI (cntN (brk s) nq)) gd).rd
  have rq2 : Rq (wI s 2 0 (nI (cntN (brk s) nq))) n nq := gf.rq
  unfold fX11_crossed fX12_crossed
  refine ⟨nI (cntN (crs s) nq), wI s 2 0 (nI (cntN (brk s) nq)), wI (wI s 2 0 (nI (cntN (brk s) nq))) 68 2 (nI (cntN (brk s) nq)), ?_, ?_, Inv_tell hI _⟩
  · rw [crossed1 gd gf, f_tell, bnd_some]
  · rw [crossed2 rd2 rq2, f_tells, bnd_some]
    rfl
