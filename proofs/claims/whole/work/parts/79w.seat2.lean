-- seatings: the reference's search
section SR2
variable {s x : Mem} {nb n nq nm' : Nat}
theorem layS_R (gd : Gd s nb n) (gg : Gg s nm') (gf : Gf s n nq) : ∀ k g f st K x, g + k = n → k < K → (∀ h, h < n → StOk nb (f h)) → (∀ h, h < g → ∃ b : Nat, b < nb ∧ f h = nI b) → SsOk n st → RQs s x n f st → ∃ x', fX12_laySeatings K (nI g) x = some ((), x') ∧ RQs s x' n f (layS nb (mayS s n nq) (Wf s n nm') (lvW s) k g f st) ∧ SsOk n (layS nb (mayS s n nq) (Wf s n nm') (lvW s) k g f st) := by
  have h7 := gd.ln
  have h8 := gd.lb
  intro k
  induction k with
  | zero =>
    intro g f st K x hk hK hst hlo hs hx
    obtain ⟨K', rfl⟩ : ∃ K', K = K' + 1 := ⟨K - 1, by omega⟩
    have eg : g = n := by omega
    subst eg
    obtain ⟨x', ex, rx⟩ := meets_ok gd gg hlo hs hx
    have x12 : x.1 68 12 = nI g := (hx.rd gd.rd hst).2.2.2.1
    refine ⟨x', ?_, rx, lf_ok (Wf_pos gd gg hst) (fun h hh => ?_) hs⟩
    · rw [fX12_laySeatings]
      unfold fX12_laySeatings_B
      rw [x12, if_pos rfl, ex, bnd_some]
    · obtain ⟨b, hb, e⟩ := hlo h hh
      exact ⟨b, by omega, e⟩
  | succ k ih =>
    intro g f st K x hk hK hst hlo hs hx
    obtain ⟨K', rfl⟩ : ∃ K', K = K' + 1 := ⟨K - 1, by omega⟩
    have x12 : x.1 68 12 = nI n := (hx.rd gd.rd hst).2.2.2.1
    have hg8 : inb (nI g) 8 = true := inb_ok (by omega) (by decide)
    rw [fX12_laySeatings]
    unfold fX12_laySeatings_B
    rw [x12, if_neg (fun z => by
      have := (nI_eq (by omega) (by omega)).mp z
      omega), if_pos hg8, ix_nI (by omega), hx.2.1, layS]
    by_cases c : f g = -9
    · rw [if_pos c, if_pos c]
      have key := lp_inv0 (fun t j (y : Mem) => fX12_laySeatings_L38 (fX12_laySeatings K') (fun s13 => some ((), s13)) (nI g) t (nI j) y) (fun j y => RQs s y n f (ivb (fun b z => @ite _ (mayS s n nq f g b) (Classical.propDecidable _) (layS nb (mayS s n nq) (Wf s n nm') (lvW s) k (g + 1) (upd f g (nI b)) z) z) st j) ∧ SsOk n (ivb (fun b z => @ite _ (mayS s n nq f g b) (Classical.propDecidable _) (layS nb (mayS s n nq) (Wf s n nm') (lvW s) k (g + 1) (upd f g (nI b)) z) z) st j)) nb x ⟨hx, hs⟩ ?_ (by omega)
      · obtain ⟨y, t, ⟨i1, i2⟩, e⟩ := key
        refine ⟨y, ?_, i1, i2⟩
        have e' : fX12_laySeatings_L38 (fX12_laySeatings K') (fun s13 => some ((), s13)) (nI g) FU 0 x = fX12_laySeatings_L38 (fX12_laySeatings K') (fun s13 => some ((), s13)) (nI g) (t + 1) (nI nb) y := e
        rw [e', fX12_laySeatings_L38, (i1.rd gd.rd hst).2.2.1, if_neg (nI_nlt (Nat.le_refl nb) (by omega))]
      · rintro j t y hj ⟨i1, i2⟩
        show ∃ y', _ ∧ fX12_laySeatings_L38 (fX12_laySeatings K') _ (nI g) (t + 1) (nI j) y = fX12_laySeatings_L38 (fX12_laySeatings K') _ (nI g) t (nI (j + 1)) y'
        rw [ivb]
        generalize ivb (fun b z => @ite _ (mayS s n nq f g b) (Classical.propDecidable _) (layS nb (mayS s n nq) (Wf s n nm') (lvW s) k (g + 1) (upd f g (nI b)) z) z) st j = z0 at i1 i2 ⊢
        obtain ⟨j1, j2, j3, j4, j5, j6⟩ := id i1
        have so := sitsOn_ok (i1.rd gd.rd hst) (i1.rq gf.rq) (show g < n by omega) hj
        rw [j2, j1.1 76 (by unfold Cr; omega) (by omega), j1.1 85 (by unfold Cr; omega) (by omega), j1.1 86 (by unfold Cr; omega) (by omega)] at so
        rw [fX12_laySeatings_L38, (i1.rd gd.rd hst).2.2.1, if_pos (nI_lt hj (by omega)), nI_1 j]
        by_cases m : mayS s n nq f g j
        · rw [so.1 m, bnd_some, if_neg one_ne, if_pos m]
          have rq1 : RQs s (wI y 79 g (nI j)) n (upd f g (nI j)) z0 := by
            refine ⟨j1.tr (SmX.wI (by omega) (by omega) (by omega)), ?_, j3, j4, j5, j6⟩
            rw [wI_79, j2]
          have hst1 : ∀ h, h < n → StOk nb (upd f g (nI j) h) := fun h hh => by
            by_cases e : h = g
            · rw [e, uq_s]
              exact Or.inr ⟨j, hj, rfl⟩
            · rw [uq_n _ _ e]
              exact hst h hh
          have hlo1 : ∀ h, h < g + 1 → ∃ b : Nat, b < nb ∧ upd f g (nI j) h = nI b := fun h hh => by
            by_cases e : h = g
            · rw [e, uq_s]
              exact ⟨j, hj, rfl⟩
            · rw [uq_n _ _ e]
              exact hlo h (by omega)
          obtain ⟨y2, e2, r2, o2⟩ := ih (g + 1) (upd f g (nI j)) z0 K' _ (by omega) (by omega) hst1 hlo1 i2 rq1
          rw [nI_1, e2, bnd_some, if_pos hg8, ix_nI (by omega)]
          obtain ⟨l1, l2, l3, l4, l5, l6⟩ := r2
          refine ⟨wI y2 79 g (-9), ⟨⟨l1.tr (SmX.wI (by omega) (by omega) (by omega)), ?_, l3, l4, l5, l6⟩, o2⟩, rfl⟩
          rw [wI_79, l2]
          funext i
          by_cases e : i = g
          · rw [e, uq_s, c]
          · rw [uq_n _ _ e, uq_n _ _ e]
        · rw [so.2 m, bnd_some, if_pos rfl, if_neg m]
          exact ⟨y, ⟨i1, i2⟩, rfl⟩
    · rw [if_neg c, if_neg c, nI_1]
      obtain ⟨x', ex, rx, ox⟩ := ih (g + 1) f st K' x (by omega) (by omega) hst (fun h hh => by
        by_cases e : h = g
        · rw [e]
          exact (hst g (by omega)).resolve_left c
        · exact hlo h (by omega)) hs hx
      exact ⟨x', by rw [ex, bnd_some], rx, ox⟩
/-- no more than eight to the power of the comers -/
theorem lay_le (hnb : nb ≤ 8) {may : (Nat → Int32) → Nat → Nat → Prop} {W : (Nat → Int32) → Int32} {lvl : Int32 → Bool} : ∀ k g f st c, (∀ f' : Nat → Int32, (∀ h, g ≤ h → f' h = f h) → cntN (fun i => decide (f' (g + i) = -9)) k = c) → (layS nb may W lvl k g f st).1 ≤ st.1 + 8 ^ c
  | 0, g, f, st, c, hc => by
    show st.1 + 1 ≤ _
    have : 0 < 8 ^ c := Nat.pow_pos (by decide)
    omega
  | k + 1, g, f, st, c, hc => by
    have hsh : ∀ f' : Nat → Int32, cntN (fun i => decide (f' (g + i) = -9)) (k + 1) = (if f' g = -9 then 1 else 0) + cntN (fun i => decide (f' (g + 1 + i) = -9)) k := by
      intro f'
      have : ∀ j, cntN (fun i => decide (f' (g + i) = -9)) (j + 1) = (if f' g = -9 then 1 else 0) + cntN (fun i => decide (f' (g + 1 + i) = -9)) j := by
        intro j
        induction j with
        | zero =>
          show 0 + (if decide (f' (g + 0) = -9) = true then 1 else 0) = (if f' g = -9 then 1 else 0) + 0
          by_cases e : f' g = -9
          · rw [if_pos e, if_pos (show decide (f' (g + 0) = -9) = true from decide_eq_true e)]
          · rw [if_neg e, if_neg (by rw [decide_eq_false (show ¬ f' (g + 0) = -9 from e)]; decide)]
        | succ j ihj =>
          rw [cntN, ihj]
          show _ = _ + (cntN (fun i => decide (f' (g + 1 + i) = -9)) j + (if decide (f' (g + 1 + j) = -9) = true then 1 else 0))
          rw [show g + (j + 1) = g + 1 + j by omega]
          omega
      exact this k
    rw [layS]
    by_cases e : f g = -9
    · rw [if_pos e]
      obtain ⟨c', rfl⟩ : ∃ c', c = c' + 1 := ⟨c - 1, by
        have := hc f (fun _ _ => rfl)
        rw [hsh f, if_pos e] at this
        omega⟩
      have hc' : ∀ (f0 : Nat → Int32), (∀ h, g + 1 ≤ h → f0 h = f h) → cntN (fun i => decide (f0 (g + 1 + i) = -9)) k = c' := by
        intro f0 h0
        have := hc (upd f0 g (-9)) (fun h hh => by
          by_cases e2 : h = g
          · rw [e2, uq_s, e]
          · rw [uq_n _ _ e2, h0 h (by omega)])
        rw [hsh, uq_s, if_pos rfl] at this
        have e3 : cntN (fun i => decide (upd f0 g (-9) (g + 1 + i) = -9)) k = cntN (fun i => decide (f0 (g + 1 + i) = -9)) k := cntN_cong (fun i _ => by
          show decide _ = decide _
          rw [uq_n _ _ (by omega)])
        rw [e3] at this
        omega
      have main : ∀ j, j ≤ nb → (ivb (fun b z => @ite _ (may f g b) (Classical.propDecidable _) (layS nb may W lvl k (g + 1) (upd f g (nI b)) z) z) st j).1 ≤ st.1 + j * 8 ^ c' := by
        intro j
        induction j with
        | zero =>
          intro _
          show st.1 ≤ _
          omega
        | succ j ihj =>
          intro hj
          have h1 := ihj (by omega)
          have hmul : (j + 1) * 8 ^ c' = j * 8 ^ c' + 8 ^ c' := Nat.succ_mul _ _
          rw [ivb]
          generalize ivb (fun b z => @ite _ (may f g b) (Classical.propDecidable _) (layS nb may W lvl k (g + 1) (upd f g (nI b)) z) z) st j = z0 at h1 ⊢
          show (@ite _ (may f g j) (Classical.propDecidable _) (layS nb may W lvl k (g + 1) (upd f g (nI j)) z0) z0).1 ≤ _
          by_cases m : may f g j
          · rw [if_pos m]
            have h2 := lay_le hnb (may := may) (W := W) (lvl := lvl) k (g + 1) (upd f g (nI j)) z0 c' (fun f0 h0 => hc' f0 (fun h hh => by rw [h0 h hh, uq_n _ _ (by omega)]))
            omega
          · rw [if_neg m]
            rw [hmul]
            exact Nat.le_trans h1 (Nat.add_le_add_left (Nat.le_add_right _ _) _)
      have h3 := main nb (Nat.le_refl _)
      have h4 : nb * 8 ^ c' ≤ 8 * 8 ^ c' := Nat.mul_le_mul_right _ hnb
      have h5 : 8 ^ (c' + 1) = 8 * 8 ^ c' := by rw [Nat.pow_succ, Nat.mul_comm]
      omega
    · rw [if_neg e]
      exact lay_le hnb (may := may) (W := W) (lvl := lvl) k (g + 1) f st c (fun f0 h0 => by
        have := hc (upd f0 g (f g)) (fun h hh => by
          by_cases e2 : h = g
          · rw [e2, uq_s]
          · rw [uq_n _ _ e2, h0 h (by omega)])
        rw [hsh, uq_s, if_neg e] at this
        have e3 : cntN (fun i => decide (upd f0 g (f g) (g + 1 + i) = -9)) k = cntN (fun i => decide (f0 (g + 1 + i) = -9)) k := cntN_cong (fun i _ => by
          show decide _ = decide _
          rw [uq_n _ _ (by omega)])
        rw [e3] at this
        omega)
end SR2
