-- seatings: the class's search
section SC2
variable {s x : Mem} {nb n nq nm' : Nat}
theorem nI_sub1' {k : Nat} (h : k ≤ 9) : (k = 0 ∧ nI k - 1 = -1) ∨ ∃ k', k = k' + 1 ∧ nI k - 1 = nI k' := by
  cases k with
  | zero => exact Or.inl ⟨rfl, by decide⟩
  | succ k => exact Or.inr ⟨k, rfl, by rw [← nI_1, Int32.add_sub_cancel]⟩
/-- where one is put on j, the masks of the other benches stay -/
theorem mask_up {f : Nat → Int32} {g j k : Nat} (hf : f g = -9) (hj : j < 8) (hk : k ≤ 9) (hne : k ≠ j + 1) : msk (fun h => decide (upd f g (nI j) h = nI k - 1)) n = msk (fun h => decide (f h = nI k - 1)) n := msk_cong (fun h _ => by
  by_cases c : h = g
  · rw [c, uq_s, hf]
    rcases nI_sub1' hk with ⟨rfl, e⟩ | ⟨k', rfl, e⟩
    · rw [e, decide_eq_false (nI_neg (by omega) (by decide)), decide_eq_false (by decide)]
    · rw [e, decide_eq_false (fun z => hne (by rw [(nI_eq (by omega) (by omega)).mp z])), decide_eq_false (m9_nI (by omega))]
  · rw [uq_n _ _ c])
theorem tk_up {f : Nat → Int32} {g j b : Nat} (hf : f g = -9) (hj : j < 8) (hb : b < 8) (hne : b ≠ j) : tkF s n (upd f g (nI j)) b = tkF s n f b := cntN_cong (fun h _ => by
  show (decide (upd f g (nI j) h = nI b) && _) = (decide (f h = nI b) && _)
  by_cases c : h = g
  · rw [c, uq_s, hf, decide_eq_false (fun z => hne ((nI_eq (by omega) (by omega)).mp z).symm), decide_eq_false (m9_nI (by omega))]
  · rw [uq_n _ _ c])
def sgN (s : Mem) (g : Nat) : Nat := if s.1 76 g = 3 then 0 else 1
theorem tk_upj {f : Nat → Int32} {g j : Nat} (hg : g < n) (hf : f g = -9) (hj : j < 8) : tkF s n (upd f g (nI j)) j = tkF s n f j + sgN s g := by
  unfold tkF sgN
  rw [cntN_up1 (p := fun h => decide (upd f g (nI j) h = nI j) && decide (s.1 76 h ≠ 3)) (q := fun h => decide (f h = nI j) && decide (s.1 76 h ≠ 3)) (g := g) (by rw [hf, decide_eq_false (m9_nI (by omega))]; rfl) (fun k hk => by rw [uq_n _ _ hk]) n hg, uq_s]
  by_cases c : s.1 76 g = 3
  · rw [if_pos c, decide_eq_false (fun z : s.1 76 g ≠ 3 => z c), Bool.and_false]
    rfl
  · rw [if_neg c, decide_eq_true (show s.1 76 g ≠ 3 from c), decide_eq_true rfl]
    rfl
theorem free_lt {t u : Nat} (ht : t ≤ 10) (hu : u ≤ 10) : (2 - nI t < nI u) ↔ 2 < t + u := by
  have e1 : (2 - nI t).toInt = 2 - (t : Int) := pk_sub_toInt (a := 2) (b := t) (by decide) (by omega)
  rw [Int32.lt_iff_toInt_lt, e1, nI_toInt (by omega)]
  omega
theorem two_sub (t u : Nat) : 2 - nI t - nI u = 2 - nI (t + u) := by
  rw [← nI_add, Int32.sub_eq_add_neg, Int32.sub_eq_add_neg, Int32.sub_eq_add_neg, Int32.neg_add, Int32.sub_eq_add_neg, Int32.add_assoc]
theorem layS_C (gd : Gd s nb n) (ge : Ge s nb n) (gg : Gg s nm') (gf : Gf s n nq) : ∀ k g f st K x, g + k = n → k < K → (∀ h, h < n → StOk nb (f h)) → (∀ h, h < g → ∃ b : Nat, b < nb ∧ f h = nI b) → (∀ h, g ≤ h → h < n → f h = s.1 79 h) → SsOk n st → CQ s x nb n nm' g f st → ∃ x', fX8_tryComer K (nI (cntN (cmr s n) g)) (AL s n nm' 0 f) (AL s n nm' 1 f) (AL s n nm' 2 f) x = some ((), x') ∧ CQ s x' nb n nm' g f (layS nb (mayS s n nq) (Wf s n nm') (lvW s) k g f st) ∧ SsOk n (layS nb (mayS s n nq) (Wf s n nm') (lvW s) k g f st) := by
  have h7 := gd.ln
  have h8 := gd.lb
  have hcl := cntN_le (cmr s n) n
  intro k
  induction k with
  | zero =>
    intro g f st K x hk hK hst hlo heq hs hx
    obtain ⟨K', rfl⟩ : ∃ K', K = K' + 1 := ⟨K - 1, by omega⟩
    have eg : g = n := by omega
    subst eg
    obtain ⟨x', ex, cx⟩ := noteS gd gg hlo hs hx
    refine ⟨x', ?_, cx, lf_ok (Wf_pos gd gg hst) (fun h hh => ?_) hs⟩
    · rw [fX8_tryComer]
      unfold fX8_tryComer_B
      rw [hx.2.1, if_neg (nI_nlt (Nat.le_refl _) (by omega)), AL_W gd gg hst, ex, bnd_some]
    · obtain ⟨b, hb, e⟩ := hlo h hh
      exact ⟨b, by omega, e⟩
  | succ k ih =>
    intro g f st K x hk hK hst hlo heq hs hx
    have hgn : g < n := by omega
    rw [layS]
    by_cases c : f g = -9
    · rw [if_pos c]
      obtain ⟨K', rfl⟩ : ∃ K', K = K' + 1 := ⟨K - 1, by omega⟩
      have hcg : cmr s n g = true := decide_eq_true ⟨hgn, by rw [← heq g (Nat.le_refl _) hgn]; exact c⟩
      have hil : cntN (cmr s n) g < cntN (cmr s n) n := by
        have := cnt_mono (cmr s n) (show g + 1 ≤ n by omega)
        rw [cnt_t hcg] at this
        omega
      obtain ⟨Q, hQ1, hQ2⟩ := gf.fo
      have hi7 : inb (nI (cntN (cmr s n) g)) 7 = true := inb_ok (by omega) (by decide)
      have hfo : fX5_foesOf (nI g) x = some (nI (msk (Q g) 7), x) := by
        unfold fX5_foesOf
        rw [if_neg (nI_nonneg (by omega)), if_pos ((lt_num (b := 7) (by omega) (by decide)).mpr (by omega)), if_pos (inb_ok (by omega) (by decide)), ix_nI (by omega), hx.1.1 10 (by unfold Cr; omega) (by omega), hQ2 g (by omega)]
      have hsf : fX0_seatsFor (nI g) x = some (nI (sgN s g), x) := by
        have x61 : x.1 6 1 = nI n := by rw [hx.1.2.2.1 1 (by omega)]; exact gd.g6
        rw [seatsFor_ok x61 h7 hgn, hx.1.1 13 (by unfold Cr; omega) (by omega), gd.c13]
        unfold sgN
        by_cases c3 : s.1 76 g = 3
        · rw [if_pos c3, if_pos c3]
          rfl
        · rw [if_neg c3, if_neg c3]
          rfl
      have hsg : sgN s g ≤ 1 := by
        unfold sgN
        split <;> omega
      rw [fX8_tryComer]
      unfold fX8_tryComer_B
      rw [hx.2.1, if_pos (nI_lt hil (by omega)), if_pos ((lt_num (b := 7) (by omega) (by decide)).mpr (by omega)), if_pos hi7, ix_nI (by omega), hx.2.2.1 g hgn hcg, hfo, bnd_some, if_pos hi7, hx.2.2.1 g hgn hcg, hsf, bnd_some]
      have key := lp_inv0 (fun t j (y : Mem) => fX8_tryComer_L74 (fX8_tryComer K') (fun s23 => some ((), s23)) (nI (cntN (cmr s n) g)) (AL s n nm' 0 f) (AL s n nm' 1 f) (AL s n nm' 2 f) (nI (msk (Q g) 7)) (nI (sgN s g)) t (nI j) y) (fun j y => CQ s y nb n nm' g f (ivb (fun b z => @ite _ (mayS s n nq f g b) (Classical.propDecidable _) (layS nb (mayS s n nq) (Wf s n nm') (lvW s) k (g + 1) (upd f g (nI b)) z) z) st j) ∧ SsOk n (ivb (fun b z => @ite _ (mayS s n nq f g b) (Classical.propDecidable _) (layS nb (mayS s n nq) (Wf s n nm') (lvW s) k (g + 1) (upd f g (nI b)) z) z) st j)) nb x ⟨hx, hs⟩ ?_ (by omega)
      · obtain ⟨y, t, ⟨i1, i2⟩, e⟩ := key
        refine ⟨y, ?_, i1, i2⟩
        have e' : fX8_tryComer_L74 (fX8_tryComer K') (fun s23 => some ((), s23)) (nI (cntN (cmr s n) g)) (AL s n nm' 0 f) (AL s n nm' 1 f) (AL s n nm' 2 f) (nI (msk (Q g) 7)) (nI (sgN s g)) FU 0 x = fX8_tryComer_L74 (fX8_tryComer K') (fun s23 => some ((), s23)) (nI (cntN (cmr s n) g)) (AL s n nm' 0 f) (AL s n nm' 1 f) (AL s n nm' 2 f) (nI (msk (Q g) 7)) (nI (sgN s g)) (t + 1) (nI nb) y := e
        rw [e', fX8_tryComer_L74, i1.1.2.2.1 0 (by omega), gd.b6, if_neg (nI_nlt (Nat.le_refl nb) (by omega))]
      · rintro j t y hj ⟨i1, i2⟩
        show ∃ y', _ ∧ fX8_tryComer_L74 (fX8_tryComer K') _ _ _ _ _ _ _ (t + 1) (nI j) y = fX8_tryComer_L74 (fX8_tryComer K') _ _ _ _ _ _ _ t (nI (j + 1)) y'
        rw [ivb]
        generalize ivb (fun b z => @ite _ (mayS s n nq f g b) (Classical.propDecidable _) (layS nb (mayS s n nq) (Wf s n nm') (lvW s) k (g + 1) (upd f g (nI b)) z) z) st j = z0 at i1 i2 ⊢
        obtain ⟨c1, c2, c3, c4, c5, c6, c7, c8, c9, c10, c11⟩ := id i1
        have hj8 : inb (nI j) 8 = true := inb_ok (by omega) (by decide)
        have hj10 : inb (nI j) 10 = true := inb_ok (by omega) (by decide)
        have hk10 : inb (nI (j + 1)) 10 = true := inb_ok (by omega) (by decide)
        have hl10 : inb (nI (j + 2)) 10 = true := inb_ok (by omega) (by decide)
        have j2 : nI j + 2 = nI (j + 2) := nI_add j 2
        have s1 : nI (j + 1) - 1 = nI j := by rw [← nI_1, Int32.add_sub_cancel]
        have s2 : nI (j + 2) - 1 = nI j + 1 := by rw [show j + 2 = (j + 1) + 1 from rfl, ← nI_1 (j + 1), Int32.add_sub_cancel, nI_1]
        have htl : tkF s n f j ≤ n := cntN_le _ _
        have hlt := free_lt (t := tkF s n f j) (u := sgN s g) (by omega) (by omega)
        have htu := tk_upj (s := s) (n := n) hgn c (show j < 8 by omega)
        have hnr := near_ok (Q := Q) h8 h7 hst gf.qd hQ1 hgn hj
        have hmay : mayS s n nq f g j ↔ (¬ 2 < tkF s n f j + sgN s g) ∧ okQ (s.1 85) (s.1 86) (upd f g (nI j)) nq g := by
          show (tkF s n (upd f g (nI j)) j ≤ 2 ∧ _) ↔ _
          rw [htu]
          exact and_congr Nat.not_lt.symm Iff.rfl
        rw [fX8_tryComer_L74, i1.1.2.2.1 0 (by omega), gd.b6, if_pos (nI_lt hj (by omega)), if_pos hj10, nI_1 j, j2, if_pos hk10, if_pos hl10, nm_eq, ix_nI (show j < 2 ^ 31 by omega), ix_nI (show j + 1 < 2 ^ 31 by omega), ix_nI (show j + 2 < 2 ^ 31 by omega), if_pos hj8, c6 j hj, c5 j (by omega), c5 (j + 1) (by omega), c5 (j + 2) (by omega), s1, s2, b_orm _ (msk_lt128 _ h7) _ (msk_lt128 _ h7), msk_orm, b_orm _ (msk_lt128 _ h7) _ (msk_lt128 _ h7), msk_orm, b_and _ (msk_lt128 _ h7) _ (msk_lt128 _ (by decide)), msk_ext _ h7]
        by_cases m : mayS s n nq f g j
        · obtain ⟨m1, m2⟩ := hmay.mp m
          rw [if_neg (fun z => m1 (hlt.mp z)), if_pos (hnr.mpr m2), if_pos hj8, if_pos hj8, if_pos m, two_sub]
          -- one more sits
          have hst1 : ∀ h, h < n → StOk nb (upd f g (nI j) h) := fun h hh => by
            by_cases e : h = g
            · rw [e, uq_s]
              exact Or.inr ⟨j, hj, rfl⟩
            · rw [uq_n _ _ e]
              exact hst h hh
          have hlo1 : ∀ h, h < g + 1 → ∃ b : Nat, b < nb ∧ upd f g (nI j) h = nI b := fun h hh => by
            by_cases e : h = g
            · rw [e, uq_s]
              exact ⟨j, hj, rfl⟩
            · rw [uq_n _ _ e]
              exact hlo h (by omega)
          have mnew : msk (fun h => decide (upd f g (nI j) h = nI j)) n = msk (fun h => decide (f h = nI j)) n ||| 2 ^ g := by
            rw [msk_or1 _ hgn]
            refine msk_cong (fun h _ => ?_)
            by_cases e : h = g
            · rw [e, uq_s, decide_eq_true rfl, decide_eq_true (rfl : g = g), Bool.or_true]
            · rw [uq_n _ _ e, decide_eq_false e, Bool.or_false]
          have cq2 : CQ s (wI (wI (wI y 32 j (2 - nI (tkF s n f j + sgN s g))) 30 g (nI j)) 33 (j + 1) (nI (msk (fun h => decide (f h = nI j)) n ||| 2 ^ g))) nb n nm' (g + 1) (upd f g (nI j)) z0 := by
            refine ⟨((c1.tr (sm27 (by decide) (by decide))).tr (sm27 (by decide) (by decide))).tr (sm27 (by decide) (by decide)), c2, c3, fun h hh hc => ?_, fun k' hk' => ?_, fun b hb => ?_, c7, c8, c9, c10, c11⟩
            · show (if h = g then nI j else y.1 30 h) = upd f g (nI j) h
              by_cases e : h = g
              · rw [if_pos e, e, uq_s]
              · rw [if_neg e, uq_n _ _ e]
                exact c4 h hh (hc.imp (fun z => by omega) id)
            · rw [rdq]
              by_cases e : k' = j + 1
              · rw [if_pos e, e, s1, mnew]
              · rw [if_neg e, wI_ne (by decide), wI_ne (by decide), c5 k' hk', mask_up c (by omega) hk' e]
            · show (if b = j then _ else y.1 32 b) = _
              by_cases e : b = j
              · rw [if_pos e, e, htu]
              · rw [if_neg e, c6 b hb, tk_up c (by omega) (by omega) e]
          obtain ⟨y3, e3, c3', o3⟩ := ih (g + 1) (upd f g (nI j)) z0 K' _ (by omega) (by omega) hst1 hlo1 (fun h h1 h2 => by rw [uq_n _ _ (by omega)]; exact heq h (by omega) h2) i2 cq2
          rw [cnt_t hcg] at e3
          obtain ⟨l1, l2, l3, l4, l5, l6, l7, l8, l9, l10, l11⟩ := id c3'
          have v3 : nI g * 8 + nI j = nI (g * 8 + j) := by rw [show (8 : Int32) = nI 8 from rfl, pk_mul, nI_add]
          have hg7 : inb (nI g) 7 = true := inb_ok (by omega) (by decide)
          have hv56 : inb (nI (g * 8 + j)) 56 = true := inb_ok (by omega) (by decide)
          have r29 : (wI y 32 j (2 - nI (tkF s n f j + sgN s g))).1 29 (cntN (cmr s n) g) = nI g := c3 g hgn hcg
          have r33 : (wI (wI y 32 j (2 - nI (tkF s n f j + sgN s g))) 30 g (nI j)).1 33 (j + 1) = nI (msk (fun h => decide (f h = nI j)) n) := by
            rw [wI_ne (by decide), wI_ne (by decide), c5 (j + 1) (by omega), s1]
          obtain ⟨t34, t35, t36⟩ := cq2.2.2.2.2.2.2.1 g hgn hcg j hj
          have old33 : nI (msk (fun h => decide (upd f g (nI j) h = nI j)) n) &&& (((1 : Int32) <<< (nI g &&& 31)) ^^^ (-1)) = nI (msk (fun h => decide (f h = nI j)) n) := by
            rw [b_one g (by omega), b_clr g (by omega) _ (msk_lt128 _ h7), msk_clr _ h7 (by omega)]
            congr 1
            refine msk_cong (fun h _ => ?_)
            by_cases e : h = g
            · rw [e, decide_eq_false (fun z : g ≠ g => z rfl), Bool.and_false, c, decide_eq_false (m9_nI (by omega))]
            · rw [uq_n _ _ e, decide_eq_true (show h ≠ g from e), Bool.and_true]
          have hsc : fX8_seatComer (fX8_tryComer K') (nI (cntN (cmr s n) g)) (nI j) (AL s n nm' 0 f) (AL s n nm' 1 f) (AL s n nm' 2 f) (wI y 32 j (2 - nI (tkF s n f j + sgN s g))) = some ((), wI y3 33 (j + 1) (nI (msk (fun h => decide (f h = nI j)) n))) := by
            unfold fX8_seatComer
            rw [if_pos hi7, ix_nI (show cntN (cmr s n) g < 2 ^ 31 by omega), r29, nm_eq, nm_eq, v3, if_pos hg7, nI_1 j, if_pos hk10, if_pos hk10, if_pos hv56, if_pos hv56, if_pos hv56, ix_nI (show g < 2 ^ 31 by omega), ix_nI (show j + 1 < 2 ^ 31 by omega), ix_nI (show g * 8 + j < 2 ^ 31 by omega), r33, b_one g (by omega), b_or g (by omega) _ (msk_lt128 _ h7), t34, t35, t36, AL_s hgn (by omega) c, AL_s hgn (by omega) c, AL_s hgn (by omega) c, nI_1, e3, bnd_some, if_pos hk10, if_pos hk10, l5 (j + 1) (by omega), s1, ← b_one g (by omega), old33]
          rw [hsc, bnd_some, if_pos hj8, if_pos hj8]
          have r32 : (wI y3 33 (j + 1) (nI (msk (fun h => decide (f h = nI j)) n))).1 32 j = 2 - nI (tkF s n f j + sgN s g) := by
            rw [wI_ne (by decide), l6 j hj, htu]
          rw [r32]
          have back32 : 2 - nI (tkF s n f j + sgN s g) + nI (sgN s g) = 2 - nI (tkF s n f j) := by rw [← two_sub, Int32.sub_add_cancel]
          rw [back32]
          refine ⟨wI (wI y3 33 (j + 1) (nI (msk (fun h => decide (f h = nI j)) n))) 32 j (2 - nI (tkF s n f j)), ⟨⟨(l1.tr (sm27 (by decide) (by decide))).tr (sm27 (by decide) (by decide)), l2, l3, fun h hh hc => ?_, fun k' hk' => ?_, fun b hb => ?_, l7, l8, l9, l10, l11⟩, o3⟩, rfl⟩
          · show y3.1 30 h = f h
            have hne : h ≠ g := fun z => by
              rcases hc with w | w
              · omega
              · rw [z, hcg] at w
                exact absurd w (by decide)
            rw [l4 h hh (hc.imp (fun z => by omega) id), uq_n _ _ hne]
          · rw [wI_ne (by decide), rdq]
            by_cases e : k' = j + 1
            · rw [if_pos e, e, s1]
            · rw [if_neg e, l5 k' hk', mask_up c (by omega) hk' e]
          · rw [rdq]
            by_cases e : b = j
            · rw [if_pos e, e]
            · rw [if_neg e, wI_ne (by decide), l6 b hb, tk_up c (by omega) (by omega) e]
        · rw [if_neg m]
          refine ⟨y, ⟨i1, i2⟩, ?_⟩
          by_cases w1 : 2 < tkF s n f j + sgN s g
          · rw [if_pos (hlt.mpr w1)]
          · rw [if_neg (fun z => w1 (hlt.mp z)), if_neg (fun z => m (hmay.mpr ⟨w1, hnr.mp z⟩))]
    · rw [if_neg c]
      have hcg : cmr s n g = false := decide_eq_false (fun z => c (by rw [heq g (Nat.le_refl _) hgn]; exact z.2))
      obtain ⟨x', ex, cx, ox⟩ := ih (g + 1) f st K x (by omega) (by omega) hst (fun h hh => by
        by_cases e : h = g
        · rw [e]
          exact (hst g hgn).resolve_left c
        · exact hlo h (by omega)) (fun h h1 h2 => heq h (by omega) h2) hs (hx.up hcg)
      rw [cnt_f hcg] at ex
      exact ⟨x', ex, cx.dn, ox⟩
end SC2
