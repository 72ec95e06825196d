-- barge: what a text without a fault tells; the class fills its cells
section BRG
variable {s x : Mem} {t m nb n : Nat} {c : Nat → Int32}
/-- what stands at a letter -/
def LF (c : Nat → Int32) (m i : Nat) : Prop := (isBl c i = true → cntN (isKl c) i = 0 ∧ cntN (isBl c) i < 8 ∧ (c i = 109 ∨ (i + 1 < m ∧ dgt (c (i + 1)) 1 9))) ∧ (isKl c i = true → cntN (isBl c) i ≠ 0 ∧ cntN (isKl c) i < 7 ∧ i + 2 < m ∧ dgt (c (i + 1)) 1 9 ∧ dgt (c (i + 2)) 0 1)
theorem cf_due {d j due : Nat} (hm : m ≤ 60) (h1 : j + d = m) (h0 : due ≠ 0) (h : cf c m d j due = -9) : ∃ d', d = d' + 1 ∧ dgt (c j) (dlo due) (dhi due) ∧ cf c m d' (j + 1) (fdue due) = -9 := by
  cases d with
  | zero =>
    rw [cf0 h0] at h
    exact absurd h (nI_m9 (by omega))
  | succ d =>
    rw [cf, if_neg h0] at h
    by_cases e : dgt (c j) (dlo due) (dhi due)
    · rw [if_pos e] at h
      exact ⟨d, rfl, e, h⟩
    · rw [if_neg e] at h
      exact absurd h (nI_m9 (by omega))
theorem cf_ok (hm : m ≤ 60) : ∀ d j due, j + d = m → cf c m d j due = -9 → ∀ i, j ≤ i → i < m → LF c m i
  | 0, j, due, h1, h, i, hi, him => absurd him (by omega)
  | d + 1, j, due, h1, h, i, hi, him => by
    by_cases e0 : due = 0
    · subst e0
      rw [cf, if_pos rfl] at h
      cases hb : isBl c j with
      | true =>
        rw [hb, if_pos rfl] at h
        by_cases e1 : 0 < cntN (isKl c) j
        · rw [if_pos e1] at h
          exact absurd h (nI_m9 (by omega))
        · rw [if_neg e1] at h
          by_cases e2 : cntN (isBl c) j < 8
          · rw [if_pos e2] at h
            by_cases ei : i = j
            · subst ei
              refine ⟨fun _ => ⟨by omega, e2, ?_⟩, fun z => ?_⟩
              · by_cases e3 : c i = 109
                · exact Or.inl e3
                · rw [if_neg e3] at h
                  obtain ⟨d', hd', hdg, _⟩ := cf_due hm (by omega) (by decide) h
                  exact Or.inr ⟨by omega, hdg⟩
              · rw [bl_kl hb] at z
                exact absurd z (by decide)
            · exact cf_ok hm d (j + 1) _ (by omega) h i (by omega) him
          · rw [if_neg e2] at h
            exact absurd h (nI_m9 (by omega))
      | false =>
        rw [hb, if_neg (show ¬ (false = true) by decide)] at h
        cases hk : isKl c j with
        | true =>
          rw [hk, if_pos rfl] at h
          by_cases e1 : cntN (isBl c) j = 0
          · rw [if_pos e1] at h
            exact absurd h (nI_m9 (by omega))
          · rw [if_neg e1] at h
            by_cases e2 : cntN (isKl c) j < 7
            · rw [if_pos e2] at h
              by_cases ei : i = j
              · subst ei
                refine ⟨fun z => ?_, fun _ => ?_⟩
                · rw [hb] at z
                  exact absurd z (by decide)
                · obtain ⟨d', hd', hdg, h'⟩ := cf_due hm (by omega) (by decide) h
                  obtain ⟨d2, hd2, hdg2, _⟩ := cf_due hm (by omega) (by decide) h'
                  exact ⟨e1, e2, by omega, hdg, hdg2⟩
              · exact cf_ok hm d (j + 1) _ (by omega) h i (by omega) him
            · rw [if_neg e2] at h
              exact absurd h (nI_m9 (by omega))
        | false =>
          rw [hk, if_neg (show ¬ (false = true) by decide)] at h
          by_cases e1 : c j = 32
          · rw [if_pos e1] at h
            by_cases ei : i = j
            · subst ei
              exact ⟨fun z => by rw [hb] at z; exact absurd z (by decide), fun z => by rw [hk] at z; exact absurd z (by decide)⟩
            · exact cf_ok hm d (j + 1) _ (by omega) h i (by omega) him
          · rw [if_neg e1] at h
            exact absurd h (nI_m9 (by omega))
    · obtain ⟨d', hd', hdg, h'⟩ := cf_due hm h1 e0 h
      have ed : d' = d := by omega
      subst ed
      by_cases ei : i = j
      · subst ei
        obtain ⟨q1, q2⟩ := dg_no (by unfold dhi; split <;> omega) hdg
        exact ⟨fun z => by rw [q1] at z; exact absurd z (by decide), fun z => by rw [q2] at z; exact absurd z (by decide)⟩
      · exact cf_ok hm d' (j + 1) _ (by omega) h' i (by omega) him
theorem dg_val {y : Int32} {a b : Nat} (h : dgt y a b) : ∃ w : Nat, a ≤ w ∧ w ≤ b ∧ y - 48 = nI w := by
  obtain ⟨w, h1, h2, e⟩ := h
  refine ⟨w, h1, h2, ?_⟩
  rw [e, show (48 : Int32) = nI 48 from rfl, pk_sub (by omega), Nat.add_sub_cancel_left]
theorem xv_rng {i : Nat} (h : LF c m i) (hb : isBl c i = true) : -9 ≤ (xv c i).toInt ∧ (xv c i).toInt ≤ 9 := by
  obtain ⟨_, _, h3⟩ := h.1 hb
  unfold xv
  by_cases e : c i = 109
  · rw [if_pos e]
    decide
  · rw [if_neg e]
    obtain ⟨_, hd⟩ := h3.resolve_left e
    obtain ⟨w, w1, w2, ew⟩ := dg_val hd
    rw [ew]
    by_cases e2 : c i = 108
    · rw [if_pos e2, show (0 : Int32) = nI 0 from rfl, pk_sub_toInt (by decide) (by omega)]
      omega
    · rw [if_neg e2, nI_toInt (by omega)]
      omega
theorem addBench_ok {v : Int32} (hn : nb < 8) (h : x.1 6 0 = nI nb) : fX0_addBench v x = some ((), wI (wI (wI x 11 nb v) 12 nb 0) 6 0 (nI (nb + 1))) := by
  have r1 : ∀ (y : Mem) (i : Nat) (v : Int32), (wI y 11 i v).1 6 0 = y.1 6 0 := fun _ _ _ => rfl
  have r2 : ∀ (y : Mem) (i : Nat) (v : Int32), (wI y 12 i v).1 6 0 = y.1 6 0 := fun _ _ _ => rfl
  have hi : inb (nI nb) 8 = true := inb_ok hn (by decide)
  unfold fX0_addBench
  simp only [r1, r2, h]
  rw [if_pos ((lt_num (b := 8) (by omega) (by decide)).mpr hn), if_pos hi, if_pos hi, ix_nI (by omega), nI_1]
theorem weighsC {N g k : Nat} (hN : N ≤ 7) (h : x.1 6 1 = nI N) (hg : g < N) (hk : k < 6) (ek : x.1 13 g = nI k) : fX0_weighs (nI g) x = some (wgh (x.1 13) (x.1 14) g, x) := by
  unfold fX0_weighs fX0_weightOf fX0_kindOf
  rw [isG_t h (by omega) hg, bnd_some, if_neg one_ne, if_pos (inb_ok (by omega) (by decide)), ix_nI (by omega), bnd_some, isG_t h (by omega) hg, bnd_some, if_neg one_ne, if_pos (inb_ok (by omega) (by decide)), bnd_some, ek, ofK3 hk, bnd_some]
  unfold wgh
  rw [ek]
  by_cases h1 : nI k = 2 ∨ nI k = 5
  · rw [if_pos h1, if_pos h1, Int32.mul_comm]
  · rw [if_neg h1, if_neg h1, Int32.mul_one]
theorem ab0 {y : Int32} : ab y = 0 ↔ y = 0 := by
  rw [ab_eq]
  constructor
  · intro h
    by_cases e : y < 0
    · rw [if_pos e, Int32.zero_sub] at h
      have h2 : - -y = -(0 : Int32) := congrArg (fun z => -z) h
      rw [Int32.neg_neg] at h2
      exact h2
    · rw [if_neg e] at h
      exact h
  · rintro rfl
    decide
theorem farOut_ok {k p : Nat} (hk : k < 6) (hp : p < 3) (y : Int32) : fX0_farOut (nI k) y (nI p) s = some (out3 (nI k) y p, s) := by
  unfold fX0_farOut out3
  rw [nm_eq]
  by_cases e : y = 0
  · rw [if_pos (ab0.mpr e), if_pos e, ab0.mpr e]
  · rw [if_neg (fun z => e (ab0.mp z)), if_neg e, ofK1 hk, bnd_some, ofK2 hk, bnd_some, ← ab_eq]
    have h : p = 0 ∨ p = 1 ∨ p = 2 := by omega
    rcases h with rfl | rfl | rfl
    · rw [if_pos (show nI 0 = 0 from rfl)]
      rfl
    · rw [if_neg (show ¬ nI 1 = 0 by decide), if_pos (show nI 1 = 1 from rfl)]
      rfl
    · rw [if_neg (show ¬ nI 2 = 0 by decide), if_neg (show ¬ nI 2 = 1 by decide)]
      rfl
def Xf (a : Nat) : Prop := (11 ≤ a ∧ a ≤ 17) ∨ a = 2000 ∨ a = 2001 ∨ a = 2012
/-- moments of one guest at the first b benches, and p postures of the next -/
theorem guestMom {N g k : Nat} (hN : N ≤ 7) (hnb : nb ≤ 8) (h61 : x.1 6 1 = nI N) (h60 : x.1 6 0 = nI nb) (hg : g < N) (hk : k < 6) (ek : x.1 13 g = nI k) : ∃ x', fX0_addGuest_L80 (fun s22 => some ((), s22)) (nI k) (nI g) FU 0 x = some ((), x') ∧ SmX (fun a => a = 17) x x' ∧ (∀ i, i < 24 * g → x'.1 17 i = x.1 17 i) ∧ ∀ b, b < nb → ∀ p, p < 3 → x'.1 17 ((g * 8 + b) * 3 + p) = mom (x.1 11) (x.1 13) (x.1 14) g b p := by
  have key := lp_inv0 (fun t j (y : Mem) => fX0_addGuest_L80 (fun s22 => some ((), s22)) (nI k) (nI g) t (nI j) y) (fun j y => SmX (fun a => a = 17) x y ∧ (∀ i, i < 24 * g → y.1 17 i = x.1 17 i) ∧ ∀ b, b < j → ∀ p, p < 3 → y.1 17 ((g * 8 + b) * 3 + p) = mom (x.1 11) (x.1 13) (x.1 14) g b p) nb x ⟨SmX.rf x, fun _ _ => rfl, fun b hb => absurd hb (by omega)⟩ ?_ (by omega)
  · obtain ⟨x', t, ⟨i1, i2, i3⟩, e⟩ := key
    refine ⟨x', ?_, i1, i2, i3⟩
    have e' : fX0_addGuest_L80 (fun s22 => some ((), s22)) (nI k) (nI g) FU 0 x = fX0_addGuest_L80 (fun s22 => some ((), s22)) (nI k) (nI g) (t + 1) (nI nb) x' := e
    rw [e', fX0_addGuest_L80, i1.2.2.1 0 (by omega), h60, if_neg (nI_nlt (Nat.le_refl nb) (by omega))]
  · rintro j t y hj ⟨i1, i2, i3⟩
    show ∃ y', _ ∧ fX0_addGuest_L80 _ (nI k) (nI g) (t + 1) (nI j) y = fX0_addGuest_L80 _ (nI k) (nI g) t (nI (j + 1)) y'
    rw [fX0_addGuest_L80, i1.2.2.1 0 (by omega), h60, if_pos (nI_lt hj (by omega)), nI_1]
    have key2 := lp_inv0 (fun t' p (z : Mem) => fX0_addGuest_L92 (fun s21 => fX0_addGuest_L80 (fun s22 => some ((), s22)) (nI k) (nI g) t (nI (j + 1)) s21) (nI k) (nI g) (nI j) t' (nI p) z) (fun p z => SmX (fun a => a = 17) x z ∧ (∀ i, i < 24 * g → z.1 17 i = x.1 17 i) ∧ (∀ b, b < j → ∀ p, p < 3 → z.1 17 ((g * 8 + b) * 3 + p) = mom (x.1 11) (x.1 13) (x.1 14) g b p) ∧ ∀ p', p' < p → z.1 17 ((g * 8 + j) * 3 + p') = mom (x.1 11) (x.1 13) (x.1 14) g j p') 3 y ⟨i1, i2, i3, fun p' hp' => absurd hp' (by omega)⟩ ?_ (by omega)
    · obtain ⟨z, t', ⟨k1, k2, k3, k4⟩, e⟩ := key2
      refine ⟨z, ⟨k1, k2, fun b hb p hp => ?_⟩, ?_⟩
      · by_cases eb : b = j
        · subst eb
          exact k4 p hp
        · exact k3 b (by omega) p hp
      · have e' : fX0_addGuest_L92 (fun s21 => fX0_addGuest_L80 (fun s22 => some ((), s22)) (nI k) (nI g) t (nI (j + 1)) s21) (nI k) (nI g) (nI j) FU 0 y = fX0_addGuest_L92 (fun s21 => fX0_addGuest_L80 (fun s22 => some ((), s22)) (nI k) (nI g) t (nI (j + 1)) s21) (nI k) (nI g) (nI j) (t' + 1) (nI 3) z := e
        rw [e', fX0_addGuest_L92, if_neg (by decide)]
    · rintro p t' z hp ⟨k1, k2, k3, k4⟩
      show ∃ z', _ ∧ fX0_addGuest_L92 _ (nI k) (nI g) (nI j) (t' + 1) (nI p) z = fX0_addGuest_L92 _ (nI k) (nI g) (nI j) t' (nI (p + 1)) z'
      have z11 : z.1 11 = x.1 11 := k1.1 11 (by unfold Cr; omega) (by omega)
      have z13 : z.1 13 = x.1 13 := k1.1 13 (by unfold Cr; omega) (by omega)
      have z14 : z.1 14 = x.1 14 := k1.1 14 (by unfold Cr; omega) (by omega)
      have z61 : z.1 6 1 = nI N := by rw [k1.2.2.1 1 (by omega)]; exact h61
      have hi : inb (nI j) 8 = true := inb_ok (by omega) (by decide)
      have hw := weighsC hN z61 hg hk (by rw [z13]; exact ek)
      have hpl : ∀ y : Mem, fX0_momentPlace (nI g) (nI j) (nI p) y = some (nI ((g * 8 + j) * 3 + p), y) := fun y => by
        unfold fX0_momentPlace
        rw [mplace]
      have hval : (if x.1 11 j < 0 then wgh (x.1 13) (x.1 14) g * (0 - out3 (nI k) (x.1 11 j) p) else wgh (x.1 13) (x.1 14) g * out3 (nI k) (x.1 11 j) p) = mom (x.1 11) (x.1 13) (x.1 14) g j p := by
        unfold mom
        rw [ek]
        by_cases e : x.1 11 j < 0
        · rw [if_pos e, if_pos e, Int32.neg_mul, Int32.one_mul, Int32.neg_mul, Int32.zero_sub, Int32.mul_neg, Int32.mul_comm]
        · rw [if_neg e, if_neg e, Int32.one_mul, Int32.mul_comm]
      refine ⟨wI z 17 ((g * 8 + j) * 3 + p) (mom (x.1 11) (x.1 13) (x.1 14) g j p), ⟨k1.tr (SmX.wI (by omega) (by omega) (by omega)), fun i hi2 => ?_, fun b hb p' hp' => ?_, fun p' hp' => ?_⟩, ?_⟩
      · rw [rdq, if_neg (by omega), k2 i hi2]
      · rw [rdq, if_neg (by omega), k3 b hb p' hp']
      · rw [rdq]
        by_cases e : p' = p
        · subst e
          rw [if_pos rfl]
        · rw [if_neg (by omega), k4 p' (by omega)]
      · rw [fX0_addGuest_L92, if_pos ((lt_num (b := 3) (by omega) (by decide)).mpr hp), if_pos hi, ix_nI (show j < 2 ^ 31 by omega), farOut_ok hk hp, bnd_some, hpl, bnd_some, hw, bnd_some, if_pos hi, if_pos (inb_ok (by omega) (by decide)), if_pos (inb_ok (by omega) (by decide)), ix_nI (show (g * 8 + j) * 3 + p < 2 ^ 31 by omega), nI_1, z11, z13, z14, ← hval]
        by_cases e : x.1 11 j < 0
        · rw [if_pos e, if_pos e]
        · rw [if_neg e, if_neg e]
theorem addGuest_ok {k : Nat} {w kn : Int32} (hn : n < 7) (hnb : nb ≤ 8) (h61 : x.1 6 1 = nI n) (h60 : x.1 6 0 = nI nb) (hk : k < 6) : ∃ x', fX0_addGuest (nI k) w kn x = some ((), x') ∧ SmX Xf x x' ∧ x'.1 6 0 = nI nb ∧ x'.1 6 1 = nI (n + 1) ∧ x'.1 11 = x.1 11 ∧ x'.1 12 = x.1 12 ∧ x'.1 13 = upd (x.1 13) n (nI k) ∧ x'.1 14 = upd (x.1 14) n w ∧ x'.1 15 = upd (x.1 15) n kn ∧ x'.1 16 = upd (x.1 16) n (-9) ∧ x'.1 6 12 = (if k = 3 then x.1 6 12 else x.1 6 12 ||| ((1 : Int32) <<< (nI n &&& 31))) ∧ (∀ i, i < 24 * n → x'.1 17 i = x.1 17 i) ∧ ∀ b, b < nb → ∀ p, p < 3 → x'.1 17 ((n * 8 + b) * 3 + p) = mom (x'.1 11) (x'.1 13) (x'.1 14) n b p := by
  have hi : inb (nI n) 7 = true := inb_ok hn (by decide)
  have hz : ∀ (z : Mem), SmX Xf x z → z.1 6 0 = nI nb → z.1 6 1 = nI (n + 1) → z.1 11 = x.1 11 → z.1 12 = x.1 12 → z.1 13 = upd (x.1 13) n (nI k) → z.1 14 = upd (x.1 14) n w → z.1 15 = upd (x.1 15) n kn → z.1 16 = upd (x.1 16) n (-9) → z.1 6 12 = (if k = 3 then x.1 6 12 else x.1 6 12 ||| ((1 : Int32) <<< (nI n &&& 31))) → z.1 17 = x.1 17 → fX0_addGuest (nI k) w kn x = fX0_addGuest_L80 (fun s22 => some ((), s22)) (nI k) (nI n) FU 0 z → ∃ x', fX0_addGuest (nI k) w kn x = some ((), x') ∧ SmX Xf x x' ∧ x'.1 6 0 = nI nb ∧ x'.1 6 1 = nI (n + 1) ∧ x'.1 11 = x.1 11 ∧ x'.1 12 = x.1 12 ∧ x'.1 13 = upd (x.1 13) n (nI k) ∧ x'.1 14 = upd (x.1 14) n w ∧ x'.1 15 = upd (x.1 15) n kn ∧ x'.1 16 = upd (x.1 16) n (-9) ∧ x'.1 6 12 = (if k = 3 then x.1 6 12 else x.1 6 12 ||| ((1 : Int32) <<< (nI n &&& 31))) ∧ (∀ i, i < 24 * n → x'.1 17 i = x.1 17 i) ∧ ∀ b, b < nb → ∀ p, p < 3 → x'.1 17 ((n * 8 + b) * 3 + p) = mom (x'.1 11) (x'.1 13) (x'.1 14) n b p := by
    intro z hS z60 z61 z11 z12 z13 z14 z15 z16 z612 z17 e
    obtain ⟨x', ex, mx1, m1, m2⟩ := guestMom (x := z) (g := n) (show n + 1 ≤ 7 by omega) hnb z61 z60 (by omega) hk (by rw [z13, uq_s])
    have q : ∀ c, c ≠ 17 → Cr c → x'.1 c = z.1 c := fun c h1 h2 => mx1.1 c h2 (by omega)
    have q11 := q 11 (by decide) (by unfold Cr; omega)
    have q13 := q 13 (by decide) (by unfold Cr; omega)
    have q14 := q 14 (by decide) (by unfold Cr; omega)
    refine ⟨x', e.trans ex, hS.tr (mx1.mono (fun a ha => by unfold Xf; omega)), ?_, ?_, ?_, ?_, ?_, ?_, ?_, ?_, ?_, ?_, ?_⟩
    · rw [mx1.2.2.1 0 (by omega)]
      exact z60
    · rw [mx1.2.2.1 1 (by omega)]
      exact z61
    · rw [q11, z11]
    · rw [q 12 (by decide) (by unfold Cr; omega), z12]
    · rw [q13, z13]
    · rw [q14, z14]
    · rw [q 15 (by decide) (by unfold Cr; omega), z15]
    · rw [q 16 (by decide) (by unfold Cr; omega), z16]
    · rw [mx1.2.2.1 12 (by omega)]
      exact z612
    · intro i hi
      rw [m1 i hi, z17]
    · intro b hb p hp
      rw [m2 b hb p hp, q11, q13, q14]
  have r1 : ∀ (y : Mem) (q i : Nat) (v : Int32), q ≠ 6 → (wI y q i v).1 6 12 = y.1 6 12 := fun y q i v h => by rw [wI_ne (fun e => h e.symm)]
  have hS5 : SmX Xf x (wI (wI (wI (wI (wI x 6 1 (nI (n + 1))) 13 n (nI k)) 14 n w) 15 n kn) 16 n (-9)) := ((((SmX.wI (by unfold Cr; omega) (by omega) (fun _ => by unfold Xf; omega)).tr (SmX.wI (fun _ => by unfold Xf; omega) (by omega) (by omega))).tr (SmX.wI (fun _ => by unfold Xf; omega) (by omega) (by omega))).tr (SmX.wI (fun _ => by unfold Xf; omega) (by omega) (by omega))).tr (SmX.wI (fun _ => by unfold Xf; omega) (by omega) (by omega))
  by_cases e3 : k = 3
  · refine hz (wI (wI (wI (wI (wI x 6 1 (nI (n + 1))) 13 n (nI k)) 14 n w) 15 n kn) 16 n (-9)) hS5 h60 rfl rfl rfl rfl rfl rfl rfl ?_ rfl ?_
    · rw [if_pos e3]
      rfl
    · unfold fX0_addGuest
      rw [h61, if_pos ((lt_num (b := 7) (by omega) (by decide)).mpr hn), nm_eq, if_pos hi, if_pos hi, if_pos hi, if_pos hi, if_pos (show nI k = 3 by rw [e3]; rfl), ix_nI (by omega), nI_1]
  · refine hz (wI (wI (wI (wI (wI (wI x 6 1 (nI (n + 1))) 13 n (nI k)) 14 n w) 15 n kn) 16 n (-9)) 6 12 (x.1 6 12 ||| ((1 : Int32) <<< (nI n &&& 31)))) (hS5.tr (SmX.wI (by unfold Cr; omega) (by omega) (fun _ => by unfold Xf; omega))) h60 rfl rfl rfl rfl rfl rfl rfl ?_ rfl ?_
    · rw [if_neg e3]
      rfl
    · unfold fX0_addGuest
      rw [h61, if_pos ((lt_num (b := 7) (by omega) (by decide)).mpr hn), nm_eq, if_pos hi, if_pos hi, if_pos hi, if_pos hi, if_neg (fun z => e3 ((eq_num (b := 3) (by omega) (by decide)).mp z)), ix_nI (by omega), nI_1]
      rfl
/-- the class's cells when j places of the text are read -/
def ClsP (x0 x : Mem) (c : Nat → Int32) (j : Nat) : Prop := SmX Xf x0 x ∧ x.1 6 0 = nI (cntN (isBl c) j) ∧ x.1 6 1 = nI (cntN (isKl c) j) ∧ x.1 11 = gX (isBl c) (xv c) (x0.1 11) j ∧ x.1 12 = gX (isBl c) (fun _ => 0) (x0.1 12) j ∧ x.1 13 = gX (isKl c) (kv c) (x0.1 13) j ∧ x.1 14 = gX (isKl c) (wv c) (x0.1 14) j ∧ x.1 15 = gX (isKl c) (nv c) (x0.1 15) j ∧ x.1 16 = gX (isKl c) (fun _ => -9) (x0.1 16) j ∧ x.1 6 12 = nI (msk (fun g => decide (x.1 13 g ≠ 3)) (cntN (isKl c) j)) ∧ ∀ g, g < cntN (isKl c) j → ∀ b, b < cntN (isBl c) j → ∀ p, p < 3 → x.1 17 ((g * 8 + b) * 3 + p) = mom (x.1 11) (x.1 13) (x.1 14) g b p
theorem fillB (h : TxC x t m c) (ht : t < 4) (hm : m ≤ 60) (hL : ∀ i, i < m → LF c m i) (h7 : cntN (isKl c) m ≤ 7) (h8 : cntN (isBl c) m ≤ 8) (e0 : x.1 6 0 = nI 0) (e1 : x.1 6 1 = nI 0) (e12 : x.1 6 12 = 0) : ∃ x', fX9_fillBarge_6 (60 + 2 * t) x = some ((), x') ∧ ClsP x x' c m := by
  unfold fX9_fillBarge_6
  have key := lp_inv0 (fun k j (y : Mem) => fX9_fillBarge_6_L2 (fun s28 => some ((), s28)) (60 + 2 * t) k (nI j) y) (fun j y => ClsP x y c j) m x ⟨SmX.rf x, e0, e1, rfl, rfl, rfl, rfl, rfl, rfl, e12, fun g hg => absurd hg (Nat.not_lt_zero _)⟩ ?_ (by omega)
  · obtain ⟨x', k, i1, e⟩ := key
    refine ⟨x', ?_, i1⟩
    have e' : fX9_fillBarge_6_L2 (fun s28 => some ((), s28)) (60 + 2 * t) FU 0 x = fX9_fillBarge_6_L2 (fun s28 => some ((), s28)) (60 + 2 * t) (k + 1) (nI m) x' := e
    rw [e', fX9_fillBarge_6_L2, i1.1.1 (60 + 2 * t) (by unfold Cr; omega) (by unfold Xf; omega), h.1, if_neg (nI_nlt (Nat.le_refl m) (by omega))]
  · rintro j k y hj ⟨p0, p1, p2, p3, p4, p5, p6, p7, p8, p9, p10⟩
    show ∃ y', _ ∧ fX9_fillBarge_6_L2 _ (60 + 2 * t) (k + 1) (nI j) y = fX9_fillBarge_6_L2 _ (60 + 2 * t) k (nI (j + 1)) y'
    have hy : TxC y t m c := ⟨by rw [p0.1 (60 + 2 * t) (by unfold Cr; omega) (by unfold Xf; omega)]; exact h.1, by rw [p0.1 (61 + 2 * t) (by unfold Cr; omega) (by unfold Xf; omega)]; exact h.2⟩
    have hfig : ∀ i, i < m → fX9_figureAt (60 + 2 * t) (nI i) y = some (c i - 48, y) := fun i hi => by
      unfold fX9_figureAt
      rw [byteC hy hm hi, bnd_some]
    have hbm : cntN (isBl c) j ≤ 8 := Nat.le_trans (cnt_mono _ (by omega)) h8
    rw [fX9_fillBarge_6_L2, hy.1, if_pos (nI_lt hj (by omega)), byteC hy hm hj, bnd_some, nI_1]
    cases hb : isBl c j with
    | true =>
      have hk := bl_kl hb
      obtain ⟨l1, l2, l3⟩ := (hL j hj).1 hb
      have hadd := addBench_ok (v := xv c j) l2 p1
      have done : ClsP x (wI (wI (wI y 11 (cntN (isBl c) j) (xv c j)) 12 (cntN (isBl c) j) 0) 6 0 (nI (cntN (isBl c) j + 1))) c (j + 1) := by
        refine ⟨((p0.tr (SmX.wI (fun _ => by unfold Xf; omega) (by omega) (by omega))).tr (SmX.wI (fun _ => by unfold Xf; omega) (by omega) (by omega))).tr (SmX.wI (by unfold Cr; omega) (by omega) (fun _ => by unfold Xf; omega)), ?_, ?_, ?_, ?_, ?_, ?_, ?_, ?_, ?_, ?_⟩
        · rw [cnt_t hb]
          rfl
        · rw [cnt_f hk]
          exact p2
        · rw [gX_t hb, wI_ne (by decide), wI_ne (by decide), wI_eq, p3]
        · rw [gX_t hb, wI_ne (by decide), wI_eq, wI_ne (by decide), p4]
        · rw [gX_f hk]
          exact p5
        · rw [gX_f hk]
          exact p6
        · rw [gX_f hk]
          exact p7
        · rw [gX_f hk]
          exact p8
        · rw [cnt_f hk]
          exact p9
        · rw [cnt_f hk, l1]
          exact fun g hg => absurd hg (by omega)
      refine ⟨_, done, ?_⟩
      by_cases e3 : c j = 109
      · have ex : xv c j = 0 := by
          unfold xv
          rw [if_pos e3]
        rw [ex] at hadd ⊢
        rw [if_pos e3, hadd, bnd_some]
      · obtain ⟨hj1, hd⟩ := l3.resolve_left e3
        rw [if_neg e3]
        by_cases e4 : c j = 108
        · have ex : xv c j = 0 - (c (j + 1) - 48) := by
            unfold xv
            rw [if_neg e3, if_pos e4]
          rw [ex] at hadd ⊢
          rw [if_pos e4, hfig (j + 1) hj1, bnd_some, hadd, bnd_some]
        · have e5 : c j = 114 := ((of_decide_eq_true hb).resolve_left e4).resolve_right e3
          have ex : xv c j = c (j + 1) - 48 := by
            unfold xv
            rw [if_neg e3, if_neg e4]
          rw [ex] at hadd ⊢
          rw [if_neg e4, if_pos e5, hfig (j + 1) hj1, bnd_some, hadd, bnd_some]
    | false =>
      have hnb := of_decide_eq_false hb
      rw [if_neg (fun z => hnb (Or.inr (Or.inr z))), if_neg (fun z => hnb (Or.inl z)), if_neg (fun z => hnb (Or.inr (Or.inl z))), kndC, bnd_some]
      rcases knd_cases (c j) with e | ⟨kk, hkk, e⟩
      · have hk : isKl c j = false := decide_eq_false (fun z => z e)
        rw [if_pos e]
        refine ⟨y, ⟨p0, ?_, ?_, ?_, ?_, ?_, ?_, ?_, ?_, ?_, ?_⟩, rfl⟩
        · rw [cnt_f hb]
          exact p1
        · rw [cnt_f hk]
          exact p2
        · rw [gX_f hb]
          exact p3
        · rw [gX_f hb]
          exact p4
        · rw [gX_f hk]
          exact p5
        · rw [gX_f hk]
          exact p6
        · rw [gX_f hk]
          exact p7
        · rw [gX_f hk]
          exact p8
        · rw [cnt_f hk]
          exact p9
        · rw [cnt_f hk, cnt_f hb]
          exact p10
      · have hk : isKl c j = true := decide_eq_true (by rw [e]; exact nI_m9 (by omega))
        obtain ⟨l1, l2, l3, l4, l5⟩ := (hL j hj).2 hk
        obtain ⟨y', ey, a0, a1, a2, a3, a4, a5, a6, a7, a8, a9, a10, a11⟩ := addGuest_ok (x := y) (w := wv c j) (kn := nv c j) l2 hbm p2 p1 hkk
        have ekv : kv c j = nI kk := e
        have j2 : nI j + 2 = nI (j + 2) := nI_add j 2
        rw [if_neg (by rw [e]; exact nI_m9 (by omega)), kndC, bnd_some, hfig (j + 1) (by omega), bnd_some, j2, hfig (j + 2) l3, bnd_some, e]
        refine ⟨y', ⟨p0.tr a0, ?_, ?_, ?_, ?_, ?_, ?_, ?_, ?_, ?_, ?_⟩, ?_⟩
        · rw [cnt_f hb]
          exact a1
        · rw [cnt_t hk]
          exact a2
        · rw [gX_f hb, a3, p3]
        · rw [gX_f hb, a4, p4]
        · rw [gX_t hk, a5, p5, ekv]
        · rw [gX_t hk, a6, p6]
        · rw [gX_t hk, a7, p7]
        · rw [gX_t hk, a8, p8]
        · rw [a9, cnt_t hk, msk, a5, uq_s, p9]
          have ec : msk (fun g => decide (upd (y.1 13) (cntN (isKl c) j) (nI kk) g ≠ 3)) (cntN (isKl c) j) = msk (fun g => decide (y.1 13 g ≠ 3)) (cntN (isKl c) j) := msk_cong (fun g hg => by rw [uq_n _ _ (by omega)])
          rw [ec]
          by_cases e3 : kk = 3
          · rw [if_pos e3, decide_eq_false (fun z : nI kk ≠ 3 => z (by rw [e3]; rfl))]
            rfl
          · rw [if_neg e3, decide_eq_true (show nI kk ≠ 3 from fun z => e3 ((eq_num (b := 3) (by omega) (by decide)).mp z)), msk_or (by omega)]
            rfl
        · rw [cnt_t hk, cnt_f hb]
          intro g hg b hb' p hp
          by_cases eg : g = cntN (isKl c) j
          · subst eg
            exact a11 b hb' p hp
          · rw [a10 _ (by omega), p10 g (by omega) b hb' p hp, a3, a5, a6]
            unfold mom wgh
            rw [uq_n _ _ eg, uq_n _ _ eg]
        · show bnd (fX0_addGuest (nI kk) (wv c j) (nv c j) y) _ = _
          rw [ey, bnd_some]
end BRG
