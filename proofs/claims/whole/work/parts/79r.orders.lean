-- leaving: the reference's orders
def fmL (f : Nat → Int32) (n m g : Nat) : Int32 := if g < n ∧ m.testBit g = false then -9 else f g
def SbL (f : Nat → Int32) (n m : Nat) : Prop := m < 128 ∧ ∀ g, g < 7 → m.testBit g = true → g < n ∧ f g ≠ -9
theorem or_lt {a b : Nat} (ha : a < 128) (hb : b < 128) : a ||| b < 128 := Nat.or_lt_two_pow (n := 7) ha hb
theorem orb {F q : Nat} (hq : q < 7) (i : Nat) : (F ||| 2 ^ q).testBit i = true ↔ F.testBit i = true ∨ i = q := by
  rw [Nat.testBit_or, Nat.testBit_two_pow, Bool.or_eq_true, decide_eq_true_iff]
  exact ⟨fun h => h.imp id Eq.symm, fun h => h.imp id Eq.symm⟩
theorem sum_ext (F : Nat → Int32) {n : Nat} : ∀ d, sumI F n = sumI (fun g => if g < n then F g else 0) (n + d)
  | 0 => sumI_cong (fun k hk => (if_pos hk).symm)
  | d + 1 => by
    rw [show n + (d + 1) = (n + d) + 1 from rfl, sumI, ← sum_ext F d]
    rw [if_neg (by omega), Int32.add_zero]
section ORD
variable {s x : Mem} {nb n : Nat} {f : Nat → Int32} {LV : Nat → Bool}
theorem fm_del {m g : Nat} (h7 : n ≤ 7) (hm : m < 128) (hg : g < n) : upd (fmL f n m) g (-9) = fmL f n (del m g) := by
  funext i
  unfold fmL
  by_cases c : i = g
  · subst c
    rw [uq_s, if_pos ⟨hg, by rw [del_bit m hm i (by omega) i (by omega), decide_eq_false (fun z : i ≠ i => z rfl), Bool.and_false]⟩]
  · rw [uq_n _ _ c]
    by_cases c2 : i < n
    · rw [del_bit m hm g (by omega) i (by omega), decide_eq_true (show i ≠ g from c), Bool.and_true]
    · rw [if_neg (fun z => c2 z.1), if_neg (fun z => c2 z.1)]
theorem fm_bk {m g : Nat} (h7 : n ≤ 7) (hm : m < 128) (hg : g < n) (hb : m.testBit g = true) : upd (fmL f n (del m g)) g (f g) = fmL f n m := by
  funext i
  unfold fmL
  by_cases c : i = g
  · subst c
    rw [uq_s, if_neg (fun z => by rw [hb] at z; exact absurd z.2 (by decide))]
  · rw [uq_n _ _ c]
    by_cases c2 : i < n
    · rw [del_bit m hm g (by omega) i (by omega), decide_eq_true (show i ≠ g from c), Bool.and_true]
    · rw [if_neg (fun z => c2 z.1), if_neg (fun z => c2 z.1)]
theorem Sb_del {m g : Nat} (h : SbL f n m) (hg : g < 7) : SbL f n (del m g) := by
  refine ⟨(del_tab m h.1 g hg).1, fun i hi hb => h.2 i hi ?_⟩
  rw [del_bit m h.1 g hg i hi, Bool.and_eq_true] at hb
  exact hb.1
theorem seatedR (hg : x.1 68 12 = nI n) (h7 : n ≤ 7) : fX12_seatedSet x = some (nI (msk (std x) n), x) := by
  unfold fX12_seatedSet
  have key := lp0 (fun k j => fX12_seatedSet_L4 (fun v6 s7 => some (v6, s7)) k (nI (msk (std x) j)) (nI j) x) (some (nI (msk (std x) n), x)) n ?_ ?_ (by omega)
  · exact key
  · intro j k hj
    show fX12_seatedSet_L4 _ (k + 1) _ (nI j) x = fX12_seatedSet_L4 _ k _ (nI (j + 1)) x
    rw [fX12_seatedSet_L4, hg, if_pos (nI_lt hj (by omega)), if_pos (inb_ok (by omega) (by decide)), nm_eq, nm_eq, nI_1, ix_nI (by omega), msk]
    by_cases h1 : x.1 79 j = -9
    · have e : std x j = false := decide_eq_false (fun z => z h1)
      rw [if_pos h1, e, Int32.or_zero]
      rfl
    · have e : std x j = true := decide_eq_true h1
      rw [if_neg h1, e, msk_or (by omega)]
      rfl
  · intro k
    show fX12_seatedSet_L4 _ (k + 1) _ (nI n) x = _
    rw [fX12_seatedSet_L4, hg, if_neg (nI_nlt (Nat.le_refl n) (by omega))]
def fstO (LV : Nat → Bool) (m d : Nat) (pa : Nat → Nat) (q : Nat) : Prop := (m = 0 ∧ 0 < d ∧ q = pa 0) ∨ (m ≠ 0 ∧ ∃ g, g < 7 ∧ okL LV m g ∧ q = upN pa d g 0)
def lstO (LV : Nat → Bool) (m d : Nat) (pa : Nat → Nat) (q : Nat) : Prop := (m = 0 ∧ 0 < d ∧ q = pa (d - 1)) ∨ (m ≠ 0 ∧ lstL LV m q)
theorem fstO_s {m d : Nat} {pa : Nat → Nat} {q : Nat} : fstO LV m (d + 1) pa q ↔ CE LV m ∧ q = pa 0 := by
  unfold fstO upN
  constructor
  · rintro (⟨rfl, _, h⟩ | ⟨h0, g, hg, ho, h⟩)
    · exact ⟨CE_0, h⟩
    · rw [if_neg (by omega)] at h
      exact ⟨(CE_iff h0).mpr ⟨g, hg, ho⟩, h⟩
  · rintro ⟨h, hq⟩
    by_cases h0 : m = 0
    · exact Or.inl ⟨h0, by omega, hq⟩
    · obtain ⟨g, hg, ho⟩ := (CE_iff h0).mp h
      refine Or.inr ⟨h0, g, hg, ho, ?_⟩
      rw [if_neg (by omega)]
      exact hq
/-- the reference's cells on the way -/
def LQ (s x : Mem) (n m d : Nat) (pa : Nat → Nat) (c F L : Nat) : Prop := SmX (fun a => a = 79) s x ∧ x.1 79 = fmL (s.1 79) n m ∧ (∀ i, i < d → x.1 92 i = nI (pa i)) ∧ x.1 68 42 = nI c ∧ x.1 68 43 = nI F ∧ x.1 68 44 = nI L
theorem lq_rd {m d c F L : Nat} {pa : Nat → Nat} (rd : Rd s nb n) (h : LQ s x n m d pa c F L) : Rd x nb n := by
  refine ⟨rd.1, rd.2.1, by rw [h.1.2.1 10 (by unfold Cf; omega) (by omega)]; exact rd.2.2.1, by rw [h.1.2.1 12 (by unfold Cf; omega) (by omega)]; exact rd.2.2.2.1, fun g hg => ?_⟩
  rw [h.2.1]
  unfold fmL
  by_cases c : g < n ∧ m.testBit g = false
  · rw [if_pos c]
    exact Or.inl rfl
  · rw [if_neg c]
    exact rd.2.2.2.2 g hg
theorem lq_std {m d c F L : Nat} {pa : Nat → Nat} (h7 : n ≤ 7) (sb : SbL (s.1 79) n m) (h : LQ s x n m d pa c F L) {g : Nat} (hg : g < n) : x.1 79 g = -9 ↔ m.testBit g = false := by
  rw [h.2.1]
  unfold fmL
  cases hb : m.testBit g with
  | false =>
    rw [if_pos ⟨hg, rfl⟩]
    exact ⟨fun _ => rfl, fun _ => rfl⟩
  | true =>
    rw [if_neg (fun z => absurd z.2 (by decide))]
    exact ⟨fun z => absurd z (sb.2 g (by omega) hb).2, fun z => absurd z (by decide)⟩
theorem lq_set {m d c F L : Nat} {pa : Nat → Nat} (h7 : n ≤ 7) (sb : SbL (s.1 79) n m) (h : LQ s x n m d pa c F L) : msk (std x) n = m := by
  refine bits_eq (msk_lt128 _ h7) sb.1 (fun i hi => ?_)
  rw [msk_bit]
  by_cases hn : i < n
  · rw [decide_eq_true hn, Bool.true_and]
    have := lq_std h7 sb h hn
    cases hb : m.testBit i with
    | false => exact decide_eq_false (fun z => z (this.mpr hb))
    | true => exact decide_eq_true (fun z => by
        have := this.mp z
        rw [hb] at this
        exact absurd this (by decide))
  · rw [decide_eq_false hn, Bool.false_and]
    cases hb : m.testBit i with
    | false => rfl
    | true => exact absurd (sb.2 i hi hb).1 hn
theorem fm_val {m : Nat} (h7 : n ≤ 7) (h75 : x.1 75 = s.1 75) (h76 : x.1 76 = s.1 76) (h77 : x.1 77 = s.1 77) (h18 : x.1 68 18 = s.1 68 18) (h79 : x.1 79 = fmL (s.1 79) n m) : x.1 68 18 + sumI (mo x 0) n = valL s n m := by
  unfold valL
  rw [h18]
  congr 1
  rw [show (7 : Nat) = n + (7 - n) by omega, sum_ext (mo x 0) (n := n) (7 - n)]
  refine sumI_cong (fun g hg => ?_)
  unfold cmG
  by_cases c : g < n
  · rw [if_pos c, if_pos c]
    unfold mo
    rw [h75, h76, h77, h79]
    cases hb : m.testBit g with
    | false =>
      have e : fmL (s.1 79) n m g = -9 := if_pos ⟨c, hb⟩
      rw [e, if_pos rfl, if_neg (show ¬ (false = true) by decide)]
    | true =>
      have e : fmL (s.1 79) n m g = s.1 79 g := if_neg (fun z => by rw [hb] at z; exact absurd z.2 (by decide))
      rw [e, if_pos (rfl : true = true)]
  · rw [if_neg c, if_neg c, ite_self]
theorem L49_0 {y : Mem} {d : Nat} (hd : d ≤ 7) (h : y.1 68 42 = nI 0) (rec : Int32 → Mem → Option (Unit × Mem)) (κ : Mem → Option (Unit × Mem)) : fX12_layLeaving_L49 rec κ (nI d) FU 0 y = κ (wF y 93 (fun i => if i < d then y.1 92 i else y.1 93 i)) := by
  have key := lp0 (fun t j => fX12_layLeaving_L49 rec κ (nI d) t (nI j) (wF y 93 (fun i => if i < j then y.1 92 i else y.1 93 i))) (κ (wF y 93 (fun i => if i < d then y.1 92 i else y.1 93 i))) d ?_ ?_ (by omega)
  · rw [← key]
    show _ = fX12_layLeaving_L49 rec κ (nI d) FU (nI 0) (wF y 93 (fun i => if i < 0 then y.1 92 i else y.1 93 i))
    have e : (fun i => if i < 0 then y.1 92 i else y.1 93 i) = y.1 93 := by
      funext b
      rw [if_neg (by omega)]
    rw [e, wF_self]
    rfl
  · intro j t hj
    show fX12_layLeaving_L49 rec κ (nI d) (t + 1) (nI j) _ = fX12_layLeaving_L49 rec κ (nI d) t (nI (j + 1)) _
    have h42 : ∀ F, (wF y 93 F).1 68 42 = nI 0 := fun F => h
    have h92 : ∀ F, (wF y 93 F).1 92 = y.1 92 := fun F => rfl
    have hi : inb (nI j) 7 = true := inb_ok (by omega) (by decide)
    rw [fX12_layLeaving_L49, if_pos (nI_lt hj (by omega)), h42, if_pos (show nI 0 = 0 from rfl), if_pos hi, if_pos hi, ix_nI (by omega), h92, nI_1, wI_wF]
    congr 2
    funext b
    by_cases hb : b = j
    · rw [if_pos hb, if_pos (by omega), hb]
    · rw [if_neg hb]
      by_cases h2 : b < j
      · rw [if_pos h2, if_pos (by omega)]
      · rw [if_neg h2, if_neg (by omega)]
  · intro t
    show fX12_layLeaving_L49 rec κ (nI d) (t + 1) (nI d) _ = _
    rw [fX12_layLeaving_L49, if_neg (nI_nlt (Nat.le_refl d) (by omega))]
theorem L49_n {y : Mem} {d : Nat} (h : ¬ y.1 68 42 = 0) (rec : Int32 → Mem → Option (Unit × Mem)) (κ : Mem → Option (Unit × Mem)) : fX12_layLeaving_L49 rec κ (nI d) FU 0 y = κ y := by
  show fX12_layLeaving_L49 rec κ (nI d) (99999 + 1) 0 y = _
  rw [fX12_layLeaving_L49, if_neg h, ite_self]
theorem sm92 {y : Mem} {q j : Nat} {v : Int32} (h1 : 90 ≤ q) (h2 : q ≤ 98) : SmX (fun a => a = 79) y (wI y q j v) := (sm90 h1 h2).to
theorem sm4x {y : Mem} {j : Nat} {v : Int32} (h : 33 ≤ j) : SmX (fun a => a = 79) y (wI y 68 j v) := (sm53 h).to
/-- what is known of a call of layLeaving -/
def LO (s : Mem) (n : Nat) (LV : Nat → Bool) (p d m : Nat) (pa : Nat → Nat) (c F L : Nat) (x x' : Mem) : Prop := ∃ c' F' L' : Nat, LQ s x' n m d pa c' F' L' ∧ F' < 128 ∧ L' < 128 ∧ c ≤ c' ∧ c' ≤ c + 7 ^ p ∧ (c' = c ↔ ¬ CE LV m) ∧ (∀ q, q < 7 → (F'.testBit q = true ↔ F.testBit q = true ∨ fstO LV m d pa q)) ∧ (∀ q, q < 7 → (L'.testBit q = true ↔ L.testBit q = true ∨ lstO LV m d pa q)) ∧ (c ≠ 0 ∨ ¬ CE LV m → x'.1 93 = x.1 93) ∧ (c = 0 → CE LV m → (∀ i, i < d → x'.1 93 i = nI (pa i)) ∧ ∀ i, i < p → x'.1 93 (d + i) = nI (gf0 LV (gsL LV m i)))
theorem lay_leaf (rd : Rd s nb n) {d c F L K : Nat} {pa : Nat → Nat} (hd : d ≤ 7) (hpa : ∀ i, i < d → pa i < 7) (hF : F < 128) (hL : L < 128) (hc : c < 2 ^ 30) (hx : LQ s x n 0 d pa c F L) : ∃ x', fX12_layLeaving (K + 1) (nI d) x = some ((), x') ∧ LO s n LV 0 d 0 pa c F L x x' := by
  have h7 := rd.2.1
  have sb : SbL (s.1 79) n 0 := ⟨by decide, fun g _ hb => by rw [Nat.zero_testBit] at hb; exact absurd hb (by decide)⟩
  obtain ⟨i1, i2, i3, i4, i5, i6⟩ := id hx
  have hset : fX12_seatedSet x = some (0, x) := by
    rw [seatedR (lq_rd rd hx).2.2.2.1 h7, lq_set h7 sb hx]
    rfl
  -- behind the two sets
  have main : ∀ (y : Mem) (F' L' : Nat), LQ s y n 0 d pa c F' L' → F' < 128 → L' < 128 → y.1 93 = x.1 93 → (∀ q, q < 7 → (F'.testBit q = true ↔ F.testBit q = true ∨ fstO LV 0 d pa q)) → (∀ q, q < 7 → (L'.testBit q = true ↔ L.testBit q = true ∨ lstO LV 0 d pa q)) → ∃ x', fX12_layLeaving_L49 (fX12_layLeaving K) (fun s11 => some ((), wI s11 68 42 ((s11.1 68 42) + 1))) (nI d) FU 0 y = some ((), x') ∧ LO s n LV 0 d 0 pa c F L x x' := by
    intro y F' L' hy hF' hL' y93 bF bL
    obtain ⟨j1, j2, j3, j4, j5, j6⟩ := hy
    by_cases e : c = 0
    · subst e
      rw [L49_0 hd j4]
      have r : (wF y 93 (fun i => if i < d then y.1 92 i else y.1 93 i)).1 68 42 = nI 0 := j4
      rw [r, nI_1]
      refine ⟨_, rfl, 1, F', L', ⟨(j1.tr (SmX.wF (by unfold Cr; omega) (by decide) (by decide))).tr (sm4x (by decide)), j2, j3, rfl, j5, j6⟩, hF', hL', by omega, by decide, ⟨fun z => absurd z (by decide), fun z => absurd CE_0 z⟩, bF, bL, fun z => ?_, fun _ _ => ⟨fun i hi => ?_, fun i hi => absurd hi (by omega)⟩⟩
      · rcases z with z | z
        · exact absurd rfl z
        · exact absurd CE_0 z
      · show (if i < d then y.1 92 i else y.1 93 i) = _
        rw [if_pos hi, j3 i hi]
    · have hne : ¬ y.1 68 42 = 0 := by
        rw [j4]
        exact fun z => e ((eq_num (b := 0) (by omega) (by decide)).mp z)
      rw [L49_n hne, j4, nI_1]
      refine ⟨_, rfl, c + 1, F', L', ⟨j1.tr (sm4x (by decide)), j2, j3, rfl, j5, j6⟩, hF', hL', by omega, by show c + 1 ≤ c + 1; omega, ⟨fun z => by omega, fun z => absurd CE_0 z⟩, bF, bL, fun _ => ?_, fun z => absurd z e⟩
      rw [wI_ne (by decide)]
      exact y93
  rw [fX12_layLeaving]
  unfold fX12_layLeaving_B
  rw [hset, bnd_some, if_pos rfl]
  by_cases e : d = 0
  · subst e
    rw [if_neg (show ¬ (0 : Int32) < nI 0 by decide)]
    refine main x F L hx hF hL rfl (fun q _ => ⟨Or.inl, fun h => h.elim id (fun z => ?_)⟩) (fun q _ => ⟨Or.inl, fun h => h.elim id (fun z => ?_)⟩)
    · rcases z with ⟨_, z, _⟩ | ⟨z, _⟩
      · omega
      · exact absurd rfl z
    · rcases z with ⟨_, z, _⟩ | ⟨z, _⟩
      · omega
      · exact absurd rfl z
  · have e1 : nI d - 1 = nI (d - 1) := pk_sub (a := d) (b := 1) (by omega)
    have x0 : ix 0 = 0 := by decide
    have p0 := hpa 0 (by omega)
    have p1 := hpa (d - 1) (by omega)
    have q1 : ∀ v, (wI x 68 43 v).1 68 44 = x.1 68 44 := fun _ => rfl
    have q2 : ∀ v, (wI x 68 43 v).1 92 = x.1 92 := fun _ => rfl
    rw [if_pos (show (0 : Int32) < nI d from nI_lt (a := 0) (by omega) (by omega)), if_pos (show inb 0 7 = true by decide), e1, if_pos (inb_ok (by omega) (by decide)), x0, ix_nI (by omega), q1, q2, i3 0 (by omega), i3 (d - 1) (by omega), i5, i6, b_one (pa 0) (by omega), b_one (pa (d - 1)) (by omega), b_or (pa 0) p0 F hF, b_or (pa (d - 1)) p1 L hL]
    refine main _ (F ||| 2 ^ pa 0) (L ||| 2 ^ pa (d - 1)) ⟨(i1.tr (sm4x (by decide))).tr (sm4x (by decide)), i2, i3, i4, rfl, rfl⟩ (or_lt hF (pow_tab _ p0).1) (or_lt hL (pow_tab _ p1).1) rfl (fun q _ => ?_) (fun q _ => ?_)
    · rw [orb p0]
      refine ⟨fun h => h.imp id (fun z => Or.inl ⟨rfl, by omega, z⟩), fun h => h.imp id (fun z => ?_)⟩
      rcases z with ⟨_, _, z⟩ | ⟨z, _⟩
      · exact z
      · exact absurd rfl z
    · rw [orb p1]
      refine ⟨fun h => h.imp id (fun z => Or.inl ⟨rfl, by omega, z⟩), fun h => h.imp id (fun z => ?_)⟩
      rcases z with ⟨_, _, z⟩ | ⟨z, _⟩
      · exact z
      · exact absurd rfl z
end ORD
