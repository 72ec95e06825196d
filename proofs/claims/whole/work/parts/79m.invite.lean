-- invite
def andB (p : Nat → Bool) : Nat → Bool
  | 0 => true
  | j + 1 => andB p j && p j
theorem andB_f {p : Nat → Bool} {j : Nat} (h : p j = false) : ∀ m, j < m → andB p m = false
  | 0, hm => absurd hm (by omega)
  | m + 1, hm => by
    rw [andB]
    by_cases e : j = m
    · rw [← e, h, Bool.and_false]
    · rw [andB_f h m (by omega), Bool.false_and]
theorem andB_t {p : Nat → Bool} {j : Nat} : ∀ m, andB p m = true → j < m → p j = true
  | 0, _, hm => absurd hm (by omega)
  | m + 1, h, hm => by
    rw [andB, Bool.and_eq_true] at h
    by_cases e : j = m
    · rw [e]
      exact h.2
    · exact andB_t m h.1 (by omega)
theorem andB_and (p q : Nat → Bool) : ∀ m, andB (fun i => p i && q i) m = (andB p m && andB q m)
  | 0 => rfl
  | m + 1 => by
    rw [andB, andB, andB, andB_and p q m]
    cases andB p m <;> cases andB q m <;> cases p m <;> cases q m <;> rfl
theorem andB_cong {p q : Nat → Bool} : ∀ m, (∀ i, i < m → p i = q i) → andB p m = andB q m
  | 0, _ => rfl
  | m + 1, h => by
    rw [andB, andB, andB_cong m (fun i hi => h i (by omega)), h m (by omega)]
def wiB (lo hi y : Int32) : Bool := decide (¬ y < lo ∧ ¬ hi < y)
theorem wiB_t {lo hi y : Int32} (h : wiB lo hi y = true) (s : Mem) : fX11_isWithin y lo hi s = some (1, s) := within_t (of_decide_eq_true h).1 (of_decide_eq_true h).2 s
theorem wiB_f {lo hi y : Int32} (h : wiB lo hi y = false) (s : Mem) : fX11_isWithin y lo hi s = some (0, s) := by
  have hn := of_decide_eq_false h
  by_cases e : y < lo
  · exact within_f (Or.inl e) s
  · by_cases e2 : hi < y
    · exact within_f (Or.inr e2) s
    · exact absurd ⟨e, e2⟩ hn
section INV
variable {s x : Mem} {nb n m : Nat}
theorem allW_ok {q : Nat} {lo hi : Int32} (hm : m ≤ 60) (h : x.1 q 0 = nI m) : ∀ d j k, j + d = m → d < k → andB (fun i => wiB lo hi (x.1 (q + 1) i)) j = true → fX7_allWithin_L2 (fun s6 => some (1, s6)) q lo hi k (nI j) x = some (if andB (fun i => wiB lo hi (x.1 (q + 1) i)) m then 1 else 0, x)
  | 0, j, k, h1, h2, h3 => by
    obtain ⟨k', rfl⟩ : ∃ k', k = k' + 1 := ⟨k - 1, by omega⟩
    have e : j = m := by omega
    subst e
    rw [fX7_allWithin_L2, h, if_neg (nI_nlt (Nat.le_refl j) (by omega)), h3]
    rfl
  | d + 1, j, k, h1, h2, h3 => by
    obtain ⟨k', rfl⟩ : ∃ k', k = k' + 1 := ⟨k - 1, by omega⟩
    rw [fX7_allWithin_L2, h, if_pos (nI_lt (by omega) (by omega)), if_pos (inb_ok (by omega) (by decide)), ix_nI (by omega), nI_1]
    cases hp : wiB lo hi (x.1 (q + 1) j) with
    | false =>
      rw [wiB_f hp, bnd_some, if_pos rfl, andB_f (p := fun i => wiB lo hi (x.1 (q + 1) i)) (j := j) hp m (by omega)]
      rfl
    | true =>
      rw [wiB_t hp, bnd_some, if_neg one_ne]
      refine allW_ok hm h d (j + 1) k' (by omega) (by omega) ?_
      rw [andB, h3, Bool.true_and]
      exact hp
theorem allW {q : Nat} {lo hi : Int32} (hm : m ≤ 60) (h : x.1 q 0 = nI m) : fX7_allWithin q lo hi x = some (if andB (fun i => wiB lo hi (x.1 (q + 1) i)) m then 1 else 0, x) := allW_ok hm h m 0 FU (by omega) (by unfold FU; omega) rfl
/-- what the reference's rows say of an invitation -/
def okI (x : Mem) (a b m : Nat) : Bool := andB (fun i => wiB 1 9 (x.1 71 (60 * a + i)) && wiB 0 99 (x.1 71 (60 * b + i))) m
theorem need60 {a b : Nat} (ha : a < 6) (hb : b < 6) (hm : m ≤ 60) (h : x.1 70 a = nI m) (κ : Int32 → Mem → Option (Int32 × Mem)) : fX12_needInvited_L60 κ (nI a) (nI b) FU 1 0 x = κ (if okI x a b m then 1 else 0) x := by
  have hi6 : inb (nI a) 6 = true := inb_ok ha (by decide)
  have key := lp0 (fun k j => fX12_needInvited_L60 κ (nI a) (nI b) k (if okI x a b j then 1 else 0) (nI j) x) (κ (if okI x a b m then 1 else 0) x) m ?_ ?_ (by omega)
  · exact key
  · intro j k hj
    show fX12_needInvited_L60 κ (nI a) (nI b) (k + 1) _ (nI j) x = fX12_needInvited_L60 κ (nI a) (nI b) k _ (nI (j + 1)) x
    have es : okI x a b (j + 1) = (okI x a b j && (wiB 1 9 (x.1 71 (60 * a + j)) && wiB 0 99 (x.1 71 (60 * b + j)))) := rfl
    rw [fX12_needInvited_L60, if_pos hi6, ix_nI (show a < 2 ^ 31 by omega), h, if_pos (nI_lt hj (by omega)), rowAt_ok ha (by omega), bnd_some, nI_1, es]
    cases okI x a b j with
    | false => rfl
    | true =>
      rw [if_neg (show ¬ (if true = true then (1 : Int32) else 0) = 0 by decide), in_eq, Bool.true_and]
      cases h1 : wiB 1 9 (x.1 71 (60 * a + j)) with
      | false =>
        rw [wiB_f h1, bnd_some, if_pos rfl]
        rfl
      | true =>
        rw [wiB_t h1, bnd_some, if_neg one_ne, rowAt_ok hb (by omega), bnd_some, in_eq, Bool.true_and]
        cases h2 : wiB 0 99 (x.1 71 (60 * b + j)) with
        | false =>
          rw [wiB_f h2, bnd_some, if_pos rfl]
          rfl
        | true =>
          rw [wiB_t h2, bnd_some, if_neg one_ne]
          rfl
  · intro k
    show fX12_needInvited_L60 κ (nI a) (nI b) (k + 1) _ (nI m) x = _
    rw [fX12_needInvited_L60, if_pos hi6, ix_nI (show a < 2 ^ 31 by omega), h, if_neg (nI_nlt (Nat.le_refl m) (by omega))]
theorem need142 {a b : Nat} (ha : a < 6) (hb : b < 6) (hm : m ≤ 4) (h : x.1 68 47 = nI m) : ∃ y, fX12_needInvited_L142 (fun s42 => some (0, s42)) (nI a) (nI b) FU 0 x = some (0, y) ∧ Sm x y ∧ y.1 68 47 = nI m ∧ ∀ i, i < m → y.1 94 i = x.1 71 (60 * a + i) ∧ y.1 95 i = x.1 71 (60 * b + i) := by
  have key := lp_inv0 (fun k j (y : Mem) => fX12_needInvited_L142 (fun s42 => some (0, s42)) (nI a) (nI b) k (nI j) y) (fun j y => Sm x y ∧ y.1 68 47 = nI m ∧ ∀ i, i < j → y.1 94 i = x.1 71 (60 * a + i) ∧ y.1 95 i = x.1 71 (60 * b + i)) m x ⟨SmX.rf x, h, fun i hi => absurd hi (by omega)⟩ ?_ (by omega)
  · obtain ⟨y, k, ⟨i1, i2, i3⟩, e⟩ := key
    refine ⟨y, ?_, i1, i2, i3⟩
    have e' : fX12_needInvited_L142 (fun s42 => some (0, s42)) (nI a) (nI b) FU 0 x = fX12_needInvited_L142 (fun s42 => some (0, s42)) (nI a) (nI b) (k + 1) (nI m) y := e
    rw [e', fX12_needInvited_L142, i2, if_neg (nI_nlt (Nat.le_refl m) (by omega))]
  · rintro j k y hj ⟨i1, i2, i3⟩
    show ∃ y', _ ∧ fX12_needInvited_L142 _ (nI a) (nI b) (k + 1) (nI j) y = fX12_needInvited_L142 _ (nI a) (nI b) k (nI (j + 1)) y'
    have y71 : y.1 71 = x.1 71 := i1.1 71 (by unfold Cr; omega) id
    have hi : inb (nI j) 4 = true := inb_ok (by omega) (by decide)
    have r71 : ∀ v, (wI y 94 j v).1 71 = x.1 71 := fun v => y71
    refine ⟨wI (wI y 94 j (x.1 71 (60 * a + j))) 95 j (x.1 71 (60 * b + j)), ⟨(i1.tr (sm90 (by decide) (by decide))).tr (sm90 (by decide) (by decide)), i2, fun i hi' => ?_⟩, ?_⟩
    · rw [wI_ne (by decide), rdq, rdq]
      by_cases c : i = j
      · rw [if_pos c, if_pos c, c]
        exact ⟨rfl, rfl⟩
      · rw [if_neg c, if_neg c, wI_ne (by decide)]
        exact i3 i (by omega)
    · rw [fX12_needInvited_L142, i2, if_pos (nI_lt hj (by omega)), rowAt_ok ha (by omega), bnd_some, if_pos hi, ix_nI (by omega), y71, rowAt_ok hb (by omega), bnd_some, if_pos hi, r71, nI_1]
theorem need_miss {a b : Nat} (ha : a < 6) (hb : b < 6) (h : x.1 70 a < 0 ∨ x.1 70 b < 0) : fX12_needInvited (nI a) (nI b) x = bnd (fX12_meets 1 x) (fun r s => some (r, s)) := by
  unfold fX12_needInvited
  rw [if_pos (inb_ok ha (by decide)), ix_nI (by omega), ix_nI (by omega)]
  by_cases e : x.1 70 a < 0
  · rw [if_pos e]
  · rw [if_neg e, if_pos (inb_ok hb (by decide)), if_pos (h.resolve_left e)]
theorem need_size {a b m1 m2 : Nat} (ha : a < 6) (hb : b < 6) (h1 : x.1 70 a = nI m1) (h2 : x.1 70 b = nI m2) (l1 : m1 ≤ 60) (l2 : m2 ≤ 60) (h : 4 < m1 ∨ m1 ≠ m2) : fX12_needInvited (nI a) (nI b) x = bnd (fX12_meets 5 x) (fun r s => some (r, s)) := by
  have ia : inb (nI a) 6 = true := inb_ok ha (by decide)
  have ib : inb (nI b) 6 = true := inb_ok hb (by decide)
  unfold fX12_needInvited
  rw [if_pos ia, ix_nI (by omega), ix_nI (by omega), h1, h2, if_neg (nI_nonneg (by omega)), if_pos ib, if_neg (nI_nonneg (by omega)), if_pos ia]
  by_cases e : 4 < m1
  · rw [if_pos ((num_lt (b := 4) (by omega) (by decide)).mpr e)]
  · rw [if_neg (fun z => e ((num_lt (b := 4) (by omega) (by decide)).mp z)), if_pos ia, if_pos ib, if_neg (fun z => (h.resolve_left e) ((nI_eq (by omega) (by omega)).mp z))]
theorem need_go {a b : Nat} (ha : a < 6) (hb : b < 6) (hm : m ≤ 4) (h1 : x.1 70 a = nI m) (h2 : x.1 70 b = nI m) : (okI x a b m = false → fX12_needInvited (nI a) (nI b) x = bnd (fX12_meets 3 x) (fun r s => some (r, s))) ∧ (okI x a b m = true → ∃ y, fX12_needInvited (nI a) (nI b) x = some (0, y) ∧ Sm x y ∧ y.1 68 47 = nI m ∧ ∀ i, i < m → y.1 94 i = x.1 71 (60 * a + i) ∧ y.1 95 i = x.1 71 (60 * b + i)) := by
  have ia : inb (nI a) 6 = true := inb_ok ha (by decide)
  have ib : inb (nI b) 6 = true := inb_ok hb (by decide)
  have h4 : ¬ (4 : Int32) < nI m := fun z => by
    have := (num_lt (b := 4) (by omega) (by decide)).mp z
    omega
  have e0 : fX12_needInvited (nI a) (nI b) x = (if (if okI x a b m then (1 : Int32) else 0) = 0 then bnd (fX12_meets 3 x) (fun r s => some (r, s)) else fX12_needInvited_L142 (fun s42 => some (0, s42)) (nI a) (nI b) FU 0 (wI x 68 47 (nI m))) := by
    unfold fX12_needInvited
    rw [if_pos ia, ix_nI (show a < 2 ^ 31 by omega), ix_nI (show b < 2 ^ 31 by omega), h1, h2, if_neg (nI_nonneg (by omega)), if_pos ib, if_neg (nI_nonneg (by omega)), if_pos ia, if_neg h4, if_pos ia, if_pos ib, if_pos rfl, need60 ha hb (by omega) h1, if_pos ia, h1]
  rw [e0]
  refine ⟨fun h => ?_, fun h => ?_⟩
  · rw [h, if_pos (by decide)]
  · rw [h, if_neg (by decide)]
    obtain ⟨y, e, i1, i2, i3⟩ := need142 (x := wI x 68 47 (nI m)) ha hb hm rfl
    exact ⟨y, e, (sm53 (x := x) (j := 47) (v := nI m) (by decide)).tr i1, i2, i3⟩
end INV
