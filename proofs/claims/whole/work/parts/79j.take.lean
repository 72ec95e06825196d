-- a row taken from an answer's cell; the search for cousins, pure
section TAK
variable {x : Mem}
theorem mn_l {M L : Nat} (h : M ≤ L) (hL : L < 1000) : mn (nI M) (nI L) = nI M := by
  unfold mn
  by_cases e : L < M
  · omega
  · rw [if_neg (nI_nlt (by omega) (by omega))]
/-- what the class's take does -/
theorem take_any {q c L M : Nat} (hM : M ≤ L) (hL : L ≤ 60) (hq : q + 1 ≠ c) (hq2 : q ≠ c) (hq3 : Cr c → False) (q68 : q ≠ 68 ∧ q + 1 ≠ 68 ∧ q ≠ 6 ∧ q + 1 ≠ 6) : ∃ x', bnd (fX7_renew q (mn (nI M) (nI L)) x) (fun r1 s2 => if ¬ (0 : Int32) < 0 ∧ ¬ (0 : Int32) < 0 ∧ ¬ (s2.1 q 0 : Int32) < 0 ∧ ix 0 + ix (s2.1 q 0) ≤ L ∧ ix 0 + ix (s2.1 q 0) ≤ 60 then some ((), wF s2 (q + 1) (va_cpy (s2.1 c) (s2.1 (q + 1)) (ix 0) (ix 0) (ix (s2.1 q 0)))) else none) = some ((), x') ∧ SmX (fun a => a = q ∨ a = q + 1) x x' ∧ x'.1 q 0 = nI M ∧ (∀ i, i < M → x'.1 (q + 1) i = x.1 c i) ∧ ∀ a, a ≠ q → a ≠ q + 1 → x'.1 a = x.1 a := by
  have ix0 : ix 0 = 0 := by decide
  have e1 : (zf (wI x q 0 (nI M)) (q + 1) 0 M 0).1 q 0 = nI M := by
    rw [zf_ne (by omega), rdq, if_pos rfl]
  have e2 : (zf (wI x q 0 (nI M)) (q + 1) 0 M 0).1 c = x.1 c := by rw [zf_ne (fun e => hq e.symm), wI_ne (fun e => hq2 e.symm)]
  refine ⟨wF (zf (wI x q 0 (nI M)) (q + 1) 0 M 0) (q + 1) (va_cpy (x.1 c) ((zf (wI x q 0 (nI M)) (q + 1) 0 M 0).1 (q + 1)) 0 0 M), ?_, ?_, ?_, fun i hi => ?_, fun a h1 h2 => ?_⟩
  · rw [mn_l hM (by omega), renew_ok (by omega), bnd_some, e1, ix0, ix_nI (by omega), if_pos ⟨by decide, by decide, nI_nonneg (by omega), by omega, by omega⟩, e2]
  · exact ((SmX.wI (fun _ => Or.inl rfl) (fun e => absurd e q68.1) (fun e => absurd e q68.2.2.1)).tr (SmX.wF (fun _ => Or.inr rfl) q68.2.1 q68.2.2.2)).tr (SmX.wF (fun _ => Or.inr rfl) q68.2.1 q68.2.2.2)
  · rw [wF_ne (by omega)]
    exact e1
  · rw [rd_wF, if_pos rfl]
    unfold va_cpy
    rw [if_pos (by omega), Nat.zero_add, Nat.sub_zero]
  · rw [wF_ne h2, zf_ne h2, wI_ne h1]
/-- the row r holds the answer, both sides -/
theorem Inv_ans {s s1 s2 : Mem} {r M : Nat} (hI : Inv s) (hr : r < 6) (hM : M ≤ 60) (h1 : SmX (fun a => a = 48 + 2 * r ∨ a = 49 + 2 * r) s s1) (h2 : SmX (fun a => a = 70 ∨ a = 71) s1 s2) (e0 : s1.1 (48 + 2 * r) 0 = nI M) (e70 : ∀ j, s2.1 70 j = if j = r then nI M else s1.1 70 j) (e71 : ∀ j, (j < 60 * r ∨ 60 * r + 60 ≤ j) → s2.1 71 j = s1.1 71 j) (hv : ∀ i, i < M → s1.1 (49 + 2 * r) i = s2.1 71 (60 * r + i)) : Inv s2 := by
  have h70 : s1.1 70 = s.1 70 := h1.1 70 (by unfold Cr; omega) (by omega)
  have h71 : s1.1 71 = s.1 71 := h1.1 71 (by unfold Cr; omega) (by omega)
  have k0 : s2.1 (48 + 2 * r) = s1.1 (48 + 2 * r) := h2.1 _ (by unfold Cr; omega) (by omega)
  have k1 : s2.1 (49 + 2 * r) = s1.1 (49 + 2 * r) := h2.1 _ (by unfold Cr; omega) (by omega)
  have kr : s2.1 70 r = nI M := by rw [e70, if_pos rfl]
  refine Inv_row hI hr ((h1.mono (fun a ha => by omega)).tr (h2.mono (fun a ha => by omega))) (fun j hj => ?_) (fun j hj => ?_) ⟨?_, ?_, ?_⟩
  · rw [e70, if_neg hj, h70]
  · rw [e71 j hj, h71]
  · rw [k0, kr]
    exact e0
  · rw [kr]
    exact Or.inr ⟨M, hM, rfl⟩
  · intro i n hn hi h60
    rw [kr] at hn
    have en : M = n := (nI_eq (by omega) (by omega)).mp hn
    rw [k1, hv i (by omega)]
end TAK
/-- what is best by now: its cost, who sits where -/
abbrev Bs : Type := Option (Int32 × (Nat → Int32))
def leaf (lv : Int32 → Bool) (l c0 : Int32) (tr : Nat → Int32) (bs : Bs) : Bs := if lv l then (match bs with
  | none => some (c0, tr)
  | some b => if c0 < b.1 then some (c0, tr) else some b) else bs
def ivb {β : Type} (F : Nat → β → β) (b0 : β) : Nat → β
  | 0 => b0
  | j + 1 => F j (ivb F b0 j)
def upN (u : Nat → Nat) (b v : Nat) : Nat → Nat := fun i => if i = b then v else u i
def inv (nb : Nat) (tk : Nat → Nat) (xs w cs : Nat → Int32) (lv : Int32 → Bool) : Nat → Nat → (Nat → Nat) → Int32 → Int32 → (Nat → Int32) → Bs → Bs
  | 0, _, _, l, c0, tr, bs => leaf lv l c0 tr bs
  | d + 1, k, u, l, c0, tr, bs => inv nb tk xs w cs lv d (k + 1) u l c0 (upd tr k (-9)) (ivb (fun b z => if tk b + u b < 2 then inv nb tk xs w cs lv d (k + 1) (upN u b (u b + 1)) (l + xs b * w k) (c0 + cs k) (upd tr k (nI b)) z else z) bs nb)
/-- what is best costs no less than nothing -/
def BsOk (bs : Bs) : Prop := ∀ b, bs = some b → 0 ≤ b.1.toInt
theorem ivb_id {β : Type} {F : Nat → β → β} {b0 : β} : ∀ n, (∀ j, j < n → F j b0 = b0) → ivb F b0 n = b0
  | 0, _ => rfl
  | n + 1, h => by
    rw [ivb, ivb_id n (fun j hj => h j (by omega)), h n (by omega)]
theorem ivb_p {β : Type} {F : Nat → β → β} {b0 : β} {P : β → Prop} (h0 : P b0) : ∀ n, (∀ j z, j < n → P z → P (F j z)) → P (ivb F b0 n)
  | 0, _ => h0
  | n + 1, h => by
    rw [ivb]
    exact h n _ (by omega) (ivb_p h0 n (fun j z hj => h j z (by omega)))
section IVP
variable {nb M : Nat} {tk : Nat → Nat} {xs w cs : Nat → Int32} {lv : Int32 → Bool}
theorem cost_s {k : Nat} {c0 : Int32} (hk : k < 4) (h0 : 0 ≤ c0.toInt) (h1 : c0.toInt ≤ 99 * k) (h2 : 0 ≤ (cs k).toInt) (h3 : (cs k).toInt ≤ 99) : 0 ≤ (c0 + cs k).toInt ∧ (c0 + cs k).toInt ≤ 99 * ((k + 1 : Nat) : Int) ∧ c0.toInt ≤ (c0 + cs k).toInt := by
  rw [addI (by omega) (by omega)]
  omega
theorem prune (hc : ∀ i, i < M → 0 ≤ (cs i).toInt ∧ (cs i).toInt ≤ 99) (hM : M ≤ 4) : ∀ d k u l c0 tr (b : Int32 × (Nat → Int32)), k + d = M → 0 ≤ c0.toInt → c0.toInt ≤ 99 * (k : Int) → ¬ c0 < b.1 → inv nb tk xs w cs lv d k u l c0 tr (some b) = some b
  | 0, k, u, l, c0, tr, b, hk, h0, h1, hb => by
    show leaf lv l c0 tr (some b) = some b
    unfold leaf
    by_cases e : lv l = true
    · rw [if_pos e]
      show (if c0 < b.1 then some (c0, tr) else some b) = some b
      rw [if_neg hb]
    · rw [if_neg e]
  | d + 1, k, u, l, c0, tr, b, hk, h0, h1, hb => by
    obtain ⟨q1, q2⟩ := hc k (by omega)
    obtain ⟨q3, q4, q5⟩ := cost_s (cs := cs) (k := k) (by omega) h0 h1 q1 q2
    rw [inv, ivb_id nb (fun j hj => ?_)]
    · exact prune hc hM d (k + 1) u l c0 _ b (by omega) h0 (by omega) hb
    · show (if tk j + u j < 2 then _ else _) = _
      by_cases e : tk j + u j < 2
      · rw [if_pos e]
        refine prune hc hM d (k + 1) _ _ _ _ b (by omega) q3 q4 (fun z => hb ?_)
        have z1 := Int32.lt_iff_toInt_lt.mp z
        exact Int32.lt_iff_toInt_lt.mpr (by omega)
      · rw [if_neg e]
theorem leaf_ok {l c0 : Int32} {tr : Nat → Int32} {bs : Bs} (h : BsOk bs) (h0 : 0 ≤ c0.toInt) : BsOk (leaf lv l c0 tr bs) := by
  unfold leaf
  by_cases e : lv l = true
  · rw [if_pos e]
    cases bs with
    | none =>
      intro b hb
      cases hb
      exact h0
    | some b' =>
      show BsOk (if c0 < b'.1 then some (c0, tr) else some b')
      by_cases e2 : c0 < b'.1
      · rw [if_pos e2]
        intro b hb
        cases hb
        exact h0
      · rw [if_neg e2]
        exact h
  · rw [if_neg e]
    exact h
theorem inv_ok (hc : ∀ i, i < M → 0 ≤ (cs i).toInt ∧ (cs i).toInt ≤ 99) (hM : M ≤ 4) : ∀ d k u l c0 tr bs, k + d = M → 0 ≤ c0.toInt → c0.toInt ≤ 99 * (k : Int) → BsOk bs → BsOk (inv nb tk xs w cs lv d k u l c0 tr bs)
  | 0, k, u, l, c0, tr, bs, hk, h0, h1, hb => leaf_ok hb h0
  | d + 1, k, u, l, c0, tr, bs, hk, h0, h1, hb => by
    obtain ⟨q1, q2⟩ := hc k (by omega)
    obtain ⟨q3, q4, q5⟩ := cost_s (cs := cs) (k := k) (by omega) h0 h1 q1 q2
    rw [inv]
    refine inv_ok hc hM d (k + 1) u l c0 _ _ (by omega) h0 (by omega) (ivb_p hb nb (fun j z hj hz => ?_))
    show BsOk (if tk j + u j < 2 then _ else _)
    by_cases e : tk j + u j < 2
    · rw [if_pos e]
      exact inv_ok hc hM d (k + 1) _ _ _ _ z (by omega) q3 q4 hz
    · rw [if_neg e]
      exact hz
end IVP
