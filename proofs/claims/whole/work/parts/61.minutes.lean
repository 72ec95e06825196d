-- the rite's minutes: when, minutes
/-- the first place from j on, within d, where c holds; j + d if there is none -/
def sk (c : Nat → Bool) : Nat → Nat → Nat
  | 0, j => j
  | d + 1, j => if c j then j else sk c d (j + 1)
/-- the posture of a minute -/
def pv (s : Mem) (m : Nat) : Nat := ix (s.1 80 m)
/-- the list in a minute -/
def mv (s : Mem) (n m : Nat) : Int32 := s.1 68 18 + sumI (mo s (pv s m)) n
theorem mv_eq {s s' : Mem} (h1 : s'.1 75 = s.1 75) (h2 : s'.1 76 = s.1 76) (h3 : s'.1 77 = s.1 77) (h4 : s'.1 79 = s.1 79) (h5 : s'.1 80 = s.1 80) (h6 : s'.1 68 18 = s.1 68 18) (n m : Nat) : mv s' n m = mv s n m := by
  unfold mv pv
  rw [h5, h6, mo_eq h1 h2 h3 h4]
section MIN
variable {s : Mem} {nb n nm' : Nat}
theorem pv_ok (gg : Gg s nm') {m : Nat} (hm : m < nm') : pv s m < 3 ∧ s.1 80 m = nI (pv s m) := by
  obtain ⟨p, hp, e⟩ := gg.2.2.2.2.2.1 m hm
  unfold pv
  rw [e, ix_nI (by omega)]
  exact ⟨hp, rfl⟩
theorem postureIn_ok (gg : Gg s nm') {m : Nat} (hm : m < nm') : fX6_postureIn (nI m) s = some (nI (pv s m), s) := by
  have h40 := gg.2.1
  unfold fX6_postureIn
  rw [if_neg (nI_nonneg (by omega)), gg.2.2.1, if_pos (nI_lt hm (by omega)), if_pos (inb_ok (by omega) (by decide)), ix_nI (by omega), gg.2.2.2.2.1, (pv_ok gg hm).2]
theorem cmin_ok (gd : Gd s nb n) (ge : Ge s nb n) (gg : Gg s nm') {m : Nat} (hm : m < nm') : fX0_listIn (nI (pv s m)) s = some (mv s n m, s) := list_ok gd ge (pv_ok gg hm).1
theorem mmin_ok (gd : Gd s nb n) (gg : Gg s nm') {m : Nat} (hm : m < nm') (r : Int32) : fX12_listOf (s.1 80 m) r s = some (r + sumI (mo s (pv s m)) n, s) := by
  rw [(pv_ok gg hm).2]
  exact mlist_ok gd (pv_ok gg hm).1 r
theorem mminv_ok (gd : Gd s nb n) (gg : Gg s nm') {m : Nat} (hm : m < nm') : fX12_listOf (s.1 80 m) (s.1 68 18) s = some (mv s n m, s) := mmin_ok gd gg hm _
/-- a minute that is not level -/
def bad (s : Mem) (n m : Nat) : Bool := decide (lev s (mv s n m) = 0)
theorem when1 (gd : Gd s nb n) (ge : Ge s nb n) (gg : Gg s nm') : ∀ d j k, j + d = nm' → d < k → fX11_when_L2 (fun s11 => some ((-9), s11)) k (nI j) s = if sk (bad s n) d j < nm' then some (nI (sk (bad s n) d j), wI s 2 0 (mv s n (sk (bad s n) d j))) else some (-9, s)
  | 0, j, k, h1, h2 => by
    obtain ⟨k', rfl⟩ : ∃ k', k = k' + 1 := ⟨k - 1, by omega⟩
    have h40 := gg.2.1
    rw [fX11_when_L2, gg.2.2.1, if_neg (nI_nlt (by omega) (by omega)), sk, if_neg (by omega)]
  | d + 1, j, k, h1, h2 => by
    obtain ⟨k', rfl⟩ : ∃ k', k = k' + 1 := ⟨k - 1, by omega⟩
    have h40 := gg.2.1
    have hj : j < nm' := by omega
    rw [fX11_when_L2, gg.2.2.1, if_pos (nI_lt hj (by omega)), postureIn_ok gg hj, bnd_some, cmin_ok gd ge gg hj, bnd_some, isLevel_ok gd, bnd_some, sk]
    by_cases hb : lev s (mv s n j) = 0
    · have h3 : bad s n j = true := decide_eq_true hb
      rw [if_pos hb, h3, if_pos rfl, if_pos hj, f_tell, bnd_some]
    · have h3 : bad s n j = false := decide_eq_false hb
      rw [if_neg hb, h3, if_neg (show ¬ (false = true) by decide), nI_1, when1 gd ge gg d (j + 1) k' (by omega) (by omega)]
theorem when2 (gd : Gd s nb n) (gg : Gg s nm') : ∀ d j k, j + d = nm' → d < k → fX12_when_L2 (fun s11 => some ((-9), s11)) k (nI j) s = if sk (bad s n) d j < nm' then some (nI (sk (bad s n) d j), wI s 68 2 (mv s n (sk (bad s n) d j))) else some (-9, s)
  | 0, j, k, h1, h2 => by
    obtain ⟨k', rfl⟩ : ∃ k', k = k' + 1 := ⟨k - 1, by omega⟩
    have h40 := gg.2.1
    rw [fX12_when_L2, gg.2.2.2.1, if_neg (nI_nlt (by omega) (by omega)), sk, if_neg (by omega)]
  | d + 1, j, k, h1, h2 => by
    obtain ⟨k', rfl⟩ : ∃ k', k = k' + 1 := ⟨k - 1, by omega⟩
    have h40 := gg.2.1
    have hj : j < nm' := by omega
    rw [fX12_when_L2, gg.2.2.2.1, if_pos (nI_lt hj (by omega)), if_pos (inb_ok (by omega) (by decide)), ix_nI (by omega), mminv_ok gd gg hj, bnd_some, mLevel_ok, bnd_some, sk]
    by_cases hb : lev s (mv s n j) = 0
    · have h3 : bad s n j = true := decide_eq_true hb
      rw [if_pos hb, h3, if_pos rfl, if_pos hj, f_tells, bnd_some]
    · have h3 : bad s n j = false := decide_eq_false hb
      rw [if_neg hb, h3, if_neg (show ¬ (false = true) by decide), nI_1, when2 gd gg d (j + 1) k' (by omega) (by omega)]
theorem bad_eq (v : Int32) (n : Nat) : bad (wI s 2 0 v) n = bad s n := by
  funext m
  unfold bad
  rw [mv_eq (s := s) (s' := wI s 2 0 v) rfl rfl rfl rfl rfl rfl]
  rfl
theorem Gg_told (v : Int32) (g : Gg s nm') : Gg (wI s 2 0 v) nm' := Gg_keep (X := fun a => a = 2) (SmX.wI (fun h => rfl) (by omega) (by omega)) (fun a ha => by omega) g
end MIN
theorem al_when : Alike fX11_when fX12_when := by
  intro s hI
  obtain ⟨nb, n, nq, nm, nd, ga, gb, gc, gd, ge, gf, gg, gh, gi, gj⟩ := id hI
  have h40 := gg.2.1
  unfold fX11_when fX12_when
  have h1 := when1 gd ge gg nm 0 FU (by omega) (by unfold FU; omega)
  by_cases hw : sk (bad s n) nm 0 < nm
  · rw [if_pos hw] at h1
    refine ⟨_, _, wI (wI s 2 0 (mv s n (sk (bad s n) nm 0))) 68 2 (mv s n (sk (bad s n) nm 0)), h1, ?_, Inv_tell hI _⟩
    have h2 := when2 (Gd_told (mv s n (sk (bad s n) nm 0)) gd) (Gg_told (mv s n (sk (bad s n) nm 0)) gg) nm 0 FU (by omega) (by unfold FU; omega)
    rw [bad_eq, if_pos hw, mv_eq (s := s) (s' := wI s 2 0 (mv s n (sk (bad s n) nm 0))) rfl rfl rfl rfl rfl rfl] at h2
    exact h2
  · rw [if_neg hw] at h1
    refine ⟨_, _, s, h1, ?_, hI⟩
    have h2 := when2 gd gg nm 0 FU (by omega) (by unfold FU; omega)
    rw [if_neg hw] at h2
    exact h2
-- shares
theorem nI_quo {a b : Nat} (ha : a < 2 ^ 31) (hb : b < 2 ^ 31) : nI a / nI b = nI (a / b) := by
  apply Int32.toInt_inj.mp
  have h := Nat.div_le_self a b
  rw [Int32.toInt_div, nI_toInt ha, nI_toInt hb, nI_toInt (by omega)]
  rw [show ((a : Int).tdiv (b : Int)) = ((a / b : Nat) : Int) from rfl]
  generalize a / b = q at h ⊢
  apply Int.bmod_eq_of_le <;> omega
theorem nI_rem {a b : Nat} (ha : a < 2 ^ 30) (hb : b < 2 ^ 30) (h0 : b ≠ 0) : nI a - nI a / nI b * nI b = nI (a % b) := by
  have h2 := Nat.div_add_mod a b
  have h3 := Nat.mod_lt a (Nat.pos_of_ne_zero h0)
  rw [nI_quo (by omega) (by omega), pk_mul, Nat.mul_comm]
  generalize b * (a / b) = q at h2 ⊢
  generalize a % b = r at h2 h3 ⊢
  apply Int32.toInt_inj.mp
  rw [pk_sub_toInt (by omega) (by omega), nI_toInt (by omega)]
  omega
theorem half {a b : Nat} (h0 : a % b ≠ 0) (h1 : b ≠ 0) {p : Nat} (hp : b < 2 ^ (p + 1)) : b % (a % b) < 2 ^ p := by
  have h2 := Nat.mod_lt a (Nat.pos_of_ne_zero h1)
  generalize a % b = c at h0 h2 ⊢
  have h3 := Nat.mod_lt b (Nat.pos_of_ne_zero h0)
  rw [Nat.pow_succ] at hp
  by_cases h : 2 * c ≤ b
  · omega
  · have e : b % c = b - c := by
      rw [Nat.mod_eq_sub_mod (by omega), Nat.mod_eq_of_lt (by omega)]
    omega
theorem lt64 {t : Nat} (h : t < 64) : nI t < 64 := (lt_num (b := 64) (by omega) (by decide)).mpr h
theorem gcd1 (κ : Int32 → Mem → Option (Int32 × Mem)) (s : Mem) : ∀ (p k a b t : Nat), a < 2 ^ 30 → b < 2 ^ 30 → b < 2 ^ p → t + 2 * p ≤ 60 → 2 * p < k → fX10_greatestDivisor_L7 κ k (nI a) (nI b) (nI t) s = κ (nI (Nat.gcd a b)) s
  | 0, k, a, b, t, ha, hb, hp, ht, hk => by
    obtain ⟨k', rfl⟩ : ∃ k', k = k' + 1 := ⟨k - 1, by omega⟩
    have h0 : b = 0 := by
      rw [Nat.pow_zero] at hp
      omega
    subst h0
    rw [fX10_greatestDivisor_L7, if_pos (lt64 (by omega)), if_pos (show nI 0 = 0 from rfl), Nat.gcd_zero_right]
  | p + 1, k, a, b, t, ha, hb, hp, ht, hk => by
    obtain ⟨k', rfl⟩ : ∃ k', k = k' + 2 := ⟨k - 2, by omega⟩
    rw [fX10_greatestDivisor_L7, if_pos (lt64 (by omega))]
    by_cases h0 : b = 0
    · subst h0
      rw [if_pos (show nI 0 = 0 from rfl), Nat.gcd_zero_right]
    · have h1 : ¬ nI b = 0 := fun z => h0 ((eq_num (by omega) (by decide)).mp z)
      have h2 := Nat.mod_lt a (Nat.pos_of_ne_zero h0)
      rw [if_neg h1, if_neg h1, nm_eq, nI_rem ha hb h0, nI_1, fX10_greatestDivisor_L7, if_pos (lt64 (by omega)), Nat.gcd_comm a b, Nat.gcd_rec b a]
      by_cases h3 : a % b = 0
      · rw [h3, if_pos (show nI 0 = 0 from rfl), Nat.gcd_zero_left]
      · have h4 : ¬ nI (a % b) = 0 := fun z => h3 ((eq_num (by omega) (by decide)).mp z)
        have h5 := Nat.mod_lt b (Nat.pos_of_ne_zero h3)
        rw [if_neg h4, if_neg h4, nm_eq, nI_rem hb (by omega) h3, nI_1, gcd1 κ s p k' (a % b) (b % (a % b)) (t + 1 + 1) (by omega) (by omega) (half h3 h0 hp) (by omega) (by omega), Nat.gcd_rec (a % b) b, Nat.gcd_comm]
theorem gcd2 (κ : Int32 → Mem → Option (Int32 × Mem)) (y1 y2 y3 : Int32) (s : Mem) : ∀ (p k a b : Nat), a < 2 ^ 30 → b < 2 ^ 30 → b < 2 ^ p → 2 * p < k → fX12_fraction_L6 κ y1 y2 y3 k (nI a) (nI b) s = κ (nI (Nat.gcd a b)) s
  | 0, k, a, b, ha, hb, hp, hk => by
    obtain ⟨k', rfl⟩ : ∃ k', k = k' + 1 := ⟨k - 1, by omega⟩
    have h0 : b = 0 := by
      rw [Nat.pow_zero] at hp
      omega
    subst h0
    rw [fX12_fraction_L6, if_pos (show nI 0 = 0 from rfl), Nat.gcd_zero_right]
  | p + 1, k, a, b, ha, hb, hp, hk => by
    obtain ⟨k', rfl⟩ : ∃ k', k = k' + 2 := ⟨k - 2, by omega⟩
    rw [fX12_fraction_L6]
    by_cases h0 : b = 0
    · subst h0
      rw [if_pos (show nI 0 = 0 from rfl), Nat.gcd_zero_right]
    · have h1 : ¬ nI b = 0 := fun z => h0 ((eq_num (by omega) (by decide)).mp z)
      have h2 := Nat.mod_lt a (Nat.pos_of_ne_zero h0)
      rw [if_neg h1, if_neg h1, nm_eq, nI_rem ha hb h0, fX12_fraction_L6, Nat.gcd_comm a b, Nat.gcd_rec b a]
      by_cases h3 : a % b = 0
      · rw [h3, if_pos (show nI 0 = 0 from rfl), Nat.gcd_zero_left]
      · have h4 : ¬ nI (a % b) = 0 := fun z => h3 ((eq_num (by omega) (by decide)).mp z)
        have h5 := Nat.mod_lt b (Nat.pos_of_ne_zero h3)
        rw [if_neg h4, if_neg h4, nm_eq, nI_rem hb (by omega) h3, gcd2 κ y1 y2 y3 s p k' (a % b) (b % (a % b)) (by omega) (by omega) (half h3 h0 hp) (by omega), Nat.gcd_rec (a % b) b, Nat.gcd_comm]
