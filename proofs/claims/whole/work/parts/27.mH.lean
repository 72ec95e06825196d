-- X12_weightAll
def fX12_weightAll_L4  (κ : Int32 → Mem → Option (Int32 × Mem))  : Nat → Int32 → Int32 → Mem → Option (Int32 × Mem)
  | 0, _, _, _ => none
  | k + 1, x1, x2, s =>
    if x2 < (s.1 68 12) then
      bnd (fX12_weighs x2 s) (fun r2 s3 =>
      nm (x1 + r2) (fun v4 =>
      fX12_weightAll_L4 κ k v4 (x2 + 1) s3))
    else
      κ x1 s
def fX12_weightAll   (s : Mem) : Option (Int32 × Mem) :=
fX12_weightAll_L4 (fun v5 s6 =>
  some (v5, s6))  FU 0 0 s
theorem tX12_weightAll_L4 (Θ : Th) (l : Launch)  (κ : Int32 → Mem → Option (Int32 × Mem))   (hκ : ∀ (x1 : Int32) (s : Mem), Js Θ l mX12_weightAll 2 gI 26 [none, some (vI x1), none] [] s (κ x1 s)) : ∀ (k : Nat) (x1 : Int32) (x2 : Int32) (s : Mem), Js Θ l mX12_weightAll 2 gI 4 [some (vR 68), some (vI x1), some (vI x2)] [] s (fX12_weightAll_L4 κ  k x1 x2 s) := by
  intro k
  induction k with
  | zero => intro x1 x2 s; exact j_none
  | succ k ih =>
    intro x1 x2 s
    rw [fX12_weightAll_L4]
    refine j_iload_n 5 dX12_weightAll_4 rfl rfl ?_
    refine j_aload_n 6 dX12_weightAll_5 rfl rfl ?_
    refine s_getI 9 fa68_12 w_1218 dX12_weightAll_6 rfl ?_
    refine j_icmp_ge 26 12 dX12_weightAll_9 (by decide) rfl (fun c1 => ?_) (fun c1 => ?_)
    · refine j_iload_n 13 dX12_weightAll_12 rfl rfl ?_
      refine j_aload_n 14 dX12_weightAll_13 rfl rfl ?_
      refine j_iload_n 15 dX12_weightAll_14 rfl rfl ?_
      refine s_callVi (M2 := mX12_weighs) [vI x2] 18 oa68 cc12 mkX12_weighs w_1507 dX12_weightAll_15 rfl rfl (tX12_weighs Θ l _  _) (by first | exact Nat.le_of_ble_eq_true rfl | omega) (Nat.le_of_ble_eq_true rfl) (Nat.le_of_ble_eq_true rfl) (fun r2 s3 => ?_)
      refine j_iadd 19 dX12_weightAll_18 rfl ?_
      refine s_nmI (fun v4 => ?_)
      refine j_istore_n (i := 1) (ls' := [some (vR 68), some (vI v4), some (vI x2)]) 20 dX12_weightAll_19 rfl rfl (by decide) rfl rfl ?_
      refine j_iinc (v := x2 + 1) (ls' := [some (vR 68), some (vI v4), some (vI (x2 + 1))]) 23 dX12_weightAll_20 rfl rfl rfl (by decide) rfl rfl ?_
      refine j_goto 4 dX12_weightAll_23 (by decide) ?_
      refine j_sub (ls' := [some (vR 68), some (vI v4), some (vI (x2 + 1))]) (And.intro rfl (And.intro rfl (And.intro rfl trivial))) ?_
      exact ih v4 (x2 + 1) s3
    · refine j_sub (ls' := [none, some (vI x1), none]) (And.intro rfl trivial) ?_
      exact hκ x1 s
theorem tX12_weightAll (Θ : Th) (l : Launch)    (s : Mem) : Cs Θ l mX12_weightAll 2 gI [vR 68] s (fX12_weightAll  s) := by
  refine ct_of (by decide) [some (vR 68), none, none] rfl (Nat.le_of_ble_eq_true rfl) ?_
  unfold fX12_weightAll
  refine j_iconst (v := 0) 1 dX12_weightAll_0 rfl (by decide) ?_
  refine j_istore_n (i := 1) (ls' := [some (vR 68), some (vI 0), none]) 2 dX12_weightAll_1 rfl rfl (by decide) rfl rfl ?_
  refine j_iconst (v := 0) 3 dX12_weightAll_2 rfl (by decide) ?_
  refine j_istore_n (i := 2) (ls' := [some (vR 68), some (vI 0), some (vI 0)]) 4 dX12_weightAll_3 rfl rfl (by decide) rfl rfl ?_
  refine j_sub (ls' := [some (vR 68), some (vI 0), some (vI 0)]) (And.intro rfl (And.intro rfl (And.intro rfl trivial))) ?_
  refine tX12_weightAll_L4 Θ l _   ?_ _ _ _ _
  intro v5 s6
  refine j_iload_n 27 dX12_weightAll_26 rfl rfl ?_
  exact s_iret dX12_weightAll_27 rfl
-- X12_has
def fX12_has  (a0 : Int32) (a1 : Int32) (s : Mem) : Option (Int32 × Mem) :=
if ((a0 >>> (a1 &&& 31)) &&& 1) = 1 then
  some (1, s)
else
  some (0, s)
theorem tX12_has (Θ : Th) (l : Launch)  (a0 : Int32) (a1 : Int32)  (s : Mem) : Cs Θ l mX12_has 1 gI [vI a0, vI a1] s (fX12_has a0 a1 s) := by
  refine ct_of (by decide) [some (vI a0), some (vI a1)] rfl (Nat.le_of_ble_eq_true rfl) ?_
  unfold fX12_has
  refine j_iload_n 1 dX12_has_0 rfl rfl ?_
  refine j_iload_n 2 dX12_has_1 rfl rfl ?_
  refine j_ishr 3 dX12_has_2 rfl ?_
  refine j_iconst (v := 1) 4 dX12_has_3 rfl (by decide) ?_
  refine j_iand 5 dX12_has_4 rfl ?_
  refine j_iconst (v := 1) 6 dX12_has_5 rfl (by decide) ?_
  refine j_icmp_ne 13 9 dX12_has_6 (by decide) rfl (fun c1 => ?_) (fun c1 => ?_)
  · refine j_iconst (v := 1) 10 dX12_has_9 rfl (by decide) ?_
    refine j_goto 14 dX12_has_10 (by decide) ?_
    exact s_zret dX12_has_14 rfl (by decide)
  · refine j_iconst (v := 0) 14 dX12_has_13 rfl (by decide) ?_
    exact s_zret dX12_has_14 rfl (by decide)
-- X12_weightOf
def fX12_weightOf_L4  (κ : Int32 → Mem → Option (Int32 × Mem)) (y1 : Int32) : Nat → Int32 → Int32 → Mem → Option (Int32 × Mem)
  | 0, _, _, _ => none
  | k + 1, x2, x3, s =>
    if x3 < (s.1 68 12) then
      bnd (fX12_has y1 x3 s) (fun r2 s3 =>
      if r2 = 0 then
        nm (x2 + 0) (fun v5 =>
        fX12_weightOf_L4 κ y1 k v5 (x3 + 1) s3)
      else
        bnd (fX12_weighs x3 s3) (fun r6 s7 =>
        nm (x2 + r6) (fun v8 =>
        fX12_weightOf_L4 κ y1 k v8 (x3 + 1) s7)))
    else
      κ x2 s
def fX12_weightOf  (a1 : Int32) (s : Mem) : Option (Int32 × Mem) :=
fX12_weightOf_L4 (fun v9 s10 =>
  some (v9, s10)) a1 FU 0 0 s
theorem tX12_weightOf_L4 (Θ : Th) (l : Launch)  (κ : Int32 → Mem → Option (Int32 × Mem)) (y1 : Int32)  (hκ : ∀ (x2 : Int32) (s : Mem), Js Θ l mX12_weightOf 2 gI 38 [none, none, some (vI x2), none] [] s (κ x2 s)) : ∀ (k : Nat) (x2 : Int32) (x3 : Int32) (s : Mem), Js Θ l mX12_weightOf 2 gI 4 [some (vR 68), some (vI y1), some (vI x2), some (vI x3)] [] s (fX12_weightOf_L4 κ y1 k x2 x3 s) := by
  intro k
  induction k with
  | zero => intro x2 x3 s; exact j_none
  | succ k ih =>
    intro x2 x3 s
    rw [fX12_weightOf_L4]
    refine j_iload_n 5 dX12_weightOf_4 rfl rfl ?_
    refine j_aload_n 6 dX12_weightOf_5 rfl rfl ?_
    refine s_getI 9 fa68_12 w_1218 dX12_weightOf_6 rfl ?_
    refine j_icmp_ge 38 12 dX12_weightOf_9 (by decide) rfl (fun c1 => ?_) (fun c1 => ?_)
    · refine j_iload_n 13 dX12_weightOf_12 rfl rfl ?_
      refine j_iload_n 14 dX12_weightOf_13 rfl rfl ?_
      refine j_iload_n 15 dX12_weightOf_14 rfl rfl ?_
      refine s_callSi (M2 := mX12_has) [vI y1, vI x3] 18 mkX12_has (Or.inl w_1740) dX12_weightOf_15 rfl rfl (tX12_has Θ l _ _  _) (by first | exact Nat.le_of_ble_eq_true rfl | omega) (Nat.le_of_ble_eq_true rfl) (Nat.le_of_ble_eq_true rfl) (fun r2 s3 => ?_)
      refine j_if_eq 29 21 dX12_weightOf_18 (by decide) rfl (fun c4 => ?_) (fun c4 => ?_)
      · refine j_iconst (v := 0) 30 dX12_weightOf_29 rfl (by decide) ?_
        refine j_iadd 31 dX12_weightOf_30 rfl ?_
        refine s_nmI (fun v5 => ?_)
        refine j_istore_n (i := 2) (ls' := [some (vR 68), some (vI y1), some (vI v5), some (vI x3)]) 32 dX12_weightOf_31 rfl rfl (by decide) rfl rfl ?_
        refine j_iinc (v := x3 + 1) (ls' := [some (vR 68), some (vI y1), some (vI v5), some (vI (x3 + 1))]) 35 dX12_weightOf_32 rfl rfl rfl (by decide) rfl rfl ?_
        refine j_goto 4 dX12_weightOf_35 (by decide) ?_
        refine j_sub (ls' := [some (vR 68), some (vI y1), some (vI v5), some (vI (x3 + 1))]) (And.intro rfl (And.intro rfl (And.intro rfl (And.intro rfl trivial)))) ?_
        exact ih v5 (x3 + 1) s3
      · refine j_aload_n 22 dX12_weightOf_21 rfl rfl ?_
        refine j_iload_n 23 dX12_weightOf_22 rfl rfl ?_
        refine s_callVi (M2 := mX12_weighs) [vI x3] 26 oa68 cc12 mkX12_weighs w_1507 dX12_weightOf_23 rfl rfl (tX12_weighs Θ l _  _) (by first | exact Nat.le_of_ble_eq_true rfl | omega) (Nat.le_of_ble_eq_true rfl) (Nat.le_of_ble_eq_true rfl) (fun r6 s7 => ?_)
        refine j_goto 30 dX12_weightOf_26 (by decide) ?_
        refine j_iadd 31 dX12_weightOf_30 rfl ?_
        refine s_nmI (fun v8 => ?_)
        refine j_istore_n (i := 2) (ls' := [some (vR 68), some (vI y1), some (vI v8), some (vI x3)]) 32 dX12_weightOf_31 rfl rfl (by decide) rfl rfl ?_
        refine j_iinc (v := x3 + 1) (ls' := [some (vR 68), some (vI y1), some (vI v8), some (vI (x3 + 1))]) 35 dX12_weightOf_32 rfl rfl rfl (by decide) rfl rfl ?_
        refine j_goto 4 dX12_weightOf_35 (by decide) ?_
        refine j_sub (ls' := [some (vR 68), some (vI y1), some (vI v8), some (vI (x3 + 1))]) (And.intro rfl (And.intro rfl (And.intro rfl (And.intro rfl trivial)))) ?_
        exact ih v8 (x3 + 1) s7
    · refine j_sub (ls' := [none, none, some (vI x2), none]) (And.intro rfl trivial) ?_
      exact hκ x2 s
theorem tX12_weightOf (Θ : Th) (l : Launch)  (a1 : Int32)  (s : Mem) : Cs Θ l mX12_weightOf 2 gI [vR 68, vI a1] s (fX12_weightOf a1 s) := by
  refine ct_of (by decide) [some (vR 68), some (vI a1), none, none] rfl (Nat.le_of_ble_eq_true rfl) ?_
  unfold fX12_weightOf
  refine j_iconst (v := 0) 1 dX12_weightOf_0 rfl (by decide) ?_
  refine j_istore_n (i := 2) (ls' := [some (vR 68), some (vI a1), some (vI 0), none]) 2 dX12_weightOf_1 rfl rfl (by decide) rfl rfl ?_
  refine j_iconst (v := 0) 3 dX12_weightOf_2 rfl (by decide) ?_
  refine j_istore_n (i := 3) (ls' := [some (vR 68), some (vI a1), some (vI 0), some (vI 0)]) 4 dX12_weightOf_3 rfl rfl (by decide) rfl rfl ?_
  refine j_sub (ls' := [some (vR 68), some (vI a1), some (vI 0), some (vI 0)]) (And.intro rfl (And.intro rfl (And.intro rfl (And.intro rfl trivial)))) ?_
  refine tX12_weightOf_L4 Θ l _ _  ?_ _ _ _ _
  intro v9 s10
  refine j_iload_n 39 dX12_weightOf_38 rfl rfl ?_
  exact s_iret dX12_weightOf_39 rfl
-- X12_divorce
def fX12_divorce_L12  (κ : Int32 → Int32 → Mem → Option (Int32 × Mem)) (y1 : Int32) : Nat → Int32 → Int32 → Int32 → Mem → Option (Int32 × Mem)
  | 0, _, _, _, _ => none
  | k + 1, x2, x3, x4, s =>
    if x4 < ((1 : Int32) <<< ((s.1 68 12) &&& 31)) then
      bnd (fX12_weightOf x4 s) (fun r4 s5 =>
      nm ((2 * r4) - y1) (fun v6 =>
      if v6 < 0 then
        fX12_divorce_L12 κ y1 k x2 x3 (x4 + 1) s5
      else
        if x3 < 0 then
          fX12_divorce_L12 κ y1 k x4 v6 (x4 + 1) s5
        else
          if v6 < x3 then
            fX12_divorce_L12 κ y1 k x4 v6 (x4 + 1) s5
          else
            fX12_divorce_L12 κ y1 k x2 x3 (x4 + 1) s5))
    else
      κ x2 x3 s
def fX12_divorce   (s : Mem) : Option (Int32 × Mem) :=
bnd (fX12_weightAll s) (fun r1 s2 =>
fX12_divorce_L12 (fun v10 v11 s12 =>
  bnd (fX12_tells v10 v11 s12) (fun r13 s14 =>
  some (r13, s14))) r1 FU 0 (-1) 0 s2)
theorem tX12_divorce_L12 (Θ : Th) (l : Launch)  (κ : Int32 → Int32 → Mem → Option (Int32 × Mem)) (y1 : Int32)  (hκ : ∀ (x2 : Int32) (x3 : Int32) (s : Mem), Js Θ l mX12_divorce 3 gI 87 [some (vR 68), none, some (vI x2), some (vI x3), none, none, none] [] s (κ x2 x3 s)) : ∀ (k : Nat) (x2 : Int32) (x3 : Int32) (x4 : Int32) (s : Mem), Js Θ l mX12_divorce 3 gI 12 [some (vR 68), some (vI y1), some (vI x2), some (vI x3), some (vI x4), none, none] [] s (fX12_divorce_L12 κ y1 k x2 x3 x4 s) := by
  intro k
  induction k with
  | zero => intro x2 x3 x4 s; exact j_none
  | succ k ih =>
    intro x2 x3 x4 s
    rw [fX12_divorce_L12]
    refine j_iload 14 dX12_divorce_12 rfl rfl ?_
    refine j_iconst (v := 1) 15 dX12_divorce_14 rfl (by decide) ?_
    refine j_aload_n 16 dX12_divorce_15 rfl rfl ?_
    refine s_getI 19 fa68_12 w_1218 dX12_divorce_16 rfl ?_
    refine j_ishl 20 dX12_divorce_19 rfl ?_
    refine j_icmp_ge 87 23 dX12_divorce_20 (by decide) rfl (fun c3 => ?_) (fun c3 => ?_)
    · refine j_iconst (v := 2) 24 dX12_divorce_23 rfl (by decide) ?_
      refine j_aload_n 25 dX12_divorce_24 rfl rfl ?_
      refine j_iload 27 dX12_divorce_25 rfl rfl ?_
      refine s_callVi (M2 := mX12_weightOf) [vI x4] 30 oa68 cc12 mkX12_weightOf w_1736 dX12_divorce_27 rfl rfl (tX12_weightOf Θ l _  _) (by first | exact Nat.le_of_ble_eq_true rfl | omega) (Nat.le_of_ble_eq_true rfl) (Nat.le_of_ble_eq_true rfl) (fun r4 s5 => ?_)
      refine j_imul 31 dX12_divorce_30 rfl ?_
      refine j_iload_n 32 dX12_divorce_31 rfl rfl ?_
      refine j_isub 33 dX12_divorce_32 rfl ?_
      refine s_nmI (fun v6 => ?_)
      refine j_istore (i := 5) (ls' := [some (vR 68), some (vI y1), some (vI x2), some (vI x3), some (vI x4), some (vI v6), none]) 35 dX12_divorce_33 rfl (by decide) rfl rfl ?_
      refine j_iload 37 dX12_divorce_35 rfl rfl ?_
      refine j_if_lt 54 40 dX12_divorce_37 (by decide) rfl (fun c7 => ?_) (fun c7 => ?_)
      · refine j_iconst (v := 0) 55 dX12_divorce_54 rfl (by decide) ?_
        refine j_istore (i := 6) (ls' := [some (vR 68), some (vI y1), some (vI x2), some (vI x3), some (vI x4), some (vI v6), some (vI 0)]) 57 dX12_divorce_55 rfl (by decide) rfl rfl ?_
        refine j_iload 59 dX12_divorce_57 rfl rfl ?_
        refine j_if_eq_T 67 62 dX12_divorce_59 (by decide) rfl (by decide) ?_
        refine j_iload_n 68 dX12_divorce_67 rfl rfl ?_
        refine j_istore_n (i := 2) (ls' := [some (vR 68), some (vI y1), some (vI x2), some (vI x3), some (vI x4), some (vI v6), some (vI 0)]) 69 dX12_divorce_68 rfl rfl (by decide) rfl rfl ?_
        refine j_iload 71 dX12_divorce_69 rfl rfl ?_
        refine j_if_eq_T 79 74 dX12_divorce_71 (by decide) rfl (by decide) ?_
        refine j_iload_n 80 dX12_divorce_79 rfl rfl ?_
        refine j_istore_n (i := 3) (ls' := [some (vR 68), some (vI y1), some (vI x2), some (vI x3), some (vI x4), some (vI v6), some (vI 0)]) 81 dX12_divorce_80 rfl rfl (by decide) rfl rfl ?_
        refine j_iinc (v := x4 + 1) (ls' := [some (vR 68), some (vI y1), some (vI x2), some (vI x3), some (vI (x4 + 1)), some (vI v6), some (vI 0)]) 84 dX12_divorce_81 rfl rfl rfl (by decide) rfl rfl ?_
        refine j_goto 12 dX12_divorce_84 (by decide) ?_
        refine j_sub (ls' := [some (vR 68), some (vI y1), some (vI x2), some (vI x3), some (vI (x4 + 1)), none, none]) (And.intro rfl (And.intro rfl (And.intro rfl (And.intro rfl (And.intro rfl trivial))))) ?_
        exact ih x2 x3 (x4 + 1) s5
      · refine j_iload_n 41 dX12_divorce_40 rfl rfl ?_
        refine j_if_lt 50 44 dX12_divorce_41 (by decide) rfl (fun c8 => ?_) (fun c8 => ?_)
        · refine j_iconst (v := 1) 51 dX12_divorce_50 rfl (by decide) ?_
          refine j_goto 55 dX12_divorce_51 (by decide) ?_
          refine j_istore (i := 6) (ls' := [some (vR 68), some (vI y1), some (vI x2), some (vI x3), some (vI x4), some (vI v6), some (vI 1)]) 57 dX12_divorce_55 rfl (by decide) rfl rfl ?_
          refine j_iload 59 dX12_divorce_57 rfl rfl ?_
          refine j_if_eq_F 67 62 dX12_divorce_59 (by decide) rfl (by decide) ?_
          refine j_iload 64 dX12_divorce_62 rfl rfl ?_
          refine j_goto 68 dX12_divorce_64 (by decide) ?_
          refine j_istore_n (i := 2) (ls' := [some (vR 68), some (vI y1), some (vI x4), some (vI x3), some (vI x4), some (vI v6), some (vI 1)]) 69 dX12_divorce_68 rfl rfl (by decide) rfl rfl ?_
          refine j_iload 71 dX12_divorce_69 rfl rfl ?_
          refine j_if_eq_F 79 74 dX12_divorce_71 (by decide) rfl (by decide) ?_
          refine j_iload 76 dX12_divorce_74 rfl rfl ?_
          refine j_goto 80 dX12_divorce_76 (by decide) ?_
          refine j_istore_n (i := 3) (ls' := [some (vR 68), some (vI y1), some (vI x4), some (vI v6), some (vI x4), some (vI v6), some (vI 1)]) 81 dX12_divorce_80 rfl rfl (by decide) rfl rfl ?_
          refine j_iinc (v := x4 + 1) (ls' := [some (vR 68), some (vI y1), some (vI x4), some (vI v6), some (vI (x4 + 1)), some (vI v6), some (vI 1)]) 84 dX12_divorce_81 rfl rfl rfl (by decide) rfl rfl ?_
          refine j_goto 12 dX12_divorce_84 (by decide) ?_
          refine j_sub (ls' := [some (vR 68), some (vI y1), some (vI x4), some (vI v6), some (vI (x4 + 1)), none, none]) (And.intro rfl (And.intro rfl (And.intro rfl (And.intro rfl (And.intro rfl trivial))))) ?_
          exact ih x4 v6 (x4 + 1) s5
        · refine j_iload 46 dX12_divorce_44 rfl rfl ?_
          refine j_iload_n 47 dX12_divorce_46 rfl rfl ?_
          refine j_icmp_ge 54 50 dX12_divorce_47 (by decide) rfl (fun c9 => ?_) (fun c9 => ?_)
          · refine j_iconst (v := 1) 51 dX12_divorce_50 rfl (by decide) ?_
            refine j_goto 55 dX12_divorce_51 (by decide) ?_
            refine j_istore (i := 6) (ls' := [some (vR 68), some (vI y1), some (vI x2), some (vI x3), some (vI x4), some (vI v6), some (vI 1)]) 57 dX12_divorce_55 rfl (by decide) rfl rfl ?_
            refine j_iload 59 dX12_divorce_57 rfl rfl ?_
            refine j_if_eq_F 67 62 dX12_divorce_59 (by decide) rfl (by decide) ?_
            refine j_iload 64 dX12_divorce_62 rfl rfl ?_
            refine j_goto 68 dX12_divorce_64 (by decide) ?_
            refine j_istore_n (i := 2) (ls' := [some (vR 68), some (vI y1), some (vI x4), some (vI x3), some (vI x4), some (vI v6), some (vI 1)]) 69 dX12_divorce_68 rfl rfl (by decide) rfl rfl ?_
            refine j_iload 71 dX12_divorce_69 rfl rfl ?_
            refine j_if_eq_F 79 74 dX12_divorce_71 (by decide) rfl (by decide) ?_
            refine j_iload 76 dX12_divorce_74 rfl rfl ?_
            refine j_goto 80 dX12_divorce_76 (by decide) ?_
            refine j_istore_n (i := 3) (ls' := [some (vR 68), some (vI y1), some (vI x4), some (vI v6), some (vI x4), some (vI v6), some (vI 1)]) 81 dX12_divorce_80 rfl rfl (by decide) rfl rfl ?_
            refine j_iinc (v := x4 + 1) (ls' := [some (vR 68), some (vI y1), some (vI x4), some (vI v6), some (vI (x4 + 1)), some (vI v6), some (vI 1)]) 84 dX12_divorce_81 rfl rfl rfl (by decide) rfl rfl ?_
            refine j_goto 12 dX12_divorce_84 (by decide) ?_
            refine j_sub (ls' := [some (vR 68), some (vI y1), some (vI x4), some (vI v6), some (vI (x4 + 1)), none, none]) (And.intro rfl (And.intro rfl (And.intro rfl (And.intro rfl (And.intro rfl trivial))))) ?_
            exact ih x4 v6 (x4 + 1) s5
          · refine j_iconst (v := 0) 55 dX12_divorce_54 rfl (by decide) ?_
            refine j_istore (i := 6) (ls' := [some (vR 68), some (vI y1), some (vI x2), some (vI x3), some (vI x4), some (vI v6), some (vI 0)]) 57 dX12_divorce_55 rfl (by decide) rfl rfl ?_
            refine j_iload 59 dX12_divorce_57 rfl rfl ?_
            refine j_if_eq_T 67 62 dX12_divorce_59 (by decide) rfl (by decide) ?_
            refine j_iload_n 68 dX12_divorce_67 rfl rfl ?_
            refine j_istore_n (i := 2) (ls' := [some (vR 68), some (vI y1), some (vI x2), some (vI x3), some (vI x4), some (vI v6), some (vI 0)]) 69 dX12_divorce_68 rfl rfl (by decide) rfl rfl ?_
            refine j_iload 71 dX12_divorce_69 rfl rfl ?_
            refine j_if_eq_T 79 74 dX12_divorce_71 (by decide) rfl (by decide) ?_
            refine j_iload_n 80 dX12_divorce_79 rfl rfl ?_
            refine j_istore_n (i := 3) (ls' := [some (vR 68), some (vI y1), some (vI x2), some (vI x3), some (vI x4), some (vI v6), some (vI 0)]) 81 dX12_divorce_80 rfl rfl (by decide) rfl rfl ?_
            refine j_iinc (v := x4 + 1) (ls' := [some (vR 68), some (vI y1), some (vI x2), some (vI x3), some (vI (x4 + 1)), some (vI v6), some (vI 0)]) 84 dX12_divorce_81 rfl rfl rfl (by decide) rfl rfl ?_
            refine j_goto 12 dX12_divorce_84 (by decide) ?_
            refine j_sub (ls' := [some (vR 68), some (vI y1), some (vI x2), some (vI x3), some (vI (x4 + 1)), none, none]) (And.intro rfl (And.intro rfl (And.intro rfl (And.intro rfl (And.intro rfl trivial))))) ?_
            exact ih x2 x3 (x4 + 1) s5
    · refine j_sub (ls' := [some (vR 68), none, some (vI x2), some (vI x3), none, none, none]) (And.intro rfl (And.intro rfl (And.intro rfl trivial))) ?_
      exact hκ x2 x3 s
theorem tX12_divorce (Θ : Th) (l : Launch)    (s : Mem) : Cs Θ l mX12_divorce 3 gI [vR 68] s (fX12_divorce  s) := by
  refine ct_of (by decide) [some (vR 68), none, none, none, none, none, none] rfl (Nat.le_of_ble_eq_true rfl) ?_
  unfold fX12_divorce
  refine j_aload_n 1 dX12_divorce_0 rfl rfl ?_
  refine s_callVi (M2 := mX12_weightAll) [] 4 oa68 cc12 mkX12_weightAll w_1732 dX12_divorce_1 rfl rfl (tX12_weightAll Θ l   _) (by first | exact Nat.le_of_ble_eq_true rfl | omega) (Nat.le_of_ble_eq_true rfl) (Nat.le_of_ble_eq_true rfl) (fun r1 s2 => ?_)
  refine j_istore_n (i := 1) (ls' := [some (vR 68), some (vI r1), none, none, none, none, none]) 5 dX12_divorce_4 rfl rfl (by decide) rfl rfl ?_
  refine j_iconst (v := 0) 6 dX12_divorce_5 rfl (by decide) ?_
  refine j_istore_n (i := 2) (ls' := [some (vR 68), some (vI r1), some (vI 0), none, none, none, none]) 7 dX12_divorce_6 rfl rfl (by decide) rfl rfl ?_
  refine j_iconst (v := (-1)) 8 dX12_divorce_7 rfl (by decide) ?_
  refine j_istore_n (i := 3) (ls' := [some (vR 68), some (vI r1), some (vI 0), some (vI (-1)), none, none, none]) 9 dX12_divorce_8 rfl rfl (by decide) rfl rfl ?_
  refine j_iconst (v := 0) 10 dX12_divorce_9 rfl (by decide) ?_
  refine j_istore (i := 4) (ls' := [some (vR 68), some (vI r1), some (vI 0), some (vI (-1)), some (vI 0), none, none]) 12 dX12_divorce_10 rfl (by decide) rfl rfl ?_
  refine j_sub (ls' := [some (vR 68), some (vI r1), some (vI 0), some (vI (-1)), some (vI 0), none, none]) (And.intro rfl (And.intro rfl (And.intro rfl (And.intro rfl (And.intro rfl trivial))))) ?_
  refine tX12_divorce_L12 Θ l _ _  ?_ _ _ _ _ _
  intro v10 v11 s12
  refine j_aload_n 88 dX12_divorce_87 rfl rfl ?_
  refine j_iload_n 89 dX12_divorce_88 rfl rfl ?_
  refine j_iload_n 90 dX12_divorce_89 rfl rfl ?_
  refine s_callVi (M2 := mX12_tells) [vI v10, vI v11] 93 oa68 cc12 mkX12_tells w_1414 dX12_divorce_90 rfl rfl (tX12_tells Θ l _ _  _) (by first | exact Nat.le_of_ble_eq_true rfl | omega) (Nat.le_of_ble_eq_true rfl) (Nat.le_of_ble_eq_true rfl) (fun r13 s14 => ?_)
  exact s_iret dX12_divorce_93 rfl
-- X12_kin
def fX12_kin_L22  (κ : Int32 → Mem → Option (Int32 × Mem)) (y1 : Int32) (y2 : Int32) : Nat → Int32 → Int32 → Mem → Option (Int32 × Mem)
  | 0, _, _, _ => none
  | k + 1, x3, x4, s =>
    if x4 < (s.1 68 12) then
      if inb x4 7 = true then
      if (s.1 78 (ix x4)) = 0 then
        nm (x3 ||| ((1 : Int32) <<< (x4 &&& 31))) (fun v9 =>
        fX12_kin_L22 κ y1 y2 k v9 (x4 + 1) s)
      else
        nm (x3 ||| 0) (fun v10 =>
        fX12_kin_L22 κ y1 y2 k v10 (x4 + 1) s)
      else none
    else
      κ x3 s
def fX12_kin_L65  (κ : Int32 → Mem → Option (Int32 × Mem)) (y1 : Int32) (y2 : Int32) (y3 : Int32) : Nat → Int32 → Int32 → Mem → Option (Int32 × Mem)
  | 0, _, _, _ => none
  | k + 1, x4, x5, s =>
    if x5 < ((1 : Int32) <<< ((s.1 68 12) &&& 31)) then
      bnd (fX12_weightOf (y3 ^^^ x5) s) (fun r14 s15 =>
      bnd (fX12_sizeOf ((2 * r14) - y2) s15) (fun r16 s17 =>
      if y1 < r16 then
        fX12_kin_L65 κ y1 y2 y3 k x4 (x5 + 1) s17
      else
        if x4 = (-9) then
          fX12_kin_L65 κ y1 y2 y3 k x5 (x5 + 1) s17
        else
          bnd (fX12_bits x5 s17) (fun r20 s21 =>
          bnd (fX12_bits x4 s21) (fun r22 s23 =>
          if r20 < r22 then
            fX12_kin_L65 κ y1 y2 y3 k x5 (x5 + 1) s23
          else
            fX12_kin_L65 κ y1 y2 y3 k x4 (x5 + 1) s23))))
    else
      κ x4 s
def fX12_kin  (a1 : Int32) (s : Mem) : Option (Int32 × Mem) :=
bnd (fX12_in a1 0 99 s) (fun r1 s2 =>
if r1 = 0 then
  some ((-1), s2)
else
  bnd (fX12_weightAll s2) (fun r4 s5 =>
  fX12_kin_L22 (fun v11 s12 =>
    fX12_kin_L65 (fun v25 s26 =>
      if v25 = (-9) then
        some ((-9), s26)
      else
        bnd (fX12_bits v25 s26) (fun r28 s29 =>
        bnd (fX12_tells v25 r28 s29) (fun r30 s31 =>
        some (r30, s31)))) a1 r4 v11 FU (-9) 0 s12) a1 r4 FU 0 0 s5))
theorem tX12_kin_L22 (Θ : Th) (l : Launch)  (κ : Int32 → Mem → Option (Int32 × Mem)) (y1 : Int32) (y2 : Int32)  (hκ : ∀ (x3 : Int32) (s : Mem), Js Θ l mX12_kin 3 gI 58 [some (vR 68), some (vI y1), some (vI y2), some (vI x3), none, none, none] [] s (κ x3 s)) : ∀ (k : Nat) (x3 : Int32) (x4 : Int32) (s : Mem), Js Θ l mX12_kin 3 gI 22 [some (vR 68), some (vI y1), some (vI y2), some (vI x3), some (vI x4), none, none] [] s (fX12_kin_L22 κ y1 y2 k x3 x4 s) := by
  intro k
  induction k with
  | zero => intro x3 x4 s; exact j_none
  | succ k ih =>
    intro x3 x4 s
    rw [fX12_kin_L22]
    refine j_iload 24 dX12_kin_22 rfl rfl ?_
    refine j_aload_n 25 dX12_kin_24 rfl rfl ?_
    refine s_getI 28 fa68_12 w_1218 dX12_kin_25 rfl ?_
    refine j_icmp_ge 58 31 dX12_kin_28 (by decide) rfl (fun c6 => ?_) (fun c6 => ?_)
    · refine j_iload_n 32 dX12_kin_31 rfl rfl ?_
      refine j_aload_n 33 dX12_kin_32 rfl rfl ?_
      refine s_getR (x := 78) 36 fa68_15 w_1221 dX12_kin_33 rfl (by decide +kernel) ?_
      refine j_iload 38 dX12_kin_36 rfl rfl ?_
      refine s_iaload 39 aa78 dX12_kin_38 rfl (fun b7 => ?_)
      refine j_if_ne 49 42 dX12_kin_39 (by decide) rfl (fun c8 => ?_) (fun c8 => ?_)
      · refine j_iconst (v := 1) 43 dX12_kin_42 rfl (by decide) ?_
        refine j_iload 45 dX12_kin_43 rfl rfl ?_
        refine j_ishl 46 dX12_kin_45 rfl ?_
        refine j_goto 50 dX12_kin_46 (by decide) ?_
        refine j_ior 51 dX12_kin_50 rfl ?_
        refine s_nmI (fun v9 => ?_)
        refine j_istore_n (i := 3) (ls' := [some (vR 68), some (vI y1), some (vI y2), some (vI v9), some (vI x4), none, none]) 52 dX12_kin_51 rfl rfl (by decide) rfl rfl ?_
        refine j_iinc (v := x4 + 1) (ls' := [some (vR 68), some (vI y1), some (vI y2), some (vI v9), some (vI (x4 + 1)), none, none]) 55 dX12_kin_52 rfl rfl rfl (by decide) rfl rfl ?_
        refine j_goto 22 dX12_kin_55 (by decide) ?_
        refine j_sub (ls' := [some (vR 68), some (vI y1), some (vI y2), some (vI v9), some (vI (x4 + 1)), none, none]) (And.intro rfl (And.intro rfl (And.intro rfl (And.intro rfl (And.intro rfl trivial))))) ?_
        exact ih v9 (x4 + 1) s
      · refine j_iconst (v := 0) 50 dX12_kin_49 rfl (by decide) ?_
        refine j_ior 51 dX12_kin_50 rfl ?_
        refine s_nmI (fun v10 => ?_)
        refine j_istore_n (i := 3) (ls' := [some (vR 68), some (vI y1), some (vI y2), some (vI v10), some (vI x4), none, none]) 52 dX12_kin_51 rfl rfl (by decide) rfl rfl ?_
        refine j_iinc (v := x4 + 1) (ls' := [some (vR 68), some (vI y1), some (vI y2), some (vI v10), some (vI (x4 + 1)), none, none]) 55 dX12_kin_52 rfl rfl rfl (by decide) rfl rfl ?_
        refine j_goto 22 dX12_kin_55 (by decide) ?_
        refine j_sub (ls' := [some (vR 68), some (vI y1), some (vI y2), some (vI v10), some (vI (x4 + 1)), none, none]) (And.intro rfl (And.intro rfl (And.intro rfl (And.intro rfl (And.intro rfl trivial))))) ?_
        exact ih v10 (x4 + 1) s
    · refine j_sub (ls' := [some (vR 68), some (vI y1), some (vI y2), some (vI x3), none, none, none]) (And.intro rfl (And.intro rfl (And.intro rfl (And.intro rfl trivial)))) ?_
      exact hκ x3 s
theorem tX12_kin_L65 (Θ : Th) (l : Launch)  (κ : Int32 → Mem → Option (Int32 × Mem)) (y1 : Int32) (y2 : Int32) (y3 : Int32)  (hκ : ∀ (x4 : Int32) (s : Mem), Js Θ l mX12_kin 3 gI 134 [some (vR 68), none, none, none, some (vI x4), none, none] [] s (κ x4 s)) : ∀ (k : Nat) (x4 : Int32) (x5 : Int32) (s : Mem), Js Θ l mX12_kin 3 gI 65 [some (vR 68), some (vI y1), some (vI y2), some (vI y3), some (vI x4), some (vI x5), none] [] s (fX12_kin_L65 κ y1 y2 y3 k x4 x5 s) := by
  intro k
  induction k with
  | zero => intro x4 x5 s; exact j_none
  | succ k ih =>
    intro x4 x5 s
    rw [fX12_kin_L65]
    refine j_iload 67 dX12_kin_65 rfl rfl ?_
    refine j_iconst (v := 1) 68 dX12_kin_67 rfl (by decide) ?_
    refine j_aload_n 69 dX12_kin_68 rfl rfl ?_
    refine s_getI 72 fa68_12 w_1218 dX12_kin_69 rfl ?_
    refine j_ishl 73 dX12_kin_72 rfl ?_
    refine j_icmp_ge 134 76 dX12_kin_73 (by decide) rfl (fun c13 => ?_) (fun c13 => ?_)
    · refine j_iconst (v := 2) 77 dX12_kin_76 rfl (by decide) ?_
      refine j_aload_n 78 dX12_kin_77 rfl rfl ?_
      refine j_iload_n 79 dX12_kin_78 rfl rfl ?_
      refine j_iload 81 dX12_kin_79 rfl rfl ?_
      refine j_ixor 82 dX12_kin_81 rfl ?_
      refine s_callVi (M2 := mX12_weightOf) [vI (y3 ^^^ x5)] 85 oa68 cc12 mkX12_weightOf w_1736 dX12_kin_82 rfl rfl (tX12_weightOf Θ l _  _) (by first | exact Nat.le_of_ble_eq_true rfl | omega) (Nat.le_of_ble_eq_true rfl) (Nat.le_of_ble_eq_true rfl) (fun r14 s15 => ?_)
      refine j_imul 86 dX12_kin_85 rfl ?_
      refine j_iload_n 87 dX12_kin_86 rfl rfl ?_
      refine j_isub 88 dX12_kin_87 rfl ?_
      refine s_callSi (M2 := mX12_sizeOf) [vI ((2 * r14) - y2)] 91 mkX12_sizeOf (Or.inl w_1539) dX12_kin_88 rfl rfl (tX12_sizeOf Θ l _  _) (by first | exact Nat.le_of_ble_eq_true rfl | omega) (Nat.le_of_ble_eq_true rfl) (Nat.le_of_ble_eq_true rfl) (fun r16 s17 => ?_)
      refine j_istore (i := 6) (ls' := [some (vR 68), some (vI y1), some (vI y2), some (vI y3), some (vI x4), some (vI x5), some (vI r16)]) 93 dX12_kin_91 rfl (by decide) rfl rfl ?_
      refine j_iload 95 dX12_kin_93 rfl rfl ?_
      refine j_iload_n 96 dX12_kin_95 rfl rfl ?_
      refine j_icmp_gt 124 99 dX12_kin_96 (by decide) rfl (fun c18 => ?_) (fun c18 => ?_)
      · refine j_iload 126 dX12_kin_124 rfl rfl ?_
        refine j_istore (i := 4) (ls' := [some (vR 68), some (vI y1), some (vI y2), some (vI y3), some (vI x4), some (vI x5), some (vI r16)]) 128 dX12_kin_126 rfl (by decide) rfl rfl ?_
        refine j_iinc (v := x5 + 1) (ls' := [some (vR 68), some (vI y1), some (vI y2), some (vI y3), some (vI x4), some (vI (x5 + 1)), some (vI r16)]) 131 dX12_kin_128 rfl rfl rfl (by decide) rfl rfl ?_
        refine j_goto 65 dX12_kin_131 (by decide) ?_
        refine j_sub (ls' := [some (vR 68), some (vI y1), some (vI y2), some (vI y3), some (vI x4), some (vI (x5 + 1)), none]) (And.intro rfl (And.intro rfl (And.intro rfl (And.intro rfl (And.intro rfl (And.intro rfl trivial)))))) ?_
        exact ih x4 (x5 + 1) s17
      · refine j_iload 101 dX12_kin_99 rfl rfl ?_
        refine j_bipush (v := (-9)) 103 dX12_kin_101 rfl (by decide) ?_
        refine j_icmp_eq 119 106 dX12_kin_103 (by decide) rfl (fun c19 => ?_) (fun c19 => ?_)
        · refine j_iload 121 dX12_kin_119 rfl rfl ?_
          refine j_goto 126 dX12_kin_121 (by decide) ?_
          refine j_istore (i := 4) (ls' := [some (vR 68), some (vI y1), some (vI y2), some (vI y3), some (vI x5), some (vI x5), some (vI r16)]) 128 dX12_kin_126 rfl (by decide) rfl rfl ?_
          refine j_iinc (v := x5 + 1) (ls' := [some (vR 68), some (vI y1), some (vI y2), some (vI y3), some (vI x5), some (vI (x5 + 1)), some (vI r16)]) 131 dX12_kin_128 rfl rfl rfl (by decide) rfl rfl ?_
          refine j_goto 65 dX12_kin_131 (by decide) ?_
          refine j_sub (ls' := [some (vR 68), some (vI y1), some (vI y2), some (vI y3), some (vI x5), some (vI (x5 + 1)), none]) (And.intro rfl (And.intro rfl (And.intro rfl (And.intro rfl (And.intro rfl (And.intro rfl trivial)))))) ?_
          exact ih x5 (x5 + 1) s17
        · refine j_iload 108 dX12_kin_106 rfl rfl ?_
          refine s_callSi (M2 := mX12_bits) [vI x5] 111 mkX12_bits (Or.inl w_1545) dX12_kin_108 rfl rfl (tX12_bits Θ l _  _) (by first | exact Nat.le_of_ble_eq_true rfl | omega) (Nat.le_of_ble_eq_true rfl) (Nat.le_of_ble_eq_true rfl) (fun r20 s21 => ?_)
          refine j_iload 113 dX12_kin_111 rfl rfl ?_
          refine s_callSi (M2 := mX12_bits) [vI x4] 116 mkX12_bits (Or.inl w_1545) dX12_kin_113 rfl rfl (tX12_bits Θ l _  _) (by first | exact Nat.le_of_ble_eq_true rfl | omega) (Nat.le_of_ble_eq_true rfl) (Nat.le_of_ble_eq_true rfl) (fun r22 s23 => ?_)
          refine j_icmp_ge 124 119 dX12_kin_116 (by decide) rfl (fun c24 => ?_) (fun c24 => ?_)
          · refine j_iload 121 dX12_kin_119 rfl rfl ?_
            refine j_goto 126 dX12_kin_121 (by decide) ?_
            refine j_istore (i := 4) (ls' := [some (vR 68), some (vI y1), some (vI y2), some (vI y3), some (vI x5), some (vI x5), some (vI r16)]) 128 dX12_kin_126 rfl (by decide) rfl rfl ?_
            refine j_iinc (v := x5 + 1) (ls' := [some (vR 68), some (vI y1), some (vI y2), some (vI y3), some (vI x5), some (vI (x5 + 1)), some (vI r16)]) 131 dX12_kin_128 rfl rfl rfl (by decide) rfl rfl ?_
            refine j_goto 65 dX12_kin_131 (by decide) ?_
            refine j_sub (ls' := [some (vR 68), some (vI y1), some (vI y2), some (vI y3), some (vI x5), some (vI (x5 + 1)), none]) (And.intro rfl (And.intro rfl (And.intro rfl (And.intro rfl (And.intro rfl (And.intro rfl trivial)))))) ?_
            exact ih x5 (x5 + 1) s23
          · refine j_iload 126 dX12_kin_124 rfl rfl ?_
            refine j_istore (i := 4) (ls' := [some (vR 68), some (vI y1), some (vI y2), some (vI y3), some (vI x4), some (vI x5), some (vI r16)]) 128 dX12_kin_126 rfl (by decide) rfl rfl ?_
            refine j_iinc (v := x5 + 1) (ls' := [some (vR 68), some (vI y1), some (vI y2), some (vI y3), some (vI x4), some (vI (x5 + 1)), some (vI r16)]) 131 dX12_kin_128 rfl rfl rfl (by decide) rfl rfl ?_
            refine j_goto 65 dX12_kin_131 (by decide) ?_
            refine j_sub (ls' := [some (vR 68), some (vI y1), some (vI y2), some (vI y3), some (vI x4), some (vI (x5 + 1)), none]) (And.intro rfl (And.intro rfl (And.intro rfl (And.intro rfl (And.intro rfl (And.intro rfl trivial)))))) ?_
            exact ih x4 (x5 + 1) s23
    · refine j_sub (ls' := [some (vR 68), none, none, none, some (vI x4), none, none]) (And.intro rfl (And.intro rfl trivial)) ?_
      exact hκ x4 s
theorem tX12_kin (Θ : Th) (l : Launch)  (a1 : Int32)  (s : Mem) : Cs Θ l mX12_kin 3 gI [vR 68, vI a1] s (fX12_kin a1 s) := by
  refine ct_of (by decide) [some (vR 68), some (vI a1), none, none, none, none, none] rfl (Nat.le_of_ble_eq_true rfl) ?_
  unfold fX12_kin
  refine j_iload_n 1 dX12_kin_0 rfl rfl ?_
  refine j_iconst (v := 0) 2 dX12_kin_1 rfl (by decide) ?_
  refine j_bipush (v := 99) 4 dX12_kin_2 rfl (by decide) ?_
  refine s_callSi (M2 := mX12_in) [vI a1, vI 0, vI 99] 7 mkX12_in (Or.inl w_1380) dX12_kin_4 rfl rfl (tX12_in Θ l _ _ _  _) (by first | exact Nat.le_of_ble_eq_true rfl | omega) (Nat.le_of_ble_eq_true rfl) (Nat.le_of_ble_eq_true rfl) (fun r1 s2 => ?_)
  refine j_if_ne 12 10 dX12_kin_7 (by decide) rfl (fun c3 => ?_) (fun c3 => ?_)
  · refine j_iconst (v := (-1)) 11 dX12_kin_10 rfl (by decide) ?_
    exact s_iret dX12_kin_11 rfl
  · refine j_aload_n 13 dX12_kin_12 rfl rfl ?_
    refine s_callVi (M2 := mX12_weightAll) [] 16 oa68 cc12 mkX12_weightAll w_1732 dX12_kin_13 rfl rfl (tX12_weightAll Θ l   _) (by first | exact Nat.le_of_ble_eq_true rfl | omega) (Nat.le_of_ble_eq_true rfl) (Nat.le_of_ble_eq_true rfl) (fun r4 s5 => ?_)
    refine j_istore_n (i := 2) (ls' := [some (vR 68), some (vI a1), some (vI r4), none, none, none, none]) 17 dX12_kin_16 rfl rfl (by decide) rfl rfl ?_
    refine j_iconst (v := 0) 18 dX12_kin_17 rfl (by decide) ?_
    refine j_istore_n (i := 3) (ls' := [some (vR 68), some (vI a1), some (vI r4), some (vI 0), none, none, none]) 19 dX12_kin_18 rfl rfl (by decide) rfl rfl ?_
    refine j_iconst (v := 0) 20 dX12_kin_19 rfl (by decide) ?_
    refine j_istore (i := 4) (ls' := [some (vR 68), some (vI a1), some (vI r4), some (vI 0), some (vI 0), none, none]) 22 dX12_kin_20 rfl (by decide) rfl rfl ?_
    refine j_sub (ls' := [some (vR 68), some (vI a1), some (vI r4), some (vI 0), some (vI 0), none, none]) (And.intro rfl (And.intro rfl (And.intro rfl (And.intro rfl (And.intro rfl trivial))))) ?_
    refine tX12_kin_L22 Θ l _ _ _  ?_ _ _ _ _
    intro v11 s12
    refine j_bipush (v := (-9)) 60 dX12_kin_58 rfl (by decide) ?_
    refine j_istore (i := 4) (ls' := [some (vR 68), some (vI a1), some (vI r4), some (vI v11), some (vI (-9)), none, none]) 62 dX12_kin_60 rfl (by decide) rfl rfl ?_
    refine j_iconst (v := 0) 63 dX12_kin_62 rfl (by decide) ?_
    refine j_istore (i := 5) (ls' := [some (vR 68), some (vI a1), some (vI r4), some (vI v11), some (vI (-9)), some (vI 0), none]) 65 dX12_kin_63 rfl (by decide) rfl rfl ?_
    refine j_sub (ls' := [some (vR 68), some (vI a1), some (vI r4), some (vI v11), some (vI (-9)), some (vI 0), none]) (And.intro rfl (And.intro rfl (And.intro rfl (And.intro rfl (And.intro rfl (And.intro rfl trivial)))))) ?_
    refine tX12_kin_L65 Θ l _ _ _ _  ?_ _ _ _ _
    intro v25 s26
    refine j_iload 136 dX12_kin_134 rfl rfl ?_
    refine j_bipush (v := (-9)) 138 dX12_kin_136 rfl (by decide) ?_
    refine j_icmp_ne 146 141 dX12_kin_138 (by decide) rfl (fun c27 => ?_) (fun c27 => ?_)
    · refine j_bipush (v := (-9)) 143 dX12_kin_141 rfl (by decide) ?_
      refine j_goto 157 dX12_kin_143 (by decide) ?_
      exact s_iret dX12_kin_157 rfl
    · refine j_aload_n 147 dX12_kin_146 rfl rfl ?_
      refine j_iload 149 dX12_kin_147 rfl rfl ?_
      refine j_iload 151 dX12_kin_149 rfl rfl ?_
      refine s_callSi (M2 := mX12_bits) [vI v25] 154 mkX12_bits (Or.inl w_1545) dX12_kin_151 rfl rfl (tX12_bits Θ l _  _) (by first | exact Nat.le_of_ble_eq_true rfl | omega) (Nat.le_of_ble_eq_true rfl) (Nat.le_of_ble_eq_true rfl) (fun r28 s29 => ?_)
      refine s_callVi (M2 := mX12_tells) [vI v25, vI r28] 157 oa68 cc12 mkX12_tells w_1414 dX12_kin_154 rfl rfl (tX12_tells Θ l _ _  _) (by first | exact Nat.le_of_ble_eq_true rfl | omega) (Nat.le_of_ble_eq_true rfl) (Nat.le_of_ble_eq_true rfl) (fun r30 s31 => ?_)
      exact s_iret dX12_kin_157 rfl
-- X12_odds
def fX12_odds_L28  (κ : Int32 → Mem → Option (Int32 × Mem)) (y1 : Int32) (y2 : Int32) : Nat → Int32 → Int32 → Mem → Option (Int32 × Mem)
  | 0, _, _, _ => none
  | k + 1, x3, x4, s =>
    if y2 < x4 then
      κ x3 s
    else
      bnd (fX12_listOf y1 x4 s) (fun r9 s10 =>
      bnd (fX12_isLevel r9 s10) (fun r11 s12 =>
      if r11 = 0 then
        nm (x3 + 0) (fun v14 =>
        fX12_odds_L28 κ y1 y2 k v14 (x4 + 1) s12)
      else
        nm (x3 + 1) (fun v15 =>
        fX12_odds_L28 κ y1 y2 k v15 (x4 + 1) s12)))
def fX12_odds  (a1 : Int32) (a2 : Int32) (s : Mem) : Option (Int32 × Mem) :=
bnd (fX12_in a1 0 2 s) (fun r1 s2 =>
if r1 = 0 then
  some ((-1), s2)
else
  bnd (fX12_in a2 0 200 s2) (fun r4 s5 =>
  if r4 = 0 then
    some ((-1), s5)
  else
    nm (0 - a2) (fun v7 =>
    fX12_odds_L28 (fun v16 s17 =>
      bnd (fX12_fraction v16 ((2 * a2) + 1) v16 s17) (fun r18 s19 =>
      some (r18, s19))) a1 a2 FU 0 v7 s5)))
theorem tX12_odds_L28 (Θ : Th) (l : Launch)  (κ : Int32 → Mem → Option (Int32 × Mem)) (y1 : Int32) (y2 : Int32)  (hκ : ∀ (x3 : Int32) (s : Mem), Js Θ l mX12_odds 5 gI 62 [some (vR 68), none, some (vI y2), some (vI x3), none] [] s (κ x3 s)) : ∀ (k : Nat) (x3 : Int32) (x4 : Int32) (s : Mem), Js Θ l mX12_odds 5 gI 28 [some (vR 68), some (vI y1), some (vI y2), some (vI x3), some (vI x4)] [] s (fX12_odds_L28 κ y1 y2 k x3 x4 s) := by
  intro k
  induction k with
  | zero => intro x3 x4 s; exact j_none
  | succ k ih =>
    intro x3 x4 s
    rw [fX12_odds_L28]
    refine j_iload 30 dX12_odds_28 rfl rfl ?_
    refine j_iload_n 31 dX12_odds_30 rfl rfl ?_
    refine j_icmp_gt 62 34 dX12_odds_31 (by decide) rfl (fun c8 => ?_) (fun c8 => ?_)
    · refine j_sub (ls' := [some (vR 68), none, some (vI y2), some (vI x3), none]) (And.intro rfl (And.intro rfl (And.intro rfl trivial))) ?_
      exact hκ x3 s
    · refine j_iload_n 35 dX12_odds_34 rfl rfl ?_
      refine j_aload_n 36 dX12_odds_35 rfl rfl ?_
      refine j_aload_n 37 dX12_odds_36 rfl rfl ?_
      refine j_iload_n 38 dX12_odds_37 rfl rfl ?_
      refine j_iload 40 dX12_odds_38 rfl rfl ?_
      refine s_callVi (M2 := mX12_listOf) [vI y1, vI x4] 43 oa68 cc12 mkX12_listOf w_1624 dX12_odds_40 rfl rfl (tX12_listOf Θ l _ _  _) (by first | exact Nat.le_of_ble_eq_true rfl | omega) (Nat.le_of_ble_eq_true rfl) (Nat.le_of_ble_eq_true rfl) (fun r9 s10 => ?_)
      refine s_callVi (M2 := mX12_isLevel) [vI r9] 46 oa68 cc12 mkX12_isLevel w_1628 dX12_odds_43 rfl rfl (tX12_isLevel Θ l _  _) (by first | exact Nat.le_of_ble_eq_true rfl | omega) (Nat.le_of_ble_eq_true rfl) (Nat.le_of_ble_eq_true rfl) (fun r11 s12 => ?_)
      refine j_if_eq 53 49 dX12_odds_46 (by decide) rfl (fun c13 => ?_) (fun c13 => ?_)
      · refine j_iconst (v := 0) 54 dX12_odds_53 rfl (by decide) ?_
        refine j_iadd 55 dX12_odds_54 rfl ?_
        refine s_nmI (fun v14 => ?_)
        refine j_istore_n (i := 3) (ls' := [some (vR 68), some (vI y1), some (vI y2), some (vI v14), some (vI x4)]) 56 dX12_odds_55 rfl rfl (by decide) rfl rfl ?_
        refine j_iinc (v := x4 + 1) (ls' := [some (vR 68), some (vI y1), some (vI y2), some (vI v14), some (vI (x4 + 1))]) 59 dX12_odds_56 rfl rfl rfl (by decide) rfl rfl ?_
        refine j_goto 28 dX12_odds_59 (by decide) ?_
        refine j_sub (ls' := [some (vR 68), some (vI y1), some (vI y2), some (vI v14), some (vI (x4 + 1))]) (And.intro rfl (And.intro rfl (And.intro rfl (And.intro rfl (And.intro rfl trivial))))) ?_
        exact ih v14 (x4 + 1) s12
      · refine j_iconst (v := 1) 50 dX12_odds_49 rfl (by decide) ?_
        refine j_goto 54 dX12_odds_50 (by decide) ?_
        refine j_iadd 55 dX12_odds_54 rfl ?_
        refine s_nmI (fun v15 => ?_)
        refine j_istore_n (i := 3) (ls' := [some (vR 68), some (vI y1), some (vI y2), some (vI v15), some (vI x4)]) 56 dX12_odds_55 rfl rfl (by decide) rfl rfl ?_
        refine j_iinc (v := x4 + 1) (ls' := [some (vR 68), some (vI y1), some (vI y2), some (vI v15), some (vI (x4 + 1))]) 59 dX12_odds_56 rfl rfl rfl (by decide) rfl rfl ?_
        refine j_goto 28 dX12_odds_59 (by decide) ?_
        refine j_sub (ls' := [some (vR 68), some (vI y1), some (vI y2), some (vI v15), some (vI (x4 + 1))]) (And.intro rfl (And.intro rfl (And.intro rfl (And.intro rfl (And.intro rfl trivial))))) ?_
        exact ih v15 (x4 + 1) s12
theorem tX12_odds (Θ : Th) (l : Launch)  (a1 : Int32) (a2 : Int32)  (s : Mem) : Cs Θ l mX12_odds 5 gI [vR 68, vI a1, vI a2] s (fX12_odds a1 a2 s) := by
  refine ct_of (by decide) [some (vR 68), some (vI a1), some (vI a2), none, none] rfl (Nat.le_of_ble_eq_true rfl) ?_
  unfold fX12_odds
  refine j_iload_n 1 dX12_odds_0 rfl rfl ?_
  refine j_iconst (v := 0) 2 dX12_odds_1 rfl (by decide) ?_
  refine j_iconst (v := 2) 3 dX12_odds_2 rfl (by decide) ?_
  refine s_callSi (M2 := mX12_in) [vI a1, vI 0, vI 2] 6 mkX12_in (Or.inl w_1380) dX12_odds_3 rfl rfl (tX12_in Θ l _ _ _  _) (by first | exact Nat.le_of_ble_eq_true rfl | omega) (Nat.le_of_ble_eq_true rfl) (Nat.le_of_ble_eq_true rfl) (fun r1 s2 => ?_)
  refine j_if_eq 20 9 dX12_odds_6 (by decide) rfl (fun c3 => ?_) (fun c3 => ?_)
  · refine j_iconst (v := (-1)) 21 dX12_odds_20 rfl (by decide) ?_
    exact s_iret dX12_odds_21 rfl
  · refine j_iload_n 10 dX12_odds_9 rfl rfl ?_
    refine j_iconst (v := 0) 11 dX12_odds_10 rfl (by decide) ?_
    refine j_sipush (v := 200) 14 dX12_odds_11 rfl (by decide) ?_
    refine s_callSi (M2 := mX12_in) [vI a2, vI 0, vI 200] 17 mkX12_in (Or.inl w_1380) dX12_odds_14 rfl rfl (tX12_in Θ l _ _ _  _) (by first | exact Nat.le_of_ble_eq_true rfl | omega) (Nat.le_of_ble_eq_true rfl) (Nat.le_of_ble_eq_true rfl) (fun r4 s5 => ?_)
    refine j_if_ne 22 20 dX12_odds_17 (by decide) rfl (fun c6 => ?_) (fun c6 => ?_)
    · refine j_iconst (v := (-1)) 21 dX12_odds_20 rfl (by decide) ?_
      exact s_iret dX12_odds_21 rfl
    · refine j_iconst (v := 0) 23 dX12_odds_22 rfl (by decide) ?_
      refine j_istore_n (i := 3) (ls' := [some (vR 68), some (vI a1), some (vI a2), some (vI 0), none]) 24 dX12_odds_23 rfl rfl (by decide) rfl rfl ?_
      refine j_iload_n 25 dX12_odds_24 rfl rfl ?_
      refine j_ineg 26 dX12_odds_25 rfl ?_
      refine s_nmI (fun v7 => ?_)
      refine j_istore (i := 4) (ls' := [some (vR 68), some (vI a1), some (vI a2), some (vI 0), some (vI v7)]) 28 dX12_odds_26 rfl (by decide) rfl rfl ?_
      refine j_sub (ls' := [some (vR 68), some (vI a1), some (vI a2), some (vI 0), some (vI v7)]) (And.intro rfl (And.intro rfl (And.intro rfl (And.intro rfl (And.intro rfl trivial))))) ?_
      refine tX12_odds_L28 Θ l _ _ _  ?_ _ _ _ _
      intro v16 s17
      refine j_aload_n 63 dX12_odds_62 rfl rfl ?_
      refine j_iload_n 64 dX12_odds_63 rfl rfl ?_
      refine j_iconst (v := 2) 65 dX12_odds_64 rfl (by decide) ?_
      refine j_iload_n 66 dX12_odds_65 rfl rfl ?_
      refine j_imul 67 dX12_odds_66 rfl ?_
      refine j_iconst (v := 1) 68 dX12_odds_67 rfl (by decide) ?_
      refine j_iadd 69 dX12_odds_68 rfl ?_
      refine j_iload_n 70 dX12_odds_69 rfl rfl ?_
      refine s_callVi (M2 := mX12_fraction) [vI v16, vI ((2 * a2) + 1), vI v16] 73 oa68 cc12 mkX12_fraction w_1640 dX12_odds_70 rfl rfl (tX12_fraction Θ l _ _ _  _) (by first | exact Nat.le_of_ble_eq_true rfl | omega) (Nat.le_of_ble_eq_true rfl) (Nat.le_of_ble_eq_true rfl) (fun r18 s19 => ?_)
      exact s_iret dX12_odds_73 rfl
-- X12_storm
def fX12_storm_L28  (κ : Int32 → Int32 → Mem → Option (Int32 × Mem))  : Nat → Int64 → Int32 → Int32 → Int32 → Mem → Option (Int32 × Mem)
  | 0, _, _, _, _, _ => none
  | k + 1, x2, x4, x5, x6, s =>
    if x6 < (s.1 68 19) then
      nm ((48271 * x2) - (48271 * x2) / 2147483647 * 2147483647) (fun v7 =>
      nm (x4 + ((Int64.toInt32 (v7 - v7 / 7 * 7)) - 3)) (fun v8 =>
      if 200 < v8 then
        if inb x6 40 = true then
        bnd (fX12_listOf (s.1 80 (ix x6)) 200 s) (fun r11 s12 =>
        bnd (fX12_isLevel r11 s12) (fun r13 s14 =>
        if r13 = 0 then
          nm (x5 + 1) (fun v16 =>
          fX12_storm_L28 κ k v7 200 v16 (x6 + 1) s14)
        else
          nm (x5 + 0) (fun v17 =>
          fX12_storm_L28 κ k v7 200 v17 (x6 + 1) s14)))
        else none
      else
        if v8 < (-200) then
          if inb x6 40 = true then
          bnd (fX12_listOf (s.1 80 (ix x6)) (-200) s) (fun r20 s21 =>
          bnd (fX12_isLevel r20 s21) (fun r22 s23 =>
          if r22 = 0 then
            nm (x5 + 1) (fun v25 =>
            fX12_storm_L28 κ k v7 (-200) v25 (x6 + 1) s23)
          else
            nm (x5 + 0) (fun v26 =>
            fX12_storm_L28 κ k v7 (-200) v26 (x6 + 1) s23)))
          else none
        else
          if inb x6 40 = true then
          bnd (fX12_listOf (s.1 80 (ix x6)) v8 s) (fun r28 s29 =>
          bnd (fX12_isLevel r28 s29) (fun r30 s31 =>
          if r30 = 0 then
            nm (x5 + 1) (fun v33 =>
            fX12_storm_L28 κ k v7 v8 v33 (x6 + 1) s31)
          else
            nm (x5 + 0) (fun v34 =>
            fX12_storm_L28 κ k v7 v8 v34 (x6 + 1) s31)))
          else none))
    else
      κ x4 x5 s
def fX12_storm  (a1 : Int32) (s : Mem) : Option (Int32 × Mem) :=
bnd (fX12_in a1 1 2147483646 s) (fun r1 s2 =>
if r1 = 0 then
  some ((-1), s2)
else
  nm (Int32.toInt64 a1) (fun v4 =>
  nm (s2.1 68 18) (fun v5 =>
  fX12_storm_L28 (fun v35 v36 s37 =>
    bnd (fX12_tells v35 v36 s37) (fun r38 s39 =>
    some (r38, s39)))  FU v4 v5 0 0 s2)))
theorem tX12_storm_L28 (Θ : Th) (l : Launch)  (κ : Int32 → Int32 → Mem → Option (Int32 × Mem))   (hκ : ∀ (x4 : Int32) (x5 : Int32) (s : Mem), Js Θ l mX12_storm 5 gI 128 [some (vR 68), none, none, none, some (vI x4), some (vI x5), none] [] s (κ x4 x5 s)) : ∀ (k : Nat) (x2 : Int64) (x4 : Int32) (x5 : Int32) (x6 : Int32) (s : Mem), Js Θ l mX12_storm 5 gI 28 [some (vR 68), none, some (vL x2), none, some (vI x4), some (vI x5), some (vI x6)] [] s (fX12_storm_L28 κ  k x2 x4 x5 x6 s) := by
  intro k
  induction k with
  | zero => intro x2 x4 x5 x6 s; exact j_none
  | succ k ih =>
    intro x2 x4 x5 x6 s
    rw [fX12_storm_L28]
    refine j_iload 30 dX12_storm_28 rfl rfl ?_
    refine j_aload_n 31 dX12_storm_30 rfl rfl ?_
    refine s_getI 34 fa68_19 w_1225 dX12_storm_31 rfl ?_
    refine j_icmp_ge 128 37 dX12_storm_34 (by decide) rfl (fun c6 => ?_) (fun c6 => ?_)
    · refine j_ldc2 (v := 48271) 40 dX12_storm_37 rfl w_1756 ?_
      refine j_lload_n 41 dX12_storm_40 rfl rfl ?_
      refine j_lmul 42 dX12_storm_41 rfl ?_
      refine j_ldc2 (v := 2147483647) 45 dX12_storm_42 rfl w_1757 ?_
      refine j_lremC 46 dX12_storm_45 rfl (by decide) ?_
      refine s_nmL (fun v7 => ?_)
      refine j_lstore_n (i := 2) (ls' := [some (vR 68), none, some (vL v7), none, some (vI x4), some (vI x5), some (vI x6)]) 47 dX12_storm_46 rfl rfl (by decide) rfl rfl ?_
      refine j_iload 49 dX12_storm_47 rfl rfl ?_
      refine j_lload_n 50 dX12_storm_49 rfl rfl ?_
      refine j_ldc2 (v := 7) 53 dX12_storm_50 rfl w_1758 ?_
      refine j_lremC 54 dX12_storm_53 rfl (by decide) ?_
      refine j_l2i 55 dX12_storm_54 rfl ?_
      refine j_iconst (v := 3) 56 dX12_storm_55 rfl (by decide) ?_
      refine j_isub 57 dX12_storm_56 rfl ?_
      refine j_iadd 58 dX12_storm_57 rfl ?_
      refine s_nmI (fun v8 => ?_)
      refine j_istore (i := 4) (ls' := [some (vR 68), none, some (vL v7), none, some (vI v8), some (vI x5), some (vI x6)]) 60 dX12_storm_58 rfl (by decide) rfl rfl ?_
      refine j_iload 62 dX12_storm_60 rfl rfl ?_
      refine j_sipush (v := 200) 65 dX12_storm_62 rfl (by decide) ?_
      refine j_icmp_le 74 68 dX12_storm_65 (by decide) rfl (fun c9 => ?_) (fun c9 => ?_)
      · refine j_sipush (v := 200) 71 dX12_storm_68 rfl (by decide) ?_
        refine j_goto 90 dX12_storm_71 (by decide) ?_
        refine j_istore (i := 4) (ls' := [some (vR 68), none, some (vL v7), none, some (vI 200), some (vI x5), some (vI x6)]) 92 dX12_storm_90 rfl (by decide) rfl rfl ?_
        refine j_iload 94 dX12_storm_92 rfl rfl ?_
        refine j_aload_n 95 dX12_storm_94 rfl rfl ?_
        refine j_aload_n 96 dX12_storm_95 rfl rfl ?_
        refine j_aload_n 97 dX12_storm_96 rfl rfl ?_
        refine s_getR (x := 80) 100 fa68_20 w_1226 dX12_storm_97 rfl (by decide +kernel) ?_
        refine j_iload 102 dX12_storm_100 rfl rfl ?_
        refine s_iaload 103 aa80 dX12_storm_102 rfl (fun b10 => ?_)
        refine j_iload 105 dX12_storm_103 rfl rfl ?_
        refine s_callVi (M2 := mX12_listOf) [vI (s.1 80 (ix x6)), vI 200] 108 oa68 cc12 mkX12_listOf w_1624 dX12_storm_105 rfl rfl (tX12_listOf Θ l _ _  _) (by first | exact Nat.le_of_ble_eq_true rfl | omega) (Nat.le_of_ble_eq_true rfl) (Nat.le_of_ble_eq_true rfl) (fun r11 s12 => ?_)
        refine s_callVi (M2 := mX12_isLevel) [vI r11] 111 oa68 cc12 mkX12_isLevel w_1628 dX12_storm_108 rfl rfl (tX12_isLevel Θ l _  _) (by first | exact Nat.le_of_ble_eq_true rfl | omega) (Nat.le_of_ble_eq_true rfl) (Nat.le_of_ble_eq_true rfl) (fun r13 s14 => ?_)
        refine j_if_eq 118 114 dX12_storm_111 (by decide) rfl (fun c15 => ?_) (fun c15 => ?_)
        · refine j_iconst (v := 1) 119 dX12_storm_118 rfl (by decide) ?_
          refine j_iadd 120 dX12_storm_119 rfl ?_
          refine s_nmI (fun v16 => ?_)
          refine j_istore (i := 5) (ls' := [some (vR 68), none, some (vL v7), none, some (vI 200), some (vI v16), some (vI x6)]) 122 dX12_storm_120 rfl (by decide) rfl rfl ?_
          refine j_iinc (v := x6 + 1) (ls' := [some (vR 68), none, some (vL v7), none, some (vI 200), some (vI v16), some (vI (x6 + 1))]) 125 dX12_storm_122 rfl rfl rfl (by decide) rfl rfl ?_
          refine j_goto 28 dX12_storm_125 (by decide) ?_
          refine j_sub (ls' := [some (vR 68), none, some (vL v7), none, some (vI 200), some (vI v16), some (vI (x6 + 1))]) (And.intro rfl (And.intro rfl (And.intro rfl (And.intro rfl (And.intro rfl trivial))))) ?_
          exact ih v7 200 v16 (x6 + 1) s14
        · refine j_iconst (v := 0) 115 dX12_storm_114 rfl (by decide) ?_
          refine j_goto 119 dX12_storm_115 (by decide) ?_
          refine j_iadd 120 dX12_storm_119 rfl ?_
          refine s_nmI (fun v17 => ?_)
          refine j_istore (i := 5) (ls' := [some (vR 68), none, some (vL v7), none, some (vI 200), some (vI v17), some (vI x6)]) 122 dX12_storm_120 rfl (by decide) rfl rfl ?_
          refine j_iinc (v := x6 + 1) (ls' := [some (vR 68), none, some (vL v7), none, some (vI 200), some (vI v17), some (vI (x6 + 1))]) 125 dX12_storm_122 rfl rfl rfl (by decide) rfl rfl ?_
          refine j_goto 28 dX12_storm_125 (by decide) ?_
          refine j_sub (ls' := [some (vR 68), none, some (vL v7), none, some (vI 200), some (vI v17), some (vI (x6 + 1))]) (And.intro rfl (And.intro rfl (And.intro rfl (And.intro rfl (And.intro rfl trivial))))) ?_
          exact ih v7 200 v17 (x6 + 1) s14
      · refine j_iload 76 dX12_storm_74 rfl rfl ?_
        refine j_sipush (v := (-200)) 79 dX12_storm_76 rfl (by decide) ?_
        refine j_icmp_ge 88 82 dX12_storm_79 (by decide) rfl (fun c18 => ?_) (fun c18 => ?_)
        · refine j_sipush (v := (-200)) 85 dX12_storm_82 rfl (by decide) ?_
          refine j_goto 90 dX12_storm_85 (by decide) ?_
          refine j_istore (i := 4) (ls' := [some (vR 68), none, some (vL v7), none, some (vI (-200)), some (vI x5), some (vI x6)]) 92 dX12_storm_90 rfl (by decide) rfl rfl ?_
          refine j_iload 94 dX12_storm_92 rfl rfl ?_
          refine j_aload_n 95 dX12_storm_94 rfl rfl ?_
          refine j_aload_n 96 dX12_storm_95 rfl rfl ?_
          refine j_aload_n 97 dX12_storm_96 rfl rfl ?_
          refine s_getR (x := 80) 100 fa68_20 w_1226 dX12_storm_97 rfl (by decide +kernel) ?_
          refine j_iload 102 dX12_storm_100 rfl rfl ?_
          refine s_iaload 103 aa80 dX12_storm_102 rfl (fun b19 => ?_)
          refine j_iload 105 dX12_storm_103 rfl rfl ?_
          refine s_callVi (M2 := mX12_listOf) [vI (s.1 80 (ix x6)), vI (-200)] 108 oa68 cc12 mkX12_listOf w_1624 dX12_storm_105 rfl rfl (tX12_listOf Θ l _ _  _) (by first | exact Nat.le_of_ble_eq_true rfl | omega) (Nat.le_of_ble_eq_true rfl) (Nat.le_of_ble_eq_true rfl) (fun r20 s21 => ?_)
          refine s_callVi (M2 := mX12_isLevel) [vI r20] 111 oa68 cc12 mkX12_isLevel w_1628 dX12_storm_108 rfl rfl (tX12_isLevel Θ l _  _) (by first | exact Nat.le_of_ble_eq_true rfl | omega) (Nat.le_of_ble_eq_true rfl) (Nat.le_of_ble_eq_true rfl) (fun r22 s23 => ?_)
          refine j_if_eq 118 114 dX12_storm_111 (by decide) rfl (fun c24 => ?_) (fun c24 => ?_)
          · refine j_iconst (v := 1) 119 dX12_storm_118 rfl (by decide) ?_
            refine j_iadd 120 dX12_storm_119 rfl ?_
            refine s_nmI (fun v25 => ?_)
            refine j_istore (i := 5) (ls' := [some (vR 68), none, some (vL v7), none, some (vI (-200)), some (vI v25), some (vI x6)]) 122 dX12_storm_120 rfl (by decide) rfl rfl ?_
            refine j_iinc (v := x6 + 1) (ls' := [some (vR 68), none, some (vL v7), none, some (vI (-200)), some (vI v25), some (vI (x6 + 1))]) 125 dX12_storm_122 rfl rfl rfl (by decide) rfl rfl ?_
            refine j_goto 28 dX12_storm_125 (by decide) ?_
            refine j_sub (ls' := [some (vR 68), none, some (vL v7), none, some (vI (-200)), some (vI v25), some (vI (x6 + 1))]) (And.intro rfl (And.intro rfl (And.intro rfl (And.intro rfl (And.intro rfl trivial))))) ?_
            exact ih v7 (-200) v25 (x6 + 1) s23
          · refine j_iconst (v := 0) 115 dX12_storm_114 rfl (by decide) ?_
            refine j_goto 119 dX12_storm_115 (by decide) ?_
            refine j_iadd 120 dX12_storm_119 rfl ?_
            refine s_nmI (fun v26 => ?_)
            refine j_istore (i := 5) (ls' := [some (vR 68), none, some (vL v7), none, some (vI (-200)), some (vI v26), some (vI x6)]) 122 dX12_storm_120 rfl (by decide) rfl rfl ?_
            refine j_iinc (v := x6 + 1) (ls' := [some (vR 68), none, some (vL v7), none, some (vI (-200)), some (vI v26), some (vI (x6 + 1))]) 125 dX12_storm_122 rfl rfl rfl (by decide) rfl rfl ?_
            refine j_goto 28 dX12_storm_125 (by decide) ?_
            refine j_sub (ls' := [some (vR 68), none, some (vL v7), none, some (vI (-200)), some (vI v26), some (vI (x6 + 1))]) (And.intro rfl (And.intro rfl (And.intro rfl (And.intro rfl (And.intro rfl trivial))))) ?_
            exact ih v7 (-200) v26 (x6 + 1) s23
        · refine j_iload 90 dX12_storm_88 rfl rfl ?_
          refine j_istore (i := 4) (ls' := [some (vR 68), none, some (vL v7), none, some (vI v8), some (vI x5), some (vI x6)]) 92 dX12_storm_90 rfl (by decide) rfl rfl ?_
          refine j_iload 94 dX12_storm_92 rfl rfl ?_
          refine j_aload_n 95 dX12_storm_94 rfl rfl ?_
          refine j_aload_n 96 dX12_storm_95 rfl rfl ?_
          refine j_aload_n 97 dX12_storm_96 rfl rfl ?_
          refine s_getR (x := 80) 100 fa68_20 w_1226 dX12_storm_97 rfl (by decide +kernel) ?_
          refine j_iload 102 dX12_storm_100 rfl rfl ?_
          refine s_iaload 103 aa80 dX12_storm_102 rfl (fun b27 => ?_)
          refine j_iload 105 dX12_storm_103 rfl rfl ?_
          refine s_callVi (M2 := mX12_listOf) [vI (s.1 80 (ix x6)), vI v8] 108 oa68 cc12 mkX12_listOf w_1624 dX12_storm_105 rfl rfl (tX12_listOf Θ l _ _  _) (by first | exact Nat.le_of_ble_eq_true rfl | omega) (Nat.le_of_ble_eq_true rfl) (Nat.le_of_ble_eq_true rfl) (fun r28 s29 => ?_)
          refine s_callVi (M2 := mX12_isLevel) [vI r28] 111 oa68 cc12 mkX12_isLevel w_1628 dX12_storm_108 rfl rfl (tX12_isLevel Θ l _  _) (by first | exact Nat.le_of_ble_eq_true rfl | omega) (Nat.le_of_ble_eq_true rfl) (Nat.le_of_ble_eq_true rfl) (fun r30 s31 => ?_)
          refine j_if_eq 118 114 dX12_storm_111 (by decide) rfl (fun c32 => ?_) (fun c32 => ?_)
          · refine j_iconst (v := 1) 119 dX12_storm_118 rfl (by decide) ?_
            refine j_iadd 120 dX12_storm_119 rfl ?_
            refine s_nmI (fun v33 => ?_)
            refine j_istore (i := 5) (ls' := [some (vR 68), none, some (vL v7), none, some (vI v8), some (vI v33), some (vI x6)]) 122 dX12_storm_120 rfl (by decide) rfl rfl ?_
            refine j_iinc (v := x6 + 1) (ls' := [some (vR 68), none, some (vL v7), none, some (vI v8), some (vI v33), some (vI (x6 + 1))]) 125 dX12_storm_122 rfl rfl rfl (by decide) rfl rfl ?_
            refine j_goto 28 dX12_storm_125 (by decide) ?_
            refine j_sub (ls' := [some (vR 68), none, some (vL v7), none, some (vI v8), some (vI v33), some (vI (x6 + 1))]) (And.intro rfl (And.intro rfl (And.intro rfl (And.intro rfl (And.intro rfl trivial))))) ?_
            exact ih v7 v8 v33 (x6 + 1) s31
          · refine j_iconst (v := 0) 115 dX12_storm_114 rfl (by decide) ?_
            refine j_goto 119 dX12_storm_115 (by decide) ?_
            refine j_iadd 120 dX12_storm_119 rfl ?_
            refine s_nmI (fun v34 => ?_)
            refine j_istore (i := 5) (ls' := [some (vR 68), none, some (vL v7), none, some (vI v8), some (vI v34), some (vI x6)]) 122 dX12_storm_120 rfl (by decide) rfl rfl ?_
            refine j_iinc (v := x6 + 1) (ls' := [some (vR 68), none, some (vL v7), none, some (vI v8), some (vI v34), some (vI (x6 + 1))]) 125 dX12_storm_122 rfl rfl rfl (by decide) rfl rfl ?_
            refine j_goto 28 dX12_storm_125 (by decide) ?_
            refine j_sub (ls' := [some (vR 68), none, some (vL v7), none, some (vI v8), some (vI v34), some (vI (x6 + 1))]) (And.intro rfl (And.intro rfl (And.intro rfl (And.intro rfl (And.intro rfl trivial))))) ?_
            exact ih v7 v8 v34 (x6 + 1) s31
    · refine j_sub (ls' := [some (vR 68), none, none, none, some (vI x4), some (vI x5), none]) (And.intro rfl (And.intro rfl (And.intro rfl trivial))) ?_
      exact hκ x4 x5 s
theorem tX12_storm (Θ : Th) (l : Launch)  (a1 : Int32)  (s : Mem) : Cs Θ l mX12_storm 5 gI [vR 68, vI a1] s (fX12_storm a1 s) := by
  refine ct_of (by decide) [some (vR 68), some (vI a1), none, none, none, none, none] rfl (Nat.le_of_ble_eq_true rfl) ?_
  unfold fX12_storm
  refine j_iload_n 1 dX12_storm_0 rfl rfl ?_
  refine j_iconst (v := 1) 2 dX12_storm_1 rfl (by decide) ?_
  refine j_ldcw (v := 2147483646) 5 dX12_storm_2 rfl w_1755 ?_
  refine s_callSi (M2 := mX12_in) [vI a1, vI 1, vI 2147483646] 8 mkX12_in (Or.inl w_1380) dX12_storm_5 rfl rfl (tX12_in Θ l _ _ _  _) (by first | exact Nat.le_of_ble_eq_true rfl | omega) (Nat.le_of_ble_eq_true rfl) (Nat.le_of_ble_eq_true rfl) (fun r1 s2 => ?_)
  refine j_if_ne 13 11 dX12_storm_8 (by decide) rfl (fun c3 => ?_) (fun c3 => ?_)
  · refine j_iconst (v := (-1)) 12 dX12_storm_11 rfl (by decide) ?_
    exact s_iret dX12_storm_12 rfl
  · refine j_iload_n 14 dX12_storm_13 rfl rfl ?_
    refine j_i2l 15 dX12_storm_14 rfl ?_
    refine s_nmL (fun v4 => ?_)
    refine j_lstore_n (i := 2) (ls' := [some (vR 68), some (vI a1), some (vL v4), none, none, none, none]) 16 dX12_storm_15 rfl rfl (by decide) rfl rfl ?_
    refine j_aload_n 17 dX12_storm_16 rfl rfl ?_
    refine s_getI 20 fa68_18 w_1224 dX12_storm_17 rfl ?_
    refine s_nmI (fun v5 => ?_)
    refine j_istore (i := 4) (ls' := [some (vR 68), some (vI a1), some (vL v4), none, some (vI v5), none, none]) 22 dX12_storm_20 rfl (by decide) rfl rfl ?_
    refine j_iconst (v := 0) 23 dX12_storm_22 rfl (by decide) ?_
    refine j_istore (i := 5) (ls' := [some (vR 68), some (vI a1), some (vL v4), none, some (vI v5), some (vI 0), none]) 25 dX12_storm_23 rfl (by decide) rfl rfl ?_
    refine j_iconst (v := 0) 26 dX12_storm_25 rfl (by decide) ?_
    refine j_istore (i := 6) (ls' := [some (vR 68), some (vI a1), some (vL v4), none, some (vI v5), some (vI 0), some (vI 0)]) 28 dX12_storm_26 rfl (by decide) rfl rfl ?_
    refine j_sub (ls' := [some (vR 68), none, some (vL v4), none, some (vI v5), some (vI 0), some (vI 0)]) (And.intro rfl (And.intro rfl (And.intro rfl (And.intro rfl (And.intro rfl trivial))))) ?_
    refine tX12_storm_L28 Θ l _   ?_ _ _ _ _ _ _
    intro v35 v36 s37
    refine j_aload_n 129 dX12_storm_128 rfl rfl ?_
    refine j_iload 131 dX12_storm_129 rfl rfl ?_
    refine j_iload 133 dX12_storm_131 rfl rfl ?_
    refine s_callVi (M2 := mX12_tells) [vI v35, vI v36] 136 oa68 cc12 mkX12_tells w_1414 dX12_storm_133 rfl rfl (tX12_tells Θ l _ _  _) (by first | exact Nat.le_of_ble_eq_true rfl | omega) (Nat.le_of_ble_eq_true rfl) (Nat.le_of_ble_eq_true rfl) (fun r38 s39 => ?_)
    exact s_iret dX12_storm_136 rfl
-- X12_counted
def fX12_counted_L4  (κ : Int32 → Mem → Option (Int32 × Mem)) (y1 : Int32) : Nat → Int32 → Int32 → Mem → Option (Int32 × Mem)
  | 0, _, _, _ => none
  | k + 1, x2, x3, s =>
    if x3 < (s.1 68 12) then
      if y1 = 4 then
        if inb x3 7 = true then
        if (s.1 76 (ix x3)) = 1 then
          nm (x2 + 1) (fun v5 =>
          fX12_counted_L4 κ y1 k v5 (x3 + 1) s)
        else
          if inb x3 7 = true then
          if (s.1 76 (ix x3)) = 4 then
            nm (x2 + 1) (fun v8 =>
            fX12_counted_L4 κ y1 k v8 (x3 + 1) s)
          else
            if y1 = 5 then
              if inb x3 7 = true then
              if (s.1 76 (ix x3)) = 2 then
                nm (x2 + 1) (fun v12 =>
                fX12_counted_L4 κ y1 k v12 (x3 + 1) s)
              else
                if inb x3 7 = true then
                if (s.1 76 (ix x3)) = 5 then
                  nm (x2 + 1) (fun v15 =>
                  fX12_counted_L4 κ y1 k v15 (x3 + 1) s)
                else
                  nm (x2 + 0) (fun v16 =>
                  fX12_counted_L4 κ y1 k v16 (x3 + 1) s)
                else none
              else none
            else
              nm (x2 + 0) (fun v17 =>
              fX12_counted_L4 κ y1 k v17 (x3 + 1) s)
          else none
        else none
      else
        if y1 = 5 then
          if inb x3 7 = true then
          if (s.1 76 (ix x3)) = 2 then
            nm (x2 + 1) (fun v21 =>
            fX12_counted_L4 κ y1 k v21 (x3 + 1) s)
          else
            if inb x3 7 = true then
            if (s.1 76 (ix x3)) = 5 then
              nm (x2 + 1) (fun v24 =>
              fX12_counted_L4 κ y1 k v24 (x3 + 1) s)
            else
              nm (x2 + 0) (fun v25 =>
              fX12_counted_L4 κ y1 k v25 (x3 + 1) s)
            else none
          else none
        else
          nm (x2 + 0) (fun v26 =>
          fX12_counted_L4 κ y1 k v26 (x3 + 1) s)
    else
      κ x2 s
def fX12_counted_L78  (κ : Int32 → Mem → Option (Int32 × Mem)) (y1 : Int32) : Nat → Int32 → Int32 → Mem → Option (Int32 × Mem)
  | 0, _, _, _ => none
  | k + 1, x2, x3, s =>
    if x3 < 6 then
      if y1 = 6 then
        if inb x3 6 = true then
        if (s.1 70 (ix x3)) < 0 then
          nm (x2 + 0) (fun v33 =>
          fX12_counted_L78 κ y1 k v33 (x3 + 1) s)
        else
          nm (x2 + 1) (fun v34 =>
          fX12_counted_L78 κ y1 k v34 (x3 + 1) s)
        else none
      else
        nm (x2 + 0) (fun v35 =>
        fX12_counted_L78 κ y1 k v35 (x3 + 1) s)
    else
      κ x2 s
def fX12_counted_L115  (κ : Int32 → Mem → Option (Int32 × Mem)) (y1 : Int32) : Nat → Int32 → Int32 → Mem → Option (Int32 × Mem)
  | 0, _, _, _ => none
  | k + 1, x2, x3, s =>
    if x3 < 4 then
      if y1 = 7 then
        if inb x3 4 = true then
        if (s.1 73 (ix x3)) < 0 then
          nm (x2 + 0) (fun v42 =>
          fX12_counted_L115 κ y1 k v42 (x3 + 1) s)
        else
          nm (x2 + 1) (fun v43 =>
          fX12_counted_L115 κ y1 k v43 (x3 + 1) s)
        else none
      else
        nm (x2 + 0) (fun v44 =>
        fX12_counted_L115 κ y1 k v44 (x3 + 1) s)
    else
      κ x2 s
def fX12_counted  (a1 : Int32) (s : Mem) : Option (Int32 × Mem) :=
fX12_counted_L4 (fun v27 s28 =>
  fX12_counted_L78 (fun v36 s37 =>
    fX12_counted_L115 (fun v45 s46 =>
      if a1 = 0 then
        some (s46.1 68 10, s46)
      else if a1 = 1 then
        some (s46.1 68 12, s46)
      else if a1 = 2 then
        bnd (fX12_seatedMany s46) (fun r50 s51 =>
        some (r50, s51))
      else if a1 = 3 then
        some (s46.1 68 19, s46)
      else if a1 = 4 then
        some (v45, s46)
      else if a1 = 5 then
        some (v45, s46)
      else if a1 = 6 then
        some (v45, s46)
      else if a1 = 7 then
        some (v45, s46)
      else if a1 = 8 then
        some (s46.1 68 29, s46)
      else if a1 = 9 then
        some (s46.1 68 32, s46)
      else 
        some (v45, s46)) a1 FU v36 0 s37) a1 FU v27 0 s28) a1 FU 0 0 s
theorem tX12_counted_L4 (Θ : Th) (l : Launch)  (κ : Int32 → Mem → Option (Int32 × Mem)) (y1 : Int32)  (hκ : ∀ (x2 : Int32) (s : Mem), Js Θ l mX12_counted 2 gI 76 [some (vR 68), some (vI y1), some (vI x2), none] [] s (κ x2 s)) : ∀ (k : Nat) (x2 : Int32) (x3 : Int32) (s : Mem), Js Θ l mX12_counted 2 gI 4 [some (vR 68), some (vI y1), some (vI x2), some (vI x3)] [] s (fX12_counted_L4 κ y1 k x2 x3 s) := by
  intro k
  induction k with
  | zero => intro x2 x3 s; exact j_none
  | succ k ih =>
    intro x2 x3 s
    rw [fX12_counted_L4]
    refine j_iload_n 5 dX12_counted_4 rfl rfl ?_
    refine j_aload_n 6 dX12_counted_5 rfl rfl ?_
    refine s_getI 9 fa68_12 w_1218 dX12_counted_6 rfl ?_
    refine j_icmp_ge 76 12 dX12_counted_9 (by decide) rfl (fun c1 => ?_) (fun c1 => ?_)
    · refine j_iload_n 13 dX12_counted_12 rfl rfl ?_
      refine j_iload_n 14 dX12_counted_13 rfl rfl ?_
      refine j_iconst (v := 4) 15 dX12_counted_14 rfl (by decide) ?_
      refine j_icmp_ne 38 18 dX12_counted_15 (by decide) rfl (fun c2 => ?_) (fun c2 => ?_)
      · refine j_aload_n 19 dX12_counted_18 rfl rfl ?_
        refine s_getR (x := 76) 22 fa68_13 w_1219 dX12_counted_19 rfl (by decide +kernel) ?_
        refine j_iload_n 23 dX12_counted_22 rfl rfl ?_
        refine s_iaload 24 aa76 dX12_counted_23 rfl (fun b3 => ?_)
        refine j_iconst (v := 1) 25 dX12_counted_24 rfl (by decide) ?_
        refine j_icmp_eq 63 28 dX12_counted_25 (by decide) rfl (fun c4 => ?_) (fun c4 => ?_)
        · refine j_iconst (v := 1) 64 dX12_counted_63 rfl (by decide) ?_
          refine j_goto 68 dX12_counted_64 (by decide) ?_
          refine j_iadd 69 dX12_counted_68 rfl ?_
          refine s_nmI (fun v5 => ?_)
          refine j_istore_n (i := 2) (ls' := [some (vR 68), some (vI y1), some (vI v5), some (vI x3)]) 70 dX12_counted_69 rfl rfl (by decide) rfl rfl ?_
          refine j_iinc (v := x3 + 1) (ls' := [some (vR 68), some (vI y1), some (vI v5), some (vI (x3 + 1))]) 73 dX12_counted_70 rfl rfl rfl (by decide) rfl rfl ?_
          refine j_goto 4 dX12_counted_73 (by decide) ?_
          refine j_sub (ls' := [some (vR 68), some (vI y1), some (vI v5), some (vI (x3 + 1))]) (And.intro rfl (And.intro rfl (And.intro rfl (And.intro rfl trivial)))) ?_
          exact ih v5 (x3 + 1) s
        · refine j_aload_n 29 dX12_counted_28 rfl rfl ?_
          refine s_getR (x := 76) 32 fa68_13 w_1219 dX12_counted_29 rfl (by decide +kernel) ?_
          refine j_iload_n 33 dX12_counted_32 rfl rfl ?_
          refine s_iaload 34 aa76 dX12_counted_33 rfl (fun b6 => ?_)
          refine j_iconst (v := 4) 35 dX12_counted_34 rfl (by decide) ?_
          refine j_icmp_eq 63 38 dX12_counted_35 (by decide) rfl (fun c7 => ?_) (fun c7 => ?_)
          · refine j_iconst (v := 1) 64 dX12_counted_63 rfl (by decide) ?_
            refine j_goto 68 dX12_counted_64 (by decide) ?_
            refine j_iadd 69 dX12_counted_68 rfl ?_
            refine s_nmI (fun v8 => ?_)
            refine j_istore_n (i := 2) (ls' := [some (vR 68), some (vI y1), some (vI v8), some (vI x3)]) 70 dX12_counted_69 rfl rfl (by decide) rfl rfl ?_
            refine j_iinc (v := x3 + 1) (ls' := [some (vR 68), some (vI y1), some (vI v8), some (vI (x3 + 1))]) 73 dX12_counted_70 rfl rfl rfl (by decide) rfl rfl ?_
            refine j_goto 4 dX12_counted_73 (by decide) ?_
            refine j_sub (ls' := [some (vR 68), some (vI y1), some (vI v8), some (vI (x3 + 1))]) (And.intro rfl (And.intro rfl (And.intro rfl (And.intro rfl trivial)))) ?_
            exact ih v8 (x3 + 1) s
          · refine j_iload_n 39 dX12_counted_38 rfl rfl ?_
            refine j_iconst (v := 5) 40 dX12_counted_39 rfl (by decide) ?_
            refine j_icmp_ne 67 43 dX12_counted_40 (by decide) rfl (fun c9 => ?_) (fun c9 => ?_)
            · refine j_aload_n 44 dX12_counted_43 rfl rfl ?_
              refine s_getR (x := 76) 47 fa68_13 w_1219 dX12_counted_44 rfl (by decide +kernel) ?_
              refine j_iload_n 48 dX12_counted_47 rfl rfl ?_
              refine s_iaload 49 aa76 dX12_counted_48 rfl (fun b10 => ?_)
              refine j_iconst (v := 2) 50 dX12_counted_49 rfl (by decide) ?_
              refine j_icmp_eq 63 53 dX12_counted_50 (by decide) rfl (fun c11 => ?_) (fun c11 => ?_)
              · refine j_iconst (v := 1) 64 dX12_counted_63 rfl (by decide) ?_
                refine j_goto 68 dX12_counted_64 (by decide) ?_
                refine j_iadd 69 dX12_counted_68 rfl ?_
                refine s_nmI (fun v12 => ?_)
                refine j_istore_n (i := 2) (ls' := [some (vR 68), some (vI y1), some (vI v12), some (vI x3)]) 70 dX12_counted_69 rfl rfl (by decide) rfl rfl ?_
                refine j_iinc (v := x3 + 1) (ls' := [some (vR 68), some (vI y1), some (vI v12), some (vI (x3 + 1))]) 73 dX12_counted_70 rfl rfl rfl (by decide) rfl rfl ?_
                refine j_goto 4 dX12_counted_73 (by decide) ?_
                refine j_sub (ls' := [some (vR 68), some (vI y1), some (vI v12), some (vI (x3 + 1))]) (And.intro rfl (And.intro rfl (And.intro rfl (And.intro rfl trivial)))) ?_
                exact ih v12 (x3 + 1) s
              · refine j_aload_n 54 dX12_counted_53 rfl rfl ?_
                refine s_getR (x := 76) 57 fa68_13 w_1219 dX12_counted_54 rfl (by decide +kernel) ?_
                refine j_iload_n 58 dX12_counted_57 rfl rfl ?_
                refine s_iaload 59 aa76 dX12_counted_58 rfl (fun b13 => ?_)
                refine j_iconst (v := 5) 60 dX12_counted_59 rfl (by decide) ?_
                refine j_icmp_ne 67 63 dX12_counted_60 (by decide) rfl (fun c14 => ?_) (fun c14 => ?_)
                · refine j_iconst (v := 1) 64 dX12_counted_63 rfl (by decide) ?_
                  refine j_goto 68 dX12_counted_64 (by decide) ?_
                  refine j_iadd 69 dX12_counted_68 rfl ?_
                  refine s_nmI (fun v15 => ?_)
                  refine j_istore_n (i := 2) (ls' := [some (vR 68), some (vI y1), some (vI v15), some (vI x3)]) 70 dX12_counted_69 rfl rfl (by decide) rfl rfl ?_
                  refine j_iinc (v := x3 + 1) (ls' := [some (vR 68), some (vI y1), some (vI v15), some (vI (x3 + 1))]) 73 dX12_counted_70 rfl rfl rfl (by decide) rfl rfl ?_
                  refine j_goto 4 dX12_counted_73 (by decide) ?_
                  refine j_sub (ls' := [some (vR 68), some (vI y1), some (vI v15), some (vI (x3 + 1))]) (And.intro rfl (And.intro rfl (And.intro rfl (And.intro rfl trivial)))) ?_
                  exact ih v15 (x3 + 1) s
                · refine j_iconst (v := 0) 68 dX12_counted_67 rfl (by decide) ?_
                  refine j_iadd 69 dX12_counted_68 rfl ?_
                  refine s_nmI (fun v16 => ?_)
                  refine j_istore_n (i := 2) (ls' := [some (vR 68), some (vI y1), some (vI v16), some (vI x3)]) 70 dX12_counted_69 rfl rfl (by decide) rfl rfl ?_
                  refine j_iinc (v := x3 + 1) (ls' := [some (vR 68), some (vI y1), some (vI v16), some (vI (x3 + 1))]) 73 dX12_counted_70 rfl rfl rfl (by decide) rfl rfl ?_
                  refine j_goto 4 dX12_counted_73 (by decide) ?_
                  refine j_sub (ls' := [some (vR 68), some (vI y1), some (vI v16), some (vI (x3 + 1))]) (And.intro rfl (And.intro rfl (And.intro rfl (And.intro rfl trivial)))) ?_
                  exact ih v16 (x3 + 1) s
            · refine j_iconst (v := 0) 68 dX12_counted_67 rfl (by decide) ?_
              refine j_iadd 69 dX12_counted_68 rfl ?_
              refine s_nmI (fun v17 => ?_)
              refine j_istore_n (i := 2) (ls' := [some (vR 68), some (vI y1), some (vI v17), some (vI x3)]) 70 dX12_counted_69 rfl rfl (by decide) rfl rfl ?_
              refine j_iinc (v := x3 + 1) (ls' := [some (vR 68), some (vI y1), some (vI v17), some (vI (x3 + 1))]) 73 dX12_counted_70 rfl rfl rfl (by decide) rfl rfl ?_
              refine j_goto 4 dX12_counted_73 (by decide) ?_
              refine j_sub (ls' := [some (vR 68), some (vI y1), some (vI v17), some (vI (x3 + 1))]) (And.intro rfl (And.intro rfl (And.intro rfl (And.intro rfl trivial)))) ?_
              exact ih v17 (x3 + 1) s
      · refine j_iload_n 39 dX12_counted_38 rfl rfl ?_
        refine j_iconst (v := 5) 40 dX12_counted_39 rfl (by decide) ?_
        refine j_icmp_ne 67 43 dX12_counted_40 (by decide) rfl (fun c18 => ?_) (fun c18 => ?_)
        · refine j_aload_n 44 dX12_counted_43 rfl rfl ?_
          refine s_getR (x := 76) 47 fa68_13 w_1219 dX12_counted_44 rfl (by decide +kernel) ?_
          refine j_iload_n 48 dX12_counted_47 rfl rfl ?_
          refine s_iaload 49 aa76 dX12_counted_48 rfl (fun b19 => ?_)
          refine j_iconst (v := 2) 50 dX12_counted_49 rfl (by decide) ?_
          refine j_icmp_eq 63 53 dX12_counted_50 (by decide) rfl (fun c20 => ?_) (fun c20 => ?_)
          · refine j_iconst (v := 1) 64 dX12_counted_63 rfl (by decide) ?_
            refine j_goto 68 dX12_counted_64 (by decide) ?_
            refine j_iadd 69 dX12_counted_68 rfl ?_
            refine s_nmI (fun v21 => ?_)
            refine j_istore_n (i := 2) (ls' := [some (vR 68), some (vI y1), some (vI v21), some (vI x3)]) 70 dX12_counted_69 rfl rfl (by decide) rfl rfl ?_
            refine j_iinc (v := x3 + 1) (ls' := [some (vR 68), some (vI y1), some (vI v21), some (vI (x3 + 1))]) 73 dX12_counted_70 rfl rfl rfl (by decide) rfl rfl ?_
            refine j_goto 4 dX12_counted_73 (by decide) ?_
            refine j_sub (ls' := [some (vR 68), some (vI y1), some (vI v21), some (vI (x3 + 1))]) (And.intro rfl (And.intro rfl (And.intro rfl (And.intro rfl trivial)))) ?_
            exact ih v21 (x3 + 1) s
          · refine j_aload_n 54 dX12_counted_53 rfl rfl ?_
            refine s_getR (x := 76) 57 fa68_13 w_1219 dX12_counted_54 rfl (by decide +kernel) ?_
            refine j_iload_n 58 dX12_counted_57 rfl rfl ?_
            refine s_iaload 59 aa76 dX12_counted_58 rfl (fun b22 => ?_)
            refine j_iconst (v := 5) 60 dX12_counted_59 rfl (by decide) ?_
            refine j_icmp_ne 67 63 dX12_counted_60 (by decide) rfl (fun c23 => ?_) (fun c23 => ?_)
            · refine j_iconst (v := 1) 64 dX12_counted_63 rfl (by decide) ?_
              refine j_goto 68 dX12_counted_64 (by decide) ?_
              refine j_iadd 69 dX12_counted_68 rfl ?_
              refine s_nmI (fun v24 => ?_)
              refine j_istore_n (i := 2) (ls' := [some (vR 68), some (vI y1), some (vI v24), some (vI x3)]) 70 dX12_counted_69 rfl rfl (by decide) rfl rfl ?_
              refine j_iinc (v := x3 + 1) (ls' := [some (vR 68), some (vI y1), some (vI v24), some (vI (x3 + 1))]) 73 dX12_counted_70 rfl rfl rfl (by decide) rfl rfl ?_
              refine j_goto 4 dX12_counted_73 (by decide) ?_
              refine j_sub (ls' := [some (vR 68), some (vI y1), some (vI v24), some (vI (x3 + 1))]) (And.intro rfl (And.intro rfl (And.intro rfl (And.intro rfl trivial)))) ?_
              exact ih v24 (x3 + 1) s
            · refine j_iconst (v := 0) 68 dX12_counted_67 rfl (by decide) ?_
              refine j_iadd 69 dX12_counted_68 rfl ?_
              refine s_nmI (fun v25 => ?_)
              refine j_istore_n (i := 2) (ls' := [some (vR 68), some (vI y1), some (vI v25), some (vI x3)]) 70 dX12_counted_69 rfl rfl (by decide) rfl rfl ?_
              refine j_iinc (v := x3 + 1) (ls' := [some (vR 68), some (vI y1), some (vI v25), some (vI (x3 + 1))]) 73 dX12_counted_70 rfl rfl rfl (by decide) rfl rfl ?_
              refine j_goto 4 dX12_counted_73 (by decide) ?_
              refine j_sub (ls' := [some (vR 68), some (vI y1), some (vI v25), some (vI (x3 + 1))]) (And.intro rfl (And.intro rfl (And.intro rfl (And.intro rfl trivial)))) ?_
              exact ih v25 (x3 + 1) s
        · refine j_iconst (v := 0) 68 dX12_counted_67 rfl (by decide) ?_
          refine j_iadd 69 dX12_counted_68 rfl ?_
          refine s_nmI (fun v26 => ?_)
          refine j_istore_n (i := 2) (ls' := [some (vR 68), some (vI y1), some (vI v26), some (vI x3)]) 70 dX12_counted_69 rfl rfl (by decide) rfl rfl ?_
          refine j_iinc (v := x3 + 1) (ls' := [some (vR 68), some (vI y1), some (vI v26), some (vI (x3 + 1))]) 73 dX12_counted_70 rfl rfl rfl (by decide) rfl rfl ?_
          refine j_goto 4 dX12_counted_73 (by decide) ?_
          refine j_sub (ls' := [some (vR 68), some (vI y1), some (vI v26), some (vI (x3 + 1))]) (And.intro rfl (And.intro rfl (And.intro rfl (And.intro rfl trivial)))) ?_
          exact ih v26 (x3 + 1) s
    · refine j_sub (ls' := [some (vR 68), some (vI y1), some (vI x2), none]) (And.intro rfl (And.intro rfl (And.intro rfl trivial))) ?_
      exact hκ x2 s
theorem tX12_counted_L78 (Θ : Th) (l : Launch)  (κ : Int32 → Mem → Option (Int32 × Mem)) (y1 : Int32)  (hκ : ∀ (x2 : Int32) (s : Mem), Js Θ l mX12_counted 2 gI 113 [some (vR 68), some (vI y1), some (vI x2), none] [] s (κ x2 s)) : ∀ (k : Nat) (x2 : Int32) (x3 : Int32) (s : Mem), Js Θ l mX12_counted 2 gI 78 [some (vR 68), some (vI y1), some (vI x2), some (vI x3)] [] s (fX12_counted_L78 κ y1 k x2 x3 s) := by
  intro k
  induction k with
  | zero => intro x2 x3 s; exact j_none
  | succ k ih =>
    intro x2 x3 s
    rw [fX12_counted_L78]
    refine j_iload_n 79 dX12_counted_78 rfl rfl ?_
    refine j_bipush (v := 6) 81 dX12_counted_79 rfl (by decide) ?_
    refine j_icmp_ge 113 84 dX12_counted_81 (by decide) rfl (fun c29 => ?_) (fun c29 => ?_)
    · refine j_iload_n 85 dX12_counted_84 rfl rfl ?_
      refine j_iload_n 86 dX12_counted_85 rfl rfl ?_
      refine j_bipush (v := 6) 88 dX12_counted_86 rfl (by decide) ?_
      refine j_icmp_ne 104 91 dX12_counted_88 (by decide) rfl (fun c30 => ?_) (fun c30 => ?_)
      · refine j_aload_n 92 dX12_counted_91 rfl rfl ?_
        refine s_getR (x := 70) 95 fa68_5 w_1211 dX12_counted_92 rfl (by decide +kernel) ?_
        refine j_iload_n 96 dX12_counted_95 rfl rfl ?_
        refine s_iaload 97 aa70 dX12_counted_96 rfl (fun b31 => ?_)
        refine j_if_lt 104 100 dX12_counted_97 (by decide) rfl (fun c32 => ?_) (fun c32 => ?_)
        · refine j_iconst (v := 0) 105 dX12_counted_104 rfl (by decide) ?_
          refine j_iadd 106 dX12_counted_105 rfl ?_
          refine s_nmI (fun v33 => ?_)
          refine j_istore_n (i := 2) (ls' := [some (vR 68), some (vI y1), some (vI v33), some (vI x3)]) 107 dX12_counted_106 rfl rfl (by decide) rfl rfl ?_
          refine j_iinc (v := x3 + 1) (ls' := [some (vR 68), some (vI y1), some (vI v33), some (vI (x3 + 1))]) 110 dX12_counted_107 rfl rfl rfl (by decide) rfl rfl ?_
          refine j_goto 78 dX12_counted_110 (by decide) ?_
          refine j_sub (ls' := [some (vR 68), some (vI y1), some (vI v33), some (vI (x3 + 1))]) (And.intro rfl (And.intro rfl (And.intro rfl (And.intro rfl trivial)))) ?_
          exact ih v33 (x3 + 1) s
        · refine j_iconst (v := 1) 101 dX12_counted_100 rfl (by decide) ?_
          refine j_goto 105 dX12_counted_101 (by decide) ?_
          refine j_iadd 106 dX12_counted_105 rfl ?_
          refine s_nmI (fun v34 => ?_)
          refine j_istore_n (i := 2) (ls' := [some (vR 68), some (vI y1), some (vI v34), some (vI x3)]) 107 dX12_counted_106 rfl rfl (by decide) rfl rfl ?_
          refine j_iinc (v := x3 + 1) (ls' := [some (vR 68), some (vI y1), some (vI v34), some (vI (x3 + 1))]) 110 dX12_counted_107 rfl rfl rfl (by decide) rfl rfl ?_
          refine j_goto 78 dX12_counted_110 (by decide) ?_
          refine j_sub (ls' := [some (vR 68), some (vI y1), some (vI v34), some (vI (x3 + 1))]) (And.intro rfl (And.intro rfl (And.intro rfl (And.intro rfl trivial)))) ?_
          exact ih v34 (x3 + 1) s
      · refine j_iconst (v := 0) 105 dX12_counted_104 rfl (by decide) ?_
        refine j_iadd 106 dX12_counted_105 rfl ?_
        refine s_nmI (fun v35 => ?_)
        refine j_istore_n (i := 2) (ls' := [some (vR 68), some (vI y1), some (vI v35), some (vI x3)]) 107 dX12_counted_106 rfl rfl (by decide) rfl rfl ?_
        refine j_iinc (v := x3 + 1) (ls' := [some (vR 68), some (vI y1), some (vI v35), some (vI (x3 + 1))]) 110 dX12_counted_107 rfl rfl rfl (by decide) rfl rfl ?_
        refine j_goto 78 dX12_counted_110 (by decide) ?_
        refine j_sub (ls' := [some (vR 68), some (vI y1), some (vI v35), some (vI (x3 + 1))]) (And.intro rfl (And.intro rfl (And.intro rfl (And.intro rfl trivial)))) ?_
        exact ih v35 (x3 + 1) s
    · refine j_sub (ls' := [some (vR 68), some (vI y1), some (vI x2), none]) (And.intro rfl (And.intro rfl (And.intro rfl trivial))) ?_
      exact hκ x2 s
theorem tX12_counted_L115 (Θ : Th) (l : Launch)  (κ : Int32 → Mem → Option (Int32 × Mem)) (y1 : Int32)  (hκ : ∀ (x2 : Int32) (s : Mem), Js Θ l mX12_counted 2 gI 149 [some (vR 68), some (vI y1), some (vI x2), none] [] s (κ x2 s)) : ∀ (k : Nat) (x2 : Int32) (x3 : Int32) (s : Mem), Js Θ l mX12_counted 2 gI 115 [some (vR 68), some (vI y1), some (vI x2), some (vI x3)] [] s (fX12_counted_L115 κ y1 k x2 x3 s) := by
  intro k
  induction k with
  | zero => intro x2 x3 s; exact j_none
  | succ k ih =>
    intro x2 x3 s
    rw [fX12_counted_L115]
    refine j_iload_n 116 dX12_counted_115 rfl rfl ?_
    refine j_iconst (v := 4) 117 dX12_counted_116 rfl (by decide) ?_
    refine j_icmp_ge 149 120 dX12_counted_117 (by decide) rfl (fun c38 => ?_) (fun c38 => ?_)
    · refine j_iload_n 121 dX12_counted_120 rfl rfl ?_
      refine j_iload_n 122 dX12_counted_121 rfl rfl ?_
      refine j_bipush (v := 7) 124 dX12_counted_122 rfl (by decide) ?_
      refine j_icmp_ne 140 127 dX12_counted_124 (by decide) rfl (fun c39 => ?_) (fun c39 => ?_)
      · refine j_aload_n 128 dX12_counted_127 rfl rfl ?_
        refine s_getR (x := 73) 131 fa68_8 w_1214 dX12_counted_128 rfl (by decide +kernel) ?_
        refine j_iload_n 132 dX12_counted_131 rfl rfl ?_
        refine s_iaload 133 aa73 dX12_counted_132 rfl (fun b40 => ?_)
        refine j_if_lt 140 136 dX12_counted_133 (by decide) rfl (fun c41 => ?_) (fun c41 => ?_)
        · refine j_iconst (v := 0) 141 dX12_counted_140 rfl (by decide) ?_
          refine j_iadd 142 dX12_counted_141 rfl ?_
          refine s_nmI (fun v42 => ?_)
          refine j_istore_n (i := 2) (ls' := [some (vR 68), some (vI y1), some (vI v42), some (vI x3)]) 143 dX12_counted_142 rfl rfl (by decide) rfl rfl ?_
          refine j_iinc (v := x3 + 1) (ls' := [some (vR 68), some (vI y1), some (vI v42), some (vI (x3 + 1))]) 146 dX12_counted_143 rfl rfl rfl (by decide) rfl rfl ?_
          refine j_goto 115 dX12_counted_146 (by decide) ?_
          refine j_sub (ls' := [some (vR 68), some (vI y1), some (vI v42), some (vI (x3 + 1))]) (And.intro rfl (And.intro rfl (And.intro rfl (And.intro rfl trivial)))) ?_
          exact ih v42 (x3 + 1) s
        · refine j_iconst (v := 1) 137 dX12_counted_136 rfl (by decide) ?_
          refine j_goto 141 dX12_counted_137 (by decide) ?_
          refine j_iadd 142 dX12_counted_141 rfl ?_
          refine s_nmI (fun v43 => ?_)
          refine j_istore_n (i := 2) (ls' := [some (vR 68), some (vI y1), some (vI v43), some (vI x3)]) 143 dX12_counted_142 rfl rfl (by decide) rfl rfl ?_
          refine j_iinc (v := x3 + 1) (ls' := [some (vR 68), some (vI y1), some (vI v43), some (vI (x3 + 1))]) 146 dX12_counted_143 rfl rfl rfl (by decide) rfl rfl ?_
          refine j_goto 115 dX12_counted_146 (by decide) ?_
          refine j_sub (ls' := [some (vR 68), some (vI y1), some (vI v43), some (vI (x3 + 1))]) (And.intro rfl (And.intro rfl (And.intro rfl (And.intro rfl trivial)))) ?_
          exact ih v43 (x3 + 1) s
      · refine j_iconst (v := 0) 141 dX12_counted_140 rfl (by decide) ?_
        refine j_iadd 142 dX12_counted_141 rfl ?_
        refine s_nmI (fun v44 => ?_)
        refine j_istore_n (i := 2) (ls' := [some (vR 68), some (vI y1), some (vI v44), some (vI x3)]) 143 dX12_counted_142 rfl rfl (by decide) rfl rfl ?_
        refine j_iinc (v := x3 + 1) (ls' := [some (vR 68), some (vI y1), some (vI v44), some (vI (x3 + 1))]) 146 dX12_counted_143 rfl rfl rfl (by decide) rfl rfl ?_
        refine j_goto 115 dX12_counted_146 (by decide) ?_
        refine j_sub (ls' := [some (vR 68), some (vI y1), some (vI v44), some (vI (x3 + 1))]) (And.intro rfl (And.intro rfl (And.intro rfl (And.intro rfl trivial)))) ?_
        exact ih v44 (x3 + 1) s
    · refine j_sub (ls' := [some (vR 68), some (vI y1), some (vI x2), none]) (And.intro rfl (And.intro rfl (And.intro rfl trivial))) ?_
      exact hκ x2 s
theorem tX12_counted (Θ : Th) (l : Launch)  (a1 : Int32)  (s : Mem) : Cs Θ l mX12_counted 2 gI [vR 68, vI a1] s (fX12_counted a1 s) := by
  refine ct_of (by decide) [some (vR 68), some (vI a1), none, none] rfl (Nat.le_of_ble_eq_true rfl) ?_
  unfold fX12_counted
  refine j_iconst (v := 0) 1 dX12_counted_0 rfl (by decide) ?_
  refine j_istore_n (i := 2) (ls' := [some (vR 68), some (vI a1), some (vI 0), none]) 2 dX12_counted_1 rfl rfl (by decide) rfl rfl ?_
  refine j_iconst (v := 0) 3 dX12_counted_2 rfl (by decide) ?_
  refine j_istore_n (i := 3) (ls' := [some (vR 68), some (vI a1), some (vI 0), some (vI 0)]) 4 dX12_counted_3 rfl rfl (by decide) rfl rfl ?_
  refine j_sub (ls' := [some (vR 68), some (vI a1), some (vI 0), some (vI 0)]) (And.intro rfl (And.intro rfl (And.intro rfl (And.intro rfl trivial)))) ?_
  refine tX12_counted_L4 Θ l _ _  ?_ _ _ _ _
  intro v27 s28
  refine j_iconst (v := 0) 77 dX12_counted_76 rfl (by decide) ?_
  refine j_istore_n (i := 3) (ls' := [some (vR 68), some (vI a1), some (vI v27), some (vI 0)]) 78 dX12_counted_77 rfl rfl (by decide) rfl rfl ?_
  refine j_sub (ls' := [some (vR 68), some (vI a1), some (vI v27), some (vI 0)]) (And.intro rfl (And.intro rfl (And.intro rfl (And.intro rfl trivial)))) ?_
  refine tX12_counted_L78 Θ l _ _  ?_ _ _ _ _
  intro v36 s37
  refine j_iconst (v := 0) 114 dX12_counted_113 rfl (by decide) ?_
  refine j_istore_n (i := 3) (ls' := [some (vR 68), some (vI a1), some (vI v36), some (vI 0)]) 115 dX12_counted_114 rfl rfl (by decide) rfl rfl ?_
  refine j_sub (ls' := [some (vR 68), some (vI a1), some (vI v36), some (vI 0)]) (And.intro rfl (And.intro rfl (And.intro rfl (And.intro rfl trivial)))) ?_
  refine tX12_counted_L115 Θ l _ _  ?_ _ _ _ _
  intro v45 s46
  refine j_iload_n 150 dX12_counted_149 rfl rfl ?_
  refine j_ite (fun c47 => ?_) (fun c47 => ?_)
  · refine j_tabIn (v := 0) 204 dX12_counted_150 c47 (by decide) (by decide) rfl (by decide) ?_
    refine j_aload_n 205 dX12_counted_204 rfl rfl ?_
    refine s_getI 208 fa68_10 w_1216 dX12_counted_205 rfl ?_
    exact s_iret dX12_counted_208 rfl
  refine j_ite (fun c48 => ?_) (fun c48 => ?_)
  · refine j_tabIn (v := 1) 209 dX12_counted_150 c48 (by decide) (by decide) rfl (by decide) ?_
    refine j_aload_n 210 dX12_counted_209 rfl rfl ?_
    refine s_getI 213 fa68_12 w_1218 dX12_counted_210 rfl ?_
    exact s_iret dX12_counted_213 rfl
  refine j_ite (fun c49 => ?_) (fun c49 => ?_)
  · refine j_tabIn (v := 2) 214 dX12_counted_150 c49 (by decide) (by decide) rfl (by decide) ?_
    refine j_aload_n 215 dX12_counted_214 rfl rfl ?_
    refine s_callVi (M2 := mX12_seatedMany) [] 218 oa68 cc12 mkX12_seatedMany w_1612 dX12_counted_215 rfl rfl (tX12_seatedMany Θ l   _) (by first | exact Nat.le_of_ble_eq_true rfl | omega) (Nat.le_of_ble_eq_true rfl) (Nat.le_of_ble_eq_true rfl) (fun r50 s51 => ?_)
    exact s_iret dX12_counted_218 rfl
  refine j_ite (fun c52 => ?_) (fun c52 => ?_)
  · refine j_tabIn (v := 3) 219 dX12_counted_150 c52 (by decide) (by decide) rfl (by decide) ?_
    refine j_aload_n 220 dX12_counted_219 rfl rfl ?_
    refine s_getI 223 fa68_19 w_1225 dX12_counted_220 rfl ?_
    exact s_iret dX12_counted_223 rfl
  refine j_ite (fun c53 => ?_) (fun c53 => ?_)
  · refine j_tabIn (v := 4) 234 dX12_counted_150 c53 (by decide) (by decide) rfl (by decide) ?_
    refine j_iload_n 235 dX12_counted_234 rfl rfl ?_
    exact s_iret dX12_counted_235 rfl
  refine j_ite (fun c54 => ?_) (fun c54 => ?_)
  · refine j_tabIn (v := 5) 234 dX12_counted_150 c54 (by decide) (by decide) rfl (by decide) ?_
    refine j_iload_n 235 dX12_counted_234 rfl rfl ?_
    exact s_iret dX12_counted_235 rfl
  refine j_ite (fun c55 => ?_) (fun c55 => ?_)
  · refine j_tabIn (v := 6) 234 dX12_counted_150 c55 (by decide) (by decide) rfl (by decide) ?_
    refine j_iload_n 235 dX12_counted_234 rfl rfl ?_
    exact s_iret dX12_counted_235 rfl
  refine j_ite (fun c56 => ?_) (fun c56 => ?_)
  · refine j_tabIn (v := 7) 234 dX12_counted_150 c56 (by decide) (by decide) rfl (by decide) ?_
    refine j_iload_n 235 dX12_counted_234 rfl rfl ?_
    exact s_iret dX12_counted_235 rfl
  refine j_ite (fun c57 => ?_) (fun c57 => ?_)
  · refine j_tabIn (v := 8) 224 dX12_counted_150 c57 (by decide) (by decide) rfl (by decide) ?_
    refine j_aload_n 225 dX12_counted_224 rfl rfl ?_
    refine s_getI 228 fa68_29 w_1235 dX12_counted_225 rfl ?_
    exact s_iret dX12_counted_228 rfl
  refine j_ite (fun c58 => ?_) (fun c58 => ?_)
  · refine j_tabIn (v := 9) 229 dX12_counted_150 c58 (by decide) (by decide) rfl (by decide) ?_
    refine j_aload_n 230 dX12_counted_229 rfl rfl ?_
    refine s_getI 233 fa68_32 w_1238 dX12_counted_230 rfl ?_
    exact s_iret dX12_counted_233 rfl
  refine j_tabOut 234 dX12_counted_150 (by have z0 := lv_neT c47 (a := 0) (by decide); have z1 := lv_neT c48 (a := 1) (by decide); have z2 := lv_neT c49 (a := 2) (by decide); have z3 := lv_neT c52 (a := 3) (by decide); have z4 := lv_neT c53 (a := 4) (by decide); have z5 := lv_neT c54 (a := 5) (by decide); have z6 := lv_neT c55 (a := 6) (by decide); have z7 := lv_neT c56 (a := 7) (by decide); have z8 := lv_neT c57 (a := 8) (by decide); have z9 := lv_neT c58 (a := 9) (by decide); omega) (by decide) ?_
  refine j_iload_n 235 dX12_counted_234 rfl rfl ?_
  exact s_iret dX12_counted_235 rfl
-- X12_count
def fX12_count  (a1 : Int32) (s : Mem) : Option (Int32 × Mem) :=
bnd (fX12_in a1 0 9 s) (fun r1 s2 =>
if r1 = 0 then
  some ((-1), s2)
else
  bnd (fX12_counted a1 s2) (fun r4 s5 =>
  some (r4, s5)))
theorem tX12_count (Θ : Th) (l : Launch)  (a1 : Int32)  (s : Mem) : Cs Θ l mX12_count 3 gI [vR 68, vI a1] s (fX12_count a1 s) := by
  refine ct_of (by decide) [some (vR 68), some (vI a1)] rfl (Nat.le_of_ble_eq_true rfl) ?_
  unfold fX12_count
  refine j_iload_n 1 dX12_count_0 rfl rfl ?_
  refine j_iconst (v := 0) 2 dX12_count_1 rfl (by decide) ?_
  refine j_bipush (v := 9) 4 dX12_count_2 rfl (by decide) ?_
  refine s_callSi (M2 := mX12_in) [vI a1, vI 0, vI 9] 7 mkX12_in (Or.inl w_1380) dX12_count_4 rfl rfl (tX12_in Θ l _ _ _  _) (by first | exact Nat.le_of_ble_eq_true rfl | omega) (Nat.le_of_ble_eq_true rfl) (Nat.le_of_ble_eq_true rfl) (fun r1 s2 => ?_)
  refine j_if_eq 18 10 dX12_count_7 (by decide) rfl (fun c3 => ?_) (fun c3 => ?_)
  · refine j_iconst (v := (-1)) 19 dX12_count_18 rfl (by decide) ?_
    exact s_iret dX12_count_19 rfl
  · refine j_aload_n 11 dX12_count_10 rfl rfl ?_
    refine j_iload_n 12 dX12_count_11 rfl rfl ?_
    refine s_callVi (M2 := mX12_counted) [vI a1] 15 oa68 cc12 mkX12_counted w_1763 dX12_count_12 rfl rfl (tX12_counted Θ l _  _) (by first | exact Nat.le_of_ble_eq_true rfl | omega) (Nat.le_of_ble_eq_true rfl) (Nat.le_of_ble_eq_true rfl) (fun r4 s5 => ?_)
    refine j_goto 19 dX12_count_15 (by decide) ?_
    exact s_iret dX12_count_19 rfl
-- X12_mix
def fX12_mix  (a1 : Int64) (s : Mem) : Option (Unit × Mem) :=
some ((), wL s 68 54 ((31 * (s.2 68 54)) + a1))
theorem tX12_mix (Θ : Th) (l : Launch)  (a1 : Int64)  (s : Mem) : Cs Θ l mX12_mix 1 gU [vR 68, vL a1] s (fX12_mix a1 s) := by
  refine ct_of (by decide) [some (vR 68), some (vL a1), none] rfl (Nat.le_of_ble_eq_true rfl) ?_
  unfold fX12_mix
  refine j_aload_n 1 dX12_mix_0 rfl rfl ?_
  refine j_ldc2 (v := 31) 4 dX12_mix_1 rfl w_1776 ?_
  refine j_aload_n 5 dX12_mix_4 rfl rfl ?_
  refine s_getL 8 fa68_54 w_1260 dX12_mix_5 rfl ?_
  refine j_lmul 9 dX12_mix_8 rfl ?_
  refine j_lload_n 10 dX12_mix_9 rfl rfl ?_
  refine j_ladd 11 dX12_mix_10 rfl ?_
  refine s_putL 14 fa68_54 w_1260 dX12_mix_11 rfl ?_
  exact s_ret dX12_mix_14 rfl
-- X12_mixBarge
def fX12_mixBarge_L30  (κ : Mem → Option (Unit × Mem)) (y1 : Int32) : Nat → Int32 → Mem → Option (Unit × Mem)
  | 0, _, _ => none
  | k + 1, x2, s =>
    if x2 < 4 then
      bnd (fX12_benchTells y1 x2 s) (fun r7 s8 =>
      bnd (fX12_mix (Int32.toInt64 r7) s8) (fun r9 s10 =>
      fX12_mixBarge_L30 κ y1 k (x2 + 1) s10))
    else
      κ s
def fX12_mixBarge_L20  (κ : Mem → Option (Unit × Mem))  : Nat → Int32 → Mem → Option (Unit × Mem)
  | 0, _, _ => none
  | k + 1, x1, s =>
    if x1 < (s.1 68 10) then
      fX12_mixBarge_L30 (fun s11 =>
        fX12_mixBarge_L20 κ k (x1 + 1) s11) x1 FU 0 s
    else
      κ s
def fX12_mixBarge_L70  (κ : Mem → Option (Unit × Mem)) (y1 : Int32) : Nat → Int32 → Mem → Option (Unit × Mem)
  | 0, _, _ => none
  | k + 1, x2, s =>
    if x2 < 5 then
      bnd (fX12_guestTells y1 x2 s) (fun r15 s16 =>
      bnd (fX12_mix (Int32.toInt64 r15) s16) (fun r17 s18 =>
      fX12_mixBarge_L70 κ y1 k (x2 + 1) s18))
    else
      κ s
def fX12_mixBarge_L60  (κ : Mem → Option (Unit × Mem))  : Nat → Int32 → Mem → Option (Unit × Mem)
  | 0, _, _ => none
  | k + 1, x1, s =>
    if x1 < (s.1 68 12) then
      fX12_mixBarge_L70 (fun s19 =>
        fX12_mixBarge_L60 κ k (x1 + 1) s19) x1 FU 0 s
    else
      κ s
def fX12_mixBarge_L100  (κ : Mem → Option (Unit × Mem))  : Nat → Int32 → Mem → Option (Unit × Mem)
  | 0, _, _ => none
  | k + 1, x1, s =>
    if x1 < (s.1 68 19) then
      if inb x1 40 = true then
      bnd (fX12_mix (Int32.toInt64 (s.1 80 (ix x1))) s) (fun r23 s24 =>
      fX12_mixBarge_L100 κ k (x1 + 1) s24)
      else none
    else
      κ s
def fX12_mixBarge_L127  (κ : Mem → Option (Unit × Mem))  : Nat → Int32 → Mem → Option (Unit × Mem)
  | 0, _, _ => none
  | k + 1, x1, s =>
    if x1 < (s.1 68 29) then
      if inb x1 8 = true then
      bnd (fX12_mix (Int32.toInt64 (s.1 85 (ix x1))) s) (fun r28 s29 =>
      if inb x1 8 = true then
      bnd (fX12_mix (Int32.toInt64 (s29.1 86 (ix x1))) s29) (fun r31 s32 =>
      fX12_mixBarge_L127 κ k (x1 + 1) s32)
      else none)
      else none
    else
      κ s
def fX12_mixBarge_L188  (κ : Mem → Option (Unit × Mem)) (y1 : Int32) : Nat → Int32 → Mem → Option (Unit × Mem)
  | 0, _, _ => none
  | k + 1, x2, s =>
    if x2 < (s.1 68 12) then
      if inb y1 3 = true then
      if (s.1 88 (ix y1)) = 0 then
        κ s
      else
        if inb ((7 * y1) + x2) 21 = true then
        bnd (fX12_mix (Int32.toInt64 (s.1 89 (ix ((7 * y1) + x2)))) s) (fun r43 s44 =>
        fX12_mixBarge_L188 κ y1 k (x2 + 1) s44)
        else none
      else none
    else
      κ s
def fX12_mixBarge_L165  (κ : Mem → Option (Unit × Mem))  : Nat → Int32 → Mem → Option (Unit × Mem)
  | 0, _, _ => none
  | k + 1, x1, s =>
    if x1 < 3 then
      if inb x1 3 = true then
      if (s.1 88 (ix x1)) = 0 then
        bnd (fX12_mix (-1) s) (fun r37 s38 =>
        fX12_mixBarge_L188 (fun s45 =>
          fX12_mixBarge_L165 κ k (x1 + 1) s45) x1 FU 0 s38)
      else
        fX12_mixBarge_L188 (fun s46 =>
          fX12_mixBarge_L165 κ k (x1 + 1) s46) x1 FU 0 s
      else none
    else
      κ s
def fX12_mixBarge   (s : Mem) : Option (Unit × Mem) :=
bnd (fX12_mix (Int32.toInt64 (s.1 68 17)) s) (fun r1 s2 =>
bnd (fX12_mix (Int32.toInt64 (s2.1 68 18)) s2) (fun r3 s4 =>
fX12_mixBarge_L20 (fun s12 =>
  fX12_mixBarge_L60 (fun s20 =>
    fX12_mixBarge_L100 (fun s25 =>
      fX12_mixBarge_L127 (fun s33 =>
        fX12_mixBarge_L165 (fun s47 =>
          some ((), s47))  FU 0 s33)  FU 0 s25)  FU 0 s20)  FU 0 s12)  FU 0 s4))
theorem tX12_mixBarge_L30 (Θ : Th) (l : Launch)  (κ : Mem → Option (Unit × Mem)) (y1 : Int32)  (hκ : ∀  (s : Mem), Js Θ l mX12_mixBarge 4 gU 52 [some (vR 68), some (vI y1), none] [] s (κ  s)) : ∀ (k : Nat) (x2 : Int32) (s : Mem), Js Θ l mX12_mixBarge 4 gU 30 [some (vR 68), some (vI y1), some (vI x2)] [] s (fX12_mixBarge_L30 κ y1 k x2 s) := by
  intro k
  induction k with
  | zero => intro x2 s; exact j_none
  | succ k ih =>
    intro x2 s
    rw [fX12_mixBarge_L30]
    refine j_iload_n 31 dX12_mixBarge_30 rfl rfl ?_
    refine j_iconst (v := 4) 32 dX12_mixBarge_31 rfl (by decide) ?_
    refine j_icmp_ge 52 35 dX12_mixBarge_32 (by decide) rfl (fun c6 => ?_) (fun c6 => ?_)
    · refine j_aload_n 36 dX12_mixBarge_35 rfl rfl ?_
      refine j_aload_n 37 dX12_mixBarge_36 rfl rfl ?_
      refine j_iload_n 38 dX12_mixBarge_37 rfl rfl ?_
      refine j_iload_n 39 dX12_mixBarge_38 rfl rfl ?_
      refine s_callVi (M2 := mX12_benchTells) [vI y1, vI x2] 42 oa68 cc12 mkX12_benchTells w_1495 dX12_mixBarge_39 rfl rfl (tX12_benchTells Θ l _ _  _) (by first | exact Nat.le_of_ble_eq_true rfl | omega) (Nat.le_of_ble_eq_true rfl) (Nat.le_of_ble_eq_true rfl) (fun r7 s8 => ?_)
      refine j_i2l 43 dX12_mixBarge_42 rfl ?_
      refine s_callVu (M2 := mX12_mix) [vL (Int32.toInt64 r7)] 46 oa68 cc12 mkX12_mix w_1772 dX12_mixBarge_43 rfl rfl (tX12_mix Θ l _  _) (by first | exact Nat.le_of_ble_eq_true rfl | omega) (Nat.le_of_ble_eq_true rfl) (Nat.le_of_ble_eq_true rfl) (fun r9 s10 => ?_)
      refine j_iinc (v := x2 + 1) (ls' := [some (vR 68), some (vI y1), some (vI (x2 + 1))]) 49 dX12_mixBarge_46 rfl rfl rfl (by decide) rfl rfl ?_
      refine j_goto 30 dX12_mixBarge_49 (by decide) ?_
      refine j_sub (ls' := [some (vR 68), some (vI y1), some (vI (x2 + 1))]) (And.intro rfl (And.intro rfl (And.intro rfl trivial))) ?_
      exact ih (x2 + 1) s10
    · refine j_sub (ls' := [some (vR 68), some (vI y1), none]) (And.intro rfl (And.intro rfl trivial)) ?_
      exact hκ s
theorem tX12_mixBarge_L20 (Θ : Th) (l : Launch)  (κ : Mem → Option (Unit × Mem))   (hκ : ∀  (s : Mem), Js Θ l mX12_mixBarge 4 gU 58 [some (vR 68), none, none] [] s (κ  s)) : ∀ (k : Nat) (x1 : Int32) (s : Mem), Js Θ l mX12_mixBarge 4 gU 20 [some (vR 68), some (vI x1), none] [] s (fX12_mixBarge_L20 κ  k x1 s) := by
  intro k
  induction k with
  | zero => intro x1 s; exact j_none
  | succ k ih =>
    intro x1 s
    rw [fX12_mixBarge_L20]
    refine j_iload_n 21 dX12_mixBarge_20 rfl rfl ?_
    refine j_aload_n 22 dX12_mixBarge_21 rfl rfl ?_
    refine s_getI 25 fa68_10 w_1216 dX12_mixBarge_22 rfl ?_
    refine j_icmp_ge 58 28 dX12_mixBarge_25 (by decide) rfl (fun c5 => ?_) (fun c5 => ?_)
    · refine j_iconst (v := 0) 29 dX12_mixBarge_28 rfl (by decide) ?_
      refine j_istore_n (i := 2) (ls' := [some (vR 68), some (vI x1), some (vI 0)]) 30 dX12_mixBarge_29 rfl rfl (by decide) rfl rfl ?_
      refine j_sub (ls' := [some (vR 68), some (vI x1), some (vI 0)]) (And.intro rfl (And.intro rfl (And.intro rfl trivial))) ?_
      refine tX12_mixBarge_L30 Θ l _ _  ?_ _ _ _
      intro s11
      refine j_iinc (v := x1 + 1) (ls' := [some (vR 68), some (vI (x1 + 1)), none]) 55 dX12_mixBarge_52 rfl rfl rfl (by decide) rfl rfl ?_
      refine j_goto 20 dX12_mixBarge_55 (by decide) ?_
      refine j_sub (ls' := [some (vR 68), some (vI (x1 + 1)), none]) (And.intro rfl (And.intro rfl trivial)) ?_
      exact ih (x1 + 1) s11
    · refine j_sub (ls' := [some (vR 68), none, none]) (And.intro rfl trivial) ?_
      exact hκ s
theorem tX12_mixBarge_L70 (Θ : Th) (l : Launch)  (κ : Mem → Option (Unit × Mem)) (y1 : Int32)  (hκ : ∀  (s : Mem), Js Θ l mX12_mixBarge 4 gU 92 [some (vR 68), some (vI y1), none] [] s (κ  s)) : ∀ (k : Nat) (x2 : Int32) (s : Mem), Js Θ l mX12_mixBarge 4 gU 70 [some (vR 68), some (vI y1), some (vI x2)] [] s (fX12_mixBarge_L70 κ y1 k x2 s) := by
  intro k
  induction k with
  | zero => intro x2 s; exact j_none
  | succ k ih =>
    intro x2 s
    rw [fX12_mixBarge_L70]
    refine j_iload_n 71 dX12_mixBarge_70 rfl rfl ?_
    refine j_iconst (v := 5) 72 dX12_mixBarge_71 rfl (by decide) ?_
    refine j_icmp_ge 92 75 dX12_mixBarge_72 (by decide) rfl (fun c14 => ?_) (fun c14 => ?_)
    · refine j_aload_n 76 dX12_mixBarge_75 rfl rfl ?_
      refine j_aload_n 77 dX12_mixBarge_76 rfl rfl ?_
      refine j_iload_n 78 dX12_mixBarge_77 rfl rfl ?_
      refine j_iload_n 79 dX12_mixBarge_78 rfl rfl ?_
      refine s_callVi (M2 := mX12_guestTells) [vI y1, vI x2] 82 oa68 cc12 mkX12_guestTells w_1523 dX12_mixBarge_79 rfl rfl (tX12_guestTells Θ l _ _  _) (by first | exact Nat.le_of_ble_eq_true rfl | omega) (Nat.le_of_ble_eq_true rfl) (Nat.le_of_ble_eq_true rfl) (fun r15 s16 => ?_)
      refine j_i2l 83 dX12_mixBarge_82 rfl ?_
      refine s_callVu (M2 := mX12_mix) [vL (Int32.toInt64 r15)] 86 oa68 cc12 mkX12_mix w_1772 dX12_mixBarge_83 rfl rfl (tX12_mix Θ l _  _) (by first | exact Nat.le_of_ble_eq_true rfl | omega) (Nat.le_of_ble_eq_true rfl) (Nat.le_of_ble_eq_true rfl) (fun r17 s18 => ?_)
      refine j_iinc (v := x2 + 1) (ls' := [some (vR 68), some (vI y1), some (vI (x2 + 1))]) 89 dX12_mixBarge_86 rfl rfl rfl (by decide) rfl rfl ?_
      refine j_goto 70 dX12_mixBarge_89 (by decide) ?_
      refine j_sub (ls' := [some (vR 68), some (vI y1), some (vI (x2 + 1))]) (And.intro rfl (And.intro rfl (And.intro rfl trivial))) ?_
      exact ih (x2 + 1) s18
    · refine j_sub (ls' := [some (vR 68), some (vI y1), none]) (And.intro rfl (And.intro rfl trivial)) ?_
      exact hκ s
theorem tX12_mixBarge_L60 (Θ : Th) (l : Launch)  (κ : Mem → Option (Unit × Mem))   (hκ : ∀  (s : Mem), Js Θ l mX12_mixBarge 4 gU 98 [some (vR 68), none, none] [] s (κ  s)) : ∀ (k : Nat) (x1 : Int32) (s : Mem), Js Θ l mX12_mixBarge 4 gU 60 [some (vR 68), some (vI x1), none] [] s (fX12_mixBarge_L60 κ  k x1 s) := by
  intro k
  induction k with
  | zero => intro x1 s; exact j_none
  | succ k ih =>
    intro x1 s
    rw [fX12_mixBarge_L60]
    refine j_iload_n 61 dX12_mixBarge_60 rfl rfl ?_
    refine j_aload_n 62 dX12_mixBarge_61 rfl rfl ?_
    refine s_getI 65 fa68_12 w_1218 dX12_mixBarge_62 rfl ?_
    refine j_icmp_ge 98 68 dX12_mixBarge_65 (by decide) rfl (fun c13 => ?_) (fun c13 => ?_)
    · refine j_iconst (v := 0) 69 dX12_mixBarge_68 rfl (by decide) ?_
      refine j_istore_n (i := 2) (ls' := [some (vR 68), some (vI x1), some (vI 0)]) 70 dX12_mixBarge_69 rfl rfl (by decide) rfl rfl ?_
      refine j_sub (ls' := [some (vR 68), some (vI x1), some (vI 0)]) (And.intro rfl (And.intro rfl (And.intro rfl trivial))) ?_
      refine tX12_mixBarge_L70 Θ l _ _  ?_ _ _ _
      intro s19
      refine j_iinc (v := x1 + 1) (ls' := [some (vR 68), some (vI (x1 + 1)), none]) 95 dX12_mixBarge_92 rfl rfl rfl (by decide) rfl rfl ?_
      refine j_goto 60 dX12_mixBarge_95 (by decide) ?_
      refine j_sub (ls' := [some (vR 68), some (vI (x1 + 1)), none]) (And.intro rfl (And.intro rfl trivial)) ?_
      exact ih (x1 + 1) s19
    · refine j_sub (ls' := [some (vR 68), none, none]) (And.intro rfl trivial) ?_
      exact hκ s
theorem tX12_mixBarge_L100 (Θ : Th) (l : Launch)  (κ : Mem → Option (Unit × Mem))   (hκ : ∀  (s : Mem), Js Θ l mX12_mixBarge 4 gU 125 [some (vR 68), none, none] [] s (κ  s)) : ∀ (k : Nat) (x1 : Int32) (s : Mem), Js Θ l mX12_mixBarge 4 gU 100 [some (vR 68), some (vI x1), none] [] s (fX12_mixBarge_L100 κ  k x1 s) := by
  intro k
  induction k with
  | zero => intro x1 s; exact j_none
  | succ k ih =>
    intro x1 s
    rw [fX12_mixBarge_L100]
    refine j_iload_n 101 dX12_mixBarge_100 rfl rfl ?_
    refine j_aload_n 102 dX12_mixBarge_101 rfl rfl ?_
    refine s_getI 105 fa68_19 w_1225 dX12_mixBarge_102 rfl ?_
    refine j_icmp_ge 125 108 dX12_mixBarge_105 (by decide) rfl (fun c21 => ?_) (fun c21 => ?_)
    · refine j_aload_n 109 dX12_mixBarge_108 rfl rfl ?_
      refine j_aload_n 110 dX12_mixBarge_109 rfl rfl ?_
      refine s_getR (x := 80) 113 fa68_20 w_1226 dX12_mixBarge_110 rfl (by decide +kernel) ?_
      refine j_iload_n 114 dX12_mixBarge_113 rfl rfl ?_
      refine s_iaload 115 aa80 dX12_mixBarge_114 rfl (fun b22 => ?_)
      refine j_i2l 116 dX12_mixBarge_115 rfl ?_
      refine s_callVu (M2 := mX12_mix) [vL (Int32.toInt64 (s.1 80 (ix x1)))] 119 oa68 cc12 mkX12_mix w_1772 dX12_mixBarge_116 rfl rfl (tX12_mix Θ l _  _) (by first | exact Nat.le_of_ble_eq_true rfl | omega) (Nat.le_of_ble_eq_true rfl) (Nat.le_of_ble_eq_true rfl) (fun r23 s24 => ?_)
      refine j_iinc (v := x1 + 1) (ls' := [some (vR 68), some (vI (x1 + 1)), none]) 122 dX12_mixBarge_119 rfl rfl rfl (by decide) rfl rfl ?_
      refine j_goto 100 dX12_mixBarge_122 (by decide) ?_
      refine j_sub (ls' := [some (vR 68), some (vI (x1 + 1)), none]) (And.intro rfl (And.intro rfl trivial)) ?_
      exact ih (x1 + 1) s24
    · refine j_sub (ls' := [some (vR 68), none, none]) (And.intro rfl trivial) ?_
      exact hκ s
theorem tX12_mixBarge_L127 (Θ : Th) (l : Launch)  (κ : Mem → Option (Unit × Mem))   (hκ : ∀  (s : Mem), Js Θ l mX12_mixBarge 4 gU 163 [some (vR 68), none, none] [] s (κ  s)) : ∀ (k : Nat) (x1 : Int32) (s : Mem), Js Θ l mX12_mixBarge 4 gU 127 [some (vR 68), some (vI x1), none] [] s (fX12_mixBarge_L127 κ  k x1 s) := by
  intro k
  induction k with
  | zero => intro x1 s; exact j_none
  | succ k ih =>
    intro x1 s
    rw [fX12_mixBarge_L127]
    refine j_iload_n 128 dX12_mixBarge_127 rfl rfl ?_
    refine j_aload_n 129 dX12_mixBarge_128 rfl rfl ?_
    refine s_getI 132 fa68_29 w_1235 dX12_mixBarge_129 rfl ?_
    refine j_icmp_ge 163 135 dX12_mixBarge_132 (by decide) rfl (fun c26 => ?_) (fun c26 => ?_)
    · refine j_aload_n 136 dX12_mixBarge_135 rfl rfl ?_
      refine j_aload_n 137 dX12_mixBarge_136 rfl rfl ?_
      refine s_getR (x := 85) 140 fa68_30 w_1236 dX12_mixBarge_137 rfl (by decide +kernel) ?_
      refine j_iload_n 141 dX12_mixBarge_140 rfl rfl ?_
      refine s_iaload 142 aa85 dX12_mixBarge_141 rfl (fun b27 => ?_)
      refine j_i2l 143 dX12_mixBarge_142 rfl ?_
      refine s_callVu (M2 := mX12_mix) [vL (Int32.toInt64 (s.1 85 (ix x1)))] 146 oa68 cc12 mkX12_mix w_1772 dX12_mixBarge_143 rfl rfl (tX12_mix Θ l _  _) (by first | exact Nat.le_of_ble_eq_true rfl | omega) (Nat.le_of_ble_eq_true rfl) (Nat.le_of_ble_eq_true rfl) (fun r28 s29 => ?_)
      refine j_aload_n 147 dX12_mixBarge_146 rfl rfl ?_
      refine j_aload_n 148 dX12_mixBarge_147 rfl rfl ?_
      refine s_getR (x := 86) 151 fa68_31 w_1237 dX12_mixBarge_148 rfl (by decide +kernel) ?_
      refine j_iload_n 152 dX12_mixBarge_151 rfl rfl ?_
      refine s_iaload 153 aa86 dX12_mixBarge_152 rfl (fun b30 => ?_)
      refine j_i2l 154 dX12_mixBarge_153 rfl ?_
      refine s_callVu (M2 := mX12_mix) [vL (Int32.toInt64 (s29.1 86 (ix x1)))] 157 oa68 cc12 mkX12_mix w_1772 dX12_mixBarge_154 rfl rfl (tX12_mix Θ l _  _) (by first | exact Nat.le_of_ble_eq_true rfl | omega) (Nat.le_of_ble_eq_true rfl) (Nat.le_of_ble_eq_true rfl) (fun r31 s32 => ?_)
      refine j_iinc (v := x1 + 1) (ls' := [some (vR 68), some (vI (x1 + 1)), none]) 160 dX12_mixBarge_157 rfl rfl rfl (by decide) rfl rfl ?_
      refine j_goto 127 dX12_mixBarge_160 (by decide) ?_
      refine j_sub (ls' := [some (vR 68), some (vI (x1 + 1)), none]) (And.intro rfl (And.intro rfl trivial)) ?_
      exact ih (x1 + 1) s32
    · refine j_sub (ls' := [some (vR 68), none, none]) (And.intro rfl trivial) ?_
      exact hκ s
theorem tX12_mixBarge_L188 (Θ : Th) (l : Launch)  (κ : Mem → Option (Unit × Mem)) (y1 : Int32)  (hκ : ∀  (s : Mem), Js Θ l mX12_mixBarge 4 gU 227 [some (vR 68), some (vI y1), none] [] s (κ  s)) : ∀ (k : Nat) (x2 : Int32) (s : Mem), Js Θ l mX12_mixBarge 4 gU 188 [some (vR 68), some (vI y1), some (vI x2)] [] s (fX12_mixBarge_L188 κ y1 k x2 s) := by
  intro k
  induction k with
  | zero => intro x2 s; exact j_none
  | succ k ih =>
    intro x2 s
    rw [fX12_mixBarge_L188]
    refine j_iload_n 189 dX12_mixBarge_188 rfl rfl ?_
    refine j_aload_n 190 dX12_mixBarge_189 rfl rfl ?_
    refine s_getI 193 fa68_12 w_1218 dX12_mixBarge_190 rfl ?_
    refine j_icmp_ge 227 196 dX12_mixBarge_193 (by decide) rfl (fun c39 => ?_) (fun c39 => ?_)
    · refine j_aload_n 197 dX12_mixBarge_196 rfl rfl ?_
      refine s_getR (x := 88) 200 fa68_34 w_1240 dX12_mixBarge_197 rfl (by decide +kernel) ?_
      refine j_iload_n 201 dX12_mixBarge_200 rfl rfl ?_
      refine s_baload 202 (Or.inr aa88) dX12_mixBarge_201 rfl (fun b40 => ?_)
      refine j_if_eq 227 205 dX12_mixBarge_202 (by decide) rfl (fun c41 => ?_) (fun c41 => ?_)
      · refine j_sub (ls' := [some (vR 68), some (vI y1), none]) (And.intro rfl (And.intro rfl trivial)) ?_
        exact hκ s
      · refine j_aload_n 206 dX12_mixBarge_205 rfl rfl ?_
        refine j_aload_n 207 dX12_mixBarge_206 rfl rfl ?_
        refine s_getR (x := 89) 210 fa68_35 w_1241 dX12_mixBarge_207 rfl (by decide +kernel) ?_
        refine j_bipush (v := 7) 212 dX12_mixBarge_210 rfl (by decide) ?_
        refine j_iload_n 213 dX12_mixBarge_212 rfl rfl ?_
        refine j_imul 214 dX12_mixBarge_213 rfl ?_
        refine j_iload_n 215 dX12_mixBarge_214 rfl rfl ?_
        refine j_iadd 216 dX12_mixBarge_215 rfl ?_
        refine s_iaload 217 aa89 dX12_mixBarge_216 rfl (fun b42 => ?_)
        refine j_i2l 218 dX12_mixBarge_217 rfl ?_
        refine s_callVu (M2 := mX12_mix) [vL (Int32.toInt64 (s.1 89 (ix ((7 * y1) + x2))))] 221 oa68 cc12 mkX12_mix w_1772 dX12_mixBarge_218 rfl rfl (tX12_mix Θ l _  _) (by first | exact Nat.le_of_ble_eq_true rfl | omega) (Nat.le_of_ble_eq_true rfl) (Nat.le_of_ble_eq_true rfl) (fun r43 s44 => ?_)
        refine j_iinc (v := x2 + 1) (ls' := [some (vR 68), some (vI y1), some (vI (x2 + 1))]) 224 dX12_mixBarge_221 rfl rfl rfl (by decide) rfl rfl ?_
        refine j_goto 188 dX12_mixBarge_224 (by decide) ?_
        refine j_sub (ls' := [some (vR 68), some (vI y1), some (vI (x2 + 1))]) (And.intro rfl (And.intro rfl (And.intro rfl trivial))) ?_
        exact ih (x2 + 1) s44
    · refine j_sub (ls' := [some (vR 68), some (vI y1), none]) (And.intro rfl (And.intro rfl trivial)) ?_
      exact hκ s
theorem tX12_mixBarge_L165 (Θ : Th) (l : Launch)  (κ : Mem → Option (Unit × Mem))   (hκ : ∀  (s : Mem), Js Θ l mX12_mixBarge 4 gU 233 [none, none, none] [] s (κ  s)) : ∀ (k : Nat) (x1 : Int32) (s : Mem), Js Θ l mX12_mixBarge 4 gU 165 [some (vR 68), some (vI x1), none] [] s (fX12_mixBarge_L165 κ  k x1 s) := by
  intro k
  induction k with
  | zero => intro x1 s; exact j_none
  | succ k ih =>
    intro x1 s
    rw [fX12_mixBarge_L165]
    refine j_iload_n 166 dX12_mixBarge_165 rfl rfl ?_
    refine j_iconst (v := 3) 167 dX12_mixBarge_166 rfl (by decide) ?_
    refine j_icmp_ge 233 170 dX12_mixBarge_167 (by decide) rfl (fun c34 => ?_) (fun c34 => ?_)
    · refine j_aload_n 171 dX12_mixBarge_170 rfl rfl ?_
      refine s_getR (x := 88) 174 fa68_34 w_1240 dX12_mixBarge_171 rfl (by decide +kernel) ?_
      refine j_iload_n 175 dX12_mixBarge_174 rfl rfl ?_
      refine s_baload 176 (Or.inr aa88) dX12_mixBarge_175 rfl (fun b35 => ?_)
      refine j_if_ne 186 179 dX12_mixBarge_176 (by decide) rfl (fun c36 => ?_) (fun c36 => ?_)
      · refine j_aload_n 180 dX12_mixBarge_179 rfl rfl ?_
        refine j_ldc2 (v := (-1)) 183 dX12_mixBarge_180 rfl w_1781 ?_
        refine s_callVu (M2 := mX12_mix) [vL (-1)] 186 oa68 cc12 mkX12_mix w_1772 dX12_mixBarge_183 rfl rfl (tX12_mix Θ l _  _) (by first | exact Nat.le_of_ble_eq_true rfl | omega) (Nat.le_of_ble_eq_true rfl) (Nat.le_of_ble_eq_true rfl) (fun r37 s38 => ?_)
        refine j_iconst (v := 0) 187 dX12_mixBarge_186 rfl (by decide) ?_
        refine j_istore_n (i := 2) (ls' := [some (vR 68), some (vI x1), some (vI 0)]) 188 dX12_mixBarge_187 rfl rfl (by decide) rfl rfl ?_
        refine j_sub (ls' := [some (vR 68), some (vI x1), some (vI 0)]) (And.intro rfl (And.intro rfl (And.intro rfl trivial))) ?_
        refine tX12_mixBarge_L188 Θ l _ _  ?_ _ _ _
        intro s45
        refine j_iinc (v := x1 + 1) (ls' := [some (vR 68), some (vI (x1 + 1)), none]) 230 dX12_mixBarge_227 rfl rfl rfl (by decide) rfl rfl ?_
        refine j_goto 165 dX12_mixBarge_230 (by decide) ?_
        refine j_sub (ls' := [some (vR 68), some (vI (x1 + 1)), none]) (And.intro rfl (And.intro rfl trivial)) ?_
        exact ih (x1 + 1) s45
      · refine j_iconst (v := 0) 187 dX12_mixBarge_186 rfl (by decide) ?_
        refine j_istore_n (i := 2) (ls' := [some (vR 68), some (vI x1), some (vI 0)]) 188 dX12_mixBarge_187 rfl rfl (by decide) rfl rfl ?_
        refine j_sub (ls' := [some (vR 68), some (vI x1), some (vI 0)]) (And.intro rfl (And.intro rfl (And.intro rfl trivial))) ?_
        refine tX12_mixBarge_L188 Θ l _ _  ?_ _ _ _
        intro s46
        refine j_iinc (v := x1 + 1) (ls' := [some (vR 68), some (vI (x1 + 1)), none]) 230 dX12_mixBarge_227 rfl rfl rfl (by decide) rfl rfl ?_
        refine j_goto 165 dX12_mixBarge_230 (by decide) ?_
        refine j_sub (ls' := [some (vR 68), some (vI (x1 + 1)), none]) (And.intro rfl (And.intro rfl trivial)) ?_
        exact ih (x1 + 1) s46
    · refine j_sub (ls' := [none, none, none]) (trivial) ?_
      exact hκ s
theorem tX12_mixBarge (Θ : Th) (l : Launch)    (s : Mem) : Cs Θ l mX12_mixBarge 4 gU [vR 68] s (fX12_mixBarge  s) := by
  refine ct_of (by decide) [some (vR 68), none, none] rfl (Nat.le_of_ble_eq_true rfl) ?_
  unfold fX12_mixBarge
  refine j_aload_n 1 dX12_mixBarge_0 rfl rfl ?_
  refine j_aload_n 2 dX12_mixBarge_1 rfl rfl ?_
  refine s_getI 5 fa68_17 w_1223 dX12_mixBarge_2 rfl ?_
  refine j_i2l 6 dX12_mixBarge_5 rfl ?_
  refine s_callVu (M2 := mX12_mix) [vL (Int32.toInt64 (s.1 68 17))] 9 oa68 cc12 mkX12_mix w_1772 dX12_mixBarge_6 rfl rfl (tX12_mix Θ l _  _) (by first | exact Nat.le_of_ble_eq_true rfl | omega) (Nat.le_of_ble_eq_true rfl) (Nat.le_of_ble_eq_true rfl) (fun r1 s2 => ?_)
  refine j_aload_n 10 dX12_mixBarge_9 rfl rfl ?_
  refine j_aload_n 11 dX12_mixBarge_10 rfl rfl ?_
  refine s_getI 14 fa68_18 w_1224 dX12_mixBarge_11 rfl ?_
  refine j_i2l 15 dX12_mixBarge_14 rfl ?_
  refine s_callVu (M2 := mX12_mix) [vL (Int32.toInt64 (s2.1 68 18))] 18 oa68 cc12 mkX12_mix w_1772 dX12_mixBarge_15 rfl rfl (tX12_mix Θ l _  _) (by first | exact Nat.le_of_ble_eq_true rfl | omega) (Nat.le_of_ble_eq_true rfl) (Nat.le_of_ble_eq_true rfl) (fun r3 s4 => ?_)
  refine j_iconst (v := 0) 19 dX12_mixBarge_18 rfl (by decide) ?_
  refine j_istore_n (i := 1) (ls' := [some (vR 68), some (vI 0), none]) 20 dX12_mixBarge_19 rfl rfl (by decide) rfl rfl ?_
  refine j_sub (ls' := [some (vR 68), some (vI 0), none]) (And.intro rfl (And.intro rfl trivial)) ?_
  refine tX12_mixBarge_L20 Θ l _   ?_ _ _ _
  intro s12
  refine j_iconst (v := 0) 59 dX12_mixBarge_58 rfl (by decide) ?_
  refine j_istore_n (i := 1) (ls' := [some (vR 68), some (vI 0), none]) 60 dX12_mixBarge_59 rfl rfl (by decide) rfl rfl ?_
  refine j_sub (ls' := [some (vR 68), some (vI 0), none]) (And.intro rfl (And.intro rfl trivial)) ?_
  refine tX12_mixBarge_L60 Θ l _   ?_ _ _ _
  intro s20
  refine j_iconst (v := 0) 99 dX12_mixBarge_98 rfl (by decide) ?_
  refine j_istore_n (i := 1) (ls' := [some (vR 68), some (vI 0), none]) 100 dX12_mixBarge_99 rfl rfl (by decide) rfl rfl ?_
  refine j_sub (ls' := [some (vR 68), some (vI 0), none]) (And.intro rfl (And.intro rfl trivial)) ?_
  refine tX12_mixBarge_L100 Θ l _   ?_ _ _ _
  intro s25
  refine j_iconst (v := 0) 126 dX12_mixBarge_125 rfl (by decide) ?_
  refine j_istore_n (i := 1) (ls' := [some (vR 68), some (vI 0), none]) 127 dX12_mixBarge_126 rfl rfl (by decide) rfl rfl ?_
  refine j_sub (ls' := [some (vR 68), some (vI 0), none]) (And.intro rfl (And.intro rfl trivial)) ?_
  refine tX12_mixBarge_L127 Θ l _   ?_ _ _ _
  intro s33
  refine j_iconst (v := 0) 164 dX12_mixBarge_163 rfl (by decide) ?_
  refine j_istore_n (i := 1) (ls' := [some (vR 68), some (vI 0), none]) 165 dX12_mixBarge_164 rfl rfl (by decide) rfl rfl ?_
  refine j_sub (ls' := [some (vR 68), some (vI 0), none]) (And.intro rfl (And.intro rfl trivial)) ?_
  refine tX12_mixBarge_L165 Θ l _   ?_ _ _ _
  intro s47
  exact s_ret dX12_mixBarge_233 rfl
-- X12_digest
def fX12_digest_L9  (κ : Mem → Option (Int64 × Mem))  : Nat → Int32 → Mem → Option (Int64 × Mem)
  | 0, _, _ => none
  | k + 1, x1, s =>
    if x1 < 10 then
      bnd (fX12_counted x1 s) (fun r2 s3 =>
      bnd (fX12_mix (Int32.toInt64 r2) s3) (fun r4 s5 =>
      fX12_digest_L9 κ k (x1 + 1) s5))
    else
      κ s
def fX12_digest_L56  (κ : Mem → Option (Int64 × Mem)) (y1 : Int32) : Nat → Int32 → Mem → Option (Int64 × Mem)
  | 0, _, _ => none
  | k + 1, x2, s =>
    if inb y1 6 = true then
    if x2 < (s.1 70 (ix y1)) then
      bnd (fX12_rowAt y1 x2 s) (fun r15 s16 =>
      bnd (fX12_mix (Int32.toInt64 r15) s16) (fun r17 s18 =>
      fX12_digest_L56 κ y1 k (x2 + 1) s18))
    else
      κ s
    else none
def fX12_digest_L37  (κ : Mem → Option (Int64 × Mem))  : Nat → Int32 → Mem → Option (Int64 × Mem)
  | 0, _, _ => none
  | k + 1, x1, s =>
    if x1 < 6 then
      if inb x1 6 = true then
      bnd (fX12_mix (Int32.toInt64 (s.1 70 (ix x1))) s) (fun r11 s12 =>
      fX12_digest_L56 (fun s19 =>
        fX12_digest_L37 κ k (x1 + 1) s19) x1 FU 0 s12)
      else none
    else
      κ s
def fX12_digest_L109  (κ : Mem → Option (Int64 × Mem)) (y1 : Int32) : Nat → Int32 → Mem → Option (Int64 × Mem)
  | 0, _, _ => none
  | k + 1, x2, s =>
    if inb y1 4 = true then
    if x2 < (s.1 73 (ix y1)) then
      bnd (fX12_byteAt y1 x2 s) (fun r27 s28 =>
      bnd (fX12_mix (Int32.toInt64 r27) s28) (fun r29 s30 =>
      fX12_digest_L109 κ y1 k (x2 + 1) s30))
    else
      κ s
    else none
def fX12_digest_L91  (κ : Mem → Option (Int64 × Mem))  : Nat → Int32 → Mem → Option (Int64 × Mem)
  | 0, _, _ => none
  | k + 1, x1, s =>
    if x1 < 4 then
      if inb x1 4 = true then
      bnd (fX12_mix (Int32.toInt64 (s.1 73 (ix x1))) s) (fun r23 s24 =>
      fX12_digest_L109 (fun s31 =>
        fX12_digest_L91 κ k (x1 + 1) s31) x1 FU 0 s24)
      else none
    else
      κ s
def fX12_digest   (s : Mem) : Option (Int64 × Mem) :=
fX12_digest_L9 (fun s6 =>
  bnd (fX12_mixBarge s6) (fun r7 s8 =>
  fX12_digest_L37 (fun s20 =>
    fX12_digest_L91 (fun s32 =>
      some (s32.2 68 54, s32))  FU 0 s20)  FU 0 s8))  FU 0 (wL s 68 54 17)
theorem tX12_digest_L9 (Θ : Th) (l : Launch)  (κ : Mem → Option (Int64 × Mem))   (hκ : ∀  (s : Mem), Js Θ l mX12_digest 5 gL 31 [some (vR 68), none, none] [] s (κ  s)) : ∀ (k : Nat) (x1 : Int32) (s : Mem), Js Θ l mX12_digest 5 gL 9 [some (vR 68), some (vI x1), none] [] s (fX12_digest_L9 κ  k x1 s) := by
  intro k
  induction k with
  | zero => intro x1 s; exact j_none
  | succ k ih =>
    intro x1 s
    rw [fX12_digest_L9]
    refine j_iload_n 10 dX12_digest_9 rfl rfl ?_
    refine j_bipush (v := 10) 12 dX12_digest_10 rfl (by decide) ?_
    refine j_icmp_ge 31 15 dX12_digest_12 (by decide) rfl (fun c1 => ?_) (fun c1 => ?_)
    · refine j_aload_n 16 dX12_digest_15 rfl rfl ?_
      refine j_aload_n 17 dX12_digest_16 rfl rfl ?_
      refine j_iload_n 18 dX12_digest_17 rfl rfl ?_
      refine s_callVi (M2 := mX12_counted) [vI x1] 21 oa68 cc12 mkX12_counted w_1763 dX12_digest_18 rfl rfl (tX12_counted Θ l _  _) (by first | exact Nat.le_of_ble_eq_true rfl | omega) (Nat.le_of_ble_eq_true rfl) (Nat.le_of_ble_eq_true rfl) (fun r2 s3 => ?_)
      refine j_i2l 22 dX12_digest_21 rfl ?_
      refine s_callVu (M2 := mX12_mix) [vL (Int32.toInt64 r2)] 25 oa68 cc12 mkX12_mix w_1772 dX12_digest_22 rfl rfl (tX12_mix Θ l _  _) (by first | exact Nat.le_of_ble_eq_true rfl | omega) (Nat.le_of_ble_eq_true rfl) (Nat.le_of_ble_eq_true rfl) (fun r4 s5 => ?_)
      refine j_iinc (v := x1 + 1) (ls' := [some (vR 68), some (vI (x1 + 1)), none]) 28 dX12_digest_25 rfl rfl rfl (by decide) rfl rfl ?_
      refine j_goto 9 dX12_digest_28 (by decide) ?_
      refine j_sub (ls' := [some (vR 68), some (vI (x1 + 1)), none]) (And.intro rfl (And.intro rfl trivial)) ?_
      exact ih (x1 + 1) s5
    · refine j_sub (ls' := [some (vR 68), none, none]) (And.intro rfl trivial) ?_
      exact hκ s
theorem tX12_digest_L56 (Θ : Th) (l : Launch)  (κ : Mem → Option (Int64 × Mem)) (y1 : Int32)  (hκ : ∀  (s : Mem), Js Θ l mX12_digest 5 gL 83 [some (vR 68), some (vI y1), none] [] s (κ  s)) : ∀ (k : Nat) (x2 : Int32) (s : Mem), Js Θ l mX12_digest 5 gL 56 [some (vR 68), some (vI y1), some (vI x2)] [] s (fX12_digest_L56 κ y1 k x2 s) := by
  intro k
  induction k with
  | zero => intro x2 s; exact j_none
  | succ k ih =>
    intro x2 s
    rw [fX12_digest_L56]
    refine j_iload_n 57 dX12_digest_56 rfl rfl ?_
    refine j_aload_n 58 dX12_digest_57 rfl rfl ?_
    refine s_getR (x := 70) 61 fa68_5 w_1211 dX12_digest_58 rfl (by decide +kernel) ?_
    refine j_iload_n 62 dX12_digest_61 rfl rfl ?_
    refine s_iaload 63 aa70 dX12_digest_62 rfl (fun b13 => ?_)
    refine j_icmp_ge 83 66 dX12_digest_63 (by decide) rfl (fun c14 => ?_) (fun c14 => ?_)
    · refine j_aload_n 67 dX12_digest_66 rfl rfl ?_
      refine j_aload_n 68 dX12_digest_67 rfl rfl ?_
      refine j_iload_n 69 dX12_digest_68 rfl rfl ?_
      refine j_iload_n 70 dX12_digest_69 rfl rfl ?_
      refine s_callVi (M2 := mX12_rowAt) [vI y1, vI x2] 73 oa68 cc12 mkX12_rowAt w_1410 dX12_digest_70 rfl rfl (tX12_rowAt Θ l _ _  _) (by first | exact Nat.le_of_ble_eq_true rfl | omega) (Nat.le_of_ble_eq_true rfl) (Nat.le_of_ble_eq_true rfl) (fun r15 s16 => ?_)
      refine j_i2l 74 dX12_digest_73 rfl ?_
      refine s_callVu (M2 := mX12_mix) [vL (Int32.toInt64 r15)] 77 oa68 cc12 mkX12_mix w_1772 dX12_digest_74 rfl rfl (tX12_mix Θ l _  _) (by first | exact Nat.le_of_ble_eq_true rfl | omega) (Nat.le_of_ble_eq_true rfl) (Nat.le_of_ble_eq_true rfl) (fun r17 s18 => ?_)
      refine j_iinc (v := x2 + 1) (ls' := [some (vR 68), some (vI y1), some (vI (x2 + 1))]) 80 dX12_digest_77 rfl rfl rfl (by decide) rfl rfl ?_
      refine j_goto 56 dX12_digest_80 (by decide) ?_
      refine j_sub (ls' := [some (vR 68), some (vI y1), some (vI (x2 + 1))]) (And.intro rfl (And.intro rfl (And.intro rfl trivial))) ?_
      exact ih (x2 + 1) s18
    · refine j_sub (ls' := [some (vR 68), some (vI y1), none]) (And.intro rfl (And.intro rfl trivial)) ?_
      exact hκ s
theorem tX12_digest_L37 (Θ : Th) (l : Launch)  (κ : Mem → Option (Int64 × Mem))   (hκ : ∀  (s : Mem), Js Θ l mX12_digest 5 gL 89 [some (vR 68), none, none] [] s (κ  s)) : ∀ (k : Nat) (x1 : Int32) (s : Mem), Js Θ l mX12_digest 5 gL 37 [some (vR 68), some (vI x1), none] [] s (fX12_digest_L37 κ  k x1 s) := by
  intro k
  induction k with
  | zero => intro x1 s; exact j_none
  | succ k ih =>
    intro x1 s
    rw [fX12_digest_L37]
    refine j_iload_n 38 dX12_digest_37 rfl rfl ?_
    refine j_bipush (v := 6) 40 dX12_digest_38 rfl (by decide) ?_
    refine j_icmp_ge 89 43 dX12_digest_40 (by decide) rfl (fun c9 => ?_) (fun c9 => ?_)
    · refine j_aload_n 44 dX12_digest_43 rfl rfl ?_
      refine j_aload_n 45 dX12_digest_44 rfl rfl ?_
      refine s_getR (x := 70) 48 fa68_5 w_1211 dX12_digest_45 rfl (by decide +kernel) ?_
      refine j_iload_n 49 dX12_digest_48 rfl rfl ?_
      refine s_iaload 50 aa70 dX12_digest_49 rfl (fun b10 => ?_)
      refine j_i2l 51 dX12_digest_50 rfl ?_
      refine s_callVu (M2 := mX12_mix) [vL (Int32.toInt64 (s.1 70 (ix x1)))] 54 oa68 cc12 mkX12_mix w_1772 dX12_digest_51 rfl rfl (tX12_mix Θ l _  _) (by first | exact Nat.le_of_ble_eq_true rfl | omega) (Nat.le_of_ble_eq_true rfl) (Nat.le_of_ble_eq_true rfl) (fun r11 s12 => ?_)
      refine j_iconst (v := 0) 55 dX12_digest_54 rfl (by decide) ?_
      refine j_istore_n (i := 2) (ls' := [some (vR 68), some (vI x1), some (vI 0)]) 56 dX12_digest_55 rfl rfl (by decide) rfl rfl ?_
      refine j_sub (ls' := [some (vR 68), some (vI x1), some (vI 0)]) (And.intro rfl (And.intro rfl (And.intro rfl trivial))) ?_
      refine tX12_digest_L56 Θ l _ _  ?_ _ _ _
      intro s19
      refine j_iinc (v := x1 + 1) (ls' := [some (vR 68), some (vI (x1 + 1)), none]) 86 dX12_digest_83 rfl rfl rfl (by decide) rfl rfl ?_
      refine j_goto 37 dX12_digest_86 (by decide) ?_
      refine j_sub (ls' := [some (vR 68), some (vI (x1 + 1)), none]) (And.intro rfl (And.intro rfl trivial)) ?_
      exact ih (x1 + 1) s19
    · refine j_sub (ls' := [some (vR 68), none, none]) (And.intro rfl trivial) ?_
      exact hκ s
theorem tX12_digest_L109 (Θ : Th) (l : Launch)  (κ : Mem → Option (Int64 × Mem)) (y1 : Int32)  (hκ : ∀  (s : Mem), Js Θ l mX12_digest 5 gL 136 [some (vR 68), some (vI y1), none] [] s (κ  s)) : ∀ (k : Nat) (x2 : Int32) (s : Mem), Js Θ l mX12_digest 5 gL 109 [some (vR 68), some (vI y1), some (vI x2)] [] s (fX12_digest_L109 κ y1 k x2 s) := by
  intro k
  induction k with
  | zero => intro x2 s; exact j_none
  | succ k ih =>
    intro x2 s
    rw [fX12_digest_L109]
    refine j_iload_n 110 dX12_digest_109 rfl rfl ?_
    refine j_aload_n 111 dX12_digest_110 rfl rfl ?_
    refine s_getR (x := 73) 114 fa68_8 w_1214 dX12_digest_111 rfl (by decide +kernel) ?_
    refine j_iload_n 115 dX12_digest_114 rfl rfl ?_
    refine s_iaload 116 aa73 dX12_digest_115 rfl (fun b25 => ?_)
    refine j_icmp_ge 136 119 dX12_digest_116 (by decide) rfl (fun c26 => ?_) (fun c26 => ?_)
    · refine j_aload_n 120 dX12_digest_119 rfl rfl ?_
      refine j_aload_n 121 dX12_digest_120 rfl rfl ?_
      refine j_iload_n 122 dX12_digest_121 rfl rfl ?_
      refine j_iload_n 123 dX12_digest_122 rfl rfl ?_
      refine s_callVi (M2 := mX12_byteAt) [vI y1, vI x2] 126 oa68 cc12 mkX12_byteAt w_1453 dX12_digest_123 rfl rfl (tX12_byteAt Θ l _ _  _) (by first | exact Nat.le_of_ble_eq_true rfl | omega) (Nat.le_of_ble_eq_true rfl) (Nat.le_of_ble_eq_true rfl) (fun r27 s28 => ?_)
      refine j_i2l 127 dX12_digest_126 rfl ?_
      refine s_callVu (M2 := mX12_mix) [vL (Int32.toInt64 r27)] 130 oa68 cc12 mkX12_mix w_1772 dX12_digest_127 rfl rfl (tX12_mix Θ l _  _) (by first | exact Nat.le_of_ble_eq_true rfl | omega) (Nat.le_of_ble_eq_true rfl) (Nat.le_of_ble_eq_true rfl) (fun r29 s30 => ?_)
      refine j_iinc (v := x2 + 1) (ls' := [some (vR 68), some (vI y1), some (vI (x2 + 1))]) 133 dX12_digest_130 rfl rfl rfl (by decide) rfl rfl ?_
      refine j_goto 109 dX12_digest_133 (by decide) ?_
      refine j_sub (ls' := [some (vR 68), some (vI y1), some (vI (x2 + 1))]) (And.intro rfl (And.intro rfl (And.intro rfl trivial))) ?_
      exact ih (x2 + 1) s30
    · refine j_sub (ls' := [some (vR 68), some (vI y1), none]) (And.intro rfl (And.intro rfl trivial)) ?_
      exact hκ s
theorem tX12_digest_L91 (Θ : Th) (l : Launch)  (κ : Mem → Option (Int64 × Mem))   (hκ : ∀  (s : Mem), Js Θ l mX12_digest 5 gL 142 [some (vR 68), none, none] [] s (κ  s)) : ∀ (k : Nat) (x1 : Int32) (s : Mem), Js Θ l mX12_digest 5 gL 91 [some (vR 68), some (vI x1), none] [] s (fX12_digest_L91 κ  k x1 s) := by
  intro k
  induction k with
  | zero => intro x1 s; exact j_none
  | succ k ih =>
    intro x1 s
    rw [fX12_digest_L91]
    refine j_iload_n 92 dX12_digest_91 rfl rfl ?_
    refine j_iconst (v := 4) 93 dX12_digest_92 rfl (by decide) ?_
    refine j_icmp_ge 142 96 dX12_digest_93 (by decide) rfl (fun c21 => ?_) (fun c21 => ?_)
    · refine j_aload_n 97 dX12_digest_96 rfl rfl ?_
      refine j_aload_n 98 dX12_digest_97 rfl rfl ?_
      refine s_getR (x := 73) 101 fa68_8 w_1214 dX12_digest_98 rfl (by decide +kernel) ?_
      refine j_iload_n 102 dX12_digest_101 rfl rfl ?_
      refine s_iaload 103 aa73 dX12_digest_102 rfl (fun b22 => ?_)
      refine j_i2l 104 dX12_digest_103 rfl ?_
      refine s_callVu (M2 := mX12_mix) [vL (Int32.toInt64 (s.1 73 (ix x1)))] 107 oa68 cc12 mkX12_mix w_1772 dX12_digest_104 rfl rfl (tX12_mix Θ l _  _) (by first | exact Nat.le_of_ble_eq_true rfl | omega) (Nat.le_of_ble_eq_true rfl) (Nat.le_of_ble_eq_true rfl) (fun r23 s24 => ?_)
      refine j_iconst (v := 0) 108 dX12_digest_107 rfl (by decide) ?_
      refine j_istore_n (i := 2) (ls' := [some (vR 68), some (vI x1), some (vI 0)]) 109 dX12_digest_108 rfl rfl (by decide) rfl rfl ?_
      refine j_sub (ls' := [some (vR 68), some (vI x1), some (vI 0)]) (And.intro rfl (And.intro rfl (And.intro rfl trivial))) ?_
      refine tX12_digest_L109 Θ l _ _  ?_ _ _ _
      intro s31
      refine j_iinc (v := x1 + 1) (ls' := [some (vR 68), some (vI (x1 + 1)), none]) 139 dX12_digest_136 rfl rfl rfl (by decide) rfl rfl ?_
      refine j_goto 91 dX12_digest_139 (by decide) ?_
      refine j_sub (ls' := [some (vR 68), some (vI (x1 + 1)), none]) (And.intro rfl (And.intro rfl trivial)) ?_
      exact ih (x1 + 1) s31
    · refine j_sub (ls' := [some (vR 68), none, none]) (And.intro rfl trivial) ?_
      exact hκ s
theorem tX12_digest (Θ : Th) (l : Launch)    (s : Mem) : Cs Θ l mX12_digest 5 gL [vR 68] s (fX12_digest  s) := by
  refine ct_of (by decide) [some (vR 68), none, none] rfl (Nat.le_of_ble_eq_true rfl) ?_
  unfold fX12_digest
  refine j_aload_n 1 dX12_digest_0 rfl rfl ?_
  refine j_ldc2 (v := 17) 4 dX12_digest_1 rfl w_1771 ?_
  refine s_putL 7 fa68_54 w_1260 dX12_digest_4 rfl ?_
  refine j_iconst (v := 0) 8 dX12_digest_7 rfl (by decide) ?_
  refine j_istore_n (i := 1) (ls' := [some (vR 68), some (vI 0), none]) 9 dX12_digest_8 rfl rfl (by decide) rfl rfl ?_
  refine j_sub (ls' := [some (vR 68), some (vI 0), none]) (And.intro rfl (And.intro rfl trivial)) ?_
  refine tX12_digest_L9 Θ l _   ?_ _ _ _
  intro s6
  refine j_aload_n 32 dX12_digest_31 rfl rfl ?_
  refine s_callVu (M2 := mX12_mixBarge) [] 35 oa68 cc12 mkX12_mixBarge w_1777 dX12_digest_32 rfl rfl (tX12_mixBarge Θ l   _) (by first | exact Nat.le_of_ble_eq_true rfl | omega) (Nat.le_of_ble_eq_true rfl) (Nat.le_of_ble_eq_true rfl) (fun r7 s8 => ?_)
  refine j_iconst (v := 0) 36 dX12_digest_35 rfl (by decide) ?_
  refine j_istore_n (i := 1) (ls' := [some (vR 68), some (vI 0), none]) 37 dX12_digest_36 rfl rfl (by decide) rfl rfl ?_
  refine j_sub (ls' := [some (vR 68), some (vI 0), none]) (And.intro rfl (And.intro rfl trivial)) ?_
  refine tX12_digest_L37 Θ l _   ?_ _ _ _
  intro s20
  refine j_iconst (v := 0) 90 dX12_digest_89 rfl (by decide) ?_
  refine j_istore_n (i := 1) (ls' := [some (vR 68), some (vI 0), none]) 91 dX12_digest_90 rfl rfl (by decide) rfl rfl ?_
  refine j_sub (ls' := [some (vR 68), some (vI 0), none]) (And.intro rfl (And.intro rfl trivial)) ?_
  refine tX12_digest_L91 Θ l _   ?_ _ _ _
  intro s32
  refine j_aload_n 143 dX12_digest_142 rfl rfl ?_
  refine s_getL 146 fa68_54 w_1260 dX12_digest_143 rfl ?_
  exact s_lret dX12_digest_146 rfl
