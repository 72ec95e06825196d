-- X10_share
def fX10_share  (a1 : Int32) (a2 : Int32) (s : Mem) : Option (Unit × Mem) :=
bnd (fX10_greatestDivisor a1 a2 s) (fun r1 s2 =>
if 0 < a1 then
  if 0 < a2 then
    if 0 < r1 then
      if r1 = 0 then none else
      if r1 = 0 then none else
      some ((), wL (wL s2 2 1 (Int32.toInt64 (a1 / r1))) 2 2 (Int32.toInt64 (a2 / r1)))
    else
      some ((), wL (wL s2 2 1 0) 2 2 1)
  else
    some ((), wL (wL s2 2 1 0) 2 2 1)
else
  some ((), wL (wL s2 2 1 0) 2 2 1))
theorem tX10_share (Θ : Th) (l : Launch)  (a1 : Int32) (a2 : Int32)  (s : Mem) : Cs Θ l mX10_share 2 gU [vR 2, vI a1, vI a2] s (fX10_share a1 a2 s) := by
  refine ct_of (by decide) [some (vR 2), some (vI a1), some (vI a2), none] rfl (Nat.le_of_ble_eq_true rfl) ?_
  unfold fX10_share
  refine j_iload_n 1 dX10_share_0 rfl rfl ?_
  refine j_iload_n 2 dX10_share_1 rfl rfl ?_
  refine s_callSi (M2 := mX10_greatestDivisor) [vI a1, vI a2] 5 mkX10_greatestDivisor (Or.inl w_911) dX10_share_2 rfl rfl (tX10_greatestDivisor Θ l _ _  _) (by first | exact Nat.le_of_ble_eq_true rfl | omega) (Nat.le_of_ble_eq_true rfl) (Nat.le_of_ble_eq_true rfl) (fun r1 s2 => ?_)
  refine j_istore_n (i := 3) (ls' := [some (vR 2), some (vI a1), some (vI a2), some (vI r1)]) 6 dX10_share_5 rfl rfl (by decide) rfl rfl ?_
  refine j_iload_n 7 dX10_share_6 rfl rfl ?_
  refine j_if_le 18 10 dX10_share_7 (by decide) rfl (fun c3 => ?_) (fun c3 => ?_)
  · refine j_iload_n 11 dX10_share_10 rfl rfl ?_
    refine j_if_le 18 14 dX10_share_11 (by decide) rfl (fun c4 => ?_) (fun c4 => ?_)
    · refine j_iload_n 15 dX10_share_14 rfl rfl ?_
      refine j_if_gt 29 18 dX10_share_15 (by decide) rfl (fun c5 => ?_) (fun c5 => ?_)
      · refine j_aload_n 30 dX10_share_29 rfl rfl ?_
        refine j_iload_n 31 dX10_share_30 rfl rfl ?_
        refine j_iload_n 32 dX10_share_31 rfl rfl ?_
        refine j_idiv 33 dX10_share_32 rfl (fun _ => ?_)
        refine j_i2l 34 dX10_share_33 rfl ?_
        refine s_putL 37 fa2_1 w_107 dX10_share_34 rfl ?_
        refine j_aload_n 38 dX10_share_37 rfl rfl ?_
        refine j_iload_n 39 dX10_share_38 rfl rfl ?_
        refine j_iload_n 40 dX10_share_39 rfl rfl ?_
        refine j_idiv 41 dX10_share_40 rfl (fun _ => ?_)
        refine j_i2l 42 dX10_share_41 rfl ?_
        refine s_putL 45 fa2_2 w_109 dX10_share_42 rfl ?_
        exact s_ret dX10_share_45 rfl
      · refine j_aload_n 19 dX10_share_18 rfl rfl ?_
        refine j_lconst (v := 0) 20 dX10_share_19 rfl (by decide) ?_
        refine s_putL 23 fa2_1 w_107 dX10_share_20 rfl ?_
        refine j_aload_n 24 dX10_share_23 rfl rfl ?_
        refine j_lconst (v := 1) 25 dX10_share_24 rfl (by decide) ?_
        refine s_putL 28 fa2_2 w_109 dX10_share_25 rfl ?_
        exact s_ret dX10_share_28 rfl
    · refine j_aload_n 19 dX10_share_18 rfl rfl ?_
      refine j_lconst (v := 0) 20 dX10_share_19 rfl (by decide) ?_
      refine s_putL 23 fa2_1 w_107 dX10_share_20 rfl ?_
      refine j_aload_n 24 dX10_share_23 rfl rfl ?_
      refine j_lconst (v := 1) 25 dX10_share_24 rfl (by decide) ?_
      refine s_putL 28 fa2_2 w_109 dX10_share_25 rfl ?_
      exact s_ret dX10_share_28 rfl
  · refine j_aload_n 19 dX10_share_18 rfl rfl ?_
    refine j_lconst (v := 0) 20 dX10_share_19 rfl (by decide) ?_
    refine s_putL 23 fa2_1 w_107 dX10_share_20 rfl ?_
    refine j_aload_n 24 dX10_share_23 rfl rfl ?_
    refine j_lconst (v := 1) 25 dX10_share_24 rfl (by decide) ?_
    refine s_putL 28 fa2_2 w_109 dX10_share_25 rfl ?_
    exact s_ret dX10_share_28 rfl
-- X11_minutes
def fX11_minutes_L4  (κ : Int32 → Mem → Option (Int32 × Mem))  : Nat → Int32 → Int32 → Mem → Option (Int32 × Mem)
  | 0, _, _, _ => none
  | k + 1, x1, x2, s =>
    if x2 < (s.1 18 0) then
      bnd (fX6_postureIn x2 s) (fun r2 s3 =>
      bnd (fX0_listIn r2 s3) (fun r4 s5 =>
      bnd (fX0_isLevel r4 s5) (fun r6 s7 =>
      if r6 = 0 then
        fX11_minutes_L4 κ k x1 (x2 + 1) s7
      else
        fX11_minutes_L4 κ k (x1 + 1) (x2 + 1) s7)))
    else
      κ x1 s
def fX11_minutes   (s : Mem) : Option (Int32 × Mem) :=
fX11_minutes_L4 (fun v9 s10 =>
  bnd (fX10_share v9 (s10.1 18 0) s10) (fun r11 s12 =>
  some (v9, s12)))  FU 0 0 s
theorem tX11_minutes_L4 (Θ : Th) (l : Launch)  (κ : Int32 → Mem → Option (Int32 × Mem))   (hκ : ∀ (x1 : Int32) (s : Mem), Js Θ l mX11_minutes 5 gI 49 [some (vR 1), some (vI x1), none] [] s (κ x1 s)) : ∀ (k : Nat) (x1 : Int32) (x2 : Int32) (s : Mem), Js Θ l mX11_minutes 5 gI 4 [some (vR 1), some (vI x1), some (vI x2)] [] s (fX11_minutes_L4 κ  k x1 x2 s) := by
  intro k
  induction k with
  | zero => intro x1 x2 s; exact j_none
  | succ k ih =>
    intro x1 x2 s
    rw [fX11_minutes_L4]
    refine j_iload_n 5 dX11_minutes_4 rfl rfl ?_
    refine j_aload_n 6 dX11_minutes_5 rfl rfl ?_
    refine s_getR (x := 18) 9 fa1_5 w_407 dX11_minutes_6 rfl (by decide +kernel) ?_
    refine s_getI 12 fa18_0 w_213 dX11_minutes_9 rfl ?_
    refine j_icmp_ge 49 15 dX11_minutes_12 (by decide) rfl (fun c1 => ?_) (fun c1 => ?_)
    · refine j_aload_n 16 dX11_minutes_15 rfl rfl ?_
      refine s_getR (x := 6) 19 fa1_3 w_405 dX11_minutes_16 rfl (by decide +kernel) ?_
      refine j_aload_n 20 dX11_minutes_19 rfl rfl ?_
      refine s_getR (x := 6) 23 fa1_3 w_405 dX11_minutes_20 rfl (by decide +kernel) ?_
      refine j_aload_n 24 dX11_minutes_23 rfl rfl ?_
      refine s_getR (x := 18) 27 fa1_5 w_407 dX11_minutes_24 rfl (by decide +kernel) ?_
      refine j_iload_n 28 dX11_minutes_27 rfl rfl ?_
      refine s_callVi (M2 := mX6_postureIn) [vI x2] 31 oa18 cc6 mkX6_postureIn w_899 dX11_minutes_28 rfl rfl (tX6_postureIn Θ l _  _) (by first | exact Nat.le_of_ble_eq_true rfl | omega) (Nat.le_of_ble_eq_true rfl) (Nat.le_of_ble_eq_true rfl) (fun r2 s3 => ?_)
      refine s_callVi (M2 := mX0_listIn) [vI r2] 34 oa6 cc0 mkX0_listIn w_882 dX11_minutes_31 rfl rfl (tX0_listIn Θ l _  _) (by first | exact Nat.le_of_ble_eq_true rfl | omega) (Nat.le_of_ble_eq_true rfl) (Nat.le_of_ble_eq_true rfl) (fun r4 s5 => ?_)
      refine s_callVi (M2 := mX0_isLevel) [vI r4] 37 oa6 cc0 mkX0_isLevel w_891 dX11_minutes_34 rfl rfl (tX0_isLevel Θ l _  _) (by first | exact Nat.le_of_ble_eq_true rfl | omega) (Nat.le_of_ble_eq_true rfl) (Nat.le_of_ble_eq_true rfl) (fun r6 s7 => ?_)
      refine j_if_eq 43 40 dX11_minutes_37 (by decide) rfl (fun c8 => ?_) (fun c8 => ?_)
      · refine j_iinc (v := x2 + 1) (ls' := [some (vR 1), some (vI x1), some (vI (x2 + 1))]) 46 dX11_minutes_43 rfl rfl rfl (by decide) rfl rfl ?_
        refine j_goto 4 dX11_minutes_46 (by decide) ?_
        refine j_sub (ls' := [some (vR 1), some (vI x1), some (vI (x2 + 1))]) (And.intro rfl (And.intro rfl (And.intro rfl trivial))) ?_
        exact ih x1 (x2 + 1) s7
      · refine j_iinc (v := x1 + 1) (ls' := [some (vR 1), some (vI (x1 + 1)), some (vI x2)]) 43 dX11_minutes_40 rfl rfl rfl (by decide) rfl rfl ?_
        refine j_iinc (v := x2 + 1) (ls' := [some (vR 1), some (vI (x1 + 1)), some (vI (x2 + 1))]) 46 dX11_minutes_43 rfl rfl rfl (by decide) rfl rfl ?_
        refine j_goto 4 dX11_minutes_46 (by decide) ?_
        refine j_sub (ls' := [some (vR 1), some (vI (x1 + 1)), some (vI (x2 + 1))]) (And.intro rfl (And.intro rfl (And.intro rfl trivial))) ?_
        exact ih (x1 + 1) (x2 + 1) s7
    · refine j_sub (ls' := [some (vR 1), some (vI x1), none]) (And.intro rfl (And.intro rfl trivial)) ?_
      exact hκ x1 s
theorem tX11_minutes (Θ : Th) (l : Launch)    (s : Mem) : Cs Θ l mX11_minutes 5 gI [vR 1] s (fX11_minutes  s) := by
  refine ct_of (by decide) [some (vR 1), none, none] rfl (Nat.le_of_ble_eq_true rfl) ?_
  unfold fX11_minutes
  refine j_iconst (v := 0) 1 dX11_minutes_0 rfl (by decide) ?_
  refine j_istore_n (i := 1) (ls' := [some (vR 1), some (vI 0), none]) 2 dX11_minutes_1 rfl rfl (by decide) rfl rfl ?_
  refine j_iconst (v := 0) 3 dX11_minutes_2 rfl (by decide) ?_
  refine j_istore_n (i := 2) (ls' := [some (vR 1), some (vI 0), some (vI 0)]) 4 dX11_minutes_3 rfl rfl (by decide) rfl rfl ?_
  refine j_sub (ls' := [some (vR 1), some (vI 0), some (vI 0)]) (And.intro rfl (And.intro rfl (And.intro rfl trivial))) ?_
  refine tX11_minutes_L4 Θ l _   ?_ _ _ _ _
  intro v9 s10
  refine j_aload_n 50 dX11_minutes_49 rfl rfl ?_
  refine s_getR (x := 2) 53 fa1_0 w_402 dX11_minutes_50 rfl (by decide +kernel) ?_
  refine j_iload_n 54 dX11_minutes_53 rfl rfl ?_
  refine j_aload_n 55 dX11_minutes_54 rfl rfl ?_
  refine s_getR (x := 18) 58 fa1_5 w_407 dX11_minutes_55 rfl (by decide +kernel) ?_
  refine s_getI 61 fa18_0 w_213 dX11_minutes_58 rfl ?_
  refine s_callVu (M2 := mX10_share) [vI v9, vI (s10.1 18 0)] 64 oa2 cc10 mkX10_share w_907 dX11_minutes_61 rfl rfl (tX10_share Θ l _ _  _) (by first | exact Nat.le_of_ble_eq_true rfl | omega) (Nat.le_of_ble_eq_true rfl) (Nat.le_of_ble_eq_true rfl) (fun r11 s12 => ?_)
  refine j_iload_n 65 dX11_minutes_64 rfl rfl ?_
  exact s_iret dX11_minutes_65 rfl
-- X11_sizeIn
def fX11_sizeIn  (a1 : Int32) (s : Mem) : Option (Int32 × Mem) :=
bnd (fX6_postureIn a1 s) (fun r1 s2 =>
bnd (fX0_listIn r1 s2) (fun r3 s4 =>
some (ab r3, s4)))
theorem tX11_sizeIn (Θ : Th) (l : Launch)  (a1 : Int32)  (s : Mem) : Cs Θ l mX11_sizeIn 5 gI [vR 1, vI a1] s (fX11_sizeIn a1 s) := by
  refine ct_of (by decide) [some (vR 1), some (vI a1)] rfl (Nat.le_of_ble_eq_true rfl) ?_
  unfold fX11_sizeIn
  refine j_aload_n 1 dX11_sizeIn_0 rfl rfl ?_
  refine s_getR (x := 6) 4 fa1_3 w_405 dX11_sizeIn_1 rfl (by decide +kernel) ?_
  refine j_aload_n 5 dX11_sizeIn_4 rfl rfl ?_
  refine s_getR (x := 18) 8 fa1_5 w_407 dX11_sizeIn_5 rfl (by decide +kernel) ?_
  refine j_iload_n 9 dX11_sizeIn_8 rfl rfl ?_
  refine s_callVi (M2 := mX6_postureIn) [vI a1] 12 oa18 cc6 mkX6_postureIn w_899 dX11_sizeIn_9 rfl rfl (tX6_postureIn Θ l _  _) (by first | exact Nat.le_of_ble_eq_true rfl | omega) (Nat.le_of_ble_eq_true rfl) (Nat.le_of_ble_eq_true rfl) (fun r1 s2 => ?_)
  refine s_callVi (M2 := mX0_listIn) [vI r1] 15 oa6 cc0 mkX0_listIn w_882 dX11_sizeIn_12 rfl rfl (tX0_listIn Θ l _  _) (by first | exact Nat.le_of_ble_eq_true rfl | omega) (Nat.le_of_ble_eq_true rfl) (Nat.le_of_ble_eq_true rfl) (fun r3 s4 => ?_)
  refine s_mabs 18 dX11_sizeIn_15 rfl wm_926 wt_abs wi_math wc_abs (by first | exact Nat.le_of_ble_eq_true rfl | omega) (Nat.le_of_ble_eq_true rfl) ?_
  exact s_iret dX11_sizeIn_18 rfl
-- X11_worstMinute
def fX11_worstMinute_L4  (κ : Int32 → Mem → Option (Int32 × Mem))  : Nat → Int32 → Int32 → Mem → Option (Int32 × Mem)
  | 0, _, _, _ => none
  | k + 1, x1, x2, s =>
    if x2 < (s.1 18 0) then
      bnd (fX11_sizeIn x2 s) (fun r2 s3 =>
      bnd (fX11_sizeIn x1 s3) (fun r4 s5 =>
      if r4 < r2 then
        fX11_worstMinute_L4 κ k x2 (x2 + 1) s5
      else
        fX11_worstMinute_L4 κ k x1 (x2 + 1) s5))
    else
      κ x1 s
def fX11_worstMinute   (s : Mem) : Option (Int32 × Mem) :=
fX11_worstMinute_L4 (fun v7 s8 =>
  some (v7, s8))  FU 0 1 s
theorem tX11_worstMinute_L4 (Θ : Th) (l : Launch)  (κ : Int32 → Mem → Option (Int32 × Mem))   (hκ : ∀ (x1 : Int32) (s : Mem), Js Θ l mX11_worstMinute 6 gI 36 [none, some (vI x1), none] [] s (κ x1 s)) : ∀ (k : Nat) (x1 : Int32) (x2 : Int32) (s : Mem), Js Θ l mX11_worstMinute 6 gI 4 [some (vR 1), some (vI x1), some (vI x2)] [] s (fX11_worstMinute_L4 κ  k x1 x2 s) := by
  intro k
  induction k with
  | zero => intro x1 x2 s; exact j_none
  | succ k ih =>
    intro x1 x2 s
    rw [fX11_worstMinute_L4]
    refine j_iload_n 5 dX11_worstMinute_4 rfl rfl ?_
    refine j_aload_n 6 dX11_worstMinute_5 rfl rfl ?_
    refine s_getR (x := 18) 9 fa1_5 w_407 dX11_worstMinute_6 rfl (by decide +kernel) ?_
    refine s_getI 12 fa18_0 w_213 dX11_worstMinute_9 rfl ?_
    refine j_icmp_ge 36 15 dX11_worstMinute_12 (by decide) rfl (fun c1 => ?_) (fun c1 => ?_)
    · refine j_aload_n 16 dX11_worstMinute_15 rfl rfl ?_
      refine j_iload_n 17 dX11_worstMinute_16 rfl rfl ?_
      refine s_callVi (M2 := mX11_sizeIn) [vI x2] 20 oa1 cc11 mkX11_sizeIn w_922 dX11_worstMinute_17 rfl rfl (tX11_sizeIn Θ l _  _) (by first | exact Nat.le_of_ble_eq_true rfl | omega) (Nat.le_of_ble_eq_true rfl) (Nat.le_of_ble_eq_true rfl) (fun r2 s3 => ?_)
      refine j_aload_n 21 dX11_worstMinute_20 rfl rfl ?_
      refine j_iload_n 22 dX11_worstMinute_21 rfl rfl ?_
      refine s_callVi (M2 := mX11_sizeIn) [vI x1] 25 oa1 cc11 mkX11_sizeIn w_922 dX11_worstMinute_22 rfl rfl (tX11_sizeIn Θ l _  _) (by first | exact Nat.le_of_ble_eq_true rfl | omega) (Nat.le_of_ble_eq_true rfl) (Nat.le_of_ble_eq_true rfl) (fun r4 s5 => ?_)
      refine j_icmp_le 30 28 dX11_worstMinute_25 (by decide) rfl (fun c6 => ?_) (fun c6 => ?_)
      · refine j_iload_n 29 dX11_worstMinute_28 rfl rfl ?_
        refine j_istore_n (i := 1) (ls' := [some (vR 1), some (vI x2), some (vI x2)]) 30 dX11_worstMinute_29 rfl rfl (by decide) rfl rfl ?_
        refine j_iinc (v := x2 + 1) (ls' := [some (vR 1), some (vI x2), some (vI (x2 + 1))]) 33 dX11_worstMinute_30 rfl rfl rfl (by decide) rfl rfl ?_
        refine j_goto 4 dX11_worstMinute_33 (by decide) ?_
        refine j_sub (ls' := [some (vR 1), some (vI x2), some (vI (x2 + 1))]) (And.intro rfl (And.intro rfl (And.intro rfl trivial))) ?_
        exact ih x2 (x2 + 1) s5
      · refine j_iinc (v := x2 + 1) (ls' := [some (vR 1), some (vI x1), some (vI (x2 + 1))]) 33 dX11_worstMinute_30 rfl rfl rfl (by decide) rfl rfl ?_
        refine j_goto 4 dX11_worstMinute_33 (by decide) ?_
        refine j_sub (ls' := [some (vR 1), some (vI x1), some (vI (x2 + 1))]) (And.intro rfl (And.intro rfl (And.intro rfl trivial))) ?_
        exact ih x1 (x2 + 1) s5
    · refine j_sub (ls' := [none, some (vI x1), none]) (And.intro rfl trivial) ?_
      exact hκ x1 s
theorem tX11_worstMinute (Θ : Th) (l : Launch)    (s : Mem) : Cs Θ l mX11_worstMinute 6 gI [vR 1] s (fX11_worstMinute  s) := by
  refine ct_of (by decide) [some (vR 1), none, none] rfl (Nat.le_of_ble_eq_true rfl) ?_
  unfold fX11_worstMinute
  refine j_iconst (v := 0) 1 dX11_worstMinute_0 rfl (by decide) ?_
  refine j_istore_n (i := 1) (ls' := [some (vR 1), some (vI 0), none]) 2 dX11_worstMinute_1 rfl rfl (by decide) rfl rfl ?_
  refine j_iconst (v := 1) 3 dX11_worstMinute_2 rfl (by decide) ?_
  refine j_istore_n (i := 2) (ls' := [some (vR 1), some (vI 0), some (vI 1)]) 4 dX11_worstMinute_3 rfl rfl (by decide) rfl rfl ?_
  refine j_sub (ls' := [some (vR 1), some (vI 0), some (vI 1)]) (And.intro rfl (And.intro rfl (And.intro rfl trivial))) ?_
  refine tX11_worstMinute_L4 Θ l _   ?_ _ _ _ _
  intro v7 s8
  refine j_iload_n 37 dX11_worstMinute_36 rfl rfl ?_
  exact s_iret dX11_worstMinute_37 rfl
-- X11_worst
def fX11_worst   (s : Mem) : Option (Int32 × Mem) :=
bnd (fX11_worstMinute s) (fun r1 s2 =>
bnd (fX10_tell r1 s2) (fun r3 s4 =>
bnd (fX11_sizeIn r1 s4) (fun r5 s6 =>
some (r5, s6))))
theorem tX11_worst (Θ : Th) (l : Launch)    (s : Mem) : Cs Θ l mX11_worst 7 gI [vR 1] s (fX11_worst  s) := by
  refine ct_of (by decide) [some (vR 1), none] rfl (Nat.le_of_ble_eq_true rfl) ?_
  unfold fX11_worst
  refine j_aload_n 1 dX11_worst_0 rfl rfl ?_
  refine s_callVi (M2 := mX11_worstMinute) [] 4 oa1 cc11 mkX11_worstMinute w_918 dX11_worst_1 rfl rfl (tX11_worstMinute Θ l   _) (by first | exact Nat.le_of_ble_eq_true rfl | omega) (Nat.le_of_ble_eq_true rfl) (Nat.le_of_ble_eq_true rfl) (fun r1 s2 => ?_)
  refine j_istore_n (i := 1) (ls' := [some (vR 1), some (vI r1)]) 5 dX11_worst_4 rfl rfl (by decide) rfl rfl ?_
  refine j_aload_n 6 dX11_worst_5 rfl rfl ?_
  refine s_getR (x := 2) 9 fa1_0 w_402 dX11_worst_6 rfl (by decide +kernel) ?_
  refine j_iload_n 10 dX11_worst_9 rfl rfl ?_
  refine s_callVu (M2 := mX10_tell) [vI r1] 13 oa2 cc10 mkX10_tell w_479 dX11_worst_10 rfl rfl (tX10_tell Θ l _  _) (by first | exact Nat.le_of_ble_eq_true rfl | omega) (Nat.le_of_ble_eq_true rfl) (Nat.le_of_ble_eq_true rfl) (fun r3 s4 => ?_)
  refine j_aload_n 14 dX11_worst_13 rfl rfl ?_
  refine j_iload_n 15 dX11_worst_14 rfl rfl ?_
  refine s_callVi (M2 := mX11_sizeIn) [vI r1] 18 oa1 cc11 mkX11_sizeIn w_922 dX11_worst_15 rfl rfl (tX11_sizeIn Θ l _  _) (by first | exact Nat.le_of_ble_eq_true rfl | omega) (Nat.le_of_ble_eq_true rfl) (Nat.le_of_ble_eq_true rfl) (fun r5 s6 => ?_)
  exact s_iret dX11_worst_18 rfl
-- X11_need
def fX11_need   (s : Mem) : Option (Int32 × Mem) :=
bnd (fX11_worstMinute s) (fun r1 s2 =>
bnd (fX11_sizeIn r1 s2) (fun r3 s4 =>
if 999 < r3 then
  some ((-9), s4)
else
  some (r3, s4)))
theorem tX11_need (Θ : Th) (l : Launch)    (s : Mem) : Cs Θ l mX11_need 7 gI [vR 1] s (fX11_need  s) := by
  refine ct_of (by decide) [some (vR 1), none] rfl (Nat.le_of_ble_eq_true rfl) ?_
  unfold fX11_need
  refine j_aload_n 1 dX11_need_0 rfl rfl ?_
  refine j_aload_n 2 dX11_need_1 rfl rfl ?_
  refine s_callVi (M2 := mX11_worstMinute) [] 5 oa1 cc11 mkX11_worstMinute w_918 dX11_need_2 rfl rfl (tX11_worstMinute Θ l   _) (by first | exact Nat.le_of_ble_eq_true rfl | omega) (Nat.le_of_ble_eq_true rfl) (Nat.le_of_ble_eq_true rfl) (fun r1 s2 => ?_)
  refine s_callVi (M2 := mX11_sizeIn) [vI r1] 8 oa1 cc11 mkX11_sizeIn w_922 dX11_need_5 rfl rfl (tX11_sizeIn Θ l _  _) (by first | exact Nat.le_of_ble_eq_true rfl | omega) (Nat.le_of_ble_eq_true rfl) (Nat.le_of_ble_eq_true rfl) (fun r3 s4 => ?_)
  refine j_istore_n (i := 1) (ls' := [some (vR 1), some (vI r3)]) 9 dX11_need_8 rfl rfl (by decide) rfl rfl ?_
  refine j_iload_n 10 dX11_need_9 rfl rfl ?_
  refine j_sipush (v := 999) 13 dX11_need_10 rfl (by decide) ?_
  refine j_icmp_le 21 16 dX11_need_13 (by decide) rfl (fun c5 => ?_) (fun c5 => ?_)
  · refine j_bipush (v := (-9)) 18 dX11_need_16 rfl (by decide) ?_
    refine j_goto 22 dX11_need_18 (by decide) ?_
    exact s_iret dX11_need_22 rfl
  · refine j_iload_n 22 dX11_need_21 rfl rfl ?_
    exact s_iret dX11_need_22 rfl
-- X11_seatingsRefused
def fX11_seatingsRefused   (s : Mem) : Option (Int32 × Mem) :=
if (s.1 6 0) = 0 then
  some ((-4), s)
else
  bnd (fX0_seatedCount s) (fun r2 s3 =>
  if 5 < ((s.1 6 1) - r2) then
    some ((-6), s3)
  else
    some (0, s3))
theorem tX11_seatingsRefused (Θ : Th) (l : Launch)    (s : Mem) : Cs Θ l mX11_seatingsRefused 3 gI [vR 1] s (fX11_seatingsRefused  s) := by
  refine ct_of (by decide) [some (vR 1)] rfl (Nat.le_of_ble_eq_true rfl) ?_
  unfold fX11_seatingsRefused
  refine j_aload_n 1 dX11_seatingsRefused_0 rfl rfl ?_
  refine s_getR (x := 6) 4 fa1_3 w_405 dX11_seatingsRefused_1 rfl (by decide +kernel) ?_
  refine s_getI 7 fa6_0 w_159 dX11_seatingsRefused_4 rfl ?_
  refine j_if_ne 13 10 dX11_seatingsRefused_7 (by decide) rfl (fun c1 => ?_) (fun c1 => ?_)
  · refine j_bipush (v := (-4)) 12 dX11_seatingsRefused_10 rfl (by decide) ?_
    exact s_iret dX11_seatingsRefused_12 rfl
  · refine j_aload_n 14 dX11_seatingsRefused_13 rfl rfl ?_
    refine s_getR (x := 6) 17 fa1_3 w_405 dX11_seatingsRefused_14 rfl (by decide +kernel) ?_
    refine s_getI 20 fa6_1 w_162 dX11_seatingsRefused_17 rfl ?_
    refine j_aload_n 21 dX11_seatingsRefused_20 rfl rfl ?_
    refine s_getR (x := 6) 24 fa1_3 w_405 dX11_seatingsRefused_21 rfl (by decide +kernel) ?_
    refine s_callVi (M2 := mX0_seatedCount) [] 27 oa6 cc0 mkX0_seatedCount w_854 dX11_seatingsRefused_24 rfl rfl (tX0_seatedCount Θ l   _) (by first | exact Nat.le_of_ble_eq_true rfl | omega) (Nat.le_of_ble_eq_true rfl) (Nat.le_of_ble_eq_true rfl) (fun r2 s3 => ?_)
    refine j_isub 28 dX11_seatingsRefused_27 rfl ?_
    refine j_iconst (v := 5) 29 dX11_seatingsRefused_28 rfl (by decide) ?_
    refine j_icmp_le 37 32 dX11_seatingsRefused_29 (by decide) rfl (fun c4 => ?_) (fun c4 => ?_)
    · refine j_bipush (v := (-6)) 34 dX11_seatingsRefused_32 rfl (by decide) ?_
      refine j_goto 38 dX11_seatingsRefused_34 (by decide) ?_
      exact s_iret dX11_seatingsRefused_38 rfl
    · refine j_iconst (v := 0) 38 dX11_seatingsRefused_37 rfl (by decide) ?_
      exact s_iret dX11_seatingsRefused_38 rfl
-- X6_hasPosture
def fX6_hasPosture  (a1 : Int32) (s : Mem) : Option (Int32 × Mem) :=
if ((s.1 18 2) &&& ((1 : Int32) <<< (a1 &&& 31))) = 0 then
  some (0, s)
else
  some (1, s)
theorem tX6_hasPosture (Θ : Th) (l : Launch)  (a1 : Int32)  (s : Mem) : Cs Θ l mX6_hasPosture 1 gI [vR 18, vI a1] s (fX6_hasPosture a1 s) := by
  refine ct_of (by decide) [some (vR 18), some (vI a1)] rfl (Nat.le_of_ble_eq_true rfl) ?_
  unfold fX6_hasPosture
  refine j_aload_n 1 dX6_hasPosture_0 rfl rfl ?_
  refine s_getI 4 fa18_2 w_215 dX6_hasPosture_1 rfl ?_
  refine j_iconst (v := 1) 5 dX6_hasPosture_4 rfl (by decide) ?_
  refine j_iload_n 6 dX6_hasPosture_5 rfl rfl ?_
  refine j_ishl 7 dX6_hasPosture_6 rfl ?_
  refine j_iand 8 dX6_hasPosture_7 rfl ?_
  refine j_if_eq 15 11 dX6_hasPosture_8 (by decide) rfl (fun c1 => ?_) (fun c1 => ?_)
  · refine j_iconst (v := 0) 16 dX6_hasPosture_15 rfl (by decide) ?_
    exact s_zret dX6_hasPosture_16 rfl (by decide)
  · refine j_iconst (v := 1) 12 dX6_hasPosture_11 rfl (by decide) ?_
    refine j_goto 16 dX6_hasPosture_12 (by decide) ?_
    exact s_zret dX6_hasPosture_16 rfl (by decide)
-- X8_momentIn
def fX8_momentIn  (a1 : Int32) (a2 : Int32) (a3 : Int32) (s : Mem) : Option (Int32 × Mem) :=
bnd (fX6_hasPosture a3 s) (fun r1 s2 =>
if r1 = 0 then
  some (0, s2)
else
  bnd (fX0_momentOf a1 a2 a3 s2) (fun r4 s5 =>
  some (r4, s5)))
theorem tX8_momentIn (Θ : Th) (l : Launch)  (a1 : Int32) (a2 : Int32) (a3 : Int32)  (s : Mem) : Cs Θ l mX8_momentIn 3 gI [vR 27, vI a1, vI a2, vI a3] s (fX8_momentIn a1 a2 a3 s) := by
  refine ct_of (by decide) [some (vR 27), some (vI a1), some (vI a2), some (vI a3)] rfl (Nat.le_of_ble_eq_true rfl) ?_
  unfold fX8_momentIn
  refine j_aload_n 1 dX8_momentIn_0 rfl rfl ?_
  refine s_getR (x := 18) 4 fa27_5 w_272 dX8_momentIn_1 rfl (by decide +kernel) ?_
  refine j_iload_n 5 dX8_momentIn_4 rfl rfl ?_
  refine s_callVi (M2 := mX6_hasPosture) [vI a3] 8 oa18 cc6 mkX6_hasPosture w_955 dX8_momentIn_5 rfl rfl (tX6_hasPosture Θ l _  _) (by first | exact Nat.le_of_ble_eq_true rfl | omega) (Nat.le_of_ble_eq_true rfl) (Nat.le_of_ble_eq_true rfl) (fun r1 s2 => ?_)
  refine j_if_eq 24 11 dX8_momentIn_8 (by decide) rfl (fun c3 => ?_) (fun c3 => ?_)
  · refine j_iconst (v := 0) 25 dX8_momentIn_24 rfl (by decide) ?_
    exact s_iret dX8_momentIn_25 rfl
  · refine j_aload_n 12 dX8_momentIn_11 rfl rfl ?_
    refine s_getR (x := 6) 15 fa27_4 w_271 dX8_momentIn_12 rfl (by decide +kernel) ?_
    refine j_iload_n 16 dX8_momentIn_15 rfl rfl ?_
    refine j_iload_n 17 dX8_momentIn_16 rfl rfl ?_
    refine j_iload_n 18 dX8_momentIn_17 rfl rfl ?_
    refine s_callVi (M2 := mX0_momentOf) [vI a1, vI a2, vI a3] 21 oa6 cc0 mkX0_momentOf w_959 dX8_momentIn_18 rfl rfl (tX0_momentOf Θ l _ _ _  _) (by first | exact Nat.le_of_ble_eq_true rfl | omega) (Nat.le_of_ble_eq_true rfl) (Nat.le_of_ble_eq_true rfl) (fun r4 s5 => ?_)
    refine j_goto 25 dX8_momentIn_21 (by decide) ?_
    exact s_iret dX8_momentIn_25 rfl
-- X8_reckonMoments
def fX8_reckonMoments_L2  (κ : Mem → Option (Unit × Mem)) (y1 : Int32) : Nat → Int32 → Mem → Option (Unit × Mem)
  | 0, _, _ => none
  | k + 1, x2, s =>
    if x2 < 8 then
      nm ((y1 * 8) + x2) (fun v2 =>
      bnd (fX8_momentIn y1 x2 0 s) (fun r3 s4 =>
      if inb v2 56 = true then
      bnd (fX8_momentIn y1 x2 1 (wI s4 34 (ix v2) r3)) (fun r6 s7 =>
      if inb v2 56 = true then
      bnd (fX8_momentIn y1 x2 2 (wI s7 35 (ix v2) r6)) (fun r9 s10 =>
      if inb v2 56 = true then
      fX8_reckonMoments_L2 κ y1 k (x2 + 1) (wI s10 36 (ix v2) r9)
      else none)
      else none)
      else none))
    else
      κ s
def fX8_reckonMoments  (a1 : Int32) (s : Mem) : Option (Unit × Mem) :=
fX8_reckonMoments_L2 (fun s12 =>
  some ((), s12)) a1 FU 0 s
theorem tX8_reckonMoments_L2 (Θ : Th) (l : Launch)  (κ : Mem → Option (Unit × Mem)) (y1 : Int32)  (hκ : ∀  (s : Mem), Js Θ l mX8_reckonMoments 4 gU 60 [none, none, none, none] [] s (κ  s)) : ∀ (k : Nat) (x2 : Int32) (s : Mem), Js Θ l mX8_reckonMoments 4 gU 2 [some (vR 27), some (vI y1), some (vI x2), none] [] s (fX8_reckonMoments_L2 κ y1 k x2 s) := by
  intro k
  induction k with
  | zero => intro x2 s; exact j_none
  | succ k ih =>
    intro x2 s
    rw [fX8_reckonMoments_L2]
    refine j_iload_n 3 dX8_reckonMoments_2 rfl rfl ?_
    refine j_bipush (v := 8) 5 dX8_reckonMoments_3 rfl (by decide) ?_
    refine j_icmp_ge 60 8 dX8_reckonMoments_5 (by decide) rfl (fun c1 => ?_) (fun c1 => ?_)
    · refine j_iload_n 9 dX8_reckonMoments_8 rfl rfl ?_
      refine j_bipush (v := 8) 11 dX8_reckonMoments_9 rfl (by decide) ?_
      refine j_imul 12 dX8_reckonMoments_11 rfl ?_
      refine j_iload_n 13 dX8_reckonMoments_12 rfl rfl ?_
      refine j_iadd 14 dX8_reckonMoments_13 rfl ?_
      refine s_nmI (fun v2 => ?_)
      refine j_istore_n (i := 3) (ls' := [some (vR 27), some (vI y1), some (vI x2), some (vI v2)]) 15 dX8_reckonMoments_14 rfl rfl (by decide) rfl rfl ?_
      refine j_aload_n 16 dX8_reckonMoments_15 rfl rfl ?_
      refine s_getR (x := 34) 19 fa27_12 w_279 dX8_reckonMoments_16 rfl (by decide +kernel) ?_
      refine j_iload_n 20 dX8_reckonMoments_19 rfl rfl ?_
      refine j_aload_n 21 dX8_reckonMoments_20 rfl rfl ?_
      refine j_iload_n 22 dX8_reckonMoments_21 rfl rfl ?_
      refine j_iload_n 23 dX8_reckonMoments_22 rfl rfl ?_
      refine j_iconst (v := 0) 24 dX8_reckonMoments_23 rfl (by decide) ?_
      refine s_callVi (M2 := mX8_momentIn) [vI y1, vI x2, vI 0] 27 oa27 cc8 mkX8_momentIn w_951 dX8_reckonMoments_24 rfl rfl (tX8_momentIn Θ l _ _ _  _) (by first | exact Nat.le_of_ble_eq_true rfl | omega) (Nat.le_of_ble_eq_true rfl) (Nat.le_of_ble_eq_true rfl) (fun r3 s4 => ?_)
      refine s_iastore 28 aa34 dX8_reckonMoments_27 rfl (fun b5 => ?_)
      refine j_aload_n 29 dX8_reckonMoments_28 rfl rfl ?_
      refine s_getR (x := 35) 32 fa27_13 w_280 dX8_reckonMoments_29 rfl (by decide +kernel) ?_
      refine j_iload_n 33 dX8_reckonMoments_32 rfl rfl ?_
      refine j_aload_n 34 dX8_reckonMoments_33 rfl rfl ?_
      refine j_iload_n 35 dX8_reckonMoments_34 rfl rfl ?_
      refine j_iload_n 36 dX8_reckonMoments_35 rfl rfl ?_
      refine j_iconst (v := 1) 37 dX8_reckonMoments_36 rfl (by decide) ?_
      refine s_callVi (M2 := mX8_momentIn) [vI y1, vI x2, vI 1] 40 oa27 cc8 mkX8_momentIn w_951 dX8_reckonMoments_37 rfl rfl (tX8_momentIn Θ l _ _ _  _) (by first | exact Nat.le_of_ble_eq_true rfl | omega) (Nat.le_of_ble_eq_true rfl) (Nat.le_of_ble_eq_true rfl) (fun r6 s7 => ?_)
      refine s_iastore 41 aa35 dX8_reckonMoments_40 rfl (fun b8 => ?_)
      refine j_aload_n 42 dX8_reckonMoments_41 rfl rfl ?_
      refine s_getR (x := 36) 45 fa27_14 w_281 dX8_reckonMoments_42 rfl (by decide +kernel) ?_
      refine j_iload_n 46 dX8_reckonMoments_45 rfl rfl ?_
      refine j_aload_n 47 dX8_reckonMoments_46 rfl rfl ?_
      refine j_iload_n 48 dX8_reckonMoments_47 rfl rfl ?_
      refine j_iload_n 49 dX8_reckonMoments_48 rfl rfl ?_
      refine j_iconst (v := 2) 50 dX8_reckonMoments_49 rfl (by decide) ?_
      refine s_callVi (M2 := mX8_momentIn) [vI y1, vI x2, vI 2] 53 oa27 cc8 mkX8_momentIn w_951 dX8_reckonMoments_50 rfl rfl (tX8_momentIn Θ l _ _ _  _) (by first | exact Nat.le_of_ble_eq_true rfl | omega) (Nat.le_of_ble_eq_true rfl) (Nat.le_of_ble_eq_true rfl) (fun r9 s10 => ?_)
      refine s_iastore 54 aa36 dX8_reckonMoments_53 rfl (fun b11 => ?_)
      refine j_iinc (v := x2 + 1) (ls' := [some (vR 27), some (vI y1), some (vI (x2 + 1)), some (vI v2)]) 57 dX8_reckonMoments_54 rfl rfl rfl (by decide) rfl rfl ?_
      refine j_goto 2 dX8_reckonMoments_57 (by decide) ?_
      refine j_sub (ls' := [some (vR 27), some (vI y1), some (vI (x2 + 1)), none]) (And.intro rfl (And.intro rfl (And.intro rfl trivial))) ?_
      exact ih (x2 + 1) (wI s10 36 (ix v2) r9)
    · refine j_sub (ls' := [none, none, none, none]) (trivial) ?_
      exact hκ s
theorem tX8_reckonMoments (Θ : Th) (l : Launch)  (a1 : Int32)  (s : Mem) : Cs Θ l mX8_reckonMoments 4 gU [vR 27, vI a1] s (fX8_reckonMoments a1 s) := by
  refine ct_of (by decide) [some (vR 27), some (vI a1), none, none] rfl (Nat.le_of_ble_eq_true rfl) ?_
  unfold fX8_reckonMoments
  refine j_iconst (v := 0) 1 dX8_reckonMoments_0 rfl (by decide) ?_
  refine j_istore_n (i := 2) (ls' := [some (vR 27), some (vI a1), some (vI 0), none]) 2 dX8_reckonMoments_1 rfl rfl (by decide) rfl rfl ?_
  refine j_sub (ls' := [some (vR 27), some (vI a1), some (vI 0), none]) (And.intro rfl (And.intro rfl (And.intro rfl trivial))) ?_
  refine tX8_reckonMoments_L2 Θ l _ _  ?_ _ _ _
  intro s12
  exact s_ret dX8_reckonMoments_60 rfl
-- X8_startIn
def fX8_startIn  (a1 : Int32) (s : Mem) : Option (Int32 × Mem) :=
bnd (fX6_hasPosture a1 s) (fun r1 s2 =>
if r1 = 0 then
  some (0, s2)
else
  bnd (fX0_listIn a1 s2) (fun r4 s5 =>
  some (r4, s5)))
theorem tX8_startIn (Θ : Th) (l : Launch)  (a1 : Int32)  (s : Mem) : Cs Θ l mX8_startIn 5 gI [vR 27, vI a1] s (fX8_startIn a1 s) := by
  refine ct_of (by decide) [some (vR 27), some (vI a1)] rfl (Nat.le_of_ble_eq_true rfl) ?_
  unfold fX8_startIn
  refine j_aload_n 1 dX8_startIn_0 rfl rfl ?_
  refine s_getR (x := 18) 4 fa27_5 w_272 dX8_startIn_1 rfl (by decide +kernel) ?_
  refine j_iload_n 5 dX8_startIn_4 rfl rfl ?_
  refine s_callVi (M2 := mX6_hasPosture) [vI a1] 8 oa18 cc6 mkX6_hasPosture w_955 dX8_startIn_5 rfl rfl (tX6_hasPosture Θ l _  _) (by first | exact Nat.le_of_ble_eq_true rfl | omega) (Nat.le_of_ble_eq_true rfl) (Nat.le_of_ble_eq_true rfl) (fun r1 s2 => ?_)
  refine j_if_eq 22 11 dX8_startIn_8 (by decide) rfl (fun c3 => ?_) (fun c3 => ?_)
  · refine j_iconst (v := 0) 23 dX8_startIn_22 rfl (by decide) ?_
    exact s_iret dX8_startIn_23 rfl
  · refine j_aload_n 12 dX8_startIn_11 rfl rfl ?_
    refine s_getR (x := 6) 15 fa27_4 w_271 dX8_startIn_12 rfl (by decide +kernel) ?_
    refine j_iload_n 16 dX8_startIn_15 rfl rfl ?_
    refine s_callVi (M2 := mX0_listIn) [vI a1] 19 oa6 cc0 mkX0_listIn w_964 dX8_startIn_16 rfl rfl (tX0_listIn Θ l _  _) (by first | exact Nat.le_of_ble_eq_true rfl | omega) (Nat.le_of_ble_eq_true rfl) (Nat.le_of_ble_eq_true rfl) (fun r4 s5 => ?_)
    refine j_goto 23 dX8_startIn_19 (by decide) ?_
    exact s_iret dX8_startIn_23 rfl
-- X8_seatComer
def fX8_seatComer (rec : Int32 → Int32 → Int32 → Int32 → Mem → Option (Unit × Mem)) (a1 : Int32) (a2 : Int32) (a3 : Int32) (a4 : Int32) (a5 : Int32) (s : Mem) : Option (Unit × Mem) :=
if inb a1 7 = true then
nm (s.1 29 (ix a1)) (fun v2 =>
nm ((v2 * 8) + a2) (fun v3 =>
if inb v2 7 = true then
if inb (a2 + 1) 10 = true then
if inb (a2 + 1) 10 = true then
if inb v3 56 = true then
if inb v3 56 = true then
if inb v3 56 = true then
bnd (rec (a1 + 1) (a3 + ((wI (wI s 30 (ix v2) a2) 33 (ix (a2 + 1)) (((wI s 30 (ix v2) a2).1 33 (ix (a2 + 1))) ||| ((1 : Int32) <<< (v2 &&& 31)))).1 34 (ix v3))) (a4 + ((wI (wI s 30 (ix v2) a2) 33 (ix (a2 + 1)) (((wI s 30 (ix v2) a2).1 33 (ix (a2 + 1))) ||| ((1 : Int32) <<< (v2 &&& 31)))).1 35 (ix v3))) (a5 + ((wI (wI s 30 (ix v2) a2) 33 (ix (a2 + 1)) (((wI s 30 (ix v2) a2).1 33 (ix (a2 + 1))) ||| ((1 : Int32) <<< (v2 &&& 31)))).1 36 (ix v3))) (wI (wI s 30 (ix v2) a2) 33 (ix (a2 + 1)) (((wI s 30 (ix v2) a2).1 33 (ix (a2 + 1))) ||| ((1 : Int32) <<< (v2 &&& 31))))) (fun r10 s11 =>
if inb (a2 + 1) 10 = true then
if inb (a2 + 1) 10 = true then
some ((), wI s11 33 (ix (a2 + 1)) ((s11.1 33 (ix (a2 + 1))) &&& (((1 : Int32) <<< (v2 &&& 31)) ^^^ (-1))))
else none
else none)
else none
else none
else none
else none
else none
else none))
else none
theorem tX8_seatComer (Θ : Th) (l : Launch) (rec : Int32 → Int32 → Int32 → Int32 → Mem → Option (Unit × Mem)) (a1 : Int32) (a2 : Int32) (a3 : Int32) (a4 : Int32) (a5 : Int32)  {hr : Nat} (hr9 : 9 ≤ hr) (hrec : ∀ (a1 : Int32) (a2 : Int32) (a3 : Int32) (a4 : Int32) (s : Mem), Cs Θ l mX8_tryComer hr gU [vR 27, vI a1, vI a2, vI a3, vI a4] s (rec a1 a2 a3 a4 s)) (s : Mem) : Cs Θ l mX8_seatComer (hr + 1) gU [vR 27, vI a1, vI a2, vI a3, vI a4, vI a5] s (fX8_seatComer rec a1 a2 a3 a4 a5 s) := by
  refine ct_of (by decide) [some (vR 27), some (vI a1), some (vI a2), some (vI a3), some (vI a4), some (vI a5), none, none] rfl (Nat.le_of_ble_eq_true rfl) ?_
  unfold fX8_seatComer
  refine j_aload_n 1 dX8_seatComer_0 rfl rfl ?_
  refine s_getR (x := 29) 4 fa27_6 w_273 dX8_seatComer_1 rfl (by decide +kernel) ?_
  refine j_iload_n 5 dX8_seatComer_4 rfl rfl ?_
  refine s_iaload 6 aa29 dX8_seatComer_5 rfl (fun b1 => ?_)
  refine s_nmI (fun v2 => ?_)
  refine j_istore (i := 6) (ls' := [some (vR 27), some (vI a1), some (vI a2), some (vI a3), some (vI a4), some (vI a5), some (vI v2), none]) 8 dX8_seatComer_6 rfl (by decide) rfl rfl ?_
  refine j_iload 10 dX8_seatComer_8 rfl rfl ?_
  refine j_bipush (v := 8) 12 dX8_seatComer_10 rfl (by decide) ?_
  refine j_imul 13 dX8_seatComer_12 rfl ?_
  refine j_iload_n 14 dX8_seatComer_13 rfl rfl ?_
  refine j_iadd 15 dX8_seatComer_14 rfl ?_
  refine s_nmI (fun v3 => ?_)
  refine j_istore (i := 7) (ls' := [some (vR 27), some (vI a1), some (vI a2), some (vI a3), some (vI a4), some (vI a5), some (vI v2), some (vI v3)]) 17 dX8_seatComer_15 rfl (by decide) rfl rfl ?_
  refine j_aload_n 18 dX8_seatComer_17 rfl rfl ?_
  refine s_getR (x := 30) 21 fa27_8 w_275 dX8_seatComer_18 rfl (by decide +kernel) ?_
  refine j_iload 23 dX8_seatComer_21 rfl rfl ?_
  refine j_iload_n 24 dX8_seatComer_23 rfl rfl ?_
  refine s_iastore 25 aa30 dX8_seatComer_24 rfl (fun b4 => ?_)
  refine j_aload_n 26 dX8_seatComer_25 rfl rfl ?_
  refine s_getR (x := 33) 29 fa27_11 w_278 dX8_seatComer_26 rfl (by decide +kernel) ?_
  refine j_iload_n 30 dX8_seatComer_29 rfl rfl ?_
  refine j_iconst (v := 1) 31 dX8_seatComer_30 rfl (by decide) ?_
  refine j_iadd 32 dX8_seatComer_31 rfl ?_
  refine j_dup2 33 dX8_seatComer_32 rfl rfl rfl ?_
  refine s_iaload 34 aa33 dX8_seatComer_33 rfl (fun b5 => ?_)
  refine j_iconst (v := 1) 35 dX8_seatComer_34 rfl (by decide) ?_
  refine j_iload 37 dX8_seatComer_35 rfl rfl ?_
  refine j_ishl 38 dX8_seatComer_37 rfl ?_
  refine j_ior 39 dX8_seatComer_38 rfl ?_
  refine s_iastore 40 aa33 dX8_seatComer_39 rfl (fun b6 => ?_)
  refine j_aload_n 41 dX8_seatComer_40 rfl rfl ?_
  refine j_iload_n 42 dX8_seatComer_41 rfl rfl ?_
  refine j_iconst (v := 1) 43 dX8_seatComer_42 rfl (by decide) ?_
  refine j_iadd 44 dX8_seatComer_43 rfl ?_
  refine j_iload_n 45 dX8_seatComer_44 rfl rfl ?_
  refine j_aload_n 46 dX8_seatComer_45 rfl rfl ?_
  refine s_getR (x := 34) 49 fa27_12 w_279 dX8_seatComer_46 rfl (by decide +kernel) ?_
  refine j_iload 51 dX8_seatComer_49 rfl rfl ?_
  refine s_iaload 52 aa34 dX8_seatComer_51 rfl (fun b7 => ?_)
  refine j_iadd 53 dX8_seatComer_52 rfl ?_
  refine j_iload 55 dX8_seatComer_53 rfl rfl ?_
  refine j_aload_n 56 dX8_seatComer_55 rfl rfl ?_
  refine s_getR (x := 35) 59 fa27_13 w_280 dX8_seatComer_56 rfl (by decide +kernel) ?_
  refine j_iload 61 dX8_seatComer_59 rfl rfl ?_
  refine s_iaload 62 aa35 dX8_seatComer_61 rfl (fun b8 => ?_)
  refine j_iadd 63 dX8_seatComer_62 rfl ?_
  refine j_iload 65 dX8_seatComer_63 rfl rfl ?_
  refine j_aload_n 66 dX8_seatComer_65 rfl rfl ?_
  refine s_getR (x := 36) 69 fa27_14 w_281 dX8_seatComer_66 rfl (by decide +kernel) ?_
  refine j_iload 71 dX8_seatComer_69 rfl rfl ?_
  refine s_iaload 72 aa36 dX8_seatComer_71 rfl (fun b9 => ?_)
  refine j_iadd 73 dX8_seatComer_72 rfl ?_
  refine s_callVu (M2 := mX8_tryComer) [vI (a1 + 1), vI (a3 + ((wI (wI s 30 (ix v2) a2) 33 (ix (a2 + 1)) (((wI s 30 (ix v2) a2).1 33 (ix (a2 + 1))) ||| ((1 : Int32) <<< (v2 &&& 31)))).1 34 (ix v3))), vI (a4 + ((wI (wI s 30 (ix v2) a2) 33 (ix (a2 + 1)) (((wI s 30 (ix v2) a2).1 33 (ix (a2 + 1))) ||| ((1 : Int32) <<< (v2 &&& 31)))).1 35 (ix v3))), vI (a5 + ((wI (wI s 30 (ix v2) a2) 33 (ix (a2 + 1)) (((wI s 30 (ix v2) a2).1 33 (ix (a2 + 1))) ||| ((1 : Int32) <<< (v2 &&& 31)))).1 36 (ix v3)))] 76 oa27 cc8 mkX8_tryComer w_965 dX8_seatComer_73 rfl rfl (hrec _ _ _ _ _) (by omega) (Nat.le_of_ble_eq_true rfl) (Nat.le_of_ble_eq_true rfl) (fun r10 s11 => ?_)
  refine j_aload_n 77 dX8_seatComer_76 rfl rfl ?_
  refine s_getR (x := 33) 80 fa27_11 w_278 dX8_seatComer_77 rfl (by decide +kernel) ?_
  refine j_iload_n 81 dX8_seatComer_80 rfl rfl ?_
  refine j_iconst (v := 1) 82 dX8_seatComer_81 rfl (by decide) ?_
  refine j_iadd 83 dX8_seatComer_82 rfl ?_
  refine j_dup2 84 dX8_seatComer_83 rfl rfl rfl ?_
  refine s_iaload 85 aa33 dX8_seatComer_84 rfl (fun b12 => ?_)
  refine j_iconst (v := 1) 86 dX8_seatComer_85 rfl (by decide) ?_
  refine j_iload 88 dX8_seatComer_86 rfl rfl ?_
  refine j_ishl 89 dX8_seatComer_88 rfl ?_
  refine j_iconst (v := (-1)) 90 dX8_seatComer_89 rfl (by decide) ?_
  refine j_ixor 91 dX8_seatComer_90 rfl ?_
  refine j_iand 92 dX8_seatComer_91 rfl ?_
  refine s_iastore 93 aa33 dX8_seatComer_92 rfl (fun b13 => ?_)
  exact s_ret dX8_seatComer_93 rfl
-- X8_noteSeating
def fX8_noteSeating_L33  (κ : Mem → Option (Unit × Mem)) (y1 : Int32) : Nat → Int32 → Mem → Option (Unit × Mem)
  | 0, _, _ => none
  | k + 1, x2, s =>
    if x2 < (s.1 27 7) then
      if inb x2 7 = true then
      nm (s.1 29 (ix x2)) (fun v8 =>
      if inb v8 7 = true then
      if inb v8 7 = true then
      if inb v8 7 = true then
      fX8_noteSeating_L33 κ y1 k (x2 + 1) (wI s 31 (ix v8) ((s.1 31 (ix v8)) ||| ((1 : Int32) <<< ((s.1 30 (ix v8)) &&& 31))))
      else none
      else none
      else none)
      else none
    else
      κ s
def fX8_noteSeating  (a1 : Int32) (s : Mem) : Option (Unit × Mem) :=
bnd (fX0_isLevel a1 (wI s 27 2 ((s.1 27 2) + 1))) (fun r1 s2 =>
if r1 = 0 then
  if (s2.1 27 0) = (-9) then
    if ¬ (0 : Int32) < 0 ∧ ¬ (0 : Int32) < 0 ∧ ¬ (7 : Int32) < 0 ∧ ix 0 + ix 7 ≤ 7 ∧ ix 0 + ix 7 ≤ 7 then
    some ((), wF (wI s2 27 0 a1) 28 (va_cpy ((wI s2 27 0 a1).1 30) ((wI s2 27 0 a1).1 28) (ix 0) (ix 0) (ix 7)))
    else none
  else
    if a1 < (s2.1 27 0) then
      if ¬ (0 : Int32) < 0 ∧ ¬ (0 : Int32) < 0 ∧ ¬ (7 : Int32) < 0 ∧ ix 0 + ix 7 ≤ 7 ∧ ix 0 + ix 7 ≤ 7 then
      some ((), wF (wI s2 27 0 a1) 28 (va_cpy ((wI s2 27 0 a1).1 30) ((wI s2 27 0 a1).1 28) (ix 0) (ix 0) (ix 7)))
      else none
    else
      some ((), s2)
else
  fX8_noteSeating_L33 (fun s12 =>
    if (s12.1 27 0) = (-9) then
      if ¬ (0 : Int32) < 0 ∧ ¬ (0 : Int32) < 0 ∧ ¬ (7 : Int32) < 0 ∧ ix 0 + ix 7 ≤ 7 ∧ ix 0 + ix 7 ≤ 7 then
      some ((), wF (wI s12 27 0 a1) 28 (va_cpy ((wI s12 27 0 a1).1 30) ((wI s12 27 0 a1).1 28) (ix 0) (ix 0) (ix 7)))
      else none
    else
      if a1 < (s12.1 27 0) then
        if ¬ (0 : Int32) < 0 ∧ ¬ (0 : Int32) < 0 ∧ ¬ (7 : Int32) < 0 ∧ ix 0 + ix 7 ≤ 7 ∧ ix 0 + ix 7 ≤ 7 then
        some ((), wF (wI s12 27 0 a1) 28 (va_cpy ((wI s12 27 0 a1).1 30) ((wI s12 27 0 a1).1 28) (ix 0) (ix 0) (ix 7)))
        else none
      else
        some ((), s12)) a1 FU 0 (wI s2 27 3 ((s2.1 27 3) + 1)))
theorem tX8_noteSeating_L33 (Θ : Th) (l : Launch)  (κ : Mem → Option (Unit × Mem)) (y1 : Int32)  (hκ : ∀  (s : Mem), Js Θ l mX8_noteSeating 3 gU 71 [some (vR 27), some (vI y1), none, none] [] s (κ  s)) : ∀ (k : Nat) (x2 : Int32) (s : Mem), Js Θ l mX8_noteSeating 3 gU 33 [some (vR 27), some (vI y1), some (vI x2), none] [] s (fX8_noteSeating_L33 κ y1 k x2 s) := by
  intro k
  induction k with
  | zero => intro x2 s; exact j_none
  | succ k ih =>
    intro x2 s
    rw [fX8_noteSeating_L33]
    refine j_iload_n 34 dX8_noteSeating_33 rfl rfl ?_
    refine j_aload_n 35 dX8_noteSeating_34 rfl rfl ?_
    refine s_getI 38 fa27_7 w_274 dX8_noteSeating_35 rfl ?_
    refine j_icmp_ge 71 41 dX8_noteSeating_38 (by decide) rfl (fun c6 => ?_) (fun c6 => ?_)
    · refine j_aload_n 42 dX8_noteSeating_41 rfl rfl ?_
      refine s_getR (x := 29) 45 fa27_6 w_273 dX8_noteSeating_42 rfl (by decide +kernel) ?_
      refine j_iload_n 46 dX8_noteSeating_45 rfl rfl ?_
      refine s_iaload 47 aa29 dX8_noteSeating_46 rfl (fun b7 => ?_)
      refine s_nmI (fun v8 => ?_)
      refine j_istore_n (i := 3) (ls' := [some (vR 27), some (vI y1), some (vI x2), some (vI v8)]) 48 dX8_noteSeating_47 rfl rfl (by decide) rfl rfl ?_
      refine j_aload_n 49 dX8_noteSeating_48 rfl rfl ?_
      refine s_getR (x := 31) 52 fa27_9 w_276 dX8_noteSeating_49 rfl (by decide +kernel) ?_
      refine j_iload_n 53 dX8_noteSeating_52 rfl rfl ?_
      refine j_dup2 54 dX8_noteSeating_53 rfl rfl rfl ?_
      refine s_iaload 55 aa31 dX8_noteSeating_54 rfl (fun b9 => ?_)
      refine j_iconst (v := 1) 56 dX8_noteSeating_55 rfl (by decide) ?_
      refine j_aload_n 57 dX8_noteSeating_56 rfl rfl ?_
      refine s_getR (x := 30) 60 fa27_8 w_275 dX8_noteSeating_57 rfl (by decide +kernel) ?_
      refine j_iload_n 61 dX8_noteSeating_60 rfl rfl ?_
      refine s_iaload 62 aa30 dX8_noteSeating_61 rfl (fun b10 => ?_)
      refine j_ishl 63 dX8_noteSeating_62 rfl ?_
      refine j_ior 64 dX8_noteSeating_63 rfl ?_
      refine s_iastore 65 aa31 dX8_noteSeating_64 rfl (fun b11 => ?_)
      refine j_iinc (v := x2 + 1) (ls' := [some (vR 27), some (vI y1), some (vI (x2 + 1)), some (vI v8)]) 68 dX8_noteSeating_65 rfl rfl rfl (by decide) rfl rfl ?_
      refine j_goto 33 dX8_noteSeating_68 (by decide) ?_
      refine j_sub (ls' := [some (vR 27), some (vI y1), some (vI (x2 + 1)), none]) (And.intro rfl (And.intro rfl (And.intro rfl trivial))) ?_
      exact ih (x2 + 1) (wI s 31 (ix v8) ((s.1 31 (ix v8)) ||| ((1 : Int32) <<< ((s.1 30 (ix v8)) &&& 31))))
    · refine j_sub (ls' := [some (vR 27), some (vI y1), none, none]) (And.intro rfl (And.intro rfl trivial)) ?_
      exact hκ s
theorem tX8_noteSeating (Θ : Th) (l : Launch)  (a1 : Int32)  (s : Mem) : Cs Θ l mX8_noteSeating 3 gU [vR 27, vI a1] s (fX8_noteSeating a1 s) := by
  refine ct_of (by decide) [some (vR 27), some (vI a1), none, none] rfl (Nat.le_of_ble_eq_true rfl) ?_
  unfold fX8_noteSeating
  refine j_aload_n 1 dX8_noteSeating_0 rfl rfl ?_
  refine j_dup 2 dX8_noteSeating_1 rfl rfl ?_
  refine s_getI 5 fa27_2 w_267 dX8_noteSeating_2 rfl ?_
  refine j_iconst (v := 1) 6 dX8_noteSeating_5 rfl (by decide) ?_
  refine j_iadd 7 dX8_noteSeating_6 rfl ?_
  refine s_putI 10 fa27_2 w_267 dX8_noteSeating_7 rfl ?_
  refine j_aload_n 11 dX8_noteSeating_10 rfl rfl ?_
  refine s_getR (x := 6) 14 fa27_4 w_271 dX8_noteSeating_11 rfl (by decide +kernel) ?_
  refine j_iload_n 15 dX8_noteSeating_14 rfl rfl ?_
  refine s_callVi (M2 := mX0_isLevel) [vI a1] 18 oa6 cc0 mkX0_isLevel w_975 dX8_noteSeating_15 rfl rfl (tX0_isLevel Θ l _  _) (by first | exact Nat.le_of_ble_eq_true rfl | omega) (Nat.le_of_ble_eq_true rfl) (Nat.le_of_ble_eq_true rfl) (fun r1 s2 => ?_)
  refine j_if_eq 71 21 dX8_noteSeating_18 (by decide) rfl (fun c3 => ?_) (fun c3 => ?_)
  · refine j_aload_n 72 dX8_noteSeating_71 rfl rfl ?_
    refine s_getI 75 fa27_0 w_263 dX8_noteSeating_72 rfl ?_
    refine j_bipush (v := (-9)) 77 dX8_noteSeating_75 rfl (by decide) ?_
    refine j_icmp_eq 88 80 dX8_noteSeating_77 (by decide) rfl (fun c4 => ?_) (fun c4 => ?_)
    · refine j_aload_n 89 dX8_noteSeating_88 rfl rfl ?_
      refine j_iload_n 90 dX8_noteSeating_89 rfl rfl ?_
      refine s_putI 93 fa27_0 w_263 dX8_noteSeating_90 rfl ?_
      refine j_aload_n 94 dX8_noteSeating_93 rfl rfl ?_
      refine s_getR (x := 30) 97 fa27_8 w_275 dX8_noteSeating_94 rfl (by decide +kernel) ?_
      refine j_iconst (v := 0) 98 dX8_noteSeating_97 rfl (by decide) ?_
      refine j_aload_n 99 dX8_noteSeating_98 rfl rfl ?_
      refine s_getR (x := 28) 102 fa27_1 w_265 dX8_noteSeating_99 rfl (by decide +kernel) ?_
      refine j_iconst (v := 0) 103 dX8_noteSeating_102 rfl (by decide) ?_
      refine j_bipush (v := 7) 105 dX8_noteSeating_103 rfl (by decide) ?_
      refine s_copy 108 aa30 aa28 dX8_noteSeating_105 rfl w_976 w_509 w_508 w_89 (by first | decide | omega) (Nat.le_of_ble_eq_true rfl) ?_
      exact s_ret dX8_noteSeating_108 rfl
    · refine j_iload_n 81 dX8_noteSeating_80 rfl rfl ?_
      refine j_aload_n 82 dX8_noteSeating_81 rfl rfl ?_
      refine s_getI 85 fa27_0 w_263 dX8_noteSeating_82 rfl ?_
      refine j_icmp_ge 108 88 dX8_noteSeating_85 (by decide) rfl (fun c5 => ?_) (fun c5 => ?_)
      · refine j_aload_n 89 dX8_noteSeating_88 rfl rfl ?_
        refine j_iload_n 90 dX8_noteSeating_89 rfl rfl ?_
        refine s_putI 93 fa27_0 w_263 dX8_noteSeating_90 rfl ?_
        refine j_aload_n 94 dX8_noteSeating_93 rfl rfl ?_
        refine s_getR (x := 30) 97 fa27_8 w_275 dX8_noteSeating_94 rfl (by decide +kernel) ?_
        refine j_iconst (v := 0) 98 dX8_noteSeating_97 rfl (by decide) ?_
        refine j_aload_n 99 dX8_noteSeating_98 rfl rfl ?_
        refine s_getR (x := 28) 102 fa27_1 w_265 dX8_noteSeating_99 rfl (by decide +kernel) ?_
        refine j_iconst (v := 0) 103 dX8_noteSeating_102 rfl (by decide) ?_
        refine j_bipush (v := 7) 105 dX8_noteSeating_103 rfl (by decide) ?_
        refine s_copy 108 aa30 aa28 dX8_noteSeating_105 rfl w_976 w_509 w_508 w_89 (by first | decide | omega) (Nat.le_of_ble_eq_true rfl) ?_
        exact s_ret dX8_noteSeating_108 rfl
      · exact s_ret dX8_noteSeating_108 rfl
  · refine j_aload_n 22 dX8_noteSeating_21 rfl rfl ?_
    refine j_dup 23 dX8_noteSeating_22 rfl rfl ?_
    refine s_getI 26 fa27_3 w_269 dX8_noteSeating_23 rfl ?_
    refine j_iconst (v := 1) 27 dX8_noteSeating_26 rfl (by decide) ?_
    refine j_iadd 28 dX8_noteSeating_27 rfl ?_
    refine s_putI 31 fa27_3 w_269 dX8_noteSeating_28 rfl ?_
    refine j_iconst (v := 0) 32 dX8_noteSeating_31 rfl (by decide) ?_
    refine j_istore_n (i := 2) (ls' := [some (vR 27), some (vI a1), some (vI 0), none]) 33 dX8_noteSeating_32 rfl rfl (by decide) rfl rfl ?_
    refine j_sub (ls' := [some (vR 27), some (vI a1), some (vI 0), none]) (And.intro rfl (And.intro rfl (And.intro rfl trivial))) ?_
    refine tX8_noteSeating_L33 Θ l _ _  ?_ _ _ _
    intro s12
    refine j_aload_n 72 dX8_noteSeating_71 rfl rfl ?_
    refine s_getI 75 fa27_0 w_263 dX8_noteSeating_72 rfl ?_
    refine j_bipush (v := (-9)) 77 dX8_noteSeating_75 rfl (by decide) ?_
    refine j_icmp_eq 88 80 dX8_noteSeating_77 (by decide) rfl (fun c13 => ?_) (fun c13 => ?_)
    · refine j_aload_n 89 dX8_noteSeating_88 rfl rfl ?_
      refine j_iload_n 90 dX8_noteSeating_89 rfl rfl ?_
      refine s_putI 93 fa27_0 w_263 dX8_noteSeating_90 rfl ?_
      refine j_aload_n 94 dX8_noteSeating_93 rfl rfl ?_
      refine s_getR (x := 30) 97 fa27_8 w_275 dX8_noteSeating_94 rfl (by decide +kernel) ?_
      refine j_iconst (v := 0) 98 dX8_noteSeating_97 rfl (by decide) ?_
      refine j_aload_n 99 dX8_noteSeating_98 rfl rfl ?_
      refine s_getR (x := 28) 102 fa27_1 w_265 dX8_noteSeating_99 rfl (by decide +kernel) ?_
      refine j_iconst (v := 0) 103 dX8_noteSeating_102 rfl (by decide) ?_
      refine j_bipush (v := 7) 105 dX8_noteSeating_103 rfl (by decide) ?_
      refine s_copy 108 aa30 aa28 dX8_noteSeating_105 rfl w_976 w_509 w_508 w_89 (by first | decide | omega) (Nat.le_of_ble_eq_true rfl) ?_
      exact s_ret dX8_noteSeating_108 rfl
    · refine j_iload_n 81 dX8_noteSeating_80 rfl rfl ?_
      refine j_aload_n 82 dX8_noteSeating_81 rfl rfl ?_
      refine s_getI 85 fa27_0 w_263 dX8_noteSeating_82 rfl ?_
      refine j_icmp_ge 108 88 dX8_noteSeating_85 (by decide) rfl (fun c14 => ?_) (fun c14 => ?_)
      · refine j_aload_n 89 dX8_noteSeating_88 rfl rfl ?_
        refine j_iload_n 90 dX8_noteSeating_89 rfl rfl ?_
        refine s_putI 93 fa27_0 w_263 dX8_noteSeating_90 rfl ?_
        refine j_aload_n 94 dX8_noteSeating_93 rfl rfl ?_
        refine s_getR (x := 30) 97 fa27_8 w_275 dX8_noteSeating_94 rfl (by decide +kernel) ?_
        refine j_iconst (v := 0) 98 dX8_noteSeating_97 rfl (by decide) ?_
        refine j_aload_n 99 dX8_noteSeating_98 rfl rfl ?_
        refine s_getR (x := 28) 102 fa27_1 w_265 dX8_noteSeating_99 rfl (by decide +kernel) ?_
        refine j_iconst (v := 0) 103 dX8_noteSeating_102 rfl (by decide) ?_
        refine j_bipush (v := 7) 105 dX8_noteSeating_103 rfl (by decide) ?_
        refine s_copy 108 aa30 aa28 dX8_noteSeating_105 rfl w_976 w_509 w_508 w_89 (by first | decide | omega) (Nat.le_of_ble_eq_true rfl) ?_
        exact s_ret dX8_noteSeating_108 rfl
      · exact s_ret dX8_noteSeating_108 rfl
-- X8_tryComer
def fX8_tryComer_L74 (rec : Int32 → Int32 → Int32 → Int32 → Mem → Option (Unit × Mem)) (κ : Mem → Option (Unit × Mem)) (y1 : Int32) (y2 : Int32) (y3 : Int32) (y4 : Int32) (y5 : Int32) (y6 : Int32) : Nat → Int32 → Mem → Option (Unit × Mem)
  | 0, _, _ => none
  | k + 1, x7, s =>
    if x7 < (s.1 6 0) then
      if inb x7 10 = true then
      if inb (x7 + 1) 10 = true then
      if inb (x7 + 2) 10 = true then
      nm (((s.1 33 (ix x7)) ||| (s.1 33 (ix (x7 + 1)))) ||| (s.1 33 (ix (x7 + 2)))) (fun v13 =>
      if inb x7 8 = true then
      if (s.1 32 (ix x7)) < y6 then
        fX8_tryComer_L74 rec κ y1 y2 y3 y4 y5 y6 k (x7 + 1) s
      else
        if (v13 &&& y5) = 0 then
          if inb x7 8 = true then
          if inb x7 8 = true then
          bnd (fX8_seatComer rec y1 x7 y2 y3 y4 (wI s 32 (ix x7) ((s.1 32 (ix x7)) - y6))) (fun r19 s20 =>
          if inb x7 8 = true then
          if inb x7 8 = true then
          fX8_tryComer_L74 rec κ y1 y2 y3 y4 y5 y6 k (x7 + 1) (wI s20 32 (ix x7) ((s20.1 32 (ix x7)) + y6))
          else none
          else none)
          else none
          else none
        else
          fX8_tryComer_L74 rec κ y1 y2 y3 y4 y5 y6 k (x7 + 1) s
      else none)
      else none
      else none
      else none
    else
      κ s
def fX8_tryComer_B (rec : Int32 → Int32 → Int32 → Int32 → Mem → Option (Unit × Mem)) (a1 : Int32) (a2 : Int32) (a3 : Int32) (a4 : Int32) (s : Mem) : Option (Unit × Mem) :=
if a1 < (s.1 27 7) then
  if a1 < 7 then
    if inb a1 7 = true then
    bnd (fX5_foesOf (s.1 29 (ix a1)) s) (fun r4 s5 =>
    if inb a1 7 = true then
    bnd (fX0_seatsFor (s5.1 29 (ix a1)) s5) (fun r7 s8 =>
    fX8_tryComer_L74 rec (fun s23 =>
      some ((), s23)) a1 a2 a3 a4 r4 r7 FU 0 s8)
    else none)
    else none
  else
    bnd (fX8_noteSeating (mx (ab a2) (mx (ab a3) (ab a4))) s) (fun r24 s25 =>
    some ((), s25))
else
  bnd (fX8_noteSeating (mx (ab a2) (mx (ab a3) (ab a4))) s) (fun r26 s27 =>
  some ((), s27))
theorem tX8_tryComer_L74 (Θ : Th) (l : Launch) (rec : Int32 → Int32 → Int32 → Int32 → Mem → Option (Unit × Mem)) (κ : Mem → Option (Unit × Mem)) (y1 : Int32) (y2 : Int32) (y3 : Int32) (y4 : Int32) (y5 : Int32) (y6 : Int32)  {hr : Nat} (hr9 : 9 ≤ hr) (hrec : ∀ (a1 : Int32) (a2 : Int32) (a3 : Int32) (a4 : Int32) (s : Mem), Cs Θ l mX8_tryComer hr gU [vR 27, vI a1, vI a2, vI a3, vI a4] s (rec a1 a2 a3 a4 s)) (hκ : ∀  (s : Mem), Js Θ l mX8_tryComer (hr + 2) gU 176 [none, none, none, none, none, none, none, none, none] [] s (κ  s)) : ∀ (k : Nat) (x7 : Int32) (s : Mem), Js Θ l mX8_tryComer (hr + 2) gU 74 [some (vR 27), some (vI y1), some (vI y2), some (vI y3), some (vI y4), some (vI y5), some (vI y6), some (vI x7), none] [] s (fX8_tryComer_L74 rec κ y1 y2 y3 y4 y5 y6 k x7 s) := by
  intro k
  induction k with
  | zero => intro x7 s; exact j_none
  | succ k ih =>
    intro x7 s
    rw [fX8_tryComer_L74]
    refine j_iload 76 dX8_tryComer_74 rfl rfl ?_
    refine j_aload_n 77 dX8_tryComer_76 rfl rfl ?_
    refine s_getR (x := 6) 80 fa27_4 w_271 dX8_tryComer_77 rfl (by decide +kernel) ?_
    refine s_getI 83 fa6_0 w_158 dX8_tryComer_80 rfl ?_
    refine j_icmp_ge 176 86 dX8_tryComer_83 (by decide) rfl (fun c9 => ?_) (fun c9 => ?_)
    · refine j_aload_n 87 dX8_tryComer_86 rfl rfl ?_
      refine s_getR (x := 33) 90 fa27_11 w_278 dX8_tryComer_87 rfl (by decide +kernel) ?_
      refine j_iload 92 dX8_tryComer_90 rfl rfl ?_
      refine s_iaload 93 aa33 dX8_tryComer_92 rfl (fun b10 => ?_)
      refine j_aload_n 94 dX8_tryComer_93 rfl rfl ?_
      refine s_getR (x := 33) 97 fa27_11 w_278 dX8_tryComer_94 rfl (by decide +kernel) ?_
      refine j_iload 99 dX8_tryComer_97 rfl rfl ?_
      refine j_iconst (v := 1) 100 dX8_tryComer_99 rfl (by decide) ?_
      refine j_iadd 101 dX8_tryComer_100 rfl ?_
      refine s_iaload 102 aa33 dX8_tryComer_101 rfl (fun b11 => ?_)
      refine j_ior 103 dX8_tryComer_102 rfl ?_
      refine j_aload_n 104 dX8_tryComer_103 rfl rfl ?_
      refine s_getR (x := 33) 107 fa27_11 w_278 dX8_tryComer_104 rfl (by decide +kernel) ?_
      refine j_iload 109 dX8_tryComer_107 rfl rfl ?_
      refine j_iconst (v := 2) 110 dX8_tryComer_109 rfl (by decide) ?_
      refine j_iadd 111 dX8_tryComer_110 rfl ?_
      refine s_iaload 112 aa33 dX8_tryComer_111 rfl (fun b12 => ?_)
      refine j_ior 113 dX8_tryComer_112 rfl ?_
      refine s_nmI (fun v13 => ?_)
      refine j_istore (i := 8) (ls' := [some (vR 27), some (vI y1), some (vI y2), some (vI y3), some (vI y4), some (vI y5), some (vI y6), some (vI x7), some (vI v13)]) 115 dX8_tryComer_113 rfl (by decide) rfl rfl ?_
      refine j_aload_n 116 dX8_tryComer_115 rfl rfl ?_
      refine s_getR (x := 32) 119 fa27_10 w_277 dX8_tryComer_116 rfl (by decide +kernel) ?_
      refine j_iload 121 dX8_tryComer_119 rfl rfl ?_
      refine s_iaload 122 aa32 dX8_tryComer_121 rfl (fun b14 => ?_)
      refine j_iload 124 dX8_tryComer_122 rfl rfl ?_
      refine j_icmp_lt 170 127 dX8_tryComer_124 (by decide) rfl (fun c15 => ?_) (fun c15 => ?_)
      · refine j_iinc (v := x7 + 1) (ls' := [some (vR 27), some (vI y1), some (vI y2), some (vI y3), some (vI y4), some (vI y5), some (vI y6), some (vI (x7 + 1)), some (vI v13)]) 173 dX8_tryComer_170 rfl rfl rfl (by decide) rfl rfl ?_
        refine j_goto 74 dX8_tryComer_173 (by decide) ?_
        refine j_sub (ls' := [some (vR 27), some (vI y1), some (vI y2), some (vI y3), some (vI y4), some (vI y5), some (vI y6), some (vI (x7 + 1)), none]) (And.intro rfl (And.intro rfl (And.intro rfl (And.intro rfl (And.intro rfl (And.intro rfl (And.intro rfl (And.intro rfl trivial)))))))) ?_
        exact ih (x7 + 1) s
      · refine j_iload 129 dX8_tryComer_127 rfl rfl ?_
        refine j_iload 131 dX8_tryComer_129 rfl rfl ?_
        refine j_iand 132 dX8_tryComer_131 rfl ?_
        refine j_if_ne 170 135 dX8_tryComer_132 (by decide) rfl (fun c16 => ?_) (fun c16 => ?_)
        · refine j_aload_n 136 dX8_tryComer_135 rfl rfl ?_
          refine s_getR (x := 32) 139 fa27_10 w_277 dX8_tryComer_136 rfl (by decide +kernel) ?_
          refine j_iload 141 dX8_tryComer_139 rfl rfl ?_
          refine j_dup2 142 dX8_tryComer_141 rfl rfl rfl ?_
          refine s_iaload 143 aa32 dX8_tryComer_142 rfl (fun b17 => ?_)
          refine j_iload 145 dX8_tryComer_143 rfl rfl ?_
          refine j_isub 146 dX8_tryComer_145 rfl ?_
          refine s_iastore 147 aa32 dX8_tryComer_146 rfl (fun b18 => ?_)
          refine j_aload_n 148 dX8_tryComer_147 rfl rfl ?_
          refine j_iload_n 149 dX8_tryComer_148 rfl rfl ?_
          refine j_iload 151 dX8_tryComer_149 rfl rfl ?_
          refine j_iload_n 152 dX8_tryComer_151 rfl rfl ?_
          refine j_iload_n 153 dX8_tryComer_152 rfl rfl ?_
          refine j_iload 155 dX8_tryComer_153 rfl rfl ?_
          refine s_callVu (M2 := mX8_seatComer) [vI y1, vI x7, vI y2, vI y3, vI y4] 158 oa27 cc8 mkX8_seatComer w_979 dX8_tryComer_155 rfl rfl (tX8_seatComer Θ l rec _ _ _ _ _ hr9 hrec _) (by omega) (Nat.le_of_ble_eq_true rfl) (Nat.le_of_ble_eq_true rfl) (fun r19 s20 => ?_)
          refine j_aload_n 159 dX8_tryComer_158 rfl rfl ?_
          refine s_getR (x := 32) 162 fa27_10 w_277 dX8_tryComer_159 rfl (by decide +kernel) ?_
          refine j_iload 164 dX8_tryComer_162 rfl rfl ?_
          refine j_dup2 165 dX8_tryComer_164 rfl rfl rfl ?_
          refine s_iaload 166 aa32 dX8_tryComer_165 rfl (fun b21 => ?_)
          refine j_iload 168 dX8_tryComer_166 rfl rfl ?_
          refine j_iadd 169 dX8_tryComer_168 rfl ?_
          refine s_iastore 170 aa32 dX8_tryComer_169 rfl (fun b22 => ?_)
          refine j_iinc (v := x7 + 1) (ls' := [some (vR 27), some (vI y1), some (vI y2), some (vI y3), some (vI y4), some (vI y5), some (vI y6), some (vI (x7 + 1)), some (vI v13)]) 173 dX8_tryComer_170 rfl rfl rfl (by decide) rfl rfl ?_
          refine j_goto 74 dX8_tryComer_173 (by decide) ?_
          refine j_sub (ls' := [some (vR 27), some (vI y1), some (vI y2), some (vI y3), some (vI y4), some (vI y5), some (vI y6), some (vI (x7 + 1)), none]) (And.intro rfl (And.intro rfl (And.intro rfl (And.intro rfl (And.intro rfl (And.intro rfl (And.intro rfl (And.intro rfl trivial)))))))) ?_
          exact ih (x7 + 1) (wI s20 32 (ix x7) ((s20.1 32 (ix x7)) + y6))
        · refine j_iinc (v := x7 + 1) (ls' := [some (vR 27), some (vI y1), some (vI y2), some (vI y3), some (vI y4), some (vI y5), some (vI y6), some (vI (x7 + 1)), some (vI v13)]) 173 dX8_tryComer_170 rfl rfl rfl (by decide) rfl rfl ?_
          refine j_goto 74 dX8_tryComer_173 (by decide) ?_
          refine j_sub (ls' := [some (vR 27), some (vI y1), some (vI y2), some (vI y3), some (vI y4), some (vI y5), some (vI y6), some (vI (x7 + 1)), none]) (And.intro rfl (And.intro rfl (And.intro rfl (And.intro rfl (And.intro rfl (And.intro rfl (And.intro rfl (And.intro rfl trivial)))))))) ?_
          exact ih (x7 + 1) s
    · refine j_sub (ls' := [none, none, none, none, none, none, none, none, none]) (trivial) ?_
      exact hκ s
theorem tX8_tryComer_B (Θ : Th) (l : Launch) (rec : Int32 → Int32 → Int32 → Int32 → Mem → Option (Unit × Mem)) (a1 : Int32) (a2 : Int32) (a3 : Int32) (a4 : Int32)  {hr : Nat} (hr9 : 9 ≤ hr) (hrec : ∀ (a1 : Int32) (a2 : Int32) (a3 : Int32) (a4 : Int32) (s : Mem), Cs Θ l mX8_tryComer hr gU [vR 27, vI a1, vI a2, vI a3, vI a4] s (rec a1 a2 a3 a4 s)) (s : Mem) : Cs Θ l mX8_tryComer (hr + 2) gU [vR 27, vI a1, vI a2, vI a3, vI a4] s (fX8_tryComer_B rec a1 a2 a3 a4 s) := by
  refine ct_of (by decide) [some (vR 27), some (vI a1), some (vI a2), some (vI a3), some (vI a4), none, none, none, none] rfl (Nat.le_of_ble_eq_true rfl) ?_
  unfold fX8_tryComer_B
  refine j_iload_n 1 dX8_tryComer_0 rfl rfl ?_
  refine j_aload_n 2 dX8_tryComer_1 rfl rfl ?_
  refine s_getI 5 fa27_7 w_274 dX8_tryComer_2 rfl ?_
  refine j_icmp_ge 14 8 dX8_tryComer_5 (by decide) rfl (fun c1 => ?_) (fun c1 => ?_)
  · refine j_iload_n 9 dX8_tryComer_8 rfl rfl ?_
    refine j_bipush (v := 7) 11 dX8_tryComer_9 rfl (by decide) ?_
    refine j_icmp_lt 38 14 dX8_tryComer_11 (by decide) rfl (fun c2 => ?_) (fun c2 => ?_)
    · refine j_aload_n 39 dX8_tryComer_38 rfl rfl ?_
      refine s_getR (x := 6) 42 fa27_4 w_271 dX8_tryComer_39 rfl (by decide +kernel) ?_
      refine s_getR (x := 7) 45 fa6_4 w_170 dX8_tryComer_42 rfl (by decide +kernel) ?_
      refine j_aload_n 46 dX8_tryComer_45 rfl rfl ?_
      refine s_getR (x := 29) 49 fa27_6 w_273 dX8_tryComer_46 rfl (by decide +kernel) ?_
      refine j_iload_n 50 dX8_tryComer_49 rfl rfl ?_
      refine s_iaload 51 aa29 dX8_tryComer_50 rfl (fun b3 => ?_)
      refine s_callVi (M2 := mX5_foesOf) [vI (s.1 29 (ix a1))] 54 oa7 cc5 mkX5_foesOf w_977 dX8_tryComer_51 rfl rfl (tX5_foesOf Θ l _  _) (by first | exact Nat.le_of_ble_eq_true rfl | omega) (Nat.le_of_ble_eq_true rfl) (Nat.le_of_ble_eq_true rfl) (fun r4 s5 => ?_)
      refine j_istore (i := 5) (ls' := [some (vR 27), some (vI a1), some (vI a2), some (vI a3), some (vI a4), some (vI r4), none, none, none]) 56 dX8_tryComer_54 rfl (by decide) rfl rfl ?_
      refine j_aload_n 57 dX8_tryComer_56 rfl rfl ?_
      refine s_getR (x := 6) 60 fa27_4 w_271 dX8_tryComer_57 rfl (by decide +kernel) ?_
      refine j_aload_n 61 dX8_tryComer_60 rfl rfl ?_
      refine s_getR (x := 29) 64 fa27_6 w_273 dX8_tryComer_61 rfl (by decide +kernel) ?_
      refine j_iload_n 65 dX8_tryComer_64 rfl rfl ?_
      refine s_iaload 66 aa29 dX8_tryComer_65 rfl (fun b6 => ?_)
      refine s_callVi (M2 := mX0_seatsFor) [vI (s5.1 29 (ix a1))] 69 oa6 cc0 mkX0_seatsFor w_978 dX8_tryComer_66 rfl rfl (tX0_seatsFor Θ l _  _) (by first | exact Nat.le_of_ble_eq_true rfl | omega) (Nat.le_of_ble_eq_true rfl) (Nat.le_of_ble_eq_true rfl) (fun r7 s8 => ?_)
      refine j_istore (i := 6) (ls' := [some (vR 27), some (vI a1), some (vI a2), some (vI a3), some (vI a4), some (vI r4), some (vI r7), none, none]) 71 dX8_tryComer_69 rfl (by decide) rfl rfl ?_
      refine j_iconst (v := 0) 72 dX8_tryComer_71 rfl (by decide) ?_
      refine j_istore (i := 7) (ls' := [some (vR 27), some (vI a1), some (vI a2), some (vI a3), some (vI a4), some (vI r4), some (vI r7), some (vI 0), none]) 74 dX8_tryComer_72 rfl (by decide) rfl rfl ?_
      refine j_sub (ls' := [some (vR 27), some (vI a1), some (vI a2), some (vI a3), some (vI a4), some (vI r4), some (vI r7), some (vI 0), none]) (And.intro rfl (And.intro rfl (And.intro rfl (And.intro rfl (And.intro rfl (And.intro rfl (And.intro rfl (And.intro rfl trivial)))))))) ?_
      refine tX8_tryComer_L74 Θ l rec _ _ _ _ _ _ _  hr9 hrec ?_ _ _ _
      intro s23
      exact s_ret dX8_tryComer_176 rfl
    · refine j_aload_n 15 dX8_tryComer_14 rfl rfl ?_
      refine j_iload_n 16 dX8_tryComer_15 rfl rfl ?_
      refine s_mabs 19 dX8_tryComer_16 rfl wm_969 wt_abs wi_math wc_abs (by first | exact Nat.le_of_ble_eq_true rfl | omega) (Nat.le_of_ble_eq_true rfl) ?_
      refine j_iload_n 20 dX8_tryComer_19 rfl rfl ?_
      refine s_mabs 23 dX8_tryComer_20 rfl wm_969 wt_abs wi_math wc_abs (by first | exact Nat.le_of_ble_eq_true rfl | omega) (Nat.le_of_ble_eq_true rfl) ?_
      refine j_iload 25 dX8_tryComer_23 rfl rfl ?_
      refine s_mabs 28 dX8_tryComer_25 rfl wm_969 wt_abs wi_math wc_abs (by first | exact Nat.le_of_ble_eq_true rfl | omega) (Nat.le_of_ble_eq_true rfl) ?_
      refine s_mmax 31 dX8_tryComer_28 rfl wm_970 wt_max wi_math wc_max (by first | exact Nat.le_of_ble_eq_true rfl | omega) (Nat.le_of_ble_eq_true rfl) ?_
      refine s_mmax 34 dX8_tryComer_31 rfl wm_970 wt_max wi_math wc_max (by first | exact Nat.le_of_ble_eq_true rfl | omega) (Nat.le_of_ble_eq_true rfl) ?_
      refine s_callVu (M2 := mX8_noteSeating) [vI (mx (ab a2) (mx (ab a3) (ab a4)))] 37 oa27 cc8 mkX8_noteSeating w_971 dX8_tryComer_34 rfl rfl (tX8_noteSeating Θ l _  _) (by first | exact Nat.le_of_ble_eq_true rfl | omega) (Nat.le_of_ble_eq_true rfl) (Nat.le_of_ble_eq_true rfl) (fun r24 s25 => ?_)
      exact s_ret dX8_tryComer_37 rfl
  · refine j_aload_n 15 dX8_tryComer_14 rfl rfl ?_
    refine j_iload_n 16 dX8_tryComer_15 rfl rfl ?_
    refine s_mabs 19 dX8_tryComer_16 rfl wm_969 wt_abs wi_math wc_abs (by first | exact Nat.le_of_ble_eq_true rfl | omega) (Nat.le_of_ble_eq_true rfl) ?_
    refine j_iload_n 20 dX8_tryComer_19 rfl rfl ?_
    refine s_mabs 23 dX8_tryComer_20 rfl wm_969 wt_abs wi_math wc_abs (by first | exact Nat.le_of_ble_eq_true rfl | omega) (Nat.le_of_ble_eq_true rfl) ?_
    refine j_iload 25 dX8_tryComer_23 rfl rfl ?_
    refine s_mabs 28 dX8_tryComer_25 rfl wm_969 wt_abs wi_math wc_abs (by first | exact Nat.le_of_ble_eq_true rfl | omega) (Nat.le_of_ble_eq_true rfl) ?_
    refine s_mmax 31 dX8_tryComer_28 rfl wm_970 wt_max wi_math wc_max (by first | exact Nat.le_of_ble_eq_true rfl | omega) (Nat.le_of_ble_eq_true rfl) ?_
    refine s_mmax 34 dX8_tryComer_31 rfl wm_970 wt_max wi_math wc_max (by first | exact Nat.le_of_ble_eq_true rfl | omega) (Nat.le_of_ble_eq_true rfl) ?_
    refine s_callVu (M2 := mX8_noteSeating) [vI (mx (ab a2) (mx (ab a3) (ab a4)))] 37 oa27 cc8 mkX8_noteSeating w_971 dX8_tryComer_34 rfl rfl (tX8_noteSeating Θ l _  _) (by first | exact Nat.le_of_ble_eq_true rfl | omega) (Nat.le_of_ble_eq_true rfl) (Nat.le_of_ble_eq_true rfl) (fun r26 s27 => ?_)
    exact s_ret dX8_tryComer_37 rfl
-- X8_tryComer_rec
def fX8_tryComer : Nat → Int32 → Int32 → Int32 → Int32 → Mem → Option (Unit × Mem)
  | 0, _, _, _, _, _ => none
  | k + 1, a1, a2, a3, a4, s => fX8_tryComer_B (fX8_tryComer k) a1 a2 a3 a4 s
theorem tX8_tryComer (Θ : Th) (l : Launch) : ∀ (k : Nat) (a1 : Int32) (a2 : Int32) (a3 : Int32) (a4 : Int32) (s : Mem), Cs Θ l mX8_tryComer (2 * k + 9) gU [vR 27, vI a1, vI a2, vI a3, vI a4] s (fX8_tryComer k a1 a2 a3 a4 s) := by
  intro k
  induction k with
  | zero => intro a1 a2 a3 a4 s r s' ho; cases ho
  | succ k ih =>
    intro a1 a2 a3 a4 s
    exact tX8_tryComer_B Θ l (fX8_tryComer k) a1 a2 a3 a4 (hr := 2 * k + 9) (by omega) ih s
-- X8_search
def fX8_search_L23  (κ : Mem → Option (Unit × Mem))  : Nat → Int32 → Mem → Option (Unit × Mem)
  | 0, _, _ => none
  | k + 1, x1, s =>
    if x1 < 8 then
      bnd (fX0_whoOn x1 s) (fun r2 s3 =>
      if inb (x1 + 1) 10 = true then
      bnd (fX0_seatsTaken x1 (wI s3 33 (ix (x1 + 1)) r2)) (fun r5 s6 =>
      if inb x1 8 = true then
      fX8_search_L23 κ k (x1 + 1) (wI s6 32 (ix x1) (2 - r5))
      else none)
      else none)
    else
      κ s
def fX8_search_L69  (κ : Mem → Option (Unit × Mem))  : Nat → Int32 → Mem → Option (Unit × Mem)
  | 0, _, _ => none
  | k + 1, x1, s =>
    if x1 < 7 then
      bnd (fX0_benchOf x1 s) (fun r10 s11 =>
      if inb x1 7 = true then
      if inb x1 7 = true then
      bnd (fX0_isGuest x1 (wI (wI s11 30 (ix x1) r10) 31 (ix x1) 0)) (fun r14 s15 =>
      if r14 = 0 then
        fX8_search_L69 κ k (x1 + 1) s15
      else
        if inb x1 7 = true then
        if (s15.1 30 (ix x1)) = (-9) then
          if inb (s15.1 27 7) 7 = true then
          bnd (fX8_reckonMoments x1 (wI (wI s15 29 (ix (s15.1 27 7)) x1) 27 7 (((wI s15 29 (ix (s15.1 27 7)) x1).1 27 7) + 1))) (fun r20 s21 =>
          fX8_search_L69 κ k (x1 + 1) s21)
          else none
        else
          fX8_search_L69 κ k (x1 + 1) s15
        else none)
      else none
      else none)
    else
      κ s
def fX8_search   (s : Mem) : Option (Unit × Mem) :=
fX8_search_L23 (fun s8 =>
  fX8_search_L69 (fun s22 =>
    bnd (fX8_startIn 0 s22) (fun r23 s24 =>
    bnd (fX8_startIn 1 s24) (fun r25 s26 =>
    bnd (fX8_startIn 2 s26) (fun r27 s28 =>
    bnd (fX8_tryComer 9 0 r23 r25 r27 s28) (fun r29 s30 =>
    some ((), s30))))))  FU 0 s8)  FU 0 (wI (wI (wI (wI s 27 2 0) 27 3 0) 27 0 (-9)) 27 7 0)
theorem tX8_search_L23 (Θ : Th) (l : Launch)  (κ : Mem → Option (Unit × Mem))   (hκ : ∀  (s : Mem), Js Θ l mX8_search 28 gU 67 [some (vR 27), none] [] s (κ  s)) : ∀ (k : Nat) (x1 : Int32) (s : Mem), Js Θ l mX8_search 28 gU 23 [some (vR 27), some (vI x1)] [] s (fX8_search_L23 κ  k x1 s) := by
  intro k
  induction k with
  | zero => intro x1 s; exact j_none
  | succ k ih =>
    intro x1 s
    rw [fX8_search_L23]
    refine j_iload_n 24 dX8_search_23 rfl rfl ?_
    refine j_bipush (v := 8) 26 dX8_search_24 rfl (by decide) ?_
    refine j_icmp_ge 67 29 dX8_search_26 (by decide) rfl (fun c1 => ?_) (fun c1 => ?_)
    · refine j_aload_n 30 dX8_search_29 rfl rfl ?_
      refine s_getR (x := 33) 33 fa27_11 w_278 dX8_search_30 rfl (by decide +kernel) ?_
      refine j_iload_n 34 dX8_search_33 rfl rfl ?_
      refine j_iconst (v := 1) 35 dX8_search_34 rfl (by decide) ?_
      refine j_iadd 36 dX8_search_35 rfl ?_
      refine j_aload_n 37 dX8_search_36 rfl rfl ?_
      refine s_getR (x := 6) 40 fa27_4 w_271 dX8_search_37 rfl (by decide +kernel) ?_
      refine j_iload_n 41 dX8_search_40 rfl rfl ?_
      refine s_callVi (M2 := mX0_whoOn) [vI x1] 44 oa6 cc0 mkX0_whoOn w_943 dX8_search_41 rfl rfl (tX0_whoOn Θ l _  _) (by first | exact Nat.le_of_ble_eq_true rfl | omega) (Nat.le_of_ble_eq_true rfl) (Nat.le_of_ble_eq_true rfl) (fun r2 s3 => ?_)
      refine s_iastore 45 aa33 dX8_search_44 rfl (fun b4 => ?_)
      refine j_aload_n 46 dX8_search_45 rfl rfl ?_
      refine s_getR (x := 32) 49 fa27_10 w_277 dX8_search_46 rfl (by decide +kernel) ?_
      refine j_iload_n 50 dX8_search_49 rfl rfl ?_
      refine j_iconst (v := 2) 51 dX8_search_50 rfl (by decide) ?_
      refine j_aload_n 52 dX8_search_51 rfl rfl ?_
      refine s_getR (x := 6) 55 fa27_4 w_271 dX8_search_52 rfl (by decide +kernel) ?_
      refine j_iload_n 56 dX8_search_55 rfl rfl ?_
      refine s_callVi (M2 := mX0_seatsTaken) [vI x1] 59 oa6 cc0 mkX0_seatsTaken w_944 dX8_search_56 rfl rfl (tX0_seatsTaken Θ l _  _) (by first | exact Nat.le_of_ble_eq_true rfl | omega) (Nat.le_of_ble_eq_true rfl) (Nat.le_of_ble_eq_true rfl) (fun r5 s6 => ?_)
      refine j_isub 60 dX8_search_59 rfl ?_
      refine s_iastore 61 aa32 dX8_search_60 rfl (fun b7 => ?_)
      refine j_iinc (v := x1 + 1) (ls' := [some (vR 27), some (vI (x1 + 1))]) 64 dX8_search_61 rfl rfl rfl (by decide) rfl rfl ?_
      refine j_goto 23 dX8_search_64 (by decide) ?_
      refine j_sub (ls' := [some (vR 27), some (vI (x1 + 1))]) (And.intro rfl (And.intro rfl trivial)) ?_
      exact ih (x1 + 1) (wI s6 32 (ix x1) (2 - r5))
    · refine j_sub (ls' := [some (vR 27), none]) (And.intro rfl trivial) ?_
      exact hκ s
theorem tX8_search_L69 (Θ : Th) (l : Launch)  (κ : Mem → Option (Unit × Mem))   (hκ : ∀  (s : Mem), Js Θ l mX8_search 28 gU 149 [some (vR 27), none] [] s (κ  s)) : ∀ (k : Nat) (x1 : Int32) (s : Mem), Js Θ l mX8_search 28 gU 69 [some (vR 27), some (vI x1)] [] s (fX8_search_L69 κ  k x1 s) := by
  intro k
  induction k with
  | zero => intro x1 s; exact j_none
  | succ k ih =>
    intro x1 s
    rw [fX8_search_L69]
    refine j_iload_n 70 dX8_search_69 rfl rfl ?_
    refine j_bipush (v := 7) 72 dX8_search_70 rfl (by decide) ?_
    refine j_icmp_ge 149 75 dX8_search_72 (by decide) rfl (fun c9 => ?_) (fun c9 => ?_)
    · refine j_aload_n 76 dX8_search_75 rfl rfl ?_
      refine s_getR (x := 30) 79 fa27_8 w_275 dX8_search_76 rfl (by decide +kernel) ?_
      refine j_iload_n 80 dX8_search_79 rfl rfl ?_
      refine j_aload_n 81 dX8_search_80 rfl rfl ?_
      refine s_getR (x := 6) 84 fa27_4 w_271 dX8_search_81 rfl (by decide +kernel) ?_
      refine j_iload_n 85 dX8_search_84 rfl rfl ?_
      refine s_callVi (M2 := mX0_benchOf) [vI x1] 88 oa6 cc0 mkX0_benchOf w_945 dX8_search_85 rfl rfl (tX0_benchOf Θ l _  _) (by first | exact Nat.le_of_ble_eq_true rfl | omega) (Nat.le_of_ble_eq_true rfl) (Nat.le_of_ble_eq_true rfl) (fun r10 s11 => ?_)
      refine s_iastore 89 aa30 dX8_search_88 rfl (fun b12 => ?_)
      refine j_aload_n 90 dX8_search_89 rfl rfl ?_
      refine s_getR (x := 31) 93 fa27_9 w_276 dX8_search_90 rfl (by decide +kernel) ?_
      refine j_iload_n 94 dX8_search_93 rfl rfl ?_
      refine j_iconst (v := 0) 95 dX8_search_94 rfl (by decide) ?_
      refine s_iastore 96 aa31 dX8_search_95 rfl (fun b13 => ?_)
      refine j_aload_n 97 dX8_search_96 rfl rfl ?_
      refine s_getR (x := 6) 100 fa27_4 w_271 dX8_search_97 rfl (by decide +kernel) ?_
      refine j_iload_n 101 dX8_search_100 rfl rfl ?_
      refine s_callVi (M2 := mX0_isGuest) [vI x1] 104 oa6 cc0 mkX0_isGuest w_946 dX8_search_101 rfl rfl (tX0_isGuest Θ l _  _) (by first | exact Nat.le_of_ble_eq_true rfl | omega) (Nat.le_of_ble_eq_true rfl) (Nat.le_of_ble_eq_true rfl) (fun r14 s15 => ?_)
      refine j_if_eq 143 107 dX8_search_104 (by decide) rfl (fun c16 => ?_) (fun c16 => ?_)
      · refine j_iinc (v := x1 + 1) (ls' := [some (vR 27), some (vI (x1 + 1))]) 146 dX8_search_143 rfl rfl rfl (by decide) rfl rfl ?_
        refine j_goto 69 dX8_search_146 (by decide) ?_
        refine j_sub (ls' := [some (vR 27), some (vI (x1 + 1))]) (And.intro rfl (And.intro rfl trivial)) ?_
        exact ih (x1 + 1) s15
      · refine j_aload_n 108 dX8_search_107 rfl rfl ?_
        refine s_getR (x := 30) 111 fa27_8 w_275 dX8_search_108 rfl (by decide +kernel) ?_
        refine j_iload_n 112 dX8_search_111 rfl rfl ?_
        refine s_iaload 113 aa30 dX8_search_112 rfl (fun b17 => ?_)
        refine j_bipush (v := (-9)) 115 dX8_search_113 rfl (by decide) ?_
        refine j_icmp_ne 143 118 dX8_search_115 (by decide) rfl (fun c18 => ?_) (fun c18 => ?_)
        · refine j_aload_n 119 dX8_search_118 rfl rfl ?_
          refine s_getR (x := 29) 122 fa27_6 w_273 dX8_search_119 rfl (by decide +kernel) ?_
          refine j_aload_n 123 dX8_search_122 rfl rfl ?_
          refine s_getI 126 fa27_7 w_274 dX8_search_123 rfl ?_
          refine j_iload_n 127 dX8_search_126 rfl rfl ?_
          refine s_iastore 128 aa29 dX8_search_127 rfl (fun b19 => ?_)
          refine j_aload_n 129 dX8_search_128 rfl rfl ?_
          refine j_dup 130 dX8_search_129 rfl rfl ?_
          refine s_getI 133 fa27_7 w_274 dX8_search_130 rfl ?_
          refine j_iconst (v := 1) 134 dX8_search_133 rfl (by decide) ?_
          refine j_iadd 135 dX8_search_134 rfl ?_
          refine s_putI 138 fa27_7 w_274 dX8_search_135 rfl ?_
          refine j_aload_n 139 dX8_search_138 rfl rfl ?_
          refine j_iload_n 140 dX8_search_139 rfl rfl ?_
          refine s_callVu (M2 := mX8_reckonMoments) [vI x1] 143 oa27 cc8 mkX8_reckonMoments w_947 dX8_search_140 rfl rfl (tX8_reckonMoments Θ l _  _) (by first | exact Nat.le_of_ble_eq_true rfl | omega) (Nat.le_of_ble_eq_true rfl) (Nat.le_of_ble_eq_true rfl) (fun r20 s21 => ?_)
          refine j_iinc (v := x1 + 1) (ls' := [some (vR 27), some (vI (x1 + 1))]) 146 dX8_search_143 rfl rfl rfl (by decide) rfl rfl ?_
          refine j_goto 69 dX8_search_146 (by decide) ?_
          refine j_sub (ls' := [some (vR 27), some (vI (x1 + 1))]) (And.intro rfl (And.intro rfl trivial)) ?_
          exact ih (x1 + 1) s21
        · refine j_iinc (v := x1 + 1) (ls' := [some (vR 27), some (vI (x1 + 1))]) 146 dX8_search_143 rfl rfl rfl (by decide) rfl rfl ?_
          refine j_goto 69 dX8_search_146 (by decide) ?_
          refine j_sub (ls' := [some (vR 27), some (vI (x1 + 1))]) (And.intro rfl (And.intro rfl trivial)) ?_
          exact ih (x1 + 1) s15
    · refine j_sub (ls' := [some (vR 27), none]) (And.intro rfl trivial) ?_
      exact hκ s
theorem tX8_search (Θ : Th) (l : Launch)    (s : Mem) : Cs Θ l mX8_search 28 gU [vR 27] s (fX8_search  s) := by
  refine ct_of (by decide) [some (vR 27), none] rfl (Nat.le_of_ble_eq_true rfl) ?_
  unfold fX8_search
  refine j_aload_n 1 dX8_search_0 rfl rfl ?_
  refine j_iconst (v := 0) 2 dX8_search_1 rfl (by decide) ?_
  refine s_putI 5 fa27_2 w_267 dX8_search_2 rfl ?_
  refine j_aload_n 6 dX8_search_5 rfl rfl ?_
  refine j_iconst (v := 0) 7 dX8_search_6 rfl (by decide) ?_
  refine s_putI 10 fa27_3 w_269 dX8_search_7 rfl ?_
  refine j_aload_n 11 dX8_search_10 rfl rfl ?_
  refine j_bipush (v := (-9)) 13 dX8_search_11 rfl (by decide) ?_
  refine s_putI 16 fa27_0 w_263 dX8_search_13 rfl ?_
  refine j_aload_n 17 dX8_search_16 rfl rfl ?_
  refine j_iconst (v := 0) 18 dX8_search_17 rfl (by decide) ?_
  refine s_putI 21 fa27_7 w_274 dX8_search_18 rfl ?_
  refine j_iconst (v := 0) 22 dX8_search_21 rfl (by decide) ?_
  refine j_istore_n (i := 1) (ls' := [some (vR 27), some (vI 0)]) 23 dX8_search_22 rfl rfl (by decide) rfl rfl ?_
  refine j_sub (ls' := [some (vR 27), some (vI 0)]) (And.intro rfl (And.intro rfl trivial)) ?_
  refine tX8_search_L23 Θ l _   ?_ _ _ _
  intro s8
  refine j_iconst (v := 0) 68 dX8_search_67 rfl (by decide) ?_
  refine j_istore_n (i := 1) (ls' := [some (vR 27), some (vI 0)]) 69 dX8_search_68 rfl rfl (by decide) rfl rfl ?_
  refine j_sub (ls' := [some (vR 27), some (vI 0)]) (And.intro rfl (And.intro rfl trivial)) ?_
  refine tX8_search_L69 Θ l _   ?_ _ _ _
  intro s22
  refine j_aload_n 150 dX8_search_149 rfl rfl ?_
  refine j_iconst (v := 0) 151 dX8_search_150 rfl (by decide) ?_
  refine j_aload_n 152 dX8_search_151 rfl rfl ?_
  refine j_iconst (v := 0) 153 dX8_search_152 rfl (by decide) ?_
  refine s_callVi (M2 := mX8_startIn) [vI 0] 156 oa27 cc8 mkX8_startIn w_960 dX8_search_153 rfl rfl (tX8_startIn Θ l _  _) (by first | exact Nat.le_of_ble_eq_true rfl | omega) (Nat.le_of_ble_eq_true rfl) (Nat.le_of_ble_eq_true rfl) (fun r23 s24 => ?_)
  refine j_aload_n 157 dX8_search_156 rfl rfl ?_
  refine j_iconst (v := 1) 158 dX8_search_157 rfl (by decide) ?_
  refine s_callVi (M2 := mX8_startIn) [vI 1] 161 oa27 cc8 mkX8_startIn w_960 dX8_search_158 rfl rfl (tX8_startIn Θ l _  _) (by first | exact Nat.le_of_ble_eq_true rfl | omega) (Nat.le_of_ble_eq_true rfl) (Nat.le_of_ble_eq_true rfl) (fun r25 s26 => ?_)
  refine j_aload_n 162 dX8_search_161 rfl rfl ?_
  refine j_iconst (v := 2) 163 dX8_search_162 rfl (by decide) ?_
  refine s_callVi (M2 := mX8_startIn) [vI 2] 166 oa27 cc8 mkX8_startIn w_960 dX8_search_163 rfl rfl (tX8_startIn Θ l _  _) (by first | exact Nat.le_of_ble_eq_true rfl | omega) (Nat.le_of_ble_eq_true rfl) (Nat.le_of_ble_eq_true rfl) (fun r27 s28 => ?_)
  refine s_callVu (M2 := mX8_tryComer) [vI 0, vI r23, vI r25, vI r27] 169 oa27 cc8 mkX8_tryComer w_965 dX8_search_166 rfl rfl (tX8_tryComer Θ l 9 _ _ _ _ _) (by decide) (Nat.le_of_ble_eq_true rfl) (Nat.le_of_ble_eq_true rfl) (fun r29 s30 => ?_)
  exact s_ret dX8_search_169 rfl
-- X7_take_28
def fX7_take_28  (q0 : Nat) (a2 : Int32) (s : Mem) : Option (Unit × Mem) :=
bnd (fX7_renew q0 (mn a2 7) s) (fun r1 s2 =>
if ¬ (0 : Int32) < 0 ∧ ¬ (0 : Int32) < 0 ∧ ¬ (s2.1 q0 0 : Int32) < 0 ∧ ix 0 + ix (s2.1 q0 0) ≤ 7 ∧ ix 0 + ix (s2.1 q0 0) ≤ 60 then
some ((), wF s2 (q0 + 1) (va_cpy (s2.1 28) (s2.1 (q0 + 1)) (ix 0) (ix 0) (ix (s2.1 q0 0))))
else none)
theorem tX7_take_28 (Θ : Th) (l : Launch)  (q0 : Nat) (a2 : Int32) (hq0 : kd q0 = 7) (s : Mem) : Cs Θ l mX7_take 3 gU [vR q0, vR 28, vI a2] s (fX7_take_28 q0 a2 s) := by
  refine ct_of (by decide) [some (vR q0), some (vR 28), some (vI a2)] rfl (Nat.le_of_ble_eq_true rfl) ?_
  unfold fX7_take_28
  refine j_aload_n 1 dX7_take_0 rfl rfl ?_
  refine j_iload_n 2 dX7_take_1 rfl rfl ?_
  refine j_aload_n 3 dX7_take_2 rfl rfl ?_
  refine s_alen (v := 7) 4 aa28 (by decide) (by decide) (by decide) dX7_take_3 rfl ?_
  refine s_mmin 7 dX7_take_4 rfl wm_452 wt_min wi_math wc_min (by first | exact Nat.le_of_ble_eq_true rfl | omega) (Nat.le_of_ble_eq_true rfl) ?_
  refine s_callVu (M2 := mX7_renew) [vI (mn a2 7)] 10 (row_oa hq0) cc7 mkX7_renew w_987 dX7_take_7 rfl rfl (tX7_renew Θ l _ _ hq0 _) (by first | exact Nat.le_of_ble_eq_true rfl | omega) (Nat.le_of_ble_eq_true rfl) (Nat.le_of_ble_eq_true rfl) (fun r1 s2 => ?_)
  refine j_aload_n 11 dX7_take_10 rfl rfl ?_
  refine j_iconst (v := 0) 12 dX7_take_11 rfl (by decide) ?_
  refine j_aload_n 13 dX7_take_12 rfl rfl ?_
  refine s_getR (x := q0 + 1) 16 (row_fa1 hq0) w_380 dX7_take_13 rfl (row_pl hq0) ?_
  refine j_iconst (v := 0) 17 dX7_take_16 rfl (by decide) ?_
  refine j_aload_n 18 dX7_take_17 rfl rfl ?_
  refine s_getI 21 (row_fa0 hq0) w_377 dX7_take_18 rfl ?_
  refine s_copy 24 aa28 (row_aa hq0) dX7_take_21 rfl w_988 w_509 w_508 w_89 (by first | decide | omega) (Nat.le_of_ble_eq_true rfl) ?_
  exact s_ret dX7_take_24 rfl
-- X11_best
def fX11_best  (a1 : Int32) (s : Mem) : Option (Int32 × Mem) :=
bnd (fX11_rowOf a1 s) (fun r1 s2 =>
if r1 = 0 then
  some ((-1), s2)
else
  bnd (fX11_seatingsRefused s2) (fun r4 s5 =>
  if r4 = 0 then
    bnd (fX8_search s5) (fun r7 s8 =>
    if (s8.1 27 2) = 0 then
      some ((-9), s8)
    else
      if kd r1 = 7 then
      bnd (fX7_take_28 r1 (s8.1 6 1) s8) (fun r11 s12 =>
      some (s12.1 27 0, s12))
      else none)
  else
    some (r4, s5)))
theorem tX11_best (Θ : Th) (l : Launch)  (a1 : Int32)  (s : Mem) : Cs Θ l mX11_best 29 gI [vR 1, vI a1] s (fX11_best a1 s) := by
  refine ct_of (by decide) [some (vR 1), some (vI a1), none, none] rfl (Nat.le_of_ble_eq_true rfl) ?_
  unfold fX11_best
  refine j_aload_n 1 dX11_best_0 rfl rfl ?_
  refine j_iload_n 2 dX11_best_1 rfl rfl ?_
  refine s_callVr (M2 := mX11_rowOf) [vI a1] 5 oa1 cc11 mkX11_rowOf w_440 dX11_best_2 rfl rfl (tX11_rowOf Θ l _  _) (by first | exact Nat.le_of_ble_eq_true rfl | omega) (Nat.le_of_ble_eq_true rfl) (Nat.le_of_ble_eq_true rfl) (fun r1 s2 => ?_)
  refine j_astore_n (i := 2) (ls' := [some (vR 1), some (vI a1), some (vR r1), none]) 6 dX11_best_5 rfl rfl (by decide) rfl rfl ?_
  refine j_aload_n 7 dX11_best_6 rfl rfl ?_
  refine j_ifnonnull 12 10 dX11_best_7 (by decide) rfl (fun c3 => ?_) (fun c3 => ?_)
  · refine j_iconst (v := (-1)) 11 dX11_best_10 rfl (by decide) ?_
    exact s_iret dX11_best_11 rfl
  · refine j_aload_n 13 dX11_best_12 rfl rfl ?_
    refine s_callVi (M2 := mX11_seatingsRefused) [] 16 oa1 cc11 mkX11_seatingsRefused w_935 dX11_best_13 rfl rfl (tX11_seatingsRefused Θ l   _) (by first | exact Nat.le_of_ble_eq_true rfl | omega) (Nat.le_of_ble_eq_true rfl) (Nat.le_of_ble_eq_true rfl) (fun r4 s5 => ?_)
    refine j_istore_n (i := 3) (ls' := [some (vR 1), some (vI a1), some (vR r1), some (vI r4)]) 17 dX11_best_16 rfl rfl (by decide) rfl rfl ?_
    refine j_iload_n 18 dX11_best_17 rfl rfl ?_
    refine j_if_eq 23 21 dX11_best_18 (by decide) rfl (fun c6 => ?_) (fun c6 => ?_)
    · refine j_aload_n 24 dX11_best_23 rfl rfl ?_
      refine s_getR (x := 27) 27 fa1_8 w_410 dX11_best_24 rfl (by decide +kernel) ?_
      refine s_callVu (M2 := mX8_search) [] 30 oa27 cc8 mkX8_search w_939 dX11_best_27 rfl rfl (tX8_search Θ l   _) (by first | exact Nat.le_of_ble_eq_true rfl | omega) (Nat.le_of_ble_eq_true rfl) (Nat.le_of_ble_eq_true rfl) (fun r7 s8 => ?_)
      refine j_aload_n 31 dX11_best_30 rfl rfl ?_
      refine s_getR (x := 27) 34 fa1_8 w_410 dX11_best_31 rfl (by decide +kernel) ?_
      refine s_getI 37 fa27_2 w_268 dX11_best_34 rfl ?_
      refine j_if_ne 43 40 dX11_best_37 (by decide) rfl (fun c9 => ?_) (fun c9 => ?_)
      · refine j_bipush (v := (-9)) 42 dX11_best_40 rfl (by decide) ?_
        exact s_iret dX11_best_42 rfl
      · refine j_aload_n 44 dX11_best_43 rfl rfl ?_
        refine j_aload_n 45 dX11_best_44 rfl rfl ?_
        refine s_getR (x := 27) 48 fa1_8 w_410 dX11_best_45 rfl (by decide +kernel) ?_
        refine s_getR (x := 28) 51 fa27_1 w_266 dX11_best_48 rfl (by decide +kernel) ?_
        refine j_aload_n 52 dX11_best_51 rfl rfl ?_
        refine s_getR (x := 6) 55 fa1_3 w_405 dX11_best_52 rfl (by decide +kernel) ?_
        refine s_getI 58 fa6_1 w_162 dX11_best_55 rfl ?_
        refine j_ite (fun hk10 => ?_) (fun _ => j_none)
        refine s_callVu (M2 := mX7_take) [vR 28, vI (s8.1 6 1)] 61 (row_oa hk10) cc7 mkX7_take w_983 dX11_best_58 rfl rfl (tX7_take_28 Θ l _ _ hk10 _) (by first | exact Nat.le_of_ble_eq_true rfl | omega) (Nat.le_of_ble_eq_true rfl) (Nat.le_of_ble_eq_true rfl) (fun r11 s12 => ?_)
        refine j_aload_n 62 dX11_best_61 rfl rfl ?_
        refine s_getR (x := 27) 65 fa1_8 w_410 dX11_best_62 rfl (by decide +kernel) ?_
        refine s_getI 68 fa27_0 w_264 dX11_best_65 rfl ?_
        exact s_iret dX11_best_68 rfl
    · refine j_iload_n 22 dX11_best_21 rfl rfl ?_
      exact s_iret dX11_best_22 rfl
-- X11_ways
def fX11_ways   (s : Mem) : Option (Int32 × Mem) :=
bnd (fX11_seatingsRefused s) (fun r1 s2 =>
if r1 = 0 then
  bnd (fX8_search s2) (fun r4 s5 =>
  bnd (fX10_share (s5.1 27 3) (s5.1 27 2) s5) (fun r6 s7 =>
  some (s7.1 27 3, s7)))
else
  some (r1, s2))
theorem tX11_ways (Θ : Th) (l : Launch)    (s : Mem) : Cs Θ l mX11_ways 29 gI [vR 1] s (fX11_ways  s) := by
  refine ct_of (by decide) [some (vR 1), none] rfl (Nat.le_of_ble_eq_true rfl) ?_
  unfold fX11_ways
  refine j_aload_n 1 dX11_ways_0 rfl rfl ?_
  refine s_callVi (M2 := mX11_seatingsRefused) [] 4 oa1 cc11 mkX11_seatingsRefused w_935 dX11_ways_1 rfl rfl (tX11_seatingsRefused Θ l   _) (by first | exact Nat.le_of_ble_eq_true rfl | omega) (Nat.le_of_ble_eq_true rfl) (Nat.le_of_ble_eq_true rfl) (fun r1 s2 => ?_)
  refine j_istore_n (i := 1) (ls' := [some (vR 1), some (vI r1)]) 5 dX11_ways_4 rfl rfl (by decide) rfl rfl ?_
  refine j_iload_n 6 dX11_ways_5 rfl rfl ?_
  refine j_if_eq 11 9 dX11_ways_6 (by decide) rfl (fun c3 => ?_) (fun c3 => ?_)
  · refine j_aload_n 12 dX11_ways_11 rfl rfl ?_
    refine s_getR (x := 27) 15 fa1_8 w_410 dX11_ways_12 rfl (by decide +kernel) ?_
    refine s_callVu (M2 := mX8_search) [] 18 oa27 cc8 mkX8_search w_939 dX11_ways_15 rfl rfl (tX8_search Θ l   _) (by first | exact Nat.le_of_ble_eq_true rfl | omega) (Nat.le_of_ble_eq_true rfl) (Nat.le_of_ble_eq_true rfl) (fun r4 s5 => ?_)
    refine j_aload_n 19 dX11_ways_18 rfl rfl ?_
    refine s_getR (x := 2) 22 fa1_0 w_402 dX11_ways_19 rfl (by decide +kernel) ?_
    refine j_aload_n 23 dX11_ways_22 rfl rfl ?_
    refine s_getR (x := 27) 26 fa1_8 w_410 dX11_ways_23 rfl (by decide +kernel) ?_
    refine s_getI 29 fa27_3 w_270 dX11_ways_26 rfl ?_
    refine j_aload_n 30 dX11_ways_29 rfl rfl ?_
    refine s_getR (x := 27) 33 fa1_8 w_410 dX11_ways_30 rfl (by decide +kernel) ?_
    refine s_getI 36 fa27_2 w_268 dX11_ways_33 rfl ?_
    refine s_callVu (M2 := mX10_share) [vI (s5.1 27 3), vI (s5.1 27 2)] 39 oa2 cc10 mkX10_share w_907 dX11_ways_36 rfl rfl (tX10_share Θ l _ _  _) (by first | exact Nat.le_of_ble_eq_true rfl | omega) (Nat.le_of_ble_eq_true rfl) (Nat.le_of_ble_eq_true rfl) (fun r6 s7 => ?_)
    refine j_aload_n 40 dX11_ways_39 rfl rfl ?_
    refine s_getR (x := 27) 43 fa1_8 w_410 dX11_ways_40 rfl (by decide +kernel) ?_
    refine s_getI 46 fa27_3 w_270 dX11_ways_43 rfl ?_
    exact s_iret dX11_ways_46 rfl
  · refine j_iload_n 10 dX11_ways_9 rfl rfl ?_
    exact s_iret dX11_ways_10 rfl
-- X8_levelBenches
def fX8_levelBenches  (a1 : Int32) (s : Mem) : Option (Int32 × Mem) :=
if a1 < 0 then
  some (0, s)
else
  if a1 < 7 then
    if inb a1 7 = true then
    some (s.1 31 (ix a1), s)
    else none
  else
    some (0, s)
theorem tX8_levelBenches (Θ : Th) (l : Launch)  (a1 : Int32)  (s : Mem) : Cs Θ l mX8_levelBenches 1 gI [vR 27, vI a1] s (fX8_levelBenches a1 s) := by
  refine ct_of (by decide) [some (vR 27), some (vI a1)] rfl (Nat.le_of_ble_eq_true rfl) ?_
  unfold fX8_levelBenches
  refine j_iload_n 1 dX8_levelBenches_0 rfl rfl ?_
  refine j_if_lt 19 4 dX8_levelBenches_1 (by decide) rfl (fun c1 => ?_) (fun c1 => ?_)
  · refine j_iconst (v := 0) 20 dX8_levelBenches_19 rfl (by decide) ?_
    exact s_iret dX8_levelBenches_20 rfl
  · refine j_iload_n 5 dX8_levelBenches_4 rfl rfl ?_
    refine j_bipush (v := 7) 7 dX8_levelBenches_5 rfl (by decide) ?_
    refine j_icmp_ge 19 10 dX8_levelBenches_7 (by decide) rfl (fun c2 => ?_) (fun c2 => ?_)
    · refine j_aload_n 11 dX8_levelBenches_10 rfl rfl ?_
      refine s_getR (x := 31) 14 fa27_9 w_276 dX8_levelBenches_11 rfl (by decide +kernel) ?_
      refine j_iload_n 15 dX8_levelBenches_14 rfl rfl ?_
      refine s_iaload 16 aa31 dX8_levelBenches_15 rfl (fun b3 => ?_)
      refine j_goto 20 dX8_levelBenches_16 (by decide) ?_
      exact s_iret dX8_levelBenches_20 rfl
    · refine j_iconst (v := 0) 20 dX8_levelBenches_19 rfl (by decide) ?_
      exact s_iret dX8_levelBenches_20 rfl
-- X11_sure
def fX11_sure_L22  (κ : Int32 → Mem → Option (Int32 × Mem))  : Nat → Int32 → Int32 → Mem → Option (Int32 × Mem)
  | 0, _, _, _ => none
  | k + 1, x2, x3, s =>
    if x3 < (s.1 6 1) then
      bnd (fX8_levelBenches x3 s) (fun r7 s8 =>
      bnd (fJ6_bitCount_0f7a4 r7 s8) (fun r9 s10 =>
      if r9 = 1 then
        nm (x2 ||| ((1 : Int32) <<< (x3 &&& 31))) (fun v12 =>
        fX11_sure_L22 κ k v12 (x3 + 1) s10)
      else
        fX11_sure_L22 κ k x2 (x3 + 1) s10))
    else
      κ x2 s
def fX11_sure   (s : Mem) : Option (Int32 × Mem) :=
bnd (fX11_seatingsRefused s) (fun r1 s2 =>
if r1 = 0 then
  bnd (fX8_search s2) (fun r4 s5 =>
  fX11_sure_L22 (fun v13 s14 =>
    some (v13, s14))  FU 0 0 s5)
else
  some (r1, s2))
theorem tX11_sure_L22 (Θ : Th) (l : Launch)  (κ : Int32 → Mem → Option (Int32 × Mem))   (hκ : ∀ (x2 : Int32) (s : Mem), Js Θ l mX11_sure 29 gI 60 [none, none, some (vI x2), none] [] s (κ x2 s)) : ∀ (k : Nat) (x2 : Int32) (x3 : Int32) (s : Mem), Js Θ l mX11_sure 29 gI 22 [some (vR 1), none, some (vI x2), some (vI x3)] [] s (fX11_sure_L22 κ  k x2 x3 s) := by
  intro k
  induction k with
  | zero => intro x2 x3 s; exact j_none
  | succ k ih =>
    intro x2 x3 s
    rw [fX11_sure_L22]
    refine j_iload_n 23 dX11_sure_22 rfl rfl ?_
    refine j_aload_n 24 dX11_sure_23 rfl rfl ?_
    refine s_getR (x := 6) 27 fa1_3 w_405 dX11_sure_24 rfl (by decide +kernel) ?_
    refine s_getI 30 fa6_1 w_162 dX11_sure_27 rfl ?_
    refine j_icmp_ge 60 33 dX11_sure_30 (by decide) rfl (fun c6 => ?_) (fun c6 => ?_)
    · refine j_aload_n 34 dX11_sure_33 rfl rfl ?_
      refine s_getR (x := 27) 37 fa1_8 w_410 dX11_sure_34 rfl (by decide +kernel) ?_
      refine j_iload_n 38 dX11_sure_37 rfl rfl ?_
      refine s_callVi (M2 := mX8_levelBenches) [vI x3] 41 oa27 cc8 mkX8_levelBenches w_997 dX11_sure_38 rfl rfl (tX8_levelBenches Θ l _  _) (by first | exact Nat.le_of_ble_eq_true rfl | omega) (Nat.le_of_ble_eq_true rfl) (Nat.le_of_ble_eq_true rfl) (fun r7 s8 => ?_)
      refine s_callSi (M2 := mJ6_bitCount_0f7a4) [vI r7] 44 mkJ6_bitCount_0f7a4 (Or.inl w_744) dX11_sure_41 rfl rfl (tJ6_bitCount_0f7a4 Θ l _  _) (by first | exact Nat.le_of_ble_eq_true rfl | omega) (Nat.le_of_ble_eq_true rfl) (Nat.le_of_ble_eq_true rfl) (fun r9 s10 => ?_)
      refine j_iconst (v := 1) 45 dX11_sure_44 rfl (by decide) ?_
      refine j_icmp_ne 54 48 dX11_sure_45 (by decide) rfl (fun c11 => ?_) (fun c11 => ?_)
      · refine j_iload_n 49 dX11_sure_48 rfl rfl ?_
        refine j_iconst (v := 1) 50 dX11_sure_49 rfl (by decide) ?_
        refine j_iload_n 51 dX11_sure_50 rfl rfl ?_
        refine j_ishl 52 dX11_sure_51 rfl ?_
        refine j_ior 53 dX11_sure_52 rfl ?_
        refine s_nmI (fun v12 => ?_)
        refine j_istore_n (i := 2) (ls' := [some (vR 1), none, some (vI v12), some (vI x3)]) 54 dX11_sure_53 rfl rfl (by decide) rfl rfl ?_
        refine j_iinc (v := x3 + 1) (ls' := [some (vR 1), none, some (vI v12), some (vI (x3 + 1))]) 57 dX11_sure_54 rfl rfl rfl (by decide) rfl rfl ?_
        refine j_goto 22 dX11_sure_57 (by decide) ?_
        refine j_sub (ls' := [some (vR 1), none, some (vI v12), some (vI (x3 + 1))]) (And.intro rfl (And.intro rfl (And.intro rfl trivial))) ?_
        exact ih v12 (x3 + 1) s10
      · refine j_iinc (v := x3 + 1) (ls' := [some (vR 1), none, some (vI x2), some (vI (x3 + 1))]) 57 dX11_sure_54 rfl rfl rfl (by decide) rfl rfl ?_
        refine j_goto 22 dX11_sure_57 (by decide) ?_
        refine j_sub (ls' := [some (vR 1), none, some (vI x2), some (vI (x3 + 1))]) (And.intro rfl (And.intro rfl (And.intro rfl trivial))) ?_
        exact ih x2 (x3 + 1) s10
    · refine j_sub (ls' := [none, none, some (vI x2), none]) (And.intro rfl trivial) ?_
      exact hκ x2 s
theorem tX11_sure (Θ : Th) (l : Launch)    (s : Mem) : Cs Θ l mX11_sure 29 gI [vR 1] s (fX11_sure  s) := by
  refine ct_of (by decide) [some (vR 1), none, none, none] rfl (Nat.le_of_ble_eq_true rfl) ?_
  unfold fX11_sure
  refine j_aload_n 1 dX11_sure_0 rfl rfl ?_
  refine s_callVi (M2 := mX11_seatingsRefused) [] 4 oa1 cc11 mkX11_seatingsRefused w_935 dX11_sure_1 rfl rfl (tX11_seatingsRefused Θ l   _) (by first | exact Nat.le_of_ble_eq_true rfl | omega) (Nat.le_of_ble_eq_true rfl) (Nat.le_of_ble_eq_true rfl) (fun r1 s2 => ?_)
  refine j_istore_n (i := 1) (ls' := [some (vR 1), some (vI r1), none, none]) 5 dX11_sure_4 rfl rfl (by decide) rfl rfl ?_
  refine j_iload_n 6 dX11_sure_5 rfl rfl ?_
  refine j_if_eq 11 9 dX11_sure_6 (by decide) rfl (fun c3 => ?_) (fun c3 => ?_)
  · refine j_aload_n 12 dX11_sure_11 rfl rfl ?_
    refine s_getR (x := 27) 15 fa1_8 w_410 dX11_sure_12 rfl (by decide +kernel) ?_
    refine s_callVu (M2 := mX8_search) [] 18 oa27 cc8 mkX8_search w_939 dX11_sure_15 rfl rfl (tX8_search Θ l   _) (by first | exact Nat.le_of_ble_eq_true rfl | omega) (Nat.le_of_ble_eq_true rfl) (Nat.le_of_ble_eq_true rfl) (fun r4 s5 => ?_)
    refine j_iconst (v := 0) 19 dX11_sure_18 rfl (by decide) ?_
    refine j_istore_n (i := 2) (ls' := [some (vR 1), some (vI r1), some (vI 0), none]) 20 dX11_sure_19 rfl rfl (by decide) rfl rfl ?_
    refine j_iconst (v := 0) 21 dX11_sure_20 rfl (by decide) ?_
    refine j_istore_n (i := 3) (ls' := [some (vR 1), some (vI r1), some (vI 0), some (vI 0)]) 22 dX11_sure_21 rfl rfl (by decide) rfl rfl ?_
    refine j_sub (ls' := [some (vR 1), none, some (vI 0), some (vI 0)]) (And.intro rfl (And.intro rfl (And.intro rfl trivial))) ?_
    refine tX11_sure_L22 Θ l _   ?_ _ _ _ _
    intro v13 s14
    refine j_iload_n 61 dX11_sure_60 rfl rfl ?_
    exact s_iret dX11_sure_61 rfl
  · refine j_iload_n 10 dX11_sure_9 rfl rfl ?_
    exact s_iret dX11_sure_10 rfl
-- X11_where
def fX11_where  (a1 : Int32) (s : Mem) : Option (Int32 × Mem) :=
bnd (fX0_isGuest a1 s) (fun r1 s2 =>
if r1 = 0 then
  some ((-1), s2)
else
  bnd (fX0_benchOf a1 s2) (fun r4 s5 =>
  if r4 = (-9) then
    bnd (fX11_seatingsRefused s5) (fun r7 s8 =>
    if r7 = 0 then
      bnd (fX8_search s8) (fun r10 s11 =>
      bnd (fX8_levelBenches a1 s11) (fun r12 s13 =>
      bnd (fX10_tell r12 s13) (fun r14 s15 =>
      bnd (fJ6_bitCount_0f7a4 r12 s15) (fun r16 s17 =>
      some (r16, s17)))))
    else
      some (r7, s8))
  else
    some ((-4), s5)))
theorem tX11_where (Θ : Th) (l : Launch)  (a1 : Int32)  (s : Mem) : Cs Θ l mX11_where 29 gI [vR 1, vI a1] s (fX11_where a1 s) := by
  refine ct_of (by decide) [some (vR 1), some (vI a1), none, none] rfl (Nat.le_of_ble_eq_true rfl) ?_
  unfold fX11_where
  refine j_aload_n 1 dX11_where_0 rfl rfl ?_
  refine s_getR (x := 6) 4 fa1_3 w_405 dX11_where_1 rfl (by decide +kernel) ?_
  refine j_iload_n 5 dX11_where_4 rfl rfl ?_
  refine s_callVi (M2 := mX0_isGuest) [vI a1] 8 oa6 cc0 mkX0_isGuest w_711 dX11_where_5 rfl rfl (tX0_isGuest Θ l _  _) (by first | exact Nat.le_of_ble_eq_true rfl | omega) (Nat.le_of_ble_eq_true rfl) (Nat.le_of_ble_eq_true rfl) (fun r1 s2 => ?_)
  refine j_if_ne 13 11 dX11_where_8 (by decide) rfl (fun c3 => ?_) (fun c3 => ?_)
  · refine j_iconst (v := (-1)) 12 dX11_where_11 rfl (by decide) ?_
    exact s_iret dX11_where_12 rfl
  · refine j_aload_n 14 dX11_where_13 rfl rfl ?_
    refine s_getR (x := 6) 17 fa1_3 w_405 dX11_where_14 rfl (by decide +kernel) ?_
    refine j_iload_n 18 dX11_where_17 rfl rfl ?_
    refine s_callVi (M2 := mX0_benchOf) [vI a1] 21 oa6 cc0 mkX0_benchOf w_722 dX11_where_18 rfl rfl (tX0_benchOf Θ l _  _) (by first | exact Nat.le_of_ble_eq_true rfl | omega) (Nat.le_of_ble_eq_true rfl) (Nat.le_of_ble_eq_true rfl) (fun r4 s5 => ?_)
    refine j_bipush (v := (-9)) 23 dX11_where_21 rfl (by decide) ?_
    refine j_icmp_eq 29 26 dX11_where_23 (by decide) rfl (fun c6 => ?_) (fun c6 => ?_)
    · refine j_aload_n 30 dX11_where_29 rfl rfl ?_
      refine s_callVi (M2 := mX11_seatingsRefused) [] 33 oa1 cc11 mkX11_seatingsRefused w_935 dX11_where_30 rfl rfl (tX11_seatingsRefused Θ l   _) (by first | exact Nat.le_of_ble_eq_true rfl | omega) (Nat.le_of_ble_eq_true rfl) (Nat.le_of_ble_eq_true rfl) (fun r7 s8 => ?_)
      refine j_istore_n (i := 2) (ls' := [some (vR 1), some (vI a1), some (vI r7), none]) 34 dX11_where_33 rfl rfl (by decide) rfl rfl ?_
      refine j_iload_n 35 dX11_where_34 rfl rfl ?_
      refine j_if_eq 40 38 dX11_where_35 (by decide) rfl (fun c9 => ?_) (fun c9 => ?_)
      · refine j_aload_n 41 dX11_where_40 rfl rfl ?_
        refine s_getR (x := 27) 44 fa1_8 w_410 dX11_where_41 rfl (by decide +kernel) ?_
        refine s_callVu (M2 := mX8_search) [] 47 oa27 cc8 mkX8_search w_939 dX11_where_44 rfl rfl (tX8_search Θ l   _) (by first | exact Nat.le_of_ble_eq_true rfl | omega) (Nat.le_of_ble_eq_true rfl) (Nat.le_of_ble_eq_true rfl) (fun r10 s11 => ?_)
        refine j_aload_n 48 dX11_where_47 rfl rfl ?_
        refine s_getR (x := 27) 51 fa1_8 w_410 dX11_where_48 rfl (by decide +kernel) ?_
        refine j_iload_n 52 dX11_where_51 rfl rfl ?_
        refine s_callVi (M2 := mX8_levelBenches) [vI a1] 55 oa27 cc8 mkX8_levelBenches w_997 dX11_where_52 rfl rfl (tX8_levelBenches Θ l _  _) (by first | exact Nat.le_of_ble_eq_true rfl | omega) (Nat.le_of_ble_eq_true rfl) (Nat.le_of_ble_eq_true rfl) (fun r12 s13 => ?_)
        refine j_istore_n (i := 3) (ls' := [some (vR 1), some (vI a1), some (vI r7), some (vI r12)]) 56 dX11_where_55 rfl rfl (by decide) rfl rfl ?_
        refine j_aload_n 57 dX11_where_56 rfl rfl ?_
        refine s_getR (x := 2) 60 fa1_0 w_402 dX11_where_57 rfl (by decide +kernel) ?_
        refine j_iload_n 61 dX11_where_60 rfl rfl ?_
        refine s_callVu (M2 := mX10_tell) [vI r12] 64 oa2 cc10 mkX10_tell w_479 dX11_where_61 rfl rfl (tX10_tell Θ l _  _) (by first | exact Nat.le_of_ble_eq_true rfl | omega) (Nat.le_of_ble_eq_true rfl) (Nat.le_of_ble_eq_true rfl) (fun r14 s15 => ?_)
        refine j_iload_n 65 dX11_where_64 rfl rfl ?_
        refine s_callSi (M2 := mJ6_bitCount_0f7a4) [vI r12] 68 mkJ6_bitCount_0f7a4 (Or.inl w_744) dX11_where_65 rfl rfl (tJ6_bitCount_0f7a4 Θ l _  _) (by first | exact Nat.le_of_ble_eq_true rfl | omega) (Nat.le_of_ble_eq_true rfl) (Nat.le_of_ble_eq_true rfl) (fun r16 s17 => ?_)
        exact s_iret dX11_where_68 rfl
      · refine j_iload_n 39 dX11_where_38 rfl rfl ?_
        exact s_iret dX11_where_39 rfl
    · refine j_bipush (v := (-4)) 28 dX11_where_26 rfl (by decide) ?_
      exact s_iret dX11_where_28 rfl
-- X11_aisle
def fX11_aisle_L33  (κ : Int32 → Int32 → Mem → Option (Int32 × Mem)) (y3 : Int32) : Nat → Int32 → Int32 → Int32 → Mem → Option (Int32 × Mem)
  | 0, _, _, _, _ => none
  | k + 1, x1, x2, x4, s =>
    if x4 < (s.1 6 1) then
      bnd (fX0_trade y3 x4 s) (fun r7 s8 =>
      if r7 = 0 then
        fX11_aisle_L33 κ y3 k x1 x2 (x4 + 1) s8
      else
        bnd (fX0_listIn 0 s8) (fun r10 s11 =>
        nm (ab r10) (fun v12 =>
        bnd (fX0_swap y3 x4 s11) (fun r13 s14 =>
        if v12 < x1 then
          nm ((10 * y3) + x4) (fun v16 =>
          fX11_aisle_L33 κ y3 k v12 v16 (x4 + 1) s14)
        else
          fX11_aisle_L33 κ y3 k x1 x2 (x4 + 1) s14))))
    else
      κ x1 x2 s
def fX11_aisle_L17  (κ : Int32 → Int32 → Mem → Option (Int32 × Mem))  : Nat → Int32 → Int32 → Int32 → Mem → Option (Int32 × Mem)
  | 0, _, _, _, _ => none
  | k + 1, x1, x2, x3, s =>
    if x3 < (s.1 6 1) then
      nm (x3 + 1) (fun v5 =>
      fX11_aisle_L33 (fun v17 v18 s19 =>
        fX11_aisle_L17 κ k v17 v18 (x3 + 1) s19) x3 FU x1 x2 v5 s)
    else
      κ x1 x2 s
def fX11_aisle   (s : Mem) : Option (Int32 × Mem) :=
bnd (fX0_listIn 0 s) (fun r1 s2 =>
nm (ab r1) (fun v3 =>
fX11_aisle_L17 (fun v20 v21 s22 =>
  if v21 = (-9) then
    some (v21, s22)
  else
    bnd (fX10_tell v20 s22) (fun r24 s25 =>
    some (v21, s25)))  FU v3 (-9) 0 s2))
theorem tX11_aisle_L33 (Θ : Th) (l : Launch)  (κ : Int32 → Int32 → Mem → Option (Int32 × Mem)) (y3 : Int32)  (hκ : ∀ (x1 : Int32) (x2 : Int32) (s : Mem), Js Θ l mX11_aisle 6 gI 104 [some (vR 1), some (vI x1), some (vI x2), some (vI y3), none, none] [] s (κ x1 x2 s)) : ∀ (k : Nat) (x1 : Int32) (x2 : Int32) (x4 : Int32) (s : Mem), Js Θ l mX11_aisle 6 gI 33 [some (vR 1), some (vI x1), some (vI x2), some (vI y3), some (vI x4), none] [] s (fX11_aisle_L33 κ y3 k x1 x2 x4 s) := by
  intro k
  induction k with
  | zero => intro x1 x2 x4 s; exact j_none
  | succ k ih =>
    intro x1 x2 x4 s
    rw [fX11_aisle_L33]
    refine j_iload 35 dX11_aisle_33 rfl rfl ?_
    refine j_aload_n 36 dX11_aisle_35 rfl rfl ?_
    refine s_getR (x := 6) 39 fa1_3 w_405 dX11_aisle_36 rfl (by decide +kernel) ?_
    refine s_getI 42 fa6_1 w_162 dX11_aisle_39 rfl ?_
    refine j_icmp_ge 104 45 dX11_aisle_42 (by decide) rfl (fun c6 => ?_) (fun c6 => ?_)
    · refine j_aload_n 46 dX11_aisle_45 rfl rfl ?_
      refine s_getR (x := 6) 49 fa1_3 w_405 dX11_aisle_46 rfl (by decide +kernel) ?_
      refine j_iload_n 50 dX11_aisle_49 rfl rfl ?_
      refine j_iload 52 dX11_aisle_50 rfl rfl ?_
      refine s_callVi (M2 := mX0_trade) [vI y3, vI x4] 55 oa6 cc0 mkX0_trade w_812 dX11_aisle_52 rfl rfl (tX0_trade Θ l _ _  _) (by first | exact Nat.le_of_ble_eq_true rfl | omega) (Nat.le_of_ble_eq_true rfl) (Nat.le_of_ble_eq_true rfl) (fun r7 s8 => ?_)
      refine j_if_eq 98 58 dX11_aisle_55 (by decide) rfl (fun c9 => ?_) (fun c9 => ?_)
      · refine j_iinc (v := x4 + 1) (ls' := [some (vR 1), some (vI x1), some (vI x2), some (vI y3), some (vI (x4 + 1)), none]) 101 dX11_aisle_98 rfl rfl rfl (by decide) rfl rfl ?_
        refine j_goto 33 dX11_aisle_101 (by decide) ?_
        refine j_sub (ls' := [some (vR 1), some (vI x1), some (vI x2), some (vI y3), some (vI (x4 + 1)), none]) (And.intro rfl (And.intro rfl (And.intro rfl (And.intro rfl (And.intro rfl trivial))))) ?_
        exact ih x1 x2 (x4 + 1) s8
      · refine j_aload_n 59 dX11_aisle_58 rfl rfl ?_
        refine s_getR (x := 6) 62 fa1_3 w_405 dX11_aisle_59 rfl (by decide +kernel) ?_
        refine j_iconst (v := 0) 63 dX11_aisle_62 rfl (by decide) ?_
        refine s_callVi (M2 := mX0_listIn) [vI 0] 66 oa6 cc0 mkX0_listIn w_882 dX11_aisle_63 rfl rfl (tX0_listIn Θ l _  _) (by first | exact Nat.le_of_ble_eq_true rfl | omega) (Nat.le_of_ble_eq_true rfl) (Nat.le_of_ble_eq_true rfl) (fun r10 s11 => ?_)
        refine s_mabs 69 dX11_aisle_66 rfl wm_926 wt_abs wi_math wc_abs (by first | exact Nat.le_of_ble_eq_true rfl | omega) (Nat.le_of_ble_eq_true rfl) ?_
        refine s_nmI (fun v12 => ?_)
        refine j_istore (i := 5) (ls' := [some (vR 1), some (vI x1), some (vI x2), some (vI y3), some (vI x4), some (vI v12)]) 71 dX11_aisle_69 rfl (by decide) rfl rfl ?_
        refine j_aload_n 72 dX11_aisle_71 rfl rfl ?_
        refine s_getR (x := 6) 75 fa1_3 w_405 dX11_aisle_72 rfl (by decide +kernel) ?_
        refine j_iload_n 76 dX11_aisle_75 rfl rfl ?_
        refine j_iload 78 dX11_aisle_76 rfl rfl ?_
        refine s_callVu (M2 := mX0_swap) [vI y3, vI x4] 81 oa6 cc0 mkX0_swap w_840 dX11_aisle_78 rfl rfl (tX0_swap Θ l _ _  _) (by first | exact Nat.le_of_ble_eq_true rfl | omega) (Nat.le_of_ble_eq_true rfl) (Nat.le_of_ble_eq_true rfl) (fun r13 s14 => ?_)
        refine j_iload 83 dX11_aisle_81 rfl rfl ?_
        refine j_iload_n 84 dX11_aisle_83 rfl rfl ?_
        refine j_icmp_ge 98 87 dX11_aisle_84 (by decide) rfl (fun c15 => ?_) (fun c15 => ?_)
        · refine j_iload 89 dX11_aisle_87 rfl rfl ?_
          refine j_istore_n (i := 1) (ls' := [some (vR 1), some (vI v12), some (vI x2), some (vI y3), some (vI x4), some (vI v12)]) 90 dX11_aisle_89 rfl rfl (by decide) rfl rfl ?_
          refine j_bipush (v := 10) 92 dX11_aisle_90 rfl (by decide) ?_
          refine j_iload_n 93 dX11_aisle_92 rfl rfl ?_
          refine j_imul 94 dX11_aisle_93 rfl ?_
          refine j_iload 96 dX11_aisle_94 rfl rfl ?_
          refine j_iadd 97 dX11_aisle_96 rfl ?_
          refine s_nmI (fun v16 => ?_)
          refine j_istore_n (i := 2) (ls' := [some (vR 1), some (vI v12), some (vI v16), some (vI y3), some (vI x4), some (vI v12)]) 98 dX11_aisle_97 rfl rfl (by decide) rfl rfl ?_
          refine j_iinc (v := x4 + 1) (ls' := [some (vR 1), some (vI v12), some (vI v16), some (vI y3), some (vI (x4 + 1)), some (vI v12)]) 101 dX11_aisle_98 rfl rfl rfl (by decide) rfl rfl ?_
          refine j_goto 33 dX11_aisle_101 (by decide) ?_
          refine j_sub (ls' := [some (vR 1), some (vI v12), some (vI v16), some (vI y3), some (vI (x4 + 1)), none]) (And.intro rfl (And.intro rfl (And.intro rfl (And.intro rfl (And.intro rfl trivial))))) ?_
          exact ih v12 v16 (x4 + 1) s14
        · refine j_iinc (v := x4 + 1) (ls' := [some (vR 1), some (vI x1), some (vI x2), some (vI y3), some (vI (x4 + 1)), some (vI v12)]) 101 dX11_aisle_98 rfl rfl rfl (by decide) rfl rfl ?_
          refine j_goto 33 dX11_aisle_101 (by decide) ?_
          refine j_sub (ls' := [some (vR 1), some (vI x1), some (vI x2), some (vI y3), some (vI (x4 + 1)), none]) (And.intro rfl (And.intro rfl (And.intro rfl (And.intro rfl (And.intro rfl trivial))))) ?_
          exact ih x1 x2 (x4 + 1) s14
    · refine j_sub (ls' := [some (vR 1), some (vI x1), some (vI x2), some (vI y3), none, none]) (And.intro rfl (And.intro rfl (And.intro rfl (And.intro rfl trivial)))) ?_
      exact hκ x1 x2 s
theorem tX11_aisle_L17 (Θ : Th) (l : Launch)  (κ : Int32 → Int32 → Mem → Option (Int32 × Mem))   (hκ : ∀ (x1 : Int32) (x2 : Int32) (s : Mem), Js Θ l mX11_aisle 6 gI 110 [some (vR 1), some (vI x1), some (vI x2), none, none, none] [] s (κ x1 x2 s)) : ∀ (k : Nat) (x1 : Int32) (x2 : Int32) (x3 : Int32) (s : Mem), Js Θ l mX11_aisle 6 gI 17 [some (vR 1), some (vI x1), some (vI x2), some (vI x3), none, none] [] s (fX11_aisle_L17 κ  k x1 x2 x3 s) := by
  intro k
  induction k with
  | zero => intro x1 x2 x3 s; exact j_none
  | succ k ih =>
    intro x1 x2 x3 s
    rw [fX11_aisle_L17]
    refine j_iload_n 18 dX11_aisle_17 rfl rfl ?_
    refine j_aload_n 19 dX11_aisle_18 rfl rfl ?_
    refine s_getR (x := 6) 22 fa1_3 w_405 dX11_aisle_19 rfl (by decide +kernel) ?_
    refine s_getI 25 fa6_1 w_162 dX11_aisle_22 rfl ?_
    refine j_icmp_ge 110 28 dX11_aisle_25 (by decide) rfl (fun c4 => ?_) (fun c4 => ?_)
    · refine j_iload_n 29 dX11_aisle_28 rfl rfl ?_
      refine j_iconst (v := 1) 30 dX11_aisle_29 rfl (by decide) ?_
      refine j_iadd 31 dX11_aisle_30 rfl ?_
      refine s_nmI (fun v5 => ?_)
      refine j_istore (i := 4) (ls' := [some (vR 1), some (vI x1), some (vI x2), some (vI x3), some (vI v5), none]) 33 dX11_aisle_31 rfl (by decide) rfl rfl ?_
      refine j_sub (ls' := [some (vR 1), some (vI x1), some (vI x2), some (vI x3), some (vI v5), none]) (And.intro rfl (And.intro rfl (And.intro rfl (And.intro rfl (And.intro rfl trivial))))) ?_
      refine tX11_aisle_L33 Θ l _ _  ?_ _ _ _ _ _
      intro v17 v18 s19
      refine j_iinc (v := x3 + 1) (ls' := [some (vR 1), some (vI v17), some (vI v18), some (vI (x3 + 1)), none, none]) 107 dX11_aisle_104 rfl rfl rfl (by decide) rfl rfl ?_
      refine j_goto 17 dX11_aisle_107 (by decide) ?_
      refine j_sub (ls' := [some (vR 1), some (vI v17), some (vI v18), some (vI (x3 + 1)), none, none]) (And.intro rfl (And.intro rfl (And.intro rfl (And.intro rfl trivial)))) ?_
      exact ih v17 v18 (x3 + 1) s19
    · refine j_sub (ls' := [some (vR 1), some (vI x1), some (vI x2), none, none, none]) (And.intro rfl (And.intro rfl (And.intro rfl trivial))) ?_
      exact hκ x1 x2 s
theorem tX11_aisle (Θ : Th) (l : Launch)    (s : Mem) : Cs Θ l mX11_aisle 6 gI [vR 1] s (fX11_aisle  s) := by
  refine ct_of (by decide) [some (vR 1), none, none, none, none, none] rfl (Nat.le_of_ble_eq_true rfl) ?_
  unfold fX11_aisle
  refine j_aload_n 1 dX11_aisle_0 rfl rfl ?_
  refine s_getR (x := 6) 4 fa1_3 w_405 dX11_aisle_1 rfl (by decide +kernel) ?_
  refine j_iconst (v := 0) 5 dX11_aisle_4 rfl (by decide) ?_
  refine s_callVi (M2 := mX0_listIn) [vI 0] 8 oa6 cc0 mkX0_listIn w_882 dX11_aisle_5 rfl rfl (tX0_listIn Θ l _  _) (by first | exact Nat.le_of_ble_eq_true rfl | omega) (Nat.le_of_ble_eq_true rfl) (Nat.le_of_ble_eq_true rfl) (fun r1 s2 => ?_)
  refine s_mabs 11 dX11_aisle_8 rfl wm_926 wt_abs wi_math wc_abs (by first | exact Nat.le_of_ble_eq_true rfl | omega) (Nat.le_of_ble_eq_true rfl) ?_
  refine s_nmI (fun v3 => ?_)
  refine j_istore_n (i := 1) (ls' := [some (vR 1), some (vI v3), none, none, none, none]) 12 dX11_aisle_11 rfl rfl (by decide) rfl rfl ?_
  refine j_bipush (v := (-9)) 14 dX11_aisle_12 rfl (by decide) ?_
  refine j_istore_n (i := 2) (ls' := [some (vR 1), some (vI v3), some (vI (-9)), none, none, none]) 15 dX11_aisle_14 rfl rfl (by decide) rfl rfl ?_
  refine j_iconst (v := 0) 16 dX11_aisle_15 rfl (by decide) ?_
  refine j_istore_n (i := 3) (ls' := [some (vR 1), some (vI v3), some (vI (-9)), some (vI 0), none, none]) 17 dX11_aisle_16 rfl rfl (by decide) rfl rfl ?_
  refine j_sub (ls' := [some (vR 1), some (vI v3), some (vI (-9)), some (vI 0), none, none]) (And.intro rfl (And.intro rfl (And.intro rfl (And.intro rfl trivial)))) ?_
  refine tX11_aisle_L17 Θ l _   ?_ _ _ _ _ _
  intro v20 v21 s22
  refine j_iload_n 111 dX11_aisle_110 rfl rfl ?_
  refine j_bipush (v := (-9)) 113 dX11_aisle_111 rfl (by decide) ?_
  refine j_icmp_eq 124 116 dX11_aisle_113 (by decide) rfl (fun c23 => ?_) (fun c23 => ?_)
  · refine j_iload_n 125 dX11_aisle_124 rfl rfl ?_
    exact s_iret dX11_aisle_125 rfl
  · refine j_aload_n 117 dX11_aisle_116 rfl rfl ?_
    refine s_getR (x := 2) 120 fa1_0 w_402 dX11_aisle_117 rfl (by decide +kernel) ?_
    refine j_iload_n 121 dX11_aisle_120 rfl rfl ?_
    refine s_callVu (M2 := mX10_tell) [vI v20] 124 oa2 cc10 mkX10_tell w_479 dX11_aisle_121 rfl rfl (tX10_tell Θ l _  _) (by first | exact Nat.le_of_ble_eq_true rfl | omega) (Nat.le_of_ble_eq_true rfl) (Nat.le_of_ble_eq_true rfl) (fun r24 s25 => ?_)
    refine j_iload_n 125 dX11_aisle_124 rfl rfl ?_
    exact s_iret dX11_aisle_125 rfl
-- X4_listOf
def fX4_listOf_L10  (κ : Int32 → Mem → Option (Int32 × Mem)) (y1 : Int32) : Nat → Int32 → Int32 → Mem → Option (Int32 × Mem)
  | 0, _, _, _ => none
  | k + 1, x2, x3, s =>
    if x3 < 7 then
      if (y1 &&& ((1 : Int32) <<< (x3 &&& 31))) = 0 then
        fX4_listOf_L10 κ y1 k x2 (x3 + 1) s
      else
        bnd (fX0_benchOf x3 s) (fun r4 s5 =>
        bnd (fX0_momentOf x3 r4 0 s5) (fun r6 s7 =>
        nm (x2 + r6) (fun v8 =>
        fX4_listOf_L10 κ y1 k v8 (x3 + 1) s7)))
    else
      κ x2 s
def fX4_listOf  (a1 : Int32) (s : Mem) : Option (Int32 × Mem) :=
nm (s.1 6 3) (fun v1 =>
fX4_listOf_L10 (fun v9 s10 =>
  some (v9, s10)) a1 FU v1 0 s)
theorem tX4_listOf_L10 (Θ : Th) (l : Launch)  (κ : Int32 → Mem → Option (Int32 × Mem)) (y1 : Int32)  (hκ : ∀ (x2 : Int32) (s : Mem), Js Θ l mX4_listOf 3 gI 50 [none, none, some (vI x2), none] [] s (κ x2 s)) : ∀ (k : Nat) (x2 : Int32) (x3 : Int32) (s : Mem), Js Θ l mX4_listOf 3 gI 10 [some (vR 37), some (vI y1), some (vI x2), some (vI x3)] [] s (fX4_listOf_L10 κ y1 k x2 x3 s) := by
  intro k
  induction k with
  | zero => intro x2 x3 s; exact j_none
  | succ k ih =>
    intro x2 x3 s
    rw [fX4_listOf_L10]
    refine j_iload_n 11 dX4_listOf_10 rfl rfl ?_
    refine j_bipush (v := 7) 13 dX4_listOf_11 rfl (by decide) ?_
    refine j_icmp_ge 50 16 dX4_listOf_13 (by decide) rfl (fun c2 => ?_) (fun c2 => ?_)
    · refine j_iload_n 17 dX4_listOf_16 rfl rfl ?_
      refine j_iconst (v := 1) 18 dX4_listOf_17 rfl (by decide) ?_
      refine j_iload_n 19 dX4_listOf_18 rfl rfl ?_
      refine j_ishl 20 dX4_listOf_19 rfl ?_
      refine j_iand 21 dX4_listOf_20 rfl ?_
      refine j_if_eq 44 24 dX4_listOf_21 (by decide) rfl (fun c3 => ?_) (fun c3 => ?_)
      · refine j_iinc (v := x3 + 1) (ls' := [some (vR 37), some (vI y1), some (vI x2), some (vI (x3 + 1))]) 47 dX4_listOf_44 rfl rfl rfl (by decide) rfl rfl ?_
        refine j_goto 10 dX4_listOf_47 (by decide) ?_
        refine j_sub (ls' := [some (vR 37), some (vI y1), some (vI x2), some (vI (x3 + 1))]) (And.intro rfl (And.intro rfl (And.intro rfl (And.intro rfl trivial)))) ?_
        exact ih x2 (x3 + 1) s
      · refine j_iload_n 25 dX4_listOf_24 rfl rfl ?_
        refine j_aload_n 26 dX4_listOf_25 rfl rfl ?_
        refine s_getR (x := 6) 29 fa37_0 w_319 dX4_listOf_26 rfl (by decide +kernel) ?_
        refine j_iload_n 30 dX4_listOf_29 rfl rfl ?_
        refine j_aload_n 31 dX4_listOf_30 rfl rfl ?_
        refine s_getR (x := 6) 34 fa37_0 w_319 dX4_listOf_31 rfl (by decide +kernel) ?_
        refine j_iload_n 35 dX4_listOf_34 rfl rfl ?_
        refine s_callVi (M2 := mX0_benchOf) [vI x3] 38 oa6 cc0 mkX0_benchOf w_1022 dX4_listOf_35 rfl rfl (tX0_benchOf Θ l _  _) (by first | exact Nat.le_of_ble_eq_true rfl | omega) (Nat.le_of_ble_eq_true rfl) (Nat.le_of_ble_eq_true rfl) (fun r4 s5 => ?_)
        refine j_iconst (v := 0) 39 dX4_listOf_38 rfl (by decide) ?_
        refine s_callVi (M2 := mX0_momentOf) [vI x3, vI r4, vI 0] 42 oa6 cc0 mkX0_momentOf w_1023 dX4_listOf_39 rfl rfl (tX0_momentOf Θ l _ _ _  _) (by first | exact Nat.le_of_ble_eq_true rfl | omega) (Nat.le_of_ble_eq_true rfl) (Nat.le_of_ble_eq_true rfl) (fun r6 s7 => ?_)
        refine j_iadd 43 dX4_listOf_42 rfl ?_
        refine s_nmI (fun v8 => ?_)
        refine j_istore_n (i := 2) (ls' := [some (vR 37), some (vI y1), some (vI v8), some (vI x3)]) 44 dX4_listOf_43 rfl rfl (by decide) rfl rfl ?_
        refine j_iinc (v := x3 + 1) (ls' := [some (vR 37), some (vI y1), some (vI v8), some (vI (x3 + 1))]) 47 dX4_listOf_44 rfl rfl rfl (by decide) rfl rfl ?_
        refine j_goto 10 dX4_listOf_47 (by decide) ?_
        refine j_sub (ls' := [some (vR 37), some (vI y1), some (vI v8), some (vI (x3 + 1))]) (And.intro rfl (And.intro rfl (And.intro rfl (And.intro rfl trivial)))) ?_
        exact ih v8 (x3 + 1) s7
    · refine j_sub (ls' := [none, none, some (vI x2), none]) (And.intro rfl trivial) ?_
      exact hκ x2 s
theorem tX4_listOf (Θ : Th) (l : Launch)  (a1 : Int32)  (s : Mem) : Cs Θ l mX4_listOf 3 gI [vR 37, vI a1] s (fX4_listOf a1 s) := by
  refine ct_of (by decide) [some (vR 37), some (vI a1), none, none] rfl (Nat.le_of_ble_eq_true rfl) ?_
  unfold fX4_listOf
  refine j_aload_n 1 dX4_listOf_0 rfl rfl ?_
  refine s_getR (x := 6) 4 fa37_0 w_319 dX4_listOf_1 rfl (by decide +kernel) ?_
  refine s_getI 7 fa6_3 w_166 dX4_listOf_4 rfl ?_
  refine s_nmI (fun v1 => ?_)
  refine j_istore_n (i := 2) (ls' := [some (vR 37), some (vI a1), some (vI v1), none]) 8 dX4_listOf_7 rfl rfl (by decide) rfl rfl ?_
  refine j_iconst (v := 0) 9 dX4_listOf_8 rfl (by decide) ?_
  refine j_istore_n (i := 3) (ls' := [some (vR 37), some (vI a1), some (vI v1), some (vI 0)]) 10 dX4_listOf_9 rfl rfl (by decide) rfl rfl ?_
  refine j_sub (ls' := [some (vR 37), some (vI a1), some (vI v1), some (vI 0)]) (And.intro rfl (And.intro rfl (And.intro rfl (And.intro rfl trivial)))) ?_
  refine tX4_listOf_L10 Θ l _ _  ?_ _ _ _ _
  intro v9 s10
  refine j_iload_n 51 dX4_listOf_50 rfl rfl ?_
  exact s_iret dX4_listOf_51 rfl
-- X4_whoMayLeave
def fX4_whoMayLeave_L4  (κ : Int32 → Mem → Option (Int32 × Mem)) (y1 : Int32) : Nat → Int32 → Int32 → Mem → Option (Int32 × Mem)
  | 0, _, _, _ => none
  | k + 1, x2, x3, s =>
    if x3 < 7 then
      nm (y1 &&& (((1 : Int32) <<< (x3 &&& 31)) ^^^ (-1))) (fun v2 =>
      if v2 = y1 then
        fX4_whoMayLeave_L4 κ y1 k x2 (x3 + 1) s
      else
        if inb v2 128 = true then
        if (s.1 38 (ix v2)) = 0 then
          fX4_whoMayLeave_L4 κ y1 k x2 (x3 + 1) s
        else
          if inb v2 128 = true then
          if (s.1 39 (ix v2)) = 0 then
            fX4_whoMayLeave_L4 κ y1 k x2 (x3 + 1) s
          else
            nm (x2 ||| ((1 : Int32) <<< (x3 &&& 31))) (fun v8 =>
            fX4_whoMayLeave_L4 κ y1 k v8 (x3 + 1) s)
          else none
        else none)
    else
      κ x2 s
def fX4_whoMayLeave  (a1 : Int32) (s : Mem) : Option (Int32 × Mem) :=
fX4_whoMayLeave_L4 (fun v9 s10 =>
  some (v9, s10)) a1 FU 0 0 s
theorem tX4_whoMayLeave_L4 (Θ : Th) (l : Launch)  (κ : Int32 → Mem → Option (Int32 × Mem)) (y1 : Int32)  (hκ : ∀ (x2 : Int32) (s : Mem), Js Θ l mX4_whoMayLeave 1 gI 57 [none, none, some (vI x2), none, none] [] s (κ x2 s)) : ∀ (k : Nat) (x2 : Int32) (x3 : Int32) (s : Mem), Js Θ l mX4_whoMayLeave 1 gI 4 [some (vR 37), some (vI y1), some (vI x2), some (vI x3), none] [] s (fX4_whoMayLeave_L4 κ y1 k x2 x3 s) := by
  intro k
  induction k with
  | zero => intro x2 x3 s; exact j_none
  | succ k ih =>
    intro x2 x3 s
    rw [fX4_whoMayLeave_L4]
    refine j_iload_n 5 dX4_whoMayLeave_4 rfl rfl ?_
    refine j_bipush (v := 7) 7 dX4_whoMayLeave_5 rfl (by decide) ?_
    refine j_icmp_ge 57 10 dX4_whoMayLeave_7 (by decide) rfl (fun c1 => ?_) (fun c1 => ?_)
    · refine j_iload_n 11 dX4_whoMayLeave_10 rfl rfl ?_
      refine j_iconst (v := 1) 12 dX4_whoMayLeave_11 rfl (by decide) ?_
      refine j_iload_n 13 dX4_whoMayLeave_12 rfl rfl ?_
      refine j_ishl 14 dX4_whoMayLeave_13 rfl ?_
      refine j_iconst (v := (-1)) 15 dX4_whoMayLeave_14 rfl (by decide) ?_
      refine j_ixor 16 dX4_whoMayLeave_15 rfl ?_
      refine j_iand 17 dX4_whoMayLeave_16 rfl ?_
      refine s_nmI (fun v2 => ?_)
      refine j_istore (i := 4) (ls' := [some (vR 37), some (vI y1), some (vI x2), some (vI x3), some (vI v2)]) 19 dX4_whoMayLeave_17 rfl (by decide) rfl rfl ?_
      refine j_iload 21 dX4_whoMayLeave_19 rfl rfl ?_
      refine j_iload_n 22 dX4_whoMayLeave_21 rfl rfl ?_
      refine j_icmp_eq 51 25 dX4_whoMayLeave_22 (by decide) rfl (fun c3 => ?_) (fun c3 => ?_)
      · refine j_iinc (v := x3 + 1) (ls' := [some (vR 37), some (vI y1), some (vI x2), some (vI (x3 + 1)), some (vI v2)]) 54 dX4_whoMayLeave_51 rfl rfl rfl (by decide) rfl rfl ?_
        refine j_goto 4 dX4_whoMayLeave_54 (by decide) ?_
        refine j_sub (ls' := [some (vR 37), some (vI y1), some (vI x2), some (vI (x3 + 1)), none]) (And.intro rfl (And.intro rfl (And.intro rfl (And.intro rfl trivial)))) ?_
        exact ih x2 (x3 + 1) s
      · refine j_aload_n 26 dX4_whoMayLeave_25 rfl rfl ?_
        refine s_getR (x := 38) 29 fa37_1 w_320 dX4_whoMayLeave_26 rfl (by decide +kernel) ?_
        refine j_iload 31 dX4_whoMayLeave_29 rfl rfl ?_
        refine s_baload 32 (Or.inr aa38) dX4_whoMayLeave_31 rfl (fun b4 => ?_)
        refine j_if_eq 51 35 dX4_whoMayLeave_32 (by decide) rfl (fun c5 => ?_) (fun c5 => ?_)
        · refine j_iinc (v := x3 + 1) (ls' := [some (vR 37), some (vI y1), some (vI x2), some (vI (x3 + 1)), some (vI v2)]) 54 dX4_whoMayLeave_51 rfl rfl rfl (by decide) rfl rfl ?_
          refine j_goto 4 dX4_whoMayLeave_54 (by decide) ?_
          refine j_sub (ls' := [some (vR 37), some (vI y1), some (vI x2), some (vI (x3 + 1)), none]) (And.intro rfl (And.intro rfl (And.intro rfl (And.intro rfl trivial)))) ?_
          exact ih x2 (x3 + 1) s
        · refine j_aload_n 36 dX4_whoMayLeave_35 rfl rfl ?_
          refine s_getR (x := 39) 39 fa37_2 w_321 dX4_whoMayLeave_36 rfl (by decide +kernel) ?_
          refine j_iload 41 dX4_whoMayLeave_39 rfl rfl ?_
          refine s_baload 42 (Or.inr aa39) dX4_whoMayLeave_41 rfl (fun b6 => ?_)
          refine j_if_eq 51 45 dX4_whoMayLeave_42 (by decide) rfl (fun c7 => ?_) (fun c7 => ?_)
          · refine j_iinc (v := x3 + 1) (ls' := [some (vR 37), some (vI y1), some (vI x2), some (vI (x3 + 1)), some (vI v2)]) 54 dX4_whoMayLeave_51 rfl rfl rfl (by decide) rfl rfl ?_
            refine j_goto 4 dX4_whoMayLeave_54 (by decide) ?_
            refine j_sub (ls' := [some (vR 37), some (vI y1), some (vI x2), some (vI (x3 + 1)), none]) (And.intro rfl (And.intro rfl (And.intro rfl (And.intro rfl trivial)))) ?_
            exact ih x2 (x3 + 1) s
          · refine j_iload_n 46 dX4_whoMayLeave_45 rfl rfl ?_
            refine j_iconst (v := 1) 47 dX4_whoMayLeave_46 rfl (by decide) ?_
            refine j_iload_n 48 dX4_whoMayLeave_47 rfl rfl ?_
            refine j_ishl 49 dX4_whoMayLeave_48 rfl ?_
            refine j_ior 50 dX4_whoMayLeave_49 rfl ?_
            refine s_nmI (fun v8 => ?_)
            refine j_istore_n (i := 2) (ls' := [some (vR 37), some (vI y1), some (vI v8), some (vI x3), some (vI v2)]) 51 dX4_whoMayLeave_50 rfl rfl (by decide) rfl rfl ?_
            refine j_iinc (v := x3 + 1) (ls' := [some (vR 37), some (vI y1), some (vI v8), some (vI (x3 + 1)), some (vI v2)]) 54 dX4_whoMayLeave_51 rfl rfl rfl (by decide) rfl rfl ?_
            refine j_goto 4 dX4_whoMayLeave_54 (by decide) ?_
            refine j_sub (ls' := [some (vR 37), some (vI y1), some (vI v8), some (vI (x3 + 1)), none]) (And.intro rfl (And.intro rfl (And.intro rfl (And.intro rfl trivial)))) ?_
            exact ih v8 (x3 + 1) s
    · refine j_sub (ls' := [none, none, some (vI x2), none, none]) (And.intro rfl trivial) ?_
      exact hκ x2 s
theorem tX4_whoMayLeave (Θ : Th) (l : Launch)  (a1 : Int32)  (s : Mem) : Cs Θ l mX4_whoMayLeave 1 gI [vR 37, vI a1] s (fX4_whoMayLeave a1 s) := by
  refine ct_of (by decide) [some (vR 37), some (vI a1), none, none, none] rfl (Nat.le_of_ble_eq_true rfl) ?_
  unfold fX4_whoMayLeave
  refine j_iconst (v := 0) 1 dX4_whoMayLeave_0 rfl (by decide) ?_
  refine j_istore_n (i := 2) (ls' := [some (vR 37), some (vI a1), some (vI 0), none, none]) 2 dX4_whoMayLeave_1 rfl rfl (by decide) rfl rfl ?_
  refine j_iconst (v := 0) 3 dX4_whoMayLeave_2 rfl (by decide) ?_
  refine j_istore_n (i := 3) (ls' := [some (vR 37), some (vI a1), some (vI 0), some (vI 0), none]) 4 dX4_whoMayLeave_3 rfl rfl (by decide) rfl rfl ?_
  refine j_sub (ls' := [some (vR 37), some (vI a1), some (vI 0), some (vI 0), none]) (And.intro rfl (And.intro rfl (And.intro rfl (And.intro rfl trivial)))) ?_
  refine tX4_whoMayLeave_L4 Θ l _ _  ?_ _ _ _ _
  intro v9 s10
  refine j_iload_n 58 dX4_whoMayLeave_57 rfl rfl ?_
  exact s_iret dX4_whoMayLeave_58 rfl
-- X4_reachFrom
def fX4_reachFrom_L2  (κ : Mem → Option (Unit × Mem)) (y1 : Int32) : Nat → Int32 → Mem → Option (Unit × Mem)
  | 0, _, _ => none
  | k + 1, x2, s =>
    if x2 < 7 then
      nm (y1 &&& (((1 : Int32) <<< (x2 &&& 31)) ^^^ (-1))) (fun v2 =>
      if v2 = y1 then
        fX4_reachFrom_L2 κ y1 k (x2 + 1) s
      else
        if inb v2 128 = true then
        if (s.1 38 (ix v2)) = 0 then
          fX4_reachFrom_L2 κ y1 k (x2 + 1) s
        else
          if inb v2 128 = true then
          fX4_reachFrom_L2 κ y1 k (x2 + 1) (wI s 40 (ix v2) (vp_nar .boolean 1))
          else none
        else none)
    else
      κ s
def fX4_reachFrom  (a1 : Int32) (s : Mem) : Option (Unit × Mem) :=
fX4_reachFrom_L2 (fun s7 =>
  some ((), s7)) a1 FU 0 s
theorem tX4_reachFrom_L2 (Θ : Th) (l : Launch)  (κ : Mem → Option (Unit × Mem)) (y1 : Int32)  (hκ : ∀  (s : Mem), Js Θ l mX4_reachFrom 1 gU 43 [none, none, none, none] [] s (κ  s)) : ∀ (k : Nat) (x2 : Int32) (s : Mem), Js Θ l mX4_reachFrom 1 gU 2 [some (vR 37), some (vI y1), some (vI x2), none] [] s (fX4_reachFrom_L2 κ y1 k x2 s) := by
  intro k
  induction k with
  | zero => intro x2 s; exact j_none
  | succ k ih =>
    intro x2 s
    rw [fX4_reachFrom_L2]
    refine j_iload_n 3 dX4_reachFrom_2 rfl rfl ?_
    refine j_bipush (v := 7) 5 dX4_reachFrom_3 rfl (by decide) ?_
    refine j_icmp_ge 43 8 dX4_reachFrom_5 (by decide) rfl (fun c1 => ?_) (fun c1 => ?_)
    · refine j_iload_n 9 dX4_reachFrom_8 rfl rfl ?_
      refine j_iconst (v := 1) 10 dX4_reachFrom_9 rfl (by decide) ?_
      refine j_iload_n 11 dX4_reachFrom_10 rfl rfl ?_
      refine j_ishl 12 dX4_reachFrom_11 rfl ?_
      refine j_iconst (v := (-1)) 13 dX4_reachFrom_12 rfl (by decide) ?_
      refine j_ixor 14 dX4_reachFrom_13 rfl ?_
      refine j_iand 15 dX4_reachFrom_14 rfl ?_
      refine s_nmI (fun v2 => ?_)
      refine j_istore_n (i := 3) (ls' := [some (vR 37), some (vI y1), some (vI x2), some (vI v2)]) 16 dX4_reachFrom_15 rfl rfl (by decide) rfl rfl ?_
      refine j_iload_n 17 dX4_reachFrom_16 rfl rfl ?_
      refine j_iload_n 18 dX4_reachFrom_17 rfl rfl ?_
      refine j_icmp_eq 37 21 dX4_reachFrom_18 (by decide) rfl (fun c3 => ?_) (fun c3 => ?_)
      · refine j_iinc (v := x2 + 1) (ls' := [some (vR 37), some (vI y1), some (vI (x2 + 1)), some (vI v2)]) 40 dX4_reachFrom_37 rfl rfl rfl (by decide) rfl rfl ?_
        refine j_goto 2 dX4_reachFrom_40 (by decide) ?_
        refine j_sub (ls' := [some (vR 37), some (vI y1), some (vI (x2 + 1)), none]) (And.intro rfl (And.intro rfl (And.intro rfl trivial))) ?_
        exact ih (x2 + 1) s
      · refine j_aload_n 22 dX4_reachFrom_21 rfl rfl ?_
        refine s_getR (x := 38) 25 fa37_1 w_320 dX4_reachFrom_22 rfl (by decide +kernel) ?_
        refine j_iload_n 26 dX4_reachFrom_25 rfl rfl ?_
        refine s_baload 27 (Or.inr aa38) dX4_reachFrom_26 rfl (fun b4 => ?_)
        refine j_if_eq 37 30 dX4_reachFrom_27 (by decide) rfl (fun c5 => ?_) (fun c5 => ?_)
        · refine j_iinc (v := x2 + 1) (ls' := [some (vR 37), some (vI y1), some (vI (x2 + 1)), some (vI v2)]) 40 dX4_reachFrom_37 rfl rfl rfl (by decide) rfl rfl ?_
          refine j_goto 2 dX4_reachFrom_40 (by decide) ?_
          refine j_sub (ls' := [some (vR 37), some (vI y1), some (vI (x2 + 1)), none]) (And.intro rfl (And.intro rfl (And.intro rfl trivial))) ?_
          exact ih (x2 + 1) s
        · refine j_aload_n 31 dX4_reachFrom_30 rfl rfl ?_
          refine s_getR (x := 40) 34 fa37_3 w_322 dX4_reachFrom_31 rfl (by decide +kernel) ?_
          refine j_iload_n 35 dX4_reachFrom_34 rfl rfl ?_
          refine j_iconst (v := 1) 36 dX4_reachFrom_35 rfl (by decide) ?_
          refine s_zastore 37 aa40 dX4_reachFrom_36 rfl (fun b6 => ?_)
          refine j_iinc (v := x2 + 1) (ls' := [some (vR 37), some (vI y1), some (vI (x2 + 1)), some (vI v2)]) 40 dX4_reachFrom_37 rfl rfl rfl (by decide) rfl rfl ?_
          refine j_goto 2 dX4_reachFrom_40 (by decide) ?_
          refine j_sub (ls' := [some (vR 37), some (vI y1), some (vI (x2 + 1)), none]) (And.intro rfl (And.intro rfl (And.intro rfl trivial))) ?_
          exact ih (x2 + 1) (wI s 40 (ix v2) (vp_nar .boolean 1))
    · refine j_sub (ls' := [none, none, none, none]) (trivial) ?_
      exact hκ s
theorem tX4_reachFrom (Θ : Th) (l : Launch)  (a1 : Int32)  (s : Mem) : Cs Θ l mX4_reachFrom 1 gU [vR 37, vI a1] s (fX4_reachFrom a1 s) := by
  refine ct_of (by decide) [some (vR 37), some (vI a1), none, none] rfl (Nat.le_of_ble_eq_true rfl) ?_
  unfold fX4_reachFrom
  refine j_iconst (v := 0) 1 dX4_reachFrom_0 rfl (by decide) ?_
  refine j_istore_n (i := 2) (ls' := [some (vR 37), some (vI a1), some (vI 0), none]) 2 dX4_reachFrom_1 rfl rfl (by decide) rfl rfl ?_
  refine j_sub (ls' := [some (vR 37), some (vI a1), some (vI 0), none]) (And.intro rfl (And.intro rfl (And.intro rfl trivial))) ?_
  refine tX4_reachFrom_L2 Θ l _ _  ?_ _ _ _
  intro s7
  exact s_ret dX4_reachFrom_43 rfl
-- X4_plan
def fX4_plan_L16  (κ : Mem → Option (Unit × Mem))  : Nat → Int32 → Mem → Option (Unit × Mem)
  | 0, _, _ => none
  | k + 1, x1, s =>
    if (s.1 37 5) < x1 then
      κ s
    else
      bnd (fX4_listOf x1 s) (fun r4 s5 =>
      bnd (fX0_isLevel r4 s5) (fun r6 s7 =>
      if inb x1 128 = true then
      if x1 = 0 then
        if inb x1 128 = true then
        if x1 = ((wI (wI s7 38 (ix x1) (vp_nar .boolean r6)) 39 (ix x1) (vp_nar .boolean 1)).1 37 5) then
          if inb x1 128 = true then
          fX4_plan_L16 κ k (x1 + 1) (wI (wI (wI s7 38 (ix x1) (vp_nar .boolean r6)) 39 (ix x1) (vp_nar .boolean 1)) 40 (ix x1) (vp_nar .boolean 1))
          else none
        else
          if inb x1 128 = true then
          fX4_plan_L16 κ k (x1 + 1) (wI (wI (wI s7 38 (ix x1) (vp_nar .boolean r6)) 39 (ix x1) (vp_nar .boolean 1)) 40 (ix x1) (vp_nar .boolean 0))
          else none
        else none
      else
        bnd (fX4_whoMayLeave x1 (wI s7 38 (ix x1) (vp_nar .boolean r6))) (fun r14 s15 =>
        if r14 = 0 then
          if inb x1 128 = true then
          if x1 = ((wI s15 39 (ix x1) (vp_nar .boolean 0)).1 37 5) then
            if inb x1 128 = true then
            fX4_plan_L16 κ k (x1 + 1) (wI (wI s15 39 (ix x1) (vp_nar .boolean 0)) 40 (ix x1) (vp_nar .boolean 1))
            else none
          else
            if inb x1 128 = true then
            fX4_plan_L16 κ k (x1 + 1) (wI (wI s15 39 (ix x1) (vp_nar .boolean 0)) 40 (ix x1) (vp_nar .boolean 0))
            else none
          else none
        else
          if inb x1 128 = true then
          if x1 = ((wI s15 39 (ix x1) (vp_nar .boolean 1)).1 37 5) then
            if inb x1 128 = true then
            fX4_plan_L16 κ k (x1 + 1) (wI (wI s15 39 (ix x1) (vp_nar .boolean 1)) 40 (ix x1) (vp_nar .boolean 1))
            else none
          else
            if inb x1 128 = true then
            fX4_plan_L16 κ k (x1 + 1) (wI (wI s15 39 (ix x1) (vp_nar .boolean 1)) 40 (ix x1) (vp_nar .boolean 0))
            else none
          else none)
      else none))
def fX4_plan_L95  (κ : Mem → Option (Unit × Mem))  : Nat → Int32 → Mem → Option (Unit × Mem)
  | 0, _, _ => none
  | k + 1, x1, s =>
    if 0 < x1 then
      if inb x1 128 = true then
      if (s.1 40 (ix x1)) = 0 then
        fX4_plan_L95 κ k (x1 + (-1)) s
      else
        bnd (fX4_reachFrom x1 s) (fun r30 s31 =>
        fX4_plan_L95 κ k (x1 + (-1)) s31)
      else none
    else
      κ s
def fX4_plan   (s : Mem) : Option (Unit × Mem) :=
bnd (fX0_seatedSet s) (fun r1 s2 =>
fX4_plan_L16 (fun s25 =>
  nm (s25.1 37 5) (fun v26 =>
  fX4_plan_L95 (fun s32 =>
    some ((), s32))  FU v26 s25))  FU 0 (wI s2 37 5 (r1 &&& 127)))
theorem tX4_plan_L16 (Θ : Th) (l : Launch)  (κ : Mem → Option (Unit × Mem))   (hκ : ∀  (s : Mem), Js Θ l mX4_plan 4 gU 90 [some (vR 37), none] [] s (κ  s)) : ∀ (k : Nat) (x1 : Int32) (s : Mem), Js Θ l mX4_plan 4 gU 16 [some (vR 37), some (vI x1)] [] s (fX4_plan_L16 κ  k x1 s) := by
  intro k
  induction k with
  | zero => intro x1 s; exact j_none
  | succ k ih =>
    intro x1 s
    rw [fX4_plan_L16]
    refine j_iload_n 17 dX4_plan_16 rfl rfl ?_
    refine j_aload_n 18 dX4_plan_17 rfl rfl ?_
    refine s_getI 21 fa37_5 w_324 dX4_plan_18 rfl ?_
    refine j_icmp_gt 90 24 dX4_plan_21 (by decide) rfl (fun c3 => ?_) (fun c3 => ?_)
    · refine j_sub (ls' := [some (vR 37), none]) (And.intro rfl trivial) ?_
      exact hκ s
    · refine j_aload_n 25 dX4_plan_24 rfl rfl ?_
      refine s_getR (x := 38) 28 fa37_1 w_320 dX4_plan_25 rfl (by decide +kernel) ?_
      refine j_iload_n 29 dX4_plan_28 rfl rfl ?_
      refine j_aload_n 30 dX4_plan_29 rfl rfl ?_
      refine s_getR (x := 6) 33 fa37_0 w_319 dX4_plan_30 rfl (by decide +kernel) ?_
      refine j_aload_n 34 dX4_plan_33 rfl rfl ?_
      refine j_iload_n 35 dX4_plan_34 rfl rfl ?_
      refine s_callVi (M2 := mX4_listOf) [vI x1] 38 oa37 cc4 mkX4_listOf w_1018 dX4_plan_35 rfl rfl (tX4_listOf Θ l _  _) (by first | exact Nat.le_of_ble_eq_true rfl | omega) (Nat.le_of_ble_eq_true rfl) (Nat.le_of_ble_eq_true rfl) (fun r4 s5 => ?_)
      refine s_callVi (M2 := mX0_isLevel) [vI r4] 41 oa6 cc0 mkX0_isLevel w_1024 dX4_plan_38 rfl rfl (tX0_isLevel Θ l _  _) (by first | exact Nat.le_of_ble_eq_true rfl | omega) (Nat.le_of_ble_eq_true rfl) (Nat.le_of_ble_eq_true rfl) (fun r6 s7 => ?_)
      refine s_zastore 42 aa38 dX4_plan_41 rfl (fun b8 => ?_)
      refine j_aload_n 43 dX4_plan_42 rfl rfl ?_
      refine s_getR (x := 39) 46 fa37_2 w_321 dX4_plan_43 rfl (by decide +kernel) ?_
      refine j_iload_n 47 dX4_plan_46 rfl rfl ?_
      refine j_iload_n 48 dX4_plan_47 rfl rfl ?_
      refine j_if_eq 59 51 dX4_plan_48 (by decide) rfl (fun c9 => ?_) (fun c9 => ?_)
      · refine j_iconst (v := 1) 60 dX4_plan_59 rfl (by decide) ?_
        refine j_goto 64 dX4_plan_60 (by decide) ?_
        refine s_zastore 65 aa39 dX4_plan_64 rfl (fun b10 => ?_)
        refine j_aload_n 66 dX4_plan_65 rfl rfl ?_
        refine s_getR (x := 40) 69 fa37_3 w_322 dX4_plan_66 rfl (by decide +kernel) ?_
        refine j_iload_n 70 dX4_plan_69 rfl rfl ?_
        refine j_iload_n 71 dX4_plan_70 rfl rfl ?_
        refine j_aload_n 72 dX4_plan_71 rfl rfl ?_
        refine s_getI 75 fa37_5 w_324 dX4_plan_72 rfl ?_
        refine j_icmp_ne 82 78 dX4_plan_75 (by decide) rfl (fun c11 => ?_) (fun c11 => ?_)
        · refine j_iconst (v := 1) 79 dX4_plan_78 rfl (by decide) ?_
          refine j_goto 83 dX4_plan_79 (by decide) ?_
          refine s_zastore 84 aa40 dX4_plan_83 rfl (fun b12 => ?_)
          refine j_iinc (v := x1 + 1) (ls' := [some (vR 37), some (vI (x1 + 1))]) 87 dX4_plan_84 rfl rfl rfl (by decide) rfl rfl ?_
          refine j_goto 16 dX4_plan_87 (by decide) ?_
          refine j_sub (ls' := [some (vR 37), some (vI (x1 + 1))]) (And.intro rfl (And.intro rfl trivial)) ?_
          exact ih (x1 + 1) (wI (wI (wI s7 38 (ix x1) (vp_nar .boolean r6)) 39 (ix x1) (vp_nar .boolean 1)) 40 (ix x1) (vp_nar .boolean 1))
        · refine j_iconst (v := 0) 83 dX4_plan_82 rfl (by decide) ?_
          refine s_zastore 84 aa40 dX4_plan_83 rfl (fun b13 => ?_)
          refine j_iinc (v := x1 + 1) (ls' := [some (vR 37), some (vI (x1 + 1))]) 87 dX4_plan_84 rfl rfl rfl (by decide) rfl rfl ?_
          refine j_goto 16 dX4_plan_87 (by decide) ?_
          refine j_sub (ls' := [some (vR 37), some (vI (x1 + 1))]) (And.intro rfl (And.intro rfl trivial)) ?_
          exact ih (x1 + 1) (wI (wI (wI s7 38 (ix x1) (vp_nar .boolean r6)) 39 (ix x1) (vp_nar .boolean 1)) 40 (ix x1) (vp_nar .boolean 0))
      · refine j_aload_n 52 dX4_plan_51 rfl rfl ?_
        refine j_iload_n 53 dX4_plan_52 rfl rfl ?_
        refine s_callVi (M2 := mX4_whoMayLeave) [vI x1] 56 oa37 cc4 mkX4_whoMayLeave w_1025 dX4_plan_53 rfl rfl (tX4_whoMayLeave Θ l _  _) (by first | exact Nat.le_of_ble_eq_true rfl | omega) (Nat.le_of_ble_eq_true rfl) (Nat.le_of_ble_eq_true rfl) (fun r14 s15 => ?_)
        refine j_if_eq 63 59 dX4_plan_56 (by decide) rfl (fun c16 => ?_) (fun c16 => ?_)
        · refine j_iconst (v := 0) 64 dX4_plan_63 rfl (by decide) ?_
          refine s_zastore 65 aa39 dX4_plan_64 rfl (fun b17 => ?_)
          refine j_aload_n 66 dX4_plan_65 rfl rfl ?_
          refine s_getR (x := 40) 69 fa37_3 w_322 dX4_plan_66 rfl (by decide +kernel) ?_
          refine j_iload_n 70 dX4_plan_69 rfl rfl ?_
          refine j_iload_n 71 dX4_plan_70 rfl rfl ?_
          refine j_aload_n 72 dX4_plan_71 rfl rfl ?_
          refine s_getI 75 fa37_5 w_324 dX4_plan_72 rfl ?_
          refine j_icmp_ne 82 78 dX4_plan_75 (by decide) rfl (fun c18 => ?_) (fun c18 => ?_)
          · refine j_iconst (v := 1) 79 dX4_plan_78 rfl (by decide) ?_
            refine j_goto 83 dX4_plan_79 (by decide) ?_
            refine s_zastore 84 aa40 dX4_plan_83 rfl (fun b19 => ?_)
            refine j_iinc (v := x1 + 1) (ls' := [some (vR 37), some (vI (x1 + 1))]) 87 dX4_plan_84 rfl rfl rfl (by decide) rfl rfl ?_
            refine j_goto 16 dX4_plan_87 (by decide) ?_
            refine j_sub (ls' := [some (vR 37), some (vI (x1 + 1))]) (And.intro rfl (And.intro rfl trivial)) ?_
            exact ih (x1 + 1) (wI (wI s15 39 (ix x1) (vp_nar .boolean 0)) 40 (ix x1) (vp_nar .boolean 1))
          · refine j_iconst (v := 0) 83 dX4_plan_82 rfl (by decide) ?_
            refine s_zastore 84 aa40 dX4_plan_83 rfl (fun b20 => ?_)
            refine j_iinc (v := x1 + 1) (ls' := [some (vR 37), some (vI (x1 + 1))]) 87 dX4_plan_84 rfl rfl rfl (by decide) rfl rfl ?_
            refine j_goto 16 dX4_plan_87 (by decide) ?_
            refine j_sub (ls' := [some (vR 37), some (vI (x1 + 1))]) (And.intro rfl (And.intro rfl trivial)) ?_
            exact ih (x1 + 1) (wI (wI s15 39 (ix x1) (vp_nar .boolean 0)) 40 (ix x1) (vp_nar .boolean 0))
        · refine j_iconst (v := 1) 60 dX4_plan_59 rfl (by decide) ?_
          refine j_goto 64 dX4_plan_60 (by decide) ?_
          refine s_zastore 65 aa39 dX4_plan_64 rfl (fun b21 => ?_)
          refine j_aload_n 66 dX4_plan_65 rfl rfl ?_
          refine s_getR (x := 40) 69 fa37_3 w_322 dX4_plan_66 rfl (by decide +kernel) ?_
          refine j_iload_n 70 dX4_plan_69 rfl rfl ?_
          refine j_iload_n 71 dX4_plan_70 rfl rfl ?_
          refine j_aload_n 72 dX4_plan_71 rfl rfl ?_
          refine s_getI 75 fa37_5 w_324 dX4_plan_72 rfl ?_
          refine j_icmp_ne 82 78 dX4_plan_75 (by decide) rfl (fun c22 => ?_) (fun c22 => ?_)
          · refine j_iconst (v := 1) 79 dX4_plan_78 rfl (by decide) ?_
            refine j_goto 83 dX4_plan_79 (by decide) ?_
            refine s_zastore 84 aa40 dX4_plan_83 rfl (fun b23 => ?_)
            refine j_iinc (v := x1 + 1) (ls' := [some (vR 37), some (vI (x1 + 1))]) 87 dX4_plan_84 rfl rfl rfl (by decide) rfl rfl ?_
            refine j_goto 16 dX4_plan_87 (by decide) ?_
            refine j_sub (ls' := [some (vR 37), some (vI (x1 + 1))]) (And.intro rfl (And.intro rfl trivial)) ?_
            exact ih (x1 + 1) (wI (wI s15 39 (ix x1) (vp_nar .boolean 1)) 40 (ix x1) (vp_nar .boolean 1))
          · refine j_iconst (v := 0) 83 dX4_plan_82 rfl (by decide) ?_
            refine s_zastore 84 aa40 dX4_plan_83 rfl (fun b24 => ?_)
            refine j_iinc (v := x1 + 1) (ls' := [some (vR 37), some (vI (x1 + 1))]) 87 dX4_plan_84 rfl rfl rfl (by decide) rfl rfl ?_
            refine j_goto 16 dX4_plan_87 (by decide) ?_
            refine j_sub (ls' := [some (vR 37), some (vI (x1 + 1))]) (And.intro rfl (And.intro rfl trivial)) ?_
            exact ih (x1 + 1) (wI (wI s15 39 (ix x1) (vp_nar .boolean 1)) 40 (ix x1) (vp_nar .boolean 0))
theorem tX4_plan_L95 (Θ : Th) (l : Launch)  (κ : Mem → Option (Unit × Mem))   (hκ : ∀  (s : Mem), Js Θ l mX4_plan 4 gU 119 [none, none] [] s (κ  s)) : ∀ (k : Nat) (x1 : Int32) (s : Mem), Js Θ l mX4_plan 4 gU 95 [some (vR 37), some (vI x1)] [] s (fX4_plan_L95 κ  k x1 s) := by
  intro k
  induction k with
  | zero => intro x1 s; exact j_none
  | succ k ih =>
    intro x1 s
    rw [fX4_plan_L95]
    refine j_iload_n 96 dX4_plan_95 rfl rfl ?_
    refine j_if_le 119 99 dX4_plan_96 (by decide) rfl (fun c27 => ?_) (fun c27 => ?_)
    · refine j_aload_n 100 dX4_plan_99 rfl rfl ?_
      refine s_getR (x := 40) 103 fa37_3 w_322 dX4_plan_100 rfl (by decide +kernel) ?_
      refine j_iload_n 104 dX4_plan_103 rfl rfl ?_
      refine s_baload 105 (Or.inr aa40) dX4_plan_104 rfl (fun b28 => ?_)
      refine j_if_eq 113 108 dX4_plan_105 (by decide) rfl (fun c29 => ?_) (fun c29 => ?_)
      · refine j_iinc (v := x1 + (-1)) (ls' := [some (vR 37), some (vI (x1 + (-1)))]) 116 dX4_plan_113 rfl rfl rfl (by decide) rfl rfl ?_
        refine j_goto 95 dX4_plan_116 (by decide) ?_
        refine j_sub (ls' := [some (vR 37), some (vI (x1 + (-1)))]) (And.intro rfl (And.intro rfl trivial)) ?_
        exact ih (x1 + (-1)) s
      · refine j_aload_n 109 dX4_plan_108 rfl rfl ?_
        refine j_iload_n 110 dX4_plan_109 rfl rfl ?_
        refine s_callVu (M2 := mX4_reachFrom) [vI x1] 113 oa37 cc4 mkX4_reachFrom w_1029 dX4_plan_110 rfl rfl (tX4_reachFrom Θ l _  _) (by first | exact Nat.le_of_ble_eq_true rfl | omega) (Nat.le_of_ble_eq_true rfl) (Nat.le_of_ble_eq_true rfl) (fun r30 s31 => ?_)
        refine j_iinc (v := x1 + (-1)) (ls' := [some (vR 37), some (vI (x1 + (-1)))]) 116 dX4_plan_113 rfl rfl rfl (by decide) rfl rfl ?_
        refine j_goto 95 dX4_plan_116 (by decide) ?_
        refine j_sub (ls' := [some (vR 37), some (vI (x1 + (-1)))]) (And.intro rfl (And.intro rfl trivial)) ?_
        exact ih (x1 + (-1)) s31
    · refine j_sub (ls' := [none, none]) (trivial) ?_
      exact hκ s
theorem tX4_plan (Θ : Th) (l : Launch)    (s : Mem) : Cs Θ l mX4_plan 4 gU [vR 37] s (fX4_plan  s) := by
  refine ct_of (by decide) [some (vR 37), none] rfl (Nat.le_of_ble_eq_true rfl) ?_
  unfold fX4_plan
  refine j_aload_n 1 dX4_plan_0 rfl rfl ?_
  refine j_aload_n 2 dX4_plan_1 rfl rfl ?_
  refine s_getR (x := 6) 5 fa37_0 w_319 dX4_plan_2 rfl (by decide +kernel) ?_
  refine s_callVi (M2 := mX0_seatedSet) [] 8 oa6 cc0 mkX0_seatedSet w_1017 dX4_plan_5 rfl rfl (tX0_seatedSet Θ l   _) (by first | exact Nat.le_of_ble_eq_true rfl | omega) (Nat.le_of_ble_eq_true rfl) (Nat.le_of_ble_eq_true rfl) (fun r1 s2 => ?_)
  refine j_bipush (v := 127) 10 dX4_plan_8 rfl (by decide) ?_
  refine j_iand 11 dX4_plan_10 rfl ?_
  refine s_putI 14 fa37_5 w_324 dX4_plan_11 rfl ?_
  refine j_iconst (v := 0) 15 dX4_plan_14 rfl (by decide) ?_
  refine j_istore_n (i := 1) (ls' := [some (vR 37), some (vI 0)]) 16 dX4_plan_15 rfl rfl (by decide) rfl rfl ?_
  refine j_sub (ls' := [some (vR 37), some (vI 0)]) (And.intro rfl (And.intro rfl trivial)) ?_
  refine tX4_plan_L16 Θ l _   ?_ _ _ _
  intro s25
  refine j_aload_n 91 dX4_plan_90 rfl rfl ?_
  refine s_getI 94 fa37_5 w_324 dX4_plan_91 rfl ?_
  refine s_nmI (fun v26 => ?_)
  refine j_istore_n (i := 1) (ls' := [some (vR 37), some (vI v26)]) 95 dX4_plan_94 rfl rfl (by decide) rfl rfl ?_
  refine j_sub (ls' := [some (vR 37), some (vI v26)]) (And.intro rfl (And.intro rfl trivial)) ?_
  refine tX4_plan_L95 Θ l _   ?_ _ _ _
  intro s32
  exact s_ret dX4_plan_119 rfl
-- X4_allCanLeave
def fX4_allCanLeave   (s : Mem) : Option (Int32 × Mem) :=
if inb (s.1 37 5) 128 = true then
if (s.1 39 (ix (s.1 37 5))) = 0 ∨ (s.1 39 (ix (s.1 37 5))) = 1 then some (s.1 39 (ix (s.1 37 5)), s) else none
else none
theorem tX4_allCanLeave (Θ : Th) (l : Launch)    (s : Mem) : Cs Θ l mX4_allCanLeave 1 gI [vR 37] s (fX4_allCanLeave  s) := by
  refine ct_of (by decide) [some (vR 37)] rfl (Nat.le_of_ble_eq_true rfl) ?_
  unfold fX4_allCanLeave
  refine j_aload_n 1 dX4_allCanLeave_0 rfl rfl ?_
  refine s_getR (x := 39) 4 fa37_2 w_321 dX4_allCanLeave_1 rfl (by decide +kernel) ?_
  refine j_aload_n 5 dX4_allCanLeave_4 rfl rfl ?_
  refine s_getI 8 fa37_5 w_324 dX4_allCanLeave_5 rfl ?_
  refine s_baload 9 (Or.inr aa39) dX4_allCanLeave_8 rfl (fun b1 => ?_)
  exact s_zretG dX4_allCanLeave_9 rfl
-- X4_leastOf
def fX4_leastOf_L2  (κ : Mem → Option (Int32 × Mem)) (y0 : Int32) : Nat → Int32 → Mem → Option (Int32 × Mem)
  | 0, _, _ => none
  | k + 1, x1, s =>
    if x1 < 7 then
      if (y0 &&& ((1 : Int32) <<< (x1 &&& 31))) = 0 then
        fX4_leastOf_L2 κ y0 k (x1 + 1) s
      else
        some (x1, s)
    else
      κ s
def fX4_leastOf  (a0 : Int32) (s : Mem) : Option (Int32 × Mem) :=
fX4_leastOf_L2 (fun s3 =>
  some (0, s3)) a0 FU 0 s
theorem tX4_leastOf_L2 (Θ : Th) (l : Launch)  (κ : Mem → Option (Int32 × Mem)) (y0 : Int32)  (hκ : ∀  (s : Mem), Js Θ l mX4_leastOf 1 gI 24 [none, none] [] s (κ  s)) : ∀ (k : Nat) (x1 : Int32) (s : Mem), Js Θ l mX4_leastOf 1 gI 2 [some (vI y0), some (vI x1)] [] s (fX4_leastOf_L2 κ y0 k x1 s) := by
  intro k
  induction k with
  | zero => intro x1 s; exact j_none
  | succ k ih =>
    intro x1 s
    rw [fX4_leastOf_L2]
    refine j_iload_n 3 dX4_leastOf_2 rfl rfl ?_
    refine j_bipush (v := 7) 5 dX4_leastOf_3 rfl (by decide) ?_
    refine j_icmp_ge 24 8 dX4_leastOf_5 (by decide) rfl (fun c1 => ?_) (fun c1 => ?_)
    · refine j_iload_n 9 dX4_leastOf_8 rfl rfl ?_
      refine j_iconst (v := 1) 10 dX4_leastOf_9 rfl (by decide) ?_
      refine j_iload_n 11 dX4_leastOf_10 rfl rfl ?_
      refine j_ishl 12 dX4_leastOf_11 rfl ?_
      refine j_iand 13 dX4_leastOf_12 rfl ?_
      refine j_if_eq 18 16 dX4_leastOf_13 (by decide) rfl (fun c2 => ?_) (fun c2 => ?_)
      · refine j_iinc (v := x1 + 1) (ls' := [some (vI y0), some (vI (x1 + 1))]) 21 dX4_leastOf_18 rfl rfl rfl (by decide) rfl rfl ?_
        refine j_goto 2 dX4_leastOf_21 (by decide) ?_
        refine j_sub (ls' := [some (vI y0), some (vI (x1 + 1))]) (And.intro rfl (And.intro rfl trivial)) ?_
        exact ih (x1 + 1) s
      · refine j_iload_n 17 dX4_leastOf_16 rfl rfl ?_
        exact s_iret dX4_leastOf_17 rfl
    · refine j_sub (ls' := [none, none]) (trivial) ?_
      exact hκ s
theorem tX4_leastOf (Θ : Th) (l : Launch)  (a0 : Int32)  (s : Mem) : Cs Θ l mX4_leastOf 1 gI [vI a0] s (fX4_leastOf a0 s) := by
  refine ct_of (by decide) [some (vI a0), none] rfl (Nat.le_of_ble_eq_true rfl) ?_
  unfold fX4_leastOf
  refine j_iconst (v := 0) 1 dX4_leastOf_0 rfl (by decide) ?_
  refine j_istore_n (i := 1) (ls' := [some (vI a0), some (vI 0)]) 2 dX4_leastOf_1 rfl rfl (by decide) rfl rfl ?_
  refine j_sub (ls' := [some (vI a0), some (vI 0)]) (And.intro rfl (And.intro rfl trivial)) ?_
  refine tX4_leastOf_L2 Θ l _ _  ?_ _ _ _
  intro s3
  refine j_iconst (v := 0) 25 dX4_leastOf_24 rfl (by decide) ?_
  exact s_iret dX4_leastOf_25 rfl
-- X4_firstOrder
def fX4_firstOrder_L7  (κ : Mem → Option (Unit × Mem))  : Nat → Int32 → Int32 → Mem → Option (Unit × Mem)
  | 0, _, _, _ => none
  | k + 1, x1, x2, s =>
    if x2 < 7 then
      if x1 = 0 then
        κ s
      else
        bnd (fX4_whoMayLeave x1 s) (fun r4 s5 =>
        bnd (fX4_leastOf r4 s5) (fun r6 s7 =>
        if inb x2 7 = true then
        nm (x1 &&& (((1 : Int32) <<< (r6 &&& 31)) ^^^ (-1))) (fun v9 =>
        fX4_firstOrder_L7 κ k v9 (x2 + 1) (wI s7 41 (ix x2) r6))
        else none))
    else
      κ s
def fX4_firstOrder   (s : Mem) : Option (Unit × Mem) :=
nm (s.1 37 5) (fun v1 =>
fX4_firstOrder_L7 (fun s10 =>
  some ((), s10))  FU v1 0 s)
theorem tX4_firstOrder_L7 (Θ : Th) (l : Launch)  (κ : Mem → Option (Unit × Mem))   (hκ : ∀  (s : Mem), Js Θ l mX4_firstOrder 2 (gC 41) 52 [some (vR 37), none, none, none, none] [] s (κ  s)) : ∀ (k : Nat) (x1 : Int32) (x2 : Int32) (s : Mem), Js Θ l mX4_firstOrder 2 (gC 41) 7 [some (vR 37), some (vI x1), some (vI x2), none, none] [] s (fX4_firstOrder_L7 κ  k x1 x2 s) := by
  intro k
  induction k with
  | zero => intro x1 x2 s; exact j_none
  | succ k ih =>
    intro x1 x2 s
    rw [fX4_firstOrder_L7]
    refine j_iload_n 8 dX4_firstOrder_7 rfl rfl ?_
    refine j_bipush (v := 7) 10 dX4_firstOrder_8 rfl (by decide) ?_
    refine j_icmp_ge 52 13 dX4_firstOrder_10 (by decide) rfl (fun c2 => ?_) (fun c2 => ?_)
    · refine j_iload_n 14 dX4_firstOrder_13 rfl rfl ?_
      refine j_if_eq 52 17 dX4_firstOrder_14 (by decide) rfl (fun c3 => ?_) (fun c3 => ?_)
      · refine j_sub (ls' := [some (vR 37), none, none, none, none]) (And.intro rfl trivial) ?_
        exact hκ s
      · refine j_aload_n 18 dX4_firstOrder_17 rfl rfl ?_
        refine j_iload_n 19 dX4_firstOrder_18 rfl rfl ?_
        refine s_callVi (M2 := mX4_whoMayLeave) [vI x1] 22 oa37 cc4 mkX4_whoMayLeave w_1025 dX4_firstOrder_19 rfl rfl (tX4_whoMayLeave Θ l _  _) (by first | exact Nat.le_of_ble_eq_true rfl | omega) (Nat.le_of_ble_eq_true rfl) (Nat.le_of_ble_eq_true rfl) (fun r4 s5 => ?_)
        refine j_istore_n (i := 3) (ls' := [some (vR 37), some (vI x1), some (vI x2), some (vI r4), none]) 23 dX4_firstOrder_22 rfl rfl (by decide) rfl rfl ?_
        refine j_iload_n 24 dX4_firstOrder_23 rfl rfl ?_
        refine s_callSi (M2 := mX4_leastOf) [vI r4] 27 mkX4_leastOf (Or.inl w_1041) dX4_firstOrder_24 rfl rfl (tX4_leastOf Θ l _  _) (by first | exact Nat.le_of_ble_eq_true rfl | omega) (Nat.le_of_ble_eq_true rfl) (Nat.le_of_ble_eq_true rfl) (fun r6 s7 => ?_)
        refine j_istore (i := 4) (ls' := [some (vR 37), some (vI x1), some (vI x2), some (vI r4), some (vI r6)]) 29 dX4_firstOrder_27 rfl (by decide) rfl rfl ?_
        refine j_aload_n 30 dX4_firstOrder_29 rfl rfl ?_
        refine s_getR (x := 41) 33 fa37_4 w_323 dX4_firstOrder_30 rfl (by decide +kernel) ?_
        refine j_iload_n 34 dX4_firstOrder_33 rfl rfl ?_
        refine j_iload 36 dX4_firstOrder_34 rfl rfl ?_
        refine s_iastore 37 aa41 dX4_firstOrder_36 rfl (fun b8 => ?_)
        refine j_iload_n 38 dX4_firstOrder_37 rfl rfl ?_
        refine j_iconst (v := 1) 39 dX4_firstOrder_38 rfl (by decide) ?_
        refine j_iload 41 dX4_firstOrder_39 rfl rfl ?_
        refine j_ishl 42 dX4_firstOrder_41 rfl ?_
        refine j_iconst (v := (-1)) 43 dX4_firstOrder_42 rfl (by decide) ?_
        refine j_ixor 44 dX4_firstOrder_43 rfl ?_
        refine j_iand 45 dX4_firstOrder_44 rfl ?_
        refine s_nmI (fun v9 => ?_)
        refine j_istore_n (i := 1) (ls' := [some (vR 37), some (vI v9), some (vI x2), some (vI r4), some (vI r6)]) 46 dX4_firstOrder_45 rfl rfl (by decide) rfl rfl ?_
        refine j_iinc (v := x2 + 1) (ls' := [some (vR 37), some (vI v9), some (vI (x2 + 1)), some (vI r4), some (vI r6)]) 49 dX4_firstOrder_46 rfl rfl rfl (by decide) rfl rfl ?_
        refine j_goto 7 dX4_firstOrder_49 (by decide) ?_
        refine j_sub (ls' := [some (vR 37), some (vI v9), some (vI (x2 + 1)), none, none]) (And.intro rfl (And.intro rfl (And.intro rfl trivial))) ?_
        exact ih v9 (x2 + 1) (wI s7 41 (ix x2) r6)
    · refine j_sub (ls' := [some (vR 37), none, none, none, none]) (And.intro rfl trivial) ?_
      exact hκ s
theorem tX4_firstOrder (Θ : Th) (l : Launch)    (s : Mem) : Cs Θ l mX4_firstOrder 2 (gC 41) [vR 37] s (fX4_firstOrder  s) := by
  refine ct_of (by decide) [some (vR 37), none, none, none, none] rfl (Nat.le_of_ble_eq_true rfl) ?_
  unfold fX4_firstOrder
  refine j_aload_n 1 dX4_firstOrder_0 rfl rfl ?_
  refine s_getI 4 fa37_5 w_324 dX4_firstOrder_1 rfl ?_
  refine s_nmI (fun v1 => ?_)
  refine j_istore_n (i := 1) (ls' := [some (vR 37), some (vI v1), none, none, none]) 5 dX4_firstOrder_4 rfl rfl (by decide) rfl rfl ?_
  refine j_iconst (v := 0) 6 dX4_firstOrder_5 rfl (by decide) ?_
  refine j_istore_n (i := 2) (ls' := [some (vR 37), some (vI v1), some (vI 0), none, none]) 7 dX4_firstOrder_6 rfl rfl (by decide) rfl rfl ?_
  refine j_sub (ls' := [some (vR 37), some (vI v1), some (vI 0), none, none]) (And.intro rfl (And.intro rfl (And.intro rfl trivial))) ?_
  refine tX4_firstOrder_L7 Θ l _   ?_ _ _ _ _
  intro s10
  refine j_aload_n 53 dX4_firstOrder_52 rfl rfl ?_
  refine s_getR (x := 41) 56 fa37_4 w_323 dX4_firstOrder_53 rfl (by decide +kernel) ?_
  exact s_aretC dX4_firstOrder_56 rfl (Or.inr ⟨_, rfl⟩)
-- X7_take_41
def fX7_take_41  (q0 : Nat) (a2 : Int32) (s : Mem) : Option (Unit × Mem) :=
bnd (fX7_renew q0 (mn a2 7) s) (fun r1 s2 =>
if ¬ (0 : Int32) < 0 ∧ ¬ (0 : Int32) < 0 ∧ ¬ (s2.1 q0 0 : Int32) < 0 ∧ ix 0 + ix (s2.1 q0 0) ≤ 7 ∧ ix 0 + ix (s2.1 q0 0) ≤ 60 then
some ((), wF s2 (q0 + 1) (va_cpy (s2.1 41) (s2.1 (q0 + 1)) (ix 0) (ix 0) (ix (s2.1 q0 0))))
else none)
theorem tX7_take_41 (Θ : Th) (l : Launch)  (q0 : Nat) (a2 : Int32) (hq0 : kd q0 = 7) (s : Mem) : Cs Θ l mX7_take 3 gU [vR q0, vR 41, vI a2] s (fX7_take_41 q0 a2 s) := by
  refine ct_of (by decide) [some (vR q0), some (vR 41), some (vI a2)] rfl (Nat.le_of_ble_eq_true rfl) ?_
  unfold fX7_take_41
  refine j_aload_n 1 dX7_take_0 rfl rfl ?_
  refine j_iload_n 2 dX7_take_1 rfl rfl ?_
  refine j_aload_n 3 dX7_take_2 rfl rfl ?_
  refine s_alen (v := 7) 4 aa41 (by decide) (by decide) (by decide) dX7_take_3 rfl ?_
  refine s_mmin 7 dX7_take_4 rfl wm_452 wt_min wi_math wc_min (by first | exact Nat.le_of_ble_eq_true rfl | omega) (Nat.le_of_ble_eq_true rfl) ?_
  refine s_callVu (M2 := mX7_renew) [vI (mn a2 7)] 10 (row_oa hq0) cc7 mkX7_renew w_987 dX7_take_7 rfl rfl (tX7_renew Θ l _ _ hq0 _) (by first | exact Nat.le_of_ble_eq_true rfl | omega) (Nat.le_of_ble_eq_true rfl) (Nat.le_of_ble_eq_true rfl) (fun r1 s2 => ?_)
  refine j_aload_n 11 dX7_take_10 rfl rfl ?_
  refine j_iconst (v := 0) 12 dX7_take_11 rfl (by decide) ?_
  refine j_aload_n 13 dX7_take_12 rfl rfl ?_
  refine s_getR (x := q0 + 1) 16 (row_fa1 hq0) w_380 dX7_take_13 rfl (row_pl hq0) ?_
  refine j_iconst (v := 0) 17 dX7_take_16 rfl (by decide) ?_
  refine j_aload_n 18 dX7_take_17 rfl rfl ?_
  refine s_getI 21 (row_fa0 hq0) w_377 dX7_take_18 rfl ?_
  refine s_copy 24 aa41 (row_aa hq0) dX7_take_21 rfl w_988 w_509 w_508 w_89 (by first | decide | omega) (Nat.le_of_ble_eq_true rfl) ?_
  exact s_ret dX7_take_24 rfl
-- X11_leave
def fX11_leave  (a1 : Int32) (s : Mem) : Option (Int32 × Mem) :=
bnd (fX11_rowOf a1 s) (fun r1 s2 =>
if r1 = 0 then
  some ((-1), s2)
else
  bnd (fX4_plan s2) (fun r4 s5 =>
  bnd (fX4_allCanLeave s5) (fun r6 s7 =>
  if r6 = 0 then
    some ((-9), s7)
  else
    bnd (fX0_seatedCount s7) (fun r9 s10 =>
    bnd (fX4_firstOrder s10) (fun r11 s12 =>
    if kd r1 = 7 then
    bnd (fX7_take_41 r1 r9 s12) (fun r14 s15 =>
    some (r9, s15))
    else none)))))
theorem tX11_leave (Θ : Th) (l : Launch)  (a1 : Int32)  (s : Mem) : Cs Θ l mX11_leave 5 gI [vR 1, vI a1] s (fX11_leave a1 s) := by
  refine ct_of (by decide) [some (vR 1), some (vI a1), none, none] rfl (Nat.le_of_ble_eq_true rfl) ?_
  unfold fX11_leave
  refine j_aload_n 1 dX11_leave_0 rfl rfl ?_
  refine j_iload_n 2 dX11_leave_1 rfl rfl ?_
  refine s_callVr (M2 := mX11_rowOf) [vI a1] 5 oa1 cc11 mkX11_rowOf w_440 dX11_leave_2 rfl rfl (tX11_rowOf Θ l _  _) (by first | exact Nat.le_of_ble_eq_true rfl | omega) (Nat.le_of_ble_eq_true rfl) (Nat.le_of_ble_eq_true rfl) (fun r1 s2 => ?_)
  refine j_astore_n (i := 2) (ls' := [some (vR 1), some (vI a1), some (vR r1), none]) 6 dX11_leave_5 rfl rfl (by decide) rfl rfl ?_
  refine j_aload_n 7 dX11_leave_6 rfl rfl ?_
  refine j_ifnonnull 12 10 dX11_leave_7 (by decide) rfl (fun c3 => ?_) (fun c3 => ?_)
  · refine j_iconst (v := (-1)) 11 dX11_leave_10 rfl (by decide) ?_
    exact s_iret dX11_leave_11 rfl
  · refine j_aload_n 13 dX11_leave_12 rfl rfl ?_
    refine s_getR (x := 37) 16 fa1_9 w_411 dX11_leave_13 rfl (by decide +kernel) ?_
    refine s_callVu (M2 := mX4_plan) [] 19 oa37 cc4 mkX4_plan w_1013 dX11_leave_16 rfl rfl (tX4_plan Θ l   _) (by first | exact Nat.le_of_ble_eq_true rfl | omega) (Nat.le_of_ble_eq_true rfl) (Nat.le_of_ble_eq_true rfl) (fun r4 s5 => ?_)
    refine j_aload_n 20 dX11_leave_19 rfl rfl ?_
    refine s_getR (x := 37) 23 fa1_9 w_411 dX11_leave_20 rfl (by decide +kernel) ?_
    refine s_callVi (M2 := mX4_allCanLeave) [] 26 oa37 cc4 mkX4_allCanLeave w_1033 dX11_leave_23 rfl rfl (tX4_allCanLeave Θ l   _) (by first | exact Nat.le_of_ble_eq_true rfl | omega) (Nat.le_of_ble_eq_true rfl) (Nat.le_of_ble_eq_true rfl) (fun r6 s7 => ?_)
    refine j_if_ne 32 29 dX11_leave_26 (by decide) rfl (fun c8 => ?_) (fun c8 => ?_)
    · refine j_bipush (v := (-9)) 31 dX11_leave_29 rfl (by decide) ?_
      exact s_iret dX11_leave_31 rfl
    · refine j_aload_n 33 dX11_leave_32 rfl rfl ?_
      refine s_getR (x := 6) 36 fa1_3 w_405 dX11_leave_33 rfl (by decide +kernel) ?_
      refine s_callVi (M2 := mX0_seatedCount) [] 39 oa6 cc0 mkX0_seatedCount w_854 dX11_leave_36 rfl rfl (tX0_seatedCount Θ l   _) (by first | exact Nat.le_of_ble_eq_true rfl | omega) (Nat.le_of_ble_eq_true rfl) (Nat.le_of_ble_eq_true rfl) (fun r9 s10 => ?_)
      refine j_istore_n (i := 3) (ls' := [some (vR 1), some (vI a1), some (vR r1), some (vI r9)]) 40 dX11_leave_39 rfl rfl (by decide) rfl rfl ?_
      refine j_aload_n 41 dX11_leave_40 rfl rfl ?_
      refine j_aload_n 42 dX11_leave_41 rfl rfl ?_
      refine s_getR (x := 37) 45 fa1_9 w_411 dX11_leave_42 rfl (by decide +kernel) ?_
      refine s_callVc (M2 := mX4_firstOrder) [] 48 oa37 cc4 mkX4_firstOrder w_1037 dX11_leave_45 rfl rfl (tX4_firstOrder Θ l   _) (by first | exact Nat.le_of_ble_eq_true rfl | omega) (Nat.le_of_ble_eq_true rfl) (Nat.le_of_ble_eq_true rfl) (fun r11 s12 => ?_)
      refine j_iload_n 49 dX11_leave_48 rfl rfl ?_
      refine j_ite (fun hk13 => ?_) (fun _ => j_none)
      refine s_callVu (M2 := mX7_take) [vR 41, vI r9] 52 (row_oa hk13) cc7 mkX7_take w_983 dX11_leave_49 rfl rfl (tX7_take_41 Θ l _ _ hk13 _) (by first | exact Nat.le_of_ble_eq_true rfl | omega) (Nat.le_of_ble_eq_true rfl) (Nat.le_of_ble_eq_true rfl) (fun r14 s15 => ?_)
      refine j_iload_n 53 dX11_leave_52 rfl rfl ?_
      exact s_iret dX11_leave_53 rfl
-- X4_lasts
def fX4_lasts_L4  (κ : Int32 → Mem → Option (Int32 × Mem))  : Nat → Int32 → Int32 → Mem → Option (Int32 × Mem)
  | 0, _, _, _ => none
  | k + 1, x1, x2, s =>
    if x2 < 7 then
      nm ((1 : Int32) <<< (x2 &&& 31)) (fun v2 =>
      if ((s.1 37 5) &&& v2) = 0 then
        fX4_lasts_L4 κ k x1 (x2 + 1) s
      else
        if inb v2 128 = true then
        if (s.1 40 (ix v2)) = 0 then
          fX4_lasts_L4 κ k x1 (x2 + 1) s
        else
          if inb 0 128 = true then
          if (s.1 38 (ix 0)) = 0 then
            fX4_lasts_L4 κ k x1 (x2 + 1) s
          else
            nm (x1 ||| v2) (fun v8 =>
            fX4_lasts_L4 κ k v8 (x2 + 1) s)
          else none
        else none)
    else
      κ x1 s
def fX4_lasts   (s : Mem) : Option (Int32 × Mem) :=
fX4_lasts_L4 (fun v9 s10 =>
  some (v9, s10))  FU 0 0 s
theorem tX4_lasts_L4 (Θ : Th) (l : Launch)  (κ : Int32 → Mem → Option (Int32 × Mem))   (hκ : ∀ (x1 : Int32) (s : Mem), Js Θ l mX4_lasts 1 gI 51 [none, some (vI x1), none, none] [] s (κ x1 s)) : ∀ (k : Nat) (x1 : Int32) (x2 : Int32) (s : Mem), Js Θ l mX4_lasts 1 gI 4 [some (vR 37), some (vI x1), some (vI x2), none] [] s (fX4_lasts_L4 κ  k x1 x2 s) := by
  intro k
  induction k with
  | zero => intro x1 x2 s; exact j_none
  | succ k ih =>
    intro x1 x2 s
    rw [fX4_lasts_L4]
    refine j_iload_n 5 dX4_lasts_4 rfl rfl ?_
    refine j_bipush (v := 7) 7 dX4_lasts_5 rfl (by decide) ?_
    refine j_icmp_ge 51 10 dX4_lasts_7 (by decide) rfl (fun c1 => ?_) (fun c1 => ?_)
    · refine j_iconst (v := 1) 11 dX4_lasts_10 rfl (by decide) ?_
      refine j_iload_n 12 dX4_lasts_11 rfl rfl ?_
      refine j_ishl 13 dX4_lasts_12 rfl ?_
      refine s_nmI (fun v2 => ?_)
      refine j_istore_n (i := 3) (ls' := [some (vR 37), some (vI x1), some (vI x2), some (vI v2)]) 14 dX4_lasts_13 rfl rfl (by decide) rfl rfl ?_
      refine j_aload_n 15 dX4_lasts_14 rfl rfl ?_
      refine s_getI 18 fa37_5 w_324 dX4_lasts_15 rfl ?_
      refine j_iload_n 19 dX4_lasts_18 rfl rfl ?_
      refine j_iand 20 dX4_lasts_19 rfl ?_
      refine j_if_eq 45 23 dX4_lasts_20 (by decide) rfl (fun c3 => ?_) (fun c3 => ?_)
      · refine j_iinc (v := x2 + 1) (ls' := [some (vR 37), some (vI x1), some (vI (x2 + 1)), some (vI v2)]) 48 dX4_lasts_45 rfl rfl rfl (by decide) rfl rfl ?_
        refine j_goto 4 dX4_lasts_48 (by decide) ?_
        refine j_sub (ls' := [some (vR 37), some (vI x1), some (vI (x2 + 1)), none]) (And.intro rfl (And.intro rfl (And.intro rfl trivial))) ?_
        exact ih x1 (x2 + 1) s
      · refine j_aload_n 24 dX4_lasts_23 rfl rfl ?_
        refine s_getR (x := 40) 27 fa37_3 w_322 dX4_lasts_24 rfl (by decide +kernel) ?_
        refine j_iload_n 28 dX4_lasts_27 rfl rfl ?_
        refine s_baload 29 (Or.inr aa40) dX4_lasts_28 rfl (fun b4 => ?_)
        refine j_if_eq 45 32 dX4_lasts_29 (by decide) rfl (fun c5 => ?_) (fun c5 => ?_)
        · refine j_iinc (v := x2 + 1) (ls' := [some (vR 37), some (vI x1), some (vI (x2 + 1)), some (vI v2)]) 48 dX4_lasts_45 rfl rfl rfl (by decide) rfl rfl ?_
          refine j_goto 4 dX4_lasts_48 (by decide) ?_
          refine j_sub (ls' := [some (vR 37), some (vI x1), some (vI (x2 + 1)), none]) (And.intro rfl (And.intro rfl (And.intro rfl trivial))) ?_
          exact ih x1 (x2 + 1) s
        · refine j_aload_n 33 dX4_lasts_32 rfl rfl ?_
          refine s_getR (x := 38) 36 fa37_1 w_320 dX4_lasts_33 rfl (by decide +kernel) ?_
          refine j_iconst (v := 0) 37 dX4_lasts_36 rfl (by decide) ?_
          refine s_baload 38 (Or.inr aa38) dX4_lasts_37 rfl (fun b6 => ?_)
          refine j_if_eq 45 41 dX4_lasts_38 (by decide) rfl (fun c7 => ?_) (fun c7 => ?_)
          · refine j_iinc (v := x2 + 1) (ls' := [some (vR 37), some (vI x1), some (vI (x2 + 1)), some (vI v2)]) 48 dX4_lasts_45 rfl rfl rfl (by decide) rfl rfl ?_
            refine j_goto 4 dX4_lasts_48 (by decide) ?_
            refine j_sub (ls' := [some (vR 37), some (vI x1), some (vI (x2 + 1)), none]) (And.intro rfl (And.intro rfl (And.intro rfl trivial))) ?_
            exact ih x1 (x2 + 1) s
          · refine j_iload_n 42 dX4_lasts_41 rfl rfl ?_
            refine j_iload_n 43 dX4_lasts_42 rfl rfl ?_
            refine j_ior 44 dX4_lasts_43 rfl ?_
            refine s_nmI (fun v8 => ?_)
            refine j_istore_n (i := 1) (ls' := [some (vR 37), some (vI v8), some (vI x2), some (vI v2)]) 45 dX4_lasts_44 rfl rfl (by decide) rfl rfl ?_
            refine j_iinc (v := x2 + 1) (ls' := [some (vR 37), some (vI v8), some (vI (x2 + 1)), some (vI v2)]) 48 dX4_lasts_45 rfl rfl rfl (by decide) rfl rfl ?_
            refine j_goto 4 dX4_lasts_48 (by decide) ?_
            refine j_sub (ls' := [some (vR 37), some (vI v8), some (vI (x2 + 1)), none]) (And.intro rfl (And.intro rfl (And.intro rfl trivial))) ?_
            exact ih v8 (x2 + 1) s
    · refine j_sub (ls' := [none, some (vI x1), none, none]) (And.intro rfl trivial) ?_
      exact hκ x1 s
theorem tX4_lasts (Θ : Th) (l : Launch)    (s : Mem) : Cs Θ l mX4_lasts 1 gI [vR 37] s (fX4_lasts  s) := by
  refine ct_of (by decide) [some (vR 37), none, none, none] rfl (Nat.le_of_ble_eq_true rfl) ?_
  unfold fX4_lasts
  refine j_iconst (v := 0) 1 dX4_lasts_0 rfl (by decide) ?_
  refine j_istore_n (i := 1) (ls' := [some (vR 37), some (vI 0), none, none]) 2 dX4_lasts_1 rfl rfl (by decide) rfl rfl ?_
  refine j_iconst (v := 0) 3 dX4_lasts_2 rfl (by decide) ?_
  refine j_istore_n (i := 2) (ls' := [some (vR 37), some (vI 0), some (vI 0), none]) 4 dX4_lasts_3 rfl rfl (by decide) rfl rfl ?_
  refine j_sub (ls' := [some (vR 37), some (vI 0), some (vI 0), none]) (And.intro rfl (And.intro rfl (And.intro rfl trivial))) ?_
  refine tX4_lasts_L4 Θ l _   ?_ _ _ _ _
  intro v9 s10
  refine j_iload_n 52 dX4_lasts_51 rfl rfl ?_
  exact s_iret dX4_lasts_52 rfl
-- X4_firsts
def fX4_firsts   (s : Mem) : Option (Int32 × Mem) :=
bnd (fX4_whoMayLeave (s.1 37 5) s) (fun r1 s2 =>
some (r1, s2))
theorem tX4_firsts (Θ : Th) (l : Launch)    (s : Mem) : Cs Θ l mX4_firsts 2 gI [vR 37] s (fX4_firsts  s) := by
  refine ct_of (by decide) [some (vR 37)] rfl (Nat.le_of_ble_eq_true rfl) ?_
  unfold fX4_firsts
  refine j_aload_n 1 dX4_firsts_0 rfl rfl ?_
  refine j_aload_n 2 dX4_firsts_1 rfl rfl ?_
  refine s_getI 5 fa37_5 w_324 dX4_firsts_2 rfl ?_
  refine s_callVi (M2 := mX4_whoMayLeave) [vI (s.1 37 5)] 8 oa37 cc4 mkX4_whoMayLeave w_1025 dX4_firsts_5 rfl rfl (tX4_whoMayLeave Θ l _  _) (by first | exact Nat.le_of_ble_eq_true rfl | omega) (Nat.le_of_ble_eq_true rfl) (Nat.le_of_ble_eq_true rfl) (fun r1 s2 => ?_)
  exact s_iret dX4_firsts_8 rfl
-- X11_leavers
def fX11_leavers   (s : Mem) : Option (Int32 × Mem) :=
bnd (fX4_plan s) (fun r1 s2 =>
bnd (fX4_lasts s2) (fun r3 s4 =>
bnd (fX10_tell r3 s4) (fun r5 s6 =>
bnd (fX4_firsts s6) (fun r7 s8 =>
some (r7, s8)))))
theorem tX11_leavers (Θ : Th) (l : Launch)    (s : Mem) : Cs Θ l mX11_leavers 5 gI [vR 1] s (fX11_leavers  s) := by
  refine ct_of (by decide) [some (vR 1)] rfl (Nat.le_of_ble_eq_true rfl) ?_
  unfold fX11_leavers
  refine j_aload_n 1 dX11_leavers_0 rfl rfl ?_
  refine s_getR (x := 37) 4 fa1_9 w_411 dX11_leavers_1 rfl (by decide +kernel) ?_
  refine s_callVu (M2 := mX4_plan) [] 7 oa37 cc4 mkX4_plan w_1013 dX11_leavers_4 rfl rfl (tX4_plan Θ l   _) (by first | exact Nat.le_of_ble_eq_true rfl | omega) (Nat.le_of_ble_eq_true rfl) (Nat.le_of_ble_eq_true rfl) (fun r1 s2 => ?_)
  refine j_aload_n 8 dX11_leavers_7 rfl rfl ?_
  refine s_getR (x := 2) 11 fa1_0 w_402 dX11_leavers_8 rfl (by decide +kernel) ?_
  refine j_aload_n 12 dX11_leavers_11 rfl rfl ?_
  refine s_getR (x := 37) 15 fa1_9 w_411 dX11_leavers_12 rfl (by decide +kernel) ?_
  refine s_callVi (M2 := mX4_lasts) [] 18 oa37 cc4 mkX4_lasts w_1048 dX11_leavers_15 rfl rfl (tX4_lasts Θ l   _) (by first | exact Nat.le_of_ble_eq_true rfl | omega) (Nat.le_of_ble_eq_true rfl) (Nat.le_of_ble_eq_true rfl) (fun r3 s4 => ?_)
  refine s_callVu (M2 := mX10_tell) [vI r3] 21 oa2 cc10 mkX10_tell w_479 dX11_leavers_18 rfl rfl (tX10_tell Θ l _  _) (by first | exact Nat.le_of_ble_eq_true rfl | omega) (Nat.le_of_ble_eq_true rfl) (Nat.le_of_ble_eq_true rfl) (fun r5 s6 => ?_)
  refine j_aload_n 22 dX11_leavers_21 rfl rfl ?_
  refine s_getR (x := 37) 25 fa1_9 w_411 dX11_leavers_22 rfl (by decide +kernel) ?_
  refine s_callVi (M2 := mX4_firsts) [] 28 oa37 cc4 mkX4_firsts w_1052 dX11_leavers_25 rfl rfl (tX4_firsts Θ l   _) (by first | exact Nat.le_of_ble_eq_true rfl | omega) (Nat.le_of_ble_eq_true rfl) (Nat.le_of_ble_eq_true rfl) (fun r7 s8 => ?_)
  exact s_iret dX11_leavers_28 rfl
-- X7_allWithin
def fX7_allWithin_L2  (κ : Mem → Option (Int32 × Mem)) (q0 : Nat) (y1 : Int32) (y2 : Int32) : Nat → Int32 → Mem → Option (Int32 × Mem)
  | 0, _, _ => none
  | k + 1, x3, s =>
    if x3 < (s.1 q0 0) then
      if inb x3 60 = true then
      bnd (fX11_isWithin (s.1 (q0 + 1) (ix x3)) y1 y2 s) (fun r3 s4 =>
      if r3 = 0 then
        some (0, s4)
      else
        fX7_allWithin_L2 κ q0 y1 y2 k (x3 + 1) s4)
      else none
    else
      κ s
def fX7_allWithin  (q0 : Nat) (a1 : Int32) (a2 : Int32) (s : Mem) : Option (Int32 × Mem) :=
fX7_allWithin_L2 (fun s6 =>
  some (1, s6)) q0 a1 a2 FU 0 s
theorem tX7_allWithin_L2 (Θ : Th) (l : Launch)  (κ : Mem → Option (Int32 × Mem)) (q0 : Nat) (y1 : Int32) (y2 : Int32) (hq0 : kd q0 = 7) (hκ : ∀  (s : Mem), Js Θ l mX7_allWithin 2 gI 32 [none, none, none, none] [] s (κ  s)) : ∀ (k : Nat) (x3 : Int32) (s : Mem), Js Θ l mX7_allWithin 2 gI 2 [some (vR q0), some (vI y1), some (vI y2), some (vI x3)] [] s (fX7_allWithin_L2 κ q0 y1 y2 k x3 s) := by
  intro k
  induction k with
  | zero => intro x3 s; exact j_none
  | succ k ih =>
    intro x3 s
    rw [fX7_allWithin_L2]
    refine j_iload_n 3 dX7_allWithin_2 rfl rfl ?_
    refine j_aload_n 4 dX7_allWithin_3 rfl rfl ?_
    refine s_getI 7 (row_fa0 hq0) w_377 dX7_allWithin_4 rfl ?_
    refine j_icmp_ge 32 10 dX7_allWithin_7 (by decide) rfl (fun c1 => ?_) (fun c1 => ?_)
    · refine j_aload_n 11 dX7_allWithin_10 rfl rfl ?_
      refine s_getR (x := q0 + 1) 14 (row_fa1 hq0) w_380 dX7_allWithin_11 rfl (row_pl hq0) ?_
      refine j_iload_n 15 dX7_allWithin_14 rfl rfl ?_
      refine s_iaload 16 (row_aa hq0) dX7_allWithin_15 rfl (fun b2 => ?_)
      refine j_iload_n 17 dX7_allWithin_16 rfl rfl ?_
      refine j_iload_n 18 dX7_allWithin_17 rfl rfl ?_
      refine s_callSi (M2 := mX11_isWithin) [vI (s.1 (q0 + 1) (ix x3)), vI y1, vI y2] 21 mkX11_isWithin (Or.inr ⟨_, w_1064⟩) dX7_allWithin_18 rfl rfl (tX11_isWithin Θ l _ _ _  _) (by first | exact Nat.le_of_ble_eq_true rfl | omega) (Nat.le_of_ble_eq_true rfl) (Nat.le_of_ble_eq_true rfl) (fun r3 s4 => ?_)
      refine j_if_ne 26 24 dX7_allWithin_21 (by decide) rfl (fun c5 => ?_) (fun c5 => ?_)
      · refine j_iconst (v := 0) 25 dX7_allWithin_24 rfl (by decide) ?_
        exact s_zret dX7_allWithin_25 rfl (by decide)
      · refine j_iinc (v := x3 + 1) (ls' := [some (vR q0), some (vI y1), some (vI y2), some (vI (x3 + 1))]) 29 dX7_allWithin_26 rfl rfl rfl (by decide) rfl rfl ?_
        refine j_goto 2 dX7_allWithin_29 (by decide) ?_
        refine j_sub (ls' := [some (vR q0), some (vI y1), some (vI y2), some (vI (x3 + 1))]) (And.intro rfl (And.intro rfl (And.intro rfl (And.intro rfl trivial)))) ?_
        exact ih (x3 + 1) s4
    · refine j_sub (ls' := [none, none, none, none]) (trivial) ?_
      exact hκ s
theorem tX7_allWithin (Θ : Th) (l : Launch)  (q0 : Nat) (a1 : Int32) (a2 : Int32) (hq0 : kd q0 = 7) (s : Mem) : Cs Θ l mX7_allWithin 2 gI [vR q0, vI a1, vI a2] s (fX7_allWithin q0 a1 a2 s) := by
  refine ct_of (by decide) [some (vR q0), some (vI a1), some (vI a2), none] rfl (Nat.le_of_ble_eq_true rfl) ?_
  unfold fX7_allWithin
  refine j_iconst (v := 0) 1 dX7_allWithin_0 rfl (by decide) ?_
  refine j_istore_n (i := 3) (ls' := [some (vR q0), some (vI a1), some (vI a2), some (vI 0)]) 2 dX7_allWithin_1 rfl rfl (by decide) rfl rfl ?_
  refine j_sub (ls' := [some (vR q0), some (vI a1), some (vI a2), some (vI 0)]) (And.intro rfl (And.intro rfl (And.intro rfl (And.intro rfl trivial)))) ?_
  refine tX7_allWithin_L2 Θ l _ _ _ _ hq0 ?_ _ _ _
  intro s6
  refine j_iconst (v := 1) 33 dX7_allWithin_32 rfl (by decide) ?_
  exact s_zret dX7_allWithin_33 rfl (by decide)
-- X2_seatCousin
def fX2_seatCousin (rec : Int32 → Int32 → Int32 → Mem → Option (Unit × Mem)) (a1 : Int32) (a2 : Int32) (a3 : Int32) (a4 : Int32) (s : Mem) : Option (Unit × Mem) :=
if inb a1 4 = true then
if inb a2 8 = true then
if inb a2 8 = true then
if inb a1 4 = true then
bnd (fX0_xOf a2 (wI (wI s 44 (ix a1) a2) 45 (ix a2) (((wI s 44 (ix a1) a2).1 45 (ix a2)) + 1))) (fun r5 s6 =>
if inb a1 4 = true then
bnd (rec (a1 + 1) (a3 + (((wI (wI s 44 (ix a1) a2) 45 (ix a2) (((wI s 44 (ix a1) a2).1 45 (ix a2)) + 1)).1 46 (ix a1)) * r5)) (a4 + (s6.1 47 (ix a1))) s6) (fun r8 s9 =>
if inb a2 8 = true then
if inb a2 8 = true then
some ((), wI s9 45 (ix a2) ((s9.1 45 (ix a2)) - 1))
else none
else none)
else none)
else none
else none
else none
else none
theorem tX2_seatCousin (Θ : Th) (l : Launch) (rec : Int32 → Int32 → Int32 → Mem → Option (Unit × Mem)) (a1 : Int32) (a2 : Int32) (a3 : Int32) (a4 : Int32)  {hr : Nat} (hr9 : 9 ≤ hr) (hrec : ∀ (a1 : Int32) (a2 : Int32) (a3 : Int32) (s : Mem), Cs Θ l mX2_tryCousin hr gU [vR 42, vI a1, vI a2, vI a3] s (rec a1 a2 a3 s)) (s : Mem) : Cs Θ l mX2_seatCousin (hr + 1) gU [vR 42, vI a1, vI a2, vI a3, vI a4] s (fX2_seatCousin rec a1 a2 a3 a4 s) := by
  refine ct_of (by decide) [some (vR 42), some (vI a1), some (vI a2), some (vI a3), some (vI a4)] rfl (Nat.le_of_ble_eq_true rfl) ?_
  unfold fX2_seatCousin
  refine j_aload_n 1 dX2_seatCousin_0 rfl rfl ?_
  refine s_getR (x := 44) 4 fa42_4 w_351 dX2_seatCousin_1 rfl (by decide +kernel) ?_
  refine j_iload_n 5 dX2_seatCousin_4 rfl rfl ?_
  refine j_iload_n 6 dX2_seatCousin_5 rfl rfl ?_
  refine s_iastore 7 aa44 dX2_seatCousin_6 rfl (fun b1 => ?_)
  refine j_aload_n 8 dX2_seatCousin_7 rfl rfl ?_
  refine s_getR (x := 45) 11 fa42_5 w_352 dX2_seatCousin_8 rfl (by decide +kernel) ?_
  refine j_iload_n 12 dX2_seatCousin_11 rfl rfl ?_
  refine j_dup2 13 dX2_seatCousin_12 rfl rfl rfl ?_
  refine s_iaload 14 aa45 dX2_seatCousin_13 rfl (fun b2 => ?_)
  refine j_iconst (v := 1) 15 dX2_seatCousin_14 rfl (by decide) ?_
  refine j_iadd 16 dX2_seatCousin_15 rfl ?_
  refine s_iastore 17 aa45 dX2_seatCousin_16 rfl (fun b3 => ?_)
  refine j_aload_n 18 dX2_seatCousin_17 rfl rfl ?_
  refine j_iload_n 19 dX2_seatCousin_18 rfl rfl ?_
  refine j_iconst (v := 1) 20 dX2_seatCousin_19 rfl (by decide) ?_
  refine j_iadd 21 dX2_seatCousin_20 rfl ?_
  refine j_iload_n 22 dX2_seatCousin_21 rfl rfl ?_
  refine j_aload_n 23 dX2_seatCousin_22 rfl rfl ?_
  refine s_getR (x := 46) 26 fa42_6 w_353 dX2_seatCousin_23 rfl (by decide +kernel) ?_
  refine j_iload_n 27 dX2_seatCousin_26 rfl rfl ?_
  refine s_iaload 28 aa46 dX2_seatCousin_27 rfl (fun b4 => ?_)
  refine j_aload_n 29 dX2_seatCousin_28 rfl rfl ?_
  refine s_getR (x := 6) 32 fa42_3 w_350 dX2_seatCousin_29 rfl (by decide +kernel) ?_
  refine j_iload_n 33 dX2_seatCousin_32 rfl rfl ?_
  refine s_callVi (M2 := mX0_xOf) [vI a2] 36 oa6 cc0 mkX0_xOf w_1086 dX2_seatCousin_33 rfl rfl (tX0_xOf Θ l _  _) (by first | exact Nat.le_of_ble_eq_true rfl | omega) (Nat.le_of_ble_eq_true rfl) (Nat.le_of_ble_eq_true rfl) (fun r5 s6 => ?_)
  refine j_imul 37 dX2_seatCousin_36 rfl ?_
  refine j_iadd 38 dX2_seatCousin_37 rfl ?_
  refine j_iload 40 dX2_seatCousin_38 rfl rfl ?_
  refine j_aload_n 41 dX2_seatCousin_40 rfl rfl ?_
  refine s_getR (x := 47) 44 fa42_7 w_354 dX2_seatCousin_41 rfl (by decide +kernel) ?_
  refine j_iload_n 45 dX2_seatCousin_44 rfl rfl ?_
  refine s_iaload 46 aa47 dX2_seatCousin_45 rfl (fun b7 => ?_)
  refine j_iadd 47 dX2_seatCousin_46 rfl ?_
  refine s_callVu (M2 := mX2_tryCousin) [vI (a1 + 1), vI (a3 + (((wI (wI s 44 (ix a1) a2) 45 (ix a2) (((wI s 44 (ix a1) a2).1 45 (ix a2)) + 1)).1 46 (ix a1)) * r5)), vI (a4 + (s6.1 47 (ix a1)))] 50 oa42 cc2 mkX2_tryCousin w_1072 dX2_seatCousin_47 rfl rfl (hrec _ _ _ _) (by omega) (Nat.le_of_ble_eq_true rfl) (Nat.le_of_ble_eq_true rfl) (fun r8 s9 => ?_)
  refine j_aload_n 51 dX2_seatCousin_50 rfl rfl ?_
  refine s_getR (x := 45) 54 fa42_5 w_352 dX2_seatCousin_51 rfl (by decide +kernel) ?_
  refine j_iload_n 55 dX2_seatCousin_54 rfl rfl ?_
  refine j_dup2 56 dX2_seatCousin_55 rfl rfl rfl ?_
  refine s_iaload 57 aa45 dX2_seatCousin_56 rfl (fun b10 => ?_)
  refine j_iconst (v := 1) 58 dX2_seatCousin_57 rfl (by decide) ?_
  refine j_isub 59 dX2_seatCousin_58 rfl ?_
  refine s_iastore 60 aa45 dX2_seatCousin_59 rfl (fun b11 => ?_)
  exact s_ret dX2_seatCousin_60 rfl
-- X2_noteCheaper
def fX2_noteCheaper_L7  (κ : Mem → Option (Unit × Mem))  : Nat → Int32 → Mem → Option (Unit × Mem)
  | 0, _, _ => none
  | k + 1, x2, s =>
    if x2 < (s.1 42 0) then
      if inb x2 4 = true then
      if inb x2 4 = true then
      fX2_noteCheaper_L7 κ k (x2 + 1) (wI s 43 (ix x2) (s.1 44 (ix x2)))
      else none
      else none
    else
      κ s
def fX2_noteCheaper  (a1 : Int32) (s : Mem) : Option (Unit × Mem) :=
fX2_noteCheaper_L7 (fun s4 =>
  some ((), s4))  FU 0 (wI s 42 1 a1)
theorem tX2_noteCheaper_L7 (Θ : Th) (l : Launch)  (κ : Mem → Option (Unit × Mem))   (hκ : ∀  (s : Mem), Js Θ l mX2_noteCheaper 1 gU 33 [none, none, none] [] s (κ  s)) : ∀ (k : Nat) (x2 : Int32) (s : Mem), Js Θ l mX2_noteCheaper 1 gU 7 [some (vR 42), none, some (vI x2)] [] s (fX2_noteCheaper_L7 κ  k x2 s) := by
  intro k
  induction k with
  | zero => intro x2 s; exact j_none
  | succ k ih =>
    intro x2 s
    rw [fX2_noteCheaper_L7]
    refine j_iload_n 8 dX2_noteCheaper_7 rfl rfl ?_
    refine j_aload_n 9 dX2_noteCheaper_8 rfl rfl ?_
    refine s_getI 12 fa42_0 w_344 dX2_noteCheaper_9 rfl ?_
    refine j_icmp_ge 33 15 dX2_noteCheaper_12 (by decide) rfl (fun c1 => ?_) (fun c1 => ?_)
    · refine j_aload_n 16 dX2_noteCheaper_15 rfl rfl ?_
      refine s_getR (x := 43) 19 fa42_2 w_348 dX2_noteCheaper_16 rfl (by decide +kernel) ?_
      refine j_iload_n 20 dX2_noteCheaper_19 rfl rfl ?_
      refine j_aload_n 21 dX2_noteCheaper_20 rfl rfl ?_
      refine s_getR (x := 44) 24 fa42_4 w_351 dX2_noteCheaper_21 rfl (by decide +kernel) ?_
      refine j_iload_n 25 dX2_noteCheaper_24 rfl rfl ?_
      refine s_iaload 26 aa44 dX2_noteCheaper_25 rfl (fun b2 => ?_)
      refine s_iastore 27 aa43 dX2_noteCheaper_26 rfl (fun b3 => ?_)
      refine j_iinc (v := x2 + 1) (ls' := [some (vR 42), none, some (vI (x2 + 1))]) 30 dX2_noteCheaper_27 rfl rfl rfl (by decide) rfl rfl ?_
      refine j_goto 7 dX2_noteCheaper_30 (by decide) ?_
      refine j_sub (ls' := [some (vR 42), none, some (vI (x2 + 1))]) (And.intro rfl (And.intro rfl trivial)) ?_
      exact ih (x2 + 1) (wI s 43 (ix x2) (s.1 44 (ix x2)))
    · refine j_sub (ls' := [none, none, none]) (trivial) ?_
      exact hκ s
theorem tX2_noteCheaper (Θ : Th) (l : Launch)  (a1 : Int32)  (s : Mem) : Cs Θ l mX2_noteCheaper 1 gU [vR 42, vI a1] s (fX2_noteCheaper a1 s) := by
  refine ct_of (by decide) [some (vR 42), some (vI a1), none] rfl (Nat.le_of_ble_eq_true rfl) ?_
  unfold fX2_noteCheaper
  refine j_aload_n 1 dX2_noteCheaper_0 rfl rfl ?_
  refine j_iload_n 2 dX2_noteCheaper_1 rfl rfl ?_
  refine s_putI 5 fa42_1 w_346 dX2_noteCheaper_2 rfl ?_
  refine j_iconst (v := 0) 6 dX2_noteCheaper_5 rfl (by decide) ?_
  refine j_istore_n (i := 2) (ls' := [some (vR 42), some (vI a1), some (vI 0)]) 7 dX2_noteCheaper_6 rfl rfl (by decide) rfl rfl ?_
  refine j_sub (ls' := [some (vR 42), none, some (vI 0)]) (And.intro rfl (And.intro rfl trivial)) ?_
  refine tX2_noteCheaper_L7 Θ l _   ?_ _ _ _
  intro s4
  exact s_ret dX2_noteCheaper_33 rfl
