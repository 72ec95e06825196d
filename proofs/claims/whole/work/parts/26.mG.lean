-- X12_fraction
def fX12_fraction_L6  (κ : Int32 → Mem → Option (Int32 × Mem)) (y1 : Int32) (y2 : Int32) (y3 : Int32) : Nat → Int32 → Int32 → Mem → Option (Int32 × Mem)
  | 0, _, _, _ => none
  | k + 1, x4, x5, s =>
    if x5 = 0 then
      κ x4 s
    else
      if x5 = 0 then none else
      nm (x4 - x4 / x5 * x5) (fun v2 =>
      fX12_fraction_L6 κ y1 y2 y3 k x5 v2 s)
def fX12_fraction  (a1 : Int32) (a2 : Int32) (a3 : Int32) (s : Mem) : Option (Int32 × Mem) :=
fX12_fraction_L6 (fun v3 s4 =>
  if v3 = 0 then none else
  if v3 = 0 then none else
  some (a3, wL (wL s4 68 3 (Int32.toInt64 (a1 / v3))) 68 4 (Int32.toInt64 (a2 / v3)))) a1 a2 a3 FU a1 a2 s
theorem tX12_fraction_L6 (Θ : Th) (l : Launch)  (κ : Int32 → Mem → Option (Int32 × Mem)) (y1 : Int32) (y2 : Int32) (y3 : Int32)  (hκ : ∀ (x4 : Int32) (s : Mem), Js Θ l mX12_fraction 1 gI 29 [some (vR 68), some (vI y1), some (vI y2), some (vI y3), some (vI x4), none, none] [] s (κ x4 s)) : ∀ (k : Nat) (x4 : Int32) (x5 : Int32) (s : Mem), Js Θ l mX12_fraction 1 gI 6 [some (vR 68), some (vI y1), some (vI y2), some (vI y3), some (vI x4), some (vI x5), none] [] s (fX12_fraction_L6 κ y1 y2 y3 k x4 x5 s) := by
  intro k
  induction k with
  | zero => intro x4 x5 s; exact j_none
  | succ k ih =>
    intro x4 x5 s
    rw [fX12_fraction_L6]
    refine j_iload 8 dX12_fraction_6 rfl rfl ?_
    refine j_if_eq 29 11 dX12_fraction_8 (by decide) rfl (fun c1 => ?_) (fun c1 => ?_)
    · refine j_sub (ls' := [some (vR 68), some (vI y1), some (vI y2), some (vI y3), some (vI x4), none, none]) (And.intro rfl (And.intro rfl (And.intro rfl (And.intro rfl (And.intro rfl trivial))))) ?_
      exact hκ x4 s
    · refine j_iload 13 dX12_fraction_11 rfl rfl ?_
      refine j_iload 15 dX12_fraction_13 rfl rfl ?_
      refine j_irem 16 dX12_fraction_15 rfl (fun _ => ?_)
      refine s_nmI (fun v2 => ?_)
      refine j_istore (i := 6) (ls' := [some (vR 68), some (vI y1), some (vI y2), some (vI y3), some (vI x4), some (vI x5), some (vI v2)]) 18 dX12_fraction_16 rfl (by decide) rfl rfl ?_
      refine j_iload 20 dX12_fraction_18 rfl rfl ?_
      refine j_istore (i := 4) (ls' := [some (vR 68), some (vI y1), some (vI y2), some (vI y3), some (vI x5), some (vI x5), some (vI v2)]) 22 dX12_fraction_20 rfl (by decide) rfl rfl ?_
      refine j_iload 24 dX12_fraction_22 rfl rfl ?_
      refine j_istore (i := 5) (ls' := [some (vR 68), some (vI y1), some (vI y2), some (vI y3), some (vI x5), some (vI v2), some (vI v2)]) 26 dX12_fraction_24 rfl (by decide) rfl rfl ?_
      refine j_goto 6 dX12_fraction_26 (by decide) ?_
      refine j_sub (ls' := [some (vR 68), some (vI y1), some (vI y2), some (vI y3), some (vI x5), some (vI v2), none]) (And.intro rfl (And.intro rfl (And.intro rfl (And.intro rfl (And.intro rfl (And.intro rfl trivial)))))) ?_
      exact ih x5 v2 s
theorem tX12_fraction (Θ : Th) (l : Launch)  (a1 : Int32) (a2 : Int32) (a3 : Int32)  (s : Mem) : Cs Θ l mX12_fraction 1 gI [vR 68, vI a1, vI a2, vI a3] s (fX12_fraction a1 a2 a3 s) := by
  refine ct_of (by decide) [some (vR 68), some (vI a1), some (vI a2), some (vI a3), none, none, none] rfl (Nat.le_of_ble_eq_true rfl) ?_
  unfold fX12_fraction
  refine j_iload_n 1 dX12_fraction_0 rfl rfl ?_
  refine j_istore (i := 4) (ls' := [some (vR 68), some (vI a1), some (vI a2), some (vI a3), some (vI a1), none, none]) 3 dX12_fraction_1 rfl (by decide) rfl rfl ?_
  refine j_iload_n 4 dX12_fraction_3 rfl rfl ?_
  refine j_istore (i := 5) (ls' := [some (vR 68), some (vI a1), some (vI a2), some (vI a3), some (vI a1), some (vI a2), none]) 6 dX12_fraction_4 rfl (by decide) rfl rfl ?_
  refine j_sub (ls' := [some (vR 68), some (vI a1), some (vI a2), some (vI a3), some (vI a1), some (vI a2), none]) (And.intro rfl (And.intro rfl (And.intro rfl (And.intro rfl (And.intro rfl (And.intro rfl trivial)))))) ?_
  refine tX12_fraction_L6 Θ l _ _ _ _  ?_ _ _ _ _
  intro v3 s4
  refine j_aload_n 30 dX12_fraction_29 rfl rfl ?_
  refine j_iload_n 31 dX12_fraction_30 rfl rfl ?_
  refine j_iload 33 dX12_fraction_31 rfl rfl ?_
  refine j_idiv 34 dX12_fraction_33 rfl (fun _ => ?_)
  refine j_i2l 35 dX12_fraction_34 rfl ?_
  refine s_putL 38 fa68_3 w_1209 dX12_fraction_35 rfl ?_
  refine j_aload_n 39 dX12_fraction_38 rfl rfl ?_
  refine j_iload_n 40 dX12_fraction_39 rfl rfl ?_
  refine j_iload 42 dX12_fraction_40 rfl rfl ?_
  refine j_idiv 43 dX12_fraction_42 rfl (fun _ => ?_)
  refine j_i2l 44 dX12_fraction_43 rfl ?_
  refine s_putL 47 fa68_4 w_1210 dX12_fraction_44 rfl ?_
  refine j_iload_n 48 dX12_fraction_47 rfl rfl ?_
  exact s_iret dX12_fraction_48 rfl
-- X12_minutes
def fX12_minutes_L4  (κ : Int32 → Mem → Option (Int32 × Mem))  : Nat → Int32 → Int32 → Mem → Option (Int32 × Mem)
  | 0, _, _, _ => none
  | k + 1, x1, x2, s =>
    if x2 < (s.1 68 19) then
      if inb x2 40 = true then
      bnd (fX12_listOf (s.1 80 (ix x2)) (s.1 68 18) s) (fun r3 s4 =>
      bnd (fX12_isLevel r3 s4) (fun r5 s6 =>
      if r5 = 0 then
        nm (x1 + 0) (fun v8 =>
        fX12_minutes_L4 κ k v8 (x2 + 1) s6)
      else
        nm (x1 + 1) (fun v9 =>
        fX12_minutes_L4 κ k v9 (x2 + 1) s6)))
      else none
    else
      κ x1 s
def fX12_minutes   (s : Mem) : Option (Int32 × Mem) :=
fX12_minutes_L4 (fun v10 s11 =>
  bnd (fX12_fraction v10 (s11.1 68 19) v10 s11) (fun r12 s13 =>
  some (r12, s13)))  FU 0 0 s
theorem tX12_minutes_L4 (Θ : Th) (l : Launch)  (κ : Int32 → Mem → Option (Int32 × Mem))   (hκ : ∀ (x1 : Int32) (s : Mem), Js Θ l mX12_minutes 5 gI 47 [some (vR 68), some (vI x1), none] [] s (κ x1 s)) : ∀ (k : Nat) (x1 : Int32) (x2 : Int32) (s : Mem), Js Θ l mX12_minutes 5 gI 4 [some (vR 68), some (vI x1), some (vI x2)] [] s (fX12_minutes_L4 κ  k x1 x2 s) := by
  intro k
  induction k with
  | zero => intro x1 x2 s; exact j_none
  | succ k ih =>
    intro x1 x2 s
    rw [fX12_minutes_L4]
    refine j_iload_n 5 dX12_minutes_4 rfl rfl ?_
    refine j_aload_n 6 dX12_minutes_5 rfl rfl ?_
    refine s_getI 9 fa68_19 w_1225 dX12_minutes_6 rfl ?_
    refine j_icmp_ge 47 12 dX12_minutes_9 (by decide) rfl (fun c1 => ?_) (fun c1 => ?_)
    · refine j_iload_n 13 dX12_minutes_12 rfl rfl ?_
      refine j_aload_n 14 dX12_minutes_13 rfl rfl ?_
      refine j_aload_n 15 dX12_minutes_14 rfl rfl ?_
      refine j_aload_n 16 dX12_minutes_15 rfl rfl ?_
      refine s_getR (x := 80) 19 fa68_20 w_1226 dX12_minutes_16 rfl (by decide +kernel) ?_
      refine j_iload_n 20 dX12_minutes_19 rfl rfl ?_
      refine s_iaload 21 aa80 dX12_minutes_20 rfl (fun b2 => ?_)
      refine j_aload_n 22 dX12_minutes_21 rfl rfl ?_
      refine s_getI 25 fa68_18 w_1224 dX12_minutes_22 rfl ?_
      refine s_callVi (M2 := mX12_listOf) [vI (s.1 80 (ix x2)), vI (s.1 68 18)] 28 oa68 cc12 mkX12_listOf w_1624 dX12_minutes_25 rfl rfl (tX12_listOf Θ l _ _  _) (by first | exact Nat.le_of_ble_eq_true rfl | omega) (Nat.le_of_ble_eq_true rfl) (Nat.le_of_ble_eq_true rfl) (fun r3 s4 => ?_)
      refine s_callVi (M2 := mX12_isLevel) [vI r3] 31 oa68 cc12 mkX12_isLevel w_1628 dX12_minutes_28 rfl rfl (tX12_isLevel Θ l _  _) (by first | exact Nat.le_of_ble_eq_true rfl | omega) (Nat.le_of_ble_eq_true rfl) (Nat.le_of_ble_eq_true rfl) (fun r5 s6 => ?_)
      refine j_if_eq 38 34 dX12_minutes_31 (by decide) rfl (fun c7 => ?_) (fun c7 => ?_)
      · refine j_iconst (v := 0) 39 dX12_minutes_38 rfl (by decide) ?_
        refine j_iadd 40 dX12_minutes_39 rfl ?_
        refine s_nmI (fun v8 => ?_)
        refine j_istore_n (i := 1) (ls' := [some (vR 68), some (vI v8), some (vI x2)]) 41 dX12_minutes_40 rfl rfl (by decide) rfl rfl ?_
        refine j_iinc (v := x2 + 1) (ls' := [some (vR 68), some (vI v8), some (vI (x2 + 1))]) 44 dX12_minutes_41 rfl rfl rfl (by decide) rfl rfl ?_
        refine j_goto 4 dX12_minutes_44 (by decide) ?_
        refine j_sub (ls' := [some (vR 68), some (vI v8), some (vI (x2 + 1))]) (And.intro rfl (And.intro rfl (And.intro rfl trivial))) ?_
        exact ih v8 (x2 + 1) s6
      · refine j_iconst (v := 1) 35 dX12_minutes_34 rfl (by decide) ?_
        refine j_goto 39 dX12_minutes_35 (by decide) ?_
        refine j_iadd 40 dX12_minutes_39 rfl ?_
        refine s_nmI (fun v9 => ?_)
        refine j_istore_n (i := 1) (ls' := [some (vR 68), some (vI v9), some (vI x2)]) 41 dX12_minutes_40 rfl rfl (by decide) rfl rfl ?_
        refine j_iinc (v := x2 + 1) (ls' := [some (vR 68), some (vI v9), some (vI (x2 + 1))]) 44 dX12_minutes_41 rfl rfl rfl (by decide) rfl rfl ?_
        refine j_goto 4 dX12_minutes_44 (by decide) ?_
        refine j_sub (ls' := [some (vR 68), some (vI v9), some (vI (x2 + 1))]) (And.intro rfl (And.intro rfl (And.intro rfl trivial))) ?_
        exact ih v9 (x2 + 1) s6
    · refine j_sub (ls' := [some (vR 68), some (vI x1), none]) (And.intro rfl (And.intro rfl trivial)) ?_
      exact hκ x1 s
theorem tX12_minutes (Θ : Th) (l : Launch)    (s : Mem) : Cs Θ l mX12_minutes 5 gI [vR 68] s (fX12_minutes  s) := by
  refine ct_of (by decide) [some (vR 68), none, none] rfl (Nat.le_of_ble_eq_true rfl) ?_
  unfold fX12_minutes
  refine j_iconst (v := 0) 1 dX12_minutes_0 rfl (by decide) ?_
  refine j_istore_n (i := 1) (ls' := [some (vR 68), some (vI 0), none]) 2 dX12_minutes_1 rfl rfl (by decide) rfl rfl ?_
  refine j_iconst (v := 0) 3 dX12_minutes_2 rfl (by decide) ?_
  refine j_istore_n (i := 2) (ls' := [some (vR 68), some (vI 0), some (vI 0)]) 4 dX12_minutes_3 rfl rfl (by decide) rfl rfl ?_
  refine j_sub (ls' := [some (vR 68), some (vI 0), some (vI 0)]) (And.intro rfl (And.intro rfl (And.intro rfl trivial))) ?_
  refine tX12_minutes_L4 Θ l _   ?_ _ _ _ _
  intro v10 s11
  refine j_aload_n 48 dX12_minutes_47 rfl rfl ?_
  refine j_iload_n 49 dX12_minutes_48 rfl rfl ?_
  refine j_aload_n 50 dX12_minutes_49 rfl rfl ?_
  refine s_getI 53 fa68_19 w_1225 dX12_minutes_50 rfl ?_
  refine j_iload_n 54 dX12_minutes_53 rfl rfl ?_
  refine s_callVi (M2 := mX12_fraction) [vI v10, vI (s11.1 68 19), vI v10] 57 oa68 cc12 mkX12_fraction w_1640 dX12_minutes_54 rfl rfl (tX12_fraction Θ l _ _ _  _) (by first | exact Nat.le_of_ble_eq_true rfl | omega) (Nat.le_of_ble_eq_true rfl) (Nat.le_of_ble_eq_true rfl) (fun r12 s13 => ?_)
  exact s_iret dX12_minutes_57 rfl
-- X12_worstNow
def fX12_worstNow_L4  (κ : Int32 → Mem → Option (Int32 × Mem))  : Nat → Int32 → Int32 → Mem → Option (Int32 × Mem)
  | 0, _, _, _ => none
  | k + 1, x1, x2, s =>
    if x2 < (s.1 68 19) then
      if inb x2 40 = true then
      bnd (fX12_listOf (s.1 80 (ix x2)) (s.1 68 18) s) (fun r3 s4 =>
      bnd (fX12_sizeOf r3 s4) (fun r5 s6 =>
      if x1 < r5 then
        bnd (fX12_greater x1 r5 (wI s6 68 36 x2)) (fun r8 s9 =>
        fX12_worstNow_L4 κ k r8 (x2 + 1) s9)
      else
        bnd (fX12_greater x1 r5 (wI s6 68 36 (s6.1 68 36))) (fun r10 s11 =>
        fX12_worstNow_L4 κ k r10 (x2 + 1) s11)))
      else none
    else
      κ x1 s
def fX12_worstNow   (s : Mem) : Option (Int32 × Mem) :=
fX12_worstNow_L4 (fun v12 s13 =>
  some (v12, s13))  FU (-1) 0 s
theorem tX12_worstNow_L4 (Θ : Th) (l : Launch)  (κ : Int32 → Mem → Option (Int32 × Mem))   (hκ : ∀ (x1 : Int32) (s : Mem), Js Θ l mX12_worstNow 5 gI 59 [none, some (vI x1), none, none] [] s (κ x1 s)) : ∀ (k : Nat) (x1 : Int32) (x2 : Int32) (s : Mem), Js Θ l mX12_worstNow 5 gI 4 [some (vR 68), some (vI x1), some (vI x2), none] [] s (fX12_worstNow_L4 κ  k x1 x2 s) := by
  intro k
  induction k with
  | zero => intro x1 x2 s; exact j_none
  | succ k ih =>
    intro x1 x2 s
    rw [fX12_worstNow_L4]
    refine j_iload_n 5 dX12_worstNow_4 rfl rfl ?_
    refine j_aload_n 6 dX12_worstNow_5 rfl rfl ?_
    refine s_getI 9 fa68_19 w_1225 dX12_worstNow_6 rfl ?_
    refine j_icmp_ge 59 12 dX12_worstNow_9 (by decide) rfl (fun c1 => ?_) (fun c1 => ?_)
    · refine j_aload_n 13 dX12_worstNow_12 rfl rfl ?_
      refine j_aload_n 14 dX12_worstNow_13 rfl rfl ?_
      refine s_getR (x := 80) 17 fa68_20 w_1226 dX12_worstNow_14 rfl (by decide +kernel) ?_
      refine j_iload_n 18 dX12_worstNow_17 rfl rfl ?_
      refine s_iaload 19 aa80 dX12_worstNow_18 rfl (fun b2 => ?_)
      refine j_aload_n 20 dX12_worstNow_19 rfl rfl ?_
      refine s_getI 23 fa68_18 w_1224 dX12_worstNow_20 rfl ?_
      refine s_callVi (M2 := mX12_listOf) [vI (s.1 80 (ix x2)), vI (s.1 68 18)] 26 oa68 cc12 mkX12_listOf w_1624 dX12_worstNow_23 rfl rfl (tX12_listOf Θ l _ _  _) (by first | exact Nat.le_of_ble_eq_true rfl | omega) (Nat.le_of_ble_eq_true rfl) (Nat.le_of_ble_eq_true rfl) (fun r3 s4 => ?_)
      refine s_callSi (M2 := mX12_sizeOf) [vI r3] 29 mkX12_sizeOf (Or.inl w_1539) dX12_worstNow_26 rfl rfl (tX12_sizeOf Θ l _  _) (by first | exact Nat.le_of_ble_eq_true rfl | omega) (Nat.le_of_ble_eq_true rfl) (Nat.le_of_ble_eq_true rfl) (fun r5 s6 => ?_)
      refine j_istore_n (i := 3) (ls' := [some (vR 68), some (vI x1), some (vI x2), some (vI r5)]) 30 dX12_worstNow_29 rfl rfl (by decide) rfl rfl ?_
      refine j_aload_n 31 dX12_worstNow_30 rfl rfl ?_
      refine j_iload_n 32 dX12_worstNow_31 rfl rfl ?_
      refine j_iload_n 33 dX12_worstNow_32 rfl rfl ?_
      refine j_icmp_le 40 36 dX12_worstNow_33 (by decide) rfl (fun c7 => ?_) (fun c7 => ?_)
      · refine j_iload_n 37 dX12_worstNow_36 rfl rfl ?_
        refine j_goto 44 dX12_worstNow_37 (by decide) ?_
        refine s_putI 47 fa68_36 w_1242 dX12_worstNow_44 rfl ?_
        refine j_iload_n 48 dX12_worstNow_47 rfl rfl ?_
        refine j_iload_n 49 dX12_worstNow_48 rfl rfl ?_
        refine s_callSi (M2 := mX12_greater) [vI x1, vI r5] 52 mkX12_greater (Or.inl w_1542) dX12_worstNow_49 rfl rfl (tX12_greater Θ l _ _  _) (by first | exact Nat.le_of_ble_eq_true rfl | omega) (Nat.le_of_ble_eq_true rfl) (Nat.le_of_ble_eq_true rfl) (fun r8 s9 => ?_)
        refine j_istore_n (i := 1) (ls' := [some (vR 68), some (vI r8), some (vI x2), some (vI r5)]) 53 dX12_worstNow_52 rfl rfl (by decide) rfl rfl ?_
        refine j_iinc (v := x2 + 1) (ls' := [some (vR 68), some (vI r8), some (vI (x2 + 1)), some (vI r5)]) 56 dX12_worstNow_53 rfl rfl rfl (by decide) rfl rfl ?_
        refine j_goto 4 dX12_worstNow_56 (by decide) ?_
        refine j_sub (ls' := [some (vR 68), some (vI r8), some (vI (x2 + 1)), none]) (And.intro rfl (And.intro rfl (And.intro rfl trivial))) ?_
        exact ih r8 (x2 + 1) s9
      · refine j_aload_n 41 dX12_worstNow_40 rfl rfl ?_
        refine s_getI 44 fa68_36 w_1242 dX12_worstNow_41 rfl ?_
        refine s_putI 47 fa68_36 w_1242 dX12_worstNow_44 rfl ?_
        refine j_iload_n 48 dX12_worstNow_47 rfl rfl ?_
        refine j_iload_n 49 dX12_worstNow_48 rfl rfl ?_
        refine s_callSi (M2 := mX12_greater) [vI x1, vI r5] 52 mkX12_greater (Or.inl w_1542) dX12_worstNow_49 rfl rfl (tX12_greater Θ l _ _  _) (by first | exact Nat.le_of_ble_eq_true rfl | omega) (Nat.le_of_ble_eq_true rfl) (Nat.le_of_ble_eq_true rfl) (fun r10 s11 => ?_)
        refine j_istore_n (i := 1) (ls' := [some (vR 68), some (vI r10), some (vI x2), some (vI r5)]) 53 dX12_worstNow_52 rfl rfl (by decide) rfl rfl ?_
        refine j_iinc (v := x2 + 1) (ls' := [some (vR 68), some (vI r10), some (vI (x2 + 1)), some (vI r5)]) 56 dX12_worstNow_53 rfl rfl rfl (by decide) rfl rfl ?_
        refine j_goto 4 dX12_worstNow_56 (by decide) ?_
        refine j_sub (ls' := [some (vR 68), some (vI r10), some (vI (x2 + 1)), none]) (And.intro rfl (And.intro rfl (And.intro rfl trivial))) ?_
        exact ih r10 (x2 + 1) s11
    · refine j_sub (ls' := [none, some (vI x1), none, none]) (And.intro rfl trivial) ?_
      exact hκ x1 s
theorem tX12_worstNow (Θ : Th) (l : Launch)    (s : Mem) : Cs Θ l mX12_worstNow 5 gI [vR 68] s (fX12_worstNow  s) := by
  refine ct_of (by decide) [some (vR 68), none, none, none] rfl (Nat.le_of_ble_eq_true rfl) ?_
  unfold fX12_worstNow
  refine j_iconst (v := (-1)) 1 dX12_worstNow_0 rfl (by decide) ?_
  refine j_istore_n (i := 1) (ls' := [some (vR 68), some (vI (-1)), none, none]) 2 dX12_worstNow_1 rfl rfl (by decide) rfl rfl ?_
  refine j_iconst (v := 0) 3 dX12_worstNow_2 rfl (by decide) ?_
  refine j_istore_n (i := 2) (ls' := [some (vR 68), some (vI (-1)), some (vI 0), none]) 4 dX12_worstNow_3 rfl rfl (by decide) rfl rfl ?_
  refine j_sub (ls' := [some (vR 68), some (vI (-1)), some (vI 0), none]) (And.intro rfl (And.intro rfl (And.intro rfl trivial))) ?_
  refine tX12_worstNow_L4 Θ l _   ?_ _ _ _ _
  intro v12 s13
  refine j_iload_n 60 dX12_worstNow_59 rfl rfl ?_
  exact s_iret dX12_worstNow_60 rfl
-- X12_worst
def fX12_worst   (s : Mem) : Option (Int32 × Mem) :=
bnd (fX12_worstNow s) (fun r1 s2 =>
bnd (fX12_tells (s2.1 68 36) r1 s2) (fun r3 s4 =>
some (r3, s4)))
theorem tX12_worst (Θ : Th) (l : Launch)    (s : Mem) : Cs Θ l mX12_worst 6 gI [vR 68] s (fX12_worst  s) := by
  refine ct_of (by decide) [some (vR 68), none] rfl (Nat.le_of_ble_eq_true rfl) ?_
  unfold fX12_worst
  refine j_aload_n 1 dX12_worst_0 rfl rfl ?_
  refine s_callVi (M2 := mX12_worstNow) [] 4 oa68 cc12 mkX12_worstNow w_1648 dX12_worst_1 rfl rfl (tX12_worstNow Θ l   _) (by first | exact Nat.le_of_ble_eq_true rfl | omega) (Nat.le_of_ble_eq_true rfl) (Nat.le_of_ble_eq_true rfl) (fun r1 s2 => ?_)
  refine j_istore_n (i := 1) (ls' := [some (vR 68), some (vI r1)]) 5 dX12_worst_4 rfl rfl (by decide) rfl rfl ?_
  refine j_aload_n 6 dX12_worst_5 rfl rfl ?_
  refine j_aload_n 7 dX12_worst_6 rfl rfl ?_
  refine s_getI 10 fa68_36 w_1242 dX12_worst_7 rfl ?_
  refine j_iload_n 11 dX12_worst_10 rfl rfl ?_
  refine s_callVi (M2 := mX12_tells) [vI (s2.1 68 36), vI r1] 14 oa68 cc12 mkX12_tells w_1414 dX12_worst_11 rfl rfl (tX12_tells Θ l _ _  _) (by first | exact Nat.le_of_ble_eq_true rfl | omega) (Nat.le_of_ble_eq_true rfl) (Nat.le_of_ble_eq_true rfl) (fun r3 s4 => ?_)
  exact s_iret dX12_worst_14 rfl
-- X12_need
def fX12_need   (s : Mem) : Option (Int32 × Mem) :=
bnd (fX12_worstNow s) (fun r1 s2 =>
if 999 < r1 then
  some ((-9), s2)
else
  some (r1, s2))
theorem tX12_need (Θ : Th) (l : Launch)    (s : Mem) : Cs Θ l mX12_need 6 gI [vR 68] s (fX12_need  s) := by
  refine ct_of (by decide) [some (vR 68), none] rfl (Nat.le_of_ble_eq_true rfl) ?_
  unfold fX12_need
  refine j_aload_n 1 dX12_need_0 rfl rfl ?_
  refine s_callVi (M2 := mX12_worstNow) [] 4 oa68 cc12 mkX12_worstNow w_1648 dX12_need_1 rfl rfl (tX12_worstNow Θ l   _) (by first | exact Nat.le_of_ble_eq_true rfl | omega) (Nat.le_of_ble_eq_true rfl) (Nat.le_of_ble_eq_true rfl) (fun r1 s2 => ?_)
  refine j_istore_n (i := 1) (ls' := [some (vR 68), some (vI r1)]) 5 dX12_need_4 rfl rfl (by decide) rfl rfl ?_
  refine j_iload_n 6 dX12_need_5 rfl rfl ?_
  refine j_sipush (v := 999) 9 dX12_need_6 rfl (by decide) ?_
  refine j_icmp_le 17 12 dX12_need_9 (by decide) rfl (fun c3 => ?_) (fun c3 => ?_)
  · refine j_bipush (v := (-9)) 14 dX12_need_12 rfl (by decide) ?_
    refine j_goto 18 dX12_need_14 (by decide) ?_
    exact s_iret dX12_need_18 rfl
  · refine j_iload_n 18 dX12_need_17 rfl rfl ?_
    exact s_iret dX12_need_18 rfl
-- X12_meetsSeating
def fX12_meetsSeating_L37  (κ : Mem → Option (Unit × Mem)) (y1 : Int32) : Nat → Int32 → Mem → Option (Unit × Mem)
  | 0, _, _ => none
  | k + 1, x2, s =>
    if x2 < (s.1 68 12) then
      if inb x2 8 = true then
      if inb x2 7 = true then
      fX12_meetsSeating_L37 κ y1 k (x2 + 1) (wI s 90 (ix x2) (s.1 79 (ix x2)))
      else none
      else none
    else
      κ s
def fX12_meetsSeating_L83  (κ : Mem → Option (Unit × Mem))  : Nat → Int32 → Mem → Option (Unit × Mem)
  | 0, _, _ => none
  | k + 1, x2, s =>
    if x2 < (s.1 68 12) then
      if inb x2 7 = true then
      if inb x2 8 = true then
      if inb x2 7 = true then
      fX12_meetsSeating_L83 κ k (x2 + 1) (wI s 91 (ix x2) ((s.1 91 (ix x2)) ||| ((1 : Int32) <<< ((s.1 79 (ix x2)) &&& 31))))
      else none
      else none
      else none
    else
      κ s
def fX12_meetsSeating   (s : Mem) : Option (Unit × Mem) :=
bnd (fX12_worstNow s) (fun r1 s2 =>
if ((wI s2 68 37 ((s2.1 68 37) + 1)).1 68 39) < 0 then
  fX12_meetsSeating_L37 (fun s7 =>
    if (s7.1 68 17) < r1 then
      some ((), s7)
    else
      fX12_meetsSeating_L83 (fun s13 =>
        some ((), s13))  FU 0 (wI s7 68 38 ((s7.1 68 38) + 1))) r1 FU 0 (wI (wI s2 68 37 ((s2.1 68 37) + 1)) 68 39 r1)
else
  if r1 < ((wI s2 68 37 ((s2.1 68 37) + 1)).1 68 39) then
    fX12_meetsSeating_L37 (fun s15 =>
      if (s15.1 68 17) < r1 then
        some ((), s15)
      else
        fX12_meetsSeating_L83 (fun s17 =>
          some ((), s17))  FU 0 (wI s15 68 38 ((s15.1 68 38) + 1))) r1 FU 0 (wI (wI s2 68 37 ((s2.1 68 37) + 1)) 68 39 r1)
  else
    if ((wI s2 68 37 ((s2.1 68 37) + 1)).1 68 17) < r1 then
      some ((), wI s2 68 37 ((s2.1 68 37) + 1))
    else
      fX12_meetsSeating_L83 (fun s19 =>
        some ((), s19))  FU 0 (wI (wI s2 68 37 ((s2.1 68 37) + 1)) 68 38 (((wI s2 68 37 ((s2.1 68 37) + 1)).1 68 38) + 1)))
theorem tX12_meetsSeating_L37 (Θ : Th) (l : Launch)  (κ : Mem → Option (Unit × Mem)) (y1 : Int32)  (hκ : ∀  (s : Mem), Js Θ l mX12_meetsSeating 6 gU 63 [some (vR 68), some (vI y1), none] [] s (κ  s)) : ∀ (k : Nat) (x2 : Int32) (s : Mem), Js Θ l mX12_meetsSeating 6 gU 37 [some (vR 68), some (vI y1), some (vI x2)] [] s (fX12_meetsSeating_L37 κ y1 k x2 s) := by
  intro k
  induction k with
  | zero => intro x2 s; exact j_none
  | succ k ih =>
    intro x2 s
    rw [fX12_meetsSeating_L37]
    refine j_iload_n 38 dX12_meetsSeating_37 rfl rfl ?_
    refine j_aload_n 39 dX12_meetsSeating_38 rfl rfl ?_
    refine s_getI 42 fa68_12 w_1218 dX12_meetsSeating_39 rfl ?_
    refine j_icmp_ge 63 45 dX12_meetsSeating_42 (by decide) rfl (fun c4 => ?_) (fun c4 => ?_)
    · refine j_aload_n 46 dX12_meetsSeating_45 rfl rfl ?_
      refine s_getR (x := 90) 49 fa68_40 w_1246 dX12_meetsSeating_46 rfl (by decide +kernel) ?_
      refine j_iload_n 50 dX12_meetsSeating_49 rfl rfl ?_
      refine j_aload_n 51 dX12_meetsSeating_50 rfl rfl ?_
      refine s_getR (x := 79) 54 fa68_16 w_1222 dX12_meetsSeating_51 rfl (by decide +kernel) ?_
      refine j_iload_n 55 dX12_meetsSeating_54 rfl rfl ?_
      refine s_iaload 56 aa79 dX12_meetsSeating_55 rfl (fun b5 => ?_)
      refine s_iastore 57 aa90 dX12_meetsSeating_56 rfl (fun b6 => ?_)
      refine j_iinc (v := x2 + 1) (ls' := [some (vR 68), some (vI y1), some (vI (x2 + 1))]) 60 dX12_meetsSeating_57 rfl rfl rfl (by decide) rfl rfl ?_
      refine j_goto 37 dX12_meetsSeating_60 (by decide) ?_
      refine j_sub (ls' := [some (vR 68), some (vI y1), some (vI (x2 + 1))]) (And.intro rfl (And.intro rfl (And.intro rfl trivial))) ?_
      exact ih (x2 + 1) (wI s 90 (ix x2) (s.1 79 (ix x2)))
    · refine j_sub (ls' := [some (vR 68), some (vI y1), none]) (And.intro rfl (And.intro rfl trivial)) ?_
      exact hκ s
theorem tX12_meetsSeating_L83 (Θ : Th) (l : Launch)  (κ : Mem → Option (Unit × Mem))   (hκ : ∀  (s : Mem), Js Θ l mX12_meetsSeating 6 gU 114 [none, none, none] [] s (κ  s)) : ∀ (k : Nat) (x2 : Int32) (s : Mem), Js Θ l mX12_meetsSeating 6 gU 83 [some (vR 68), none, some (vI x2)] [] s (fX12_meetsSeating_L83 κ  k x2 s) := by
  intro k
  induction k with
  | zero => intro x2 s; exact j_none
  | succ k ih =>
    intro x2 s
    rw [fX12_meetsSeating_L83]
    refine j_iload_n 84 dX12_meetsSeating_83 rfl rfl ?_
    refine j_aload_n 85 dX12_meetsSeating_84 rfl rfl ?_
    refine s_getI 88 fa68_12 w_1218 dX12_meetsSeating_85 rfl ?_
    refine j_icmp_ge 114 91 dX12_meetsSeating_88 (by decide) rfl (fun c9 => ?_) (fun c9 => ?_)
    · refine j_aload_n 92 dX12_meetsSeating_91 rfl rfl ?_
      refine s_getR (x := 91) 95 fa68_41 w_1247 dX12_meetsSeating_92 rfl (by decide +kernel) ?_
      refine j_iload_n 96 dX12_meetsSeating_95 rfl rfl ?_
      refine j_dup2 97 dX12_meetsSeating_96 rfl rfl rfl ?_
      refine s_iaload 98 aa91 dX12_meetsSeating_97 rfl (fun b10 => ?_)
      refine j_iconst (v := 1) 99 dX12_meetsSeating_98 rfl (by decide) ?_
      refine j_aload_n 100 dX12_meetsSeating_99 rfl rfl ?_
      refine s_getR (x := 79) 103 fa68_16 w_1222 dX12_meetsSeating_100 rfl (by decide +kernel) ?_
      refine j_iload_n 104 dX12_meetsSeating_103 rfl rfl ?_
      refine s_iaload 105 aa79 dX12_meetsSeating_104 rfl (fun b11 => ?_)
      refine j_ishl 106 dX12_meetsSeating_105 rfl ?_
      refine j_ior 107 dX12_meetsSeating_106 rfl ?_
      refine s_iastore 108 aa91 dX12_meetsSeating_107 rfl (fun b12 => ?_)
      refine j_iinc (v := x2 + 1) (ls' := [some (vR 68), none, some (vI (x2 + 1))]) 111 dX12_meetsSeating_108 rfl rfl rfl (by decide) rfl rfl ?_
      refine j_goto 83 dX12_meetsSeating_111 (by decide) ?_
      refine j_sub (ls' := [some (vR 68), none, some (vI (x2 + 1))]) (And.intro rfl (And.intro rfl trivial)) ?_
      exact ih (x2 + 1) (wI s 91 (ix x2) ((s.1 91 (ix x2)) ||| ((1 : Int32) <<< ((s.1 79 (ix x2)) &&& 31))))
    · refine j_sub (ls' := [none, none, none]) (trivial) ?_
      exact hκ s
theorem tX12_meetsSeating (Θ : Th) (l : Launch)    (s : Mem) : Cs Θ l mX12_meetsSeating 6 gU [vR 68] s (fX12_meetsSeating  s) := by
  refine ct_of (by decide) [some (vR 68), none, none] rfl (Nat.le_of_ble_eq_true rfl) ?_
  unfold fX12_meetsSeating
  refine j_aload_n 1 dX12_meetsSeating_0 rfl rfl ?_
  refine s_callVi (M2 := mX12_worstNow) [] 4 oa68 cc12 mkX12_worstNow w_1648 dX12_meetsSeating_1 rfl rfl (tX12_worstNow Θ l   _) (by first | exact Nat.le_of_ble_eq_true rfl | omega) (Nat.le_of_ble_eq_true rfl) (Nat.le_of_ble_eq_true rfl) (fun r1 s2 => ?_)
  refine j_istore_n (i := 1) (ls' := [some (vR 68), some (vI r1), none]) 5 dX12_meetsSeating_4 rfl rfl (by decide) rfl rfl ?_
  refine j_aload_n 6 dX12_meetsSeating_5 rfl rfl ?_
  refine j_dup 7 dX12_meetsSeating_6 rfl rfl ?_
  refine s_getI 10 fa68_37 w_1243 dX12_meetsSeating_7 rfl ?_
  refine j_iconst (v := 1) 11 dX12_meetsSeating_10 rfl (by decide) ?_
  refine j_iadd 12 dX12_meetsSeating_11 rfl ?_
  refine s_putI 15 fa68_37 w_1243 dX12_meetsSeating_12 rfl ?_
  refine j_aload_n 16 dX12_meetsSeating_15 rfl rfl ?_
  refine s_getI 19 fa68_39 w_1245 dX12_meetsSeating_16 rfl ?_
  refine j_if_lt 30 22 dX12_meetsSeating_19 (by decide) rfl (fun c3 => ?_) (fun c3 => ?_)
  · refine j_aload_n 31 dX12_meetsSeating_30 rfl rfl ?_
    refine j_iload_n 32 dX12_meetsSeating_31 rfl rfl ?_
    refine s_putI 35 fa68_39 w_1245 dX12_meetsSeating_32 rfl ?_
    refine j_iconst (v := 0) 36 dX12_meetsSeating_35 rfl (by decide) ?_
    refine j_istore_n (i := 2) (ls' := [some (vR 68), some (vI r1), some (vI 0)]) 37 dX12_meetsSeating_36 rfl rfl (by decide) rfl rfl ?_
    refine j_sub (ls' := [some (vR 68), some (vI r1), some (vI 0)]) (And.intro rfl (And.intro rfl (And.intro rfl trivial))) ?_
    refine tX12_meetsSeating_L37 Θ l _ _  ?_ _ _ _
    intro s7
    refine j_iload_n 64 dX12_meetsSeating_63 rfl rfl ?_
    refine j_aload_n 65 dX12_meetsSeating_64 rfl rfl ?_
    refine s_getI 68 fa68_17 w_1223 dX12_meetsSeating_65 rfl ?_
    refine j_icmp_gt 114 71 dX12_meetsSeating_68 (by decide) rfl (fun c8 => ?_) (fun c8 => ?_)
    · exact s_ret dX12_meetsSeating_114 rfl
    · refine j_aload_n 72 dX12_meetsSeating_71 rfl rfl ?_
      refine j_dup 73 dX12_meetsSeating_72 rfl rfl ?_
      refine s_getI 76 fa68_38 w_1244 dX12_meetsSeating_73 rfl ?_
      refine j_iconst (v := 1) 77 dX12_meetsSeating_76 rfl (by decide) ?_
      refine j_iadd 78 dX12_meetsSeating_77 rfl ?_
      refine s_putI 81 fa68_38 w_1244 dX12_meetsSeating_78 rfl ?_
      refine j_iconst (v := 0) 82 dX12_meetsSeating_81 rfl (by decide) ?_
      refine j_istore_n (i := 2) (ls' := [some (vR 68), some (vI r1), some (vI 0)]) 83 dX12_meetsSeating_82 rfl rfl (by decide) rfl rfl ?_
      refine j_sub (ls' := [some (vR 68), none, some (vI 0)]) (And.intro rfl (And.intro rfl trivial)) ?_
      refine tX12_meetsSeating_L83 Θ l _   ?_ _ _ _
      intro s13
      exact s_ret dX12_meetsSeating_114 rfl
  · refine j_iload_n 23 dX12_meetsSeating_22 rfl rfl ?_
    refine j_aload_n 24 dX12_meetsSeating_23 rfl rfl ?_
    refine s_getI 27 fa68_39 w_1245 dX12_meetsSeating_24 rfl ?_
    refine j_icmp_ge 63 30 dX12_meetsSeating_27 (by decide) rfl (fun c14 => ?_) (fun c14 => ?_)
    · refine j_aload_n 31 dX12_meetsSeating_30 rfl rfl ?_
      refine j_iload_n 32 dX12_meetsSeating_31 rfl rfl ?_
      refine s_putI 35 fa68_39 w_1245 dX12_meetsSeating_32 rfl ?_
      refine j_iconst (v := 0) 36 dX12_meetsSeating_35 rfl (by decide) ?_
      refine j_istore_n (i := 2) (ls' := [some (vR 68), some (vI r1), some (vI 0)]) 37 dX12_meetsSeating_36 rfl rfl (by decide) rfl rfl ?_
      refine j_sub (ls' := [some (vR 68), some (vI r1), some (vI 0)]) (And.intro rfl (And.intro rfl (And.intro rfl trivial))) ?_
      refine tX12_meetsSeating_L37 Θ l _ _  ?_ _ _ _
      intro s15
      refine j_iload_n 64 dX12_meetsSeating_63 rfl rfl ?_
      refine j_aload_n 65 dX12_meetsSeating_64 rfl rfl ?_
      refine s_getI 68 fa68_17 w_1223 dX12_meetsSeating_65 rfl ?_
      refine j_icmp_gt 114 71 dX12_meetsSeating_68 (by decide) rfl (fun c16 => ?_) (fun c16 => ?_)
      · exact s_ret dX12_meetsSeating_114 rfl
      · refine j_aload_n 72 dX12_meetsSeating_71 rfl rfl ?_
        refine j_dup 73 dX12_meetsSeating_72 rfl rfl ?_
        refine s_getI 76 fa68_38 w_1244 dX12_meetsSeating_73 rfl ?_
        refine j_iconst (v := 1) 77 dX12_meetsSeating_76 rfl (by decide) ?_
        refine j_iadd 78 dX12_meetsSeating_77 rfl ?_
        refine s_putI 81 fa68_38 w_1244 dX12_meetsSeating_78 rfl ?_
        refine j_iconst (v := 0) 82 dX12_meetsSeating_81 rfl (by decide) ?_
        refine j_istore_n (i := 2) (ls' := [some (vR 68), some (vI r1), some (vI 0)]) 83 dX12_meetsSeating_82 rfl rfl (by decide) rfl rfl ?_
        refine j_sub (ls' := [some (vR 68), none, some (vI 0)]) (And.intro rfl (And.intro rfl trivial)) ?_
        refine tX12_meetsSeating_L83 Θ l _   ?_ _ _ _
        intro s17
        exact s_ret dX12_meetsSeating_114 rfl
    · refine j_iload_n 64 dX12_meetsSeating_63 rfl rfl ?_
      refine j_aload_n 65 dX12_meetsSeating_64 rfl rfl ?_
      refine s_getI 68 fa68_17 w_1223 dX12_meetsSeating_65 rfl ?_
      refine j_icmp_gt 114 71 dX12_meetsSeating_68 (by decide) rfl (fun c18 => ?_) (fun c18 => ?_)
      · exact s_ret dX12_meetsSeating_114 rfl
      · refine j_aload_n 72 dX12_meetsSeating_71 rfl rfl ?_
        refine j_dup 73 dX12_meetsSeating_72 rfl rfl ?_
        refine s_getI 76 fa68_38 w_1244 dX12_meetsSeating_73 rfl ?_
        refine j_iconst (v := 1) 77 dX12_meetsSeating_76 rfl (by decide) ?_
        refine j_iadd 78 dX12_meetsSeating_77 rfl ?_
        refine s_putI 81 fa68_38 w_1244 dX12_meetsSeating_78 rfl ?_
        refine j_iconst (v := 0) 82 dX12_meetsSeating_81 rfl (by decide) ?_
        refine j_istore_n (i := 2) (ls' := [some (vR 68), some (vI r1), some (vI 0)]) 83 dX12_meetsSeating_82 rfl rfl (by decide) rfl rfl ?_
        refine j_sub (ls' := [some (vR 68), none, some (vI 0)]) (And.intro rfl (And.intro rfl trivial)) ?_
        refine tX12_meetsSeating_L83 Θ l _   ?_ _ _ _
        intro s19
        exact s_ret dX12_meetsSeating_114 rfl
-- X12_laySeatings
def fX12_laySeatings_L38 (rec : Int32 → Mem → Option (Unit × Mem)) (κ : Mem → Option (Unit × Mem)) (y1 : Int32) : Nat → Int32 → Mem → Option (Unit × Mem)
  | 0, _, _ => none
  | k + 1, x2, s =>
    if x2 < (s.1 68 10) then
      bnd (fX12_sitsOn y1 x2 s) (fun r7 s8 =>
      if r7 = 0 then
        fX12_laySeatings_L38 rec κ y1 k (x2 + 1) s8
      else
        bnd (rec (y1 + 1) s8) (fun r10 s11 =>
        if inb y1 8 = true then
        fX12_laySeatings_L38 rec κ y1 k (x2 + 1) (wI s11 79 (ix y1) (-9))
        else none))
    else
      κ s
def fX12_laySeatings_B (rec : Int32 → Mem → Option (Unit × Mem)) (a1 : Int32) (s : Mem) : Option (Unit × Mem) :=
if a1 = (s.1 68 12) then
  bnd (fX12_meetsSeating s) (fun r2 s3 =>
  some ((), s3))
else
  if inb a1 8 = true then
  if (s.1 79 (ix a1)) = (-9) then
    fX12_laySeatings_L38 rec (fun s13 =>
      some ((), s13)) a1 FU 0 s
  else
    bnd (rec (a1 + 1) s) (fun r14 s15 =>
    some ((), s15))
  else none
theorem tX12_laySeatings_L38 (Θ : Th) (l : Launch) (rec : Int32 → Mem → Option (Unit × Mem)) (κ : Mem → Option (Unit × Mem)) (y1 : Int32)  {hr : Nat} (hr9 : 9 ≤ hr) (hrec : ∀ (a1 : Int32) (s : Mem), Cs Θ l mX12_laySeatings hr gU [vR 68, vI a1] s (rec a1 s)) (hκ : ∀  (s : Mem), Js Θ l mX12_laySeatings (hr + 2) gU 76 [none, none, none] [] s (κ  s)) : ∀ (k : Nat) (x2 : Int32) (s : Mem), Js Θ l mX12_laySeatings (hr + 2) gU 38 [some (vR 68), some (vI y1), some (vI x2)] [] s (fX12_laySeatings_L38 rec κ y1 k x2 s) := by
  intro k
  induction k with
  | zero => intro x2 s; exact j_none
  | succ k ih =>
    intro x2 s
    rw [fX12_laySeatings_L38]
    refine j_iload_n 39 dX12_laySeatings_38 rfl rfl ?_
    refine j_aload_n 40 dX12_laySeatings_39 rfl rfl ?_
    refine s_getI 43 fa68_10 w_1216 dX12_laySeatings_40 rfl ?_
    refine j_icmp_ge 76 46 dX12_laySeatings_43 (by decide) rfl (fun c6 => ?_) (fun c6 => ?_)
    · refine j_aload_n 47 dX12_laySeatings_46 rfl rfl ?_
      refine j_iload_n 48 dX12_laySeatings_47 rfl rfl ?_
      refine j_iload_n 49 dX12_laySeatings_48 rfl rfl ?_
      refine s_callVi (M2 := mX12_sitsOn) [vI y1, vI x2] 52 oa68 cc12 mkX12_sitsOn w_1572 dX12_laySeatings_49 rfl rfl (tX12_sitsOn Θ l _ _  _) (by first | exact Nat.le_of_ble_eq_true rfl | omega) (Nat.le_of_ble_eq_true rfl) (Nat.le_of_ble_eq_true rfl) (fun r7 s8 => ?_)
      refine j_if_eq 70 55 dX12_laySeatings_52 (by decide) rfl (fun c9 => ?_) (fun c9 => ?_)
      · refine j_iinc (v := x2 + 1) (ls' := [some (vR 68), some (vI y1), some (vI (x2 + 1))]) 73 dX12_laySeatings_70 rfl rfl rfl (by decide) rfl rfl ?_
        refine j_goto 38 dX12_laySeatings_73 (by decide) ?_
        refine j_sub (ls' := [some (vR 68), some (vI y1), some (vI (x2 + 1))]) (And.intro rfl (And.intro rfl (And.intro rfl trivial))) ?_
        exact ih (x2 + 1) s8
      · refine j_aload_n 56 dX12_laySeatings_55 rfl rfl ?_
        refine j_iload_n 57 dX12_laySeatings_56 rfl rfl ?_
        refine j_iconst (v := 1) 58 dX12_laySeatings_57 rfl (by decide) ?_
        refine j_iadd 59 dX12_laySeatings_58 rfl ?_
        refine s_callVu (M2 := mX12_laySeatings) [vI (y1 + 1)] 62 oa68 cc12 mkX12_laySeatings w_1664 dX12_laySeatings_59 rfl rfl (hrec _ _) (by omega) (Nat.le_of_ble_eq_true rfl) (Nat.le_of_ble_eq_true rfl) (fun r10 s11 => ?_)
        refine j_aload_n 63 dX12_laySeatings_62 rfl rfl ?_
        refine s_getR (x := 79) 66 fa68_16 w_1222 dX12_laySeatings_63 rfl (by decide +kernel) ?_
        refine j_iload_n 67 dX12_laySeatings_66 rfl rfl ?_
        refine j_bipush (v := (-9)) 69 dX12_laySeatings_67 rfl (by decide) ?_
        refine s_iastore 70 aa79 dX12_laySeatings_69 rfl (fun b12 => ?_)
        refine j_iinc (v := x2 + 1) (ls' := [some (vR 68), some (vI y1), some (vI (x2 + 1))]) 73 dX12_laySeatings_70 rfl rfl rfl (by decide) rfl rfl ?_
        refine j_goto 38 dX12_laySeatings_73 (by decide) ?_
        refine j_sub (ls' := [some (vR 68), some (vI y1), some (vI (x2 + 1))]) (And.intro rfl (And.intro rfl (And.intro rfl trivial))) ?_
        exact ih (x2 + 1) (wI s11 79 (ix y1) (-9))
    · refine j_sub (ls' := [none, none, none]) (trivial) ?_
      exact hκ s
theorem tX12_laySeatings_B (Θ : Th) (l : Launch) (rec : Int32 → Mem → Option (Unit × Mem)) (a1 : Int32)  {hr : Nat} (hr9 : 9 ≤ hr) (hrec : ∀ (a1 : Int32) (s : Mem), Cs Θ l mX12_laySeatings hr gU [vR 68, vI a1] s (rec a1 s)) (s : Mem) : Cs Θ l mX12_laySeatings (hr + 2) gU [vR 68, vI a1] s (fX12_laySeatings_B rec a1 s) := by
  refine ct_of (by decide) [some (vR 68), some (vI a1), none] rfl (Nat.le_of_ble_eq_true rfl) ?_
  unfold fX12_laySeatings_B
  refine j_iload_n 1 dX12_laySeatings_0 rfl rfl ?_
  refine j_aload_n 2 dX12_laySeatings_1 rfl rfl ?_
  refine s_getI 5 fa68_12 w_1218 dX12_laySeatings_2 rfl ?_
  refine j_icmp_ne 15 8 dX12_laySeatings_5 (by decide) rfl (fun c1 => ?_) (fun c1 => ?_)
  · refine j_aload_n 9 dX12_laySeatings_8 rfl rfl ?_
    refine s_callVu (M2 := mX12_meetsSeating) [] 12 oa68 cc12 mkX12_meetsSeating w_1668 dX12_laySeatings_9 rfl rfl (tX12_meetsSeating Θ l   _) (by first | exact Nat.le_of_ble_eq_true rfl | omega) (Nat.le_of_ble_eq_true rfl) (Nat.le_of_ble_eq_true rfl) (fun r2 s3 => ?_)
    refine j_goto 76 dX12_laySeatings_12 (by decide) ?_
    exact s_ret dX12_laySeatings_76 rfl
  · refine j_aload_n 16 dX12_laySeatings_15 rfl rfl ?_
    refine s_getR (x := 79) 19 fa68_16 w_1222 dX12_laySeatings_16 rfl (by decide +kernel) ?_
    refine j_iload_n 20 dX12_laySeatings_19 rfl rfl ?_
    refine s_iaload 21 aa79 dX12_laySeatings_20 rfl (fun b4 => ?_)
    refine j_bipush (v := (-9)) 23 dX12_laySeatings_21 rfl (by decide) ?_
    refine j_icmp_eq 36 26 dX12_laySeatings_23 (by decide) rfl (fun c5 => ?_) (fun c5 => ?_)
    · refine j_iconst (v := 0) 37 dX12_laySeatings_36 rfl (by decide) ?_
      refine j_istore_n (i := 2) (ls' := [some (vR 68), some (vI a1), some (vI 0)]) 38 dX12_laySeatings_37 rfl rfl (by decide) rfl rfl ?_
      refine j_sub (ls' := [some (vR 68), some (vI a1), some (vI 0)]) (And.intro rfl (And.intro rfl (And.intro rfl trivial))) ?_
      refine tX12_laySeatings_L38 Θ l rec _ _  hr9 hrec ?_ _ _ _
      intro s13
      exact s_ret dX12_laySeatings_76 rfl
    · refine j_aload_n 27 dX12_laySeatings_26 rfl rfl ?_
      refine j_iload_n 28 dX12_laySeatings_27 rfl rfl ?_
      refine j_iconst (v := 1) 29 dX12_laySeatings_28 rfl (by decide) ?_
      refine j_iadd 30 dX12_laySeatings_29 rfl ?_
      refine s_callVu (M2 := mX12_laySeatings) [vI (a1 + 1)] 33 oa68 cc12 mkX12_laySeatings w_1664 dX12_laySeatings_30 rfl rfl (hrec _ _) (by omega) (Nat.le_of_ble_eq_true rfl) (Nat.le_of_ble_eq_true rfl) (fun r14 s15 => ?_)
      refine j_goto 76 dX12_laySeatings_33 (by decide) ?_
      exact s_ret dX12_laySeatings_76 rfl
-- X12_laySeatings_rec
def fX12_laySeatings : Nat → Int32 → Mem → Option (Unit × Mem)
  | 0, _, _ => none
  | k + 1, a1, s => fX12_laySeatings_B (fX12_laySeatings k) a1 s
theorem tX12_laySeatings (Θ : Th) (l : Launch) : ∀ (k : Nat) (a1 : Int32) (s : Mem), Cs Θ l mX12_laySeatings (2 * k + 9) gU [vR 68, vI a1] s (fX12_laySeatings k a1 s) := by
  intro k
  induction k with
  | zero => intro a1 s r s' ho; cases ho
  | succ k ih =>
    intro a1 s
    exact tX12_laySeatings_B Θ l (fX12_laySeatings k) a1 (hr := 2 * k + 9) (by omega) ih s
-- X12_needSeatings
def fX12_needSeatings_L49  (κ : Mem → Option (Int32 × Mem))  : Nat → Int32 → Mem → Option (Int32 × Mem)
  | 0, _, _ => none
  | k + 1, x2, s =>
    if x2 < 7 then
      if inb x2 7 = true then
      fX12_needSeatings_L49 κ k (x2 + 1) (wI s 91 (ix x2) 0)
      else none
    else
      κ s
def fX12_needSeatings  (a1 : Int32) (s : Mem) : Option (Int32 × Mem) :=
if a1 = 0 then
  some ((-1), s)
else
  if (s.1 68 10) = 0 then
    some ((-4), s)
  else
    bnd (fX12_seatedMany s) (fun r3 s4 =>
    if 5 < ((s.1 68 12) - r3) then
      some ((-6), s4)
    else
      fX12_needSeatings_L49 (fun s8 =>
        bnd (fX12_laySeatings 9 0 s8) (fun r9 s10 =>
        some (0, s10)))  FU 0 (wI (wI (wI s4 68 37 0) 68 38 0) 68 39 (-1)))
theorem tX12_needSeatings_L49 (Θ : Th) (l : Launch)  (κ : Mem → Option (Int32 × Mem))   (hκ : ∀  (s : Mem), Js Θ l mX12_needSeatings 28 gI 68 [some (vR 68), none, none] [] s (κ  s)) : ∀ (k : Nat) (x2 : Int32) (s : Mem), Js Θ l mX12_needSeatings 28 gI 49 [some (vR 68), none, some (vI x2)] [] s (fX12_needSeatings_L49 κ  k x2 s) := by
  intro k
  induction k with
  | zero => intro x2 s; exact j_none
  | succ k ih =>
    intro x2 s
    rw [fX12_needSeatings_L49]
    refine j_iload_n 50 dX12_needSeatings_49 rfl rfl ?_
    refine j_bipush (v := 7) 52 dX12_needSeatings_50 rfl (by decide) ?_
    refine j_icmp_ge 68 55 dX12_needSeatings_52 (by decide) rfl (fun c6 => ?_) (fun c6 => ?_)
    · refine j_aload_n 56 dX12_needSeatings_55 rfl rfl ?_
      refine s_getR (x := 91) 59 fa68_41 w_1247 dX12_needSeatings_56 rfl (by decide +kernel) ?_
      refine j_iload_n 60 dX12_needSeatings_59 rfl rfl ?_
      refine j_iconst (v := 0) 61 dX12_needSeatings_60 rfl (by decide) ?_
      refine s_iastore 62 aa91 dX12_needSeatings_61 rfl (fun b7 => ?_)
      refine j_iinc (v := x2 + 1) (ls' := [some (vR 68), none, some (vI (x2 + 1))]) 65 dX12_needSeatings_62 rfl rfl rfl (by decide) rfl rfl ?_
      refine j_goto 49 dX12_needSeatings_65 (by decide) ?_
      refine j_sub (ls' := [some (vR 68), none, some (vI (x2 + 1))]) (And.intro rfl (And.intro rfl trivial)) ?_
      exact ih (x2 + 1) (wI s 91 (ix x2) 0)
    · refine j_sub (ls' := [some (vR 68), none, none]) (And.intro rfl trivial) ?_
      exact hκ s
theorem tX12_needSeatings (Θ : Th) (l : Launch)  (a1 : Int32)  (s : Mem) : Cs Θ l mX12_needSeatings 28 gI [vR 68, vI a1] s (fX12_needSeatings a1 s) := by
  refine ct_of (by decide) [some (vR 68), some (vI a1), none] rfl (Nat.le_of_ble_eq_true rfl) ?_
  unfold fX12_needSeatings
  refine j_iload_n 1 dX12_needSeatings_0 rfl rfl ?_
  refine j_if_ne 6 4 dX12_needSeatings_1 (by decide) rfl (fun c1 => ?_) (fun c1 => ?_)
  · refine j_iconst (v := (-1)) 5 dX12_needSeatings_4 rfl (by decide) ?_
    exact s_iret dX12_needSeatings_5 rfl
  · refine j_aload_n 7 dX12_needSeatings_6 rfl rfl ?_
    refine s_getI 10 fa68_10 w_1216 dX12_needSeatings_7 rfl ?_
    refine j_if_ne 16 13 dX12_needSeatings_10 (by decide) rfl (fun c2 => ?_) (fun c2 => ?_)
    · refine j_bipush (v := (-4)) 15 dX12_needSeatings_13 rfl (by decide) ?_
      exact s_iret dX12_needSeatings_15 rfl
    · refine j_aload_n 17 dX12_needSeatings_16 rfl rfl ?_
      refine s_getI 20 fa68_12 w_1218 dX12_needSeatings_17 rfl ?_
      refine j_aload_n 21 dX12_needSeatings_20 rfl rfl ?_
      refine s_callVi (M2 := mX12_seatedMany) [] 24 oa68 cc12 mkX12_seatedMany w_1612 dX12_needSeatings_21 rfl rfl (tX12_seatedMany Θ l   _) (by first | exact Nat.le_of_ble_eq_true rfl | omega) (Nat.le_of_ble_eq_true rfl) (Nat.le_of_ble_eq_true rfl) (fun r3 s4 => ?_)
      refine j_isub 25 dX12_needSeatings_24 rfl ?_
      refine j_iconst (v := 5) 26 dX12_needSeatings_25 rfl (by decide) ?_
      refine j_icmp_le 32 29 dX12_needSeatings_26 (by decide) rfl (fun c5 => ?_) (fun c5 => ?_)
      · refine j_bipush (v := (-6)) 31 dX12_needSeatings_29 rfl (by decide) ?_
        exact s_iret dX12_needSeatings_31 rfl
      · refine j_aload_n 33 dX12_needSeatings_32 rfl rfl ?_
        refine j_iconst (v := 0) 34 dX12_needSeatings_33 rfl (by decide) ?_
        refine s_putI 37 fa68_37 w_1243 dX12_needSeatings_34 rfl ?_
        refine j_aload_n 38 dX12_needSeatings_37 rfl rfl ?_
        refine j_iconst (v := 0) 39 dX12_needSeatings_38 rfl (by decide) ?_
        refine s_putI 42 fa68_38 w_1244 dX12_needSeatings_39 rfl ?_
        refine j_aload_n 43 dX12_needSeatings_42 rfl rfl ?_
        refine j_iconst (v := (-1)) 44 dX12_needSeatings_43 rfl (by decide) ?_
        refine s_putI 47 fa68_39 w_1245 dX12_needSeatings_44 rfl ?_
        refine j_iconst (v := 0) 48 dX12_needSeatings_47 rfl (by decide) ?_
        refine j_istore_n (i := 2) (ls' := [some (vR 68), some (vI a1), some (vI 0)]) 49 dX12_needSeatings_48 rfl rfl (by decide) rfl rfl ?_
        refine j_sub (ls' := [some (vR 68), none, some (vI 0)]) (And.intro rfl (And.intro rfl trivial)) ?_
        refine tX12_needSeatings_L49 Θ l _   ?_ _ _ _
        intro s8
        refine j_aload_n 69 dX12_needSeatings_68 rfl rfl ?_
        refine j_iconst (v := 0) 70 dX12_needSeatings_69 rfl (by decide) ?_
        refine s_callVu (M2 := mX12_laySeatings) [vI 0] 73 oa68 cc12 mkX12_laySeatings w_1664 dX12_needSeatings_70 rfl rfl (tX12_laySeatings Θ l 9 _ _) (by decide) (Nat.le_of_ble_eq_true rfl) (Nat.le_of_ble_eq_true rfl) (fun r9 s10 => ?_)
        refine j_iconst (v := 0) 74 dX12_needSeatings_73 rfl (by decide) ?_
        exact s_iret dX12_needSeatings_74 rfl
-- X12_best
def fX12_best_L37  (κ : Mem → Option (Int32 × Mem)) (y1 : Int32) : Nat → Int32 → Mem → Option (Int32 × Mem)
  | 0, _, _ => none
  | k + 1, x3, s =>
    if x3 < 60 then
      if x3 < (s.1 68 12) then
        if inb x3 7 = true then
        if inb ((60 * y1) + x3) 360 = true then
        fX12_best_L37 κ y1 k (x3 + 1) (wI s 71 (ix ((60 * y1) + x3)) (s.1 90 (ix x3)))
        else none
        else none
      else
        if inb ((60 * y1) + x3) 360 = true then
        fX12_best_L37 κ y1 k (x3 + 1) (wI s 71 (ix ((60 * y1) + x3)) 0)
        else none
    else
      κ s
def fX12_best  (a1 : Int32) (s : Mem) : Option (Int32 × Mem) :=
bnd (fX12_isRow a1 s) (fun r1 s2 =>
bnd (fX12_needSeatings r1 s2) (fun r3 s4 =>
if r3 < 0 then
  some (r3, s4)
else
  if (s4.1 68 37) = 0 then
    some ((-9), s4)
  else
    if inb a1 6 = true then
    fX12_best_L37 (fun s13 =>
      some (s13.1 68 39, s13)) a1 FU 0 (wI s4 70 (ix a1) (s4.1 68 12))
    else none))
theorem tX12_best_L37 (Θ : Th) (l : Launch)  (κ : Mem → Option (Int32 × Mem)) (y1 : Int32)  (hκ : ∀  (s : Mem), Js Θ l mX12_best 29 gI 78 [some (vR 68), none, none, none] [] s (κ  s)) : ∀ (k : Nat) (x3 : Int32) (s : Mem), Js Θ l mX12_best 29 gI 37 [some (vR 68), some (vI y1), none, some (vI x3)] [] s (fX12_best_L37 κ y1 k x3 s) := by
  intro k
  induction k with
  | zero => intro x3 s; exact j_none
  | succ k ih =>
    intro x3 s
    rw [fX12_best_L37]
    refine j_iload_n 38 dX12_best_37 rfl rfl ?_
    refine j_bipush (v := 60) 40 dX12_best_38 rfl (by decide) ?_
    refine j_icmp_ge 78 43 dX12_best_40 (by decide) rfl (fun c8 => ?_) (fun c8 => ?_)
    · refine j_aload_n 44 dX12_best_43 rfl rfl ?_
      refine s_getR (x := 71) 47 fa68_6 w_1212 dX12_best_44 rfl (by decide +kernel) ?_
      refine j_bipush (v := 60) 49 dX12_best_47 rfl (by decide) ?_
      refine j_iload_n 50 dX12_best_49 rfl rfl ?_
      refine j_imul 51 dX12_best_50 rfl ?_
      refine j_iload_n 52 dX12_best_51 rfl rfl ?_
      refine j_iadd 53 dX12_best_52 rfl ?_
      refine j_iload_n 54 dX12_best_53 rfl rfl ?_
      refine j_aload_n 55 dX12_best_54 rfl rfl ?_
      refine s_getI 58 fa68_12 w_1218 dX12_best_55 rfl ?_
      refine j_icmp_ge 70 61 dX12_best_58 (by decide) rfl (fun c9 => ?_) (fun c9 => ?_)
      · refine j_aload_n 62 dX12_best_61 rfl rfl ?_
        refine s_getR (x := 90) 65 fa68_40 w_1246 dX12_best_62 rfl (by decide +kernel) ?_
        refine j_iload_n 66 dX12_best_65 rfl rfl ?_
        refine s_iaload 67 aa90 dX12_best_66 rfl (fun b10 => ?_)
        refine j_goto 71 dX12_best_67 (by decide) ?_
        refine s_iastore 72 aa71 dX12_best_71 rfl (fun b11 => ?_)
        refine j_iinc (v := x3 + 1) (ls' := [some (vR 68), some (vI y1), none, some (vI (x3 + 1))]) 75 dX12_best_72 rfl rfl rfl (by decide) rfl rfl ?_
        refine j_goto 37 dX12_best_75 (by decide) ?_
        refine j_sub (ls' := [some (vR 68), some (vI y1), none, some (vI (x3 + 1))]) (And.intro rfl (And.intro rfl (And.intro rfl trivial))) ?_
        exact ih (x3 + 1) (wI s 71 (ix ((60 * y1) + x3)) (s.1 90 (ix x3)))
      · refine j_iconst (v := 0) 71 dX12_best_70 rfl (by decide) ?_
        refine s_iastore 72 aa71 dX12_best_71 rfl (fun b12 => ?_)
        refine j_iinc (v := x3 + 1) (ls' := [some (vR 68), some (vI y1), none, some (vI (x3 + 1))]) 75 dX12_best_72 rfl rfl rfl (by decide) rfl rfl ?_
        refine j_goto 37 dX12_best_75 (by decide) ?_
        refine j_sub (ls' := [some (vR 68), some (vI y1), none, some (vI (x3 + 1))]) (And.intro rfl (And.intro rfl (And.intro rfl trivial))) ?_
        exact ih (x3 + 1) (wI s 71 (ix ((60 * y1) + x3)) 0)
    · refine j_sub (ls' := [some (vR 68), none, none, none]) (And.intro rfl trivial) ?_
      exact hκ s
theorem tX12_best (Θ : Th) (l : Launch)  (a1 : Int32)  (s : Mem) : Cs Θ l mX12_best 29 gI [vR 68, vI a1] s (fX12_best a1 s) := by
  refine ct_of (by decide) [some (vR 68), some (vI a1), none, none] rfl (Nat.le_of_ble_eq_true rfl) ?_
  unfold fX12_best
  refine j_aload_n 1 dX12_best_0 rfl rfl ?_
  refine j_iload_n 2 dX12_best_1 rfl rfl ?_
  refine s_callSi (M2 := mX12_isRow) [vI a1] 5 mkX12_isRow (Or.inl w_1399) dX12_best_2 rfl rfl (tX12_isRow Θ l _  _) (by first | exact Nat.le_of_ble_eq_true rfl | omega) (Nat.le_of_ble_eq_true rfl) (Nat.le_of_ble_eq_true rfl) (fun r1 s2 => ?_)
  refine s_callVi (M2 := mX12_needSeatings) [vI r1] 8 oa68 cc12 mkX12_needSeatings w_1660 dX12_best_5 rfl rfl (tX12_needSeatings Θ l _  _) (by first | exact Nat.le_of_ble_eq_true rfl | omega) (Nat.le_of_ble_eq_true rfl) (Nat.le_of_ble_eq_true rfl) (fun r3 s4 => ?_)
  refine j_istore_n (i := 2) (ls' := [some (vR 68), some (vI a1), some (vI r3), none]) 9 dX12_best_8 rfl rfl (by decide) rfl rfl ?_
  refine j_iload_n 10 dX12_best_9 rfl rfl ?_
  refine j_if_ge 15 13 dX12_best_10 (by decide) rfl (fun c5 => ?_) (fun c5 => ?_)
  · refine j_iload_n 14 dX12_best_13 rfl rfl ?_
    exact s_iret dX12_best_14 rfl
  · refine j_aload_n 16 dX12_best_15 rfl rfl ?_
    refine s_getI 19 fa68_37 w_1243 dX12_best_16 rfl ?_
    refine j_if_ne 25 22 dX12_best_19 (by decide) rfl (fun c6 => ?_) (fun c6 => ?_)
    · refine j_bipush (v := (-9)) 24 dX12_best_22 rfl (by decide) ?_
      exact s_iret dX12_best_24 rfl
    · refine j_aload_n 26 dX12_best_25 rfl rfl ?_
      refine s_getR (x := 70) 29 fa68_5 w_1211 dX12_best_26 rfl (by decide +kernel) ?_
      refine j_iload_n 30 dX12_best_29 rfl rfl ?_
      refine j_aload_n 31 dX12_best_30 rfl rfl ?_
      refine s_getI 34 fa68_12 w_1218 dX12_best_31 rfl ?_
      refine s_iastore 35 aa70 dX12_best_34 rfl (fun b7 => ?_)
      refine j_iconst (v := 0) 36 dX12_best_35 rfl (by decide) ?_
      refine j_istore_n (i := 3) (ls' := [some (vR 68), some (vI a1), some (vI r3), some (vI 0)]) 37 dX12_best_36 rfl rfl (by decide) rfl rfl ?_
      refine j_sub (ls' := [some (vR 68), some (vI a1), none, some (vI 0)]) (And.intro rfl (And.intro rfl (And.intro rfl trivial))) ?_
      refine tX12_best_L37 Θ l _ _  ?_ _ _ _
      intro s13
      refine j_aload_n 79 dX12_best_78 rfl rfl ?_
      refine s_getI 82 fa68_39 w_1245 dX12_best_79 rfl ?_
      exact s_iret dX12_best_82 rfl
-- X12_ways
def fX12_ways   (s : Mem) : Option (Int32 × Mem) :=
bnd (fX12_needSeatings 1 s) (fun r1 s2 =>
if r1 < 0 then
  some (r1, s2)
else
  if (s2.1 68 37) = 0 then
    bnd (fX12_fraction (s2.1 68 38) 1 (s2.1 68 38) s2) (fun r5 s6 =>
    some (r5, s6))
  else
    bnd (fX12_fraction (s2.1 68 38) (s2.1 68 37) (s2.1 68 38) s2) (fun r7 s8 =>
    some (r7, s8)))
theorem tX12_ways (Θ : Th) (l : Launch)    (s : Mem) : Cs Θ l mX12_ways 29 gI [vR 68] s (fX12_ways  s) := by
  refine ct_of (by decide) [some (vR 68), none] rfl (Nat.le_of_ble_eq_true rfl) ?_
  unfold fX12_ways
  refine j_aload_n 1 dX12_ways_0 rfl rfl ?_
  refine j_iconst (v := 1) 2 dX12_ways_1 rfl (by decide) ?_
  refine s_callVi (M2 := mX12_needSeatings) [vI 1] 5 oa68 cc12 mkX12_needSeatings w_1660 dX12_ways_2 rfl rfl (tX12_needSeatings Θ l _  _) (by first | exact Nat.le_of_ble_eq_true rfl | omega) (Nat.le_of_ble_eq_true rfl) (Nat.le_of_ble_eq_true rfl) (fun r1 s2 => ?_)
  refine j_istore_n (i := 1) (ls' := [some (vR 68), some (vI r1)]) 6 dX12_ways_5 rfl rfl (by decide) rfl rfl ?_
  refine j_iload_n 7 dX12_ways_6 rfl rfl ?_
  refine j_if_ge 12 10 dX12_ways_7 (by decide) rfl (fun c3 => ?_) (fun c3 => ?_)
  · refine j_iload_n 11 dX12_ways_10 rfl rfl ?_
    exact s_iret dX12_ways_11 rfl
  · refine j_aload_n 13 dX12_ways_12 rfl rfl ?_
    refine j_aload_n 14 dX12_ways_13 rfl rfl ?_
    refine s_getI 17 fa68_38 w_1244 dX12_ways_14 rfl ?_
    refine j_aload_n 18 dX12_ways_17 rfl rfl ?_
    refine s_getI 21 fa68_37 w_1243 dX12_ways_18 rfl ?_
    refine j_if_ne 28 24 dX12_ways_21 (by decide) rfl (fun c4 => ?_) (fun c4 => ?_)
    · refine j_iconst (v := 1) 25 dX12_ways_24 rfl (by decide) ?_
      refine j_goto 32 dX12_ways_25 (by decide) ?_
      refine j_aload_n 33 dX12_ways_32 rfl rfl ?_
      refine s_getI 36 fa68_38 w_1244 dX12_ways_33 rfl ?_
      refine s_callVi (M2 := mX12_fraction) [vI (s2.1 68 38), vI 1, vI (s2.1 68 38)] 39 oa68 cc12 mkX12_fraction w_1640 dX12_ways_36 rfl rfl (tX12_fraction Θ l _ _ _  _) (by first | exact Nat.le_of_ble_eq_true rfl | omega) (Nat.le_of_ble_eq_true rfl) (Nat.le_of_ble_eq_true rfl) (fun r5 s6 => ?_)
      exact s_iret dX12_ways_39 rfl
    · refine j_aload_n 29 dX12_ways_28 rfl rfl ?_
      refine s_getI 32 fa68_37 w_1243 dX12_ways_29 rfl ?_
      refine j_aload_n 33 dX12_ways_32 rfl rfl ?_
      refine s_getI 36 fa68_38 w_1244 dX12_ways_33 rfl ?_
      refine s_callVi (M2 := mX12_fraction) [vI (s2.1 68 38), vI (s2.1 68 37), vI (s2.1 68 38)] 39 oa68 cc12 mkX12_fraction w_1640 dX12_ways_36 rfl rfl (tX12_fraction Θ l _ _ _  _) (by first | exact Nat.le_of_ble_eq_true rfl | omega) (Nat.le_of_ble_eq_true rfl) (Nat.le_of_ble_eq_true rfl) (fun r7 s8 => ?_)
      exact s_iret dX12_ways_39 rfl
-- X12_sure
def fX12_sure_L16  (κ : Int32 → Mem → Option (Int32 × Mem))  : Nat → Int32 → Int32 → Mem → Option (Int32 × Mem)
  | 0, _, _, _ => none
  | k + 1, x2, x3, s =>
    if x3 < (s.1 68 12) then
      if inb x3 8 = true then
      if (s.1 79 (ix x3)) = (-9) then
        if inb x3 7 = true then
        bnd (fX12_bits (s.1 91 (ix x3)) s) (fun r8 s9 =>
        if r8 = 1 then
          nm (x2 ||| ((1 : Int32) <<< (x3 &&& 31))) (fun v11 =>
          fX12_sure_L16 κ k v11 (x3 + 1) s9)
        else
          nm (x2 ||| 0) (fun v12 =>
          fX12_sure_L16 κ k v12 (x3 + 1) s9))
        else none
      else
        nm (x2 ||| 0) (fun v13 =>
        fX12_sure_L16 κ k v13 (x3 + 1) s)
      else none
    else
      κ x2 s
def fX12_sure   (s : Mem) : Option (Int32 × Mem) :=
bnd (fX12_needSeatings 1 s) (fun r1 s2 =>
if r1 < 0 then
  some (r1, s2)
else
  fX12_sure_L16 (fun v14 s15 =>
    some (v14, s15))  FU 0 0 s2)
theorem tX12_sure_L16 (Θ : Th) (l : Launch)  (κ : Int32 → Mem → Option (Int32 × Mem))   (hκ : ∀ (x2 : Int32) (s : Mem), Js Θ l mX12_sure 29 gI 64 [none, none, some (vI x2), none] [] s (κ x2 s)) : ∀ (k : Nat) (x2 : Int32) (x3 : Int32) (s : Mem), Js Θ l mX12_sure 29 gI 16 [some (vR 68), none, some (vI x2), some (vI x3)] [] s (fX12_sure_L16 κ  k x2 x3 s) := by
  intro k
  induction k with
  | zero => intro x2 x3 s; exact j_none
  | succ k ih =>
    intro x2 x3 s
    rw [fX12_sure_L16]
    refine j_iload_n 17 dX12_sure_16 rfl rfl ?_
    refine j_aload_n 18 dX12_sure_17 rfl rfl ?_
    refine s_getI 21 fa68_12 w_1218 dX12_sure_18 rfl ?_
    refine j_icmp_ge 64 24 dX12_sure_21 (by decide) rfl (fun c4 => ?_) (fun c4 => ?_)
    · refine j_iload_n 25 dX12_sure_24 rfl rfl ?_
      refine j_aload_n 26 dX12_sure_25 rfl rfl ?_
      refine s_getR (x := 79) 29 fa68_16 w_1222 dX12_sure_26 rfl (by decide +kernel) ?_
      refine j_iload_n 30 dX12_sure_29 rfl rfl ?_
      refine s_iaload 31 aa79 dX12_sure_30 rfl (fun b5 => ?_)
      refine j_bipush (v := (-9)) 33 dX12_sure_31 rfl (by decide) ?_
      refine j_icmp_ne 55 36 dX12_sure_33 (by decide) rfl (fun c6 => ?_) (fun c6 => ?_)
      · refine j_aload_n 37 dX12_sure_36 rfl rfl ?_
        refine s_getR (x := 91) 40 fa68_41 w_1247 dX12_sure_37 rfl (by decide +kernel) ?_
        refine j_iload_n 41 dX12_sure_40 rfl rfl ?_
        refine s_iaload 42 aa91 dX12_sure_41 rfl (fun b7 => ?_)
        refine s_callSi (M2 := mX12_bits) [vI (s.1 91 (ix x3))] 45 mkX12_bits (Or.inl w_1545) dX12_sure_42 rfl rfl (tX12_bits Θ l _  _) (by first | exact Nat.le_of_ble_eq_true rfl | omega) (Nat.le_of_ble_eq_true rfl) (Nat.le_of_ble_eq_true rfl) (fun r8 s9 => ?_)
        refine j_iconst (v := 1) 46 dX12_sure_45 rfl (by decide) ?_
        refine j_icmp_ne 55 49 dX12_sure_46 (by decide) rfl (fun c10 => ?_) (fun c10 => ?_)
        · refine j_iconst (v := 1) 50 dX12_sure_49 rfl (by decide) ?_
          refine j_iload_n 51 dX12_sure_50 rfl rfl ?_
          refine j_ishl 52 dX12_sure_51 rfl ?_
          refine j_goto 56 dX12_sure_52 (by decide) ?_
          refine j_ior 57 dX12_sure_56 rfl ?_
          refine s_nmI (fun v11 => ?_)
          refine j_istore_n (i := 2) (ls' := [some (vR 68), none, some (vI v11), some (vI x3)]) 58 dX12_sure_57 rfl rfl (by decide) rfl rfl ?_
          refine j_iinc (v := x3 + 1) (ls' := [some (vR 68), none, some (vI v11), some (vI (x3 + 1))]) 61 dX12_sure_58 rfl rfl rfl (by decide) rfl rfl ?_
          refine j_goto 16 dX12_sure_61 (by decide) ?_
          refine j_sub (ls' := [some (vR 68), none, some (vI v11), some (vI (x3 + 1))]) (And.intro rfl (And.intro rfl (And.intro rfl trivial))) ?_
          exact ih v11 (x3 + 1) s9
        · refine j_iconst (v := 0) 56 dX12_sure_55 rfl (by decide) ?_
          refine j_ior 57 dX12_sure_56 rfl ?_
          refine s_nmI (fun v12 => ?_)
          refine j_istore_n (i := 2) (ls' := [some (vR 68), none, some (vI v12), some (vI x3)]) 58 dX12_sure_57 rfl rfl (by decide) rfl rfl ?_
          refine j_iinc (v := x3 + 1) (ls' := [some (vR 68), none, some (vI v12), some (vI (x3 + 1))]) 61 dX12_sure_58 rfl rfl rfl (by decide) rfl rfl ?_
          refine j_goto 16 dX12_sure_61 (by decide) ?_
          refine j_sub (ls' := [some (vR 68), none, some (vI v12), some (vI (x3 + 1))]) (And.intro rfl (And.intro rfl (And.intro rfl trivial))) ?_
          exact ih v12 (x3 + 1) s9
      · refine j_iconst (v := 0) 56 dX12_sure_55 rfl (by decide) ?_
        refine j_ior 57 dX12_sure_56 rfl ?_
        refine s_nmI (fun v13 => ?_)
        refine j_istore_n (i := 2) (ls' := [some (vR 68), none, some (vI v13), some (vI x3)]) 58 dX12_sure_57 rfl rfl (by decide) rfl rfl ?_
        refine j_iinc (v := x3 + 1) (ls' := [some (vR 68), none, some (vI v13), some (vI (x3 + 1))]) 61 dX12_sure_58 rfl rfl rfl (by decide) rfl rfl ?_
        refine j_goto 16 dX12_sure_61 (by decide) ?_
        refine j_sub (ls' := [some (vR 68), none, some (vI v13), some (vI (x3 + 1))]) (And.intro rfl (And.intro rfl (And.intro rfl trivial))) ?_
        exact ih v13 (x3 + 1) s
    · refine j_sub (ls' := [none, none, some (vI x2), none]) (And.intro rfl trivial) ?_
      exact hκ x2 s
theorem tX12_sure (Θ : Th) (l : Launch)    (s : Mem) : Cs Θ l mX12_sure 29 gI [vR 68] s (fX12_sure  s) := by
  refine ct_of (by decide) [some (vR 68), none, none, none] rfl (Nat.le_of_ble_eq_true rfl) ?_
  unfold fX12_sure
  refine j_aload_n 1 dX12_sure_0 rfl rfl ?_
  refine j_iconst (v := 1) 2 dX12_sure_1 rfl (by decide) ?_
  refine s_callVi (M2 := mX12_needSeatings) [vI 1] 5 oa68 cc12 mkX12_needSeatings w_1660 dX12_sure_2 rfl rfl (tX12_needSeatings Θ l _  _) (by first | exact Nat.le_of_ble_eq_true rfl | omega) (Nat.le_of_ble_eq_true rfl) (Nat.le_of_ble_eq_true rfl) (fun r1 s2 => ?_)
  refine j_istore_n (i := 1) (ls' := [some (vR 68), some (vI r1), none, none]) 6 dX12_sure_5 rfl rfl (by decide) rfl rfl ?_
  refine j_iload_n 7 dX12_sure_6 rfl rfl ?_
  refine j_if_ge 12 10 dX12_sure_7 (by decide) rfl (fun c3 => ?_) (fun c3 => ?_)
  · refine j_iload_n 11 dX12_sure_10 rfl rfl ?_
    exact s_iret dX12_sure_11 rfl
  · refine j_iconst (v := 0) 13 dX12_sure_12 rfl (by decide) ?_
    refine j_istore_n (i := 2) (ls' := [some (vR 68), some (vI r1), some (vI 0), none]) 14 dX12_sure_13 rfl rfl (by decide) rfl rfl ?_
    refine j_iconst (v := 0) 15 dX12_sure_14 rfl (by decide) ?_
    refine j_istore_n (i := 3) (ls' := [some (vR 68), some (vI r1), some (vI 0), some (vI 0)]) 16 dX12_sure_15 rfl rfl (by decide) rfl rfl ?_
    refine j_sub (ls' := [some (vR 68), none, some (vI 0), some (vI 0)]) (And.intro rfl (And.intro rfl (And.intro rfl trivial))) ?_
    refine tX12_sure_L16 Θ l _   ?_ _ _ _ _
    intro v14 s15
    refine j_iload_n 65 dX12_sure_64 rfl rfl ?_
    exact s_iret dX12_sure_65 rfl
-- X12_where
def fX12_where  (a1 : Int32) (s : Mem) : Option (Int32 × Mem) :=
bnd (fX12_isGuest a1 s) (fun r1 s2 =>
if r1 = 0 then
  some ((-1), s2)
else
  if inb a1 8 = true then
  if (s2.1 79 (ix a1)) = (-9) then
    bnd (fX12_needSeatings 1 s2) (fun r6 s7 =>
    if r6 < 0 then
      some (r6, s7)
    else
      if inb a1 7 = true then
      if inb a1 7 = true then
      bnd (fX12_bits (s7.1 91 (ix a1)) s7) (fun r11 s12 =>
      bnd (fX12_tells (s7.1 91 (ix a1)) r11 s12) (fun r13 s14 =>
      some (r13, s14)))
      else none
      else none)
  else
    some ((-4), s2)
  else none)
theorem tX12_where (Θ : Th) (l : Launch)  (a1 : Int32)  (s : Mem) : Cs Θ l mX12_where 29 gI [vR 68, vI a1] s (fX12_where a1 s) := by
  refine ct_of (by decide) [some (vR 68), some (vI a1), none] rfl (Nat.le_of_ble_eq_true rfl) ?_
  unfold fX12_where
  refine j_aload_n 1 dX12_where_0 rfl rfl ?_
  refine j_iload_n 2 dX12_where_1 rfl rfl ?_
  refine s_callVi (M2 := mX12_isGuest) [vI a1] 5 oa68 cc12 mkX12_isGuest w_1519 dX12_where_2 rfl rfl (tX12_isGuest Θ l _  _) (by first | exact Nat.le_of_ble_eq_true rfl | omega) (Nat.le_of_ble_eq_true rfl) (Nat.le_of_ble_eq_true rfl) (fun r1 s2 => ?_)
  refine j_if_ne 10 8 dX12_where_5 (by decide) rfl (fun c3 => ?_) (fun c3 => ?_)
  · refine j_iconst (v := (-1)) 9 dX12_where_8 rfl (by decide) ?_
    exact s_iret dX12_where_9 rfl
  · refine j_aload_n 11 dX12_where_10 rfl rfl ?_
    refine s_getR (x := 79) 14 fa68_16 w_1222 dX12_where_11 rfl (by decide +kernel) ?_
    refine j_iload_n 15 dX12_where_14 rfl rfl ?_
    refine s_iaload 16 aa79 dX12_where_15 rfl (fun b4 => ?_)
    refine j_bipush (v := (-9)) 18 dX12_where_16 rfl (by decide) ?_
    refine j_icmp_eq 24 21 dX12_where_18 (by decide) rfl (fun c5 => ?_) (fun c5 => ?_)
    · refine j_aload_n 25 dX12_where_24 rfl rfl ?_
      refine j_iconst (v := 1) 26 dX12_where_25 rfl (by decide) ?_
      refine s_callVi (M2 := mX12_needSeatings) [vI 1] 29 oa68 cc12 mkX12_needSeatings w_1660 dX12_where_26 rfl rfl (tX12_needSeatings Θ l _  _) (by first | exact Nat.le_of_ble_eq_true rfl | omega) (Nat.le_of_ble_eq_true rfl) (Nat.le_of_ble_eq_true rfl) (fun r6 s7 => ?_)
      refine j_istore_n (i := 2) (ls' := [some (vR 68), some (vI a1), some (vI r6)]) 30 dX12_where_29 rfl rfl (by decide) rfl rfl ?_
      refine j_iload_n 31 dX12_where_30 rfl rfl ?_
      refine j_if_ge 38 34 dX12_where_31 (by decide) rfl (fun c8 => ?_) (fun c8 => ?_)
      · refine j_iload_n 35 dX12_where_34 rfl rfl ?_
        refine j_goto 57 dX12_where_35 (by decide) ?_
        exact s_iret dX12_where_57 rfl
      · refine j_aload_n 39 dX12_where_38 rfl rfl ?_
        refine j_aload_n 40 dX12_where_39 rfl rfl ?_
        refine s_getR (x := 91) 43 fa68_41 w_1247 dX12_where_40 rfl (by decide +kernel) ?_
        refine j_iload_n 44 dX12_where_43 rfl rfl ?_
        refine s_iaload 45 aa91 dX12_where_44 rfl (fun b9 => ?_)
        refine j_aload_n 46 dX12_where_45 rfl rfl ?_
        refine s_getR (x := 91) 49 fa68_41 w_1247 dX12_where_46 rfl (by decide +kernel) ?_
        refine j_iload_n 50 dX12_where_49 rfl rfl ?_
        refine s_iaload 51 aa91 dX12_where_50 rfl (fun b10 => ?_)
        refine s_callSi (M2 := mX12_bits) [vI (s7.1 91 (ix a1))] 54 mkX12_bits (Or.inl w_1545) dX12_where_51 rfl rfl (tX12_bits Θ l _  _) (by first | exact Nat.le_of_ble_eq_true rfl | omega) (Nat.le_of_ble_eq_true rfl) (Nat.le_of_ble_eq_true rfl) (fun r11 s12 => ?_)
        refine s_callVi (M2 := mX12_tells) [vI (s7.1 91 (ix a1)), vI r11] 57 oa68 cc12 mkX12_tells w_1414 dX12_where_54 rfl rfl (tX12_tells Θ l _ _  _) (by first | exact Nat.le_of_ble_eq_true rfl | omega) (Nat.le_of_ble_eq_true rfl) (Nat.le_of_ble_eq_true rfl) (fun r13 s14 => ?_)
        exact s_iret dX12_where_57 rfl
    · refine j_bipush (v := (-4)) 23 dX12_where_21 rfl (by decide) ?_
      exact s_iret dX12_where_23 rfl
-- X12_aisle
def fX12_aisle_L31  (κ : Int32 → Int32 → Mem → Option (Int32 × Mem)) (y3 : Int32) : Nat → Int32 → Int32 → Int32 → Mem → Option (Int32 × Mem)
  | 0, _, _, _, _ => none
  | k + 1, x1, x2, x4, s =>
    if x4 < (s.1 68 12) then
      bnd (fX12_canChange y3 x4 s) (fun r8 s9 =>
      if r8 = 0 then
        fX12_aisle_L31 κ y3 k x1 x2 (x4 + 1) s9
      else
        bnd (fX12_swap y3 x4 s9) (fun r11 s12 =>
        bnd (fX12_listOf 0 (s12.1 68 18) s12) (fun r13 s14 =>
        bnd (fX12_sizeOf r13 s14) (fun r15 s16 =>
        bnd (fX12_swap y3 x4 s16) (fun r17 s18 =>
        if r15 < x2 then
          nm ((10 * y3) + x4) (fun v20 =>
          if r15 < x2 then
            fX12_aisle_L31 κ y3 k v20 r15 (x4 + 1) s18
          else
            fX12_aisle_L31 κ y3 k v20 x2 (x4 + 1) s18)
        else
          if r15 < x2 then
            fX12_aisle_L31 κ y3 k x1 r15 (x4 + 1) s18
          else
            fX12_aisle_L31 κ y3 k x1 x2 (x4 + 1) s18)))))
    else
      κ x1 x2 s
def fX12_aisle_L18  (κ : Int32 → Int32 → Mem → Option (Int32 × Mem))  : Nat → Int32 → Int32 → Int32 → Mem → Option (Int32 × Mem)
  | 0, _, _, _, _ => none
  | k + 1, x1, x2, x3, s =>
    if x3 < (s.1 68 12) then
      nm (x3 + 1) (fun v6 =>
      fX12_aisle_L31 (fun v23 v24 s25 =>
        fX12_aisle_L18 κ k v23 v24 (x3 + 1) s25) x3 FU x1 x2 v6 s)
    else
      κ x1 x2 s
def fX12_aisle   (s : Mem) : Option (Int32 × Mem) :=
bnd (fX12_listOf 0 (s.1 68 18) s) (fun r1 s2 =>
bnd (fX12_sizeOf r1 s2) (fun r3 s4 =>
fX12_aisle_L18 (fun v26 v27 s28 =>
  if v26 = (-9) then
    some ((-9), s28)
  else
    bnd (fX12_tells v27 v26 s28) (fun r30 s31 =>
    some (r30, s31)))  FU (-9) r3 0 s4))
theorem tX12_aisle_L31 (Θ : Th) (l : Launch)  (κ : Int32 → Int32 → Mem → Option (Int32 × Mem)) (y3 : Int32)  (hκ : ∀ (x1 : Int32) (x2 : Int32) (s : Mem), Js Θ l mX12_aisle 5 gI 115 [some (vR 68), some (vI x1), some (vI x2), some (vI y3), none, none] [] s (κ x1 x2 s)) : ∀ (k : Nat) (x1 : Int32) (x2 : Int32) (x4 : Int32) (s : Mem), Js Θ l mX12_aisle 5 gI 31 [some (vR 68), some (vI x1), some (vI x2), some (vI y3), some (vI x4), none] [] s (fX12_aisle_L31 κ y3 k x1 x2 x4 s) := by
  intro k
  induction k with
  | zero => intro x1 x2 x4 s; exact j_none
  | succ k ih =>
    intro x1 x2 x4 s
    rw [fX12_aisle_L31]
    refine j_iload 33 dX12_aisle_31 rfl rfl ?_
    refine j_aload_n 34 dX12_aisle_33 rfl rfl ?_
    refine s_getI 37 fa68_12 w_1218 dX12_aisle_34 rfl ?_
    refine j_icmp_ge 115 40 dX12_aisle_37 (by decide) rfl (fun c7 => ?_) (fun c7 => ?_)
    · refine j_aload_n 41 dX12_aisle_40 rfl rfl ?_
      refine j_iload_n 42 dX12_aisle_41 rfl rfl ?_
      refine j_iload 44 dX12_aisle_42 rfl rfl ?_
      refine s_callVi (M2 := mX12_canChange) [vI y3, vI x4] 47 oa68 cc12 mkX12_canChange w_1596 dX12_aisle_44 rfl rfl (tX12_canChange Θ l _ _  _) (by first | exact Nat.le_of_ble_eq_true rfl | omega) (Nat.le_of_ble_eq_true rfl) (Nat.le_of_ble_eq_true rfl) (fun r8 s9 => ?_)
      refine j_if_eq 109 50 dX12_aisle_47 (by decide) rfl (fun c10 => ?_) (fun c10 => ?_)
      · refine j_iinc (v := x4 + 1) (ls' := [some (vR 68), some (vI x1), some (vI x2), some (vI y3), some (vI (x4 + 1)), none]) 112 dX12_aisle_109 rfl rfl rfl (by decide) rfl rfl ?_
        refine j_goto 31 dX12_aisle_112 (by decide) ?_
        refine j_sub (ls' := [some (vR 68), some (vI x1), some (vI x2), some (vI y3), some (vI (x4 + 1)), none]) (And.intro rfl (And.intro rfl (And.intro rfl (And.intro rfl (And.intro rfl trivial))))) ?_
        exact ih x1 x2 (x4 + 1) s9
      · refine j_aload_n 51 dX12_aisle_50 rfl rfl ?_
        refine j_iload_n 52 dX12_aisle_51 rfl rfl ?_
        refine j_iload 54 dX12_aisle_52 rfl rfl ?_
        refine s_callVu (M2 := mX12_swap) [vI y3, vI x4] 57 oa68 cc12 mkX12_swap w_1600 dX12_aisle_54 rfl rfl (tX12_swap Θ l _ _  _) (by first | exact Nat.le_of_ble_eq_true rfl | omega) (Nat.le_of_ble_eq_true rfl) (Nat.le_of_ble_eq_true rfl) (fun r11 s12 => ?_)
        refine j_aload_n 58 dX12_aisle_57 rfl rfl ?_
        refine j_iconst (v := 0) 59 dX12_aisle_58 rfl (by decide) ?_
        refine j_aload_n 60 dX12_aisle_59 rfl rfl ?_
        refine s_getI 63 fa68_18 w_1224 dX12_aisle_60 rfl ?_
        refine s_callVi (M2 := mX12_listOf) [vI 0, vI (s12.1 68 18)] 66 oa68 cc12 mkX12_listOf w_1624 dX12_aisle_63 rfl rfl (tX12_listOf Θ l _ _  _) (by first | exact Nat.le_of_ble_eq_true rfl | omega) (Nat.le_of_ble_eq_true rfl) (Nat.le_of_ble_eq_true rfl) (fun r13 s14 => ?_)
        refine s_callSi (M2 := mX12_sizeOf) [vI r13] 69 mkX12_sizeOf (Or.inl w_1539) dX12_aisle_66 rfl rfl (tX12_sizeOf Θ l _  _) (by first | exact Nat.le_of_ble_eq_true rfl | omega) (Nat.le_of_ble_eq_true rfl) (Nat.le_of_ble_eq_true rfl) (fun r15 s16 => ?_)
        refine j_istore (i := 5) (ls' := [some (vR 68), some (vI x1), some (vI x2), some (vI y3), some (vI x4), some (vI r15)]) 71 dX12_aisle_69 rfl (by decide) rfl rfl ?_
        refine j_aload_n 72 dX12_aisle_71 rfl rfl ?_
        refine j_iload_n 73 dX12_aisle_72 rfl rfl ?_
        refine j_iload 75 dX12_aisle_73 rfl rfl ?_
        refine s_callVu (M2 := mX12_swap) [vI y3, vI x4] 78 oa68 cc12 mkX12_swap w_1600 dX12_aisle_75 rfl rfl (tX12_swap Θ l _ _  _) (by first | exact Nat.le_of_ble_eq_true rfl | omega) (Nat.le_of_ble_eq_true rfl) (Nat.le_of_ble_eq_true rfl) (fun r17 s18 => ?_)
        refine j_iload 80 dX12_aisle_78 rfl rfl ?_
        refine j_iload_n 81 dX12_aisle_80 rfl rfl ?_
        refine j_icmp_ge 94 84 dX12_aisle_81 (by decide) rfl (fun c19 => ?_) (fun c19 => ?_)
        · refine j_bipush (v := 10) 86 dX12_aisle_84 rfl (by decide) ?_
          refine j_iload_n 87 dX12_aisle_86 rfl rfl ?_
          refine j_imul 88 dX12_aisle_87 rfl ?_
          refine j_iload 90 dX12_aisle_88 rfl rfl ?_
          refine j_iadd 91 dX12_aisle_90 rfl ?_
          refine j_goto 95 dX12_aisle_91 (by decide) ?_
          refine s_nmI (fun v20 => ?_)
          refine j_istore_n (i := 1) (ls' := [some (vR 68), some (vI v20), some (vI x2), some (vI y3), some (vI x4), some (vI r15)]) 96 dX12_aisle_95 rfl rfl (by decide) rfl rfl ?_
          refine j_iload 98 dX12_aisle_96 rfl rfl ?_
          refine j_iload_n 99 dX12_aisle_98 rfl rfl ?_
          refine j_icmp_ge 107 102 dX12_aisle_99 (by decide) rfl (fun c21 => ?_) (fun c21 => ?_)
          · refine j_iload 104 dX12_aisle_102 rfl rfl ?_
            refine j_goto 108 dX12_aisle_104 (by decide) ?_
            refine j_istore_n (i := 2) (ls' := [some (vR 68), some (vI v20), some (vI r15), some (vI y3), some (vI x4), some (vI r15)]) 109 dX12_aisle_108 rfl rfl (by decide) rfl rfl ?_
            refine j_iinc (v := x4 + 1) (ls' := [some (vR 68), some (vI v20), some (vI r15), some (vI y3), some (vI (x4 + 1)), some (vI r15)]) 112 dX12_aisle_109 rfl rfl rfl (by decide) rfl rfl ?_
            refine j_goto 31 dX12_aisle_112 (by decide) ?_
            refine j_sub (ls' := [some (vR 68), some (vI v20), some (vI r15), some (vI y3), some (vI (x4 + 1)), none]) (And.intro rfl (And.intro rfl (And.intro rfl (And.intro rfl (And.intro rfl trivial))))) ?_
            exact ih v20 r15 (x4 + 1) s18
          · refine j_iload_n 108 dX12_aisle_107 rfl rfl ?_
            refine j_istore_n (i := 2) (ls' := [some (vR 68), some (vI v20), some (vI x2), some (vI y3), some (vI x4), some (vI r15)]) 109 dX12_aisle_108 rfl rfl (by decide) rfl rfl ?_
            refine j_iinc (v := x4 + 1) (ls' := [some (vR 68), some (vI v20), some (vI x2), some (vI y3), some (vI (x4 + 1)), some (vI r15)]) 112 dX12_aisle_109 rfl rfl rfl (by decide) rfl rfl ?_
            refine j_goto 31 dX12_aisle_112 (by decide) ?_
            refine j_sub (ls' := [some (vR 68), some (vI v20), some (vI x2), some (vI y3), some (vI (x4 + 1)), none]) (And.intro rfl (And.intro rfl (And.intro rfl (And.intro rfl (And.intro rfl trivial))))) ?_
            exact ih v20 x2 (x4 + 1) s18
        · refine j_iload_n 95 dX12_aisle_94 rfl rfl ?_
          refine j_istore_n (i := 1) (ls' := [some (vR 68), some (vI x1), some (vI x2), some (vI y3), some (vI x4), some (vI r15)]) 96 dX12_aisle_95 rfl rfl (by decide) rfl rfl ?_
          refine j_iload 98 dX12_aisle_96 rfl rfl ?_
          refine j_iload_n 99 dX12_aisle_98 rfl rfl ?_
          refine j_icmp_ge 107 102 dX12_aisle_99 (by decide) rfl (fun c22 => ?_) (fun c22 => ?_)
          · refine j_iload 104 dX12_aisle_102 rfl rfl ?_
            refine j_goto 108 dX12_aisle_104 (by decide) ?_
            refine j_istore_n (i := 2) (ls' := [some (vR 68), some (vI x1), some (vI r15), some (vI y3), some (vI x4), some (vI r15)]) 109 dX12_aisle_108 rfl rfl (by decide) rfl rfl ?_
            refine j_iinc (v := x4 + 1) (ls' := [some (vR 68), some (vI x1), some (vI r15), some (vI y3), some (vI (x4 + 1)), some (vI r15)]) 112 dX12_aisle_109 rfl rfl rfl (by decide) rfl rfl ?_
            refine j_goto 31 dX12_aisle_112 (by decide) ?_
            refine j_sub (ls' := [some (vR 68), some (vI x1), some (vI r15), some (vI y3), some (vI (x4 + 1)), none]) (And.intro rfl (And.intro rfl (And.intro rfl (And.intro rfl (And.intro rfl trivial))))) ?_
            exact ih x1 r15 (x4 + 1) s18
          · refine j_iload_n 108 dX12_aisle_107 rfl rfl ?_
            refine j_istore_n (i := 2) (ls' := [some (vR 68), some (vI x1), some (vI x2), some (vI y3), some (vI x4), some (vI r15)]) 109 dX12_aisle_108 rfl rfl (by decide) rfl rfl ?_
            refine j_iinc (v := x4 + 1) (ls' := [some (vR 68), some (vI x1), some (vI x2), some (vI y3), some (vI (x4 + 1)), some (vI r15)]) 112 dX12_aisle_109 rfl rfl rfl (by decide) rfl rfl ?_
            refine j_goto 31 dX12_aisle_112 (by decide) ?_
            refine j_sub (ls' := [some (vR 68), some (vI x1), some (vI x2), some (vI y3), some (vI (x4 + 1)), none]) (And.intro rfl (And.intro rfl (And.intro rfl (And.intro rfl (And.intro rfl trivial))))) ?_
            exact ih x1 x2 (x4 + 1) s18
    · refine j_sub (ls' := [some (vR 68), some (vI x1), some (vI x2), some (vI y3), none, none]) (And.intro rfl (And.intro rfl (And.intro rfl (And.intro rfl trivial)))) ?_
      exact hκ x1 x2 s
theorem tX12_aisle_L18 (Θ : Th) (l : Launch)  (κ : Int32 → Int32 → Mem → Option (Int32 × Mem))   (hκ : ∀ (x1 : Int32) (x2 : Int32) (s : Mem), Js Θ l mX12_aisle 5 gI 121 [some (vR 68), some (vI x1), some (vI x2), none, none, none] [] s (κ x1 x2 s)) : ∀ (k : Nat) (x1 : Int32) (x2 : Int32) (x3 : Int32) (s : Mem), Js Θ l mX12_aisle 5 gI 18 [some (vR 68), some (vI x1), some (vI x2), some (vI x3), none, none] [] s (fX12_aisle_L18 κ  k x1 x2 x3 s) := by
  intro k
  induction k with
  | zero => intro x1 x2 x3 s; exact j_none
  | succ k ih =>
    intro x1 x2 x3 s
    rw [fX12_aisle_L18]
    refine j_iload_n 19 dX12_aisle_18 rfl rfl ?_
    refine j_aload_n 20 dX12_aisle_19 rfl rfl ?_
    refine s_getI 23 fa68_12 w_1218 dX12_aisle_20 rfl ?_
    refine j_icmp_ge 121 26 dX12_aisle_23 (by decide) rfl (fun c5 => ?_) (fun c5 => ?_)
    · refine j_iload_n 27 dX12_aisle_26 rfl rfl ?_
      refine j_iconst (v := 1) 28 dX12_aisle_27 rfl (by decide) ?_
      refine j_iadd 29 dX12_aisle_28 rfl ?_
      refine s_nmI (fun v6 => ?_)
      refine j_istore (i := 4) (ls' := [some (vR 68), some (vI x1), some (vI x2), some (vI x3), some (vI v6), none]) 31 dX12_aisle_29 rfl (by decide) rfl rfl ?_
      refine j_sub (ls' := [some (vR 68), some (vI x1), some (vI x2), some (vI x3), some (vI v6), none]) (And.intro rfl (And.intro rfl (And.intro rfl (And.intro rfl (And.intro rfl trivial))))) ?_
      refine tX12_aisle_L31 Θ l _ _  ?_ _ _ _ _ _
      intro v23 v24 s25
      refine j_iinc (v := x3 + 1) (ls' := [some (vR 68), some (vI v23), some (vI v24), some (vI (x3 + 1)), none, none]) 118 dX12_aisle_115 rfl rfl rfl (by decide) rfl rfl ?_
      refine j_goto 18 dX12_aisle_118 (by decide) ?_
      refine j_sub (ls' := [some (vR 68), some (vI v23), some (vI v24), some (vI (x3 + 1)), none, none]) (And.intro rfl (And.intro rfl (And.intro rfl (And.intro rfl trivial)))) ?_
      exact ih v23 v24 (x3 + 1) s25
    · refine j_sub (ls' := [some (vR 68), some (vI x1), some (vI x2), none, none, none]) (And.intro rfl (And.intro rfl (And.intro rfl trivial))) ?_
      exact hκ x1 x2 s
theorem tX12_aisle (Θ : Th) (l : Launch)    (s : Mem) : Cs Θ l mX12_aisle 5 gI [vR 68] s (fX12_aisle  s) := by
  refine ct_of (by decide) [some (vR 68), none, none, none, none, none] rfl (Nat.le_of_ble_eq_true rfl) ?_
  unfold fX12_aisle
  refine j_bipush (v := (-9)) 2 dX12_aisle_0 rfl (by decide) ?_
  refine j_istore_n (i := 1) (ls' := [some (vR 68), some (vI (-9)), none, none, none, none]) 3 dX12_aisle_2 rfl rfl (by decide) rfl rfl ?_
  refine j_aload_n 4 dX12_aisle_3 rfl rfl ?_
  refine j_iconst (v := 0) 5 dX12_aisle_4 rfl (by decide) ?_
  refine j_aload_n 6 dX12_aisle_5 rfl rfl ?_
  refine s_getI 9 fa68_18 w_1224 dX12_aisle_6 rfl ?_
  refine s_callVi (M2 := mX12_listOf) [vI 0, vI (s.1 68 18)] 12 oa68 cc12 mkX12_listOf w_1624 dX12_aisle_9 rfl rfl (tX12_listOf Θ l _ _  _) (by first | exact Nat.le_of_ble_eq_true rfl | omega) (Nat.le_of_ble_eq_true rfl) (Nat.le_of_ble_eq_true rfl) (fun r1 s2 => ?_)
  refine s_callSi (M2 := mX12_sizeOf) [vI r1] 15 mkX12_sizeOf (Or.inl w_1539) dX12_aisle_12 rfl rfl (tX12_sizeOf Θ l _  _) (by first | exact Nat.le_of_ble_eq_true rfl | omega) (Nat.le_of_ble_eq_true rfl) (Nat.le_of_ble_eq_true rfl) (fun r3 s4 => ?_)
  refine j_istore_n (i := 2) (ls' := [some (vR 68), some (vI (-9)), some (vI r3), none, none, none]) 16 dX12_aisle_15 rfl rfl (by decide) rfl rfl ?_
  refine j_iconst (v := 0) 17 dX12_aisle_16 rfl (by decide) ?_
  refine j_istore_n (i := 3) (ls' := [some (vR 68), some (vI (-9)), some (vI r3), some (vI 0), none, none]) 18 dX12_aisle_17 rfl rfl (by decide) rfl rfl ?_
  refine j_sub (ls' := [some (vR 68), some (vI (-9)), some (vI r3), some (vI 0), none, none]) (And.intro rfl (And.intro rfl (And.intro rfl (And.intro rfl trivial)))) ?_
  refine tX12_aisle_L18 Θ l _   ?_ _ _ _ _ _
  intro v26 v27 s28
  refine j_iload_n 122 dX12_aisle_121 rfl rfl ?_
  refine j_bipush (v := (-9)) 124 dX12_aisle_122 rfl (by decide) ?_
  refine j_icmp_ne 132 127 dX12_aisle_124 (by decide) rfl (fun c29 => ?_) (fun c29 => ?_)
  · refine j_bipush (v := (-9)) 129 dX12_aisle_127 rfl (by decide) ?_
    refine j_goto 138 dX12_aisle_129 (by decide) ?_
    exact s_iret dX12_aisle_138 rfl
  · refine j_aload_n 133 dX12_aisle_132 rfl rfl ?_
    refine j_iload_n 134 dX12_aisle_133 rfl rfl ?_
    refine j_iload_n 135 dX12_aisle_134 rfl rfl ?_
    refine s_callVi (M2 := mX12_tells) [vI v27, vI v26] 138 oa68 cc12 mkX12_tells w_1414 dX12_aisle_135 rfl rfl (tX12_tells Θ l _ _  _) (by first | exact Nat.le_of_ble_eq_true rfl | omega) (Nat.le_of_ble_eq_true rfl) (Nat.le_of_ble_eq_true rfl) (fun r30 s31 => ?_)
    exact s_iret dX12_aisle_138 rfl
-- X12_seatedSet
def fX12_seatedSet_L4  (κ : Int32 → Mem → Option (Int32 × Mem))  : Nat → Int32 → Int32 → Mem → Option (Int32 × Mem)
  | 0, _, _, _ => none
  | k + 1, x1, x2, s =>
    if x2 < (s.1 68 12) then
      if inb x2 8 = true then
      if (s.1 79 (ix x2)) = (-9) then
        nm (x1 ||| 0) (fun v4 =>
        fX12_seatedSet_L4 κ k v4 (x2 + 1) s)
      else
        nm (x1 ||| ((1 : Int32) <<< (x2 &&& 31))) (fun v5 =>
        fX12_seatedSet_L4 κ k v5 (x2 + 1) s)
      else none
    else
      κ x1 s
def fX12_seatedSet   (s : Mem) : Option (Int32 × Mem) :=
fX12_seatedSet_L4 (fun v6 s7 =>
  some (v6, s7))  FU 0 0 s
theorem tX12_seatedSet_L4 (Θ : Th) (l : Launch)  (κ : Int32 → Mem → Option (Int32 × Mem))   (hκ : ∀ (x1 : Int32) (s : Mem), Js Θ l mX12_seatedSet 1 gI 39 [none, some (vI x1), none] [] s (κ x1 s)) : ∀ (k : Nat) (x1 : Int32) (x2 : Int32) (s : Mem), Js Θ l mX12_seatedSet 1 gI 4 [some (vR 68), some (vI x1), some (vI x2)] [] s (fX12_seatedSet_L4 κ  k x1 x2 s) := by
  intro k
  induction k with
  | zero => intro x1 x2 s; exact j_none
  | succ k ih =>
    intro x1 x2 s
    rw [fX12_seatedSet_L4]
    refine j_iload_n 5 dX12_seatedSet_4 rfl rfl ?_
    refine j_aload_n 6 dX12_seatedSet_5 rfl rfl ?_
    refine s_getI 9 fa68_12 w_1218 dX12_seatedSet_6 rfl ?_
    refine j_icmp_ge 39 12 dX12_seatedSet_9 (by decide) rfl (fun c1 => ?_) (fun c1 => ?_)
    · refine j_iload_n 13 dX12_seatedSet_12 rfl rfl ?_
      refine j_aload_n 14 dX12_seatedSet_13 rfl rfl ?_
      refine s_getR (x := 79) 17 fa68_16 w_1222 dX12_seatedSet_14 rfl (by decide +kernel) ?_
      refine j_iload_n 18 dX12_seatedSet_17 rfl rfl ?_
      refine s_iaload 19 aa79 dX12_seatedSet_18 rfl (fun b2 => ?_)
      refine j_bipush (v := (-9)) 21 dX12_seatedSet_19 rfl (by decide) ?_
      refine j_icmp_ne 28 24 dX12_seatedSet_21 (by decide) rfl (fun c3 => ?_) (fun c3 => ?_)
      · refine j_iconst (v := 0) 25 dX12_seatedSet_24 rfl (by decide) ?_
        refine j_goto 31 dX12_seatedSet_25 (by decide) ?_
        refine j_ior 32 dX12_seatedSet_31 rfl ?_
        refine s_nmI (fun v4 => ?_)
        refine j_istore_n (i := 1) (ls' := [some (vR 68), some (vI v4), some (vI x2)]) 33 dX12_seatedSet_32 rfl rfl (by decide) rfl rfl ?_
        refine j_iinc (v := x2 + 1) (ls' := [some (vR 68), some (vI v4), some (vI (x2 + 1))]) 36 dX12_seatedSet_33 rfl rfl rfl (by decide) rfl rfl ?_
        refine j_goto 4 dX12_seatedSet_36 (by decide) ?_
        refine j_sub (ls' := [some (vR 68), some (vI v4), some (vI (x2 + 1))]) (And.intro rfl (And.intro rfl (And.intro rfl trivial))) ?_
        exact ih v4 (x2 + 1) s
      · refine j_iconst (v := 1) 29 dX12_seatedSet_28 rfl (by decide) ?_
        refine j_iload_n 30 dX12_seatedSet_29 rfl rfl ?_
        refine j_ishl 31 dX12_seatedSet_30 rfl ?_
        refine j_ior 32 dX12_seatedSet_31 rfl ?_
        refine s_nmI (fun v5 => ?_)
        refine j_istore_n (i := 1) (ls' := [some (vR 68), some (vI v5), some (vI x2)]) 33 dX12_seatedSet_32 rfl rfl (by decide) rfl rfl ?_
        refine j_iinc (v := x2 + 1) (ls' := [some (vR 68), some (vI v5), some (vI (x2 + 1))]) 36 dX12_seatedSet_33 rfl rfl rfl (by decide) rfl rfl ?_
        refine j_goto 4 dX12_seatedSet_36 (by decide) ?_
        refine j_sub (ls' := [some (vR 68), some (vI v5), some (vI (x2 + 1))]) (And.intro rfl (And.intro rfl (And.intro rfl trivial))) ?_
        exact ih v5 (x2 + 1) s
    · refine j_sub (ls' := [none, some (vI x1), none]) (And.intro rfl trivial) ?_
      exact hκ x1 s
theorem tX12_seatedSet (Θ : Th) (l : Launch)    (s : Mem) : Cs Θ l mX12_seatedSet 1 gI [vR 68] s (fX12_seatedSet  s) := by
  refine ct_of (by decide) [some (vR 68), none, none] rfl (Nat.le_of_ble_eq_true rfl) ?_
  unfold fX12_seatedSet
  refine j_iconst (v := 0) 1 dX12_seatedSet_0 rfl (by decide) ?_
  refine j_istore_n (i := 1) (ls' := [some (vR 68), some (vI 0), none]) 2 dX12_seatedSet_1 rfl rfl (by decide) rfl rfl ?_
  refine j_iconst (v := 0) 3 dX12_seatedSet_2 rfl (by decide) ?_
  refine j_istore_n (i := 2) (ls' := [some (vR 68), some (vI 0), some (vI 0)]) 4 dX12_seatedSet_3 rfl rfl (by decide) rfl rfl ?_
  refine j_sub (ls' := [some (vR 68), some (vI 0), some (vI 0)]) (And.intro rfl (And.intro rfl (And.intro rfl trivial))) ?_
  refine tX12_seatedSet_L4 Θ l _   ?_ _ _ _ _
  intro v6 s7
  refine j_iload_n 40 dX12_seatedSet_39 rfl rfl ?_
  exact s_iret dX12_seatedSet_40 rfl
-- X12_layLeaving
def fX12_layLeaving_L49 (rec : Int32 → Mem → Option (Unit × Mem)) (κ : Mem → Option (Unit × Mem)) (y1 : Int32) : Nat → Int32 → Mem → Option (Unit × Mem)
  | 0, _, _ => none
  | k + 1, x2, s =>
    if x2 < y1 then
      if (s.1 68 42) = 0 then
        if inb x2 7 = true then
        if inb x2 7 = true then
        fX12_layLeaving_L49 rec κ y1 k (x2 + 1) (wI s 93 (ix x2) (s.1 92 (ix x2)))
        else none
        else none
      else
        κ s
    else
      κ s
def fX12_layLeaving_L92 (rec : Int32 → Mem → Option (Unit × Mem)) (κ : Mem → Option (Unit × Mem)) (y1 : Int32) : Nat → Int32 → Mem → Option (Unit × Mem)
  | 0, _, _ => none
  | k + 1, x2, s =>
    if x2 < (s.1 68 12) then
      if inb x2 8 = true then
      if (s.1 79 (ix x2)) = (-9) then
        fX12_layLeaving_L92 rec κ y1 k (x2 + 1) s
      else
        if inb x2 8 = true then
        nm (s.1 79 (ix x2)) (fun v17 =>
        if inb x2 8 = true then
        if inb y1 7 = true then
        bnd (fX12_listOf 0 ((wI (wI s 79 (ix x2) (-9)) 92 (ix y1) x2).1 68 18) (wI (wI s 79 (ix x2) (-9)) 92 (ix y1) x2)) (fun r20 s21 =>
        bnd (fX12_isLevel r20 s21) (fun r22 s23 =>
        if r22 = 0 then
          if inb x2 8 = true then
          fX12_layLeaving_L92 rec κ y1 k (x2 + 1) (wI s23 79 (ix x2) v17)
          else none
        else
          bnd (rec (y1 + 1) s23) (fun r26 s27 =>
          if inb x2 8 = true then
          fX12_layLeaving_L92 rec κ y1 k (x2 + 1) (wI s27 79 (ix x2) v17)
          else none)))
        else none
        else none)
        else none
      else none
    else
      κ s
def fX12_layLeaving_B (rec : Int32 → Mem → Option (Unit × Mem)) (a1 : Int32) (s : Mem) : Option (Unit × Mem) :=
bnd (fX12_seatedSet s) (fun r1 s2 =>
if r1 = 0 then
  if 0 < a1 then
    if inb 0 7 = true then
    if inb (a1 - 1) 7 = true then
    fX12_layLeaving_L49 rec (fun s11 =>
      some ((), wI s11 68 42 ((s11.1 68 42) + 1))) a1 FU 0 (wI (wI s2 68 43 ((s2.1 68 43) ||| ((1 : Int32) <<< ((s2.1 92 (ix 0)) &&& 31)))) 68 44 (((wI s2 68 43 ((s2.1 68 43) ||| ((1 : Int32) <<< ((s2.1 92 (ix 0)) &&& 31)))).1 68 44) ||| ((1 : Int32) <<< (((wI s2 68 43 ((s2.1 68 43) ||| ((1 : Int32) <<< ((s2.1 92 (ix 0)) &&& 31)))).1 92 (ix (a1 - 1))) &&& 31))))
    else none
    else none
  else
    fX12_layLeaving_L49 rec (fun s12 =>
      some ((), wI s12 68 42 ((s12.1 68 42) + 1))) a1 FU 0 s2
else
  fX12_layLeaving_L92 rec (fun s29 =>
    some ((), s29)) a1 FU 0 s2)
theorem tX12_layLeaving_L49 (Θ : Th) (l : Launch) (rec : Int32 → Mem → Option (Unit × Mem)) (κ : Mem → Option (Unit × Mem)) (y1 : Int32)  {hr : Nat} (hr9 : 9 ≤ hr) (hrec : ∀ (a1 : Int32) (s : Mem), Cs Θ l mX12_layLeaving hr gU [vR 68, vI a1] s (rec a1 s)) (hκ : ∀  (s : Mem), Js Θ l mX12_layLeaving (hr + 2) gU 79 [some (vR 68), none, none, none] [] s (κ  s)) : ∀ (k : Nat) (x2 : Int32) (s : Mem), Js Θ l mX12_layLeaving (hr + 2) gU 49 [some (vR 68), some (vI y1), some (vI x2), none] [] s (fX12_layLeaving_L49 rec κ y1 k x2 s) := by
  intro k
  induction k with
  | zero => intro x2 s; exact j_none
  | succ k ih =>
    intro x2 s
    rw [fX12_layLeaving_L49]
    refine j_iload_n 50 dX12_layLeaving_49 rfl rfl ?_
    refine j_iload_n 51 dX12_layLeaving_50 rfl rfl ?_
    refine j_icmp_ge 79 54 dX12_layLeaving_51 (by decide) rfl (fun c7 => ?_) (fun c7 => ?_)
    · refine j_aload_n 55 dX12_layLeaving_54 rfl rfl ?_
      refine s_getI 58 fa68_42 w_1248 dX12_layLeaving_55 rfl ?_
      refine j_if_ne 79 61 dX12_layLeaving_58 (by decide) rfl (fun c8 => ?_) (fun c8 => ?_)
      · refine j_aload_n 62 dX12_layLeaving_61 rfl rfl ?_
        refine s_getR (x := 93) 65 fa68_46 w_1252 dX12_layLeaving_62 rfl (by decide +kernel) ?_
        refine j_iload_n 66 dX12_layLeaving_65 rfl rfl ?_
        refine j_aload_n 67 dX12_layLeaving_66 rfl rfl ?_
        refine s_getR (x := 92) 70 fa68_45 w_1251 dX12_layLeaving_67 rfl (by decide +kernel) ?_
        refine j_iload_n 71 dX12_layLeaving_70 rfl rfl ?_
        refine s_iaload 72 aa92 dX12_layLeaving_71 rfl (fun b9 => ?_)
        refine s_iastore 73 aa93 dX12_layLeaving_72 rfl (fun b10 => ?_)
        refine j_iinc (v := x2 + 1) (ls' := [some (vR 68), some (vI y1), some (vI (x2 + 1)), none]) 76 dX12_layLeaving_73 rfl rfl rfl (by decide) rfl rfl ?_
        refine j_goto 49 dX12_layLeaving_76 (by decide) ?_
        refine j_sub (ls' := [some (vR 68), some (vI y1), some (vI (x2 + 1)), none]) (And.intro rfl (And.intro rfl (And.intro rfl trivial))) ?_
        exact ih (x2 + 1) (wI s 93 (ix x2) (s.1 92 (ix x2)))
      · refine j_sub (ls' := [some (vR 68), none, none, none]) (And.intro rfl trivial) ?_
        exact hκ s
    · refine j_sub (ls' := [some (vR 68), none, none, none]) (And.intro rfl trivial) ?_
      exact hκ s
theorem tX12_layLeaving_L92 (Θ : Th) (l : Launch) (rec : Int32 → Mem → Option (Unit × Mem)) (κ : Mem → Option (Unit × Mem)) (y1 : Int32)  {hr : Nat} (hr9 : 9 ≤ hr) (hrec : ∀ (a1 : Int32) (s : Mem), Cs Θ l mX12_layLeaving hr gU [vR 68, vI a1] s (rec a1 s)) (hκ : ∀  (s : Mem), Js Θ l mX12_layLeaving (hr + 2) gU 169 [none, none, none, none] [] s (κ  s)) : ∀ (k : Nat) (x2 : Int32) (s : Mem), Js Θ l mX12_layLeaving (hr + 2) gU 92 [some (vR 68), some (vI y1), some (vI x2), none] [] s (fX12_layLeaving_L92 rec κ y1 k x2 s) := by
  intro k
  induction k with
  | zero => intro x2 s; exact j_none
  | succ k ih =>
    intro x2 s
    rw [fX12_layLeaving_L92]
    refine j_iload_n 93 dX12_layLeaving_92 rfl rfl ?_
    refine j_aload_n 94 dX12_layLeaving_93 rfl rfl ?_
    refine s_getI 97 fa68_12 w_1218 dX12_layLeaving_94 rfl ?_
    refine j_icmp_ge 169 100 dX12_layLeaving_97 (by decide) rfl (fun c13 => ?_) (fun c13 => ?_)
    · refine j_aload_n 101 dX12_layLeaving_100 rfl rfl ?_
      refine s_getR (x := 79) 104 fa68_16 w_1222 dX12_layLeaving_101 rfl (by decide +kernel) ?_
      refine j_iload_n 105 dX12_layLeaving_104 rfl rfl ?_
      refine s_iaload 106 aa79 dX12_layLeaving_105 rfl (fun b14 => ?_)
      refine j_bipush (v := (-9)) 108 dX12_layLeaving_106 rfl (by decide) ?_
      refine j_icmp_eq 163 111 dX12_layLeaving_108 (by decide) rfl (fun c15 => ?_) (fun c15 => ?_)
      · refine j_iinc (v := x2 + 1) (ls' := [some (vR 68), some (vI y1), some (vI (x2 + 1)), none]) 166 dX12_layLeaving_163 rfl rfl rfl (by decide) rfl rfl ?_
        refine j_goto 92 dX12_layLeaving_166 (by decide) ?_
        refine j_sub (ls' := [some (vR 68), some (vI y1), some (vI (x2 + 1)), none]) (And.intro rfl (And.intro rfl (And.intro rfl trivial))) ?_
        exact ih (x2 + 1) s
      · refine j_aload_n 112 dX12_layLeaving_111 rfl rfl ?_
        refine s_getR (x := 79) 115 fa68_16 w_1222 dX12_layLeaving_112 rfl (by decide +kernel) ?_
        refine j_iload_n 116 dX12_layLeaving_115 rfl rfl ?_
        refine s_iaload 117 aa79 dX12_layLeaving_116 rfl (fun b16 => ?_)
        refine s_nmI (fun v17 => ?_)
        refine j_istore_n (i := 3) (ls' := [some (vR 68), some (vI y1), some (vI x2), some (vI v17)]) 118 dX12_layLeaving_117 rfl rfl (by decide) rfl rfl ?_
        refine j_aload_n 119 dX12_layLeaving_118 rfl rfl ?_
        refine s_getR (x := 79) 122 fa68_16 w_1222 dX12_layLeaving_119 rfl (by decide +kernel) ?_
        refine j_iload_n 123 dX12_layLeaving_122 rfl rfl ?_
        refine j_bipush (v := (-9)) 125 dX12_layLeaving_123 rfl (by decide) ?_
        refine s_iastore 126 aa79 dX12_layLeaving_125 rfl (fun b18 => ?_)
        refine j_aload_n 127 dX12_layLeaving_126 rfl rfl ?_
        refine s_getR (x := 92) 130 fa68_45 w_1251 dX12_layLeaving_127 rfl (by decide +kernel) ?_
        refine j_iload_n 131 dX12_layLeaving_130 rfl rfl ?_
        refine j_iload_n 132 dX12_layLeaving_131 rfl rfl ?_
        refine s_iastore 133 aa92 dX12_layLeaving_132 rfl (fun b19 => ?_)
        refine j_aload_n 134 dX12_layLeaving_133 rfl rfl ?_
        refine j_aload_n 135 dX12_layLeaving_134 rfl rfl ?_
        refine j_iconst (v := 0) 136 dX12_layLeaving_135 rfl (by decide) ?_
        refine j_aload_n 137 dX12_layLeaving_136 rfl rfl ?_
        refine s_getI 140 fa68_18 w_1224 dX12_layLeaving_137 rfl ?_
        refine s_callVi (M2 := mX12_listOf) [vI 0, vI ((wI (wI s 79 (ix x2) (-9)) 92 (ix y1) x2).1 68 18)] 143 oa68 cc12 mkX12_listOf w_1624 dX12_layLeaving_140 rfl rfl (tX12_listOf Θ l _ _  _) (by first | exact Nat.le_of_ble_eq_true rfl | omega) (Nat.le_of_ble_eq_true rfl) (Nat.le_of_ble_eq_true rfl) (fun r20 s21 => ?_)
        refine s_callVi (M2 := mX12_isLevel) [vI r20] 146 oa68 cc12 mkX12_isLevel w_1628 dX12_layLeaving_143 rfl rfl (tX12_isLevel Θ l _  _) (by first | exact Nat.le_of_ble_eq_true rfl | omega) (Nat.le_of_ble_eq_true rfl) (Nat.le_of_ble_eq_true rfl) (fun r22 s23 => ?_)
        refine j_if_eq 156 149 dX12_layLeaving_146 (by decide) rfl (fun c24 => ?_) (fun c24 => ?_)
        · refine j_aload_n 157 dX12_layLeaving_156 rfl rfl ?_
          refine s_getR (x := 79) 160 fa68_16 w_1222 dX12_layLeaving_157 rfl (by decide +kernel) ?_
          refine j_iload_n 161 dX12_layLeaving_160 rfl rfl ?_
          refine j_iload_n 162 dX12_layLeaving_161 rfl rfl ?_
          refine s_iastore 163 aa79 dX12_layLeaving_162 rfl (fun b25 => ?_)
          refine j_iinc (v := x2 + 1) (ls' := [some (vR 68), some (vI y1), some (vI (x2 + 1)), some (vI v17)]) 166 dX12_layLeaving_163 rfl rfl rfl (by decide) rfl rfl ?_
          refine j_goto 92 dX12_layLeaving_166 (by decide) ?_
          refine j_sub (ls' := [some (vR 68), some (vI y1), some (vI (x2 + 1)), none]) (And.intro rfl (And.intro rfl (And.intro rfl trivial))) ?_
          exact ih (x2 + 1) (wI s23 79 (ix x2) v17)
        · refine j_aload_n 150 dX12_layLeaving_149 rfl rfl ?_
          refine j_iload_n 151 dX12_layLeaving_150 rfl rfl ?_
          refine j_iconst (v := 1) 152 dX12_layLeaving_151 rfl (by decide) ?_
          refine j_iadd 153 dX12_layLeaving_152 rfl ?_
          refine s_callVu (M2 := mX12_layLeaving) [vI (y1 + 1)] 156 oa68 cc12 mkX12_layLeaving w_1696 dX12_layLeaving_153 rfl rfl (hrec _ _) (by omega) (Nat.le_of_ble_eq_true rfl) (Nat.le_of_ble_eq_true rfl) (fun r26 s27 => ?_)
          refine j_aload_n 157 dX12_layLeaving_156 rfl rfl ?_
          refine s_getR (x := 79) 160 fa68_16 w_1222 dX12_layLeaving_157 rfl (by decide +kernel) ?_
          refine j_iload_n 161 dX12_layLeaving_160 rfl rfl ?_
          refine j_iload_n 162 dX12_layLeaving_161 rfl rfl ?_
          refine s_iastore 163 aa79 dX12_layLeaving_162 rfl (fun b28 => ?_)
          refine j_iinc (v := x2 + 1) (ls' := [some (vR 68), some (vI y1), some (vI (x2 + 1)), some (vI v17)]) 166 dX12_layLeaving_163 rfl rfl rfl (by decide) rfl rfl ?_
          refine j_goto 92 dX12_layLeaving_166 (by decide) ?_
          refine j_sub (ls' := [some (vR 68), some (vI y1), some (vI (x2 + 1)), none]) (And.intro rfl (And.intro rfl (And.intro rfl trivial))) ?_
          exact ih (x2 + 1) (wI s27 79 (ix x2) v17)
    · refine j_sub (ls' := [none, none, none, none]) (trivial) ?_
      exact hκ s
theorem tX12_layLeaving_B (Θ : Th) (l : Launch) (rec : Int32 → Mem → Option (Unit × Mem)) (a1 : Int32)  {hr : Nat} (hr9 : 9 ≤ hr) (hrec : ∀ (a1 : Int32) (s : Mem), Cs Θ l mX12_layLeaving hr gU [vR 68, vI a1] s (rec a1 s)) (s : Mem) : Cs Θ l mX12_layLeaving (hr + 2) gU [vR 68, vI a1] s (fX12_layLeaving_B rec a1 s) := by
  refine ct_of (by decide) [some (vR 68), some (vI a1), none, none] rfl (Nat.le_of_ble_eq_true rfl) ?_
  unfold fX12_layLeaving_B
  refine j_aload_n 1 dX12_layLeaving_0 rfl rfl ?_
  refine s_callVi (M2 := mX12_seatedSet) [] 4 oa68 cc12 mkX12_seatedSet w_1700 dX12_layLeaving_1 rfl rfl (tX12_seatedSet Θ l   _) (by first | exact Nat.le_of_ble_eq_true rfl | omega) (Nat.le_of_ble_eq_true rfl) (Nat.le_of_ble_eq_true rfl) (fun r1 s2 => ?_)
  refine j_if_ne 90 7 dX12_layLeaving_4 (by decide) rfl (fun c3 => ?_) (fun c3 => ?_)
  · refine j_iload_n 8 dX12_layLeaving_7 rfl rfl ?_
    refine j_if_le 47 11 dX12_layLeaving_8 (by decide) rfl (fun c4 => ?_) (fun c4 => ?_)
    · refine j_aload_n 12 dX12_layLeaving_11 rfl rfl ?_
      refine j_dup 13 dX12_layLeaving_12 rfl rfl ?_
      refine s_getI 16 fa68_43 w_1249 dX12_layLeaving_13 rfl ?_
      refine j_iconst (v := 1) 17 dX12_layLeaving_16 rfl (by decide) ?_
      refine j_aload_n 18 dX12_layLeaving_17 rfl rfl ?_
      refine s_getR (x := 92) 21 fa68_45 w_1251 dX12_layLeaving_18 rfl (by decide +kernel) ?_
      refine j_iconst (v := 0) 22 dX12_layLeaving_21 rfl (by decide) ?_
      refine s_iaload 23 aa92 dX12_layLeaving_22 rfl (fun b5 => ?_)
      refine j_ishl 24 dX12_layLeaving_23 rfl ?_
      refine j_ior 25 dX12_layLeaving_24 rfl ?_
      refine s_putI 28 fa68_43 w_1249 dX12_layLeaving_25 rfl ?_
      refine j_aload_n 29 dX12_layLeaving_28 rfl rfl ?_
      refine j_dup 30 dX12_layLeaving_29 rfl rfl ?_
      refine s_getI 33 fa68_44 w_1250 dX12_layLeaving_30 rfl ?_
      refine j_iconst (v := 1) 34 dX12_layLeaving_33 rfl (by decide) ?_
      refine j_aload_n 35 dX12_layLeaving_34 rfl rfl ?_
      refine s_getR (x := 92) 38 fa68_45 w_1251 dX12_layLeaving_35 rfl (by decide +kernel) ?_
      refine j_iload_n 39 dX12_layLeaving_38 rfl rfl ?_
      refine j_iconst (v := 1) 40 dX12_layLeaving_39 rfl (by decide) ?_
      refine j_isub 41 dX12_layLeaving_40 rfl ?_
      refine s_iaload 42 aa92 dX12_layLeaving_41 rfl (fun b6 => ?_)
      refine j_ishl 43 dX12_layLeaving_42 rfl ?_
      refine j_ior 44 dX12_layLeaving_43 rfl ?_
      refine s_putI 47 fa68_44 w_1250 dX12_layLeaving_44 rfl ?_
      refine j_iconst (v := 0) 48 dX12_layLeaving_47 rfl (by decide) ?_
      refine j_istore_n (i := 2) (ls' := [some (vR 68), some (vI a1), some (vI 0), none]) 49 dX12_layLeaving_48 rfl rfl (by decide) rfl rfl ?_
      refine j_sub (ls' := [some (vR 68), some (vI a1), some (vI 0), none]) (And.intro rfl (And.intro rfl (And.intro rfl trivial))) ?_
      refine tX12_layLeaving_L49 Θ l rec _ _  hr9 hrec ?_ _ _ _
      intro s11
      refine j_aload_n 80 dX12_layLeaving_79 rfl rfl ?_
      refine j_dup 81 dX12_layLeaving_80 rfl rfl ?_
      refine s_getI 84 fa68_42 w_1248 dX12_layLeaving_81 rfl ?_
      refine j_iconst (v := 1) 85 dX12_layLeaving_84 rfl (by decide) ?_
      refine j_iadd 86 dX12_layLeaving_85 rfl ?_
      refine s_putI 89 fa68_42 w_1248 dX12_layLeaving_86 rfl ?_
      exact s_ret dX12_layLeaving_89 rfl
    · refine j_iconst (v := 0) 48 dX12_layLeaving_47 rfl (by decide) ?_
      refine j_istore_n (i := 2) (ls' := [some (vR 68), some (vI a1), some (vI 0), none]) 49 dX12_layLeaving_48 rfl rfl (by decide) rfl rfl ?_
      refine j_sub (ls' := [some (vR 68), some (vI a1), some (vI 0), none]) (And.intro rfl (And.intro rfl (And.intro rfl trivial))) ?_
      refine tX12_layLeaving_L49 Θ l rec _ _  hr9 hrec ?_ _ _ _
      intro s12
      refine j_aload_n 80 dX12_layLeaving_79 rfl rfl ?_
      refine j_dup 81 dX12_layLeaving_80 rfl rfl ?_
      refine s_getI 84 fa68_42 w_1248 dX12_layLeaving_81 rfl ?_
      refine j_iconst (v := 1) 85 dX12_layLeaving_84 rfl (by decide) ?_
      refine j_iadd 86 dX12_layLeaving_85 rfl ?_
      refine s_putI 89 fa68_42 w_1248 dX12_layLeaving_86 rfl ?_
      exact s_ret dX12_layLeaving_89 rfl
  · refine j_iconst (v := 0) 91 dX12_layLeaving_90 rfl (by decide) ?_
    refine j_istore_n (i := 2) (ls' := [some (vR 68), some (vI a1), some (vI 0), none]) 92 dX12_layLeaving_91 rfl rfl (by decide) rfl rfl ?_
    refine j_sub (ls' := [some (vR 68), some (vI a1), some (vI 0), none]) (And.intro rfl (And.intro rfl (And.intro rfl trivial))) ?_
    refine tX12_layLeaving_L92 Θ l rec _ _  hr9 hrec ?_ _ _ _
    intro s29
    exact s_ret dX12_layLeaving_169 rfl
-- X12_layLeaving_rec
def fX12_layLeaving : Nat → Int32 → Mem → Option (Unit × Mem)
  | 0, _, _ => none
  | k + 1, a1, s => fX12_layLeaving_B (fX12_layLeaving k) a1 s
theorem tX12_layLeaving (Θ : Th) (l : Launch) : ∀ (k : Nat) (a1 : Int32) (s : Mem), Cs Θ l mX12_layLeaving (2 * k + 9) gU [vR 68, vI a1] s (fX12_layLeaving k a1 s) := by
  intro k
  induction k with
  | zero => intro a1 s r s' ho; cases ho
  | succ k ih =>
    intro a1 s
    exact tX12_layLeaving_B Θ l (fX12_layLeaving k) a1 (hr := 2 * k + 9) (by omega) ih s
-- X12_allLeave
def fX12_allLeave   (s : Mem) : Option (Unit × Mem) :=
bnd (fX12_layLeaving 9 0 (wI (wI (wI s 68 42 0) 68 43 0) 68 44 0)) (fun r1 s2 =>
some ((), s2))
theorem tX12_allLeave (Θ : Th) (l : Launch)    (s : Mem) : Cs Θ l mX12_allLeave 28 gU [vR 68] s (fX12_allLeave  s) := by
  refine ct_of (by decide) [some (vR 68)] rfl (Nat.le_of_ble_eq_true rfl) ?_
  unfold fX12_allLeave
  refine j_aload_n 1 dX12_allLeave_0 rfl rfl ?_
  refine j_iconst (v := 0) 2 dX12_allLeave_1 rfl (by decide) ?_
  refine s_putI 5 fa68_42 w_1248 dX12_allLeave_2 rfl ?_
  refine j_aload_n 6 dX12_allLeave_5 rfl rfl ?_
  refine j_iconst (v := 0) 7 dX12_allLeave_6 rfl (by decide) ?_
  refine s_putI 10 fa68_43 w_1249 dX12_allLeave_7 rfl ?_
  refine j_aload_n 11 dX12_allLeave_10 rfl rfl ?_
  refine j_iconst (v := 0) 12 dX12_allLeave_11 rfl (by decide) ?_
  refine s_putI 15 fa68_44 w_1250 dX12_allLeave_12 rfl ?_
  refine j_aload_n 16 dX12_allLeave_15 rfl rfl ?_
  refine j_iconst (v := 0) 17 dX12_allLeave_16 rfl (by decide) ?_
  refine s_callVu (M2 := mX12_layLeaving) [vI 0] 20 oa68 cc12 mkX12_layLeaving w_1696 dX12_allLeave_17 rfl rfl (tX12_layLeaving Θ l 9 _ _) (by decide) (Nat.le_of_ble_eq_true rfl) (Nat.le_of_ble_eq_true rfl) (fun r1 s2 => ?_)
  exact s_ret dX12_allLeave_20 rfl
-- X12_leave
def fX12_leave_L37  (κ : Mem → Option (Int32 × Mem)) (y1 : Int32) (y2 : Int32) : Nat → Int32 → Mem → Option (Int32 × Mem)
  | 0, _, _ => none
  | k + 1, x3, s =>
    if x3 < 60 then
      if x3 < y2 then
        if inb x3 7 = true then
        if inb ((60 * y1) + x3) 360 = true then
        fX12_leave_L37 κ y1 y2 k (x3 + 1) (wI s 71 (ix ((60 * y1) + x3)) (s.1 93 (ix x3)))
        else none
        else none
      else
        if inb ((60 * y1) + x3) 360 = true then
        fX12_leave_L37 κ y1 y2 k (x3 + 1) (wI s 71 (ix ((60 * y1) + x3)) 0)
        else none
    else
      κ s
def fX12_leave  (a1 : Int32) (s : Mem) : Option (Int32 × Mem) :=
bnd (fX12_isRow a1 s) (fun r1 s2 =>
if r1 = 0 then
  some ((-1), s2)
else
  bnd (fX12_allLeave s2) (fun r4 s5 =>
  if (s5.1 68 42) = 0 then
    some ((-9), s5)
  else
    bnd (fX12_seatedMany s5) (fun r7 s8 =>
    if inb a1 6 = true then
    fX12_leave_L37 (fun s15 =>
      some (r7, s15)) a1 r7 FU 0 (wI s8 70 (ix a1) r7)
    else none)))
theorem tX12_leave_L37 (Θ : Th) (l : Launch)  (κ : Mem → Option (Int32 × Mem)) (y1 : Int32) (y2 : Int32)  (hκ : ∀  (s : Mem), Js Θ l mX12_leave 29 gI 75 [none, none, some (vI y2), none] [] s (κ  s)) : ∀ (k : Nat) (x3 : Int32) (s : Mem), Js Θ l mX12_leave 29 gI 37 [some (vR 68), some (vI y1), some (vI y2), some (vI x3)] [] s (fX12_leave_L37 κ y1 y2 k x3 s) := by
  intro k
  induction k with
  | zero => intro x3 s; exact j_none
  | succ k ih =>
    intro x3 s
    rw [fX12_leave_L37]
    refine j_iload_n 38 dX12_leave_37 rfl rfl ?_
    refine j_bipush (v := 60) 40 dX12_leave_38 rfl (by decide) ?_
    refine j_icmp_ge 75 43 dX12_leave_40 (by decide) rfl (fun c10 => ?_) (fun c10 => ?_)
    · refine j_aload_n 44 dX12_leave_43 rfl rfl ?_
      refine s_getR (x := 71) 47 fa68_6 w_1212 dX12_leave_44 rfl (by decide +kernel) ?_
      refine j_bipush (v := 60) 49 dX12_leave_47 rfl (by decide) ?_
      refine j_iload_n 50 dX12_leave_49 rfl rfl ?_
      refine j_imul 51 dX12_leave_50 rfl ?_
      refine j_iload_n 52 dX12_leave_51 rfl rfl ?_
      refine j_iadd 53 dX12_leave_52 rfl ?_
      refine j_iload_n 54 dX12_leave_53 rfl rfl ?_
      refine j_iload_n 55 dX12_leave_54 rfl rfl ?_
      refine j_icmp_ge 67 58 dX12_leave_55 (by decide) rfl (fun c11 => ?_) (fun c11 => ?_)
      · refine j_aload_n 59 dX12_leave_58 rfl rfl ?_
        refine s_getR (x := 93) 62 fa68_46 w_1252 dX12_leave_59 rfl (by decide +kernel) ?_
        refine j_iload_n 63 dX12_leave_62 rfl rfl ?_
        refine s_iaload 64 aa93 dX12_leave_63 rfl (fun b12 => ?_)
        refine j_goto 68 dX12_leave_64 (by decide) ?_
        refine s_iastore 69 aa71 dX12_leave_68 rfl (fun b13 => ?_)
        refine j_iinc (v := x3 + 1) (ls' := [some (vR 68), some (vI y1), some (vI y2), some (vI (x3 + 1))]) 72 dX12_leave_69 rfl rfl rfl (by decide) rfl rfl ?_
        refine j_goto 37 dX12_leave_72 (by decide) ?_
        refine j_sub (ls' := [some (vR 68), some (vI y1), some (vI y2), some (vI (x3 + 1))]) (And.intro rfl (And.intro rfl (And.intro rfl (And.intro rfl trivial)))) ?_
        exact ih (x3 + 1) (wI s 71 (ix ((60 * y1) + x3)) (s.1 93 (ix x3)))
      · refine j_iconst (v := 0) 68 dX12_leave_67 rfl (by decide) ?_
        refine s_iastore 69 aa71 dX12_leave_68 rfl (fun b14 => ?_)
        refine j_iinc (v := x3 + 1) (ls' := [some (vR 68), some (vI y1), some (vI y2), some (vI (x3 + 1))]) 72 dX12_leave_69 rfl rfl rfl (by decide) rfl rfl ?_
        refine j_goto 37 dX12_leave_72 (by decide) ?_
        refine j_sub (ls' := [some (vR 68), some (vI y1), some (vI y2), some (vI (x3 + 1))]) (And.intro rfl (And.intro rfl (And.intro rfl (And.intro rfl trivial)))) ?_
        exact ih (x3 + 1) (wI s 71 (ix ((60 * y1) + x3)) 0)
    · refine j_sub (ls' := [none, none, some (vI y2), none]) (And.intro rfl trivial) ?_
      exact hκ s
theorem tX12_leave (Θ : Th) (l : Launch)  (a1 : Int32)  (s : Mem) : Cs Θ l mX12_leave 29 gI [vR 68, vI a1] s (fX12_leave a1 s) := by
  refine ct_of (by decide) [some (vR 68), some (vI a1), none, none] rfl (Nat.le_of_ble_eq_true rfl) ?_
  unfold fX12_leave
  refine j_iload_n 1 dX12_leave_0 rfl rfl ?_
  refine s_callSi (M2 := mX12_isRow) [vI a1] 4 mkX12_isRow (Or.inl w_1399) dX12_leave_1 rfl rfl (tX12_isRow Θ l _  _) (by first | exact Nat.le_of_ble_eq_true rfl | omega) (Nat.le_of_ble_eq_true rfl) (Nat.le_of_ble_eq_true rfl) (fun r1 s2 => ?_)
  refine j_if_ne 9 7 dX12_leave_4 (by decide) rfl (fun c3 => ?_) (fun c3 => ?_)
  · refine j_iconst (v := (-1)) 8 dX12_leave_7 rfl (by decide) ?_
    exact s_iret dX12_leave_8 rfl
  · refine j_aload_n 10 dX12_leave_9 rfl rfl ?_
    refine s_callVu (M2 := mX12_allLeave) [] 13 oa68 cc12 mkX12_allLeave w_1692 dX12_leave_10 rfl rfl (tX12_allLeave Θ l   _) (by first | exact Nat.le_of_ble_eq_true rfl | omega) (Nat.le_of_ble_eq_true rfl) (Nat.le_of_ble_eq_true rfl) (fun r4 s5 => ?_)
    refine j_aload_n 14 dX12_leave_13 rfl rfl ?_
    refine s_getI 17 fa68_42 w_1248 dX12_leave_14 rfl ?_
    refine j_if_ne 23 20 dX12_leave_17 (by decide) rfl (fun c6 => ?_) (fun c6 => ?_)
    · refine j_bipush (v := (-9)) 22 dX12_leave_20 rfl (by decide) ?_
      exact s_iret dX12_leave_22 rfl
    · refine j_aload_n 24 dX12_leave_23 rfl rfl ?_
      refine s_callVi (M2 := mX12_seatedMany) [] 27 oa68 cc12 mkX12_seatedMany w_1612 dX12_leave_24 rfl rfl (tX12_seatedMany Θ l   _) (by first | exact Nat.le_of_ble_eq_true rfl | omega) (Nat.le_of_ble_eq_true rfl) (Nat.le_of_ble_eq_true rfl) (fun r7 s8 => ?_)
      refine j_istore_n (i := 2) (ls' := [some (vR 68), some (vI a1), some (vI r7), none]) 28 dX12_leave_27 rfl rfl (by decide) rfl rfl ?_
      refine j_aload_n 29 dX12_leave_28 rfl rfl ?_
      refine s_getR (x := 70) 32 fa68_5 w_1211 dX12_leave_29 rfl (by decide +kernel) ?_
      refine j_iload_n 33 dX12_leave_32 rfl rfl ?_
      refine j_iload_n 34 dX12_leave_33 rfl rfl ?_
      refine s_iastore 35 aa70 dX12_leave_34 rfl (fun b9 => ?_)
      refine j_iconst (v := 0) 36 dX12_leave_35 rfl (by decide) ?_
      refine j_istore_n (i := 3) (ls' := [some (vR 68), some (vI a1), some (vI r7), some (vI 0)]) 37 dX12_leave_36 rfl rfl (by decide) rfl rfl ?_
      refine j_sub (ls' := [some (vR 68), some (vI a1), some (vI r7), some (vI 0)]) (And.intro rfl (And.intro rfl (And.intro rfl (And.intro rfl trivial)))) ?_
      refine tX12_leave_L37 Θ l _ _ _  ?_ _ _ _
      intro s15
      refine j_iload_n 76 dX12_leave_75 rfl rfl ?_
      exact s_iret dX12_leave_76 rfl
-- X12_leavers
def fX12_leavers   (s : Mem) : Option (Int32 × Mem) :=
bnd (fX12_allLeave s) (fun r1 s2 =>
bnd (fX12_tells (s2.1 68 44) (s2.1 68 43) s2) (fun r3 s4 =>
some (r3, s4)))
theorem tX12_leavers (Θ : Th) (l : Launch)    (s : Mem) : Cs Θ l mX12_leavers 29 gI [vR 68] s (fX12_leavers  s) := by
  refine ct_of (by decide) [some (vR 68)] rfl (Nat.le_of_ble_eq_true rfl) ?_
  unfold fX12_leavers
  refine j_aload_n 1 dX12_leavers_0 rfl rfl ?_
  refine s_callVu (M2 := mX12_allLeave) [] 4 oa68 cc12 mkX12_allLeave w_1692 dX12_leavers_1 rfl rfl (tX12_allLeave Θ l   _) (by first | exact Nat.le_of_ble_eq_true rfl | omega) (Nat.le_of_ble_eq_true rfl) (Nat.le_of_ble_eq_true rfl) (fun r1 s2 => ?_)
  refine j_aload_n 5 dX12_leavers_4 rfl rfl ?_
  refine j_aload_n 6 dX12_leavers_5 rfl rfl ?_
  refine s_getI 9 fa68_44 w_1250 dX12_leavers_6 rfl ?_
  refine j_aload_n 10 dX12_leavers_9 rfl rfl ?_
  refine s_getI 13 fa68_43 w_1249 dX12_leavers_10 rfl ?_
  refine s_callVi (M2 := mX12_tells) [vI (s2.1 68 44), vI (s2.1 68 43)] 16 oa68 cc12 mkX12_tells w_1414 dX12_leavers_13 rfl rfl (tX12_tells Θ l _ _  _) (by first | exact Nat.le_of_ble_eq_true rfl | omega) (Nat.le_of_ble_eq_true rfl) (Nat.le_of_ble_eq_true rfl) (fun r3 s4 => ?_)
  exact s_iret dX12_leavers_16 rfl
-- X12_needInvited
def fX12_needInvited_L60  (κ : Int32 → Mem → Option (Int32 × Mem)) (y1 : Int32) (y2 : Int32) : Nat → Int32 → Int32 → Mem → Option (Int32 × Mem)
  | 0, _, _, _ => none
  | k + 1, x3, x4, s =>
    if inb y1 6 = true then
    if x4 < (s.1 70 (ix y1)) then
      if x3 = 0 then
        fX12_needInvited_L60 κ y1 y2 k 0 (x4 + 1) s
      else
        bnd (fX12_rowAt y1 x4 s) (fun r19 s20 =>
        bnd (fX12_in r19 1 9 s20) (fun r21 s22 =>
        if r21 = 0 then
          fX12_needInvited_L60 κ y1 y2 k 0 (x4 + 1) s22
        else
          bnd (fX12_rowAt y2 x4 s22) (fun r24 s25 =>
          bnd (fX12_in r24 0 99 s25) (fun r26 s27 =>
          if r26 = 0 then
            fX12_needInvited_L60 κ y1 y2 k 0 (x4 + 1) s27
          else
            fX12_needInvited_L60 κ y1 y2 k 1 (x4 + 1) s27))))
    else
      κ x3 s
    else none
def fX12_needInvited_L142  (κ : Mem → Option (Int32 × Mem)) (y1 : Int32) (y2 : Int32) : Nat → Int32 → Mem → Option (Int32 × Mem)
  | 0, _, _ => none
  | k + 1, x4, s =>
    if x4 < (s.1 68 47) then
      bnd (fX12_rowAt y1 x4 s) (fun r36 s37 =>
      if inb x4 4 = true then
      bnd (fX12_rowAt y2 x4 (wI s37 94 (ix x4) r36)) (fun r39 s40 =>
      if inb x4 4 = true then
      fX12_needInvited_L142 κ y1 y2 k (x4 + 1) (wI s40 95 (ix x4) r39)
      else none)
      else none)
    else
      κ s
def fX12_needInvited  (a1 : Int32) (a2 : Int32) (s : Mem) : Option (Int32 × Mem) :=
if inb a1 6 = true then
if (s.1 70 (ix a1)) < 0 then
  bnd (fX12_meets 1 s) (fun r3 s4 =>
  some (r3, s4))
else
  if inb a2 6 = true then
  if (s.1 70 (ix a2)) < 0 then
    bnd (fX12_meets 1 s) (fun r7 s8 =>
    some (r7, s8))
  else
    if inb a1 6 = true then
    if 4 < (s.1 70 (ix a1)) then
      bnd (fX12_meets 5 s) (fun r11 s12 =>
      some (r11, s12))
    else
      if inb a1 6 = true then
      if inb a2 6 = true then
      if (s.1 70 (ix a1)) = (s.1 70 (ix a2)) then
        fX12_needInvited_L60 (fun v29 s30 =>
          if v29 = 0 then
            bnd (fX12_meets 3 s30) (fun r32 s33 =>
            some (r32, s33))
          else
            if inb a1 6 = true then
            fX12_needInvited_L142 (fun s42 =>
              some (0, s42)) a1 a2 FU 0 (wI s30 68 47 (s30.1 70 (ix a1)))
            else none) a1 a2 FU 1 0 s
      else
        bnd (fX12_meets 5 s) (fun r43 s44 =>
        some (r43, s44))
      else none
      else none
    else none
  else none
else none
theorem tX12_needInvited_L60 (Θ : Th) (l : Launch)  (κ : Int32 → Mem → Option (Int32 × Mem)) (y1 : Int32) (y2 : Int32)  (hκ : ∀ (x3 : Int32) (s : Mem), Js Θ l mX12_needInvited 2 gI 119 [some (vR 68), some (vI y1), some (vI y2), some (vI x3), none] [] s (κ x3 s)) : ∀ (k : Nat) (x3 : Int32) (x4 : Int32) (s : Mem), Js Θ l mX12_needInvited 2 gI 60 [some (vR 68), some (vI y1), some (vI y2), some (vI x3), some (vI x4)] [] s (fX12_needInvited_L60 κ y1 y2 k x3 x4 s) := by
  intro k
  induction k with
  | zero => intro x3 x4 s; exact j_none
  | succ k ih =>
    intro x3 x4 s
    rw [fX12_needInvited_L60]
    refine j_iload 62 dX12_needInvited_60 rfl rfl ?_
    refine j_aload_n 63 dX12_needInvited_62 rfl rfl ?_
    refine s_getR (x := 70) 66 fa68_5 w_1211 dX12_needInvited_63 rfl (by decide +kernel) ?_
    refine j_iload_n 67 dX12_needInvited_66 rfl rfl ?_
    refine s_iaload 68 aa70 dX12_needInvited_67 rfl (fun b16 => ?_)
    refine j_icmp_ge 119 71 dX12_needInvited_68 (by decide) rfl (fun c17 => ?_) (fun c17 => ?_)
    · refine j_iload_n 72 dX12_needInvited_71 rfl rfl ?_
      refine j_if_eq 111 75 dX12_needInvited_72 (by decide) rfl (fun c18 => ?_) (fun c18 => ?_)
      · refine j_iconst (v := 0) 112 dX12_needInvited_111 rfl (by decide) ?_
        refine j_istore_n (i := 3) (ls' := [some (vR 68), some (vI y1), some (vI y2), some (vI 0), some (vI x4)]) 113 dX12_needInvited_112 rfl rfl (by decide) rfl rfl ?_
        refine j_iinc (v := x4 + 1) (ls' := [some (vR 68), some (vI y1), some (vI y2), some (vI 0), some (vI (x4 + 1))]) 116 dX12_needInvited_113 rfl rfl rfl (by decide) rfl rfl ?_
        refine j_goto 60 dX12_needInvited_116 (by decide) ?_
        refine j_sub (ls' := [some (vR 68), some (vI y1), some (vI y2), some (vI 0), some (vI (x4 + 1))]) (And.intro rfl (And.intro rfl (And.intro rfl (And.intro rfl (And.intro rfl trivial))))) ?_
        exact ih 0 (x4 + 1) s
      · refine j_aload_n 76 dX12_needInvited_75 rfl rfl ?_
        refine j_iload_n 77 dX12_needInvited_76 rfl rfl ?_
        refine j_iload 79 dX12_needInvited_77 rfl rfl ?_
        refine s_callVi (M2 := mX12_rowAt) [vI y1, vI x4] 82 oa68 cc12 mkX12_rowAt w_1410 dX12_needInvited_79 rfl rfl (tX12_rowAt Θ l _ _  _) (by first | exact Nat.le_of_ble_eq_true rfl | omega) (Nat.le_of_ble_eq_true rfl) (Nat.le_of_ble_eq_true rfl) (fun r19 s20 => ?_)
        refine j_iconst (v := 1) 83 dX12_needInvited_82 rfl (by decide) ?_
        refine j_bipush (v := 9) 85 dX12_needInvited_83 rfl (by decide) ?_
        refine s_callSi (M2 := mX12_in) [vI r19, vI 1, vI 9] 88 mkX12_in (Or.inl w_1380) dX12_needInvited_85 rfl rfl (tX12_in Θ l _ _ _  _) (by first | exact Nat.le_of_ble_eq_true rfl | omega) (Nat.le_of_ble_eq_true rfl) (Nat.le_of_ble_eq_true rfl) (fun r21 s22 => ?_)
        refine j_if_eq 111 91 dX12_needInvited_88 (by decide) rfl (fun c23 => ?_) (fun c23 => ?_)
        · refine j_iconst (v := 0) 112 dX12_needInvited_111 rfl (by decide) ?_
          refine j_istore_n (i := 3) (ls' := [some (vR 68), some (vI y1), some (vI y2), some (vI 0), some (vI x4)]) 113 dX12_needInvited_112 rfl rfl (by decide) rfl rfl ?_
          refine j_iinc (v := x4 + 1) (ls' := [some (vR 68), some (vI y1), some (vI y2), some (vI 0), some (vI (x4 + 1))]) 116 dX12_needInvited_113 rfl rfl rfl (by decide) rfl rfl ?_
          refine j_goto 60 dX12_needInvited_116 (by decide) ?_
          refine j_sub (ls' := [some (vR 68), some (vI y1), some (vI y2), some (vI 0), some (vI (x4 + 1))]) (And.intro rfl (And.intro rfl (And.intro rfl (And.intro rfl (And.intro rfl trivial))))) ?_
          exact ih 0 (x4 + 1) s22
        · refine j_aload_n 92 dX12_needInvited_91 rfl rfl ?_
          refine j_iload_n 93 dX12_needInvited_92 rfl rfl ?_
          refine j_iload 95 dX12_needInvited_93 rfl rfl ?_
          refine s_callVi (M2 := mX12_rowAt) [vI y2, vI x4] 98 oa68 cc12 mkX12_rowAt w_1410 dX12_needInvited_95 rfl rfl (tX12_rowAt Θ l _ _  _) (by first | exact Nat.le_of_ble_eq_true rfl | omega) (Nat.le_of_ble_eq_true rfl) (Nat.le_of_ble_eq_true rfl) (fun r24 s25 => ?_)
          refine j_iconst (v := 0) 99 dX12_needInvited_98 rfl (by decide) ?_
          refine j_bipush (v := 99) 101 dX12_needInvited_99 rfl (by decide) ?_
          refine s_callSi (M2 := mX12_in) [vI r24, vI 0, vI 99] 104 mkX12_in (Or.inl w_1380) dX12_needInvited_101 rfl rfl (tX12_in Θ l _ _ _  _) (by first | exact Nat.le_of_ble_eq_true rfl | omega) (Nat.le_of_ble_eq_true rfl) (Nat.le_of_ble_eq_true rfl) (fun r26 s27 => ?_)
          refine j_if_eq 111 107 dX12_needInvited_104 (by decide) rfl (fun c28 => ?_) (fun c28 => ?_)
          · refine j_iconst (v := 0) 112 dX12_needInvited_111 rfl (by decide) ?_
            refine j_istore_n (i := 3) (ls' := [some (vR 68), some (vI y1), some (vI y2), some (vI 0), some (vI x4)]) 113 dX12_needInvited_112 rfl rfl (by decide) rfl rfl ?_
            refine j_iinc (v := x4 + 1) (ls' := [some (vR 68), some (vI y1), some (vI y2), some (vI 0), some (vI (x4 + 1))]) 116 dX12_needInvited_113 rfl rfl rfl (by decide) rfl rfl ?_
            refine j_goto 60 dX12_needInvited_116 (by decide) ?_
            refine j_sub (ls' := [some (vR 68), some (vI y1), some (vI y2), some (vI 0), some (vI (x4 + 1))]) (And.intro rfl (And.intro rfl (And.intro rfl (And.intro rfl (And.intro rfl trivial))))) ?_
            exact ih 0 (x4 + 1) s27
          · refine j_iconst (v := 1) 108 dX12_needInvited_107 rfl (by decide) ?_
            refine j_goto 112 dX12_needInvited_108 (by decide) ?_
            refine j_istore_n (i := 3) (ls' := [some (vR 68), some (vI y1), some (vI y2), some (vI 1), some (vI x4)]) 113 dX12_needInvited_112 rfl rfl (by decide) rfl rfl ?_
            refine j_iinc (v := x4 + 1) (ls' := [some (vR 68), some (vI y1), some (vI y2), some (vI 1), some (vI (x4 + 1))]) 116 dX12_needInvited_113 rfl rfl rfl (by decide) rfl rfl ?_
            refine j_goto 60 dX12_needInvited_116 (by decide) ?_
            refine j_sub (ls' := [some (vR 68), some (vI y1), some (vI y2), some (vI 1), some (vI (x4 + 1))]) (And.intro rfl (And.intro rfl (And.intro rfl (And.intro rfl (And.intro rfl trivial))))) ?_
            exact ih 1 (x4 + 1) s27
    · refine j_sub (ls' := [some (vR 68), some (vI y1), some (vI y2), some (vI x3), none]) (And.intro rfl (And.intro rfl (And.intro rfl (And.intro rfl trivial)))) ?_
      exact hκ x3 s
theorem tX12_needInvited_L142 (Θ : Th) (l : Launch)  (κ : Mem → Option (Int32 × Mem)) (y1 : Int32) (y2 : Int32)  (hκ : ∀  (s : Mem), Js Θ l mX12_needInvited 2 gI 185 [none, none, none, none, none] [] s (κ  s)) : ∀ (k : Nat) (x4 : Int32) (s : Mem), Js Θ l mX12_needInvited 2 gI 142 [some (vR 68), some (vI y1), some (vI y2), none, some (vI x4)] [] s (fX12_needInvited_L142 κ y1 y2 k x4 s) := by
  intro k
  induction k with
  | zero => intro x4 s; exact j_none
  | succ k ih =>
    intro x4 s
    rw [fX12_needInvited_L142]
    refine j_iload 144 dX12_needInvited_142 rfl rfl ?_
    refine j_aload_n 145 dX12_needInvited_144 rfl rfl ?_
    refine s_getI 148 fa68_47 w_1253 dX12_needInvited_145 rfl ?_
    refine j_icmp_ge 185 151 dX12_needInvited_148 (by decide) rfl (fun c35 => ?_) (fun c35 => ?_)
    · refine j_aload_n 152 dX12_needInvited_151 rfl rfl ?_
      refine s_getR (x := 94) 155 fa68_48 w_1254 dX12_needInvited_152 rfl (by decide +kernel) ?_
      refine j_iload 157 dX12_needInvited_155 rfl rfl ?_
      refine j_aload_n 158 dX12_needInvited_157 rfl rfl ?_
      refine j_iload_n 159 dX12_needInvited_158 rfl rfl ?_
      refine j_iload 161 dX12_needInvited_159 rfl rfl ?_
      refine s_callVi (M2 := mX12_rowAt) [vI y1, vI x4] 164 oa68 cc12 mkX12_rowAt w_1410 dX12_needInvited_161 rfl rfl (tX12_rowAt Θ l _ _  _) (by first | exact Nat.le_of_ble_eq_true rfl | omega) (Nat.le_of_ble_eq_true rfl) (Nat.le_of_ble_eq_true rfl) (fun r36 s37 => ?_)
      refine s_iastore 165 aa94 dX12_needInvited_164 rfl (fun b38 => ?_)
      refine j_aload_n 166 dX12_needInvited_165 rfl rfl ?_
      refine s_getR (x := 95) 169 fa68_49 w_1255 dX12_needInvited_166 rfl (by decide +kernel) ?_
      refine j_iload 171 dX12_needInvited_169 rfl rfl ?_
      refine j_aload_n 172 dX12_needInvited_171 rfl rfl ?_
      refine j_iload_n 173 dX12_needInvited_172 rfl rfl ?_
      refine j_iload 175 dX12_needInvited_173 rfl rfl ?_
      refine s_callVi (M2 := mX12_rowAt) [vI y2, vI x4] 178 oa68 cc12 mkX12_rowAt w_1410 dX12_needInvited_175 rfl rfl (tX12_rowAt Θ l _ _  _) (by first | exact Nat.le_of_ble_eq_true rfl | omega) (Nat.le_of_ble_eq_true rfl) (Nat.le_of_ble_eq_true rfl) (fun r39 s40 => ?_)
      refine s_iastore 179 aa95 dX12_needInvited_178 rfl (fun b41 => ?_)
      refine j_iinc (v := x4 + 1) (ls' := [some (vR 68), some (vI y1), some (vI y2), none, some (vI (x4 + 1))]) 182 dX12_needInvited_179 rfl rfl rfl (by decide) rfl rfl ?_
      refine j_goto 142 dX12_needInvited_182 (by decide) ?_
      refine j_sub (ls' := [some (vR 68), some (vI y1), some (vI y2), none, some (vI (x4 + 1))]) (And.intro rfl (And.intro rfl (And.intro rfl (And.intro rfl trivial)))) ?_
      exact ih (x4 + 1) (wI s40 95 (ix x4) r39)
    · refine j_sub (ls' := [none, none, none, none, none]) (trivial) ?_
      exact hκ s
theorem tX12_needInvited (Θ : Th) (l : Launch)  (a1 : Int32) (a2 : Int32)  (s : Mem) : Cs Θ l mX12_needInvited 2 gI [vR 68, vI a1, vI a2] s (fX12_needInvited a1 a2 s) := by
  refine ct_of (by decide) [some (vR 68), some (vI a1), some (vI a2), none, none] rfl (Nat.le_of_ble_eq_true rfl) ?_
  unfold fX12_needInvited
  refine j_aload_n 1 dX12_needInvited_0 rfl rfl ?_
  refine s_getR (x := 70) 4 fa68_5 w_1211 dX12_needInvited_1 rfl (by decide +kernel) ?_
  refine j_iload_n 5 dX12_needInvited_4 rfl rfl ?_
  refine s_iaload 6 aa70 dX12_needInvited_5 rfl (fun b1 => ?_)
  refine j_if_lt 18 9 dX12_needInvited_6 (by decide) rfl (fun c2 => ?_) (fun c2 => ?_)
  · refine j_aload_n 19 dX12_needInvited_18 rfl rfl ?_
    refine j_iconst (v := 1) 20 dX12_needInvited_19 rfl (by decide) ?_
    refine s_callVi (M2 := mX12_meets) [vI 1] 23 oa68 cc12 mkX12_meets w_1402 dX12_needInvited_20 rfl rfl (tX12_meets Θ l _  _) (by first | exact Nat.le_of_ble_eq_true rfl | omega) (Nat.le_of_ble_eq_true rfl) (Nat.le_of_ble_eq_true rfl) (fun r3 s4 => ?_)
    exact s_iret dX12_needInvited_23 rfl
  · refine j_aload_n 10 dX12_needInvited_9 rfl rfl ?_
    refine s_getR (x := 70) 13 fa68_5 w_1211 dX12_needInvited_10 rfl (by decide +kernel) ?_
    refine j_iload_n 14 dX12_needInvited_13 rfl rfl ?_
    refine s_iaload 15 aa70 dX12_needInvited_14 rfl (fun b5 => ?_)
    refine j_if_ge 24 18 dX12_needInvited_15 (by decide) rfl (fun c6 => ?_) (fun c6 => ?_)
    · refine j_aload_n 19 dX12_needInvited_18 rfl rfl ?_
      refine j_iconst (v := 1) 20 dX12_needInvited_19 rfl (by decide) ?_
      refine s_callVi (M2 := mX12_meets) [vI 1] 23 oa68 cc12 mkX12_meets w_1402 dX12_needInvited_20 rfl rfl (tX12_meets Θ l _  _) (by first | exact Nat.le_of_ble_eq_true rfl | omega) (Nat.le_of_ble_eq_true rfl) (Nat.le_of_ble_eq_true rfl) (fun r7 s8 => ?_)
      exact s_iret dX12_needInvited_23 rfl
    · refine j_aload_n 25 dX12_needInvited_24 rfl rfl ?_
      refine s_getR (x := 70) 28 fa68_5 w_1211 dX12_needInvited_25 rfl (by decide +kernel) ?_
      refine j_iload_n 29 dX12_needInvited_28 rfl rfl ?_
      refine s_iaload 30 aa70 dX12_needInvited_29 rfl (fun b9 => ?_)
      refine j_iconst (v := 4) 31 dX12_needInvited_30 rfl (by decide) ?_
      refine j_icmp_gt 49 34 dX12_needInvited_31 (by decide) rfl (fun c10 => ?_) (fun c10 => ?_)
      · refine j_aload_n 50 dX12_needInvited_49 rfl rfl ?_
        refine j_iconst (v := 5) 51 dX12_needInvited_50 rfl (by decide) ?_
        refine s_callVi (M2 := mX12_meets) [vI 5] 54 oa68 cc12 mkX12_meets w_1402 dX12_needInvited_51 rfl rfl (tX12_meets Θ l _  _) (by first | exact Nat.le_of_ble_eq_true rfl | omega) (Nat.le_of_ble_eq_true rfl) (Nat.le_of_ble_eq_true rfl) (fun r11 s12 => ?_)
        exact s_iret dX12_needInvited_54 rfl
      · refine j_aload_n 35 dX12_needInvited_34 rfl rfl ?_
        refine s_getR (x := 70) 38 fa68_5 w_1211 dX12_needInvited_35 rfl (by decide +kernel) ?_
        refine j_iload_n 39 dX12_needInvited_38 rfl rfl ?_
        refine s_iaload 40 aa70 dX12_needInvited_39 rfl (fun b13 => ?_)
        refine j_aload_n 41 dX12_needInvited_40 rfl rfl ?_
        refine s_getR (x := 70) 44 fa68_5 w_1211 dX12_needInvited_41 rfl (by decide +kernel) ?_
        refine j_iload_n 45 dX12_needInvited_44 rfl rfl ?_
        refine s_iaload 46 aa70 dX12_needInvited_45 rfl (fun b14 => ?_)
        refine j_icmp_eq 55 49 dX12_needInvited_46 (by decide) rfl (fun c15 => ?_) (fun c15 => ?_)
        · refine j_iconst (v := 1) 56 dX12_needInvited_55 rfl (by decide) ?_
          refine j_istore_n (i := 3) (ls' := [some (vR 68), some (vI a1), some (vI a2), some (vI 1), none]) 57 dX12_needInvited_56 rfl rfl (by decide) rfl rfl ?_
          refine j_iconst (v := 0) 58 dX12_needInvited_57 rfl (by decide) ?_
          refine j_istore (i := 4) (ls' := [some (vR 68), some (vI a1), some (vI a2), some (vI 1), some (vI 0)]) 60 dX12_needInvited_58 rfl (by decide) rfl rfl ?_
          refine j_sub (ls' := [some (vR 68), some (vI a1), some (vI a2), some (vI 1), some (vI 0)]) (And.intro rfl (And.intro rfl (And.intro rfl (And.intro rfl (And.intro rfl trivial))))) ?_
          refine tX12_needInvited_L60 Θ l _ _ _  ?_ _ _ _ _
          intro v29 s30
          refine j_iload_n 120 dX12_needInvited_119 rfl rfl ?_
          refine j_if_ne 129 123 dX12_needInvited_120 (by decide) rfl (fun c31 => ?_) (fun c31 => ?_)
          · refine j_aload_n 124 dX12_needInvited_123 rfl rfl ?_
            refine j_iconst (v := 3) 125 dX12_needInvited_124 rfl (by decide) ?_
            refine s_callVi (M2 := mX12_meets) [vI 3] 128 oa68 cc12 mkX12_meets w_1402 dX12_needInvited_125 rfl rfl (tX12_meets Θ l _  _) (by first | exact Nat.le_of_ble_eq_true rfl | omega) (Nat.le_of_ble_eq_true rfl) (Nat.le_of_ble_eq_true rfl) (fun r32 s33 => ?_)
            exact s_iret dX12_needInvited_128 rfl
          · refine j_aload_n 130 dX12_needInvited_129 rfl rfl ?_
            refine j_aload_n 131 dX12_needInvited_130 rfl rfl ?_
            refine s_getR (x := 70) 134 fa68_5 w_1211 dX12_needInvited_131 rfl (by decide +kernel) ?_
            refine j_iload_n 135 dX12_needInvited_134 rfl rfl ?_
            refine s_iaload 136 aa70 dX12_needInvited_135 rfl (fun b34 => ?_)
            refine s_putI 139 fa68_47 w_1253 dX12_needInvited_136 rfl ?_
            refine j_iconst (v := 0) 140 dX12_needInvited_139 rfl (by decide) ?_
            refine j_istore (i := 4) (ls' := [some (vR 68), some (vI a1), some (vI a2), some (vI v29), some (vI 0)]) 142 dX12_needInvited_140 rfl (by decide) rfl rfl ?_
            refine j_sub (ls' := [some (vR 68), some (vI a1), some (vI a2), none, some (vI 0)]) (And.intro rfl (And.intro rfl (And.intro rfl (And.intro rfl trivial)))) ?_
            refine tX12_needInvited_L142 Θ l _ _ _  ?_ _ _ _
            intro s42
            refine j_iconst (v := 0) 186 dX12_needInvited_185 rfl (by decide) ?_
            exact s_iret dX12_needInvited_186 rfl
        · refine j_aload_n 50 dX12_needInvited_49 rfl rfl ?_
          refine j_iconst (v := 5) 51 dX12_needInvited_50 rfl (by decide) ?_
          refine s_callVi (M2 := mX12_meets) [vI 5] 54 oa68 cc12 mkX12_meets w_1402 dX12_needInvited_51 rfl rfl (tX12_meets Θ l _  _) (by first | exact Nat.le_of_ble_eq_true rfl | omega) (Nat.le_of_ble_eq_true rfl) (Nat.le_of_ble_eq_true rfl) (fun r43 s44 => ?_)
          exact s_iret dX12_needInvited_54 rfl
-- X12_layInvited
def fX12_layInvited_L39 (rec : Int32 → Int32 → Int32 → Mem → Option (Unit × Mem)) (κ : Mem → Option (Unit × Mem)) (y1 : Int32) : Nat → Int32 → Mem → Option (Unit × Mem)
  | 0, _, _ => none
  | k + 1, x4, s =>
    if x4 < y1 then
      if inb x4 4 = true then
      if inb x4 4 = true then
      fX12_layInvited_L39 rec κ y1 k (x4 + 1) (wI s 97 (ix x4) (s.1 96 (ix x4)))
      else none
      else none
    else
      κ s
def fX12_layInvited_L69 (rec : Int32 → Int32 → Int32 → Mem → Option (Unit × Mem)) (κ : Mem → Option (Unit × Mem)) (y1 : Int32) (y2 : Int32) (y3 : Int32) : Nat → Int32 → Mem → Option (Unit × Mem)
  | 0, _, _ => none
  | k + 1, x4, s =>
    if x4 < (s.1 68 10) then
      if inb x4 8 = true then
      if 0 < (s.1 98 (ix x4)) then
        if inb x4 8 = true then
        if inb x4 8 = true then
        if inb y1 4 = true then
        if inb x4 8 = true then
        if inb y1 4 = true then
        if inb y1 4 = true then
        bnd (rec (y1 + 1) (y2 + (((wI (wI s 98 (ix x4) ((s.1 98 (ix x4)) - 1)) 96 (ix y1) x4).1 75 (ix x4)) * ((wI (wI s 98 (ix x4) ((s.1 98 (ix x4)) - 1)) 96 (ix y1) x4).1 94 (ix y1)))) (y3 + ((wI (wI s 98 (ix x4) ((s.1 98 (ix x4)) - 1)) 96 (ix y1) x4).1 95 (ix y1))) (wI (wI s 98 (ix x4) ((s.1 98 (ix x4)) - 1)) 96 (ix y1) x4)) (fun r21 s22 =>
        if inb x4 8 = true then
        if inb x4 8 = true then
        fX12_layInvited_L69 rec κ y1 y2 y3 k (x4 + 1) (wI s22 98 (ix x4) ((s22.1 98 (ix x4)) + 1))
        else none
        else none)
        else none
        else none
        else none
        else none
        else none
        else none
      else
        fX12_layInvited_L69 rec κ y1 y2 y3 k (x4 + 1) s
      else none
    else
      κ s
def fX12_layInvited_B (rec : Int32 → Int32 → Int32 → Mem → Option (Unit × Mem)) (a1 : Int32) (a2 : Int32) (a3 : Int32) (s : Mem) : Option (Unit × Mem) :=
if a1 = (s.1 68 47) then
  bnd (fX12_isLevel a2 s) (fun r2 s3 =>
  if r2 = 0 then
    some ((), s3)
  else
    if (s3.1 68 53) < 0 then
      fX12_layInvited_L39 rec (fun s9 =>
        some ((), s9)) a1 FU 0 (wI s3 68 53 a3)
    else
      if a3 < (s3.1 68 53) then
        fX12_layInvited_L39 rec (fun s11 =>
          some ((), s11)) a1 FU 0 (wI s3 68 53 a3)
      else
        some ((), s3))
else
  fX12_layInvited_L69 rec (fun s25 =>
    if inb a1 4 = true then
    bnd (rec (a1 + 1) a2 a3 (wI s25 96 (ix a1) (-9))) (fun r27 s28 =>
    some ((), s28))
    else none) a1 a2 a3 FU 0 s
theorem tX12_layInvited_L39 (Θ : Th) (l : Launch) (rec : Int32 → Int32 → Int32 → Mem → Option (Unit × Mem)) (κ : Mem → Option (Unit × Mem)) (y1 : Int32)  {hr : Nat} (hr9 : 9 ≤ hr) (hrec : ∀ (a1 : Int32) (a2 : Int32) (a3 : Int32) (s : Mem), Cs Θ l mX12_layInvited hr gU [vR 68, vI a1, vI a2, vI a3] s (rec a1 a2 a3 s)) (hκ : ∀  (s : Mem), Js Θ l mX12_layInvited (hr + 2) gU 65 [none, none, none, none, none] [] s (κ  s)) : ∀ (k : Nat) (x4 : Int32) (s : Mem), Js Θ l mX12_layInvited (hr + 2) gU 39 [some (vR 68), some (vI y1), none, none, some (vI x4)] [] s (fX12_layInvited_L39 rec κ y1 k x4 s) := by
  intro k
  induction k with
  | zero => intro x4 s; exact j_none
  | succ k ih =>
    intro x4 s
    rw [fX12_layInvited_L39]
    refine j_iload 41 dX12_layInvited_39 rfl rfl ?_
    refine j_iload_n 42 dX12_layInvited_41 rfl rfl ?_
    refine j_icmp_ge 65 45 dX12_layInvited_42 (by decide) rfl (fun c6 => ?_) (fun c6 => ?_)
    · refine j_aload_n 46 dX12_layInvited_45 rfl rfl ?_
      refine s_getR (x := 97) 49 fa68_51 w_1257 dX12_layInvited_46 rfl (by decide +kernel) ?_
      refine j_iload 51 dX12_layInvited_49 rfl rfl ?_
      refine j_aload_n 52 dX12_layInvited_51 rfl rfl ?_
      refine s_getR (x := 96) 55 fa68_50 w_1256 dX12_layInvited_52 rfl (by decide +kernel) ?_
      refine j_iload 57 dX12_layInvited_55 rfl rfl ?_
      refine s_iaload 58 aa96 dX12_layInvited_57 rfl (fun b7 => ?_)
      refine s_iastore 59 aa97 dX12_layInvited_58 rfl (fun b8 => ?_)
      refine j_iinc (v := x4 + 1) (ls' := [some (vR 68), some (vI y1), none, none, some (vI (x4 + 1))]) 62 dX12_layInvited_59 rfl rfl rfl (by decide) rfl rfl ?_
      refine j_goto 39 dX12_layInvited_62 (by decide) ?_
      refine j_sub (ls' := [some (vR 68), some (vI y1), none, none, some (vI (x4 + 1))]) (And.intro rfl (And.intro rfl (And.intro rfl trivial))) ?_
      exact ih (x4 + 1) (wI s 97 (ix x4) (s.1 96 (ix x4)))
    · refine j_sub (ls' := [none, none, none, none, none]) (trivial) ?_
      exact hκ s
theorem tX12_layInvited_L69 (Θ : Th) (l : Launch) (rec : Int32 → Int32 → Int32 → Mem → Option (Unit × Mem)) (κ : Mem → Option (Unit × Mem)) (y1 : Int32) (y2 : Int32) (y3 : Int32)  {hr : Nat} (hr9 : 9 ≤ hr) (hrec : ∀ (a1 : Int32) (a2 : Int32) (a3 : Int32) (s : Mem), Cs Θ l mX12_layInvited hr gU [vR 68, vI a1, vI a2, vI a3] s (rec a1 a2 a3 s)) (hκ : ∀  (s : Mem), Js Θ l mX12_layInvited (hr + 2) gU 155 [some (vR 68), some (vI y1), some (vI y2), some (vI y3), none] [] s (κ  s)) : ∀ (k : Nat) (x4 : Int32) (s : Mem), Js Θ l mX12_layInvited (hr + 2) gU 69 [some (vR 68), some (vI y1), some (vI y2), some (vI y3), some (vI x4)] [] s (fX12_layInvited_L69 rec κ y1 y2 y3 k x4 s) := by
  intro k
  induction k with
  | zero => intro x4 s; exact j_none
  | succ k ih =>
    intro x4 s
    rw [fX12_layInvited_L69]
    refine j_iload 71 dX12_layInvited_69 rfl rfl ?_
    refine j_aload_n 72 dX12_layInvited_71 rfl rfl ?_
    refine s_getI 75 fa68_10 w_1216 dX12_layInvited_72 rfl ?_
    refine j_icmp_ge 155 78 dX12_layInvited_75 (by decide) rfl (fun c12 => ?_) (fun c12 => ?_)
    · refine j_aload_n 79 dX12_layInvited_78 rfl rfl ?_
      refine s_getR (x := 98) 82 fa68_52 w_1258 dX12_layInvited_79 rfl (by decide +kernel) ?_
      refine j_iload 84 dX12_layInvited_82 rfl rfl ?_
      refine s_iaload 85 aa98 dX12_layInvited_84 rfl (fun b13 => ?_)
      refine j_if_le 149 88 dX12_layInvited_85 (by decide) rfl (fun c14 => ?_) (fun c14 => ?_)
      · refine j_aload_n 89 dX12_layInvited_88 rfl rfl ?_
        refine s_getR (x := 98) 92 fa68_52 w_1258 dX12_layInvited_89 rfl (by decide +kernel) ?_
        refine j_iload 94 dX12_layInvited_92 rfl rfl ?_
        refine j_dup2 95 dX12_layInvited_94 rfl rfl rfl ?_
        refine s_iaload 96 aa98 dX12_layInvited_95 rfl (fun b15 => ?_)
        refine j_iconst (v := 1) 97 dX12_layInvited_96 rfl (by decide) ?_
        refine j_isub 98 dX12_layInvited_97 rfl ?_
        refine s_iastore 99 aa98 dX12_layInvited_98 rfl (fun b16 => ?_)
        refine j_aload_n 100 dX12_layInvited_99 rfl rfl ?_
        refine s_getR (x := 96) 103 fa68_50 w_1256 dX12_layInvited_100 rfl (by decide +kernel) ?_
        refine j_iload_n 104 dX12_layInvited_103 rfl rfl ?_
        refine j_iload 106 dX12_layInvited_104 rfl rfl ?_
        refine s_iastore 107 aa96 dX12_layInvited_106 rfl (fun b17 => ?_)
        refine j_aload_n 108 dX12_layInvited_107 rfl rfl ?_
        refine j_iload_n 109 dX12_layInvited_108 rfl rfl ?_
        refine j_iconst (v := 1) 110 dX12_layInvited_109 rfl (by decide) ?_
        refine j_iadd 111 dX12_layInvited_110 rfl ?_
        refine j_iload_n 112 dX12_layInvited_111 rfl rfl ?_
        refine j_aload_n 113 dX12_layInvited_112 rfl rfl ?_
        refine s_getR (x := 75) 116 fa68_11 w_1217 dX12_layInvited_113 rfl (by decide +kernel) ?_
        refine j_iload 118 dX12_layInvited_116 rfl rfl ?_
        refine s_iaload 119 aa75 dX12_layInvited_118 rfl (fun b18 => ?_)
        refine j_aload_n 120 dX12_layInvited_119 rfl rfl ?_
        refine s_getR (x := 94) 123 fa68_48 w_1254 dX12_layInvited_120 rfl (by decide +kernel) ?_
        refine j_iload_n 124 dX12_layInvited_123 rfl rfl ?_
        refine s_iaload 125 aa94 dX12_layInvited_124 rfl (fun b19 => ?_)
        refine j_imul 126 dX12_layInvited_125 rfl ?_
        refine j_iadd 127 dX12_layInvited_126 rfl ?_
        refine j_iload_n 128 dX12_layInvited_127 rfl rfl ?_
        refine j_aload_n 129 dX12_layInvited_128 rfl rfl ?_
        refine s_getR (x := 95) 132 fa68_49 w_1255 dX12_layInvited_129 rfl (by decide +kernel) ?_
        refine j_iload_n 133 dX12_layInvited_132 rfl rfl ?_
        refine s_iaload 134 aa95 dX12_layInvited_133 rfl (fun b20 => ?_)
        refine j_iadd 135 dX12_layInvited_134 rfl ?_
        refine s_callVu (M2 := mX12_layInvited) [vI (y1 + 1), vI (y2 + (((wI (wI s 98 (ix x4) ((s.1 98 (ix x4)) - 1)) 96 (ix y1) x4).1 75 (ix x4)) * ((wI (wI s 98 (ix x4) ((s.1 98 (ix x4)) - 1)) 96 (ix y1) x4).1 94 (ix y1)))), vI (y3 + ((wI (wI s 98 (ix x4) ((s.1 98 (ix x4)) - 1)) 96 (ix y1) x4).1 95 (ix y1)))] 138 oa68 cc12 mkX12_layInvited w_1716 dX12_layInvited_135 rfl rfl (hrec _ _ _ _) (by omega) (Nat.le_of_ble_eq_true rfl) (Nat.le_of_ble_eq_true rfl) (fun r21 s22 => ?_)
        refine j_aload_n 139 dX12_layInvited_138 rfl rfl ?_
        refine s_getR (x := 98) 142 fa68_52 w_1258 dX12_layInvited_139 rfl (by decide +kernel) ?_
        refine j_iload 144 dX12_layInvited_142 rfl rfl ?_
        refine j_dup2 145 dX12_layInvited_144 rfl rfl rfl ?_
        refine s_iaload 146 aa98 dX12_layInvited_145 rfl (fun b23 => ?_)
        refine j_iconst (v := 1) 147 dX12_layInvited_146 rfl (by decide) ?_
        refine j_iadd 148 dX12_layInvited_147 rfl ?_
        refine s_iastore 149 aa98 dX12_layInvited_148 rfl (fun b24 => ?_)
        refine j_iinc (v := x4 + 1) (ls' := [some (vR 68), some (vI y1), some (vI y2), some (vI y3), some (vI (x4 + 1))]) 152 dX12_layInvited_149 rfl rfl rfl (by decide) rfl rfl ?_
        refine j_goto 69 dX12_layInvited_152 (by decide) ?_
        refine j_sub (ls' := [some (vR 68), some (vI y1), some (vI y2), some (vI y3), some (vI (x4 + 1))]) (And.intro rfl (And.intro rfl (And.intro rfl (And.intro rfl (And.intro rfl trivial))))) ?_
        exact ih (x4 + 1) (wI s22 98 (ix x4) ((s22.1 98 (ix x4)) + 1))
      · refine j_iinc (v := x4 + 1) (ls' := [some (vR 68), some (vI y1), some (vI y2), some (vI y3), some (vI (x4 + 1))]) 152 dX12_layInvited_149 rfl rfl rfl (by decide) rfl rfl ?_
        refine j_goto 69 dX12_layInvited_152 (by decide) ?_
        refine j_sub (ls' := [some (vR 68), some (vI y1), some (vI y2), some (vI y3), some (vI (x4 + 1))]) (And.intro rfl (And.intro rfl (And.intro rfl (And.intro rfl (And.intro rfl trivial))))) ?_
        exact ih (x4 + 1) s
    · refine j_sub (ls' := [some (vR 68), some (vI y1), some (vI y2), some (vI y3), none]) (And.intro rfl (And.intro rfl (And.intro rfl (And.intro rfl trivial)))) ?_
      exact hκ s
theorem tX12_layInvited_B (Θ : Th) (l : Launch) (rec : Int32 → Int32 → Int32 → Mem → Option (Unit × Mem)) (a1 : Int32) (a2 : Int32) (a3 : Int32)  {hr : Nat} (hr9 : 9 ≤ hr) (hrec : ∀ (a1 : Int32) (a2 : Int32) (a3 : Int32) (s : Mem), Cs Θ l mX12_layInvited hr gU [vR 68, vI a1, vI a2, vI a3] s (rec a1 a2 a3 s)) (s : Mem) : Cs Θ l mX12_layInvited (hr + 2) gU [vR 68, vI a1, vI a2, vI a3] s (fX12_layInvited_B rec a1 a2 a3 s) := by
  refine ct_of (by decide) [some (vR 68), some (vI a1), some (vI a2), some (vI a3), none] rfl (Nat.le_of_ble_eq_true rfl) ?_
  unfold fX12_layInvited_B
  refine j_iload_n 1 dX12_layInvited_0 rfl rfl ?_
  refine j_aload_n 2 dX12_layInvited_1 rfl rfl ?_
  refine s_getI 5 fa68_47 w_1253 dX12_layInvited_2 rfl ?_
  refine j_icmp_ne 66 8 dX12_layInvited_5 (by decide) rfl (fun c1 => ?_) (fun c1 => ?_)
  · refine j_aload_n 9 dX12_layInvited_8 rfl rfl ?_
    refine j_iload_n 10 dX12_layInvited_9 rfl rfl ?_
    refine s_callVi (M2 := mX12_isLevel) [vI a2] 13 oa68 cc12 mkX12_isLevel w_1628 dX12_layInvited_10 rfl rfl (tX12_isLevel Θ l _  _) (by first | exact Nat.le_of_ble_eq_true rfl | omega) (Nat.le_of_ble_eq_true rfl) (Nat.le_of_ble_eq_true rfl) (fun r2 s3 => ?_)
    refine j_if_eq 65 16 dX12_layInvited_13 (by decide) rfl (fun c4 => ?_) (fun c4 => ?_)
    · exact s_ret dX12_layInvited_65 rfl
    · refine j_aload_n 17 dX12_layInvited_16 rfl rfl ?_
      refine s_getI 20 fa68_53 w_1259 dX12_layInvited_17 rfl ?_
      refine j_if_lt 31 23 dX12_layInvited_20 (by decide) rfl (fun c5 => ?_) (fun c5 => ?_)
      · refine j_aload_n 32 dX12_layInvited_31 rfl rfl ?_
        refine j_iload_n 33 dX12_layInvited_32 rfl rfl ?_
        refine s_putI 36 fa68_53 w_1259 dX12_layInvited_33 rfl ?_
        refine j_iconst (v := 0) 37 dX12_layInvited_36 rfl (by decide) ?_
        refine j_istore (i := 4) (ls' := [some (vR 68), some (vI a1), some (vI a2), some (vI a3), some (vI 0)]) 39 dX12_layInvited_37 rfl (by decide) rfl rfl ?_
        refine j_sub (ls' := [some (vR 68), some (vI a1), none, none, some (vI 0)]) (And.intro rfl (And.intro rfl (And.intro rfl trivial))) ?_
        refine tX12_layInvited_L39 Θ l rec _ _  hr9 hrec ?_ _ _ _
        intro s9
        exact s_ret dX12_layInvited_65 rfl
      · refine j_iload_n 24 dX12_layInvited_23 rfl rfl ?_
        refine j_aload_n 25 dX12_layInvited_24 rfl rfl ?_
        refine s_getI 28 fa68_53 w_1259 dX12_layInvited_25 rfl ?_
        refine j_icmp_ge 65 31 dX12_layInvited_28 (by decide) rfl (fun c10 => ?_) (fun c10 => ?_)
        · refine j_aload_n 32 dX12_layInvited_31 rfl rfl ?_
          refine j_iload_n 33 dX12_layInvited_32 rfl rfl ?_
          refine s_putI 36 fa68_53 w_1259 dX12_layInvited_33 rfl ?_
          refine j_iconst (v := 0) 37 dX12_layInvited_36 rfl (by decide) ?_
          refine j_istore (i := 4) (ls' := [some (vR 68), some (vI a1), some (vI a2), some (vI a3), some (vI 0)]) 39 dX12_layInvited_37 rfl (by decide) rfl rfl ?_
          refine j_sub (ls' := [some (vR 68), some (vI a1), none, none, some (vI 0)]) (And.intro rfl (And.intro rfl (And.intro rfl trivial))) ?_
          refine tX12_layInvited_L39 Θ l rec _ _  hr9 hrec ?_ _ _ _
          intro s11
          exact s_ret dX12_layInvited_65 rfl
        · exact s_ret dX12_layInvited_65 rfl
  · refine j_iconst (v := 0) 67 dX12_layInvited_66 rfl (by decide) ?_
    refine j_istore (i := 4) (ls' := [some (vR 68), some (vI a1), some (vI a2), some (vI a3), some (vI 0)]) 69 dX12_layInvited_67 rfl (by decide) rfl rfl ?_
    refine j_sub (ls' := [some (vR 68), some (vI a1), some (vI a2), some (vI a3), some (vI 0)]) (And.intro rfl (And.intro rfl (And.intro rfl (And.intro rfl (And.intro rfl trivial))))) ?_
    refine tX12_layInvited_L69 Θ l rec _ _ _ _  hr9 hrec ?_ _ _ _
    intro s25
    refine j_aload_n 156 dX12_layInvited_155 rfl rfl ?_
    refine s_getR (x := 96) 159 fa68_50 w_1256 dX12_layInvited_156 rfl (by decide +kernel) ?_
    refine j_iload_n 160 dX12_layInvited_159 rfl rfl ?_
    refine j_bipush (v := (-9)) 162 dX12_layInvited_160 rfl (by decide) ?_
    refine s_iastore 163 aa96 dX12_layInvited_162 rfl (fun b26 => ?_)
    refine j_aload_n 164 dX12_layInvited_163 rfl rfl ?_
    refine j_iload_n 165 dX12_layInvited_164 rfl rfl ?_
    refine j_iconst (v := 1) 166 dX12_layInvited_165 rfl (by decide) ?_
    refine j_iadd 167 dX12_layInvited_166 rfl ?_
    refine j_iload_n 168 dX12_layInvited_167 rfl rfl ?_
    refine j_iload_n 169 dX12_layInvited_168 rfl rfl ?_
    refine s_callVu (M2 := mX12_layInvited) [vI (a1 + 1), vI a2, vI a3] 172 oa68 cc12 mkX12_layInvited w_1716 dX12_layInvited_169 rfl rfl (hrec _ _ _ _) (by omega) (Nat.le_of_ble_eq_true rfl) (Nat.le_of_ble_eq_true rfl) (fun r27 s28 => ?_)
    exact s_ret dX12_layInvited_172 rfl
-- X12_layInvited_rec
def fX12_layInvited : Nat → Int32 → Int32 → Int32 → Mem → Option (Unit × Mem)
  | 0, _, _, _, _ => none
  | k + 1, a1, a2, a3, s => fX12_layInvited_B (fX12_layInvited k) a1 a2 a3 s
theorem tX12_layInvited (Θ : Th) (l : Launch) : ∀ (k : Nat) (a1 : Int32) (a2 : Int32) (a3 : Int32) (s : Mem), Cs Θ l mX12_layInvited (2 * k + 9) gU [vR 68, vI a1, vI a2, vI a3] s (fX12_layInvited k a1 a2 a3 s) := by
  intro k
  induction k with
  | zero => intro a1 a2 a3 s r s' ho; cases ho
  | succ k ih =>
    intro a1 a2 a3 s
    exact tX12_layInvited_B Θ l (fX12_layInvited k) a1 a2 a3 (hr := 2 * k + 9) (by omega) ih s
-- X12_invite
def fX12_invite_L52  (κ : Mem → Option (Int32 × Mem)) (y3 : Int32) : Nat → Int32 → Mem → Option (Int32 × Mem)
  | 0, _, _ => none
  | k + 1, x5, s =>
    if x5 < (s.1 68 10) then
      bnd (fX12_takenOn x5 s) (fun r15 s16 =>
      if inb x5 8 = true then
      fX12_invite_L52 κ y3 k (x5 + 1) (wI s16 98 (ix x5) (2 - r15))
      else none)
    else
      κ s
def fX12_invite_L125  (κ : Mem → Option (Int32 × Mem)) (y3 : Int32) : Nat → Int32 → Mem → Option (Int32 × Mem)
  | 0, _, _ => none
  | k + 1, x5, s =>
    if x5 < 60 then
      if x5 < (s.1 68 47) then
        if inb x5 4 = true then
        if inb ((60 * y3) + x5) 360 = true then
        fX12_invite_L125 κ y3 k (x5 + 1) (wI s 71 (ix ((60 * y3) + x5)) (s.1 97 (ix x5)))
        else none
        else none
      else
        if inb ((60 * y3) + x5) 360 = true then
        fX12_invite_L125 κ y3 k (x5 + 1) (wI s 71 (ix ((60 * y3) + x5)) 0)
        else none
    else
      κ s
def fX12_invite  (a1 : Int32) (a2 : Int32) (a3 : Int32) (s : Mem) : Option (Int32 × Mem) :=
bnd (fX12_isRow a1 s) (fun r1 s2 =>
if r1 = 0 then
  some ((-1), s2)
else
  bnd (fX12_isRow a2 s2) (fun r4 s5 =>
  if r4 = 0 then
    some ((-1), s5)
  else
    bnd (fX12_isRow a3 s5) (fun r7 s8 =>
    if r7 = 0 then
      some ((-1), s8)
    else
      if (s8.1 68 10) = 0 then
        some ((-4), s8)
      else
        bnd (fX12_needInvited a1 a2 s8) (fun r11 s12 =>
        if r11 < 0 then
          some (r11, s12)
        else
          fX12_invite_L52 (fun s18 =>
            bnd (fX12_listOf 0 ((wI s18 68 53 (-1)).1 68 18) (wI s18 68 53 (-1))) (fun r19 s20 =>
            bnd (fX12_layInvited 9 0 r19 0 s20) (fun r21 s22 =>
            if (s22.1 68 53) < 0 then
              some ((-9), s22)
            else
              if inb a3 6 = true then
              fX12_invite_L125 (fun s30 =>
                some (s30.1 68 53, s30)) a3 FU 0 (wI s22 70 (ix a3) (s22.1 68 47))
              else none))) a3 FU 0 s12))))
theorem tX12_invite_L52 (Θ : Th) (l : Launch)  (κ : Mem → Option (Int32 × Mem)) (y3 : Int32)  (hκ : ∀  (s : Mem), Js Θ l mX12_invite 28 gI 82 [some (vR 68), none, none, some (vI y3), none, none] [] s (κ  s)) : ∀ (k : Nat) (x5 : Int32) (s : Mem), Js Θ l mX12_invite 28 gI 52 [some (vR 68), none, none, some (vI y3), none, some (vI x5)] [] s (fX12_invite_L52 κ y3 k x5 s) := by
  intro k
  induction k with
  | zero => intro x5 s; exact j_none
  | succ k ih =>
    intro x5 s
    rw [fX12_invite_L52]
    refine j_iload 54 dX12_invite_52 rfl rfl ?_
    refine j_aload_n 55 dX12_invite_54 rfl rfl ?_
    refine s_getI 58 fa68_10 w_1216 dX12_invite_55 rfl ?_
    refine j_icmp_ge 82 61 dX12_invite_58 (by decide) rfl (fun c14 => ?_) (fun c14 => ?_)
    · refine j_aload_n 62 dX12_invite_61 rfl rfl ?_
      refine s_getR (x := 98) 65 fa68_52 w_1258 dX12_invite_62 rfl (by decide +kernel) ?_
      refine j_iload 67 dX12_invite_65 rfl rfl ?_
      refine j_iconst (v := 2) 68 dX12_invite_67 rfl (by decide) ?_
      refine j_aload_n 69 dX12_invite_68 rfl rfl ?_
      refine j_iload 71 dX12_invite_69 rfl rfl ?_
      refine s_callVi (M2 := mX12_takenOn) [vI x5] 74 oa68 cc12 mkX12_takenOn w_1499 dX12_invite_71 rfl rfl (tX12_takenOn Θ l _  _) (by first | exact Nat.le_of_ble_eq_true rfl | omega) (Nat.le_of_ble_eq_true rfl) (Nat.le_of_ble_eq_true rfl) (fun r15 s16 => ?_)
      refine j_isub 75 dX12_invite_74 rfl ?_
      refine s_iastore 76 aa98 dX12_invite_75 rfl (fun b17 => ?_)
      refine j_iinc (v := x5 + 1) (ls' := [some (vR 68), none, none, some (vI y3), none, some (vI (x5 + 1))]) 79 dX12_invite_76 rfl rfl rfl (by decide) rfl rfl ?_
      refine j_goto 52 dX12_invite_79 (by decide) ?_
      refine j_sub (ls' := [some (vR 68), none, none, some (vI y3), none, some (vI (x5 + 1))]) (And.intro rfl (And.intro rfl (And.intro rfl trivial))) ?_
      exact ih (x5 + 1) (wI s16 98 (ix x5) (2 - r15))
    · refine j_sub (ls' := [some (vR 68), none, none, some (vI y3), none, none]) (And.intro rfl (And.intro rfl trivial)) ?_
      exact hκ s
theorem tX12_invite_L125 (Θ : Th) (l : Launch)  (κ : Mem → Option (Int32 × Mem)) (y3 : Int32)  (hκ : ∀  (s : Mem), Js Θ l mX12_invite 28 gI 170 [some (vR 68), none, none, none, none, none] [] s (κ  s)) : ∀ (k : Nat) (x5 : Int32) (s : Mem), Js Θ l mX12_invite 28 gI 125 [some (vR 68), none, none, some (vI y3), none, some (vI x5)] [] s (fX12_invite_L125 κ y3 k x5 s) := by
  intro k
  induction k with
  | zero => intro x5 s; exact j_none
  | succ k ih =>
    intro x5 s
    rw [fX12_invite_L125]
    refine j_iload 127 dX12_invite_125 rfl rfl ?_
    refine j_bipush (v := 60) 129 dX12_invite_127 rfl (by decide) ?_
    refine j_icmp_ge 170 132 dX12_invite_129 (by decide) rfl (fun c25 => ?_) (fun c25 => ?_)
    · refine j_aload_n 133 dX12_invite_132 rfl rfl ?_
      refine s_getR (x := 71) 136 fa68_6 w_1212 dX12_invite_133 rfl (by decide +kernel) ?_
      refine j_bipush (v := 60) 138 dX12_invite_136 rfl (by decide) ?_
      refine j_iload_n 139 dX12_invite_138 rfl rfl ?_
      refine j_imul 140 dX12_invite_139 rfl ?_
      refine j_iload 142 dX12_invite_140 rfl rfl ?_
      refine j_iadd 143 dX12_invite_142 rfl ?_
      refine j_iload 145 dX12_invite_143 rfl rfl ?_
      refine j_aload_n 146 dX12_invite_145 rfl rfl ?_
      refine s_getI 149 fa68_47 w_1253 dX12_invite_146 rfl ?_
      refine j_icmp_ge 162 152 dX12_invite_149 (by decide) rfl (fun c26 => ?_) (fun c26 => ?_)
      · refine j_aload_n 153 dX12_invite_152 rfl rfl ?_
        refine s_getR (x := 97) 156 fa68_51 w_1257 dX12_invite_153 rfl (by decide +kernel) ?_
        refine j_iload 158 dX12_invite_156 rfl rfl ?_
        refine s_iaload 159 aa97 dX12_invite_158 rfl (fun b27 => ?_)
        refine j_goto 163 dX12_invite_159 (by decide) ?_
        refine s_iastore 164 aa71 dX12_invite_163 rfl (fun b28 => ?_)
        refine j_iinc (v := x5 + 1) (ls' := [some (vR 68), none, none, some (vI y3), none, some (vI (x5 + 1))]) 167 dX12_invite_164 rfl rfl rfl (by decide) rfl rfl ?_
        refine j_goto 125 dX12_invite_167 (by decide) ?_
        refine j_sub (ls' := [some (vR 68), none, none, some (vI y3), none, some (vI (x5 + 1))]) (And.intro rfl (And.intro rfl (And.intro rfl trivial))) ?_
        exact ih (x5 + 1) (wI s 71 (ix ((60 * y3) + x5)) (s.1 97 (ix x5)))
      · refine j_iconst (v := 0) 163 dX12_invite_162 rfl (by decide) ?_
        refine s_iastore 164 aa71 dX12_invite_163 rfl (fun b29 => ?_)
        refine j_iinc (v := x5 + 1) (ls' := [some (vR 68), none, none, some (vI y3), none, some (vI (x5 + 1))]) 167 dX12_invite_164 rfl rfl rfl (by decide) rfl rfl ?_
        refine j_goto 125 dX12_invite_167 (by decide) ?_
        refine j_sub (ls' := [some (vR 68), none, none, some (vI y3), none, some (vI (x5 + 1))]) (And.intro rfl (And.intro rfl (And.intro rfl trivial))) ?_
        exact ih (x5 + 1) (wI s 71 (ix ((60 * y3) + x5)) 0)
    · refine j_sub (ls' := [some (vR 68), none, none, none, none, none]) (And.intro rfl trivial) ?_
      exact hκ s
theorem tX12_invite (Θ : Th) (l : Launch)  (a1 : Int32) (a2 : Int32) (a3 : Int32)  (s : Mem) : Cs Θ l mX12_invite 28 gI [vR 68, vI a1, vI a2, vI a3] s (fX12_invite a1 a2 a3 s) := by
  refine ct_of (by decide) [some (vR 68), some (vI a1), some (vI a2), some (vI a3), none, none] rfl (Nat.le_of_ble_eq_true rfl) ?_
  unfold fX12_invite
  refine j_iload_n 1 dX12_invite_0 rfl rfl ?_
  refine s_callSi (M2 := mX12_isRow) [vI a1] 4 mkX12_isRow (Or.inl w_1399) dX12_invite_1 rfl rfl (tX12_isRow Θ l _  _) (by first | exact Nat.le_of_ble_eq_true rfl | omega) (Nat.le_of_ble_eq_true rfl) (Nat.le_of_ble_eq_true rfl) (fun r1 s2 => ?_)
  refine j_if_eq 21 7 dX12_invite_4 (by decide) rfl (fun c3 => ?_) (fun c3 => ?_)
  · refine j_iconst (v := (-1)) 22 dX12_invite_21 rfl (by decide) ?_
    exact s_iret dX12_invite_22 rfl
  · refine j_iload_n 8 dX12_invite_7 rfl rfl ?_
    refine s_callSi (M2 := mX12_isRow) [vI a2] 11 mkX12_isRow (Or.inl w_1399) dX12_invite_8 rfl rfl (tX12_isRow Θ l _  _) (by first | exact Nat.le_of_ble_eq_true rfl | omega) (Nat.le_of_ble_eq_true rfl) (Nat.le_of_ble_eq_true rfl) (fun r4 s5 => ?_)
    refine j_if_eq 21 14 dX12_invite_11 (by decide) rfl (fun c6 => ?_) (fun c6 => ?_)
    · refine j_iconst (v := (-1)) 22 dX12_invite_21 rfl (by decide) ?_
      exact s_iret dX12_invite_22 rfl
    · refine j_iload_n 15 dX12_invite_14 rfl rfl ?_
      refine s_callSi (M2 := mX12_isRow) [vI a3] 18 mkX12_isRow (Or.inl w_1399) dX12_invite_15 rfl rfl (tX12_isRow Θ l _  _) (by first | exact Nat.le_of_ble_eq_true rfl | omega) (Nat.le_of_ble_eq_true rfl) (Nat.le_of_ble_eq_true rfl) (fun r7 s8 => ?_)
      refine j_if_ne 23 21 dX12_invite_18 (by decide) rfl (fun c9 => ?_) (fun c9 => ?_)
      · refine j_iconst (v := (-1)) 22 dX12_invite_21 rfl (by decide) ?_
        exact s_iret dX12_invite_22 rfl
      · refine j_aload_n 24 dX12_invite_23 rfl rfl ?_
        refine s_getI 27 fa68_10 w_1216 dX12_invite_24 rfl ?_
        refine j_if_ne 33 30 dX12_invite_27 (by decide) rfl (fun c10 => ?_) (fun c10 => ?_)
        · refine j_bipush (v := (-4)) 32 dX12_invite_30 rfl (by decide) ?_
          exact s_iret dX12_invite_32 rfl
        · refine j_aload_n 34 dX12_invite_33 rfl rfl ?_
          refine j_iload_n 35 dX12_invite_34 rfl rfl ?_
          refine j_iload_n 36 dX12_invite_35 rfl rfl ?_
          refine s_callVi (M2 := mX12_needInvited) [vI a1, vI a2] 39 oa68 cc12 mkX12_needInvited w_1712 dX12_invite_36 rfl rfl (tX12_needInvited Θ l _ _  _) (by first | exact Nat.le_of_ble_eq_true rfl | omega) (Nat.le_of_ble_eq_true rfl) (Nat.le_of_ble_eq_true rfl) (fun r11 s12 => ?_)
          refine j_istore (i := 4) (ls' := [some (vR 68), some (vI a1), some (vI a2), some (vI a3), some (vI r11), none]) 41 dX12_invite_39 rfl (by decide) rfl rfl ?_
          refine j_iload 43 dX12_invite_41 rfl rfl ?_
          refine j_if_ge 49 46 dX12_invite_43 (by decide) rfl (fun c13 => ?_) (fun c13 => ?_)
          · refine j_iload 48 dX12_invite_46 rfl rfl ?_
            exact s_iret dX12_invite_48 rfl
          · refine j_iconst (v := 0) 50 dX12_invite_49 rfl (by decide) ?_
            refine j_istore (i := 5) (ls' := [some (vR 68), some (vI a1), some (vI a2), some (vI a3), some (vI r11), some (vI 0)]) 52 dX12_invite_50 rfl (by decide) rfl rfl ?_
            refine j_sub (ls' := [some (vR 68), none, none, some (vI a3), none, some (vI 0)]) (And.intro rfl (And.intro rfl (And.intro rfl trivial))) ?_
            refine tX12_invite_L52 Θ l _ _  ?_ _ _ _
            intro s18
            refine j_aload_n 83 dX12_invite_82 rfl rfl ?_
            refine j_iconst (v := (-1)) 84 dX12_invite_83 rfl (by decide) ?_
            refine s_putI 87 fa68_53 w_1259 dX12_invite_84 rfl ?_
            refine j_aload_n 88 dX12_invite_87 rfl rfl ?_
            refine j_iconst (v := 0) 89 dX12_invite_88 rfl (by decide) ?_
            refine j_aload_n 90 dX12_invite_89 rfl rfl ?_
            refine j_iconst (v := 0) 91 dX12_invite_90 rfl (by decide) ?_
            refine j_aload_n 92 dX12_invite_91 rfl rfl ?_
            refine s_getI 95 fa68_18 w_1224 dX12_invite_92 rfl ?_
            refine s_callVi (M2 := mX12_listOf) [vI 0, vI ((wI s18 68 53 (-1)).1 68 18)] 98 oa68 cc12 mkX12_listOf w_1624 dX12_invite_95 rfl rfl (tX12_listOf Θ l _ _  _) (by first | exact Nat.le_of_ble_eq_true rfl | omega) (Nat.le_of_ble_eq_true rfl) (Nat.le_of_ble_eq_true rfl) (fun r19 s20 => ?_)
            refine j_iconst (v := 0) 99 dX12_invite_98 rfl (by decide) ?_
            refine s_callVu (M2 := mX12_layInvited) [vI 0, vI r19, vI 0] 102 oa68 cc12 mkX12_layInvited w_1716 dX12_invite_99 rfl rfl (tX12_layInvited Θ l 9 _ _ _ _) (by decide) (Nat.le_of_ble_eq_true rfl) (Nat.le_of_ble_eq_true rfl) (fun r21 s22 => ?_)
            refine j_aload_n 103 dX12_invite_102 rfl rfl ?_
            refine s_getI 106 fa68_53 w_1259 dX12_invite_103 rfl ?_
            refine j_if_ge 112 109 dX12_invite_106 (by decide) rfl (fun c23 => ?_) (fun c23 => ?_)
            · refine j_bipush (v := (-9)) 111 dX12_invite_109 rfl (by decide) ?_
              exact s_iret dX12_invite_111 rfl
            · refine j_aload_n 113 dX12_invite_112 rfl rfl ?_
              refine s_getR (x := 70) 116 fa68_5 w_1211 dX12_invite_113 rfl (by decide +kernel) ?_
              refine j_iload_n 117 dX12_invite_116 rfl rfl ?_
              refine j_aload_n 118 dX12_invite_117 rfl rfl ?_
              refine s_getI 121 fa68_47 w_1253 dX12_invite_118 rfl ?_
              refine s_iastore 122 aa70 dX12_invite_121 rfl (fun b24 => ?_)
              refine j_iconst (v := 0) 123 dX12_invite_122 rfl (by decide) ?_
              refine j_istore (i := 5) (ls' := [some (vR 68), none, none, some (vI a3), none, some (vI 0)]) 125 dX12_invite_123 rfl (by decide) rfl rfl ?_
              refine j_sub (ls' := [some (vR 68), none, none, some (vI a3), none, some (vI 0)]) (And.intro rfl (And.intro rfl (And.intro rfl trivial))) ?_
              refine tX12_invite_L125 Θ l _ _  ?_ _ _ _
              intro s30
              refine j_aload_n 171 dX12_invite_170 rfl rfl ?_
              refine s_getI 174 fa68_53 w_1259 dX12_invite_171 rfl ?_
              exact s_iret dX12_invite_174 rfl
-- X12_far
def fX12_far_L36  (κ : Int32 → Int32 → Mem → Option (Int32 × Mem)) (y1 : Int32) (y2 : Int32) (y3 : Int32) : Nat → Int32 → Int32 → Int32 → Mem → Option (Int32 × Mem)
  | 0, _, _, _, _ => none
  | k + 1, x4, x5, x6, s =>
    if x6 < (s.1 68 10) then
      if inb y1 8 = true then
      bnd (fX12_listOf y2 ((wI s 79 (ix y1) x6).1 68 18) (wI s 79 (ix y1) x6)) (fun r11 s12 =>
      bnd (fX12_isLevel r11 s12) (fun r13 s14 =>
      if r13 = 0 then
        fX12_far_L36 κ y1 y2 y3 k x4 x5 (x6 + 1) s14
      else
        if inb x6 8 = true then
        bnd (fX12_sizeOf (s14.1 75 (ix x6)) s14) (fun r17 s18 =>
        if x5 < r17 then
          if inb x6 8 = true then
          bnd (fX12_sizeOf (s18.1 75 (ix x6)) s18) (fun r21 s22 =>
          fX12_far_L36 κ y1 y2 y3 k x6 r21 (x6 + 1) s22)
          else none
        else
          fX12_far_L36 κ y1 y2 y3 k x4 x5 (x6 + 1) s18)
        else none))
      else none
    else
      κ x4 x5 s
def fX12_far  (a1 : Int32) (a2 : Int32) (s : Mem) : Option (Int32 × Mem) :=
bnd (fX12_isGuest a1 s) (fun r1 s2 =>
if r1 = 0 then
  some ((-1), s2)
else
  bnd (fX12_in a2 0 2 s2) (fun r4 s5 =>
  if r4 = 0 then
    some ((-1), s5)
  else
    if inb a1 8 = true then
    nm (s5.1 79 (ix a1)) (fun v8 =>
    fX12_far_L36 (fun v23 v24 s25 =>
      if inb a1 8 = true then
      if v23 = (-9) then
        some ((-9), wI s25 79 (ix a1) v8)
      else
        bnd (fX12_tells v23 v24 (wI s25 79 (ix a1) v8)) (fun r28 s29 =>
        some (r28, s29))
      else none) a1 a2 v8 FU (-9) (-1) 0 s5)
    else none))
theorem tX12_far_L36 (Θ : Th) (l : Launch)  (κ : Int32 → Int32 → Mem → Option (Int32 × Mem)) (y1 : Int32) (y2 : Int32) (y3 : Int32)  (hκ : ∀ (x4 : Int32) (x5 : Int32) (s : Mem), Js Θ l mX12_far 5 gI 106 [some (vR 68), some (vI y1), none, some (vI y3), some (vI x4), some (vI x5), none] [] s (κ x4 x5 s)) : ∀ (k : Nat) (x4 : Int32) (x5 : Int32) (x6 : Int32) (s : Mem), Js Θ l mX12_far 5 gI 36 [some (vR 68), some (vI y1), some (vI y2), some (vI y3), some (vI x4), some (vI x5), some (vI x6)] [] s (fX12_far_L36 κ y1 y2 y3 k x4 x5 x6 s) := by
  intro k
  induction k with
  | zero => intro x4 x5 x6 s; exact j_none
  | succ k ih =>
    intro x4 x5 x6 s
    rw [fX12_far_L36]
    refine j_iload 38 dX12_far_36 rfl rfl ?_
    refine j_aload_n 39 dX12_far_38 rfl rfl ?_
    refine s_getI 42 fa68_10 w_1216 dX12_far_39 rfl ?_
    refine j_icmp_ge 106 45 dX12_far_42 (by decide) rfl (fun c9 => ?_) (fun c9 => ?_)
    · refine j_aload_n 46 dX12_far_45 rfl rfl ?_
      refine s_getR (x := 79) 49 fa68_16 w_1222 dX12_far_46 rfl (by decide +kernel) ?_
      refine j_iload_n 50 dX12_far_49 rfl rfl ?_
      refine j_iload 52 dX12_far_50 rfl rfl ?_
      refine s_iastore 53 aa79 dX12_far_52 rfl (fun b10 => ?_)
      refine j_aload_n 54 dX12_far_53 rfl rfl ?_
      refine j_aload_n 55 dX12_far_54 rfl rfl ?_
      refine j_iload_n 56 dX12_far_55 rfl rfl ?_
      refine j_aload_n 57 dX12_far_56 rfl rfl ?_
      refine s_getI 60 fa68_18 w_1224 dX12_far_57 rfl ?_
      refine s_callVi (M2 := mX12_listOf) [vI y2, vI ((wI s 79 (ix y1) x6).1 68 18)] 63 oa68 cc12 mkX12_listOf w_1624 dX12_far_60 rfl rfl (tX12_listOf Θ l _ _  _) (by first | exact Nat.le_of_ble_eq_true rfl | omega) (Nat.le_of_ble_eq_true rfl) (Nat.le_of_ble_eq_true rfl) (fun r11 s12 => ?_)
      refine s_callVi (M2 := mX12_isLevel) [vI r11] 66 oa68 cc12 mkX12_isLevel w_1628 dX12_far_63 rfl rfl (tX12_isLevel Θ l _  _) (by first | exact Nat.le_of_ble_eq_true rfl | omega) (Nat.le_of_ble_eq_true rfl) (Nat.le_of_ble_eq_true rfl) (fun r13 s14 => ?_)
      refine j_if_eq 100 69 dX12_far_66 (by decide) rfl (fun c15 => ?_) (fun c15 => ?_)
      · refine j_iinc (v := x6 + 1) (ls' := [some (vR 68), some (vI y1), some (vI y2), some (vI y3), some (vI x4), some (vI x5), some (vI (x6 + 1))]) 103 dX12_far_100 rfl rfl rfl (by decide) rfl rfl ?_
        refine j_goto 36 dX12_far_103 (by decide) ?_
        refine j_sub (ls' := [some (vR 68), some (vI y1), some (vI y2), some (vI y3), some (vI x4), some (vI x5), some (vI (x6 + 1))]) (And.intro rfl (And.intro rfl (And.intro rfl (And.intro rfl (And.intro rfl (And.intro rfl (And.intro rfl trivial))))))) ?_
        exact ih x4 x5 (x6 + 1) s14
      · refine j_aload_n 70 dX12_far_69 rfl rfl ?_
        refine s_getR (x := 75) 73 fa68_11 w_1217 dX12_far_70 rfl (by decide +kernel) ?_
        refine j_iload 75 dX12_far_73 rfl rfl ?_
        refine s_iaload 76 aa75 dX12_far_75 rfl (fun b16 => ?_)
        refine s_callSi (M2 := mX12_sizeOf) [vI (s14.1 75 (ix x6))] 79 mkX12_sizeOf (Or.inl w_1539) dX12_far_76 rfl rfl (tX12_sizeOf Θ l _  _) (by first | exact Nat.le_of_ble_eq_true rfl | omega) (Nat.le_of_ble_eq_true rfl) (Nat.le_of_ble_eq_true rfl) (fun r17 s18 => ?_)
        refine j_iload 81 dX12_far_79 rfl rfl ?_
        refine j_icmp_le 100 84 dX12_far_81 (by decide) rfl (fun c19 => ?_) (fun c19 => ?_)
        · refine j_iload 86 dX12_far_84 rfl rfl ?_
          refine j_istore (i := 4) (ls' := [some (vR 68), some (vI y1), some (vI y2), some (vI y3), some (vI x6), some (vI x5), some (vI x6)]) 88 dX12_far_86 rfl (by decide) rfl rfl ?_
          refine j_aload_n 89 dX12_far_88 rfl rfl ?_
          refine s_getR (x := 75) 92 fa68_11 w_1217 dX12_far_89 rfl (by decide +kernel) ?_
          refine j_iload 94 dX12_far_92 rfl rfl ?_
          refine s_iaload 95 aa75 dX12_far_94 rfl (fun b20 => ?_)
          refine s_callSi (M2 := mX12_sizeOf) [vI (s18.1 75 (ix x6))] 98 mkX12_sizeOf (Or.inl w_1539) dX12_far_95 rfl rfl (tX12_sizeOf Θ l _  _) (by first | exact Nat.le_of_ble_eq_true rfl | omega) (Nat.le_of_ble_eq_true rfl) (Nat.le_of_ble_eq_true rfl) (fun r21 s22 => ?_)
          refine j_istore (i := 5) (ls' := [some (vR 68), some (vI y1), some (vI y2), some (vI y3), some (vI x6), some (vI r21), some (vI x6)]) 100 dX12_far_98 rfl (by decide) rfl rfl ?_
          refine j_iinc (v := x6 + 1) (ls' := [some (vR 68), some (vI y1), some (vI y2), some (vI y3), some (vI x6), some (vI r21), some (vI (x6 + 1))]) 103 dX12_far_100 rfl rfl rfl (by decide) rfl rfl ?_
          refine j_goto 36 dX12_far_103 (by decide) ?_
          refine j_sub (ls' := [some (vR 68), some (vI y1), some (vI y2), some (vI y3), some (vI x6), some (vI r21), some (vI (x6 + 1))]) (And.intro rfl (And.intro rfl (And.intro rfl (And.intro rfl (And.intro rfl (And.intro rfl (And.intro rfl trivial))))))) ?_
          exact ih x6 r21 (x6 + 1) s22
        · refine j_iinc (v := x6 + 1) (ls' := [some (vR 68), some (vI y1), some (vI y2), some (vI y3), some (vI x4), some (vI x5), some (vI (x6 + 1))]) 103 dX12_far_100 rfl rfl rfl (by decide) rfl rfl ?_
          refine j_goto 36 dX12_far_103 (by decide) ?_
          refine j_sub (ls' := [some (vR 68), some (vI y1), some (vI y2), some (vI y3), some (vI x4), some (vI x5), some (vI (x6 + 1))]) (And.intro rfl (And.intro rfl (And.intro rfl (And.intro rfl (And.intro rfl (And.intro rfl (And.intro rfl trivial))))))) ?_
          exact ih x4 x5 (x6 + 1) s18
    · refine j_sub (ls' := [some (vR 68), some (vI y1), none, some (vI y3), some (vI x4), some (vI x5), none]) (And.intro rfl (And.intro rfl (And.intro rfl (And.intro rfl (And.intro rfl trivial))))) ?_
      exact hκ x4 x5 s
theorem tX12_far (Θ : Th) (l : Launch)  (a1 : Int32) (a2 : Int32)  (s : Mem) : Cs Θ l mX12_far 5 gI [vR 68, vI a1, vI a2] s (fX12_far a1 a2 s) := by
  refine ct_of (by decide) [some (vR 68), some (vI a1), some (vI a2), none, none, none, none] rfl (Nat.le_of_ble_eq_true rfl) ?_
  unfold fX12_far
  refine j_aload_n 1 dX12_far_0 rfl rfl ?_
  refine j_iload_n 2 dX12_far_1 rfl rfl ?_
  refine s_callVi (M2 := mX12_isGuest) [vI a1] 5 oa68 cc12 mkX12_isGuest w_1519 dX12_far_2 rfl rfl (tX12_isGuest Θ l _  _) (by first | exact Nat.le_of_ble_eq_true rfl | omega) (Nat.le_of_ble_eq_true rfl) (Nat.le_of_ble_eq_true rfl) (fun r1 s2 => ?_)
  refine j_if_eq 17 8 dX12_far_5 (by decide) rfl (fun c3 => ?_) (fun c3 => ?_)
  · refine j_iconst (v := (-1)) 18 dX12_far_17 rfl (by decide) ?_
    exact s_iret dX12_far_18 rfl
  · refine j_iload_n 9 dX12_far_8 rfl rfl ?_
    refine j_iconst (v := 0) 10 dX12_far_9 rfl (by decide) ?_
    refine j_iconst (v := 2) 11 dX12_far_10 rfl (by decide) ?_
    refine s_callSi (M2 := mX12_in) [vI a2, vI 0, vI 2] 14 mkX12_in (Or.inl w_1380) dX12_far_11 rfl rfl (tX12_in Θ l _ _ _  _) (by first | exact Nat.le_of_ble_eq_true rfl | omega) (Nat.le_of_ble_eq_true rfl) (Nat.le_of_ble_eq_true rfl) (fun r4 s5 => ?_)
    refine j_if_ne 19 17 dX12_far_14 (by decide) rfl (fun c6 => ?_) (fun c6 => ?_)
    · refine j_iconst (v := (-1)) 18 dX12_far_17 rfl (by decide) ?_
      exact s_iret dX12_far_18 rfl
    · refine j_aload_n 20 dX12_far_19 rfl rfl ?_
      refine s_getR (x := 79) 23 fa68_16 w_1222 dX12_far_20 rfl (by decide +kernel) ?_
      refine j_iload_n 24 dX12_far_23 rfl rfl ?_
      refine s_iaload 25 aa79 dX12_far_24 rfl (fun b7 => ?_)
      refine s_nmI (fun v8 => ?_)
      refine j_istore_n (i := 3) (ls' := [some (vR 68), some (vI a1), some (vI a2), some (vI v8), none, none, none]) 26 dX12_far_25 rfl rfl (by decide) rfl rfl ?_
      refine j_bipush (v := (-9)) 28 dX12_far_26 rfl (by decide) ?_
      refine j_istore (i := 4) (ls' := [some (vR 68), some (vI a1), some (vI a2), some (vI v8), some (vI (-9)), none, none]) 30 dX12_far_28 rfl (by decide) rfl rfl ?_
      refine j_iconst (v := (-1)) 31 dX12_far_30 rfl (by decide) ?_
      refine j_istore (i := 5) (ls' := [some (vR 68), some (vI a1), some (vI a2), some (vI v8), some (vI (-9)), some (vI (-1)), none]) 33 dX12_far_31 rfl (by decide) rfl rfl ?_
      refine j_iconst (v := 0) 34 dX12_far_33 rfl (by decide) ?_
      refine j_istore (i := 6) (ls' := [some (vR 68), some (vI a1), some (vI a2), some (vI v8), some (vI (-9)), some (vI (-1)), some (vI 0)]) 36 dX12_far_34 rfl (by decide) rfl rfl ?_
      refine j_sub (ls' := [some (vR 68), some (vI a1), some (vI a2), some (vI v8), some (vI (-9)), some (vI (-1)), some (vI 0)]) (And.intro rfl (And.intro rfl (And.intro rfl (And.intro rfl (And.intro rfl (And.intro rfl (And.intro rfl trivial))))))) ?_
      refine tX12_far_L36 Θ l _ _ _ _  ?_ _ _ _ _ _
      intro v23 v24 s25
      refine j_aload_n 107 dX12_far_106 rfl rfl ?_
      refine s_getR (x := 79) 110 fa68_16 w_1222 dX12_far_107 rfl (by decide +kernel) ?_
      refine j_iload_n 111 dX12_far_110 rfl rfl ?_
      refine j_iload_n 112 dX12_far_111 rfl rfl ?_
      refine s_iastore 113 aa79 dX12_far_112 rfl (fun b26 => ?_)
      refine j_iload 115 dX12_far_113 rfl rfl ?_
      refine j_bipush (v := (-9)) 117 dX12_far_115 rfl (by decide) ?_
      refine j_icmp_ne 125 120 dX12_far_117 (by decide) rfl (fun c27 => ?_) (fun c27 => ?_)
      · refine j_bipush (v := (-9)) 122 dX12_far_120 rfl (by decide) ?_
        refine j_goto 133 dX12_far_122 (by decide) ?_
        exact s_iret dX12_far_133 rfl
      · refine j_aload_n 126 dX12_far_125 rfl rfl ?_
        refine j_iload 128 dX12_far_126 rfl rfl ?_
        refine j_iload 130 dX12_far_128 rfl rfl ?_
        refine s_callVi (M2 := mX12_tells) [vI v23, vI v24] 133 oa68 cc12 mkX12_tells w_1414 dX12_far_130 rfl rfl (tX12_tells Θ l _ _  _) (by first | exact Nat.le_of_ble_eq_true rfl | omega) (Nat.le_of_ble_eq_true rfl) (Nat.le_of_ble_eq_true rfl) (fun r28 s29 => ?_)
        exact s_iret dX12_far_133 rfl
-- X12_crossed
def fX12_crossed_L6  (κ : Int32 → Int32 → Mem → Option (Int32 × Mem))  : Nat → Int32 → Int32 → Int32 → Mem → Option (Int32 × Mem)
  | 0, _, _, _, _ => none
  | k + 1, x1, x2, x3, s =>
    if x3 < (s.1 68 29) then
      if inb x3 8 = true then
      if inb (s.1 85 (ix x3)) 8 = true then
      nm (s.1 79 (ix (s.1 85 (ix x3)))) (fun v4 =>
      if inb x3 8 = true then
      if inb (s.1 86 (ix x3)) 8 = true then
      nm (s.1 79 (ix (s.1 86 (ix x3)))) (fun v7 =>
      if v4 = (-9) then
        nm (x1 + 0) (fun v9 =>
        bnd (fX12_isBroken x3 s) (fun r10 s11 =>
        if r10 = 0 then
          nm (x2 + 0) (fun v13 =>
          fX12_crossed_L6 κ k v9 v13 (x3 + 1) s11)
        else
          nm (x2 + 1) (fun v14 =>
          fX12_crossed_L6 κ k v9 v14 (x3 + 1) s11)))
      else
        if v7 = (-9) then
          nm (x1 + 0) (fun v16 =>
          bnd (fX12_isBroken x3 s) (fun r17 s18 =>
          if r17 = 0 then
            nm (x2 + 0) (fun v20 =>
            fX12_crossed_L6 κ k v16 v20 (x3 + 1) s18)
          else
            nm (x2 + 1) (fun v21 =>
            fX12_crossed_L6 κ k v16 v21 (x3 + 1) s18)))
        else
          if inb v4 8 = true then
          if inb v7 8 = true then
          if ((s.1 75 (ix v4)) * (s.1 75 (ix v7))) < 0 then
            nm (x1 + 1) (fun v25 =>
            bnd (fX12_isBroken x3 s) (fun r26 s27 =>
            if r26 = 0 then
              nm (x2 + 0) (fun v29 =>
              fX12_crossed_L6 κ k v25 v29 (x3 + 1) s27)
            else
              nm (x2 + 1) (fun v30 =>
              fX12_crossed_L6 κ k v25 v30 (x3 + 1) s27)))
          else
            nm (x1 + 0) (fun v31 =>
            bnd (fX12_isBroken x3 s) (fun r32 s33 =>
            if r32 = 0 then
              nm (x2 + 0) (fun v35 =>
              fX12_crossed_L6 κ k v31 v35 (x3 + 1) s33)
            else
              nm (x2 + 1) (fun v36 =>
              fX12_crossed_L6 κ k v31 v36 (x3 + 1) s33)))
          else none
          else none)
      else none
      else none)
      else none
      else none
    else
      κ x1 x2 s
def fX12_crossed   (s : Mem) : Option (Int32 × Mem) :=
fX12_crossed_L6 (fun v37 v38 s39 =>
  bnd (fX12_tells v38 v37 s39) (fun r40 s41 =>
  some (r40, s41)))  FU 0 0 0 s
theorem tX12_crossed_L6 (Θ : Th) (l : Launch)  (κ : Int32 → Int32 → Mem → Option (Int32 × Mem))   (hκ : ∀ (x1 : Int32) (x2 : Int32) (s : Mem), Js Θ l mX12_crossed 3 gI 102 [some (vR 68), some (vI x1), some (vI x2), none, none, none] [] s (κ x1 x2 s)) : ∀ (k : Nat) (x1 : Int32) (x2 : Int32) (x3 : Int32) (s : Mem), Js Θ l mX12_crossed 3 gI 6 [some (vR 68), some (vI x1), some (vI x2), some (vI x3), none, none] [] s (fX12_crossed_L6 κ  k x1 x2 x3 s) := by
  intro k
  induction k with
  | zero => intro x1 x2 x3 s; exact j_none
  | succ k ih =>
    intro x1 x2 x3 s
    rw [fX12_crossed_L6]
    refine j_iload_n 7 dX12_crossed_6 rfl rfl ?_
    refine j_aload_n 8 dX12_crossed_7 rfl rfl ?_
    refine s_getI 11 fa68_29 w_1235 dX12_crossed_8 rfl ?_
    refine j_icmp_ge 102 14 dX12_crossed_11 (by decide) rfl (fun c1 => ?_) (fun c1 => ?_)
    · refine j_aload_n 15 dX12_crossed_14 rfl rfl ?_
      refine s_getR (x := 79) 18 fa68_16 w_1222 dX12_crossed_15 rfl (by decide +kernel) ?_
      refine j_aload_n 19 dX12_crossed_18 rfl rfl ?_
      refine s_getR (x := 85) 22 fa68_30 w_1236 dX12_crossed_19 rfl (by decide +kernel) ?_
      refine j_iload_n 23 dX12_crossed_22 rfl rfl ?_
      refine s_iaload 24 aa85 dX12_crossed_23 rfl (fun b2 => ?_)
      refine s_iaload 25 aa79 dX12_crossed_24 rfl (fun b3 => ?_)
      refine s_nmI (fun v4 => ?_)
      refine j_istore (i := 4) (ls' := [some (vR 68), some (vI x1), some (vI x2), some (vI x3), some (vI v4), none]) 27 dX12_crossed_25 rfl (by decide) rfl rfl ?_
      refine j_aload_n 28 dX12_crossed_27 rfl rfl ?_
      refine s_getR (x := 79) 31 fa68_16 w_1222 dX12_crossed_28 rfl (by decide +kernel) ?_
      refine j_aload_n 32 dX12_crossed_31 rfl rfl ?_
      refine s_getR (x := 86) 35 fa68_31 w_1237 dX12_crossed_32 rfl (by decide +kernel) ?_
      refine j_iload_n 36 dX12_crossed_35 rfl rfl ?_
      refine s_iaload 37 aa86 dX12_crossed_36 rfl (fun b5 => ?_)
      refine s_iaload 38 aa79 dX12_crossed_37 rfl (fun b6 => ?_)
      refine s_nmI (fun v7 => ?_)
      refine j_istore (i := 5) (ls' := [some (vR 68), some (vI x1), some (vI x2), some (vI x3), some (vI v4), some (vI v7)]) 40 dX12_crossed_38 rfl (by decide) rfl rfl ?_
      refine j_iload_n 41 dX12_crossed_40 rfl rfl ?_
      refine j_iload 43 dX12_crossed_41 rfl rfl ?_
      refine j_bipush (v := (-9)) 45 dX12_crossed_43 rfl (by decide) ?_
      refine j_icmp_eq 77 48 dX12_crossed_45 (by decide) rfl (fun c8 => ?_) (fun c8 => ?_)
      · refine j_iconst (v := 0) 78 dX12_crossed_77 rfl (by decide) ?_
        refine j_iadd 79 dX12_crossed_78 rfl ?_
        refine s_nmI (fun v9 => ?_)
        refine j_istore_n (i := 1) (ls' := [some (vR 68), some (vI v9), some (vI x2), some (vI x3), some (vI v4), some (vI v7)]) 80 dX12_crossed_79 rfl rfl (by decide) rfl rfl ?_
        refine j_iload_n 81 dX12_crossed_80 rfl rfl ?_
        refine j_aload_n 82 dX12_crossed_81 rfl rfl ?_
        refine j_iload_n 83 dX12_crossed_82 rfl rfl ?_
        refine s_callVi (M2 := mX12_isBroken) [vI x3] 86 oa68 cc12 mkX12_isBroken w_1580 dX12_crossed_83 rfl rfl (tX12_isBroken Θ l _  _) (by first | exact Nat.le_of_ble_eq_true rfl | omega) (Nat.le_of_ble_eq_true rfl) (Nat.le_of_ble_eq_true rfl) (fun r10 s11 => ?_)
        refine j_if_eq 93 89 dX12_crossed_86 (by decide) rfl (fun c12 => ?_) (fun c12 => ?_)
        · refine j_iconst (v := 0) 94 dX12_crossed_93 rfl (by decide) ?_
          refine j_iadd 95 dX12_crossed_94 rfl ?_
          refine s_nmI (fun v13 => ?_)
          refine j_istore_n (i := 2) (ls' := [some (vR 68), some (vI v9), some (vI v13), some (vI x3), some (vI v4), some (vI v7)]) 96 dX12_crossed_95 rfl rfl (by decide) rfl rfl ?_
          refine j_iinc (v := x3 + 1) (ls' := [some (vR 68), some (vI v9), some (vI v13), some (vI (x3 + 1)), some (vI v4), some (vI v7)]) 99 dX12_crossed_96 rfl rfl rfl (by decide) rfl rfl ?_
          refine j_goto 6 dX12_crossed_99 (by decide) ?_
          refine j_sub (ls' := [some (vR 68), some (vI v9), some (vI v13), some (vI (x3 + 1)), none, none]) (And.intro rfl (And.intro rfl (And.intro rfl (And.intro rfl trivial)))) ?_
          exact ih v9 v13 (x3 + 1) s11
        · refine j_iconst (v := 1) 90 dX12_crossed_89 rfl (by decide) ?_
          refine j_goto 94 dX12_crossed_90 (by decide) ?_
          refine j_iadd 95 dX12_crossed_94 rfl ?_
          refine s_nmI (fun v14 => ?_)
          refine j_istore_n (i := 2) (ls' := [some (vR 68), some (vI v9), some (vI v14), some (vI x3), some (vI v4), some (vI v7)]) 96 dX12_crossed_95 rfl rfl (by decide) rfl rfl ?_
          refine j_iinc (v := x3 + 1) (ls' := [some (vR 68), some (vI v9), some (vI v14), some (vI (x3 + 1)), some (vI v4), some (vI v7)]) 99 dX12_crossed_96 rfl rfl rfl (by decide) rfl rfl ?_
          refine j_goto 6 dX12_crossed_99 (by decide) ?_
          refine j_sub (ls' := [some (vR 68), some (vI v9), some (vI v14), some (vI (x3 + 1)), none, none]) (And.intro rfl (And.intro rfl (And.intro rfl (And.intro rfl trivial)))) ?_
          exact ih v9 v14 (x3 + 1) s11
      · refine j_iload 50 dX12_crossed_48 rfl rfl ?_
        refine j_bipush (v := (-9)) 52 dX12_crossed_50 rfl (by decide) ?_
        refine j_icmp_eq 77 55 dX12_crossed_52 (by decide) rfl (fun c15 => ?_) (fun c15 => ?_)
        · refine j_iconst (v := 0) 78 dX12_crossed_77 rfl (by decide) ?_
          refine j_iadd 79 dX12_crossed_78 rfl ?_
          refine s_nmI (fun v16 => ?_)
          refine j_istore_n (i := 1) (ls' := [some (vR 68), some (vI v16), some (vI x2), some (vI x3), some (vI v4), some (vI v7)]) 80 dX12_crossed_79 rfl rfl (by decide) rfl rfl ?_
          refine j_iload_n 81 dX12_crossed_80 rfl rfl ?_
          refine j_aload_n 82 dX12_crossed_81 rfl rfl ?_
          refine j_iload_n 83 dX12_crossed_82 rfl rfl ?_
          refine s_callVi (M2 := mX12_isBroken) [vI x3] 86 oa68 cc12 mkX12_isBroken w_1580 dX12_crossed_83 rfl rfl (tX12_isBroken Θ l _  _) (by first | exact Nat.le_of_ble_eq_true rfl | omega) (Nat.le_of_ble_eq_true rfl) (Nat.le_of_ble_eq_true rfl) (fun r17 s18 => ?_)
          refine j_if_eq 93 89 dX12_crossed_86 (by decide) rfl (fun c19 => ?_) (fun c19 => ?_)
          · refine j_iconst (v := 0) 94 dX12_crossed_93 rfl (by decide) ?_
            refine j_iadd 95 dX12_crossed_94 rfl ?_
            refine s_nmI (fun v20 => ?_)
            refine j_istore_n (i := 2) (ls' := [some (vR 68), some (vI v16), some (vI v20), some (vI x3), some (vI v4), some (vI v7)]) 96 dX12_crossed_95 rfl rfl (by decide) rfl rfl ?_
            refine j_iinc (v := x3 + 1) (ls' := [some (vR 68), some (vI v16), some (vI v20), some (vI (x3 + 1)), some (vI v4), some (vI v7)]) 99 dX12_crossed_96 rfl rfl rfl (by decide) rfl rfl ?_
            refine j_goto 6 dX12_crossed_99 (by decide) ?_
            refine j_sub (ls' := [some (vR 68), some (vI v16), some (vI v20), some (vI (x3 + 1)), none, none]) (And.intro rfl (And.intro rfl (And.intro rfl (And.intro rfl trivial)))) ?_
            exact ih v16 v20 (x3 + 1) s18
          · refine j_iconst (v := 1) 90 dX12_crossed_89 rfl (by decide) ?_
            refine j_goto 94 dX12_crossed_90 (by decide) ?_
            refine j_iadd 95 dX12_crossed_94 rfl ?_
            refine s_nmI (fun v21 => ?_)
            refine j_istore_n (i := 2) (ls' := [some (vR 68), some (vI v16), some (vI v21), some (vI x3), some (vI v4), some (vI v7)]) 96 dX12_crossed_95 rfl rfl (by decide) rfl rfl ?_
            refine j_iinc (v := x3 + 1) (ls' := [some (vR 68), some (vI v16), some (vI v21), some (vI (x3 + 1)), some (vI v4), some (vI v7)]) 99 dX12_crossed_96 rfl rfl rfl (by decide) rfl rfl ?_
            refine j_goto 6 dX12_crossed_99 (by decide) ?_
            refine j_sub (ls' := [some (vR 68), some (vI v16), some (vI v21), some (vI (x3 + 1)), none, none]) (And.intro rfl (And.intro rfl (And.intro rfl (And.intro rfl trivial)))) ?_
            exact ih v16 v21 (x3 + 1) s18
        · refine j_aload_n 56 dX12_crossed_55 rfl rfl ?_
          refine s_getR (x := 75) 59 fa68_11 w_1217 dX12_crossed_56 rfl (by decide +kernel) ?_
          refine j_iload 61 dX12_crossed_59 rfl rfl ?_
          refine s_iaload 62 aa75 dX12_crossed_61 rfl (fun b22 => ?_)
          refine j_aload_n 63 dX12_crossed_62 rfl rfl ?_
          refine s_getR (x := 75) 66 fa68_11 w_1217 dX12_crossed_63 rfl (by decide +kernel) ?_
          refine j_iload 68 dX12_crossed_66 rfl rfl ?_
          refine s_iaload 69 aa75 dX12_crossed_68 rfl (fun b23 => ?_)
          refine j_imul 70 dX12_crossed_69 rfl ?_
          refine j_if_ge 77 73 dX12_crossed_70 (by decide) rfl (fun c24 => ?_) (fun c24 => ?_)
          · refine j_iconst (v := 1) 74 dX12_crossed_73 rfl (by decide) ?_
            refine j_goto 78 dX12_crossed_74 (by decide) ?_
            refine j_iadd 79 dX12_crossed_78 rfl ?_
            refine s_nmI (fun v25 => ?_)
            refine j_istore_n (i := 1) (ls' := [some (vR 68), some (vI v25), some (vI x2), some (vI x3), some (vI v4), some (vI v7)]) 80 dX12_crossed_79 rfl rfl (by decide) rfl rfl ?_
            refine j_iload_n 81 dX12_crossed_80 rfl rfl ?_
            refine j_aload_n 82 dX12_crossed_81 rfl rfl ?_
            refine j_iload_n 83 dX12_crossed_82 rfl rfl ?_
            refine s_callVi (M2 := mX12_isBroken) [vI x3] 86 oa68 cc12 mkX12_isBroken w_1580 dX12_crossed_83 rfl rfl (tX12_isBroken Θ l _  _) (by first | exact Nat.le_of_ble_eq_true rfl | omega) (Nat.le_of_ble_eq_true rfl) (Nat.le_of_ble_eq_true rfl) (fun r26 s27 => ?_)
            refine j_if_eq 93 89 dX12_crossed_86 (by decide) rfl (fun c28 => ?_) (fun c28 => ?_)
            · refine j_iconst (v := 0) 94 dX12_crossed_93 rfl (by decide) ?_
              refine j_iadd 95 dX12_crossed_94 rfl ?_
              refine s_nmI (fun v29 => ?_)
              refine j_istore_n (i := 2) (ls' := [some (vR 68), some (vI v25), some (vI v29), some (vI x3), some (vI v4), some (vI v7)]) 96 dX12_crossed_95 rfl rfl (by decide) rfl rfl ?_
              refine j_iinc (v := x3 + 1) (ls' := [some (vR 68), some (vI v25), some (vI v29), some (vI (x3 + 1)), some (vI v4), some (vI v7)]) 99 dX12_crossed_96 rfl rfl rfl (by decide) rfl rfl ?_
              refine j_goto 6 dX12_crossed_99 (by decide) ?_
              refine j_sub (ls' := [some (vR 68), some (vI v25), some (vI v29), some (vI (x3 + 1)), none, none]) (And.intro rfl (And.intro rfl (And.intro rfl (And.intro rfl trivial)))) ?_
              exact ih v25 v29 (x3 + 1) s27
            · refine j_iconst (v := 1) 90 dX12_crossed_89 rfl (by decide) ?_
              refine j_goto 94 dX12_crossed_90 (by decide) ?_
              refine j_iadd 95 dX12_crossed_94 rfl ?_
              refine s_nmI (fun v30 => ?_)
              refine j_istore_n (i := 2) (ls' := [some (vR 68), some (vI v25), some (vI v30), some (vI x3), some (vI v4), some (vI v7)]) 96 dX12_crossed_95 rfl rfl (by decide) rfl rfl ?_
              refine j_iinc (v := x3 + 1) (ls' := [some (vR 68), some (vI v25), some (vI v30), some (vI (x3 + 1)), some (vI v4), some (vI v7)]) 99 dX12_crossed_96 rfl rfl rfl (by decide) rfl rfl ?_
              refine j_goto 6 dX12_crossed_99 (by decide) ?_
              refine j_sub (ls' := [some (vR 68), some (vI v25), some (vI v30), some (vI (x3 + 1)), none, none]) (And.intro rfl (And.intro rfl (And.intro rfl (And.intro rfl trivial)))) ?_
              exact ih v25 v30 (x3 + 1) s27
          · refine j_iconst (v := 0) 78 dX12_crossed_77 rfl (by decide) ?_
            refine j_iadd 79 dX12_crossed_78 rfl ?_
            refine s_nmI (fun v31 => ?_)
            refine j_istore_n (i := 1) (ls' := [some (vR 68), some (vI v31), some (vI x2), some (vI x3), some (vI v4), some (vI v7)]) 80 dX12_crossed_79 rfl rfl (by decide) rfl rfl ?_
            refine j_iload_n 81 dX12_crossed_80 rfl rfl ?_
            refine j_aload_n 82 dX12_crossed_81 rfl rfl ?_
            refine j_iload_n 83 dX12_crossed_82 rfl rfl ?_
            refine s_callVi (M2 := mX12_isBroken) [vI x3] 86 oa68 cc12 mkX12_isBroken w_1580 dX12_crossed_83 rfl rfl (tX12_isBroken Θ l _  _) (by first | exact Nat.le_of_ble_eq_true rfl | omega) (Nat.le_of_ble_eq_true rfl) (Nat.le_of_ble_eq_true rfl) (fun r32 s33 => ?_)
            refine j_if_eq 93 89 dX12_crossed_86 (by decide) rfl (fun c34 => ?_) (fun c34 => ?_)
            · refine j_iconst (v := 0) 94 dX12_crossed_93 rfl (by decide) ?_
              refine j_iadd 95 dX12_crossed_94 rfl ?_
              refine s_nmI (fun v35 => ?_)
              refine j_istore_n (i := 2) (ls' := [some (vR 68), some (vI v31), some (vI v35), some (vI x3), some (vI v4), some (vI v7)]) 96 dX12_crossed_95 rfl rfl (by decide) rfl rfl ?_
              refine j_iinc (v := x3 + 1) (ls' := [some (vR 68), some (vI v31), some (vI v35), some (vI (x3 + 1)), some (vI v4), some (vI v7)]) 99 dX12_crossed_96 rfl rfl rfl (by decide) rfl rfl ?_
              refine j_goto 6 dX12_crossed_99 (by decide) ?_
              refine j_sub (ls' := [some (vR 68), some (vI v31), some (vI v35), some (vI (x3 + 1)), none, none]) (And.intro rfl (And.intro rfl (And.intro rfl (And.intro rfl trivial)))) ?_
              exact ih v31 v35 (x3 + 1) s33
            · refine j_iconst (v := 1) 90 dX12_crossed_89 rfl (by decide) ?_
              refine j_goto 94 dX12_crossed_90 (by decide) ?_
              refine j_iadd 95 dX12_crossed_94 rfl ?_
              refine s_nmI (fun v36 => ?_)
              refine j_istore_n (i := 2) (ls' := [some (vR 68), some (vI v31), some (vI v36), some (vI x3), some (vI v4), some (vI v7)]) 96 dX12_crossed_95 rfl rfl (by decide) rfl rfl ?_
              refine j_iinc (v := x3 + 1) (ls' := [some (vR 68), some (vI v31), some (vI v36), some (vI (x3 + 1)), some (vI v4), some (vI v7)]) 99 dX12_crossed_96 rfl rfl rfl (by decide) rfl rfl ?_
              refine j_goto 6 dX12_crossed_99 (by decide) ?_
              refine j_sub (ls' := [some (vR 68), some (vI v31), some (vI v36), some (vI (x3 + 1)), none, none]) (And.intro rfl (And.intro rfl (And.intro rfl (And.intro rfl trivial)))) ?_
              exact ih v31 v36 (x3 + 1) s33
    · refine j_sub (ls' := [some (vR 68), some (vI x1), some (vI x2), none, none, none]) (And.intro rfl (And.intro rfl (And.intro rfl trivial))) ?_
      exact hκ x1 x2 s
theorem tX12_crossed (Θ : Th) (l : Launch)    (s : Mem) : Cs Θ l mX12_crossed 3 gI [vR 68] s (fX12_crossed  s) := by
  refine ct_of (by decide) [some (vR 68), none, none, none, none, none] rfl (Nat.le_of_ble_eq_true rfl) ?_
  unfold fX12_crossed
  refine j_iconst (v := 0) 1 dX12_crossed_0 rfl (by decide) ?_
  refine j_istore_n (i := 1) (ls' := [some (vR 68), some (vI 0), none, none, none, none]) 2 dX12_crossed_1 rfl rfl (by decide) rfl rfl ?_
  refine j_iconst (v := 0) 3 dX12_crossed_2 rfl (by decide) ?_
  refine j_istore_n (i := 2) (ls' := [some (vR 68), some (vI 0), some (vI 0), none, none, none]) 4 dX12_crossed_3 rfl rfl (by decide) rfl rfl ?_
  refine j_iconst (v := 0) 5 dX12_crossed_4 rfl (by decide) ?_
  refine j_istore_n (i := 3) (ls' := [some (vR 68), some (vI 0), some (vI 0), some (vI 0), none, none]) 6 dX12_crossed_5 rfl rfl (by decide) rfl rfl ?_
  refine j_sub (ls' := [some (vR 68), some (vI 0), some (vI 0), some (vI 0), none, none]) (And.intro rfl (And.intro rfl (And.intro rfl (And.intro rfl trivial)))) ?_
  refine tX12_crossed_L6 Θ l _   ?_ _ _ _ _ _
  intro v37 v38 s39
  refine j_aload_n 103 dX12_crossed_102 rfl rfl ?_
  refine j_iload_n 104 dX12_crossed_103 rfl rfl ?_
  refine j_iload_n 105 dX12_crossed_104 rfl rfl ?_
  refine s_callVi (M2 := mX12_tells) [vI v38, vI v37] 108 oa68 cc12 mkX12_tells w_1414 dX12_crossed_105 rfl rfl (tX12_tells Θ l _ _  _) (by first | exact Nat.le_of_ble_eq_true rfl | omega) (Nat.le_of_ble_eq_true rfl) (Nat.le_of_ble_eq_true rfl) (fun r40 s41 => ?_)
  exact s_iret dX12_crossed_108 rfl
