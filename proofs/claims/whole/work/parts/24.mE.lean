-- X12_row
def fX12_row_L34  (κ : Mem → Option (Int32 × Mem)) (y1 : Int32) (y2 : Int32) : Nat → Int32 → Mem → Option (Int32 × Mem)
  | 0, _, _ => none
  | k + 1, x3, s =>
    if x3 < 60 then
      if inb ((60 * y1) + x3) 360 = true then
      fX12_row_L34 κ y1 y2 k (x3 + 1) (wI s 71 (ix ((60 * y1) + x3)) 0)
      else none
    else
      κ s
def fX12_row  (a1 : Int32) (a2 : Int32) (s : Mem) : Option (Int32 × Mem) :=
bnd (fX12_isRow a1 s) (fun r1 s2 =>
if r1 = 0 then
  some ((-1), s2)
else
  if 60 < a2 then
    some ((-1), s2)
  else
    if a2 < 0 then
      bnd (fX12_meets 5 s2) (fun r6 s7 =>
      some (r6, s7))
    else
      if inb a1 6 = true then
      fX12_row_L34 (fun s11 =>
        some (a2, s11)) a1 a2 FU 0 (wI s2 70 (ix a1) a2)
      else none)
theorem tX12_row_L34 (Θ : Th) (l : Launch)  (κ : Mem → Option (Int32 × Mem)) (y1 : Int32) (y2 : Int32)  (hκ : ∀  (s : Mem), Js Θ l mX12_row 3 gI 58 [none, none, some (vI y2), none] [] s (κ  s)) : ∀ (k : Nat) (x3 : Int32) (s : Mem), Js Θ l mX12_row 3 gI 34 [some (vR 68), some (vI y1), some (vI y2), some (vI x3)] [] s (fX12_row_L34 κ y1 y2 k x3 s) := by
  intro k
  induction k with
  | zero => intro x3 s; exact j_none
  | succ k ih =>
    intro x3 s
    rw [fX12_row_L34]
    refine j_iload_n 35 dX12_row_34 rfl rfl ?_
    refine j_bipush (v := 60) 37 dX12_row_35 rfl (by decide) ?_
    refine j_icmp_ge 58 40 dX12_row_37 (by decide) rfl (fun c9 => ?_) (fun c9 => ?_)
    · refine j_aload_n 41 dX12_row_40 rfl rfl ?_
      refine s_getR (x := 71) 44 fa68_6 w_1212 dX12_row_41 rfl (by decide +kernel) ?_
      refine j_bipush (v := 60) 46 dX12_row_44 rfl (by decide) ?_
      refine j_iload_n 47 dX12_row_46 rfl rfl ?_
      refine j_imul 48 dX12_row_47 rfl ?_
      refine j_iload_n 49 dX12_row_48 rfl rfl ?_
      refine j_iadd 50 dX12_row_49 rfl ?_
      refine j_iconst (v := 0) 51 dX12_row_50 rfl (by decide) ?_
      refine s_iastore 52 aa71 dX12_row_51 rfl (fun b10 => ?_)
      refine j_iinc (v := x3 + 1) (ls' := [some (vR 68), some (vI y1), some (vI y2), some (vI (x3 + 1))]) 55 dX12_row_52 rfl rfl rfl (by decide) rfl rfl ?_
      refine j_goto 34 dX12_row_55 (by decide) ?_
      refine j_sub (ls' := [some (vR 68), some (vI y1), some (vI y2), some (vI (x3 + 1))]) (And.intro rfl (And.intro rfl (And.intro rfl (And.intro rfl trivial)))) ?_
      exact ih (x3 + 1) (wI s 71 (ix ((60 * y1) + x3)) 0)
    · refine j_sub (ls' := [none, none, some (vI y2), none]) (And.intro rfl trivial) ?_
      exact hκ s
theorem tX12_row (Θ : Th) (l : Launch)  (a1 : Int32) (a2 : Int32)  (s : Mem) : Cs Θ l mX12_row 3 gI [vR 68, vI a1, vI a2] s (fX12_row a1 a2 s) := by
  refine ct_of (by decide) [some (vR 68), some (vI a1), some (vI a2), none] rfl (Nat.le_of_ble_eq_true rfl) ?_
  unfold fX12_row
  refine j_iload_n 1 dX12_row_0 rfl rfl ?_
  refine s_callSi (M2 := mX12_isRow) [vI a1] 4 mkX12_isRow (Or.inl w_1399) dX12_row_1 rfl rfl (tX12_isRow Θ l _  _) (by first | exact Nat.le_of_ble_eq_true rfl | omega) (Nat.le_of_ble_eq_true rfl) (Nat.le_of_ble_eq_true rfl) (fun r1 s2 => ?_)
  refine j_if_eq 13 7 dX12_row_4 (by decide) rfl (fun c3 => ?_) (fun c3 => ?_)
  · refine j_iconst (v := (-1)) 14 dX12_row_13 rfl (by decide) ?_
    exact s_iret dX12_row_14 rfl
  · refine j_iload_n 8 dX12_row_7 rfl rfl ?_
    refine j_bipush (v := 60) 10 dX12_row_8 rfl (by decide) ?_
    refine j_icmp_le 15 13 dX12_row_10 (by decide) rfl (fun c4 => ?_) (fun c4 => ?_)
    · refine j_iconst (v := (-1)) 14 dX12_row_13 rfl (by decide) ?_
      exact s_iret dX12_row_14 rfl
    · refine j_iload_n 16 dX12_row_15 rfl rfl ?_
      refine j_if_ge 25 19 dX12_row_16 (by decide) rfl (fun c5 => ?_) (fun c5 => ?_)
      · refine j_aload_n 20 dX12_row_19 rfl rfl ?_
        refine j_iconst (v := 5) 21 dX12_row_20 rfl (by decide) ?_
        refine s_callVi (M2 := mX12_meets) [vI 5] 24 oa68 cc12 mkX12_meets w_1402 dX12_row_21 rfl rfl (tX12_meets Θ l _  _) (by first | exact Nat.le_of_ble_eq_true rfl | omega) (Nat.le_of_ble_eq_true rfl) (Nat.le_of_ble_eq_true rfl) (fun r6 s7 => ?_)
        exact s_iret dX12_row_24 rfl
      · refine j_aload_n 26 dX12_row_25 rfl rfl ?_
        refine s_getR (x := 70) 29 fa68_5 w_1211 dX12_row_26 rfl (by decide +kernel) ?_
        refine j_iload_n 30 dX12_row_29 rfl rfl ?_
        refine j_iload_n 31 dX12_row_30 rfl rfl ?_
        refine s_iastore 32 aa70 dX12_row_31 rfl (fun b8 => ?_)
        refine j_iconst (v := 0) 33 dX12_row_32 rfl (by decide) ?_
        refine j_istore_n (i := 3) (ls' := [some (vR 68), some (vI a1), some (vI a2), some (vI 0)]) 34 dX12_row_33 rfl rfl (by decide) rfl rfl ?_
        refine j_sub (ls' := [some (vR 68), some (vI a1), some (vI a2), some (vI 0)]) (And.intro rfl (And.intro rfl (And.intro rfl (And.intro rfl trivial)))) ?_
        refine tX12_row_L34 Θ l _ _ _  ?_ _ _ _
        intro s11
        refine j_iload_n 59 dX12_row_58 rfl rfl ?_
        exact s_iret dX12_row_59 rfl
-- X12_rowAt
def fX12_rowAt  (a1 : Int32) (a2 : Int32) (s : Mem) : Option (Int32 × Mem) :=
if inb ((60 * a1) + a2) 360 = true then
some (s.1 71 (ix ((60 * a1) + a2)), s)
else none
theorem tX12_rowAt (Θ : Th) (l : Launch)  (a1 : Int32) (a2 : Int32)  (s : Mem) : Cs Θ l mX12_rowAt 1 gI [vR 68, vI a1, vI a2] s (fX12_rowAt a1 a2 s) := by
  refine ct_of (by decide) [some (vR 68), some (vI a1), some (vI a2)] rfl (Nat.le_of_ble_eq_true rfl) ?_
  unfold fX12_rowAt
  refine j_aload_n 1 dX12_rowAt_0 rfl rfl ?_
  refine s_getR (x := 71) 4 fa68_6 w_1212 dX12_rowAt_1 rfl (by decide +kernel) ?_
  refine j_bipush (v := 60) 6 dX12_rowAt_4 rfl (by decide) ?_
  refine j_iload_n 7 dX12_rowAt_6 rfl rfl ?_
  refine j_imul 8 dX12_rowAt_7 rfl ?_
  refine j_iload_n 9 dX12_rowAt_8 rfl rfl ?_
  refine j_iadd 10 dX12_rowAt_9 rfl ?_
  refine s_iaload 11 aa71 dX12_rowAt_10 rfl (fun b1 => ?_)
  exact s_iret dX12_rowAt_11 rfl
-- X12_tells
def fX12_tells  (a1 : Int32) (a2 : Int32) (s : Mem) : Option (Int32 × Mem) :=
some (a2, wI s 68 2 a1)
theorem tX12_tells (Θ : Th) (l : Launch)  (a1 : Int32) (a2 : Int32)  (s : Mem) : Cs Θ l mX12_tells 1 gI [vR 68, vI a1, vI a2] s (fX12_tells a1 a2 s) := by
  refine ct_of (by decide) [some (vR 68), some (vI a1), some (vI a2)] rfl (Nat.le_of_ble_eq_true rfl) ?_
  unfold fX12_tells
  refine j_aload_n 1 dX12_tells_0 rfl rfl ?_
  refine j_iload_n 2 dX12_tells_1 rfl rfl ?_
  refine s_putI 5 fa68_2 w_1208 dX12_tells_2 rfl ?_
  refine j_iload_n 6 dX12_tells_5 rfl rfl ?_
  exact s_iret dX12_tells_6 rfl
-- X12_lay
def fX12_lay  (a1 : Int32) (a2 : Int32) (a3 : Int32) (s : Mem) : Option (Int32 × Mem) :=
bnd (fX12_isRow a1 s) (fun r1 s2 =>
if r1 = 0 then
  some ((-1), s2)
else
  if inb a1 6 = true then
  if (s2.1 70 (ix a1)) < 0 then
    bnd (fX12_meets 1 s2) (fun r6 s7 =>
    some (r6, s7))
  else
    if inb a1 6 = true then
    bnd (fX12_in a2 0 ((s2.1 70 (ix a1)) - 1) s2) (fun r9 s10 =>
    if r9 = 0 then
      bnd (fX12_meets 2 s10) (fun r12 s13 =>
      some (r12, s13))
    else
      bnd (fX12_rowAt a1 a2 s10) (fun r14 s15 =>
      if inb ((60 * a1) + a2) 360 = true then
      bnd (fX12_tells r14 1 (wI s15 71 (ix ((60 * a1) + a2)) a3)) (fun r17 s18 =>
      some (r17, s18))
      else none))
    else none
  else none)
theorem tX12_lay (Θ : Th) (l : Launch)  (a1 : Int32) (a2 : Int32) (a3 : Int32)  (s : Mem) : Cs Θ l mX12_lay 3 gI [vR 68, vI a1, vI a2, vI a3] s (fX12_lay a1 a2 a3 s) := by
  refine ct_of (by decide) [some (vR 68), some (vI a1), some (vI a2), some (vI a3), none] rfl (Nat.le_of_ble_eq_true rfl) ?_
  unfold fX12_lay
  refine j_iload_n 1 dX12_lay_0 rfl rfl ?_
  refine s_callSi (M2 := mX12_isRow) [vI a1] 4 mkX12_isRow (Or.inl w_1399) dX12_lay_1 rfl rfl (tX12_isRow Θ l _  _) (by first | exact Nat.le_of_ble_eq_true rfl | omega) (Nat.le_of_ble_eq_true rfl) (Nat.le_of_ble_eq_true rfl) (fun r1 s2 => ?_)
  refine j_if_ne 9 7 dX12_lay_4 (by decide) rfl (fun c3 => ?_) (fun c3 => ?_)
  · refine j_iconst (v := (-1)) 8 dX12_lay_7 rfl (by decide) ?_
    exact s_iret dX12_lay_8 rfl
  · refine j_aload_n 10 dX12_lay_9 rfl rfl ?_
    refine s_getR (x := 70) 13 fa68_5 w_1211 dX12_lay_10 rfl (by decide +kernel) ?_
    refine j_iload_n 14 dX12_lay_13 rfl rfl ?_
    refine s_iaload 15 aa70 dX12_lay_14 rfl (fun b4 => ?_)
    refine j_if_ge 24 18 dX12_lay_15 (by decide) rfl (fun c5 => ?_) (fun c5 => ?_)
    · refine j_aload_n 19 dX12_lay_18 rfl rfl ?_
      refine j_iconst (v := 1) 20 dX12_lay_19 rfl (by decide) ?_
      refine s_callVi (M2 := mX12_meets) [vI 1] 23 oa68 cc12 mkX12_meets w_1402 dX12_lay_20 rfl rfl (tX12_meets Θ l _  _) (by first | exact Nat.le_of_ble_eq_true rfl | omega) (Nat.le_of_ble_eq_true rfl) (Nat.le_of_ble_eq_true rfl) (fun r6 s7 => ?_)
      exact s_iret dX12_lay_23 rfl
    · refine j_iload_n 25 dX12_lay_24 rfl rfl ?_
      refine j_iconst (v := 0) 26 dX12_lay_25 rfl (by decide) ?_
      refine j_aload_n 27 dX12_lay_26 rfl rfl ?_
      refine s_getR (x := 70) 30 fa68_5 w_1211 dX12_lay_27 rfl (by decide +kernel) ?_
      refine j_iload_n 31 dX12_lay_30 rfl rfl ?_
      refine s_iaload 32 aa70 dX12_lay_31 rfl (fun b8 => ?_)
      refine j_iconst (v := 1) 33 dX12_lay_32 rfl (by decide) ?_
      refine j_isub 34 dX12_lay_33 rfl ?_
      refine s_callSi (M2 := mX12_in) [vI a2, vI 0, vI ((s2.1 70 (ix a1)) - 1)] 37 mkX12_in (Or.inl w_1380) dX12_lay_34 rfl rfl (tX12_in Θ l _ _ _  _) (by first | exact Nat.le_of_ble_eq_true rfl | omega) (Nat.le_of_ble_eq_true rfl) (Nat.le_of_ble_eq_true rfl) (fun r9 s10 => ?_)
      refine j_if_ne 46 40 dX12_lay_37 (by decide) rfl (fun c11 => ?_) (fun c11 => ?_)
      · refine j_aload_n 41 dX12_lay_40 rfl rfl ?_
        refine j_iconst (v := 2) 42 dX12_lay_41 rfl (by decide) ?_
        refine s_callVi (M2 := mX12_meets) [vI 2] 45 oa68 cc12 mkX12_meets w_1402 dX12_lay_42 rfl rfl (tX12_meets Θ l _  _) (by first | exact Nat.le_of_ble_eq_true rfl | omega) (Nat.le_of_ble_eq_true rfl) (Nat.le_of_ble_eq_true rfl) (fun r12 s13 => ?_)
        exact s_iret dX12_lay_45 rfl
      · refine j_aload_n 47 dX12_lay_46 rfl rfl ?_
        refine j_iload_n 48 dX12_lay_47 rfl rfl ?_
        refine j_iload_n 49 dX12_lay_48 rfl rfl ?_
        refine s_callVi (M2 := mX12_rowAt) [vI a1, vI a2] 52 oa68 cc12 mkX12_rowAt w_1410 dX12_lay_49 rfl rfl (tX12_rowAt Θ l _ _  _) (by first | exact Nat.le_of_ble_eq_true rfl | omega) (Nat.le_of_ble_eq_true rfl) (Nat.le_of_ble_eq_true rfl) (fun r14 s15 => ?_)
        refine j_istore (i := 4) (ls' := [some (vR 68), some (vI a1), some (vI a2), some (vI a3), some (vI r14)]) 54 dX12_lay_52 rfl (by decide) rfl rfl ?_
        refine j_aload_n 55 dX12_lay_54 rfl rfl ?_
        refine s_getR (x := 71) 58 fa68_6 w_1212 dX12_lay_55 rfl (by decide +kernel) ?_
        refine j_bipush (v := 60) 60 dX12_lay_58 rfl (by decide) ?_
        refine j_iload_n 61 dX12_lay_60 rfl rfl ?_
        refine j_imul 62 dX12_lay_61 rfl ?_
        refine j_iload_n 63 dX12_lay_62 rfl rfl ?_
        refine j_iadd 64 dX12_lay_63 rfl ?_
        refine j_iload_n 65 dX12_lay_64 rfl rfl ?_
        refine s_iastore 66 aa71 dX12_lay_65 rfl (fun b16 => ?_)
        refine j_aload_n 67 dX12_lay_66 rfl rfl ?_
        refine j_iload 69 dX12_lay_67 rfl rfl ?_
        refine j_iconst (v := 1) 70 dX12_lay_69 rfl (by decide) ?_
        refine s_callVi (M2 := mX12_tells) [vI r14, vI 1] 73 oa68 cc12 mkX12_tells w_1414 dX12_lay_70 rfl rfl (tX12_tells Θ l _ _  _) (by first | exact Nat.le_of_ble_eq_true rfl | omega) (Nat.le_of_ble_eq_true rfl) (Nat.le_of_ble_eq_true rfl) (fun r17 s18 => ?_)
        exact s_iret dX12_lay_73 rfl
-- X12_at
def fX12_at  (a1 : Int32) (a2 : Int32) (s : Mem) : Option (Int32 × Mem) :=
bnd (fX12_isRow a1 s) (fun r1 s2 =>
if r1 = 0 then
  some ((-1), s2)
else
  if inb a1 6 = true then
  if (s2.1 70 (ix a1)) < 0 then
    bnd (fX12_meets 1 s2) (fun r6 s7 =>
    some (r6, s7))
  else
    if inb a1 6 = true then
    bnd (fX12_in a2 0 ((s2.1 70 (ix a1)) - 1) s2) (fun r9 s10 =>
    if r9 = 0 then
      bnd (fX12_meets 2 s10) (fun r12 s13 =>
      some (r12, s13))
    else
      bnd (fX12_rowAt a1 a2 s10) (fun r14 s15 =>
      bnd (fX12_tells r14 1 s15) (fun r16 s17 =>
      some (r16, s17))))
    else none
  else none)
theorem tX12_at (Θ : Th) (l : Launch)  (a1 : Int32) (a2 : Int32)  (s : Mem) : Cs Θ l mX12_at 3 gI [vR 68, vI a1, vI a2] s (fX12_at a1 a2 s) := by
  refine ct_of (by decide) [some (vR 68), some (vI a1), some (vI a2)] rfl (Nat.le_of_ble_eq_true rfl) ?_
  unfold fX12_at
  refine j_iload_n 1 dX12_at_0 rfl rfl ?_
  refine s_callSi (M2 := mX12_isRow) [vI a1] 4 mkX12_isRow (Or.inl w_1399) dX12_at_1 rfl rfl (tX12_isRow Θ l _  _) (by first | exact Nat.le_of_ble_eq_true rfl | omega) (Nat.le_of_ble_eq_true rfl) (Nat.le_of_ble_eq_true rfl) (fun r1 s2 => ?_)
  refine j_if_ne 9 7 dX12_at_4 (by decide) rfl (fun c3 => ?_) (fun c3 => ?_)
  · refine j_iconst (v := (-1)) 8 dX12_at_7 rfl (by decide) ?_
    exact s_iret dX12_at_8 rfl
  · refine j_aload_n 10 dX12_at_9 rfl rfl ?_
    refine s_getR (x := 70) 13 fa68_5 w_1211 dX12_at_10 rfl (by decide +kernel) ?_
    refine j_iload_n 14 dX12_at_13 rfl rfl ?_
    refine s_iaload 15 aa70 dX12_at_14 rfl (fun b4 => ?_)
    refine j_if_ge 24 18 dX12_at_15 (by decide) rfl (fun c5 => ?_) (fun c5 => ?_)
    · refine j_aload_n 19 dX12_at_18 rfl rfl ?_
      refine j_iconst (v := 1) 20 dX12_at_19 rfl (by decide) ?_
      refine s_callVi (M2 := mX12_meets) [vI 1] 23 oa68 cc12 mkX12_meets w_1402 dX12_at_20 rfl rfl (tX12_meets Θ l _  _) (by first | exact Nat.le_of_ble_eq_true rfl | omega) (Nat.le_of_ble_eq_true rfl) (Nat.le_of_ble_eq_true rfl) (fun r6 s7 => ?_)
      exact s_iret dX12_at_23 rfl
    · refine j_iload_n 25 dX12_at_24 rfl rfl ?_
      refine j_iconst (v := 0) 26 dX12_at_25 rfl (by decide) ?_
      refine j_aload_n 27 dX12_at_26 rfl rfl ?_
      refine s_getR (x := 70) 30 fa68_5 w_1211 dX12_at_27 rfl (by decide +kernel) ?_
      refine j_iload_n 31 dX12_at_30 rfl rfl ?_
      refine s_iaload 32 aa70 dX12_at_31 rfl (fun b8 => ?_)
      refine j_iconst (v := 1) 33 dX12_at_32 rfl (by decide) ?_
      refine j_isub 34 dX12_at_33 rfl ?_
      refine s_callSi (M2 := mX12_in) [vI a2, vI 0, vI ((s2.1 70 (ix a1)) - 1)] 37 mkX12_in (Or.inl w_1380) dX12_at_34 rfl rfl (tX12_in Θ l _ _ _  _) (by first | exact Nat.le_of_ble_eq_true rfl | omega) (Nat.le_of_ble_eq_true rfl) (Nat.le_of_ble_eq_true rfl) (fun r9 s10 => ?_)
      refine j_if_eq 54 40 dX12_at_37 (by decide) rfl (fun c11 => ?_) (fun c11 => ?_)
      · refine j_aload_n 55 dX12_at_54 rfl rfl ?_
        refine j_iconst (v := 2) 56 dX12_at_55 rfl (by decide) ?_
        refine s_callVi (M2 := mX12_meets) [vI 2] 59 oa68 cc12 mkX12_meets w_1402 dX12_at_56 rfl rfl (tX12_meets Θ l _  _) (by first | exact Nat.le_of_ble_eq_true rfl | omega) (Nat.le_of_ble_eq_true rfl) (Nat.le_of_ble_eq_true rfl) (fun r12 s13 => ?_)
        exact s_iret dX12_at_59 rfl
      · refine j_aload_n 41 dX12_at_40 rfl rfl ?_
        refine j_aload_n 42 dX12_at_41 rfl rfl ?_
        refine j_iload_n 43 dX12_at_42 rfl rfl ?_
        refine j_iload_n 44 dX12_at_43 rfl rfl ?_
        refine s_callVi (M2 := mX12_rowAt) [vI a1, vI a2] 47 oa68 cc12 mkX12_rowAt w_1410 dX12_at_44 rfl rfl (tX12_rowAt Θ l _ _  _) (by first | exact Nat.le_of_ble_eq_true rfl | omega) (Nat.le_of_ble_eq_true rfl) (Nat.le_of_ble_eq_true rfl) (fun r14 s15 => ?_)
        refine j_iconst (v := 1) 48 dX12_at_47 rfl (by decide) ?_
        refine s_callVi (M2 := mX12_tells) [vI r14, vI 1] 51 oa68 cc12 mkX12_tells w_1414 dX12_at_48 rfl rfl (tX12_tells Θ l _ _  _) (by first | exact Nat.le_of_ble_eq_true rfl | omega) (Nat.le_of_ble_eq_true rfl) (Nat.le_of_ble_eq_true rfl) (fun r16 s17 => ?_)
        refine j_goto 59 dX12_at_51 (by decide) ?_
        exact s_iret dX12_at_59 rfl
-- X12_tear
def fX12_tear  (a1 : Int32) (s : Mem) : Option (Int32 × Mem) :=
bnd (fX12_isRow a1 s) (fun r1 s2 =>
if r1 = 0 then
  some ((-1), s2)
else
  if inb a1 6 = true then
  if (s2.1 70 (ix a1)) < 0 then
    bnd (fX12_meets 1 s2) (fun r6 s7 =>
    some (r6, s7))
  else
    if inb a1 6 = true then
    some (1, wI s2 70 (ix a1) (-1))
    else none
  else none)
theorem tX12_tear (Θ : Th) (l : Launch)  (a1 : Int32)  (s : Mem) : Cs Θ l mX12_tear 3 gI [vR 68, vI a1] s (fX12_tear a1 s) := by
  refine ct_of (by decide) [some (vR 68), some (vI a1)] rfl (Nat.le_of_ble_eq_true rfl) ?_
  unfold fX12_tear
  refine j_iload_n 1 dX12_tear_0 rfl rfl ?_
  refine s_callSi (M2 := mX12_isRow) [vI a1] 4 mkX12_isRow (Or.inl w_1399) dX12_tear_1 rfl rfl (tX12_isRow Θ l _  _) (by first | exact Nat.le_of_ble_eq_true rfl | omega) (Nat.le_of_ble_eq_true rfl) (Nat.le_of_ble_eq_true rfl) (fun r1 s2 => ?_)
  refine j_if_ne 9 7 dX12_tear_4 (by decide) rfl (fun c3 => ?_) (fun c3 => ?_)
  · refine j_iconst (v := (-1)) 8 dX12_tear_7 rfl (by decide) ?_
    exact s_iret dX12_tear_8 rfl
  · refine j_aload_n 10 dX12_tear_9 rfl rfl ?_
    refine s_getR (x := 70) 13 fa68_5 w_1211 dX12_tear_10 rfl (by decide +kernel) ?_
    refine j_iload_n 14 dX12_tear_13 rfl rfl ?_
    refine s_iaload 15 aa70 dX12_tear_14 rfl (fun b4 => ?_)
    refine j_if_ge 24 18 dX12_tear_15 (by decide) rfl (fun c5 => ?_) (fun c5 => ?_)
    · refine j_aload_n 19 dX12_tear_18 rfl rfl ?_
      refine j_iconst (v := 1) 20 dX12_tear_19 rfl (by decide) ?_
      refine s_callVi (M2 := mX12_meets) [vI 1] 23 oa68 cc12 mkX12_meets w_1402 dX12_tear_20 rfl rfl (tX12_meets Θ l _  _) (by first | exact Nat.le_of_ble_eq_true rfl | omega) (Nat.le_of_ble_eq_true rfl) (Nat.le_of_ble_eq_true rfl) (fun r6 s7 => ?_)
      exact s_iret dX12_tear_23 rfl
    · refine j_aload_n 25 dX12_tear_24 rfl rfl ?_
      refine s_getR (x := 70) 28 fa68_5 w_1211 dX12_tear_25 rfl (by decide +kernel) ?_
      refine j_iload_n 29 dX12_tear_28 rfl rfl ?_
      refine j_iconst (v := (-1)) 30 dX12_tear_29 rfl (by decide) ?_
      refine s_iastore 31 aa70 dX12_tear_30 rfl (fun b8 => ?_)
      refine j_iconst (v := 1) 32 dX12_tear_31 rfl (by decide) ?_
      exact s_iret dX12_tear_32 rfl
-- X12_copy
def fX12_copy_L104  (κ : Mem → Option (Int32 × Mem)) (y1 : Int32) (y2 : Int32) (y3 : Int32) (y4 : Int32) (y5 : Int32) : Nat → Int32 → Mem → Option (Int32 × Mem)
  | 0, _, _ => none
  | k + 1, x6, s =>
    if x6 < y5 then
      bnd (fX12_rowAt y1 (y2 + x6) s) (fun r33 s34 =>
      if inb x6 60 = true then
      fX12_copy_L104 κ y1 y2 y3 y4 y5 k (x6 + 1) (wI s34 72 (ix x6) r33)
      else none)
    else
      κ s
def fX12_copy_L136  (κ : Mem → Option (Int32 × Mem)) (y3 : Int32) (y4 : Int32) (y5 : Int32) : Nat → Int32 → Mem → Option (Int32 × Mem)
  | 0, _, _ => none
  | k + 1, x6, s =>
    if x6 < y5 then
      if inb x6 60 = true then
      if inb (((60 * y3) + y4) + x6) 360 = true then
      fX12_copy_L136 κ y3 y4 y5 k (x6 + 1) (wI s 71 (ix (((60 * y3) + y4) + x6)) (s.1 72 (ix x6)))
      else none
      else none
    else
      κ s
def fX12_copy  (a1 : Int32) (a2 : Int32) (a3 : Int32) (a4 : Int32) (a5 : Int32) (s : Mem) : Option (Int32 × Mem) :=
bnd (fX12_isRow a1 s) (fun r1 s2 =>
if r1 = 0 then
  some ((-1), s2)
else
  bnd (fX12_isRow a3 s2) (fun r4 s5 =>
  if r4 = 0 then
    some ((-1), s5)
  else
    if a5 < 0 then
      bnd (fX12_meets 5 s5) (fun r8 s9 =>
      some (r8, s9))
    else
      if inb a1 6 = true then
      if (s5.1 70 (ix a1)) < 0 then
        bnd (fX12_meets 1 s5) (fun r12 s13 =>
        some (r12, s13))
      else
        if inb a3 6 = true then
        if (s5.1 70 (ix a3)) < 0 then
          bnd (fX12_meets 1 s5) (fun r16 s17 =>
          some (r16, s17))
        else
          if a2 < 0 then
            bnd (fX12_meets 2 s5) (fun r19 s20 =>
            some (r19, s20))
          else
            if a4 < 0 then
              bnd (fX12_meets 2 s5) (fun r22 s23 =>
              some (r22, s23))
            else
              if inb a1 6 = true then
              if 0 < (lg_cmp ((Int32.toInt64 a2) + (Int32.toInt64 a5)) (Int32.toInt64 (s5.1 70 (ix a1)))) then
                bnd (fX12_meets 2 s5) (fun r26 s27 =>
                some (r26, s27))
              else
                if inb a3 6 = true then
                if 0 < (lg_cmp ((Int32.toInt64 a4) + (Int32.toInt64 a5)) (Int32.toInt64 (s5.1 70 (ix a3)))) then
                  bnd (fX12_meets 2 s5) (fun r30 s31 =>
                  some (r30, s31))
                else
                  fX12_copy_L104 (fun s36 =>
                    fX12_copy_L136 (fun s40 =>
                      some (1, s40)) a3 a4 a5 FU 0 s36) a1 a2 a3 a4 a5 FU 0 s5
                else none
              else none
        else none
      else none))
theorem tX12_copy_L104 (Θ : Th) (l : Launch)  (κ : Mem → Option (Int32 × Mem)) (y1 : Int32) (y2 : Int32) (y3 : Int32) (y4 : Int32) (y5 : Int32)  (hκ : ∀  (s : Mem), Js Θ l mX12_copy 3 gI 133 [some (vR 68), none, none, some (vI y3), some (vI y4), some (vI y5), none] [] s (κ  s)) : ∀ (k : Nat) (x6 : Int32) (s : Mem), Js Θ l mX12_copy 3 gI 104 [some (vR 68), some (vI y1), some (vI y2), some (vI y3), some (vI y4), some (vI y5), some (vI x6)] [] s (fX12_copy_L104 κ y1 y2 y3 y4 y5 k x6 s) := by
  intro k
  induction k with
  | zero => intro x6 s; exact j_none
  | succ k ih =>
    intro x6 s
    rw [fX12_copy_L104]
    refine j_iload 106 dX12_copy_104 rfl rfl ?_
    refine j_iload 108 dX12_copy_106 rfl rfl ?_
    refine j_icmp_ge 133 111 dX12_copy_108 (by decide) rfl (fun c32 => ?_) (fun c32 => ?_)
    · refine j_aload_n 112 dX12_copy_111 rfl rfl ?_
      refine s_getR (x := 72) 115 fa68_7 w_1213 dX12_copy_112 rfl (by decide +kernel) ?_
      refine j_iload 117 dX12_copy_115 rfl rfl ?_
      refine j_aload_n 118 dX12_copy_117 rfl rfl ?_
      refine j_iload_n 119 dX12_copy_118 rfl rfl ?_
      refine j_iload_n 120 dX12_copy_119 rfl rfl ?_
      refine j_iload 122 dX12_copy_120 rfl rfl ?_
      refine j_iadd 123 dX12_copy_122 rfl ?_
      refine s_callVi (M2 := mX12_rowAt) [vI y1, vI (y2 + x6)] 126 oa68 cc12 mkX12_rowAt w_1410 dX12_copy_123 rfl rfl (tX12_rowAt Θ l _ _  _) (by first | exact Nat.le_of_ble_eq_true rfl | omega) (Nat.le_of_ble_eq_true rfl) (Nat.le_of_ble_eq_true rfl) (fun r33 s34 => ?_)
      refine s_iastore 127 aa72 dX12_copy_126 rfl (fun b35 => ?_)
      refine j_iinc (v := x6 + 1) (ls' := [some (vR 68), some (vI y1), some (vI y2), some (vI y3), some (vI y4), some (vI y5), some (vI (x6 + 1))]) 130 dX12_copy_127 rfl rfl rfl (by decide) rfl rfl ?_
      refine j_goto 104 dX12_copy_130 (by decide) ?_
      refine j_sub (ls' := [some (vR 68), some (vI y1), some (vI y2), some (vI y3), some (vI y4), some (vI y5), some (vI (x6 + 1))]) (And.intro rfl (And.intro rfl (And.intro rfl (And.intro rfl (And.intro rfl (And.intro rfl (And.intro rfl trivial))))))) ?_
      exact ih (x6 + 1) (wI s34 72 (ix x6) r33)
    · refine j_sub (ls' := [some (vR 68), none, none, some (vI y3), some (vI y4), some (vI y5), none]) (And.intro rfl (And.intro rfl (And.intro rfl (And.intro rfl trivial)))) ?_
      exact hκ s
theorem tX12_copy_L136 (Θ : Th) (l : Launch)  (κ : Mem → Option (Int32 × Mem)) (y3 : Int32) (y4 : Int32) (y5 : Int32)  (hκ : ∀  (s : Mem), Js Θ l mX12_copy 3 gI 171 [none, none, none, none, none, none, none] [] s (κ  s)) : ∀ (k : Nat) (x6 : Int32) (s : Mem), Js Θ l mX12_copy 3 gI 136 [some (vR 68), none, none, some (vI y3), some (vI y4), some (vI y5), some (vI x6)] [] s (fX12_copy_L136 κ y3 y4 y5 k x6 s) := by
  intro k
  induction k with
  | zero => intro x6 s; exact j_none
  | succ k ih =>
    intro x6 s
    rw [fX12_copy_L136]
    refine j_iload 138 dX12_copy_136 rfl rfl ?_
    refine j_iload 140 dX12_copy_138 rfl rfl ?_
    refine j_icmp_ge 171 143 dX12_copy_140 (by decide) rfl (fun c37 => ?_) (fun c37 => ?_)
    · refine j_aload_n 144 dX12_copy_143 rfl rfl ?_
      refine s_getR (x := 71) 147 fa68_6 w_1212 dX12_copy_144 rfl (by decide +kernel) ?_
      refine j_bipush (v := 60) 149 dX12_copy_147 rfl (by decide) ?_
      refine j_iload_n 150 dX12_copy_149 rfl rfl ?_
      refine j_imul 151 dX12_copy_150 rfl ?_
      refine j_iload 153 dX12_copy_151 rfl rfl ?_
      refine j_iadd 154 dX12_copy_153 rfl ?_
      refine j_iload 156 dX12_copy_154 rfl rfl ?_
      refine j_iadd 157 dX12_copy_156 rfl ?_
      refine j_aload_n 158 dX12_copy_157 rfl rfl ?_
      refine s_getR (x := 72) 161 fa68_7 w_1213 dX12_copy_158 rfl (by decide +kernel) ?_
      refine j_iload 163 dX12_copy_161 rfl rfl ?_
      refine s_iaload 164 aa72 dX12_copy_163 rfl (fun b38 => ?_)
      refine s_iastore 165 aa71 dX12_copy_164 rfl (fun b39 => ?_)
      refine j_iinc (v := x6 + 1) (ls' := [some (vR 68), none, none, some (vI y3), some (vI y4), some (vI y5), some (vI (x6 + 1))]) 168 dX12_copy_165 rfl rfl rfl (by decide) rfl rfl ?_
      refine j_goto 136 dX12_copy_168 (by decide) ?_
      refine j_sub (ls' := [some (vR 68), none, none, some (vI y3), some (vI y4), some (vI y5), some (vI (x6 + 1))]) (And.intro rfl (And.intro rfl (And.intro rfl (And.intro rfl (And.intro rfl trivial))))) ?_
      exact ih (x6 + 1) (wI s 71 (ix (((60 * y3) + y4) + x6)) (s.1 72 (ix x6)))
    · refine j_sub (ls' := [none, none, none, none, none, none, none]) (trivial) ?_
      exact hκ s
theorem tX12_copy (Θ : Th) (l : Launch)  (a1 : Int32) (a2 : Int32) (a3 : Int32) (a4 : Int32) (a5 : Int32)  (s : Mem) : Cs Θ l mX12_copy 3 gI [vR 68, vI a1, vI a2, vI a3, vI a4, vI a5] s (fX12_copy a1 a2 a3 a4 a5 s) := by
  refine ct_of (by decide) [some (vR 68), some (vI a1), some (vI a2), some (vI a3), some (vI a4), some (vI a5), none] rfl (Nat.le_of_ble_eq_true rfl) ?_
  unfold fX12_copy
  refine j_iload_n 1 dX12_copy_0 rfl rfl ?_
  refine s_callSi (M2 := mX12_isRow) [vI a1] 4 mkX12_isRow (Or.inl w_1399) dX12_copy_1 rfl rfl (tX12_isRow Θ l _  _) (by first | exact Nat.le_of_ble_eq_true rfl | omega) (Nat.le_of_ble_eq_true rfl) (Nat.le_of_ble_eq_true rfl) (fun r1 s2 => ?_)
  refine j_if_eq 14 7 dX12_copy_4 (by decide) rfl (fun c3 => ?_) (fun c3 => ?_)
  · refine j_iconst (v := (-1)) 15 dX12_copy_14 rfl (by decide) ?_
    exact s_iret dX12_copy_15 rfl
  · refine j_iload_n 8 dX12_copy_7 rfl rfl ?_
    refine s_callSi (M2 := mX12_isRow) [vI a3] 11 mkX12_isRow (Or.inl w_1399) dX12_copy_8 rfl rfl (tX12_isRow Θ l _  _) (by first | exact Nat.le_of_ble_eq_true rfl | omega) (Nat.le_of_ble_eq_true rfl) (Nat.le_of_ble_eq_true rfl) (fun r4 s5 => ?_)
    refine j_if_ne 16 14 dX12_copy_11 (by decide) rfl (fun c6 => ?_) (fun c6 => ?_)
    · refine j_iconst (v := (-1)) 15 dX12_copy_14 rfl (by decide) ?_
      exact s_iret dX12_copy_15 rfl
    · refine j_iload 18 dX12_copy_16 rfl rfl ?_
      refine j_if_ge 27 21 dX12_copy_18 (by decide) rfl (fun c7 => ?_) (fun c7 => ?_)
      · refine j_aload_n 22 dX12_copy_21 rfl rfl ?_
        refine j_iconst (v := 5) 23 dX12_copy_22 rfl (by decide) ?_
        refine s_callVi (M2 := mX12_meets) [vI 5] 26 oa68 cc12 mkX12_meets w_1402 dX12_copy_23 rfl rfl (tX12_meets Θ l _  _) (by first | exact Nat.le_of_ble_eq_true rfl | omega) (Nat.le_of_ble_eq_true rfl) (Nat.le_of_ble_eq_true rfl) (fun r8 s9 => ?_)
        exact s_iret dX12_copy_26 rfl
      · refine j_aload_n 28 dX12_copy_27 rfl rfl ?_
        refine s_getR (x := 70) 31 fa68_5 w_1211 dX12_copy_28 rfl (by decide +kernel) ?_
        refine j_iload_n 32 dX12_copy_31 rfl rfl ?_
        refine s_iaload 33 aa70 dX12_copy_32 rfl (fun b10 => ?_)
        refine j_if_lt 45 36 dX12_copy_33 (by decide) rfl (fun c11 => ?_) (fun c11 => ?_)
        · refine j_aload_n 46 dX12_copy_45 rfl rfl ?_
          refine j_iconst (v := 1) 47 dX12_copy_46 rfl (by decide) ?_
          refine s_callVi (M2 := mX12_meets) [vI 1] 50 oa68 cc12 mkX12_meets w_1402 dX12_copy_47 rfl rfl (tX12_meets Θ l _  _) (by first | exact Nat.le_of_ble_eq_true rfl | omega) (Nat.le_of_ble_eq_true rfl) (Nat.le_of_ble_eq_true rfl) (fun r12 s13 => ?_)
          exact s_iret dX12_copy_50 rfl
        · refine j_aload_n 37 dX12_copy_36 rfl rfl ?_
          refine s_getR (x := 70) 40 fa68_5 w_1211 dX12_copy_37 rfl (by decide +kernel) ?_
          refine j_iload_n 41 dX12_copy_40 rfl rfl ?_
          refine s_iaload 42 aa70 dX12_copy_41 rfl (fun b14 => ?_)
          refine j_if_ge 51 45 dX12_copy_42 (by decide) rfl (fun c15 => ?_) (fun c15 => ?_)
          · refine j_aload_n 46 dX12_copy_45 rfl rfl ?_
            refine j_iconst (v := 1) 47 dX12_copy_46 rfl (by decide) ?_
            refine s_callVi (M2 := mX12_meets) [vI 1] 50 oa68 cc12 mkX12_meets w_1402 dX12_copy_47 rfl rfl (tX12_meets Θ l _  _) (by first | exact Nat.le_of_ble_eq_true rfl | omega) (Nat.le_of_ble_eq_true rfl) (Nat.le_of_ble_eq_true rfl) (fun r16 s17 => ?_)
            exact s_iret dX12_copy_50 rfl
          · refine j_iload_n 52 dX12_copy_51 rfl rfl ?_
            refine j_if_lt 95 55 dX12_copy_52 (by decide) rfl (fun c18 => ?_) (fun c18 => ?_)
            · refine j_aload_n 96 dX12_copy_95 rfl rfl ?_
              refine j_iconst (v := 2) 97 dX12_copy_96 rfl (by decide) ?_
              refine s_callVi (M2 := mX12_meets) [vI 2] 100 oa68 cc12 mkX12_meets w_1402 dX12_copy_97 rfl rfl (tX12_meets Θ l _  _) (by first | exact Nat.le_of_ble_eq_true rfl | omega) (Nat.le_of_ble_eq_true rfl) (Nat.le_of_ble_eq_true rfl) (fun r19 s20 => ?_)
              exact s_iret dX12_copy_100 rfl
            · refine j_iload 57 dX12_copy_55 rfl rfl ?_
              refine j_if_lt 95 60 dX12_copy_57 (by decide) rfl (fun c21 => ?_) (fun c21 => ?_)
              · refine j_aload_n 96 dX12_copy_95 rfl rfl ?_
                refine j_iconst (v := 2) 97 dX12_copy_96 rfl (by decide) ?_
                refine s_callVi (M2 := mX12_meets) [vI 2] 100 oa68 cc12 mkX12_meets w_1402 dX12_copy_97 rfl rfl (tX12_meets Θ l _  _) (by first | exact Nat.le_of_ble_eq_true rfl | omega) (Nat.le_of_ble_eq_true rfl) (Nat.le_of_ble_eq_true rfl) (fun r22 s23 => ?_)
                exact s_iret dX12_copy_100 rfl
              · refine j_iload_n 61 dX12_copy_60 rfl rfl ?_
                refine j_i2l 62 dX12_copy_61 rfl ?_
                refine j_iload 64 dX12_copy_62 rfl rfl ?_
                refine j_i2l 65 dX12_copy_64 rfl ?_
                refine j_ladd 66 dX12_copy_65 rfl ?_
                refine j_aload_n 67 dX12_copy_66 rfl rfl ?_
                refine s_getR (x := 70) 70 fa68_5 w_1211 dX12_copy_67 rfl (by decide +kernel) ?_
                refine j_iload_n 71 dX12_copy_70 rfl rfl ?_
                refine s_iaload 72 aa70 dX12_copy_71 rfl (fun b24 => ?_)
                refine j_i2l 73 dX12_copy_72 rfl ?_
                refine j_lcmp 74 dX12_copy_73 rfl ?_
                refine j_if_gt 95 77 dX12_copy_74 (by decide) rfl (fun c25 => ?_) (fun c25 => ?_)
                · refine j_aload_n 96 dX12_copy_95 rfl rfl ?_
                  refine j_iconst (v := 2) 97 dX12_copy_96 rfl (by decide) ?_
                  refine s_callVi (M2 := mX12_meets) [vI 2] 100 oa68 cc12 mkX12_meets w_1402 dX12_copy_97 rfl rfl (tX12_meets Θ l _  _) (by first | exact Nat.le_of_ble_eq_true rfl | omega) (Nat.le_of_ble_eq_true rfl) (Nat.le_of_ble_eq_true rfl) (fun r26 s27 => ?_)
                  exact s_iret dX12_copy_100 rfl
                · refine j_iload 79 dX12_copy_77 rfl rfl ?_
                  refine j_i2l 80 dX12_copy_79 rfl ?_
                  refine j_iload 82 dX12_copy_80 rfl rfl ?_
                  refine j_i2l 83 dX12_copy_82 rfl ?_
                  refine j_ladd 84 dX12_copy_83 rfl ?_
                  refine j_aload_n 85 dX12_copy_84 rfl rfl ?_
                  refine s_getR (x := 70) 88 fa68_5 w_1211 dX12_copy_85 rfl (by decide +kernel) ?_
                  refine j_iload_n 89 dX12_copy_88 rfl rfl ?_
                  refine s_iaload 90 aa70 dX12_copy_89 rfl (fun b28 => ?_)
                  refine j_i2l 91 dX12_copy_90 rfl ?_
                  refine j_lcmp 92 dX12_copy_91 rfl ?_
                  refine j_if_le 101 95 dX12_copy_92 (by decide) rfl (fun c29 => ?_) (fun c29 => ?_)
                  · refine j_aload_n 96 dX12_copy_95 rfl rfl ?_
                    refine j_iconst (v := 2) 97 dX12_copy_96 rfl (by decide) ?_
                    refine s_callVi (M2 := mX12_meets) [vI 2] 100 oa68 cc12 mkX12_meets w_1402 dX12_copy_97 rfl rfl (tX12_meets Θ l _  _) (by first | exact Nat.le_of_ble_eq_true rfl | omega) (Nat.le_of_ble_eq_true rfl) (Nat.le_of_ble_eq_true rfl) (fun r30 s31 => ?_)
                    exact s_iret dX12_copy_100 rfl
                  · refine j_iconst (v := 0) 102 dX12_copy_101 rfl (by decide) ?_
                    refine j_istore (i := 6) (ls' := [some (vR 68), some (vI a1), some (vI a2), some (vI a3), some (vI a4), some (vI a5), some (vI 0)]) 104 dX12_copy_102 rfl (by decide) rfl rfl ?_
                    refine j_sub (ls' := [some (vR 68), some (vI a1), some (vI a2), some (vI a3), some (vI a4), some (vI a5), some (vI 0)]) (And.intro rfl (And.intro rfl (And.intro rfl (And.intro rfl (And.intro rfl (And.intro rfl (And.intro rfl trivial))))))) ?_
                    refine tX12_copy_L104 Θ l _ _ _ _ _ _  ?_ _ _ _
                    intro s36
                    refine j_iconst (v := 0) 134 dX12_copy_133 rfl (by decide) ?_
                    refine j_istore (i := 6) (ls' := [some (vR 68), none, none, some (vI a3), some (vI a4), some (vI a5), some (vI 0)]) 136 dX12_copy_134 rfl (by decide) rfl rfl ?_
                    refine j_sub (ls' := [some (vR 68), none, none, some (vI a3), some (vI a4), some (vI a5), some (vI 0)]) (And.intro rfl (And.intro rfl (And.intro rfl (And.intro rfl (And.intro rfl trivial))))) ?_
                    refine tX12_copy_L136 Θ l _ _ _ _  ?_ _ _ _
                    intro s40
                    refine j_iconst (v := 1) 172 dX12_copy_171 rfl (by decide) ?_
                    exact s_iret dX12_copy_172 rfl
-- X12_mean
def fX12_mean_L44  (κ : Int64 → Mem → Option (Int32 × Mem)) (y1 : Int32) : Nat → Int64 → Int32 → Mem → Option (Int32 × Mem)
  | 0, _, _, _ => none
  | k + 1, x2, x4, s =>
    if inb y1 6 = true then
    if x4 < (s.1 70 (ix y1)) then
      bnd (fX12_rowAt y1 x4 s) (fun r14 s15 =>
      nm (x2 + (Int32.toInt64 r14)) (fun v16 =>
      fX12_mean_L44 κ y1 k v16 (x4 + 1) s15))
    else
      κ x2 s
    else none
def fX12_mean  (a1 : Int32) (s : Mem) : Option (Int32 × Mem) :=
bnd (fX12_isRow a1 s) (fun r1 s2 =>
if r1 = 0 then
  some ((-1), s2)
else
  if inb a1 6 = true then
  if (s2.1 70 (ix a1)) < 0 then
    bnd (fX12_meets 1 s2) (fun r6 s7 =>
    some (r6, s7))
  else
    if inb a1 6 = true then
    if (s2.1 70 (ix a1)) = 0 then
      bnd (fX12_meets 4 s2) (fun r10 s11 =>
      some (r10, s11))
    else
      fX12_mean_L44 (fun v17 s18 =>
        if inb a1 6 = true then
        if Int32.toInt64 (s18.1 70 (ix a1)) = 0 then none else
        bnd (fX12_tells (Int64.toInt32 (v17 / (Int32.toInt64 (s18.1 70 (ix a1))))) 1 s18) (fun r20 s21 =>
        some (r20, s21))
        else none) a1 FU 0 0 s2
    else none
  else none)
theorem tX12_mean_L44 (Θ : Th) (l : Launch)  (κ : Int64 → Mem → Option (Int32 × Mem)) (y1 : Int32)  (hκ : ∀ (x2 : Int64) (s : Mem), Js Θ l mX12_mean 3 gI 72 [some (vR 68), some (vI y1), some (vL x2), none, none] [] s (κ x2 s)) : ∀ (k : Nat) (x2 : Int64) (x4 : Int32) (s : Mem), Js Θ l mX12_mean 3 gI 44 [some (vR 68), some (vI y1), some (vL x2), none, some (vI x4)] [] s (fX12_mean_L44 κ y1 k x2 x4 s) := by
  intro k
  induction k with
  | zero => intro x2 x4 s; exact j_none
  | succ k ih =>
    intro x2 x4 s
    rw [fX12_mean_L44]
    refine j_iload 46 dX12_mean_44 rfl rfl ?_
    refine j_aload_n 47 dX12_mean_46 rfl rfl ?_
    refine s_getR (x := 70) 50 fa68_5 w_1211 dX12_mean_47 rfl (by decide +kernel) ?_
    refine j_iload_n 51 dX12_mean_50 rfl rfl ?_
    refine s_iaload 52 aa70 dX12_mean_51 rfl (fun b12 => ?_)
    refine j_icmp_ge 72 55 dX12_mean_52 (by decide) rfl (fun c13 => ?_) (fun c13 => ?_)
    · refine j_lload_n 56 dX12_mean_55 rfl rfl ?_
      refine j_aload_n 57 dX12_mean_56 rfl rfl ?_
      refine j_iload_n 58 dX12_mean_57 rfl rfl ?_
      refine j_iload 60 dX12_mean_58 rfl rfl ?_
      refine s_callVi (M2 := mX12_rowAt) [vI y1, vI x4] 63 oa68 cc12 mkX12_rowAt w_1410 dX12_mean_60 rfl rfl (tX12_rowAt Θ l _ _  _) (by first | exact Nat.le_of_ble_eq_true rfl | omega) (Nat.le_of_ble_eq_true rfl) (Nat.le_of_ble_eq_true rfl) (fun r14 s15 => ?_)
      refine j_i2l 64 dX12_mean_63 rfl ?_
      refine j_ladd 65 dX12_mean_64 rfl ?_
      refine s_nmL (fun v16 => ?_)
      refine j_lstore_n (i := 2) (ls' := [some (vR 68), some (vI y1), some (vL v16), none, some (vI x4)]) 66 dX12_mean_65 rfl rfl (by decide) rfl rfl ?_
      refine j_iinc (v := x4 + 1) (ls' := [some (vR 68), some (vI y1), some (vL v16), none, some (vI (x4 + 1))]) 69 dX12_mean_66 rfl rfl rfl (by decide) rfl rfl ?_
      refine j_goto 44 dX12_mean_69 (by decide) ?_
      refine j_sub (ls' := [some (vR 68), some (vI y1), some (vL v16), none, some (vI (x4 + 1))]) (And.intro rfl (And.intro rfl (And.intro rfl (And.intro rfl trivial)))) ?_
      exact ih v16 (x4 + 1) s15
    · refine j_sub (ls' := [some (vR 68), some (vI y1), some (vL x2), none, none]) (And.intro rfl (And.intro rfl (And.intro rfl trivial))) ?_
      exact hκ x2 s
theorem tX12_mean (Θ : Th) (l : Launch)  (a1 : Int32)  (s : Mem) : Cs Θ l mX12_mean 3 gI [vR 68, vI a1] s (fX12_mean a1 s) := by
  refine ct_of (by decide) [some (vR 68), some (vI a1), none, none, none] rfl (Nat.le_of_ble_eq_true rfl) ?_
  unfold fX12_mean
  refine j_iload_n 1 dX12_mean_0 rfl rfl ?_
  refine s_callSi (M2 := mX12_isRow) [vI a1] 4 mkX12_isRow (Or.inl w_1399) dX12_mean_1 rfl rfl (tX12_isRow Θ l _  _) (by first | exact Nat.le_of_ble_eq_true rfl | omega) (Nat.le_of_ble_eq_true rfl) (Nat.le_of_ble_eq_true rfl) (fun r1 s2 => ?_)
  refine j_if_ne 9 7 dX12_mean_4 (by decide) rfl (fun c3 => ?_) (fun c3 => ?_)
  · refine j_iconst (v := (-1)) 8 dX12_mean_7 rfl (by decide) ?_
    exact s_iret dX12_mean_8 rfl
  · refine j_aload_n 10 dX12_mean_9 rfl rfl ?_
    refine s_getR (x := 70) 13 fa68_5 w_1211 dX12_mean_10 rfl (by decide +kernel) ?_
    refine j_iload_n 14 dX12_mean_13 rfl rfl ?_
    refine s_iaload 15 aa70 dX12_mean_14 rfl (fun b4 => ?_)
    refine j_if_ge 24 18 dX12_mean_15 (by decide) rfl (fun c5 => ?_) (fun c5 => ?_)
    · refine j_aload_n 19 dX12_mean_18 rfl rfl ?_
      refine j_iconst (v := 1) 20 dX12_mean_19 rfl (by decide) ?_
      refine s_callVi (M2 := mX12_meets) [vI 1] 23 oa68 cc12 mkX12_meets w_1402 dX12_mean_20 rfl rfl (tX12_meets Θ l _  _) (by first | exact Nat.le_of_ble_eq_true rfl | omega) (Nat.le_of_ble_eq_true rfl) (Nat.le_of_ble_eq_true rfl) (fun r6 s7 => ?_)
      exact s_iret dX12_mean_23 rfl
    · refine j_aload_n 25 dX12_mean_24 rfl rfl ?_
      refine s_getR (x := 70) 28 fa68_5 w_1211 dX12_mean_25 rfl (by decide +kernel) ?_
      refine j_iload_n 29 dX12_mean_28 rfl rfl ?_
      refine s_iaload 30 aa70 dX12_mean_29 rfl (fun b8 => ?_)
      refine j_if_ne 39 33 dX12_mean_30 (by decide) rfl (fun c9 => ?_) (fun c9 => ?_)
      · refine j_aload_n 34 dX12_mean_33 rfl rfl ?_
        refine j_iconst (v := 4) 35 dX12_mean_34 rfl (by decide) ?_
        refine s_callVi (M2 := mX12_meets) [vI 4] 38 oa68 cc12 mkX12_meets w_1402 dX12_mean_35 rfl rfl (tX12_meets Θ l _  _) (by first | exact Nat.le_of_ble_eq_true rfl | omega) (Nat.le_of_ble_eq_true rfl) (Nat.le_of_ble_eq_true rfl) (fun r10 s11 => ?_)
        exact s_iret dX12_mean_38 rfl
      · refine j_lconst (v := 0) 40 dX12_mean_39 rfl (by decide) ?_
        refine j_lstore_n (i := 2) (ls' := [some (vR 68), some (vI a1), some (vL 0), none, none]) 41 dX12_mean_40 rfl rfl (by decide) rfl rfl ?_
        refine j_iconst (v := 0) 42 dX12_mean_41 rfl (by decide) ?_
        refine j_istore (i := 4) (ls' := [some (vR 68), some (vI a1), some (vL 0), none, some (vI 0)]) 44 dX12_mean_42 rfl (by decide) rfl rfl ?_
        refine j_sub (ls' := [some (vR 68), some (vI a1), some (vL 0), none, some (vI 0)]) (And.intro rfl (And.intro rfl (And.intro rfl (And.intro rfl trivial)))) ?_
        refine tX12_mean_L44 Θ l _ _  ?_ _ _ _ _
        intro v17 s18
        refine j_aload_n 73 dX12_mean_72 rfl rfl ?_
        refine j_lload_n 74 dX12_mean_73 rfl rfl ?_
        refine j_aload_n 75 dX12_mean_74 rfl rfl ?_
        refine s_getR (x := 70) 78 fa68_5 w_1211 dX12_mean_75 rfl (by decide +kernel) ?_
        refine j_iload_n 79 dX12_mean_78 rfl rfl ?_
        refine s_iaload 80 aa70 dX12_mean_79 rfl (fun b19 => ?_)
        refine j_i2l 81 dX12_mean_80 rfl ?_
        refine j_ldiv 82 dX12_mean_81 rfl (fun _ => ?_)
        refine j_l2i 83 dX12_mean_82 rfl ?_
        refine j_iconst (v := 1) 84 dX12_mean_83 rfl (by decide) ?_
        refine s_callVi (M2 := mX12_tells) [vI (Int64.toInt32 (v17 / (Int32.toInt64 (s18.1 70 (ix a1))))), vI 1] 87 oa68 cc12 mkX12_tells w_1414 dX12_mean_84 rfl rfl (tX12_tells Θ l _ _  _) (by first | exact Nat.le_of_ble_eq_true rfl | omega) (Nat.le_of_ble_eq_true rfl) (Nat.le_of_ble_eq_true rfl) (fun r20 s21 => ?_)
        exact s_iret dX12_mean_87 rfl
-- X12_isText
def fX12_isText  (a0 : Int32) (s : Mem) : Option (Int32 × Mem) :=
bnd (fX12_in a0 0 3 s) (fun r1 s2 =>
if r1 = 0 ∨ r1 = 1 then some (r1, s2) else none)
theorem tX12_isText (Θ : Th) (l : Launch)  (a0 : Int32)  (s : Mem) : Cs Θ l mX12_isText 2 gI [vI a0] s (fX12_isText a0 s) := by
  refine ct_of (by decide) [some (vI a0)] rfl (Nat.le_of_ble_eq_true rfl) ?_
  unfold fX12_isText
  refine j_iload_n 1 dX12_isText_0 rfl rfl ?_
  refine j_iconst (v := 0) 2 dX12_isText_1 rfl (by decide) ?_
  refine j_iconst (v := 3) 3 dX12_isText_2 rfl (by decide) ?_
  refine s_callSi (M2 := mX12_in) [vI a0, vI 0, vI 3] 6 mkX12_in (Or.inl w_1380) dX12_isText_3 rfl rfl (tX12_in Θ l _ _ _  _) (by first | exact Nat.le_of_ble_eq_true rfl | omega) (Nat.le_of_ble_eq_true rfl) (Nat.le_of_ble_eq_true rfl) (fun r1 s2 => ?_)
  exact s_zretG dX12_isText_6 rfl
-- X12_text
def fX12_text_L34  (κ : Mem → Option (Int32 × Mem)) (y1 : Int32) (y2 : Int32) : Nat → Int32 → Mem → Option (Int32 × Mem)
  | 0, _, _ => none
  | k + 1, x3, s =>
    if x3 < 60 then
      if inb ((60 * y1) + x3) 240 = true then
      fX12_text_L34 κ y1 y2 k (x3 + 1) (wI s 74 (ix ((60 * y1) + x3)) (Int32.toInt8 32).toInt32)
      else none
    else
      κ s
def fX12_text  (a1 : Int32) (a2 : Int32) (s : Mem) : Option (Int32 × Mem) :=
bnd (fX12_isText a1 s) (fun r1 s2 =>
if r1 = 0 then
  some ((-1), s2)
else
  if 60 < a2 then
    some ((-1), s2)
  else
    if a2 < 0 then
      bnd (fX12_meets 5 s2) (fun r6 s7 =>
      some (r6, s7))
    else
      if inb a1 4 = true then
      fX12_text_L34 (fun s11 =>
        some (a2, s11)) a1 a2 FU 0 (wI s2 73 (ix a1) a2)
      else none)
theorem tX12_text_L34 (Θ : Th) (l : Launch)  (κ : Mem → Option (Int32 × Mem)) (y1 : Int32) (y2 : Int32)  (hκ : ∀  (s : Mem), Js Θ l mX12_text 3 gI 59 [none, none, some (vI y2), none] [] s (κ  s)) : ∀ (k : Nat) (x3 : Int32) (s : Mem), Js Θ l mX12_text 3 gI 34 [some (vR 68), some (vI y1), some (vI y2), some (vI x3)] [] s (fX12_text_L34 κ y1 y2 k x3 s) := by
  intro k
  induction k with
  | zero => intro x3 s; exact j_none
  | succ k ih =>
    intro x3 s
    rw [fX12_text_L34]
    refine j_iload_n 35 dX12_text_34 rfl rfl ?_
    refine j_bipush (v := 60) 37 dX12_text_35 rfl (by decide) ?_
    refine j_icmp_ge 59 40 dX12_text_37 (by decide) rfl (fun c9 => ?_) (fun c9 => ?_)
    · refine j_aload_n 41 dX12_text_40 rfl rfl ?_
      refine s_getR (x := 74) 44 fa68_9 w_1215 dX12_text_41 rfl (by decide +kernel) ?_
      refine j_bipush (v := 60) 46 dX12_text_44 rfl (by decide) ?_
      refine j_iload_n 47 dX12_text_46 rfl rfl ?_
      refine j_imul 48 dX12_text_47 rfl ?_
      refine j_iload_n 49 dX12_text_48 rfl rfl ?_
      refine j_iadd 50 dX12_text_49 rfl ?_
      refine j_bipush (v := 32) 52 dX12_text_50 rfl (by decide) ?_
      refine s_bastore 53 aa74 dX12_text_52 rfl (fun b10 => ?_)
      refine j_iinc (v := x3 + 1) (ls' := [some (vR 68), some (vI y1), some (vI y2), some (vI (x3 + 1))]) 56 dX12_text_53 rfl rfl rfl (by decide) rfl rfl ?_
      refine j_goto 34 dX12_text_56 (by decide) ?_
      refine j_sub (ls' := [some (vR 68), some (vI y1), some (vI y2), some (vI (x3 + 1))]) (And.intro rfl (And.intro rfl (And.intro rfl (And.intro rfl trivial)))) ?_
      exact ih (x3 + 1) (wI s 74 (ix ((60 * y1) + x3)) (Int32.toInt8 32).toInt32)
    · refine j_sub (ls' := [none, none, some (vI y2), none]) (And.intro rfl trivial) ?_
      exact hκ s
theorem tX12_text (Θ : Th) (l : Launch)  (a1 : Int32) (a2 : Int32)  (s : Mem) : Cs Θ l mX12_text 3 gI [vR 68, vI a1, vI a2] s (fX12_text a1 a2 s) := by
  refine ct_of (by decide) [some (vR 68), some (vI a1), some (vI a2), none] rfl (Nat.le_of_ble_eq_true rfl) ?_
  unfold fX12_text
  refine j_iload_n 1 dX12_text_0 rfl rfl ?_
  refine s_callSi (M2 := mX12_isText) [vI a1] 4 mkX12_isText (Or.inl w_1438) dX12_text_1 rfl rfl (tX12_isText Θ l _  _) (by first | exact Nat.le_of_ble_eq_true rfl | omega) (Nat.le_of_ble_eq_true rfl) (Nat.le_of_ble_eq_true rfl) (fun r1 s2 => ?_)
  refine j_if_eq 13 7 dX12_text_4 (by decide) rfl (fun c3 => ?_) (fun c3 => ?_)
  · refine j_iconst (v := (-1)) 14 dX12_text_13 rfl (by decide) ?_
    exact s_iret dX12_text_14 rfl
  · refine j_iload_n 8 dX12_text_7 rfl rfl ?_
    refine j_bipush (v := 60) 10 dX12_text_8 rfl (by decide) ?_
    refine j_icmp_le 15 13 dX12_text_10 (by decide) rfl (fun c4 => ?_) (fun c4 => ?_)
    · refine j_iconst (v := (-1)) 14 dX12_text_13 rfl (by decide) ?_
      exact s_iret dX12_text_14 rfl
    · refine j_iload_n 16 dX12_text_15 rfl rfl ?_
      refine j_if_ge 25 19 dX12_text_16 (by decide) rfl (fun c5 => ?_) (fun c5 => ?_)
      · refine j_aload_n 20 dX12_text_19 rfl rfl ?_
        refine j_iconst (v := 5) 21 dX12_text_20 rfl (by decide) ?_
        refine s_callVi (M2 := mX12_meets) [vI 5] 24 oa68 cc12 mkX12_meets w_1402 dX12_text_21 rfl rfl (tX12_meets Θ l _  _) (by first | exact Nat.le_of_ble_eq_true rfl | omega) (Nat.le_of_ble_eq_true rfl) (Nat.le_of_ble_eq_true rfl) (fun r6 s7 => ?_)
        exact s_iret dX12_text_24 rfl
      · refine j_aload_n 26 dX12_text_25 rfl rfl ?_
        refine s_getR (x := 73) 29 fa68_8 w_1214 dX12_text_26 rfl (by decide +kernel) ?_
        refine j_iload_n 30 dX12_text_29 rfl rfl ?_
        refine j_iload_n 31 dX12_text_30 rfl rfl ?_
        refine s_iastore 32 aa73 dX12_text_31 rfl (fun b8 => ?_)
        refine j_iconst (v := 0) 33 dX12_text_32 rfl (by decide) ?_
        refine j_istore_n (i := 3) (ls' := [some (vR 68), some (vI a1), some (vI a2), some (vI 0)]) 34 dX12_text_33 rfl rfl (by decide) rfl rfl ?_
        refine j_sub (ls' := [some (vR 68), some (vI a1), some (vI a2), some (vI 0)]) (And.intro rfl (And.intro rfl (And.intro rfl (And.intro rfl trivial)))) ?_
        refine tX12_text_L34 Θ l _ _ _  ?_ _ _ _
        intro s11
        refine j_iload_n 60 dX12_text_59 rfl rfl ?_
        exact s_iret dX12_text_60 rfl
-- X12_put
def fX12_put  (a1 : Int32) (a2 : Int32) (a3 : Int32) (s : Mem) : Option (Int32 × Mem) :=
bnd (fX12_isText a1 s) (fun r1 s2 =>
if r1 = 0 then
  some ((-1), s2)
else
  if inb a1 4 = true then
  if (s2.1 73 (ix a1)) < 0 then
    bnd (fX12_meets 1 s2) (fun r6 s7 =>
    some (r6, s7))
  else
    if inb a1 4 = true then
    bnd (fX12_in a2 0 ((s2.1 73 (ix a1)) - 1) s2) (fun r9 s10 =>
    if r9 = 0 then
      bnd (fX12_meets 2 s10) (fun r12 s13 =>
      some (r12, s13))
    else
      if inb ((60 * a1) + a2) 240 = true then
      nm (s10.1 74 (ix ((60 * a1) + a2))) (fun v15 =>
      if inb ((60 * a1) + a2) 240 = true then
      some (1000 + v15, wI s10 74 (ix ((60 * a1) + a2)) (Int32.toInt8 ((Int32.toInt8 a3).toInt32)).toInt32)
      else none)
      else none)
    else none
  else none)
theorem tX12_put (Θ : Th) (l : Launch)  (a1 : Int32) (a2 : Int32) (a3 : Int32)  (s : Mem) : Cs Θ l mX12_put 3 gI [vR 68, vI a1, vI a2, vI a3] s (fX12_put a1 a2 a3 s) := by
  refine ct_of (by decide) [some (vR 68), some (vI a1), some (vI a2), some (vI a3), none] rfl (Nat.le_of_ble_eq_true rfl) ?_
  unfold fX12_put
  refine j_iload_n 1 dX12_put_0 rfl rfl ?_
  refine s_callSi (M2 := mX12_isText) [vI a1] 4 mkX12_isText (Or.inl w_1438) dX12_put_1 rfl rfl (tX12_isText Θ l _  _) (by first | exact Nat.le_of_ble_eq_true rfl | omega) (Nat.le_of_ble_eq_true rfl) (Nat.le_of_ble_eq_true rfl) (fun r1 s2 => ?_)
  refine j_if_ne 9 7 dX12_put_4 (by decide) rfl (fun c3 => ?_) (fun c3 => ?_)
  · refine j_iconst (v := (-1)) 8 dX12_put_7 rfl (by decide) ?_
    exact s_iret dX12_put_8 rfl
  · refine j_aload_n 10 dX12_put_9 rfl rfl ?_
    refine s_getR (x := 73) 13 fa68_8 w_1214 dX12_put_10 rfl (by decide +kernel) ?_
    refine j_iload_n 14 dX12_put_13 rfl rfl ?_
    refine s_iaload 15 aa73 dX12_put_14 rfl (fun b4 => ?_)
    refine j_if_ge 24 18 dX12_put_15 (by decide) rfl (fun c5 => ?_) (fun c5 => ?_)
    · refine j_aload_n 19 dX12_put_18 rfl rfl ?_
      refine j_iconst (v := 1) 20 dX12_put_19 rfl (by decide) ?_
      refine s_callVi (M2 := mX12_meets) [vI 1] 23 oa68 cc12 mkX12_meets w_1402 dX12_put_20 rfl rfl (tX12_meets Θ l _  _) (by first | exact Nat.le_of_ble_eq_true rfl | omega) (Nat.le_of_ble_eq_true rfl) (Nat.le_of_ble_eq_true rfl) (fun r6 s7 => ?_)
      exact s_iret dX12_put_23 rfl
    · refine j_iload_n 25 dX12_put_24 rfl rfl ?_
      refine j_iconst (v := 0) 26 dX12_put_25 rfl (by decide) ?_
      refine j_aload_n 27 dX12_put_26 rfl rfl ?_
      refine s_getR (x := 73) 30 fa68_8 w_1214 dX12_put_27 rfl (by decide +kernel) ?_
      refine j_iload_n 31 dX12_put_30 rfl rfl ?_
      refine s_iaload 32 aa73 dX12_put_31 rfl (fun b8 => ?_)
      refine j_iconst (v := 1) 33 dX12_put_32 rfl (by decide) ?_
      refine j_isub 34 dX12_put_33 rfl ?_
      refine s_callSi (M2 := mX12_in) [vI a2, vI 0, vI ((s2.1 73 (ix a1)) - 1)] 37 mkX12_in (Or.inl w_1380) dX12_put_34 rfl rfl (tX12_in Θ l _ _ _  _) (by first | exact Nat.le_of_ble_eq_true rfl | omega) (Nat.le_of_ble_eq_true rfl) (Nat.le_of_ble_eq_true rfl) (fun r9 s10 => ?_)
      refine j_if_ne 46 40 dX12_put_37 (by decide) rfl (fun c11 => ?_) (fun c11 => ?_)
      · refine j_aload_n 41 dX12_put_40 rfl rfl ?_
        refine j_iconst (v := 2) 42 dX12_put_41 rfl (by decide) ?_
        refine s_callVi (M2 := mX12_meets) [vI 2] 45 oa68 cc12 mkX12_meets w_1402 dX12_put_42 rfl rfl (tX12_meets Θ l _  _) (by first | exact Nat.le_of_ble_eq_true rfl | omega) (Nat.le_of_ble_eq_true rfl) (Nat.le_of_ble_eq_true rfl) (fun r12 s13 => ?_)
        exact s_iret dX12_put_45 rfl
      · refine j_aload_n 47 dX12_put_46 rfl rfl ?_
        refine s_getR (x := 74) 50 fa68_9 w_1215 dX12_put_47 rfl (by decide +kernel) ?_
        refine j_bipush (v := 60) 52 dX12_put_50 rfl (by decide) ?_
        refine j_iload_n 53 dX12_put_52 rfl rfl ?_
        refine j_imul 54 dX12_put_53 rfl ?_
        refine j_iload_n 55 dX12_put_54 rfl rfl ?_
        refine j_iadd 56 dX12_put_55 rfl ?_
        refine s_baload 57 (Or.inl aa74) dX12_put_56 rfl (fun b14 => ?_)
        refine s_nmI (fun v15 => ?_)
        refine j_istore (i := 4) (ls' := [some (vR 68), some (vI a1), some (vI a2), some (vI a3), some (vI v15)]) 59 dX12_put_57 rfl (by decide) rfl rfl ?_
        refine j_aload_n 60 dX12_put_59 rfl rfl ?_
        refine s_getR (x := 74) 63 fa68_9 w_1215 dX12_put_60 rfl (by decide +kernel) ?_
        refine j_bipush (v := 60) 65 dX12_put_63 rfl (by decide) ?_
        refine j_iload_n 66 dX12_put_65 rfl rfl ?_
        refine j_imul 67 dX12_put_66 rfl ?_
        refine j_iload_n 68 dX12_put_67 rfl rfl ?_
        refine j_iadd 69 dX12_put_68 rfl ?_
        refine j_iload_n 70 dX12_put_69 rfl rfl ?_
        refine j_i2b 71 dX12_put_70 rfl ?_
        refine s_bastore 72 aa74 dX12_put_71 rfl (fun b16 => ?_)
        refine j_sipush (v := 1000) 75 dX12_put_72 rfl (by decide) ?_
        refine j_iload 77 dX12_put_75 rfl rfl ?_
        refine j_iadd 78 dX12_put_77 rfl ?_
        exact s_iret dX12_put_78 rfl
-- X12_byteAt
def fX12_byteAt  (a1 : Int32) (a2 : Int32) (s : Mem) : Option (Int32 × Mem) :=
if inb a1 4 = true then
if a2 < (s.1 73 (ix a1)) then
  if inb ((60 * a1) + a2) 240 = true then
  some (s.1 74 (ix ((60 * a1) + a2)), s)
  else none
else
  some (0, s)
else none
theorem tX12_byteAt (Θ : Th) (l : Launch)  (a1 : Int32) (a2 : Int32)  (s : Mem) : Cs Θ l mX12_byteAt 1 gI [vR 68, vI a1, vI a2] s (fX12_byteAt a1 a2 s) := by
  refine ct_of (by decide) [some (vR 68), some (vI a1), some (vI a2)] rfl (Nat.le_of_ble_eq_true rfl) ?_
  unfold fX12_byteAt
  refine j_iload_n 1 dX12_byteAt_0 rfl rfl ?_
  refine j_aload_n 2 dX12_byteAt_1 rfl rfl ?_
  refine s_getR (x := 73) 5 fa68_8 w_1214 dX12_byteAt_2 rfl (by decide +kernel) ?_
  refine j_iload_n 6 dX12_byteAt_5 rfl rfl ?_
  refine s_iaload 7 aa73 dX12_byteAt_6 rfl (fun b1 => ?_)
  refine j_icmp_ge 24 10 dX12_byteAt_7 (by decide) rfl (fun c2 => ?_) (fun c2 => ?_)
  · refine j_aload_n 11 dX12_byteAt_10 rfl rfl ?_
    refine s_getR (x := 74) 14 fa68_9 w_1215 dX12_byteAt_11 rfl (by decide +kernel) ?_
    refine j_bipush (v := 60) 16 dX12_byteAt_14 rfl (by decide) ?_
    refine j_iload_n 17 dX12_byteAt_16 rfl rfl ?_
    refine j_imul 18 dX12_byteAt_17 rfl ?_
    refine j_iload_n 19 dX12_byteAt_18 rfl rfl ?_
    refine j_iadd 20 dX12_byteAt_19 rfl ?_
    refine s_baload 21 (Or.inl aa74) dX12_byteAt_20 rfl (fun b3 => ?_)
    refine j_goto 25 dX12_byteAt_21 (by decide) ?_
    exact s_iret dX12_byteAt_25 rfl
  · refine j_iconst (v := 0) 25 dX12_byteAt_24 rfl (by decide) ?_
    exact s_iret dX12_byteAt_25 rfl
-- X12_figure
def fX12_figure  (a1 : Int32) (a2 : Int32) (a3 : Int32) (s : Mem) : Option (Int32 × Mem) :=
bnd (fX12_byteAt a1 (s.1 68 21) s) (fun r1 s2 =>
bnd (fX12_in ((wI s2 68 22 (r1 - 48)).1 68 22) a2 a3 (wI s2 68 22 (r1 - 48))) (fun r3 s4 =>
if r3 = 0 then
  if r3 = 0 ∨ r3 = 1 then some (r3, wI s4 68 21 ((s4.1 68 21) + 0)) else none
else
  if r3 = 0 ∨ r3 = 1 then some (r3, wI s4 68 21 ((s4.1 68 21) + 1)) else none))
theorem tX12_figure (Θ : Th) (l : Launch)  (a1 : Int32) (a2 : Int32) (a3 : Int32)  (s : Mem) : Cs Θ l mX12_figure 2 gI [vR 68, vI a1, vI a2, vI a3] s (fX12_figure a1 a2 a3 s) := by
  refine ct_of (by decide) [some (vR 68), some (vI a1), some (vI a2), some (vI a3), none] rfl (Nat.le_of_ble_eq_true rfl) ?_
  unfold fX12_figure
  refine j_aload_n 1 dX12_figure_0 rfl rfl ?_
  refine j_aload_n 2 dX12_figure_1 rfl rfl ?_
  refine j_iload_n 3 dX12_figure_2 rfl rfl ?_
  refine j_aload_n 4 dX12_figure_3 rfl rfl ?_
  refine s_getI 7 fa68_21 w_1227 dX12_figure_4 rfl ?_
  refine s_callVi (M2 := mX12_byteAt) [vI a1, vI (s.1 68 21)] 10 oa68 cc12 mkX12_byteAt w_1453 dX12_figure_7 rfl rfl (tX12_byteAt Θ l _ _  _) (by first | exact Nat.le_of_ble_eq_true rfl | omega) (Nat.le_of_ble_eq_true rfl) (Nat.le_of_ble_eq_true rfl) (fun r1 s2 => ?_)
  refine j_bipush (v := 48) 12 dX12_figure_10 rfl (by decide) ?_
  refine j_isub 13 dX12_figure_12 rfl ?_
  refine s_putI 16 fa68_22 w_1228 dX12_figure_13 rfl ?_
  refine j_aload_n 17 dX12_figure_16 rfl rfl ?_
  refine s_getI 20 fa68_22 w_1228 dX12_figure_17 rfl ?_
  refine j_iload_n 21 dX12_figure_20 rfl rfl ?_
  refine j_iload_n 22 dX12_figure_21 rfl rfl ?_
  refine s_callSi (M2 := mX12_in) [vI ((wI s2 68 22 (r1 - 48)).1 68 22), vI a2, vI a3] 25 mkX12_in (Or.inl w_1380) dX12_figure_22 rfl rfl (tX12_in Θ l _ _ _  _) (by first | exact Nat.le_of_ble_eq_true rfl | omega) (Nat.le_of_ble_eq_true rfl) (Nat.le_of_ble_eq_true rfl) (fun r3 s4 => ?_)
  refine j_istore (i := 4) (ls' := [some (vR 68), some (vI a1), some (vI a2), some (vI a3), some (vI r3)]) 27 dX12_figure_25 rfl (by decide) rfl rfl ?_
  refine j_aload_n 28 dX12_figure_27 rfl rfl ?_
  refine j_dup 29 dX12_figure_28 rfl rfl ?_
  refine s_getI 32 fa68_21 w_1227 dX12_figure_29 rfl ?_
  refine j_iload 34 dX12_figure_32 rfl rfl ?_
  refine j_if_eq 41 37 dX12_figure_34 (by decide) rfl (fun c5 => ?_) (fun c5 => ?_)
  · refine j_iconst (v := 0) 42 dX12_figure_41 rfl (by decide) ?_
    refine j_iadd 43 dX12_figure_42 rfl ?_
    refine s_putI 46 fa68_21 w_1227 dX12_figure_43 rfl ?_
    refine j_iload 48 dX12_figure_46 rfl rfl ?_
    exact s_zretG dX12_figure_48 rfl
  · refine j_iconst (v := 1) 38 dX12_figure_37 rfl (by decide) ?_
    refine j_goto 42 dX12_figure_38 (by decide) ?_
    refine j_iadd 43 dX12_figure_42 rfl ?_
    refine s_putI 46 fa68_21 w_1227 dX12_figure_43 rfl ?_
    refine j_iload 48 dX12_figure_46 rfl rfl ?_
    exact s_zretG dX12_figure_48 rfl
-- X12_readsBench
def fX12_readsBench  (a1 : Int32) (s : Mem) : Option (Int32 × Mem) :=
bnd (fX12_byteAt a1 (s.1 68 21) s) (fun r1 s2 =>
if 0 < (s2.1 68 24) then
  some (0, s2)
else
  if (s2.1 68 23) = 8 then
    some (0, s2)
  else
    if r1 = 109 then
      if r1 = 109 then
        if inb ((wI s2 68 21 ((s2.1 68 21) + 1)).1 68 23) 8 = true then
        some (1, wI (wI (wI s2 68 21 ((s2.1 68 21) + 1)) 81 (ix ((wI s2 68 21 ((s2.1 68 21) + 1)).1 68 23)) 0) 68 23 (((wI (wI s2 68 21 ((s2.1 68 21) + 1)) 81 (ix ((wI s2 68 21 ((s2.1 68 21) + 1)).1 68 23)) 0).1 68 23) + 1))
        else none
      else
        if r1 = 108 then
          if inb ((wI s2 68 21 ((s2.1 68 21) + 1)).1 68 23) 8 = true then
          some (1, wI (wI (wI s2 68 21 ((s2.1 68 21) + 1)) 81 (ix ((wI s2 68 21 ((s2.1 68 21) + 1)).1 68 23)) (0 - ((wI s2 68 21 ((s2.1 68 21) + 1)).1 68 22))) 68 23 (((wI (wI s2 68 21 ((s2.1 68 21) + 1)) 81 (ix ((wI s2 68 21 ((s2.1 68 21) + 1)).1 68 23)) (0 - ((wI s2 68 21 ((s2.1 68 21) + 1)).1 68 22))).1 68 23) + 1))
          else none
        else
          if inb ((wI s2 68 21 ((s2.1 68 21) + 1)).1 68 23) 8 = true then
          some (1, wI (wI (wI s2 68 21 ((s2.1 68 21) + 1)) 81 (ix ((wI s2 68 21 ((s2.1 68 21) + 1)).1 68 23)) ((wI s2 68 21 ((s2.1 68 21) + 1)).1 68 22)) 68 23 (((wI (wI s2 68 21 ((s2.1 68 21) + 1)) 81 (ix ((wI s2 68 21 ((s2.1 68 21) + 1)).1 68 23)) ((wI s2 68 21 ((s2.1 68 21) + 1)).1 68 22)).1 68 23) + 1))
          else none
    else
      bnd (fX12_figure a1 1 9 (wI s2 68 21 ((s2.1 68 21) + 1))) (fun r11 s12 =>
      if r11 = 0 then
        some (0, s12)
      else
        if r1 = 109 then
          if inb (s12.1 68 23) 8 = true then
          some (1, wI (wI s12 81 (ix (s12.1 68 23)) 0) 68 23 (((wI s12 81 (ix (s12.1 68 23)) 0).1 68 23) + 1))
          else none
        else
          if r1 = 108 then
            if inb (s12.1 68 23) 8 = true then
            some (1, wI (wI s12 81 (ix (s12.1 68 23)) (0 - (s12.1 68 22))) 68 23 (((wI s12 81 (ix (s12.1 68 23)) (0 - (s12.1 68 22))).1 68 23) + 1))
            else none
          else
            if inb (s12.1 68 23) 8 = true then
            some (1, wI (wI s12 81 (ix (s12.1 68 23)) (s12.1 68 22)) 68 23 (((wI s12 81 (ix (s12.1 68 23)) (s12.1 68 22)).1 68 23) + 1))
            else none))
theorem tX12_readsBench (Θ : Th) (l : Launch)  (a1 : Int32)  (s : Mem) : Cs Θ l mX12_readsBench 3 gI [vR 68, vI a1] s (fX12_readsBench a1 s) := by
  refine ct_of (by decide) [some (vR 68), some (vI a1), none] rfl (Nat.le_of_ble_eq_true rfl) ?_
  unfold fX12_readsBench
  refine j_aload_n 1 dX12_readsBench_0 rfl rfl ?_
  refine j_iload_n 2 dX12_readsBench_1 rfl rfl ?_
  refine j_aload_n 3 dX12_readsBench_2 rfl rfl ?_
  refine s_getI 6 fa68_21 w_1227 dX12_readsBench_3 rfl ?_
  refine s_callVi (M2 := mX12_byteAt) [vI a1, vI (s.1 68 21)] 9 oa68 cc12 mkX12_byteAt w_1453 dX12_readsBench_6 rfl rfl (tX12_byteAt Θ l _ _  _) (by first | exact Nat.le_of_ble_eq_true rfl | omega) (Nat.le_of_ble_eq_true rfl) (Nat.le_of_ble_eq_true rfl) (fun r1 s2 => ?_)
  refine j_istore_n (i := 2) (ls' := [some (vR 68), some (vI a1), some (vI r1)]) 10 dX12_readsBench_9 rfl rfl (by decide) rfl rfl ?_
  refine j_aload_n 11 dX12_readsBench_10 rfl rfl ?_
  refine s_getI 14 fa68_24 w_1230 dX12_readsBench_11 rfl ?_
  refine j_if_gt 26 17 dX12_readsBench_14 (by decide) rfl (fun c3 => ?_) (fun c3 => ?_)
  · refine j_iconst (v := 0) 27 dX12_readsBench_26 rfl (by decide) ?_
    exact s_zret dX12_readsBench_27 rfl (by decide)
  · refine j_aload_n 18 dX12_readsBench_17 rfl rfl ?_
    refine s_getI 21 fa68_23 w_1229 dX12_readsBench_18 rfl ?_
    refine j_bipush (v := 8) 23 dX12_readsBench_21 rfl (by decide) ?_
    refine j_icmp_ne 28 26 dX12_readsBench_23 (by decide) rfl (fun c4 => ?_) (fun c4 => ?_)
    · refine j_iconst (v := 0) 27 dX12_readsBench_26 rfl (by decide) ?_
      exact s_zret dX12_readsBench_27 rfl (by decide)
    · refine j_aload_n 29 dX12_readsBench_28 rfl rfl ?_
      refine j_dup 30 dX12_readsBench_29 rfl rfl ?_
      refine s_getI 33 fa68_21 w_1227 dX12_readsBench_30 rfl ?_
      refine j_iconst (v := 1) 34 dX12_readsBench_33 rfl (by decide) ?_
      refine j_iadd 35 dX12_readsBench_34 rfl ?_
      refine s_putI 38 fa68_21 w_1227 dX12_readsBench_35 rfl ?_
      refine j_iload_n 39 dX12_readsBench_38 rfl rfl ?_
      refine j_bipush (v := 109) 41 dX12_readsBench_39 rfl (by decide) ?_
      refine j_icmp_eq 57 44 dX12_readsBench_41 (by decide) rfl (fun c5 => ?_) (fun c5 => ?_)
      · refine j_aload_n 58 dX12_readsBench_57 rfl rfl ?_
        refine s_getR (x := 81) 61 fa68_25 w_1231 dX12_readsBench_58 rfl (by decide +kernel) ?_
        refine j_aload_n 62 dX12_readsBench_61 rfl rfl ?_
        refine s_getI 65 fa68_23 w_1229 dX12_readsBench_62 rfl ?_
        refine j_iload_n 66 dX12_readsBench_65 rfl rfl ?_
        refine j_bipush (v := 109) 68 dX12_readsBench_66 rfl (by decide) ?_
        refine j_icmp_ne 75 71 dX12_readsBench_68 (by decide) rfl (fun c6 => ?_) (fun c6 => ?_)
        · refine j_iconst (v := 0) 72 dX12_readsBench_71 rfl (by decide) ?_
          refine j_goto 93 dX12_readsBench_72 (by decide) ?_
          refine s_iastore 94 aa81 dX12_readsBench_93 rfl (fun b7 => ?_)
          refine j_aload_n 95 dX12_readsBench_94 rfl rfl ?_
          refine j_dup 96 dX12_readsBench_95 rfl rfl ?_
          refine s_getI 99 fa68_23 w_1229 dX12_readsBench_96 rfl ?_
          refine j_iconst (v := 1) 100 dX12_readsBench_99 rfl (by decide) ?_
          refine j_iadd 101 dX12_readsBench_100 rfl ?_
          refine s_putI 104 fa68_23 w_1229 dX12_readsBench_101 rfl ?_
          refine j_iconst (v := 1) 105 dX12_readsBench_104 rfl (by decide) ?_
          exact s_zret dX12_readsBench_105 rfl (by decide)
        · refine j_iload_n 76 dX12_readsBench_75 rfl rfl ?_
          refine j_bipush (v := 108) 78 dX12_readsBench_76 rfl (by decide) ?_
          refine j_icmp_ne 89 81 dX12_readsBench_78 (by decide) rfl (fun c8 => ?_) (fun c8 => ?_)
          · refine j_aload_n 82 dX12_readsBench_81 rfl rfl ?_
            refine s_getI 85 fa68_22 w_1228 dX12_readsBench_82 rfl ?_
            refine j_ineg 86 dX12_readsBench_85 rfl ?_
            refine j_goto 93 dX12_readsBench_86 (by decide) ?_
            refine s_iastore 94 aa81 dX12_readsBench_93 rfl (fun b9 => ?_)
            refine j_aload_n 95 dX12_readsBench_94 rfl rfl ?_
            refine j_dup 96 dX12_readsBench_95 rfl rfl ?_
            refine s_getI 99 fa68_23 w_1229 dX12_readsBench_96 rfl ?_
            refine j_iconst (v := 1) 100 dX12_readsBench_99 rfl (by decide) ?_
            refine j_iadd 101 dX12_readsBench_100 rfl ?_
            refine s_putI 104 fa68_23 w_1229 dX12_readsBench_101 rfl ?_
            refine j_iconst (v := 1) 105 dX12_readsBench_104 rfl (by decide) ?_
            exact s_zret dX12_readsBench_105 rfl (by decide)
          · refine j_aload_n 90 dX12_readsBench_89 rfl rfl ?_
            refine s_getI 93 fa68_22 w_1228 dX12_readsBench_90 rfl ?_
            refine s_iastore 94 aa81 dX12_readsBench_93 rfl (fun b10 => ?_)
            refine j_aload_n 95 dX12_readsBench_94 rfl rfl ?_
            refine j_dup 96 dX12_readsBench_95 rfl rfl ?_
            refine s_getI 99 fa68_23 w_1229 dX12_readsBench_96 rfl ?_
            refine j_iconst (v := 1) 100 dX12_readsBench_99 rfl (by decide) ?_
            refine j_iadd 101 dX12_readsBench_100 rfl ?_
            refine s_putI 104 fa68_23 w_1229 dX12_readsBench_101 rfl ?_
            refine j_iconst (v := 1) 105 dX12_readsBench_104 rfl (by decide) ?_
            exact s_zret dX12_readsBench_105 rfl (by decide)
      · refine j_aload_n 45 dX12_readsBench_44 rfl rfl ?_
        refine j_iload_n 46 dX12_readsBench_45 rfl rfl ?_
        refine j_iconst (v := 1) 47 dX12_readsBench_46 rfl (by decide) ?_
        refine j_bipush (v := 9) 49 dX12_readsBench_47 rfl (by decide) ?_
        refine s_callVi (M2 := mX12_figure) [vI a1, vI 1, vI 9] 52 oa68 cc12 mkX12_figure w_1468 dX12_readsBench_49 rfl rfl (tX12_figure Θ l _ _ _  _) (by first | exact Nat.le_of_ble_eq_true rfl | omega) (Nat.le_of_ble_eq_true rfl) (Nat.le_of_ble_eq_true rfl) (fun r11 s12 => ?_)
        refine j_if_ne 57 55 dX12_readsBench_52 (by decide) rfl (fun c13 => ?_) (fun c13 => ?_)
        · refine j_iconst (v := 0) 56 dX12_readsBench_55 rfl (by decide) ?_
          exact s_zret dX12_readsBench_56 rfl (by decide)
        · refine j_aload_n 58 dX12_readsBench_57 rfl rfl ?_
          refine s_getR (x := 81) 61 fa68_25 w_1231 dX12_readsBench_58 rfl (by decide +kernel) ?_
          refine j_aload_n 62 dX12_readsBench_61 rfl rfl ?_
          refine s_getI 65 fa68_23 w_1229 dX12_readsBench_62 rfl ?_
          refine j_iload_n 66 dX12_readsBench_65 rfl rfl ?_
          refine j_bipush (v := 109) 68 dX12_readsBench_66 rfl (by decide) ?_
          refine j_icmp_ne 75 71 dX12_readsBench_68 (by decide) rfl (fun c14 => ?_) (fun c14 => ?_)
          · refine j_iconst (v := 0) 72 dX12_readsBench_71 rfl (by decide) ?_
            refine j_goto 93 dX12_readsBench_72 (by decide) ?_
            refine s_iastore 94 aa81 dX12_readsBench_93 rfl (fun b15 => ?_)
            refine j_aload_n 95 dX12_readsBench_94 rfl rfl ?_
            refine j_dup 96 dX12_readsBench_95 rfl rfl ?_
            refine s_getI 99 fa68_23 w_1229 dX12_readsBench_96 rfl ?_
            refine j_iconst (v := 1) 100 dX12_readsBench_99 rfl (by decide) ?_
            refine j_iadd 101 dX12_readsBench_100 rfl ?_
            refine s_putI 104 fa68_23 w_1229 dX12_readsBench_101 rfl ?_
            refine j_iconst (v := 1) 105 dX12_readsBench_104 rfl (by decide) ?_
            exact s_zret dX12_readsBench_105 rfl (by decide)
          · refine j_iload_n 76 dX12_readsBench_75 rfl rfl ?_
            refine j_bipush (v := 108) 78 dX12_readsBench_76 rfl (by decide) ?_
            refine j_icmp_ne 89 81 dX12_readsBench_78 (by decide) rfl (fun c16 => ?_) (fun c16 => ?_)
            · refine j_aload_n 82 dX12_readsBench_81 rfl rfl ?_
              refine s_getI 85 fa68_22 w_1228 dX12_readsBench_82 rfl ?_
              refine j_ineg 86 dX12_readsBench_85 rfl ?_
              refine j_goto 93 dX12_readsBench_86 (by decide) ?_
              refine s_iastore 94 aa81 dX12_readsBench_93 rfl (fun b17 => ?_)
              refine j_aload_n 95 dX12_readsBench_94 rfl rfl ?_
              refine j_dup 96 dX12_readsBench_95 rfl rfl ?_
              refine s_getI 99 fa68_23 w_1229 dX12_readsBench_96 rfl ?_
              refine j_iconst (v := 1) 100 dX12_readsBench_99 rfl (by decide) ?_
              refine j_iadd 101 dX12_readsBench_100 rfl ?_
              refine s_putI 104 fa68_23 w_1229 dX12_readsBench_101 rfl ?_
              refine j_iconst (v := 1) 105 dX12_readsBench_104 rfl (by decide) ?_
              exact s_zret dX12_readsBench_105 rfl (by decide)
            · refine j_aload_n 90 dX12_readsBench_89 rfl rfl ?_
              refine s_getI 93 fa68_22 w_1228 dX12_readsBench_90 rfl ?_
              refine s_iastore 94 aa81 dX12_readsBench_93 rfl (fun b18 => ?_)
              refine j_aload_n 95 dX12_readsBench_94 rfl rfl ?_
              refine j_dup 96 dX12_readsBench_95 rfl rfl ?_
              refine s_getI 99 fa68_23 w_1229 dX12_readsBench_96 rfl ?_
              refine j_iconst (v := 1) 100 dX12_readsBench_99 rfl (by decide) ?_
              refine j_iadd 101 dX12_readsBench_100 rfl ?_
              refine s_putI 104 fa68_23 w_1229 dX12_readsBench_101 rfl ?_
              refine j_iconst (v := 1) 105 dX12_readsBench_104 rfl (by decide) ?_
              exact s_zret dX12_readsBench_105 rfl (by decide)
-- X12_kindOf
def fX12_kindOf  (a0 : Int32) (s : Mem) : Option (Int32 × Mem) :=
if a0 = 97 then
  some (1, s)
else if a0 = 99 then
  some (3, s)
else if a0 = 103 then
  some (0, s)
else if a0 = 104 then
  some (4, s)
else if a0 = 107 then
  some (5, s)
else if a0 = 117 then
  some (2, s)
else 
  some ((-9), s)
theorem tX12_kindOf (Θ : Th) (l : Launch)  (a0 : Int32)  (s : Mem) : Cs Θ l mX12_kindOf 1 gI [vI a0] s (fX12_kindOf a0 s) := by
  refine ct_of (by decide) [some (vI a0)] rfl (Nat.le_of_ble_eq_true rfl) ?_
  unfold fX12_kindOf
  refine j_iload_n 1 dX12_kindOf_0 rfl rfl ?_
  refine j_ite (fun c1 => ?_) (fun c1 => ?_)
  · refine j_lookup 62 dX12_kindOf_1 rfl (by rw [c1]; rfl) (by decide : ((1 : Nat) : Int) + 61 = ((62 : Nat) : Int)) ?_
    refine j_iconst (v := 1) 63 dX12_kindOf_62 rfl (by decide) ?_
    exact s_iret dX12_kindOf_63 rfl
  refine j_ite (fun c2 => ?_) (fun c2 => ?_)
  · refine j_lookup 66 dX12_kindOf_1 rfl (by rw [c2]; rfl) (by decide : ((1 : Nat) : Int) + 65 = ((66 : Nat) : Int)) ?_
    refine j_iconst (v := 3) 67 dX12_kindOf_66 rfl (by decide) ?_
    exact s_iret dX12_kindOf_67 rfl
  refine j_ite (fun c3 => ?_) (fun c3 => ?_)
  · refine j_lookup 60 dX12_kindOf_1 rfl (by rw [c3]; rfl) (by decide : ((1 : Nat) : Int) + 59 = ((60 : Nat) : Int)) ?_
    refine j_iconst (v := 0) 61 dX12_kindOf_60 rfl (by decide) ?_
    exact s_iret dX12_kindOf_61 rfl
  refine j_ite (fun c4 => ?_) (fun c4 => ?_)
  · refine j_lookup 68 dX12_kindOf_1 rfl (by rw [c4]; rfl) (by decide : ((1 : Nat) : Int) + 67 = ((68 : Nat) : Int)) ?_
    refine j_iconst (v := 4) 69 dX12_kindOf_68 rfl (by decide) ?_
    exact s_iret dX12_kindOf_69 rfl
  refine j_ite (fun c5 => ?_) (fun c5 => ?_)
  · refine j_lookup 70 dX12_kindOf_1 rfl (by rw [c5]; rfl) (by decide : ((1 : Nat) : Int) + 69 = ((70 : Nat) : Int)) ?_
    refine j_iconst (v := 5) 71 dX12_kindOf_70 rfl (by decide) ?_
    exact s_iret dX12_kindOf_71 rfl
  refine j_ite (fun c6 => ?_) (fun c6 => ?_)
  · refine j_lookup 64 dX12_kindOf_1 rfl (by rw [c6]; rfl) (by decide : ((1 : Nat) : Int) + 63 = ((64 : Nat) : Int)) ?_
    refine j_iconst (v := 2) 65 dX12_kindOf_64 rfl (by decide) ?_
    exact s_iret dX12_kindOf_65 rfl
  refine j_lookup 72 dX12_kindOf_1 rfl (by show Op.lookupswitch.offset [(97, 61), (99, 65), (103, 59), (104, 67), (107, 69), (117, 63)] 71 _ = 71; rw [lv_osw c1 (by decide), lv_osw c2 (by decide), lv_osw c3 (by decide), lv_osw c4 (by decide), lv_osw c5 (by decide), lv_osw c6 (by decide)]; rfl) (by decide : ((1 : Nat) : Int) + 71 = ((72 : Nat) : Int)) ?_
  refine j_bipush (v := (-9)) 74 dX12_kindOf_72 rfl (by decide) ?_
  exact s_iret dX12_kindOf_74 rfl
-- X12_readsGuest
def fX12_readsGuest  (a1 : Int32) (s : Mem) : Option (Int32 × Mem) :=
bnd (fX12_byteAt a1 (s.1 68 21) s) (fun r1 s2 =>
bnd (fX12_kindOf r1 s2) (fun r3 s4 =>
if r3 = (-9) then
  some (0, s4)
else
  if (s4.1 68 23) = 0 then
    some (0, s4)
  else
    if (s4.1 68 24) = 7 then
      some (0, s4)
    else
      bnd (fX12_figure a1 1 9 (wI s4 68 21 ((s4.1 68 21) + 1))) (fun r8 s9 =>
      if r8 = 0 then
        some (0, s9)
      else
        if inb (s9.1 68 24) 7 = true then
        bnd (fX12_figure a1 0 1 (wI s9 83 (ix (s9.1 68 24)) (s9.1 68 22))) (fun r12 s13 =>
        if r12 = 0 then
          some (0, s13)
        else
          if inb (s13.1 68 24) 7 = true then
          if inb ((wI s13 84 (ix (s13.1 68 24)) (s13.1 68 22)).1 68 24) 7 = true then
          some (1, wI (wI (wI s13 84 (ix (s13.1 68 24)) (s13.1 68 22)) 82 (ix ((wI s13 84 (ix (s13.1 68 24)) (s13.1 68 22)).1 68 24)) r3) 68 24 (((wI (wI s13 84 (ix (s13.1 68 24)) (s13.1 68 22)) 82 (ix ((wI s13 84 (ix (s13.1 68 24)) (s13.1 68 22)).1 68 24)) r3).1 68 24) + 1))
          else none
          else none)
        else none)))
theorem tX12_readsGuest (Θ : Th) (l : Launch)  (a1 : Int32)  (s : Mem) : Cs Θ l mX12_readsGuest 3 gI [vR 68, vI a1] s (fX12_readsGuest a1 s) := by
  refine ct_of (by decide) [some (vR 68), some (vI a1), none] rfl (Nat.le_of_ble_eq_true rfl) ?_
  unfold fX12_readsGuest
  refine j_aload_n 1 dX12_readsGuest_0 rfl rfl ?_
  refine j_iload_n 2 dX12_readsGuest_1 rfl rfl ?_
  refine j_aload_n 3 dX12_readsGuest_2 rfl rfl ?_
  refine s_getI 6 fa68_21 w_1227 dX12_readsGuest_3 rfl ?_
  refine s_callVi (M2 := mX12_byteAt) [vI a1, vI (s.1 68 21)] 9 oa68 cc12 mkX12_byteAt w_1453 dX12_readsGuest_6 rfl rfl (tX12_byteAt Θ l _ _  _) (by first | exact Nat.le_of_ble_eq_true rfl | omega) (Nat.le_of_ble_eq_true rfl) (Nat.le_of_ble_eq_true rfl) (fun r1 s2 => ?_)
  refine s_callSi (M2 := mX12_kindOf) [vI r1] 12 mkX12_kindOf (Or.inl w_1476) dX12_readsGuest_9 rfl rfl (tX12_kindOf Θ l _  _) (by first | exact Nat.le_of_ble_eq_true rfl | omega) (Nat.le_of_ble_eq_true rfl) (Nat.le_of_ble_eq_true rfl) (fun r3 s4 => ?_)
  refine j_istore_n (i := 2) (ls' := [some (vR 68), some (vI a1), some (vI r3)]) 13 dX12_readsGuest_12 rfl rfl (by decide) rfl rfl ?_
  refine j_iload_n 14 dX12_readsGuest_13 rfl rfl ?_
  refine j_bipush (v := (-9)) 16 dX12_readsGuest_14 rfl (by decide) ?_
  refine j_icmp_eq 35 19 dX12_readsGuest_16 (by decide) rfl (fun c5 => ?_) (fun c5 => ?_)
  · refine j_iconst (v := 0) 36 dX12_readsGuest_35 rfl (by decide) ?_
    exact s_zret dX12_readsGuest_36 rfl (by decide)
  · refine j_aload_n 20 dX12_readsGuest_19 rfl rfl ?_
    refine s_getI 23 fa68_23 w_1229 dX12_readsGuest_20 rfl ?_
    refine j_if_eq 35 26 dX12_readsGuest_23 (by decide) rfl (fun c6 => ?_) (fun c6 => ?_)
    · refine j_iconst (v := 0) 36 dX12_readsGuest_35 rfl (by decide) ?_
      exact s_zret dX12_readsGuest_36 rfl (by decide)
    · refine j_aload_n 27 dX12_readsGuest_26 rfl rfl ?_
      refine s_getI 30 fa68_24 w_1230 dX12_readsGuest_27 rfl ?_
      refine j_bipush (v := 7) 32 dX12_readsGuest_30 rfl (by decide) ?_
      refine j_icmp_ne 37 35 dX12_readsGuest_32 (by decide) rfl (fun c7 => ?_) (fun c7 => ?_)
      · refine j_iconst (v := 0) 36 dX12_readsGuest_35 rfl (by decide) ?_
        exact s_zret dX12_readsGuest_36 rfl (by decide)
      · refine j_aload_n 38 dX12_readsGuest_37 rfl rfl ?_
        refine j_dup 39 dX12_readsGuest_38 rfl rfl ?_
        refine s_getI 42 fa68_21 w_1227 dX12_readsGuest_39 rfl ?_
        refine j_iconst (v := 1) 43 dX12_readsGuest_42 rfl (by decide) ?_
        refine j_iadd 44 dX12_readsGuest_43 rfl ?_
        refine s_putI 47 fa68_21 w_1227 dX12_readsGuest_44 rfl ?_
        refine j_aload_n 48 dX12_readsGuest_47 rfl rfl ?_
        refine j_iload_n 49 dX12_readsGuest_48 rfl rfl ?_
        refine j_iconst (v := 1) 50 dX12_readsGuest_49 rfl (by decide) ?_
        refine j_bipush (v := 9) 52 dX12_readsGuest_50 rfl (by decide) ?_
        refine s_callVi (M2 := mX12_figure) [vI a1, vI 1, vI 9] 55 oa68 cc12 mkX12_figure w_1468 dX12_readsGuest_52 rfl rfl (tX12_figure Θ l _ _ _  _) (by first | exact Nat.le_of_ble_eq_true rfl | omega) (Nat.le_of_ble_eq_true rfl) (Nat.le_of_ble_eq_true rfl) (fun r8 s9 => ?_)
        refine j_if_ne 60 58 dX12_readsGuest_55 (by decide) rfl (fun c10 => ?_) (fun c10 => ?_)
        · refine j_iconst (v := 0) 59 dX12_readsGuest_58 rfl (by decide) ?_
          exact s_zret dX12_readsGuest_59 rfl (by decide)
        · refine j_aload_n 61 dX12_readsGuest_60 rfl rfl ?_
          refine s_getR (x := 83) 64 fa68_27 w_1233 dX12_readsGuest_61 rfl (by decide +kernel) ?_
          refine j_aload_n 65 dX12_readsGuest_64 rfl rfl ?_
          refine s_getI 68 fa68_24 w_1230 dX12_readsGuest_65 rfl ?_
          refine j_aload_n 69 dX12_readsGuest_68 rfl rfl ?_
          refine s_getI 72 fa68_22 w_1228 dX12_readsGuest_69 rfl ?_
          refine s_iastore 73 aa83 dX12_readsGuest_72 rfl (fun b11 => ?_)
          refine j_aload_n 74 dX12_readsGuest_73 rfl rfl ?_
          refine j_iload_n 75 dX12_readsGuest_74 rfl rfl ?_
          refine j_iconst (v := 0) 76 dX12_readsGuest_75 rfl (by decide) ?_
          refine j_iconst (v := 1) 77 dX12_readsGuest_76 rfl (by decide) ?_
          refine s_callVi (M2 := mX12_figure) [vI a1, vI 0, vI 1] 80 oa68 cc12 mkX12_figure w_1468 dX12_readsGuest_77 rfl rfl (tX12_figure Θ l _ _ _  _) (by first | exact Nat.le_of_ble_eq_true rfl | omega) (Nat.le_of_ble_eq_true rfl) (Nat.le_of_ble_eq_true rfl) (fun r12 s13 => ?_)
          refine j_if_ne 85 83 dX12_readsGuest_80 (by decide) rfl (fun c14 => ?_) (fun c14 => ?_)
          · refine j_iconst (v := 0) 84 dX12_readsGuest_83 rfl (by decide) ?_
            exact s_zret dX12_readsGuest_84 rfl (by decide)
          · refine j_aload_n 86 dX12_readsGuest_85 rfl rfl ?_
            refine s_getR (x := 84) 89 fa68_28 w_1234 dX12_readsGuest_86 rfl (by decide +kernel) ?_
            refine j_aload_n 90 dX12_readsGuest_89 rfl rfl ?_
            refine s_getI 93 fa68_24 w_1230 dX12_readsGuest_90 rfl ?_
            refine j_aload_n 94 dX12_readsGuest_93 rfl rfl ?_
            refine s_getI 97 fa68_22 w_1228 dX12_readsGuest_94 rfl ?_
            refine s_iastore 98 aa84 dX12_readsGuest_97 rfl (fun b15 => ?_)
            refine j_aload_n 99 dX12_readsGuest_98 rfl rfl ?_
            refine s_getR (x := 82) 102 fa68_26 w_1232 dX12_readsGuest_99 rfl (by decide +kernel) ?_
            refine j_aload_n 103 dX12_readsGuest_102 rfl rfl ?_
            refine s_getI 106 fa68_24 w_1230 dX12_readsGuest_103 rfl ?_
            refine j_iload_n 107 dX12_readsGuest_106 rfl rfl ?_
            refine s_iastore 108 aa82 dX12_readsGuest_107 rfl (fun b16 => ?_)
            refine j_aload_n 109 dX12_readsGuest_108 rfl rfl ?_
            refine j_dup 110 dX12_readsGuest_109 rfl rfl ?_
            refine s_getI 113 fa68_24 w_1230 dX12_readsGuest_110 rfl ?_
            refine j_iconst (v := 1) 114 dX12_readsGuest_113 rfl (by decide) ?_
            refine j_iadd 115 dX12_readsGuest_114 rfl ?_
            refine s_putI 118 fa68_24 w_1230 dX12_readsGuest_115 rfl ?_
            refine j_iconst (v := 1) 119 dX12_readsGuest_118 rfl (by decide) ?_
            exact s_zret dX12_readsGuest_119 rfl (by decide)
-- X12_faultOf
def fX12_faultOf_L15  (κ : Mem → Option (Int32 × Mem)) (y1 : Int32) : Nat → Mem → Option (Int32 × Mem)
  | 0, _ => none
  | k + 1, s =>
    if inb y1 4 = true then
    if (s.1 68 21) < (s.1 73 (ix y1)) then
      bnd (fX12_byteAt y1 (s.1 68 21) s) (fun r3 s4 =>
      if r3 = 32 then
        fX12_faultOf_L15 κ y1 k (wI s4 68 21 ((s4.1 68 21) + 1))
      else
        if r3 = 108 then
          bnd (fX12_readsBench y1 s4) (fun r7 s8 =>
          if r7 = 0 then
            some (s8.1 68 21, s8)
          else
            fX12_faultOf_L15 κ y1 k s8)
        else
          if r3 = 114 then
            bnd (fX12_readsBench y1 s4) (fun r11 s12 =>
            if r11 = 0 then
              some (s12.1 68 21, s12)
            else
              fX12_faultOf_L15 κ y1 k s12)
          else
            if r3 = 109 then
              bnd (fX12_readsBench y1 s4) (fun r15 s16 =>
              if r15 = 0 then
                some (s16.1 68 21, s16)
              else
                fX12_faultOf_L15 κ y1 k s16)
            else
              bnd (fX12_readsGuest y1 s4) (fun r18 s19 =>
              if r18 = 0 then
                some (s19.1 68 21, s19)
              else
                fX12_faultOf_L15 κ y1 k s19))
    else
      κ s
    else none
def fX12_faultOf  (a1 : Int32) (s : Mem) : Option (Int32 × Mem) :=
fX12_faultOf_L15 (fun s21 =>
  if (s21.1 68 23) = 0 then
    if inb a1 4 = true then
    some (s21.1 73 (ix a1), s21)
    else none
  else
    some ((-9), s21)) a1 FU  (wI (wI (wI s 68 21 0) 68 23 0) 68 24 0)
theorem tX12_faultOf_L15 (Θ : Th) (l : Launch)  (κ : Mem → Option (Int32 × Mem)) (y1 : Int32)  (hκ : ∀  (s : Mem), Js Θ l mX12_faultOf 4 gI 102 [some (vR 68), some (vI y1), none] [] s (κ  s)) : ∀ (k : Nat)  (s : Mem), Js Θ l mX12_faultOf 4 gI 15 [some (vR 68), some (vI y1), none] [] s (fX12_faultOf_L15 κ y1 k  s) := by
  intro k
  induction k with
  | zero => intro  s; exact j_none
  | succ k ih =>
    intro  s
    rw [fX12_faultOf_L15]
    refine j_aload_n 16 dX12_faultOf_15 rfl rfl ?_
    refine s_getI 19 fa68_21 w_1227 dX12_faultOf_16 rfl ?_
    refine j_aload_n 20 dX12_faultOf_19 rfl rfl ?_
    refine s_getR (x := 73) 23 fa68_8 w_1214 dX12_faultOf_20 rfl (by decide +kernel) ?_
    refine j_iload_n 24 dX12_faultOf_23 rfl rfl ?_
    refine s_iaload 25 aa73 dX12_faultOf_24 rfl (fun b1 => ?_)
    refine j_icmp_ge 102 28 dX12_faultOf_25 (by decide) rfl (fun c2 => ?_) (fun c2 => ?_)
    · refine j_aload_n 29 dX12_faultOf_28 rfl rfl ?_
      refine j_iload_n 30 dX12_faultOf_29 rfl rfl ?_
      refine j_aload_n 31 dX12_faultOf_30 rfl rfl ?_
      refine s_getI 34 fa68_21 w_1227 dX12_faultOf_31 rfl ?_
      refine s_callVi (M2 := mX12_byteAt) [vI y1, vI (s.1 68 21)] 37 oa68 cc12 mkX12_byteAt w_1453 dX12_faultOf_34 rfl rfl (tX12_byteAt Θ l _ _  _) (by first | exact Nat.le_of_ble_eq_true rfl | omega) (Nat.le_of_ble_eq_true rfl) (Nat.le_of_ble_eq_true rfl) (fun r3 s4 => ?_)
      refine j_istore_n (i := 2) (ls' := [some (vR 68), some (vI y1), some (vI r3)]) 38 dX12_faultOf_37 rfl rfl (by decide) rfl rfl ?_
      refine j_iload_n 39 dX12_faultOf_38 rfl rfl ?_
      refine j_bipush (v := 32) 41 dX12_faultOf_39 rfl (by decide) ?_
      refine j_icmp_ne 57 44 dX12_faultOf_41 (by decide) rfl (fun c5 => ?_) (fun c5 => ?_)
      · refine j_aload_n 45 dX12_faultOf_44 rfl rfl ?_
        refine j_dup 46 dX12_faultOf_45 rfl rfl ?_
        refine s_getI 49 fa68_21 w_1227 dX12_faultOf_46 rfl ?_
        refine j_iconst (v := 1) 50 dX12_faultOf_49 rfl (by decide) ?_
        refine j_iadd 51 dX12_faultOf_50 rfl ?_
        refine s_putI 54 fa68_21 w_1227 dX12_faultOf_51 rfl ?_
        refine j_goto 99 dX12_faultOf_54 (by decide) ?_
        refine j_goto 15 dX12_faultOf_99 (by decide) ?_
        refine j_sub (ls' := [some (vR 68), some (vI y1), none]) (And.intro rfl (And.intro rfl trivial)) ?_
        exact ih (wI s4 68 21 ((s4.1 68 21) + 1))
      · refine j_iload_n 58 dX12_faultOf_57 rfl rfl ?_
        refine j_bipush (v := 108) 60 dX12_faultOf_58 rfl (by decide) ?_
        refine j_icmp_eq 75 63 dX12_faultOf_60 (by decide) rfl (fun c6 => ?_) (fun c6 => ?_)
        · refine j_aload_n 76 dX12_faultOf_75 rfl rfl ?_
          refine j_iload_n 77 dX12_faultOf_76 rfl rfl ?_
          refine s_callVi (M2 := mX12_readsBench) [vI y1] 80 oa68 cc12 mkX12_readsBench w_1464 dX12_faultOf_77 rfl rfl (tX12_readsBench Θ l _  _) (by first | exact Nat.le_of_ble_eq_true rfl | omega) (Nat.le_of_ble_eq_true rfl) (Nat.le_of_ble_eq_true rfl) (fun r7 s8 => ?_)
          refine j_if_eq 94 83 dX12_faultOf_80 (by decide) rfl (fun c9 => ?_) (fun c9 => ?_)
          · refine j_aload_n 95 dX12_faultOf_94 rfl rfl ?_
            refine s_getI 98 fa68_21 w_1227 dX12_faultOf_95 rfl ?_
            exact s_iret dX12_faultOf_98 rfl
          · refine j_goto 99 dX12_faultOf_83 (by decide) ?_
            refine j_goto 15 dX12_faultOf_99 (by decide) ?_
            refine j_sub (ls' := [some (vR 68), some (vI y1), none]) (And.intro rfl (And.intro rfl trivial)) ?_
            exact ih s8
        · refine j_iload_n 64 dX12_faultOf_63 rfl rfl ?_
          refine j_bipush (v := 114) 66 dX12_faultOf_64 rfl (by decide) ?_
          refine j_icmp_eq 75 69 dX12_faultOf_66 (by decide) rfl (fun c10 => ?_) (fun c10 => ?_)
          · refine j_aload_n 76 dX12_faultOf_75 rfl rfl ?_
            refine j_iload_n 77 dX12_faultOf_76 rfl rfl ?_
            refine s_callVi (M2 := mX12_readsBench) [vI y1] 80 oa68 cc12 mkX12_readsBench w_1464 dX12_faultOf_77 rfl rfl (tX12_readsBench Θ l _  _) (by first | exact Nat.le_of_ble_eq_true rfl | omega) (Nat.le_of_ble_eq_true rfl) (Nat.le_of_ble_eq_true rfl) (fun r11 s12 => ?_)
            refine j_if_eq 94 83 dX12_faultOf_80 (by decide) rfl (fun c13 => ?_) (fun c13 => ?_)
            · refine j_aload_n 95 dX12_faultOf_94 rfl rfl ?_
              refine s_getI 98 fa68_21 w_1227 dX12_faultOf_95 rfl ?_
              exact s_iret dX12_faultOf_98 rfl
            · refine j_goto 99 dX12_faultOf_83 (by decide) ?_
              refine j_goto 15 dX12_faultOf_99 (by decide) ?_
              refine j_sub (ls' := [some (vR 68), some (vI y1), none]) (And.intro rfl (And.intro rfl trivial)) ?_
              exact ih s12
          · refine j_iload_n 70 dX12_faultOf_69 rfl rfl ?_
            refine j_bipush (v := 109) 72 dX12_faultOf_70 rfl (by decide) ?_
            refine j_icmp_ne 86 75 dX12_faultOf_72 (by decide) rfl (fun c14 => ?_) (fun c14 => ?_)
            · refine j_aload_n 76 dX12_faultOf_75 rfl rfl ?_
              refine j_iload_n 77 dX12_faultOf_76 rfl rfl ?_
              refine s_callVi (M2 := mX12_readsBench) [vI y1] 80 oa68 cc12 mkX12_readsBench w_1464 dX12_faultOf_77 rfl rfl (tX12_readsBench Θ l _  _) (by first | exact Nat.le_of_ble_eq_true rfl | omega) (Nat.le_of_ble_eq_true rfl) (Nat.le_of_ble_eq_true rfl) (fun r15 s16 => ?_)
              refine j_if_eq 94 83 dX12_faultOf_80 (by decide) rfl (fun c17 => ?_) (fun c17 => ?_)
              · refine j_aload_n 95 dX12_faultOf_94 rfl rfl ?_
                refine s_getI 98 fa68_21 w_1227 dX12_faultOf_95 rfl ?_
                exact s_iret dX12_faultOf_98 rfl
              · refine j_goto 99 dX12_faultOf_83 (by decide) ?_
                refine j_goto 15 dX12_faultOf_99 (by decide) ?_
                refine j_sub (ls' := [some (vR 68), some (vI y1), none]) (And.intro rfl (And.intro rfl trivial)) ?_
                exact ih s16
            · refine j_aload_n 87 dX12_faultOf_86 rfl rfl ?_
              refine j_iload_n 88 dX12_faultOf_87 rfl rfl ?_
              refine s_callVi (M2 := mX12_readsGuest) [vI y1] 91 oa68 cc12 mkX12_readsGuest w_1472 dX12_faultOf_88 rfl rfl (tX12_readsGuest Θ l _  _) (by first | exact Nat.le_of_ble_eq_true rfl | omega) (Nat.le_of_ble_eq_true rfl) (Nat.le_of_ble_eq_true rfl) (fun r18 s19 => ?_)
              refine j_if_ne 99 94 dX12_faultOf_91 (by decide) rfl (fun c20 => ?_) (fun c20 => ?_)
              · refine j_aload_n 95 dX12_faultOf_94 rfl rfl ?_
                refine s_getI 98 fa68_21 w_1227 dX12_faultOf_95 rfl ?_
                exact s_iret dX12_faultOf_98 rfl
              · refine j_goto 15 dX12_faultOf_99 (by decide) ?_
                refine j_sub (ls' := [some (vR 68), some (vI y1), none]) (And.intro rfl (And.intro rfl trivial)) ?_
                exact ih s19
    · refine j_sub (ls' := [some (vR 68), some (vI y1), none]) (And.intro rfl (And.intro rfl trivial)) ?_
      exact hκ s
theorem tX12_faultOf (Θ : Th) (l : Launch)  (a1 : Int32)  (s : Mem) : Cs Θ l mX12_faultOf 4 gI [vR 68, vI a1] s (fX12_faultOf a1 s) := by
  refine ct_of (by decide) [some (vR 68), some (vI a1), none] rfl (Nat.le_of_ble_eq_true rfl) ?_
  unfold fX12_faultOf
  refine j_aload_n 1 dX12_faultOf_0 rfl rfl ?_
  refine j_iconst (v := 0) 2 dX12_faultOf_1 rfl (by decide) ?_
  refine s_putI 5 fa68_21 w_1227 dX12_faultOf_2 rfl ?_
  refine j_aload_n 6 dX12_faultOf_5 rfl rfl ?_
  refine j_iconst (v := 0) 7 dX12_faultOf_6 rfl (by decide) ?_
  refine s_putI 10 fa68_23 w_1229 dX12_faultOf_7 rfl ?_
  refine j_aload_n 11 dX12_faultOf_10 rfl rfl ?_
  refine j_iconst (v := 0) 12 dX12_faultOf_11 rfl (by decide) ?_
  refine s_putI 15 fa68_24 w_1230 dX12_faultOf_12 rfl ?_
  refine j_sub (ls' := [some (vR 68), some (vI a1), none]) (And.intro rfl (And.intro rfl trivial)) ?_
  refine tX12_faultOf_L15 Θ l _ _  ?_ _  _
  intro s21
  refine j_aload_n 103 dX12_faultOf_102 rfl rfl ?_
  refine s_getI 106 fa68_23 w_1229 dX12_faultOf_103 rfl ?_
  refine j_if_ne 118 109 dX12_faultOf_106 (by decide) rfl (fun c22 => ?_) (fun c22 => ?_)
  · refine j_aload_n 110 dX12_faultOf_109 rfl rfl ?_
    refine s_getR (x := 73) 113 fa68_8 w_1214 dX12_faultOf_110 rfl (by decide +kernel) ?_
    refine j_iload_n 114 dX12_faultOf_113 rfl rfl ?_
    refine s_iaload 115 aa73 dX12_faultOf_114 rfl (fun b23 => ?_)
    refine j_goto 120 dX12_faultOf_115 (by decide) ?_
    exact s_iret dX12_faultOf_120 rfl
  · refine j_bipush (v := (-9)) 120 dX12_faultOf_118 rfl (by decide) ?_
    exact s_iret dX12_faultOf_120 rfl
-- X12_postureOf
def fX12_postureOf  (a0 : Int32) (s : Mem) : Option (Int32 × Mem) :=
if a0 = 115 then
  some (0, s)
else
  if a0 = 116 then
    some (1, s)
  else
    if a0 = 107 then
      some (2, s)
    else
      some ((-9), s)
theorem tX12_postureOf (Θ : Th) (l : Launch)  (a0 : Int32)  (s : Mem) : Cs Θ l mX12_postureOf 1 gI [vI a0] s (fX12_postureOf a0 s) := by
  refine ct_of (by decide) [some (vI a0)] rfl (Nat.le_of_ble_eq_true rfl) ?_
  unfold fX12_postureOf
  refine j_iload_n 1 dX12_postureOf_0 rfl rfl ?_
  refine j_bipush (v := 115) 3 dX12_postureOf_1 rfl (by decide) ?_
  refine j_icmp_ne 10 6 dX12_postureOf_3 (by decide) rfl (fun c1 => ?_) (fun c1 => ?_)
  · refine j_iconst (v := 0) 7 dX12_postureOf_6 rfl (by decide) ?_
    refine j_goto 32 dX12_postureOf_7 (by decide) ?_
    exact s_iret dX12_postureOf_32 rfl
  · refine j_iload_n 11 dX12_postureOf_10 rfl rfl ?_
    refine j_bipush (v := 116) 13 dX12_postureOf_11 rfl (by decide) ?_
    refine j_icmp_ne 20 16 dX12_postureOf_13 (by decide) rfl (fun c2 => ?_) (fun c2 => ?_)
    · refine j_iconst (v := 1) 17 dX12_postureOf_16 rfl (by decide) ?_
      refine j_goto 32 dX12_postureOf_17 (by decide) ?_
      exact s_iret dX12_postureOf_32 rfl
    · refine j_iload_n 21 dX12_postureOf_20 rfl rfl ?_
      refine j_bipush (v := 107) 23 dX12_postureOf_21 rfl (by decide) ?_
      refine j_icmp_ne 30 26 dX12_postureOf_23 (by decide) rfl (fun c3 => ?_) (fun c3 => ?_)
      · refine j_iconst (v := 2) 27 dX12_postureOf_26 rfl (by decide) ?_
        refine j_goto 32 dX12_postureOf_27 (by decide) ?_
        exact s_iret dX12_postureOf_32 rfl
      · refine j_bipush (v := (-9)) 32 dX12_postureOf_30 rfl (by decide) ?_
        exact s_iret dX12_postureOf_32 rfl
-- X12_riteFault
def fX12_riteFault_L4  (κ : Int32 → Mem → Option (Int32 × Mem)) (y1 : Int32) : Nat → Int32 → Int32 → Mem → Option (Int32 × Mem)
  | 0, _, _, _ => none
  | k + 1, x2, x3, s =>
    if inb y1 4 = true then
    if x3 < (s.1 73 (ix y1)) then
      bnd (fX12_byteAt y1 x3 s) (fun r3 s4 =>
      if r3 = 32 then
        fX12_riteFault_L4 κ y1 k x2 (x3 + 1) s4
      else
        bnd (fX12_postureOf r3 s4) (fun r6 s7 =>
        if r6 = (-9) then
          some (x3, s7)
        else
          if x2 = 40 then
            some (x3, s7)
          else
            fX12_riteFault_L4 κ y1 k (x2 + 1) (x3 + 1) s7))
    else
      κ x2 s
    else none
def fX12_riteFault  (a1 : Int32) (s : Mem) : Option (Int32 × Mem) :=
fX12_riteFault_L4 (fun v10 s11 =>
  if v10 = 0 then
    if inb a1 4 = true then
    some (s11.1 73 (ix a1), s11)
    else none
  else
    some ((-9), s11)) a1 FU 0 0 s
theorem tX12_riteFault_L4 (Θ : Th) (l : Launch)  (κ : Int32 → Mem → Option (Int32 × Mem)) (y1 : Int32)  (hκ : ∀ (x2 : Int32) (s : Mem), Js Θ l mX12_riteFault 2 gI 56 [some (vR 68), some (vI y1), some (vI x2), none, none] [] s (κ x2 s)) : ∀ (k : Nat) (x2 : Int32) (x3 : Int32) (s : Mem), Js Θ l mX12_riteFault 2 gI 4 [some (vR 68), some (vI y1), some (vI x2), some (vI x3), none] [] s (fX12_riteFault_L4 κ y1 k x2 x3 s) := by
  intro k
  induction k with
  | zero => intro x2 x3 s; exact j_none
  | succ k ih =>
    intro x2 x3 s
    rw [fX12_riteFault_L4]
    refine j_iload_n 5 dX12_riteFault_4 rfl rfl ?_
    refine j_aload_n 6 dX12_riteFault_5 rfl rfl ?_
    refine s_getR (x := 73) 9 fa68_8 w_1214 dX12_riteFault_6 rfl (by decide +kernel) ?_
    refine j_iload_n 10 dX12_riteFault_9 rfl rfl ?_
    refine s_iaload 11 aa73 dX12_riteFault_10 rfl (fun b1 => ?_)
    refine j_icmp_ge 56 14 dX12_riteFault_11 (by decide) rfl (fun c2 => ?_) (fun c2 => ?_)
    · refine j_aload_n 15 dX12_riteFault_14 rfl rfl ?_
      refine j_iload_n 16 dX12_riteFault_15 rfl rfl ?_
      refine j_iload_n 17 dX12_riteFault_16 rfl rfl ?_
      refine s_callVi (M2 := mX12_byteAt) [vI y1, vI x3] 20 oa68 cc12 mkX12_byteAt w_1453 dX12_riteFault_17 rfl rfl (tX12_byteAt Θ l _ _  _) (by first | exact Nat.le_of_ble_eq_true rfl | omega) (Nat.le_of_ble_eq_true rfl) (Nat.le_of_ble_eq_true rfl) (fun r3 s4 => ?_)
      refine j_istore (i := 4) (ls' := [some (vR 68), some (vI y1), some (vI x2), some (vI x3), some (vI r3)]) 22 dX12_riteFault_20 rfl (by decide) rfl rfl ?_
      refine j_iload 24 dX12_riteFault_22 rfl rfl ?_
      refine j_bipush (v := 32) 26 dX12_riteFault_24 rfl (by decide) ?_
      refine j_icmp_eq 50 29 dX12_riteFault_26 (by decide) rfl (fun c5 => ?_) (fun c5 => ?_)
      · refine j_iinc (v := x3 + 1) (ls' := [some (vR 68), some (vI y1), some (vI x2), some (vI (x3 + 1)), some (vI r3)]) 53 dX12_riteFault_50 rfl rfl rfl (by decide) rfl rfl ?_
        refine j_goto 4 dX12_riteFault_53 (by decide) ?_
        refine j_sub (ls' := [some (vR 68), some (vI y1), some (vI x2), some (vI (x3 + 1)), none]) (And.intro rfl (And.intro rfl (And.intro rfl (And.intro rfl trivial)))) ?_
        exact ih x2 (x3 + 1) s4
      · refine j_iload 31 dX12_riteFault_29 rfl rfl ?_
        refine s_callSi (M2 := mX12_postureOf) [vI r3] 34 mkX12_postureOf (Or.inl w_1457) dX12_riteFault_31 rfl rfl (tX12_postureOf Θ l _  _) (by first | exact Nat.le_of_ble_eq_true rfl | omega) (Nat.le_of_ble_eq_true rfl) (Nat.le_of_ble_eq_true rfl) (fun r6 s7 => ?_)
        refine j_bipush (v := (-9)) 36 dX12_riteFault_34 rfl (by decide) ?_
        refine j_icmp_eq 45 39 dX12_riteFault_36 (by decide) rfl (fun c8 => ?_) (fun c8 => ?_)
        · refine j_iload_n 46 dX12_riteFault_45 rfl rfl ?_
          exact s_iret dX12_riteFault_46 rfl
        · refine j_iload_n 40 dX12_riteFault_39 rfl rfl ?_
          refine j_bipush (v := 40) 42 dX12_riteFault_40 rfl (by decide) ?_
          refine j_icmp_ne 47 45 dX12_riteFault_42 (by decide) rfl (fun c9 => ?_) (fun c9 => ?_)
          · refine j_iload_n 46 dX12_riteFault_45 rfl rfl ?_
            exact s_iret dX12_riteFault_46 rfl
          · refine j_iinc (v := x2 + 1) (ls' := [some (vR 68), some (vI y1), some (vI (x2 + 1)), some (vI x3), some (vI r3)]) 50 dX12_riteFault_47 rfl rfl rfl (by decide) rfl rfl ?_
            refine j_iinc (v := x3 + 1) (ls' := [some (vR 68), some (vI y1), some (vI (x2 + 1)), some (vI (x3 + 1)), some (vI r3)]) 53 dX12_riteFault_50 rfl rfl rfl (by decide) rfl rfl ?_
            refine j_goto 4 dX12_riteFault_53 (by decide) ?_
            refine j_sub (ls' := [some (vR 68), some (vI y1), some (vI (x2 + 1)), some (vI (x3 + 1)), none]) (And.intro rfl (And.intro rfl (And.intro rfl (And.intro rfl trivial)))) ?_
            exact ih (x2 + 1) (x3 + 1) s7
    · refine j_sub (ls' := [some (vR 68), some (vI y1), some (vI x2), none, none]) (And.intro rfl (And.intro rfl (And.intro rfl trivial))) ?_
      exact hκ x2 s
theorem tX12_riteFault (Θ : Th) (l : Launch)  (a1 : Int32)  (s : Mem) : Cs Θ l mX12_riteFault 2 gI [vR 68, vI a1] s (fX12_riteFault a1 s) := by
  refine ct_of (by decide) [some (vR 68), some (vI a1), none, none, none] rfl (Nat.le_of_ble_eq_true rfl) ?_
  unfold fX12_riteFault
  refine j_iconst (v := 0) 1 dX12_riteFault_0 rfl (by decide) ?_
  refine j_istore_n (i := 2) (ls' := [some (vR 68), some (vI a1), some (vI 0), none, none]) 2 dX12_riteFault_1 rfl rfl (by decide) rfl rfl ?_
  refine j_iconst (v := 0) 3 dX12_riteFault_2 rfl (by decide) ?_
  refine j_istore_n (i := 3) (ls' := [some (vR 68), some (vI a1), some (vI 0), some (vI 0), none]) 4 dX12_riteFault_3 rfl rfl (by decide) rfl rfl ?_
  refine j_sub (ls' := [some (vR 68), some (vI a1), some (vI 0), some (vI 0), none]) (And.intro rfl (And.intro rfl (And.intro rfl (And.intro rfl trivial)))) ?_
  refine tX12_riteFault_L4 Θ l _ _  ?_ _ _ _ _
  intro v10 s11
  refine j_iload_n 57 dX12_riteFault_56 rfl rfl ?_
  refine j_if_ne 69 60 dX12_riteFault_57 (by decide) rfl (fun c12 => ?_) (fun c12 => ?_)
  · refine j_aload_n 61 dX12_riteFault_60 rfl rfl ?_
    refine s_getR (x := 73) 64 fa68_8 w_1214 dX12_riteFault_61 rfl (by decide +kernel) ?_
    refine j_iload_n 65 dX12_riteFault_64 rfl rfl ?_
    refine s_iaload 66 aa73 dX12_riteFault_65 rfl (fun b13 => ?_)
    refine j_goto 71 dX12_riteFault_66 (by decide) ?_
    exact s_iret dX12_riteFault_71 rfl
  · refine j_bipush (v := (-9)) 71 dX12_riteFault_69 rfl (by decide) ?_
    exact s_iret dX12_riteFault_71 rfl
-- X12_fault
def fX12_fault  (a1 : Int32) (a2 : Int32) (s : Mem) : Option (Int32 × Mem) :=
bnd (fX12_isText a1 s) (fun r1 s2 =>
if r1 = 0 then
  some ((-1), s2)
else
  if inb a1 4 = true then
  if (s2.1 73 (ix a1)) < 0 then
    bnd (fX12_meets 1 s2) (fun r6 s7 =>
    some (r6, s7))
  else
    if a2 = 0 then
      bnd (fX12_faultOf a1 s2) (fun r9 s10 =>
      some (r9, s10))
    else
      bnd (fX12_riteFault a1 s2) (fun r11 s12 =>
      some (r11, s12))
  else none)
theorem tX12_fault (Θ : Th) (l : Launch)  (a1 : Int32) (a2 : Int32)  (s : Mem) : Cs Θ l mX12_fault 5 gI [vR 68, vI a1, vI a2] s (fX12_fault a1 a2 s) := by
  refine ct_of (by decide) [some (vR 68), some (vI a1), some (vI a2)] rfl (Nat.le_of_ble_eq_true rfl) ?_
  unfold fX12_fault
  refine j_iload_n 1 dX12_fault_0 rfl rfl ?_
  refine s_callSi (M2 := mX12_isText) [vI a1] 4 mkX12_isText (Or.inl w_1438) dX12_fault_1 rfl rfl (tX12_isText Θ l _  _) (by first | exact Nat.le_of_ble_eq_true rfl | omega) (Nat.le_of_ble_eq_true rfl) (Nat.le_of_ble_eq_true rfl) (fun r1 s2 => ?_)
  refine j_if_ne 9 7 dX12_fault_4 (by decide) rfl (fun c3 => ?_) (fun c3 => ?_)
  · refine j_iconst (v := (-1)) 8 dX12_fault_7 rfl (by decide) ?_
    exact s_iret dX12_fault_8 rfl
  · refine j_aload_n 10 dX12_fault_9 rfl rfl ?_
    refine s_getR (x := 73) 13 fa68_8 w_1214 dX12_fault_10 rfl (by decide +kernel) ?_
    refine j_iload_n 14 dX12_fault_13 rfl rfl ?_
    refine s_iaload 15 aa73 dX12_fault_14 rfl (fun b4 => ?_)
    refine j_if_ge 26 18 dX12_fault_15 (by decide) rfl (fun c5 => ?_) (fun c5 => ?_)
    · refine j_aload_n 19 dX12_fault_18 rfl rfl ?_
      refine j_iconst (v := 1) 20 dX12_fault_19 rfl (by decide) ?_
      refine s_callVi (M2 := mX12_meets) [vI 1] 23 oa68 cc12 mkX12_meets w_1402 dX12_fault_20 rfl rfl (tX12_meets Θ l _  _) (by first | exact Nat.le_of_ble_eq_true rfl | omega) (Nat.le_of_ble_eq_true rfl) (Nat.le_of_ble_eq_true rfl) (fun r6 s7 => ?_)
      refine j_goto 43 dX12_fault_23 (by decide) ?_
      exact s_iret dX12_fault_43 rfl
    · refine j_iload_n 27 dX12_fault_26 rfl rfl ?_
      refine j_if_eq 38 30 dX12_fault_27 (by decide) rfl (fun c8 => ?_) (fun c8 => ?_)
      · refine j_aload_n 39 dX12_fault_38 rfl rfl ?_
        refine j_iload_n 40 dX12_fault_39 rfl rfl ?_
        refine s_callVi (M2 := mX12_faultOf) [vI a1] 43 oa68 cc12 mkX12_faultOf w_1460 dX12_fault_40 rfl rfl (tX12_faultOf Θ l _  _) (by first | exact Nat.le_of_ble_eq_true rfl | omega) (Nat.le_of_ble_eq_true rfl) (Nat.le_of_ble_eq_true rfl) (fun r9 s10 => ?_)
        exact s_iret dX12_fault_43 rfl
      · refine j_aload_n 31 dX12_fault_30 rfl rfl ?_
        refine j_iload_n 32 dX12_fault_31 rfl rfl ?_
        refine s_callVi (M2 := mX12_riteFault) [vI a1] 35 oa68 cc12 mkX12_riteFault w_1449 dX12_fault_32 rfl rfl (tX12_riteFault Θ l _  _) (by first | exact Nat.le_of_ble_eq_true rfl | omega) (Nat.le_of_ble_eq_true rfl) (Nat.le_of_ble_eq_true rfl) (fun r11 s12 => ?_)
        refine j_goto 43 dX12_fault_35 (by decide) ?_
        exact s_iret dX12_fault_43 rfl
-- X12_barge
def fX12_barge_L55  (κ : Mem → Option (Int32 × Mem))  : Nat → Int32 → Mem → Option (Int32 × Mem)
  | 0, _, _ => none
  | k + 1, x2, s =>
    if x2 < (s.1 68 10) then
      if inb x2 8 = true then
      if inb x2 8 = true then
      fX12_barge_L55 κ k (x2 + 1) (wI s 75 (ix x2) (s.1 81 (ix x2)))
      else none
      else none
    else
      κ s
def fX12_barge_L83  (κ : Mem → Option (Int32 × Mem))  : Nat → Int32 → Mem → Option (Int32 × Mem)
  | 0, _, _ => none
  | k + 1, x2, s =>
    if x2 < (s.1 68 12) then
      if inb x2 7 = true then
      if inb x2 7 = true then
      if inb x2 7 = true then
      if inb x2 7 = true then
      if inb x2 7 = true then
      if inb x2 7 = true then
      if inb x2 8 = true then
      fX12_barge_L83 κ k (x2 + 1) (wI (wI (wI (wI s 76 (ix x2) (s.1 82 (ix x2))) 77 (ix x2) ((wI s 76 (ix x2) (s.1 82 (ix x2))).1 83 (ix x2))) 78 (ix x2) ((wI (wI s 76 (ix x2) (s.1 82 (ix x2))) 77 (ix x2) ((wI s 76 (ix x2) (s.1 82 (ix x2))).1 83 (ix x2))).1 84 (ix x2))) 79 (ix x2) (-9))
      else none
      else none
      else none
      else none
      else none
      else none
      else none
    else
      κ s
def fX12_barge_L143  (κ : Mem → Option (Int32 × Mem))  : Nat → Int32 → Mem → Option (Int32 × Mem)
  | 0, _, _ => none
  | k + 1, x2, s =>
    if x2 < 3 then
      if inb x2 3 = true then
      fX12_barge_L143 κ k (x2 + 1) (wI s 88 (ix x2) (vp_nar .boolean 0))
      else none
    else
      κ s
def fX12_barge  (a1 : Int32) (s : Mem) : Option (Int32 × Mem) :=
bnd (fX12_isText a1 s) (fun r1 s2 =>
if r1 = 0 then
  some ((-1), s2)
else
  if inb a1 4 = true then
  if (s2.1 73 (ix a1)) < 0 then
    bnd (fX12_meets 1 s2) (fun r6 s7 =>
    some (r6, s7))
  else
    bnd (fX12_faultOf a1 s2) (fun r8 s9 =>
    if r8 = (-9) then
      fX12_barge_L55 (fun s14 =>
        fX12_barge_L83 (fun s23 =>
          fX12_barge_L143 (fun s26 =>
            some ((wI (wI s26 68 29 0) 68 32 0).1 68 10, wI (wI s26 68 29 0) 68 32 0))  FU 0 s23)  FU 0 s14)  FU 0 (wI (wI s9 68 10 (s9.1 68 23)) 68 12 ((wI s9 68 10 (s9.1 68 23)).1 68 24))
    else
      some ((-4), s9))
  else none)
theorem tX12_barge_L55 (Θ : Th) (l : Launch)  (κ : Mem → Option (Int32 × Mem))   (hκ : ∀  (s : Mem), Js Θ l mX12_barge 5 gI 81 [some (vR 68), none, none] [] s (κ  s)) : ∀ (k : Nat) (x2 : Int32) (s : Mem), Js Θ l mX12_barge 5 gI 55 [some (vR 68), none, some (vI x2)] [] s (fX12_barge_L55 κ  k x2 s) := by
  intro k
  induction k with
  | zero => intro x2 s; exact j_none
  | succ k ih =>
    intro x2 s
    rw [fX12_barge_L55]
    refine j_iload_n 56 dX12_barge_55 rfl rfl ?_
    refine j_aload_n 57 dX12_barge_56 rfl rfl ?_
    refine s_getI 60 fa68_10 w_1216 dX12_barge_57 rfl ?_
    refine j_icmp_ge 81 63 dX12_barge_60 (by decide) rfl (fun c11 => ?_) (fun c11 => ?_)
    · refine j_aload_n 64 dX12_barge_63 rfl rfl ?_
      refine s_getR (x := 75) 67 fa68_11 w_1217 dX12_barge_64 rfl (by decide +kernel) ?_
      refine j_iload_n 68 dX12_barge_67 rfl rfl ?_
      refine j_aload_n 69 dX12_barge_68 rfl rfl ?_
      refine s_getR (x := 81) 72 fa68_25 w_1231 dX12_barge_69 rfl (by decide +kernel) ?_
      refine j_iload_n 73 dX12_barge_72 rfl rfl ?_
      refine s_iaload 74 aa81 dX12_barge_73 rfl (fun b12 => ?_)
      refine s_iastore 75 aa75 dX12_barge_74 rfl (fun b13 => ?_)
      refine j_iinc (v := x2 + 1) (ls' := [some (vR 68), none, some (vI (x2 + 1))]) 78 dX12_barge_75 rfl rfl rfl (by decide) rfl rfl ?_
      refine j_goto 55 dX12_barge_78 (by decide) ?_
      refine j_sub (ls' := [some (vR 68), none, some (vI (x2 + 1))]) (And.intro rfl (And.intro rfl trivial)) ?_
      exact ih (x2 + 1) (wI s 75 (ix x2) (s.1 81 (ix x2)))
    · refine j_sub (ls' := [some (vR 68), none, none]) (And.intro rfl trivial) ?_
      exact hκ s
theorem tX12_barge_L83 (Θ : Th) (l : Launch)  (κ : Mem → Option (Int32 × Mem))   (hκ : ∀  (s : Mem), Js Θ l mX12_barge 5 gI 141 [some (vR 68), none, none] [] s (κ  s)) : ∀ (k : Nat) (x2 : Int32) (s : Mem), Js Θ l mX12_barge 5 gI 83 [some (vR 68), none, some (vI x2)] [] s (fX12_barge_L83 κ  k x2 s) := by
  intro k
  induction k with
  | zero => intro x2 s; exact j_none
  | succ k ih =>
    intro x2 s
    rw [fX12_barge_L83]
    refine j_iload_n 84 dX12_barge_83 rfl rfl ?_
    refine j_aload_n 85 dX12_barge_84 rfl rfl ?_
    refine s_getI 88 fa68_12 w_1218 dX12_barge_85 rfl ?_
    refine j_icmp_ge 141 91 dX12_barge_88 (by decide) rfl (fun c15 => ?_) (fun c15 => ?_)
    · refine j_aload_n 92 dX12_barge_91 rfl rfl ?_
      refine s_getR (x := 76) 95 fa68_13 w_1219 dX12_barge_92 rfl (by decide +kernel) ?_
      refine j_iload_n 96 dX12_barge_95 rfl rfl ?_
      refine j_aload_n 97 dX12_barge_96 rfl rfl ?_
      refine s_getR (x := 82) 100 fa68_26 w_1232 dX12_barge_97 rfl (by decide +kernel) ?_
      refine j_iload_n 101 dX12_barge_100 rfl rfl ?_
      refine s_iaload 102 aa82 dX12_barge_101 rfl (fun b16 => ?_)
      refine s_iastore 103 aa76 dX12_barge_102 rfl (fun b17 => ?_)
      refine j_aload_n 104 dX12_barge_103 rfl rfl ?_
      refine s_getR (x := 77) 107 fa68_14 w_1220 dX12_barge_104 rfl (by decide +kernel) ?_
      refine j_iload_n 108 dX12_barge_107 rfl rfl ?_
      refine j_aload_n 109 dX12_barge_108 rfl rfl ?_
      refine s_getR (x := 83) 112 fa68_27 w_1233 dX12_barge_109 rfl (by decide +kernel) ?_
      refine j_iload_n 113 dX12_barge_112 rfl rfl ?_
      refine s_iaload 114 aa83 dX12_barge_113 rfl (fun b18 => ?_)
      refine s_iastore 115 aa77 dX12_barge_114 rfl (fun b19 => ?_)
      refine j_aload_n 116 dX12_barge_115 rfl rfl ?_
      refine s_getR (x := 78) 119 fa68_15 w_1221 dX12_barge_116 rfl (by decide +kernel) ?_
      refine j_iload_n 120 dX12_barge_119 rfl rfl ?_
      refine j_aload_n 121 dX12_barge_120 rfl rfl ?_
      refine s_getR (x := 84) 124 fa68_28 w_1234 dX12_barge_121 rfl (by decide +kernel) ?_
      refine j_iload_n 125 dX12_barge_124 rfl rfl ?_
      refine s_iaload 126 aa84 dX12_barge_125 rfl (fun b20 => ?_)
      refine s_iastore 127 aa78 dX12_barge_126 rfl (fun b21 => ?_)
      refine j_aload_n 128 dX12_barge_127 rfl rfl ?_
      refine s_getR (x := 79) 131 fa68_16 w_1222 dX12_barge_128 rfl (by decide +kernel) ?_
      refine j_iload_n 132 dX12_barge_131 rfl rfl ?_
      refine j_bipush (v := (-9)) 134 dX12_barge_132 rfl (by decide) ?_
      refine s_iastore 135 aa79 dX12_barge_134 rfl (fun b22 => ?_)
      refine j_iinc (v := x2 + 1) (ls' := [some (vR 68), none, some (vI (x2 + 1))]) 138 dX12_barge_135 rfl rfl rfl (by decide) rfl rfl ?_
      refine j_goto 83 dX12_barge_138 (by decide) ?_
      refine j_sub (ls' := [some (vR 68), none, some (vI (x2 + 1))]) (And.intro rfl (And.intro rfl trivial)) ?_
      exact ih (x2 + 1) (wI (wI (wI (wI s 76 (ix x2) (s.1 82 (ix x2))) 77 (ix x2) ((wI s 76 (ix x2) (s.1 82 (ix x2))).1 83 (ix x2))) 78 (ix x2) ((wI (wI s 76 (ix x2) (s.1 82 (ix x2))) 77 (ix x2) ((wI s 76 (ix x2) (s.1 82 (ix x2))).1 83 (ix x2))).1 84 (ix x2))) 79 (ix x2) (-9))
    · refine j_sub (ls' := [some (vR 68), none, none]) (And.intro rfl trivial) ?_
      exact hκ s
theorem tX12_barge_L143 (Θ : Th) (l : Launch)  (κ : Mem → Option (Int32 × Mem))   (hκ : ∀  (s : Mem), Js Θ l mX12_barge 5 gI 161 [some (vR 68), none, none] [] s (κ  s)) : ∀ (k : Nat) (x2 : Int32) (s : Mem), Js Θ l mX12_barge 5 gI 143 [some (vR 68), none, some (vI x2)] [] s (fX12_barge_L143 κ  k x2 s) := by
  intro k
  induction k with
  | zero => intro x2 s; exact j_none
  | succ k ih =>
    intro x2 s
    rw [fX12_barge_L143]
    refine j_iload_n 144 dX12_barge_143 rfl rfl ?_
    refine j_iconst (v := 3) 145 dX12_barge_144 rfl (by decide) ?_
    refine j_icmp_ge 161 148 dX12_barge_145 (by decide) rfl (fun c24 => ?_) (fun c24 => ?_)
    · refine j_aload_n 149 dX12_barge_148 rfl rfl ?_
      refine s_getR (x := 88) 152 fa68_34 w_1240 dX12_barge_149 rfl (by decide +kernel) ?_
      refine j_iload_n 153 dX12_barge_152 rfl rfl ?_
      refine j_iconst (v := 0) 154 dX12_barge_153 rfl (by decide) ?_
      refine s_zastore 155 aa88 dX12_barge_154 rfl (fun b25 => ?_)
      refine j_iinc (v := x2 + 1) (ls' := [some (vR 68), none, some (vI (x2 + 1))]) 158 dX12_barge_155 rfl rfl rfl (by decide) rfl rfl ?_
      refine j_goto 143 dX12_barge_158 (by decide) ?_
      refine j_sub (ls' := [some (vR 68), none, some (vI (x2 + 1))]) (And.intro rfl (And.intro rfl trivial)) ?_
      exact ih (x2 + 1) (wI s 88 (ix x2) (vp_nar .boolean 0))
    · refine j_sub (ls' := [some (vR 68), none, none]) (And.intro rfl trivial) ?_
      exact hκ s
theorem tX12_barge (Θ : Th) (l : Launch)  (a1 : Int32)  (s : Mem) : Cs Θ l mX12_barge 5 gI [vR 68, vI a1] s (fX12_barge a1 s) := by
  refine ct_of (by decide) [some (vR 68), some (vI a1), none] rfl (Nat.le_of_ble_eq_true rfl) ?_
  unfold fX12_barge
  refine j_iload_n 1 dX12_barge_0 rfl rfl ?_
  refine s_callSi (M2 := mX12_isText) [vI a1] 4 mkX12_isText (Or.inl w_1438) dX12_barge_1 rfl rfl (tX12_isText Θ l _  _) (by first | exact Nat.le_of_ble_eq_true rfl | omega) (Nat.le_of_ble_eq_true rfl) (Nat.le_of_ble_eq_true rfl) (fun r1 s2 => ?_)
  refine j_if_ne 9 7 dX12_barge_4 (by decide) rfl (fun c3 => ?_) (fun c3 => ?_)
  · refine j_iconst (v := (-1)) 8 dX12_barge_7 rfl (by decide) ?_
    exact s_iret dX12_barge_8 rfl
  · refine j_aload_n 10 dX12_barge_9 rfl rfl ?_
    refine s_getR (x := 73) 13 fa68_8 w_1214 dX12_barge_10 rfl (by decide +kernel) ?_
    refine j_iload_n 14 dX12_barge_13 rfl rfl ?_
    refine s_iaload 15 aa73 dX12_barge_14 rfl (fun b4 => ?_)
    refine j_if_ge 24 18 dX12_barge_15 (by decide) rfl (fun c5 => ?_) (fun c5 => ?_)
    · refine j_aload_n 19 dX12_barge_18 rfl rfl ?_
      refine j_iconst (v := 1) 20 dX12_barge_19 rfl (by decide) ?_
      refine s_callVi (M2 := mX12_meets) [vI 1] 23 oa68 cc12 mkX12_meets w_1402 dX12_barge_20 rfl rfl (tX12_meets Θ l _  _) (by first | exact Nat.le_of_ble_eq_true rfl | omega) (Nat.le_of_ble_eq_true rfl) (Nat.le_of_ble_eq_true rfl) (fun r6 s7 => ?_)
      exact s_iret dX12_barge_23 rfl
    · refine j_aload_n 25 dX12_barge_24 rfl rfl ?_
      refine j_iload_n 26 dX12_barge_25 rfl rfl ?_
      refine s_callVi (M2 := mX12_faultOf) [vI a1] 29 oa68 cc12 mkX12_faultOf w_1460 dX12_barge_26 rfl rfl (tX12_faultOf Θ l _  _) (by first | exact Nat.le_of_ble_eq_true rfl | omega) (Nat.le_of_ble_eq_true rfl) (Nat.le_of_ble_eq_true rfl) (fun r8 s9 => ?_)
      refine j_bipush (v := (-9)) 31 dX12_barge_29 rfl (by decide) ?_
      refine j_icmp_eq 37 34 dX12_barge_31 (by decide) rfl (fun c10 => ?_) (fun c10 => ?_)
      · refine j_aload_n 38 dX12_barge_37 rfl rfl ?_
        refine j_aload_n 39 dX12_barge_38 rfl rfl ?_
        refine s_getI 42 fa68_23 w_1229 dX12_barge_39 rfl ?_
        refine s_putI 45 fa68_10 w_1216 dX12_barge_42 rfl ?_
        refine j_aload_n 46 dX12_barge_45 rfl rfl ?_
        refine j_aload_n 47 dX12_barge_46 rfl rfl ?_
        refine s_getI 50 fa68_24 w_1230 dX12_barge_47 rfl ?_
        refine s_putI 53 fa68_12 w_1218 dX12_barge_50 rfl ?_
        refine j_iconst (v := 0) 54 dX12_barge_53 rfl (by decide) ?_
        refine j_istore_n (i := 2) (ls' := [some (vR 68), some (vI a1), some (vI 0)]) 55 dX12_barge_54 rfl rfl (by decide) rfl rfl ?_
        refine j_sub (ls' := [some (vR 68), none, some (vI 0)]) (And.intro rfl (And.intro rfl trivial)) ?_
        refine tX12_barge_L55 Θ l _   ?_ _ _ _
        intro s14
        refine j_iconst (v := 0) 82 dX12_barge_81 rfl (by decide) ?_
        refine j_istore_n (i := 2) (ls' := [some (vR 68), none, some (vI 0)]) 83 dX12_barge_82 rfl rfl (by decide) rfl rfl ?_
        refine j_sub (ls' := [some (vR 68), none, some (vI 0)]) (And.intro rfl (And.intro rfl trivial)) ?_
        refine tX12_barge_L83 Θ l _   ?_ _ _ _
        intro s23
        refine j_iconst (v := 0) 142 dX12_barge_141 rfl (by decide) ?_
        refine j_istore_n (i := 2) (ls' := [some (vR 68), none, some (vI 0)]) 143 dX12_barge_142 rfl rfl (by decide) rfl rfl ?_
        refine j_sub (ls' := [some (vR 68), none, some (vI 0)]) (And.intro rfl (And.intro rfl trivial)) ?_
        refine tX12_barge_L143 Θ l _   ?_ _ _ _
        intro s26
        refine j_aload_n 162 dX12_barge_161 rfl rfl ?_
        refine j_iconst (v := 0) 163 dX12_barge_162 rfl (by decide) ?_
        refine s_putI 166 fa68_29 w_1235 dX12_barge_163 rfl ?_
        refine j_aload_n 167 dX12_barge_166 rfl rfl ?_
        refine j_iconst (v := 0) 168 dX12_barge_167 rfl (by decide) ?_
        refine s_putI 171 fa68_32 w_1238 dX12_barge_168 rfl ?_
        refine j_aload_n 172 dX12_barge_171 rfl rfl ?_
        refine s_getI 175 fa68_10 w_1216 dX12_barge_172 rfl ?_
        exact s_iret dX12_barge_175 rfl
      · refine j_bipush (v := (-4)) 36 dX12_barge_34 rfl (by decide) ?_
        exact s_iret dX12_barge_36 rfl
-- X12_rite
def fX12_rite_L44  (κ : Mem → Option (Int32 × Mem)) (y1 : Int32) : Nat → Int32 → Mem → Option (Int32 × Mem)
  | 0, _, _ => none
  | k + 1, x2, s =>
    if inb y1 4 = true then
    if x2 < (s.1 73 (ix y1)) then
      bnd (fX12_byteAt y1 x2 s) (fun r13 s14 =>
      if r13 = 32 then
        fX12_rite_L44 κ y1 k (x2 + 1) s14
      else
        bnd (fX12_byteAt y1 x2 s14) (fun r16 s17 =>
        bnd (fX12_postureOf r16 s17) (fun r18 s19 =>
        if inb (s14.1 68 19) 40 = true then
        fX12_rite_L44 κ y1 k (x2 + 1) (wI (wI s19 80 (ix (s14.1 68 19)) r18) 68 19 (((wI s19 80 (ix (s14.1 68 19)) r18).1 68 19) + 1))
        else none)))
    else
      κ s
    else none
def fX12_rite  (a1 : Int32) (s : Mem) : Option (Int32 × Mem) :=
bnd (fX12_isText a1 s) (fun r1 s2 =>
if r1 = 0 then
  some ((-1), s2)
else
  if inb a1 4 = true then
  if (s2.1 73 (ix a1)) < 0 then
    bnd (fX12_meets 1 s2) (fun r6 s7 =>
    some (r6, s7))
  else
    bnd (fX12_riteFault a1 s2) (fun r8 s9 =>
    if r8 = (-9) then
      fX12_rite_L44 (fun s21 =>
        some (s21.1 68 19, s21)) a1 FU 0 (wI s9 68 19 0)
    else
      some ((-4), s9))
  else none)
theorem tX12_rite_L44 (Θ : Th) (l : Launch)  (κ : Mem → Option (Int32 × Mem)) (y1 : Int32)  (hκ : ∀  (s : Mem), Js Θ l mX12_rite 3 gI 99 [some (vR 68), none, none] [] s (κ  s)) : ∀ (k : Nat) (x2 : Int32) (s : Mem), Js Θ l mX12_rite 3 gI 44 [some (vR 68), some (vI y1), some (vI x2)] [] s (fX12_rite_L44 κ y1 k x2 s) := by
  intro k
  induction k with
  | zero => intro x2 s; exact j_none
  | succ k ih =>
    intro x2 s
    rw [fX12_rite_L44]
    refine j_iload_n 45 dX12_rite_44 rfl rfl ?_
    refine j_aload_n 46 dX12_rite_45 rfl rfl ?_
    refine s_getR (x := 73) 49 fa68_8 w_1214 dX12_rite_46 rfl (by decide +kernel) ?_
    refine j_iload_n 50 dX12_rite_49 rfl rfl ?_
    refine s_iaload 51 aa73 dX12_rite_50 rfl (fun b11 => ?_)
    refine j_icmp_ge 99 54 dX12_rite_51 (by decide) rfl (fun c12 => ?_) (fun c12 => ?_)
    · refine j_aload_n 55 dX12_rite_54 rfl rfl ?_
      refine j_iload_n 56 dX12_rite_55 rfl rfl ?_
      refine j_iload_n 57 dX12_rite_56 rfl rfl ?_
      refine s_callVi (M2 := mX12_byteAt) [vI y1, vI x2] 60 oa68 cc12 mkX12_byteAt w_1453 dX12_rite_57 rfl rfl (tX12_byteAt Θ l _ _  _) (by first | exact Nat.le_of_ble_eq_true rfl | omega) (Nat.le_of_ble_eq_true rfl) (Nat.le_of_ble_eq_true rfl) (fun r13 s14 => ?_)
      refine j_bipush (v := 32) 62 dX12_rite_60 rfl (by decide) ?_
      refine j_icmp_eq 93 65 dX12_rite_62 (by decide) rfl (fun c15 => ?_) (fun c15 => ?_)
      · refine j_iinc (v := x2 + 1) (ls' := [some (vR 68), some (vI y1), some (vI (x2 + 1))]) 96 dX12_rite_93 rfl rfl rfl (by decide) rfl rfl ?_
        refine j_goto 44 dX12_rite_96 (by decide) ?_
        refine j_sub (ls' := [some (vR 68), some (vI y1), some (vI (x2 + 1))]) (And.intro rfl (And.intro rfl (And.intro rfl trivial))) ?_
        exact ih (x2 + 1) s14
      · refine j_aload_n 66 dX12_rite_65 rfl rfl ?_
        refine s_getR (x := 80) 69 fa68_20 w_1226 dX12_rite_66 rfl (by decide +kernel) ?_
        refine j_aload_n 70 dX12_rite_69 rfl rfl ?_
        refine s_getI 73 fa68_19 w_1225 dX12_rite_70 rfl ?_
        refine j_aload_n 74 dX12_rite_73 rfl rfl ?_
        refine j_iload_n 75 dX12_rite_74 rfl rfl ?_
        refine j_iload_n 76 dX12_rite_75 rfl rfl ?_
        refine s_callVi (M2 := mX12_byteAt) [vI y1, vI x2] 79 oa68 cc12 mkX12_byteAt w_1453 dX12_rite_76 rfl rfl (tX12_byteAt Θ l _ _  _) (by first | exact Nat.le_of_ble_eq_true rfl | omega) (Nat.le_of_ble_eq_true rfl) (Nat.le_of_ble_eq_true rfl) (fun r16 s17 => ?_)
        refine s_callSi (M2 := mX12_postureOf) [vI r16] 82 mkX12_postureOf (Or.inl w_1457) dX12_rite_79 rfl rfl (tX12_postureOf Θ l _  _) (by first | exact Nat.le_of_ble_eq_true rfl | omega) (Nat.le_of_ble_eq_true rfl) (Nat.le_of_ble_eq_true rfl) (fun r18 s19 => ?_)
        refine s_iastore 83 aa80 dX12_rite_82 rfl (fun b20 => ?_)
        refine j_aload_n 84 dX12_rite_83 rfl rfl ?_
        refine j_dup 85 dX12_rite_84 rfl rfl ?_
        refine s_getI 88 fa68_19 w_1225 dX12_rite_85 rfl ?_
        refine j_iconst (v := 1) 89 dX12_rite_88 rfl (by decide) ?_
        refine j_iadd 90 dX12_rite_89 rfl ?_
        refine s_putI 93 fa68_19 w_1225 dX12_rite_90 rfl ?_
        refine j_iinc (v := x2 + 1) (ls' := [some (vR 68), some (vI y1), some (vI (x2 + 1))]) 96 dX12_rite_93 rfl rfl rfl (by decide) rfl rfl ?_
        refine j_goto 44 dX12_rite_96 (by decide) ?_
        refine j_sub (ls' := [some (vR 68), some (vI y1), some (vI (x2 + 1))]) (And.intro rfl (And.intro rfl (And.intro rfl trivial))) ?_
        exact ih (x2 + 1) (wI (wI s19 80 (ix (s14.1 68 19)) r18) 68 19 (((wI s19 80 (ix (s14.1 68 19)) r18).1 68 19) + 1))
    · refine j_sub (ls' := [some (vR 68), none, none]) (And.intro rfl trivial) ?_
      exact hκ s
theorem tX12_rite (Θ : Th) (l : Launch)  (a1 : Int32)  (s : Mem) : Cs Θ l mX12_rite 3 gI [vR 68, vI a1] s (fX12_rite a1 s) := by
  refine ct_of (by decide) [some (vR 68), some (vI a1), none] rfl (Nat.le_of_ble_eq_true rfl) ?_
  unfold fX12_rite
  refine j_iload_n 1 dX12_rite_0 rfl rfl ?_
  refine s_callSi (M2 := mX12_isText) [vI a1] 4 mkX12_isText (Or.inl w_1438) dX12_rite_1 rfl rfl (tX12_isText Θ l _  _) (by first | exact Nat.le_of_ble_eq_true rfl | omega) (Nat.le_of_ble_eq_true rfl) (Nat.le_of_ble_eq_true rfl) (fun r1 s2 => ?_)
  refine j_if_ne 9 7 dX12_rite_4 (by decide) rfl (fun c3 => ?_) (fun c3 => ?_)
  · refine j_iconst (v := (-1)) 8 dX12_rite_7 rfl (by decide) ?_
    exact s_iret dX12_rite_8 rfl
  · refine j_aload_n 10 dX12_rite_9 rfl rfl ?_
    refine s_getR (x := 73) 13 fa68_8 w_1214 dX12_rite_10 rfl (by decide +kernel) ?_
    refine j_iload_n 14 dX12_rite_13 rfl rfl ?_
    refine s_iaload 15 aa73 dX12_rite_14 rfl (fun b4 => ?_)
    refine j_if_ge 24 18 dX12_rite_15 (by decide) rfl (fun c5 => ?_) (fun c5 => ?_)
    · refine j_aload_n 19 dX12_rite_18 rfl rfl ?_
      refine j_iconst (v := 1) 20 dX12_rite_19 rfl (by decide) ?_
      refine s_callVi (M2 := mX12_meets) [vI 1] 23 oa68 cc12 mkX12_meets w_1402 dX12_rite_20 rfl rfl (tX12_meets Θ l _  _) (by first | exact Nat.le_of_ble_eq_true rfl | omega) (Nat.le_of_ble_eq_true rfl) (Nat.le_of_ble_eq_true rfl) (fun r6 s7 => ?_)
      exact s_iret dX12_rite_23 rfl
    · refine j_aload_n 25 dX12_rite_24 rfl rfl ?_
      refine j_iload_n 26 dX12_rite_25 rfl rfl ?_
      refine s_callVi (M2 := mX12_riteFault) [vI a1] 29 oa68 cc12 mkX12_riteFault w_1449 dX12_rite_26 rfl rfl (tX12_riteFault Θ l _  _) (by first | exact Nat.le_of_ble_eq_true rfl | omega) (Nat.le_of_ble_eq_true rfl) (Nat.le_of_ble_eq_true rfl) (fun r8 s9 => ?_)
      refine j_bipush (v := (-9)) 31 dX12_rite_29 rfl (by decide) ?_
      refine j_icmp_eq 37 34 dX12_rite_31 (by decide) rfl (fun c10 => ?_) (fun c10 => ?_)
      · refine j_aload_n 38 dX12_rite_37 rfl rfl ?_
        refine j_iconst (v := 0) 39 dX12_rite_38 rfl (by decide) ?_
        refine s_putI 42 fa68_19 w_1225 dX12_rite_39 rfl ?_
        refine j_iconst (v := 0) 43 dX12_rite_42 rfl (by decide) ?_
        refine j_istore_n (i := 2) (ls' := [some (vR 68), some (vI a1), some (vI 0)]) 44 dX12_rite_43 rfl rfl (by decide) rfl rfl ?_
        refine j_sub (ls' := [some (vR 68), some (vI a1), some (vI 0)]) (And.intro rfl (And.intro rfl (And.intro rfl trivial))) ?_
        refine tX12_rite_L44 Θ l _ _  ?_ _ _ _
        intro s21
        refine j_aload_n 100 dX12_rite_99 rfl rfl ?_
        refine s_getI 103 fa68_19 w_1225 dX12_rite_100 rfl ?_
        exact s_iret dX12_rite_103 rfl
      · refine j_bipush (v := (-4)) 36 dX12_rite_34 rfl (by decide) ?_
        exact s_iret dX12_rite_36 rfl
-- X12_isBench
def fX12_isBench  (a1 : Int32) (s : Mem) : Option (Int32 × Mem) :=
bnd (fX12_in a1 0 ((s.1 68 10) - 1) s) (fun r1 s2 =>
if r1 = 0 ∨ r1 = 1 then some (r1, s2) else none)
theorem tX12_isBench (Θ : Th) (l : Launch)  (a1 : Int32)  (s : Mem) : Cs Θ l mX12_isBench 2 gI [vR 68, vI a1] s (fX12_isBench a1 s) := by
  refine ct_of (by decide) [some (vR 68), some (vI a1)] rfl (Nat.le_of_ble_eq_true rfl) ?_
  unfold fX12_isBench
  refine j_iload_n 1 dX12_isBench_0 rfl rfl ?_
  refine j_iconst (v := 0) 2 dX12_isBench_1 rfl (by decide) ?_
  refine j_aload_n 3 dX12_isBench_2 rfl rfl ?_
  refine s_getI 6 fa68_10 w_1216 dX12_isBench_3 rfl ?_
  refine j_iconst (v := 1) 7 dX12_isBench_6 rfl (by decide) ?_
  refine j_isub 8 dX12_isBench_7 rfl ?_
  refine s_callSi (M2 := mX12_in) [vI a1, vI 0, vI ((s.1 68 10) - 1)] 11 mkX12_in (Or.inl w_1380) dX12_isBench_8 rfl rfl (tX12_in Θ l _ _ _  _) (by first | exact Nat.le_of_ble_eq_true rfl | omega) (Nat.le_of_ble_eq_true rfl) (Nat.le_of_ble_eq_true rfl) (fun r1 s2 => ?_)
  exact s_zretG dX12_isBench_11 rfl
-- X12_takenOn
def fX12_takenOn_L4  (κ : Int32 → Mem → Option (Int32 × Mem)) (y1 : Int32) : Nat → Int32 → Int32 → Mem → Option (Int32 × Mem)
  | 0, _, _, _ => none
  | k + 1, x2, x3, s =>
    if x3 < (s.1 68 12) then
      if inb x3 8 = true then
      if (s.1 79 (ix x3)) = y1 then
        if inb x3 7 = true then
        if (s.1 76 (ix x3)) = 3 then
          nm (x2 + 0) (fun v6 =>
          fX12_takenOn_L4 κ y1 k v6 (x3 + 1) s)
        else
          nm (x2 + 1) (fun v7 =>
          fX12_takenOn_L4 κ y1 k v7 (x3 + 1) s)
        else none
      else
        nm (x2 + 0) (fun v8 =>
        fX12_takenOn_L4 κ y1 k v8 (x3 + 1) s)
      else none
    else
      κ x2 s
def fX12_takenOn  (a1 : Int32) (s : Mem) : Option (Int32 × Mem) :=
fX12_takenOn_L4 (fun v9 s10 =>
  some (v9, s10)) a1 FU 0 0 s
theorem tX12_takenOn_L4 (Θ : Th) (l : Launch)  (κ : Int32 → Mem → Option (Int32 × Mem)) (y1 : Int32)  (hκ : ∀ (x2 : Int32) (s : Mem), Js Θ l mX12_takenOn 1 gI 46 [none, none, some (vI x2), none] [] s (κ x2 s)) : ∀ (k : Nat) (x2 : Int32) (x3 : Int32) (s : Mem), Js Θ l mX12_takenOn 1 gI 4 [some (vR 68), some (vI y1), some (vI x2), some (vI x3)] [] s (fX12_takenOn_L4 κ y1 k x2 x3 s) := by
  intro k
  induction k with
  | zero => intro x2 x3 s; exact j_none
  | succ k ih =>
    intro x2 x3 s
    rw [fX12_takenOn_L4]
    refine j_iload_n 5 dX12_takenOn_4 rfl rfl ?_
    refine j_aload_n 6 dX12_takenOn_5 rfl rfl ?_
    refine s_getI 9 fa68_12 w_1218 dX12_takenOn_6 rfl ?_
    refine j_icmp_ge 46 12 dX12_takenOn_9 (by decide) rfl (fun c1 => ?_) (fun c1 => ?_)
    · refine j_iload_n 13 dX12_takenOn_12 rfl rfl ?_
      refine j_aload_n 14 dX12_takenOn_13 rfl rfl ?_
      refine s_getR (x := 79) 17 fa68_16 w_1222 dX12_takenOn_14 rfl (by decide +kernel) ?_
      refine j_iload_n 18 dX12_takenOn_17 rfl rfl ?_
      refine s_iaload 19 aa79 dX12_takenOn_18 rfl (fun b2 => ?_)
      refine j_iload_n 20 dX12_takenOn_19 rfl rfl ?_
      refine j_icmp_ne 37 23 dX12_takenOn_20 (by decide) rfl (fun c3 => ?_) (fun c3 => ?_)
      · refine j_aload_n 24 dX12_takenOn_23 rfl rfl ?_
        refine s_getR (x := 76) 27 fa68_13 w_1219 dX12_takenOn_24 rfl (by decide +kernel) ?_
        refine j_iload_n 28 dX12_takenOn_27 rfl rfl ?_
        refine s_iaload 29 aa76 dX12_takenOn_28 rfl (fun b4 => ?_)
        refine j_iconst (v := 3) 30 dX12_takenOn_29 rfl (by decide) ?_
        refine j_icmp_eq 37 33 dX12_takenOn_30 (by decide) rfl (fun c5 => ?_) (fun c5 => ?_)
        · refine j_iconst (v := 0) 38 dX12_takenOn_37 rfl (by decide) ?_
          refine j_iadd 39 dX12_takenOn_38 rfl ?_
          refine s_nmI (fun v6 => ?_)
          refine j_istore_n (i := 2) (ls' := [some (vR 68), some (vI y1), some (vI v6), some (vI x3)]) 40 dX12_takenOn_39 rfl rfl (by decide) rfl rfl ?_
          refine j_iinc (v := x3 + 1) (ls' := [some (vR 68), some (vI y1), some (vI v6), some (vI (x3 + 1))]) 43 dX12_takenOn_40 rfl rfl rfl (by decide) rfl rfl ?_
          refine j_goto 4 dX12_takenOn_43 (by decide) ?_
          refine j_sub (ls' := [some (vR 68), some (vI y1), some (vI v6), some (vI (x3 + 1))]) (And.intro rfl (And.intro rfl (And.intro rfl (And.intro rfl trivial)))) ?_
          exact ih v6 (x3 + 1) s
        · refine j_iconst (v := 1) 34 dX12_takenOn_33 rfl (by decide) ?_
          refine j_goto 38 dX12_takenOn_34 (by decide) ?_
          refine j_iadd 39 dX12_takenOn_38 rfl ?_
          refine s_nmI (fun v7 => ?_)
          refine j_istore_n (i := 2) (ls' := [some (vR 68), some (vI y1), some (vI v7), some (vI x3)]) 40 dX12_takenOn_39 rfl rfl (by decide) rfl rfl ?_
          refine j_iinc (v := x3 + 1) (ls' := [some (vR 68), some (vI y1), some (vI v7), some (vI (x3 + 1))]) 43 dX12_takenOn_40 rfl rfl rfl (by decide) rfl rfl ?_
          refine j_goto 4 dX12_takenOn_43 (by decide) ?_
          refine j_sub (ls' := [some (vR 68), some (vI y1), some (vI v7), some (vI (x3 + 1))]) (And.intro rfl (And.intro rfl (And.intro rfl (And.intro rfl trivial)))) ?_
          exact ih v7 (x3 + 1) s
      · refine j_iconst (v := 0) 38 dX12_takenOn_37 rfl (by decide) ?_
        refine j_iadd 39 dX12_takenOn_38 rfl ?_
        refine s_nmI (fun v8 => ?_)
        refine j_istore_n (i := 2) (ls' := [some (vR 68), some (vI y1), some (vI v8), some (vI x3)]) 40 dX12_takenOn_39 rfl rfl (by decide) rfl rfl ?_
        refine j_iinc (v := x3 + 1) (ls' := [some (vR 68), some (vI y1), some (vI v8), some (vI (x3 + 1))]) 43 dX12_takenOn_40 rfl rfl rfl (by decide) rfl rfl ?_
        refine j_goto 4 dX12_takenOn_43 (by decide) ?_
        refine j_sub (ls' := [some (vR 68), some (vI y1), some (vI v8), some (vI (x3 + 1))]) (And.intro rfl (And.intro rfl (And.intro rfl (And.intro rfl trivial)))) ?_
        exact ih v8 (x3 + 1) s
    · refine j_sub (ls' := [none, none, some (vI x2), none]) (And.intro rfl trivial) ?_
      exact hκ x2 s
theorem tX12_takenOn (Θ : Th) (l : Launch)  (a1 : Int32)  (s : Mem) : Cs Θ l mX12_takenOn 1 gI [vR 68, vI a1] s (fX12_takenOn a1 s) := by
  refine ct_of (by decide) [some (vR 68), some (vI a1), none, none] rfl (Nat.le_of_ble_eq_true rfl) ?_
  unfold fX12_takenOn
  refine j_iconst (v := 0) 1 dX12_takenOn_0 rfl (by decide) ?_
  refine j_istore_n (i := 2) (ls' := [some (vR 68), some (vI a1), some (vI 0), none]) 2 dX12_takenOn_1 rfl rfl (by decide) rfl rfl ?_
  refine j_iconst (v := 0) 3 dX12_takenOn_2 rfl (by decide) ?_
  refine j_istore_n (i := 3) (ls' := [some (vR 68), some (vI a1), some (vI 0), some (vI 0)]) 4 dX12_takenOn_3 rfl rfl (by decide) rfl rfl ?_
  refine j_sub (ls' := [some (vR 68), some (vI a1), some (vI 0), some (vI 0)]) (And.intro rfl (And.intro rfl (And.intro rfl (And.intro rfl trivial)))) ?_
  refine tX12_takenOn_L4 Θ l _ _  ?_ _ _ _ _
  intro v9 s10
  refine j_iload_n 47 dX12_takenOn_46 rfl rfl ?_
  exact s_iret dX12_takenOn_47 rfl
-- X12_weighs
def fX12_weighs  (a1 : Int32) (s : Mem) : Option (Int32 × Mem) :=
if inb a1 7 = true then
if (s.1 76 (ix a1)) = 2 then
  if inb a1 7 = true then
  some (2 * (s.1 77 (ix a1)), s)
  else none
else
  if inb a1 7 = true then
  if (s.1 76 (ix a1)) = 5 then
    if inb a1 7 = true then
    some (2 * (s.1 77 (ix a1)), s)
    else none
  else
    if inb a1 7 = true then
    some (s.1 77 (ix a1), s)
    else none
  else none
else none
theorem tX12_weighs (Θ : Th) (l : Launch)  (a1 : Int32)  (s : Mem) : Cs Θ l mX12_weighs 1 gI [vR 68, vI a1] s (fX12_weighs a1 s) := by
  refine ct_of (by decide) [some (vR 68), some (vI a1)] rfl (Nat.le_of_ble_eq_true rfl) ?_
  unfold fX12_weighs
  refine j_aload_n 1 dX12_weighs_0 rfl rfl ?_
  refine s_getR (x := 76) 4 fa68_13 w_1219 dX12_weighs_1 rfl (by decide +kernel) ?_
  refine j_iload_n 5 dX12_weighs_4 rfl rfl ?_
  refine s_iaload 6 aa76 dX12_weighs_5 rfl (fun b1 => ?_)
  refine j_iconst (v := 2) 7 dX12_weighs_6 rfl (by decide) ?_
  refine j_icmp_eq 20 10 dX12_weighs_7 (by decide) rfl (fun c2 => ?_) (fun c2 => ?_)
  · refine j_iconst (v := 2) 21 dX12_weighs_20 rfl (by decide) ?_
    refine j_aload_n 22 dX12_weighs_21 rfl rfl ?_
    refine s_getR (x := 77) 25 fa68_14 w_1220 dX12_weighs_22 rfl (by decide +kernel) ?_
    refine j_iload_n 26 dX12_weighs_25 rfl rfl ?_
    refine s_iaload 27 aa77 dX12_weighs_26 rfl (fun b3 => ?_)
    refine j_imul 28 dX12_weighs_27 rfl ?_
    refine j_goto 37 dX12_weighs_28 (by decide) ?_
    exact s_iret dX12_weighs_37 rfl
  · refine j_aload_n 11 dX12_weighs_10 rfl rfl ?_
    refine s_getR (x := 76) 14 fa68_13 w_1219 dX12_weighs_11 rfl (by decide +kernel) ?_
    refine j_iload_n 15 dX12_weighs_14 rfl rfl ?_
    refine s_iaload 16 aa76 dX12_weighs_15 rfl (fun b4 => ?_)
    refine j_iconst (v := 5) 17 dX12_weighs_16 rfl (by decide) ?_
    refine j_icmp_ne 31 20 dX12_weighs_17 (by decide) rfl (fun c5 => ?_) (fun c5 => ?_)
    · refine j_iconst (v := 2) 21 dX12_weighs_20 rfl (by decide) ?_
      refine j_aload_n 22 dX12_weighs_21 rfl rfl ?_
      refine s_getR (x := 77) 25 fa68_14 w_1220 dX12_weighs_22 rfl (by decide +kernel) ?_
      refine j_iload_n 26 dX12_weighs_25 rfl rfl ?_
      refine s_iaload 27 aa77 dX12_weighs_26 rfl (fun b6 => ?_)
      refine j_imul 28 dX12_weighs_27 rfl ?_
      refine j_goto 37 dX12_weighs_28 (by decide) ?_
      exact s_iret dX12_weighs_37 rfl
    · refine j_aload_n 32 dX12_weighs_31 rfl rfl ?_
      refine s_getR (x := 77) 35 fa68_14 w_1220 dX12_weighs_32 rfl (by decide +kernel) ?_
      refine j_iload_n 36 dX12_weighs_35 rfl rfl ?_
      refine s_iaload 37 aa77 dX12_weighs_36 rfl (fun b7 => ?_)
      exact s_iret dX12_weighs_37 rfl
-- X12_weightOn
def fX12_weightOn_L4  (κ : Int32 → Mem → Option (Int32 × Mem)) (y1 : Int32) : Nat → Int32 → Int32 → Mem → Option (Int32 × Mem)
  | 0, _, _, _ => none
  | k + 1, x2, x3, s =>
    if x3 < (s.1 68 12) then
      if inb x3 8 = true then
      if (s.1 79 (ix x3)) = y1 then
        bnd (fX12_weighs x3 s) (fun r4 s5 =>
        nm (x2 + r4) (fun v6 =>
        fX12_weightOn_L4 κ y1 k v6 (x3 + 1) s5))
      else
        nm (x2 + 0) (fun v7 =>
        fX12_weightOn_L4 κ y1 k v7 (x3 + 1) s)
      else none
    else
      κ x2 s
def fX12_weightOn  (a1 : Int32) (s : Mem) : Option (Int32 × Mem) :=
fX12_weightOn_L4 (fun v8 s9 =>
  some (v8, s9)) a1 FU 0 0 s
theorem tX12_weightOn_L4 (Θ : Th) (l : Launch)  (κ : Int32 → Mem → Option (Int32 × Mem)) (y1 : Int32)  (hκ : ∀ (x2 : Int32) (s : Mem), Js Θ l mX12_weightOn 2 gI 40 [none, none, some (vI x2), none] [] s (κ x2 s)) : ∀ (k : Nat) (x2 : Int32) (x3 : Int32) (s : Mem), Js Θ l mX12_weightOn 2 gI 4 [some (vR 68), some (vI y1), some (vI x2), some (vI x3)] [] s (fX12_weightOn_L4 κ y1 k x2 x3 s) := by
  intro k
  induction k with
  | zero => intro x2 x3 s; exact j_none
  | succ k ih =>
    intro x2 x3 s
    rw [fX12_weightOn_L4]
    refine j_iload_n 5 dX12_weightOn_4 rfl rfl ?_
    refine j_aload_n 6 dX12_weightOn_5 rfl rfl ?_
    refine s_getI 9 fa68_12 w_1218 dX12_weightOn_6 rfl ?_
    refine j_icmp_ge 40 12 dX12_weightOn_9 (by decide) rfl (fun c1 => ?_) (fun c1 => ?_)
    · refine j_iload_n 13 dX12_weightOn_12 rfl rfl ?_
      refine j_aload_n 14 dX12_weightOn_13 rfl rfl ?_
      refine s_getR (x := 79) 17 fa68_16 w_1222 dX12_weightOn_14 rfl (by decide +kernel) ?_
      refine j_iload_n 18 dX12_weightOn_17 rfl rfl ?_
      refine s_iaload 19 aa79 dX12_weightOn_18 rfl (fun b2 => ?_)
      refine j_iload_n 20 dX12_weightOn_19 rfl rfl ?_
      refine j_icmp_ne 31 23 dX12_weightOn_20 (by decide) rfl (fun c3 => ?_) (fun c3 => ?_)
      · refine j_aload_n 24 dX12_weightOn_23 rfl rfl ?_
        refine j_iload_n 25 dX12_weightOn_24 rfl rfl ?_
        refine s_callVi (M2 := mX12_weighs) [vI x3] 28 oa68 cc12 mkX12_weighs w_1507 dX12_weightOn_25 rfl rfl (tX12_weighs Θ l _  _) (by first | exact Nat.le_of_ble_eq_true rfl | omega) (Nat.le_of_ble_eq_true rfl) (Nat.le_of_ble_eq_true rfl) (fun r4 s5 => ?_)
        refine j_goto 32 dX12_weightOn_28 (by decide) ?_
        refine j_iadd 33 dX12_weightOn_32 rfl ?_
        refine s_nmI (fun v6 => ?_)
        refine j_istore_n (i := 2) (ls' := [some (vR 68), some (vI y1), some (vI v6), some (vI x3)]) 34 dX12_weightOn_33 rfl rfl (by decide) rfl rfl ?_
        refine j_iinc (v := x3 + 1) (ls' := [some (vR 68), some (vI y1), some (vI v6), some (vI (x3 + 1))]) 37 dX12_weightOn_34 rfl rfl rfl (by decide) rfl rfl ?_
        refine j_goto 4 dX12_weightOn_37 (by decide) ?_
        refine j_sub (ls' := [some (vR 68), some (vI y1), some (vI v6), some (vI (x3 + 1))]) (And.intro rfl (And.intro rfl (And.intro rfl (And.intro rfl trivial)))) ?_
        exact ih v6 (x3 + 1) s5
      · refine j_iconst (v := 0) 32 dX12_weightOn_31 rfl (by decide) ?_
        refine j_iadd 33 dX12_weightOn_32 rfl ?_
        refine s_nmI (fun v7 => ?_)
        refine j_istore_n (i := 2) (ls' := [some (vR 68), some (vI y1), some (vI v7), some (vI x3)]) 34 dX12_weightOn_33 rfl rfl (by decide) rfl rfl ?_
        refine j_iinc (v := x3 + 1) (ls' := [some (vR 68), some (vI y1), some (vI v7), some (vI (x3 + 1))]) 37 dX12_weightOn_34 rfl rfl rfl (by decide) rfl rfl ?_
        refine j_goto 4 dX12_weightOn_37 (by decide) ?_
        refine j_sub (ls' := [some (vR 68), some (vI y1), some (vI v7), some (vI (x3 + 1))]) (And.intro rfl (And.intro rfl (And.intro rfl (And.intro rfl trivial)))) ?_
        exact ih v7 (x3 + 1) s
    · refine j_sub (ls' := [none, none, some (vI x2), none]) (And.intro rfl trivial) ?_
      exact hκ x2 s
theorem tX12_weightOn (Θ : Th) (l : Launch)  (a1 : Int32)  (s : Mem) : Cs Θ l mX12_weightOn 2 gI [vR 68, vI a1] s (fX12_weightOn a1 s) := by
  refine ct_of (by decide) [some (vR 68), some (vI a1), none, none] rfl (Nat.le_of_ble_eq_true rfl) ?_
  unfold fX12_weightOn
  refine j_iconst (v := 0) 1 dX12_weightOn_0 rfl (by decide) ?_
  refine j_istore_n (i := 2) (ls' := [some (vR 68), some (vI a1), some (vI 0), none]) 2 dX12_weightOn_1 rfl rfl (by decide) rfl rfl ?_
  refine j_iconst (v := 0) 3 dX12_weightOn_2 rfl (by decide) ?_
  refine j_istore_n (i := 3) (ls' := [some (vR 68), some (vI a1), some (vI 0), some (vI 0)]) 4 dX12_weightOn_3 rfl rfl (by decide) rfl rfl ?_
  refine j_sub (ls' := [some (vR 68), some (vI a1), some (vI 0), some (vI 0)]) (And.intro rfl (And.intro rfl (And.intro rfl (And.intro rfl trivial)))) ?_
  refine tX12_weightOn_L4 Θ l _ _  ?_ _ _ _ _
  intro v8 s9
  refine j_iload_n 41 dX12_weightOn_40 rfl rfl ?_
  exact s_iret dX12_weightOn_41 rfl
-- X12_setOn
def fX12_setOn_L4  (κ : Int32 → Mem → Option (Int32 × Mem)) (y1 : Int32) : Nat → Int32 → Int32 → Mem → Option (Int32 × Mem)
  | 0, _, _, _ => none
  | k + 1, x2, x3, s =>
    if x3 < (s.1 68 12) then
      if inb x3 8 = true then
      if (s.1 79 (ix x3)) = y1 then
        nm (x2 ||| ((1 : Int32) <<< (x3 &&& 31))) (fun v4 =>
        fX12_setOn_L4 κ y1 k v4 (x3 + 1) s)
      else
        nm (x2 ||| 0) (fun v5 =>
        fX12_setOn_L4 κ y1 k v5 (x3 + 1) s)
      else none
    else
      κ x2 s
def fX12_setOn  (a1 : Int32) (s : Mem) : Option (Int32 × Mem) :=
fX12_setOn_L4 (fun v6 s7 =>
  some (v6, s7)) a1 FU 0 0 s
theorem tX12_setOn_L4 (Θ : Th) (l : Launch)  (κ : Int32 → Mem → Option (Int32 × Mem)) (y1 : Int32)  (hκ : ∀ (x2 : Int32) (s : Mem), Js Θ l mX12_setOn 1 gI 38 [none, none, some (vI x2), none] [] s (κ x2 s)) : ∀ (k : Nat) (x2 : Int32) (x3 : Int32) (s : Mem), Js Θ l mX12_setOn 1 gI 4 [some (vR 68), some (vI y1), some (vI x2), some (vI x3)] [] s (fX12_setOn_L4 κ y1 k x2 x3 s) := by
  intro k
  induction k with
  | zero => intro x2 x3 s; exact j_none
  | succ k ih =>
    intro x2 x3 s
    rw [fX12_setOn_L4]
    refine j_iload_n 5 dX12_setOn_4 rfl rfl ?_
    refine j_aload_n 6 dX12_setOn_5 rfl rfl ?_
    refine s_getI 9 fa68_12 w_1218 dX12_setOn_6 rfl ?_
    refine j_icmp_ge 38 12 dX12_setOn_9 (by decide) rfl (fun c1 => ?_) (fun c1 => ?_)
    · refine j_iload_n 13 dX12_setOn_12 rfl rfl ?_
      refine j_aload_n 14 dX12_setOn_13 rfl rfl ?_
      refine s_getR (x := 79) 17 fa68_16 w_1222 dX12_setOn_14 rfl (by decide +kernel) ?_
      refine j_iload_n 18 dX12_setOn_17 rfl rfl ?_
      refine s_iaload 19 aa79 dX12_setOn_18 rfl (fun b2 => ?_)
      refine j_iload_n 20 dX12_setOn_19 rfl rfl ?_
      refine j_icmp_ne 29 23 dX12_setOn_20 (by decide) rfl (fun c3 => ?_) (fun c3 => ?_)
      · refine j_iconst (v := 1) 24 dX12_setOn_23 rfl (by decide) ?_
        refine j_iload_n 25 dX12_setOn_24 rfl rfl ?_
        refine j_ishl 26 dX12_setOn_25 rfl ?_
        refine j_goto 30 dX12_setOn_26 (by decide) ?_
        refine j_ior 31 dX12_setOn_30 rfl ?_
        refine s_nmI (fun v4 => ?_)
        refine j_istore_n (i := 2) (ls' := [some (vR 68), some (vI y1), some (vI v4), some (vI x3)]) 32 dX12_setOn_31 rfl rfl (by decide) rfl rfl ?_
        refine j_iinc (v := x3 + 1) (ls' := [some (vR 68), some (vI y1), some (vI v4), some (vI (x3 + 1))]) 35 dX12_setOn_32 rfl rfl rfl (by decide) rfl rfl ?_
        refine j_goto 4 dX12_setOn_35 (by decide) ?_
        refine j_sub (ls' := [some (vR 68), some (vI y1), some (vI v4), some (vI (x3 + 1))]) (And.intro rfl (And.intro rfl (And.intro rfl (And.intro rfl trivial)))) ?_
        exact ih v4 (x3 + 1) s
      · refine j_iconst (v := 0) 30 dX12_setOn_29 rfl (by decide) ?_
        refine j_ior 31 dX12_setOn_30 rfl ?_
        refine s_nmI (fun v5 => ?_)
        refine j_istore_n (i := 2) (ls' := [some (vR 68), some (vI y1), some (vI v5), some (vI x3)]) 32 dX12_setOn_31 rfl rfl (by decide) rfl rfl ?_
        refine j_iinc (v := x3 + 1) (ls' := [some (vR 68), some (vI y1), some (vI v5), some (vI (x3 + 1))]) 35 dX12_setOn_32 rfl rfl rfl (by decide) rfl rfl ?_
        refine j_goto 4 dX12_setOn_35 (by decide) ?_
        refine j_sub (ls' := [some (vR 68), some (vI y1), some (vI v5), some (vI (x3 + 1))]) (And.intro rfl (And.intro rfl (And.intro rfl (And.intro rfl trivial)))) ?_
        exact ih v5 (x3 + 1) s
    · refine j_sub (ls' := [none, none, some (vI x2), none]) (And.intro rfl trivial) ?_
      exact hκ x2 s
theorem tX12_setOn (Θ : Th) (l : Launch)  (a1 : Int32)  (s : Mem) : Cs Θ l mX12_setOn 1 gI [vR 68, vI a1] s (fX12_setOn a1 s) := by
  refine ct_of (by decide) [some (vR 68), some (vI a1), none, none] rfl (Nat.le_of_ble_eq_true rfl) ?_
  unfold fX12_setOn
  refine j_iconst (v := 0) 1 dX12_setOn_0 rfl (by decide) ?_
  refine j_istore_n (i := 2) (ls' := [some (vR 68), some (vI a1), some (vI 0), none]) 2 dX12_setOn_1 rfl rfl (by decide) rfl rfl ?_
  refine j_iconst (v := 0) 3 dX12_setOn_2 rfl (by decide) ?_
  refine j_istore_n (i := 3) (ls' := [some (vR 68), some (vI a1), some (vI 0), some (vI 0)]) 4 dX12_setOn_3 rfl rfl (by decide) rfl rfl ?_
  refine j_sub (ls' := [some (vR 68), some (vI a1), some (vI 0), some (vI 0)]) (And.intro rfl (And.intro rfl (And.intro rfl (And.intro rfl trivial)))) ?_
  refine tX12_setOn_L4 Θ l _ _  ?_ _ _ _ _
  intro v6 s7
  refine j_iload_n 39 dX12_setOn_38 rfl rfl ?_
  exact s_iret dX12_setOn_39 rfl
-- X12_benchTells
def fX12_benchTells  (a1 : Int32) (a2 : Int32) (s : Mem) : Option (Int32 × Mem) :=
if a2 = 0 then
  if inb a1 8 = true then
  some (s.1 75 (ix a1), s)
  else none
else
  if a2 = 1 then
    bnd (fX12_takenOn a1 s) (fun r4 s5 =>
    some (r4, s5))
  else
    if a2 = 2 then
      bnd (fX12_weightOn a1 s) (fun r7 s8 =>
      some (r7, s8))
    else
      bnd (fX12_setOn a1 s) (fun r9 s10 =>
      some (r9, s10))
theorem tX12_benchTells (Θ : Th) (l : Launch)  (a1 : Int32) (a2 : Int32)  (s : Mem) : Cs Θ l mX12_benchTells 3 gI [vR 68, vI a1, vI a2] s (fX12_benchTells a1 a2 s) := by
  refine ct_of (by decide) [some (vR 68), some (vI a1), some (vI a2)] rfl (Nat.le_of_ble_eq_true rfl) ?_
  unfold fX12_benchTells
  refine j_iload_n 1 dX12_benchTells_0 rfl rfl ?_
  refine j_if_ne 13 4 dX12_benchTells_1 (by decide) rfl (fun c1 => ?_) (fun c1 => ?_)
  · refine j_aload_n 5 dX12_benchTells_4 rfl rfl ?_
    refine s_getR (x := 75) 8 fa68_11 w_1217 dX12_benchTells_5 rfl (by decide +kernel) ?_
    refine j_iload_n 9 dX12_benchTells_8 rfl rfl ?_
    refine s_iaload 10 aa75 dX12_benchTells_9 rfl (fun b2 => ?_)
    refine j_goto 44 dX12_benchTells_10 (by decide) ?_
    exact s_iret dX12_benchTells_44 rfl
  · refine j_iload_n 14 dX12_benchTells_13 rfl rfl ?_
    refine j_iconst (v := 1) 15 dX12_benchTells_14 rfl (by decide) ?_
    refine j_icmp_ne 26 18 dX12_benchTells_15 (by decide) rfl (fun c3 => ?_) (fun c3 => ?_)
    · refine j_aload_n 19 dX12_benchTells_18 rfl rfl ?_
      refine j_iload_n 20 dX12_benchTells_19 rfl rfl ?_
      refine s_callVi (M2 := mX12_takenOn) [vI a1] 23 oa68 cc12 mkX12_takenOn w_1499 dX12_benchTells_20 rfl rfl (tX12_takenOn Θ l _  _) (by first | exact Nat.le_of_ble_eq_true rfl | omega) (Nat.le_of_ble_eq_true rfl) (Nat.le_of_ble_eq_true rfl) (fun r4 s5 => ?_)
      refine j_goto 44 dX12_benchTells_23 (by decide) ?_
      exact s_iret dX12_benchTells_44 rfl
    · refine j_iload_n 27 dX12_benchTells_26 rfl rfl ?_
      refine j_iconst (v := 2) 28 dX12_benchTells_27 rfl (by decide) ?_
      refine j_icmp_ne 39 31 dX12_benchTells_28 (by decide) rfl (fun c6 => ?_) (fun c6 => ?_)
      · refine j_aload_n 32 dX12_benchTells_31 rfl rfl ?_
        refine j_iload_n 33 dX12_benchTells_32 rfl rfl ?_
        refine s_callVi (M2 := mX12_weightOn) [vI a1] 36 oa68 cc12 mkX12_weightOn w_1503 dX12_benchTells_33 rfl rfl (tX12_weightOn Θ l _  _) (by first | exact Nat.le_of_ble_eq_true rfl | omega) (Nat.le_of_ble_eq_true rfl) (Nat.le_of_ble_eq_true rfl) (fun r7 s8 => ?_)
        refine j_goto 44 dX12_benchTells_36 (by decide) ?_
        exact s_iret dX12_benchTells_44 rfl
      · refine j_aload_n 40 dX12_benchTells_39 rfl rfl ?_
        refine j_iload_n 41 dX12_benchTells_40 rfl rfl ?_
        refine s_callVi (M2 := mX12_setOn) [vI a1] 44 oa68 cc12 mkX12_setOn w_1511 dX12_benchTells_41 rfl rfl (tX12_setOn Θ l _  _) (by first | exact Nat.le_of_ble_eq_true rfl | omega) (Nat.le_of_ble_eq_true rfl) (Nat.le_of_ble_eq_true rfl) (fun r9 s10 => ?_)
        exact s_iret dX12_benchTells_44 rfl
-- X12_bench
def fX12_bench  (a1 : Int32) (a2 : Int32) (s : Mem) : Option (Int32 × Mem) :=
bnd (fX12_isBench a1 s) (fun r1 s2 =>
if r1 = 0 then
  some ((-1), s2)
else
  bnd (fX12_in a2 0 3 s2) (fun r4 s5 =>
  if r4 = 0 then
    some ((-1), s5)
  else
    bnd (fX12_benchTells a1 a2 s5) (fun r7 s8 =>
    bnd (fX12_tells r7 1 s8) (fun r9 s10 =>
    some (r9, s10)))))
theorem tX12_bench (Θ : Th) (l : Launch)  (a1 : Int32) (a2 : Int32)  (s : Mem) : Cs Θ l mX12_bench 4 gI [vR 68, vI a1, vI a2] s (fX12_bench a1 a2 s) := by
  refine ct_of (by decide) [some (vR 68), some (vI a1), some (vI a2)] rfl (Nat.le_of_ble_eq_true rfl) ?_
  unfold fX12_bench
  refine j_aload_n 1 dX12_bench_0 rfl rfl ?_
  refine j_iload_n 2 dX12_bench_1 rfl rfl ?_
  refine s_callVi (M2 := mX12_isBench) [vI a1] 5 oa68 cc12 mkX12_isBench w_1491 dX12_bench_2 rfl rfl (tX12_isBench Θ l _  _) (by first | exact Nat.le_of_ble_eq_true rfl | omega) (Nat.le_of_ble_eq_true rfl) (Nat.le_of_ble_eq_true rfl) (fun r1 s2 => ?_)
  refine j_if_eq 31 8 dX12_bench_5 (by decide) rfl (fun c3 => ?_) (fun c3 => ?_)
  · refine j_iconst (v := (-1)) 32 dX12_bench_31 rfl (by decide) ?_
    exact s_iret dX12_bench_32 rfl
  · refine j_iload_n 9 dX12_bench_8 rfl rfl ?_
    refine j_iconst (v := 0) 10 dX12_bench_9 rfl (by decide) ?_
    refine j_iconst (v := 3) 11 dX12_bench_10 rfl (by decide) ?_
    refine s_callSi (M2 := mX12_in) [vI a2, vI 0, vI 3] 14 mkX12_in (Or.inl w_1380) dX12_bench_11 rfl rfl (tX12_in Θ l _ _ _  _) (by first | exact Nat.le_of_ble_eq_true rfl | omega) (Nat.le_of_ble_eq_true rfl) (Nat.le_of_ble_eq_true rfl) (fun r4 s5 => ?_)
    refine j_if_eq 31 17 dX12_bench_14 (by decide) rfl (fun c6 => ?_) (fun c6 => ?_)
    · refine j_iconst (v := (-1)) 32 dX12_bench_31 rfl (by decide) ?_
      exact s_iret dX12_bench_32 rfl
    · refine j_aload_n 18 dX12_bench_17 rfl rfl ?_
      refine j_aload_n 19 dX12_bench_18 rfl rfl ?_
      refine j_iload_n 20 dX12_bench_19 rfl rfl ?_
      refine j_iload_n 21 dX12_bench_20 rfl rfl ?_
      refine s_callVi (M2 := mX12_benchTells) [vI a1, vI a2] 24 oa68 cc12 mkX12_benchTells w_1495 dX12_bench_21 rfl rfl (tX12_benchTells Θ l _ _  _) (by first | exact Nat.le_of_ble_eq_true rfl | omega) (Nat.le_of_ble_eq_true rfl) (Nat.le_of_ble_eq_true rfl) (fun r7 s8 => ?_)
      refine j_iconst (v := 1) 25 dX12_bench_24 rfl (by decide) ?_
      refine s_callVi (M2 := mX12_tells) [vI r7, vI 1] 28 oa68 cc12 mkX12_tells w_1414 dX12_bench_25 rfl rfl (tX12_tells Θ l _ _  _) (by first | exact Nat.le_of_ble_eq_true rfl | omega) (Nat.le_of_ble_eq_true rfl) (Nat.le_of_ble_eq_true rfl) (fun r9 s10 => ?_)
      refine j_goto 32 dX12_bench_28 (by decide) ?_
      exact s_iret dX12_bench_32 rfl
-- X12_isGuest
def fX12_isGuest  (a1 : Int32) (s : Mem) : Option (Int32 × Mem) :=
bnd (fX12_in a1 0 ((s.1 68 12) - 1) s) (fun r1 s2 =>
if r1 = 0 ∨ r1 = 1 then some (r1, s2) else none)
theorem tX12_isGuest (Θ : Th) (l : Launch)  (a1 : Int32)  (s : Mem) : Cs Θ l mX12_isGuest 2 gI [vR 68, vI a1] s (fX12_isGuest a1 s) := by
  refine ct_of (by decide) [some (vR 68), some (vI a1)] rfl (Nat.le_of_ble_eq_true rfl) ?_
  unfold fX12_isGuest
  refine j_iload_n 1 dX12_isGuest_0 rfl rfl ?_
  refine j_iconst (v := 0) 2 dX12_isGuest_1 rfl (by decide) ?_
  refine j_aload_n 3 dX12_isGuest_2 rfl rfl ?_
  refine s_getI 6 fa68_12 w_1218 dX12_isGuest_3 rfl ?_
  refine j_iconst (v := 1) 7 dX12_isGuest_6 rfl (by decide) ?_
  refine j_isub 8 dX12_isGuest_7 rfl ?_
  refine s_callSi (M2 := mX12_in) [vI a1, vI 0, vI ((s.1 68 12) - 1)] 11 mkX12_in (Or.inl w_1380) dX12_isGuest_8 rfl rfl (tX12_in Θ l _ _ _  _) (by first | exact Nat.le_of_ble_eq_true rfl | omega) (Nat.le_of_ble_eq_true rfl) (Nat.le_of_ble_eq_true rfl) (fun r1 s2 => ?_)
  exact s_zretG dX12_isGuest_11 rfl
-- X12_guestTells
def fX12_guestTells  (a1 : Int32) (a2 : Int32) (s : Mem) : Option (Int32 × Mem) :=
if a2 = 0 then
  if inb a1 7 = true then
  some (s.1 76 (ix a1), s)
  else none
else if a2 = 1 then
  if inb a1 7 = true then
  some (s.1 77 (ix a1), s)
  else none
else if a2 = 2 then
  if inb a1 7 = true then
  some (s.1 78 (ix a1), s)
  else none
else if a2 = 3 then
  if inb a1 8 = true then
  some (s.1 79 (ix a1), s)
  else none
else 
  bnd (fX12_weighs a1 s) (fun r9 s10 =>
  some (r9, s10))
theorem tX12_guestTells (Θ : Th) (l : Launch)  (a1 : Int32) (a2 : Int32)  (s : Mem) : Cs Θ l mX12_guestTells 2 gI [vR 68, vI a1, vI a2] s (fX12_guestTells a1 a2 s) := by
  refine ct_of (by decide) [some (vR 68), some (vI a1), some (vI a2)] rfl (Nat.le_of_ble_eq_true rfl) ?_
  unfold fX12_guestTells
  refine j_iload_n 1 dX12_guestTells_0 rfl rfl ?_
  refine j_ite (fun c1 => ?_) (fun c1 => ?_)
  · refine j_tabIn (v := 0) 32 dX12_guestTells_1 c1 (by decide) (by decide) rfl (by decide) ?_
    refine j_aload_n 33 dX12_guestTells_32 rfl rfl ?_
    refine s_getR (x := 76) 36 fa68_13 w_1219 dX12_guestTells_33 rfl (by decide +kernel) ?_
    refine j_iload_n 37 dX12_guestTells_36 rfl rfl ?_
    refine s_iaload 38 aa76 dX12_guestTells_37 rfl (fun b2 => ?_)
    exact s_iret dX12_guestTells_38 rfl
  refine j_ite (fun c3 => ?_) (fun c3 => ?_)
  · refine j_tabIn (v := 1) 39 dX12_guestTells_1 c3 (by decide) (by decide) rfl (by decide) ?_
    refine j_aload_n 40 dX12_guestTells_39 rfl rfl ?_
    refine s_getR (x := 77) 43 fa68_14 w_1220 dX12_guestTells_40 rfl (by decide +kernel) ?_
    refine j_iload_n 44 dX12_guestTells_43 rfl rfl ?_
    refine s_iaload 45 aa77 dX12_guestTells_44 rfl (fun b4 => ?_)
    exact s_iret dX12_guestTells_45 rfl
  refine j_ite (fun c5 => ?_) (fun c5 => ?_)
  · refine j_tabIn (v := 2) 46 dX12_guestTells_1 c5 (by decide) (by decide) rfl (by decide) ?_
    refine j_aload_n 47 dX12_guestTells_46 rfl rfl ?_
    refine s_getR (x := 78) 50 fa68_15 w_1221 dX12_guestTells_47 rfl (by decide +kernel) ?_
    refine j_iload_n 51 dX12_guestTells_50 rfl rfl ?_
    refine s_iaload 52 aa78 dX12_guestTells_51 rfl (fun b6 => ?_)
    exact s_iret dX12_guestTells_52 rfl
  refine j_ite (fun c7 => ?_) (fun c7 => ?_)
  · refine j_tabIn (v := 3) 53 dX12_guestTells_1 c7 (by decide) (by decide) rfl (by decide) ?_
    refine j_aload_n 54 dX12_guestTells_53 rfl rfl ?_
    refine s_getR (x := 79) 57 fa68_16 w_1222 dX12_guestTells_54 rfl (by decide +kernel) ?_
    refine j_iload_n 58 dX12_guestTells_57 rfl rfl ?_
    refine s_iaload 59 aa79 dX12_guestTells_58 rfl (fun b8 => ?_)
    exact s_iret dX12_guestTells_59 rfl
  refine j_tabOut 60 dX12_guestTells_1 (by have z0 := lv_neT c1 (a := 0) (by decide); have z1 := lv_neT c3 (a := 1) (by decide); have z2 := lv_neT c5 (a := 2) (by decide); have z3 := lv_neT c7 (a := 3) (by decide); omega) (by decide) ?_
  refine j_aload_n 61 dX12_guestTells_60 rfl rfl ?_
  refine j_iload_n 62 dX12_guestTells_61 rfl rfl ?_
  refine s_callVi (M2 := mX12_weighs) [vI a1] 65 oa68 cc12 mkX12_weighs w_1507 dX12_guestTells_62 rfl rfl (tX12_weighs Θ l _  _) (by first | exact Nat.le_of_ble_eq_true rfl | omega) (Nat.le_of_ble_eq_true rfl) (Nat.le_of_ble_eq_true rfl) (fun r9 s10 => ?_)
  exact s_iret dX12_guestTells_65 rfl
-- X12_guest
def fX12_guest  (a1 : Int32) (a2 : Int32) (s : Mem) : Option (Int32 × Mem) :=
bnd (fX12_isGuest a1 s) (fun r1 s2 =>
if r1 = 0 then
  some ((-1), s2)
else
  bnd (fX12_in a2 0 4 s2) (fun r4 s5 =>
  if r4 = 0 then
    some ((-1), s5)
  else
    bnd (fX12_guestTells a1 a2 s5) (fun r7 s8 =>
    bnd (fX12_tells r7 1 s8) (fun r9 s10 =>
    some (r9, s10)))))
theorem tX12_guest (Θ : Th) (l : Launch)  (a1 : Int32) (a2 : Int32)  (s : Mem) : Cs Θ l mX12_guest 3 gI [vR 68, vI a1, vI a2] s (fX12_guest a1 a2 s) := by
  refine ct_of (by decide) [some (vR 68), some (vI a1), some (vI a2)] rfl (Nat.le_of_ble_eq_true rfl) ?_
  unfold fX12_guest
  refine j_aload_n 1 dX12_guest_0 rfl rfl ?_
  refine j_iload_n 2 dX12_guest_1 rfl rfl ?_
  refine s_callVi (M2 := mX12_isGuest) [vI a1] 5 oa68 cc12 mkX12_isGuest w_1519 dX12_guest_2 rfl rfl (tX12_isGuest Θ l _  _) (by first | exact Nat.le_of_ble_eq_true rfl | omega) (Nat.le_of_ble_eq_true rfl) (Nat.le_of_ble_eq_true rfl) (fun r1 s2 => ?_)
  refine j_if_eq 31 8 dX12_guest_5 (by decide) rfl (fun c3 => ?_) (fun c3 => ?_)
  · refine j_iconst (v := (-1)) 32 dX12_guest_31 rfl (by decide) ?_
    exact s_iret dX12_guest_32 rfl
  · refine j_iload_n 9 dX12_guest_8 rfl rfl ?_
    refine j_iconst (v := 0) 10 dX12_guest_9 rfl (by decide) ?_
    refine j_iconst (v := 4) 11 dX12_guest_10 rfl (by decide) ?_
    refine s_callSi (M2 := mX12_in) [vI a2, vI 0, vI 4] 14 mkX12_in (Or.inl w_1380) dX12_guest_11 rfl rfl (tX12_in Θ l _ _ _  _) (by first | exact Nat.le_of_ble_eq_true rfl | omega) (Nat.le_of_ble_eq_true rfl) (Nat.le_of_ble_eq_true rfl) (fun r4 s5 => ?_)
    refine j_if_eq 31 17 dX12_guest_14 (by decide) rfl (fun c6 => ?_) (fun c6 => ?_)
    · refine j_iconst (v := (-1)) 32 dX12_guest_31 rfl (by decide) ?_
      exact s_iret dX12_guest_32 rfl
    · refine j_aload_n 18 dX12_guest_17 rfl rfl ?_
      refine j_aload_n 19 dX12_guest_18 rfl rfl ?_
      refine j_iload_n 20 dX12_guest_19 rfl rfl ?_
      refine j_iload_n 21 dX12_guest_20 rfl rfl ?_
      refine s_callVi (M2 := mX12_guestTells) [vI a1, vI a2] 24 oa68 cc12 mkX12_guestTells w_1523 dX12_guest_21 rfl rfl (tX12_guestTells Θ l _ _  _) (by first | exact Nat.le_of_ble_eq_true rfl | omega) (Nat.le_of_ble_eq_true rfl) (Nat.le_of_ble_eq_true rfl) (fun r7 s8 => ?_)
      refine j_iconst (v := 1) 25 dX12_guest_24 rfl (by decide) ?_
      refine s_callVi (M2 := mX12_tells) [vI r7, vI 1] 28 oa68 cc12 mkX12_tells w_1414 dX12_guest_25 rfl rfl (tX12_tells Θ l _ _  _) (by first | exact Nat.le_of_ble_eq_true rfl | omega) (Nat.le_of_ble_eq_true rfl) (Nat.le_of_ble_eq_true rfl) (fun r9 s10 => ?_)
      refine j_goto 32 dX12_guest_28 (by decide) ?_
      exact s_iret dX12_guest_32 rfl
-- X12_sizeOf
def fX12_sizeOf  (a0 : Int32) (s : Mem) : Option (Int32 × Mem) :=
if a0 < 0 then
  some (0 - a0, s)
else
  some (a0, s)
theorem tX12_sizeOf (Θ : Th) (l : Launch)  (a0 : Int32)  (s : Mem) : Cs Θ l mX12_sizeOf 1 gI [vI a0] s (fX12_sizeOf a0 s) := by
  refine ct_of (by decide) [some (vI a0)] rfl (Nat.le_of_ble_eq_true rfl) ?_
  unfold fX12_sizeOf
  refine j_iload_n 1 dX12_sizeOf_0 rfl rfl ?_
  refine j_if_ge 9 4 dX12_sizeOf_1 (by decide) rfl (fun c1 => ?_) (fun c1 => ?_)
  · refine j_iload_n 5 dX12_sizeOf_4 rfl rfl ?_
    refine j_ineg 6 dX12_sizeOf_5 rfl ?_
    refine j_goto 10 dX12_sizeOf_6 (by decide) ?_
    exact s_iret dX12_sizeOf_10 rfl
  · refine j_iload_n 10 dX12_sizeOf_9 rfl rfl ?_
    exact s_iret dX12_sizeOf_10 rfl
-- X12_greater
def fX12_greater  (a0 : Int32) (a1 : Int32) (s : Mem) : Option (Int32 × Mem) :=
if a1 < a0 then
  some (a0, s)
else
  some (a1, s)
theorem tX12_greater (Θ : Th) (l : Launch)  (a0 : Int32) (a1 : Int32)  (s : Mem) : Cs Θ l mX12_greater 1 gI [vI a0, vI a1] s (fX12_greater a0 a1 s) := by
  refine ct_of (by decide) [some (vI a0), some (vI a1)] rfl (Nat.le_of_ble_eq_true rfl) ?_
  unfold fX12_greater
  refine j_iload_n 1 dX12_greater_0 rfl rfl ?_
  refine j_iload_n 2 dX12_greater_1 rfl rfl ?_
  refine j_icmp_le 9 5 dX12_greater_2 (by decide) rfl (fun c1 => ?_) (fun c1 => ?_)
  · refine j_iload_n 6 dX12_greater_5 rfl rfl ?_
    refine j_goto 10 dX12_greater_6 (by decide) ?_
    exact s_iret dX12_greater_10 rfl
  · refine j_iload_n 10 dX12_greater_9 rfl rfl ?_
    exact s_iret dX12_greater_10 rfl
