-- X11_rowOf
def fX11_rowOf  (a1 : Int32) (s : Mem) : Option (Nat × Mem) :=
if a1 < 0 then
  some (0, s)
else
  if a1 < 6 then
    if inb a1 6 = true then
    some (RT 4 (ix a1), s)
    else none
  else
    some (0, s)
theorem tX11_rowOf (Θ : Th) (l : Launch)  (a1 : Int32)  (s : Mem) : Cs Θ l mX11_rowOf 1 gR [vR 1, vI a1] s (fX11_rowOf a1 s) := by
  refine ct_of (by decide) [some (vR 1), some (vI a1)] rfl (Nat.le_of_ble_eq_true rfl) ?_
  unfold fX11_rowOf
  refine j_iload_n 1 dX11_rowOf_0 rfl rfl ?_
  refine j_if_lt 22 4 dX11_rowOf_1 (by decide) rfl (fun c1 => ?_) (fun c1 => ?_)
  · refine j_null 23 dX11_rowOf_22 rfl ?_
    exact s_aret dX11_rowOf_23 rfl (Or.inl ⟨_, rfl⟩)
  · refine j_iload_n 5 dX11_rowOf_4 rfl rfl ?_
    refine j_aload_n 6 dX11_rowOf_5 rfl rfl ?_
    refine s_getR (x := 4) 9 fa1_1 w_403 dX11_rowOf_6 rfl (by decide +kernel) ?_
    refine s_alen (v := 6) 10 aa4 (by decide) (by decide) (by decide) dX11_rowOf_9 rfl ?_
    refine j_icmp_ge 22 13 dX11_rowOf_10 (by decide) rfl (fun c2 => ?_) (fun c2 => ?_)
    · refine j_aload_n 14 dX11_rowOf_13 rfl rfl ?_
      refine s_getR (x := 4) 17 fa1_1 w_403 dX11_rowOf_14 rfl (by decide +kernel) ?_
      refine j_iload_n 18 dX11_rowOf_17 rfl rfl ?_
      refine s_aaload 19 aa4 (by decide) dX11_rowOf_18 rfl (fun b3 => ?_)
      refine j_goto 23 dX11_rowOf_19 (by decide) ?_
      exact s_aret dX11_rowOf_23 rfl (Or.inl ⟨_, rfl⟩)
    · refine j_null 23 dX11_rowOf_22 rfl ?_
      exact s_aret dX11_rowOf_23 rfl (Or.inl ⟨_, rfl⟩)
-- X10_found
def fX10_found  (a1 : Int32) (s : Mem) : Option (Int32 × Mem) :=
if a1 < 0 then
  some ((-3), wI s 2 3 a1)
else
  if a1 < 6 then
    if inb a1 6 = true then
    if inb a1 6 = true then
    some ((-3), wI (wI s 2 3 a1) 3 (ix a1) (((wI s 2 3 a1).1 3 (ix a1)) + 1))
    else none
    else none
  else
    some ((-3), wI s 2 3 a1)
theorem tX10_found (Θ : Th) (l : Launch)  (a1 : Int32)  (s : Mem) : Cs Θ l mX10_found 1 gI [vR 2, vI a1] s (fX10_found a1 s) := by
  refine ct_of (by decide) [some (vR 2), some (vI a1)] rfl (Nat.le_of_ble_eq_true rfl) ?_
  unfold fX10_found
  refine j_aload_n 1 dX10_found_0 rfl rfl ?_
  refine j_iload_n 2 dX10_found_1 rfl rfl ?_
  refine s_putI 5 fa2_3 w_111 dX10_found_2 rfl ?_
  refine j_iload_n 6 dX10_found_5 rfl rfl ?_
  refine j_if_lt 28 9 dX10_found_6 (by decide) rfl (fun c1 => ?_) (fun c1 => ?_)
  · refine j_bipush (v := (-3)) 30 dX10_found_28 rfl (by decide) ?_
    exact s_iret dX10_found_30 rfl
  · refine j_iload_n 10 dX10_found_9 rfl rfl ?_
    refine j_aload_n 11 dX10_found_10 rfl rfl ?_
    refine s_getR (x := 3) 14 fa2_4 w_113 dX10_found_11 rfl (by decide +kernel) ?_
    refine s_alen (v := 6) 15 aa3 (by decide) (by decide) (by decide) dX10_found_14 rfl ?_
    refine j_icmp_ge 28 18 dX10_found_15 (by decide) rfl (fun c2 => ?_) (fun c2 => ?_)
    · refine j_aload_n 19 dX10_found_18 rfl rfl ?_
      refine s_getR (x := 3) 22 fa2_4 w_113 dX10_found_19 rfl (by decide +kernel) ?_
      refine j_iload_n 23 dX10_found_22 rfl rfl ?_
      refine j_dup2 24 dX10_found_23 rfl rfl rfl ?_
      refine s_iaload 25 aa3 dX10_found_24 rfl (fun b3 => ?_)
      refine j_iconst (v := 1) 26 dX10_found_25 rfl (by decide) ?_
      refine j_iadd 27 dX10_found_26 rfl ?_
      refine s_iastore 28 aa3 dX10_found_27 rfl (fun b4 => ?_)
      refine j_bipush (v := (-3)) 30 dX10_found_28 rfl (by decide) ?_
      exact s_iret dX10_found_30 rfl
    · refine j_bipush (v := (-3)) 30 dX10_found_28 rfl (by decide) ?_
      exact s_iret dX10_found_30 rfl
-- X7_renew
def fX7_renew_L16  (κ : Mem → Option (Unit × Mem)) (q0 : Nat) : Nat → Int32 → Mem → Option (Unit × Mem)
  | 0, _, _ => none
  | k + 1, x2, s =>
    if x2 < (s.1 q0 0) then
      if inb x2 60 = true then
      fX7_renew_L16 κ q0 k (x2 + 1) (wI s (q0 + 1) (ix x2) 0)
      else none
    else
      κ s
def fX7_renew  (q0 : Nat) (a1 : Int32) (s : Mem) : Option (Unit × Mem) :=
fX7_renew_L16 (fun s3 =>
  some ((), s3)) q0 FU 0 (wI s q0 0 (mx 0 (mn 60 a1)))
theorem tX7_renew_L16 (Θ : Th) (l : Launch)  (κ : Mem → Option (Unit × Mem)) (q0 : Nat) (hq0 : kd q0 = 7) (hκ : ∀  (s : Mem), Js Θ l mX7_renew 2 gU 37 [none, none, none] [] s (κ  s)) : ∀ (k : Nat) (x2 : Int32) (s : Mem), Js Θ l mX7_renew 2 gU 16 [some (vR q0), none, some (vI x2)] [] s (fX7_renew_L16 κ q0 k x2 s) := by
  intro k
  induction k with
  | zero => intro x2 s; exact j_none
  | succ k ih =>
    intro x2 s
    rw [fX7_renew_L16]
    refine j_iload_n 17 dX7_renew_16 rfl rfl ?_
    refine j_aload_n 18 dX7_renew_17 rfl rfl ?_
    refine s_getI 21 (row_fa0 hq0) w_377 dX7_renew_18 rfl ?_
    refine j_icmp_ge 37 24 dX7_renew_21 (by decide) rfl (fun c1 => ?_) (fun c1 => ?_)
    · refine j_aload_n 25 dX7_renew_24 rfl rfl ?_
      refine s_getR (x := q0 + 1) 28 (row_fa1 hq0) w_380 dX7_renew_25 rfl (row_pl hq0) ?_
      refine j_iload_n 29 dX7_renew_28 rfl rfl ?_
      refine j_iconst (v := 0) 30 dX7_renew_29 rfl (by decide) ?_
      refine s_iastore 31 (row_aa hq0) dX7_renew_30 rfl (fun b2 => ?_)
      refine j_iinc (v := x2 + 1) (ls' := [some (vR q0), none, some (vI (x2 + 1))]) 34 dX7_renew_31 rfl rfl rfl (by decide) rfl rfl ?_
      refine j_goto 16 dX7_renew_34 (by decide) ?_
      refine j_sub (ls' := [some (vR q0), none, some (vI (x2 + 1))]) (And.intro rfl (And.intro rfl trivial)) ?_
      exact ih (x2 + 1) (wI s (q0 + 1) (ix x2) 0)
    · refine j_sub (ls' := [none, none, none]) (trivial) ?_
      exact hκ s
theorem tX7_renew (Θ : Th) (l : Launch)  (q0 : Nat) (a1 : Int32) (hq0 : kd q0 = 7) (s : Mem) : Cs Θ l mX7_renew 2 gU [vR q0, vI a1] s (fX7_renew q0 a1 s) := by
  refine ct_of (by decide) [some (vR q0), some (vI a1), none] rfl (Nat.le_of_ble_eq_true rfl) ?_
  unfold fX7_renew
  refine j_aload_n 1 dX7_renew_0 rfl rfl ?_
  refine j_iconst (v := 0) 2 dX7_renew_1 rfl (by decide) ?_
  refine j_bipush (v := 60) 4 dX7_renew_2 rfl (by decide) ?_
  refine j_iload_n 5 dX7_renew_4 rfl rfl ?_
  refine s_mmin 8 dX7_renew_5 rfl wm_452 wt_min wi_math wc_min (by first | exact Nat.le_of_ble_eq_true rfl | omega) (Nat.le_of_ble_eq_true rfl) ?_
  refine s_mmax 11 dX7_renew_8 rfl wm_455 wt_max wi_math wc_max (by first | exact Nat.le_of_ble_eq_true rfl | omega) (Nat.le_of_ble_eq_true rfl) ?_
  refine s_putI 14 (row_fa0 hq0) w_377 dX7_renew_11 rfl ?_
  refine j_iconst (v := 0) 15 dX7_renew_14 rfl (by decide) ?_
  refine j_istore_n (i := 2) (ls' := [some (vR q0), some (vI a1), some (vI 0)]) 16 dX7_renew_15 rfl rfl (by decide) rfl rfl ?_
  refine j_sub (ls' := [some (vR q0), none, some (vI 0)]) (And.intro rfl (And.intro rfl trivial)) ?_
  refine tX7_renew_L16 Θ l _ _ hq0 ?_ _ _ _
  intro s3
  exact s_ret dX7_renew_37 rfl
-- X11_row
def fX11_row  (a1 : Int32) (a2 : Int32) (s : Mem) : Option (Int32 × Mem) :=
bnd (fX11_rowOf a1 s) (fun r1 s2 =>
if r1 = 0 then
  some ((-1), s2)
else
  if 60 < a2 then
    some ((-1), s2)
  else
    if a2 < 0 then
      bnd (fX10_found 5 s2) (fun r6 s7 =>
      some (r6, s7))
    else
      if kd r1 = 7 then
      bnd (fX7_renew r1 a2 s2) (fun r9 s10 =>
      some (a2, s10))
      else none)
theorem tX11_row (Θ : Th) (l : Launch)  (a1 : Int32) (a2 : Int32)  (s : Mem) : Cs Θ l mX11_row 3 gI [vR 1, vI a1, vI a2] s (fX11_row a1 a2 s) := by
  refine ct_of (by decide) [some (vR 1), some (vI a1), some (vI a2), none] rfl (Nat.le_of_ble_eq_true rfl) ?_
  unfold fX11_row
  refine j_aload_n 1 dX11_row_0 rfl rfl ?_
  refine j_iload_n 2 dX11_row_1 rfl rfl ?_
  refine s_callVr (M2 := mX11_rowOf) [vI a1] 5 oa1 cc11 mkX11_rowOf w_440 dX11_row_2 rfl rfl (tX11_rowOf Θ l _  _) (by first | exact Nat.le_of_ble_eq_true rfl | omega) (Nat.le_of_ble_eq_true rfl) (Nat.le_of_ble_eq_true rfl) (fun r1 s2 => ?_)
  refine j_astore_n (i := 3) (ls' := [some (vR 1), some (vI a1), some (vI a2), some (vR r1)]) 6 dX11_row_5 rfl rfl (by decide) rfl rfl ?_
  refine j_aload_n 7 dX11_row_6 rfl rfl ?_
  refine j_ifnull 16 10 dX11_row_7 (by decide) rfl (fun c3 => ?_) (fun c3 => ?_)
  · refine j_iconst (v := (-1)) 17 dX11_row_16 rfl (by decide) ?_
    exact s_iret dX11_row_17 rfl
  · refine j_iload_n 11 dX11_row_10 rfl rfl ?_
    refine j_bipush (v := 60) 13 dX11_row_11 rfl (by decide) ?_
    refine j_icmp_le 18 16 dX11_row_13 (by decide) rfl (fun c4 => ?_) (fun c4 => ?_)
    · refine j_iconst (v := (-1)) 17 dX11_row_16 rfl (by decide) ?_
      exact s_iret dX11_row_17 rfl
    · refine j_iload_n 19 dX11_row_18 rfl rfl ?_
      refine j_if_ge 31 22 dX11_row_19 (by decide) rfl (fun c5 => ?_) (fun c5 => ?_)
      · refine j_aload_n 23 dX11_row_22 rfl rfl ?_
        refine s_getR (x := 2) 26 fa1_0 w_402 dX11_row_23 rfl (by decide +kernel) ?_
        refine j_iconst (v := 5) 27 dX11_row_26 rfl (by decide) ?_
        refine s_callVi (M2 := mX10_found) [vI 5] 30 oa2 cc10 mkX10_found w_444 dX11_row_27 rfl rfl (tX10_found Θ l _  _) (by first | exact Nat.le_of_ble_eq_true rfl | omega) (Nat.le_of_ble_eq_true rfl) (Nat.le_of_ble_eq_true rfl) (fun r6 s7 => ?_)
        exact s_iret dX11_row_30 rfl
      · refine j_aload_n 32 dX11_row_31 rfl rfl ?_
        refine j_iload_n 33 dX11_row_32 rfl rfl ?_
        refine j_ite (fun hk8 => ?_) (fun _ => j_none)
        refine s_callVu (M2 := mX7_renew) [vI a2] 36 (row_oa hk8) cc7 mkX7_renew w_448 dX11_row_33 rfl rfl (tX7_renew Θ l _ _ hk8 _) (by first | exact Nat.le_of_ble_eq_true rfl | omega) (Nat.le_of_ble_eq_true rfl) (Nat.le_of_ble_eq_true rfl) (fun r9 s10 => ?_)
        refine j_iload_n 37 dX11_row_36 rfl rfl ?_
        exact s_iret dX11_row_37 rfl
-- X7_isMissing
def fX7_isMissing  (q0 : Nat) (s : Mem) : Option (Int32 × Mem) :=
if (s.1 q0 0) < 0 then
  some (1, s)
else
  some (0, s)
theorem tX7_isMissing (Θ : Th) (l : Launch)  (q0 : Nat) (hq0 : kd q0 = 7) (s : Mem) : Cs Θ l mX7_isMissing 1 gI [vR q0] s (fX7_isMissing q0 s) := by
  refine ct_of (by decide) [some (vR q0)] rfl (Nat.le_of_ble_eq_true rfl) ?_
  unfold fX7_isMissing
  refine j_aload_n 1 dX7_isMissing_0 rfl rfl ?_
  refine s_getI 4 (row_fa0 hq0) w_377 dX7_isMissing_1 rfl ?_
  refine j_if_ge 11 7 dX7_isMissing_4 (by decide) rfl (fun c1 => ?_) (fun c1 => ?_)
  · refine j_iconst (v := 1) 8 dX7_isMissing_7 rfl (by decide) ?_
    refine j_goto 12 dX7_isMissing_8 (by decide) ?_
    exact s_zret dX7_isMissing_12 rfl (by decide)
  · refine j_iconst (v := 0) 12 dX7_isMissing_11 rfl (by decide) ?_
    exact s_zret dX7_isMissing_12 rfl (by decide)
-- X7_has
def fX7_has  (q0 : Nat) (a1 : Int32) (s : Mem) : Option (Int32 × Mem) :=
if a1 < 0 then
  some (0, s)
else
  if a1 < (s.1 q0 0) then
    some (1, s)
  else
    some (0, s)
theorem tX7_has (Θ : Th) (l : Launch)  (q0 : Nat) (a1 : Int32) (hq0 : kd q0 = 7) (s : Mem) : Cs Θ l mX7_has 1 gI [vR q0, vI a1] s (fX7_has q0 a1 s) := by
  refine ct_of (by decide) [some (vR q0), some (vI a1)] rfl (Nat.le_of_ble_eq_true rfl) ?_
  unfold fX7_has
  refine j_iload_n 1 dX7_has_0 rfl rfl ?_
  refine j_if_lt 16 4 dX7_has_1 (by decide) rfl (fun c1 => ?_) (fun c1 => ?_)
  · refine j_iconst (v := 0) 17 dX7_has_16 rfl (by decide) ?_
    exact s_zret dX7_has_17 rfl (by decide)
  · refine j_iload_n 5 dX7_has_4 rfl rfl ?_
    refine j_aload_n 6 dX7_has_5 rfl rfl ?_
    refine s_getI 9 (row_fa0 hq0) w_377 dX7_has_6 rfl ?_
    refine j_icmp_ge 16 12 dX7_has_9 (by decide) rfl (fun c2 => ?_) (fun c2 => ?_)
    · refine j_iconst (v := 1) 13 dX7_has_12 rfl (by decide) ?_
      refine j_goto 17 dX7_has_13 (by decide) ?_
      exact s_zret dX7_has_17 rfl (by decide)
    · refine j_iconst (v := 0) 17 dX7_has_16 rfl (by decide) ?_
      exact s_zret dX7_has_17 rfl (by decide)
-- X11_placeRefused
def fX11_placeRefused  (a1 : Nat) (a2 : Int32) (s : Mem) : Option (Int32 × Mem) :=
bnd (fX7_isMissing a1 s) (fun r1 s2 =>
if r1 = 0 then
  bnd (fX7_has a1 a2 s2) (fun r4 s5 =>
  if r4 = 0 then
    bnd (fX10_found 2 s5) (fun r7 s8 =>
    some (r7, s8))
  else
    some (0, s5))
else
  bnd (fX10_found 1 s2) (fun r9 s10 =>
  some (r9, s10)))
theorem tX11_placeRefused (Θ : Th) (l : Launch)  (a1 : Nat) (a2 : Int32) (ha1 : kd a1 = 7) (s : Mem) : Cs Θ l mX11_placeRefused 2 gI [vR 1, vR a1, vI a2] s (fX11_placeRefused a1 a2 s) := by
  refine ct_of (by decide) [some (vR 1), some (vR a1), some (vI a2)] rfl (Nat.le_of_ble_eq_true rfl) ?_
  unfold fX11_placeRefused
  refine j_aload_n 1 dX11_placeRefused_0 rfl rfl ?_
  refine s_callVi (M2 := mX7_isMissing) [] 4 (row_oa ha1) cc7 mkX7_isMissing w_466 dX11_placeRefused_1 rfl rfl (tX7_isMissing Θ l _ ha1 _) (by first | exact Nat.le_of_ble_eq_true rfl | omega) (Nat.le_of_ble_eq_true rfl) (Nat.le_of_ble_eq_true rfl) (fun r1 s2 => ?_)
  refine j_if_eq 16 7 dX11_placeRefused_4 (by decide) rfl (fun c3 => ?_) (fun c3 => ?_)
  · refine j_aload_n 17 dX11_placeRefused_16 rfl rfl ?_
    refine j_iload_n 18 dX11_placeRefused_17 rfl rfl ?_
    refine s_callVi (M2 := mX7_has) [vI a2] 21 (row_oa ha1) cc7 mkX7_has w_470 dX11_placeRefused_18 rfl rfl (tX7_has Θ l _ _ ha1 _) (by first | exact Nat.le_of_ble_eq_true rfl | omega) (Nat.le_of_ble_eq_true rfl) (Nat.le_of_ble_eq_true rfl) (fun r4 s5 => ?_)
    refine j_if_eq 28 24 dX11_placeRefused_21 (by decide) rfl (fun c6 => ?_) (fun c6 => ?_)
    · refine j_aload_n 29 dX11_placeRefused_28 rfl rfl ?_
      refine s_getR (x := 2) 32 fa1_0 w_402 dX11_placeRefused_29 rfl (by decide +kernel) ?_
      refine j_iconst (v := 2) 33 dX11_placeRefused_32 rfl (by decide) ?_
      refine s_callVi (M2 := mX10_found) [vI 2] 36 oa2 cc10 mkX10_found w_444 dX11_placeRefused_33 rfl rfl (tX10_found Θ l _  _) (by first | exact Nat.le_of_ble_eq_true rfl | omega) (Nat.le_of_ble_eq_true rfl) (Nat.le_of_ble_eq_true rfl) (fun r7 s8 => ?_)
      exact s_iret dX11_placeRefused_36 rfl
    · refine j_iconst (v := 0) 25 dX11_placeRefused_24 rfl (by decide) ?_
      refine j_goto 36 dX11_placeRefused_25 (by decide) ?_
      exact s_iret dX11_placeRefused_36 rfl
  · refine j_aload_n 8 dX11_placeRefused_7 rfl rfl ?_
    refine s_getR (x := 2) 11 fa1_0 w_402 dX11_placeRefused_8 rfl (by decide +kernel) ?_
    refine j_iconst (v := 1) 12 dX11_placeRefused_11 rfl (by decide) ?_
    refine s_callVi (M2 := mX10_found) [vI 1] 15 oa2 cc10 mkX10_found w_444 dX11_placeRefused_12 rfl rfl (tX10_found Θ l _  _) (by first | exact Nat.le_of_ble_eq_true rfl | omega) (Nat.le_of_ble_eq_true rfl) (Nat.le_of_ble_eq_true rfl) (fun r9 s10 => ?_)
    exact s_iret dX11_placeRefused_15 rfl
-- X7_placeAt
def fX7_placeAt  (q0 : Nat) (a1 : Int32) (s : Mem) : Option (Int32 × Mem) :=
bnd (fX7_has q0 a1 s) (fun r1 s2 =>
if r1 = 0 then
  some (0, s2)
else
  if inb a1 60 = true then
  some (s2.1 (q0 + 1) (ix a1), s2)
  else none)
theorem tX7_placeAt (Θ : Th) (l : Launch)  (q0 : Nat) (a1 : Int32) (hq0 : kd q0 = 7) (s : Mem) : Cs Θ l mX7_placeAt 2 gI [vR q0, vI a1] s (fX7_placeAt q0 a1 s) := by
  refine ct_of (by decide) [some (vR q0), some (vI a1)] rfl (Nat.le_of_ble_eq_true rfl) ?_
  unfold fX7_placeAt
  refine j_aload_n 1 dX7_placeAt_0 rfl rfl ?_
  refine j_iload_n 2 dX7_placeAt_1 rfl rfl ?_
  refine s_callVi (M2 := mX7_has) [vI a1] 5 (row_oa hq0) cc7 mkX7_has w_478 dX7_placeAt_2 rfl rfl (tX7_has Θ l _ _ hq0 _) (by first | exact Nat.le_of_ble_eq_true rfl | omega) (Nat.le_of_ble_eq_true rfl) (Nat.le_of_ble_eq_true rfl) (fun r1 s2 => ?_)
  refine j_if_eq 17 8 dX7_placeAt_5 (by decide) rfl (fun c3 => ?_) (fun c3 => ?_)
  · refine j_iconst (v := 0) 18 dX7_placeAt_17 rfl (by decide) ?_
    exact s_iret dX7_placeAt_18 rfl
  · refine j_aload_n 9 dX7_placeAt_8 rfl rfl ?_
    refine s_getR (x := q0 + 1) 12 (row_fa1 hq0) w_380 dX7_placeAt_9 rfl (row_pl hq0) ?_
    refine j_iload_n 13 dX7_placeAt_12 rfl rfl ?_
    refine s_iaload 14 (row_aa hq0) dX7_placeAt_13 rfl (fun b4 => ?_)
    refine j_goto 18 dX7_placeAt_14 (by decide) ?_
    exact s_iret dX7_placeAt_18 rfl
-- X10_tell
def fX10_tell  (a1 : Int32) (s : Mem) : Option (Unit × Mem) :=
some ((), wI s 2 0 a1)
theorem tX10_tell (Θ : Th) (l : Launch)  (a1 : Int32)  (s : Mem) : Cs Θ l mX10_tell 1 gU [vR 2, vI a1] s (fX10_tell a1 s) := by
  refine ct_of (by decide) [some (vR 2), some (vI a1)] rfl (Nat.le_of_ble_eq_true rfl) ?_
  unfold fX10_tell
  refine j_aload_n 1 dX10_tell_0 rfl rfl ?_
  refine j_iload_n 2 dX10_tell_1 rfl rfl ?_
  refine s_putI 5 fa2_0 w_105 dX10_tell_2 rfl ?_
  exact s_ret dX10_tell_5 rfl
-- X7_set
def fX7_set  (q0 : Nat) (a1 : Int32) (a2 : Int32) (s : Mem) : Option (Unit × Mem) :=
bnd (fX7_has q0 a1 s) (fun r1 s2 =>
if r1 = 0 then
  some ((), s2)
else
  if inb a1 60 = true then
  some ((), wI s2 (q0 + 1) (ix a1) a2)
  else none)
theorem tX7_set (Θ : Th) (l : Launch)  (q0 : Nat) (a1 : Int32) (a2 : Int32) (hq0 : kd q0 = 7) (s : Mem) : Cs Θ l mX7_set 2 gU [vR q0, vI a1, vI a2] s (fX7_set q0 a1 a2 s) := by
  refine ct_of (by decide) [some (vR q0), some (vI a1), some (vI a2)] rfl (Nat.le_of_ble_eq_true rfl) ?_
  unfold fX7_set
  refine j_aload_n 1 dX7_set_0 rfl rfl ?_
  refine j_iload_n 2 dX7_set_1 rfl rfl ?_
  refine s_callVi (M2 := mX7_has) [vI a1] 5 (row_oa hq0) cc7 mkX7_has w_478 dX7_set_2 rfl rfl (tX7_has Θ l _ _ hq0 _) (by first | exact Nat.le_of_ble_eq_true rfl | omega) (Nat.le_of_ble_eq_true rfl) (Nat.le_of_ble_eq_true rfl) (fun r1 s2 => ?_)
  refine j_if_eq 15 8 dX7_set_5 (by decide) rfl (fun c3 => ?_) (fun c3 => ?_)
  · exact s_ret dX7_set_15 rfl
  · refine j_aload_n 9 dX7_set_8 rfl rfl ?_
    refine s_getR (x := q0 + 1) 12 (row_fa1 hq0) w_380 dX7_set_9 rfl (row_pl hq0) ?_
    refine j_iload_n 13 dX7_set_12 rfl rfl ?_
    refine j_iload_n 14 dX7_set_13 rfl rfl ?_
    refine s_iastore 15 (row_aa hq0) dX7_set_14 rfl (fun b4 => ?_)
    exact s_ret dX7_set_15 rfl
-- X11_lay
def fX11_lay  (a1 : Int32) (a2 : Int32) (a3 : Int32) (s : Mem) : Option (Int32 × Mem) :=
bnd (fX11_rowOf a1 s) (fun r1 s2 =>
if r1 = 0 then
  some ((-1), s2)
else
  if kd r1 = 7 then
  bnd (fX11_placeRefused r1 a2 s2) (fun r5 s6 =>
  if r5 = 0 then
    bnd (fX7_placeAt r1 a2 s6) (fun r8 s9 =>
    bnd (fX10_tell r8 s9) (fun r10 s11 =>
    bnd (fX7_set r1 a2 a3 s11) (fun r12 s13 =>
    some (1, s13))))
  else
    some (r5, s6))
  else none)
theorem tX11_lay (Θ : Th) (l : Launch)  (a1 : Int32) (a2 : Int32) (a3 : Int32)  (s : Mem) : Cs Θ l mX11_lay 3 gI [vR 1, vI a1, vI a2, vI a3] s (fX11_lay a1 a2 a3 s) := by
  refine ct_of (by decide) [some (vR 1), some (vI a1), some (vI a2), some (vI a3), none, none] rfl (Nat.le_of_ble_eq_true rfl) ?_
  unfold fX11_lay
  refine j_aload_n 1 dX11_lay_0 rfl rfl ?_
  refine j_iload_n 2 dX11_lay_1 rfl rfl ?_
  refine s_callVr (M2 := mX11_rowOf) [vI a1] 5 oa1 cc11 mkX11_rowOf w_440 dX11_lay_2 rfl rfl (tX11_rowOf Θ l _  _) (by first | exact Nat.le_of_ble_eq_true rfl | omega) (Nat.le_of_ble_eq_true rfl) (Nat.le_of_ble_eq_true rfl) (fun r1 s2 => ?_)
  refine j_astore (i := 4) (ls' := [some (vR 1), some (vI a1), some (vI a2), some (vI a3), some (vR r1), none]) 7 dX11_lay_5 rfl (by decide) rfl rfl ?_
  refine j_aload 9 dX11_lay_7 rfl rfl ?_
  refine j_ifnonnull 14 12 dX11_lay_9 (by decide) rfl (fun c3 => ?_) (fun c3 => ?_)
  · refine j_iconst (v := (-1)) 13 dX11_lay_12 rfl (by decide) ?_
    exact s_iret dX11_lay_13 rfl
  · refine j_aload_n 15 dX11_lay_14 rfl rfl ?_
    refine j_aload 17 dX11_lay_15 rfl rfl ?_
    refine j_iload_n 18 dX11_lay_17 rfl rfl ?_
    refine j_ite (fun hk4 => ?_) (fun _ => j_none)
    refine s_callVi (M2 := mX11_placeRefused) [vR r1, vI a2] 21 oa1 cc11 mkX11_placeRefused w_462 dX11_lay_18 rfl rfl (tX11_placeRefused Θ l _ _ hk4 _) (by first | exact Nat.le_of_ble_eq_true rfl | omega) (Nat.le_of_ble_eq_true rfl) (Nat.le_of_ble_eq_true rfl) (fun r5 s6 => ?_)
    refine j_istore (i := 5) (ls' := [some (vR 1), some (vI a1), some (vI a2), some (vI a3), some (vR r1), some (vI r5)]) 23 dX11_lay_21 rfl (by decide) rfl rfl ?_
    refine j_iload 25 dX11_lay_23 rfl rfl ?_
    refine j_if_eq 31 28 dX11_lay_25 (by decide) rfl (fun c7 => ?_) (fun c7 => ?_)
    · refine j_aload_n 32 dX11_lay_31 rfl rfl ?_
      refine s_getR (x := 2) 35 fa1_0 w_402 dX11_lay_32 rfl (by decide +kernel) ?_
      refine j_aload 37 dX11_lay_35 rfl rfl ?_
      refine j_iload_n 38 dX11_lay_37 rfl rfl ?_
      refine s_callVi (M2 := mX7_placeAt) [vI a2] 41 (row_oa hk4) cc7 mkX7_placeAt w_474 dX11_lay_38 rfl rfl (tX7_placeAt Θ l _ _ hk4 _) (by first | exact Nat.le_of_ble_eq_true rfl | omega) (Nat.le_of_ble_eq_true rfl) (Nat.le_of_ble_eq_true rfl) (fun r8 s9 => ?_)
      refine s_callVu (M2 := mX10_tell) [vI r8] 44 oa2 cc10 mkX10_tell w_479 dX11_lay_41 rfl rfl (tX10_tell Θ l _  _) (by first | exact Nat.le_of_ble_eq_true rfl | omega) (Nat.le_of_ble_eq_true rfl) (Nat.le_of_ble_eq_true rfl) (fun r10 s11 => ?_)
      refine j_aload 46 dX11_lay_44 rfl rfl ?_
      refine j_iload_n 47 dX11_lay_46 rfl rfl ?_
      refine j_iload_n 48 dX11_lay_47 rfl rfl ?_
      refine s_callVu (M2 := mX7_set) [vI a2, vI a3] 51 (row_oa hk4) cc7 mkX7_set w_483 dX11_lay_48 rfl rfl (tX7_set Θ l _ _ _ hk4 _) (by first | exact Nat.le_of_ble_eq_true rfl | omega) (Nat.le_of_ble_eq_true rfl) (Nat.le_of_ble_eq_true rfl) (fun r12 s13 => ?_)
      refine j_iconst (v := 1) 52 dX11_lay_51 rfl (by decide) ?_
      exact s_iret dX11_lay_52 rfl
    · refine j_iload 30 dX11_lay_28 rfl rfl ?_
      exact s_iret dX11_lay_30 rfl
-- X11_at
def fX11_at  (a1 : Int32) (a2 : Int32) (s : Mem) : Option (Int32 × Mem) :=
bnd (fX11_rowOf a1 s) (fun r1 s2 =>
if r1 = 0 then
  some ((-1), s2)
else
  if kd r1 = 7 then
  bnd (fX11_placeRefused r1 a2 s2) (fun r5 s6 =>
  if r5 = 0 then
    bnd (fX7_placeAt r1 a2 s6) (fun r8 s9 =>
    bnd (fX10_tell r8 s9) (fun r10 s11 =>
    some (1, s11)))
  else
    some (r5, s6))
  else none)
theorem tX11_at (Θ : Th) (l : Launch)  (a1 : Int32) (a2 : Int32)  (s : Mem) : Cs Θ l mX11_at 3 gI [vR 1, vI a1, vI a2] s (fX11_at a1 a2 s) := by
  refine ct_of (by decide) [some (vR 1), some (vI a1), some (vI a2), none, none] rfl (Nat.le_of_ble_eq_true rfl) ?_
  unfold fX11_at
  refine j_aload_n 1 dX11_at_0 rfl rfl ?_
  refine j_iload_n 2 dX11_at_1 rfl rfl ?_
  refine s_callVr (M2 := mX11_rowOf) [vI a1] 5 oa1 cc11 mkX11_rowOf w_440 dX11_at_2 rfl rfl (tX11_rowOf Θ l _  _) (by first | exact Nat.le_of_ble_eq_true rfl | omega) (Nat.le_of_ble_eq_true rfl) (Nat.le_of_ble_eq_true rfl) (fun r1 s2 => ?_)
  refine j_astore_n (i := 3) (ls' := [some (vR 1), some (vI a1), some (vI a2), some (vR r1), none]) 6 dX11_at_5 rfl rfl (by decide) rfl rfl ?_
  refine j_aload_n 7 dX11_at_6 rfl rfl ?_
  refine j_ifnonnull 12 10 dX11_at_7 (by decide) rfl (fun c3 => ?_) (fun c3 => ?_)
  · refine j_iconst (v := (-1)) 11 dX11_at_10 rfl (by decide) ?_
    exact s_iret dX11_at_11 rfl
  · refine j_aload_n 13 dX11_at_12 rfl rfl ?_
    refine j_aload_n 14 dX11_at_13 rfl rfl ?_
    refine j_iload_n 15 dX11_at_14 rfl rfl ?_
    refine j_ite (fun hk4 => ?_) (fun _ => j_none)
    refine s_callVi (M2 := mX11_placeRefused) [vR r1, vI a2] 18 oa1 cc11 mkX11_placeRefused w_462 dX11_at_15 rfl rfl (tX11_placeRefused Θ l _ _ hk4 _) (by first | exact Nat.le_of_ble_eq_true rfl | omega) (Nat.le_of_ble_eq_true rfl) (Nat.le_of_ble_eq_true rfl) (fun r5 s6 => ?_)
    refine j_istore (i := 4) (ls' := [some (vR 1), some (vI a1), some (vI a2), some (vR r1), some (vI r5)]) 20 dX11_at_18 rfl (by decide) rfl rfl ?_
    refine j_iload 22 dX11_at_20 rfl rfl ?_
    refine j_if_eq 28 25 dX11_at_22 (by decide) rfl (fun c7 => ?_) (fun c7 => ?_)
    · refine j_aload_n 29 dX11_at_28 rfl rfl ?_
      refine s_getR (x := 2) 32 fa1_0 w_402 dX11_at_29 rfl (by decide +kernel) ?_
      refine j_aload_n 33 dX11_at_32 rfl rfl ?_
      refine j_iload_n 34 dX11_at_33 rfl rfl ?_
      refine s_callVi (M2 := mX7_placeAt) [vI a2] 37 (row_oa hk4) cc7 mkX7_placeAt w_474 dX11_at_34 rfl rfl (tX7_placeAt Θ l _ _ hk4 _) (by first | exact Nat.le_of_ble_eq_true rfl | omega) (Nat.le_of_ble_eq_true rfl) (Nat.le_of_ble_eq_true rfl) (fun r8 s9 => ?_)
      refine s_callVu (M2 := mX10_tell) [vI r8] 40 oa2 cc10 mkX10_tell w_479 dX11_at_37 rfl rfl (tX10_tell Θ l _  _) (by first | exact Nat.le_of_ble_eq_true rfl | omega) (Nat.le_of_ble_eq_true rfl) (Nat.le_of_ble_eq_true rfl) (fun r10 s11 => ?_)
      refine j_iconst (v := 1) 41 dX11_at_40 rfl (by decide) ?_
      exact s_iret dX11_at_41 rfl
    · refine j_iload 27 dX11_at_25 rfl rfl ?_
      exact s_iret dX11_at_27 rfl
-- X7_lose
def fX7_lose  (q0 : Nat) (s : Mem) : Option (Unit × Mem) :=
some ((), wI s q0 0 (-1))
theorem tX7_lose (Θ : Th) (l : Launch)  (q0 : Nat) (hq0 : kd q0 = 7) (s : Mem) : Cs Θ l mX7_lose 1 gU [vR q0] s (fX7_lose q0 s) := by
  refine ct_of (by decide) [some (vR q0)] rfl (Nat.le_of_ble_eq_true rfl) ?_
  unfold fX7_lose
  refine j_aload_n 1 dX7_lose_0 rfl rfl ?_
  refine j_iconst (v := (-1)) 2 dX7_lose_1 rfl (by decide) ?_
  refine s_putI 5 (row_fa0 hq0) w_377 dX7_lose_2 rfl ?_
  exact s_ret dX7_lose_5 rfl
-- X11_tear
def fX11_tear  (a1 : Int32) (s : Mem) : Option (Int32 × Mem) :=
bnd (fX11_rowOf a1 s) (fun r1 s2 =>
if r1 = 0 then
  some ((-1), s2)
else
  if kd r1 = 7 then
  bnd (fX7_isMissing r1 s2) (fun r5 s6 =>
  if r5 = 0 then
    bnd (fX7_lose r1 s6) (fun r8 s9 =>
    some (1, s9))
  else
    bnd (fX10_found 1 s6) (fun r10 s11 =>
    some (r10, s11)))
  else none)
theorem tX11_tear (Θ : Th) (l : Launch)  (a1 : Int32)  (s : Mem) : Cs Θ l mX11_tear 2 gI [vR 1, vI a1] s (fX11_tear a1 s) := by
  refine ct_of (by decide) [some (vR 1), some (vI a1), none] rfl (Nat.le_of_ble_eq_true rfl) ?_
  unfold fX11_tear
  refine j_aload_n 1 dX11_tear_0 rfl rfl ?_
  refine j_iload_n 2 dX11_tear_1 rfl rfl ?_
  refine s_callVr (M2 := mX11_rowOf) [vI a1] 5 oa1 cc11 mkX11_rowOf w_440 dX11_tear_2 rfl rfl (tX11_rowOf Θ l _  _) (by first | exact Nat.le_of_ble_eq_true rfl | omega) (Nat.le_of_ble_eq_true rfl) (Nat.le_of_ble_eq_true rfl) (fun r1 s2 => ?_)
  refine j_astore_n (i := 2) (ls' := [some (vR 1), some (vI a1), some (vR r1)]) 6 dX11_tear_5 rfl rfl (by decide) rfl rfl ?_
  refine j_aload_n 7 dX11_tear_6 rfl rfl ?_
  refine j_ifnonnull 12 10 dX11_tear_7 (by decide) rfl (fun c3 => ?_) (fun c3 => ?_)
  · refine j_iconst (v := (-1)) 11 dX11_tear_10 rfl (by decide) ?_
    exact s_iret dX11_tear_11 rfl
  · refine j_aload_n 13 dX11_tear_12 rfl rfl ?_
    refine j_ite (fun hk4 => ?_) (fun _ => j_none)
    refine s_callVi (M2 := mX7_isMissing) [] 16 (row_oa hk4) cc7 mkX7_isMissing w_466 dX11_tear_13 rfl rfl (tX7_isMissing Θ l _ hk4 _) (by first | exact Nat.le_of_ble_eq_true rfl | omega) (Nat.le_of_ble_eq_true rfl) (Nat.le_of_ble_eq_true rfl) (fun r5 s6 => ?_)
    refine j_if_eq 28 19 dX11_tear_16 (by decide) rfl (fun c7 => ?_) (fun c7 => ?_)
    · refine j_aload_n 29 dX11_tear_28 rfl rfl ?_
      refine s_callVu (M2 := mX7_lose) [] 32 (row_oa hk4) cc7 mkX7_lose w_495 dX11_tear_29 rfl rfl (tX7_lose Θ l _ hk4 _) (by first | exact Nat.le_of_ble_eq_true rfl | omega) (Nat.le_of_ble_eq_true rfl) (Nat.le_of_ble_eq_true rfl) (fun r8 s9 => ?_)
      refine j_iconst (v := 1) 33 dX11_tear_32 rfl (by decide) ?_
      exact s_iret dX11_tear_33 rfl
    · refine j_aload_n 20 dX11_tear_19 rfl rfl ?_
      refine s_getR (x := 2) 23 fa1_0 w_402 dX11_tear_20 rfl (by decide +kernel) ?_
      refine j_iconst (v := 1) 24 dX11_tear_23 rfl (by decide) ?_
      refine s_callVi (M2 := mX10_found) [vI 1] 27 oa2 cc10 mkX10_found w_444 dX11_tear_24 rfl rfl (tX10_found Θ l _  _) (by first | exact Nat.le_of_ble_eq_true rfl | omega) (Nat.le_of_ble_eq_true rfl) (Nat.le_of_ble_eq_true rfl) (fun r10 s11 => ?_)
      exact s_iret dX11_tear_27 rfl
-- X7_holds
def fX7_holds  (q0 : Nat) (a1 : Int32) (a2 : Int32) (s : Mem) : Option (Int32 × Mem) :=
if a1 < 0 then
  some (0, s)
else
  if (s.1 q0 0) < a1 then
    some (0, s)
  else
    if a2 < 0 then
      some (0, s)
    else
      if ((s.1 q0 0) - a1) < a2 then
        some (0, s)
      else
        some (1, s)
theorem tX7_holds (Θ : Th) (l : Launch)  (q0 : Nat) (a1 : Int32) (a2 : Int32) (hq0 : kd q0 = 7) (s : Mem) : Cs Θ l mX7_holds 1 gI [vR q0, vI a1, vI a2] s (fX7_holds q0 a1 a2 s) := by
  refine ct_of (by decide) [some (vR q0), some (vI a1), some (vI a2)] rfl (Nat.le_of_ble_eq_true rfl) ?_
  unfold fX7_holds
  refine j_iload_n 1 dX7_holds_0 rfl rfl ?_
  refine j_if_lt 30 4 dX7_holds_1 (by decide) rfl (fun c1 => ?_) (fun c1 => ?_)
  · refine j_iconst (v := 0) 31 dX7_holds_30 rfl (by decide) ?_
    exact s_zret dX7_holds_31 rfl (by decide)
  · refine j_iload_n 5 dX7_holds_4 rfl rfl ?_
    refine j_aload_n 6 dX7_holds_5 rfl rfl ?_
    refine s_getI 9 (row_fa0 hq0) w_377 dX7_holds_6 rfl ?_
    refine j_icmp_gt 30 12 dX7_holds_9 (by decide) rfl (fun c2 => ?_) (fun c2 => ?_)
    · refine j_iconst (v := 0) 31 dX7_holds_30 rfl (by decide) ?_
      exact s_zret dX7_holds_31 rfl (by decide)
    · refine j_iload_n 13 dX7_holds_12 rfl rfl ?_
      refine j_if_lt 30 16 dX7_holds_13 (by decide) rfl (fun c3 => ?_) (fun c3 => ?_)
      · refine j_iconst (v := 0) 31 dX7_holds_30 rfl (by decide) ?_
        exact s_zret dX7_holds_31 rfl (by decide)
      · refine j_iload_n 17 dX7_holds_16 rfl rfl ?_
        refine j_aload_n 18 dX7_holds_17 rfl rfl ?_
        refine s_getI 21 (row_fa0 hq0) w_377 dX7_holds_18 rfl ?_
        refine j_iload_n 22 dX7_holds_21 rfl rfl ?_
        refine j_isub 23 dX7_holds_22 rfl ?_
        refine j_icmp_gt 30 26 dX7_holds_23 (by decide) rfl (fun c4 => ?_) (fun c4 => ?_)
        · refine j_iconst (v := 0) 31 dX7_holds_30 rfl (by decide) ?_
          exact s_zret dX7_holds_31 rfl (by decide)
        · refine j_iconst (v := 1) 27 dX7_holds_26 rfl (by decide) ?_
          refine j_goto 31 dX7_holds_27 (by decide) ?_
          exact s_zret dX7_holds_31 rfl (by decide)
-- X11_copy
def fX11_copy  (a1 : Int32) (a2 : Int32) (a3 : Int32) (a4 : Int32) (a5 : Int32) (s : Mem) : Option (Int32 × Mem) :=
bnd (fX11_rowOf a1 s) (fun r1 s2 =>
bnd (fX11_rowOf a3 s2) (fun r3 s4 =>
if r1 = 0 then
  some ((-1), s4)
else
  if r3 = 0 then
    some ((-1), s4)
  else
    if a5 < 0 then
      bnd (fX10_found 5 s4) (fun r8 s9 =>
      some (r8, s9))
    else
      if kd r1 = 7 then
      bnd (fX7_isMissing r1 s4) (fun r11 s12 =>
      if r11 = 0 then
        if kd r3 = 7 then
        bnd (fX7_isMissing r3 s12) (fun r15 s16 =>
        if r15 = 0 then
          bnd (fX7_holds r1 a2 a5 s16) (fun r18 s19 =>
          if r18 = 0 then
            bnd (fX10_found 2 s19) (fun r21 s22 =>
            some (r21, s22))
          else
            bnd (fX7_holds r3 a4 a5 s19) (fun r23 s24 =>
            if r23 = 0 then
              bnd (fX10_found 2 s24) (fun r26 s27 =>
              some (r26, s27))
            else
              if ¬ (a2 : Int32) < 0 ∧ ¬ (a4 : Int32) < 0 ∧ ¬ (a5 : Int32) < 0 ∧ ix a2 + ix a5 ≤ 60 ∧ ix a4 + ix a5 ≤ 60 then
              some (1, wF s24 (r3 + 1) (va_cpy (s24.1 (r1 + 1)) (s24.1 (r3 + 1)) (ix a2) (ix a4) (ix a5)))
              else none))
        else
          bnd (fX10_found 1 s16) (fun r28 s29 =>
          some (r28, s29)))
        else none
      else
        bnd (fX10_found 1 s12) (fun r30 s31 =>
        some (r30, s31)))
      else none))
theorem tX11_copy (Θ : Th) (l : Launch)  (a1 : Int32) (a2 : Int32) (a3 : Int32) (a4 : Int32) (a5 : Int32)  (s : Mem) : Cs Θ l mX11_copy 2 gI [vR 1, vI a1, vI a2, vI a3, vI a4, vI a5] s (fX11_copy a1 a2 a3 a4 a5 s) := by
  refine ct_of (by decide) [some (vR 1), some (vI a1), some (vI a2), some (vI a3), some (vI a4), some (vI a5), none, none] rfl (Nat.le_of_ble_eq_true rfl) ?_
  unfold fX11_copy
  refine j_aload_n 1 dX11_copy_0 rfl rfl ?_
  refine j_iload_n 2 dX11_copy_1 rfl rfl ?_
  refine s_callVr (M2 := mX11_rowOf) [vI a1] 5 oa1 cc11 mkX11_rowOf w_440 dX11_copy_2 rfl rfl (tX11_rowOf Θ l _  _) (by first | exact Nat.le_of_ble_eq_true rfl | omega) (Nat.le_of_ble_eq_true rfl) (Nat.le_of_ble_eq_true rfl) (fun r1 s2 => ?_)
  refine j_astore (i := 6) (ls' := [some (vR 1), some (vI a1), some (vI a2), some (vI a3), some (vI a4), some (vI a5), some (vR r1), none]) 7 dX11_copy_5 rfl (by decide) rfl rfl ?_
  refine j_aload_n 8 dX11_copy_7 rfl rfl ?_
  refine j_iload_n 9 dX11_copy_8 rfl rfl ?_
  refine s_callVr (M2 := mX11_rowOf) [vI a3] 12 oa1 cc11 mkX11_rowOf w_440 dX11_copy_9 rfl rfl (tX11_rowOf Θ l _  _) (by first | exact Nat.le_of_ble_eq_true rfl | omega) (Nat.le_of_ble_eq_true rfl) (Nat.le_of_ble_eq_true rfl) (fun r3 s4 => ?_)
  refine j_astore (i := 7) (ls' := [some (vR 1), some (vI a1), some (vI a2), some (vI a3), some (vI a4), some (vI a5), some (vR r1), some (vR r3)]) 14 dX11_copy_12 rfl (by decide) rfl rfl ?_
  refine j_aload 16 dX11_copy_14 rfl rfl ?_
  refine j_ifnull 24 19 dX11_copy_16 (by decide) rfl (fun c5 => ?_) (fun c5 => ?_)
  · refine j_iconst (v := (-1)) 25 dX11_copy_24 rfl (by decide) ?_
    exact s_iret dX11_copy_25 rfl
  · refine j_aload 21 dX11_copy_19 rfl rfl ?_
    refine j_ifnonnull 26 24 dX11_copy_21 (by decide) rfl (fun c6 => ?_) (fun c6 => ?_)
    · refine j_iconst (v := (-1)) 25 dX11_copy_24 rfl (by decide) ?_
      exact s_iret dX11_copy_25 rfl
    · refine j_iload 28 dX11_copy_26 rfl rfl ?_
      refine j_if_ge 40 31 dX11_copy_28 (by decide) rfl (fun c7 => ?_) (fun c7 => ?_)
      · refine j_aload_n 32 dX11_copy_31 rfl rfl ?_
        refine s_getR (x := 2) 35 fa1_0 w_402 dX11_copy_32 rfl (by decide +kernel) ?_
        refine j_iconst (v := 5) 36 dX11_copy_35 rfl (by decide) ?_
        refine s_callVi (M2 := mX10_found) [vI 5] 39 oa2 cc10 mkX10_found w_444 dX11_copy_36 rfl rfl (tX10_found Θ l _  _) (by first | exact Nat.le_of_ble_eq_true rfl | omega) (Nat.le_of_ble_eq_true rfl) (Nat.le_of_ble_eq_true rfl) (fun r8 s9 => ?_)
        exact s_iret dX11_copy_39 rfl
      · refine j_aload 42 dX11_copy_40 rfl rfl ?_
        refine j_ite (fun hk10 => ?_) (fun _ => j_none)
        refine s_callVi (M2 := mX7_isMissing) [] 45 (row_oa hk10) cc7 mkX7_isMissing w_466 dX11_copy_42 rfl rfl (tX7_isMissing Θ l _ hk10 _) (by first | exact Nat.le_of_ble_eq_true rfl | omega) (Nat.le_of_ble_eq_true rfl) (Nat.le_of_ble_eq_true rfl) (fun r11 s12 => ?_)
        refine j_if_ne 56 48 dX11_copy_45 (by decide) rfl (fun c13 => ?_) (fun c13 => ?_)
        · refine j_aload 50 dX11_copy_48 rfl rfl ?_
          refine j_ite (fun hk14 => ?_) (fun _ => j_none)
          refine s_callVi (M2 := mX7_isMissing) [] 53 (row_oa hk14) cc7 mkX7_isMissing w_466 dX11_copy_50 rfl rfl (tX7_isMissing Θ l _ hk14 _) (by first | exact Nat.le_of_ble_eq_true rfl | omega) (Nat.le_of_ble_eq_true rfl) (Nat.le_of_ble_eq_true rfl) (fun r15 s16 => ?_)
          refine j_if_eq 65 56 dX11_copy_53 (by decide) rfl (fun c17 => ?_) (fun c17 => ?_)
          · refine j_aload 67 dX11_copy_65 rfl rfl ?_
            refine j_iload_n 68 dX11_copy_67 rfl rfl ?_
            refine j_iload 70 dX11_copy_68 rfl rfl ?_
            refine s_callVi (M2 := mX7_holds) [vI a2, vI a5] 73 (row_oa hk10) cc7 mkX7_holds w_503 dX11_copy_70 rfl rfl (tX7_holds Θ l _ _ _ hk10 _) (by first | exact Nat.le_of_ble_eq_true rfl | omega) (Nat.le_of_ble_eq_true rfl) (Nat.le_of_ble_eq_true rfl) (fun r18 s19 => ?_)
            refine j_if_eq 88 76 dX11_copy_73 (by decide) rfl (fun c20 => ?_) (fun c20 => ?_)
            · refine j_aload_n 89 dX11_copy_88 rfl rfl ?_
              refine s_getR (x := 2) 92 fa1_0 w_402 dX11_copy_89 rfl (by decide +kernel) ?_
              refine j_iconst (v := 2) 93 dX11_copy_92 rfl (by decide) ?_
              refine s_callVi (M2 := mX10_found) [vI 2] 96 oa2 cc10 mkX10_found w_444 dX11_copy_93 rfl rfl (tX10_found Θ l _  _) (by first | exact Nat.le_of_ble_eq_true rfl | omega) (Nat.le_of_ble_eq_true rfl) (Nat.le_of_ble_eq_true rfl) (fun r21 s22 => ?_)
              exact s_iret dX11_copy_96 rfl
            · refine j_aload 78 dX11_copy_76 rfl rfl ?_
              refine j_iload 80 dX11_copy_78 rfl rfl ?_
              refine j_iload 82 dX11_copy_80 rfl rfl ?_
              refine s_callVi (M2 := mX7_holds) [vI a4, vI a5] 85 (row_oa hk14) cc7 mkX7_holds w_503 dX11_copy_82 rfl rfl (tX7_holds Θ l _ _ _ hk14 _) (by first | exact Nat.le_of_ble_eq_true rfl | omega) (Nat.le_of_ble_eq_true rfl) (Nat.le_of_ble_eq_true rfl) (fun r23 s24 => ?_)
              refine j_if_ne 97 88 dX11_copy_85 (by decide) rfl (fun c25 => ?_) (fun c25 => ?_)
              · refine j_aload_n 89 dX11_copy_88 rfl rfl ?_
                refine s_getR (x := 2) 92 fa1_0 w_402 dX11_copy_89 rfl (by decide +kernel) ?_
                refine j_iconst (v := 2) 93 dX11_copy_92 rfl (by decide) ?_
                refine s_callVi (M2 := mX10_found) [vI 2] 96 oa2 cc10 mkX10_found w_444 dX11_copy_93 rfl rfl (tX10_found Θ l _  _) (by first | exact Nat.le_of_ble_eq_true rfl | omega) (Nat.le_of_ble_eq_true rfl) (Nat.le_of_ble_eq_true rfl) (fun r26 s27 => ?_)
                exact s_iret dX11_copy_96 rfl
              · refine j_aload 99 dX11_copy_97 rfl rfl ?_
                refine s_getR (x := r1 + 1) 102 (row_fa1 hk10) w_381 dX11_copy_99 rfl (row_pl hk10) ?_
                refine j_iload_n 103 dX11_copy_102 rfl rfl ?_
                refine j_aload 105 dX11_copy_103 rfl rfl ?_
                refine s_getR (x := r3 + 1) 108 (row_fa1 hk14) w_381 dX11_copy_105 rfl (row_pl hk14) ?_
                refine j_iload 110 dX11_copy_108 rfl rfl ?_
                refine j_iload 112 dX11_copy_110 rfl rfl ?_
                refine s_copy 115 (row_aa hk10) (row_aa hk14) dX11_copy_112 rfl w_507 w_509 w_508 w_89 (by first | decide | omega) (Nat.le_of_ble_eq_true rfl) ?_
                refine j_iconst (v := 1) 116 dX11_copy_115 rfl (by decide) ?_
                exact s_iret dX11_copy_116 rfl
          · refine j_aload_n 57 dX11_copy_56 rfl rfl ?_
            refine s_getR (x := 2) 60 fa1_0 w_402 dX11_copy_57 rfl (by decide +kernel) ?_
            refine j_iconst (v := 1) 61 dX11_copy_60 rfl (by decide) ?_
            refine s_callVi (M2 := mX10_found) [vI 1] 64 oa2 cc10 mkX10_found w_444 dX11_copy_61 rfl rfl (tX10_found Θ l _  _) (by first | exact Nat.le_of_ble_eq_true rfl | omega) (Nat.le_of_ble_eq_true rfl) (Nat.le_of_ble_eq_true rfl) (fun r28 s29 => ?_)
            exact s_iret dX11_copy_64 rfl
        · refine j_aload_n 57 dX11_copy_56 rfl rfl ?_
          refine s_getR (x := 2) 60 fa1_0 w_402 dX11_copy_57 rfl (by decide +kernel) ?_
          refine j_iconst (v := 1) 61 dX11_copy_60 rfl (by decide) ?_
          refine s_callVi (M2 := mX10_found) [vI 1] 64 oa2 cc10 mkX10_found w_444 dX11_copy_61 rfl rfl (tX10_found Θ l _  _) (by first | exact Nat.le_of_ble_eq_true rfl | omega) (Nat.le_of_ble_eq_true rfl) (Nat.le_of_ble_eq_true rfl) (fun r30 s31 => ?_)
          exact s_iret dX11_copy_64 rfl
-- X7_sum
def fX7_sum_L4  (κ : Int64 → Mem → Option (Int64 × Mem)) (q0 : Nat) : Nat → Int64 → Int32 → Mem → Option (Int64 × Mem)
  | 0, _, _, _ => none
  | k + 1, x1, x3, s =>
    if x3 < (s.1 q0 0) then
      if inb x3 60 = true then
      nm (x1 + (Int32.toInt64 (s.1 (q0 + 1) (ix x3)))) (fun v3 =>
      fX7_sum_L4 κ q0 k v3 (x3 + 1) s)
      else none
    else
      κ x1 s
def fX7_sum  (q0 : Nat) (s : Mem) : Option (Int64 × Mem) :=
fX7_sum_L4 (fun v4 s5 =>
  some (v4, s5)) q0 FU 0 0 s
theorem tX7_sum_L4 (Θ : Th) (l : Launch)  (κ : Int64 → Mem → Option (Int64 × Mem)) (q0 : Nat) (hq0 : kd q0 = 7) (hκ : ∀ (x1 : Int64) (s : Mem), Js Θ l mX7_sum 1 gL 28 [none, some (vL x1), none, none] [] s (κ x1 s)) : ∀ (k : Nat) (x1 : Int64) (x3 : Int32) (s : Mem), Js Θ l mX7_sum 1 gL 4 [some (vR q0), some (vL x1), none, some (vI x3)] [] s (fX7_sum_L4 κ q0 k x1 x3 s) := by
  intro k
  induction k with
  | zero => intro x1 x3 s; exact j_none
  | succ k ih =>
    intro x1 x3 s
    rw [fX7_sum_L4]
    refine j_iload_n 5 dX7_sum_4 rfl rfl ?_
    refine j_aload_n 6 dX7_sum_5 rfl rfl ?_
    refine s_getI 9 (row_fa0 hq0) w_377 dX7_sum_6 rfl ?_
    refine j_icmp_ge 28 12 dX7_sum_9 (by decide) rfl (fun c1 => ?_) (fun c1 => ?_)
    · refine j_lload_n 13 dX7_sum_12 rfl rfl ?_
      refine j_aload_n 14 dX7_sum_13 rfl rfl ?_
      refine s_getR (x := q0 + 1) 17 (row_fa1 hq0) w_380 dX7_sum_14 rfl (row_pl hq0) ?_
      refine j_iload_n 18 dX7_sum_17 rfl rfl ?_
      refine s_iaload 19 (row_aa hq0) dX7_sum_18 rfl (fun b2 => ?_)
      refine j_i2l 20 dX7_sum_19 rfl ?_
      refine j_ladd 21 dX7_sum_20 rfl ?_
      refine s_nmL (fun v3 => ?_)
      refine j_lstore_n (i := 1) (ls' := [some (vR q0), some (vL v3), none, some (vI x3)]) 22 dX7_sum_21 rfl rfl (by decide) rfl rfl ?_
      refine j_iinc (v := x3 + 1) (ls' := [some (vR q0), some (vL v3), none, some (vI (x3 + 1))]) 25 dX7_sum_22 rfl rfl rfl (by decide) rfl rfl ?_
      refine j_goto 4 dX7_sum_25 (by decide) ?_
      refine j_sub (ls' := [some (vR q0), some (vL v3), none, some (vI (x3 + 1))]) (And.intro rfl (And.intro rfl (And.intro rfl trivial))) ?_
      exact ih v3 (x3 + 1) s
    · refine j_sub (ls' := [none, some (vL x1), none, none]) (And.intro rfl trivial) ?_
      exact hκ x1 s
theorem tX7_sum (Θ : Th) (l : Launch)  (q0 : Nat) (hq0 : kd q0 = 7) (s : Mem) : Cs Θ l mX7_sum 1 gL [vR q0] s (fX7_sum q0 s) := by
  refine ct_of (by decide) [some (vR q0), none, none, none] rfl (Nat.le_of_ble_eq_true rfl) ?_
  unfold fX7_sum
  refine j_lconst (v := 0) 1 dX7_sum_0 rfl (by decide) ?_
  refine j_lstore_n (i := 1) (ls' := [some (vR q0), some (vL 0), none, none]) 2 dX7_sum_1 rfl rfl (by decide) rfl rfl ?_
  refine j_iconst (v := 0) 3 dX7_sum_2 rfl (by decide) ?_
  refine j_istore_n (i := 3) (ls' := [some (vR q0), some (vL 0), none, some (vI 0)]) 4 dX7_sum_3 rfl rfl (by decide) rfl rfl ?_
  refine j_sub (ls' := [some (vR q0), some (vL 0), none, some (vI 0)]) (And.intro rfl (And.intro rfl (And.intro rfl trivial))) ?_
  refine tX7_sum_L4 Θ l _ _ hq0 ?_ _ _ _ _
  intro v4 s5
  refine j_lload_n 29 dX7_sum_28 rfl rfl ?_
  exact s_lret dX7_sum_29 rfl
-- X11_mean
def fX11_mean  (a1 : Int32) (s : Mem) : Option (Int32 × Mem) :=
bnd (fX11_rowOf a1 s) (fun r1 s2 =>
if r1 = 0 then
  some ((-1), s2)
else
  if kd r1 = 7 then
  bnd (fX7_isMissing r1 s2) (fun r5 s6 =>
  if r5 = 0 then
    if (s6.1 r1 0) = 0 then
      bnd (fX10_found 4 s6) (fun r9 s10 =>
      some (r9, s10))
    else
      bnd (fX7_sum r1 s6) (fun r11 s12 =>
      if Int32.toInt64 (s12.1 r1 0) = 0 then none else
      bnd (fX10_tell (Int64.toInt32 (r11 / (Int32.toInt64 (s12.1 r1 0)))) s12) (fun r13 s14 =>
      some (1, s14)))
  else
    bnd (fX10_found 1 s6) (fun r15 s16 =>
    some (r15, s16)))
  else none)
theorem tX11_mean (Θ : Th) (l : Launch)  (a1 : Int32)  (s : Mem) : Cs Θ l mX11_mean 2 gI [vR 1, vI a1] s (fX11_mean a1 s) := by
  refine ct_of (by decide) [some (vR 1), some (vI a1), none] rfl (Nat.le_of_ble_eq_true rfl) ?_
  unfold fX11_mean
  refine j_aload_n 1 dX11_mean_0 rfl rfl ?_
  refine j_iload_n 2 dX11_mean_1 rfl rfl ?_
  refine s_callVr (M2 := mX11_rowOf) [vI a1] 5 oa1 cc11 mkX11_rowOf w_440 dX11_mean_2 rfl rfl (tX11_rowOf Θ l _  _) (by first | exact Nat.le_of_ble_eq_true rfl | omega) (Nat.le_of_ble_eq_true rfl) (Nat.le_of_ble_eq_true rfl) (fun r1 s2 => ?_)
  refine j_astore_n (i := 2) (ls' := [some (vR 1), some (vI a1), some (vR r1)]) 6 dX11_mean_5 rfl rfl (by decide) rfl rfl ?_
  refine j_aload_n 7 dX11_mean_6 rfl rfl ?_
  refine j_ifnonnull 12 10 dX11_mean_7 (by decide) rfl (fun c3 => ?_) (fun c3 => ?_)
  · refine j_iconst (v := (-1)) 11 dX11_mean_10 rfl (by decide) ?_
    exact s_iret dX11_mean_11 rfl
  · refine j_aload_n 13 dX11_mean_12 rfl rfl ?_
    refine j_ite (fun hk4 => ?_) (fun _ => j_none)
    refine s_callVi (M2 := mX7_isMissing) [] 16 (row_oa hk4) cc7 mkX7_isMissing w_466 dX11_mean_13 rfl rfl (tX7_isMissing Θ l _ hk4 _) (by first | exact Nat.le_of_ble_eq_true rfl | omega) (Nat.le_of_ble_eq_true rfl) (Nat.le_of_ble_eq_true rfl) (fun r5 s6 => ?_)
    refine j_if_eq 28 19 dX11_mean_16 (by decide) rfl (fun c7 => ?_) (fun c7 => ?_)
    · refine j_aload_n 29 dX11_mean_28 rfl rfl ?_
      refine s_getI 32 (row_fa0 hk4) w_379 dX11_mean_29 rfl ?_
      refine j_if_ne 44 35 dX11_mean_32 (by decide) rfl (fun c8 => ?_) (fun c8 => ?_)
      · refine j_aload_n 36 dX11_mean_35 rfl rfl ?_
        refine s_getR (x := 2) 39 fa1_0 w_402 dX11_mean_36 rfl (by decide +kernel) ?_
        refine j_iconst (v := 4) 40 dX11_mean_39 rfl (by decide) ?_
        refine s_callVi (M2 := mX10_found) [vI 4] 43 oa2 cc10 mkX10_found w_444 dX11_mean_40 rfl rfl (tX10_found Θ l _  _) (by first | exact Nat.le_of_ble_eq_true rfl | omega) (Nat.le_of_ble_eq_true rfl) (Nat.le_of_ble_eq_true rfl) (fun r9 s10 => ?_)
        exact s_iret dX11_mean_43 rfl
      · refine j_aload_n 45 dX11_mean_44 rfl rfl ?_
        refine s_getR (x := 2) 48 fa1_0 w_402 dX11_mean_45 rfl (by decide +kernel) ?_
        refine j_aload_n 49 dX11_mean_48 rfl rfl ?_
        refine s_callVl (M2 := mX7_sum) [] 52 (row_oa hk4) cc7 mkX7_sum w_514 dX11_mean_49 rfl rfl (tX7_sum Θ l _ hk4 _) (by first | exact Nat.le_of_ble_eq_true rfl | omega) (Nat.le_of_ble_eq_true rfl) (Nat.le_of_ble_eq_true rfl) (fun r11 s12 => ?_)
        refine j_aload_n 53 dX11_mean_52 rfl rfl ?_
        refine s_getI 56 (row_fa0 hk4) w_379 dX11_mean_53 rfl ?_
        refine j_i2l 57 dX11_mean_56 rfl ?_
        refine j_ldiv 58 dX11_mean_57 rfl (fun _ => ?_)
        refine j_l2i 59 dX11_mean_58 rfl ?_
        refine s_callVu (M2 := mX10_tell) [vI (Int64.toInt32 (r11 / (Int32.toInt64 (s12.1 r1 0))))] 62 oa2 cc10 mkX10_tell w_479 dX11_mean_59 rfl rfl (tX10_tell Θ l _  _) (by first | exact Nat.le_of_ble_eq_true rfl | omega) (Nat.le_of_ble_eq_true rfl) (Nat.le_of_ble_eq_true rfl) (fun r13 s14 => ?_)
        refine j_iconst (v := 1) 63 dX11_mean_62 rfl (by decide) ?_
        exact s_iret dX11_mean_63 rfl
    · refine j_aload_n 20 dX11_mean_19 rfl rfl ?_
      refine s_getR (x := 2) 23 fa1_0 w_402 dX11_mean_20 rfl (by decide +kernel) ?_
      refine j_iconst (v := 1) 24 dX11_mean_23 rfl (by decide) ?_
      refine s_callVi (M2 := mX10_found) [vI 1] 27 oa2 cc10 mkX10_found w_444 dX11_mean_24 rfl rfl (tX10_found Θ l _  _) (by first | exact Nat.le_of_ble_eq_true rfl | omega) (Nat.le_of_ble_eq_true rfl) (Nat.le_of_ble_eq_true rfl) (fun r15 s16 => ?_)
      exact s_iret dX11_mean_27 rfl
-- X11_textOf
def fX11_textOf  (a1 : Int32) (s : Mem) : Option (Nat × Mem) :=
if a1 < 0 then
  some (0, s)
else
  if a1 < 4 then
    if inb a1 4 = true then
    some (RT 5 (ix a1), s)
    else none
  else
    some (0, s)
theorem tX11_textOf (Θ : Th) (l : Launch)  (a1 : Int32)  (s : Mem) : Cs Θ l mX11_textOf 1 gR [vR 1, vI a1] s (fX11_textOf a1 s) := by
  refine ct_of (by decide) [some (vR 1), some (vI a1)] rfl (Nat.le_of_ble_eq_true rfl) ?_
  unfold fX11_textOf
  refine j_iload_n 1 dX11_textOf_0 rfl rfl ?_
  refine j_if_lt 22 4 dX11_textOf_1 (by decide) rfl (fun c1 => ?_) (fun c1 => ?_)
  · refine j_null 23 dX11_textOf_22 rfl ?_
    exact s_aret dX11_textOf_23 rfl (Or.inl ⟨_, rfl⟩)
  · refine j_iload_n 5 dX11_textOf_4 rfl rfl ?_
    refine j_aload_n 6 dX11_textOf_5 rfl rfl ?_
    refine s_getR (x := 5) 9 fa1_2 w_404 dX11_textOf_6 rfl (by decide +kernel) ?_
    refine s_alen (v := 4) 10 aa5 (by decide) (by decide) (by decide) dX11_textOf_9 rfl ?_
    refine j_icmp_ge 22 13 dX11_textOf_10 (by decide) rfl (fun c2 => ?_) (fun c2 => ?_)
    · refine j_aload_n 14 dX11_textOf_13 rfl rfl ?_
      refine s_getR (x := 5) 17 fa1_2 w_404 dX11_textOf_14 rfl (by decide +kernel) ?_
      refine j_iload_n 18 dX11_textOf_17 rfl rfl ?_
      refine s_aaload 19 aa5 (by decide) dX11_textOf_18 rfl (fun b3 => ?_)
      refine j_goto 23 dX11_textOf_19 (by decide) ?_
      exact s_aret dX11_textOf_23 rfl (Or.inl ⟨_, rfl⟩)
    · refine j_null 23 dX11_textOf_22 rfl ?_
      exact s_aret dX11_textOf_23 rfl (Or.inl ⟨_, rfl⟩)
-- X9_renew
def fX9_renew_L16  (κ : Mem → Option (Unit × Mem)) (q0 : Nat) : Nat → Int32 → Mem → Option (Unit × Mem)
  | 0, _, _ => none
  | k + 1, x2, s =>
    if x2 < (s.1 q0 0) then
      if inb x2 60 = true then
      fX9_renew_L16 κ q0 k (x2 + 1) (wI s (q0 + 1) (ix x2) (Int32.toInt8 32).toInt32)
      else none
    else
      κ s
def fX9_renew  (q0 : Nat) (a1 : Int32) (s : Mem) : Option (Unit × Mem) :=
fX9_renew_L16 (fun s3 =>
  some ((), s3)) q0 FU 0 (wI s q0 0 (mx 0 (mn 60 a1)))
theorem tX9_renew_L16 (Θ : Th) (l : Launch)  (κ : Mem → Option (Unit × Mem)) (q0 : Nat) (hq0 : kd q0 = 9) (hκ : ∀  (s : Mem), Js Θ l mX9_renew 2 gU 38 [none, none, none] [] s (κ  s)) : ∀ (k : Nat) (x2 : Int32) (s : Mem), Js Θ l mX9_renew 2 gU 16 [some (vR q0), none, some (vI x2)] [] s (fX9_renew_L16 κ q0 k x2 s) := by
  intro k
  induction k with
  | zero => intro x2 s; exact j_none
  | succ k ih =>
    intro x2 s
    rw [fX9_renew_L16]
    refine j_iload_n 17 dX9_renew_16 rfl rfl ?_
    refine j_aload_n 18 dX9_renew_17 rfl rfl ?_
    refine s_getI 21 (txt_fa0 hq0) w_392 dX9_renew_18 rfl ?_
    refine j_icmp_ge 38 24 dX9_renew_21 (by decide) rfl (fun c1 => ?_) (fun c1 => ?_)
    · refine j_aload_n 25 dX9_renew_24 rfl rfl ?_
      refine s_getR (x := q0 + 1) 28 (txt_fa1 hq0) w_394 dX9_renew_25 rfl (txt_pl hq0) ?_
      refine j_iload_n 29 dX9_renew_28 rfl rfl ?_
      refine j_bipush (v := 32) 31 dX9_renew_29 rfl (by decide) ?_
      refine s_bastore 32 (txt_aa hq0) dX9_renew_31 rfl (fun b2 => ?_)
      refine j_iinc (v := x2 + 1) (ls' := [some (vR q0), none, some (vI (x2 + 1))]) 35 dX9_renew_32 rfl rfl rfl (by decide) rfl rfl ?_
      refine j_goto 16 dX9_renew_35 (by decide) ?_
      refine j_sub (ls' := [some (vR q0), none, some (vI (x2 + 1))]) (And.intro rfl (And.intro rfl trivial)) ?_
      exact ih (x2 + 1) (wI s (q0 + 1) (ix x2) (Int32.toInt8 32).toInt32)
    · refine j_sub (ls' := [none, none, none]) (trivial) ?_
      exact hκ s
theorem tX9_renew (Θ : Th) (l : Launch)  (q0 : Nat) (a1 : Int32) (hq0 : kd q0 = 9) (s : Mem) : Cs Θ l mX9_renew 2 gU [vR q0, vI a1] s (fX9_renew q0 a1 s) := by
  refine ct_of (by decide) [some (vR q0), some (vI a1), none] rfl (Nat.le_of_ble_eq_true rfl) ?_
  unfold fX9_renew
  refine j_aload_n 1 dX9_renew_0 rfl rfl ?_
  refine j_iconst (v := 0) 2 dX9_renew_1 rfl (by decide) ?_
  refine j_bipush (v := 60) 4 dX9_renew_2 rfl (by decide) ?_
  refine j_iload_n 5 dX9_renew_4 rfl rfl ?_
  refine s_mmin 8 dX9_renew_5 rfl wm_530 wt_min wi_math wc_min (by first | exact Nat.le_of_ble_eq_true rfl | omega) (Nat.le_of_ble_eq_true rfl) ?_
  refine s_mmax 11 dX9_renew_8 rfl wm_531 wt_max wi_math wc_max (by first | exact Nat.le_of_ble_eq_true rfl | omega) (Nat.le_of_ble_eq_true rfl) ?_
  refine s_putI 14 (txt_fa0 hq0) w_392 dX9_renew_11 rfl ?_
  refine j_iconst (v := 0) 15 dX9_renew_14 rfl (by decide) ?_
  refine j_istore_n (i := 2) (ls' := [some (vR q0), some (vI a1), some (vI 0)]) 16 dX9_renew_15 rfl rfl (by decide) rfl rfl ?_
  refine j_sub (ls' := [some (vR q0), none, some (vI 0)]) (And.intro rfl (And.intro rfl trivial)) ?_
  refine tX9_renew_L16 Θ l _ _ hq0 ?_ _ _ _
  intro s3
  exact s_ret dX9_renew_38 rfl
-- X11_text
def fX11_text  (a1 : Int32) (a2 : Int32) (s : Mem) : Option (Int32 × Mem) :=
bnd (fX11_textOf a1 s) (fun r1 s2 =>
if r1 = 0 then
  some ((-1), s2)
else
  if 60 < a2 then
    some ((-1), s2)
  else
    if a2 < 0 then
      bnd (fX10_found 5 s2) (fun r6 s7 =>
      some (r6, s7))
    else
      if kd r1 = 9 then
      bnd (fX9_renew r1 a2 s2) (fun r9 s10 =>
      some (a2, s10))
      else none)
theorem tX11_text (Θ : Th) (l : Launch)  (a1 : Int32) (a2 : Int32)  (s : Mem) : Cs Θ l mX11_text 3 gI [vR 1, vI a1, vI a2] s (fX11_text a1 a2 s) := by
  refine ct_of (by decide) [some (vR 1), some (vI a1), some (vI a2), none] rfl (Nat.le_of_ble_eq_true rfl) ?_
  unfold fX11_text
  refine j_aload_n 1 dX11_text_0 rfl rfl ?_
  refine j_iload_n 2 dX11_text_1 rfl rfl ?_
  refine s_callVr (M2 := mX11_textOf) [vI a1] 5 oa1 cc11 mkX11_textOf w_522 dX11_text_2 rfl rfl (tX11_textOf Θ l _  _) (by first | exact Nat.le_of_ble_eq_true rfl | omega) (Nat.le_of_ble_eq_true rfl) (Nat.le_of_ble_eq_true rfl) (fun r1 s2 => ?_)
  refine j_astore_n (i := 3) (ls' := [some (vR 1), some (vI a1), some (vI a2), some (vR r1)]) 6 dX11_text_5 rfl rfl (by decide) rfl rfl ?_
  refine j_aload_n 7 dX11_text_6 rfl rfl ?_
  refine j_ifnull 16 10 dX11_text_7 (by decide) rfl (fun c3 => ?_) (fun c3 => ?_)
  · refine j_iconst (v := (-1)) 17 dX11_text_16 rfl (by decide) ?_
    exact s_iret dX11_text_17 rfl
  · refine j_iload_n 11 dX11_text_10 rfl rfl ?_
    refine j_bipush (v := 60) 13 dX11_text_11 rfl (by decide) ?_
    refine j_icmp_le 18 16 dX11_text_13 (by decide) rfl (fun c4 => ?_) (fun c4 => ?_)
    · refine j_iconst (v := (-1)) 17 dX11_text_16 rfl (by decide) ?_
      exact s_iret dX11_text_17 rfl
    · refine j_iload_n 19 dX11_text_18 rfl rfl ?_
      refine j_if_ge 31 22 dX11_text_19 (by decide) rfl (fun c5 => ?_) (fun c5 => ?_)
      · refine j_aload_n 23 dX11_text_22 rfl rfl ?_
        refine s_getR (x := 2) 26 fa1_0 w_402 dX11_text_23 rfl (by decide +kernel) ?_
        refine j_iconst (v := 5) 27 dX11_text_26 rfl (by decide) ?_
        refine s_callVi (M2 := mX10_found) [vI 5] 30 oa2 cc10 mkX10_found w_444 dX11_text_27 rfl rfl (tX10_found Θ l _  _) (by first | exact Nat.le_of_ble_eq_true rfl | omega) (Nat.le_of_ble_eq_true rfl) (Nat.le_of_ble_eq_true rfl) (fun r6 s7 => ?_)
        exact s_iret dX11_text_30 rfl
      · refine j_aload_n 32 dX11_text_31 rfl rfl ?_
        refine j_iload_n 33 dX11_text_32 rfl rfl ?_
        refine j_ite (fun hk8 => ?_) (fun _ => j_none)
        refine s_callVu (M2 := mX9_renew) [vI a2] 36 (txt_oa hk8) cc9 mkX9_renew w_526 dX11_text_33 rfl rfl (tX9_renew Θ l _ _ hk8 _) (by first | exact Nat.le_of_ble_eq_true rfl | omega) (Nat.le_of_ble_eq_true rfl) (Nat.le_of_ble_eq_true rfl) (fun r9 s10 => ?_)
        refine j_iload_n 37 dX11_text_36 rfl rfl ?_
        exact s_iret dX11_text_37 rfl
-- X9_isMissing
def fX9_isMissing  (q0 : Nat) (s : Mem) : Option (Int32 × Mem) :=
if (s.1 q0 0) < 0 then
  some (1, s)
else
  some (0, s)
theorem tX9_isMissing (Θ : Th) (l : Launch)  (q0 : Nat) (hq0 : kd q0 = 9) (s : Mem) : Cs Θ l mX9_isMissing 1 gI [vR q0] s (fX9_isMissing q0 s) := by
  refine ct_of (by decide) [some (vR q0)] rfl (Nat.le_of_ble_eq_true rfl) ?_
  unfold fX9_isMissing
  refine j_aload_n 1 dX9_isMissing_0 rfl rfl ?_
  refine s_getI 4 (txt_fa0 hq0) w_392 dX9_isMissing_1 rfl ?_
  refine j_if_ge 11 7 dX9_isMissing_4 (by decide) rfl (fun c1 => ?_) (fun c1 => ?_)
  · refine j_iconst (v := 1) 8 dX9_isMissing_7 rfl (by decide) ?_
    refine j_goto 12 dX9_isMissing_8 (by decide) ?_
    exact s_zret dX9_isMissing_12 rfl (by decide)
  · refine j_iconst (v := 0) 12 dX9_isMissing_11 rfl (by decide) ?_
    exact s_zret dX9_isMissing_12 rfl (by decide)
-- X9_has
def fX9_has  (q0 : Nat) (a1 : Int32) (s : Mem) : Option (Int32 × Mem) :=
if a1 < 0 then
  some (0, s)
else
  if a1 < (s.1 q0 0) then
    some (1, s)
  else
    some (0, s)
theorem tX9_has (Θ : Th) (l : Launch)  (q0 : Nat) (a1 : Int32) (hq0 : kd q0 = 9) (s : Mem) : Cs Θ l mX9_has 1 gI [vR q0, vI a1] s (fX9_has q0 a1 s) := by
  refine ct_of (by decide) [some (vR q0), some (vI a1)] rfl (Nat.le_of_ble_eq_true rfl) ?_
  unfold fX9_has
  refine j_iload_n 1 dX9_has_0 rfl rfl ?_
  refine j_if_lt 16 4 dX9_has_1 (by decide) rfl (fun c1 => ?_) (fun c1 => ?_)
  · refine j_iconst (v := 0) 17 dX9_has_16 rfl (by decide) ?_
    exact s_zret dX9_has_17 rfl (by decide)
  · refine j_iload_n 5 dX9_has_4 rfl rfl ?_
    refine j_aload_n 6 dX9_has_5 rfl rfl ?_
    refine s_getI 9 (txt_fa0 hq0) w_392 dX9_has_6 rfl ?_
    refine j_icmp_ge 16 12 dX9_has_9 (by decide) rfl (fun c2 => ?_) (fun c2 => ?_)
    · refine j_iconst (v := 1) 13 dX9_has_12 rfl (by decide) ?_
      refine j_goto 17 dX9_has_13 (by decide) ?_
      exact s_zret dX9_has_17 rfl (by decide)
    · refine j_iconst (v := 0) 17 dX9_has_16 rfl (by decide) ?_
      exact s_zret dX9_has_17 rfl (by decide)
-- X11_put
def fX11_put  (a1 : Int32) (a2 : Int32) (a3 : Int32) (s : Mem) : Option (Int32 × Mem) :=
bnd (fX11_textOf a1 s) (fun r1 s2 =>
if r1 = 0 then
  some ((-1), s2)
else
  if kd r1 = 9 then
  bnd (fX9_isMissing r1 s2) (fun r5 s6 =>
  if r5 = 0 then
    bnd (fX9_has r1 a2 s6) (fun r8 s9 =>
    if r8 = 0 then
      bnd (fX10_found 2 s9) (fun r11 s12 =>
      some (r11, s12))
    else
      if inb a2 60 = true then
      nm (s9.1 (r1 + 1) (ix a2)) (fun v14 =>
      if inb a2 60 = true then
      some (v14 + 1000, wI s9 (r1 + 1) (ix a2) (Int32.toInt8 ((Int32.toInt8 a3).toInt32)).toInt32)
      else none)
      else none)
  else
    bnd (fX10_found 1 s6) (fun r16 s17 =>
    some (r16, s17)))
  else none)
theorem tX11_put (Θ : Th) (l : Launch)  (a1 : Int32) (a2 : Int32) (a3 : Int32)  (s : Mem) : Cs Θ l mX11_put 2 gI [vR 1, vI a1, vI a2, vI a3] s (fX11_put a1 a2 a3 s) := by
  refine ct_of (by decide) [some (vR 1), some (vI a1), some (vI a2), some (vI a3), none, none] rfl (Nat.le_of_ble_eq_true rfl) ?_
  unfold fX11_put
  refine j_aload_n 1 dX11_put_0 rfl rfl ?_
  refine j_iload_n 2 dX11_put_1 rfl rfl ?_
  refine s_callVr (M2 := mX11_textOf) [vI a1] 5 oa1 cc11 mkX11_textOf w_522 dX11_put_2 rfl rfl (tX11_textOf Θ l _  _) (by first | exact Nat.le_of_ble_eq_true rfl | omega) (Nat.le_of_ble_eq_true rfl) (Nat.le_of_ble_eq_true rfl) (fun r1 s2 => ?_)
  refine j_astore (i := 4) (ls' := [some (vR 1), some (vI a1), some (vI a2), some (vI a3), some (vR r1), none]) 7 dX11_put_5 rfl (by decide) rfl rfl ?_
  refine j_aload 9 dX11_put_7 rfl rfl ?_
  refine j_ifnonnull 14 12 dX11_put_9 (by decide) rfl (fun c3 => ?_) (fun c3 => ?_)
  · refine j_iconst (v := (-1)) 13 dX11_put_12 rfl (by decide) ?_
    exact s_iret dX11_put_13 rfl
  · refine j_aload 16 dX11_put_14 rfl rfl ?_
    refine j_ite (fun hk4 => ?_) (fun _ => j_none)
    refine s_callVi (M2 := mX9_isMissing) [] 19 (txt_oa hk4) cc9 mkX9_isMissing w_536 dX11_put_16 rfl rfl (tX9_isMissing Θ l _ hk4 _) (by first | exact Nat.le_of_ble_eq_true rfl | omega) (Nat.le_of_ble_eq_true rfl) (Nat.le_of_ble_eq_true rfl) (fun r5 s6 => ?_)
    refine j_if_eq 31 22 dX11_put_19 (by decide) rfl (fun c7 => ?_) (fun c7 => ?_)
    · refine j_aload 33 dX11_put_31 rfl rfl ?_
      refine j_iload_n 34 dX11_put_33 rfl rfl ?_
      refine s_callVi (M2 := mX9_has) [vI a2] 37 (txt_oa hk4) cc9 mkX9_has w_540 dX11_put_34 rfl rfl (tX9_has Θ l _ _ hk4 _) (by first | exact Nat.le_of_ble_eq_true rfl | omega) (Nat.le_of_ble_eq_true rfl) (Nat.le_of_ble_eq_true rfl) (fun r8 s9 => ?_)
      refine j_if_ne 49 40 dX11_put_37 (by decide) rfl (fun c10 => ?_) (fun c10 => ?_)
      · refine j_aload_n 41 dX11_put_40 rfl rfl ?_
        refine s_getR (x := 2) 44 fa1_0 w_402 dX11_put_41 rfl (by decide +kernel) ?_
        refine j_iconst (v := 2) 45 dX11_put_44 rfl (by decide) ?_
        refine s_callVi (M2 := mX10_found) [vI 2] 48 oa2 cc10 mkX10_found w_444 dX11_put_45 rfl rfl (tX10_found Θ l _  _) (by first | exact Nat.le_of_ble_eq_true rfl | omega) (Nat.le_of_ble_eq_true rfl) (Nat.le_of_ble_eq_true rfl) (fun r11 s12 => ?_)
        exact s_iret dX11_put_48 rfl
      · refine j_aload 51 dX11_put_49 rfl rfl ?_
        refine s_getR (x := r1 + 1) 54 (txt_fa1 hk4) w_395 dX11_put_51 rfl (txt_pl hk4) ?_
        refine j_iload_n 55 dX11_put_54 rfl rfl ?_
        refine s_baload 56 (Or.inl (txt_aa hk4)) dX11_put_55 rfl (fun b13 => ?_)
        refine s_nmI (fun v14 => ?_)
        refine j_istore (i := 5) (ls' := [some (vR 1), some (vI a1), some (vI a2), some (vI a3), some (vR r1), some (vI v14)]) 58 dX11_put_56 rfl (by decide) rfl rfl ?_
        refine j_aload 60 dX11_put_58 rfl rfl ?_
        refine s_getR (x := r1 + 1) 63 (txt_fa1 hk4) w_395 dX11_put_60 rfl (txt_pl hk4) ?_
        refine j_iload_n 64 dX11_put_63 rfl rfl ?_
        refine j_iload_n 65 dX11_put_64 rfl rfl ?_
        refine j_i2b 66 dX11_put_65 rfl ?_
        refine s_bastore 67 (txt_aa hk4) dX11_put_66 rfl (fun b15 => ?_)
        refine j_iload 69 dX11_put_67 rfl rfl ?_
        refine j_sipush (v := 1000) 72 dX11_put_69 rfl (by decide) ?_
        refine j_iadd 73 dX11_put_72 rfl ?_
        exact s_iret dX11_put_73 rfl
    · refine j_aload_n 23 dX11_put_22 rfl rfl ?_
      refine s_getR (x := 2) 26 fa1_0 w_402 dX11_put_23 rfl (by decide +kernel) ?_
      refine j_iconst (v := 1) 27 dX11_put_26 rfl (by decide) ?_
      refine s_callVi (M2 := mX10_found) [vI 1] 30 oa2 cc10 mkX10_found w_444 dX11_put_27 rfl rfl (tX10_found Θ l _  _) (by first | exact Nat.le_of_ble_eq_true rfl | omega) (Nat.le_of_ble_eq_true rfl) (Nat.le_of_ble_eq_true rfl) (fun r16 s17 => ?_)
      exact s_iret dX11_put_30 rfl
-- X9_byteAt
def fX9_byteAt  (q0 : Nat) (a1 : Int32) (s : Mem) : Option (Int32 × Mem) :=
bnd (fX9_has q0 a1 s) (fun r1 s2 =>
if r1 = 0 then
  some (32, s2)
else
  if inb a1 60 = true then
  some (s2.1 (q0 + 1) (ix a1), s2)
  else none)
theorem tX9_byteAt (Θ : Th) (l : Launch)  (q0 : Nat) (a1 : Int32) (hq0 : kd q0 = 9) (s : Mem) : Cs Θ l mX9_byteAt 2 gI [vR q0, vI a1] s (fX9_byteAt q0 a1 s) := by
  refine ct_of (by decide) [some (vR q0), some (vI a1)] rfl (Nat.le_of_ble_eq_true rfl) ?_
  unfold fX9_byteAt
  refine j_aload_n 1 dX9_byteAt_0 rfl rfl ?_
  refine j_iload_n 2 dX9_byteAt_1 rfl rfl ?_
  refine s_callVi (M2 := mX9_has) [vI a1] 5 (txt_oa hq0) cc9 mkX9_has w_556 dX9_byteAt_2 rfl rfl (tX9_has Θ l _ _ hq0 _) (by first | exact Nat.le_of_ble_eq_true rfl | omega) (Nat.le_of_ble_eq_true rfl) (Nat.le_of_ble_eq_true rfl) (fun r1 s2 => ?_)
  refine j_if_eq 17 8 dX9_byteAt_5 (by decide) rfl (fun c3 => ?_) (fun c3 => ?_)
  · refine j_bipush (v := 32) 19 dX9_byteAt_17 rfl (by decide) ?_
    exact s_iret dX9_byteAt_19 rfl
  · refine j_aload_n 9 dX9_byteAt_8 rfl rfl ?_
    refine s_getR (x := q0 + 1) 12 (txt_fa1 hq0) w_394 dX9_byteAt_9 rfl (txt_pl hq0) ?_
    refine j_iload_n 13 dX9_byteAt_12 rfl rfl ?_
    refine s_baload 14 (Or.inl (txt_aa hq0)) dX9_byteAt_13 rfl (fun b4 => ?_)
    refine j_goto 19 dX9_byteAt_14 (by decide) ?_
    exact s_iret dX9_byteAt_19 rfl
-- X9_isBenchLetter
def fX9_isBenchLetter  (a0 : Int32) (s : Mem) : Option (Int32 × Mem) :=
if a0 = 108 then
  some (1, s)
else
  if a0 = 114 then
    some (1, s)
  else
    if a0 = 109 then
      some (1, s)
    else
      some (0, s)
theorem tX9_isBenchLetter (Θ : Th) (l : Launch)  (a0 : Int32)  (s : Mem) : Cs Θ l mX9_isBenchLetter 1 gI [vI a0] s (fX9_isBenchLetter a0 s) := by
  refine ct_of (by decide) [some (vI a0)] rfl (Nat.le_of_ble_eq_true rfl) ?_
  unfold fX9_isBenchLetter
  refine j_iload_n 1 dX9_isBenchLetter_0 rfl rfl ?_
  refine j_bipush (v := 108) 3 dX9_isBenchLetter_1 rfl (by decide) ?_
  refine j_icmp_eq 18 6 dX9_isBenchLetter_3 (by decide) rfl (fun c1 => ?_) (fun c1 => ?_)
  · refine j_iconst (v := 1) 19 dX9_isBenchLetter_18 rfl (by decide) ?_
    refine j_goto 23 dX9_isBenchLetter_19 (by decide) ?_
    exact s_zret dX9_isBenchLetter_23 rfl (by decide)
  · refine j_iload_n 7 dX9_isBenchLetter_6 rfl rfl ?_
    refine j_bipush (v := 114) 9 dX9_isBenchLetter_7 rfl (by decide) ?_
    refine j_icmp_eq 18 12 dX9_isBenchLetter_9 (by decide) rfl (fun c2 => ?_) (fun c2 => ?_)
    · refine j_iconst (v := 1) 19 dX9_isBenchLetter_18 rfl (by decide) ?_
      refine j_goto 23 dX9_isBenchLetter_19 (by decide) ?_
      exact s_zret dX9_isBenchLetter_23 rfl (by decide)
    · refine j_iload_n 13 dX9_isBenchLetter_12 rfl rfl ?_
      refine j_bipush (v := 109) 15 dX9_isBenchLetter_13 rfl (by decide) ?_
      refine j_icmp_ne 22 18 dX9_isBenchLetter_15 (by decide) rfl (fun c3 => ?_) (fun c3 => ?_)
      · refine j_iconst (v := 1) 19 dX9_isBenchLetter_18 rfl (by decide) ?_
        refine j_goto 23 dX9_isBenchLetter_19 (by decide) ?_
        exact s_zret dX9_isBenchLetter_23 rfl (by decide)
      · refine j_iconst (v := 0) 23 dX9_isBenchLetter_22 rfl (by decide) ?_
        exact s_zret dX9_isBenchLetter_23 rfl (by decide)
-- X9_kindByLetter
def fX9_kindByLetter  (a0 : Int32) (s : Mem) : Option (Int32 × Mem) :=
if a0 = 97 then
  some (1, s)
else if a0 = 99 then
  some (3, s)
else if a0 = 103 then
  some (0, s)
else if a0 = 104 then
  some (4, s)
else if a0 = 107 then
  some (5, s)
else if a0 = 117 then
  some (2, s)
else 
  some ((-9), s)
theorem tX9_kindByLetter (Θ : Th) (l : Launch)  (a0 : Int32)  (s : Mem) : Cs Θ l mX9_kindByLetter 1 gI [vI a0] s (fX9_kindByLetter a0 s) := by
  refine ct_of (by decide) [some (vI a0)] rfl (Nat.le_of_ble_eq_true rfl) ?_
  unfold fX9_kindByLetter
  refine j_iload_n 1 dX9_kindByLetter_0 rfl rfl ?_
  refine j_ite (fun c1 => ?_) (fun c1 => ?_)
  · refine j_lookup 62 dX9_kindByLetter_1 rfl (by rw [c1]; rfl) (by decide : ((1 : Nat) : Int) + 61 = ((62 : Nat) : Int)) ?_
    refine j_iconst (v := 1) 63 dX9_kindByLetter_62 rfl (by decide) ?_
    exact s_iret dX9_kindByLetter_63 rfl
  refine j_ite (fun c2 => ?_) (fun c2 => ?_)
  · refine j_lookup 66 dX9_kindByLetter_1 rfl (by rw [c2]; rfl) (by decide : ((1 : Nat) : Int) + 65 = ((66 : Nat) : Int)) ?_
    refine j_iconst (v := 3) 67 dX9_kindByLetter_66 rfl (by decide) ?_
    exact s_iret dX9_kindByLetter_67 rfl
  refine j_ite (fun c3 => ?_) (fun c3 => ?_)
  · refine j_lookup 60 dX9_kindByLetter_1 rfl (by rw [c3]; rfl) (by decide : ((1 : Nat) : Int) + 59 = ((60 : Nat) : Int)) ?_
    refine j_iconst (v := 0) 61 dX9_kindByLetter_60 rfl (by decide) ?_
    exact s_iret dX9_kindByLetter_61 rfl
  refine j_ite (fun c4 => ?_) (fun c4 => ?_)
  · refine j_lookup 68 dX9_kindByLetter_1 rfl (by rw [c4]; rfl) (by decide : ((1 : Nat) : Int) + 67 = ((68 : Nat) : Int)) ?_
    refine j_iconst (v := 4) 69 dX9_kindByLetter_68 rfl (by decide) ?_
    exact s_iret dX9_kindByLetter_69 rfl
  refine j_ite (fun c5 => ?_) (fun c5 => ?_)
  · refine j_lookup 70 dX9_kindByLetter_1 rfl (by rw [c5]; rfl) (by decide : ((1 : Nat) : Int) + 69 = ((70 : Nat) : Int)) ?_
    refine j_iconst (v := 5) 71 dX9_kindByLetter_70 rfl (by decide) ?_
    exact s_iret dX9_kindByLetter_71 rfl
  refine j_ite (fun c6 => ?_) (fun c6 => ?_)
  · refine j_lookup 64 dX9_kindByLetter_1 rfl (by rw [c6]; rfl) (by decide : ((1 : Nat) : Int) + 63 = ((64 : Nat) : Int)) ?_
    refine j_iconst (v := 2) 65 dX9_kindByLetter_64 rfl (by decide) ?_
    exact s_iret dX9_kindByLetter_65 rfl
  refine j_lookup 72 dX9_kindByLetter_1 rfl (by show Op.lookupswitch.offset [(97, 61), (99, 65), (103, 59), (104, 67), (107, 69), (117, 63)] 71 _ = 71; rw [lv_osw c1 (by decide), lv_osw c2 (by decide), lv_osw c3 (by decide), lv_osw c4 (by decide), lv_osw c5 (by decide), lv_osw c6 (by decide)]; rfl) (by decide : ((1 : Nat) : Int) + 71 = ((72 : Nat) : Int)) ?_
  refine j_bipush (v := (-9)) 74 dX9_kindByLetter_72 rfl (by decide) ?_
  exact s_iret dX9_kindByLetter_74 rfl
-- X11_isWithin
def fX11_isWithin  (a0 : Int32) (a1 : Int32) (a2 : Int32) (s : Mem) : Option (Int32 × Mem) :=
if a0 < a1 then
  some (0, s)
else
  if a2 < a0 then
    some (0, s)
  else
    some (1, s)
theorem tX11_isWithin (Θ : Th) (l : Launch)  (a0 : Int32) (a1 : Int32) (a2 : Int32)  (s : Mem) : Cs Θ l mX11_isWithin 1 gI [vI a0, vI a1, vI a2] s (fX11_isWithin a0 a1 a2 s) := by
  refine ct_of (by decide) [some (vI a0), some (vI a1), some (vI a2)] rfl (Nat.le_of_ble_eq_true rfl) ?_
  unfold fX11_isWithin
  refine j_iload_n 1 dX11_isWithin_0 rfl rfl ?_
  refine j_iload_n 2 dX11_isWithin_1 rfl rfl ?_
  refine j_icmp_lt 14 5 dX11_isWithin_2 (by decide) rfl (fun c1 => ?_) (fun c1 => ?_)
  · refine j_iconst (v := 0) 15 dX11_isWithin_14 rfl (by decide) ?_
    exact s_zret dX11_isWithin_15 rfl (by decide)
  · refine j_iload_n 6 dX11_isWithin_5 rfl rfl ?_
    refine j_iload_n 7 dX11_isWithin_6 rfl rfl ?_
    refine j_icmp_gt 14 10 dX11_isWithin_7 (by decide) rfl (fun c2 => ?_) (fun c2 => ?_)
    · refine j_iconst (v := 0) 15 dX11_isWithin_14 rfl (by decide) ?_
      exact s_zret dX11_isWithin_15 rfl (by decide)
    · refine j_iconst (v := 1) 11 dX11_isWithin_10 rfl (by decide) ?_
      refine j_goto 15 dX11_isWithin_11 (by decide) ?_
      exact s_zret dX11_isWithin_15 rfl (by decide)
-- X9_isFigureDue
def fX9_isFigureDue  (a0 : Int32) (a1 : Int32) (s : Mem) : Option (Int32 × Mem) :=
if a1 = 3 then
  bnd (fX11_isWithin a0 48 49 s) (fun r2 s3 =>
  if r2 = 0 ∨ r2 = 1 then some (r2, s3) else none)
else
  bnd (fX11_isWithin a0 49 57 s) (fun r4 s5 =>
  if r4 = 0 ∨ r4 = 1 then some (r4, s5) else none)
theorem tX9_isFigureDue (Θ : Th) (l : Launch)  (a0 : Int32) (a1 : Int32)  (s : Mem) : Cs Θ l mX9_isFigureDue 2 gI [vI a0, vI a1] s (fX9_isFigureDue a0 a1 s) := by
  refine ct_of (by decide) [some (vI a0), some (vI a1)] rfl (Nat.le_of_ble_eq_true rfl) ?_
  unfold fX9_isFigureDue
  refine j_iload_n 1 dX9_isFigureDue_0 rfl rfl ?_
  refine j_iconst (v := 3) 2 dX9_isFigureDue_1 rfl (by decide) ?_
  refine j_icmp_ne 16 5 dX9_isFigureDue_2 (by decide) rfl (fun c1 => ?_) (fun c1 => ?_)
  · refine j_iload_n 6 dX9_isFigureDue_5 rfl rfl ?_
    refine j_bipush (v := 48) 8 dX9_isFigureDue_6 rfl (by decide) ?_
    refine j_bipush (v := 49) 10 dX9_isFigureDue_8 rfl (by decide) ?_
    refine s_callSi (M2 := mX11_isWithin) [vI a0, vI 48, vI 49] 13 mkX11_isWithin (Or.inr ⟨_, w_567⟩) dX9_isFigureDue_10 rfl rfl (tX11_isWithin Θ l _ _ _  _) (by first | exact Nat.le_of_ble_eq_true rfl | omega) (Nat.le_of_ble_eq_true rfl) (Nat.le_of_ble_eq_true rfl) (fun r2 s3 => ?_)
    refine j_goto 24 dX9_isFigureDue_13 (by decide) ?_
    exact s_zretG dX9_isFigureDue_24 rfl
  · refine j_iload_n 17 dX9_isFigureDue_16 rfl rfl ?_
    refine j_bipush (v := 49) 19 dX9_isFigureDue_17 rfl (by decide) ?_
    refine j_bipush (v := 57) 21 dX9_isFigureDue_19 rfl (by decide) ?_
    refine s_callSi (M2 := mX11_isWithin) [vI a0, vI 49, vI 57] 24 mkX11_isWithin (Or.inr ⟨_, w_567⟩) dX9_isFigureDue_21 rfl rfl (tX11_isWithin Θ l _ _ _  _) (by first | exact Nat.le_of_ble_eq_true rfl | omega) (Nat.le_of_ble_eq_true rfl) (Nat.le_of_ble_eq_true rfl) (fun r4 s5 => ?_)
    exact s_zretG dX9_isFigureDue_24 rfl
-- X9_faultAsBarge
def fX9_faultAsBarge_L9  (κ : Int32 → Int32 → Mem → Option (Int32 × Mem)) (q0 : Nat) : Nat → Int32 → Int32 → Int32 → Int32 → Mem → Option (Int32 × Mem)
  | 0, _, _, _, _, _ => none
  | k + 1, x1, x2, x3, x4, s =>
    if x4 < (s.1 q0 0) then
      bnd (fX9_byteAt q0 x4 s) (fun r2 s3 =>
      if x3 = 0 then
        bnd (fX9_isBenchLetter r2 s3) (fun r5 s6 =>
        if r5 = 0 then
          bnd (fX9_kindByLetter r2 s6) (fun r8 s9 =>
          if r8 = (-9) then
            if r2 = 32 then
              fX9_faultAsBarge_L9 κ q0 k x1 x2 x3 (x4 + 1) s9
            else
              some (x4, s9)
          else
            if x1 = 0 then
              some (x4, s9)
            else
              if x2 < 7 then
                fX9_faultAsBarge_L9 κ q0 k x1 (x2 + 1) 2 (x4 + 1) s9
              else
                some (x4, s9))
        else
          if 0 < x2 then
            some (x4, s6)
          else
            if x1 < 8 then
              if r2 = 109 then
                fX9_faultAsBarge_L9 κ q0 k (x1 + 1) x2 0 (x4 + 1) s6
              else
                fX9_faultAsBarge_L9 κ q0 k (x1 + 1) x2 1 (x4 + 1) s6
            else
              some (x4, s6))
      else
        bnd (fX9_isFigureDue r2 x3 s3) (fun r17 s18 =>
        if r17 = 0 then
          some (x4, s18)
        else
          if x3 = 2 then
            fX9_faultAsBarge_L9 κ q0 k x1 x2 3 (x4 + 1) s18
          else
            fX9_faultAsBarge_L9 κ q0 k x1 x2 0 (x4 + 1) s18))
    else
      κ x1 x3 s
def fX9_faultAsBarge  (q0 : Nat) (s : Mem) : Option (Int32 × Mem) :=
fX9_faultAsBarge_L9 (fun v21 v22 s23 =>
  if v21 = 0 then
    some (s23.1 q0 0, s23)
  else
    if v22 = 0 then
      some ((-9), s23)
    else
      some (s23.1 q0 0, s23)) q0 FU 0 0 0 0 s
theorem tX9_faultAsBarge_L9 (Θ : Th) (l : Launch)  (κ : Int32 → Int32 → Mem → Option (Int32 × Mem)) (q0 : Nat) (hq0 : kd q0 = 9) (hκ : ∀ (x1 : Int32) (x3 : Int32) (s : Mem), Js Θ l mX9_faultAsBarge 3 gI 143 [some (vR q0), some (vI x1), none, some (vI x3), none, none] [] s (κ x1 x3 s)) : ∀ (k : Nat) (x1 : Int32) (x2 : Int32) (x3 : Int32) (x4 : Int32) (s : Mem), Js Θ l mX9_faultAsBarge 3 gI 9 [some (vR q0), some (vI x1), some (vI x2), some (vI x3), some (vI x4), none] [] s (fX9_faultAsBarge_L9 κ q0 k x1 x2 x3 x4 s) := by
  intro k
  induction k with
  | zero => intro x1 x2 x3 x4 s; exact j_none
  | succ k ih =>
    intro x1 x2 x3 x4 s
    rw [fX9_faultAsBarge_L9]
    refine j_iload 11 dX9_faultAsBarge_9 rfl rfl ?_
    refine j_aload_n 12 dX9_faultAsBarge_11 rfl rfl ?_
    refine s_getI 15 (txt_fa0 hq0) w_392 dX9_faultAsBarge_12 rfl ?_
    refine j_icmp_ge 143 18 dX9_faultAsBarge_15 (by decide) rfl (fun c1 => ?_) (fun c1 => ?_)
    · refine j_aload_n 19 dX9_faultAsBarge_18 rfl rfl ?_
      refine j_iload 21 dX9_faultAsBarge_19 rfl rfl ?_
      refine s_callVi (M2 := mX9_byteAt) [vI x4] 24 (txt_oa hq0) cc9 mkX9_byteAt w_552 dX9_faultAsBarge_21 rfl rfl (tX9_byteAt Θ l _ _ hq0 _) (by first | exact Nat.le_of_ble_eq_true rfl | omega) (Nat.le_of_ble_eq_true rfl) (Nat.le_of_ble_eq_true rfl) (fun r2 s3 => ?_)
      refine j_istore (i := 5) (ls' := [some (vR q0), some (vI x1), some (vI x2), some (vI x3), some (vI x4), some (vI r2)]) 26 dX9_faultAsBarge_24 rfl (by decide) rfl rfl ?_
      refine j_iload_n 27 dX9_faultAsBarge_26 rfl rfl ?_
      refine j_if_eq 56 30 dX9_faultAsBarge_27 (by decide) rfl (fun c4 => ?_) (fun c4 => ?_)
      · refine j_iload 58 dX9_faultAsBarge_56 rfl rfl ?_
        refine s_callSi (M2 := mX9_isBenchLetter) [vI r2] 61 mkX9_isBenchLetter (Or.inl w_570) dX9_faultAsBarge_58 rfl rfl (tX9_isBenchLetter Θ l _  _) (by first | exact Nat.le_of_ble_eq_true rfl | omega) (Nat.le_of_ble_eq_true rfl) (Nat.le_of_ble_eq_true rfl) (fun r5 s6 => ?_)
        refine j_if_eq 96 64 dX9_faultAsBarge_61 (by decide) rfl (fun c7 => ?_) (fun c7 => ?_)
        · refine j_iload 98 dX9_faultAsBarge_96 rfl rfl ?_
          refine s_callSi (M2 := mX9_kindByLetter) [vI r2] 101 mkX9_kindByLetter (Or.inl w_573) dX9_faultAsBarge_98 rfl rfl (tX9_kindByLetter Θ l _  _) (by first | exact Nat.le_of_ble_eq_true rfl | omega) (Nat.le_of_ble_eq_true rfl) (Nat.le_of_ble_eq_true rfl) (fun r8 s9 => ?_)
          refine j_bipush (v := (-9)) 103 dX9_faultAsBarge_101 rfl (by decide) ?_
          refine j_icmp_eq 127 106 dX9_faultAsBarge_103 (by decide) rfl (fun c10 => ?_) (fun c10 => ?_)
          · refine j_iload 129 dX9_faultAsBarge_127 rfl rfl ?_
            refine j_bipush (v := 32) 131 dX9_faultAsBarge_129 rfl (by decide) ?_
            refine j_icmp_eq 137 134 dX9_faultAsBarge_131 (by decide) rfl (fun c11 => ?_) (fun c11 => ?_)
            · refine j_iinc (v := x4 + 1) (ls' := [some (vR q0), some (vI x1), some (vI x2), some (vI x3), some (vI (x4 + 1)), some (vI r2)]) 140 dX9_faultAsBarge_137 rfl rfl rfl (by decide) rfl rfl ?_
              refine j_goto 9 dX9_faultAsBarge_140 (by decide) ?_
              refine j_sub (ls' := [some (vR q0), some (vI x1), some (vI x2), some (vI x3), some (vI (x4 + 1)), none]) (And.intro rfl (And.intro rfl (And.intro rfl (And.intro rfl (And.intro rfl trivial))))) ?_
              exact ih x1 x2 x3 (x4 + 1) s9
            · refine j_iload 136 dX9_faultAsBarge_134 rfl rfl ?_
              exact s_iret dX9_faultAsBarge_136 rfl
          · refine j_iload_n 107 dX9_faultAsBarge_106 rfl rfl ?_
            refine j_if_eq 116 110 dX9_faultAsBarge_107 (by decide) rfl (fun c12 => ?_) (fun c12 => ?_)
            · refine j_iload 118 dX9_faultAsBarge_116 rfl rfl ?_
              exact s_iret dX9_faultAsBarge_118 rfl
            · refine j_iload_n 111 dX9_faultAsBarge_110 rfl rfl ?_
              refine j_bipush (v := 7) 113 dX9_faultAsBarge_111 rfl (by decide) ?_
              refine j_icmp_lt 119 116 dX9_faultAsBarge_113 (by decide) rfl (fun c13 => ?_) (fun c13 => ?_)
              · refine j_iinc (v := x2 + 1) (ls' := [some (vR q0), some (vI x1), some (vI (x2 + 1)), some (vI x3), some (vI x4), some (vI r2)]) 122 dX9_faultAsBarge_119 rfl rfl rfl (by decide) rfl rfl ?_
                refine j_iconst (v := 2) 123 dX9_faultAsBarge_122 rfl (by decide) ?_
                refine j_istore_n (i := 3) (ls' := [some (vR q0), some (vI x1), some (vI (x2 + 1)), some (vI 2), some (vI x4), some (vI r2)]) 124 dX9_faultAsBarge_123 rfl rfl (by decide) rfl rfl ?_
                refine j_goto 137 dX9_faultAsBarge_124 (by decide) ?_
                refine j_iinc (v := x4 + 1) (ls' := [some (vR q0), some (vI x1), some (vI (x2 + 1)), some (vI 2), some (vI (x4 + 1)), some (vI r2)]) 140 dX9_faultAsBarge_137 rfl rfl rfl (by decide) rfl rfl ?_
                refine j_goto 9 dX9_faultAsBarge_140 (by decide) ?_
                refine j_sub (ls' := [some (vR q0), some (vI x1), some (vI (x2 + 1)), some (vI 2), some (vI (x4 + 1)), none]) (And.intro rfl (And.intro rfl (And.intro rfl (And.intro rfl (And.intro rfl trivial))))) ?_
                exact ih x1 (x2 + 1) 2 (x4 + 1) s9
              · refine j_iload 118 dX9_faultAsBarge_116 rfl rfl ?_
                exact s_iret dX9_faultAsBarge_118 rfl
        · refine j_iload_n 65 dX9_faultAsBarge_64 rfl rfl ?_
          refine j_if_gt 74 68 dX9_faultAsBarge_65 (by decide) rfl (fun c14 => ?_) (fun c14 => ?_)
          · refine j_iload 76 dX9_faultAsBarge_74 rfl rfl ?_
            exact s_iret dX9_faultAsBarge_76 rfl
          · refine j_iload_n 69 dX9_faultAsBarge_68 rfl rfl ?_
            refine j_bipush (v := 8) 71 dX9_faultAsBarge_69 rfl (by decide) ?_
            refine j_icmp_lt 77 74 dX9_faultAsBarge_71 (by decide) rfl (fun c15 => ?_) (fun c15 => ?_)
            · refine j_iinc (v := x1 + 1) (ls' := [some (vR q0), some (vI (x1 + 1)), some (vI x2), some (vI x3), some (vI x4), some (vI r2)]) 80 dX9_faultAsBarge_77 rfl rfl rfl (by decide) rfl rfl ?_
              refine j_iload 82 dX9_faultAsBarge_80 rfl rfl ?_
              refine j_bipush (v := 109) 84 dX9_faultAsBarge_82 rfl (by decide) ?_
              refine j_icmp_ne 91 87 dX9_faultAsBarge_84 (by decide) rfl (fun c16 => ?_) (fun c16 => ?_)
              · refine j_iconst (v := 0) 88 dX9_faultAsBarge_87 rfl (by decide) ?_
                refine j_goto 92 dX9_faultAsBarge_88 (by decide) ?_
                refine j_istore_n (i := 3) (ls' := [some (vR q0), some (vI (x1 + 1)), some (vI x2), some (vI 0), some (vI x4), some (vI r2)]) 93 dX9_faultAsBarge_92 rfl rfl (by decide) rfl rfl ?_
                refine j_goto 137 dX9_faultAsBarge_93 (by decide) ?_
                refine j_iinc (v := x4 + 1) (ls' := [some (vR q0), some (vI (x1 + 1)), some (vI x2), some (vI 0), some (vI (x4 + 1)), some (vI r2)]) 140 dX9_faultAsBarge_137 rfl rfl rfl (by decide) rfl rfl ?_
                refine j_goto 9 dX9_faultAsBarge_140 (by decide) ?_
                refine j_sub (ls' := [some (vR q0), some (vI (x1 + 1)), some (vI x2), some (vI 0), some (vI (x4 + 1)), none]) (And.intro rfl (And.intro rfl (And.intro rfl (And.intro rfl (And.intro rfl trivial))))) ?_
                exact ih (x1 + 1) x2 0 (x4 + 1) s6
              · refine j_iconst (v := 1) 92 dX9_faultAsBarge_91 rfl (by decide) ?_
                refine j_istore_n (i := 3) (ls' := [some (vR q0), some (vI (x1 + 1)), some (vI x2), some (vI 1), some (vI x4), some (vI r2)]) 93 dX9_faultAsBarge_92 rfl rfl (by decide) rfl rfl ?_
                refine j_goto 137 dX9_faultAsBarge_93 (by decide) ?_
                refine j_iinc (v := x4 + 1) (ls' := [some (vR q0), some (vI (x1 + 1)), some (vI x2), some (vI 1), some (vI (x4 + 1)), some (vI r2)]) 140 dX9_faultAsBarge_137 rfl rfl rfl (by decide) rfl rfl ?_
                refine j_goto 9 dX9_faultAsBarge_140 (by decide) ?_
                refine j_sub (ls' := [some (vR q0), some (vI (x1 + 1)), some (vI x2), some (vI 1), some (vI (x4 + 1)), none]) (And.intro rfl (And.intro rfl (And.intro rfl (And.intro rfl (And.intro rfl trivial))))) ?_
                exact ih (x1 + 1) x2 1 (x4 + 1) s6
            · refine j_iload 76 dX9_faultAsBarge_74 rfl rfl ?_
              exact s_iret dX9_faultAsBarge_76 rfl
      · refine j_iload 32 dX9_faultAsBarge_30 rfl rfl ?_
        refine j_iload_n 33 dX9_faultAsBarge_32 rfl rfl ?_
        refine s_callSi (M2 := mX9_isFigureDue) [vI r2, vI x3] 36 mkX9_isFigureDue (Or.inl w_564) dX9_faultAsBarge_33 rfl rfl (tX9_isFigureDue Θ l _ _  _) (by first | exact Nat.le_of_ble_eq_true rfl | omega) (Nat.le_of_ble_eq_true rfl) (Nat.le_of_ble_eq_true rfl) (fun r17 s18 => ?_)
        refine j_if_ne 42 39 dX9_faultAsBarge_36 (by decide) rfl (fun c19 => ?_) (fun c19 => ?_)
        · refine j_iload 41 dX9_faultAsBarge_39 rfl rfl ?_
          exact s_iret dX9_faultAsBarge_41 rfl
        · refine j_iload_n 43 dX9_faultAsBarge_42 rfl rfl ?_
          refine j_iconst (v := 2) 44 dX9_faultAsBarge_43 rfl (by decide) ?_
          refine j_icmp_ne 51 47 dX9_faultAsBarge_44 (by decide) rfl (fun c20 => ?_) (fun c20 => ?_)
          · refine j_iconst (v := 3) 48 dX9_faultAsBarge_47 rfl (by decide) ?_
            refine j_goto 52 dX9_faultAsBarge_48 (by decide) ?_
            refine j_istore_n (i := 3) (ls' := [some (vR q0), some (vI x1), some (vI x2), some (vI 3), some (vI x4), some (vI r2)]) 53 dX9_faultAsBarge_52 rfl rfl (by decide) rfl rfl ?_
            refine j_goto 137 dX9_faultAsBarge_53 (by decide) ?_
            refine j_iinc (v := x4 + 1) (ls' := [some (vR q0), some (vI x1), some (vI x2), some (vI 3), some (vI (x4 + 1)), some (vI r2)]) 140 dX9_faultAsBarge_137 rfl rfl rfl (by decide) rfl rfl ?_
            refine j_goto 9 dX9_faultAsBarge_140 (by decide) ?_
            refine j_sub (ls' := [some (vR q0), some (vI x1), some (vI x2), some (vI 3), some (vI (x4 + 1)), none]) (And.intro rfl (And.intro rfl (And.intro rfl (And.intro rfl (And.intro rfl trivial))))) ?_
            exact ih x1 x2 3 (x4 + 1) s18
          · refine j_iconst (v := 0) 52 dX9_faultAsBarge_51 rfl (by decide) ?_
            refine j_istore_n (i := 3) (ls' := [some (vR q0), some (vI x1), some (vI x2), some (vI 0), some (vI x4), some (vI r2)]) 53 dX9_faultAsBarge_52 rfl rfl (by decide) rfl rfl ?_
            refine j_goto 137 dX9_faultAsBarge_53 (by decide) ?_
            refine j_iinc (v := x4 + 1) (ls' := [some (vR q0), some (vI x1), some (vI x2), some (vI 0), some (vI (x4 + 1)), some (vI r2)]) 140 dX9_faultAsBarge_137 rfl rfl rfl (by decide) rfl rfl ?_
            refine j_goto 9 dX9_faultAsBarge_140 (by decide) ?_
            refine j_sub (ls' := [some (vR q0), some (vI x1), some (vI x2), some (vI 0), some (vI (x4 + 1)), none]) (And.intro rfl (And.intro rfl (And.intro rfl (And.intro rfl (And.intro rfl trivial))))) ?_
            exact ih x1 x2 0 (x4 + 1) s18
    · refine j_sub (ls' := [some (vR q0), some (vI x1), none, some (vI x3), none, none]) (And.intro rfl (And.intro rfl (And.intro rfl trivial))) ?_
      exact hκ x1 x3 s
theorem tX9_faultAsBarge (Θ : Th) (l : Launch)  (q0 : Nat) (hq0 : kd q0 = 9) (s : Mem) : Cs Θ l mX9_faultAsBarge 3 gI [vR q0] s (fX9_faultAsBarge q0 s) := by
  refine ct_of (by decide) [some (vR q0), none, none, none, none, none] rfl (Nat.le_of_ble_eq_true rfl) ?_
  unfold fX9_faultAsBarge
  refine j_iconst (v := 0) 1 dX9_faultAsBarge_0 rfl (by decide) ?_
  refine j_istore_n (i := 1) (ls' := [some (vR q0), some (vI 0), none, none, none, none]) 2 dX9_faultAsBarge_1 rfl rfl (by decide) rfl rfl ?_
  refine j_iconst (v := 0) 3 dX9_faultAsBarge_2 rfl (by decide) ?_
  refine j_istore_n (i := 2) (ls' := [some (vR q0), some (vI 0), some (vI 0), none, none, none]) 4 dX9_faultAsBarge_3 rfl rfl (by decide) rfl rfl ?_
  refine j_iconst (v := 0) 5 dX9_faultAsBarge_4 rfl (by decide) ?_
  refine j_istore_n (i := 3) (ls' := [some (vR q0), some (vI 0), some (vI 0), some (vI 0), none, none]) 6 dX9_faultAsBarge_5 rfl rfl (by decide) rfl rfl ?_
  refine j_iconst (v := 0) 7 dX9_faultAsBarge_6 rfl (by decide) ?_
  refine j_istore (i := 4) (ls' := [some (vR q0), some (vI 0), some (vI 0), some (vI 0), some (vI 0), none]) 9 dX9_faultAsBarge_7 rfl (by decide) rfl rfl ?_
  refine j_sub (ls' := [some (vR q0), some (vI 0), some (vI 0), some (vI 0), some (vI 0), none]) (And.intro rfl (And.intro rfl (And.intro rfl (And.intro rfl (And.intro rfl trivial))))) ?_
  refine tX9_faultAsBarge_L9 Θ l _ _ hq0 ?_ _ _ _ _ _ _
  intro v21 v22 s23
  refine j_iload_n 144 dX9_faultAsBarge_143 rfl rfl ?_
  refine j_if_eq 151 147 dX9_faultAsBarge_144 (by decide) rfl (fun c24 => ?_) (fun c24 => ?_)
  · refine j_aload_n 152 dX9_faultAsBarge_151 rfl rfl ?_
    refine s_getI 155 (txt_fa0 hq0) w_392 dX9_faultAsBarge_152 rfl ?_
    refine j_goto 160 dX9_faultAsBarge_155 (by decide) ?_
    exact s_iret dX9_faultAsBarge_160 rfl
  · refine j_iload_n 148 dX9_faultAsBarge_147 rfl rfl ?_
    refine j_if_eq 158 151 dX9_faultAsBarge_148 (by decide) rfl (fun c25 => ?_) (fun c25 => ?_)
    · refine j_bipush (v := (-9)) 160 dX9_faultAsBarge_158 rfl (by decide) ?_
      exact s_iret dX9_faultAsBarge_160 rfl
    · refine j_aload_n 152 dX9_faultAsBarge_151 rfl rfl ?_
      refine s_getI 155 (txt_fa0 hq0) w_392 dX9_faultAsBarge_152 rfl ?_
      refine j_goto 160 dX9_faultAsBarge_155 (by decide) ?_
      exact s_iret dX9_faultAsBarge_160 rfl
-- X9_postureByLetter
def fX9_postureByLetter  (a0 : Int32) (s : Mem) : Option (Int32 × Mem) :=
if a0 = 107 then
  some (2, s)
else if a0 = 115 then
  some (0, s)
else if a0 = 116 then
  some (1, s)
else 
  some ((-9), s)
theorem tX9_postureByLetter (Θ : Th) (l : Launch)  (a0 : Int32)  (s : Mem) : Cs Θ l mX9_postureByLetter 1 gI [vI a0] s (fX9_postureByLetter a0 s) := by
  refine ct_of (by decide) [some (vI a0)] rfl (Nat.le_of_ble_eq_true rfl) ?_
  unfold fX9_postureByLetter
  refine j_iload_n 1 dX9_postureByLetter_0 rfl rfl ?_
  refine j_ite (fun c1 => ?_) (fun c1 => ?_)
  · refine j_lookup 40 dX9_postureByLetter_1 rfl (by rw [c1]; rfl) (by decide : ((1 : Nat) : Int) + 39 = ((40 : Nat) : Int)) ?_
    refine j_iconst (v := 2) 41 dX9_postureByLetter_40 rfl (by decide) ?_
    exact s_iret dX9_postureByLetter_41 rfl
  refine j_ite (fun c2 => ?_) (fun c2 => ?_)
  · refine j_lookup 36 dX9_postureByLetter_1 rfl (by rw [c2]; rfl) (by decide : ((1 : Nat) : Int) + 35 = ((36 : Nat) : Int)) ?_
    refine j_iconst (v := 0) 37 dX9_postureByLetter_36 rfl (by decide) ?_
    exact s_iret dX9_postureByLetter_37 rfl
  refine j_ite (fun c3 => ?_) (fun c3 => ?_)
  · refine j_lookup 38 dX9_postureByLetter_1 rfl (by rw [c3]; rfl) (by decide : ((1 : Nat) : Int) + 37 = ((38 : Nat) : Int)) ?_
    refine j_iconst (v := 1) 39 dX9_postureByLetter_38 rfl (by decide) ?_
    exact s_iret dX9_postureByLetter_39 rfl
  refine j_lookup 42 dX9_postureByLetter_1 rfl (by show Op.lookupswitch.offset [(107, 39), (115, 35), (116, 37)] 41 _ = 41; rw [lv_osw c1 (by decide), lv_osw c2 (by decide), lv_osw c3 (by decide)]; rfl) (by decide : ((1 : Nat) : Int) + 41 = ((42 : Nat) : Int)) ?_
  refine j_bipush (v := (-9)) 44 dX9_postureByLetter_42 rfl (by decide) ?_
  exact s_iret dX9_postureByLetter_44 rfl
-- X9_faultAsRite
def fX9_faultAsRite_L4  (κ : Int32 → Mem → Option (Int32 × Mem)) (q0 : Nat) : Nat → Int32 → Int32 → Mem → Option (Int32 × Mem)
  | 0, _, _, _ => none
  | k + 1, x1, x2, s =>
    if x2 < (s.1 q0 0) then
      bnd (fX9_byteAt q0 x2 s) (fun r2 s3 =>
      bnd (fX9_postureByLetter r2 s3) (fun r4 s5 =>
      if r4 = (-9) then
        if r2 = 32 then
          fX9_faultAsRite_L4 κ q0 k x1 (x2 + 1) s5
        else
          some (x2, s5)
      else
        if x1 < 40 then
          fX9_faultAsRite_L4 κ q0 k (x1 + 1) (x2 + 1) s5
        else
          some (x2, s5)))
    else
      κ x1 s
def fX9_faultAsRite  (q0 : Nat) (s : Mem) : Option (Int32 × Mem) :=
fX9_faultAsRite_L4 (fun v9 s10 =>
  if v9 = 0 then
    some (s10.1 q0 0, s10)
  else
    some ((-9), s10)) q0 FU 0 0 s
theorem tX9_faultAsRite_L4 (Θ : Th) (l : Launch)  (κ : Int32 → Mem → Option (Int32 × Mem)) (q0 : Nat) (hq0 : kd q0 = 9) (hκ : ∀ (x1 : Int32) (s : Mem), Js Θ l mX9_faultAsRite 3 gI 55 [some (vR q0), some (vI x1), none, none] [] s (κ x1 s)) : ∀ (k : Nat) (x1 : Int32) (x2 : Int32) (s : Mem), Js Θ l mX9_faultAsRite 3 gI 4 [some (vR q0), some (vI x1), some (vI x2), none] [] s (fX9_faultAsRite_L4 κ q0 k x1 x2 s) := by
  intro k
  induction k with
  | zero => intro x1 x2 s; exact j_none
  | succ k ih =>
    intro x1 x2 s
    rw [fX9_faultAsRite_L4]
    refine j_iload_n 5 dX9_faultAsRite_4 rfl rfl ?_
    refine j_aload_n 6 dX9_faultAsRite_5 rfl rfl ?_
    refine s_getI 9 (txt_fa0 hq0) w_392 dX9_faultAsRite_6 rfl ?_
    refine j_icmp_ge 55 12 dX9_faultAsRite_9 (by decide) rfl (fun c1 => ?_) (fun c1 => ?_)
    · refine j_aload_n 13 dX9_faultAsRite_12 rfl rfl ?_
      refine j_iload_n 14 dX9_faultAsRite_13 rfl rfl ?_
      refine s_callVi (M2 := mX9_byteAt) [vI x2] 17 (txt_oa hq0) cc9 mkX9_byteAt w_552 dX9_faultAsRite_14 rfl rfl (tX9_byteAt Θ l _ _ hq0 _) (by first | exact Nat.le_of_ble_eq_true rfl | omega) (Nat.le_of_ble_eq_true rfl) (Nat.le_of_ble_eq_true rfl) (fun r2 s3 => ?_)
      refine j_istore_n (i := 3) (ls' := [some (vR q0), some (vI x1), some (vI x2), some (vI r2)]) 18 dX9_faultAsRite_17 rfl rfl (by decide) rfl rfl ?_
      refine j_iload_n 19 dX9_faultAsRite_18 rfl rfl ?_
      refine s_callSi (M2 := mX9_postureByLetter) [vI r2] 22 mkX9_postureByLetter (Or.inl w_557) dX9_faultAsRite_19 rfl rfl (tX9_postureByLetter Θ l _  _) (by first | exact Nat.le_of_ble_eq_true rfl | omega) (Nat.le_of_ble_eq_true rfl) (Nat.le_of_ble_eq_true rfl) (fun r4 s5 => ?_)
      refine j_bipush (v := (-9)) 24 dX9_faultAsRite_22 rfl (by decide) ?_
      refine j_icmp_eq 41 27 dX9_faultAsRite_24 (by decide) rfl (fun c6 => ?_) (fun c6 => ?_)
      · refine j_iload_n 42 dX9_faultAsRite_41 rfl rfl ?_
        refine j_bipush (v := 32) 44 dX9_faultAsRite_42 rfl (by decide) ?_
        refine j_icmp_eq 49 47 dX9_faultAsRite_44 (by decide) rfl (fun c7 => ?_) (fun c7 => ?_)
        · refine j_iinc (v := x2 + 1) (ls' := [some (vR q0), some (vI x1), some (vI (x2 + 1)), some (vI r2)]) 52 dX9_faultAsRite_49 rfl rfl rfl (by decide) rfl rfl ?_
          refine j_goto 4 dX9_faultAsRite_52 (by decide) ?_
          refine j_sub (ls' := [some (vR q0), some (vI x1), some (vI (x2 + 1)), none]) (And.intro rfl (And.intro rfl (And.intro rfl trivial))) ?_
          exact ih x1 (x2 + 1) s5
        · refine j_iload_n 48 dX9_faultAsRite_47 rfl rfl ?_
          exact s_iret dX9_faultAsRite_48 rfl
      · refine j_iload_n 28 dX9_faultAsRite_27 rfl rfl ?_
        refine j_bipush (v := 40) 30 dX9_faultAsRite_28 rfl (by decide) ?_
        refine j_icmp_lt 35 33 dX9_faultAsRite_30 (by decide) rfl (fun c8 => ?_) (fun c8 => ?_)
        · refine j_iinc (v := x1 + 1) (ls' := [some (vR q0), some (vI (x1 + 1)), some (vI x2), some (vI r2)]) 38 dX9_faultAsRite_35 rfl rfl rfl (by decide) rfl rfl ?_
          refine j_goto 49 dX9_faultAsRite_38 (by decide) ?_
          refine j_iinc (v := x2 + 1) (ls' := [some (vR q0), some (vI (x1 + 1)), some (vI (x2 + 1)), some (vI r2)]) 52 dX9_faultAsRite_49 rfl rfl rfl (by decide) rfl rfl ?_
          refine j_goto 4 dX9_faultAsRite_52 (by decide) ?_
          refine j_sub (ls' := [some (vR q0), some (vI (x1 + 1)), some (vI (x2 + 1)), none]) (And.intro rfl (And.intro rfl (And.intro rfl trivial))) ?_
          exact ih (x1 + 1) (x2 + 1) s5
        · refine j_iload_n 34 dX9_faultAsRite_33 rfl rfl ?_
          exact s_iret dX9_faultAsRite_34 rfl
    · refine j_sub (ls' := [some (vR q0), some (vI x1), none, none]) (And.intro rfl (And.intro rfl trivial)) ?_
      exact hκ x1 s
theorem tX9_faultAsRite (Θ : Th) (l : Launch)  (q0 : Nat) (hq0 : kd q0 = 9) (s : Mem) : Cs Θ l mX9_faultAsRite 3 gI [vR q0] s (fX9_faultAsRite q0 s) := by
  refine ct_of (by decide) [some (vR q0), none, none, none] rfl (Nat.le_of_ble_eq_true rfl) ?_
  unfold fX9_faultAsRite
  refine j_iconst (v := 0) 1 dX9_faultAsRite_0 rfl (by decide) ?_
  refine j_istore_n (i := 1) (ls' := [some (vR q0), some (vI 0), none, none]) 2 dX9_faultAsRite_1 rfl rfl (by decide) rfl rfl ?_
  refine j_iconst (v := 0) 3 dX9_faultAsRite_2 rfl (by decide) ?_
  refine j_istore_n (i := 2) (ls' := [some (vR q0), some (vI 0), some (vI 0), none]) 4 dX9_faultAsRite_3 rfl rfl (by decide) rfl rfl ?_
  refine j_sub (ls' := [some (vR q0), some (vI 0), some (vI 0), none]) (And.intro rfl (And.intro rfl (And.intro rfl trivial))) ?_
  refine tX9_faultAsRite_L4 Θ l _ _ hq0 ?_ _ _ _ _
  intro v9 s10
  refine j_iload_n 56 dX9_faultAsRite_55 rfl rfl ?_
  refine j_if_ne 66 59 dX9_faultAsRite_56 (by decide) rfl (fun c11 => ?_) (fun c11 => ?_)
  · refine j_aload_n 60 dX9_faultAsRite_59 rfl rfl ?_
    refine s_getI 63 (txt_fa0 hq0) w_392 dX9_faultAsRite_60 rfl ?_
    refine j_goto 68 dX9_faultAsRite_63 (by decide) ?_
    exact s_iret dX9_faultAsRite_68 rfl
  · refine j_bipush (v := (-9)) 68 dX9_faultAsRite_66 rfl (by decide) ?_
    exact s_iret dX9_faultAsRite_68 rfl
-- X11_fault
def fX11_fault  (a1 : Int32) (a2 : Int32) (s : Mem) : Option (Int32 × Mem) :=
bnd (fX11_textOf a1 s) (fun r1 s2 =>
if r1 = 0 then
  some ((-1), s2)
else
  if kd r1 = 9 then
  bnd (fX9_isMissing r1 s2) (fun r5 s6 =>
  if r5 = 0 then
    if a2 = 0 then
      bnd (fX9_faultAsBarge r1 s6) (fun r9 s10 =>
      some (r9, s10))
    else
      bnd (fX9_faultAsRite r1 s6) (fun r11 s12 =>
      some (r11, s12))
  else
    bnd (fX10_found 1 s6) (fun r13 s14 =>
    some (r13, s14)))
  else none)
theorem tX11_fault (Θ : Th) (l : Launch)  (a1 : Int32) (a2 : Int32)  (s : Mem) : Cs Θ l mX11_fault 4 gI [vR 1, vI a1, vI a2] s (fX11_fault a1 a2 s) := by
  refine ct_of (by decide) [some (vR 1), some (vI a1), some (vI a2), none] rfl (Nat.le_of_ble_eq_true rfl) ?_
  unfold fX11_fault
  refine j_aload_n 1 dX11_fault_0 rfl rfl ?_
  refine j_iload_n 2 dX11_fault_1 rfl rfl ?_
  refine s_callVr (M2 := mX11_textOf) [vI a1] 5 oa1 cc11 mkX11_textOf w_522 dX11_fault_2 rfl rfl (tX11_textOf Θ l _  _) (by first | exact Nat.le_of_ble_eq_true rfl | omega) (Nat.le_of_ble_eq_true rfl) (Nat.le_of_ble_eq_true rfl) (fun r1 s2 => ?_)
  refine j_astore_n (i := 3) (ls' := [some (vR 1), some (vI a1), some (vI a2), some (vR r1)]) 6 dX11_fault_5 rfl rfl (by decide) rfl rfl ?_
  refine j_aload_n 7 dX11_fault_6 rfl rfl ?_
  refine j_ifnonnull 12 10 dX11_fault_7 (by decide) rfl (fun c3 => ?_) (fun c3 => ?_)
  · refine j_iconst (v := (-1)) 11 dX11_fault_10 rfl (by decide) ?_
    exact s_iret dX11_fault_11 rfl
  · refine j_aload_n 13 dX11_fault_12 rfl rfl ?_
    refine j_ite (fun hk4 => ?_) (fun _ => j_none)
    refine s_callVi (M2 := mX9_isMissing) [] 16 (txt_oa hk4) cc9 mkX9_isMissing w_536 dX11_fault_13 rfl rfl (tX9_isMissing Θ l _ hk4 _) (by first | exact Nat.le_of_ble_eq_true rfl | omega) (Nat.le_of_ble_eq_true rfl) (Nat.le_of_ble_eq_true rfl) (fun r5 s6 => ?_)
    refine j_if_eq 28 19 dX11_fault_16 (by decide) rfl (fun c7 => ?_) (fun c7 => ?_)
    · refine j_iload_n 29 dX11_fault_28 rfl rfl ?_
      refine j_if_eq 39 32 dX11_fault_29 (by decide) rfl (fun c8 => ?_) (fun c8 => ?_)
      · refine j_aload_n 40 dX11_fault_39 rfl rfl ?_
        refine s_callVi (M2 := mX9_faultAsBarge) [] 43 (txt_oa hk4) cc9 mkX9_faultAsBarge w_560 dX11_fault_40 rfl rfl (tX9_faultAsBarge Θ l _ hk4 _) (by first | exact Nat.le_of_ble_eq_true rfl | omega) (Nat.le_of_ble_eq_true rfl) (Nat.le_of_ble_eq_true rfl) (fun r9 s10 => ?_)
        exact s_iret dX11_fault_43 rfl
      · refine j_aload_n 33 dX11_fault_32 rfl rfl ?_
        refine s_callVi (M2 := mX9_faultAsRite) [] 36 (txt_oa hk4) cc9 mkX9_faultAsRite w_548 dX11_fault_33 rfl rfl (tX9_faultAsRite Θ l _ hk4 _) (by first | exact Nat.le_of_ble_eq_true rfl | omega) (Nat.le_of_ble_eq_true rfl) (Nat.le_of_ble_eq_true rfl) (fun r11 s12 => ?_)
        refine j_goto 43 dX11_fault_36 (by decide) ?_
        exact s_iret dX11_fault_43 rfl
    · refine j_aload_n 20 dX11_fault_19 rfl rfl ?_
      refine s_getR (x := 2) 23 fa1_0 w_402 dX11_fault_20 rfl (by decide +kernel) ?_
      refine j_iconst (v := 1) 24 dX11_fault_23 rfl (by decide) ?_
      refine s_callVi (M2 := mX10_found) [vI 1] 27 oa2 cc10 mkX10_found w_444 dX11_fault_24 rfl rfl (tX10_found Θ l _  _) (by first | exact Nat.le_of_ble_eq_true rfl | omega) (Nat.le_of_ble_eq_true rfl) (Nat.le_of_ble_eq_true rfl) (fun r13 s14 => ?_)
      exact s_iret dX11_fault_27 rfl
-- X5_noteFoes
def fX5_noteFoes  (a1 : Int32) (a2 : Int32) (s : Mem) : Option (Unit × Mem) :=
bnd (fX11_isWithin a1 0 6 s) (fun r1 s2 =>
if r1 = 0 then
  some ((), s2)
else
  bnd (fX11_isWithin a2 0 6 s2) (fun r4 s5 =>
  if r4 = 0 then
    some ((), s5)
  else
    if inb a1 7 = true then
    if inb a1 7 = true then
    if inb a2 7 = true then
    if inb a2 7 = true then
    some ((), wI (wI s5 10 (ix a1) ((s5.1 10 (ix a1)) ||| ((1 : Int32) <<< (a2 &&& 31)))) 10 (ix a2) (((wI s5 10 (ix a1) ((s5.1 10 (ix a1)) ||| ((1 : Int32) <<< (a2 &&& 31)))).1 10 (ix a2)) ||| ((1 : Int32) <<< (a1 &&& 31))))
    else none
    else none
    else none
    else none))
theorem tX5_noteFoes (Θ : Th) (l : Launch)  (a1 : Int32) (a2 : Int32)  (s : Mem) : Cs Θ l mX5_noteFoes 2 gU [vR 7, vI a1, vI a2] s (fX5_noteFoes a1 a2 s) := by
  refine ct_of (by decide) [some (vR 7), some (vI a1), some (vI a2)] rfl (Nat.le_of_ble_eq_true rfl) ?_
  unfold fX5_noteFoes
  refine j_iload_n 1 dX5_noteFoes_0 rfl rfl ?_
  refine j_iconst (v := 0) 2 dX5_noteFoes_1 rfl (by decide) ?_
  refine j_bipush (v := 6) 4 dX5_noteFoes_2 rfl (by decide) ?_
  refine s_callSi (M2 := mX11_isWithin) [vI a1, vI 0, vI 6] 7 mkX11_isWithin (Or.inr ⟨_, w_594⟩) dX5_noteFoes_4 rfl rfl (tX11_isWithin Θ l _ _ _  _) (by first | exact Nat.le_of_ble_eq_true rfl | omega) (Nat.le_of_ble_eq_true rfl) (Nat.le_of_ble_eq_true rfl) (fun r1 s2 => ?_)
  refine j_if_eq 44 10 dX5_noteFoes_7 (by decide) rfl (fun c3 => ?_) (fun c3 => ?_)
  · exact s_ret dX5_noteFoes_44 rfl
  · refine j_iload_n 11 dX5_noteFoes_10 rfl rfl ?_
    refine j_iconst (v := 0) 12 dX5_noteFoes_11 rfl (by decide) ?_
    refine j_bipush (v := 6) 14 dX5_noteFoes_12 rfl (by decide) ?_
    refine s_callSi (M2 := mX11_isWithin) [vI a2, vI 0, vI 6] 17 mkX11_isWithin (Or.inr ⟨_, w_594⟩) dX5_noteFoes_14 rfl rfl (tX11_isWithin Θ l _ _ _  _) (by first | exact Nat.le_of_ble_eq_true rfl | omega) (Nat.le_of_ble_eq_true rfl) (Nat.le_of_ble_eq_true rfl) (fun r4 s5 => ?_)
    refine j_if_eq 44 20 dX5_noteFoes_17 (by decide) rfl (fun c6 => ?_) (fun c6 => ?_)
    · exact s_ret dX5_noteFoes_44 rfl
    · refine j_aload_n 21 dX5_noteFoes_20 rfl rfl ?_
      refine s_getR (x := 10) 24 fa7_3 w_146 dX5_noteFoes_21 rfl (by decide +kernel) ?_
      refine j_iload_n 25 dX5_noteFoes_24 rfl rfl ?_
      refine j_dup2 26 dX5_noteFoes_25 rfl rfl rfl ?_
      refine s_iaload 27 aa10 dX5_noteFoes_26 rfl (fun b7 => ?_)
      refine j_iconst (v := 1) 28 dX5_noteFoes_27 rfl (by decide) ?_
      refine j_iload_n 29 dX5_noteFoes_28 rfl rfl ?_
      refine j_ishl 30 dX5_noteFoes_29 rfl ?_
      refine j_ior 31 dX5_noteFoes_30 rfl ?_
      refine s_iastore 32 aa10 dX5_noteFoes_31 rfl (fun b8 => ?_)
      refine j_aload_n 33 dX5_noteFoes_32 rfl rfl ?_
      refine s_getR (x := 10) 36 fa7_3 w_146 dX5_noteFoes_33 rfl (by decide +kernel) ?_
      refine j_iload_n 37 dX5_noteFoes_36 rfl rfl ?_
      refine j_dup2 38 dX5_noteFoes_37 rfl rfl rfl ?_
      refine s_iaload 39 aa10 dX5_noteFoes_38 rfl (fun b9 => ?_)
      refine j_iconst (v := 1) 40 dX5_noteFoes_39 rfl (by decide) ?_
      refine j_iload_n 41 dX5_noteFoes_40 rfl rfl ?_
      refine j_ishl 42 dX5_noteFoes_41 rfl ?_
      refine j_ior 43 dX5_noteFoes_42 rfl ?_
      refine s_iastore 44 aa10 dX5_noteFoes_43 rfl (fun b10 => ?_)
      exact s_ret dX5_noteFoes_44 rfl
-- X5_cutTo
def fX5_cutTo_L18  (κ : Mem → Option (Unit × Mem))  : Nat → Int32 → Mem → Option (Unit × Mem)
  | 0, _, _ => none
  | k + 1, x2, s =>
    if x2 < 7 then
      if inb x2 7 = true then
      fX5_cutTo_L18 κ k (x2 + 1) (wI s 10 (ix x2) 0)
      else none
    else
      κ s
def fX5_cutTo_L39  (κ : Mem → Option (Unit × Mem))  : Nat → Int32 → Mem → Option (Unit × Mem)
  | 0, _, _ => none
  | k + 1, x2, s =>
    if x2 < (s.1 7 0) then
      if inb x2 8 = true then
      if inb x2 8 = true then
      bnd (fX5_noteFoes (s.1 8 (ix x2)) (s.1 9 (ix x2)) s) (fun r7 s8 =>
      fX5_cutTo_L39 κ k (x2 + 1) s8)
      else none
      else none
    else
      κ s
def fX5_cutTo  (a1 : Int32) (s : Mem) : Option (Unit × Mem) :=
fX5_cutTo_L18 (fun s3 =>
  fX5_cutTo_L39 (fun s9 =>
    some ((), s9))  FU 0 s3)  FU 0 (wI s 7 0 (mx 0 (mn (s.1 7 0) a1)))
theorem tX5_cutTo_L18 (Θ : Th) (l : Launch)  (κ : Mem → Option (Unit × Mem))   (hκ : ∀  (s : Mem), Js Θ l mX5_cutTo 3 gU 37 [some (vR 7), none, none] [] s (κ  s)) : ∀ (k : Nat) (x2 : Int32) (s : Mem), Js Θ l mX5_cutTo 3 gU 18 [some (vR 7), none, some (vI x2)] [] s (fX5_cutTo_L18 κ  k x2 s) := by
  intro k
  induction k with
  | zero => intro x2 s; exact j_none
  | succ k ih =>
    intro x2 s
    rw [fX5_cutTo_L18]
    refine j_iload_n 19 dX5_cutTo_18 rfl rfl ?_
    refine j_bipush (v := 7) 21 dX5_cutTo_19 rfl (by decide) ?_
    refine j_icmp_ge 37 24 dX5_cutTo_21 (by decide) rfl (fun c1 => ?_) (fun c1 => ?_)
    · refine j_aload_n 25 dX5_cutTo_24 rfl rfl ?_
      refine s_getR (x := 10) 28 fa7_3 w_146 dX5_cutTo_25 rfl (by decide +kernel) ?_
      refine j_iload_n 29 dX5_cutTo_28 rfl rfl ?_
      refine j_iconst (v := 0) 30 dX5_cutTo_29 rfl (by decide) ?_
      refine s_iastore 31 aa10 dX5_cutTo_30 rfl (fun b2 => ?_)
      refine j_iinc (v := x2 + 1) (ls' := [some (vR 7), none, some (vI (x2 + 1))]) 34 dX5_cutTo_31 rfl rfl rfl (by decide) rfl rfl ?_
      refine j_goto 18 dX5_cutTo_34 (by decide) ?_
      refine j_sub (ls' := [some (vR 7), none, some (vI (x2 + 1))]) (And.intro rfl (And.intro rfl trivial)) ?_
      exact ih (x2 + 1) (wI s 10 (ix x2) 0)
    · refine j_sub (ls' := [some (vR 7), none, none]) (And.intro rfl trivial) ?_
      exact hκ s
theorem tX5_cutTo_L39 (Θ : Th) (l : Launch)  (κ : Mem → Option (Unit × Mem))   (hκ : ∀  (s : Mem), Js Θ l mX5_cutTo 3 gU 69 [none, none, none] [] s (κ  s)) : ∀ (k : Nat) (x2 : Int32) (s : Mem), Js Θ l mX5_cutTo 3 gU 39 [some (vR 7), none, some (vI x2)] [] s (fX5_cutTo_L39 κ  k x2 s) := by
  intro k
  induction k with
  | zero => intro x2 s; exact j_none
  | succ k ih =>
    intro x2 s
    rw [fX5_cutTo_L39]
    refine j_iload_n 40 dX5_cutTo_39 rfl rfl ?_
    refine j_aload_n 41 dX5_cutTo_40 rfl rfl ?_
    refine s_getI 44 fa7_0 w_142 dX5_cutTo_41 rfl ?_
    refine j_icmp_ge 69 47 dX5_cutTo_44 (by decide) rfl (fun c4 => ?_) (fun c4 => ?_)
    · refine j_aload_n 48 dX5_cutTo_47 rfl rfl ?_
      refine j_aload_n 49 dX5_cutTo_48 rfl rfl ?_
      refine s_getR (x := 8) 52 fa7_1 w_144 dX5_cutTo_49 rfl (by decide +kernel) ?_
      refine j_iload_n 53 dX5_cutTo_52 rfl rfl ?_
      refine s_iaload 54 aa8 dX5_cutTo_53 rfl (fun b5 => ?_)
      refine j_aload_n 55 dX5_cutTo_54 rfl rfl ?_
      refine s_getR (x := 9) 58 fa7_2 w_145 dX5_cutTo_55 rfl (by decide +kernel) ?_
      refine j_iload_n 59 dX5_cutTo_58 rfl rfl ?_
      refine s_iaload 60 aa9 dX5_cutTo_59 rfl (fun b6 => ?_)
      refine s_callVu (M2 := mX5_noteFoes) [vI (s.1 8 (ix x2)), vI (s.1 9 (ix x2))] 63 oa7 cc5 mkX5_noteFoes w_590 dX5_cutTo_60 rfl rfl (tX5_noteFoes Θ l _ _  _) (by first | exact Nat.le_of_ble_eq_true rfl | omega) (Nat.le_of_ble_eq_true rfl) (Nat.le_of_ble_eq_true rfl) (fun r7 s8 => ?_)
      refine j_iinc (v := x2 + 1) (ls' := [some (vR 7), none, some (vI (x2 + 1))]) 66 dX5_cutTo_63 rfl rfl rfl (by decide) rfl rfl ?_
      refine j_goto 39 dX5_cutTo_66 (by decide) ?_
      refine j_sub (ls' := [some (vR 7), none, some (vI (x2 + 1))]) (And.intro rfl (And.intro rfl trivial)) ?_
      exact ih (x2 + 1) s8
    · refine j_sub (ls' := [none, none, none]) (trivial) ?_
      exact hκ s
theorem tX5_cutTo (Θ : Th) (l : Launch)  (a1 : Int32)  (s : Mem) : Cs Θ l mX5_cutTo 3 gU [vR 7, vI a1] s (fX5_cutTo a1 s) := by
  refine ct_of (by decide) [some (vR 7), some (vI a1), none] rfl (Nat.le_of_ble_eq_true rfl) ?_
  unfold fX5_cutTo
  refine j_aload_n 1 dX5_cutTo_0 rfl rfl ?_
  refine j_iconst (v := 0) 2 dX5_cutTo_1 rfl (by decide) ?_
  refine j_aload_n 3 dX5_cutTo_2 rfl rfl ?_
  refine s_getI 6 fa7_0 w_142 dX5_cutTo_3 rfl ?_
  refine j_iload_n 7 dX5_cutTo_6 rfl rfl ?_
  refine s_mmin 10 dX5_cutTo_7 rfl wm_588 wt_min wi_math wc_min (by first | exact Nat.le_of_ble_eq_true rfl | omega) (Nat.le_of_ble_eq_true rfl) ?_
  refine s_mmax 13 dX5_cutTo_10 rfl wm_589 wt_max wi_math wc_max (by first | exact Nat.le_of_ble_eq_true rfl | omega) (Nat.le_of_ble_eq_true rfl) ?_
  refine s_putI 16 fa7_0 w_142 dX5_cutTo_13 rfl ?_
  refine j_iconst (v := 0) 17 dX5_cutTo_16 rfl (by decide) ?_
  refine j_istore_n (i := 2) (ls' := [some (vR 7), some (vI a1), some (vI 0)]) 18 dX5_cutTo_17 rfl rfl (by decide) rfl rfl ?_
  refine j_sub (ls' := [some (vR 7), none, some (vI 0)]) (And.intro rfl (And.intro rfl trivial)) ?_
  refine tX5_cutTo_L18 Θ l _   ?_ _ _ _
  intro s3
  refine j_iconst (v := 0) 38 dX5_cutTo_37 rfl (by decide) ?_
  refine j_istore_n (i := 2) (ls' := [some (vR 7), none, some (vI 0)]) 39 dX5_cutTo_38 rfl rfl (by decide) rfl rfl ?_
  refine j_sub (ls' := [some (vR 7), none, some (vI 0)]) (And.intro rfl (And.intro rfl trivial)) ?_
  refine tX5_cutTo_L39 Θ l _   ?_ _ _ _
  intro s9
  exact s_ret dX5_cutTo_69 rfl
-- X0_clear
def fX0_clear   (s : Mem) : Option (Unit × Mem) :=
bnd (fX5_cutTo 0 (wI (wI (wI s 6 0 0) 6 1 0) 6 12 0)) (fun r1 s2 =>
some ((), s2))
theorem tX0_clear (Θ : Th) (l : Launch)    (s : Mem) : Cs Θ l mX0_clear 4 gU [vR 6] s (fX0_clear  s) := by
  refine ct_of (by decide) [some (vR 6)] rfl (Nat.le_of_ble_eq_true rfl) ?_
  unfold fX0_clear
  refine j_aload_n 1 dX0_clear_0 rfl rfl ?_
  refine j_iconst (v := 0) 2 dX0_clear_1 rfl (by decide) ?_
  refine s_putI 5 fa6_0 w_156 dX0_clear_2 rfl ?_
  refine j_aload_n 6 dX0_clear_5 rfl rfl ?_
  refine j_iconst (v := 0) 7 dX0_clear_6 rfl (by decide) ?_
  refine s_putI 10 fa6_1 w_160 dX0_clear_7 rfl ?_
  refine j_aload_n 11 dX0_clear_10 rfl rfl ?_
  refine j_iconst (v := 0) 12 dX0_clear_11 rfl (by decide) ?_
  refine s_putI 15 fa6_12 w_178 dX0_clear_12 rfl ?_
  refine j_aload_n 16 dX0_clear_15 rfl rfl ?_
  refine s_getR (x := 7) 19 fa6_4 w_168 dX0_clear_16 rfl (by decide +kernel) ?_
  refine j_iconst (v := 0) 20 dX0_clear_19 rfl (by decide) ?_
  refine s_callVu (M2 := mX5_cutTo) [vI 0] 23 oa7 cc5 mkX5_cutTo w_584 dX0_clear_20 rfl rfl (tX5_cutTo Θ l _  _) (by first | exact Nat.le_of_ble_eq_true rfl | omega) (Nat.le_of_ble_eq_true rfl) (Nat.le_of_ble_eq_true rfl) (fun r1 s2 => ?_)
  exact s_ret dX0_clear_23 rfl
-- X0_addBench
def fX0_addBench  (a1 : Int32) (s : Mem) : Option (Unit × Mem) :=
if (s.1 6 0) < 8 then
  if inb (s.1 6 0) 8 = true then
  if inb ((wI s 11 (ix (s.1 6 0)) a1).1 6 0) 8 = true then
  some ((), wI (wI (wI s 11 (ix (s.1 6 0)) a1) 12 (ix ((wI s 11 (ix (s.1 6 0)) a1).1 6 0)) 0) 6 0 (((wI (wI s 11 (ix (s.1 6 0)) a1) 12 (ix ((wI s 11 (ix (s.1 6 0)) a1).1 6 0)) 0).1 6 0) + 1))
  else none
  else none
else
  some ((), s)
theorem tX0_addBench (Θ : Th) (l : Launch)  (a1 : Int32)  (s : Mem) : Cs Θ l mX0_addBench 1 gU [vR 6, vI a1] s (fX0_addBench a1 s) := by
  refine ct_of (by decide) [some (vR 6), some (vI a1)] rfl (Nat.le_of_ble_eq_true rfl) ?_
  unfold fX0_addBench
  refine j_aload_n 1 dX0_addBench_0 rfl rfl ?_
  refine s_getI 4 fa6_0 w_156 dX0_addBench_1 rfl ?_
  refine j_bipush (v := 8) 6 dX0_addBench_4 rfl (by decide) ?_
  refine j_icmp_ge 39 9 dX0_addBench_6 (by decide) rfl (fun c1 => ?_) (fun c1 => ?_)
  · refine j_aload_n 10 dX0_addBench_9 rfl rfl ?_
    refine s_getR (x := 11) 13 fa6_5 w_171 dX0_addBench_10 rfl (by decide +kernel) ?_
    refine j_aload_n 14 dX0_addBench_13 rfl rfl ?_
    refine s_getI 17 fa6_0 w_156 dX0_addBench_14 rfl ?_
    refine j_iload_n 18 dX0_addBench_17 rfl rfl ?_
    refine s_iastore 19 aa11 dX0_addBench_18 rfl (fun b2 => ?_)
    refine j_aload_n 20 dX0_addBench_19 rfl rfl ?_
    refine s_getR (x := 12) 23 fa6_6 w_172 dX0_addBench_20 rfl (by decide +kernel) ?_
    refine j_aload_n 24 dX0_addBench_23 rfl rfl ?_
    refine s_getI 27 fa6_0 w_156 dX0_addBench_24 rfl ?_
    refine j_iconst (v := 0) 28 dX0_addBench_27 rfl (by decide) ?_
    refine s_iastore 29 aa12 dX0_addBench_28 rfl (fun b3 => ?_)
    refine j_aload_n 30 dX0_addBench_29 rfl rfl ?_
    refine j_dup 31 dX0_addBench_30 rfl rfl ?_
    refine s_getI 34 fa6_0 w_156 dX0_addBench_31 rfl ?_
    refine j_iconst (v := 1) 35 dX0_addBench_34 rfl (by decide) ?_
    refine j_iadd 36 dX0_addBench_35 rfl ?_
    refine s_putI 39 fa6_0 w_156 dX0_addBench_36 rfl ?_
    exact s_ret dX0_addBench_39 rfl
  · exact s_ret dX0_addBench_39 rfl
-- X9_figureAt
def fX9_figureAt  (q0 : Nat) (a1 : Int32) (s : Mem) : Option (Int32 × Mem) :=
bnd (fX9_byteAt q0 a1 s) (fun r1 s2 =>
some (r1 - 48, s2))
theorem tX9_figureAt (Θ : Th) (l : Launch)  (q0 : Nat) (a1 : Int32) (hq0 : kd q0 = 9) (s : Mem) : Cs Θ l mX9_figureAt 3 gI [vR q0, vI a1] s (fX9_figureAt q0 a1 s) := by
  refine ct_of (by decide) [some (vR q0), some (vI a1)] rfl (Nat.le_of_ble_eq_true rfl) ?_
  unfold fX9_figureAt
  refine j_aload_n 1 dX9_figureAt_0 rfl rfl ?_
  refine j_iload_n 2 dX9_figureAt_1 rfl rfl ?_
  refine s_callVi (M2 := mX9_byteAt) [vI a1] 5 (txt_oa hq0) cc9 mkX9_byteAt w_552 dX9_figureAt_2 rfl rfl (tX9_byteAt Θ l _ _ hq0 _) (by first | exact Nat.le_of_ble_eq_true rfl | omega) (Nat.le_of_ble_eq_true rfl) (Nat.le_of_ble_eq_true rfl) (fun r1 s2 => ?_)
  refine j_bipush (v := 48) 7 dX9_figureAt_5 rfl (by decide) ?_
  refine j_isub 8 dX9_figureAt_7 rfl ?_
  exact s_iret dX9_figureAt_8 rfl
-- X0_ofKind_901
def fX0_ofKind_901  (a1 : Int32) (s : Mem) : Option (Int32 × Mem) :=
if a1 < 0 then
  some (0, s)
else
  if a1 < 6 then
    if inb a1 6 = true then
    some (stc 0 (ix a1), s)
    else none
  else
    some (0, s)
theorem tX0_ofKind_901 (Θ : Th) (l : Launch)  (a1 : Int32)  (s : Mem) : Cs Θ l mX0_ofKind 1 gI [vR 901, vI a1] s (fX0_ofKind_901 a1 s) := by
  refine ct_of (by decide) [some (vR 901), some (vI a1)] rfl (Nat.le_of_ble_eq_true rfl) ?_
  unfold fX0_ofKind_901
  refine j_iload_n 1 dX0_ofKind_0 rfl rfl ?_
  refine j_if_lt 16 4 dX0_ofKind_1 (by decide) rfl (fun c1 => ?_) (fun c1 => ?_)
  · refine j_iconst (v := 0) 17 dX0_ofKind_16 rfl (by decide) ?_
    exact s_iret dX0_ofKind_17 rfl
  · refine j_iload_n 5 dX0_ofKind_4 rfl rfl ?_
    refine j_aload_n 6 dX0_ofKind_5 rfl rfl ?_
    refine j_alenS (t := 0) 7 dX0_ofKind_6 rfl (by decide) ?_
    refine j_icmp_ge 16 10 dX0_ofKind_7 (by decide) rfl (fun c2 => ?_) (fun c2 => ?_)
    · refine j_aload_n 11 dX0_ofKind_10 rfl rfl ?_
      refine j_iload_n 12 dX0_ofKind_11 rfl rfl ?_
      refine j_ialoadS (t := 0) 13 dX0_ofKind_12 rfl (by decide) (fun b3 => ?_)
      refine j_goto 17 dX0_ofKind_13 (by decide) ?_
      exact s_iret dX0_ofKind_17 rfl
    · refine j_iconst (v := 0) 17 dX0_ofKind_16 rfl (by decide) ?_
      exact s_iret dX0_ofKind_17 rfl
-- X0_ofKind_902
def fX0_ofKind_902  (a1 : Int32) (s : Mem) : Option (Int32 × Mem) :=
if a1 < 0 then
  some (0, s)
else
  if a1 < 6 then
    if inb a1 6 = true then
    some (stc 1 (ix a1), s)
    else none
  else
    some (0, s)
theorem tX0_ofKind_902 (Θ : Th) (l : Launch)  (a1 : Int32)  (s : Mem) : Cs Θ l mX0_ofKind 1 gI [vR 902, vI a1] s (fX0_ofKind_902 a1 s) := by
  refine ct_of (by decide) [some (vR 902), some (vI a1)] rfl (Nat.le_of_ble_eq_true rfl) ?_
  unfold fX0_ofKind_902
  refine j_iload_n 1 dX0_ofKind_0 rfl rfl ?_
  refine j_if_lt 16 4 dX0_ofKind_1 (by decide) rfl (fun c1 => ?_) (fun c1 => ?_)
  · refine j_iconst (v := 0) 17 dX0_ofKind_16 rfl (by decide) ?_
    exact s_iret dX0_ofKind_17 rfl
  · refine j_iload_n 5 dX0_ofKind_4 rfl rfl ?_
    refine j_aload_n 6 dX0_ofKind_5 rfl rfl ?_
    refine j_alenS (t := 1) 7 dX0_ofKind_6 rfl (by decide) ?_
    refine j_icmp_ge 16 10 dX0_ofKind_7 (by decide) rfl (fun c2 => ?_) (fun c2 => ?_)
    · refine j_aload_n 11 dX0_ofKind_10 rfl rfl ?_
      refine j_iload_n 12 dX0_ofKind_11 rfl rfl ?_
      refine j_ialoadS (t := 1) 13 dX0_ofKind_12 rfl (by decide) (fun b3 => ?_)
      refine j_goto 17 dX0_ofKind_13 (by decide) ?_
      exact s_iret dX0_ofKind_17 rfl
    · refine j_iconst (v := 0) 17 dX0_ofKind_16 rfl (by decide) ?_
      exact s_iret dX0_ofKind_17 rfl
-- X0_farOut
def fX0_farOut  (a0 : Int32) (a1 : Int32) (a2 : Int32) (s : Mem) : Option (Int32 × Mem) :=
nm (ab a1) (fun v1 =>
if v1 = 0 then
  some (v1, s)
else
  if a2 = 0 then
    some (v1, s)
  else
    if a2 = 1 then
      bnd (fX0_ofKind_901 a0 s) (fun r5 s6 =>
      some (v1 + r5, s6))
    else
      bnd (fX0_ofKind_902 a0 s) (fun r7 s8 =>
      some (mx 0 (v1 - r7), s8)))
theorem tX0_farOut (Θ : Th) (l : Launch)  (a0 : Int32) (a1 : Int32) (a2 : Int32)  (s : Mem) : Cs Θ l mX0_farOut 2 gI [vI a0, vI a1, vI a2] s (fX0_farOut a0 a1 a2 s) := by
  refine ct_of (by decide) [some (vI a0), some (vI a1), some (vI a2), none] rfl (Nat.le_of_ble_eq_true rfl) ?_
  unfold fX0_farOut
  refine j_iload_n 1 dX0_farOut_0 rfl rfl ?_
  refine s_mabs 4 dX0_farOut_1 rfl wm_614 wt_abs wi_math wc_abs (by first | exact Nat.le_of_ble_eq_true rfl | omega) (Nat.le_of_ble_eq_true rfl) ?_
  refine s_nmI (fun v1 => ?_)
  refine j_istore_n (i := 3) (ls' := [some (vI a0), some (vI a1), some (vI a2), some (vI v1)]) 5 dX0_farOut_4 rfl rfl (by decide) rfl rfl ?_
  refine j_iload_n 6 dX0_farOut_5 rfl rfl ?_
  refine j_if_eq 13 9 dX0_farOut_6 (by decide) rfl (fun c2 => ?_) (fun c2 => ?_)
  · refine j_iload_n 14 dX0_farOut_13 rfl rfl ?_
    exact s_iret dX0_farOut_14 rfl
  · refine j_iload_n 10 dX0_farOut_9 rfl rfl ?_
    refine j_if_ne 15 13 dX0_farOut_10 (by decide) rfl (fun c3 => ?_) (fun c3 => ?_)
    · refine j_iload_n 14 dX0_farOut_13 rfl rfl ?_
      exact s_iret dX0_farOut_14 rfl
    · refine j_iload_n 16 dX0_farOut_15 rfl rfl ?_
      refine j_iconst (v := 1) 17 dX0_farOut_16 rfl (by decide) ?_
      refine j_icmp_ne 30 20 dX0_farOut_17 (by decide) rfl (fun c4 => ?_) (fun c4 => ?_)
      · refine j_iload_n 21 dX0_farOut_20 rfl rfl ?_
        refine j_getstatic (t := 0) 24 dX0_farOut_21 rfl (by decide) w_617 ?_
        refine j_iload_n 25 dX0_farOut_24 rfl rfl ?_
        refine s_callSi (M2 := mX0_ofKind) [vR 901, vI a0] 28 mkX0_ofKind (Or.inl w_619) dX0_farOut_25 rfl rfl (tX0_ofKind_901 Θ l _  _) (by first | exact Nat.le_of_ble_eq_true rfl | omega) (Nat.le_of_ble_eq_true rfl) (Nat.le_of_ble_eq_true rfl) (fun r5 s6 => ?_)
        refine j_iadd 29 dX0_farOut_28 rfl ?_
        exact s_iret dX0_farOut_29 rfl
      · refine j_iconst (v := 0) 31 dX0_farOut_30 rfl (by decide) ?_
        refine j_iload_n 32 dX0_farOut_31 rfl rfl ?_
        refine j_getstatic (t := 1) 35 dX0_farOut_32 rfl (by decide) w_622 ?_
        refine j_iload_n 36 dX0_farOut_35 rfl rfl ?_
        refine s_callSi (M2 := mX0_ofKind) [vR 902, vI a0] 39 mkX0_ofKind (Or.inl w_619) dX0_farOut_36 rfl rfl (tX0_ofKind_902 Θ l _  _) (by first | exact Nat.le_of_ble_eq_true rfl | omega) (Nat.le_of_ble_eq_true rfl) (Nat.le_of_ble_eq_true rfl) (fun r7 s8 => ?_)
        refine j_isub 40 dX0_farOut_39 rfl ?_
        refine s_mmax 43 dX0_farOut_40 rfl wm_624 wt_max wi_math wc_max (by first | exact Nat.le_of_ble_eq_true rfl | omega) (Nat.le_of_ble_eq_true rfl) ?_
        exact s_iret dX0_farOut_43 rfl
-- X0_momentPlace
def fX0_momentPlace  (a0 : Int32) (a1 : Int32) (a2 : Int32) (s : Mem) : Option (Int32 × Mem) :=
some ((((a0 * 8) + a1) * 3) + a2, s)
theorem tX0_momentPlace (Θ : Th) (l : Launch)  (a0 : Int32) (a1 : Int32) (a2 : Int32)  (s : Mem) : Cs Θ l mX0_momentPlace 1 gI [vI a0, vI a1, vI a2] s (fX0_momentPlace a0 a1 a2 s) := by
  refine ct_of (by decide) [some (vI a0), some (vI a1), some (vI a2)] rfl (Nat.le_of_ble_eq_true rfl) ?_
  unfold fX0_momentPlace
  refine j_iload_n 1 dX0_momentPlace_0 rfl rfl ?_
  refine j_bipush (v := 8) 3 dX0_momentPlace_1 rfl (by decide) ?_
  refine j_imul 4 dX0_momentPlace_3 rfl ?_
  refine j_iload_n 5 dX0_momentPlace_4 rfl rfl ?_
  refine j_iadd 6 dX0_momentPlace_5 rfl ?_
  refine j_iconst (v := 3) 7 dX0_momentPlace_6 rfl (by decide) ?_
  refine j_imul 8 dX0_momentPlace_7 rfl ?_
  refine j_iload_n 9 dX0_momentPlace_8 rfl rfl ?_
  refine j_iadd 10 dX0_momentPlace_9 rfl ?_
  exact s_iret dX0_momentPlace_10 rfl
-- X0_isGuest
def fX0_isGuest  (a1 : Int32) (s : Mem) : Option (Int32 × Mem) :=
if a1 < 0 then
  some (0, s)
else
  if a1 < (s.1 6 1) then
    some (1, s)
  else
    some (0, s)
theorem tX0_isGuest (Θ : Th) (l : Launch)  (a1 : Int32)  (s : Mem) : Cs Θ l mX0_isGuest 1 gI [vR 6, vI a1] s (fX0_isGuest a1 s) := by
  refine ct_of (by decide) [some (vR 6), some (vI a1)] rfl (Nat.le_of_ble_eq_true rfl) ?_
  unfold fX0_isGuest
  refine j_iload_n 1 dX0_isGuest_0 rfl rfl ?_
  refine j_if_lt 16 4 dX0_isGuest_1 (by decide) rfl (fun c1 => ?_) (fun c1 => ?_)
  · refine j_iconst (v := 0) 17 dX0_isGuest_16 rfl (by decide) ?_
    exact s_zret dX0_isGuest_17 rfl (by decide)
  · refine j_iload_n 5 dX0_isGuest_4 rfl rfl ?_
    refine j_aload_n 6 dX0_isGuest_5 rfl rfl ?_
    refine s_getI 9 fa6_1 w_160 dX0_isGuest_6 rfl ?_
    refine j_icmp_ge 16 12 dX0_isGuest_9 (by decide) rfl (fun c2 => ?_) (fun c2 => ?_)
    · refine j_iconst (v := 1) 13 dX0_isGuest_12 rfl (by decide) ?_
      refine j_goto 17 dX0_isGuest_13 (by decide) ?_
      exact s_zret dX0_isGuest_17 rfl (by decide)
    · refine j_iconst (v := 0) 17 dX0_isGuest_16 rfl (by decide) ?_
      exact s_zret dX0_isGuest_17 rfl (by decide)
-- X0_weightOf
def fX0_weightOf  (a1 : Int32) (s : Mem) : Option (Int32 × Mem) :=
bnd (fX0_isGuest a1 s) (fun r1 s2 =>
if r1 = 0 then
  some (0, s2)
else
  if inb a1 7 = true then
  some (s2.1 14 (ix a1), s2)
  else none)
theorem tX0_weightOf (Θ : Th) (l : Launch)  (a1 : Int32)  (s : Mem) : Cs Θ l mX0_weightOf 2 gI [vR 6, vI a1] s (fX0_weightOf a1 s) := by
  refine ct_of (by decide) [some (vR 6), some (vI a1)] rfl (Nat.le_of_ble_eq_true rfl) ?_
  unfold fX0_weightOf
  refine j_aload_n 1 dX0_weightOf_0 rfl rfl ?_
  refine j_iload_n 2 dX0_weightOf_1 rfl rfl ?_
  refine s_callVi (M2 := mX0_isGuest) [vI a1] 5 oa6 cc0 mkX0_isGuest w_636 dX0_weightOf_2 rfl rfl (tX0_isGuest Θ l _  _) (by first | exact Nat.le_of_ble_eq_true rfl | omega) (Nat.le_of_ble_eq_true rfl) (Nat.le_of_ble_eq_true rfl) (fun r1 s2 => ?_)
  refine j_if_eq 17 8 dX0_weightOf_5 (by decide) rfl (fun c3 => ?_) (fun c3 => ?_)
  · refine j_iconst (v := 0) 18 dX0_weightOf_17 rfl (by decide) ?_
    exact s_iret dX0_weightOf_18 rfl
  · refine j_aload_n 9 dX0_weightOf_8 rfl rfl ?_
    refine s_getR (x := 14) 12 fa6_8 w_174 dX0_weightOf_9 rfl (by decide +kernel) ?_
    refine j_iload_n 13 dX0_weightOf_12 rfl rfl ?_
    refine s_iaload 14 aa14 dX0_weightOf_13 rfl (fun b4 => ?_)
    refine j_goto 18 dX0_weightOf_14 (by decide) ?_
    exact s_iret dX0_weightOf_18 rfl
-- X0_kindOf
def fX0_kindOf  (a1 : Int32) (s : Mem) : Option (Int32 × Mem) :=
bnd (fX0_isGuest a1 s) (fun r1 s2 =>
if r1 = 0 then
  some (0, s2)
else
  if inb a1 7 = true then
  some (s2.1 13 (ix a1), s2)
  else none)
theorem tX0_kindOf (Θ : Th) (l : Launch)  (a1 : Int32)  (s : Mem) : Cs Θ l mX0_kindOf 2 gI [vR 6, vI a1] s (fX0_kindOf a1 s) := by
  refine ct_of (by decide) [some (vR 6), some (vI a1)] rfl (Nat.le_of_ble_eq_true rfl) ?_
  unfold fX0_kindOf
  refine j_aload_n 1 dX0_kindOf_0 rfl rfl ?_
  refine j_iload_n 2 dX0_kindOf_1 rfl rfl ?_
  refine s_callVi (M2 := mX0_isGuest) [vI a1] 5 oa6 cc0 mkX0_isGuest w_636 dX0_kindOf_2 rfl rfl (tX0_isGuest Θ l _  _) (by first | exact Nat.le_of_ble_eq_true rfl | omega) (Nat.le_of_ble_eq_true rfl) (Nat.le_of_ble_eq_true rfl) (fun r1 s2 => ?_)
  refine j_if_eq 17 8 dX0_kindOf_5 (by decide) rfl (fun c3 => ?_) (fun c3 => ?_)
  · refine j_iconst (v := 0) 18 dX0_kindOf_17 rfl (by decide) ?_
    exact s_iret dX0_kindOf_18 rfl
  · refine j_aload_n 9 dX0_kindOf_8 rfl rfl ?_
    refine s_getR (x := 13) 12 fa6_7 w_173 dX0_kindOf_9 rfl (by decide +kernel) ?_
    refine j_iload_n 13 dX0_kindOf_12 rfl rfl ?_
    refine s_iaload 14 aa13 dX0_kindOf_13 rfl (fun b4 => ?_)
    refine j_goto 18 dX0_kindOf_14 (by decide) ?_
    exact s_iret dX0_kindOf_18 rfl
-- X0_ofKind_903
def fX0_ofKind_903  (a1 : Int32) (s : Mem) : Option (Int32 × Mem) :=
if a1 < 0 then
  some (0, s)
else
  if a1 < 6 then
    if inb a1 6 = true then
    some (stc 2 (ix a1), s)
    else none
  else
    some (0, s)
theorem tX0_ofKind_903 (Θ : Th) (l : Launch)  (a1 : Int32)  (s : Mem) : Cs Θ l mX0_ofKind 1 gI [vR 903, vI a1] s (fX0_ofKind_903 a1 s) := by
  refine ct_of (by decide) [some (vR 903), some (vI a1)] rfl (Nat.le_of_ble_eq_true rfl) ?_
  unfold fX0_ofKind_903
  refine j_iload_n 1 dX0_ofKind_0 rfl rfl ?_
  refine j_if_lt 16 4 dX0_ofKind_1 (by decide) rfl (fun c1 => ?_) (fun c1 => ?_)
  · refine j_iconst (v := 0) 17 dX0_ofKind_16 rfl (by decide) ?_
    exact s_iret dX0_ofKind_17 rfl
  · refine j_iload_n 5 dX0_ofKind_4 rfl rfl ?_
    refine j_aload_n 6 dX0_ofKind_5 rfl rfl ?_
    refine j_alenS (t := 2) 7 dX0_ofKind_6 rfl (by decide) ?_
    refine j_icmp_ge 16 10 dX0_ofKind_7 (by decide) rfl (fun c2 => ?_) (fun c2 => ?_)
    · refine j_aload_n 11 dX0_ofKind_10 rfl rfl ?_
      refine j_iload_n 12 dX0_ofKind_11 rfl rfl ?_
      refine j_ialoadS (t := 2) 13 dX0_ofKind_12 rfl (by decide) (fun b3 => ?_)
      refine j_goto 17 dX0_ofKind_13 (by decide) ?_
      exact s_iret dX0_ofKind_17 rfl
    · refine j_iconst (v := 0) 17 dX0_ofKind_16 rfl (by decide) ?_
      exact s_iret dX0_ofKind_17 rfl
-- X0_weighs
def fX0_weighs  (a1 : Int32) (s : Mem) : Option (Int32 × Mem) :=
bnd (fX0_weightOf a1 s) (fun r1 s2 =>
bnd (fX0_kindOf a1 s2) (fun r3 s4 =>
bnd (fX0_ofKind_903 r3 s4) (fun r5 s6 =>
some (r1 * r5, s6))))
theorem tX0_weighs (Θ : Th) (l : Launch)  (a1 : Int32)  (s : Mem) : Cs Θ l mX0_weighs 3 gI [vR 6, vI a1] s (fX0_weighs a1 s) := by
  refine ct_of (by decide) [some (vR 6), some (vI a1)] rfl (Nat.le_of_ble_eq_true rfl) ?_
  unfold fX0_weighs
  refine j_aload_n 1 dX0_weighs_0 rfl rfl ?_
  refine j_iload_n 2 dX0_weighs_1 rfl rfl ?_
  refine s_callVi (M2 := mX0_weightOf) [vI a1] 5 oa6 cc0 mkX0_weightOf w_632 dX0_weighs_2 rfl rfl (tX0_weightOf Θ l _  _) (by first | exact Nat.le_of_ble_eq_true rfl | omega) (Nat.le_of_ble_eq_true rfl) (Nat.le_of_ble_eq_true rfl) (fun r1 s2 => ?_)
  refine j_getstatic (t := 2) 8 dX0_weighs_5 rfl (by decide) w_640 ?_
  refine j_aload_n 9 dX0_weighs_8 rfl rfl ?_
  refine j_iload_n 10 dX0_weighs_9 rfl rfl ?_
  refine s_callVi (M2 := mX0_kindOf) [vI a1] 13 oa6 cc0 mkX0_kindOf w_642 dX0_weighs_10 rfl rfl (tX0_kindOf Θ l _  _) (by first | exact Nat.le_of_ble_eq_true rfl | omega) (Nat.le_of_ble_eq_true rfl) (Nat.le_of_ble_eq_true rfl) (fun r3 s4 => ?_)
  refine s_callSi (M2 := mX0_ofKind) [vR 903, vI r3] 16 mkX0_ofKind (Or.inl w_619) dX0_weighs_13 rfl rfl (tX0_ofKind_903 Θ l _  _) (by first | exact Nat.le_of_ble_eq_true rfl | omega) (Nat.le_of_ble_eq_true rfl) (Nat.le_of_ble_eq_true rfl) (fun r5 s6 => ?_)
  refine j_imul 17 dX0_weighs_16 rfl ?_
  exact s_iret dX0_weighs_17 rfl
-- X0_addGuest
def fX0_addGuest_L92  (κ : Mem → Option (Unit × Mem)) (y1 : Int32) (y4 : Int32) (y5 : Int32) : Nat → Int32 → Mem → Option (Unit × Mem)
  | 0, _, _ => none
  | k + 1, x6, s =>
    if x6 < 3 then
      if inb y5 8 = true then
      bnd (fX0_farOut y1 (s.1 11 (ix y5)) x6 s) (fun r11 s12 =>
      bnd (fX0_momentPlace y4 y5 x6 s12) (fun r13 s14 =>
      bnd (fX0_weighs y4 s14) (fun r15 s16 =>
      if inb y5 8 = true then
      if (s16.1 11 (ix y5)) < 0 then
        if inb r13 168 = true then
        fX0_addGuest_L92 κ y1 y4 y5 k (x6 + 1) (wI s16 17 (ix r13) (r15 * (0 - r11)))
        else none
      else
        if inb r13 168 = true then
        fX0_addGuest_L92 κ y1 y4 y5 k (x6 + 1) (wI s16 17 (ix r13) (r15 * r11))
        else none
      else none)))
      else none
    else
      κ s
def fX0_addGuest_L80  (κ : Mem → Option (Unit × Mem)) (y1 : Int32) (y4 : Int32) : Nat → Int32 → Mem → Option (Unit × Mem)
  | 0, _, _ => none
  | k + 1, x5, s =>
    if x5 < (s.1 6 0) then
      fX0_addGuest_L92 (fun s21 =>
        fX0_addGuest_L80 κ y1 y4 k (x5 + 1) s21) y1 y4 x5 FU 0 s
    else
      κ s
def fX0_addGuest  (a1 : Int32) (a2 : Int32) (a3 : Int32) (s : Mem) : Option (Unit × Mem) :=
if (s.1 6 1) < 7 then
  nm (s.1 6 1) (fun v2 =>
  if inb v2 7 = true then
  if inb v2 7 = true then
  if inb v2 7 = true then
  if inb v2 7 = true then
  if a1 = 3 then
    fX0_addGuest_L80 (fun s22 =>
      some ((), s22)) a1 v2 FU 0 (wI (wI (wI (wI (wI s 6 1 ((s.1 6 1) + 1)) 13 (ix v2) a1) 14 (ix v2) a2) 15 (ix v2) a3) 16 (ix v2) (-9))
  else
    fX0_addGuest_L80 (fun s23 =>
      some ((), s23)) a1 v2 FU 0 (wI (wI (wI (wI (wI (wI s 6 1 ((s.1 6 1) + 1)) 13 (ix v2) a1) 14 (ix v2) a2) 15 (ix v2) a3) 16 (ix v2) (-9)) 6 12 (((wI (wI (wI (wI (wI s 6 1 ((s.1 6 1) + 1)) 13 (ix v2) a1) 14 (ix v2) a2) 15 (ix v2) a3) 16 (ix v2) (-9)).1 6 12) ||| ((1 : Int32) <<< (v2 &&& 31))))
  else none
  else none
  else none
  else none)
else
  some ((), s)
theorem tX0_addGuest_L92 (Θ : Th) (l : Launch)  (κ : Mem → Option (Unit × Mem)) (y1 : Int32) (y4 : Int32) (y5 : Int32)  (hκ : ∀  (s : Mem), Js Θ l mX0_addGuest 4 gU 158 [some (vR 6), some (vI y1), none, none, some (vI y4), some (vI y5), none, none] [] s (κ  s)) : ∀ (k : Nat) (x6 : Int32) (s : Mem), Js Θ l mX0_addGuest 4 gU 92 [some (vR 6), some (vI y1), none, none, some (vI y4), some (vI y5), some (vI x6), none] [] s (fX0_addGuest_L92 κ y1 y4 y5 k x6 s) := by
  intro k
  induction k with
  | zero => intro x6 s; exact j_none
  | succ k ih =>
    intro x6 s
    rw [fX0_addGuest_L92]
    refine j_iload 94 dX0_addGuest_92 rfl rfl ?_
    refine j_iconst (v := 3) 95 dX0_addGuest_94 rfl (by decide) ?_
    refine j_icmp_ge 158 98 dX0_addGuest_95 (by decide) rfl (fun c9 => ?_) (fun c9 => ?_)
    · refine j_iload_n 99 dX0_addGuest_98 rfl rfl ?_
      refine j_aload_n 100 dX0_addGuest_99 rfl rfl ?_
      refine s_getR (x := 11) 103 fa6_5 w_171 dX0_addGuest_100 rfl (by decide +kernel) ?_
      refine j_iload 105 dX0_addGuest_103 rfl rfl ?_
      refine s_iaload 106 aa11 dX0_addGuest_105 rfl (fun b10 => ?_)
      refine j_iload 108 dX0_addGuest_106 rfl rfl ?_
      refine s_callSi (M2 := mX0_farOut) [vI y1, vI (s.1 11 (ix y5)), vI x6] 111 mkX0_farOut (Or.inl w_611) dX0_addGuest_108 rfl rfl (tX0_farOut Θ l _ _ _  _) (by first | exact Nat.le_of_ble_eq_true rfl | omega) (Nat.le_of_ble_eq_true rfl) (Nat.le_of_ble_eq_true rfl) (fun r11 s12 => ?_)
      refine j_istore (i := 7) (ls' := [some (vR 6), some (vI y1), none, none, some (vI y4), some (vI y5), some (vI x6), some (vI r11)]) 113 dX0_addGuest_111 rfl (by decide) rfl rfl ?_
      refine j_aload_n 114 dX0_addGuest_113 rfl rfl ?_
      refine s_getR (x := 17) 117 fa6_11 w_177 dX0_addGuest_114 rfl (by decide +kernel) ?_
      refine j_iload 119 dX0_addGuest_117 rfl rfl ?_
      refine j_iload 121 dX0_addGuest_119 rfl rfl ?_
      refine j_iload 123 dX0_addGuest_121 rfl rfl ?_
      refine s_callSi (M2 := mX0_momentPlace) [vI y4, vI y5, vI x6] 126 mkX0_momentPlace (Or.inl w_625) dX0_addGuest_123 rfl rfl (tX0_momentPlace Θ l _ _ _  _) (by first | exact Nat.le_of_ble_eq_true rfl | omega) (Nat.le_of_ble_eq_true rfl) (Nat.le_of_ble_eq_true rfl) (fun r13 s14 => ?_)
      refine j_aload_n 127 dX0_addGuest_126 rfl rfl ?_
      refine j_iload 129 dX0_addGuest_127 rfl rfl ?_
      refine s_callVi (M2 := mX0_weighs) [vI y4] 132 oa6 cc0 mkX0_weighs w_628 dX0_addGuest_129 rfl rfl (tX0_weighs Θ l _  _) (by first | exact Nat.le_of_ble_eq_true rfl | omega) (Nat.le_of_ble_eq_true rfl) (Nat.le_of_ble_eq_true rfl) (fun r15 s16 => ?_)
      refine j_aload_n 133 dX0_addGuest_132 rfl rfl ?_
      refine s_getR (x := 11) 136 fa6_5 w_171 dX0_addGuest_133 rfl (by decide +kernel) ?_
      refine j_iload 138 dX0_addGuest_136 rfl rfl ?_
      refine s_iaload 139 aa11 dX0_addGuest_138 rfl (fun b17 => ?_)
      refine j_if_ge 148 142 dX0_addGuest_139 (by decide) rfl (fun c18 => ?_) (fun c18 => ?_)
      · refine j_iload 144 dX0_addGuest_142 rfl rfl ?_
        refine j_ineg 145 dX0_addGuest_144 rfl ?_
        refine j_goto 150 dX0_addGuest_145 (by decide) ?_
        refine j_imul 151 dX0_addGuest_150 rfl ?_
        refine s_iastore 152 aa17 dX0_addGuest_151 rfl (fun b19 => ?_)
        refine j_iinc (v := x6 + 1) (ls' := [some (vR 6), some (vI y1), none, none, some (vI y4), some (vI y5), some (vI (x6 + 1)), some (vI r11)]) 155 dX0_addGuest_152 rfl rfl rfl (by decide) rfl rfl ?_
        refine j_goto 92 dX0_addGuest_155 (by decide) ?_
        refine j_sub (ls' := [some (vR 6), some (vI y1), none, none, some (vI y4), some (vI y5), some (vI (x6 + 1)), none]) (And.intro rfl (And.intro rfl (And.intro rfl (And.intro rfl (And.intro rfl trivial))))) ?_
        exact ih (x6 + 1) (wI s16 17 (ix r13) (r15 * (0 - r11)))
      · refine j_iload 150 dX0_addGuest_148 rfl rfl ?_
        refine j_imul 151 dX0_addGuest_150 rfl ?_
        refine s_iastore 152 aa17 dX0_addGuest_151 rfl (fun b20 => ?_)
        refine j_iinc (v := x6 + 1) (ls' := [some (vR 6), some (vI y1), none, none, some (vI y4), some (vI y5), some (vI (x6 + 1)), some (vI r11)]) 155 dX0_addGuest_152 rfl rfl rfl (by decide) rfl rfl ?_
        refine j_goto 92 dX0_addGuest_155 (by decide) ?_
        refine j_sub (ls' := [some (vR 6), some (vI y1), none, none, some (vI y4), some (vI y5), some (vI (x6 + 1)), none]) (And.intro rfl (And.intro rfl (And.intro rfl (And.intro rfl (And.intro rfl trivial))))) ?_
        exact ih (x6 + 1) (wI s16 17 (ix r13) (r15 * r11))
    · refine j_sub (ls' := [some (vR 6), some (vI y1), none, none, some (vI y4), some (vI y5), none, none]) (And.intro rfl (And.intro rfl (And.intro rfl (And.intro rfl trivial)))) ?_
      exact hκ s
theorem tX0_addGuest_L80 (Θ : Th) (l : Launch)  (κ : Mem → Option (Unit × Mem)) (y1 : Int32) (y4 : Int32)  (hκ : ∀  (s : Mem), Js Θ l mX0_addGuest 4 gU 164 [none, none, none, none, none, none, none, none] [] s (κ  s)) : ∀ (k : Nat) (x5 : Int32) (s : Mem), Js Θ l mX0_addGuest 4 gU 80 [some (vR 6), some (vI y1), none, none, some (vI y4), some (vI x5), none, none] [] s (fX0_addGuest_L80 κ y1 y4 k x5 s) := by
  intro k
  induction k with
  | zero => intro x5 s; exact j_none
  | succ k ih =>
    intro x5 s
    rw [fX0_addGuest_L80]
    refine j_iload 82 dX0_addGuest_80 rfl rfl ?_
    refine j_aload_n 83 dX0_addGuest_82 rfl rfl ?_
    refine s_getI 86 fa6_0 w_156 dX0_addGuest_83 rfl ?_
    refine j_icmp_ge 164 89 dX0_addGuest_86 (by decide) rfl (fun c8 => ?_) (fun c8 => ?_)
    · refine j_iconst (v := 0) 90 dX0_addGuest_89 rfl (by decide) ?_
      refine j_istore (i := 6) (ls' := [some (vR 6), some (vI y1), none, none, some (vI y4), some (vI x5), some (vI 0), none]) 92 dX0_addGuest_90 rfl (by decide) rfl rfl ?_
      refine j_sub (ls' := [some (vR 6), some (vI y1), none, none, some (vI y4), some (vI x5), some (vI 0), none]) (And.intro rfl (And.intro rfl (And.intro rfl (And.intro rfl (And.intro rfl trivial))))) ?_
      refine tX0_addGuest_L92 Θ l _ _ _ _  ?_ _ _ _
      intro s21
      refine j_iinc (v := x5 + 1) (ls' := [some (vR 6), some (vI y1), none, none, some (vI y4), some (vI (x5 + 1)), none, none]) 161 dX0_addGuest_158 rfl rfl rfl (by decide) rfl rfl ?_
      refine j_goto 80 dX0_addGuest_161 (by decide) ?_
      refine j_sub (ls' := [some (vR 6), some (vI y1), none, none, some (vI y4), some (vI (x5 + 1)), none, none]) (And.intro rfl (And.intro rfl (And.intro rfl (And.intro rfl trivial)))) ?_
      exact ih (x5 + 1) s21
    · refine j_sub (ls' := [none, none, none, none, none, none, none, none]) (trivial) ?_
      exact hκ s
theorem tX0_addGuest (Θ : Th) (l : Launch)  (a1 : Int32) (a2 : Int32) (a3 : Int32)  (s : Mem) : Cs Θ l mX0_addGuest 4 gU [vR 6, vI a1, vI a2, vI a3] s (fX0_addGuest a1 a2 a3 s) := by
  refine ct_of (by decide) [some (vR 6), some (vI a1), some (vI a2), some (vI a3), none, none, none, none] rfl (Nat.le_of_ble_eq_true rfl) ?_
  unfold fX0_addGuest
  refine j_aload_n 1 dX0_addGuest_0 rfl rfl ?_
  refine s_getI 4 fa6_1 w_160 dX0_addGuest_1 rfl ?_
  refine j_bipush (v := 7) 6 dX0_addGuest_4 rfl (by decide) ?_
  refine j_icmp_lt 10 9 dX0_addGuest_6 (by decide) rfl (fun c1 => ?_) (fun c1 => ?_)
  · refine j_aload_n 11 dX0_addGuest_10 rfl rfl ?_
    refine s_getI 14 fa6_1 w_160 dX0_addGuest_11 rfl ?_
    refine s_nmI (fun v2 => ?_)
    refine j_istore (i := 4) (ls' := [some (vR 6), some (vI a1), some (vI a2), some (vI a3), some (vI v2), none, none, none]) 16 dX0_addGuest_14 rfl (by decide) rfl rfl ?_
    refine j_aload_n 17 dX0_addGuest_16 rfl rfl ?_
    refine j_dup 18 dX0_addGuest_17 rfl rfl ?_
    refine s_getI 21 fa6_1 w_160 dX0_addGuest_18 rfl ?_
    refine j_iconst (v := 1) 22 dX0_addGuest_21 rfl (by decide) ?_
    refine j_iadd 23 dX0_addGuest_22 rfl ?_
    refine s_putI 26 fa6_1 w_160 dX0_addGuest_23 rfl ?_
    refine j_aload_n 27 dX0_addGuest_26 rfl rfl ?_
    refine s_getR (x := 13) 30 fa6_7 w_173 dX0_addGuest_27 rfl (by decide +kernel) ?_
    refine j_iload 32 dX0_addGuest_30 rfl rfl ?_
    refine j_iload_n 33 dX0_addGuest_32 rfl rfl ?_
    refine s_iastore 34 aa13 dX0_addGuest_33 rfl (fun b3 => ?_)
    refine j_aload_n 35 dX0_addGuest_34 rfl rfl ?_
    refine s_getR (x := 14) 38 fa6_8 w_174 dX0_addGuest_35 rfl (by decide +kernel) ?_
    refine j_iload 40 dX0_addGuest_38 rfl rfl ?_
    refine j_iload_n 41 dX0_addGuest_40 rfl rfl ?_
    refine s_iastore 42 aa14 dX0_addGuest_41 rfl (fun b4 => ?_)
    refine j_aload_n 43 dX0_addGuest_42 rfl rfl ?_
    refine s_getR (x := 15) 46 fa6_9 w_175 dX0_addGuest_43 rfl (by decide +kernel) ?_
    refine j_iload 48 dX0_addGuest_46 rfl rfl ?_
    refine j_iload_n 49 dX0_addGuest_48 rfl rfl ?_
    refine s_iastore 50 aa15 dX0_addGuest_49 rfl (fun b5 => ?_)
    refine j_aload_n 51 dX0_addGuest_50 rfl rfl ?_
    refine s_getR (x := 16) 54 fa6_10 w_176 dX0_addGuest_51 rfl (by decide +kernel) ?_
    refine j_iload 56 dX0_addGuest_54 rfl rfl ?_
    refine j_bipush (v := (-9)) 58 dX0_addGuest_56 rfl (by decide) ?_
    refine s_iastore 59 aa16 dX0_addGuest_58 rfl (fun b6 => ?_)
    refine j_iload_n 60 dX0_addGuest_59 rfl rfl ?_
    refine j_iconst (v := 3) 61 dX0_addGuest_60 rfl (by decide) ?_
    refine j_icmp_eq 77 64 dX0_addGuest_61 (by decide) rfl (fun c7 => ?_) (fun c7 => ?_)
    · refine j_iconst (v := 0) 78 dX0_addGuest_77 rfl (by decide) ?_
      refine j_istore (i := 5) (ls' := [some (vR 6), some (vI a1), some (vI a2), some (vI a3), some (vI v2), some (vI 0), none, none]) 80 dX0_addGuest_78 rfl (by decide) rfl rfl ?_
      refine j_sub (ls' := [some (vR 6), some (vI a1), none, none, some (vI v2), some (vI 0), none, none]) (And.intro rfl (And.intro rfl (And.intro rfl (And.intro rfl trivial)))) ?_
      refine tX0_addGuest_L80 Θ l _ _ _  ?_ _ _ _
      intro s22
      exact s_ret dX0_addGuest_164 rfl
    · refine j_aload_n 65 dX0_addGuest_64 rfl rfl ?_
      refine j_dup 66 dX0_addGuest_65 rfl rfl ?_
      refine s_getI 69 fa6_12 w_178 dX0_addGuest_66 rfl ?_
      refine j_iconst (v := 1) 70 dX0_addGuest_69 rfl (by decide) ?_
      refine j_iload 72 dX0_addGuest_70 rfl rfl ?_
      refine j_ishl 73 dX0_addGuest_72 rfl ?_
      refine j_ior 74 dX0_addGuest_73 rfl ?_
      refine s_putI 77 fa6_12 w_178 dX0_addGuest_74 rfl ?_
      refine j_iconst (v := 0) 78 dX0_addGuest_77 rfl (by decide) ?_
      refine j_istore (i := 5) (ls' := [some (vR 6), some (vI a1), some (vI a2), some (vI a3), some (vI v2), some (vI 0), none, none]) 80 dX0_addGuest_78 rfl (by decide) rfl rfl ?_
      refine j_sub (ls' := [some (vR 6), some (vI a1), none, none, some (vI v2), some (vI 0), none, none]) (And.intro rfl (And.intro rfl (And.intro rfl (And.intro rfl trivial)))) ?_
      refine tX0_addGuest_L80 Θ l _ _ _  ?_ _ _ _
      intro s23
      exact s_ret dX0_addGuest_164 rfl
  · exact s_ret dX0_addGuest_9 rfl
-- X9_fillBarge_6
def fX9_fillBarge_6_L2  (κ : Mem → Option (Unit × Mem)) (q0 : Nat) : Nat → Int32 → Mem → Option (Unit × Mem)
  | 0, _, _ => none
  | k + 1, x2, s =>
    if x2 < (s.1 q0 0) then
      bnd (fX9_byteAt q0 x2 s) (fun r2 s3 =>
      if r2 = 109 then
        bnd (fX0_addBench 0 s3) (fun r5 s6 =>
        fX9_fillBarge_6_L2 κ q0 k (x2 + 1) s6)
      else
        if r2 = 108 then
          bnd (fX9_figureAt q0 (x2 + 1) s3) (fun r8 s9 =>
          bnd (fX0_addBench (0 - r8) s9) (fun r10 s11 =>
          fX9_fillBarge_6_L2 κ q0 k (x2 + 1) s11))
        else
          if r2 = 114 then
            bnd (fX9_figureAt q0 (x2 + 1) s3) (fun r13 s14 =>
            bnd (fX0_addBench r13 s14) (fun r15 s16 =>
            fX9_fillBarge_6_L2 κ q0 k (x2 + 1) s16))
          else
            bnd (fX9_kindByLetter r2 s3) (fun r17 s18 =>
            if r17 = (-9) then
              fX9_fillBarge_6_L2 κ q0 k (x2 + 1) s18
            else
              bnd (fX9_kindByLetter r2 s18) (fun r20 s21 =>
              bnd (fX9_figureAt q0 (x2 + 1) s21) (fun r22 s23 =>
              bnd (fX9_figureAt q0 (x2 + 2) s23) (fun r24 s25 =>
              bnd (fX0_addGuest r20 r22 r24 s25) (fun r26 s27 =>
              fX9_fillBarge_6_L2 κ q0 k (x2 + 1) s27))))))
    else
      κ s
def fX9_fillBarge_6  (q0 : Nat) (s : Mem) : Option (Unit × Mem) :=
fX9_fillBarge_6_L2 (fun s28 =>
  some ((), s28)) q0 FU 0 s
theorem tX9_fillBarge_6_L2 (Θ : Th) (l : Launch)  (κ : Mem → Option (Unit × Mem)) (q0 : Nat) (hq0 : kd q0 = 9) (hκ : ∀  (s : Mem), Js Θ l mX9_fillBarge 5 gU 108 [none, none, none, none] [] s (κ  s)) : ∀ (k : Nat) (x2 : Int32) (s : Mem), Js Θ l mX9_fillBarge 5 gU 2 [some (vR q0), some (vR 6), some (vI x2), none] [] s (fX9_fillBarge_6_L2 κ q0 k x2 s) := by
  intro k
  induction k with
  | zero => intro x2 s; exact j_none
  | succ k ih =>
    intro x2 s
    rw [fX9_fillBarge_6_L2]
    refine j_iload_n 3 dX9_fillBarge_2 rfl rfl ?_
    refine j_aload_n 4 dX9_fillBarge_3 rfl rfl ?_
    refine s_getI 7 (txt_fa0 hq0) w_392 dX9_fillBarge_4 rfl ?_
    refine j_icmp_ge 108 10 dX9_fillBarge_7 (by decide) rfl (fun c1 => ?_) (fun c1 => ?_)
    · refine j_aload_n 11 dX9_fillBarge_10 rfl rfl ?_
      refine j_iload_n 12 dX9_fillBarge_11 rfl rfl ?_
      refine s_callVi (M2 := mX9_byteAt) [vI x2] 15 (txt_oa hq0) cc9 mkX9_byteAt w_552 dX9_fillBarge_12 rfl rfl (tX9_byteAt Θ l _ _ hq0 _) (by first | exact Nat.le_of_ble_eq_true rfl | omega) (Nat.le_of_ble_eq_true rfl) (Nat.le_of_ble_eq_true rfl) (fun r2 s3 => ?_)
      refine j_istore_n (i := 3) (ls' := [some (vR q0), some (vR 6), some (vI x2), some (vI r2)]) 16 dX9_fillBarge_15 rfl rfl (by decide) rfl rfl ?_
      refine j_iload_n 17 dX9_fillBarge_16 rfl rfl ?_
      refine j_bipush (v := 109) 19 dX9_fillBarge_17 rfl (by decide) ?_
      refine j_icmp_ne 30 22 dX9_fillBarge_19 (by decide) rfl (fun c4 => ?_) (fun c4 => ?_)
      · refine j_aload_n 23 dX9_fillBarge_22 rfl rfl ?_
        refine j_iconst (v := 0) 24 dX9_fillBarge_23 rfl (by decide) ?_
        refine s_callVu (M2 := mX0_addBench) [vI 0] 27 oa6 cc0 mkX0_addBench w_599 dX9_fillBarge_24 rfl rfl (tX0_addBench Θ l _  _) (by first | exact Nat.le_of_ble_eq_true rfl | omega) (Nat.le_of_ble_eq_true rfl) (Nat.le_of_ble_eq_true rfl) (fun r5 s6 => ?_)
        refine j_goto 102 dX9_fillBarge_27 (by decide) ?_
        refine j_iinc (v := x2 + 1) (ls' := [some (vR q0), some (vR 6), some (vI (x2 + 1)), some (vI r2)]) 105 dX9_fillBarge_102 rfl rfl rfl (by decide) rfl rfl ?_
        refine j_goto 2 dX9_fillBarge_105 (by decide) ?_
        refine j_sub (ls' := [some (vR q0), some (vR 6), some (vI (x2 + 1)), none]) (And.intro rfl (And.intro rfl (And.intro rfl trivial))) ?_
        exact ih (x2 + 1) s6
      · refine j_iload_n 31 dX9_fillBarge_30 rfl rfl ?_
        refine j_bipush (v := 108) 33 dX9_fillBarge_31 rfl (by decide) ?_
        refine j_icmp_ne 51 36 dX9_fillBarge_33 (by decide) rfl (fun c7 => ?_) (fun c7 => ?_)
        · refine j_aload_n 37 dX9_fillBarge_36 rfl rfl ?_
          refine j_aload_n 38 dX9_fillBarge_37 rfl rfl ?_
          refine j_iload_n 39 dX9_fillBarge_38 rfl rfl ?_
          refine j_iconst (v := 1) 40 dX9_fillBarge_39 rfl (by decide) ?_
          refine j_iadd 41 dX9_fillBarge_40 rfl ?_
          refine s_callVi (M2 := mX9_figureAt) [vI (x2 + 1)] 44 (txt_oa hq0) cc9 mkX9_figureAt w_603 dX9_fillBarge_41 rfl rfl (tX9_figureAt Θ l _ _ hq0 _) (by first | exact Nat.le_of_ble_eq_true rfl | omega) (Nat.le_of_ble_eq_true rfl) (Nat.le_of_ble_eq_true rfl) (fun r8 s9 => ?_)
          refine j_ineg 45 dX9_fillBarge_44 rfl ?_
          refine s_callVu (M2 := mX0_addBench) [vI (0 - r8)] 48 oa6 cc0 mkX0_addBench w_599 dX9_fillBarge_45 rfl rfl (tX0_addBench Θ l _  _) (by first | exact Nat.le_of_ble_eq_true rfl | omega) (Nat.le_of_ble_eq_true rfl) (Nat.le_of_ble_eq_true rfl) (fun r10 s11 => ?_)
          refine j_goto 102 dX9_fillBarge_48 (by decide) ?_
          refine j_iinc (v := x2 + 1) (ls' := [some (vR q0), some (vR 6), some (vI (x2 + 1)), some (vI r2)]) 105 dX9_fillBarge_102 rfl rfl rfl (by decide) rfl rfl ?_
          refine j_goto 2 dX9_fillBarge_105 (by decide) ?_
          refine j_sub (ls' := [some (vR q0), some (vR 6), some (vI (x2 + 1)), none]) (And.intro rfl (And.intro rfl (And.intro rfl trivial))) ?_
          exact ih (x2 + 1) s11
        · refine j_iload_n 52 dX9_fillBarge_51 rfl rfl ?_
          refine j_bipush (v := 114) 54 dX9_fillBarge_52 rfl (by decide) ?_
          refine j_icmp_ne 71 57 dX9_fillBarge_54 (by decide) rfl (fun c12 => ?_) (fun c12 => ?_)
          · refine j_aload_n 58 dX9_fillBarge_57 rfl rfl ?_
            refine j_aload_n 59 dX9_fillBarge_58 rfl rfl ?_
            refine j_iload_n 60 dX9_fillBarge_59 rfl rfl ?_
            refine j_iconst (v := 1) 61 dX9_fillBarge_60 rfl (by decide) ?_
            refine j_iadd 62 dX9_fillBarge_61 rfl ?_
            refine s_callVi (M2 := mX9_figureAt) [vI (x2 + 1)] 65 (txt_oa hq0) cc9 mkX9_figureAt w_603 dX9_fillBarge_62 rfl rfl (tX9_figureAt Θ l _ _ hq0 _) (by first | exact Nat.le_of_ble_eq_true rfl | omega) (Nat.le_of_ble_eq_true rfl) (Nat.le_of_ble_eq_true rfl) (fun r13 s14 => ?_)
            refine s_callVu (M2 := mX0_addBench) [vI r13] 68 oa6 cc0 mkX0_addBench w_599 dX9_fillBarge_65 rfl rfl (tX0_addBench Θ l _  _) (by first | exact Nat.le_of_ble_eq_true rfl | omega) (Nat.le_of_ble_eq_true rfl) (Nat.le_of_ble_eq_true rfl) (fun r15 s16 => ?_)
            refine j_goto 102 dX9_fillBarge_68 (by decide) ?_
            refine j_iinc (v := x2 + 1) (ls' := [some (vR q0), some (vR 6), some (vI (x2 + 1)), some (vI r2)]) 105 dX9_fillBarge_102 rfl rfl rfl (by decide) rfl rfl ?_
            refine j_goto 2 dX9_fillBarge_105 (by decide) ?_
            refine j_sub (ls' := [some (vR q0), some (vR 6), some (vI (x2 + 1)), none]) (And.intro rfl (And.intro rfl (And.intro rfl trivial))) ?_
            exact ih (x2 + 1) s16
          · refine j_iload_n 72 dX9_fillBarge_71 rfl rfl ?_
            refine s_callSi (M2 := mX9_kindByLetter) [vI r2] 75 mkX9_kindByLetter (Or.inl w_573) dX9_fillBarge_72 rfl rfl (tX9_kindByLetter Θ l _  _) (by first | exact Nat.le_of_ble_eq_true rfl | omega) (Nat.le_of_ble_eq_true rfl) (Nat.le_of_ble_eq_true rfl) (fun r17 s18 => ?_)
            refine j_bipush (v := (-9)) 77 dX9_fillBarge_75 rfl (by decide) ?_
            refine j_icmp_eq 102 80 dX9_fillBarge_77 (by decide) rfl (fun c19 => ?_) (fun c19 => ?_)
            · refine j_iinc (v := x2 + 1) (ls' := [some (vR q0), some (vR 6), some (vI (x2 + 1)), some (vI r2)]) 105 dX9_fillBarge_102 rfl rfl rfl (by decide) rfl rfl ?_
              refine j_goto 2 dX9_fillBarge_105 (by decide) ?_
              refine j_sub (ls' := [some (vR q0), some (vR 6), some (vI (x2 + 1)), none]) (And.intro rfl (And.intro rfl (And.intro rfl trivial))) ?_
              exact ih (x2 + 1) s18
            · refine j_aload_n 81 dX9_fillBarge_80 rfl rfl ?_
              refine j_iload_n 82 dX9_fillBarge_81 rfl rfl ?_
              refine s_callSi (M2 := mX9_kindByLetter) [vI r2] 85 mkX9_kindByLetter (Or.inl w_573) dX9_fillBarge_82 rfl rfl (tX9_kindByLetter Θ l _  _) (by first | exact Nat.le_of_ble_eq_true rfl | omega) (Nat.le_of_ble_eq_true rfl) (Nat.le_of_ble_eq_true rfl) (fun r20 s21 => ?_)
              refine j_aload_n 86 dX9_fillBarge_85 rfl rfl ?_
              refine j_iload_n 87 dX9_fillBarge_86 rfl rfl ?_
              refine j_iconst (v := 1) 88 dX9_fillBarge_87 rfl (by decide) ?_
              refine j_iadd 89 dX9_fillBarge_88 rfl ?_
              refine s_callVi (M2 := mX9_figureAt) [vI (x2 + 1)] 92 (txt_oa hq0) cc9 mkX9_figureAt w_603 dX9_fillBarge_89 rfl rfl (tX9_figureAt Θ l _ _ hq0 _) (by first | exact Nat.le_of_ble_eq_true rfl | omega) (Nat.le_of_ble_eq_true rfl) (Nat.le_of_ble_eq_true rfl) (fun r22 s23 => ?_)
              refine j_aload_n 93 dX9_fillBarge_92 rfl rfl ?_
              refine j_iload_n 94 dX9_fillBarge_93 rfl rfl ?_
              refine j_iconst (v := 2) 95 dX9_fillBarge_94 rfl (by decide) ?_
              refine j_iadd 96 dX9_fillBarge_95 rfl ?_
              refine s_callVi (M2 := mX9_figureAt) [vI (x2 + 2)] 99 (txt_oa hq0) cc9 mkX9_figureAt w_603 dX9_fillBarge_96 rfl rfl (tX9_figureAt Θ l _ _ hq0 _) (by first | exact Nat.le_of_ble_eq_true rfl | omega) (Nat.le_of_ble_eq_true rfl) (Nat.le_of_ble_eq_true rfl) (fun r24 s25 => ?_)
              refine s_callVu (M2 := mX0_addGuest) [vI r20, vI r22, vI r24] 102 oa6 cc0 mkX0_addGuest w_607 dX9_fillBarge_99 rfl rfl (tX0_addGuest Θ l _ _ _  _) (by first | exact Nat.le_of_ble_eq_true rfl | omega) (Nat.le_of_ble_eq_true rfl) (Nat.le_of_ble_eq_true rfl) (fun r26 s27 => ?_)
              refine j_iinc (v := x2 + 1) (ls' := [some (vR q0), some (vR 6), some (vI (x2 + 1)), some (vI r2)]) 105 dX9_fillBarge_102 rfl rfl rfl (by decide) rfl rfl ?_
              refine j_goto 2 dX9_fillBarge_105 (by decide) ?_
              refine j_sub (ls' := [some (vR q0), some (vR 6), some (vI (x2 + 1)), none]) (And.intro rfl (And.intro rfl (And.intro rfl trivial))) ?_
              exact ih (x2 + 1) s27
    · refine j_sub (ls' := [none, none, none, none]) (trivial) ?_
      exact hκ s
theorem tX9_fillBarge_6 (Θ : Th) (l : Launch)  (q0 : Nat) (hq0 : kd q0 = 9) (s : Mem) : Cs Θ l mX9_fillBarge 5 gU [vR q0, vR 6] s (fX9_fillBarge_6 q0 s) := by
  refine ct_of (by decide) [some (vR q0), some (vR 6), none, none] rfl (Nat.le_of_ble_eq_true rfl) ?_
  unfold fX9_fillBarge_6
  refine j_iconst (v := 0) 1 dX9_fillBarge_0 rfl (by decide) ?_
  refine j_istore_n (i := 2) (ls' := [some (vR q0), some (vR 6), some (vI 0), none]) 2 dX9_fillBarge_1 rfl rfl (by decide) rfl rfl ?_
  refine j_sub (ls' := [some (vR q0), some (vR 6), some (vI 0), none]) (And.intro rfl (And.intro rfl (And.intro rfl trivial))) ?_
  refine tX9_fillBarge_6_L2 Θ l _ _ hq0 ?_ _ _ _
  intro s28
  exact s_ret dX9_fillBarge_108 rfl
-- X1_forgetAll
def fX1_forgetAll   (s : Mem) : Option (Unit × Mem) :=
some ((), wI s 20 0 0)
theorem tX1_forgetAll (Θ : Th) (l : Launch)    (s : Mem) : Cs Θ l mX1_forgetAll 1 gU [vR 20] s (fX1_forgetAll  s) := by
  refine ct_of (by decide) [some (vR 20)] rfl (Nat.le_of_ble_eq_true rfl) ?_
  unfold fX1_forgetAll
  refine j_aload_n 1 dX1_forgetAll_0 rfl rfl ?_
  refine j_iconst (v := 0) 2 dX1_forgetAll_1 rfl (by decide) ?_
  refine s_putI 5 fa20_0 w_229 dX1_forgetAll_2 rfl ?_
  exact s_ret dX1_forgetAll_5 rfl
-- X3_forgetAll
def fX3_forgetAll_L2  (κ : Mem → Option (Unit × Mem))  : Nat → Int32 → Mem → Option (Unit × Mem)
  | 0, _, _ => none
  | k + 1, x1, s =>
    if x1 < 3 then
      if inb x1 3 = true then
      fX3_forgetAll_L2 κ k (x1 + 1) (wI s 25 (ix x1) (vp_nar .boolean 0))
      else none
    else
      κ s
def fX3_forgetAll   (s : Mem) : Option (Unit × Mem) :=
fX3_forgetAll_L2 (fun s3 =>
  some ((), s3))  FU 0 s
theorem tX3_forgetAll_L2 (Θ : Th) (l : Launch)  (κ : Mem → Option (Unit × Mem))   (hκ : ∀  (s : Mem), Js Θ l mX3_forgetAll 1 gU 20 [none, none] [] s (κ  s)) : ∀ (k : Nat) (x1 : Int32) (s : Mem), Js Θ l mX3_forgetAll 1 gU 2 [some (vR 24), some (vI x1)] [] s (fX3_forgetAll_L2 κ  k x1 s) := by
  intro k
  induction k with
  | zero => intro x1 s; exact j_none
  | succ k ih =>
    intro x1 s
    rw [fX3_forgetAll_L2]
    refine j_iload_n 3 dX3_forgetAll_2 rfl rfl ?_
    refine j_iconst (v := 3) 4 dX3_forgetAll_3 rfl (by decide) ?_
    refine j_icmp_ge 20 7 dX3_forgetAll_4 (by decide) rfl (fun c1 => ?_) (fun c1 => ?_)
    · refine j_aload_n 8 dX3_forgetAll_7 rfl rfl ?_
      refine s_getR (x := 25) 11 fa24_0 w_249 dX3_forgetAll_8 rfl (by decide +kernel) ?_
      refine j_iload_n 12 dX3_forgetAll_11 rfl rfl ?_
      refine j_iconst (v := 0) 13 dX3_forgetAll_12 rfl (by decide) ?_
      refine s_zastore 14 aa25 dX3_forgetAll_13 rfl (fun b2 => ?_)
      refine j_iinc (v := x1 + 1) (ls' := [some (vR 24), some (vI (x1 + 1))]) 17 dX3_forgetAll_14 rfl rfl rfl (by decide) rfl rfl ?_
      refine j_goto 2 dX3_forgetAll_17 (by decide) ?_
      refine j_sub (ls' := [some (vR 24), some (vI (x1 + 1))]) (And.intro rfl (And.intro rfl trivial)) ?_
      exact ih (x1 + 1) (wI s 25 (ix x1) (vp_nar .boolean 0))
    · refine j_sub (ls' := [none, none]) (trivial) ?_
      exact hκ s
theorem tX3_forgetAll (Θ : Th) (l : Launch)    (s : Mem) : Cs Θ l mX3_forgetAll 1 gU [vR 24] s (fX3_forgetAll  s) := by
  refine ct_of (by decide) [some (vR 24), none] rfl (Nat.le_of_ble_eq_true rfl) ?_
  unfold fX3_forgetAll
  refine j_iconst (v := 0) 1 dX3_forgetAll_0 rfl (by decide) ?_
  refine j_istore_n (i := 1) (ls' := [some (vR 24), some (vI 0)]) 2 dX3_forgetAll_1 rfl rfl (by decide) rfl rfl ?_
  refine j_sub (ls' := [some (vR 24), some (vI 0)]) (And.intro rfl (And.intro rfl trivial)) ?_
  refine tX3_forgetAll_L2 Θ l _   ?_ _ _ _
  intro s3
  exact s_ret dX3_forgetAll_20 rfl
-- X11_barge
def fX11_barge  (a1 : Int32) (s : Mem) : Option (Int32 × Mem) :=
bnd (fX11_textOf a1 s) (fun r1 s2 =>
if r1 = 0 then
  some ((-1), s2)
else
  if kd r1 = 9 then
  bnd (fX9_isMissing r1 s2) (fun r5 s6 =>
  if r5 = 0 then
    bnd (fX9_faultAsBarge r1 s6) (fun r8 s9 =>
    if r8 = (-9) then
      bnd (fX0_clear s9) (fun r11 s12 =>
      bnd (fX9_fillBarge_6 r1 s12) (fun r13 s14 =>
      bnd (fX1_forgetAll s14) (fun r15 s16 =>
      bnd (fX3_forgetAll s16) (fun r17 s18 =>
      some (s18.1 6 0, s18)))))
    else
      some ((-4), s9))
  else
    bnd (fX10_found 1 s6) (fun r19 s20 =>
    some (r19, s20)))
  else none)
theorem tX11_barge (Θ : Th) (l : Launch)  (a1 : Int32)  (s : Mem) : Cs Θ l mX11_barge 6 gI [vR 1, vI a1] s (fX11_barge a1 s) := by
  refine ct_of (by decide) [some (vR 1), some (vI a1), none] rfl (Nat.le_of_ble_eq_true rfl) ?_
  unfold fX11_barge
  refine j_aload_n 1 dX11_barge_0 rfl rfl ?_
  refine j_iload_n 2 dX11_barge_1 rfl rfl ?_
  refine s_callVr (M2 := mX11_textOf) [vI a1] 5 oa1 cc11 mkX11_textOf w_522 dX11_barge_2 rfl rfl (tX11_textOf Θ l _  _) (by first | exact Nat.le_of_ble_eq_true rfl | omega) (Nat.le_of_ble_eq_true rfl) (Nat.le_of_ble_eq_true rfl) (fun r1 s2 => ?_)
  refine j_astore_n (i := 2) (ls' := [some (vR 1), some (vI a1), some (vR r1)]) 6 dX11_barge_5 rfl rfl (by decide) rfl rfl ?_
  refine j_aload_n 7 dX11_barge_6 rfl rfl ?_
  refine j_ifnonnull 12 10 dX11_barge_7 (by decide) rfl (fun c3 => ?_) (fun c3 => ?_)
  · refine j_iconst (v := (-1)) 11 dX11_barge_10 rfl (by decide) ?_
    exact s_iret dX11_barge_11 rfl
  · refine j_aload_n 13 dX11_barge_12 rfl rfl ?_
    refine j_ite (fun hk4 => ?_) (fun _ => j_none)
    refine s_callVi (M2 := mX9_isMissing) [] 16 (txt_oa hk4) cc9 mkX9_isMissing w_536 dX11_barge_13 rfl rfl (tX9_isMissing Θ l _ hk4 _) (by first | exact Nat.le_of_ble_eq_true rfl | omega) (Nat.le_of_ble_eq_true rfl) (Nat.le_of_ble_eq_true rfl) (fun r5 s6 => ?_)
    refine j_if_eq 28 19 dX11_barge_16 (by decide) rfl (fun c7 => ?_) (fun c7 => ?_)
    · refine j_aload_n 29 dX11_barge_28 rfl rfl ?_
      refine s_callVi (M2 := mX9_faultAsBarge) [] 32 (txt_oa hk4) cc9 mkX9_faultAsBarge w_560 dX11_barge_29 rfl rfl (tX9_faultAsBarge Θ l _ hk4 _) (by first | exact Nat.le_of_ble_eq_true rfl | omega) (Nat.le_of_ble_eq_true rfl) (Nat.le_of_ble_eq_true rfl) (fun r8 s9 => ?_)
      refine j_bipush (v := (-9)) 34 dX11_barge_32 rfl (by decide) ?_
      refine j_icmp_eq 40 37 dX11_barge_34 (by decide) rfl (fun c10 => ?_) (fun c10 => ?_)
      · refine j_aload_n 41 dX11_barge_40 rfl rfl ?_
        refine s_getR (x := 6) 44 fa1_3 w_405 dX11_barge_41 rfl (by decide +kernel) ?_
        refine s_callVu (M2 := mX0_clear) [] 47 oa6 cc0 mkX0_clear w_580 dX11_barge_44 rfl rfl (tX0_clear Θ l   _) (by first | exact Nat.le_of_ble_eq_true rfl | omega) (Nat.le_of_ble_eq_true rfl) (Nat.le_of_ble_eq_true rfl) (fun r11 s12 => ?_)
        refine j_aload_n 48 dX11_barge_47 rfl rfl ?_
        refine j_aload_n 49 dX11_barge_48 rfl rfl ?_
        refine s_getR (x := 6) 52 fa1_3 w_405 dX11_barge_49 rfl (by decide +kernel) ?_
        refine s_callVu (M2 := mX9_fillBarge) [vR 6] 55 (txt_oa hk4) cc9 mkX9_fillBarge w_595 dX11_barge_52 rfl rfl (tX9_fillBarge_6 Θ l _ hk4 _) (by first | exact Nat.le_of_ble_eq_true rfl | omega) (Nat.le_of_ble_eq_true rfl) (Nat.le_of_ble_eq_true rfl) (fun r13 s14 => ?_)
        refine j_aload_n 56 dX11_barge_55 rfl rfl ?_
        refine s_getR (x := 20) 59 fa1_6 w_408 dX11_barge_56 rfl (by decide +kernel) ?_
        refine s_callVu (M2 := mX1_forgetAll) [] 62 oa20 cc1 mkX1_forgetAll w_646 dX11_barge_59 rfl rfl (tX1_forgetAll Θ l   _) (by first | exact Nat.le_of_ble_eq_true rfl | omega) (Nat.le_of_ble_eq_true rfl) (Nat.le_of_ble_eq_true rfl) (fun r15 s16 => ?_)
        refine j_aload_n 63 dX11_barge_62 rfl rfl ?_
        refine s_getR (x := 24) 66 fa1_7 w_409 dX11_barge_63 rfl (by decide +kernel) ?_
        refine s_callVu (M2 := mX3_forgetAll) [] 69 oa24 cc3 mkX3_forgetAll w_650 dX11_barge_66 rfl rfl (tX3_forgetAll Θ l   _) (by first | exact Nat.le_of_ble_eq_true rfl | omega) (Nat.le_of_ble_eq_true rfl) (Nat.le_of_ble_eq_true rfl) (fun r17 s18 => ?_)
        refine j_aload_n 70 dX11_barge_69 rfl rfl ?_
        refine s_getR (x := 6) 73 fa1_3 w_405 dX11_barge_70 rfl (by decide +kernel) ?_
        refine s_getI 76 fa6_0 w_159 dX11_barge_73 rfl ?_
        exact s_iret dX11_barge_76 rfl
      · refine j_bipush (v := (-4)) 39 dX11_barge_37 rfl (by decide) ?_
        exact s_iret dX11_barge_39 rfl
    · refine j_aload_n 20 dX11_barge_19 rfl rfl ?_
      refine s_getR (x := 2) 23 fa1_0 w_402 dX11_barge_20 rfl (by decide +kernel) ?_
      refine j_iconst (v := 1) 24 dX11_barge_23 rfl (by decide) ?_
      refine s_callVi (M2 := mX10_found) [vI 1] 27 oa2 cc10 mkX10_found w_444 dX11_barge_24 rfl rfl (tX10_found Θ l _  _) (by first | exact Nat.le_of_ble_eq_true rfl | omega) (Nat.le_of_ble_eq_true rfl) (Nat.le_of_ble_eq_true rfl) (fun r19 s20 => ?_)
      exact s_iret dX11_barge_27 rfl
-- X6_clear
def fX6_clear   (s : Mem) : Option (Unit × Mem) :=
some ((), wI (wI s 18 0 0) 18 2 0)
theorem tX6_clear (Θ : Th) (l : Launch)    (s : Mem) : Cs Θ l mX6_clear 1 gU [vR 18] s (fX6_clear  s) := by
  refine ct_of (by decide) [some (vR 18)] rfl (Nat.le_of_ble_eq_true rfl) ?_
  unfold fX6_clear
  refine j_aload_n 1 dX6_clear_0 rfl rfl ?_
  refine j_iconst (v := 0) 2 dX6_clear_1 rfl (by decide) ?_
  refine s_putI 5 fa18_0 w_212 dX6_clear_2 rfl ?_
  refine j_aload_n 6 dX6_clear_5 rfl rfl ?_
  refine j_iconst (v := 0) 7 dX6_clear_6 rfl (by decide) ?_
  refine s_putI 10 fa18_2 w_215 dX6_clear_7 rfl ?_
  exact s_ret dX6_clear_10 rfl
-- X6_add
def fX6_add  (a1 : Int32) (s : Mem) : Option (Unit × Mem) :=
if (s.1 18 0) < 40 then
  if inb (s.1 18 0) 40 = true then
  some ((), wI (wI (wI s 19 (ix (s.1 18 0)) a1) 18 2 (((wI s 19 (ix (s.1 18 0)) a1).1 18 2) ||| ((1 : Int32) <<< (a1 &&& 31)))) 18 0 (((wI (wI s 19 (ix (s.1 18 0)) a1) 18 2 (((wI s 19 (ix (s.1 18 0)) a1).1 18 2) ||| ((1 : Int32) <<< (a1 &&& 31)))).1 18 0) + 1))
  else none
else
  some ((), s)
theorem tX6_add (Θ : Th) (l : Launch)  (a1 : Int32)  (s : Mem) : Cs Θ l mX6_add 1 gU [vR 18, vI a1] s (fX6_add a1 s) := by
  refine ct_of (by decide) [some (vR 18), some (vI a1)] rfl (Nat.le_of_ble_eq_true rfl) ?_
  unfold fX6_add
  refine j_aload_n 1 dX6_add_0 rfl rfl ?_
  refine s_getI 4 fa18_0 w_212 dX6_add_1 rfl ?_
  refine j_bipush (v := 40) 6 dX6_add_4 rfl (by decide) ?_
  refine j_icmp_ge 41 9 dX6_add_6 (by decide) rfl (fun c1 => ?_) (fun c1 => ?_)
  · refine j_aload_n 10 dX6_add_9 rfl rfl ?_
    refine s_getR (x := 19) 13 fa18_1 w_214 dX6_add_10 rfl (by decide +kernel) ?_
    refine j_aload_n 14 dX6_add_13 rfl rfl ?_
    refine s_getI 17 fa18_0 w_212 dX6_add_14 rfl ?_
    refine j_iload_n 18 dX6_add_17 rfl rfl ?_
    refine s_iastore 19 aa19 dX6_add_18 rfl (fun b2 => ?_)
    refine j_aload_n 20 dX6_add_19 rfl rfl ?_
    refine j_dup 21 dX6_add_20 rfl rfl ?_
    refine s_getI 24 fa18_2 w_215 dX6_add_21 rfl ?_
    refine j_iconst (v := 1) 25 dX6_add_24 rfl (by decide) ?_
    refine j_iload_n 26 dX6_add_25 rfl rfl ?_
    refine j_ishl 27 dX6_add_26 rfl ?_
    refine j_ior 28 dX6_add_27 rfl ?_
    refine s_putI 31 fa18_2 w_215 dX6_add_28 rfl ?_
    refine j_aload_n 32 dX6_add_31 rfl rfl ?_
    refine j_dup 33 dX6_add_32 rfl rfl ?_
    refine s_getI 36 fa18_0 w_212 dX6_add_33 rfl ?_
    refine j_iconst (v := 1) 37 dX6_add_36 rfl (by decide) ?_
    refine j_iadd 38 dX6_add_37 rfl ?_
    refine s_putI 41 fa18_0 w_212 dX6_add_38 rfl ?_
    exact s_ret dX6_add_41 rfl
  · exact s_ret dX6_add_41 rfl
-- X9_fillRite_18
def fX9_fillRite_18_L2  (κ : Mem → Option (Unit × Mem)) (q0 : Nat) : Nat → Int32 → Mem → Option (Unit × Mem)
  | 0, _, _ => none
  | k + 1, x2, s =>
    if x2 < (s.1 q0 0) then
      bnd (fX9_byteAt q0 x2 s) (fun r2 s3 =>
      bnd (fX9_postureByLetter r2 s3) (fun r4 s5 =>
      if r4 = (-9) then
        fX9_fillRite_18_L2 κ q0 k (x2 + 1) s5
      else
        bnd (fX6_add r4 s5) (fun r7 s8 =>
        fX9_fillRite_18_L2 κ q0 k (x2 + 1) s8)))
    else
      κ s
def fX9_fillRite_18  (q0 : Nat) (s : Mem) : Option (Unit × Mem) :=
fX9_fillRite_18_L2 (fun s9 =>
  some ((), s9)) q0 FU 0 s
theorem tX9_fillRite_18_L2 (Θ : Th) (l : Launch)  (κ : Mem → Option (Unit × Mem)) (q0 : Nat) (hq0 : kd q0 = 9) (hκ : ∀  (s : Mem), Js Θ l mX9_fillRite 3 gU 36 [none, none, none, none] [] s (κ  s)) : ∀ (k : Nat) (x2 : Int32) (s : Mem), Js Θ l mX9_fillRite 3 gU 2 [some (vR q0), some (vR 18), some (vI x2), none] [] s (fX9_fillRite_18_L2 κ q0 k x2 s) := by
  intro k
  induction k with
  | zero => intro x2 s; exact j_none
  | succ k ih =>
    intro x2 s
    rw [fX9_fillRite_18_L2]
    refine j_iload_n 3 dX9_fillRite_2 rfl rfl ?_
    refine j_aload_n 4 dX9_fillRite_3 rfl rfl ?_
    refine s_getI 7 (txt_fa0 hq0) w_392 dX9_fillRite_4 rfl ?_
    refine j_icmp_ge 36 10 dX9_fillRite_7 (by decide) rfl (fun c1 => ?_) (fun c1 => ?_)
    · refine j_aload_n 11 dX9_fillRite_10 rfl rfl ?_
      refine j_iload_n 12 dX9_fillRite_11 rfl rfl ?_
      refine s_callVi (M2 := mX9_byteAt) [vI x2] 15 (txt_oa hq0) cc9 mkX9_byteAt w_552 dX9_fillRite_12 rfl rfl (tX9_byteAt Θ l _ _ hq0 _) (by first | exact Nat.le_of_ble_eq_true rfl | omega) (Nat.le_of_ble_eq_true rfl) (Nat.le_of_ble_eq_true rfl) (fun r2 s3 => ?_)
      refine s_callSi (M2 := mX9_postureByLetter) [vI r2] 18 mkX9_postureByLetter (Or.inl w_557) dX9_fillRite_15 rfl rfl (tX9_postureByLetter Θ l _  _) (by first | exact Nat.le_of_ble_eq_true rfl | omega) (Nat.le_of_ble_eq_true rfl) (Nat.le_of_ble_eq_true rfl) (fun r4 s5 => ?_)
      refine j_istore_n (i := 3) (ls' := [some (vR q0), some (vR 18), some (vI x2), some (vI r4)]) 19 dX9_fillRite_18 rfl rfl (by decide) rfl rfl ?_
      refine j_iload_n 20 dX9_fillRite_19 rfl rfl ?_
      refine j_bipush (v := (-9)) 22 dX9_fillRite_20 rfl (by decide) ?_
      refine j_icmp_eq 30 25 dX9_fillRite_22 (by decide) rfl (fun c6 => ?_) (fun c6 => ?_)
      · refine j_iinc (v := x2 + 1) (ls' := [some (vR q0), some (vR 18), some (vI (x2 + 1)), some (vI r4)]) 33 dX9_fillRite_30 rfl rfl rfl (by decide) rfl rfl ?_
        refine j_goto 2 dX9_fillRite_33 (by decide) ?_
        refine j_sub (ls' := [some (vR q0), some (vR 18), some (vI (x2 + 1)), none]) (And.intro rfl (And.intro rfl (And.intro rfl trivial))) ?_
        exact ih (x2 + 1) s5
      · refine j_aload_n 26 dX9_fillRite_25 rfl rfl ?_
        refine j_iload_n 27 dX9_fillRite_26 rfl rfl ?_
        refine s_callVu (M2 := mX6_add) [vI r4] 30 oa18 cc6 mkX6_add w_666 dX9_fillRite_27 rfl rfl (tX6_add Θ l _  _) (by first | exact Nat.le_of_ble_eq_true rfl | omega) (Nat.le_of_ble_eq_true rfl) (Nat.le_of_ble_eq_true rfl) (fun r7 s8 => ?_)
        refine j_iinc (v := x2 + 1) (ls' := [some (vR q0), some (vR 18), some (vI (x2 + 1)), some (vI r4)]) 33 dX9_fillRite_30 rfl rfl rfl (by decide) rfl rfl ?_
        refine j_goto 2 dX9_fillRite_33 (by decide) ?_
        refine j_sub (ls' := [some (vR q0), some (vR 18), some (vI (x2 + 1)), none]) (And.intro rfl (And.intro rfl (And.intro rfl trivial))) ?_
        exact ih (x2 + 1) s8
    · refine j_sub (ls' := [none, none, none, none]) (trivial) ?_
      exact hκ s
theorem tX9_fillRite_18 (Θ : Th) (l : Launch)  (q0 : Nat) (hq0 : kd q0 = 9) (s : Mem) : Cs Θ l mX9_fillRite 3 gU [vR q0, vR 18] s (fX9_fillRite_18 q0 s) := by
  refine ct_of (by decide) [some (vR q0), some (vR 18), none, none] rfl (Nat.le_of_ble_eq_true rfl) ?_
  unfold fX9_fillRite_18
  refine j_iconst (v := 0) 1 dX9_fillRite_0 rfl (by decide) ?_
  refine j_istore_n (i := 2) (ls' := [some (vR q0), some (vR 18), some (vI 0), none]) 2 dX9_fillRite_1 rfl rfl (by decide) rfl rfl ?_
  refine j_sub (ls' := [some (vR q0), some (vR 18), some (vI 0), none]) (And.intro rfl (And.intro rfl (And.intro rfl trivial))) ?_
  refine tX9_fillRite_18_L2 Θ l _ _ hq0 ?_ _ _ _
  intro s9
  exact s_ret dX9_fillRite_36 rfl
-- X11_rite
def fX11_rite  (a1 : Int32) (s : Mem) : Option (Int32 × Mem) :=
bnd (fX11_textOf a1 s) (fun r1 s2 =>
if r1 = 0 then
  some ((-1), s2)
else
  if kd r1 = 9 then
  bnd (fX9_isMissing r1 s2) (fun r5 s6 =>
  if r5 = 0 then
    bnd (fX9_faultAsRite r1 s6) (fun r8 s9 =>
    if r8 = (-9) then
      bnd (fX6_clear s9) (fun r11 s12 =>
      bnd (fX9_fillRite_18 r1 s12) (fun r13 s14 =>
      some (s14.1 18 0, s14)))
    else
      some ((-4), s9))
  else
    bnd (fX10_found 1 s6) (fun r15 s16 =>
    some (r15, s16)))
  else none)
theorem tX11_rite (Θ : Th) (l : Launch)  (a1 : Int32)  (s : Mem) : Cs Θ l mX11_rite 4 gI [vR 1, vI a1] s (fX11_rite a1 s) := by
  refine ct_of (by decide) [some (vR 1), some (vI a1), none] rfl (Nat.le_of_ble_eq_true rfl) ?_
  unfold fX11_rite
  refine j_aload_n 1 dX11_rite_0 rfl rfl ?_
  refine j_iload_n 2 dX11_rite_1 rfl rfl ?_
  refine s_callVr (M2 := mX11_textOf) [vI a1] 5 oa1 cc11 mkX11_textOf w_522 dX11_rite_2 rfl rfl (tX11_textOf Θ l _  _) (by first | exact Nat.le_of_ble_eq_true rfl | omega) (Nat.le_of_ble_eq_true rfl) (Nat.le_of_ble_eq_true rfl) (fun r1 s2 => ?_)
  refine j_astore_n (i := 2) (ls' := [some (vR 1), some (vI a1), some (vR r1)]) 6 dX11_rite_5 rfl rfl (by decide) rfl rfl ?_
  refine j_aload_n 7 dX11_rite_6 rfl rfl ?_
  refine j_ifnonnull 12 10 dX11_rite_7 (by decide) rfl (fun c3 => ?_) (fun c3 => ?_)
  · refine j_iconst (v := (-1)) 11 dX11_rite_10 rfl (by decide) ?_
    exact s_iret dX11_rite_11 rfl
  · refine j_aload_n 13 dX11_rite_12 rfl rfl ?_
    refine j_ite (fun hk4 => ?_) (fun _ => j_none)
    refine s_callVi (M2 := mX9_isMissing) [] 16 (txt_oa hk4) cc9 mkX9_isMissing w_536 dX11_rite_13 rfl rfl (tX9_isMissing Θ l _ hk4 _) (by first | exact Nat.le_of_ble_eq_true rfl | omega) (Nat.le_of_ble_eq_true rfl) (Nat.le_of_ble_eq_true rfl) (fun r5 s6 => ?_)
    refine j_if_eq 28 19 dX11_rite_16 (by decide) rfl (fun c7 => ?_) (fun c7 => ?_)
    · refine j_aload_n 29 dX11_rite_28 rfl rfl ?_
      refine s_callVi (M2 := mX9_faultAsRite) [] 32 (txt_oa hk4) cc9 mkX9_faultAsRite w_548 dX11_rite_29 rfl rfl (tX9_faultAsRite Θ l _ hk4 _) (by first | exact Nat.le_of_ble_eq_true rfl | omega) (Nat.le_of_ble_eq_true rfl) (Nat.le_of_ble_eq_true rfl) (fun r8 s9 => ?_)
      refine j_bipush (v := (-9)) 34 dX11_rite_32 rfl (by decide) ?_
      refine j_icmp_eq 40 37 dX11_rite_34 (by decide) rfl (fun c10 => ?_) (fun c10 => ?_)
      · refine j_aload_n 41 dX11_rite_40 rfl rfl ?_
        refine s_getR (x := 18) 44 fa1_5 w_407 dX11_rite_41 rfl (by decide +kernel) ?_
        refine s_callVu (M2 := mX6_clear) [] 47 oa18 cc6 mkX6_clear w_658 dX11_rite_44 rfl rfl (tX6_clear Θ l   _) (by first | exact Nat.le_of_ble_eq_true rfl | omega) (Nat.le_of_ble_eq_true rfl) (Nat.le_of_ble_eq_true rfl) (fun r11 s12 => ?_)
        refine j_aload_n 48 dX11_rite_47 rfl rfl ?_
        refine j_aload_n 49 dX11_rite_48 rfl rfl ?_
        refine s_getR (x := 18) 52 fa1_5 w_407 dX11_rite_49 rfl (by decide +kernel) ?_
        refine s_callVu (M2 := mX9_fillRite) [vR 18] 55 (txt_oa hk4) cc9 mkX9_fillRite w_662 dX11_rite_52 rfl rfl (tX9_fillRite_18 Θ l _ hk4 _) (by first | exact Nat.le_of_ble_eq_true rfl | omega) (Nat.le_of_ble_eq_true rfl) (Nat.le_of_ble_eq_true rfl) (fun r13 s14 => ?_)
        refine j_aload_n 56 dX11_rite_55 rfl rfl ?_
        refine s_getR (x := 18) 59 fa1_5 w_407 dX11_rite_56 rfl (by decide +kernel) ?_
        refine s_getI 62 fa18_0 w_213 dX11_rite_59 rfl ?_
        exact s_iret dX11_rite_62 rfl
      · refine j_bipush (v := (-4)) 39 dX11_rite_37 rfl (by decide) ?_
        exact s_iret dX11_rite_39 rfl
    · refine j_aload_n 20 dX11_rite_19 rfl rfl ?_
      refine s_getR (x := 2) 23 fa1_0 w_402 dX11_rite_20 rfl (by decide +kernel) ?_
      refine j_iconst (v := 1) 24 dX11_rite_23 rfl (by decide) ?_
      refine s_callVi (M2 := mX10_found) [vI 1] 27 oa2 cc10 mkX10_found w_444 dX11_rite_24 rfl rfl (tX10_found Θ l _  _) (by first | exact Nat.le_of_ble_eq_true rfl | omega) (Nat.le_of_ble_eq_true rfl) (Nat.le_of_ble_eq_true rfl) (fun r15 s16 => ?_)
      exact s_iret dX11_rite_27 rfl
-- X0_isBench
def fX0_isBench  (a1 : Int32) (s : Mem) : Option (Int32 × Mem) :=
if a1 < 0 then
  some (0, s)
else
  if a1 < (s.1 6 0) then
    some (1, s)
  else
    some (0, s)
theorem tX0_isBench (Θ : Th) (l : Launch)  (a1 : Int32)  (s : Mem) : Cs Θ l mX0_isBench 1 gI [vR 6, vI a1] s (fX0_isBench a1 s) := by
  refine ct_of (by decide) [some (vR 6), some (vI a1)] rfl (Nat.le_of_ble_eq_true rfl) ?_
  unfold fX0_isBench
  refine j_iload_n 1 dX0_isBench_0 rfl rfl ?_
  refine j_if_lt 16 4 dX0_isBench_1 (by decide) rfl (fun c1 => ?_) (fun c1 => ?_)
  · refine j_iconst (v := 0) 17 dX0_isBench_16 rfl (by decide) ?_
    exact s_zret dX0_isBench_17 rfl (by decide)
  · refine j_iload_n 5 dX0_isBench_4 rfl rfl ?_
    refine j_aload_n 6 dX0_isBench_5 rfl rfl ?_
    refine s_getI 9 fa6_0 w_156 dX0_isBench_6 rfl ?_
    refine j_icmp_ge 16 12 dX0_isBench_9 (by decide) rfl (fun c2 => ?_) (fun c2 => ?_)
    · refine j_iconst (v := 1) 13 dX0_isBench_12 rfl (by decide) ?_
      refine j_goto 17 dX0_isBench_13 (by decide) ?_
      exact s_zret dX0_isBench_17 rfl (by decide)
    · refine j_iconst (v := 0) 17 dX0_isBench_16 rfl (by decide) ?_
      exact s_zret dX0_isBench_17 rfl (by decide)
-- X0_xOf
def fX0_xOf  (a1 : Int32) (s : Mem) : Option (Int32 × Mem) :=
bnd (fX0_isBench a1 s) (fun r1 s2 =>
if r1 = 0 then
  some (0, s2)
else
  if inb a1 8 = true then
  some (s2.1 11 (ix a1), s2)
  else none)
theorem tX0_xOf (Θ : Th) (l : Launch)  (a1 : Int32)  (s : Mem) : Cs Θ l mX0_xOf 2 gI [vR 6, vI a1] s (fX0_xOf a1 s) := by
  refine ct_of (by decide) [some (vR 6), some (vI a1)] rfl (Nat.le_of_ble_eq_true rfl) ?_
  unfold fX0_xOf
  refine j_aload_n 1 dX0_xOf_0 rfl rfl ?_
  refine j_iload_n 2 dX0_xOf_1 rfl rfl ?_
  refine s_callVi (M2 := mX0_isBench) [vI a1] 5 oa6 cc0 mkX0_isBench w_687 dX0_xOf_2 rfl rfl (tX0_isBench Θ l _  _) (by first | exact Nat.le_of_ble_eq_true rfl | omega) (Nat.le_of_ble_eq_true rfl) (Nat.le_of_ble_eq_true rfl) (fun r1 s2 => ?_)
  refine j_if_eq 17 8 dX0_xOf_5 (by decide) rfl (fun c3 => ?_) (fun c3 => ?_)
  · refine j_iconst (v := 0) 18 dX0_xOf_17 rfl (by decide) ?_
    exact s_iret dX0_xOf_18 rfl
  · refine j_aload_n 9 dX0_xOf_8 rfl rfl ?_
    refine s_getR (x := 11) 12 fa6_5 w_171 dX0_xOf_9 rfl (by decide +kernel) ?_
    refine j_iload_n 13 dX0_xOf_12 rfl rfl ?_
    refine s_iaload 14 aa11 dX0_xOf_13 rfl (fun b4 => ?_)
    refine j_goto 18 dX0_xOf_14 (by decide) ?_
    exact s_iret dX0_xOf_18 rfl
-- X0_whoOn
def fX0_whoOn  (a1 : Int32) (s : Mem) : Option (Int32 × Mem) :=
bnd (fX0_isBench a1 s) (fun r1 s2 =>
if r1 = 0 then
  some (0, s2)
else
  if inb a1 8 = true then
  some (s2.1 12 (ix a1), s2)
  else none)
theorem tX0_whoOn (Θ : Th) (l : Launch)  (a1 : Int32)  (s : Mem) : Cs Θ l mX0_whoOn 2 gI [vR 6, vI a1] s (fX0_whoOn a1 s) := by
  refine ct_of (by decide) [some (vR 6), some (vI a1)] rfl (Nat.le_of_ble_eq_true rfl) ?_
  unfold fX0_whoOn
  refine j_aload_n 1 dX0_whoOn_0 rfl rfl ?_
  refine j_iload_n 2 dX0_whoOn_1 rfl rfl ?_
  refine s_callVi (M2 := mX0_isBench) [vI a1] 5 oa6 cc0 mkX0_isBench w_687 dX0_whoOn_2 rfl rfl (tX0_isBench Θ l _  _) (by first | exact Nat.le_of_ble_eq_true rfl | omega) (Nat.le_of_ble_eq_true rfl) (Nat.le_of_ble_eq_true rfl) (fun r1 s2 => ?_)
  refine j_if_eq 17 8 dX0_whoOn_5 (by decide) rfl (fun c3 => ?_) (fun c3 => ?_)
  · refine j_iconst (v := 0) 18 dX0_whoOn_17 rfl (by decide) ?_
    exact s_iret dX0_whoOn_18 rfl
  · refine j_aload_n 9 dX0_whoOn_8 rfl rfl ?_
    refine s_getR (x := 12) 12 fa6_6 w_172 dX0_whoOn_9 rfl (by decide +kernel) ?_
    refine j_iload_n 13 dX0_whoOn_12 rfl rfl ?_
    refine s_iaload 14 aa12 dX0_whoOn_13 rfl (fun b4 => ?_)
    refine j_goto 18 dX0_whoOn_14 (by decide) ?_
    exact s_iret dX0_whoOn_18 rfl
