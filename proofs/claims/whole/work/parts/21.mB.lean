-- J6_bitCount_0f7a4
def fJ6_bitCount_0f7a4  (a0 : Int32) (s : Mem) : Option (Int32 × Mem) :=
nm (a0 - (((a0.toUInt32 >>> (Int32.toUInt32 1 &&& Int32.toUInt32 31)).toInt32) &&& 1431655765)) (fun v1 =>
nm ((v1 &&& 858993459) + (((v1.toUInt32 >>> (Int32.toUInt32 2 &&& Int32.toUInt32 31)).toInt32) &&& 858993459)) (fun v2 =>
nm ((v2 + ((v2.toUInt32 >>> (Int32.toUInt32 4 &&& Int32.toUInt32 31)).toInt32)) &&& 252645135) (fun v3 =>
nm (v3 + ((v3.toUInt32 >>> (Int32.toUInt32 8 &&& Int32.toUInt32 31)).toInt32)) (fun v4 =>
nm (v4 + ((v4.toUInt32 >>> (Int32.toUInt32 16 &&& Int32.toUInt32 31)).toInt32)) (fun v5 =>
some (v5 &&& 63, s))))))
theorem tJ6_bitCount_0f7a4 (Θ : Th) (l : Launch)  (a0 : Int32)  (s : Mem) : Cs Θ l mJ6_bitCount_0f7a4 1 gI [vI a0] s (fJ6_bitCount_0f7a4 a0 s) := by
  refine ct_of (by decide) [some (vI a0)] rfl (Nat.le_of_ble_eq_true rfl) ?_
  unfold fJ6_bitCount_0f7a4
  refine j_iload_n 1 dJ6_bitCount_0f7a4_0 rfl rfl ?_
  refine j_iload_n 2 dJ6_bitCount_0f7a4_1 rfl rfl ?_
  refine j_iconst (v := 1) 3 dJ6_bitCount_0f7a4_2 rfl (by decide) ?_
  refine j_iushr 4 dJ6_bitCount_0f7a4_3 rfl rfl ?_
  refine j_ldcw (v := 1431655765) 7 dJ6_bitCount_0f7a4_4 rfl w_699 ?_
  refine j_iand 8 dJ6_bitCount_0f7a4_7 rfl ?_
  refine j_isub 9 dJ6_bitCount_0f7a4_8 rfl ?_
  refine s_nmI (fun v1 => ?_)
  refine j_istore_n (i := 0) (ls' := [some (vI v1)]) 10 dJ6_bitCount_0f7a4_9 rfl rfl (by decide) rfl rfl ?_
  refine j_iload_n 11 dJ6_bitCount_0f7a4_10 rfl rfl ?_
  refine j_ldcw (v := 858993459) 14 dJ6_bitCount_0f7a4_11 rfl w_700 ?_
  refine j_iand 15 dJ6_bitCount_0f7a4_14 rfl ?_
  refine j_iload_n 16 dJ6_bitCount_0f7a4_15 rfl rfl ?_
  refine j_iconst (v := 2) 17 dJ6_bitCount_0f7a4_16 rfl (by decide) ?_
  refine j_iushr 18 dJ6_bitCount_0f7a4_17 rfl rfl ?_
  refine j_ldcw (v := 858993459) 21 dJ6_bitCount_0f7a4_18 rfl w_700 ?_
  refine j_iand 22 dJ6_bitCount_0f7a4_21 rfl ?_
  refine j_iadd 23 dJ6_bitCount_0f7a4_22 rfl ?_
  refine s_nmI (fun v2 => ?_)
  refine j_istore_n (i := 0) (ls' := [some (vI v2)]) 24 dJ6_bitCount_0f7a4_23 rfl rfl (by decide) rfl rfl ?_
  refine j_iload_n 25 dJ6_bitCount_0f7a4_24 rfl rfl ?_
  refine j_iload_n 26 dJ6_bitCount_0f7a4_25 rfl rfl ?_
  refine j_iconst (v := 4) 27 dJ6_bitCount_0f7a4_26 rfl (by decide) ?_
  refine j_iushr 28 dJ6_bitCount_0f7a4_27 rfl rfl ?_
  refine j_iadd 29 dJ6_bitCount_0f7a4_28 rfl ?_
  refine j_ldcw (v := 252645135) 32 dJ6_bitCount_0f7a4_29 rfl w_701 ?_
  refine j_iand 33 dJ6_bitCount_0f7a4_32 rfl ?_
  refine s_nmI (fun v3 => ?_)
  refine j_istore_n (i := 0) (ls' := [some (vI v3)]) 34 dJ6_bitCount_0f7a4_33 rfl rfl (by decide) rfl rfl ?_
  refine j_iload_n 35 dJ6_bitCount_0f7a4_34 rfl rfl ?_
  refine j_iload_n 36 dJ6_bitCount_0f7a4_35 rfl rfl ?_
  refine j_bipush (v := 8) 38 dJ6_bitCount_0f7a4_36 rfl (by decide) ?_
  refine j_iushr 39 dJ6_bitCount_0f7a4_38 rfl rfl ?_
  refine j_iadd 40 dJ6_bitCount_0f7a4_39 rfl ?_
  refine s_nmI (fun v4 => ?_)
  refine j_istore_n (i := 0) (ls' := [some (vI v4)]) 41 dJ6_bitCount_0f7a4_40 rfl rfl (by decide) rfl rfl ?_
  refine j_iload_n 42 dJ6_bitCount_0f7a4_41 rfl rfl ?_
  refine j_iload_n 43 dJ6_bitCount_0f7a4_42 rfl rfl ?_
  refine j_bipush (v := 16) 45 dJ6_bitCount_0f7a4_43 rfl (by decide) ?_
  refine j_iushr 46 dJ6_bitCount_0f7a4_45 rfl rfl ?_
  refine j_iadd 47 dJ6_bitCount_0f7a4_46 rfl ?_
  refine s_nmI (fun v5 => ?_)
  refine j_istore_n (i := 0) (ls' := [some (vI v5)]) 48 dJ6_bitCount_0f7a4_47 rfl rfl (by decide) rfl rfl ?_
  refine j_iload_n 49 dJ6_bitCount_0f7a4_48 rfl rfl ?_
  refine j_bipush (v := 63) 51 dJ6_bitCount_0f7a4_49 rfl (by decide) ?_
  refine j_iand 52 dJ6_bitCount_0f7a4_51 rfl ?_
  exact s_iret dJ6_bitCount_0f7a4_52 rfl
-- X0_seatsTaken
def fX0_seatsTaken  (a1 : Int32) (s : Mem) : Option (Int32 × Mem) :=
bnd (fX0_whoOn a1 s) (fun r1 s2 =>
bnd (fJ6_bitCount_0f7a4 (r1 &&& (s2.1 6 12)) s2) (fun r3 s4 =>
some (r3, s4)))
theorem tX0_seatsTaken (Θ : Th) (l : Launch)  (a1 : Int32)  (s : Mem) : Cs Θ l mX0_seatsTaken 3 gI [vR 6, vI a1] s (fX0_seatsTaken a1 s) := by
  refine ct_of (by decide) [some (vR 6), some (vI a1)] rfl (Nat.le_of_ble_eq_true rfl) ?_
  unfold fX0_seatsTaken
  refine j_aload_n 1 dX0_seatsTaken_0 rfl rfl ?_
  refine j_iload_n 2 dX0_seatsTaken_1 rfl rfl ?_
  refine s_callVi (M2 := mX0_whoOn) [vI a1] 5 oa6 cc0 mkX0_whoOn w_692 dX0_seatsTaken_2 rfl rfl (tX0_whoOn Θ l _  _) (by first | exact Nat.le_of_ble_eq_true rfl | omega) (Nat.le_of_ble_eq_true rfl) (Nat.le_of_ble_eq_true rfl) (fun r1 s2 => ?_)
  refine j_aload_n 6 dX0_seatsTaken_5 rfl rfl ?_
  refine s_getI 9 fa6_12 w_178 dX0_seatsTaken_6 rfl ?_
  refine j_iand 10 dX0_seatsTaken_9 rfl ?_
  refine s_callSi (M2 := mJ6_bitCount_0f7a4) [vI (r1 &&& (s2.1 6 12))] 13 mkJ6_bitCount_0f7a4 (Or.inl w_696) dX0_seatsTaken_10 rfl rfl (tJ6_bitCount_0f7a4 Θ l _  _) (by first | exact Nat.le_of_ble_eq_true rfl | omega) (Nat.le_of_ble_eq_true rfl) (Nat.le_of_ble_eq_true rfl) (fun r3 s4 => ?_)
  exact s_iret dX0_seatsTaken_13 rfl
-- X0_weighAll
def fX0_weighAll_L4  (κ : Int32 → Mem → Option (Int32 × Mem)) (y1 : Int32) : Nat → Int32 → Int32 → Mem → Option (Int32 × Mem)
  | 0, _, _, _ => none
  | k + 1, x2, x3, s =>
    if x3 < (s.1 6 1) then
      if (y1 &&& ((1 : Int32) <<< (x3 &&& 31))) = 0 then
        fX0_weighAll_L4 κ y1 k x2 (x3 + 1) s
      else
        bnd (fX0_weighs x3 s) (fun r3 s4 =>
        nm (x2 + r3) (fun v5 =>
        fX0_weighAll_L4 κ y1 k v5 (x3 + 1) s4))
    else
      κ x2 s
def fX0_weighAll  (a1 : Int32) (s : Mem) : Option (Int32 × Mem) :=
fX0_weighAll_L4 (fun v6 s7 =>
  some (v6, s7)) a1 FU 0 0 s
theorem tX0_weighAll_L4 (Θ : Th) (l : Launch)  (κ : Int32 → Mem → Option (Int32 × Mem)) (y1 : Int32)  (hκ : ∀ (x2 : Int32) (s : Mem), Js Θ l mX0_weighAll 4 gI 34 [none, none, some (vI x2), none] [] s (κ x2 s)) : ∀ (k : Nat) (x2 : Int32) (x3 : Int32) (s : Mem), Js Θ l mX0_weighAll 4 gI 4 [some (vR 6), some (vI y1), some (vI x2), some (vI x3)] [] s (fX0_weighAll_L4 κ y1 k x2 x3 s) := by
  intro k
  induction k with
  | zero => intro x2 x3 s; exact j_none
  | succ k ih =>
    intro x2 x3 s
    rw [fX0_weighAll_L4]
    refine j_iload_n 5 dX0_weighAll_4 rfl rfl ?_
    refine j_aload_n 6 dX0_weighAll_5 rfl rfl ?_
    refine s_getI 9 fa6_1 w_160 dX0_weighAll_6 rfl ?_
    refine j_icmp_ge 34 12 dX0_weighAll_9 (by decide) rfl (fun c1 => ?_) (fun c1 => ?_)
    · refine j_iload_n 13 dX0_weighAll_12 rfl rfl ?_
      refine j_iconst (v := 1) 14 dX0_weighAll_13 rfl (by decide) ?_
      refine j_iload_n 15 dX0_weighAll_14 rfl rfl ?_
      refine j_ishl 16 dX0_weighAll_15 rfl ?_
      refine j_iand 17 dX0_weighAll_16 rfl ?_
      refine j_if_eq 28 20 dX0_weighAll_17 (by decide) rfl (fun c2 => ?_) (fun c2 => ?_)
      · refine j_iinc (v := x3 + 1) (ls' := [some (vR 6), some (vI y1), some (vI x2), some (vI (x3 + 1))]) 31 dX0_weighAll_28 rfl rfl rfl (by decide) rfl rfl ?_
        refine j_goto 4 dX0_weighAll_31 (by decide) ?_
        refine j_sub (ls' := [some (vR 6), some (vI y1), some (vI x2), some (vI (x3 + 1))]) (And.intro rfl (And.intro rfl (And.intro rfl (And.intro rfl trivial)))) ?_
        exact ih x2 (x3 + 1) s
      · refine j_iload_n 21 dX0_weighAll_20 rfl rfl ?_
        refine j_aload_n 22 dX0_weighAll_21 rfl rfl ?_
        refine j_iload_n 23 dX0_weighAll_22 rfl rfl ?_
        refine s_callVi (M2 := mX0_weighs) [vI x3] 26 oa6 cc0 mkX0_weighs w_628 dX0_weighAll_23 rfl rfl (tX0_weighs Θ l _  _) (by first | exact Nat.le_of_ble_eq_true rfl | omega) (Nat.le_of_ble_eq_true rfl) (Nat.le_of_ble_eq_true rfl) (fun r3 s4 => ?_)
        refine j_iadd 27 dX0_weighAll_26 rfl ?_
        refine s_nmI (fun v5 => ?_)
        refine j_istore_n (i := 2) (ls' := [some (vR 6), some (vI y1), some (vI v5), some (vI x3)]) 28 dX0_weighAll_27 rfl rfl (by decide) rfl rfl ?_
        refine j_iinc (v := x3 + 1) (ls' := [some (vR 6), some (vI y1), some (vI v5), some (vI (x3 + 1))]) 31 dX0_weighAll_28 rfl rfl rfl (by decide) rfl rfl ?_
        refine j_goto 4 dX0_weighAll_31 (by decide) ?_
        refine j_sub (ls' := [some (vR 6), some (vI y1), some (vI v5), some (vI (x3 + 1))]) (And.intro rfl (And.intro rfl (And.intro rfl (And.intro rfl trivial)))) ?_
        exact ih v5 (x3 + 1) s4
    · refine j_sub (ls' := [none, none, some (vI x2), none]) (And.intro rfl trivial) ?_
      exact hκ x2 s
theorem tX0_weighAll (Θ : Th) (l : Launch)  (a1 : Int32)  (s : Mem) : Cs Θ l mX0_weighAll 4 gI [vR 6, vI a1] s (fX0_weighAll a1 s) := by
  refine ct_of (by decide) [some (vR 6), some (vI a1), none, none] rfl (Nat.le_of_ble_eq_true rfl) ?_
  unfold fX0_weighAll
  refine j_iconst (v := 0) 1 dX0_weighAll_0 rfl (by decide) ?_
  refine j_istore_n (i := 2) (ls' := [some (vR 6), some (vI a1), some (vI 0), none]) 2 dX0_weighAll_1 rfl rfl (by decide) rfl rfl ?_
  refine j_iconst (v := 0) 3 dX0_weighAll_2 rfl (by decide) ?_
  refine j_istore_n (i := 3) (ls' := [some (vR 6), some (vI a1), some (vI 0), some (vI 0)]) 4 dX0_weighAll_3 rfl rfl (by decide) rfl rfl ?_
  refine j_sub (ls' := [some (vR 6), some (vI a1), some (vI 0), some (vI 0)]) (And.intro rfl (And.intro rfl (And.intro rfl (And.intro rfl trivial)))) ?_
  refine tX0_weighAll_L4 Θ l _ _  ?_ _ _ _ _
  intro v6 s7
  refine j_iload_n 35 dX0_weighAll_34 rfl rfl ?_
  exact s_iret dX0_weighAll_35 rfl
-- X11_ofBench
def fX11_ofBench  (a1 : Int32) (a2 : Int32) (s : Mem) : Option (Int32 × Mem) :=
if a2 = 0 then
  bnd (fX0_xOf a1 s) (fun r2 s3 =>
  some (r2, s3))
else if a2 = 1 then
  bnd (fX0_seatsTaken a1 s) (fun r5 s6 =>
  some (r5, s6))
else if a2 = 2 then
  bnd (fX0_whoOn a1 s) (fun r8 s9 =>
  bnd (fX0_weighAll r8 s9) (fun r10 s11 =>
  some (r10, s11)))
else 
  bnd (fX0_whoOn a1 s) (fun r12 s13 =>
  some (r12, s13))
theorem tX11_ofBench (Θ : Th) (l : Launch)  (a1 : Int32) (a2 : Int32)  (s : Mem) : Cs Θ l mX11_ofBench 5 gI [vR 1, vI a1, vI a2] s (fX11_ofBench a1 a2 s) := by
  refine ct_of (by decide) [some (vR 1), some (vI a1), some (vI a2)] rfl (Nat.le_of_ble_eq_true rfl) ?_
  unfold fX11_ofBench
  refine j_iload_n 1 dX11_ofBench_0 rfl rfl ?_
  refine j_ite (fun c1 => ?_) (fun c1 => ?_)
  · refine j_tabIn (v := 0) 28 dX11_ofBench_1 c1 (by decide) (by decide) rfl (by decide) ?_
    refine j_aload_n 29 dX11_ofBench_28 rfl rfl ?_
    refine s_getR (x := 6) 32 fa1_3 w_405 dX11_ofBench_29 rfl (by decide +kernel) ?_
    refine j_iload_n 33 dX11_ofBench_32 rfl rfl ?_
    refine s_callVi (M2 := mX0_xOf) [vI a1] 36 oa6 cc0 mkX0_xOf w_683 dX11_ofBench_33 rfl rfl (tX0_xOf Θ l _  _) (by first | exact Nat.le_of_ble_eq_true rfl | omega) (Nat.le_of_ble_eq_true rfl) (Nat.le_of_ble_eq_true rfl) (fun r2 s3 => ?_)
    exact s_iret dX11_ofBench_36 rfl
  refine j_ite (fun c4 => ?_) (fun c4 => ?_)
  · refine j_tabIn (v := 1) 37 dX11_ofBench_1 c4 (by decide) (by decide) rfl (by decide) ?_
    refine j_aload_n 38 dX11_ofBench_37 rfl rfl ?_
    refine s_getR (x := 6) 41 fa1_3 w_405 dX11_ofBench_38 rfl (by decide +kernel) ?_
    refine j_iload_n 42 dX11_ofBench_41 rfl rfl ?_
    refine s_callVi (M2 := mX0_seatsTaken) [vI a1] 45 oa6 cc0 mkX0_seatsTaken w_688 dX11_ofBench_42 rfl rfl (tX0_seatsTaken Θ l _  _) (by first | exact Nat.le_of_ble_eq_true rfl | omega) (Nat.le_of_ble_eq_true rfl) (Nat.le_of_ble_eq_true rfl) (fun r5 s6 => ?_)
    exact s_iret dX11_ofBench_45 rfl
  refine j_ite (fun c7 => ?_) (fun c7 => ?_)
  · refine j_tabIn (v := 2) 46 dX11_ofBench_1 c7 (by decide) (by decide) rfl (by decide) ?_
    refine j_aload_n 47 dX11_ofBench_46 rfl rfl ?_
    refine s_getR (x := 6) 50 fa1_3 w_405 dX11_ofBench_47 rfl (by decide +kernel) ?_
    refine j_aload_n 51 dX11_ofBench_50 rfl rfl ?_
    refine s_getR (x := 6) 54 fa1_3 w_405 dX11_ofBench_51 rfl (by decide +kernel) ?_
    refine j_iload_n 55 dX11_ofBench_54 rfl rfl ?_
    refine s_callVi (M2 := mX0_whoOn) [vI a1] 58 oa6 cc0 mkX0_whoOn w_702 dX11_ofBench_55 rfl rfl (tX0_whoOn Θ l _  _) (by first | exact Nat.le_of_ble_eq_true rfl | omega) (Nat.le_of_ble_eq_true rfl) (Nat.le_of_ble_eq_true rfl) (fun r8 s9 => ?_)
    refine s_callVi (M2 := mX0_weighAll) [vI r8] 61 oa6 cc0 mkX0_weighAll w_703 dX11_ofBench_58 rfl rfl (tX0_weighAll Θ l _  _) (by first | exact Nat.le_of_ble_eq_true rfl | omega) (Nat.le_of_ble_eq_true rfl) (Nat.le_of_ble_eq_true rfl) (fun r10 s11 => ?_)
    exact s_iret dX11_ofBench_61 rfl
  refine j_tabOut 62 dX11_ofBench_1 (by have z0 := lv_neT c1 (a := 0) (by decide); have z1 := lv_neT c4 (a := 1) (by decide); have z2 := lv_neT c7 (a := 2) (by decide); omega) (by decide) ?_
  refine j_aload_n 63 dX11_ofBench_62 rfl rfl ?_
  refine s_getR (x := 6) 66 fa1_3 w_405 dX11_ofBench_63 rfl (by decide +kernel) ?_
  refine j_iload_n 67 dX11_ofBench_66 rfl rfl ?_
  refine s_callVi (M2 := mX0_whoOn) [vI a1] 70 oa6 cc0 mkX0_whoOn w_702 dX11_ofBench_67 rfl rfl (tX0_whoOn Θ l _  _) (by first | exact Nat.le_of_ble_eq_true rfl | omega) (Nat.le_of_ble_eq_true rfl) (Nat.le_of_ble_eq_true rfl) (fun r12 s13 => ?_)
  exact s_iret dX11_ofBench_70 rfl
-- X11_bench
def fX11_bench  (a1 : Int32) (a2 : Int32) (s : Mem) : Option (Int32 × Mem) :=
bnd (fX0_isBench a1 s) (fun r1 s2 =>
if r1 = 0 then
  some ((-1), s2)
else
  bnd (fX11_isWithin a2 0 3 s2) (fun r4 s5 =>
  if r4 = 0 then
    some ((-1), s5)
  else
    bnd (fX11_ofBench a1 a2 s5) (fun r7 s8 =>
    bnd (fX10_tell r7 s8) (fun r9 s10 =>
    some (1, s10)))))
theorem tX11_bench (Θ : Th) (l : Launch)  (a1 : Int32) (a2 : Int32)  (s : Mem) : Cs Θ l mX11_bench 6 gI [vR 1, vI a1, vI a2] s (fX11_bench a1 a2 s) := by
  refine ct_of (by decide) [some (vR 1), some (vI a1), some (vI a2)] rfl (Nat.le_of_ble_eq_true rfl) ?_
  unfold fX11_bench
  refine j_aload_n 1 dX11_bench_0 rfl rfl ?_
  refine s_getR (x := 6) 4 fa1_3 w_405 dX11_bench_1 rfl (by decide +kernel) ?_
  refine j_iload_n 5 dX11_bench_4 rfl rfl ?_
  refine s_callVi (M2 := mX0_isBench) [vI a1] 8 oa6 cc0 mkX0_isBench w_674 dX11_bench_5 rfl rfl (tX0_isBench Θ l _  _) (by first | exact Nat.le_of_ble_eq_true rfl | omega) (Nat.le_of_ble_eq_true rfl) (Nat.le_of_ble_eq_true rfl) (fun r1 s2 => ?_)
  refine j_if_eq 20 11 dX11_bench_8 (by decide) rfl (fun c3 => ?_) (fun c3 => ?_)
  · refine j_iconst (v := (-1)) 21 dX11_bench_20 rfl (by decide) ?_
    exact s_iret dX11_bench_21 rfl
  · refine j_iload_n 12 dX11_bench_11 rfl rfl ?_
    refine j_iconst (v := 0) 13 dX11_bench_12 rfl (by decide) ?_
    refine j_iconst (v := 3) 14 dX11_bench_13 rfl (by decide) ?_
    refine s_callSi (M2 := mX11_isWithin) [vI a2, vI 0, vI 3] 17 mkX11_isWithin (Or.inl w_678) dX11_bench_14 rfl rfl (tX11_isWithin Θ l _ _ _  _) (by first | exact Nat.le_of_ble_eq_true rfl | omega) (Nat.le_of_ble_eq_true rfl) (Nat.le_of_ble_eq_true rfl) (fun r4 s5 => ?_)
    refine j_if_ne 22 20 dX11_bench_17 (by decide) rfl (fun c6 => ?_) (fun c6 => ?_)
    · refine j_iconst (v := (-1)) 21 dX11_bench_20 rfl (by decide) ?_
      exact s_iret dX11_bench_21 rfl
    · refine j_aload_n 23 dX11_bench_22 rfl rfl ?_
      refine s_getR (x := 2) 26 fa1_0 w_402 dX11_bench_23 rfl (by decide +kernel) ?_
      refine j_aload_n 27 dX11_bench_26 rfl rfl ?_
      refine j_iload_n 28 dX11_bench_27 rfl rfl ?_
      refine j_iload_n 29 dX11_bench_28 rfl rfl ?_
      refine s_callVi (M2 := mX11_ofBench) [vI a1, vI a2] 32 oa1 cc11 mkX11_ofBench w_679 dX11_bench_29 rfl rfl (tX11_ofBench Θ l _ _  _) (by first | exact Nat.le_of_ble_eq_true rfl | omega) (Nat.le_of_ble_eq_true rfl) (Nat.le_of_ble_eq_true rfl) (fun r7 s8 => ?_)
      refine s_callVu (M2 := mX10_tell) [vI r7] 35 oa2 cc10 mkX10_tell w_479 dX11_bench_32 rfl rfl (tX10_tell Θ l _  _) (by first | exact Nat.le_of_ble_eq_true rfl | omega) (Nat.le_of_ble_eq_true rfl) (Nat.le_of_ble_eq_true rfl) (fun r9 s10 => ?_)
      refine j_iconst (v := 1) 36 dX11_bench_35 rfl (by decide) ?_
      exact s_iret dX11_bench_36 rfl
-- X0_kinOf
def fX0_kinOf  (a1 : Int32) (s : Mem) : Option (Int32 × Mem) :=
bnd (fX0_isGuest a1 s) (fun r1 s2 =>
if r1 = 0 then
  some (0, s2)
else
  if inb a1 7 = true then
  some (s2.1 15 (ix a1), s2)
  else none)
theorem tX0_kinOf (Θ : Th) (l : Launch)  (a1 : Int32)  (s : Mem) : Cs Θ l mX0_kinOf 2 gI [vR 6, vI a1] s (fX0_kinOf a1 s) := by
  refine ct_of (by decide) [some (vR 6), some (vI a1)] rfl (Nat.le_of_ble_eq_true rfl) ?_
  unfold fX0_kinOf
  refine j_aload_n 1 dX0_kinOf_0 rfl rfl ?_
  refine j_iload_n 2 dX0_kinOf_1 rfl rfl ?_
  refine s_callVi (M2 := mX0_isGuest) [vI a1] 5 oa6 cc0 mkX0_isGuest w_636 dX0_kinOf_2 rfl rfl (tX0_isGuest Θ l _  _) (by first | exact Nat.le_of_ble_eq_true rfl | omega) (Nat.le_of_ble_eq_true rfl) (Nat.le_of_ble_eq_true rfl) (fun r1 s2 => ?_)
  refine j_if_eq 17 8 dX0_kinOf_5 (by decide) rfl (fun c3 => ?_) (fun c3 => ?_)
  · refine j_iconst (v := 0) 18 dX0_kinOf_17 rfl (by decide) ?_
    exact s_iret dX0_kinOf_18 rfl
  · refine j_aload_n 9 dX0_kinOf_8 rfl rfl ?_
    refine s_getR (x := 15) 12 fa6_9 w_175 dX0_kinOf_9 rfl (by decide +kernel) ?_
    refine j_iload_n 13 dX0_kinOf_12 rfl rfl ?_
    refine s_iaload 14 aa15 dX0_kinOf_13 rfl (fun b4 => ?_)
    refine j_goto 18 dX0_kinOf_14 (by decide) ?_
    exact s_iret dX0_kinOf_18 rfl
-- X0_benchOf
def fX0_benchOf  (a1 : Int32) (s : Mem) : Option (Int32 × Mem) :=
bnd (fX0_isGuest a1 s) (fun r1 s2 =>
if r1 = 0 then
  some ((-9), s2)
else
  if inb a1 7 = true then
  some (s2.1 16 (ix a1), s2)
  else none)
theorem tX0_benchOf (Θ : Th) (l : Launch)  (a1 : Int32)  (s : Mem) : Cs Θ l mX0_benchOf 2 gI [vR 6, vI a1] s (fX0_benchOf a1 s) := by
  refine ct_of (by decide) [some (vR 6), some (vI a1)] rfl (Nat.le_of_ble_eq_true rfl) ?_
  unfold fX0_benchOf
  refine j_aload_n 1 dX0_benchOf_0 rfl rfl ?_
  refine j_iload_n 2 dX0_benchOf_1 rfl rfl ?_
  refine s_callVi (M2 := mX0_isGuest) [vI a1] 5 oa6 cc0 mkX0_isGuest w_636 dX0_benchOf_2 rfl rfl (tX0_isGuest Θ l _  _) (by first | exact Nat.le_of_ble_eq_true rfl | omega) (Nat.le_of_ble_eq_true rfl) (Nat.le_of_ble_eq_true rfl) (fun r1 s2 => ?_)
  refine j_if_eq 17 8 dX0_benchOf_5 (by decide) rfl (fun c3 => ?_) (fun c3 => ?_)
  · refine j_bipush (v := (-9)) 19 dX0_benchOf_17 rfl (by decide) ?_
    exact s_iret dX0_benchOf_19 rfl
  · refine j_aload_n 9 dX0_benchOf_8 rfl rfl ?_
    refine s_getR (x := 16) 12 fa6_10 w_176 dX0_benchOf_9 rfl (by decide +kernel) ?_
    refine j_iload_n 13 dX0_benchOf_12 rfl rfl ?_
    refine s_iaload 14 aa16 dX0_benchOf_13 rfl (fun b4 => ?_)
    refine j_goto 19 dX0_benchOf_14 (by decide) ?_
    exact s_iret dX0_benchOf_19 rfl
-- X11_ofGuest
def fX11_ofGuest  (a1 : Int32) (a2 : Int32) (s : Mem) : Option (Int32 × Mem) :=
if a2 = 0 then
  bnd (fX0_kindOf a1 s) (fun r2 s3 =>
  some (r2, s3))
else if a2 = 1 then
  bnd (fX0_weightOf a1 s) (fun r5 s6 =>
  some (r5, s6))
else if a2 = 2 then
  bnd (fX0_kinOf a1 s) (fun r8 s9 =>
  some (r8, s9))
else if a2 = 3 then
  bnd (fX0_benchOf a1 s) (fun r11 s12 =>
  some (r11, s12))
else 
  bnd (fX0_weighs a1 s) (fun r13 s14 =>
  some (r13, s14))
theorem tX11_ofGuest (Θ : Th) (l : Launch)  (a1 : Int32) (a2 : Int32)  (s : Mem) : Cs Θ l mX11_ofGuest 4 gI [vR 1, vI a1, vI a2] s (fX11_ofGuest a1 a2 s) := by
  refine ct_of (by decide) [some (vR 1), some (vI a1), some (vI a2)] rfl (Nat.le_of_ble_eq_true rfl) ?_
  unfold fX11_ofGuest
  refine j_iload_n 1 dX11_ofGuest_0 rfl rfl ?_
  refine j_ite (fun c1 => ?_) (fun c1 => ?_)
  · refine j_tabIn (v := 0) 32 dX11_ofGuest_1 c1 (by decide) (by decide) rfl (by decide) ?_
    refine j_aload_n 33 dX11_ofGuest_32 rfl rfl ?_
    refine s_getR (x := 6) 36 fa1_3 w_405 dX11_ofGuest_33 rfl (by decide +kernel) ?_
    refine j_iload_n 37 dX11_ofGuest_36 rfl rfl ?_
    refine s_callVi (M2 := mX0_kindOf) [vI a1] 40 oa6 cc0 mkX0_kindOf w_716 dX11_ofGuest_37 rfl rfl (tX0_kindOf Θ l _  _) (by first | exact Nat.le_of_ble_eq_true rfl | omega) (Nat.le_of_ble_eq_true rfl) (Nat.le_of_ble_eq_true rfl) (fun r2 s3 => ?_)
    exact s_iret dX11_ofGuest_40 rfl
  refine j_ite (fun c4 => ?_) (fun c4 => ?_)
  · refine j_tabIn (v := 1) 41 dX11_ofGuest_1 c4 (by decide) (by decide) rfl (by decide) ?_
    refine j_aload_n 42 dX11_ofGuest_41 rfl rfl ?_
    refine s_getR (x := 6) 45 fa1_3 w_405 dX11_ofGuest_42 rfl (by decide +kernel) ?_
    refine j_iload_n 46 dX11_ofGuest_45 rfl rfl ?_
    refine s_callVi (M2 := mX0_weightOf) [vI a1] 49 oa6 cc0 mkX0_weightOf w_717 dX11_ofGuest_46 rfl rfl (tX0_weightOf Θ l _  _) (by first | exact Nat.le_of_ble_eq_true rfl | omega) (Nat.le_of_ble_eq_true rfl) (Nat.le_of_ble_eq_true rfl) (fun r5 s6 => ?_)
    exact s_iret dX11_ofGuest_49 rfl
  refine j_ite (fun c7 => ?_) (fun c7 => ?_)
  · refine j_tabIn (v := 2) 50 dX11_ofGuest_1 c7 (by decide) (by decide) rfl (by decide) ?_
    refine j_aload_n 51 dX11_ofGuest_50 rfl rfl ?_
    refine s_getR (x := 6) 54 fa1_3 w_405 dX11_ofGuest_51 rfl (by decide +kernel) ?_
    refine j_iload_n 55 dX11_ofGuest_54 rfl rfl ?_
    refine s_callVi (M2 := mX0_kinOf) [vI a1] 58 oa6 cc0 mkX0_kinOf w_718 dX11_ofGuest_55 rfl rfl (tX0_kinOf Θ l _  _) (by first | exact Nat.le_of_ble_eq_true rfl | omega) (Nat.le_of_ble_eq_true rfl) (Nat.le_of_ble_eq_true rfl) (fun r8 s9 => ?_)
    exact s_iret dX11_ofGuest_58 rfl
  refine j_ite (fun c10 => ?_) (fun c10 => ?_)
  · refine j_tabIn (v := 3) 59 dX11_ofGuest_1 c10 (by decide) (by decide) rfl (by decide) ?_
    refine j_aload_n 60 dX11_ofGuest_59 rfl rfl ?_
    refine s_getR (x := 6) 63 fa1_3 w_405 dX11_ofGuest_60 rfl (by decide +kernel) ?_
    refine j_iload_n 64 dX11_ofGuest_63 rfl rfl ?_
    refine s_callVi (M2 := mX0_benchOf) [vI a1] 67 oa6 cc0 mkX0_benchOf w_722 dX11_ofGuest_64 rfl rfl (tX0_benchOf Θ l _  _) (by first | exact Nat.le_of_ble_eq_true rfl | omega) (Nat.le_of_ble_eq_true rfl) (Nat.le_of_ble_eq_true rfl) (fun r11 s12 => ?_)
    exact s_iret dX11_ofGuest_67 rfl
  refine j_tabOut 68 dX11_ofGuest_1 (by have z0 := lv_neT c1 (a := 0) (by decide); have z1 := lv_neT c4 (a := 1) (by decide); have z2 := lv_neT c7 (a := 2) (by decide); have z3 := lv_neT c10 (a := 3) (by decide); omega) (by decide) ?_
  refine j_aload_n 69 dX11_ofGuest_68 rfl rfl ?_
  refine s_getR (x := 6) 72 fa1_3 w_405 dX11_ofGuest_69 rfl (by decide +kernel) ?_
  refine j_iload_n 73 dX11_ofGuest_72 rfl rfl ?_
  refine s_callVi (M2 := mX0_weighs) [vI a1] 76 oa6 cc0 mkX0_weighs w_726 dX11_ofGuest_73 rfl rfl (tX0_weighs Θ l _  _) (by first | exact Nat.le_of_ble_eq_true rfl | omega) (Nat.le_of_ble_eq_true rfl) (Nat.le_of_ble_eq_true rfl) (fun r13 s14 => ?_)
  exact s_iret dX11_ofGuest_76 rfl
-- X11_guest
def fX11_guest  (a1 : Int32) (a2 : Int32) (s : Mem) : Option (Int32 × Mem) :=
bnd (fX0_isGuest a1 s) (fun r1 s2 =>
if r1 = 0 then
  some ((-1), s2)
else
  bnd (fX11_isWithin a2 0 4 s2) (fun r4 s5 =>
  if r4 = 0 then
    some ((-1), s5)
  else
    bnd (fX11_ofGuest a1 a2 s5) (fun r7 s8 =>
    bnd (fX10_tell r7 s8) (fun r9 s10 =>
    some (1, s10)))))
theorem tX11_guest (Θ : Th) (l : Launch)  (a1 : Int32) (a2 : Int32)  (s : Mem) : Cs Θ l mX11_guest 5 gI [vR 1, vI a1, vI a2] s (fX11_guest a1 a2 s) := by
  refine ct_of (by decide) [some (vR 1), some (vI a1), some (vI a2)] rfl (Nat.le_of_ble_eq_true rfl) ?_
  unfold fX11_guest
  refine j_aload_n 1 dX11_guest_0 rfl rfl ?_
  refine s_getR (x := 6) 4 fa1_3 w_405 dX11_guest_1 rfl (by decide +kernel) ?_
  refine j_iload_n 5 dX11_guest_4 rfl rfl ?_
  refine s_callVi (M2 := mX0_isGuest) [vI a1] 8 oa6 cc0 mkX0_isGuest w_711 dX11_guest_5 rfl rfl (tX0_isGuest Θ l _  _) (by first | exact Nat.le_of_ble_eq_true rfl | omega) (Nat.le_of_ble_eq_true rfl) (Nat.le_of_ble_eq_true rfl) (fun r1 s2 => ?_)
  refine j_if_eq 20 11 dX11_guest_8 (by decide) rfl (fun c3 => ?_) (fun c3 => ?_)
  · refine j_iconst (v := (-1)) 21 dX11_guest_20 rfl (by decide) ?_
    exact s_iret dX11_guest_21 rfl
  · refine j_iload_n 12 dX11_guest_11 rfl rfl ?_
    refine j_iconst (v := 0) 13 dX11_guest_12 rfl (by decide) ?_
    refine j_iconst (v := 4) 14 dX11_guest_13 rfl (by decide) ?_
    refine s_callSi (M2 := mX11_isWithin) [vI a2, vI 0, vI 4] 17 mkX11_isWithin (Or.inl w_678) dX11_guest_14 rfl rfl (tX11_isWithin Θ l _ _ _  _) (by first | exact Nat.le_of_ble_eq_true rfl | omega) (Nat.le_of_ble_eq_true rfl) (Nat.le_of_ble_eq_true rfl) (fun r4 s5 => ?_)
    refine j_if_ne 22 20 dX11_guest_17 (by decide) rfl (fun c6 => ?_) (fun c6 => ?_)
    · refine j_iconst (v := (-1)) 21 dX11_guest_20 rfl (by decide) ?_
      exact s_iret dX11_guest_21 rfl
    · refine j_aload_n 23 dX11_guest_22 rfl rfl ?_
      refine s_getR (x := 2) 26 fa1_0 w_402 dX11_guest_23 rfl (by decide +kernel) ?_
      refine j_aload_n 27 dX11_guest_26 rfl rfl ?_
      refine j_iload_n 28 dX11_guest_27 rfl rfl ?_
      refine j_iload_n 29 dX11_guest_28 rfl rfl ?_
      refine s_callVi (M2 := mX11_ofGuest) [vI a1, vI a2] 32 oa1 cc11 mkX11_ofGuest w_712 dX11_guest_29 rfl rfl (tX11_ofGuest Θ l _ _  _) (by first | exact Nat.le_of_ble_eq_true rfl | omega) (Nat.le_of_ble_eq_true rfl) (Nat.le_of_ble_eq_true rfl) (fun r7 s8 => ?_)
      refine s_callVu (M2 := mX10_tell) [vI r7] 35 oa2 cc10 mkX10_tell w_479 dX11_guest_32 rfl rfl (tX10_tell Θ l _  _) (by first | exact Nat.le_of_ble_eq_true rfl | omega) (Nat.le_of_ble_eq_true rfl) (Nat.le_of_ble_eq_true rfl) (fun r9 s10 => ?_)
      refine j_iconst (v := 1) 36 dX11_guest_35 rfl (by decide) ?_
      exact s_iret dX11_guest_36 rfl
-- X0_ofKind_904
def fX0_ofKind_904  (a1 : Int32) (s : Mem) : Option (Int32 × Mem) :=
if a1 < 0 then
  some (0, s)
else
  if a1 < 6 then
    if inb a1 6 = true then
    some (stc 3 (ix a1), s)
    else none
  else
    some (0, s)
theorem tX0_ofKind_904 (Θ : Th) (l : Launch)  (a1 : Int32)  (s : Mem) : Cs Θ l mX0_ofKind 1 gI [vR 904, vI a1] s (fX0_ofKind_904 a1 s) := by
  refine ct_of (by decide) [some (vR 904), some (vI a1)] rfl (Nat.le_of_ble_eq_true rfl) ?_
  unfold fX0_ofKind_904
  refine j_iload_n 1 dX0_ofKind_0 rfl rfl ?_
  refine j_if_lt 16 4 dX0_ofKind_1 (by decide) rfl (fun c1 => ?_) (fun c1 => ?_)
  · refine j_iconst (v := 0) 17 dX0_ofKind_16 rfl (by decide) ?_
    exact s_iret dX0_ofKind_17 rfl
  · refine j_iload_n 5 dX0_ofKind_4 rfl rfl ?_
    refine j_aload_n 6 dX0_ofKind_5 rfl rfl ?_
    refine j_alenS (t := 3) 7 dX0_ofKind_6 rfl (by decide) ?_
    refine j_icmp_ge 16 10 dX0_ofKind_7 (by decide) rfl (fun c2 => ?_) (fun c2 => ?_)
    · refine j_aload_n 11 dX0_ofKind_10 rfl rfl ?_
      refine j_iload_n 12 dX0_ofKind_11 rfl rfl ?_
      refine j_ialoadS (t := 3) 13 dX0_ofKind_12 rfl (by decide) (fun b3 => ?_)
      refine j_goto 17 dX0_ofKind_13 (by decide) ?_
      exact s_iret dX0_ofKind_17 rfl
    · refine j_iconst (v := 0) 17 dX0_ofKind_16 rfl (by decide) ?_
      exact s_iret dX0_ofKind_17 rfl
-- X0_isOf
def fX0_isOf  (a1 : Int32) (a2 : Int32) (s : Mem) : Option (Int32 × Mem) :=
bnd (fX0_kindOf a1 s) (fun r1 s2 =>
if r1 = a2 then
  some (1, s2)
else
  bnd (fX0_kindOf a1 s2) (fun r4 s5 =>
  bnd (fX0_ofKind_904 r4 s5) (fun r6 s7 =>
  if r6 = a2 then
    some (1, s7)
  else
    some (0, s7))))
theorem tX0_isOf (Θ : Th) (l : Launch)  (a1 : Int32) (a2 : Int32)  (s : Mem) : Cs Θ l mX0_isOf 3 gI [vR 6, vI a1, vI a2] s (fX0_isOf a1 a2 s) := by
  refine ct_of (by decide) [some (vR 6), some (vI a1), some (vI a2)] rfl (Nat.le_of_ble_eq_true rfl) ?_
  unfold fX0_isOf
  refine j_aload_n 1 dX0_isOf_0 rfl rfl ?_
  refine j_iload_n 2 dX0_isOf_1 rfl rfl ?_
  refine s_callVi (M2 := mX0_kindOf) [vI a1] 5 oa6 cc0 mkX0_kindOf w_642 dX0_isOf_2 rfl rfl (tX0_kindOf Θ l _  _) (by first | exact Nat.le_of_ble_eq_true rfl | omega) (Nat.le_of_ble_eq_true rfl) (Nat.le_of_ble_eq_true rfl) (fun r1 s2 => ?_)
  refine j_iload_n 6 dX0_isOf_5 rfl rfl ?_
  refine j_icmp_eq 24 9 dX0_isOf_6 (by decide) rfl (fun c3 => ?_) (fun c3 => ?_)
  · refine j_iconst (v := 1) 25 dX0_isOf_24 rfl (by decide) ?_
    refine j_goto 29 dX0_isOf_25 (by decide) ?_
    exact s_zret dX0_isOf_29 rfl (by decide)
  · refine j_getstatic (t := 3) 12 dX0_isOf_9 rfl (by decide) w_735 ?_
    refine j_aload_n 13 dX0_isOf_12 rfl rfl ?_
    refine j_iload_n 14 dX0_isOf_13 rfl rfl ?_
    refine s_callVi (M2 := mX0_kindOf) [vI a1] 17 oa6 cc0 mkX0_kindOf w_642 dX0_isOf_14 rfl rfl (tX0_kindOf Θ l _  _) (by first | exact Nat.le_of_ble_eq_true rfl | omega) (Nat.le_of_ble_eq_true rfl) (Nat.le_of_ble_eq_true rfl) (fun r4 s5 => ?_)
    refine s_callSi (M2 := mX0_ofKind) [vR 904, vI r4] 20 mkX0_ofKind (Or.inl w_619) dX0_isOf_17 rfl rfl (tX0_ofKind_904 Θ l _  _) (by first | exact Nat.le_of_ble_eq_true rfl | omega) (Nat.le_of_ble_eq_true rfl) (Nat.le_of_ble_eq_true rfl) (fun r6 s7 => ?_)
    refine j_iload_n 21 dX0_isOf_20 rfl rfl ?_
    refine j_icmp_ne 28 24 dX0_isOf_21 (by decide) rfl (fun c8 => ?_) (fun c8 => ?_)
    · refine j_iconst (v := 1) 25 dX0_isOf_24 rfl (by decide) ?_
      refine j_goto 29 dX0_isOf_25 (by decide) ?_
      exact s_zret dX0_isOf_29 rfl (by decide)
    · refine j_iconst (v := 0) 29 dX0_isOf_28 rfl (by decide) ?_
      exact s_zret dX0_isOf_29 rfl (by decide)
-- X11_isPosture
def fX11_isPosture  (a0 : Int32) (s : Mem) : Option (Int32 × Mem) :=
if a0 < 0 then
  some (0, s)
else
  if a0 < 3 then
    some (1, s)
  else
    some (0, s)
theorem tX11_isPosture (Θ : Th) (l : Launch)  (a0 : Int32)  (s : Mem) : Cs Θ l mX11_isPosture 1 gI [vI a0] s (fX11_isPosture a0 s) := by
  refine ct_of (by decide) [some (vI a0)] rfl (Nat.le_of_ble_eq_true rfl) ?_
  unfold fX11_isPosture
  refine j_iload_n 1 dX11_isPosture_0 rfl rfl ?_
  refine j_if_lt 13 4 dX11_isPosture_1 (by decide) rfl (fun c1 => ?_) (fun c1 => ?_)
  · refine j_iconst (v := 0) 14 dX11_isPosture_13 rfl (by decide) ?_
    exact s_zret dX11_isPosture_14 rfl (by decide)
  · refine j_iload_n 5 dX11_isPosture_4 rfl rfl ?_
    refine j_iconst (v := 3) 6 dX11_isPosture_5 rfl (by decide) ?_
    refine j_icmp_ge 13 9 dX11_isPosture_6 (by decide) rfl (fun c2 => ?_) (fun c2 => ?_)
    · refine j_iconst (v := 1) 10 dX11_isPosture_9 rfl (by decide) ?_
      refine j_goto 14 dX11_isPosture_10 (by decide) ?_
      exact s_zret dX11_isPosture_14 rfl (by decide)
    · refine j_iconst (v := 0) 14 dX11_isPosture_13 rfl (by decide) ?_
      exact s_zret dX11_isPosture_14 rfl (by decide)
-- X0_momentOf
def fX0_momentOf  (a1 : Int32) (a2 : Int32) (a3 : Int32) (s : Mem) : Option (Int32 × Mem) :=
bnd (fX0_isGuest a1 s) (fun r1 s2 =>
if r1 = 0 then
  some (0, s2)
else
  bnd (fX0_isBench a2 s2) (fun r4 s5 =>
  if r4 = 0 then
    some (0, s5)
  else
    bnd (fX11_isPosture a3 s5) (fun r7 s8 =>
    if r7 = 0 then
      some (0, s8)
    else
      bnd (fX0_momentPlace a1 a2 a3 s8) (fun r10 s11 =>
      if inb r10 168 = true then
      some (s11.1 17 (ix r10), s11)
      else none))))
theorem tX0_momentOf (Θ : Th) (l : Launch)  (a1 : Int32) (a2 : Int32) (a3 : Int32)  (s : Mem) : Cs Θ l mX0_momentOf 2 gI [vR 6, vI a1, vI a2, vI a3] s (fX0_momentOf a1 a2 a3 s) := by
  refine ct_of (by decide) [some (vR 6), some (vI a1), some (vI a2), some (vI a3), none] rfl (Nat.le_of_ble_eq_true rfl) ?_
  unfold fX0_momentOf
  refine j_aload_n 1 dX0_momentOf_0 rfl rfl ?_
  refine j_iload_n 2 dX0_momentOf_1 rfl rfl ?_
  refine s_callVi (M2 := mX0_isGuest) [vI a1] 5 oa6 cc0 mkX0_isGuest w_636 dX0_momentOf_2 rfl rfl (tX0_isGuest Θ l _  _) (by first | exact Nat.le_of_ble_eq_true rfl | omega) (Nat.le_of_ble_eq_true rfl) (Nat.le_of_ble_eq_true rfl) (fun r1 s2 => ?_)
  refine j_if_eq 27 8 dX0_momentOf_5 (by decide) rfl (fun c3 => ?_) (fun c3 => ?_)
  · refine j_iconst (v := 0) 28 dX0_momentOf_27 rfl (by decide) ?_
    refine j_istore (i := 4) (ls' := [some (vR 6), some (vI a1), some (vI a2), some (vI a3), some (vI 0)]) 30 dX0_momentOf_28 rfl (by decide) rfl rfl ?_
    refine j_iload 32 dX0_momentOf_30 rfl rfl ?_
    refine j_if_eq_T 49 35 dX0_momentOf_32 (by decide) rfl (by decide) ?_
    refine j_iconst (v := 0) 50 dX0_momentOf_49 rfl (by decide) ?_
    exact s_iret dX0_momentOf_50 rfl
  · refine j_aload_n 9 dX0_momentOf_8 rfl rfl ?_
    refine j_iload_n 10 dX0_momentOf_9 rfl rfl ?_
    refine s_callVi (M2 := mX0_isBench) [vI a2] 13 oa6 cc0 mkX0_isBench w_687 dX0_momentOf_10 rfl rfl (tX0_isBench Θ l _  _) (by first | exact Nat.le_of_ble_eq_true rfl | omega) (Nat.le_of_ble_eq_true rfl) (Nat.le_of_ble_eq_true rfl) (fun r4 s5 => ?_)
    refine j_if_eq 27 16 dX0_momentOf_13 (by decide) rfl (fun c6 => ?_) (fun c6 => ?_)
    · refine j_iconst (v := 0) 28 dX0_momentOf_27 rfl (by decide) ?_
      refine j_istore (i := 4) (ls' := [some (vR 6), some (vI a1), some (vI a2), some (vI a3), some (vI 0)]) 30 dX0_momentOf_28 rfl (by decide) rfl rfl ?_
      refine j_iload 32 dX0_momentOf_30 rfl rfl ?_
      refine j_if_eq_T 49 35 dX0_momentOf_32 (by decide) rfl (by decide) ?_
      refine j_iconst (v := 0) 50 dX0_momentOf_49 rfl (by decide) ?_
      exact s_iret dX0_momentOf_50 rfl
    · refine j_iload_n 17 dX0_momentOf_16 rfl rfl ?_
      refine s_callSi (M2 := mX11_isPosture) [vI a3] 20 mkX11_isPosture (Or.inr ⟨_, w_741⟩) dX0_momentOf_17 rfl rfl (tX11_isPosture Θ l _  _) (by first | exact Nat.le_of_ble_eq_true rfl | omega) (Nat.le_of_ble_eq_true rfl) (Nat.le_of_ble_eq_true rfl) (fun r7 s8 => ?_)
      refine j_if_eq 27 23 dX0_momentOf_20 (by decide) rfl (fun c9 => ?_) (fun c9 => ?_)
      · refine j_iconst (v := 0) 28 dX0_momentOf_27 rfl (by decide) ?_
        refine j_istore (i := 4) (ls' := [some (vR 6), some (vI a1), some (vI a2), some (vI a3), some (vI 0)]) 30 dX0_momentOf_28 rfl (by decide) rfl rfl ?_
        refine j_iload 32 dX0_momentOf_30 rfl rfl ?_
        refine j_if_eq_T 49 35 dX0_momentOf_32 (by decide) rfl (by decide) ?_
        refine j_iconst (v := 0) 50 dX0_momentOf_49 rfl (by decide) ?_
        exact s_iret dX0_momentOf_50 rfl
      · refine j_iconst (v := 1) 24 dX0_momentOf_23 rfl (by decide) ?_
        refine j_goto 28 dX0_momentOf_24 (by decide) ?_
        refine j_istore (i := 4) (ls' := [some (vR 6), some (vI a1), some (vI a2), some (vI a3), some (vI 1)]) 30 dX0_momentOf_28 rfl (by decide) rfl rfl ?_
        refine j_iload 32 dX0_momentOf_30 rfl rfl ?_
        refine j_if_eq_F 49 35 dX0_momentOf_32 (by decide) rfl (by decide) ?_
        refine j_aload_n 36 dX0_momentOf_35 rfl rfl ?_
        refine s_getR (x := 17) 39 fa6_11 w_177 dX0_momentOf_36 rfl (by decide +kernel) ?_
        refine j_iload_n 40 dX0_momentOf_39 rfl rfl ?_
        refine j_iload_n 41 dX0_momentOf_40 rfl rfl ?_
        refine j_iload_n 42 dX0_momentOf_41 rfl rfl ?_
        refine s_callSi (M2 := mX0_momentPlace) [vI a1, vI a2, vI a3] 45 mkX0_momentPlace (Or.inl w_625) dX0_momentOf_42 rfl rfl (tX0_momentPlace Θ l _ _ _  _) (by first | exact Nat.le_of_ble_eq_true rfl | omega) (Nat.le_of_ble_eq_true rfl) (Nat.le_of_ble_eq_true rfl) (fun r10 s11 => ?_)
        refine s_iaload 46 aa17 dX0_momentOf_45 rfl (fun b12 => ?_)
        refine j_goto 50 dX0_momentOf_46 (by decide) ?_
        exact s_iret dX0_momentOf_50 rfl
-- X0_seatedSet
def fX0_seatedSet_L4  (κ : Int32 → Mem → Option (Int32 × Mem))  : Nat → Int32 → Int32 → Mem → Option (Int32 × Mem)
  | 0, _, _, _ => none
  | k + 1, x1, x2, s =>
    if x2 < (s.1 6 0) then
      if inb x2 8 = true then
      nm (x1 ||| (s.1 12 (ix x2))) (fun v3 =>
      fX0_seatedSet_L4 κ k v3 (x2 + 1) s)
      else none
    else
      κ x1 s
def fX0_seatedSet   (s : Mem) : Option (Int32 × Mem) :=
fX0_seatedSet_L4 (fun v4 s5 =>
  some (v4, s5))  FU 0 0 s
theorem tX0_seatedSet_L4 (Θ : Th) (l : Launch)  (κ : Int32 → Mem → Option (Int32 × Mem))   (hκ : ∀ (x1 : Int32) (s : Mem), Js Θ l mX0_seatedSet 1 gI 27 [none, some (vI x1), none] [] s (κ x1 s)) : ∀ (k : Nat) (x1 : Int32) (x2 : Int32) (s : Mem), Js Θ l mX0_seatedSet 1 gI 4 [some (vR 6), some (vI x1), some (vI x2)] [] s (fX0_seatedSet_L4 κ  k x1 x2 s) := by
  intro k
  induction k with
  | zero => intro x1 x2 s; exact j_none
  | succ k ih =>
    intro x1 x2 s
    rw [fX0_seatedSet_L4]
    refine j_iload_n 5 dX0_seatedSet_4 rfl rfl ?_
    refine j_aload_n 6 dX0_seatedSet_5 rfl rfl ?_
    refine s_getI 9 fa6_0 w_156 dX0_seatedSet_6 rfl ?_
    refine j_icmp_ge 27 12 dX0_seatedSet_9 (by decide) rfl (fun c1 => ?_) (fun c1 => ?_)
    · refine j_iload_n 13 dX0_seatedSet_12 rfl rfl ?_
      refine j_aload_n 14 dX0_seatedSet_13 rfl rfl ?_
      refine s_getR (x := 12) 17 fa6_6 w_172 dX0_seatedSet_14 rfl (by decide +kernel) ?_
      refine j_iload_n 18 dX0_seatedSet_17 rfl rfl ?_
      refine s_iaload 19 aa12 dX0_seatedSet_18 rfl (fun b2 => ?_)
      refine j_ior 20 dX0_seatedSet_19 rfl ?_
      refine s_nmI (fun v3 => ?_)
      refine j_istore_n (i := 1) (ls' := [some (vR 6), some (vI v3), some (vI x2)]) 21 dX0_seatedSet_20 rfl rfl (by decide) rfl rfl ?_
      refine j_iinc (v := x2 + 1) (ls' := [some (vR 6), some (vI v3), some (vI (x2 + 1))]) 24 dX0_seatedSet_21 rfl rfl rfl (by decide) rfl rfl ?_
      refine j_goto 4 dX0_seatedSet_24 (by decide) ?_
      refine j_sub (ls' := [some (vR 6), some (vI v3), some (vI (x2 + 1))]) (And.intro rfl (And.intro rfl (And.intro rfl trivial))) ?_
      exact ih v3 (x2 + 1) s
    · refine j_sub (ls' := [none, some (vI x1), none]) (And.intro rfl trivial) ?_
      exact hκ x1 s
theorem tX0_seatedSet (Θ : Th) (l : Launch)    (s : Mem) : Cs Θ l mX0_seatedSet 1 gI [vR 6] s (fX0_seatedSet  s) := by
  refine ct_of (by decide) [some (vR 6), none, none] rfl (Nat.le_of_ble_eq_true rfl) ?_
  unfold fX0_seatedSet
  refine j_iconst (v := 0) 1 dX0_seatedSet_0 rfl (by decide) ?_
  refine j_istore_n (i := 1) (ls' := [some (vR 6), some (vI 0), none]) 2 dX0_seatedSet_1 rfl rfl (by decide) rfl rfl ?_
  refine j_iconst (v := 0) 3 dX0_seatedSet_2 rfl (by decide) ?_
  refine j_istore_n (i := 2) (ls' := [some (vR 6), some (vI 0), some (vI 0)]) 4 dX0_seatedSet_3 rfl rfl (by decide) rfl rfl ?_
  refine j_sub (ls' := [some (vR 6), some (vI 0), some (vI 0)]) (And.intro rfl (And.intro rfl (And.intro rfl trivial))) ?_
  refine tX0_seatedSet_L4 Θ l _   ?_ _ _ _ _
  intro v4 s5
  refine j_iload_n 28 dX0_seatedSet_27 rfl rfl ?_
  exact s_iret dX0_seatedSet_28 rfl
-- X0_kinSet
def fX0_kinSet_L4  (κ : Int32 → Mem → Option (Int32 × Mem)) (y1 : Int32) : Nat → Int32 → Int32 → Mem → Option (Int32 × Mem)
  | 0, _, _, _ => none
  | k + 1, x2, x3, s =>
    if x3 < (s.1 6 1) then
      if inb x3 7 = true then
      if (s.1 15 (ix x3)) = y1 then
        nm (x2 ||| ((1 : Int32) <<< (x3 &&& 31))) (fun v4 =>
        fX0_kinSet_L4 κ y1 k v4 (x3 + 1) s)
      else
        fX0_kinSet_L4 κ y1 k x2 (x3 + 1) s
      else none
    else
      κ x2 s
def fX0_kinSet  (a1 : Int32) (s : Mem) : Option (Int32 × Mem) :=
fX0_kinSet_L4 (fun v5 s6 =>
  some (v5, s6)) a1 FU 0 0 s
theorem tX0_kinSet_L4 (Θ : Th) (l : Launch)  (κ : Int32 → Mem → Option (Int32 × Mem)) (y1 : Int32)  (hκ : ∀ (x2 : Int32) (s : Mem), Js Θ l mX0_kinSet 1 gI 34 [none, none, some (vI x2), none] [] s (κ x2 s)) : ∀ (k : Nat) (x2 : Int32) (x3 : Int32) (s : Mem), Js Θ l mX0_kinSet 1 gI 4 [some (vR 6), some (vI y1), some (vI x2), some (vI x3)] [] s (fX0_kinSet_L4 κ y1 k x2 x3 s) := by
  intro k
  induction k with
  | zero => intro x2 x3 s; exact j_none
  | succ k ih =>
    intro x2 x3 s
    rw [fX0_kinSet_L4]
    refine j_iload_n 5 dX0_kinSet_4 rfl rfl ?_
    refine j_aload_n 6 dX0_kinSet_5 rfl rfl ?_
    refine s_getI 9 fa6_1 w_160 dX0_kinSet_6 rfl ?_
    refine j_icmp_ge 34 12 dX0_kinSet_9 (by decide) rfl (fun c1 => ?_) (fun c1 => ?_)
    · refine j_aload_n 13 dX0_kinSet_12 rfl rfl ?_
      refine s_getR (x := 15) 16 fa6_9 w_175 dX0_kinSet_13 rfl (by decide +kernel) ?_
      refine j_iload_n 17 dX0_kinSet_16 rfl rfl ?_
      refine s_iaload 18 aa15 dX0_kinSet_17 rfl (fun b2 => ?_)
      refine j_iload_n 19 dX0_kinSet_18 rfl rfl ?_
      refine j_icmp_ne 28 22 dX0_kinSet_19 (by decide) rfl (fun c3 => ?_) (fun c3 => ?_)
      · refine j_iload_n 23 dX0_kinSet_22 rfl rfl ?_
        refine j_iconst (v := 1) 24 dX0_kinSet_23 rfl (by decide) ?_
        refine j_iload_n 25 dX0_kinSet_24 rfl rfl ?_
        refine j_ishl 26 dX0_kinSet_25 rfl ?_
        refine j_ior 27 dX0_kinSet_26 rfl ?_
        refine s_nmI (fun v4 => ?_)
        refine j_istore_n (i := 2) (ls' := [some (vR 6), some (vI y1), some (vI v4), some (vI x3)]) 28 dX0_kinSet_27 rfl rfl (by decide) rfl rfl ?_
        refine j_iinc (v := x3 + 1) (ls' := [some (vR 6), some (vI y1), some (vI v4), some (vI (x3 + 1))]) 31 dX0_kinSet_28 rfl rfl rfl (by decide) rfl rfl ?_
        refine j_goto 4 dX0_kinSet_31 (by decide) ?_
        refine j_sub (ls' := [some (vR 6), some (vI y1), some (vI v4), some (vI (x3 + 1))]) (And.intro rfl (And.intro rfl (And.intro rfl (And.intro rfl trivial)))) ?_
        exact ih v4 (x3 + 1) s
      · refine j_iinc (v := x3 + 1) (ls' := [some (vR 6), some (vI y1), some (vI x2), some (vI (x3 + 1))]) 31 dX0_kinSet_28 rfl rfl rfl (by decide) rfl rfl ?_
        refine j_goto 4 dX0_kinSet_31 (by decide) ?_
        refine j_sub (ls' := [some (vR 6), some (vI y1), some (vI x2), some (vI (x3 + 1))]) (And.intro rfl (And.intro rfl (And.intro rfl (And.intro rfl trivial)))) ?_
        exact ih x2 (x3 + 1) s
    · refine j_sub (ls' := [none, none, some (vI x2), none]) (And.intro rfl trivial) ?_
      exact hκ x2 s
theorem tX0_kinSet (Θ : Th) (l : Launch)  (a1 : Int32)  (s : Mem) : Cs Θ l mX0_kinSet 1 gI [vR 6, vI a1] s (fX0_kinSet a1 s) := by
  refine ct_of (by decide) [some (vR 6), some (vI a1), none, none] rfl (Nat.le_of_ble_eq_true rfl) ?_
  unfold fX0_kinSet
  refine j_iconst (v := 0) 1 dX0_kinSet_0 rfl (by decide) ?_
  refine j_istore_n (i := 2) (ls' := [some (vR 6), some (vI a1), some (vI 0), none]) 2 dX0_kinSet_1 rfl rfl (by decide) rfl rfl ?_
  refine j_iconst (v := 0) 3 dX0_kinSet_2 rfl (by decide) ?_
  refine j_istore_n (i := 3) (ls' := [some (vR 6), some (vI a1), some (vI 0), some (vI 0)]) 4 dX0_kinSet_3 rfl rfl (by decide) rfl rfl ?_
  refine j_sub (ls' := [some (vR 6), some (vI a1), some (vI 0), some (vI 0)]) (And.intro rfl (And.intro rfl (And.intro rfl (And.intro rfl trivial)))) ?_
  refine tX0_kinSet_L4 Θ l _ _  ?_ _ _ _ _
  intro v5 s6
  refine j_iload_n 35 dX0_kinSet_34 rfl rfl ?_
  exact s_iret dX0_kinSet_35 rfl
-- X11_mark
def fX11_mark  (a1 : Int32) (a2 : Int32) (s : Mem) : Option (Int32 × Mem) :=
bnd (fX0_isGuest a1 s) (fun r1 s2 =>
if r1 = 0 then
  some ((-1), s2)
else
  bnd (fX11_isWithin a2 1 5 s2) (fun r4 s5 =>
  if r4 = 0 then
    some ((-1), s5)
  else
    bnd (fX0_isOf a1 a2 s5) (fun r7 s8 =>
    if r7 = 0 then
      bnd (fX10_found 3 s8) (fun r10 s11 =>
      some (r10, s11))
    else
      bnd (fX0_benchOf a1 s8) (fun r12 s13 =>
      if a2 = 1 then
        bnd (fX0_momentOf a1 r12 1 s13) (fun r15 s16 =>
        bnd (fX0_momentOf a1 r12 0 s16) (fun r17 s18 =>
        some (r15 - r17, s18)))
      else if a2 = 2 then
        bnd (fX0_momentOf a1 r12 2 s13) (fun r20 s21 =>
        bnd (fX0_momentOf a1 r12 0 s21) (fun r22 s23 =>
        some (r20 - r22, s23)))
      else if a2 = 3 then
        if r12 = (-9) then
          some ((-9), s13)
        else
          bnd (fX0_whoOn r12 s13) (fun r26 s27 =>
          bnd (fJ6_bitCount_0f7a4 r26 s27) (fun r28 s29 =>
          some (r28 - 1, s29)))
      else if a2 = 4 then
        bnd (fX0_xOf r12 s13) (fun r31 s32 =>
        bnd (fX0_farOut 4 r31 1 s32) (fun r33 s34 =>
        some (r33, s34)))
      else 
        bnd (fX0_seatedSet s13) (fun r35 s36 =>
        bnd (fX0_kinOf a1 s36) (fun r37 s38 =>
        bnd (fX0_kinSet r37 s38) (fun r39 s40 =>
        bnd (fJ6_bitCount_0f7a4 ((r35 &&& r39) &&& (((1 : Int32) <<< (a1 &&& 31)) ^^^ (-1))) s40) (fun r41 s42 =>
        some (r41, s42)))))))))
theorem tX11_mark (Θ : Th) (l : Launch)  (a1 : Int32) (a2 : Int32)  (s : Mem) : Cs Θ l mX11_mark 4 gI [vR 1, vI a1, vI a2] s (fX11_mark a1 a2 s) := by
  refine ct_of (by decide) [some (vR 1), some (vI a1), some (vI a2), none] rfl (Nat.le_of_ble_eq_true rfl) ?_
  unfold fX11_mark
  refine j_aload_n 1 dX11_mark_0 rfl rfl ?_
  refine s_getR (x := 6) 4 fa1_3 w_405 dX11_mark_1 rfl (by decide +kernel) ?_
  refine j_iload_n 5 dX11_mark_4 rfl rfl ?_
  refine s_callVi (M2 := mX0_isGuest) [vI a1] 8 oa6 cc0 mkX0_isGuest w_711 dX11_mark_5 rfl rfl (tX0_isGuest Θ l _  _) (by first | exact Nat.le_of_ble_eq_true rfl | omega) (Nat.le_of_ble_eq_true rfl) (Nat.le_of_ble_eq_true rfl) (fun r1 s2 => ?_)
  refine j_if_eq 20 11 dX11_mark_8 (by decide) rfl (fun c3 => ?_) (fun c3 => ?_)
  · refine j_iconst (v := (-1)) 21 dX11_mark_20 rfl (by decide) ?_
    exact s_iret dX11_mark_21 rfl
  · refine j_iload_n 12 dX11_mark_11 rfl rfl ?_
    refine j_iconst (v := 1) 13 dX11_mark_12 rfl (by decide) ?_
    refine j_iconst (v := 5) 14 dX11_mark_13 rfl (by decide) ?_
    refine s_callSi (M2 := mX11_isWithin) [vI a2, vI 1, vI 5] 17 mkX11_isWithin (Or.inl w_678) dX11_mark_14 rfl rfl (tX11_isWithin Θ l _ _ _  _) (by first | exact Nat.le_of_ble_eq_true rfl | omega) (Nat.le_of_ble_eq_true rfl) (Nat.le_of_ble_eq_true rfl) (fun r4 s5 => ?_)
    refine j_if_ne 22 20 dX11_mark_17 (by decide) rfl (fun c6 => ?_) (fun c6 => ?_)
    · refine j_iconst (v := (-1)) 21 dX11_mark_20 rfl (by decide) ?_
      exact s_iret dX11_mark_21 rfl
    · refine j_aload_n 23 dX11_mark_22 rfl rfl ?_
      refine s_getR (x := 6) 26 fa1_3 w_405 dX11_mark_23 rfl (by decide +kernel) ?_
      refine j_iload_n 27 dX11_mark_26 rfl rfl ?_
      refine j_iload_n 28 dX11_mark_27 rfl rfl ?_
      refine s_callVi (M2 := mX0_isOf) [vI a1, vI a2] 31 oa6 cc0 mkX0_isOf w_731 dX11_mark_28 rfl rfl (tX0_isOf Θ l _ _  _) (by first | exact Nat.le_of_ble_eq_true rfl | omega) (Nat.le_of_ble_eq_true rfl) (Nat.le_of_ble_eq_true rfl) (fun r7 s8 => ?_)
      refine j_if_ne 43 34 dX11_mark_31 (by decide) rfl (fun c9 => ?_) (fun c9 => ?_)
      · refine j_aload_n 35 dX11_mark_34 rfl rfl ?_
        refine s_getR (x := 2) 38 fa1_0 w_402 dX11_mark_35 rfl (by decide +kernel) ?_
        refine j_iconst (v := 3) 39 dX11_mark_38 rfl (by decide) ?_
        refine s_callVi (M2 := mX10_found) [vI 3] 42 oa2 cc10 mkX10_found w_444 dX11_mark_39 rfl rfl (tX10_found Θ l _  _) (by first | exact Nat.le_of_ble_eq_true rfl | omega) (Nat.le_of_ble_eq_true rfl) (Nat.le_of_ble_eq_true rfl) (fun r10 s11 => ?_)
        exact s_iret dX11_mark_42 rfl
      · refine j_aload_n 44 dX11_mark_43 rfl rfl ?_
        refine s_getR (x := 6) 47 fa1_3 w_405 dX11_mark_44 rfl (by decide +kernel) ?_
        refine j_iload_n 48 dX11_mark_47 rfl rfl ?_
        refine s_callVi (M2 := mX0_benchOf) [vI a1] 51 oa6 cc0 mkX0_benchOf w_722 dX11_mark_48 rfl rfl (tX0_benchOf Θ l _  _) (by first | exact Nat.le_of_ble_eq_true rfl | omega) (Nat.le_of_ble_eq_true rfl) (Nat.le_of_ble_eq_true rfl) (fun r12 s13 => ?_)
        refine j_istore_n (i := 3) (ls' := [some (vR 1), some (vI a1), some (vI a2), some (vI r12)]) 52 dX11_mark_51 rfl rfl (by decide) rfl rfl ?_
        refine j_iload_n 53 dX11_mark_52 rfl rfl ?_
        refine j_ite (fun c14 => ?_) (fun c14 => ?_)
        · refine j_tabIn (v := 1) 84 dX11_mark_53 c14 (by decide) (by decide) rfl (by decide) ?_
          refine j_aload_n 85 dX11_mark_84 rfl rfl ?_
          refine s_getR (x := 6) 88 fa1_3 w_405 dX11_mark_85 rfl (by decide +kernel) ?_
          refine j_iload_n 89 dX11_mark_88 rfl rfl ?_
          refine j_iload_n 90 dX11_mark_89 rfl rfl ?_
          refine j_iconst (v := 1) 91 dX11_mark_90 rfl (by decide) ?_
          refine s_callVi (M2 := mX0_momentOf) [vI a1, vI r12, vI 1] 94 oa6 cc0 mkX0_momentOf w_737 dX11_mark_91 rfl rfl (tX0_momentOf Θ l _ _ _  _) (by first | exact Nat.le_of_ble_eq_true rfl | omega) (Nat.le_of_ble_eq_true rfl) (Nat.le_of_ble_eq_true rfl) (fun r15 s16 => ?_)
          refine j_aload_n 95 dX11_mark_94 rfl rfl ?_
          refine s_getR (x := 6) 98 fa1_3 w_405 dX11_mark_95 rfl (by decide +kernel) ?_
          refine j_iload_n 99 dX11_mark_98 rfl rfl ?_
          refine j_iload_n 100 dX11_mark_99 rfl rfl ?_
          refine j_iconst (v := 0) 101 dX11_mark_100 rfl (by decide) ?_
          refine s_callVi (M2 := mX0_momentOf) [vI a1, vI r12, vI 0] 104 oa6 cc0 mkX0_momentOf w_737 dX11_mark_101 rfl rfl (tX0_momentOf Θ l _ _ _  _) (by first | exact Nat.le_of_ble_eq_true rfl | omega) (Nat.le_of_ble_eq_true rfl) (Nat.le_of_ble_eq_true rfl) (fun r17 s18 => ?_)
          refine j_isub 105 dX11_mark_104 rfl ?_
          exact s_iret dX11_mark_105 rfl
        refine j_ite (fun c19 => ?_) (fun c19 => ?_)
        · refine j_tabIn (v := 2) 106 dX11_mark_53 c19 (by decide) (by decide) rfl (by decide) ?_
          refine j_aload_n 107 dX11_mark_106 rfl rfl ?_
          refine s_getR (x := 6) 110 fa1_3 w_405 dX11_mark_107 rfl (by decide +kernel) ?_
          refine j_iload_n 111 dX11_mark_110 rfl rfl ?_
          refine j_iload_n 112 dX11_mark_111 rfl rfl ?_
          refine j_iconst (v := 2) 113 dX11_mark_112 rfl (by decide) ?_
          refine s_callVi (M2 := mX0_momentOf) [vI a1, vI r12, vI 2] 116 oa6 cc0 mkX0_momentOf w_737 dX11_mark_113 rfl rfl (tX0_momentOf Θ l _ _ _  _) (by first | exact Nat.le_of_ble_eq_true rfl | omega) (Nat.le_of_ble_eq_true rfl) (Nat.le_of_ble_eq_true rfl) (fun r20 s21 => ?_)
          refine j_aload_n 117 dX11_mark_116 rfl rfl ?_
          refine s_getR (x := 6) 120 fa1_3 w_405 dX11_mark_117 rfl (by decide +kernel) ?_
          refine j_iload_n 121 dX11_mark_120 rfl rfl ?_
          refine j_iload_n 122 dX11_mark_121 rfl rfl ?_
          refine j_iconst (v := 0) 123 dX11_mark_122 rfl (by decide) ?_
          refine s_callVi (M2 := mX0_momentOf) [vI a1, vI r12, vI 0] 126 oa6 cc0 mkX0_momentOf w_737 dX11_mark_123 rfl rfl (tX0_momentOf Θ l _ _ _  _) (by first | exact Nat.le_of_ble_eq_true rfl | omega) (Nat.le_of_ble_eq_true rfl) (Nat.le_of_ble_eq_true rfl) (fun r22 s23 => ?_)
          refine j_isub 127 dX11_mark_126 rfl ?_
          exact s_iret dX11_mark_127 rfl
        refine j_ite (fun c24 => ?_) (fun c24 => ?_)
        · refine j_tabIn (v := 3) 128 dX11_mark_53 c24 (by decide) (by decide) rfl (by decide) ?_
          refine j_iload_n 129 dX11_mark_128 rfl rfl ?_
          refine j_bipush (v := (-9)) 131 dX11_mark_129 rfl (by decide) ?_
          refine j_icmp_ne 139 134 dX11_mark_131 (by decide) rfl (fun c25 => ?_) (fun c25 => ?_)
          · refine j_bipush (v := (-9)) 136 dX11_mark_134 rfl (by decide) ?_
            refine j_goto 152 dX11_mark_136 (by decide) ?_
            exact s_iret dX11_mark_152 rfl
          · refine j_aload_n 140 dX11_mark_139 rfl rfl ?_
            refine s_getR (x := 6) 143 fa1_3 w_405 dX11_mark_140 rfl (by decide +kernel) ?_
            refine j_iload_n 144 dX11_mark_143 rfl rfl ?_
            refine s_callVi (M2 := mX0_whoOn) [vI r12] 147 oa6 cc0 mkX0_whoOn w_702 dX11_mark_144 rfl rfl (tX0_whoOn Θ l _  _) (by first | exact Nat.le_of_ble_eq_true rfl | omega) (Nat.le_of_ble_eq_true rfl) (Nat.le_of_ble_eq_true rfl) (fun r26 s27 => ?_)
            refine s_callSi (M2 := mJ6_bitCount_0f7a4) [vI r26] 150 mkJ6_bitCount_0f7a4 (Or.inl w_744) dX11_mark_147 rfl rfl (tJ6_bitCount_0f7a4 Θ l _  _) (by first | exact Nat.le_of_ble_eq_true rfl | omega) (Nat.le_of_ble_eq_true rfl) (Nat.le_of_ble_eq_true rfl) (fun r28 s29 => ?_)
            refine j_iconst (v := 1) 151 dX11_mark_150 rfl (by decide) ?_
            refine j_isub 152 dX11_mark_151 rfl ?_
            exact s_iret dX11_mark_152 rfl
        refine j_ite (fun c30 => ?_) (fun c30 => ?_)
        · refine j_tabIn (v := 4) 153 dX11_mark_53 c30 (by decide) (by decide) rfl (by decide) ?_
          refine j_iconst (v := 4) 154 dX11_mark_153 rfl (by decide) ?_
          refine j_aload_n 155 dX11_mark_154 rfl rfl ?_
          refine s_getR (x := 6) 158 fa1_3 w_405 dX11_mark_155 rfl (by decide +kernel) ?_
          refine j_iload_n 159 dX11_mark_158 rfl rfl ?_
          refine s_callVi (M2 := mX0_xOf) [vI r12] 162 oa6 cc0 mkX0_xOf w_683 dX11_mark_159 rfl rfl (tX0_xOf Θ l _  _) (by first | exact Nat.le_of_ble_eq_true rfl | omega) (Nat.le_of_ble_eq_true rfl) (Nat.le_of_ble_eq_true rfl) (fun r31 s32 => ?_)
          refine j_iconst (v := 1) 163 dX11_mark_162 rfl (by decide) ?_
          refine s_callSi (M2 := mX0_farOut) [vI 4, vI r31, vI 1] 166 mkX0_farOut (Or.inl w_745) dX11_mark_163 rfl rfl (tX0_farOut Θ l _ _ _  _) (by first | exact Nat.le_of_ble_eq_true rfl | omega) (Nat.le_of_ble_eq_true rfl) (Nat.le_of_ble_eq_true rfl) (fun r33 s34 => ?_)
          exact s_iret dX11_mark_166 rfl
        refine j_tabOut 167 dX11_mark_53 (by have z0 := lv_neT c14 (a := 1) (by decide); have z1 := lv_neT c19 (a := 2) (by decide); have z2 := lv_neT c24 (a := 3) (by decide); have z3 := lv_neT c30 (a := 4) (by decide); omega) (by decide) ?_
        refine j_aload_n 168 dX11_mark_167 rfl rfl ?_
        refine s_getR (x := 6) 171 fa1_3 w_405 dX11_mark_168 rfl (by decide +kernel) ?_
        refine s_callVi (M2 := mX0_seatedSet) [] 174 oa6 cc0 mkX0_seatedSet w_746 dX11_mark_171 rfl rfl (tX0_seatedSet Θ l   _) (by first | exact Nat.le_of_ble_eq_true rfl | omega) (Nat.le_of_ble_eq_true rfl) (Nat.le_of_ble_eq_true rfl) (fun r35 s36 => ?_)
        refine j_aload_n 175 dX11_mark_174 rfl rfl ?_
        refine s_getR (x := 6) 178 fa1_3 w_405 dX11_mark_175 rfl (by decide +kernel) ?_
        refine j_aload_n 179 dX11_mark_178 rfl rfl ?_
        refine s_getR (x := 6) 182 fa1_3 w_405 dX11_mark_179 rfl (by decide +kernel) ?_
        refine j_iload_n 183 dX11_mark_182 rfl rfl ?_
        refine s_callVi (M2 := mX0_kinOf) [vI a1] 186 oa6 cc0 mkX0_kinOf w_718 dX11_mark_183 rfl rfl (tX0_kinOf Θ l _  _) (by first | exact Nat.le_of_ble_eq_true rfl | omega) (Nat.le_of_ble_eq_true rfl) (Nat.le_of_ble_eq_true rfl) (fun r37 s38 => ?_)
        refine s_callVi (M2 := mX0_kinSet) [vI r37] 189 oa6 cc0 mkX0_kinSet w_750 dX11_mark_186 rfl rfl (tX0_kinSet Θ l _  _) (by first | exact Nat.le_of_ble_eq_true rfl | omega) (Nat.le_of_ble_eq_true rfl) (Nat.le_of_ble_eq_true rfl) (fun r39 s40 => ?_)
        refine j_iand 190 dX11_mark_189 rfl ?_
        refine j_iconst (v := 1) 191 dX11_mark_190 rfl (by decide) ?_
        refine j_iload_n 192 dX11_mark_191 rfl rfl ?_
        refine j_ishl 193 dX11_mark_192 rfl ?_
        refine j_iconst (v := (-1)) 194 dX11_mark_193 rfl (by decide) ?_
        refine j_ixor 195 dX11_mark_194 rfl ?_
        refine j_iand 196 dX11_mark_195 rfl ?_
        refine s_callSi (M2 := mJ6_bitCount_0f7a4) [vI ((r35 &&& r39) &&& (((1 : Int32) <<< (a1 &&& 31)) ^^^ (-1)))] 199 mkJ6_bitCount_0f7a4 (Or.inl w_744) dX11_mark_196 rfl rfl (tJ6_bitCount_0f7a4 Θ l _  _) (by first | exact Nat.le_of_ble_eq_true rfl | omega) (Nat.le_of_ble_eq_true rfl) (Nat.le_of_ble_eq_true rfl) (fun r41 s42 => ?_)
        exact s_iret dX11_mark_199 rfl
-- X11_limit
def fX11_limit  (a1 : Int32) (s : Mem) : Option (Int32 × Mem) :=
bnd (fX11_isWithin a1 0 999 s) (fun r1 s2 =>
if r1 = 0 then
  some ((-1), s2)
else
  nm (s2.1 6 2) (fun v4 =>
  some (v4, wI s2 6 2 a1)))
theorem tX11_limit (Θ : Th) (l : Launch)  (a1 : Int32)  (s : Mem) : Cs Θ l mX11_limit 2 gI [vR 1, vI a1] s (fX11_limit a1 s) := by
  refine ct_of (by decide) [some (vR 1), some (vI a1), none] rfl (Nat.le_of_ble_eq_true rfl) ?_
  unfold fX11_limit
  refine j_iload_n 1 dX11_limit_0 rfl rfl ?_
  refine j_iconst (v := 0) 2 dX11_limit_1 rfl (by decide) ?_
  refine j_sipush (v := 999) 5 dX11_limit_2 rfl (by decide) ?_
  refine s_callSi (M2 := mX11_isWithin) [vI a1, vI 0, vI 999] 8 mkX11_isWithin (Or.inl w_678) dX11_limit_5 rfl rfl (tX11_isWithin Θ l _ _ _  _) (by first | exact Nat.le_of_ble_eq_true rfl | omega) (Nat.le_of_ble_eq_true rfl) (Nat.le_of_ble_eq_true rfl) (fun r1 s2 => ?_)
  refine j_if_ne 13 11 dX11_limit_8 (by decide) rfl (fun c3 => ?_) (fun c3 => ?_)
  · refine j_iconst (v := (-1)) 12 dX11_limit_11 rfl (by decide) ?_
    exact s_iret dX11_limit_12 rfl
  · refine j_aload_n 14 dX11_limit_13 rfl rfl ?_
    refine s_getR (x := 6) 17 fa1_3 w_405 dX11_limit_14 rfl (by decide +kernel) ?_
    refine s_getI 20 fa6_2 w_164 dX11_limit_17 rfl ?_
    refine s_nmI (fun v4 => ?_)
    refine j_istore_n (i := 2) (ls' := [some (vR 1), some (vI a1), some (vI v4)]) 21 dX11_limit_20 rfl rfl (by decide) rfl rfl ?_
    refine j_aload_n 22 dX11_limit_21 rfl rfl ?_
    refine s_getR (x := 6) 25 fa1_3 w_405 dX11_limit_22 rfl (by decide +kernel) ?_
    refine j_iload_n 26 dX11_limit_25 rfl rfl ?_
    refine s_putI 29 fa6_2 w_164 dX11_limit_26 rfl ?_
    refine j_iload_n 30 dX11_limit_29 rfl rfl ?_
    exact s_iret dX11_limit_30 rfl
-- X11_rain
def fX11_rain  (a1 : Int32) (s : Mem) : Option (Int32 × Mem) :=
bnd (fX11_isWithin a1 (-200) 200 s) (fun r1 s2 =>
if r1 = 0 then
  some ((-1), s2)
else
  bnd (fX10_tell (s2.1 6 3) s2) (fun r4 s5 =>
  some (1, wI s5 6 3 a1)))
theorem tX11_rain (Θ : Th) (l : Launch)  (a1 : Int32)  (s : Mem) : Cs Θ l mX11_rain 2 gI [vR 1, vI a1] s (fX11_rain a1 s) := by
  refine ct_of (by decide) [some (vR 1), some (vI a1)] rfl (Nat.le_of_ble_eq_true rfl) ?_
  unfold fX11_rain
  refine j_iload_n 1 dX11_rain_0 rfl rfl ?_
  refine j_sipush (v := (-200)) 4 dX11_rain_1 rfl (by decide) ?_
  refine j_sipush (v := 200) 7 dX11_rain_4 rfl (by decide) ?_
  refine s_callSi (M2 := mX11_isWithin) [vI a1, vI (-200), vI 200] 10 mkX11_isWithin (Or.inl w_678) dX11_rain_7 rfl rfl (tX11_isWithin Θ l _ _ _  _) (by first | exact Nat.le_of_ble_eq_true rfl | omega) (Nat.le_of_ble_eq_true rfl) (Nat.le_of_ble_eq_true rfl) (fun r1 s2 => ?_)
  refine j_if_ne 15 13 dX11_rain_10 (by decide) rfl (fun c3 => ?_) (fun c3 => ?_)
  · refine j_iconst (v := (-1)) 14 dX11_rain_13 rfl (by decide) ?_
    exact s_iret dX11_rain_14 rfl
  · refine j_aload_n 16 dX11_rain_15 rfl rfl ?_
    refine s_getR (x := 2) 19 fa1_0 w_402 dX11_rain_16 rfl (by decide +kernel) ?_
    refine j_aload_n 20 dX11_rain_19 rfl rfl ?_
    refine s_getR (x := 6) 23 fa1_3 w_405 dX11_rain_20 rfl (by decide +kernel) ?_
    refine s_getI 26 fa6_3 w_167 dX11_rain_23 rfl ?_
    refine s_callVu (M2 := mX10_tell) [vI (s2.1 6 3)] 29 oa2 cc10 mkX10_tell w_479 dX11_rain_26 rfl rfl (tX10_tell Θ l _  _) (by first | exact Nat.le_of_ble_eq_true rfl | omega) (Nat.le_of_ble_eq_true rfl) (Nat.le_of_ble_eq_true rfl) (fun r4 s5 => ?_)
    refine j_aload_n 30 dX11_rain_29 rfl rfl ?_
    refine s_getR (x := 6) 33 fa1_3 w_405 dX11_rain_30 rfl (by decide +kernel) ?_
    refine j_iload_n 34 dX11_rain_33 rfl rfl ?_
    refine s_putI 37 fa6_3 w_167 dX11_rain_34 rfl ?_
    refine j_iconst (v := 1) 38 dX11_rain_37 rfl (by decide) ?_
    exact s_iret dX11_rain_38 rfl
-- X5_add
def fX5_add  (a1 : Int32) (a2 : Int32) (s : Mem) : Option (Unit × Mem) :=
if (s.1 7 0) < 8 then
  if inb (s.1 7 0) 8 = true then
  if inb ((wI s 8 (ix (s.1 7 0)) a1).1 7 0) 8 = true then
  bnd (fX5_noteFoes a1 a2 (wI (wI (wI s 8 (ix (s.1 7 0)) a1) 9 (ix ((wI s 8 (ix (s.1 7 0)) a1).1 7 0)) a2) 7 0 (((wI (wI s 8 (ix (s.1 7 0)) a1) 9 (ix ((wI s 8 (ix (s.1 7 0)) a1).1 7 0)) a2).1 7 0) + 1))) (fun r4 s5 =>
  some ((), s5))
  else none
  else none
else
  some ((), s)
theorem tX5_add (Θ : Th) (l : Launch)  (a1 : Int32) (a2 : Int32)  (s : Mem) : Cs Θ l mX5_add 3 gU [vR 7, vI a1, vI a2] s (fX5_add a1 a2 s) := by
  refine ct_of (by decide) [some (vR 7), some (vI a1), some (vI a2)] rfl (Nat.le_of_ble_eq_true rfl) ?_
  unfold fX5_add
  refine j_aload_n 1 dX5_add_0 rfl rfl ?_
  refine s_getI 4 fa7_0 w_142 dX5_add_1 rfl ?_
  refine j_bipush (v := 8) 6 dX5_add_4 rfl (by decide) ?_
  refine j_icmp_ge 45 9 dX5_add_6 (by decide) rfl (fun c1 => ?_) (fun c1 => ?_)
  · refine j_aload_n 10 dX5_add_9 rfl rfl ?_
    refine s_getR (x := 8) 13 fa7_1 w_144 dX5_add_10 rfl (by decide +kernel) ?_
    refine j_aload_n 14 dX5_add_13 rfl rfl ?_
    refine s_getI 17 fa7_0 w_142 dX5_add_14 rfl ?_
    refine j_iload_n 18 dX5_add_17 rfl rfl ?_
    refine s_iastore 19 aa8 dX5_add_18 rfl (fun b2 => ?_)
    refine j_aload_n 20 dX5_add_19 rfl rfl ?_
    refine s_getR (x := 9) 23 fa7_2 w_145 dX5_add_20 rfl (by decide +kernel) ?_
    refine j_aload_n 24 dX5_add_23 rfl rfl ?_
    refine s_getI 27 fa7_0 w_142 dX5_add_24 rfl ?_
    refine j_iload_n 28 dX5_add_27 rfl rfl ?_
    refine s_iastore 29 aa9 dX5_add_28 rfl (fun b3 => ?_)
    refine j_aload_n 30 dX5_add_29 rfl rfl ?_
    refine j_dup 31 dX5_add_30 rfl rfl ?_
    refine s_getI 34 fa7_0 w_142 dX5_add_31 rfl ?_
    refine j_iconst (v := 1) 35 dX5_add_34 rfl (by decide) ?_
    refine j_iadd 36 dX5_add_35 rfl ?_
    refine s_putI 39 fa7_0 w_142 dX5_add_36 rfl ?_
    refine j_aload_n 40 dX5_add_39 rfl rfl ?_
    refine j_iload_n 41 dX5_add_40 rfl rfl ?_
    refine j_iload_n 42 dX5_add_41 rfl rfl ?_
    refine s_callVu (M2 := mX5_noteFoes) [vI a1, vI a2] 45 oa7 cc5 mkX5_noteFoes w_590 dX5_add_42 rfl rfl (tX5_noteFoes Θ l _ _  _) (by first | exact Nat.le_of_ble_eq_true rfl | omega) (Nat.le_of_ble_eq_true rfl) (Nat.le_of_ble_eq_true rfl) (fun r4 s5 => ?_)
    exact s_ret dX5_add_45 rfl
  · exact s_ret dX5_add_45 rfl
-- X11_quarrel
def fX11_quarrel  (a1 : Int32) (a2 : Int32) (s : Mem) : Option (Int32 × Mem) :=
bnd (fX0_isGuest a1 s) (fun r1 s2 =>
if r1 = 0 then
  some ((-1), s2)
else
  bnd (fX0_isGuest a2 s2) (fun r4 s5 =>
  if r4 = 0 then
    some ((-1), s5)
  else
    if a1 = a2 then
      some ((-1), s5)
    else
      if (s5.1 7 0) < 8 then
        bnd (fX5_add a1 a2 s5) (fun r9 s10 =>
        some ((s10.1 7 0) - 1, s10))
      else
        some ((-2), s5)))
theorem tX11_quarrel (Θ : Th) (l : Launch)  (a1 : Int32) (a2 : Int32)  (s : Mem) : Cs Θ l mX11_quarrel 4 gI [vR 1, vI a1, vI a2] s (fX11_quarrel a1 a2 s) := by
  refine ct_of (by decide) [some (vR 1), some (vI a1), some (vI a2)] rfl (Nat.le_of_ble_eq_true rfl) ?_
  unfold fX11_quarrel
  refine j_aload_n 1 dX11_quarrel_0 rfl rfl ?_
  refine s_getR (x := 6) 4 fa1_3 w_405 dX11_quarrel_1 rfl (by decide +kernel) ?_
  refine j_iload_n 5 dX11_quarrel_4 rfl rfl ?_
  refine s_callVi (M2 := mX0_isGuest) [vI a1] 8 oa6 cc0 mkX0_isGuest w_711 dX11_quarrel_5 rfl rfl (tX0_isGuest Θ l _  _) (by first | exact Nat.le_of_ble_eq_true rfl | omega) (Nat.le_of_ble_eq_true rfl) (Nat.le_of_ble_eq_true rfl) (fun r1 s2 => ?_)
  refine j_if_eq 27 11 dX11_quarrel_8 (by decide) rfl (fun c3 => ?_) (fun c3 => ?_)
  · refine j_iconst (v := (-1)) 28 dX11_quarrel_27 rfl (by decide) ?_
    exact s_iret dX11_quarrel_28 rfl
  · refine j_aload_n 12 dX11_quarrel_11 rfl rfl ?_
    refine s_getR (x := 6) 15 fa1_3 w_405 dX11_quarrel_12 rfl (by decide +kernel) ?_
    refine j_iload_n 16 dX11_quarrel_15 rfl rfl ?_
    refine s_callVi (M2 := mX0_isGuest) [vI a2] 19 oa6 cc0 mkX0_isGuest w_711 dX11_quarrel_16 rfl rfl (tX0_isGuest Θ l _  _) (by first | exact Nat.le_of_ble_eq_true rfl | omega) (Nat.le_of_ble_eq_true rfl) (Nat.le_of_ble_eq_true rfl) (fun r4 s5 => ?_)
    refine j_if_eq 27 22 dX11_quarrel_19 (by decide) rfl (fun c6 => ?_) (fun c6 => ?_)
    · refine j_iconst (v := (-1)) 28 dX11_quarrel_27 rfl (by decide) ?_
      exact s_iret dX11_quarrel_28 rfl
    · refine j_iload_n 23 dX11_quarrel_22 rfl rfl ?_
      refine j_iload_n 24 dX11_quarrel_23 rfl rfl ?_
      refine j_icmp_ne 29 27 dX11_quarrel_24 (by decide) rfl (fun c7 => ?_) (fun c7 => ?_)
      · refine j_iconst (v := (-1)) 28 dX11_quarrel_27 rfl (by decide) ?_
        exact s_iret dX11_quarrel_28 rfl
      · refine j_aload_n 30 dX11_quarrel_29 rfl rfl ?_
        refine s_getR (x := 7) 33 fa1_4 w_406 dX11_quarrel_30 rfl (by decide +kernel) ?_
        refine s_getI 36 fa7_0 w_143 dX11_quarrel_33 rfl ?_
        refine j_bipush (v := 8) 38 dX11_quarrel_36 rfl (by decide) ?_
        refine j_icmp_lt 44 41 dX11_quarrel_38 (by decide) rfl (fun c8 => ?_) (fun c8 => ?_)
        · refine j_aload_n 45 dX11_quarrel_44 rfl rfl ?_
          refine s_getR (x := 7) 48 fa1_4 w_406 dX11_quarrel_45 rfl (by decide +kernel) ?_
          refine j_iload_n 49 dX11_quarrel_48 rfl rfl ?_
          refine j_iload_n 50 dX11_quarrel_49 rfl rfl ?_
          refine s_callVu (M2 := mX5_add) [vI a1, vI a2] 53 oa7 cc5 mkX5_add w_766 dX11_quarrel_50 rfl rfl (tX5_add Θ l _ _  _) (by first | exact Nat.le_of_ble_eq_true rfl | omega) (Nat.le_of_ble_eq_true rfl) (Nat.le_of_ble_eq_true rfl) (fun r9 s10 => ?_)
          refine j_aload_n 54 dX11_quarrel_53 rfl rfl ?_
          refine s_getR (x := 7) 57 fa1_4 w_406 dX11_quarrel_54 rfl (by decide +kernel) ?_
          refine s_getI 60 fa7_0 w_143 dX11_quarrel_57 rfl ?_
          refine j_iconst (v := 1) 61 dX11_quarrel_60 rfl (by decide) ?_
          refine j_isub 62 dX11_quarrel_61 rfl ?_
          exact s_iret dX11_quarrel_62 rfl
        · refine j_bipush (v := (-2)) 43 dX11_quarrel_41 rfl (by decide) ?_
          exact s_iret dX11_quarrel_43 rfl
-- X11_peace
def fX11_peace  (a1 : Int32) (s : Mem) : Option (Int32 × Mem) :=
bnd (fX11_isWithin a1 0 (s.1 7 0) s) (fun r1 s2 =>
if r1 = 0 then
  some ((-1), s2)
else
  nm ((s2.1 7 0) - a1) (fun v4 =>
  bnd (fX5_cutTo a1 s2) (fun r5 s6 =>
  some (v4, s6))))
theorem tX11_peace (Θ : Th) (l : Launch)  (a1 : Int32)  (s : Mem) : Cs Θ l mX11_peace 4 gI [vR 1, vI a1] s (fX11_peace a1 s) := by
  refine ct_of (by decide) [some (vR 1), some (vI a1), none] rfl (Nat.le_of_ble_eq_true rfl) ?_
  unfold fX11_peace
  refine j_iload_n 1 dX11_peace_0 rfl rfl ?_
  refine j_iconst (v := 0) 2 dX11_peace_1 rfl (by decide) ?_
  refine j_aload_n 3 dX11_peace_2 rfl rfl ?_
  refine s_getR (x := 7) 6 fa1_4 w_406 dX11_peace_3 rfl (by decide +kernel) ?_
  refine s_getI 9 fa7_0 w_143 dX11_peace_6 rfl ?_
  refine s_callSi (M2 := mX11_isWithin) [vI a1, vI 0, vI (s.1 7 0)] 12 mkX11_isWithin (Or.inl w_678) dX11_peace_9 rfl rfl (tX11_isWithin Θ l _ _ _  _) (by first | exact Nat.le_of_ble_eq_true rfl | omega) (Nat.le_of_ble_eq_true rfl) (Nat.le_of_ble_eq_true rfl) (fun r1 s2 => ?_)
  refine j_if_ne 17 15 dX11_peace_12 (by decide) rfl (fun c3 => ?_) (fun c3 => ?_)
  · refine j_iconst (v := (-1)) 16 dX11_peace_15 rfl (by decide) ?_
    exact s_iret dX11_peace_16 rfl
  · refine j_aload_n 18 dX11_peace_17 rfl rfl ?_
    refine s_getR (x := 7) 21 fa1_4 w_406 dX11_peace_18 rfl (by decide +kernel) ?_
    refine s_getI 24 fa7_0 w_143 dX11_peace_21 rfl ?_
    refine j_iload_n 25 dX11_peace_24 rfl rfl ?_
    refine j_isub 26 dX11_peace_25 rfl ?_
    refine s_nmI (fun v4 => ?_)
    refine j_istore_n (i := 2) (ls' := [some (vR 1), some (vI a1), some (vI v4)]) 27 dX11_peace_26 rfl rfl (by decide) rfl rfl ?_
    refine j_aload_n 28 dX11_peace_27 rfl rfl ?_
    refine s_getR (x := 7) 31 fa1_4 w_406 dX11_peace_28 rfl (by decide +kernel) ?_
    refine j_iload_n 32 dX11_peace_31 rfl rfl ?_
    refine s_callVu (M2 := mX5_cutTo) [vI a1] 35 oa7 cc5 mkX5_cutTo w_774 dX11_peace_32 rfl rfl (tX5_cutTo Θ l _  _) (by first | exact Nat.le_of_ble_eq_true rfl | omega) (Nat.le_of_ble_eq_true rfl) (Nat.le_of_ble_eq_true rfl) (fun r5 s6 => ?_)
    refine j_iload_n 36 dX11_peace_35 rfl rfl ?_
    exact s_iret dX11_peace_36 rfl
-- X0_seatsFor
def fX0_seatsFor  (a1 : Int32) (s : Mem) : Option (Int32 × Mem) :=
bnd (fX0_kindOf a1 s) (fun r1 s2 =>
if r1 = 3 then
  some (0, s2)
else
  some (1, s2))
theorem tX0_seatsFor (Θ : Th) (l : Launch)  (a1 : Int32)  (s : Mem) : Cs Θ l mX0_seatsFor 3 gI [vR 6, vI a1] s (fX0_seatsFor a1 s) := by
  refine ct_of (by decide) [some (vR 6), some (vI a1)] rfl (Nat.le_of_ble_eq_true rfl) ?_
  unfold fX0_seatsFor
  refine j_aload_n 1 dX0_seatsFor_0 rfl rfl ?_
  refine j_iload_n 2 dX0_seatsFor_1 rfl rfl ?_
  refine s_callVi (M2 := mX0_kindOf) [vI a1] 5 oa6 cc0 mkX0_kindOf w_642 dX0_seatsFor_2 rfl rfl (tX0_kindOf Θ l _  _) (by first | exact Nat.le_of_ble_eq_true rfl | omega) (Nat.le_of_ble_eq_true rfl) (Nat.le_of_ble_eq_true rfl) (fun r1 s2 => ?_)
  refine j_iconst (v := 3) 6 dX0_seatsFor_5 rfl (by decide) ?_
  refine j_icmp_ne 13 9 dX0_seatsFor_6 (by decide) rfl (fun c3 => ?_) (fun c3 => ?_)
  · refine j_iconst (v := 0) 10 dX0_seatsFor_9 rfl (by decide) ?_
    refine j_goto 14 dX0_seatsFor_10 (by decide) ?_
    exact s_iret dX0_seatsFor_14 rfl
  · refine j_iconst (v := 1) 14 dX0_seatsFor_13 rfl (by decide) ?_
    exact s_iret dX0_seatsFor_14 rfl
-- X5_foesOf
def fX5_foesOf  (a1 : Int32) (s : Mem) : Option (Int32 × Mem) :=
if a1 < 0 then
  some (0, s)
else
  if a1 < 7 then
    if inb a1 7 = true then
    some (s.1 10 (ix a1), s)
    else none
  else
    some (0, s)
theorem tX5_foesOf (Θ : Th) (l : Launch)  (a1 : Int32)  (s : Mem) : Cs Θ l mX5_foesOf 1 gI [vR 7, vI a1] s (fX5_foesOf a1 s) := by
  refine ct_of (by decide) [some (vR 7), some (vI a1)] rfl (Nat.le_of_ble_eq_true rfl) ?_
  unfold fX5_foesOf
  refine j_iload_n 1 dX5_foesOf_0 rfl rfl ?_
  refine j_if_lt 19 4 dX5_foesOf_1 (by decide) rfl (fun c1 => ?_) (fun c1 => ?_)
  · refine j_iconst (v := 0) 20 dX5_foesOf_19 rfl (by decide) ?_
    exact s_iret dX5_foesOf_20 rfl
  · refine j_iload_n 5 dX5_foesOf_4 rfl rfl ?_
    refine j_bipush (v := 7) 7 dX5_foesOf_5 rfl (by decide) ?_
    refine j_icmp_ge 19 10 dX5_foesOf_7 (by decide) rfl (fun c2 => ?_) (fun c2 => ?_)
    · refine j_aload_n 11 dX5_foesOf_10 rfl rfl ?_
      refine s_getR (x := 10) 14 fa7_3 w_146 dX5_foesOf_11 rfl (by decide +kernel) ?_
      refine j_iload_n 15 dX5_foesOf_14 rfl rfl ?_
      refine s_iaload 16 aa10 dX5_foesOf_15 rfl (fun b3 => ?_)
      refine j_goto 20 dX5_foesOf_16 (by decide) ?_
      exact s_iret dX5_foesOf_20 rfl
    · refine j_iconst (v := 0) 20 dX5_foesOf_19 rfl (by decide) ?_
      exact s_iret dX5_foesOf_20 rfl
-- X0_mayTake
def fX0_mayTake  (a1 : Int32) (a2 : Int32) (s : Mem) : Option (Int32 × Mem) :=
bnd (fX0_seatsTaken a2 s) (fun r1 s2 =>
bnd (fX0_seatsFor a1 s2) (fun r3 s4 =>
if 2 < (r1 + r3) then
  some (0, s4)
else
  bnd (fX0_whoOn (a2 - 1) s4) (fun r6 s7 =>
  bnd (fX0_whoOn a2 s7) (fun r8 s9 =>
  bnd (fX0_whoOn (a2 + 1) s9) (fun r10 s11 =>
  nm ((r6 ||| r8) ||| r10) (fun v12 =>
  bnd (fX5_foesOf a1 s11) (fun r13 s14 =>
  if (v12 &&& r13) = 0 then
    some (1, s14)
  else
    some (0, s14))))))))
theorem tX0_mayTake (Θ : Th) (l : Launch)  (a1 : Int32) (a2 : Int32)  (s : Mem) : Cs Θ l mX0_mayTake 4 gI [vR 6, vI a1, vI a2] s (fX0_mayTake a1 a2 s) := by
  refine ct_of (by decide) [some (vR 6), some (vI a1), some (vI a2), none] rfl (Nat.le_of_ble_eq_true rfl) ?_
  unfold fX0_mayTake
  refine j_aload_n 1 dX0_mayTake_0 rfl rfl ?_
  refine j_iload_n 2 dX0_mayTake_1 rfl rfl ?_
  refine s_callVi (M2 := mX0_seatsTaken) [vI a2] 5 oa6 cc0 mkX0_seatsTaken w_783 dX0_mayTake_2 rfl rfl (tX0_seatsTaken Θ l _  _) (by first | exact Nat.le_of_ble_eq_true rfl | omega) (Nat.le_of_ble_eq_true rfl) (Nat.le_of_ble_eq_true rfl) (fun r1 s2 => ?_)
  refine j_aload_n 6 dX0_mayTake_5 rfl rfl ?_
  refine j_iload_n 7 dX0_mayTake_6 rfl rfl ?_
  refine s_callVi (M2 := mX0_seatsFor) [vI a1] 10 oa6 cc0 mkX0_seatsFor w_784 dX0_mayTake_7 rfl rfl (tX0_seatsFor Θ l _  _) (by first | exact Nat.le_of_ble_eq_true rfl | omega) (Nat.le_of_ble_eq_true rfl) (Nat.le_of_ble_eq_true rfl) (fun r3 s4 => ?_)
  refine j_iadd 11 dX0_mayTake_10 rfl ?_
  refine j_iconst (v := 2) 12 dX0_mayTake_11 rfl (by decide) ?_
  refine j_icmp_le 17 15 dX0_mayTake_12 (by decide) rfl (fun c5 => ?_) (fun c5 => ?_)
  · refine j_iconst (v := 0) 16 dX0_mayTake_15 rfl (by decide) ?_
    exact s_zret dX0_mayTake_16 rfl (by decide)
  · refine j_aload_n 18 dX0_mayTake_17 rfl rfl ?_
    refine j_iload_n 19 dX0_mayTake_18 rfl rfl ?_
    refine j_iconst (v := 1) 20 dX0_mayTake_19 rfl (by decide) ?_
    refine j_isub 21 dX0_mayTake_20 rfl ?_
    refine s_callVi (M2 := mX0_whoOn) [vI (a2 - 1)] 24 oa6 cc0 mkX0_whoOn w_692 dX0_mayTake_21 rfl rfl (tX0_whoOn Θ l _  _) (by first | exact Nat.le_of_ble_eq_true rfl | omega) (Nat.le_of_ble_eq_true rfl) (Nat.le_of_ble_eq_true rfl) (fun r6 s7 => ?_)
    refine j_aload_n 25 dX0_mayTake_24 rfl rfl ?_
    refine j_iload_n 26 dX0_mayTake_25 rfl rfl ?_
    refine s_callVi (M2 := mX0_whoOn) [vI a2] 29 oa6 cc0 mkX0_whoOn w_692 dX0_mayTake_26 rfl rfl (tX0_whoOn Θ l _  _) (by first | exact Nat.le_of_ble_eq_true rfl | omega) (Nat.le_of_ble_eq_true rfl) (Nat.le_of_ble_eq_true rfl) (fun r8 s9 => ?_)
    refine j_ior 30 dX0_mayTake_29 rfl ?_
    refine j_aload_n 31 dX0_mayTake_30 rfl rfl ?_
    refine j_iload_n 32 dX0_mayTake_31 rfl rfl ?_
    refine j_iconst (v := 1) 33 dX0_mayTake_32 rfl (by decide) ?_
    refine j_iadd 34 dX0_mayTake_33 rfl ?_
    refine s_callVi (M2 := mX0_whoOn) [vI (a2 + 1)] 37 oa6 cc0 mkX0_whoOn w_692 dX0_mayTake_34 rfl rfl (tX0_whoOn Θ l _  _) (by first | exact Nat.le_of_ble_eq_true rfl | omega) (Nat.le_of_ble_eq_true rfl) (Nat.le_of_ble_eq_true rfl) (fun r10 s11 => ?_)
    refine j_ior 38 dX0_mayTake_37 rfl ?_
    refine s_nmI (fun v12 => ?_)
    refine j_istore_n (i := 3) (ls' := [some (vR 6), some (vI a1), some (vI a2), some (vI v12)]) 39 dX0_mayTake_38 rfl rfl (by decide) rfl rfl ?_
    refine j_iload_n 40 dX0_mayTake_39 rfl rfl ?_
    refine j_aload_n 41 dX0_mayTake_40 rfl rfl ?_
    refine s_getR (x := 7) 44 fa6_4 w_168 dX0_mayTake_41 rfl (by decide +kernel) ?_
    refine j_iload_n 45 dX0_mayTake_44 rfl rfl ?_
    refine s_callVi (M2 := mX5_foesOf) [vI a1] 48 oa7 cc5 mkX5_foesOf w_788 dX0_mayTake_45 rfl rfl (tX5_foesOf Θ l _  _) (by first | exact Nat.le_of_ble_eq_true rfl | omega) (Nat.le_of_ble_eq_true rfl) (Nat.le_of_ble_eq_true rfl) (fun r13 s14 => ?_)
    refine j_iand 49 dX0_mayTake_48 rfl ?_
    refine j_if_ne 56 52 dX0_mayTake_49 (by decide) rfl (fun c15 => ?_) (fun c15 => ?_)
    · refine j_iconst (v := 1) 53 dX0_mayTake_52 rfl (by decide) ?_
      refine j_goto 57 dX0_mayTake_53 (by decide) ?_
      exact s_zret dX0_mayTake_57 rfl (by decide)
    · refine j_iconst (v := 0) 57 dX0_mayTake_56 rfl (by decide) ?_
      exact s_zret dX0_mayTake_57 rfl (by decide)
-- X0_place
def fX0_place  (a1 : Int32) (a2 : Int32) (s : Mem) : Option (Unit × Mem) :=
bnd (fX0_isGuest a1 s) (fun r1 s2 =>
if r1 = 0 then
  some ((), s2)
else
  if inb a1 7 = true then
  nm (s2.1 16 (ix a1)) (fun v5 =>
  bnd (fX0_isBench v5 s2) (fun r6 s7 =>
  if r6 = 0 then
    bnd (fX0_isBench a2 s7) (fun r9 s10 =>
    if r9 = 0 then
      if inb a1 7 = true then
      bnd (fX0_isBench a2 (wI s10 16 (ix a1) (-9))) (fun r13 s14 =>
      if r13 = 0 then
        some ((), s14)
      else
        if inb a2 8 = true then
        if inb a2 8 = true then
        some ((), wI s14 12 (ix a2) ((s14.1 12 (ix a2)) ||| ((1 : Int32) <<< (a1 &&& 31))))
        else none
        else none)
      else none
    else
      if inb a1 7 = true then
      bnd (fX0_isBench a2 (wI s10 16 (ix a1) a2)) (fun r19 s20 =>
      if r19 = 0 then
        some ((), s20)
      else
        if inb a2 8 = true then
        if inb a2 8 = true then
        some ((), wI s20 12 (ix a2) ((s20.1 12 (ix a2)) ||| ((1 : Int32) <<< (a1 &&& 31))))
        else none
        else none)
      else none)
  else
    if inb v5 8 = true then
    if inb v5 8 = true then
    bnd (fX0_isBench a2 (wI s7 12 (ix v5) ((s7.1 12 (ix v5)) &&& (((1 : Int32) <<< (a1 &&& 31)) ^^^ (-1))))) (fun r26 s27 =>
    if r26 = 0 then
      if inb a1 7 = true then
      bnd (fX0_isBench a2 (wI s27 16 (ix a1) (-9))) (fun r30 s31 =>
      if r30 = 0 then
        some ((), s31)
      else
        if inb a2 8 = true then
        if inb a2 8 = true then
        some ((), wI s31 12 (ix a2) ((s31.1 12 (ix a2)) ||| ((1 : Int32) <<< (a1 &&& 31))))
        else none
        else none)
      else none
    else
      if inb a1 7 = true then
      bnd (fX0_isBench a2 (wI s27 16 (ix a1) a2)) (fun r36 s37 =>
      if r36 = 0 then
        some ((), s37)
      else
        if inb a2 8 = true then
        if inb a2 8 = true then
        some ((), wI s37 12 (ix a2) ((s37.1 12 (ix a2)) ||| ((1 : Int32) <<< (a1 &&& 31))))
        else none
        else none)
      else none)
    else none
    else none))
  else none)
theorem tX0_place (Θ : Th) (l : Launch)  (a1 : Int32) (a2 : Int32)  (s : Mem) : Cs Θ l mX0_place 2 gU [vR 6, vI a1, vI a2] s (fX0_place a1 a2 s) := by
  refine ct_of (by decide) [some (vR 6), some (vI a1), some (vI a2), none] rfl (Nat.le_of_ble_eq_true rfl) ?_
  unfold fX0_place
  refine j_aload_n 1 dX0_place_0 rfl rfl ?_
  refine j_iload_n 2 dX0_place_1 rfl rfl ?_
  refine s_callVi (M2 := mX0_isGuest) [vI a1] 5 oa6 cc0 mkX0_isGuest w_636 dX0_place_2 rfl rfl (tX0_isGuest Θ l _  _) (by first | exact Nat.le_of_ble_eq_true rfl | omega) (Nat.le_of_ble_eq_true rfl) (Nat.le_of_ble_eq_true rfl) (fun r1 s2 => ?_)
  refine j_if_ne 9 8 dX0_place_5 (by decide) rfl (fun c3 => ?_) (fun c3 => ?_)
  · exact s_ret dX0_place_8 rfl
  · refine j_aload_n 10 dX0_place_9 rfl rfl ?_
    refine s_getR (x := 16) 13 fa6_10 w_176 dX0_place_10 rfl (by decide +kernel) ?_
    refine j_iload_n 14 dX0_place_13 rfl rfl ?_
    refine s_iaload 15 aa16 dX0_place_14 rfl (fun b4 => ?_)
    refine s_nmI (fun v5 => ?_)
    refine j_istore_n (i := 3) (ls' := [some (vR 6), some (vI a1), some (vI a2), some (vI v5)]) 16 dX0_place_15 rfl rfl (by decide) rfl rfl ?_
    refine j_aload_n 17 dX0_place_16 rfl rfl ?_
    refine j_iload_n 18 dX0_place_17 rfl rfl ?_
    refine s_callVi (M2 := mX0_isBench) [vI v5] 21 oa6 cc0 mkX0_isBench w_687 dX0_place_18 rfl rfl (tX0_isBench Θ l _  _) (by first | exact Nat.le_of_ble_eq_true rfl | omega) (Nat.le_of_ble_eq_true rfl) (Nat.le_of_ble_eq_true rfl) (fun r6 s7 => ?_)
    refine j_if_eq 38 24 dX0_place_21 (by decide) rfl (fun c8 => ?_) (fun c8 => ?_)
    · refine j_aload_n 39 dX0_place_38 rfl rfl ?_
      refine s_getR (x := 16) 42 fa6_10 w_176 dX0_place_39 rfl (by decide +kernel) ?_
      refine j_iload_n 43 dX0_place_42 rfl rfl ?_
      refine j_aload_n 44 dX0_place_43 rfl rfl ?_
      refine j_iload_n 45 dX0_place_44 rfl rfl ?_
      refine s_callVi (M2 := mX0_isBench) [vI a2] 48 oa6 cc0 mkX0_isBench w_687 dX0_place_45 rfl rfl (tX0_isBench Θ l _  _) (by first | exact Nat.le_of_ble_eq_true rfl | omega) (Nat.le_of_ble_eq_true rfl) (Nat.le_of_ble_eq_true rfl) (fun r9 s10 => ?_)
      refine j_if_eq 55 51 dX0_place_48 (by decide) rfl (fun c11 => ?_) (fun c11 => ?_)
      · refine j_bipush (v := (-9)) 57 dX0_place_55 rfl (by decide) ?_
        refine s_iastore 58 aa16 dX0_place_57 rfl (fun b12 => ?_)
        refine j_aload_n 59 dX0_place_58 rfl rfl ?_
        refine j_iload_n 60 dX0_place_59 rfl rfl ?_
        refine s_callVi (M2 := mX0_isBench) [vI a2] 63 oa6 cc0 mkX0_isBench w_687 dX0_place_60 rfl rfl (tX0_isBench Θ l _  _) (by first | exact Nat.le_of_ble_eq_true rfl | omega) (Nat.le_of_ble_eq_true rfl) (Nat.le_of_ble_eq_true rfl) (fun r13 s14 => ?_)
        refine j_if_eq 78 66 dX0_place_63 (by decide) rfl (fun c15 => ?_) (fun c15 => ?_)
        · exact s_ret dX0_place_78 rfl
        · refine j_aload_n 67 dX0_place_66 rfl rfl ?_
          refine s_getR (x := 12) 70 fa6_6 w_172 dX0_place_67 rfl (by decide +kernel) ?_
          refine j_iload_n 71 dX0_place_70 rfl rfl ?_
          refine j_dup2 72 dX0_place_71 rfl rfl rfl ?_
          refine s_iaload 73 aa12 dX0_place_72 rfl (fun b16 => ?_)
          refine j_iconst (v := 1) 74 dX0_place_73 rfl (by decide) ?_
          refine j_iload_n 75 dX0_place_74 rfl rfl ?_
          refine j_ishl 76 dX0_place_75 rfl ?_
          refine j_ior 77 dX0_place_76 rfl ?_
          refine s_iastore 78 aa12 dX0_place_77 rfl (fun b17 => ?_)
          exact s_ret dX0_place_78 rfl
      · refine j_iload_n 52 dX0_place_51 rfl rfl ?_
        refine j_goto 57 dX0_place_52 (by decide) ?_
        refine s_iastore 58 aa16 dX0_place_57 rfl (fun b18 => ?_)
        refine j_aload_n 59 dX0_place_58 rfl rfl ?_
        refine j_iload_n 60 dX0_place_59 rfl rfl ?_
        refine s_callVi (M2 := mX0_isBench) [vI a2] 63 oa6 cc0 mkX0_isBench w_687 dX0_place_60 rfl rfl (tX0_isBench Θ l _  _) (by first | exact Nat.le_of_ble_eq_true rfl | omega) (Nat.le_of_ble_eq_true rfl) (Nat.le_of_ble_eq_true rfl) (fun r19 s20 => ?_)
        refine j_if_eq 78 66 dX0_place_63 (by decide) rfl (fun c21 => ?_) (fun c21 => ?_)
        · exact s_ret dX0_place_78 rfl
        · refine j_aload_n 67 dX0_place_66 rfl rfl ?_
          refine s_getR (x := 12) 70 fa6_6 w_172 dX0_place_67 rfl (by decide +kernel) ?_
          refine j_iload_n 71 dX0_place_70 rfl rfl ?_
          refine j_dup2 72 dX0_place_71 rfl rfl rfl ?_
          refine s_iaload 73 aa12 dX0_place_72 rfl (fun b22 => ?_)
          refine j_iconst (v := 1) 74 dX0_place_73 rfl (by decide) ?_
          refine j_iload_n 75 dX0_place_74 rfl rfl ?_
          refine j_ishl 76 dX0_place_75 rfl ?_
          refine j_ior 77 dX0_place_76 rfl ?_
          refine s_iastore 78 aa12 dX0_place_77 rfl (fun b23 => ?_)
          exact s_ret dX0_place_78 rfl
    · refine j_aload_n 25 dX0_place_24 rfl rfl ?_
      refine s_getR (x := 12) 28 fa6_6 w_172 dX0_place_25 rfl (by decide +kernel) ?_
      refine j_iload_n 29 dX0_place_28 rfl rfl ?_
      refine j_dup2 30 dX0_place_29 rfl rfl rfl ?_
      refine s_iaload 31 aa12 dX0_place_30 rfl (fun b24 => ?_)
      refine j_iconst (v := 1) 32 dX0_place_31 rfl (by decide) ?_
      refine j_iload_n 33 dX0_place_32 rfl rfl ?_
      refine j_ishl 34 dX0_place_33 rfl ?_
      refine j_iconst (v := (-1)) 35 dX0_place_34 rfl (by decide) ?_
      refine j_ixor 36 dX0_place_35 rfl ?_
      refine j_iand 37 dX0_place_36 rfl ?_
      refine s_iastore 38 aa12 dX0_place_37 rfl (fun b25 => ?_)
      refine j_aload_n 39 dX0_place_38 rfl rfl ?_
      refine s_getR (x := 16) 42 fa6_10 w_176 dX0_place_39 rfl (by decide +kernel) ?_
      refine j_iload_n 43 dX0_place_42 rfl rfl ?_
      refine j_aload_n 44 dX0_place_43 rfl rfl ?_
      refine j_iload_n 45 dX0_place_44 rfl rfl ?_
      refine s_callVi (M2 := mX0_isBench) [vI a2] 48 oa6 cc0 mkX0_isBench w_687 dX0_place_45 rfl rfl (tX0_isBench Θ l _  _) (by first | exact Nat.le_of_ble_eq_true rfl | omega) (Nat.le_of_ble_eq_true rfl) (Nat.le_of_ble_eq_true rfl) (fun r26 s27 => ?_)
      refine j_if_eq 55 51 dX0_place_48 (by decide) rfl (fun c28 => ?_) (fun c28 => ?_)
      · refine j_bipush (v := (-9)) 57 dX0_place_55 rfl (by decide) ?_
        refine s_iastore 58 aa16 dX0_place_57 rfl (fun b29 => ?_)
        refine j_aload_n 59 dX0_place_58 rfl rfl ?_
        refine j_iload_n 60 dX0_place_59 rfl rfl ?_
        refine s_callVi (M2 := mX0_isBench) [vI a2] 63 oa6 cc0 mkX0_isBench w_687 dX0_place_60 rfl rfl (tX0_isBench Θ l _  _) (by first | exact Nat.le_of_ble_eq_true rfl | omega) (Nat.le_of_ble_eq_true rfl) (Nat.le_of_ble_eq_true rfl) (fun r30 s31 => ?_)
        refine j_if_eq 78 66 dX0_place_63 (by decide) rfl (fun c32 => ?_) (fun c32 => ?_)
        · exact s_ret dX0_place_78 rfl
        · refine j_aload_n 67 dX0_place_66 rfl rfl ?_
          refine s_getR (x := 12) 70 fa6_6 w_172 dX0_place_67 rfl (by decide +kernel) ?_
          refine j_iload_n 71 dX0_place_70 rfl rfl ?_
          refine j_dup2 72 dX0_place_71 rfl rfl rfl ?_
          refine s_iaload 73 aa12 dX0_place_72 rfl (fun b33 => ?_)
          refine j_iconst (v := 1) 74 dX0_place_73 rfl (by decide) ?_
          refine j_iload_n 75 dX0_place_74 rfl rfl ?_
          refine j_ishl 76 dX0_place_75 rfl ?_
          refine j_ior 77 dX0_place_76 rfl ?_
          refine s_iastore 78 aa12 dX0_place_77 rfl (fun b34 => ?_)
          exact s_ret dX0_place_78 rfl
      · refine j_iload_n 52 dX0_place_51 rfl rfl ?_
        refine j_goto 57 dX0_place_52 (by decide) ?_
        refine s_iastore 58 aa16 dX0_place_57 rfl (fun b35 => ?_)
        refine j_aload_n 59 dX0_place_58 rfl rfl ?_
        refine j_iload_n 60 dX0_place_59 rfl rfl ?_
        refine s_callVi (M2 := mX0_isBench) [vI a2] 63 oa6 cc0 mkX0_isBench w_687 dX0_place_60 rfl rfl (tX0_isBench Θ l _  _) (by first | exact Nat.le_of_ble_eq_true rfl | omega) (Nat.le_of_ble_eq_true rfl) (Nat.le_of_ble_eq_true rfl) (fun r36 s37 => ?_)
        refine j_if_eq 78 66 dX0_place_63 (by decide) rfl (fun c38 => ?_) (fun c38 => ?_)
        · exact s_ret dX0_place_78 rfl
        · refine j_aload_n 67 dX0_place_66 rfl rfl ?_
          refine s_getR (x := 12) 70 fa6_6 w_172 dX0_place_67 rfl (by decide +kernel) ?_
          refine j_iload_n 71 dX0_place_70 rfl rfl ?_
          refine j_dup2 72 dX0_place_71 rfl rfl rfl ?_
          refine s_iaload 73 aa12 dX0_place_72 rfl (fun b39 => ?_)
          refine j_iconst (v := 1) 74 dX0_place_73 rfl (by decide) ?_
          refine j_iload_n 75 dX0_place_74 rfl rfl ?_
          refine j_ishl 76 dX0_place_75 rfl ?_
          refine j_ior 77 dX0_place_76 rfl ?_
          refine s_iastore 78 aa12 dX0_place_77 rfl (fun b40 => ?_)
          exact s_ret dX0_place_78 rfl
-- X1_forgetFirst
def fX1_forgetFirst_L2  (κ : Mem → Option (Unit × Mem))  : Nat → Int32 → Mem → Option (Unit × Mem)
  | 0, _, _ => none
  | k + 1, x1, s =>
    if x1 < 60 then
      if inb x1 60 = true then
      if inb (x1 - 1) 60 = true then
      if inb x1 60 = true then
      if inb (x1 - 1) 60 = true then
      if inb x1 60 = true then
      if inb (x1 - 1) 60 = true then
      fX1_forgetFirst_L2 κ k (x1 + 1) (wI (wI (wI s 21 (ix (x1 - 1)) (s.1 21 (ix x1))) 22 (ix (x1 - 1)) ((wI s 21 (ix (x1 - 1)) (s.1 21 (ix x1))).1 22 (ix x1))) 23 (ix (x1 - 1)) ((wI (wI s 21 (ix (x1 - 1)) (s.1 21 (ix x1))) 22 (ix (x1 - 1)) ((wI s 21 (ix (x1 - 1)) (s.1 21 (ix x1))).1 22 (ix x1))).1 23 (ix x1)))
      else none
      else none
      else none
      else none
      else none
      else none
    else
      κ s
def fX1_forgetFirst   (s : Mem) : Option (Unit × Mem) :=
fX1_forgetFirst_L2 (fun s8 =>
  some ((), wI s8 20 0 59))  FU 1 s
theorem tX1_forgetFirst_L2 (Θ : Th) (l : Launch)  (κ : Mem → Option (Unit × Mem))   (hκ : ∀  (s : Mem), Js Θ l mX1_forgetFirst 1 gU 56 [some (vR 20), none] [] s (κ  s)) : ∀ (k : Nat) (x1 : Int32) (s : Mem), Js Θ l mX1_forgetFirst 1 gU 2 [some (vR 20), some (vI x1)] [] s (fX1_forgetFirst_L2 κ  k x1 s) := by
  intro k
  induction k with
  | zero => intro x1 s; exact j_none
  | succ k ih =>
    intro x1 s
    rw [fX1_forgetFirst_L2]
    refine j_iload_n 3 dX1_forgetFirst_2 rfl rfl ?_
    refine j_bipush (v := 60) 5 dX1_forgetFirst_3 rfl (by decide) ?_
    refine j_icmp_ge 56 8 dX1_forgetFirst_5 (by decide) rfl (fun c1 => ?_) (fun c1 => ?_)
    · refine j_aload_n 9 dX1_forgetFirst_8 rfl rfl ?_
      refine s_getR (x := 21) 12 fa20_1 w_231 dX1_forgetFirst_9 rfl (by decide +kernel) ?_
      refine j_iload_n 13 dX1_forgetFirst_12 rfl rfl ?_
      refine j_iconst (v := 1) 14 dX1_forgetFirst_13 rfl (by decide) ?_
      refine j_isub 15 dX1_forgetFirst_14 rfl ?_
      refine j_aload_n 16 dX1_forgetFirst_15 rfl rfl ?_
      refine s_getR (x := 21) 19 fa20_1 w_231 dX1_forgetFirst_16 rfl (by decide +kernel) ?_
      refine j_iload_n 20 dX1_forgetFirst_19 rfl rfl ?_
      refine s_iaload 21 aa21 dX1_forgetFirst_20 rfl (fun b2 => ?_)
      refine s_iastore 22 aa21 dX1_forgetFirst_21 rfl (fun b3 => ?_)
      refine j_aload_n 23 dX1_forgetFirst_22 rfl rfl ?_
      refine s_getR (x := 22) 26 fa20_2 w_232 dX1_forgetFirst_23 rfl (by decide +kernel) ?_
      refine j_iload_n 27 dX1_forgetFirst_26 rfl rfl ?_
      refine j_iconst (v := 1) 28 dX1_forgetFirst_27 rfl (by decide) ?_
      refine j_isub 29 dX1_forgetFirst_28 rfl ?_
      refine j_aload_n 30 dX1_forgetFirst_29 rfl rfl ?_
      refine s_getR (x := 22) 33 fa20_2 w_232 dX1_forgetFirst_30 rfl (by decide +kernel) ?_
      refine j_iload_n 34 dX1_forgetFirst_33 rfl rfl ?_
      refine s_iaload 35 aa22 dX1_forgetFirst_34 rfl (fun b4 => ?_)
      refine s_iastore 36 aa22 dX1_forgetFirst_35 rfl (fun b5 => ?_)
      refine j_aload_n 37 dX1_forgetFirst_36 rfl rfl ?_
      refine s_getR (x := 23) 40 fa20_3 w_233 dX1_forgetFirst_37 rfl (by decide +kernel) ?_
      refine j_iload_n 41 dX1_forgetFirst_40 rfl rfl ?_
      refine j_iconst (v := 1) 42 dX1_forgetFirst_41 rfl (by decide) ?_
      refine j_isub 43 dX1_forgetFirst_42 rfl ?_
      refine j_aload_n 44 dX1_forgetFirst_43 rfl rfl ?_
      refine s_getR (x := 23) 47 fa20_3 w_233 dX1_forgetFirst_44 rfl (by decide +kernel) ?_
      refine j_iload_n 48 dX1_forgetFirst_47 rfl rfl ?_
      refine s_iaload 49 aa23 dX1_forgetFirst_48 rfl (fun b6 => ?_)
      refine s_iastore 50 aa23 dX1_forgetFirst_49 rfl (fun b7 => ?_)
      refine j_iinc (v := x1 + 1) (ls' := [some (vR 20), some (vI (x1 + 1))]) 53 dX1_forgetFirst_50 rfl rfl rfl (by decide) rfl rfl ?_
      refine j_goto 2 dX1_forgetFirst_53 (by decide) ?_
      refine j_sub (ls' := [some (vR 20), some (vI (x1 + 1))]) (And.intro rfl (And.intro rfl trivial)) ?_
      exact ih (x1 + 1) (wI (wI (wI s 21 (ix (x1 - 1)) (s.1 21 (ix x1))) 22 (ix (x1 - 1)) ((wI s 21 (ix (x1 - 1)) (s.1 21 (ix x1))).1 22 (ix x1))) 23 (ix (x1 - 1)) ((wI (wI s 21 (ix (x1 - 1)) (s.1 21 (ix x1))) 22 (ix (x1 - 1)) ((wI s 21 (ix (x1 - 1)) (s.1 21 (ix x1))).1 22 (ix x1))).1 23 (ix x1)))
    · refine j_sub (ls' := [some (vR 20), none]) (And.intro rfl trivial) ?_
      exact hκ s
theorem tX1_forgetFirst (Θ : Th) (l : Launch)    (s : Mem) : Cs Θ l mX1_forgetFirst 1 gU [vR 20] s (fX1_forgetFirst  s) := by
  refine ct_of (by decide) [some (vR 20), none] rfl (Nat.le_of_ble_eq_true rfl) ?_
  unfold fX1_forgetFirst
  refine j_iconst (v := 1) 1 dX1_forgetFirst_0 rfl (by decide) ?_
  refine j_istore_n (i := 1) (ls' := [some (vR 20), some (vI 1)]) 2 dX1_forgetFirst_1 rfl rfl (by decide) rfl rfl ?_
  refine j_sub (ls' := [some (vR 20), some (vI 1)]) (And.intro rfl (And.intro rfl trivial)) ?_
  refine tX1_forgetFirst_L2 Θ l _   ?_ _ _ _
  intro s8
  refine j_aload_n 57 dX1_forgetFirst_56 rfl rfl ?_
  refine j_bipush (v := 59) 59 dX1_forgetFirst_57 rfl (by decide) ?_
  refine s_putI 62 fa20_0 w_229 dX1_forgetFirst_59 rfl ?_
  exact s_ret dX1_forgetFirst_62 rfl
-- X1_remember
def fX1_remember  (a1 : Int32) (a2 : Int32) (a3 : Int32) (s : Mem) : Option (Unit × Mem) :=
if (s.1 20 0) < 60 then
  if (s.1 20 0) < 60 then
    if inb (s.1 20 0) 60 = true then
    if inb ((wI s 21 (ix (s.1 20 0)) a1).1 20 0) 60 = true then
    if inb ((wI (wI s 21 (ix (s.1 20 0)) a1) 22 (ix ((wI s 21 (ix (s.1 20 0)) a1).1 20 0)) a2).1 20 0) 60 = true then
    some ((), wI (wI (wI (wI s 21 (ix (s.1 20 0)) a1) 22 (ix ((wI s 21 (ix (s.1 20 0)) a1).1 20 0)) a2) 23 (ix ((wI (wI s 21 (ix (s.1 20 0)) a1) 22 (ix ((wI s 21 (ix (s.1 20 0)) a1).1 20 0)) a2).1 20 0)) a3) 20 0 (((wI (wI (wI s 21 (ix (s.1 20 0)) a1) 22 (ix ((wI s 21 (ix (s.1 20 0)) a1).1 20 0)) a2) 23 (ix ((wI (wI s 21 (ix (s.1 20 0)) a1) 22 (ix ((wI s 21 (ix (s.1 20 0)) a1).1 20 0)) a2).1 20 0)) a3).1 20 0) + 1))
    else none
    else none
    else none
  else
    some ((), s)
else
  bnd (fX1_forgetFirst s) (fun r6 s7 =>
  if (s7.1 20 0) < 60 then
    if inb (s7.1 20 0) 60 = true then
    if inb ((wI s7 21 (ix (s7.1 20 0)) a1).1 20 0) 60 = true then
    if inb ((wI (wI s7 21 (ix (s7.1 20 0)) a1) 22 (ix ((wI s7 21 (ix (s7.1 20 0)) a1).1 20 0)) a2).1 20 0) 60 = true then
    some ((), wI (wI (wI (wI s7 21 (ix (s7.1 20 0)) a1) 22 (ix ((wI s7 21 (ix (s7.1 20 0)) a1).1 20 0)) a2) 23 (ix ((wI (wI s7 21 (ix (s7.1 20 0)) a1) 22 (ix ((wI s7 21 (ix (s7.1 20 0)) a1).1 20 0)) a2).1 20 0)) a3) 20 0 (((wI (wI (wI s7 21 (ix (s7.1 20 0)) a1) 22 (ix ((wI s7 21 (ix (s7.1 20 0)) a1).1 20 0)) a2) 23 (ix ((wI (wI s7 21 (ix (s7.1 20 0)) a1) 22 (ix ((wI s7 21 (ix (s7.1 20 0)) a1).1 20 0)) a2).1 20 0)) a3).1 20 0) + 1))
    else none
    else none
    else none
  else
    some ((), s7))
theorem tX1_remember (Θ : Th) (l : Launch)  (a1 : Int32) (a2 : Int32) (a3 : Int32)  (s : Mem) : Cs Θ l mX1_remember 2 gU [vR 20, vI a1, vI a2, vI a3] s (fX1_remember a1 a2 a3 s) := by
  refine ct_of (by decide) [some (vR 20), some (vI a1), some (vI a2), some (vI a3)] rfl (Nat.le_of_ble_eq_true rfl) ?_
  unfold fX1_remember
  refine j_aload_n 1 dX1_remember_0 rfl rfl ?_
  refine s_getI 4 fa20_0 w_229 dX1_remember_1 rfl ?_
  refine j_bipush (v := 60) 6 dX1_remember_4 rfl (by decide) ?_
  refine j_icmp_lt 13 9 dX1_remember_6 (by decide) rfl (fun c1 => ?_) (fun c1 => ?_)
  · refine j_aload_n 14 dX1_remember_13 rfl rfl ?_
    refine s_getI 17 fa20_0 w_229 dX1_remember_14 rfl ?_
    refine j_bipush (v := 60) 19 dX1_remember_17 rfl (by decide) ?_
    refine j_icmp_ge 62 22 dX1_remember_19 (by decide) rfl (fun c2 => ?_) (fun c2 => ?_)
    · refine j_aload_n 23 dX1_remember_22 rfl rfl ?_
      refine s_getR (x := 21) 26 fa20_1 w_231 dX1_remember_23 rfl (by decide +kernel) ?_
      refine j_aload_n 27 dX1_remember_26 rfl rfl ?_
      refine s_getI 30 fa20_0 w_229 dX1_remember_27 rfl ?_
      refine j_iload_n 31 dX1_remember_30 rfl rfl ?_
      refine s_iastore 32 aa21 dX1_remember_31 rfl (fun b3 => ?_)
      refine j_aload_n 33 dX1_remember_32 rfl rfl ?_
      refine s_getR (x := 22) 36 fa20_2 w_232 dX1_remember_33 rfl (by decide +kernel) ?_
      refine j_aload_n 37 dX1_remember_36 rfl rfl ?_
      refine s_getI 40 fa20_0 w_229 dX1_remember_37 rfl ?_
      refine j_iload_n 41 dX1_remember_40 rfl rfl ?_
      refine s_iastore 42 aa22 dX1_remember_41 rfl (fun b4 => ?_)
      refine j_aload_n 43 dX1_remember_42 rfl rfl ?_
      refine s_getR (x := 23) 46 fa20_3 w_233 dX1_remember_43 rfl (by decide +kernel) ?_
      refine j_aload_n 47 dX1_remember_46 rfl rfl ?_
      refine s_getI 50 fa20_0 w_229 dX1_remember_47 rfl ?_
      refine j_iload_n 51 dX1_remember_50 rfl rfl ?_
      refine s_iastore 52 aa23 dX1_remember_51 rfl (fun b5 => ?_)
      refine j_aload_n 53 dX1_remember_52 rfl rfl ?_
      refine j_dup 54 dX1_remember_53 rfl rfl ?_
      refine s_getI 57 fa20_0 w_229 dX1_remember_54 rfl ?_
      refine j_iconst (v := 1) 58 dX1_remember_57 rfl (by decide) ?_
      refine j_iadd 59 dX1_remember_58 rfl ?_
      refine s_putI 62 fa20_0 w_229 dX1_remember_59 rfl ?_
      exact s_ret dX1_remember_62 rfl
    · exact s_ret dX1_remember_62 rfl
  · refine j_aload_n 10 dX1_remember_9 rfl rfl ?_
    refine s_callVu (M2 := mX1_forgetFirst) [] 13 oa20 cc1 mkX1_forgetFirst w_800 dX1_remember_10 rfl rfl (tX1_forgetFirst Θ l   _) (by first | exact Nat.le_of_ble_eq_true rfl | omega) (Nat.le_of_ble_eq_true rfl) (Nat.le_of_ble_eq_true rfl) (fun r6 s7 => ?_)
    refine j_aload_n 14 dX1_remember_13 rfl rfl ?_
    refine s_getI 17 fa20_0 w_229 dX1_remember_14 rfl ?_
    refine j_bipush (v := 60) 19 dX1_remember_17 rfl (by decide) ?_
    refine j_icmp_ge 62 22 dX1_remember_19 (by decide) rfl (fun c8 => ?_) (fun c8 => ?_)
    · refine j_aload_n 23 dX1_remember_22 rfl rfl ?_
      refine s_getR (x := 21) 26 fa20_1 w_231 dX1_remember_23 rfl (by decide +kernel) ?_
      refine j_aload_n 27 dX1_remember_26 rfl rfl ?_
      refine s_getI 30 fa20_0 w_229 dX1_remember_27 rfl ?_
      refine j_iload_n 31 dX1_remember_30 rfl rfl ?_
      refine s_iastore 32 aa21 dX1_remember_31 rfl (fun b9 => ?_)
      refine j_aload_n 33 dX1_remember_32 rfl rfl ?_
      refine s_getR (x := 22) 36 fa20_2 w_232 dX1_remember_33 rfl (by decide +kernel) ?_
      refine j_aload_n 37 dX1_remember_36 rfl rfl ?_
      refine s_getI 40 fa20_0 w_229 dX1_remember_37 rfl ?_
      refine j_iload_n 41 dX1_remember_40 rfl rfl ?_
      refine s_iastore 42 aa22 dX1_remember_41 rfl (fun b10 => ?_)
      refine j_aload_n 43 dX1_remember_42 rfl rfl ?_
      refine s_getR (x := 23) 46 fa20_3 w_233 dX1_remember_43 rfl (by decide +kernel) ?_
      refine j_aload_n 47 dX1_remember_46 rfl rfl ?_
      refine s_getI 50 fa20_0 w_229 dX1_remember_47 rfl ?_
      refine j_iload_n 51 dX1_remember_50 rfl rfl ?_
      refine s_iastore 52 aa23 dX1_remember_51 rfl (fun b11 => ?_)
      refine j_aload_n 53 dX1_remember_52 rfl rfl ?_
      refine j_dup 54 dX1_remember_53 rfl rfl ?_
      refine s_getI 57 fa20_0 w_229 dX1_remember_54 rfl ?_
      refine j_iconst (v := 1) 58 dX1_remember_57 rfl (by decide) ?_
      refine j_iadd 59 dX1_remember_58 rfl ?_
      refine s_putI 62 fa20_0 w_229 dX1_remember_59 rfl ?_
      exact s_ret dX1_remember_62 rfl
    · exact s_ret dX1_remember_62 rfl
-- X11_seat
def fX11_seat  (a1 : Int32) (a2 : Int32) (s : Mem) : Option (Int32 × Mem) :=
bnd (fX0_isGuest a1 s) (fun r1 s2 =>
if r1 = 0 then
  some ((-1), s2)
else
  bnd (fX0_isBench a2 s2) (fun r4 s5 =>
  if r4 = 0 then
    some ((-1), s5)
  else
    bnd (fX0_benchOf a1 s5) (fun r7 s8 =>
    if r7 = a2 then
      some ((-4), s8)
    else
      bnd (fX0_mayTake a1 a2 s8) (fun r10 s11 =>
      if r10 = 0 then
        some ((-4), s11)
      else
        bnd (fX0_place a1 a2 s11) (fun r13 s14 =>
        bnd (fX1_remember 0 a1 r7 s14) (fun r15 s16 =>
        some (a2, s16)))))))
theorem tX11_seat (Θ : Th) (l : Launch)  (a1 : Int32) (a2 : Int32)  (s : Mem) : Cs Θ l mX11_seat 5 gI [vR 1, vI a1, vI a2] s (fX11_seat a1 a2 s) := by
  refine ct_of (by decide) [some (vR 1), some (vI a1), some (vI a2), none] rfl (Nat.le_of_ble_eq_true rfl) ?_
  unfold fX11_seat
  refine j_aload_n 1 dX11_seat_0 rfl rfl ?_
  refine s_getR (x := 6) 4 fa1_3 w_405 dX11_seat_1 rfl (by decide +kernel) ?_
  refine j_iload_n 5 dX11_seat_4 rfl rfl ?_
  refine s_callVi (M2 := mX0_isGuest) [vI a1] 8 oa6 cc0 mkX0_isGuest w_711 dX11_seat_5 rfl rfl (tX0_isGuest Θ l _  _) (by first | exact Nat.le_of_ble_eq_true rfl | omega) (Nat.le_of_ble_eq_true rfl) (Nat.le_of_ble_eq_true rfl) (fun r1 s2 => ?_)
  refine j_if_eq 22 11 dX11_seat_8 (by decide) rfl (fun c3 => ?_) (fun c3 => ?_)
  · refine j_iconst (v := (-1)) 23 dX11_seat_22 rfl (by decide) ?_
    exact s_iret dX11_seat_23 rfl
  · refine j_aload_n 12 dX11_seat_11 rfl rfl ?_
    refine s_getR (x := 6) 15 fa1_3 w_405 dX11_seat_12 rfl (by decide +kernel) ?_
    refine j_iload_n 16 dX11_seat_15 rfl rfl ?_
    refine s_callVi (M2 := mX0_isBench) [vI a2] 19 oa6 cc0 mkX0_isBench w_674 dX11_seat_16 rfl rfl (tX0_isBench Θ l _  _) (by first | exact Nat.le_of_ble_eq_true rfl | omega) (Nat.le_of_ble_eq_true rfl) (Nat.le_of_ble_eq_true rfl) (fun r4 s5 => ?_)
    refine j_if_ne 24 22 dX11_seat_19 (by decide) rfl (fun c6 => ?_) (fun c6 => ?_)
    · refine j_iconst (v := (-1)) 23 dX11_seat_22 rfl (by decide) ?_
      exact s_iret dX11_seat_23 rfl
    · refine j_aload_n 25 dX11_seat_24 rfl rfl ?_
      refine s_getR (x := 6) 28 fa1_3 w_405 dX11_seat_25 rfl (by decide +kernel) ?_
      refine j_iload_n 29 dX11_seat_28 rfl rfl ?_
      refine s_callVi (M2 := mX0_benchOf) [vI a1] 32 oa6 cc0 mkX0_benchOf w_722 dX11_seat_29 rfl rfl (tX0_benchOf Θ l _  _) (by first | exact Nat.le_of_ble_eq_true rfl | omega) (Nat.le_of_ble_eq_true rfl) (Nat.le_of_ble_eq_true rfl) (fun r7 s8 => ?_)
      refine j_istore_n (i := 3) (ls' := [some (vR 1), some (vI a1), some (vI a2), some (vI r7)]) 33 dX11_seat_32 rfl rfl (by decide) rfl rfl ?_
      refine j_iload_n 34 dX11_seat_33 rfl rfl ?_
      refine j_iload_n 35 dX11_seat_34 rfl rfl ?_
      refine j_icmp_eq 50 38 dX11_seat_35 (by decide) rfl (fun c9 => ?_) (fun c9 => ?_)
      · refine j_bipush (v := (-4)) 52 dX11_seat_50 rfl (by decide) ?_
        exact s_iret dX11_seat_52 rfl
      · refine j_aload_n 39 dX11_seat_38 rfl rfl ?_
        refine s_getR (x := 6) 42 fa1_3 w_405 dX11_seat_39 rfl (by decide +kernel) ?_
        refine j_iload_n 43 dX11_seat_42 rfl rfl ?_
        refine j_iload_n 44 dX11_seat_43 rfl rfl ?_
        refine s_callVi (M2 := mX0_mayTake) [vI a1, vI a2] 47 oa6 cc0 mkX0_mayTake w_779 dX11_seat_44 rfl rfl (tX0_mayTake Θ l _ _  _) (by first | exact Nat.le_of_ble_eq_true rfl | omega) (Nat.le_of_ble_eq_true rfl) (Nat.le_of_ble_eq_true rfl) (fun r10 s11 => ?_)
        refine j_if_ne 53 50 dX11_seat_47 (by decide) rfl (fun c12 => ?_) (fun c12 => ?_)
        · refine j_bipush (v := (-4)) 52 dX11_seat_50 rfl (by decide) ?_
          exact s_iret dX11_seat_52 rfl
        · refine j_aload_n 54 dX11_seat_53 rfl rfl ?_
          refine s_getR (x := 6) 57 fa1_3 w_405 dX11_seat_54 rfl (by decide +kernel) ?_
          refine j_iload_n 58 dX11_seat_57 rfl rfl ?_
          refine j_iload_n 59 dX11_seat_58 rfl rfl ?_
          refine s_callVu (M2 := mX0_place) [vI a1, vI a2] 62 oa6 cc0 mkX0_place w_792 dX11_seat_59 rfl rfl (tX0_place Θ l _ _  _) (by first | exact Nat.le_of_ble_eq_true rfl | omega) (Nat.le_of_ble_eq_true rfl) (Nat.le_of_ble_eq_true rfl) (fun r13 s14 => ?_)
          refine j_aload_n 63 dX11_seat_62 rfl rfl ?_
          refine s_getR (x := 20) 66 fa1_6 w_408 dX11_seat_63 rfl (by decide +kernel) ?_
          refine j_iconst (v := 0) 67 dX11_seat_66 rfl (by decide) ?_
          refine j_iload_n 68 dX11_seat_67 rfl rfl ?_
          refine j_iload_n 69 dX11_seat_68 rfl rfl ?_
          refine s_callVu (M2 := mX1_remember) [vI 0, vI a1, vI r7] 72 oa20 cc1 mkX1_remember w_796 dX11_seat_69 rfl rfl (tX1_remember Θ l _ _ _  _) (by first | exact Nat.le_of_ble_eq_true rfl | omega) (Nat.le_of_ble_eq_true rfl) (Nat.le_of_ble_eq_true rfl) (fun r15 s16 => ?_)
          refine j_iload_n 73 dX11_seat_72 rfl rfl ?_
          exact s_iret dX11_seat_73 rfl
-- X11_rise
def fX11_rise  (a1 : Int32) (s : Mem) : Option (Int32 × Mem) :=
bnd (fX0_isGuest a1 s) (fun r1 s2 =>
if r1 = 0 then
  some ((-1), s2)
else
  bnd (fX0_benchOf a1 s2) (fun r4 s5 =>
  if r4 = (-9) then
    some ((-4), s5)
  else
    bnd (fX0_place a1 (-9) s5) (fun r7 s8 =>
    bnd (fX1_remember 1 a1 r4 s8) (fun r9 s10 =>
    some (r4, s10)))))
theorem tX11_rise (Θ : Th) (l : Launch)  (a1 : Int32)  (s : Mem) : Cs Θ l mX11_rise 3 gI [vR 1, vI a1] s (fX11_rise a1 s) := by
  refine ct_of (by decide) [some (vR 1), some (vI a1), none] rfl (Nat.le_of_ble_eq_true rfl) ?_
  unfold fX11_rise
  refine j_aload_n 1 dX11_rise_0 rfl rfl ?_
  refine s_getR (x := 6) 4 fa1_3 w_405 dX11_rise_1 rfl (by decide +kernel) ?_
  refine j_iload_n 5 dX11_rise_4 rfl rfl ?_
  refine s_callVi (M2 := mX0_isGuest) [vI a1] 8 oa6 cc0 mkX0_isGuest w_711 dX11_rise_5 rfl rfl (tX0_isGuest Θ l _  _) (by first | exact Nat.le_of_ble_eq_true rfl | omega) (Nat.le_of_ble_eq_true rfl) (Nat.le_of_ble_eq_true rfl) (fun r1 s2 => ?_)
  refine j_if_ne 13 11 dX11_rise_8 (by decide) rfl (fun c3 => ?_) (fun c3 => ?_)
  · refine j_iconst (v := (-1)) 12 dX11_rise_11 rfl (by decide) ?_
    exact s_iret dX11_rise_12 rfl
  · refine j_aload_n 14 dX11_rise_13 rfl rfl ?_
    refine s_getR (x := 6) 17 fa1_3 w_405 dX11_rise_14 rfl (by decide +kernel) ?_
    refine j_iload_n 18 dX11_rise_17 rfl rfl ?_
    refine s_callVi (M2 := mX0_benchOf) [vI a1] 21 oa6 cc0 mkX0_benchOf w_722 dX11_rise_18 rfl rfl (tX0_benchOf Θ l _  _) (by first | exact Nat.le_of_ble_eq_true rfl | omega) (Nat.le_of_ble_eq_true rfl) (Nat.le_of_ble_eq_true rfl) (fun r4 s5 => ?_)
    refine j_istore_n (i := 2) (ls' := [some (vR 1), some (vI a1), some (vI r4)]) 22 dX11_rise_21 rfl rfl (by decide) rfl rfl ?_
    refine j_iload_n 23 dX11_rise_22 rfl rfl ?_
    refine j_bipush (v := (-9)) 25 dX11_rise_23 rfl (by decide) ?_
    refine j_icmp_ne 31 28 dX11_rise_25 (by decide) rfl (fun c6 => ?_) (fun c6 => ?_)
    · refine j_bipush (v := (-4)) 30 dX11_rise_28 rfl (by decide) ?_
      exact s_iret dX11_rise_30 rfl
    · refine j_aload_n 32 dX11_rise_31 rfl rfl ?_
      refine s_getR (x := 6) 35 fa1_3 w_405 dX11_rise_32 rfl (by decide +kernel) ?_
      refine j_iload_n 36 dX11_rise_35 rfl rfl ?_
      refine j_bipush (v := (-9)) 38 dX11_rise_36 rfl (by decide) ?_
      refine s_callVu (M2 := mX0_place) [vI a1, vI (-9)] 41 oa6 cc0 mkX0_place w_792 dX11_rise_38 rfl rfl (tX0_place Θ l _ _  _) (by first | exact Nat.le_of_ble_eq_true rfl | omega) (Nat.le_of_ble_eq_true rfl) (Nat.le_of_ble_eq_true rfl) (fun r7 s8 => ?_)
      refine j_aload_n 42 dX11_rise_41 rfl rfl ?_
      refine s_getR (x := 20) 45 fa1_6 w_408 dX11_rise_42 rfl (by decide +kernel) ?_
      refine j_iconst (v := 1) 46 dX11_rise_45 rfl (by decide) ?_
      refine j_iload_n 47 dX11_rise_46 rfl rfl ?_
      refine j_iload_n 48 dX11_rise_47 rfl rfl ?_
      refine s_callVu (M2 := mX1_remember) [vI 1, vI a1, vI r4] 51 oa20 cc1 mkX1_remember w_796 dX11_rise_48 rfl rfl (tX1_remember Θ l _ _ _  _) (by first | exact Nat.le_of_ble_eq_true rfl | omega) (Nat.le_of_ble_eq_true rfl) (Nat.le_of_ble_eq_true rfl) (fun r9 s10 => ?_)
      refine j_iload_n 52 dX11_rise_51 rfl rfl ?_
      exact s_iret dX11_rise_52 rfl
-- X0_trade
def fX0_trade  (a1 : Int32) (a2 : Int32) (s : Mem) : Option (Int32 × Mem) :=
bnd (fX0_benchOf a1 s) (fun r1 s2 =>
bnd (fX0_benchOf a2 s2) (fun r3 s4 =>
if r1 = (-9) then
  some (0, s4)
else
  if r3 = (-9) then
    some (0, s4)
  else
    if r1 = r3 then
      some (0, s4)
    else
      bnd (fX0_place a2 (-9) s4) (fun r8 s9 =>
      bnd (fX0_mayTake a1 r3 s9) (fun r10 s11 =>
      if r10 = 0 then
        if r10 = 0 then
          bnd (fX0_place a1 r1 s11) (fun r14 s15 =>
          if r10 = 0 then
            bnd (fX0_place a2 r3 s15) (fun r17 s18 =>
            if r10 = 0 ∨ r10 = 1 then some (r10, s18) else none)
          else
            bnd (fX0_place a2 r1 s15) (fun r19 s20 =>
            if r10 = 0 ∨ r10 = 1 then some (r10, s20) else none))
        else
          bnd (fX0_place a1 r3 s11) (fun r21 s22 =>
          if r10 = 0 then
            bnd (fX0_place a2 r3 s22) (fun r24 s25 =>
            if r10 = 0 ∨ r10 = 1 then some (r10, s25) else none)
          else
            bnd (fX0_place a2 r1 s22) (fun r26 s27 =>
            if r10 = 0 ∨ r10 = 1 then some (r10, s27) else none))
      else
        bnd (fX0_place a1 r3 s11) (fun r28 s29 =>
        bnd (fX0_mayTake a2 r1 s29) (fun r30 s31 =>
        if r30 = 0 then
          bnd (fX0_place a1 r1 s31) (fun r33 s34 =>
          if r30 = 0 then
            bnd (fX0_place a2 r3 s34) (fun r36 s37 =>
            if r30 = 0 ∨ r30 = 1 then some (r30, s37) else none)
          else
            bnd (fX0_place a2 r1 s34) (fun r38 s39 =>
            if r30 = 0 ∨ r30 = 1 then some (r30, s39) else none))
        else
          bnd (fX0_place a1 r3 s31) (fun r40 s41 =>
          if r30 = 0 then
            bnd (fX0_place a2 r3 s41) (fun r43 s44 =>
            if r30 = 0 ∨ r30 = 1 then some (r30, s44) else none)
          else
            bnd (fX0_place a2 r1 s41) (fun r45 s46 =>
            if r30 = 0 ∨ r30 = 1 then some (r30, s46) else none))))))))
theorem tX0_trade (Θ : Th) (l : Launch)  (a1 : Int32) (a2 : Int32)  (s : Mem) : Cs Θ l mX0_trade 5 gI [vR 6, vI a1, vI a2] s (fX0_trade a1 a2 s) := by
  refine ct_of (by decide) [some (vR 6), some (vI a1), some (vI a2), none, none, none] rfl (Nat.le_of_ble_eq_true rfl) ?_
  unfold fX0_trade
  refine j_aload_n 1 dX0_trade_0 rfl rfl ?_
  refine j_iload_n 2 dX0_trade_1 rfl rfl ?_
  refine s_callVi (M2 := mX0_benchOf) [vI a1] 5 oa6 cc0 mkX0_benchOf w_816 dX0_trade_2 rfl rfl (tX0_benchOf Θ l _  _) (by first | exact Nat.le_of_ble_eq_true rfl | omega) (Nat.le_of_ble_eq_true rfl) (Nat.le_of_ble_eq_true rfl) (fun r1 s2 => ?_)
  refine j_istore_n (i := 3) (ls' := [some (vR 6), some (vI a1), some (vI a2), some (vI r1), none, none]) 6 dX0_trade_5 rfl rfl (by decide) rfl rfl ?_
  refine j_aload_n 7 dX0_trade_6 rfl rfl ?_
  refine j_iload_n 8 dX0_trade_7 rfl rfl ?_
  refine s_callVi (M2 := mX0_benchOf) [vI a2] 11 oa6 cc0 mkX0_benchOf w_816 dX0_trade_8 rfl rfl (tX0_benchOf Θ l _  _) (by first | exact Nat.le_of_ble_eq_true rfl | omega) (Nat.le_of_ble_eq_true rfl) (Nat.le_of_ble_eq_true rfl) (fun r3 s4 => ?_)
  refine j_istore (i := 4) (ls' := [some (vR 6), some (vI a1), some (vI a2), some (vI r1), some (vI r3), none]) 13 dX0_trade_11 rfl (by decide) rfl rfl ?_
  refine j_iload_n 14 dX0_trade_13 rfl rfl ?_
  refine j_bipush (v := (-9)) 16 dX0_trade_14 rfl (by decide) ?_
  refine j_icmp_eq 32 19 dX0_trade_16 (by decide) rfl (fun c5 => ?_) (fun c5 => ?_)
  · refine j_iconst (v := 0) 33 dX0_trade_32 rfl (by decide) ?_
    exact s_zret dX0_trade_33 rfl (by decide)
  · refine j_iload 21 dX0_trade_19 rfl rfl ?_
    refine j_bipush (v := (-9)) 23 dX0_trade_21 rfl (by decide) ?_
    refine j_icmp_eq 32 26 dX0_trade_23 (by decide) rfl (fun c6 => ?_) (fun c6 => ?_)
    · refine j_iconst (v := 0) 33 dX0_trade_32 rfl (by decide) ?_
      exact s_zret dX0_trade_33 rfl (by decide)
    · refine j_iload_n 27 dX0_trade_26 rfl rfl ?_
      refine j_iload 29 dX0_trade_27 rfl rfl ?_
      refine j_icmp_ne 34 32 dX0_trade_29 (by decide) rfl (fun c7 => ?_) (fun c7 => ?_)
      · refine j_iconst (v := 0) 33 dX0_trade_32 rfl (by decide) ?_
        exact s_zret dX0_trade_33 rfl (by decide)
      · refine j_aload_n 35 dX0_trade_34 rfl rfl ?_
        refine j_iload_n 36 dX0_trade_35 rfl rfl ?_
        refine j_bipush (v := (-9)) 38 dX0_trade_36 rfl (by decide) ?_
        refine s_callVu (M2 := mX0_place) [vI a2, vI (-9)] 41 oa6 cc0 mkX0_place w_817 dX0_trade_38 rfl rfl (tX0_place Θ l _ _  _) (by first | exact Nat.le_of_ble_eq_true rfl | omega) (Nat.le_of_ble_eq_true rfl) (Nat.le_of_ble_eq_true rfl) (fun r8 s9 => ?_)
        refine j_aload_n 42 dX0_trade_41 rfl rfl ?_
        refine j_iload_n 43 dX0_trade_42 rfl rfl ?_
        refine j_iload 45 dX0_trade_43 rfl rfl ?_
        refine s_callVi (M2 := mX0_mayTake) [vI a1, vI r3] 48 oa6 cc0 mkX0_mayTake w_818 dX0_trade_45 rfl rfl (tX0_mayTake Θ l _ _  _) (by first | exact Nat.le_of_ble_eq_true rfl | omega) (Nat.le_of_ble_eq_true rfl) (Nat.le_of_ble_eq_true rfl) (fun r10 s11 => ?_)
        refine j_istore (i := 5) (ls' := [some (vR 6), some (vI a1), some (vI a2), some (vI r1), some (vI r3), some (vI r10)]) 50 dX0_trade_48 rfl (by decide) rfl rfl ?_
        refine j_iload 52 dX0_trade_50 rfl rfl ?_
        refine j_if_eq 70 55 dX0_trade_52 (by decide) rfl (fun c12 => ?_) (fun c12 => ?_)
        · refine j_aload_n 71 dX0_trade_70 rfl rfl ?_
          refine j_iload_n 72 dX0_trade_71 rfl rfl ?_
          refine j_iload 74 dX0_trade_72 rfl rfl ?_
          refine j_if_eq 82 77 dX0_trade_74 (by decide) rfl (fun c13 => ?_) (fun c13 => ?_)
          · refine j_iload_n 83 dX0_trade_82 rfl rfl ?_
            refine s_callVu (M2 := mX0_place) [vI a1, vI r1] 86 oa6 cc0 mkX0_place w_817 dX0_trade_83 rfl rfl (tX0_place Θ l _ _  _) (by first | exact Nat.le_of_ble_eq_true rfl | omega) (Nat.le_of_ble_eq_true rfl) (Nat.le_of_ble_eq_true rfl) (fun r14 s15 => ?_)
            refine j_aload_n 87 dX0_trade_86 rfl rfl ?_
            refine j_iload_n 88 dX0_trade_87 rfl rfl ?_
            refine j_iload 90 dX0_trade_88 rfl rfl ?_
            refine j_if_eq 97 93 dX0_trade_90 (by decide) rfl (fun c16 => ?_) (fun c16 => ?_)
            · refine j_iload 99 dX0_trade_97 rfl rfl ?_
              refine s_callVu (M2 := mX0_place) [vI a2, vI r3] 102 oa6 cc0 mkX0_place w_817 dX0_trade_99 rfl rfl (tX0_place Θ l _ _  _) (by first | exact Nat.le_of_ble_eq_true rfl | omega) (Nat.le_of_ble_eq_true rfl) (Nat.le_of_ble_eq_true rfl) (fun r17 s18 => ?_)
              refine j_iload 104 dX0_trade_102 rfl rfl ?_
              exact s_zretG dX0_trade_104 rfl
            · refine j_iload_n 94 dX0_trade_93 rfl rfl ?_
              refine j_goto 99 dX0_trade_94 (by decide) ?_
              refine s_callVu (M2 := mX0_place) [vI a2, vI r1] 102 oa6 cc0 mkX0_place w_817 dX0_trade_99 rfl rfl (tX0_place Θ l _ _  _) (by first | exact Nat.le_of_ble_eq_true rfl | omega) (Nat.le_of_ble_eq_true rfl) (Nat.le_of_ble_eq_true rfl) (fun r19 s20 => ?_)
              refine j_iload 104 dX0_trade_102 rfl rfl ?_
              exact s_zretG dX0_trade_104 rfl
          · refine j_iload 79 dX0_trade_77 rfl rfl ?_
            refine j_goto 83 dX0_trade_79 (by decide) ?_
            refine s_callVu (M2 := mX0_place) [vI a1, vI r3] 86 oa6 cc0 mkX0_place w_817 dX0_trade_83 rfl rfl (tX0_place Θ l _ _  _) (by first | exact Nat.le_of_ble_eq_true rfl | omega) (Nat.le_of_ble_eq_true rfl) (Nat.le_of_ble_eq_true rfl) (fun r21 s22 => ?_)
            refine j_aload_n 87 dX0_trade_86 rfl rfl ?_
            refine j_iload_n 88 dX0_trade_87 rfl rfl ?_
            refine j_iload 90 dX0_trade_88 rfl rfl ?_
            refine j_if_eq 97 93 dX0_trade_90 (by decide) rfl (fun c23 => ?_) (fun c23 => ?_)
            · refine j_iload 99 dX0_trade_97 rfl rfl ?_
              refine s_callVu (M2 := mX0_place) [vI a2, vI r3] 102 oa6 cc0 mkX0_place w_817 dX0_trade_99 rfl rfl (tX0_place Θ l _ _  _) (by first | exact Nat.le_of_ble_eq_true rfl | omega) (Nat.le_of_ble_eq_true rfl) (Nat.le_of_ble_eq_true rfl) (fun r24 s25 => ?_)
              refine j_iload 104 dX0_trade_102 rfl rfl ?_
              exact s_zretG dX0_trade_104 rfl
            · refine j_iload_n 94 dX0_trade_93 rfl rfl ?_
              refine j_goto 99 dX0_trade_94 (by decide) ?_
              refine s_callVu (M2 := mX0_place) [vI a2, vI r1] 102 oa6 cc0 mkX0_place w_817 dX0_trade_99 rfl rfl (tX0_place Θ l _ _  _) (by first | exact Nat.le_of_ble_eq_true rfl | omega) (Nat.le_of_ble_eq_true rfl) (Nat.le_of_ble_eq_true rfl) (fun r26 s27 => ?_)
              refine j_iload 104 dX0_trade_102 rfl rfl ?_
              exact s_zretG dX0_trade_104 rfl
        · refine j_aload_n 56 dX0_trade_55 rfl rfl ?_
          refine j_iload_n 57 dX0_trade_56 rfl rfl ?_
          refine j_iload 59 dX0_trade_57 rfl rfl ?_
          refine s_callVu (M2 := mX0_place) [vI a1, vI r3] 62 oa6 cc0 mkX0_place w_817 dX0_trade_59 rfl rfl (tX0_place Θ l _ _  _) (by first | exact Nat.le_of_ble_eq_true rfl | omega) (Nat.le_of_ble_eq_true rfl) (Nat.le_of_ble_eq_true rfl) (fun r28 s29 => ?_)
          refine j_aload_n 63 dX0_trade_62 rfl rfl ?_
          refine j_iload_n 64 dX0_trade_63 rfl rfl ?_
          refine j_iload_n 65 dX0_trade_64 rfl rfl ?_
          refine s_callVi (M2 := mX0_mayTake) [vI a2, vI r1] 68 oa6 cc0 mkX0_mayTake w_818 dX0_trade_65 rfl rfl (tX0_mayTake Θ l _ _  _) (by first | exact Nat.le_of_ble_eq_true rfl | omega) (Nat.le_of_ble_eq_true rfl) (Nat.le_of_ble_eq_true rfl) (fun r30 s31 => ?_)
          refine j_istore (i := 5) (ls' := [some (vR 6), some (vI a1), some (vI a2), some (vI r1), some (vI r3), some (vI r30)]) 70 dX0_trade_68 rfl (by decide) rfl rfl ?_
          refine j_aload_n 71 dX0_trade_70 rfl rfl ?_
          refine j_iload_n 72 dX0_trade_71 rfl rfl ?_
          refine j_iload 74 dX0_trade_72 rfl rfl ?_
          refine j_if_eq 82 77 dX0_trade_74 (by decide) rfl (fun c32 => ?_) (fun c32 => ?_)
          · refine j_iload_n 83 dX0_trade_82 rfl rfl ?_
            refine s_callVu (M2 := mX0_place) [vI a1, vI r1] 86 oa6 cc0 mkX0_place w_817 dX0_trade_83 rfl rfl (tX0_place Θ l _ _  _) (by first | exact Nat.le_of_ble_eq_true rfl | omega) (Nat.le_of_ble_eq_true rfl) (Nat.le_of_ble_eq_true rfl) (fun r33 s34 => ?_)
            refine j_aload_n 87 dX0_trade_86 rfl rfl ?_
            refine j_iload_n 88 dX0_trade_87 rfl rfl ?_
            refine j_iload 90 dX0_trade_88 rfl rfl ?_
            refine j_if_eq 97 93 dX0_trade_90 (by decide) rfl (fun c35 => ?_) (fun c35 => ?_)
            · refine j_iload 99 dX0_trade_97 rfl rfl ?_
              refine s_callVu (M2 := mX0_place) [vI a2, vI r3] 102 oa6 cc0 mkX0_place w_817 dX0_trade_99 rfl rfl (tX0_place Θ l _ _  _) (by first | exact Nat.le_of_ble_eq_true rfl | omega) (Nat.le_of_ble_eq_true rfl) (Nat.le_of_ble_eq_true rfl) (fun r36 s37 => ?_)
              refine j_iload 104 dX0_trade_102 rfl rfl ?_
              exact s_zretG dX0_trade_104 rfl
            · refine j_iload_n 94 dX0_trade_93 rfl rfl ?_
              refine j_goto 99 dX0_trade_94 (by decide) ?_
              refine s_callVu (M2 := mX0_place) [vI a2, vI r1] 102 oa6 cc0 mkX0_place w_817 dX0_trade_99 rfl rfl (tX0_place Θ l _ _  _) (by first | exact Nat.le_of_ble_eq_true rfl | omega) (Nat.le_of_ble_eq_true rfl) (Nat.le_of_ble_eq_true rfl) (fun r38 s39 => ?_)
              refine j_iload 104 dX0_trade_102 rfl rfl ?_
              exact s_zretG dX0_trade_104 rfl
          · refine j_iload 79 dX0_trade_77 rfl rfl ?_
            refine j_goto 83 dX0_trade_79 (by decide) ?_
            refine s_callVu (M2 := mX0_place) [vI a1, vI r3] 86 oa6 cc0 mkX0_place w_817 dX0_trade_83 rfl rfl (tX0_place Θ l _ _  _) (by first | exact Nat.le_of_ble_eq_true rfl | omega) (Nat.le_of_ble_eq_true rfl) (Nat.le_of_ble_eq_true rfl) (fun r40 s41 => ?_)
            refine j_aload_n 87 dX0_trade_86 rfl rfl ?_
            refine j_iload_n 88 dX0_trade_87 rfl rfl ?_
            refine j_iload 90 dX0_trade_88 rfl rfl ?_
            refine j_if_eq 97 93 dX0_trade_90 (by decide) rfl (fun c42 => ?_) (fun c42 => ?_)
            · refine j_iload 99 dX0_trade_97 rfl rfl ?_
              refine s_callVu (M2 := mX0_place) [vI a2, vI r3] 102 oa6 cc0 mkX0_place w_817 dX0_trade_99 rfl rfl (tX0_place Θ l _ _  _) (by first | exact Nat.le_of_ble_eq_true rfl | omega) (Nat.le_of_ble_eq_true rfl) (Nat.le_of_ble_eq_true rfl) (fun r43 s44 => ?_)
              refine j_iload 104 dX0_trade_102 rfl rfl ?_
              exact s_zretG dX0_trade_104 rfl
            · refine j_iload_n 94 dX0_trade_93 rfl rfl ?_
              refine j_goto 99 dX0_trade_94 (by decide) ?_
              refine s_callVu (M2 := mX0_place) [vI a2, vI r1] 102 oa6 cc0 mkX0_place w_817 dX0_trade_99 rfl rfl (tX0_place Θ l _ _  _) (by first | exact Nat.le_of_ble_eq_true rfl | omega) (Nat.le_of_ble_eq_true rfl) (Nat.le_of_ble_eq_true rfl) (fun r45 s46 => ?_)
              refine j_iload 104 dX0_trade_102 rfl rfl ?_
              exact s_zretG dX0_trade_104 rfl
-- X11_change
def fX11_change  (a1 : Int32) (a2 : Int32) (s : Mem) : Option (Int32 × Mem) :=
bnd (fX0_isGuest a1 s) (fun r1 s2 =>
if r1 = 0 then
  some ((-1), s2)
else
  bnd (fX0_isGuest a2 s2) (fun r4 s5 =>
  if r4 = 0 then
    some ((-1), s5)
  else
    if a1 = a2 then
      some ((-1), s5)
    else
      bnd (fX0_trade a1 a2 s5) (fun r8 s9 =>
      if r8 = 0 then
        some ((-4), s9)
      else
        bnd (fX1_remember 2 a1 a2 s9) (fun r11 s12 =>
        some (1, s12)))))
theorem tX11_change (Θ : Th) (l : Launch)  (a1 : Int32) (a2 : Int32)  (s : Mem) : Cs Θ l mX11_change 6 gI [vR 1, vI a1, vI a2] s (fX11_change a1 a2 s) := by
  refine ct_of (by decide) [some (vR 1), some (vI a1), some (vI a2)] rfl (Nat.le_of_ble_eq_true rfl) ?_
  unfold fX11_change
  refine j_aload_n 1 dX11_change_0 rfl rfl ?_
  refine s_getR (x := 6) 4 fa1_3 w_405 dX11_change_1 rfl (by decide +kernel) ?_
  refine j_iload_n 5 dX11_change_4 rfl rfl ?_
  refine s_callVi (M2 := mX0_isGuest) [vI a1] 8 oa6 cc0 mkX0_isGuest w_711 dX11_change_5 rfl rfl (tX0_isGuest Θ l _  _) (by first | exact Nat.le_of_ble_eq_true rfl | omega) (Nat.le_of_ble_eq_true rfl) (Nat.le_of_ble_eq_true rfl) (fun r1 s2 => ?_)
  refine j_if_eq 27 11 dX11_change_8 (by decide) rfl (fun c3 => ?_) (fun c3 => ?_)
  · refine j_iconst (v := (-1)) 28 dX11_change_27 rfl (by decide) ?_
    exact s_iret dX11_change_28 rfl
  · refine j_aload_n 12 dX11_change_11 rfl rfl ?_
    refine s_getR (x := 6) 15 fa1_3 w_405 dX11_change_12 rfl (by decide +kernel) ?_
    refine j_iload_n 16 dX11_change_15 rfl rfl ?_
    refine s_callVi (M2 := mX0_isGuest) [vI a2] 19 oa6 cc0 mkX0_isGuest w_711 dX11_change_16 rfl rfl (tX0_isGuest Θ l _  _) (by first | exact Nat.le_of_ble_eq_true rfl | omega) (Nat.le_of_ble_eq_true rfl) (Nat.le_of_ble_eq_true rfl) (fun r4 s5 => ?_)
    refine j_if_eq 27 22 dX11_change_19 (by decide) rfl (fun c6 => ?_) (fun c6 => ?_)
    · refine j_iconst (v := (-1)) 28 dX11_change_27 rfl (by decide) ?_
      exact s_iret dX11_change_28 rfl
    · refine j_iload_n 23 dX11_change_22 rfl rfl ?_
      refine j_iload_n 24 dX11_change_23 rfl rfl ?_
      refine j_icmp_ne 29 27 dX11_change_24 (by decide) rfl (fun c7 => ?_) (fun c7 => ?_)
      · refine j_iconst (v := (-1)) 28 dX11_change_27 rfl (by decide) ?_
        exact s_iret dX11_change_28 rfl
      · refine j_aload_n 30 dX11_change_29 rfl rfl ?_
        refine s_getR (x := 6) 33 fa1_3 w_405 dX11_change_30 rfl (by decide +kernel) ?_
        refine j_iload_n 34 dX11_change_33 rfl rfl ?_
        refine j_iload_n 35 dX11_change_34 rfl rfl ?_
        refine s_callVi (M2 := mX0_trade) [vI a1, vI a2] 38 oa6 cc0 mkX0_trade w_812 dX11_change_35 rfl rfl (tX0_trade Θ l _ _  _) (by first | exact Nat.le_of_ble_eq_true rfl | omega) (Nat.le_of_ble_eq_true rfl) (Nat.le_of_ble_eq_true rfl) (fun r8 s9 => ?_)
        refine j_if_ne 44 41 dX11_change_38 (by decide) rfl (fun c10 => ?_) (fun c10 => ?_)
        · refine j_bipush (v := (-4)) 43 dX11_change_41 rfl (by decide) ?_
          exact s_iret dX11_change_43 rfl
        · refine j_aload_n 45 dX11_change_44 rfl rfl ?_
          refine s_getR (x := 20) 48 fa1_6 w_408 dX11_change_45 rfl (by decide +kernel) ?_
          refine j_iconst (v := 2) 49 dX11_change_48 rfl (by decide) ?_
          refine j_iload_n 50 dX11_change_49 rfl rfl ?_
          refine j_iload_n 51 dX11_change_50 rfl rfl ?_
          refine s_callVu (M2 := mX1_remember) [vI 2, vI a1, vI a2] 54 oa20 cc1 mkX1_remember w_796 dX11_change_51 rfl rfl (tX1_remember Θ l _ _ _  _) (by first | exact Nat.le_of_ble_eq_true rfl | omega) (Nat.le_of_ble_eq_true rfl) (Nat.le_of_ble_eq_true rfl) (fun r11 s12 => ?_)
          refine j_iconst (v := 1) 55 dX11_change_54 rfl (by decide) ?_
          exact s_iret dX11_change_55 rfl
-- X1_lastSort
def fX1_lastSort   (s : Mem) : Option (Int32 × Mem) :=
if 0 < (s.1 20 0) then
  if 60 < (s.1 20 0) then
    some (0, s)
  else
    if inb ((s.1 20 0) - 1) 60 = true then
    some (s.1 21 (ix ((s.1 20 0) - 1)), s)
    else none
else
  some (0, s)
theorem tX1_lastSort (Θ : Th) (l : Launch)    (s : Mem) : Cs Θ l mX1_lastSort 1 gI [vR 20] s (fX1_lastSort  s) := by
  refine ct_of (by decide) [some (vR 20)] rfl (Nat.le_of_ble_eq_true rfl) ?_
  unfold fX1_lastSort
  refine j_aload_n 1 dX1_lastSort_0 rfl rfl ?_
  refine s_getI 4 fa20_0 w_229 dX1_lastSort_1 rfl ?_
  refine j_if_le 30 7 dX1_lastSort_4 (by decide) rfl (fun c1 => ?_) (fun c1 => ?_)
  · refine j_aload_n 8 dX1_lastSort_7 rfl rfl ?_
    refine s_getI 11 fa20_0 w_229 dX1_lastSort_8 rfl ?_
    refine j_bipush (v := 60) 13 dX1_lastSort_11 rfl (by decide) ?_
    refine j_icmp_gt 30 16 dX1_lastSort_13 (by decide) rfl (fun c2 => ?_) (fun c2 => ?_)
    · refine j_iconst (v := 0) 31 dX1_lastSort_30 rfl (by decide) ?_
      exact s_iret dX1_lastSort_31 rfl
    · refine j_aload_n 17 dX1_lastSort_16 rfl rfl ?_
      refine s_getR (x := 21) 20 fa20_1 w_231 dX1_lastSort_17 rfl (by decide +kernel) ?_
      refine j_aload_n 21 dX1_lastSort_20 rfl rfl ?_
      refine s_getI 24 fa20_0 w_229 dX1_lastSort_21 rfl ?_
      refine j_iconst (v := 1) 25 dX1_lastSort_24 rfl (by decide) ?_
      refine j_isub 26 dX1_lastSort_25 rfl ?_
      refine s_iaload 27 aa21 dX1_lastSort_26 rfl (fun b3 => ?_)
      refine j_goto 31 dX1_lastSort_27 (by decide) ?_
      exact s_iret dX1_lastSort_31 rfl
  · refine j_iconst (v := 0) 31 dX1_lastSort_30 rfl (by decide) ?_
    exact s_iret dX1_lastSort_31 rfl
-- X1_lastGuest
def fX1_lastGuest   (s : Mem) : Option (Int32 × Mem) :=
if 0 < (s.1 20 0) then
  if 60 < (s.1 20 0) then
    some ((-9), s)
  else
    if inb ((s.1 20 0) - 1) 60 = true then
    some (s.1 22 (ix ((s.1 20 0) - 1)), s)
    else none
else
  some ((-9), s)
theorem tX1_lastGuest (Θ : Th) (l : Launch)    (s : Mem) : Cs Θ l mX1_lastGuest 1 gI [vR 20] s (fX1_lastGuest  s) := by
  refine ct_of (by decide) [some (vR 20)] rfl (Nat.le_of_ble_eq_true rfl) ?_
  unfold fX1_lastGuest
  refine j_aload_n 1 dX1_lastGuest_0 rfl rfl ?_
  refine s_getI 4 fa20_0 w_229 dX1_lastGuest_1 rfl ?_
  refine j_if_le 30 7 dX1_lastGuest_4 (by decide) rfl (fun c1 => ?_) (fun c1 => ?_)
  · refine j_aload_n 8 dX1_lastGuest_7 rfl rfl ?_
    refine s_getI 11 fa20_0 w_229 dX1_lastGuest_8 rfl ?_
    refine j_bipush (v := 60) 13 dX1_lastGuest_11 rfl (by decide) ?_
    refine j_icmp_gt 30 16 dX1_lastGuest_13 (by decide) rfl (fun c2 => ?_) (fun c2 => ?_)
    · refine j_bipush (v := (-9)) 32 dX1_lastGuest_30 rfl (by decide) ?_
      exact s_iret dX1_lastGuest_32 rfl
    · refine j_aload_n 17 dX1_lastGuest_16 rfl rfl ?_
      refine s_getR (x := 22) 20 fa20_2 w_232 dX1_lastGuest_17 rfl (by decide +kernel) ?_
      refine j_aload_n 21 dX1_lastGuest_20 rfl rfl ?_
      refine s_getI 24 fa20_0 w_229 dX1_lastGuest_21 rfl ?_
      refine j_iconst (v := 1) 25 dX1_lastGuest_24 rfl (by decide) ?_
      refine j_isub 26 dX1_lastGuest_25 rfl ?_
      refine s_iaload 27 aa22 dX1_lastGuest_26 rfl (fun b3 => ?_)
      refine j_goto 32 dX1_lastGuest_27 (by decide) ?_
      exact s_iret dX1_lastGuest_32 rfl
  · refine j_bipush (v := (-9)) 32 dX1_lastGuest_30 rfl (by decide) ?_
    exact s_iret dX1_lastGuest_32 rfl
-- X1_lastOther
def fX1_lastOther   (s : Mem) : Option (Int32 × Mem) :=
if 0 < (s.1 20 0) then
  if 60 < (s.1 20 0) then
    some ((-9), s)
  else
    if inb ((s.1 20 0) - 1) 60 = true then
    some (s.1 23 (ix ((s.1 20 0) - 1)), s)
    else none
else
  some ((-9), s)
theorem tX1_lastOther (Θ : Th) (l : Launch)    (s : Mem) : Cs Θ l mX1_lastOther 1 gI [vR 20] s (fX1_lastOther  s) := by
  refine ct_of (by decide) [some (vR 20)] rfl (Nat.le_of_ble_eq_true rfl) ?_
  unfold fX1_lastOther
  refine j_aload_n 1 dX1_lastOther_0 rfl rfl ?_
  refine s_getI 4 fa20_0 w_229 dX1_lastOther_1 rfl ?_
  refine j_if_le 30 7 dX1_lastOther_4 (by decide) rfl (fun c1 => ?_) (fun c1 => ?_)
  · refine j_aload_n 8 dX1_lastOther_7 rfl rfl ?_
    refine s_getI 11 fa20_0 w_229 dX1_lastOther_8 rfl ?_
    refine j_bipush (v := 60) 13 dX1_lastOther_11 rfl (by decide) ?_
    refine j_icmp_gt 30 16 dX1_lastOther_13 (by decide) rfl (fun c2 => ?_) (fun c2 => ?_)
    · refine j_bipush (v := (-9)) 32 dX1_lastOther_30 rfl (by decide) ?_
      exact s_iret dX1_lastOther_32 rfl
    · refine j_aload_n 17 dX1_lastOther_16 rfl rfl ?_
      refine s_getR (x := 23) 20 fa20_3 w_233 dX1_lastOther_17 rfl (by decide +kernel) ?_
      refine j_aload_n 21 dX1_lastOther_20 rfl rfl ?_
      refine s_getI 24 fa20_0 w_229 dX1_lastOther_21 rfl ?_
      refine j_iconst (v := 1) 25 dX1_lastOther_24 rfl (by decide) ?_
      refine j_isub 26 dX1_lastOther_25 rfl ?_
      refine s_iaload 27 aa23 dX1_lastOther_26 rfl (fun b3 => ?_)
      refine j_goto 32 dX1_lastOther_27 (by decide) ?_
      exact s_iret dX1_lastOther_32 rfl
  · refine j_bipush (v := (-9)) 32 dX1_lastOther_30 rfl (by decide) ?_
    exact s_iret dX1_lastOther_32 rfl
-- X1_forgetLast
def fX1_forgetLast   (s : Mem) : Option (Unit × Mem) :=
some ((), wI s 20 0 (mx 0 ((s.1 20 0) - 1)))
theorem tX1_forgetLast (Θ : Th) (l : Launch)    (s : Mem) : Cs Θ l mX1_forgetLast 2 gU [vR 20] s (fX1_forgetLast  s) := by
  refine ct_of (by decide) [some (vR 20)] rfl (Nat.le_of_ble_eq_true rfl) ?_
  unfold fX1_forgetLast
  refine j_aload_n 1 dX1_forgetLast_0 rfl rfl ?_
  refine j_iconst (v := 0) 2 dX1_forgetLast_1 rfl (by decide) ?_
  refine j_aload_n 3 dX1_forgetLast_2 rfl rfl ?_
  refine s_getI 6 fa20_0 w_229 dX1_forgetLast_3 rfl ?_
  refine j_iconst (v := 1) 7 dX1_forgetLast_6 rfl (by decide) ?_
  refine j_isub 8 dX1_forgetLast_7 rfl ?_
  refine s_mmax 11 dX1_forgetLast_8 rfl wm_839 wt_max wi_math wc_max (by first | exact Nat.le_of_ble_eq_true rfl | omega) (Nat.le_of_ble_eq_true rfl) ?_
  refine s_putI 14 fa20_0 w_229 dX1_forgetLast_11 rfl ?_
  exact s_ret dX1_forgetLast_14 rfl
-- X0_swap
def fX0_swap  (a1 : Int32) (a2 : Int32) (s : Mem) : Option (Unit × Mem) :=
bnd (fX0_benchOf a1 s) (fun r1 s2 =>
bnd (fX0_benchOf a2 s2) (fun r3 s4 =>
bnd (fX0_place a1 r3 s4) (fun r5 s6 =>
bnd (fX0_place a2 r1 s6) (fun r7 s8 =>
some ((), s8)))))
theorem tX0_swap (Θ : Th) (l : Launch)  (a1 : Int32) (a2 : Int32)  (s : Mem) : Cs Θ l mX0_swap 3 gU [vR 6, vI a1, vI a2] s (fX0_swap a1 a2 s) := by
  refine ct_of (by decide) [some (vR 6), some (vI a1), some (vI a2), none] rfl (Nat.le_of_ble_eq_true rfl) ?_
  unfold fX0_swap
  refine j_aload_n 1 dX0_swap_0 rfl rfl ?_
  refine j_iload_n 2 dX0_swap_1 rfl rfl ?_
  refine s_callVi (M2 := mX0_benchOf) [vI a1] 5 oa6 cc0 mkX0_benchOf w_816 dX0_swap_2 rfl rfl (tX0_benchOf Θ l _  _) (by first | exact Nat.le_of_ble_eq_true rfl | omega) (Nat.le_of_ble_eq_true rfl) (Nat.le_of_ble_eq_true rfl) (fun r1 s2 => ?_)
  refine j_istore_n (i := 3) (ls' := [some (vR 6), some (vI a1), some (vI a2), some (vI r1)]) 6 dX0_swap_5 rfl rfl (by decide) rfl rfl ?_
  refine j_aload_n 7 dX0_swap_6 rfl rfl ?_
  refine j_iload_n 8 dX0_swap_7 rfl rfl ?_
  refine j_aload_n 9 dX0_swap_8 rfl rfl ?_
  refine j_iload_n 10 dX0_swap_9 rfl rfl ?_
  refine s_callVi (M2 := mX0_benchOf) [vI a2] 13 oa6 cc0 mkX0_benchOf w_816 dX0_swap_10 rfl rfl (tX0_benchOf Θ l _  _) (by first | exact Nat.le_of_ble_eq_true rfl | omega) (Nat.le_of_ble_eq_true rfl) (Nat.le_of_ble_eq_true rfl) (fun r3 s4 => ?_)
  refine s_callVu (M2 := mX0_place) [vI a1, vI r3] 16 oa6 cc0 mkX0_place w_817 dX0_swap_13 rfl rfl (tX0_place Θ l _ _  _) (by first | exact Nat.le_of_ble_eq_true rfl | omega) (Nat.le_of_ble_eq_true rfl) (Nat.le_of_ble_eq_true rfl) (fun r5 s6 => ?_)
  refine j_aload_n 17 dX0_swap_16 rfl rfl ?_
  refine j_iload_n 18 dX0_swap_17 rfl rfl ?_
  refine j_iload_n 19 dX0_swap_18 rfl rfl ?_
  refine s_callVu (M2 := mX0_place) [vI a2, vI r1] 22 oa6 cc0 mkX0_place w_817 dX0_swap_19 rfl rfl (tX0_place Θ l _ _  _) (by first | exact Nat.le_of_ble_eq_true rfl | omega) (Nat.le_of_ble_eq_true rfl) (Nat.le_of_ble_eq_true rfl) (fun r7 s8 => ?_)
  exact s_ret dX0_swap_22 rfl
-- X11_undo
def fX11_undo   (s : Mem) : Option (Int32 × Mem) :=
if (s.1 20 0) = 0 then
  some ((-4), s)
else
  bnd (fX1_lastSort s) (fun r2 s3 =>
  bnd (fX1_lastGuest s3) (fun r4 s5 =>
  bnd (fX1_lastOther s5) (fun r6 s7 =>
  bnd (fX1_forgetLast s7) (fun r8 s9 =>
  if r2 = 2 then
    bnd (fX0_swap r4 r6 s9) (fun r11 s12 =>
    some (r2, s12))
  else
    bnd (fX0_place r4 r6 s9) (fun r13 s14 =>
    some (r2, s14))))))
theorem tX11_undo (Θ : Th) (l : Launch)    (s : Mem) : Cs Θ l mX11_undo 4 gI [vR 1] s (fX11_undo  s) := by
  refine ct_of (by decide) [some (vR 1), none, none, none] rfl (Nat.le_of_ble_eq_true rfl) ?_
  unfold fX11_undo
  refine j_aload_n 1 dX11_undo_0 rfl rfl ?_
  refine s_getR (x := 20) 4 fa1_6 w_408 dX11_undo_1 rfl (by decide +kernel) ?_
  refine s_getI 7 fa20_0 w_230 dX11_undo_4 rfl ?_
  refine j_if_ne 13 10 dX11_undo_7 (by decide) rfl (fun c1 => ?_) (fun c1 => ?_)
  · refine j_bipush (v := (-4)) 12 dX11_undo_10 rfl (by decide) ?_
    exact s_iret dX11_undo_12 rfl
  · refine j_aload_n 14 dX11_undo_13 rfl rfl ?_
    refine s_getR (x := 20) 17 fa1_6 w_408 dX11_undo_14 rfl (by decide +kernel) ?_
    refine s_callVi (M2 := mX1_lastSort) [] 20 oa20 cc1 mkX1_lastSort w_823 dX11_undo_17 rfl rfl (tX1_lastSort Θ l   _) (by first | exact Nat.le_of_ble_eq_true rfl | omega) (Nat.le_of_ble_eq_true rfl) (Nat.le_of_ble_eq_true rfl) (fun r2 s3 => ?_)
    refine j_istore_n (i := 1) (ls' := [some (vR 1), some (vI r2), none, none]) 21 dX11_undo_20 rfl rfl (by decide) rfl rfl ?_
    refine j_aload_n 22 dX11_undo_21 rfl rfl ?_
    refine s_getR (x := 20) 25 fa1_6 w_408 dX11_undo_22 rfl (by decide +kernel) ?_
    refine s_callVi (M2 := mX1_lastGuest) [] 28 oa20 cc1 mkX1_lastGuest w_827 dX11_undo_25 rfl rfl (tX1_lastGuest Θ l   _) (by first | exact Nat.le_of_ble_eq_true rfl | omega) (Nat.le_of_ble_eq_true rfl) (Nat.le_of_ble_eq_true rfl) (fun r4 s5 => ?_)
    refine j_istore_n (i := 2) (ls' := [some (vR 1), some (vI r2), some (vI r4), none]) 29 dX11_undo_28 rfl rfl (by decide) rfl rfl ?_
    refine j_aload_n 30 dX11_undo_29 rfl rfl ?_
    refine s_getR (x := 20) 33 fa1_6 w_408 dX11_undo_30 rfl (by decide +kernel) ?_
    refine s_callVi (M2 := mX1_lastOther) [] 36 oa20 cc1 mkX1_lastOther w_831 dX11_undo_33 rfl rfl (tX1_lastOther Θ l   _) (by first | exact Nat.le_of_ble_eq_true rfl | omega) (Nat.le_of_ble_eq_true rfl) (Nat.le_of_ble_eq_true rfl) (fun r6 s7 => ?_)
    refine j_istore_n (i := 3) (ls' := [some (vR 1), some (vI r2), some (vI r4), some (vI r6)]) 37 dX11_undo_36 rfl rfl (by decide) rfl rfl ?_
    refine j_aload_n 38 dX11_undo_37 rfl rfl ?_
    refine s_getR (x := 20) 41 fa1_6 w_408 dX11_undo_38 rfl (by decide +kernel) ?_
    refine s_callVu (M2 := mX1_forgetLast) [] 44 oa20 cc1 mkX1_forgetLast w_835 dX11_undo_41 rfl rfl (tX1_forgetLast Θ l   _) (by first | exact Nat.le_of_ble_eq_true rfl | omega) (Nat.le_of_ble_eq_true rfl) (Nat.le_of_ble_eq_true rfl) (fun r8 s9 => ?_)
    refine j_iload_n 45 dX11_undo_44 rfl rfl ?_
    refine j_iconst (v := 2) 46 dX11_undo_45 rfl (by decide) ?_
    refine j_icmp_ne 61 49 dX11_undo_46 (by decide) rfl (fun c10 => ?_) (fun c10 => ?_)
    · refine j_aload_n 50 dX11_undo_49 rfl rfl ?_
      refine s_getR (x := 6) 53 fa1_3 w_405 dX11_undo_50 rfl (by decide +kernel) ?_
      refine j_iload_n 54 dX11_undo_53 rfl rfl ?_
      refine j_iload_n 55 dX11_undo_54 rfl rfl ?_
      refine s_callVu (M2 := mX0_swap) [vI r4, vI r6] 58 oa6 cc0 mkX0_swap w_840 dX11_undo_55 rfl rfl (tX0_swap Θ l _ _  _) (by first | exact Nat.le_of_ble_eq_true rfl | omega) (Nat.le_of_ble_eq_true rfl) (Nat.le_of_ble_eq_true rfl) (fun r11 s12 => ?_)
      refine j_goto 70 dX11_undo_58 (by decide) ?_
      refine j_iload_n 71 dX11_undo_70 rfl rfl ?_
      exact s_iret dX11_undo_71 rfl
    · refine j_aload_n 62 dX11_undo_61 rfl rfl ?_
      refine s_getR (x := 6) 65 fa1_3 w_405 dX11_undo_62 rfl (by decide +kernel) ?_
      refine j_iload_n 66 dX11_undo_65 rfl rfl ?_
      refine j_iload_n 67 dX11_undo_66 rfl rfl ?_
      refine s_callVu (M2 := mX0_place) [vI r4, vI r6] 70 oa6 cc0 mkX0_place w_792 dX11_undo_67 rfl rfl (tX0_place Θ l _ _  _) (by first | exact Nat.le_of_ble_eq_true rfl | omega) (Nat.le_of_ble_eq_true rfl) (Nat.le_of_ble_eq_true rfl) (fun r13 s14 => ?_)
      refine j_iload_n 71 dX11_undo_70 rfl rfl ?_
      exact s_iret dX11_undo_71 rfl
-- X3_take_6
def fX3_take_6_L19  (κ : Mem → Option (Unit × Mem)) (y1 : Int32) : Nat → Int32 → Mem → Option (Unit × Mem)
  | 0, _, _ => none
  | k + 1, x3, s =>
    if x3 < 7 then
      bnd (fX0_benchOf x3 s) (fun r6 s7 =>
      if inb ((y1 * 7) + x3) 21 = true then
      fX3_take_6_L19 κ y1 k (x3 + 1) (wI s7 26 (ix ((y1 * 7) + x3)) r6)
      else none)
    else
      κ s
def fX3_take_6  (a1 : Int32) (s : Mem) : Option (Unit × Mem) :=
bnd (fX11_isWithin a1 0 2 s) (fun r1 s2 =>
if r1 = 0 then
  some ((), s2)
else
  if inb a1 3 = true then
  fX3_take_6_L19 (fun s9 =>
    some ((), s9)) a1 FU 0 (wI s2 25 (ix a1) (vp_nar .boolean 1))
  else none)
theorem tX3_take_6_L19 (Θ : Th) (l : Launch)  (κ : Mem → Option (Unit × Mem)) (y1 : Int32)  (hκ : ∀  (s : Mem), Js Θ l mX3_take 3 gU 47 [none, none, none, none] [] s (κ  s)) : ∀ (k : Nat) (x3 : Int32) (s : Mem), Js Θ l mX3_take 3 gU 19 [some (vR 24), some (vI y1), some (vR 6), some (vI x3)] [] s (fX3_take_6_L19 κ y1 k x3 s) := by
  intro k
  induction k with
  | zero => intro x3 s; exact j_none
  | succ k ih =>
    intro x3 s
    rw [fX3_take_6_L19]
    refine j_iload_n 20 dX3_take_19 rfl rfl ?_
    refine j_bipush (v := 7) 22 dX3_take_20 rfl (by decide) ?_
    refine j_icmp_ge 47 25 dX3_take_22 (by decide) rfl (fun c5 => ?_) (fun c5 => ?_)
    · refine j_aload_n 26 dX3_take_25 rfl rfl ?_
      refine s_getR (x := 26) 29 fa24_1 w_250 dX3_take_26 rfl (by decide +kernel) ?_
      refine j_iload_n 30 dX3_take_29 rfl rfl ?_
      refine j_bipush (v := 7) 32 dX3_take_30 rfl (by decide) ?_
      refine j_imul 33 dX3_take_32 rfl ?_
      refine j_iload_n 34 dX3_take_33 rfl rfl ?_
      refine j_iadd 35 dX3_take_34 rfl ?_
      refine j_aload_n 36 dX3_take_35 rfl rfl ?_
      refine j_iload_n 37 dX3_take_36 rfl rfl ?_
      refine s_callVi (M2 := mX0_benchOf) [vI x3] 40 oa6 cc0 mkX0_benchOf w_853 dX3_take_37 rfl rfl (tX0_benchOf Θ l _  _) (by first | exact Nat.le_of_ble_eq_true rfl | omega) (Nat.le_of_ble_eq_true rfl) (Nat.le_of_ble_eq_true rfl) (fun r6 s7 => ?_)
      refine s_iastore 41 aa26 dX3_take_40 rfl (fun b8 => ?_)
      refine j_iinc (v := x3 + 1) (ls' := [some (vR 24), some (vI y1), some (vR 6), some (vI (x3 + 1))]) 44 dX3_take_41 rfl rfl rfl (by decide) rfl rfl ?_
      refine j_goto 19 dX3_take_44 (by decide) ?_
      refine j_sub (ls' := [some (vR 24), some (vI y1), some (vR 6), some (vI (x3 + 1))]) (And.intro rfl (And.intro rfl (And.intro rfl (And.intro rfl trivial)))) ?_
      exact ih (x3 + 1) (wI s7 26 (ix ((y1 * 7) + x3)) r6)
    · refine j_sub (ls' := [none, none, none, none]) (trivial) ?_
      exact hκ s
theorem tX3_take_6 (Θ : Th) (l : Launch)  (a1 : Int32)  (s : Mem) : Cs Θ l mX3_take 3 gU [vR 24, vI a1, vR 6] s (fX3_take_6 a1 s) := by
  refine ct_of (by decide) [some (vR 24), some (vI a1), some (vR 6), none] rfl (Nat.le_of_ble_eq_true rfl) ?_
  unfold fX3_take_6
  refine j_iload_n 1 dX3_take_0 rfl rfl ?_
  refine j_iconst (v := 0) 2 dX3_take_1 rfl (by decide) ?_
  refine j_iconst (v := 2) 3 dX3_take_2 rfl (by decide) ?_
  refine s_callSi (M2 := mX11_isWithin) [vI a1, vI 0, vI 2] 6 mkX11_isWithin (Or.inr ⟨_, w_852⟩) dX3_take_3 rfl rfl (tX11_isWithin Θ l _ _ _  _) (by first | exact Nat.le_of_ble_eq_true rfl | omega) (Nat.le_of_ble_eq_true rfl) (Nat.le_of_ble_eq_true rfl) (fun r1 s2 => ?_)
  refine j_if_ne 10 9 dX3_take_6 (by decide) rfl (fun c3 => ?_) (fun c3 => ?_)
  · exact s_ret dX3_take_9 rfl
  · refine j_aload_n 11 dX3_take_10 rfl rfl ?_
    refine s_getR (x := 25) 14 fa24_0 w_249 dX3_take_11 rfl (by decide +kernel) ?_
    refine j_iload_n 15 dX3_take_14 rfl rfl ?_
    refine j_iconst (v := 1) 16 dX3_take_15 rfl (by decide) ?_
    refine s_zastore 17 aa25 dX3_take_16 rfl (fun b4 => ?_)
    refine j_iconst (v := 0) 18 dX3_take_17 rfl (by decide) ?_
    refine j_istore_n (i := 3) (ls' := [some (vR 24), some (vI a1), some (vR 6), some (vI 0)]) 19 dX3_take_18 rfl rfl (by decide) rfl rfl ?_
    refine j_sub (ls' := [some (vR 24), some (vI a1), some (vR 6), some (vI 0)]) (And.intro rfl (And.intro rfl (And.intro rfl (And.intro rfl trivial)))) ?_
    refine tX3_take_6_L19 Θ l _ _  ?_ _ _ _
    intro s9
    exact s_ret dX3_take_47 rfl
-- X0_seatedCount
def fX0_seatedCount   (s : Mem) : Option (Int32 × Mem) :=
bnd (fX0_seatedSet s) (fun r1 s2 =>
bnd (fJ6_bitCount_0f7a4 r1 s2) (fun r3 s4 =>
some (r3, s4)))
theorem tX0_seatedCount (Θ : Th) (l : Launch)    (s : Mem) : Cs Θ l mX0_seatedCount 2 gI [vR 6] s (fX0_seatedCount  s) := by
  refine ct_of (by decide) [some (vR 6)] rfl (Nat.le_of_ble_eq_true rfl) ?_
  unfold fX0_seatedCount
  refine j_aload_n 1 dX0_seatedCount_0 rfl rfl ?_
  refine s_callVi (M2 := mX0_seatedSet) [] 4 oa6 cc0 mkX0_seatedSet w_858 dX0_seatedCount_1 rfl rfl (tX0_seatedSet Θ l   _) (by first | exact Nat.le_of_ble_eq_true rfl | omega) (Nat.le_of_ble_eq_true rfl) (Nat.le_of_ble_eq_true rfl) (fun r1 s2 => ?_)
  refine s_callSi (M2 := mJ6_bitCount_0f7a4) [vI r1] 7 mkJ6_bitCount_0f7a4 (Or.inl w_696) dX0_seatedCount_4 rfl rfl (tJ6_bitCount_0f7a4 Θ l _  _) (by first | exact Nat.le_of_ble_eq_true rfl | omega) (Nat.le_of_ble_eq_true rfl) (Nat.le_of_ble_eq_true rfl) (fun r3 s4 => ?_)
  exact s_iret dX0_seatedCount_7 rfl
-- X11_keep
def fX11_keep  (a1 : Int32) (s : Mem) : Option (Int32 × Mem) :=
bnd (fX11_isWithin a1 0 2 s) (fun r1 s2 =>
if r1 = 0 then
  some ((-1), s2)
else
  if (s2.1 6 0) = 0 then
    some ((-4), s2)
  else
    bnd (fX3_take_6 a1 s2) (fun r5 s6 =>
    bnd (fX0_seatedCount s6) (fun r7 s8 =>
    some (r7, s8))))
theorem tX11_keep (Θ : Th) (l : Launch)  (a1 : Int32)  (s : Mem) : Cs Θ l mX11_keep 4 gI [vR 1, vI a1] s (fX11_keep a1 s) := by
  refine ct_of (by decide) [some (vR 1), some (vI a1)] rfl (Nat.le_of_ble_eq_true rfl) ?_
  unfold fX11_keep
  refine j_iload_n 1 dX11_keep_0 rfl rfl ?_
  refine j_iconst (v := 0) 2 dX11_keep_1 rfl (by decide) ?_
  refine j_iconst (v := 2) 3 dX11_keep_2 rfl (by decide) ?_
  refine s_callSi (M2 := mX11_isWithin) [vI a1, vI 0, vI 2] 6 mkX11_isWithin (Or.inl w_678) dX11_keep_3 rfl rfl (tX11_isWithin Θ l _ _ _  _) (by first | exact Nat.le_of_ble_eq_true rfl | omega) (Nat.le_of_ble_eq_true rfl) (Nat.le_of_ble_eq_true rfl) (fun r1 s2 => ?_)
  refine j_if_ne 11 9 dX11_keep_6 (by decide) rfl (fun c3 => ?_) (fun c3 => ?_)
  · refine j_iconst (v := (-1)) 10 dX11_keep_9 rfl (by decide) ?_
    exact s_iret dX11_keep_10 rfl
  · refine j_aload_n 12 dX11_keep_11 rfl rfl ?_
    refine s_getR (x := 6) 15 fa1_3 w_405 dX11_keep_12 rfl (by decide +kernel) ?_
    refine s_getI 18 fa6_0 w_159 dX11_keep_15 rfl ?_
    refine j_if_ne 24 21 dX11_keep_18 (by decide) rfl (fun c4 => ?_) (fun c4 => ?_)
    · refine j_bipush (v := (-4)) 23 dX11_keep_21 rfl (by decide) ?_
      exact s_iret dX11_keep_23 rfl
    · refine j_aload_n 25 dX11_keep_24 rfl rfl ?_
      refine s_getR (x := 24) 28 fa1_7 w_409 dX11_keep_25 rfl (by decide +kernel) ?_
      refine j_iload_n 29 dX11_keep_28 rfl rfl ?_
      refine j_aload_n 30 dX11_keep_29 rfl rfl ?_
      refine s_getR (x := 6) 33 fa1_3 w_405 dX11_keep_30 rfl (by decide +kernel) ?_
      refine s_callVu (M2 := mX3_take) [vI a1, vR 6] 36 oa24 cc3 mkX3_take w_848 dX11_keep_33 rfl rfl (tX3_take_6 Θ l _  _) (by first | exact Nat.le_of_ble_eq_true rfl | omega) (Nat.le_of_ble_eq_true rfl) (Nat.le_of_ble_eq_true rfl) (fun r5 s6 => ?_)
      refine j_aload_n 37 dX11_keep_36 rfl rfl ?_
      refine s_getR (x := 6) 40 fa1_3 w_405 dX11_keep_37 rfl (by decide +kernel) ?_
      refine s_callVi (M2 := mX0_seatedCount) [] 43 oa6 cc0 mkX0_seatedCount w_854 dX11_keep_40 rfl rfl (tX0_seatedCount Θ l   _) (by first | exact Nat.le_of_ble_eq_true rfl | omega) (Nat.le_of_ble_eq_true rfl) (Nat.le_of_ble_eq_true rfl) (fun r7 s8 => ?_)
      exact s_iret dX11_keep_43 rfl
-- X3_has
def fX3_has  (a1 : Int32) (s : Mem) : Option (Int32 × Mem) :=
if a1 < 0 then
  some (0, s)
else
  if a1 < 3 then
    if inb a1 3 = true then
    if (s.1 25 (ix a1)) = 0 then
      some (0, s)
    else
      some (1, s)
    else none
  else
    some (0, s)
theorem tX3_has (Θ : Th) (l : Launch)  (a1 : Int32)  (s : Mem) : Cs Θ l mX3_has 1 gI [vR 24, vI a1] s (fX3_has a1 s) := by
  refine ct_of (by decide) [some (vR 24), some (vI a1)] rfl (Nat.le_of_ble_eq_true rfl) ?_
  unfold fX3_has
  refine j_iload_n 1 dX3_has_0 rfl rfl ?_
  refine j_if_lt 22 4 dX3_has_1 (by decide) rfl (fun c1 => ?_) (fun c1 => ?_)
  · refine j_iconst (v := 0) 23 dX3_has_22 rfl (by decide) ?_
    exact s_zret dX3_has_23 rfl (by decide)
  · refine j_iload_n 5 dX3_has_4 rfl rfl ?_
    refine j_iconst (v := 3) 6 dX3_has_5 rfl (by decide) ?_
    refine j_icmp_ge 22 9 dX3_has_6 (by decide) rfl (fun c2 => ?_) (fun c2 => ?_)
    · refine j_aload_n 10 dX3_has_9 rfl rfl ?_
      refine s_getR (x := 25) 13 fa24_0 w_249 dX3_has_10 rfl (by decide +kernel) ?_
      refine j_iload_n 14 dX3_has_13 rfl rfl ?_
      refine s_baload 15 (Or.inr aa25) dX3_has_14 rfl (fun b3 => ?_)
      refine j_if_eq 22 18 dX3_has_15 (by decide) rfl (fun c4 => ?_) (fun c4 => ?_)
      · refine j_iconst (v := 0) 23 dX3_has_22 rfl (by decide) ?_
        exact s_zret dX3_has_23 rfl (by decide)
      · refine j_iconst (v := 1) 19 dX3_has_18 rfl (by decide) ?_
        refine j_goto 23 dX3_has_19 (by decide) ?_
        exact s_zret dX3_has_23 rfl (by decide)
    · refine j_iconst (v := 0) 23 dX3_has_22 rfl (by decide) ?_
      exact s_zret dX3_has_23 rfl (by decide)
-- X3_benchOf
def fX3_benchOf  (a1 : Int32) (a2 : Int32) (s : Mem) : Option (Int32 × Mem) :=
bnd (fX3_has a1 s) (fun r1 s2 =>
if r1 = 0 then
  some ((-9), s2)
else
  if a2 < 0 then
    some ((-9), s2)
  else
    if a2 < 7 then
      if inb ((a1 * 7) + a2) 21 = true then
      some (s2.1 26 (ix ((a1 * 7) + a2)), s2)
      else none
    else
      some ((-9), s2))
theorem tX3_benchOf (Θ : Th) (l : Launch)  (a1 : Int32) (a2 : Int32)  (s : Mem) : Cs Θ l mX3_benchOf 2 gI [vR 24, vI a1, vI a2] s (fX3_benchOf a1 a2 s) := by
  refine ct_of (by decide) [some (vR 24), some (vI a1), some (vI a2)] rfl (Nat.le_of_ble_eq_true rfl) ?_
  unfold fX3_benchOf
  refine j_aload_n 1 dX3_benchOf_0 rfl rfl ?_
  refine j_iload_n 2 dX3_benchOf_1 rfl rfl ?_
  refine s_callVi (M2 := mX3_has) [vI a1] 5 oa24 cc3 mkX3_has w_875 dX3_benchOf_2 rfl rfl (tX3_has Θ l _  _) (by first | exact Nat.le_of_ble_eq_true rfl | omega) (Nat.le_of_ble_eq_true rfl) (Nat.le_of_ble_eq_true rfl) (fun r1 s2 => ?_)
  refine j_if_eq 32 8 dX3_benchOf_5 (by decide) rfl (fun c3 => ?_) (fun c3 => ?_)
  · refine j_bipush (v := (-9)) 34 dX3_benchOf_32 rfl (by decide) ?_
    exact s_iret dX3_benchOf_34 rfl
  · refine j_iload_n 9 dX3_benchOf_8 rfl rfl ?_
    refine j_if_lt 32 12 dX3_benchOf_9 (by decide) rfl (fun c4 => ?_) (fun c4 => ?_)
    · refine j_bipush (v := (-9)) 34 dX3_benchOf_32 rfl (by decide) ?_
      exact s_iret dX3_benchOf_34 rfl
    · refine j_iload_n 13 dX3_benchOf_12 rfl rfl ?_
      refine j_bipush (v := 7) 15 dX3_benchOf_13 rfl (by decide) ?_
      refine j_icmp_ge 32 18 dX3_benchOf_15 (by decide) rfl (fun c5 => ?_) (fun c5 => ?_)
      · refine j_aload_n 19 dX3_benchOf_18 rfl rfl ?_
        refine s_getR (x := 26) 22 fa24_1 w_250 dX3_benchOf_19 rfl (by decide +kernel) ?_
        refine j_iload_n 23 dX3_benchOf_22 rfl rfl ?_
        refine j_bipush (v := 7) 25 dX3_benchOf_23 rfl (by decide) ?_
        refine j_imul 26 dX3_benchOf_25 rfl ?_
        refine j_iload_n 27 dX3_benchOf_26 rfl rfl ?_
        refine j_iadd 28 dX3_benchOf_27 rfl ?_
        refine s_iaload 29 aa26 dX3_benchOf_28 rfl (fun b6 => ?_)
        refine j_goto 34 dX3_benchOf_29 (by decide) ?_
        exact s_iret dX3_benchOf_34 rfl
      · refine j_bipush (v := (-9)) 34 dX3_benchOf_32 rfl (by decide) ?_
        exact s_iret dX3_benchOf_34 rfl
-- X3_restore_6
def fX3_restore_6_L2  (κ : Mem → Option (Unit × Mem)) (y1 : Int32) : Nat → Int32 → Mem → Option (Unit × Mem)
  | 0, _, _ => none
  | k + 1, x3, s =>
    if x3 < (s.1 6 1) then
      bnd (fX3_benchOf y1 x3 s) (fun r2 s3 =>
      bnd (fX0_place x3 r2 s3) (fun r4 s5 =>
      fX3_restore_6_L2 κ y1 k (x3 + 1) s5))
    else
      κ s
def fX3_restore_6  (a1 : Int32) (s : Mem) : Option (Unit × Mem) :=
fX3_restore_6_L2 (fun s6 =>
  some ((), s6)) a1 FU 0 s
theorem tX3_restore_6_L2 (Θ : Th) (l : Launch)  (κ : Mem → Option (Unit × Mem)) (y1 : Int32)  (hκ : ∀  (s : Mem), Js Θ l mX3_restore 3 gU 27 [none, none, none, none] [] s (κ  s)) : ∀ (k : Nat) (x3 : Int32) (s : Mem), Js Θ l mX3_restore 3 gU 2 [some (vR 24), some (vI y1), some (vR 6), some (vI x3)] [] s (fX3_restore_6_L2 κ y1 k x3 s) := by
  intro k
  induction k with
  | zero => intro x3 s; exact j_none
  | succ k ih =>
    intro x3 s
    rw [fX3_restore_6_L2]
    refine j_iload_n 3 dX3_restore_2 rfl rfl ?_
    refine j_aload_n 4 dX3_restore_3 rfl rfl ?_
    refine s_getI 7 fa6_1 w_161 dX3_restore_4 rfl ?_
    refine j_icmp_ge 27 10 dX3_restore_7 (by decide) rfl (fun c1 => ?_) (fun c1 => ?_)
    · refine j_aload_n 11 dX3_restore_10 rfl rfl ?_
      refine j_iload_n 12 dX3_restore_11 rfl rfl ?_
      refine j_aload_n 13 dX3_restore_12 rfl rfl ?_
      refine j_iload_n 14 dX3_restore_13 rfl rfl ?_
      refine j_iload_n 15 dX3_restore_14 rfl rfl ?_
      refine s_callVi (M2 := mX3_benchOf) [vI y1, vI x3] 18 oa24 cc3 mkX3_benchOf w_871 dX3_restore_15 rfl rfl (tX3_benchOf Θ l _ _  _) (by first | exact Nat.le_of_ble_eq_true rfl | omega) (Nat.le_of_ble_eq_true rfl) (Nat.le_of_ble_eq_true rfl) (fun r2 s3 => ?_)
      refine s_callVu (M2 := mX0_place) [vI x3, vI r2] 21 oa6 cc0 mkX0_place w_876 dX3_restore_18 rfl rfl (tX0_place Θ l _ _  _) (by first | exact Nat.le_of_ble_eq_true rfl | omega) (Nat.le_of_ble_eq_true rfl) (Nat.le_of_ble_eq_true rfl) (fun r4 s5 => ?_)
      refine j_iinc (v := x3 + 1) (ls' := [some (vR 24), some (vI y1), some (vR 6), some (vI (x3 + 1))]) 24 dX3_restore_21 rfl rfl rfl (by decide) rfl rfl ?_
      refine j_goto 2 dX3_restore_24 (by decide) ?_
      refine j_sub (ls' := [some (vR 24), some (vI y1), some (vR 6), some (vI (x3 + 1))]) (And.intro rfl (And.intro rfl (And.intro rfl (And.intro rfl trivial)))) ?_
      exact ih (x3 + 1) s5
    · refine j_sub (ls' := [none, none, none, none]) (trivial) ?_
      exact hκ s
theorem tX3_restore_6 (Θ : Th) (l : Launch)  (a1 : Int32)  (s : Mem) : Cs Θ l mX3_restore 3 gU [vR 24, vI a1, vR 6] s (fX3_restore_6 a1 s) := by
  refine ct_of (by decide) [some (vR 24), some (vI a1), some (vR 6), none] rfl (Nat.le_of_ble_eq_true rfl) ?_
  unfold fX3_restore_6
  refine j_iconst (v := 0) 1 dX3_restore_0 rfl (by decide) ?_
  refine j_istore_n (i := 3) (ls' := [some (vR 24), some (vI a1), some (vR 6), some (vI 0)]) 2 dX3_restore_1 rfl rfl (by decide) rfl rfl ?_
  refine j_sub (ls' := [some (vR 24), some (vI a1), some (vR 6), some (vI 0)]) (And.intro rfl (And.intro rfl (And.intro rfl (And.intro rfl trivial)))) ?_
  refine tX3_restore_6_L2 Θ l _ _  ?_ _ _ _
  intro s6
  exact s_ret dX3_restore_27 rfl
-- X11_on
def fX11_on  (a1 : Int32) (s : Mem) : Option (Int32 × Mem) :=
bnd (fX11_isWithin a1 0 2 s) (fun r1 s2 =>
if r1 = 0 then
  some ((-1), s2)
else
  bnd (fX3_has a1 s2) (fun r4 s5 =>
  if r4 = 0 then
    bnd (fX10_found 1 s5) (fun r7 s8 =>
    some (r7, s8))
  else
    bnd (fX3_restore_6 a1 s5) (fun r9 s10 =>
    bnd (fX1_forgetAll s10) (fun r11 s12 =>
    bnd (fX0_seatedCount s12) (fun r13 s14 =>
    some (r13, s14))))))
theorem tX11_on (Θ : Th) (l : Launch)  (a1 : Int32)  (s : Mem) : Cs Θ l mX11_on 4 gI [vR 1, vI a1] s (fX11_on a1 s) := by
  refine ct_of (by decide) [some (vR 1), some (vI a1)] rfl (Nat.le_of_ble_eq_true rfl) ?_
  unfold fX11_on
  refine j_iload_n 1 dX11_on_0 rfl rfl ?_
  refine j_iconst (v := 0) 2 dX11_on_1 rfl (by decide) ?_
  refine j_iconst (v := 2) 3 dX11_on_2 rfl (by decide) ?_
  refine s_callSi (M2 := mX11_isWithin) [vI a1, vI 0, vI 2] 6 mkX11_isWithin (Or.inl w_678) dX11_on_3 rfl rfl (tX11_isWithin Θ l _ _ _  _) (by first | exact Nat.le_of_ble_eq_true rfl | omega) (Nat.le_of_ble_eq_true rfl) (Nat.le_of_ble_eq_true rfl) (fun r1 s2 => ?_)
  refine j_if_ne 11 9 dX11_on_6 (by decide) rfl (fun c3 => ?_) (fun c3 => ?_)
  · refine j_iconst (v := (-1)) 10 dX11_on_9 rfl (by decide) ?_
    exact s_iret dX11_on_10 rfl
  · refine j_aload_n 12 dX11_on_11 rfl rfl ?_
    refine s_getR (x := 24) 15 fa1_7 w_409 dX11_on_12 rfl (by decide +kernel) ?_
    refine j_iload_n 16 dX11_on_15 rfl rfl ?_
    refine s_callVi (M2 := mX3_has) [vI a1] 19 oa24 cc3 mkX3_has w_863 dX11_on_16 rfl rfl (tX3_has Θ l _  _) (by first | exact Nat.le_of_ble_eq_true rfl | omega) (Nat.le_of_ble_eq_true rfl) (Nat.le_of_ble_eq_true rfl) (fun r4 s5 => ?_)
    refine j_if_ne 31 22 dX11_on_19 (by decide) rfl (fun c6 => ?_) (fun c6 => ?_)
    · refine j_aload_n 23 dX11_on_22 rfl rfl ?_
      refine s_getR (x := 2) 26 fa1_0 w_402 dX11_on_23 rfl (by decide +kernel) ?_
      refine j_iconst (v := 1) 27 dX11_on_26 rfl (by decide) ?_
      refine s_callVi (M2 := mX10_found) [vI 1] 30 oa2 cc10 mkX10_found w_444 dX11_on_27 rfl rfl (tX10_found Θ l _  _) (by first | exact Nat.le_of_ble_eq_true rfl | omega) (Nat.le_of_ble_eq_true rfl) (Nat.le_of_ble_eq_true rfl) (fun r7 s8 => ?_)
      exact s_iret dX11_on_30 rfl
    · refine j_aload_n 32 dX11_on_31 rfl rfl ?_
      refine s_getR (x := 24) 35 fa1_7 w_409 dX11_on_32 rfl (by decide +kernel) ?_
      refine j_iload_n 36 dX11_on_35 rfl rfl ?_
      refine j_aload_n 37 dX11_on_36 rfl rfl ?_
      refine s_getR (x := 6) 40 fa1_3 w_405 dX11_on_37 rfl (by decide +kernel) ?_
      refine s_callVu (M2 := mX3_restore) [vI a1, vR 6] 43 oa24 cc3 mkX3_restore w_867 dX11_on_40 rfl rfl (tX3_restore_6 Θ l _  _) (by first | exact Nat.le_of_ble_eq_true rfl | omega) (Nat.le_of_ble_eq_true rfl) (Nat.le_of_ble_eq_true rfl) (fun r9 s10 => ?_)
      refine j_aload_n 44 dX11_on_43 rfl rfl ?_
      refine s_getR (x := 20) 47 fa1_6 w_408 dX11_on_44 rfl (by decide +kernel) ?_
      refine s_callVu (M2 := mX1_forgetAll) [] 50 oa20 cc1 mkX1_forgetAll w_646 dX11_on_47 rfl rfl (tX1_forgetAll Θ l   _) (by first | exact Nat.le_of_ble_eq_true rfl | omega) (Nat.le_of_ble_eq_true rfl) (Nat.le_of_ble_eq_true rfl) (fun r11 s12 => ?_)
      refine j_aload_n 51 dX11_on_50 rfl rfl ?_
      refine s_getR (x := 6) 54 fa1_3 w_405 dX11_on_51 rfl (by decide +kernel) ?_
      refine s_callVi (M2 := mX0_seatedCount) [] 57 oa6 cc0 mkX0_seatedCount w_854 dX11_on_54 rfl rfl (tX0_seatedCount Θ l   _) (by first | exact Nat.le_of_ble_eq_true rfl | omega) (Nat.le_of_ble_eq_true rfl) (Nat.le_of_ble_eq_true rfl) (fun r13 s14 => ?_)
      exact s_iret dX11_on_57 rfl
-- X0_dryListIn
def fX0_dryListIn_L4  (κ : Int32 → Mem → Option (Int32 × Mem)) (y1 : Int32) : Nat → Int32 → Int32 → Mem → Option (Int32 × Mem)
  | 0, _, _, _ => none
  | k + 1, x2, x3, s =>
    if x3 < (s.1 6 1) then
      if inb x3 7 = true then
      bnd (fX0_momentOf x3 (s.1 16 (ix x3)) y1 s) (fun r3 s4 =>
      nm (x2 + r3) (fun v5 =>
      fX0_dryListIn_L4 κ y1 k v5 (x3 + 1) s4))
      else none
    else
      κ x2 s
def fX0_dryListIn  (a1 : Int32) (s : Mem) : Option (Int32 × Mem) :=
fX0_dryListIn_L4 (fun v6 s7 =>
  some (v6, s7)) a1 FU 0 0 s
theorem tX0_dryListIn_L4 (Θ : Th) (l : Launch)  (κ : Int32 → Mem → Option (Int32 × Mem)) (y1 : Int32)  (hκ : ∀ (x2 : Int32) (s : Mem), Js Θ l mX0_dryListIn 3 gI 33 [none, none, some (vI x2), none] [] s (κ x2 s)) : ∀ (k : Nat) (x2 : Int32) (x3 : Int32) (s : Mem), Js Θ l mX0_dryListIn 3 gI 4 [some (vR 6), some (vI y1), some (vI x2), some (vI x3)] [] s (fX0_dryListIn_L4 κ y1 k x2 x3 s) := by
  intro k
  induction k with
  | zero => intro x2 x3 s; exact j_none
  | succ k ih =>
    intro x2 x3 s
    rw [fX0_dryListIn_L4]
    refine j_iload_n 5 dX0_dryListIn_4 rfl rfl ?_
    refine j_aload_n 6 dX0_dryListIn_5 rfl rfl ?_
    refine s_getI 9 fa6_1 w_160 dX0_dryListIn_6 rfl ?_
    refine j_icmp_ge 33 12 dX0_dryListIn_9 (by decide) rfl (fun c1 => ?_) (fun c1 => ?_)
    · refine j_iload_n 13 dX0_dryListIn_12 rfl rfl ?_
      refine j_aload_n 14 dX0_dryListIn_13 rfl rfl ?_
      refine j_iload_n 15 dX0_dryListIn_14 rfl rfl ?_
      refine j_aload_n 16 dX0_dryListIn_15 rfl rfl ?_
      refine s_getR (x := 16) 19 fa6_10 w_176 dX0_dryListIn_16 rfl (by decide +kernel) ?_
      refine j_iload_n 20 dX0_dryListIn_19 rfl rfl ?_
      refine s_iaload 21 aa16 dX0_dryListIn_20 rfl (fun b2 => ?_)
      refine j_iload_n 22 dX0_dryListIn_21 rfl rfl ?_
      refine s_callVi (M2 := mX0_momentOf) [vI x3, vI (s.1 16 (ix x3)), vI y1] 25 oa6 cc0 mkX0_momentOf w_890 dX0_dryListIn_22 rfl rfl (tX0_momentOf Θ l _ _ _  _) (by first | exact Nat.le_of_ble_eq_true rfl | omega) (Nat.le_of_ble_eq_true rfl) (Nat.le_of_ble_eq_true rfl) (fun r3 s4 => ?_)
      refine j_iadd 26 dX0_dryListIn_25 rfl ?_
      refine s_nmI (fun v5 => ?_)
      refine j_istore_n (i := 2) (ls' := [some (vR 6), some (vI y1), some (vI v5), some (vI x3)]) 27 dX0_dryListIn_26 rfl rfl (by decide) rfl rfl ?_
      refine j_iinc (v := x3 + 1) (ls' := [some (vR 6), some (vI y1), some (vI v5), some (vI (x3 + 1))]) 30 dX0_dryListIn_27 rfl rfl rfl (by decide) rfl rfl ?_
      refine j_goto 4 dX0_dryListIn_30 (by decide) ?_
      refine j_sub (ls' := [some (vR 6), some (vI y1), some (vI v5), some (vI (x3 + 1))]) (And.intro rfl (And.intro rfl (And.intro rfl (And.intro rfl trivial)))) ?_
      exact ih v5 (x3 + 1) s4
    · refine j_sub (ls' := [none, none, some (vI x2), none]) (And.intro rfl trivial) ?_
      exact hκ x2 s
theorem tX0_dryListIn (Θ : Th) (l : Launch)  (a1 : Int32)  (s : Mem) : Cs Θ l mX0_dryListIn 3 gI [vR 6, vI a1] s (fX0_dryListIn a1 s) := by
  refine ct_of (by decide) [some (vR 6), some (vI a1), none, none] rfl (Nat.le_of_ble_eq_true rfl) ?_
  unfold fX0_dryListIn
  refine j_iconst (v := 0) 1 dX0_dryListIn_0 rfl (by decide) ?_
  refine j_istore_n (i := 2) (ls' := [some (vR 6), some (vI a1), some (vI 0), none]) 2 dX0_dryListIn_1 rfl rfl (by decide) rfl rfl ?_
  refine j_iconst (v := 0) 3 dX0_dryListIn_2 rfl (by decide) ?_
  refine j_istore_n (i := 3) (ls' := [some (vR 6), some (vI a1), some (vI 0), some (vI 0)]) 4 dX0_dryListIn_3 rfl rfl (by decide) rfl rfl ?_
  refine j_sub (ls' := [some (vR 6), some (vI a1), some (vI 0), some (vI 0)]) (And.intro rfl (And.intro rfl (And.intro rfl (And.intro rfl trivial)))) ?_
  refine tX0_dryListIn_L4 Θ l _ _  ?_ _ _ _ _
  intro v6 s7
  refine j_iload_n 34 dX0_dryListIn_33 rfl rfl ?_
  exact s_iret dX0_dryListIn_34 rfl
-- X0_listIn
def fX0_listIn  (a1 : Int32) (s : Mem) : Option (Int32 × Mem) :=
bnd (fX0_dryListIn a1 s) (fun r1 s2 =>
some (r1 + (s2.1 6 3), s2))
theorem tX0_listIn (Θ : Th) (l : Launch)  (a1 : Int32)  (s : Mem) : Cs Θ l mX0_listIn 4 gI [vR 6, vI a1] s (fX0_listIn a1 s) := by
  refine ct_of (by decide) [some (vR 6), some (vI a1)] rfl (Nat.le_of_ble_eq_true rfl) ?_
  unfold fX0_listIn
  refine j_aload_n 1 dX0_listIn_0 rfl rfl ?_
  refine j_iload_n 2 dX0_listIn_1 rfl rfl ?_
  refine s_callVi (M2 := mX0_dryListIn) [vI a1] 5 oa6 cc0 mkX0_dryListIn w_886 dX0_listIn_2 rfl rfl (tX0_dryListIn Θ l _  _) (by first | exact Nat.le_of_ble_eq_true rfl | omega) (Nat.le_of_ble_eq_true rfl) (Nat.le_of_ble_eq_true rfl) (fun r1 s2 => ?_)
  refine j_aload_n 6 dX0_listIn_5 rfl rfl ?_
  refine s_getI 9 fa6_3 w_165 dX0_listIn_6 rfl ?_
  refine j_iadd 10 dX0_listIn_9 rfl ?_
  exact s_iret dX0_listIn_10 rfl
-- X0_isLevel
def fX0_isLevel  (a1 : Int32) (s : Mem) : Option (Int32 × Mem) :=
if (s.1 6 2) < (ab a1) then
  some (0, s)
else
  some (1, s)
theorem tX0_isLevel (Θ : Th) (l : Launch)  (a1 : Int32)  (s : Mem) : Cs Θ l mX0_isLevel 2 gI [vR 6, vI a1] s (fX0_isLevel a1 s) := by
  refine ct_of (by decide) [some (vR 6), some (vI a1)] rfl (Nat.le_of_ble_eq_true rfl) ?_
  unfold fX0_isLevel
  refine j_iload_n 1 dX0_isLevel_0 rfl rfl ?_
  refine s_mabs 4 dX0_isLevel_1 rfl wm_614 wt_abs wi_math wc_abs (by first | exact Nat.le_of_ble_eq_true rfl | omega) (Nat.le_of_ble_eq_true rfl) ?_
  refine j_aload_n 5 dX0_isLevel_4 rfl rfl ?_
  refine s_getI 8 fa6_2 w_163 dX0_isLevel_5 rfl ?_
  refine j_icmp_gt 15 11 dX0_isLevel_8 (by decide) rfl (fun c1 => ?_) (fun c1 => ?_)
  · refine j_iconst (v := 0) 16 dX0_isLevel_15 rfl (by decide) ?_
    exact s_zret dX0_isLevel_16 rfl (by decide)
  · refine j_iconst (v := 1) 12 dX0_isLevel_11 rfl (by decide) ?_
    refine j_goto 16 dX0_isLevel_12 (by decide) ?_
    exact s_zret dX0_isLevel_16 rfl (by decide)
-- X11_list
def fX11_list  (a1 : Int32) (s : Mem) : Option (Int32 × Mem) :=
bnd (fX11_isPosture a1 s) (fun r1 s2 =>
if r1 = 0 then
  some ((-1), s2)
else
  bnd (fX0_listIn a1 s2) (fun r4 s5 =>
  bnd (fX10_tell r4 s5) (fun r6 s7 =>
  bnd (fX0_isLevel r4 s7) (fun r8 s9 =>
  if r8 = 0 then
    some (0, s9)
  else
    some (1, s9)))))
theorem tX11_list (Θ : Th) (l : Launch)  (a1 : Int32)  (s : Mem) : Cs Θ l mX11_list 5 gI [vR 1, vI a1] s (fX11_list a1 s) := by
  refine ct_of (by decide) [some (vR 1), some (vI a1), none] rfl (Nat.le_of_ble_eq_true rfl) ?_
  unfold fX11_list
  refine j_iload_n 1 dX11_list_0 rfl rfl ?_
  refine s_callSi (M2 := mX11_isPosture) [vI a1] 4 mkX11_isPosture (Or.inl w_881) dX11_list_1 rfl rfl (tX11_isPosture Θ l _  _) (by first | exact Nat.le_of_ble_eq_true rfl | omega) (Nat.le_of_ble_eq_true rfl) (Nat.le_of_ble_eq_true rfl) (fun r1 s2 => ?_)
  refine j_if_ne 9 7 dX11_list_4 (by decide) rfl (fun c3 => ?_) (fun c3 => ?_)
  · refine j_iconst (v := (-1)) 8 dX11_list_7 rfl (by decide) ?_
    exact s_iret dX11_list_8 rfl
  · refine j_aload_n 10 dX11_list_9 rfl rfl ?_
    refine s_getR (x := 6) 13 fa1_3 w_405 dX11_list_10 rfl (by decide +kernel) ?_
    refine j_iload_n 14 dX11_list_13 rfl rfl ?_
    refine s_callVi (M2 := mX0_listIn) [vI a1] 17 oa6 cc0 mkX0_listIn w_882 dX11_list_14 rfl rfl (tX0_listIn Θ l _  _) (by first | exact Nat.le_of_ble_eq_true rfl | omega) (Nat.le_of_ble_eq_true rfl) (Nat.le_of_ble_eq_true rfl) (fun r4 s5 => ?_)
    refine j_istore_n (i := 2) (ls' := [some (vR 1), some (vI a1), some (vI r4)]) 18 dX11_list_17 rfl rfl (by decide) rfl rfl ?_
    refine j_aload_n 19 dX11_list_18 rfl rfl ?_
    refine s_getR (x := 2) 22 fa1_0 w_402 dX11_list_19 rfl (by decide +kernel) ?_
    refine j_iload_n 23 dX11_list_22 rfl rfl ?_
    refine s_callVu (M2 := mX10_tell) [vI r4] 26 oa2 cc10 mkX10_tell w_479 dX11_list_23 rfl rfl (tX10_tell Θ l _  _) (by first | exact Nat.le_of_ble_eq_true rfl | omega) (Nat.le_of_ble_eq_true rfl) (Nat.le_of_ble_eq_true rfl) (fun r6 s7 => ?_)
    refine j_aload_n 27 dX11_list_26 rfl rfl ?_
    refine s_getR (x := 6) 30 fa1_3 w_405 dX11_list_27 rfl (by decide +kernel) ?_
    refine j_iload_n 31 dX11_list_30 rfl rfl ?_
    refine s_callVi (M2 := mX0_isLevel) [vI r4] 34 oa6 cc0 mkX0_isLevel w_891 dX11_list_31 rfl rfl (tX0_isLevel Θ l _  _) (by first | exact Nat.le_of_ble_eq_true rfl | omega) (Nat.le_of_ble_eq_true rfl) (Nat.le_of_ble_eq_true rfl) (fun r8 s9 => ?_)
    refine j_if_eq 41 37 dX11_list_34 (by decide) rfl (fun c10 => ?_) (fun c10 => ?_)
    · refine j_iconst (v := 0) 42 dX11_list_41 rfl (by decide) ?_
      exact s_iret dX11_list_42 rfl
    · refine j_iconst (v := 1) 38 dX11_list_37 rfl (by decide) ?_
      refine j_goto 42 dX11_list_38 (by decide) ?_
      exact s_iret dX11_list_42 rfl
-- X6_postureIn
def fX6_postureIn  (a1 : Int32) (s : Mem) : Option (Int32 × Mem) :=
if a1 < 0 then
  some (0, s)
else
  if a1 < (s.1 18 0) then
    if inb a1 40 = true then
    some (s.1 19 (ix a1), s)
    else none
  else
    some (0, s)
theorem tX6_postureIn (Θ : Th) (l : Launch)  (a1 : Int32)  (s : Mem) : Cs Θ l mX6_postureIn 1 gI [vR 18, vI a1] s (fX6_postureIn a1 s) := by
  refine ct_of (by decide) [some (vR 18), some (vI a1)] rfl (Nat.le_of_ble_eq_true rfl) ?_
  unfold fX6_postureIn
  refine j_iload_n 1 dX6_postureIn_0 rfl rfl ?_
  refine j_if_lt 21 4 dX6_postureIn_1 (by decide) rfl (fun c1 => ?_) (fun c1 => ?_)
  · refine j_iconst (v := 0) 22 dX6_postureIn_21 rfl (by decide) ?_
    exact s_iret dX6_postureIn_22 rfl
  · refine j_iload_n 5 dX6_postureIn_4 rfl rfl ?_
    refine j_aload_n 6 dX6_postureIn_5 rfl rfl ?_
    refine s_getI 9 fa18_0 w_212 dX6_postureIn_6 rfl ?_
    refine j_icmp_ge 21 12 dX6_postureIn_9 (by decide) rfl (fun c2 => ?_) (fun c2 => ?_)
    · refine j_aload_n 13 dX6_postureIn_12 rfl rfl ?_
      refine s_getR (x := 19) 16 fa18_1 w_214 dX6_postureIn_13 rfl (by decide +kernel) ?_
      refine j_iload_n 17 dX6_postureIn_16 rfl rfl ?_
      refine s_iaload 18 aa19 dX6_postureIn_17 rfl (fun b3 => ?_)
      refine j_goto 22 dX6_postureIn_18 (by decide) ?_
      exact s_iret dX6_postureIn_22 rfl
    · refine j_iconst (v := 0) 22 dX6_postureIn_21 rfl (by decide) ?_
      exact s_iret dX6_postureIn_22 rfl
-- X11_when
def fX11_when_L2  (κ : Mem → Option (Int32 × Mem))  : Nat → Int32 → Mem → Option (Int32 × Mem)
  | 0, _, _ => none
  | k + 1, x1, s =>
    if x1 < (s.1 18 0) then
      bnd (fX6_postureIn x1 s) (fun r2 s3 =>
      bnd (fX0_listIn r2 s3) (fun r4 s5 =>
      bnd (fX0_isLevel r4 s5) (fun r6 s7 =>
      if r6 = 0 then
        bnd (fX10_tell r4 s7) (fun r9 s10 =>
        some (x1, s10))
      else
        fX11_when_L2 κ k (x1 + 1) s7)))
    else
      κ s
def fX11_when   (s : Mem) : Option (Int32 × Mem) :=
fX11_when_L2 (fun s11 =>
  some ((-9), s11))  FU 0 s
theorem tX11_when_L2 (Θ : Th) (l : Launch)  (κ : Mem → Option (Int32 × Mem))   (hκ : ∀  (s : Mem), Js Θ l mX11_when 5 gI 56 [none, none, none] [] s (κ  s)) : ∀ (k : Nat) (x1 : Int32) (s : Mem), Js Θ l mX11_when 5 gI 2 [some (vR 1), some (vI x1), none] [] s (fX11_when_L2 κ  k x1 s) := by
  intro k
  induction k with
  | zero => intro x1 s; exact j_none
  | succ k ih =>
    intro x1 s
    rw [fX11_when_L2]
    refine j_iload_n 3 dX11_when_2 rfl rfl ?_
    refine j_aload_n 4 dX11_when_3 rfl rfl ?_
    refine s_getR (x := 18) 7 fa1_5 w_407 dX11_when_4 rfl (by decide +kernel) ?_
    refine s_getI 10 fa18_0 w_213 dX11_when_7 rfl ?_
    refine j_icmp_ge 56 13 dX11_when_10 (by decide) rfl (fun c1 => ?_) (fun c1 => ?_)
    · refine j_aload_n 14 dX11_when_13 rfl rfl ?_
      refine s_getR (x := 6) 17 fa1_3 w_405 dX11_when_14 rfl (by decide +kernel) ?_
      refine j_aload_n 18 dX11_when_17 rfl rfl ?_
      refine s_getR (x := 18) 21 fa1_5 w_407 dX11_when_18 rfl (by decide +kernel) ?_
      refine j_iload_n 22 dX11_when_21 rfl rfl ?_
      refine s_callVi (M2 := mX6_postureIn) [vI x1] 25 oa18 cc6 mkX6_postureIn w_899 dX11_when_22 rfl rfl (tX6_postureIn Θ l _  _) (by first | exact Nat.le_of_ble_eq_true rfl | omega) (Nat.le_of_ble_eq_true rfl) (Nat.le_of_ble_eq_true rfl) (fun r2 s3 => ?_)
      refine s_callVi (M2 := mX0_listIn) [vI r2] 28 oa6 cc0 mkX0_listIn w_882 dX11_when_25 rfl rfl (tX0_listIn Θ l _  _) (by first | exact Nat.le_of_ble_eq_true rfl | omega) (Nat.le_of_ble_eq_true rfl) (Nat.le_of_ble_eq_true rfl) (fun r4 s5 => ?_)
      refine j_istore_n (i := 2) (ls' := [some (vR 1), some (vI x1), some (vI r4)]) 29 dX11_when_28 rfl rfl (by decide) rfl rfl ?_
      refine j_aload_n 30 dX11_when_29 rfl rfl ?_
      refine s_getR (x := 6) 33 fa1_3 w_405 dX11_when_30 rfl (by decide +kernel) ?_
      refine j_iload_n 34 dX11_when_33 rfl rfl ?_
      refine s_callVi (M2 := mX0_isLevel) [vI r4] 37 oa6 cc0 mkX0_isLevel w_891 dX11_when_34 rfl rfl (tX0_isLevel Θ l _  _) (by first | exact Nat.le_of_ble_eq_true rfl | omega) (Nat.le_of_ble_eq_true rfl) (Nat.le_of_ble_eq_true rfl) (fun r6 s7 => ?_)
      refine j_if_ne 50 40 dX11_when_37 (by decide) rfl (fun c8 => ?_) (fun c8 => ?_)
      · refine j_aload_n 41 dX11_when_40 rfl rfl ?_
        refine s_getR (x := 2) 44 fa1_0 w_402 dX11_when_41 rfl (by decide +kernel) ?_
        refine j_iload_n 45 dX11_when_44 rfl rfl ?_
        refine s_callVu (M2 := mX10_tell) [vI r4] 48 oa2 cc10 mkX10_tell w_479 dX11_when_45 rfl rfl (tX10_tell Θ l _  _) (by first | exact Nat.le_of_ble_eq_true rfl | omega) (Nat.le_of_ble_eq_true rfl) (Nat.le_of_ble_eq_true rfl) (fun r9 s10 => ?_)
        refine j_iload_n 49 dX11_when_48 rfl rfl ?_
        exact s_iret dX11_when_49 rfl
      · refine j_iinc (v := x1 + 1) (ls' := [some (vR 1), some (vI (x1 + 1)), some (vI r4)]) 53 dX11_when_50 rfl rfl rfl (by decide) rfl rfl ?_
        refine j_goto 2 dX11_when_53 (by decide) ?_
        refine j_sub (ls' := [some (vR 1), some (vI (x1 + 1)), none]) (And.intro rfl (And.intro rfl trivial)) ?_
        exact ih (x1 + 1) s7
    · refine j_sub (ls' := [none, none, none]) (trivial) ?_
      exact hκ s
theorem tX11_when (Θ : Th) (l : Launch)    (s : Mem) : Cs Θ l mX11_when 5 gI [vR 1] s (fX11_when  s) := by
  refine ct_of (by decide) [some (vR 1), none, none] rfl (Nat.le_of_ble_eq_true rfl) ?_
  unfold fX11_when
  refine j_iconst (v := 0) 1 dX11_when_0 rfl (by decide) ?_
  refine j_istore_n (i := 1) (ls' := [some (vR 1), some (vI 0), none]) 2 dX11_when_1 rfl rfl (by decide) rfl rfl ?_
  refine j_sub (ls' := [some (vR 1), some (vI 0), none]) (And.intro rfl (And.intro rfl trivial)) ?_
  refine tX11_when_L2 Θ l _   ?_ _ _ _
  intro s11
  refine j_bipush (v := (-9)) 58 dX11_when_56 rfl (by decide) ?_
  exact s_iret dX11_when_58 rfl
-- X10_greatestDivisor
def fX10_greatestDivisor_L7  (κ : Int32 → Mem → Option (Int32 × Mem))  : Nat → Int32 → Int32 → Int32 → Mem → Option (Int32 × Mem)
  | 0, _, _, _, _ => none
  | k + 1, x2, x3, x4, s =>
    if x4 < 64 then
      if x3 = 0 then
        κ x2 s
      else
        if x3 = 0 then none else
        nm (x2 - x2 / x3 * x3) (fun v3 =>
        fX10_greatestDivisor_L7 κ k x3 v3 (x4 + 1) s)
    else
      κ x2 s
def fX10_greatestDivisor  (a0 : Int32) (a1 : Int32) (s : Mem) : Option (Int32 × Mem) :=
fX10_greatestDivisor_L7 (fun v4 s5 =>
  some (v4, s5))  FU a0 a1 0 s
theorem tX10_greatestDivisor_L7 (Θ : Th) (l : Launch)  (κ : Int32 → Mem → Option (Int32 × Mem))   (hκ : ∀ (x2 : Int32) (s : Mem), Js Θ l mX10_greatestDivisor 1 gI 34 [none, none, some (vI x2), none, none, none] [] s (κ x2 s)) : ∀ (k : Nat) (x2 : Int32) (x3 : Int32) (x4 : Int32) (s : Mem), Js Θ l mX10_greatestDivisor 1 gI 7 [none, none, some (vI x2), some (vI x3), some (vI x4), none] [] s (fX10_greatestDivisor_L7 κ  k x2 x3 x4 s) := by
  intro k
  induction k with
  | zero => intro x2 x3 x4 s; exact j_none
  | succ k ih =>
    intro x2 x3 x4 s
    rw [fX10_greatestDivisor_L7]
    refine j_iload 9 dX10_greatestDivisor_7 rfl rfl ?_
    refine j_bipush (v := 64) 11 dX10_greatestDivisor_9 rfl (by decide) ?_
    refine j_icmp_ge 34 14 dX10_greatestDivisor_11 (by decide) rfl (fun c1 => ?_) (fun c1 => ?_)
    · refine j_iload_n 15 dX10_greatestDivisor_14 rfl rfl ?_
      refine j_if_eq 34 18 dX10_greatestDivisor_15 (by decide) rfl (fun c2 => ?_) (fun c2 => ?_)
      · refine j_sub (ls' := [none, none, some (vI x2), none, none, none]) (And.intro rfl trivial) ?_
        exact hκ x2 s
      · refine j_iload_n 19 dX10_greatestDivisor_18 rfl rfl ?_
        refine j_iload_n 20 dX10_greatestDivisor_19 rfl rfl ?_
        refine j_irem 21 dX10_greatestDivisor_20 rfl (fun _ => ?_)
        refine s_nmI (fun v3 => ?_)
        refine j_istore (i := 5) (ls' := [none, none, some (vI x2), some (vI x3), some (vI x4), some (vI v3)]) 23 dX10_greatestDivisor_21 rfl (by decide) rfl rfl ?_
        refine j_iload_n 24 dX10_greatestDivisor_23 rfl rfl ?_
        refine j_istore_n (i := 2) (ls' := [none, none, some (vI x3), some (vI x3), some (vI x4), some (vI v3)]) 25 dX10_greatestDivisor_24 rfl rfl (by decide) rfl rfl ?_
        refine j_iload 27 dX10_greatestDivisor_25 rfl rfl ?_
        refine j_istore_n (i := 3) (ls' := [none, none, some (vI x3), some (vI v3), some (vI x4), some (vI v3)]) 28 dX10_greatestDivisor_27 rfl rfl (by decide) rfl rfl ?_
        refine j_iinc (v := x4 + 1) (ls' := [none, none, some (vI x3), some (vI v3), some (vI (x4 + 1)), some (vI v3)]) 31 dX10_greatestDivisor_28 rfl rfl rfl (by decide) rfl rfl ?_
        refine j_goto 7 dX10_greatestDivisor_31 (by decide) ?_
        refine j_sub (ls' := [none, none, some (vI x3), some (vI v3), some (vI (x4 + 1)), none]) (And.intro rfl (And.intro rfl (And.intro rfl trivial))) ?_
        exact ih x3 v3 (x4 + 1) s
    · refine j_sub (ls' := [none, none, some (vI x2), none, none, none]) (And.intro rfl trivial) ?_
      exact hκ x2 s
theorem tX10_greatestDivisor (Θ : Th) (l : Launch)  (a0 : Int32) (a1 : Int32)  (s : Mem) : Cs Θ l mX10_greatestDivisor 1 gI [vI a0, vI a1] s (fX10_greatestDivisor a0 a1 s) := by
  refine ct_of (by decide) [some (vI a0), some (vI a1), none, none, none, none] rfl (Nat.le_of_ble_eq_true rfl) ?_
  unfold fX10_greatestDivisor
  refine j_iload_n 1 dX10_greatestDivisor_0 rfl rfl ?_
  refine j_istore_n (i := 2) (ls' := [some (vI a0), some (vI a1), some (vI a0), none, none, none]) 2 dX10_greatestDivisor_1 rfl rfl (by decide) rfl rfl ?_
  refine j_iload_n 3 dX10_greatestDivisor_2 rfl rfl ?_
  refine j_istore_n (i := 3) (ls' := [some (vI a0), some (vI a1), some (vI a0), some (vI a1), none, none]) 4 dX10_greatestDivisor_3 rfl rfl (by decide) rfl rfl ?_
  refine j_iconst (v := 0) 5 dX10_greatestDivisor_4 rfl (by decide) ?_
  refine j_istore (i := 4) (ls' := [some (vI a0), some (vI a1), some (vI a0), some (vI a1), some (vI 0), none]) 7 dX10_greatestDivisor_5 rfl (by decide) rfl rfl ?_
  refine j_sub (ls' := [none, none, some (vI a0), some (vI a1), some (vI 0), none]) (And.intro rfl (And.intro rfl (And.intro rfl trivial))) ?_
  refine tX10_greatestDivisor_L7 Θ l _   ?_ _ _ _ _ _
  intro v4 s5
  refine j_iload_n 35 dX10_greatestDivisor_34 rfl rfl ?_
  exact s_iret dX10_greatestDivisor_35 rfl
