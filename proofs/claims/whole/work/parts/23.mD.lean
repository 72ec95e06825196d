-- X2_tryCousin
def fX2_tryCousin_L51 (rec : Int32 → Int32 → Int32 → Mem → Option (Unit × Mem)) (κ : Mem → Option (Unit × Mem)) (y1 : Int32) (y2 : Int32) (y3 : Int32) : Nat → Int32 → Mem → Option (Unit × Mem)
  | 0, _, _ => none
  | k + 1, x4, s =>
    if x4 < (s.1 6 0) then
      bnd (fX0_seatsTaken x4 s) (fun r5 s6 =>
      if inb x4 8 = true then
      if (r5 + (s6.1 45 (ix x4))) < 2 then
        bnd (fX2_seatCousin rec y1 x4 y2 y3 s6) (fun r9 s10 =>
        fX2_tryCousin_L51 rec κ y1 y2 y3 k (x4 + 1) s10)
      else
        fX2_tryCousin_L51 rec κ y1 y2 y3 k (x4 + 1) s6
      else none)
    else
      κ s
def fX2_tryCousin_B (rec : Int32 → Int32 → Int32 → Mem → Option (Unit × Mem)) (a1 : Int32) (a2 : Int32) (a3 : Int32) (s : Mem) : Option (Unit × Mem) :=
if (s.1 42 1) = (-9) then
  if a1 < (s.1 42 0) then
    if a1 < 4 then
      fX2_tryCousin_L51 rec (fun s11 =>
        if inb a1 4 = true then
        bnd (rec (a1 + 1) a2 a3 (wI s11 44 (ix a1) (-9))) (fun r13 s14 =>
        some ((), s14))
        else none) a1 a2 a3 FU 0 s
    else
      bnd (fX0_isLevel a2 s) (fun r15 s16 =>
      if r15 = 0 then
        some ((), s16)
      else
        bnd (fX2_noteCheaper a3 s16) (fun r18 s19 =>
        some ((), s19)))
  else
    bnd (fX0_isLevel a2 s) (fun r20 s21 =>
    if r20 = 0 then
      some ((), s21)
    else
      bnd (fX2_noteCheaper a3 s21) (fun r23 s24 =>
      some ((), s24)))
else
  if a3 < (s.1 42 1) then
    if a1 < (s.1 42 0) then
      if a1 < 4 then
        fX2_tryCousin_L51 rec (fun s28 =>
          if inb a1 4 = true then
          bnd (rec (a1 + 1) a2 a3 (wI s28 44 (ix a1) (-9))) (fun r30 s31 =>
          some ((), s31))
          else none) a1 a2 a3 FU 0 s
      else
        bnd (fX0_isLevel a2 s) (fun r32 s33 =>
        if r32 = 0 then
          some ((), s33)
        else
          bnd (fX2_noteCheaper a3 s33) (fun r35 s36 =>
          some ((), s36)))
    else
      bnd (fX0_isLevel a2 s) (fun r37 s38 =>
      if r37 = 0 then
        some ((), s38)
      else
        bnd (fX2_noteCheaper a3 s38) (fun r40 s41 =>
        some ((), s41)))
  else
    some ((), s)
theorem tX2_tryCousin_L51 (Θ : Th) (l : Launch) (rec : Int32 → Int32 → Int32 → Mem → Option (Unit × Mem)) (κ : Mem → Option (Unit × Mem)) (y1 : Int32) (y2 : Int32) (y3 : Int32)  {hr : Nat} (hr9 : 9 ≤ hr) (hrec : ∀ (a1 : Int32) (a2 : Int32) (a3 : Int32) (s : Mem), Cs Θ l mX2_tryCousin hr gU [vR 42, vI a1, vI a2, vI a3] s (rec a1 a2 a3 s)) (hκ : ∀  (s : Mem), Js Θ l mX2_tryCousin (hr + 2) gU 99 [some (vR 42), some (vI y1), some (vI y2), some (vI y3), none] [] s (κ  s)) : ∀ (k : Nat) (x4 : Int32) (s : Mem), Js Θ l mX2_tryCousin (hr + 2) gU 51 [some (vR 42), some (vI y1), some (vI y2), some (vI y3), some (vI x4)] [] s (fX2_tryCousin_L51 rec κ y1 y2 y3 k x4 s) := by
  intro k
  induction k with
  | zero => intro x4 s; exact j_none
  | succ k ih =>
    intro x4 s
    rw [fX2_tryCousin_L51]
    refine j_iload 53 dX2_tryCousin_51 rfl rfl ?_
    refine j_aload_n 54 dX2_tryCousin_53 rfl rfl ?_
    refine s_getR (x := 6) 57 fa42_3 w_350 dX2_tryCousin_54 rfl (by decide +kernel) ?_
    refine s_getI 60 fa6_0 w_157 dX2_tryCousin_57 rfl ?_
    refine j_icmp_ge 99 63 dX2_tryCousin_60 (by decide) rfl (fun c4 => ?_) (fun c4 => ?_)
    · refine j_aload_n 64 dX2_tryCousin_63 rfl rfl ?_
      refine s_getR (x := 6) 67 fa42_3 w_350 dX2_tryCousin_64 rfl (by decide +kernel) ?_
      refine j_iload 69 dX2_tryCousin_67 rfl rfl ?_
      refine s_callVi (M2 := mX0_seatsTaken) [vI x4] 72 oa6 cc0 mkX0_seatsTaken w_1081 dX2_tryCousin_69 rfl rfl (tX0_seatsTaken Θ l _  _) (by first | exact Nat.le_of_ble_eq_true rfl | omega) (Nat.le_of_ble_eq_true rfl) (Nat.le_of_ble_eq_true rfl) (fun r5 s6 => ?_)
      refine j_aload_n 73 dX2_tryCousin_72 rfl rfl ?_
      refine s_getR (x := 45) 76 fa42_5 w_352 dX2_tryCousin_73 rfl (by decide +kernel) ?_
      refine j_iload 78 dX2_tryCousin_76 rfl rfl ?_
      refine s_iaload 79 aa45 dX2_tryCousin_78 rfl (fun b7 => ?_)
      refine j_iadd 80 dX2_tryCousin_79 rfl ?_
      refine j_iconst (v := 2) 81 dX2_tryCousin_80 rfl (by decide) ?_
      refine j_icmp_ge 93 84 dX2_tryCousin_81 (by decide) rfl (fun c8 => ?_) (fun c8 => ?_)
      · refine j_aload_n 85 dX2_tryCousin_84 rfl rfl ?_
        refine j_iload_n 86 dX2_tryCousin_85 rfl rfl ?_
        refine j_iload 88 dX2_tryCousin_86 rfl rfl ?_
        refine j_iload_n 89 dX2_tryCousin_88 rfl rfl ?_
        refine j_iload_n 90 dX2_tryCousin_89 rfl rfl ?_
        refine s_callVu (M2 := mX2_seatCousin) [vI y1, vI x4, vI y2, vI y3] 93 oa42 cc2 mkX2_seatCousin w_1082 dX2_tryCousin_90 rfl rfl (tX2_seatCousin Θ l rec _ _ _ _ hr9 hrec _) (by omega) (Nat.le_of_ble_eq_true rfl) (Nat.le_of_ble_eq_true rfl) (fun r9 s10 => ?_)
        refine j_iinc (v := x4 + 1) (ls' := [some (vR 42), some (vI y1), some (vI y2), some (vI y3), some (vI (x4 + 1))]) 96 dX2_tryCousin_93 rfl rfl rfl (by decide) rfl rfl ?_
        refine j_goto 51 dX2_tryCousin_96 (by decide) ?_
        refine j_sub (ls' := [some (vR 42), some (vI y1), some (vI y2), some (vI y3), some (vI (x4 + 1))]) (And.intro rfl (And.intro rfl (And.intro rfl (And.intro rfl (And.intro rfl trivial))))) ?_
        exact ih (x4 + 1) s10
      · refine j_iinc (v := x4 + 1) (ls' := [some (vR 42), some (vI y1), some (vI y2), some (vI y3), some (vI (x4 + 1))]) 96 dX2_tryCousin_93 rfl rfl rfl (by decide) rfl rfl ?_
        refine j_goto 51 dX2_tryCousin_96 (by decide) ?_
        refine j_sub (ls' := [some (vR 42), some (vI y1), some (vI y2), some (vI y3), some (vI (x4 + 1))]) (And.intro rfl (And.intro rfl (And.intro rfl (And.intro rfl (And.intro rfl trivial))))) ?_
        exact ih (x4 + 1) s6
    · refine j_sub (ls' := [some (vR 42), some (vI y1), some (vI y2), some (vI y3), none]) (And.intro rfl (And.intro rfl (And.intro rfl (And.intro rfl trivial)))) ?_
      exact hκ s
theorem tX2_tryCousin_B (Θ : Th) (l : Launch) (rec : Int32 → Int32 → Int32 → Mem → Option (Unit × Mem)) (a1 : Int32) (a2 : Int32) (a3 : Int32)  {hr : Nat} (hr9 : 9 ≤ hr) (hrec : ∀ (a1 : Int32) (a2 : Int32) (a3 : Int32) (s : Mem), Cs Θ l mX2_tryCousin hr gU [vR 42, vI a1, vI a2, vI a3] s (rec a1 a2 a3 s)) (s : Mem) : Cs Θ l mX2_tryCousin (hr + 2) gU [vR 42, vI a1, vI a2, vI a3] s (fX2_tryCousin_B rec a1 a2 a3 s) := by
  refine ct_of (by decide) [some (vR 42), some (vI a1), some (vI a2), some (vI a3), none] rfl (Nat.le_of_ble_eq_true rfl) ?_
  unfold fX2_tryCousin_B
  refine j_aload_n 1 dX2_tryCousin_0 rfl rfl ?_
  refine s_getI 4 fa42_1 w_346 dX2_tryCousin_1 rfl ?_
  refine j_bipush (v := (-9)) 6 dX2_tryCousin_4 rfl (by decide) ?_
  refine j_icmp_eq 18 9 dX2_tryCousin_6 (by decide) rfl (fun c1 => ?_) (fun c1 => ?_)
  · refine j_iload_n 19 dX2_tryCousin_18 rfl rfl ?_
    refine j_aload_n 20 dX2_tryCousin_19 rfl rfl ?_
    refine s_getI 23 fa42_0 w_344 dX2_tryCousin_20 rfl ?_
    refine j_icmp_ge 31 26 dX2_tryCousin_23 (by decide) rfl (fun c2 => ?_) (fun c2 => ?_)
    · refine j_iload_n 27 dX2_tryCousin_26 rfl rfl ?_
      refine j_iconst (v := 4) 28 dX2_tryCousin_27 rfl (by decide) ?_
      refine j_icmp_lt 48 31 dX2_tryCousin_28 (by decide) rfl (fun c3 => ?_) (fun c3 => ?_)
      · refine j_iconst (v := 0) 49 dX2_tryCousin_48 rfl (by decide) ?_
        refine j_istore (i := 4) (ls' := [some (vR 42), some (vI a1), some (vI a2), some (vI a3), some (vI 0)]) 51 dX2_tryCousin_49 rfl (by decide) rfl rfl ?_
        refine j_sub (ls' := [some (vR 42), some (vI a1), some (vI a2), some (vI a3), some (vI 0)]) (And.intro rfl (And.intro rfl (And.intro rfl (And.intro rfl (And.intro rfl trivial))))) ?_
        refine tX2_tryCousin_L51 Θ l rec _ _ _ _  hr9 hrec ?_ _ _ _
        intro s11
        refine j_aload_n 100 dX2_tryCousin_99 rfl rfl ?_
        refine s_getR (x := 44) 103 fa42_4 w_351 dX2_tryCousin_100 rfl (by decide +kernel) ?_
        refine j_iload_n 104 dX2_tryCousin_103 rfl rfl ?_
        refine j_bipush (v := (-9)) 106 dX2_tryCousin_104 rfl (by decide) ?_
        refine s_iastore 107 aa44 dX2_tryCousin_106 rfl (fun b12 => ?_)
        refine j_aload_n 108 dX2_tryCousin_107 rfl rfl ?_
        refine j_iload_n 109 dX2_tryCousin_108 rfl rfl ?_
        refine j_iconst (v := 1) 110 dX2_tryCousin_109 rfl (by decide) ?_
        refine j_iadd 111 dX2_tryCousin_110 rfl ?_
        refine j_iload_n 112 dX2_tryCousin_111 rfl rfl ?_
        refine j_iload_n 113 dX2_tryCousin_112 rfl rfl ?_
        refine s_callVu (M2 := mX2_tryCousin) [vI (a1 + 1), vI a2, vI a3] 116 oa42 cc2 mkX2_tryCousin w_1072 dX2_tryCousin_113 rfl rfl (hrec _ _ _ _) (by omega) (Nat.le_of_ble_eq_true rfl) (Nat.le_of_ble_eq_true rfl) (fun r13 s14 => ?_)
        exact s_ret dX2_tryCousin_116 rfl
      · refine j_aload_n 32 dX2_tryCousin_31 rfl rfl ?_
        refine s_getR (x := 6) 35 fa42_3 w_350 dX2_tryCousin_32 rfl (by decide +kernel) ?_
        refine j_iload_n 36 dX2_tryCousin_35 rfl rfl ?_
        refine s_callVi (M2 := mX0_isLevel) [vI a2] 39 oa6 cc0 mkX0_isLevel w_1076 dX2_tryCousin_36 rfl rfl (tX0_isLevel Θ l _  _) (by first | exact Nat.le_of_ble_eq_true rfl | omega) (Nat.le_of_ble_eq_true rfl) (Nat.le_of_ble_eq_true rfl) (fun r15 s16 => ?_)
        refine j_if_eq 47 42 dX2_tryCousin_39 (by decide) rfl (fun c17 => ?_) (fun c17 => ?_)
        · exact s_ret dX2_tryCousin_47 rfl
        · refine j_aload_n 43 dX2_tryCousin_42 rfl rfl ?_
          refine j_iload_n 44 dX2_tryCousin_43 rfl rfl ?_
          refine s_callVu (M2 := mX2_noteCheaper) [vI a3] 47 oa42 cc2 mkX2_noteCheaper w_1077 dX2_tryCousin_44 rfl rfl (tX2_noteCheaper Θ l _  _) (by first | exact Nat.le_of_ble_eq_true rfl | omega) (Nat.le_of_ble_eq_true rfl) (Nat.le_of_ble_eq_true rfl) (fun r18 s19 => ?_)
          exact s_ret dX2_tryCousin_47 rfl
    · refine j_aload_n 32 dX2_tryCousin_31 rfl rfl ?_
      refine s_getR (x := 6) 35 fa42_3 w_350 dX2_tryCousin_32 rfl (by decide +kernel) ?_
      refine j_iload_n 36 dX2_tryCousin_35 rfl rfl ?_
      refine s_callVi (M2 := mX0_isLevel) [vI a2] 39 oa6 cc0 mkX0_isLevel w_1076 dX2_tryCousin_36 rfl rfl (tX0_isLevel Θ l _  _) (by first | exact Nat.le_of_ble_eq_true rfl | omega) (Nat.le_of_ble_eq_true rfl) (Nat.le_of_ble_eq_true rfl) (fun r20 s21 => ?_)
      refine j_if_eq 47 42 dX2_tryCousin_39 (by decide) rfl (fun c22 => ?_) (fun c22 => ?_)
      · exact s_ret dX2_tryCousin_47 rfl
      · refine j_aload_n 43 dX2_tryCousin_42 rfl rfl ?_
        refine j_iload_n 44 dX2_tryCousin_43 rfl rfl ?_
        refine s_callVu (M2 := mX2_noteCheaper) [vI a3] 47 oa42 cc2 mkX2_noteCheaper w_1077 dX2_tryCousin_44 rfl rfl (tX2_noteCheaper Θ l _  _) (by first | exact Nat.le_of_ble_eq_true rfl | omega) (Nat.le_of_ble_eq_true rfl) (Nat.le_of_ble_eq_true rfl) (fun r23 s24 => ?_)
        exact s_ret dX2_tryCousin_47 rfl
  · refine j_iload_n 10 dX2_tryCousin_9 rfl rfl ?_
    refine j_aload_n 11 dX2_tryCousin_10 rfl rfl ?_
    refine s_getI 14 fa42_1 w_346 dX2_tryCousin_11 rfl ?_
    refine j_icmp_lt 18 17 dX2_tryCousin_14 (by decide) rfl (fun c25 => ?_) (fun c25 => ?_)
    · refine j_iload_n 19 dX2_tryCousin_18 rfl rfl ?_
      refine j_aload_n 20 dX2_tryCousin_19 rfl rfl ?_
      refine s_getI 23 fa42_0 w_344 dX2_tryCousin_20 rfl ?_
      refine j_icmp_ge 31 26 dX2_tryCousin_23 (by decide) rfl (fun c26 => ?_) (fun c26 => ?_)
      · refine j_iload_n 27 dX2_tryCousin_26 rfl rfl ?_
        refine j_iconst (v := 4) 28 dX2_tryCousin_27 rfl (by decide) ?_
        refine j_icmp_lt 48 31 dX2_tryCousin_28 (by decide) rfl (fun c27 => ?_) (fun c27 => ?_)
        · refine j_iconst (v := 0) 49 dX2_tryCousin_48 rfl (by decide) ?_
          refine j_istore (i := 4) (ls' := [some (vR 42), some (vI a1), some (vI a2), some (vI a3), some (vI 0)]) 51 dX2_tryCousin_49 rfl (by decide) rfl rfl ?_
          refine j_sub (ls' := [some (vR 42), some (vI a1), some (vI a2), some (vI a3), some (vI 0)]) (And.intro rfl (And.intro rfl (And.intro rfl (And.intro rfl (And.intro rfl trivial))))) ?_
          refine tX2_tryCousin_L51 Θ l rec _ _ _ _  hr9 hrec ?_ _ _ _
          intro s28
          refine j_aload_n 100 dX2_tryCousin_99 rfl rfl ?_
          refine s_getR (x := 44) 103 fa42_4 w_351 dX2_tryCousin_100 rfl (by decide +kernel) ?_
          refine j_iload_n 104 dX2_tryCousin_103 rfl rfl ?_
          refine j_bipush (v := (-9)) 106 dX2_tryCousin_104 rfl (by decide) ?_
          refine s_iastore 107 aa44 dX2_tryCousin_106 rfl (fun b29 => ?_)
          refine j_aload_n 108 dX2_tryCousin_107 rfl rfl ?_
          refine j_iload_n 109 dX2_tryCousin_108 rfl rfl ?_
          refine j_iconst (v := 1) 110 dX2_tryCousin_109 rfl (by decide) ?_
          refine j_iadd 111 dX2_tryCousin_110 rfl ?_
          refine j_iload_n 112 dX2_tryCousin_111 rfl rfl ?_
          refine j_iload_n 113 dX2_tryCousin_112 rfl rfl ?_
          refine s_callVu (M2 := mX2_tryCousin) [vI (a1 + 1), vI a2, vI a3] 116 oa42 cc2 mkX2_tryCousin w_1072 dX2_tryCousin_113 rfl rfl (hrec _ _ _ _) (by omega) (Nat.le_of_ble_eq_true rfl) (Nat.le_of_ble_eq_true rfl) (fun r30 s31 => ?_)
          exact s_ret dX2_tryCousin_116 rfl
        · refine j_aload_n 32 dX2_tryCousin_31 rfl rfl ?_
          refine s_getR (x := 6) 35 fa42_3 w_350 dX2_tryCousin_32 rfl (by decide +kernel) ?_
          refine j_iload_n 36 dX2_tryCousin_35 rfl rfl ?_
          refine s_callVi (M2 := mX0_isLevel) [vI a2] 39 oa6 cc0 mkX0_isLevel w_1076 dX2_tryCousin_36 rfl rfl (tX0_isLevel Θ l _  _) (by first | exact Nat.le_of_ble_eq_true rfl | omega) (Nat.le_of_ble_eq_true rfl) (Nat.le_of_ble_eq_true rfl) (fun r32 s33 => ?_)
          refine j_if_eq 47 42 dX2_tryCousin_39 (by decide) rfl (fun c34 => ?_) (fun c34 => ?_)
          · exact s_ret dX2_tryCousin_47 rfl
          · refine j_aload_n 43 dX2_tryCousin_42 rfl rfl ?_
            refine j_iload_n 44 dX2_tryCousin_43 rfl rfl ?_
            refine s_callVu (M2 := mX2_noteCheaper) [vI a3] 47 oa42 cc2 mkX2_noteCheaper w_1077 dX2_tryCousin_44 rfl rfl (tX2_noteCheaper Θ l _  _) (by first | exact Nat.le_of_ble_eq_true rfl | omega) (Nat.le_of_ble_eq_true rfl) (Nat.le_of_ble_eq_true rfl) (fun r35 s36 => ?_)
            exact s_ret dX2_tryCousin_47 rfl
      · refine j_aload_n 32 dX2_tryCousin_31 rfl rfl ?_
        refine s_getR (x := 6) 35 fa42_3 w_350 dX2_tryCousin_32 rfl (by decide +kernel) ?_
        refine j_iload_n 36 dX2_tryCousin_35 rfl rfl ?_
        refine s_callVi (M2 := mX0_isLevel) [vI a2] 39 oa6 cc0 mkX0_isLevel w_1076 dX2_tryCousin_36 rfl rfl (tX0_isLevel Θ l _  _) (by first | exact Nat.le_of_ble_eq_true rfl | omega) (Nat.le_of_ble_eq_true rfl) (Nat.le_of_ble_eq_true rfl) (fun r37 s38 => ?_)
        refine j_if_eq 47 42 dX2_tryCousin_39 (by decide) rfl (fun c39 => ?_) (fun c39 => ?_)
        · exact s_ret dX2_tryCousin_47 rfl
        · refine j_aload_n 43 dX2_tryCousin_42 rfl rfl ?_
          refine j_iload_n 44 dX2_tryCousin_43 rfl rfl ?_
          refine s_callVu (M2 := mX2_noteCheaper) [vI a3] 47 oa42 cc2 mkX2_noteCheaper w_1077 dX2_tryCousin_44 rfl rfl (tX2_noteCheaper Θ l _  _) (by first | exact Nat.le_of_ble_eq_true rfl | omega) (Nat.le_of_ble_eq_true rfl) (Nat.le_of_ble_eq_true rfl) (fun r40 s41 => ?_)
          exact s_ret dX2_tryCousin_47 rfl
    · exact s_ret dX2_tryCousin_17 rfl
-- X2_tryCousin_rec
def fX2_tryCousin : Nat → Int32 → Int32 → Int32 → Mem → Option (Unit × Mem)
  | 0, _, _, _, _ => none
  | k + 1, a1, a2, a3, s => fX2_tryCousin_B (fX2_tryCousin k) a1 a2 a3 s
theorem tX2_tryCousin (Θ : Th) (l : Launch) : ∀ (k : Nat) (a1 : Int32) (a2 : Int32) (a3 : Int32) (s : Mem), Cs Θ l mX2_tryCousin (2 * k + 9) gU [vR 42, vI a1, vI a2, vI a3] s (fX2_tryCousin k a1 a2 a3 s) := by
  intro k
  induction k with
  | zero => intro a1 a2 a3 s r s' ho; cases ho
  | succ k ih =>
    intro a1 a2 a3 s
    exact tX2_tryCousin_B Θ l (fX2_tryCousin k) a1 a2 a3 (hr := 2 * k + 9) (by omega) ih s
-- X2_search
def fX2_search_L20  (κ : Mem → Option (Unit × Mem)) (q1 : Nat) (q2 : Nat) : Nat → Int32 → Mem → Option (Unit × Mem)
  | 0, _, _ => none
  | k + 1, x3, s =>
    if x3 < (s.1 42 0) then
      bnd (fX7_placeAt q1 x3 s) (fun r2 s3 =>
      if inb x3 4 = true then
      bnd (fX7_placeAt q2 x3 (wI s3 46 (ix x3) r2)) (fun r5 s6 =>
      if inb x3 4 = true then
      fX2_search_L20 κ q1 q2 k (x3 + 1) (wI s6 47 (ix x3) r5)
      else none)
      else none)
    else
      κ s
def fX2_search  (a1 : Nat) (a2 : Nat) (s : Mem) : Option (Unit × Mem) :=
fX2_search_L20 (fun s8 =>
  bnd (fX0_listIn 0 s8) (fun r9 s10 =>
  bnd (fX2_tryCousin 9 0 r9 0 s10) (fun r11 s12 =>
  some ((), s12)))) a1 a2 FU 0 (wI (wI s 42 0 (mn (s.1 a1 0) 4)) 42 1 (-9))
theorem tX2_search_L20 (Θ : Th) (l : Launch)  (κ : Mem → Option (Unit × Mem)) (q1 : Nat) (q2 : Nat) (hq1 : kd q1 = 7) (hq2 : kd q2 = 7) (hκ : ∀  (s : Mem), Js Θ l mX2_search 28 gU 56 [some (vR 42), none, none, none] [] s (κ  s)) : ∀ (k : Nat) (x3 : Int32) (s : Mem), Js Θ l mX2_search 28 gU 20 [some (vR 42), some (vR q1), some (vR q2), some (vI x3)] [] s (fX2_search_L20 κ q1 q2 k x3 s) := by
  intro k
  induction k with
  | zero => intro x3 s; exact j_none
  | succ k ih =>
    intro x3 s
    rw [fX2_search_L20]
    refine j_iload_n 21 dX2_search_20 rfl rfl ?_
    refine j_aload_n 22 dX2_search_21 rfl rfl ?_
    refine s_getI 25 fa42_0 w_344 dX2_search_22 rfl ?_
    refine j_icmp_ge 56 28 dX2_search_25 (by decide) rfl (fun c1 => ?_) (fun c1 => ?_)
    · refine j_aload_n 29 dX2_search_28 rfl rfl ?_
      refine s_getR (x := 46) 32 fa42_6 w_353 dX2_search_29 rfl (by decide +kernel) ?_
      refine j_iload_n 33 dX2_search_32 rfl rfl ?_
      refine j_aload_n 34 dX2_search_33 rfl rfl ?_
      refine j_iload_n 35 dX2_search_34 rfl rfl ?_
      refine s_callVi (M2 := mX7_placeAt) [vI x3] 38 (row_oa hq1) cc7 mkX7_placeAt w_1070 dX2_search_35 rfl rfl (tX7_placeAt Θ l _ _ hq1 _) (by first | exact Nat.le_of_ble_eq_true rfl | omega) (Nat.le_of_ble_eq_true rfl) (Nat.le_of_ble_eq_true rfl) (fun r2 s3 => ?_)
      refine s_iastore 39 aa46 dX2_search_38 rfl (fun b4 => ?_)
      refine j_aload_n 40 dX2_search_39 rfl rfl ?_
      refine s_getR (x := 47) 43 fa42_7 w_354 dX2_search_40 rfl (by decide +kernel) ?_
      refine j_iload_n 44 dX2_search_43 rfl rfl ?_
      refine j_aload_n 45 dX2_search_44 rfl rfl ?_
      refine j_iload_n 46 dX2_search_45 rfl rfl ?_
      refine s_callVi (M2 := mX7_placeAt) [vI x3] 49 (row_oa hq2) cc7 mkX7_placeAt w_1070 dX2_search_46 rfl rfl (tX7_placeAt Θ l _ _ hq2 _) (by first | exact Nat.le_of_ble_eq_true rfl | omega) (Nat.le_of_ble_eq_true rfl) (Nat.le_of_ble_eq_true rfl) (fun r5 s6 => ?_)
      refine s_iastore 50 aa47 dX2_search_49 rfl (fun b7 => ?_)
      refine j_iinc (v := x3 + 1) (ls' := [some (vR 42), some (vR q1), some (vR q2), some (vI (x3 + 1))]) 53 dX2_search_50 rfl rfl rfl (by decide) rfl rfl ?_
      refine j_goto 20 dX2_search_53 (by decide) ?_
      refine j_sub (ls' := [some (vR 42), some (vR q1), some (vR q2), some (vI (x3 + 1))]) (And.intro rfl (And.intro rfl (And.intro rfl (And.intro rfl trivial)))) ?_
      exact ih (x3 + 1) (wI s6 47 (ix x3) r5)
    · refine j_sub (ls' := [some (vR 42), none, none, none]) (And.intro rfl trivial) ?_
      exact hκ s
theorem tX2_search (Θ : Th) (l : Launch)  (a1 : Nat) (a2 : Nat) (ha1 : kd a1 = 7) (ha2 : kd a2 = 7) (s : Mem) : Cs Θ l mX2_search 28 gU [vR 42, vR a1, vR a2] s (fX2_search a1 a2 s) := by
  refine ct_of (by decide) [some (vR 42), some (vR a1), some (vR a2), none] rfl (Nat.le_of_ble_eq_true rfl) ?_
  unfold fX2_search
  refine j_aload_n 1 dX2_search_0 rfl rfl ?_
  refine j_aload_n 2 dX2_search_1 rfl rfl ?_
  refine s_getI 5 (row_fa0 ha1) w_378 dX2_search_2 rfl ?_
  refine j_iconst (v := 4) 6 dX2_search_5 rfl (by decide) ?_
  refine s_mmin 9 dX2_search_6 rfl wm_1069 wt_min wi_math wc_min (by first | exact Nat.le_of_ble_eq_true rfl | omega) (Nat.le_of_ble_eq_true rfl) ?_
  refine s_putI 12 fa42_0 w_344 dX2_search_9 rfl ?_
  refine j_aload_n 13 dX2_search_12 rfl rfl ?_
  refine j_bipush (v := (-9)) 15 dX2_search_13 rfl (by decide) ?_
  refine s_putI 18 fa42_1 w_346 dX2_search_15 rfl ?_
  refine j_iconst (v := 0) 19 dX2_search_18 rfl (by decide) ?_
  refine j_istore_n (i := 3) (ls' := [some (vR 42), some (vR a1), some (vR a2), some (vI 0)]) 20 dX2_search_19 rfl rfl (by decide) rfl rfl ?_
  refine j_sub (ls' := [some (vR 42), some (vR a1), some (vR a2), some (vI 0)]) (And.intro rfl (And.intro rfl (And.intro rfl (And.intro rfl trivial)))) ?_
  refine tX2_search_L20 Θ l _ _ _ ha1 ha2 ?_ _ _ _
  intro s8
  refine j_aload_n 57 dX2_search_56 rfl rfl ?_
  refine j_iconst (v := 0) 58 dX2_search_57 rfl (by decide) ?_
  refine j_aload_n 59 dX2_search_58 rfl rfl ?_
  refine s_getR (x := 6) 62 fa42_3 w_350 dX2_search_59 rfl (by decide +kernel) ?_
  refine j_iconst (v := 0) 63 dX2_search_62 rfl (by decide) ?_
  refine s_callVi (M2 := mX0_listIn) [vI 0] 66 oa6 cc0 mkX0_listIn w_1071 dX2_search_63 rfl rfl (tX0_listIn Θ l _  _) (by first | exact Nat.le_of_ble_eq_true rfl | omega) (Nat.le_of_ble_eq_true rfl) (Nat.le_of_ble_eq_true rfl) (fun r9 s10 => ?_)
  refine j_iconst (v := 0) 67 dX2_search_66 rfl (by decide) ?_
  refine s_callVu (M2 := mX2_tryCousin) [vI 0, vI r9, vI 0] 70 oa42 cc2 mkX2_tryCousin w_1072 dX2_search_67 rfl rfl (tX2_tryCousin Θ l 9 _ _ _ _) (by decide) (Nat.le_of_ble_eq_true rfl) (Nat.le_of_ble_eq_true rfl) (fun r11 s12 => ?_)
  exact s_ret dX2_search_70 rfl
-- X7_take_43
def fX7_take_43  (q0 : Nat) (a2 : Int32) (s : Mem) : Option (Unit × Mem) :=
bnd (fX7_renew q0 (mn a2 4) s) (fun r1 s2 =>
if ¬ (0 : Int32) < 0 ∧ ¬ (0 : Int32) < 0 ∧ ¬ (s2.1 q0 0 : Int32) < 0 ∧ ix 0 + ix (s2.1 q0 0) ≤ 4 ∧ ix 0 + ix (s2.1 q0 0) ≤ 60 then
some ((), wF s2 (q0 + 1) (va_cpy (s2.1 43) (s2.1 (q0 + 1)) (ix 0) (ix 0) (ix (s2.1 q0 0))))
else none)
theorem tX7_take_43 (Θ : Th) (l : Launch)  (q0 : Nat) (a2 : Int32) (hq0 : kd q0 = 7) (s : Mem) : Cs Θ l mX7_take 3 gU [vR q0, vR 43, vI a2] s (fX7_take_43 q0 a2 s) := by
  refine ct_of (by decide) [some (vR q0), some (vR 43), some (vI a2)] rfl (Nat.le_of_ble_eq_true rfl) ?_
  unfold fX7_take_43
  refine j_aload_n 1 dX7_take_0 rfl rfl ?_
  refine j_iload_n 2 dX7_take_1 rfl rfl ?_
  refine j_aload_n 3 dX7_take_2 rfl rfl ?_
  refine s_alen (v := 4) 4 aa43 (by decide) (by decide) (by decide) dX7_take_3 rfl ?_
  refine s_mmin 7 dX7_take_4 rfl wm_452 wt_min wi_math wc_min (by first | exact Nat.le_of_ble_eq_true rfl | omega) (Nat.le_of_ble_eq_true rfl) ?_
  refine s_callVu (M2 := mX7_renew) [vI (mn a2 4)] 10 (row_oa hq0) cc7 mkX7_renew w_987 dX7_take_7 rfl rfl (tX7_renew Θ l _ _ hq0 _) (by first | exact Nat.le_of_ble_eq_true rfl | omega) (Nat.le_of_ble_eq_true rfl) (Nat.le_of_ble_eq_true rfl) (fun r1 s2 => ?_)
  refine j_aload_n 11 dX7_take_10 rfl rfl ?_
  refine j_iconst (v := 0) 12 dX7_take_11 rfl (by decide) ?_
  refine j_aload_n 13 dX7_take_12 rfl rfl ?_
  refine s_getR (x := q0 + 1) 16 (row_fa1 hq0) w_380 dX7_take_13 rfl (row_pl hq0) ?_
  refine j_iconst (v := 0) 17 dX7_take_16 rfl (by decide) ?_
  refine j_aload_n 18 dX7_take_17 rfl rfl ?_
  refine s_getI 21 (row_fa0 hq0) w_377 dX7_take_18 rfl ?_
  refine s_copy 24 aa43 (row_aa hq0) dX7_take_21 rfl w_988 w_509 w_508 w_89 (by first | decide | omega) (Nat.le_of_ble_eq_true rfl) ?_
  exact s_ret dX7_take_24 rfl
-- X11_invite
def fX11_invite  (a1 : Int32) (a2 : Int32) (a3 : Int32) (s : Mem) : Option (Int32 × Mem) :=
bnd (fX11_rowOf a1 s) (fun r1 s2 =>
bnd (fX11_rowOf a2 s2) (fun r3 s4 =>
bnd (fX11_rowOf a3 s4) (fun r5 s6 =>
if r1 = 0 then
  some ((-1), s6)
else
  if r3 = 0 then
    some ((-1), s6)
  else
    if r5 = 0 then
      some ((-1), s6)
    else
      if (s6.1 6 0) = 0 then
        some ((-4), s6)
      else
        if kd r1 = 7 then
        bnd (fX7_isMissing r1 s6) (fun r12 s13 =>
        if r12 = 0 then
          if kd r3 = 7 then
          bnd (fX7_isMissing r3 s13) (fun r16 s17 =>
          if r16 = 0 then
            if 4 < (s17.1 r1 0) then
              bnd (fX10_found 5 s17) (fun r20 s21 =>
              some (r20, s21))
            else
              if (s17.1 r3 0) = (s17.1 r1 0) then
                bnd (fX7_allWithin r1 1 9 s17) (fun r23 s24 =>
                if r23 = 0 then
                  bnd (fX10_found 3 s24) (fun r26 s27 =>
                  some (r26, s27))
                else
                  bnd (fX7_allWithin r3 0 99 s24) (fun r28 s29 =>
                  if r28 = 0 then
                    bnd (fX10_found 3 s29) (fun r31 s32 =>
                    some (r31, s32))
                  else
                    bnd (fX2_search r1 r3 s29) (fun r33 s34 =>
                    if (s34.1 42 1) = (-9) then
                      some (s34.1 42 1, s34)
                    else
                      if kd r5 = 7 then
                      bnd (fX7_take_43 r5 (s34.1 42 0) s34) (fun r37 s38 =>
                      some (s38.1 42 1, s38))
                      else none)))
              else
                bnd (fX10_found 5 s17) (fun r39 s40 =>
                some (r39, s40))
          else
            bnd (fX10_found 1 s17) (fun r41 s42 =>
            some (r41, s42)))
          else none
        else
          bnd (fX10_found 1 s13) (fun r43 s44 =>
          some (r43, s44)))
        else none)))
theorem tX11_invite (Θ : Th) (l : Launch)  (a1 : Int32) (a2 : Int32) (a3 : Int32)  (s : Mem) : Cs Θ l mX11_invite 29 gI [vR 1, vI a1, vI a2, vI a3] s (fX11_invite a1 a2 a3 s) := by
  refine ct_of (by decide) [some (vR 1), some (vI a1), some (vI a2), some (vI a3), none, none, none] rfl (Nat.le_of_ble_eq_true rfl) ?_
  unfold fX11_invite
  refine j_aload_n 1 dX11_invite_0 rfl rfl ?_
  refine j_iload_n 2 dX11_invite_1 rfl rfl ?_
  refine s_callVr (M2 := mX11_rowOf) [vI a1] 5 oa1 cc11 mkX11_rowOf w_440 dX11_invite_2 rfl rfl (tX11_rowOf Θ l _  _) (by first | exact Nat.le_of_ble_eq_true rfl | omega) (Nat.le_of_ble_eq_true rfl) (Nat.le_of_ble_eq_true rfl) (fun r1 s2 => ?_)
  refine j_astore (i := 4) (ls' := [some (vR 1), some (vI a1), some (vI a2), some (vI a3), some (vR r1), none, none]) 7 dX11_invite_5 rfl (by decide) rfl rfl ?_
  refine j_aload_n 8 dX11_invite_7 rfl rfl ?_
  refine j_iload_n 9 dX11_invite_8 rfl rfl ?_
  refine s_callVr (M2 := mX11_rowOf) [vI a2] 12 oa1 cc11 mkX11_rowOf w_440 dX11_invite_9 rfl rfl (tX11_rowOf Θ l _  _) (by first | exact Nat.le_of_ble_eq_true rfl | omega) (Nat.le_of_ble_eq_true rfl) (Nat.le_of_ble_eq_true rfl) (fun r3 s4 => ?_)
  refine j_astore (i := 5) (ls' := [some (vR 1), some (vI a1), some (vI a2), some (vI a3), some (vR r1), some (vR r3), none]) 14 dX11_invite_12 rfl (by decide) rfl rfl ?_
  refine j_aload_n 15 dX11_invite_14 rfl rfl ?_
  refine j_iload_n 16 dX11_invite_15 rfl rfl ?_
  refine s_callVr (M2 := mX11_rowOf) [vI a3] 19 oa1 cc11 mkX11_rowOf w_440 dX11_invite_16 rfl rfl (tX11_rowOf Θ l _  _) (by first | exact Nat.le_of_ble_eq_true rfl | omega) (Nat.le_of_ble_eq_true rfl) (Nat.le_of_ble_eq_true rfl) (fun r5 s6 => ?_)
  refine j_astore (i := 6) (ls' := [some (vR 1), some (vI a1), some (vI a2), some (vI a3), some (vR r1), some (vR r3), some (vR r5)]) 21 dX11_invite_19 rfl (by decide) rfl rfl ?_
  refine j_aload 23 dX11_invite_21 rfl rfl ?_
  refine j_ifnull 36 26 dX11_invite_23 (by decide) rfl (fun c7 => ?_) (fun c7 => ?_)
  · refine j_iconst (v := (-1)) 37 dX11_invite_36 rfl (by decide) ?_
    exact s_iret dX11_invite_37 rfl
  · refine j_aload 28 dX11_invite_26 rfl rfl ?_
    refine j_ifnull 36 31 dX11_invite_28 (by decide) rfl (fun c8 => ?_) (fun c8 => ?_)
    · refine j_iconst (v := (-1)) 37 dX11_invite_36 rfl (by decide) ?_
      exact s_iret dX11_invite_37 rfl
    · refine j_aload 33 dX11_invite_31 rfl rfl ?_
      refine j_ifnonnull 38 36 dX11_invite_33 (by decide) rfl (fun c9 => ?_) (fun c9 => ?_)
      · refine j_iconst (v := (-1)) 37 dX11_invite_36 rfl (by decide) ?_
        exact s_iret dX11_invite_37 rfl
      · refine j_aload_n 39 dX11_invite_38 rfl rfl ?_
        refine s_getR (x := 6) 42 fa1_3 w_405 dX11_invite_39 rfl (by decide +kernel) ?_
        refine s_getI 45 fa6_0 w_159 dX11_invite_42 rfl ?_
        refine j_if_ne 51 48 dX11_invite_45 (by decide) rfl (fun c10 => ?_) (fun c10 => ?_)
        · refine j_bipush (v := (-4)) 50 dX11_invite_48 rfl (by decide) ?_
          exact s_iret dX11_invite_50 rfl
        · refine j_aload 53 dX11_invite_51 rfl rfl ?_
          refine j_ite (fun hk11 => ?_) (fun _ => j_none)
          refine s_callVi (M2 := mX7_isMissing) [] 56 (row_oa hk11) cc7 mkX7_isMissing w_466 dX11_invite_53 rfl rfl (tX7_isMissing Θ l _ hk11 _) (by first | exact Nat.le_of_ble_eq_true rfl | omega) (Nat.le_of_ble_eq_true rfl) (Nat.le_of_ble_eq_true rfl) (fun r12 s13 => ?_)
          refine j_if_ne 67 59 dX11_invite_56 (by decide) rfl (fun c14 => ?_) (fun c14 => ?_)
          · refine j_aload 61 dX11_invite_59 rfl rfl ?_
            refine j_ite (fun hk15 => ?_) (fun _ => j_none)
            refine s_callVi (M2 := mX7_isMissing) [] 64 (row_oa hk15) cc7 mkX7_isMissing w_466 dX11_invite_61 rfl rfl (tX7_isMissing Θ l _ hk15 _) (by first | exact Nat.le_of_ble_eq_true rfl | omega) (Nat.le_of_ble_eq_true rfl) (Nat.le_of_ble_eq_true rfl) (fun r16 s17 => ?_)
            refine j_if_eq 76 67 dX11_invite_64 (by decide) rfl (fun c18 => ?_) (fun c18 => ?_)
            · refine j_aload 78 dX11_invite_76 rfl rfl ?_
              refine s_getI 81 (row_fa0 hk11) w_379 dX11_invite_78 rfl ?_
              refine j_iconst (v := 4) 82 dX11_invite_81 rfl (by decide) ?_
              refine j_icmp_gt 98 85 dX11_invite_82 (by decide) rfl (fun c19 => ?_) (fun c19 => ?_)
              · refine j_aload_n 99 dX11_invite_98 rfl rfl ?_
                refine s_getR (x := 2) 102 fa1_0 w_402 dX11_invite_99 rfl (by decide +kernel) ?_
                refine j_iconst (v := 5) 103 dX11_invite_102 rfl (by decide) ?_
                refine s_callVi (M2 := mX10_found) [vI 5] 106 oa2 cc10 mkX10_found w_444 dX11_invite_103 rfl rfl (tX10_found Θ l _  _) (by first | exact Nat.le_of_ble_eq_true rfl | omega) (Nat.le_of_ble_eq_true rfl) (Nat.le_of_ble_eq_true rfl) (fun r20 s21 => ?_)
                exact s_iret dX11_invite_106 rfl
              · refine j_aload 87 dX11_invite_85 rfl rfl ?_
                refine s_getI 90 (row_fa0 hk15) w_379 dX11_invite_87 rfl ?_
                refine j_aload 92 dX11_invite_90 rfl rfl ?_
                refine s_getI 95 (row_fa0 hk11) w_379 dX11_invite_92 rfl ?_
                refine j_icmp_eq 107 98 dX11_invite_95 (by decide) rfl (fun c22 => ?_) (fun c22 => ?_)
                · refine j_aload 109 dX11_invite_107 rfl rfl ?_
                  refine j_iconst (v := 1) 110 dX11_invite_109 rfl (by decide) ?_
                  refine j_bipush (v := 9) 112 dX11_invite_110 rfl (by decide) ?_
                  refine s_callVi (M2 := mX7_allWithin) [vI 1, vI 9] 115 (row_oa hk11) cc7 mkX7_allWithin w_1060 dX11_invite_112 rfl rfl (tX7_allWithin Θ l _ _ _ hk11 _) (by first | exact Nat.le_of_ble_eq_true rfl | omega) (Nat.le_of_ble_eq_true rfl) (Nat.le_of_ble_eq_true rfl) (fun r23 s24 => ?_)
                  refine j_if_eq 129 118 dX11_invite_115 (by decide) rfl (fun c25 => ?_) (fun c25 => ?_)
                  · refine j_aload_n 130 dX11_invite_129 rfl rfl ?_
                    refine s_getR (x := 2) 133 fa1_0 w_402 dX11_invite_130 rfl (by decide +kernel) ?_
                    refine j_iconst (v := 3) 134 dX11_invite_133 rfl (by decide) ?_
                    refine s_callVi (M2 := mX10_found) [vI 3] 137 oa2 cc10 mkX10_found w_444 dX11_invite_134 rfl rfl (tX10_found Θ l _  _) (by first | exact Nat.le_of_ble_eq_true rfl | omega) (Nat.le_of_ble_eq_true rfl) (Nat.le_of_ble_eq_true rfl) (fun r26 s27 => ?_)
                    exact s_iret dX11_invite_137 rfl
                  · refine j_aload 120 dX11_invite_118 rfl rfl ?_
                    refine j_iconst (v := 0) 121 dX11_invite_120 rfl (by decide) ?_
                    refine j_bipush (v := 99) 123 dX11_invite_121 rfl (by decide) ?_
                    refine s_callVi (M2 := mX7_allWithin) [vI 0, vI 99] 126 (row_oa hk15) cc7 mkX7_allWithin w_1060 dX11_invite_123 rfl rfl (tX7_allWithin Θ l _ _ _ hk15 _) (by first | exact Nat.le_of_ble_eq_true rfl | omega) (Nat.le_of_ble_eq_true rfl) (Nat.le_of_ble_eq_true rfl) (fun r28 s29 => ?_)
                    refine j_if_ne 138 129 dX11_invite_126 (by decide) rfl (fun c30 => ?_) (fun c30 => ?_)
                    · refine j_aload_n 130 dX11_invite_129 rfl rfl ?_
                      refine s_getR (x := 2) 133 fa1_0 w_402 dX11_invite_130 rfl (by decide +kernel) ?_
                      refine j_iconst (v := 3) 134 dX11_invite_133 rfl (by decide) ?_
                      refine s_callVi (M2 := mX10_found) [vI 3] 137 oa2 cc10 mkX10_found w_444 dX11_invite_134 rfl rfl (tX10_found Θ l _  _) (by first | exact Nat.le_of_ble_eq_true rfl | omega) (Nat.le_of_ble_eq_true rfl) (Nat.le_of_ble_eq_true rfl) (fun r31 s32 => ?_)
                      exact s_iret dX11_invite_137 rfl
                    · refine j_aload_n 139 dX11_invite_138 rfl rfl ?_
                      refine s_getR (x := 42) 142 fa1_10 w_412 dX11_invite_139 rfl (by decide +kernel) ?_
                      refine j_aload 144 dX11_invite_142 rfl rfl ?_
                      refine j_aload 146 dX11_invite_144 rfl rfl ?_
                      refine s_callVu (M2 := mX2_search) [vR r1, vR r3] 149 oa42 cc2 mkX2_search w_1065 dX11_invite_146 rfl rfl (tX2_search Θ l _ _ hk11 hk15 _) (by first | exact Nat.le_of_ble_eq_true rfl | omega) (Nat.le_of_ble_eq_true rfl) (Nat.le_of_ble_eq_true rfl) (fun r33 s34 => ?_)
                      refine j_aload_n 150 dX11_invite_149 rfl rfl ?_
                      refine s_getR (x := 42) 153 fa1_10 w_412 dX11_invite_150 rfl (by decide +kernel) ?_
                      refine s_getI 156 fa42_1 w_347 dX11_invite_153 rfl ?_
                      refine j_bipush (v := (-9)) 158 dX11_invite_156 rfl (by decide) ?_
                      refine j_icmp_eq 180 161 dX11_invite_158 (by decide) rfl (fun c35 => ?_) (fun c35 => ?_)
                      · refine j_aload_n 181 dX11_invite_180 rfl rfl ?_
                        refine s_getR (x := 42) 184 fa1_10 w_412 dX11_invite_181 rfl (by decide +kernel) ?_
                        refine s_getI 187 fa42_1 w_347 dX11_invite_184 rfl ?_
                        exact s_iret dX11_invite_187 rfl
                      · refine j_aload 163 dX11_invite_161 rfl rfl ?_
                        refine j_aload_n 164 dX11_invite_163 rfl rfl ?_
                        refine s_getR (x := 42) 167 fa1_10 w_412 dX11_invite_164 rfl (by decide +kernel) ?_
                        refine s_getR (x := 43) 170 fa42_2 w_349 dX11_invite_167 rfl (by decide +kernel) ?_
                        refine j_aload_n 171 dX11_invite_170 rfl rfl ?_
                        refine s_getR (x := 42) 174 fa1_10 w_412 dX11_invite_171 rfl (by decide +kernel) ?_
                        refine s_getI 177 fa42_0 w_345 dX11_invite_174 rfl ?_
                        refine j_ite (fun hk36 => ?_) (fun _ => j_none)
                        refine s_callVu (M2 := mX7_take) [vR 43, vI (s34.1 42 0)] 180 (row_oa hk36) cc7 mkX7_take w_983 dX11_invite_177 rfl rfl (tX7_take_43 Θ l _ _ hk36 _) (by first | exact Nat.le_of_ble_eq_true rfl | omega) (Nat.le_of_ble_eq_true rfl) (Nat.le_of_ble_eq_true rfl) (fun r37 s38 => ?_)
                        refine j_aload_n 181 dX11_invite_180 rfl rfl ?_
                        refine s_getR (x := 42) 184 fa1_10 w_412 dX11_invite_181 rfl (by decide +kernel) ?_
                        refine s_getI 187 fa42_1 w_347 dX11_invite_184 rfl ?_
                        exact s_iret dX11_invite_187 rfl
                · refine j_aload_n 99 dX11_invite_98 rfl rfl ?_
                  refine s_getR (x := 2) 102 fa1_0 w_402 dX11_invite_99 rfl (by decide +kernel) ?_
                  refine j_iconst (v := 5) 103 dX11_invite_102 rfl (by decide) ?_
                  refine s_callVi (M2 := mX10_found) [vI 5] 106 oa2 cc10 mkX10_found w_444 dX11_invite_103 rfl rfl (tX10_found Θ l _  _) (by first | exact Nat.le_of_ble_eq_true rfl | omega) (Nat.le_of_ble_eq_true rfl) (Nat.le_of_ble_eq_true rfl) (fun r39 s40 => ?_)
                  exact s_iret dX11_invite_106 rfl
            · refine j_aload_n 68 dX11_invite_67 rfl rfl ?_
              refine s_getR (x := 2) 71 fa1_0 w_402 dX11_invite_68 rfl (by decide +kernel) ?_
              refine j_iconst (v := 1) 72 dX11_invite_71 rfl (by decide) ?_
              refine s_callVi (M2 := mX10_found) [vI 1] 75 oa2 cc10 mkX10_found w_444 dX11_invite_72 rfl rfl (tX10_found Θ l _  _) (by first | exact Nat.le_of_ble_eq_true rfl | omega) (Nat.le_of_ble_eq_true rfl) (Nat.le_of_ble_eq_true rfl) (fun r41 s42 => ?_)
              exact s_iret dX11_invite_75 rfl
          · refine j_aload_n 68 dX11_invite_67 rfl rfl ?_
            refine s_getR (x := 2) 71 fa1_0 w_402 dX11_invite_68 rfl (by decide +kernel) ?_
            refine j_iconst (v := 1) 72 dX11_invite_71 rfl (by decide) ?_
            refine s_callVi (M2 := mX10_found) [vI 1] 75 oa2 cc10 mkX10_found w_444 dX11_invite_72 rfl rfl (tX10_found Θ l _  _) (by first | exact Nat.le_of_ble_eq_true rfl | omega) (Nat.le_of_ble_eq_true rfl) (Nat.le_of_ble_eq_true rfl) (fun r43 s44 => ?_)
            exact s_iret dX11_invite_75 rfl
-- X11_far
def fX11_far_L58  (κ : Int32 → Int32 → Mem → Option (Int32 × Mem)) (y1 : Int32) (y2 : Int32) (y3 : Int32) : Nat → Int32 → Int32 → Int32 → Mem → Option (Int32 × Mem)
  | 0, _, _, _, _ => none
  | k + 1, x4, x5, x6, s =>
    if x6 < (s.1 6 0) then
      bnd (fX0_xOf x6 s) (fun r15 s16 =>
      nm (ab r15) (fun v17 =>
      if x4 < v17 then
        bnd (fX0_momentOf y1 x6 y2 s16) (fun r19 s20 =>
        bnd (fX0_isLevel (y3 + r19) s20) (fun r21 s22 =>
        if r21 = 0 then
          fX11_far_L58 κ y1 y2 y3 k x4 x5 (x6 + 1) s22
        else
          fX11_far_L58 κ y1 y2 y3 k v17 x6 (x6 + 1) s22))
      else
        fX11_far_L58 κ y1 y2 y3 k x4 x5 (x6 + 1) s16))
    else
      κ x4 x5 s
def fX11_far  (a1 : Int32) (a2 : Int32) (s : Mem) : Option (Int32 × Mem) :=
bnd (fX0_isGuest a1 s) (fun r1 s2 =>
if r1 = 0 then
  some ((-1), s2)
else
  bnd (fX11_isPosture a2 s2) (fun r4 s5 =>
  if r4 = 0 then
    some ((-1), s5)
  else
    bnd (fX0_listIn a2 s5) (fun r7 s8 =>
    bnd (fX0_benchOf a1 s8) (fun r9 s10 =>
    bnd (fX0_momentOf a1 r9 a2 s10) (fun r11 s12 =>
    nm (r7 - r11) (fun v13 =>
    fX11_far_L58 (fun v24 v25 s26 =>
      if v25 = (-9) then
        some (v24, s26)
      else
        bnd (fX10_tell v25 s26) (fun r28 s29 =>
        some (v24, s29))) a1 a2 v13 FU (-9) (-9) 0 s12))))))
theorem tX11_far_L58 (Θ : Th) (l : Launch)  (κ : Int32 → Int32 → Mem → Option (Int32 × Mem)) (y1 : Int32) (y2 : Int32) (y3 : Int32)  (hκ : ∀ (x4 : Int32) (x5 : Int32) (s : Mem), Js Θ l mX11_far 5 gI 128 [some (vR 1), none, none, none, some (vI x4), some (vI x5), none, none] [] s (κ x4 x5 s)) : ∀ (k : Nat) (x4 : Int32) (x5 : Int32) (x6 : Int32) (s : Mem), Js Θ l mX11_far 5 gI 58 [some (vR 1), some (vI y1), some (vI y2), some (vI y3), some (vI x4), some (vI x5), some (vI x6), none] [] s (fX11_far_L58 κ y1 y2 y3 k x4 x5 x6 s) := by
  intro k
  induction k with
  | zero => intro x4 x5 x6 s; exact j_none
  | succ k ih =>
    intro x4 x5 x6 s
    rw [fX11_far_L58]
    refine j_iload 60 dX11_far_58 rfl rfl ?_
    refine j_aload_n 61 dX11_far_60 rfl rfl ?_
    refine s_getR (x := 6) 64 fa1_3 w_405 dX11_far_61 rfl (by decide +kernel) ?_
    refine s_getI 67 fa6_0 w_159 dX11_far_64 rfl ?_
    refine j_icmp_ge 128 70 dX11_far_67 (by decide) rfl (fun c14 => ?_) (fun c14 => ?_)
    · refine j_aload_n 71 dX11_far_70 rfl rfl ?_
      refine s_getR (x := 6) 74 fa1_3 w_405 dX11_far_71 rfl (by decide +kernel) ?_
      refine j_iload 76 dX11_far_74 rfl rfl ?_
      refine s_callVi (M2 := mX0_xOf) [vI x6] 79 oa6 cc0 mkX0_xOf w_683 dX11_far_76 rfl rfl (tX0_xOf Θ l _  _) (by first | exact Nat.le_of_ble_eq_true rfl | omega) (Nat.le_of_ble_eq_true rfl) (Nat.le_of_ble_eq_true rfl) (fun r15 s16 => ?_)
      refine s_mabs 82 dX11_far_79 rfl wm_926 wt_abs wi_math wc_abs (by first | exact Nat.le_of_ble_eq_true rfl | omega) (Nat.le_of_ble_eq_true rfl) ?_
      refine s_nmI (fun v17 => ?_)
      refine j_istore (i := 7) (ls' := [some (vR 1), some (vI y1), some (vI y2), some (vI y3), some (vI x4), some (vI x5), some (vI x6), some (vI v17)]) 84 dX11_far_82 rfl (by decide) rfl rfl ?_
      refine j_iload 86 dX11_far_84 rfl rfl ?_
      refine j_iload 88 dX11_far_86 rfl rfl ?_
      refine j_icmp_le 122 91 dX11_far_88 (by decide) rfl (fun c18 => ?_) (fun c18 => ?_)
      · refine j_aload_n 92 dX11_far_91 rfl rfl ?_
        refine s_getR (x := 6) 95 fa1_3 w_405 dX11_far_92 rfl (by decide +kernel) ?_
        refine j_iload_n 96 dX11_far_95 rfl rfl ?_
        refine j_aload_n 97 dX11_far_96 rfl rfl ?_
        refine s_getR (x := 6) 100 fa1_3 w_405 dX11_far_97 rfl (by decide +kernel) ?_
        refine j_iload_n 101 dX11_far_100 rfl rfl ?_
        refine j_iload 103 dX11_far_101 rfl rfl ?_
        refine j_iload_n 104 dX11_far_103 rfl rfl ?_
        refine s_callVi (M2 := mX0_momentOf) [vI y1, vI x6, vI y2] 107 oa6 cc0 mkX0_momentOf w_737 dX11_far_104 rfl rfl (tX0_momentOf Θ l _ _ _  _) (by first | exact Nat.le_of_ble_eq_true rfl | omega) (Nat.le_of_ble_eq_true rfl) (Nat.le_of_ble_eq_true rfl) (fun r19 s20 => ?_)
        refine j_iadd 108 dX11_far_107 rfl ?_
        refine s_callVi (M2 := mX0_isLevel) [vI (y3 + r19)] 111 oa6 cc0 mkX0_isLevel w_891 dX11_far_108 rfl rfl (tX0_isLevel Θ l _  _) (by first | exact Nat.le_of_ble_eq_true rfl | omega) (Nat.le_of_ble_eq_true rfl) (Nat.le_of_ble_eq_true rfl) (fun r21 s22 => ?_)
        refine j_if_eq 122 114 dX11_far_111 (by decide) rfl (fun c23 => ?_) (fun c23 => ?_)
        · refine j_iinc (v := x6 + 1) (ls' := [some (vR 1), some (vI y1), some (vI y2), some (vI y3), some (vI x4), some (vI x5), some (vI (x6 + 1)), some (vI v17)]) 125 dX11_far_122 rfl rfl rfl (by decide) rfl rfl ?_
          refine j_goto 58 dX11_far_125 (by decide) ?_
          refine j_sub (ls' := [some (vR 1), some (vI y1), some (vI y2), some (vI y3), some (vI x4), some (vI x5), some (vI (x6 + 1)), none]) (And.intro rfl (And.intro rfl (And.intro rfl (And.intro rfl (And.intro rfl (And.intro rfl (And.intro rfl trivial))))))) ?_
          exact ih x4 x5 (x6 + 1) s22
        · refine j_iload 116 dX11_far_114 rfl rfl ?_
          refine j_istore (i := 4) (ls' := [some (vR 1), some (vI y1), some (vI y2), some (vI y3), some (vI v17), some (vI x5), some (vI x6), some (vI v17)]) 118 dX11_far_116 rfl (by decide) rfl rfl ?_
          refine j_iload 120 dX11_far_118 rfl rfl ?_
          refine j_istore (i := 5) (ls' := [some (vR 1), some (vI y1), some (vI y2), some (vI y3), some (vI v17), some (vI x6), some (vI x6), some (vI v17)]) 122 dX11_far_120 rfl (by decide) rfl rfl ?_
          refine j_iinc (v := x6 + 1) (ls' := [some (vR 1), some (vI y1), some (vI y2), some (vI y3), some (vI v17), some (vI x6), some (vI (x6 + 1)), some (vI v17)]) 125 dX11_far_122 rfl rfl rfl (by decide) rfl rfl ?_
          refine j_goto 58 dX11_far_125 (by decide) ?_
          refine j_sub (ls' := [some (vR 1), some (vI y1), some (vI y2), some (vI y3), some (vI v17), some (vI x6), some (vI (x6 + 1)), none]) (And.intro rfl (And.intro rfl (And.intro rfl (And.intro rfl (And.intro rfl (And.intro rfl (And.intro rfl trivial))))))) ?_
          exact ih v17 x6 (x6 + 1) s22
      · refine j_iinc (v := x6 + 1) (ls' := [some (vR 1), some (vI y1), some (vI y2), some (vI y3), some (vI x4), some (vI x5), some (vI (x6 + 1)), some (vI v17)]) 125 dX11_far_122 rfl rfl rfl (by decide) rfl rfl ?_
        refine j_goto 58 dX11_far_125 (by decide) ?_
        refine j_sub (ls' := [some (vR 1), some (vI y1), some (vI y2), some (vI y3), some (vI x4), some (vI x5), some (vI (x6 + 1)), none]) (And.intro rfl (And.intro rfl (And.intro rfl (And.intro rfl (And.intro rfl (And.intro rfl (And.intro rfl trivial))))))) ?_
        exact ih x4 x5 (x6 + 1) s16
    · refine j_sub (ls' := [some (vR 1), none, none, none, some (vI x4), some (vI x5), none, none]) (And.intro rfl (And.intro rfl (And.intro rfl trivial))) ?_
      exact hκ x4 x5 s
theorem tX11_far (Θ : Th) (l : Launch)  (a1 : Int32) (a2 : Int32)  (s : Mem) : Cs Θ l mX11_far 5 gI [vR 1, vI a1, vI a2] s (fX11_far a1 a2 s) := by
  refine ct_of (by decide) [some (vR 1), some (vI a1), some (vI a2), none, none, none, none, none] rfl (Nat.le_of_ble_eq_true rfl) ?_
  unfold fX11_far
  refine j_aload_n 1 dX11_far_0 rfl rfl ?_
  refine s_getR (x := 6) 4 fa1_3 w_405 dX11_far_1 rfl (by decide +kernel) ?_
  refine j_iload_n 5 dX11_far_4 rfl rfl ?_
  refine s_callVi (M2 := mX0_isGuest) [vI a1] 8 oa6 cc0 mkX0_isGuest w_711 dX11_far_5 rfl rfl (tX0_isGuest Θ l _  _) (by first | exact Nat.le_of_ble_eq_true rfl | omega) (Nat.le_of_ble_eq_true rfl) (Nat.le_of_ble_eq_true rfl) (fun r1 s2 => ?_)
  refine j_if_eq 18 11 dX11_far_8 (by decide) rfl (fun c3 => ?_) (fun c3 => ?_)
  · refine j_iconst (v := (-1)) 19 dX11_far_18 rfl (by decide) ?_
    exact s_iret dX11_far_19 rfl
  · refine j_iload_n 12 dX11_far_11 rfl rfl ?_
    refine s_callSi (M2 := mX11_isPosture) [vI a2] 15 mkX11_isPosture (Or.inl w_881) dX11_far_12 rfl rfl (tX11_isPosture Θ l _  _) (by first | exact Nat.le_of_ble_eq_true rfl | omega) (Nat.le_of_ble_eq_true rfl) (Nat.le_of_ble_eq_true rfl) (fun r4 s5 => ?_)
    refine j_if_ne 20 18 dX11_far_15 (by decide) rfl (fun c6 => ?_) (fun c6 => ?_)
    · refine j_iconst (v := (-1)) 19 dX11_far_18 rfl (by decide) ?_
      exact s_iret dX11_far_19 rfl
    · refine j_aload_n 21 dX11_far_20 rfl rfl ?_
      refine s_getR (x := 6) 24 fa1_3 w_405 dX11_far_21 rfl (by decide +kernel) ?_
      refine j_iload_n 25 dX11_far_24 rfl rfl ?_
      refine s_callVi (M2 := mX0_listIn) [vI a2] 28 oa6 cc0 mkX0_listIn w_882 dX11_far_25 rfl rfl (tX0_listIn Θ l _  _) (by first | exact Nat.le_of_ble_eq_true rfl | omega) (Nat.le_of_ble_eq_true rfl) (Nat.le_of_ble_eq_true rfl) (fun r7 s8 => ?_)
      refine j_aload_n 29 dX11_far_28 rfl rfl ?_
      refine s_getR (x := 6) 32 fa1_3 w_405 dX11_far_29 rfl (by decide +kernel) ?_
      refine j_iload_n 33 dX11_far_32 rfl rfl ?_
      refine j_aload_n 34 dX11_far_33 rfl rfl ?_
      refine s_getR (x := 6) 37 fa1_3 w_405 dX11_far_34 rfl (by decide +kernel) ?_
      refine j_iload_n 38 dX11_far_37 rfl rfl ?_
      refine s_callVi (M2 := mX0_benchOf) [vI a1] 41 oa6 cc0 mkX0_benchOf w_722 dX11_far_38 rfl rfl (tX0_benchOf Θ l _  _) (by first | exact Nat.le_of_ble_eq_true rfl | omega) (Nat.le_of_ble_eq_true rfl) (Nat.le_of_ble_eq_true rfl) (fun r9 s10 => ?_)
      refine j_iload_n 42 dX11_far_41 rfl rfl ?_
      refine s_callVi (M2 := mX0_momentOf) [vI a1, vI r9, vI a2] 45 oa6 cc0 mkX0_momentOf w_737 dX11_far_42 rfl rfl (tX0_momentOf Θ l _ _ _  _) (by first | exact Nat.le_of_ble_eq_true rfl | omega) (Nat.le_of_ble_eq_true rfl) (Nat.le_of_ble_eq_true rfl) (fun r11 s12 => ?_)
      refine j_isub 46 dX11_far_45 rfl ?_
      refine s_nmI (fun v13 => ?_)
      refine j_istore_n (i := 3) (ls' := [some (vR 1), some (vI a1), some (vI a2), some (vI v13), none, none, none, none]) 47 dX11_far_46 rfl rfl (by decide) rfl rfl ?_
      refine j_bipush (v := (-9)) 49 dX11_far_47 rfl (by decide) ?_
      refine j_istore (i := 4) (ls' := [some (vR 1), some (vI a1), some (vI a2), some (vI v13), some (vI (-9)), none, none, none]) 51 dX11_far_49 rfl (by decide) rfl rfl ?_
      refine j_bipush (v := (-9)) 53 dX11_far_51 rfl (by decide) ?_
      refine j_istore (i := 5) (ls' := [some (vR 1), some (vI a1), some (vI a2), some (vI v13), some (vI (-9)), some (vI (-9)), none, none]) 55 dX11_far_53 rfl (by decide) rfl rfl ?_
      refine j_iconst (v := 0) 56 dX11_far_55 rfl (by decide) ?_
      refine j_istore (i := 6) (ls' := [some (vR 1), some (vI a1), some (vI a2), some (vI v13), some (vI (-9)), some (vI (-9)), some (vI 0), none]) 58 dX11_far_56 rfl (by decide) rfl rfl ?_
      refine j_sub (ls' := [some (vR 1), some (vI a1), some (vI a2), some (vI v13), some (vI (-9)), some (vI (-9)), some (vI 0), none]) (And.intro rfl (And.intro rfl (And.intro rfl (And.intro rfl (And.intro rfl (And.intro rfl (And.intro rfl trivial))))))) ?_
      refine tX11_far_L58 Θ l _ _ _ _  ?_ _ _ _ _ _
      intro v24 v25 s26
      refine j_iload 130 dX11_far_128 rfl rfl ?_
      refine j_bipush (v := (-9)) 132 dX11_far_130 rfl (by decide) ?_
      refine j_icmp_eq 144 135 dX11_far_132 (by decide) rfl (fun c27 => ?_) (fun c27 => ?_)
      · refine j_iload 146 dX11_far_144 rfl rfl ?_
        exact s_iret dX11_far_146 rfl
      · refine j_aload_n 136 dX11_far_135 rfl rfl ?_
        refine s_getR (x := 2) 139 fa1_0 w_402 dX11_far_136 rfl (by decide +kernel) ?_
        refine j_iload 141 dX11_far_139 rfl rfl ?_
        refine s_callVu (M2 := mX10_tell) [vI v25] 144 oa2 cc10 mkX10_tell w_479 dX11_far_141 rfl rfl (tX10_tell Θ l _  _) (by first | exact Nat.le_of_ble_eq_true rfl | omega) (Nat.le_of_ble_eq_true rfl) (Nat.le_of_ble_eq_true rfl) (fun r28 s29 => ?_)
        refine j_iload 146 dX11_far_144 rfl rfl ?_
        exact s_iret dX11_far_146 rfl
-- X5_oneOf
def fX5_oneOf  (a1 : Int32) (s : Mem) : Option (Int32 × Mem) :=
if a1 < 0 then
  some ((-9), s)
else
  if a1 < (s.1 7 0) then
    if inb a1 8 = true then
    some (s.1 8 (ix a1), s)
    else none
  else
    some ((-9), s)
theorem tX5_oneOf (Θ : Th) (l : Launch)  (a1 : Int32)  (s : Mem) : Cs Θ l mX5_oneOf 1 gI [vR 7, vI a1] s (fX5_oneOf a1 s) := by
  refine ct_of (by decide) [some (vR 7), some (vI a1)] rfl (Nat.le_of_ble_eq_true rfl) ?_
  unfold fX5_oneOf
  refine j_iload_n 1 dX5_oneOf_0 rfl rfl ?_
  refine j_if_lt 21 4 dX5_oneOf_1 (by decide) rfl (fun c1 => ?_) (fun c1 => ?_)
  · refine j_bipush (v := (-9)) 23 dX5_oneOf_21 rfl (by decide) ?_
    exact s_iret dX5_oneOf_23 rfl
  · refine j_iload_n 5 dX5_oneOf_4 rfl rfl ?_
    refine j_aload_n 6 dX5_oneOf_5 rfl rfl ?_
    refine s_getI 9 fa7_0 w_142 dX5_oneOf_6 rfl ?_
    refine j_icmp_ge 21 12 dX5_oneOf_9 (by decide) rfl (fun c2 => ?_) (fun c2 => ?_)
    · refine j_aload_n 13 dX5_oneOf_12 rfl rfl ?_
      refine s_getR (x := 8) 16 fa7_1 w_144 dX5_oneOf_13 rfl (by decide +kernel) ?_
      refine j_iload_n 17 dX5_oneOf_16 rfl rfl ?_
      refine s_iaload 18 aa8 dX5_oneOf_17 rfl (fun b3 => ?_)
      refine j_goto 23 dX5_oneOf_18 (by decide) ?_
      exact s_iret dX5_oneOf_23 rfl
    · refine j_bipush (v := (-9)) 23 dX5_oneOf_21 rfl (by decide) ?_
      exact s_iret dX5_oneOf_23 rfl
-- X5_otherOf
def fX5_otherOf  (a1 : Int32) (s : Mem) : Option (Int32 × Mem) :=
if a1 < 0 then
  some ((-9), s)
else
  if a1 < (s.1 7 0) then
    if inb a1 8 = true then
    some (s.1 9 (ix a1), s)
    else none
  else
    some ((-9), s)
theorem tX5_otherOf (Θ : Th) (l : Launch)  (a1 : Int32)  (s : Mem) : Cs Θ l mX5_otherOf 1 gI [vR 7, vI a1] s (fX5_otherOf a1 s) := by
  refine ct_of (by decide) [some (vR 7), some (vI a1)] rfl (Nat.le_of_ble_eq_true rfl) ?_
  unfold fX5_otherOf
  refine j_iload_n 1 dX5_otherOf_0 rfl rfl ?_
  refine j_if_lt 21 4 dX5_otherOf_1 (by decide) rfl (fun c1 => ?_) (fun c1 => ?_)
  · refine j_bipush (v := (-9)) 23 dX5_otherOf_21 rfl (by decide) ?_
    exact s_iret dX5_otherOf_23 rfl
  · refine j_iload_n 5 dX5_otherOf_4 rfl rfl ?_
    refine j_aload_n 6 dX5_otherOf_5 rfl rfl ?_
    refine s_getI 9 fa7_0 w_142 dX5_otherOf_6 rfl ?_
    refine j_icmp_ge 21 12 dX5_otherOf_9 (by decide) rfl (fun c2 => ?_) (fun c2 => ?_)
    · refine j_aload_n 13 dX5_otherOf_12 rfl rfl ?_
      refine s_getR (x := 9) 16 fa7_2 w_145 dX5_otherOf_13 rfl (by decide +kernel) ?_
      refine j_iload_n 17 dX5_otherOf_16 rfl rfl ?_
      refine s_iaload 18 aa9 dX5_otherOf_17 rfl (fun b3 => ?_)
      refine j_goto 23 dX5_otherOf_18 (by decide) ?_
      exact s_iret dX5_otherOf_23 rfl
    · refine j_bipush (v := (-9)) 23 dX5_otherOf_21 rfl (by decide) ?_
      exact s_iret dX5_otherOf_23 rfl
-- X11_crossed
def fX11_crossed_L6  (κ : Int32 → Int32 → Mem → Option (Int32 × Mem))  : Nat → Int32 → Int32 → Int32 → Mem → Option (Int32 × Mem)
  | 0, _, _, _, _ => none
  | k + 1, x1, x2, x3, s =>
    if x3 < (s.1 7 0) then
      bnd (fX5_oneOf x3 s) (fun r2 s3 =>
      bnd (fX0_benchOf r2 s3) (fun r4 s5 =>
      bnd (fX5_otherOf x3 s5) (fun r6 s7 =>
      bnd (fX0_benchOf r6 s7) (fun r8 s9 =>
      if r4 = (-9) then
        fX11_crossed_L6 κ k x1 x2 (x3 + 1) s9
      else
        if r8 = (-9) then
          fX11_crossed_L6 κ k x1 x2 (x3 + 1) s9
        else
          bnd (fX0_xOf r4 s9) (fun r12 s13 =>
          bnd (fX0_xOf r8 s13) (fun r14 s15 =>
          if (r12 * r14) < 0 then
            if 1 < (ab (r4 - r8)) then
              fX11_crossed_L6 κ k (x1 + 1) x2 (x3 + 1) s15
            else
              fX11_crossed_L6 κ k (x1 + 1) (x2 + 1) (x3 + 1) s15
          else
            if 1 < (ab (r4 - r8)) then
              fX11_crossed_L6 κ k x1 x2 (x3 + 1) s15
            else
              fX11_crossed_L6 κ k x1 (x2 + 1) (x3 + 1) s15))))))
    else
      κ x1 x2 s
def fX11_crossed   (s : Mem) : Option (Int32 × Mem) :=
fX11_crossed_L6 (fun v19 v20 s21 =>
  bnd (fX10_tell v20 s21) (fun r22 s23 =>
  some (v19, s23)))  FU 0 0 0 s
theorem tX11_crossed_L6 (Θ : Th) (l : Launch)  (κ : Int32 → Int32 → Mem → Option (Int32 × Mem))   (hκ : ∀ (x1 : Int32) (x2 : Int32) (s : Mem), Js Θ l mX11_crossed 3 gI 111 [some (vR 1), some (vI x1), some (vI x2), none, none, none] [] s (κ x1 x2 s)) : ∀ (k : Nat) (x1 : Int32) (x2 : Int32) (x3 : Int32) (s : Mem), Js Θ l mX11_crossed 3 gI 6 [some (vR 1), some (vI x1), some (vI x2), some (vI x3), none, none] [] s (fX11_crossed_L6 κ  k x1 x2 x3 s) := by
  intro k
  induction k with
  | zero => intro x1 x2 x3 s; exact j_none
  | succ k ih =>
    intro x1 x2 x3 s
    rw [fX11_crossed_L6]
    refine j_iload_n 7 dX11_crossed_6 rfl rfl ?_
    refine j_aload_n 8 dX11_crossed_7 rfl rfl ?_
    refine s_getR (x := 7) 11 fa1_4 w_406 dX11_crossed_8 rfl (by decide +kernel) ?_
    refine s_getI 14 fa7_0 w_143 dX11_crossed_11 rfl ?_
    refine j_icmp_ge 111 17 dX11_crossed_14 (by decide) rfl (fun c1 => ?_) (fun c1 => ?_)
    · refine j_aload_n 18 dX11_crossed_17 rfl rfl ?_
      refine s_getR (x := 6) 21 fa1_3 w_405 dX11_crossed_18 rfl (by decide +kernel) ?_
      refine j_aload_n 22 dX11_crossed_21 rfl rfl ?_
      refine s_getR (x := 7) 25 fa1_4 w_406 dX11_crossed_22 rfl (by decide +kernel) ?_
      refine j_iload_n 26 dX11_crossed_25 rfl rfl ?_
      refine s_callVi (M2 := mX5_oneOf) [vI x3] 29 oa7 cc5 mkX5_oneOf w_1095 dX11_crossed_26 rfl rfl (tX5_oneOf Θ l _  _) (by first | exact Nat.le_of_ble_eq_true rfl | omega) (Nat.le_of_ble_eq_true rfl) (Nat.le_of_ble_eq_true rfl) (fun r2 s3 => ?_)
      refine s_callVi (M2 := mX0_benchOf) [vI r2] 32 oa6 cc0 mkX0_benchOf w_722 dX11_crossed_29 rfl rfl (tX0_benchOf Θ l _  _) (by first | exact Nat.le_of_ble_eq_true rfl | omega) (Nat.le_of_ble_eq_true rfl) (Nat.le_of_ble_eq_true rfl) (fun r4 s5 => ?_)
      refine j_istore (i := 4) (ls' := [some (vR 1), some (vI x1), some (vI x2), some (vI x3), some (vI r4), none]) 34 dX11_crossed_32 rfl (by decide) rfl rfl ?_
      refine j_aload_n 35 dX11_crossed_34 rfl rfl ?_
      refine s_getR (x := 6) 38 fa1_3 w_405 dX11_crossed_35 rfl (by decide +kernel) ?_
      refine j_aload_n 39 dX11_crossed_38 rfl rfl ?_
      refine s_getR (x := 7) 42 fa1_4 w_406 dX11_crossed_39 rfl (by decide +kernel) ?_
      refine j_iload_n 43 dX11_crossed_42 rfl rfl ?_
      refine s_callVi (M2 := mX5_otherOf) [vI x3] 46 oa7 cc5 mkX5_otherOf w_1099 dX11_crossed_43 rfl rfl (tX5_otherOf Θ l _  _) (by first | exact Nat.le_of_ble_eq_true rfl | omega) (Nat.le_of_ble_eq_true rfl) (Nat.le_of_ble_eq_true rfl) (fun r6 s7 => ?_)
      refine s_callVi (M2 := mX0_benchOf) [vI r6] 49 oa6 cc0 mkX0_benchOf w_722 dX11_crossed_46 rfl rfl (tX0_benchOf Θ l _  _) (by first | exact Nat.le_of_ble_eq_true rfl | omega) (Nat.le_of_ble_eq_true rfl) (Nat.le_of_ble_eq_true rfl) (fun r8 s9 => ?_)
      refine j_istore (i := 5) (ls' := [some (vR 1), some (vI x1), some (vI x2), some (vI x3), some (vI r4), some (vI r8)]) 51 dX11_crossed_49 rfl (by decide) rfl rfl ?_
      refine j_iload 53 dX11_crossed_51 rfl rfl ?_
      refine j_bipush (v := (-9)) 55 dX11_crossed_53 rfl (by decide) ?_
      refine j_icmp_eq 105 58 dX11_crossed_55 (by decide) rfl (fun c10 => ?_) (fun c10 => ?_)
      · refine j_iinc (v := x3 + 1) (ls' := [some (vR 1), some (vI x1), some (vI x2), some (vI (x3 + 1)), some (vI r4), some (vI r8)]) 108 dX11_crossed_105 rfl rfl rfl (by decide) rfl rfl ?_
        refine j_goto 6 dX11_crossed_108 (by decide) ?_
        refine j_sub (ls' := [some (vR 1), some (vI x1), some (vI x2), some (vI (x3 + 1)), none, none]) (And.intro rfl (And.intro rfl (And.intro rfl (And.intro rfl trivial)))) ?_
        exact ih x1 x2 (x3 + 1) s9
      · refine j_iload 60 dX11_crossed_58 rfl rfl ?_
        refine j_bipush (v := (-9)) 62 dX11_crossed_60 rfl (by decide) ?_
        refine j_icmp_eq 105 65 dX11_crossed_62 (by decide) rfl (fun c11 => ?_) (fun c11 => ?_)
        · refine j_iinc (v := x3 + 1) (ls' := [some (vR 1), some (vI x1), some (vI x2), some (vI (x3 + 1)), some (vI r4), some (vI r8)]) 108 dX11_crossed_105 rfl rfl rfl (by decide) rfl rfl ?_
          refine j_goto 6 dX11_crossed_108 (by decide) ?_
          refine j_sub (ls' := [some (vR 1), some (vI x1), some (vI x2), some (vI (x3 + 1)), none, none]) (And.intro rfl (And.intro rfl (And.intro rfl (And.intro rfl trivial)))) ?_
          exact ih x1 x2 (x3 + 1) s9
        · refine j_aload_n 66 dX11_crossed_65 rfl rfl ?_
          refine s_getR (x := 6) 69 fa1_3 w_405 dX11_crossed_66 rfl (by decide +kernel) ?_
          refine j_iload 71 dX11_crossed_69 rfl rfl ?_
          refine s_callVi (M2 := mX0_xOf) [vI r4] 74 oa6 cc0 mkX0_xOf w_683 dX11_crossed_71 rfl rfl (tX0_xOf Θ l _  _) (by first | exact Nat.le_of_ble_eq_true rfl | omega) (Nat.le_of_ble_eq_true rfl) (Nat.le_of_ble_eq_true rfl) (fun r12 s13 => ?_)
          refine j_aload_n 75 dX11_crossed_74 rfl rfl ?_
          refine s_getR (x := 6) 78 fa1_3 w_405 dX11_crossed_75 rfl (by decide +kernel) ?_
          refine j_iload 80 dX11_crossed_78 rfl rfl ?_
          refine s_callVi (M2 := mX0_xOf) [vI r8] 83 oa6 cc0 mkX0_xOf w_683 dX11_crossed_80 rfl rfl (tX0_xOf Θ l _  _) (by first | exact Nat.le_of_ble_eq_true rfl | omega) (Nat.le_of_ble_eq_true rfl) (Nat.le_of_ble_eq_true rfl) (fun r14 s15 => ?_)
          refine j_imul 84 dX11_crossed_83 rfl ?_
          refine j_if_ge 90 87 dX11_crossed_84 (by decide) rfl (fun c16 => ?_) (fun c16 => ?_)
          · refine j_iinc (v := x1 + 1) (ls' := [some (vR 1), some (vI (x1 + 1)), some (vI x2), some (vI x3), some (vI r4), some (vI r8)]) 90 dX11_crossed_87 rfl rfl rfl (by decide) rfl rfl ?_
            refine j_iload 92 dX11_crossed_90 rfl rfl ?_
            refine j_iload 94 dX11_crossed_92 rfl rfl ?_
            refine j_isub 95 dX11_crossed_94 rfl ?_
            refine s_mabs 98 dX11_crossed_95 rfl wm_926 wt_abs wi_math wc_abs (by first | exact Nat.le_of_ble_eq_true rfl | omega) (Nat.le_of_ble_eq_true rfl) ?_
            refine j_iconst (v := 1) 99 dX11_crossed_98 rfl (by decide) ?_
            refine j_icmp_gt 105 102 dX11_crossed_99 (by decide) rfl (fun c17 => ?_) (fun c17 => ?_)
            · refine j_iinc (v := x3 + 1) (ls' := [some (vR 1), some (vI (x1 + 1)), some (vI x2), some (vI (x3 + 1)), some (vI r4), some (vI r8)]) 108 dX11_crossed_105 rfl rfl rfl (by decide) rfl rfl ?_
              refine j_goto 6 dX11_crossed_108 (by decide) ?_
              refine j_sub (ls' := [some (vR 1), some (vI (x1 + 1)), some (vI x2), some (vI (x3 + 1)), none, none]) (And.intro rfl (And.intro rfl (And.intro rfl (And.intro rfl trivial)))) ?_
              exact ih (x1 + 1) x2 (x3 + 1) s15
            · refine j_iinc (v := x2 + 1) (ls' := [some (vR 1), some (vI (x1 + 1)), some (vI (x2 + 1)), some (vI x3), some (vI r4), some (vI r8)]) 105 dX11_crossed_102 rfl rfl rfl (by decide) rfl rfl ?_
              refine j_iinc (v := x3 + 1) (ls' := [some (vR 1), some (vI (x1 + 1)), some (vI (x2 + 1)), some (vI (x3 + 1)), some (vI r4), some (vI r8)]) 108 dX11_crossed_105 rfl rfl rfl (by decide) rfl rfl ?_
              refine j_goto 6 dX11_crossed_108 (by decide) ?_
              refine j_sub (ls' := [some (vR 1), some (vI (x1 + 1)), some (vI (x2 + 1)), some (vI (x3 + 1)), none, none]) (And.intro rfl (And.intro rfl (And.intro rfl (And.intro rfl trivial)))) ?_
              exact ih (x1 + 1) (x2 + 1) (x3 + 1) s15
          · refine j_iload 92 dX11_crossed_90 rfl rfl ?_
            refine j_iload 94 dX11_crossed_92 rfl rfl ?_
            refine j_isub 95 dX11_crossed_94 rfl ?_
            refine s_mabs 98 dX11_crossed_95 rfl wm_926 wt_abs wi_math wc_abs (by first | exact Nat.le_of_ble_eq_true rfl | omega) (Nat.le_of_ble_eq_true rfl) ?_
            refine j_iconst (v := 1) 99 dX11_crossed_98 rfl (by decide) ?_
            refine j_icmp_gt 105 102 dX11_crossed_99 (by decide) rfl (fun c18 => ?_) (fun c18 => ?_)
            · refine j_iinc (v := x3 + 1) (ls' := [some (vR 1), some (vI x1), some (vI x2), some (vI (x3 + 1)), some (vI r4), some (vI r8)]) 108 dX11_crossed_105 rfl rfl rfl (by decide) rfl rfl ?_
              refine j_goto 6 dX11_crossed_108 (by decide) ?_
              refine j_sub (ls' := [some (vR 1), some (vI x1), some (vI x2), some (vI (x3 + 1)), none, none]) (And.intro rfl (And.intro rfl (And.intro rfl (And.intro rfl trivial)))) ?_
              exact ih x1 x2 (x3 + 1) s15
            · refine j_iinc (v := x2 + 1) (ls' := [some (vR 1), some (vI x1), some (vI (x2 + 1)), some (vI x3), some (vI r4), some (vI r8)]) 105 dX11_crossed_102 rfl rfl rfl (by decide) rfl rfl ?_
              refine j_iinc (v := x3 + 1) (ls' := [some (vR 1), some (vI x1), some (vI (x2 + 1)), some (vI (x3 + 1)), some (vI r4), some (vI r8)]) 108 dX11_crossed_105 rfl rfl rfl (by decide) rfl rfl ?_
              refine j_goto 6 dX11_crossed_108 (by decide) ?_
              refine j_sub (ls' := [some (vR 1), some (vI x1), some (vI (x2 + 1)), some (vI (x3 + 1)), none, none]) (And.intro rfl (And.intro rfl (And.intro rfl (And.intro rfl trivial)))) ?_
              exact ih x1 (x2 + 1) (x3 + 1) s15
    · refine j_sub (ls' := [some (vR 1), some (vI x1), some (vI x2), none, none, none]) (And.intro rfl (And.intro rfl (And.intro rfl trivial))) ?_
      exact hκ x1 x2 s
theorem tX11_crossed (Θ : Th) (l : Launch)    (s : Mem) : Cs Θ l mX11_crossed 3 gI [vR 1] s (fX11_crossed  s) := by
  refine ct_of (by decide) [some (vR 1), none, none, none, none, none] rfl (Nat.le_of_ble_eq_true rfl) ?_
  unfold fX11_crossed
  refine j_iconst (v := 0) 1 dX11_crossed_0 rfl (by decide) ?_
  refine j_istore_n (i := 1) (ls' := [some (vR 1), some (vI 0), none, none, none, none]) 2 dX11_crossed_1 rfl rfl (by decide) rfl rfl ?_
  refine j_iconst (v := 0) 3 dX11_crossed_2 rfl (by decide) ?_
  refine j_istore_n (i := 2) (ls' := [some (vR 1), some (vI 0), some (vI 0), none, none, none]) 4 dX11_crossed_3 rfl rfl (by decide) rfl rfl ?_
  refine j_iconst (v := 0) 5 dX11_crossed_4 rfl (by decide) ?_
  refine j_istore_n (i := 3) (ls' := [some (vR 1), some (vI 0), some (vI 0), some (vI 0), none, none]) 6 dX11_crossed_5 rfl rfl (by decide) rfl rfl ?_
  refine j_sub (ls' := [some (vR 1), some (vI 0), some (vI 0), some (vI 0), none, none]) (And.intro rfl (And.intro rfl (And.intro rfl (And.intro rfl trivial)))) ?_
  refine tX11_crossed_L6 Θ l _   ?_ _ _ _ _ _
  intro v19 v20 s21
  refine j_aload_n 112 dX11_crossed_111 rfl rfl ?_
  refine s_getR (x := 2) 115 fa1_0 w_402 dX11_crossed_112 rfl (by decide +kernel) ?_
  refine j_iload_n 116 dX11_crossed_115 rfl rfl ?_
  refine s_callVu (M2 := mX10_tell) [vI v20] 119 oa2 cc10 mkX10_tell w_479 dX11_crossed_116 rfl rfl (tX10_tell Θ l _  _) (by first | exact Nat.le_of_ble_eq_true rfl | omega) (Nat.le_of_ble_eq_true rfl) (Nat.le_of_ble_eq_true rfl) (fun r22 s23 => ?_)
  refine j_iload_n 120 dX11_crossed_119 rfl rfl ?_
  exact s_iret dX11_crossed_120 rfl
-- X0_everybody
def fX0_everybody   (s : Mem) : Option (Int32 × Mem) :=
some (((1 : Int32) <<< ((s.1 6 1) &&& 31)) - 1, s)
theorem tX0_everybody (Θ : Th) (l : Launch)    (s : Mem) : Cs Θ l mX0_everybody 1 gI [vR 6] s (fX0_everybody  s) := by
  refine ct_of (by decide) [some (vR 6)] rfl (Nat.le_of_ble_eq_true rfl) ?_
  unfold fX0_everybody
  refine j_iconst (v := 1) 1 dX0_everybody_0 rfl (by decide) ?_
  refine j_aload_n 2 dX0_everybody_1 rfl rfl ?_
  refine s_getI 5 fa6_1 w_160 dX0_everybody_2 rfl ?_
  refine j_ishl 6 dX0_everybody_5 rfl ?_
  refine j_iconst (v := 1) 7 dX0_everybody_6 rfl (by decide) ?_
  refine j_isub 8 dX0_everybody_7 rfl ?_
  exact s_iret dX0_everybody_8 rfl
-- X11_divorce
def fX11_divorce_L34  (κ : Int32 → Int32 → Mem → Option (Int32 × Mem)) (y1 : Int32) : Nat → Int32 → Int32 → Int32 → Mem → Option (Int32 × Mem)
  | 0, _, _, _, _ => none
  | k + 1, x2, x3, x4, s =>
    if x4 < 0 then
      κ x2 x3 s
    else
      bnd (fX0_weighAll x4 s) (fun r10 s11 =>
      nm ((2 * r10) - y1) (fun v12 =>
      if v12 < 0 then
        fX11_divorce_L34 κ y1 k x2 x3 (x4 + (-1)) s11
      else
        if x2 < v12 then
          fX11_divorce_L34 κ y1 k x2 x3 (x4 + (-1)) s11
        else
          fX11_divorce_L34 κ y1 k v12 x4 (x4 + (-1)) s11))
def fX11_divorce   (s : Mem) : Option (Int32 × Mem) :=
bnd (fX0_everybody s) (fun r1 s2 =>
bnd (fX0_weighAll r1 s2) (fun r3 s4 =>
bnd (fX0_everybody s4) (fun r5 s6 =>
bnd (fX0_everybody s6) (fun r7 s8 =>
fX11_divorce_L34 (fun v15 v16 s17 =>
  bnd (fX10_tell v16 s17) (fun r18 s19 =>
  some (v15, s19))) r3 FU r3 r5 r7 s8))))
theorem tX11_divorce_L34 (Θ : Th) (l : Launch)  (κ : Int32 → Int32 → Mem → Option (Int32 × Mem)) (y1 : Int32)  (hκ : ∀ (x2 : Int32) (x3 : Int32) (s : Mem), Js Θ l mX11_divorce 5 gI 77 [some (vR 1), none, some (vI x2), some (vI x3), none, none] [] s (κ x2 x3 s)) : ∀ (k : Nat) (x2 : Int32) (x3 : Int32) (x4 : Int32) (s : Mem), Js Θ l mX11_divorce 5 gI 34 [some (vR 1), some (vI y1), some (vI x2), some (vI x3), some (vI x4), none] [] s (fX11_divorce_L34 κ y1 k x2 x3 x4 s) := by
  intro k
  induction k with
  | zero => intro x2 x3 x4 s; exact j_none
  | succ k ih =>
    intro x2 x3 x4 s
    rw [fX11_divorce_L34]
    refine j_iload 36 dX11_divorce_34 rfl rfl ?_
    refine j_if_lt 77 39 dX11_divorce_36 (by decide) rfl (fun c9 => ?_) (fun c9 => ?_)
    · refine j_sub (ls' := [some (vR 1), none, some (vI x2), some (vI x3), none, none]) (And.intro rfl (And.intro rfl (And.intro rfl trivial))) ?_
      exact hκ x2 x3 s
    · refine j_iconst (v := 2) 40 dX11_divorce_39 rfl (by decide) ?_
      refine j_aload_n 41 dX11_divorce_40 rfl rfl ?_
      refine s_getR (x := 6) 44 fa1_3 w_405 dX11_divorce_41 rfl (by decide +kernel) ?_
      refine j_iload 46 dX11_divorce_44 rfl rfl ?_
      refine s_callVi (M2 := mX0_weighAll) [vI x4] 49 oa6 cc0 mkX0_weighAll w_703 dX11_divorce_46 rfl rfl (tX0_weighAll Θ l _  _) (by first | exact Nat.le_of_ble_eq_true rfl | omega) (Nat.le_of_ble_eq_true rfl) (Nat.le_of_ble_eq_true rfl) (fun r10 s11 => ?_)
      refine j_imul 50 dX11_divorce_49 rfl ?_
      refine j_iload_n 51 dX11_divorce_50 rfl rfl ?_
      refine j_isub 52 dX11_divorce_51 rfl ?_
      refine s_nmI (fun v12 => ?_)
      refine j_istore (i := 5) (ls' := [some (vR 1), some (vI y1), some (vI x2), some (vI x3), some (vI x4), some (vI v12)]) 54 dX11_divorce_52 rfl (by decide) rfl rfl ?_
      refine j_iload 56 dX11_divorce_54 rfl rfl ?_
      refine j_if_lt 71 59 dX11_divorce_56 (by decide) rfl (fun c13 => ?_) (fun c13 => ?_)
      · refine j_iinc (v := x4 + (-1)) (ls' := [some (vR 1), some (vI y1), some (vI x2), some (vI x3), some (vI (x4 + (-1))), some (vI v12)]) 74 dX11_divorce_71 rfl rfl rfl (by decide) rfl rfl ?_
        refine j_goto 34 dX11_divorce_74 (by decide) ?_
        refine j_sub (ls' := [some (vR 1), some (vI y1), some (vI x2), some (vI x3), some (vI (x4 + (-1))), none]) (And.intro rfl (And.intro rfl (And.intro rfl (And.intro rfl (And.intro rfl trivial))))) ?_
        exact ih x2 x3 (x4 + (-1)) s11
      · refine j_iload 61 dX11_divorce_59 rfl rfl ?_
        refine j_iload_n 62 dX11_divorce_61 rfl rfl ?_
        refine j_icmp_gt 71 65 dX11_divorce_62 (by decide) rfl (fun c14 => ?_) (fun c14 => ?_)
        · refine j_iinc (v := x4 + (-1)) (ls' := [some (vR 1), some (vI y1), some (vI x2), some (vI x3), some (vI (x4 + (-1))), some (vI v12)]) 74 dX11_divorce_71 rfl rfl rfl (by decide) rfl rfl ?_
          refine j_goto 34 dX11_divorce_74 (by decide) ?_
          refine j_sub (ls' := [some (vR 1), some (vI y1), some (vI x2), some (vI x3), some (vI (x4 + (-1))), none]) (And.intro rfl (And.intro rfl (And.intro rfl (And.intro rfl (And.intro rfl trivial))))) ?_
          exact ih x2 x3 (x4 + (-1)) s11
        · refine j_iload 67 dX11_divorce_65 rfl rfl ?_
          refine j_istore_n (i := 2) (ls' := [some (vR 1), some (vI y1), some (vI v12), some (vI x3), some (vI x4), some (vI v12)]) 68 dX11_divorce_67 rfl rfl (by decide) rfl rfl ?_
          refine j_iload 70 dX11_divorce_68 rfl rfl ?_
          refine j_istore_n (i := 3) (ls' := [some (vR 1), some (vI y1), some (vI v12), some (vI x4), some (vI x4), some (vI v12)]) 71 dX11_divorce_70 rfl rfl (by decide) rfl rfl ?_
          refine j_iinc (v := x4 + (-1)) (ls' := [some (vR 1), some (vI y1), some (vI v12), some (vI x4), some (vI (x4 + (-1))), some (vI v12)]) 74 dX11_divorce_71 rfl rfl rfl (by decide) rfl rfl ?_
          refine j_goto 34 dX11_divorce_74 (by decide) ?_
          refine j_sub (ls' := [some (vR 1), some (vI y1), some (vI v12), some (vI x4), some (vI (x4 + (-1))), none]) (And.intro rfl (And.intro rfl (And.intro rfl (And.intro rfl (And.intro rfl trivial))))) ?_
          exact ih v12 x4 (x4 + (-1)) s11
theorem tX11_divorce (Θ : Th) (l : Launch)    (s : Mem) : Cs Θ l mX11_divorce 5 gI [vR 1] s (fX11_divorce  s) := by
  refine ct_of (by decide) [some (vR 1), none, none, none, none, none] rfl (Nat.le_of_ble_eq_true rfl) ?_
  unfold fX11_divorce
  refine j_aload_n 1 dX11_divorce_0 rfl rfl ?_
  refine s_getR (x := 6) 4 fa1_3 w_405 dX11_divorce_1 rfl (by decide +kernel) ?_
  refine j_aload_n 5 dX11_divorce_4 rfl rfl ?_
  refine s_getR (x := 6) 8 fa1_3 w_405 dX11_divorce_5 rfl (by decide +kernel) ?_
  refine s_callVi (M2 := mX0_everybody) [] 11 oa6 cc0 mkX0_everybody w_1107 dX11_divorce_8 rfl rfl (tX0_everybody Θ l   _) (by first | exact Nat.le_of_ble_eq_true rfl | omega) (Nat.le_of_ble_eq_true rfl) (Nat.le_of_ble_eq_true rfl) (fun r1 s2 => ?_)
  refine s_callVi (M2 := mX0_weighAll) [vI r1] 14 oa6 cc0 mkX0_weighAll w_703 dX11_divorce_11 rfl rfl (tX0_weighAll Θ l _  _) (by first | exact Nat.le_of_ble_eq_true rfl | omega) (Nat.le_of_ble_eq_true rfl) (Nat.le_of_ble_eq_true rfl) (fun r3 s4 => ?_)
  refine j_istore_n (i := 1) (ls' := [some (vR 1), some (vI r3), none, none, none, none]) 15 dX11_divorce_14 rfl rfl (by decide) rfl rfl ?_
  refine j_iload_n 16 dX11_divorce_15 rfl rfl ?_
  refine j_istore_n (i := 2) (ls' := [some (vR 1), some (vI r3), some (vI r3), none, none, none]) 17 dX11_divorce_16 rfl rfl (by decide) rfl rfl ?_
  refine j_aload_n 18 dX11_divorce_17 rfl rfl ?_
  refine s_getR (x := 6) 21 fa1_3 w_405 dX11_divorce_18 rfl (by decide +kernel) ?_
  refine s_callVi (M2 := mX0_everybody) [] 24 oa6 cc0 mkX0_everybody w_1107 dX11_divorce_21 rfl rfl (tX0_everybody Θ l   _) (by first | exact Nat.le_of_ble_eq_true rfl | omega) (Nat.le_of_ble_eq_true rfl) (Nat.le_of_ble_eq_true rfl) (fun r5 s6 => ?_)
  refine j_istore_n (i := 3) (ls' := [some (vR 1), some (vI r3), some (vI r3), some (vI r5), none, none]) 25 dX11_divorce_24 rfl rfl (by decide) rfl rfl ?_
  refine j_aload_n 26 dX11_divorce_25 rfl rfl ?_
  refine s_getR (x := 6) 29 fa1_3 w_405 dX11_divorce_26 rfl (by decide +kernel) ?_
  refine s_callVi (M2 := mX0_everybody) [] 32 oa6 cc0 mkX0_everybody w_1107 dX11_divorce_29 rfl rfl (tX0_everybody Θ l   _) (by first | exact Nat.le_of_ble_eq_true rfl | omega) (Nat.le_of_ble_eq_true rfl) (Nat.le_of_ble_eq_true rfl) (fun r7 s8 => ?_)
  refine j_istore (i := 4) (ls' := [some (vR 1), some (vI r3), some (vI r3), some (vI r5), some (vI r7), none]) 34 dX11_divorce_32 rfl (by decide) rfl rfl ?_
  refine j_sub (ls' := [some (vR 1), some (vI r3), some (vI r3), some (vI r5), some (vI r7), none]) (And.intro rfl (And.intro rfl (And.intro rfl (And.intro rfl (And.intro rfl trivial))))) ?_
  refine tX11_divorce_L34 Θ l _ _  ?_ _ _ _ _ _
  intro v15 v16 s17
  refine j_aload_n 78 dX11_divorce_77 rfl rfl ?_
  refine s_getR (x := 2) 81 fa1_0 w_402 dX11_divorce_78 rfl (by decide +kernel) ?_
  refine j_iload_n 82 dX11_divorce_81 rfl rfl ?_
  refine s_callVu (M2 := mX10_tell) [vI v16] 85 oa2 cc10 mkX10_tell w_479 dX11_divorce_82 rfl rfl (tX10_tell Θ l _  _) (by first | exact Nat.le_of_ble_eq_true rfl | omega) (Nat.le_of_ble_eq_true rfl) (Nat.le_of_ble_eq_true rfl) (fun r18 s19 => ?_)
  refine j_iload_n 86 dX11_divorce_85 rfl rfl ?_
  exact s_iret dX11_divorce_86 rfl
-- X11_kin
def fX11_kin_L46  (κ : Int32 → Int32 → Mem → Option (Int32 × Mem)) (y1 : Int32) (y2 : Int32) (y3 : Int32) : Nat → Int32 → Int32 → Int32 → Mem → Option (Int32 × Mem)
  | 0, _, _, _, _ => none
  | k + 1, x4, x5, x6, s =>
    bnd (fX0_everybody s) (fun r10 s11 =>
    if r10 < x6 then
      κ x4 x5 s11
    else
      bnd (fX0_weighAll (y3 ^^^ x6) s11) (fun r13 s14 =>
      nm (ab ((2 * r13) - y2)) (fun v15 =>
      bnd (fJ6_bitCount_0f7a4 x6 s14) (fun r16 s17 =>
      if y1 < v15 then
        fX11_kin_L46 κ y1 y2 y3 k x4 x5 (x6 + 1) s17
      else
        if x4 = (-9) then
          fX11_kin_L46 κ y1 y2 y3 k r16 x6 (x6 + 1) s17
        else
          if r16 < x4 then
            fX11_kin_L46 κ y1 y2 y3 k r16 x6 (x6 + 1) s17
          else
            fX11_kin_L46 κ y1 y2 y3 k x4 x5 (x6 + 1) s17))))
def fX11_kin  (a1 : Int32) (s : Mem) : Option (Int32 × Mem) :=
bnd (fX11_isWithin a1 0 99 s) (fun r1 s2 =>
if r1 = 0 then
  some ((-1), s2)
else
  bnd (fX0_everybody s2) (fun r4 s5 =>
  bnd (fX0_weighAll r4 s5) (fun r6 s7 =>
  bnd (fX0_kinSet 1 s7) (fun r8 s9 =>
  fX11_kin_L46 (fun v21 v22 s23 =>
    if v21 = (-9) then
      some (v21, s23)
    else
      bnd (fX10_tell v22 s23) (fun r25 s26 =>
      some (v21, s26))) a1 r6 r8 FU (-9) 0 0 s9))))
theorem tX11_kin_L46 (Θ : Th) (l : Launch)  (κ : Int32 → Int32 → Mem → Option (Int32 × Mem)) (y1 : Int32) (y2 : Int32) (y3 : Int32)  (hκ : ∀ (x4 : Int32) (x5 : Int32) (s : Mem), Js Θ l mX11_kin 5 gI 119 [some (vR 1), none, none, none, some (vI x4), some (vI x5), none, none, none] [] s (κ x4 x5 s)) : ∀ (k : Nat) (x4 : Int32) (x5 : Int32) (x6 : Int32) (s : Mem), Js Θ l mX11_kin 5 gI 46 [some (vR 1), some (vI y1), some (vI y2), some (vI y3), some (vI x4), some (vI x5), some (vI x6), none, none] [] s (fX11_kin_L46 κ y1 y2 y3 k x4 x5 x6 s) := by
  intro k
  induction k with
  | zero => intro x4 x5 x6 s; exact j_none
  | succ k ih =>
    intro x4 x5 x6 s
    rw [fX11_kin_L46]
    refine j_iload 48 dX11_kin_46 rfl rfl ?_
    refine j_aload_n 49 dX11_kin_48 rfl rfl ?_
    refine s_getR (x := 6) 52 fa1_3 w_405 dX11_kin_49 rfl (by decide +kernel) ?_
    refine s_callVi (M2 := mX0_everybody) [] 55 oa6 cc0 mkX0_everybody w_1107 dX11_kin_52 rfl rfl (tX0_everybody Θ l   _) (by first | exact Nat.le_of_ble_eq_true rfl | omega) (Nat.le_of_ble_eq_true rfl) (Nat.le_of_ble_eq_true rfl) (fun r10 s11 => ?_)
    refine j_icmp_gt 119 58 dX11_kin_55 (by decide) rfl (fun c12 => ?_) (fun c12 => ?_)
    · refine j_sub (ls' := [some (vR 1), none, none, none, some (vI x4), some (vI x5), none, none, none]) (And.intro rfl (And.intro rfl (And.intro rfl trivial))) ?_
      exact hκ x4 x5 s11
    · refine j_iconst (v := 2) 59 dX11_kin_58 rfl (by decide) ?_
      refine j_aload_n 60 dX11_kin_59 rfl rfl ?_
      refine s_getR (x := 6) 63 fa1_3 w_405 dX11_kin_60 rfl (by decide +kernel) ?_
      refine j_iload_n 64 dX11_kin_63 rfl rfl ?_
      refine j_iload 66 dX11_kin_64 rfl rfl ?_
      refine j_ixor 67 dX11_kin_66 rfl ?_
      refine s_callVi (M2 := mX0_weighAll) [vI (y3 ^^^ x6)] 70 oa6 cc0 mkX0_weighAll w_703 dX11_kin_67 rfl rfl (tX0_weighAll Θ l _  _) (by first | exact Nat.le_of_ble_eq_true rfl | omega) (Nat.le_of_ble_eq_true rfl) (Nat.le_of_ble_eq_true rfl) (fun r13 s14 => ?_)
      refine j_imul 71 dX11_kin_70 rfl ?_
      refine j_iload_n 72 dX11_kin_71 rfl rfl ?_
      refine j_isub 73 dX11_kin_72 rfl ?_
      refine s_mabs 76 dX11_kin_73 rfl wm_926 wt_abs wi_math wc_abs (by first | exact Nat.le_of_ble_eq_true rfl | omega) (Nat.le_of_ble_eq_true rfl) ?_
      refine s_nmI (fun v15 => ?_)
      refine j_istore (i := 7) (ls' := [some (vR 1), some (vI y1), some (vI y2), some (vI y3), some (vI x4), some (vI x5), some (vI x6), some (vI v15), none]) 78 dX11_kin_76 rfl (by decide) rfl rfl ?_
      refine j_iload 80 dX11_kin_78 rfl rfl ?_
      refine s_callSi (M2 := mJ6_bitCount_0f7a4) [vI x6] 83 mkJ6_bitCount_0f7a4 (Or.inl w_744) dX11_kin_80 rfl rfl (tJ6_bitCount_0f7a4 Θ l _  _) (by first | exact Nat.le_of_ble_eq_true rfl | omega) (Nat.le_of_ble_eq_true rfl) (Nat.le_of_ble_eq_true rfl) (fun r16 s17 => ?_)
      refine j_istore (i := 8) (ls' := [some (vR 1), some (vI y1), some (vI y2), some (vI y3), some (vI x4), some (vI x5), some (vI x6), some (vI v15), some (vI r16)]) 85 dX11_kin_83 rfl (by decide) rfl rfl ?_
      refine j_iload 87 dX11_kin_85 rfl rfl ?_
      refine j_iload_n 88 dX11_kin_87 rfl rfl ?_
      refine j_icmp_gt 113 91 dX11_kin_88 (by decide) rfl (fun c18 => ?_) (fun c18 => ?_)
      · refine j_iinc (v := x6 + 1) (ls' := [some (vR 1), some (vI y1), some (vI y2), some (vI y3), some (vI x4), some (vI x5), some (vI (x6 + 1)), some (vI v15), some (vI r16)]) 116 dX11_kin_113 rfl rfl rfl (by decide) rfl rfl ?_
        refine j_goto 46 dX11_kin_116 (by decide) ?_
        refine j_sub (ls' := [some (vR 1), some (vI y1), some (vI y2), some (vI y3), some (vI x4), some (vI x5), some (vI (x6 + 1)), none, none]) (And.intro rfl (And.intro rfl (And.intro rfl (And.intro rfl (And.intro rfl (And.intro rfl (And.intro rfl trivial))))))) ?_
        exact ih x4 x5 (x6 + 1) s17
      · refine j_iload 93 dX11_kin_91 rfl rfl ?_
        refine j_bipush (v := (-9)) 95 dX11_kin_93 rfl (by decide) ?_
        refine j_icmp_eq 105 98 dX11_kin_95 (by decide) rfl (fun c19 => ?_) (fun c19 => ?_)
        · refine j_iload 107 dX11_kin_105 rfl rfl ?_
          refine j_istore (i := 4) (ls' := [some (vR 1), some (vI y1), some (vI y2), some (vI y3), some (vI r16), some (vI x5), some (vI x6), some (vI v15), some (vI r16)]) 109 dX11_kin_107 rfl (by decide) rfl rfl ?_
          refine j_iload 111 dX11_kin_109 rfl rfl ?_
          refine j_istore (i := 5) (ls' := [some (vR 1), some (vI y1), some (vI y2), some (vI y3), some (vI r16), some (vI x6), some (vI x6), some (vI v15), some (vI r16)]) 113 dX11_kin_111 rfl (by decide) rfl rfl ?_
          refine j_iinc (v := x6 + 1) (ls' := [some (vR 1), some (vI y1), some (vI y2), some (vI y3), some (vI r16), some (vI x6), some (vI (x6 + 1)), some (vI v15), some (vI r16)]) 116 dX11_kin_113 rfl rfl rfl (by decide) rfl rfl ?_
          refine j_goto 46 dX11_kin_116 (by decide) ?_
          refine j_sub (ls' := [some (vR 1), some (vI y1), some (vI y2), some (vI y3), some (vI r16), some (vI x6), some (vI (x6 + 1)), none, none]) (And.intro rfl (And.intro rfl (And.intro rfl (And.intro rfl (And.intro rfl (And.intro rfl (And.intro rfl trivial))))))) ?_
          exact ih r16 x6 (x6 + 1) s17
        · refine j_iload 100 dX11_kin_98 rfl rfl ?_
          refine j_iload 102 dX11_kin_100 rfl rfl ?_
          refine j_icmp_ge 113 105 dX11_kin_102 (by decide) rfl (fun c20 => ?_) (fun c20 => ?_)
          · refine j_iload 107 dX11_kin_105 rfl rfl ?_
            refine j_istore (i := 4) (ls' := [some (vR 1), some (vI y1), some (vI y2), some (vI y3), some (vI r16), some (vI x5), some (vI x6), some (vI v15), some (vI r16)]) 109 dX11_kin_107 rfl (by decide) rfl rfl ?_
            refine j_iload 111 dX11_kin_109 rfl rfl ?_
            refine j_istore (i := 5) (ls' := [some (vR 1), some (vI y1), some (vI y2), some (vI y3), some (vI r16), some (vI x6), some (vI x6), some (vI v15), some (vI r16)]) 113 dX11_kin_111 rfl (by decide) rfl rfl ?_
            refine j_iinc (v := x6 + 1) (ls' := [some (vR 1), some (vI y1), some (vI y2), some (vI y3), some (vI r16), some (vI x6), some (vI (x6 + 1)), some (vI v15), some (vI r16)]) 116 dX11_kin_113 rfl rfl rfl (by decide) rfl rfl ?_
            refine j_goto 46 dX11_kin_116 (by decide) ?_
            refine j_sub (ls' := [some (vR 1), some (vI y1), some (vI y2), some (vI y3), some (vI r16), some (vI x6), some (vI (x6 + 1)), none, none]) (And.intro rfl (And.intro rfl (And.intro rfl (And.intro rfl (And.intro rfl (And.intro rfl (And.intro rfl trivial))))))) ?_
            exact ih r16 x6 (x6 + 1) s17
          · refine j_iinc (v := x6 + 1) (ls' := [some (vR 1), some (vI y1), some (vI y2), some (vI y3), some (vI x4), some (vI x5), some (vI (x6 + 1)), some (vI v15), some (vI r16)]) 116 dX11_kin_113 rfl rfl rfl (by decide) rfl rfl ?_
            refine j_goto 46 dX11_kin_116 (by decide) ?_
            refine j_sub (ls' := [some (vR 1), some (vI y1), some (vI y2), some (vI y3), some (vI x4), some (vI x5), some (vI (x6 + 1)), none, none]) (And.intro rfl (And.intro rfl (And.intro rfl (And.intro rfl (And.intro rfl (And.intro rfl (And.intro rfl trivial))))))) ?_
            exact ih x4 x5 (x6 + 1) s17
theorem tX11_kin (Θ : Th) (l : Launch)  (a1 : Int32)  (s : Mem) : Cs Θ l mX11_kin 5 gI [vR 1, vI a1] s (fX11_kin a1 s) := by
  refine ct_of (by decide) [some (vR 1), some (vI a1), none, none, none, none, none, none, none] rfl (Nat.le_of_ble_eq_true rfl) ?_
  unfold fX11_kin
  refine j_iload_n 1 dX11_kin_0 rfl rfl ?_
  refine j_iconst (v := 0) 2 dX11_kin_1 rfl (by decide) ?_
  refine j_bipush (v := 99) 4 dX11_kin_2 rfl (by decide) ?_
  refine s_callSi (M2 := mX11_isWithin) [vI a1, vI 0, vI 99] 7 mkX11_isWithin (Or.inl w_678) dX11_kin_4 rfl rfl (tX11_isWithin Θ l _ _ _  _) (by first | exact Nat.le_of_ble_eq_true rfl | omega) (Nat.le_of_ble_eq_true rfl) (Nat.le_of_ble_eq_true rfl) (fun r1 s2 => ?_)
  refine j_if_ne 12 10 dX11_kin_7 (by decide) rfl (fun c3 => ?_) (fun c3 => ?_)
  · refine j_iconst (v := (-1)) 11 dX11_kin_10 rfl (by decide) ?_
    exact s_iret dX11_kin_11 rfl
  · refine j_aload_n 13 dX11_kin_12 rfl rfl ?_
    refine s_getR (x := 6) 16 fa1_3 w_405 dX11_kin_13 rfl (by decide +kernel) ?_
    refine j_aload_n 17 dX11_kin_16 rfl rfl ?_
    refine s_getR (x := 6) 20 fa1_3 w_405 dX11_kin_17 rfl (by decide +kernel) ?_
    refine s_callVi (M2 := mX0_everybody) [] 23 oa6 cc0 mkX0_everybody w_1107 dX11_kin_20 rfl rfl (tX0_everybody Θ l   _) (by first | exact Nat.le_of_ble_eq_true rfl | omega) (Nat.le_of_ble_eq_true rfl) (Nat.le_of_ble_eq_true rfl) (fun r4 s5 => ?_)
    refine s_callVi (M2 := mX0_weighAll) [vI r4] 26 oa6 cc0 mkX0_weighAll w_703 dX11_kin_23 rfl rfl (tX0_weighAll Θ l _  _) (by first | exact Nat.le_of_ble_eq_true rfl | omega) (Nat.le_of_ble_eq_true rfl) (Nat.le_of_ble_eq_true rfl) (fun r6 s7 => ?_)
    refine j_istore_n (i := 2) (ls' := [some (vR 1), some (vI a1), some (vI r6), none, none, none, none, none, none]) 27 dX11_kin_26 rfl rfl (by decide) rfl rfl ?_
    refine j_aload_n 28 dX11_kin_27 rfl rfl ?_
    refine s_getR (x := 6) 31 fa1_3 w_405 dX11_kin_28 rfl (by decide +kernel) ?_
    refine j_iconst (v := 1) 32 dX11_kin_31 rfl (by decide) ?_
    refine s_callVi (M2 := mX0_kinSet) [vI 1] 35 oa6 cc0 mkX0_kinSet w_750 dX11_kin_32 rfl rfl (tX0_kinSet Θ l _  _) (by first | exact Nat.le_of_ble_eq_true rfl | omega) (Nat.le_of_ble_eq_true rfl) (Nat.le_of_ble_eq_true rfl) (fun r8 s9 => ?_)
    refine j_istore_n (i := 3) (ls' := [some (vR 1), some (vI a1), some (vI r6), some (vI r8), none, none, none, none, none]) 36 dX11_kin_35 rfl rfl (by decide) rfl rfl ?_
    refine j_bipush (v := (-9)) 38 dX11_kin_36 rfl (by decide) ?_
    refine j_istore (i := 4) (ls' := [some (vR 1), some (vI a1), some (vI r6), some (vI r8), some (vI (-9)), none, none, none, none]) 40 dX11_kin_38 rfl (by decide) rfl rfl ?_
    refine j_iconst (v := 0) 41 dX11_kin_40 rfl (by decide) ?_
    refine j_istore (i := 5) (ls' := [some (vR 1), some (vI a1), some (vI r6), some (vI r8), some (vI (-9)), some (vI 0), none, none, none]) 43 dX11_kin_41 rfl (by decide) rfl rfl ?_
    refine j_iconst (v := 0) 44 dX11_kin_43 rfl (by decide) ?_
    refine j_istore (i := 6) (ls' := [some (vR 1), some (vI a1), some (vI r6), some (vI r8), some (vI (-9)), some (vI 0), some (vI 0), none, none]) 46 dX11_kin_44 rfl (by decide) rfl rfl ?_
    refine j_sub (ls' := [some (vR 1), some (vI a1), some (vI r6), some (vI r8), some (vI (-9)), some (vI 0), some (vI 0), none, none]) (And.intro rfl (And.intro rfl (And.intro rfl (And.intro rfl (And.intro rfl (And.intro rfl (And.intro rfl trivial))))))) ?_
    refine tX11_kin_L46 Θ l _ _ _ _  ?_ _ _ _ _ _
    intro v21 v22 s23
    refine j_iload 121 dX11_kin_119 rfl rfl ?_
    refine j_bipush (v := (-9)) 123 dX11_kin_121 rfl (by decide) ?_
    refine j_icmp_eq 135 126 dX11_kin_123 (by decide) rfl (fun c24 => ?_) (fun c24 => ?_)
    · refine j_iload 137 dX11_kin_135 rfl rfl ?_
      exact s_iret dX11_kin_137 rfl
    · refine j_aload_n 127 dX11_kin_126 rfl rfl ?_
      refine s_getR (x := 2) 130 fa1_0 w_402 dX11_kin_127 rfl (by decide +kernel) ?_
      refine j_iload 132 dX11_kin_130 rfl rfl ?_
      refine s_callVu (M2 := mX10_tell) [vI v22] 135 oa2 cc10 mkX10_tell w_479 dX11_kin_132 rfl rfl (tX10_tell Θ l _  _) (by first | exact Nat.le_of_ble_eq_true rfl | omega) (Nat.le_of_ble_eq_true rfl) (Nat.le_of_ble_eq_true rfl) (fun r25 s26 => ?_)
      refine j_iload 137 dX11_kin_135 rfl rfl ?_
      exact s_iret dX11_kin_137 rfl
-- X11_odds
def fX11_odds_L36  (κ : Int32 → Mem → Option (Int32 × Mem)) (y2 : Int32) (y3 : Int32) : Nat → Int32 → Int32 → Mem → Option (Int32 × Mem)
  | 0, _, _, _ => none
  | k + 1, x4, x5, s =>
    if y2 < x5 then
      κ x4 s
    else
      bnd (fX0_isLevel (y3 + x5) s) (fun r11 s12 =>
      if r11 = 0 then
        fX11_odds_L36 κ y2 y3 k x4 (x5 + 1) s12
      else
        fX11_odds_L36 κ y2 y3 k (x4 + 1) (x5 + 1) s12)
def fX11_odds  (a1 : Int32) (a2 : Int32) (s : Mem) : Option (Int32 × Mem) :=
bnd (fX11_isPosture a1 s) (fun r1 s2 =>
if r1 = 0 then
  some ((-1), s2)
else
  bnd (fX11_isWithin a2 0 200 s2) (fun r4 s5 =>
  if r4 = 0 then
    some ((-1), s5)
  else
    bnd (fX0_dryListIn a1 s5) (fun r7 s8 =>
    nm (0 - a2) (fun v9 =>
    fX11_odds_L36 (fun v14 s15 =>
      bnd (fX10_share v14 ((2 * a2) + 1) s15) (fun r16 s17 =>
      some (v14, s17))) a2 r7 FU 0 v9 s8))))
theorem tX11_odds_L36 (Θ : Th) (l : Launch)  (κ : Int32 → Mem → Option (Int32 × Mem)) (y2 : Int32) (y3 : Int32)  (hκ : ∀ (x4 : Int32) (s : Mem), Js Θ l mX11_odds 4 gI 65 [some (vR 1), none, some (vI y2), none, some (vI x4), none] [] s (κ x4 s)) : ∀ (k : Nat) (x4 : Int32) (x5 : Int32) (s : Mem), Js Θ l mX11_odds 4 gI 36 [some (vR 1), none, some (vI y2), some (vI y3), some (vI x4), some (vI x5)] [] s (fX11_odds_L36 κ y2 y3 k x4 x5 s) := by
  intro k
  induction k with
  | zero => intro x4 x5 s; exact j_none
  | succ k ih =>
    intro x4 x5 s
    rw [fX11_odds_L36]
    refine j_iload 38 dX11_odds_36 rfl rfl ?_
    refine j_iload_n 39 dX11_odds_38 rfl rfl ?_
    refine j_icmp_gt 65 42 dX11_odds_39 (by decide) rfl (fun c10 => ?_) (fun c10 => ?_)
    · refine j_sub (ls' := [some (vR 1), none, some (vI y2), none, some (vI x4), none]) (And.intro rfl (And.intro rfl (And.intro rfl trivial))) ?_
      exact hκ x4 s
    · refine j_aload_n 43 dX11_odds_42 rfl rfl ?_
      refine s_getR (x := 6) 46 fa1_3 w_405 dX11_odds_43 rfl (by decide +kernel) ?_
      refine j_iload_n 47 dX11_odds_46 rfl rfl ?_
      refine j_iload 49 dX11_odds_47 rfl rfl ?_
      refine j_iadd 50 dX11_odds_49 rfl ?_
      refine s_callVi (M2 := mX0_isLevel) [vI (y3 + x5)] 53 oa6 cc0 mkX0_isLevel w_891 dX11_odds_50 rfl rfl (tX0_isLevel Θ l _  _) (by first | exact Nat.le_of_ble_eq_true rfl | omega) (Nat.le_of_ble_eq_true rfl) (Nat.le_of_ble_eq_true rfl) (fun r11 s12 => ?_)
      refine j_if_eq 59 56 dX11_odds_53 (by decide) rfl (fun c13 => ?_) (fun c13 => ?_)
      · refine j_iinc (v := x5 + 1) (ls' := [some (vR 1), none, some (vI y2), some (vI y3), some (vI x4), some (vI (x5 + 1))]) 62 dX11_odds_59 rfl rfl rfl (by decide) rfl rfl ?_
        refine j_goto 36 dX11_odds_62 (by decide) ?_
        refine j_sub (ls' := [some (vR 1), none, some (vI y2), some (vI y3), some (vI x4), some (vI (x5 + 1))]) (And.intro rfl (And.intro rfl (And.intro rfl (And.intro rfl (And.intro rfl trivial))))) ?_
        exact ih x4 (x5 + 1) s12
      · refine j_iinc (v := x4 + 1) (ls' := [some (vR 1), none, some (vI y2), some (vI y3), some (vI (x4 + 1)), some (vI x5)]) 59 dX11_odds_56 rfl rfl rfl (by decide) rfl rfl ?_
        refine j_iinc (v := x5 + 1) (ls' := [some (vR 1), none, some (vI y2), some (vI y3), some (vI (x4 + 1)), some (vI (x5 + 1))]) 62 dX11_odds_59 rfl rfl rfl (by decide) rfl rfl ?_
        refine j_goto 36 dX11_odds_62 (by decide) ?_
        refine j_sub (ls' := [some (vR 1), none, some (vI y2), some (vI y3), some (vI (x4 + 1)), some (vI (x5 + 1))]) (And.intro rfl (And.intro rfl (And.intro rfl (And.intro rfl (And.intro rfl trivial))))) ?_
        exact ih (x4 + 1) (x5 + 1) s12
theorem tX11_odds (Θ : Th) (l : Launch)  (a1 : Int32) (a2 : Int32)  (s : Mem) : Cs Θ l mX11_odds 4 gI [vR 1, vI a1, vI a2] s (fX11_odds a1 a2 s) := by
  refine ct_of (by decide) [some (vR 1), some (vI a1), some (vI a2), none, none, none] rfl (Nat.le_of_ble_eq_true rfl) ?_
  unfold fX11_odds
  refine j_iload_n 1 dX11_odds_0 rfl rfl ?_
  refine s_callSi (M2 := mX11_isPosture) [vI a1] 4 mkX11_isPosture (Or.inl w_881) dX11_odds_1 rfl rfl (tX11_isPosture Θ l _  _) (by first | exact Nat.le_of_ble_eq_true rfl | omega) (Nat.le_of_ble_eq_true rfl) (Nat.le_of_ble_eq_true rfl) (fun r1 s2 => ?_)
  refine j_if_eq 18 7 dX11_odds_4 (by decide) rfl (fun c3 => ?_) (fun c3 => ?_)
  · refine j_iconst (v := (-1)) 19 dX11_odds_18 rfl (by decide) ?_
    exact s_iret dX11_odds_19 rfl
  · refine j_iload_n 8 dX11_odds_7 rfl rfl ?_
    refine j_iconst (v := 0) 9 dX11_odds_8 rfl (by decide) ?_
    refine j_sipush (v := 200) 12 dX11_odds_9 rfl (by decide) ?_
    refine s_callSi (M2 := mX11_isWithin) [vI a2, vI 0, vI 200] 15 mkX11_isWithin (Or.inl w_678) dX11_odds_12 rfl rfl (tX11_isWithin Θ l _ _ _  _) (by first | exact Nat.le_of_ble_eq_true rfl | omega) (Nat.le_of_ble_eq_true rfl) (Nat.le_of_ble_eq_true rfl) (fun r4 s5 => ?_)
    refine j_if_ne 20 18 dX11_odds_15 (by decide) rfl (fun c6 => ?_) (fun c6 => ?_)
    · refine j_iconst (v := (-1)) 19 dX11_odds_18 rfl (by decide) ?_
      exact s_iret dX11_odds_19 rfl
    · refine j_aload_n 21 dX11_odds_20 rfl rfl ?_
      refine s_getR (x := 6) 24 fa1_3 w_405 dX11_odds_21 rfl (by decide +kernel) ?_
      refine j_iload_n 25 dX11_odds_24 rfl rfl ?_
      refine s_callVi (M2 := mX0_dryListIn) [vI a1] 28 oa6 cc0 mkX0_dryListIn w_1119 dX11_odds_25 rfl rfl (tX0_dryListIn Θ l _  _) (by first | exact Nat.le_of_ble_eq_true rfl | omega) (Nat.le_of_ble_eq_true rfl) (Nat.le_of_ble_eq_true rfl) (fun r7 s8 => ?_)
      refine j_istore_n (i := 3) (ls' := [some (vR 1), some (vI a1), some (vI a2), some (vI r7), none, none]) 29 dX11_odds_28 rfl rfl (by decide) rfl rfl ?_
      refine j_iconst (v := 0) 30 dX11_odds_29 rfl (by decide) ?_
      refine j_istore (i := 4) (ls' := [some (vR 1), some (vI a1), some (vI a2), some (vI r7), some (vI 0), none]) 32 dX11_odds_30 rfl (by decide) rfl rfl ?_
      refine j_iload_n 33 dX11_odds_32 rfl rfl ?_
      refine j_ineg 34 dX11_odds_33 rfl ?_
      refine s_nmI (fun v9 => ?_)
      refine j_istore (i := 5) (ls' := [some (vR 1), some (vI a1), some (vI a2), some (vI r7), some (vI 0), some (vI v9)]) 36 dX11_odds_34 rfl (by decide) rfl rfl ?_
      refine j_sub (ls' := [some (vR 1), none, some (vI a2), some (vI r7), some (vI 0), some (vI v9)]) (And.intro rfl (And.intro rfl (And.intro rfl (And.intro rfl (And.intro rfl trivial))))) ?_
      refine tX11_odds_L36 Θ l _ _ _  ?_ _ _ _ _
      intro v14 s15
      refine j_aload_n 66 dX11_odds_65 rfl rfl ?_
      refine s_getR (x := 2) 69 fa1_0 w_402 dX11_odds_66 rfl (by decide +kernel) ?_
      refine j_iload 71 dX11_odds_69 rfl rfl ?_
      refine j_iconst (v := 2) 72 dX11_odds_71 rfl (by decide) ?_
      refine j_iload_n 73 dX11_odds_72 rfl rfl ?_
      refine j_imul 74 dX11_odds_73 rfl ?_
      refine j_iconst (v := 1) 75 dX11_odds_74 rfl (by decide) ?_
      refine j_iadd 76 dX11_odds_75 rfl ?_
      refine s_callVu (M2 := mX10_share) [vI v14, vI ((2 * a2) + 1)] 79 oa2 cc10 mkX10_share w_907 dX11_odds_76 rfl rfl (tX10_share Θ l _ _  _) (by first | exact Nat.le_of_ble_eq_true rfl | omega) (Nat.le_of_ble_eq_true rfl) (Nat.le_of_ble_eq_true rfl) (fun r16 s17 => ?_)
      refine j_iload 81 dX11_odds_79 rfl rfl ?_
      exact s_iret dX11_odds_81 rfl
-- X11_storm
def fX11_storm_L31  (κ : Int32 → Int32 → Mem → Option (Int32 × Mem))  : Nat → Int64 → Int32 → Int32 → Int32 → Mem → Option (Int32 × Mem)
  | 0, _, _, _, _, _ => none
  | k + 1, x2, x4, x5, x6, s =>
    if x6 < (s.1 18 0) then
      nm ((x2 * 48271) - (x2 * 48271) / 2147483647 * 2147483647) (fun v7 =>
      nm (x4 + ((Int64.toInt32 (v7 - v7 / 7 * 7)) - 3)) (fun v8 =>
      nm (mx (-200) (mn 200 v8)) (fun v9 =>
      bnd (fX6_postureIn x6 s) (fun r10 s11 =>
      bnd (fX0_dryListIn r10 s11) (fun r12 s13 =>
      bnd (fX0_isLevel (r12 + v9) s13) (fun r14 s15 =>
      if r14 = 0 then
        fX11_storm_L31 κ k v7 v9 (x5 + 1) (x6 + 1) s15
      else
        fX11_storm_L31 κ k v7 v9 x5 (x6 + 1) s15))))))
    else
      κ x4 x5 s
def fX11_storm  (a1 : Int32) (s : Mem) : Option (Int32 × Mem) :=
bnd (fX11_isWithin a1 1 2147483646 s) (fun r1 s2 =>
if r1 = 0 then
  some ((-1), s2)
else
  nm (Int32.toInt64 a1) (fun v4 =>
  nm (s2.1 6 3) (fun v5 =>
  fX11_storm_L31 (fun v17 v18 s19 =>
    bnd (fX10_tell v17 s19) (fun r20 s21 =>
    some (v18, s21)))  FU v4 v5 0 0 s2)))
theorem tX11_storm_L31 (Θ : Th) (l : Launch)  (κ : Int32 → Int32 → Mem → Option (Int32 × Mem))   (hκ : ∀ (x4 : Int32) (x5 : Int32) (s : Mem), Js Θ l mX11_storm 4 gI 120 [some (vR 1), none, none, none, some (vI x4), some (vI x5), none] [] s (κ x4 x5 s)) : ∀ (k : Nat) (x2 : Int64) (x4 : Int32) (x5 : Int32) (x6 : Int32) (s : Mem), Js Θ l mX11_storm 4 gI 31 [some (vR 1), none, some (vL x2), none, some (vI x4), some (vI x5), some (vI x6)] [] s (fX11_storm_L31 κ  k x2 x4 x5 x6 s) := by
  intro k
  induction k with
  | zero => intro x2 x4 x5 x6 s; exact j_none
  | succ k ih =>
    intro x2 x4 x5 x6 s
    rw [fX11_storm_L31]
    refine j_iload 33 dX11_storm_31 rfl rfl ?_
    refine j_aload_n 34 dX11_storm_33 rfl rfl ?_
    refine s_getR (x := 18) 37 fa1_5 w_407 dX11_storm_34 rfl (by decide +kernel) ?_
    refine s_getI 40 fa18_0 w_213 dX11_storm_37 rfl ?_
    refine j_icmp_ge 120 43 dX11_storm_40 (by decide) rfl (fun c6 => ?_) (fun c6 => ?_)
    · refine j_lload_n 44 dX11_storm_43 rfl rfl ?_
      refine j_ldc2 (v := 48271) 47 dX11_storm_44 rfl w_1125 ?_
      refine j_lmul 48 dX11_storm_47 rfl ?_
      refine j_ldc2 (v := 2147483647) 51 dX11_storm_48 rfl w_1126 ?_
      refine j_lremC 52 dX11_storm_51 rfl (by decide) ?_
      refine s_nmL (fun v7 => ?_)
      refine j_lstore_n (i := 2) (ls' := [some (vR 1), none, some (vL v7), none, some (vI x4), some (vI x5), some (vI x6)]) 53 dX11_storm_52 rfl rfl (by decide) rfl rfl ?_
      refine j_iload 55 dX11_storm_53 rfl rfl ?_
      refine j_lload_n 56 dX11_storm_55 rfl rfl ?_
      refine j_ldc2 (v := 7) 59 dX11_storm_56 rfl w_1127 ?_
      refine j_lremC 60 dX11_storm_59 rfl (by decide) ?_
      refine j_l2i 61 dX11_storm_60 rfl ?_
      refine j_iconst (v := 3) 62 dX11_storm_61 rfl (by decide) ?_
      refine j_isub 63 dX11_storm_62 rfl ?_
      refine j_iadd 64 dX11_storm_63 rfl ?_
      refine s_nmI (fun v8 => ?_)
      refine j_istore (i := 4) (ls' := [some (vR 1), none, some (vL v7), none, some (vI v8), some (vI x5), some (vI x6)]) 66 dX11_storm_64 rfl (by decide) rfl rfl ?_
      refine j_sipush (v := (-200)) 69 dX11_storm_66 rfl (by decide) ?_
      refine j_sipush (v := 200) 72 dX11_storm_69 rfl (by decide) ?_
      refine j_iload 74 dX11_storm_72 rfl rfl ?_
      refine s_mmin 77 dX11_storm_74 rfl wm_1128 wt_min wi_math wc_min (by first | exact Nat.le_of_ble_eq_true rfl | omega) (Nat.le_of_ble_eq_true rfl) ?_
      refine s_mmax 80 dX11_storm_77 rfl wm_1129 wt_max wi_math wc_max (by first | exact Nat.le_of_ble_eq_true rfl | omega) (Nat.le_of_ble_eq_true rfl) ?_
      refine s_nmI (fun v9 => ?_)
      refine j_istore (i := 4) (ls' := [some (vR 1), none, some (vL v7), none, some (vI v9), some (vI x5), some (vI x6)]) 82 dX11_storm_80 rfl (by decide) rfl rfl ?_
      refine j_aload_n 83 dX11_storm_82 rfl rfl ?_
      refine s_getR (x := 6) 86 fa1_3 w_405 dX11_storm_83 rfl (by decide +kernel) ?_
      refine j_aload_n 87 dX11_storm_86 rfl rfl ?_
      refine s_getR (x := 6) 90 fa1_3 w_405 dX11_storm_87 rfl (by decide +kernel) ?_
      refine j_aload_n 91 dX11_storm_90 rfl rfl ?_
      refine s_getR (x := 18) 94 fa1_5 w_407 dX11_storm_91 rfl (by decide +kernel) ?_
      refine j_iload 96 dX11_storm_94 rfl rfl ?_
      refine s_callVi (M2 := mX6_postureIn) [vI x6] 99 oa18 cc6 mkX6_postureIn w_899 dX11_storm_96 rfl rfl (tX6_postureIn Θ l _  _) (by first | exact Nat.le_of_ble_eq_true rfl | omega) (Nat.le_of_ble_eq_true rfl) (Nat.le_of_ble_eq_true rfl) (fun r10 s11 => ?_)
      refine s_callVi (M2 := mX0_dryListIn) [vI r10] 102 oa6 cc0 mkX0_dryListIn w_1119 dX11_storm_99 rfl rfl (tX0_dryListIn Θ l _  _) (by first | exact Nat.le_of_ble_eq_true rfl | omega) (Nat.le_of_ble_eq_true rfl) (Nat.le_of_ble_eq_true rfl) (fun r12 s13 => ?_)
      refine j_iload 104 dX11_storm_102 rfl rfl ?_
      refine j_iadd 105 dX11_storm_104 rfl ?_
      refine s_callVi (M2 := mX0_isLevel) [vI (r12 + v9)] 108 oa6 cc0 mkX0_isLevel w_891 dX11_storm_105 rfl rfl (tX0_isLevel Θ l _  _) (by first | exact Nat.le_of_ble_eq_true rfl | omega) (Nat.le_of_ble_eq_true rfl) (Nat.le_of_ble_eq_true rfl) (fun r14 s15 => ?_)
      refine j_if_ne 114 111 dX11_storm_108 (by decide) rfl (fun c16 => ?_) (fun c16 => ?_)
      · refine j_iinc (v := x5 + 1) (ls' := [some (vR 1), none, some (vL v7), none, some (vI v9), some (vI (x5 + 1)), some (vI x6)]) 114 dX11_storm_111 rfl rfl rfl (by decide) rfl rfl ?_
        refine j_iinc (v := x6 + 1) (ls' := [some (vR 1), none, some (vL v7), none, some (vI v9), some (vI (x5 + 1)), some (vI (x6 + 1))]) 117 dX11_storm_114 rfl rfl rfl (by decide) rfl rfl ?_
        refine j_goto 31 dX11_storm_117 (by decide) ?_
        refine j_sub (ls' := [some (vR 1), none, some (vL v7), none, some (vI v9), some (vI (x5 + 1)), some (vI (x6 + 1))]) (And.intro rfl (And.intro rfl (And.intro rfl (And.intro rfl (And.intro rfl trivial))))) ?_
        exact ih v7 v9 (x5 + 1) (x6 + 1) s15
      · refine j_iinc (v := x6 + 1) (ls' := [some (vR 1), none, some (vL v7), none, some (vI v9), some (vI x5), some (vI (x6 + 1))]) 117 dX11_storm_114 rfl rfl rfl (by decide) rfl rfl ?_
        refine j_goto 31 dX11_storm_117 (by decide) ?_
        refine j_sub (ls' := [some (vR 1), none, some (vL v7), none, some (vI v9), some (vI x5), some (vI (x6 + 1))]) (And.intro rfl (And.intro rfl (And.intro rfl (And.intro rfl (And.intro rfl trivial))))) ?_
        exact ih v7 v9 x5 (x6 + 1) s15
    · refine j_sub (ls' := [some (vR 1), none, none, none, some (vI x4), some (vI x5), none]) (And.intro rfl (And.intro rfl (And.intro rfl trivial))) ?_
      exact hκ x4 x5 s
theorem tX11_storm (Θ : Th) (l : Launch)  (a1 : Int32)  (s : Mem) : Cs Θ l mX11_storm 4 gI [vR 1, vI a1] s (fX11_storm a1 s) := by
  refine ct_of (by decide) [some (vR 1), some (vI a1), none, none, none, none, none] rfl (Nat.le_of_ble_eq_true rfl) ?_
  unfold fX11_storm
  refine j_iload_n 1 dX11_storm_0 rfl rfl ?_
  refine j_iconst (v := 1) 2 dX11_storm_1 rfl (by decide) ?_
  refine j_ldcw (v := 2147483646) 5 dX11_storm_2 rfl w_1124 ?_
  refine s_callSi (M2 := mX11_isWithin) [vI a1, vI 1, vI 2147483646] 8 mkX11_isWithin (Or.inl w_678) dX11_storm_5 rfl rfl (tX11_isWithin Θ l _ _ _  _) (by first | exact Nat.le_of_ble_eq_true rfl | omega) (Nat.le_of_ble_eq_true rfl) (Nat.le_of_ble_eq_true rfl) (fun r1 s2 => ?_)
  refine j_if_ne 13 11 dX11_storm_8 (by decide) rfl (fun c3 => ?_) (fun c3 => ?_)
  · refine j_iconst (v := (-1)) 12 dX11_storm_11 rfl (by decide) ?_
    exact s_iret dX11_storm_12 rfl
  · refine j_iload_n 14 dX11_storm_13 rfl rfl ?_
    refine j_i2l 15 dX11_storm_14 rfl ?_
    refine s_nmL (fun v4 => ?_)
    refine j_lstore_n (i := 2) (ls' := [some (vR 1), some (vI a1), some (vL v4), none, none, none, none]) 16 dX11_storm_15 rfl rfl (by decide) rfl rfl ?_
    refine j_aload_n 17 dX11_storm_16 rfl rfl ?_
    refine s_getR (x := 6) 20 fa1_3 w_405 dX11_storm_17 rfl (by decide +kernel) ?_
    refine s_getI 23 fa6_3 w_167 dX11_storm_20 rfl ?_
    refine s_nmI (fun v5 => ?_)
    refine j_istore (i := 4) (ls' := [some (vR 1), some (vI a1), some (vL v4), none, some (vI v5), none, none]) 25 dX11_storm_23 rfl (by decide) rfl rfl ?_
    refine j_iconst (v := 0) 26 dX11_storm_25 rfl (by decide) ?_
    refine j_istore (i := 5) (ls' := [some (vR 1), some (vI a1), some (vL v4), none, some (vI v5), some (vI 0), none]) 28 dX11_storm_26 rfl (by decide) rfl rfl ?_
    refine j_iconst (v := 0) 29 dX11_storm_28 rfl (by decide) ?_
    refine j_istore (i := 6) (ls' := [some (vR 1), some (vI a1), some (vL v4), none, some (vI v5), some (vI 0), some (vI 0)]) 31 dX11_storm_29 rfl (by decide) rfl rfl ?_
    refine j_sub (ls' := [some (vR 1), none, some (vL v4), none, some (vI v5), some (vI 0), some (vI 0)]) (And.intro rfl (And.intro rfl (And.intro rfl (And.intro rfl (And.intro rfl trivial))))) ?_
    refine tX11_storm_L31 Θ l _   ?_ _ _ _ _ _ _
    intro v17 v18 s19
    refine j_aload_n 121 dX11_storm_120 rfl rfl ?_
    refine s_getR (x := 2) 124 fa1_0 w_402 dX11_storm_121 rfl (by decide +kernel) ?_
    refine j_iload 126 dX11_storm_124 rfl rfl ?_
    refine s_callVu (M2 := mX10_tell) [vI v17] 129 oa2 cc10 mkX10_tell w_479 dX11_storm_126 rfl rfl (tX10_tell Θ l _  _) (by first | exact Nat.le_of_ble_eq_true rfl | omega) (Nat.le_of_ble_eq_true rfl) (Nat.le_of_ble_eq_true rfl) (fun r20 s21 => ?_)
    refine j_iload 131 dX11_storm_129 rfl rfl ?_
    exact s_iret dX11_storm_131 rfl
-- X11_asked
def fX11_asked   (s : Mem) : Option (Int32 × Mem) :=
some (s.1 2 0, s)
theorem tX11_asked (Θ : Th) (l : Launch)    (s : Mem) : Cs Θ l mX11_asked 1 gI [vR 1] s (fX11_asked  s) := by
  refine ct_of (by decide) [some (vR 1)] rfl (Nat.le_of_ble_eq_true rfl) ?_
  unfold fX11_asked
  refine j_aload_n 1 dX11_asked_0 rfl rfl ?_
  refine s_getR (x := 2) 4 fa1_0 w_402 dX11_asked_1 rfl (by decide +kernel) ?_
  refine s_getI 7 fa2_0 w_106 dX11_asked_4 rfl ?_
  exact s_iret dX11_asked_7 rfl
-- X11_upper
def fX11_upper   (s : Mem) : Option (Int64 × Mem) :=
some (s.2 2 1, s)
theorem tX11_upper (Θ : Th) (l : Launch)    (s : Mem) : Cs Θ l mX11_upper 1 gL [vR 1] s (fX11_upper  s) := by
  refine ct_of (by decide) [some (vR 1)] rfl (Nat.le_of_ble_eq_true rfl) ?_
  unfold fX11_upper
  refine j_aload_n 1 dX11_upper_0 rfl rfl ?_
  refine s_getR (x := 2) 4 fa1_0 w_402 dX11_upper_1 rfl (by decide +kernel) ?_
  refine s_getL 7 fa2_1 w_108 dX11_upper_4 rfl ?_
  exact s_lret dX11_upper_7 rfl
-- X11_lower
def fX11_lower   (s : Mem) : Option (Int64 × Mem) :=
some (s.2 2 2, s)
theorem tX11_lower (Θ : Th) (l : Launch)    (s : Mem) : Cs Θ l mX11_lower 1 gL [vR 1] s (fX11_lower  s) := by
  refine ct_of (by decide) [some (vR 1)] rfl (Nat.le_of_ble_eq_true rfl) ?_
  unfold fX11_lower
  refine j_aload_n 1 dX11_lower_0 rfl rfl ?_
  refine s_getR (x := 2) 4 fa1_0 w_402 dX11_lower_1 rfl (by decide +kernel) ?_
  refine s_getL 7 fa2_2 w_110 dX11_lower_4 rfl ?_
  exact s_lret dX11_lower_7 rfl
-- X0_howManyOf
def fX0_howManyOf_L4  (κ : Int32 → Mem → Option (Int32 × Mem)) (y1 : Int32) : Nat → Int32 → Int32 → Mem → Option (Int32 × Mem)
  | 0, _, _, _ => none
  | k + 1, x2, x3, s =>
    if x3 < (s.1 6 1) then
      bnd (fX0_isOf x3 y1 s) (fun r2 s3 =>
      if r2 = 0 then
        nm (x2 + 0) (fun v5 =>
        fX0_howManyOf_L4 κ y1 k v5 (x3 + 1) s3)
      else
        nm (x2 + 1) (fun v6 =>
        fX0_howManyOf_L4 κ y1 k v6 (x3 + 1) s3))
    else
      κ x2 s
def fX0_howManyOf  (a1 : Int32) (s : Mem) : Option (Int32 × Mem) :=
fX0_howManyOf_L4 (fun v7 s8 =>
  some (v7, s8)) a1 FU 0 0 s
theorem tX0_howManyOf_L4 (Θ : Th) (l : Launch)  (κ : Int32 → Mem → Option (Int32 × Mem)) (y1 : Int32)  (hκ : ∀ (x2 : Int32) (s : Mem), Js Θ l mX0_howManyOf 4 gI 35 [none, none, some (vI x2), none] [] s (κ x2 s)) : ∀ (k : Nat) (x2 : Int32) (x3 : Int32) (s : Mem), Js Θ l mX0_howManyOf 4 gI 4 [some (vR 6), some (vI y1), some (vI x2), some (vI x3)] [] s (fX0_howManyOf_L4 κ y1 k x2 x3 s) := by
  intro k
  induction k with
  | zero => intro x2 x3 s; exact j_none
  | succ k ih =>
    intro x2 x3 s
    rw [fX0_howManyOf_L4]
    refine j_iload_n 5 dX0_howManyOf_4 rfl rfl ?_
    refine j_aload_n 6 dX0_howManyOf_5 rfl rfl ?_
    refine s_getI 9 fa6_1 w_160 dX0_howManyOf_6 rfl ?_
    refine j_icmp_ge 35 12 dX0_howManyOf_9 (by decide) rfl (fun c1 => ?_) (fun c1 => ?_)
    · refine j_iload_n 13 dX0_howManyOf_12 rfl rfl ?_
      refine j_aload_n 14 dX0_howManyOf_13 rfl rfl ?_
      refine j_iload_n 15 dX0_howManyOf_14 rfl rfl ?_
      refine j_iload_n 16 dX0_howManyOf_15 rfl rfl ?_
      refine s_callVi (M2 := mX0_isOf) [vI x3, vI y1] 19 oa6 cc0 mkX0_isOf w_1154 dX0_howManyOf_16 rfl rfl (tX0_isOf Θ l _ _  _) (by first | exact Nat.le_of_ble_eq_true rfl | omega) (Nat.le_of_ble_eq_true rfl) (Nat.le_of_ble_eq_true rfl) (fun r2 s3 => ?_)
      refine j_if_eq 26 22 dX0_howManyOf_19 (by decide) rfl (fun c4 => ?_) (fun c4 => ?_)
      · refine j_iconst (v := 0) 27 dX0_howManyOf_26 rfl (by decide) ?_
        refine j_iadd 28 dX0_howManyOf_27 rfl ?_
        refine s_nmI (fun v5 => ?_)
        refine j_istore_n (i := 2) (ls' := [some (vR 6), some (vI y1), some (vI v5), some (vI x3)]) 29 dX0_howManyOf_28 rfl rfl (by decide) rfl rfl ?_
        refine j_iinc (v := x3 + 1) (ls' := [some (vR 6), some (vI y1), some (vI v5), some (vI (x3 + 1))]) 32 dX0_howManyOf_29 rfl rfl rfl (by decide) rfl rfl ?_
        refine j_goto 4 dX0_howManyOf_32 (by decide) ?_
        refine j_sub (ls' := [some (vR 6), some (vI y1), some (vI v5), some (vI (x3 + 1))]) (And.intro rfl (And.intro rfl (And.intro rfl (And.intro rfl trivial)))) ?_
        exact ih v5 (x3 + 1) s3
      · refine j_iconst (v := 1) 23 dX0_howManyOf_22 rfl (by decide) ?_
        refine j_goto 27 dX0_howManyOf_23 (by decide) ?_
        refine j_iadd 28 dX0_howManyOf_27 rfl ?_
        refine s_nmI (fun v6 => ?_)
        refine j_istore_n (i := 2) (ls' := [some (vR 6), some (vI y1), some (vI v6), some (vI x3)]) 29 dX0_howManyOf_28 rfl rfl (by decide) rfl rfl ?_
        refine j_iinc (v := x3 + 1) (ls' := [some (vR 6), some (vI y1), some (vI v6), some (vI (x3 + 1))]) 32 dX0_howManyOf_29 rfl rfl rfl (by decide) rfl rfl ?_
        refine j_goto 4 dX0_howManyOf_32 (by decide) ?_
        refine j_sub (ls' := [some (vR 6), some (vI y1), some (vI v6), some (vI (x3 + 1))]) (And.intro rfl (And.intro rfl (And.intro rfl (And.intro rfl trivial)))) ?_
        exact ih v6 (x3 + 1) s3
    · refine j_sub (ls' := [none, none, some (vI x2), none]) (And.intro rfl trivial) ?_
      exact hκ x2 s
theorem tX0_howManyOf (Θ : Th) (l : Launch)  (a1 : Int32)  (s : Mem) : Cs Θ l mX0_howManyOf 4 gI [vR 6, vI a1] s (fX0_howManyOf a1 s) := by
  refine ct_of (by decide) [some (vR 6), some (vI a1), none, none] rfl (Nat.le_of_ble_eq_true rfl) ?_
  unfold fX0_howManyOf
  refine j_iconst (v := 0) 1 dX0_howManyOf_0 rfl (by decide) ?_
  refine j_istore_n (i := 2) (ls' := [some (vR 6), some (vI a1), some (vI 0), none]) 2 dX0_howManyOf_1 rfl rfl (by decide) rfl rfl ?_
  refine j_iconst (v := 0) 3 dX0_howManyOf_2 rfl (by decide) ?_
  refine j_istore_n (i := 3) (ls' := [some (vR 6), some (vI a1), some (vI 0), some (vI 0)]) 4 dX0_howManyOf_3 rfl rfl (by decide) rfl rfl ?_
  refine j_sub (ls' := [some (vR 6), some (vI a1), some (vI 0), some (vI 0)]) (And.intro rfl (And.intro rfl (And.intro rfl (And.intro rfl trivial)))) ?_
  refine tX0_howManyOf_L4 Θ l _ _  ?_ _ _ _ _
  intro v7 s8
  refine j_iload_n 36 dX0_howManyOf_35 rfl rfl ?_
  exact s_iret dX0_howManyOf_36 rfl
-- X11_rowsThere
def fX11_rowsThere_L13  (κ : Int32 → Mem → Option (Int32 × Mem)) (y3 : Int32) : Nat → Int32 → Int32 → Mem → Option (Int32 × Mem)
  | 0, _, _, _ => none
  | k + 1, x1, x4, s =>
    if x4 < y3 then
      if inb x4 6 = true then
      if (RT 4 (ix x4)) = 0 then
        nm (x1 + 0) (fun v4 =>
        fX11_rowsThere_L13 κ y3 k v4 (x4 + 1) s)
      else
        if kd (RT 4 (ix x4)) = 7 then
        bnd (fX7_isMissing (RT 4 (ix x4)) s) (fun r6 s7 =>
        if r6 = 0 then
          nm (x1 + 1) (fun v9 =>
          fX11_rowsThere_L13 κ y3 k v9 (x4 + 1) s7)
        else
          nm (x1 + 0) (fun v10 =>
          fX11_rowsThere_L13 κ y3 k v10 (x4 + 1) s7))
        else none
      else none
    else
      κ x1 s
def fX11_rowsThere   (s : Mem) : Option (Int32 × Mem) :=
fX11_rowsThere_L13 (fun v11 s12 =>
  some (v11, s12)) 6 FU 0 0 s
theorem tX11_rowsThere_L13 (Θ : Th) (l : Launch)  (κ : Int32 → Mem → Option (Int32 × Mem)) (y3 : Int32)  (hκ : ∀ (x1 : Int32) (s : Mem), Js Θ l mX11_rowsThere 2 gI 52 [none, some (vI x1), none, none, none, none] [] s (κ x1 s)) : ∀ (k : Nat) (x1 : Int32) (x4 : Int32) (s : Mem), Js Θ l mX11_rowsThere 2 gI 13 [none, some (vI x1), some (vR 4), some (vI y3), some (vI x4), none] [] s (fX11_rowsThere_L13 κ y3 k x1 x4 s) := by
  intro k
  induction k with
  | zero => intro x1 x4 s; exact j_none
  | succ k ih =>
    intro x1 x4 s
    rw [fX11_rowsThere_L13]
    refine j_iload 15 dX11_rowsThere_13 rfl rfl ?_
    refine j_iload_n 16 dX11_rowsThere_15 rfl rfl ?_
    refine j_icmp_ge 52 19 dX11_rowsThere_16 (by decide) rfl (fun c1 => ?_) (fun c1 => ?_)
    · refine j_aload_n 20 dX11_rowsThere_19 rfl rfl ?_
      refine j_iload 22 dX11_rowsThere_20 rfl rfl ?_
      refine s_aaload 23 aa4 (by decide) dX11_rowsThere_22 rfl (fun b2 => ?_)
      refine j_astore (i := 5) (ls' := [none, some (vI x1), some (vR 4), some (vI y3), some (vI x4), some (vR (RT 4 (ix x4)))]) 25 dX11_rowsThere_23 rfl (by decide) rfl rfl ?_
      refine j_iload_n 26 dX11_rowsThere_25 rfl rfl ?_
      refine j_aload 28 dX11_rowsThere_26 rfl rfl ?_
      refine j_ifnull 39 31 dX11_rowsThere_28 (by decide) rfl (fun c3 => ?_) (fun c3 => ?_)
      · refine j_iconst (v := 0) 40 dX11_rowsThere_39 rfl (by decide) ?_
        refine j_goto 44 dX11_rowsThere_40 (by decide) ?_
        refine j_iadd 45 dX11_rowsThere_44 rfl ?_
        refine s_nmI (fun v4 => ?_)
        refine j_istore_n (i := 1) (ls' := [none, some (vI v4), some (vR 4), some (vI y3), some (vI x4), some (vR (RT 4 (ix x4)))]) 46 dX11_rowsThere_45 rfl rfl (by decide) rfl rfl ?_
        refine j_iinc (v := x4 + 1) (ls' := [none, some (vI v4), some (vR 4), some (vI y3), some (vI (x4 + 1)), some (vR (RT 4 (ix x4)))]) 49 dX11_rowsThere_46 rfl rfl rfl (by decide) rfl rfl ?_
        refine j_goto 13 dX11_rowsThere_49 (by decide) ?_
        refine j_sub (ls' := [none, some (vI v4), some (vR 4), some (vI y3), some (vI (x4 + 1)), none]) (And.intro rfl (And.intro rfl (And.intro rfl (And.intro rfl trivial)))) ?_
        exact ih v4 (x4 + 1) s
      · refine j_aload 33 dX11_rowsThere_31 rfl rfl ?_
        refine j_ite (fun hk5 => ?_) (fun _ => j_none)
        refine s_callVi (M2 := mX7_isMissing) [] 36 (row_oa hk5) cc7 mkX7_isMissing w_466 dX11_rowsThere_33 rfl rfl (tX7_isMissing Θ l _ hk5 _) (by first | exact Nat.le_of_ble_eq_true rfl | omega) (Nat.le_of_ble_eq_true rfl) (Nat.le_of_ble_eq_true rfl) (fun r6 s7 => ?_)
        refine j_if_eq 43 39 dX11_rowsThere_36 (by decide) rfl (fun c8 => ?_) (fun c8 => ?_)
        · refine j_iconst (v := 1) 44 dX11_rowsThere_43 rfl (by decide) ?_
          refine j_iadd 45 dX11_rowsThere_44 rfl ?_
          refine s_nmI (fun v9 => ?_)
          refine j_istore_n (i := 1) (ls' := [none, some (vI v9), some (vR 4), some (vI y3), some (vI x4), some (vR (RT 4 (ix x4)))]) 46 dX11_rowsThere_45 rfl rfl (by decide) rfl rfl ?_
          refine j_iinc (v := x4 + 1) (ls' := [none, some (vI v9), some (vR 4), some (vI y3), some (vI (x4 + 1)), some (vR (RT 4 (ix x4)))]) 49 dX11_rowsThere_46 rfl rfl rfl (by decide) rfl rfl ?_
          refine j_goto 13 dX11_rowsThere_49 (by decide) ?_
          refine j_sub (ls' := [none, some (vI v9), some (vR 4), some (vI y3), some (vI (x4 + 1)), none]) (And.intro rfl (And.intro rfl (And.intro rfl (And.intro rfl trivial)))) ?_
          exact ih v9 (x4 + 1) s7
        · refine j_iconst (v := 0) 40 dX11_rowsThere_39 rfl (by decide) ?_
          refine j_goto 44 dX11_rowsThere_40 (by decide) ?_
          refine j_iadd 45 dX11_rowsThere_44 rfl ?_
          refine s_nmI (fun v10 => ?_)
          refine j_istore_n (i := 1) (ls' := [none, some (vI v10), some (vR 4), some (vI y3), some (vI x4), some (vR (RT 4 (ix x4)))]) 46 dX11_rowsThere_45 rfl rfl (by decide) rfl rfl ?_
          refine j_iinc (v := x4 + 1) (ls' := [none, some (vI v10), some (vR 4), some (vI y3), some (vI (x4 + 1)), some (vR (RT 4 (ix x4)))]) 49 dX11_rowsThere_46 rfl rfl rfl (by decide) rfl rfl ?_
          refine j_goto 13 dX11_rowsThere_49 (by decide) ?_
          refine j_sub (ls' := [none, some (vI v10), some (vR 4), some (vI y3), some (vI (x4 + 1)), none]) (And.intro rfl (And.intro rfl (And.intro rfl (And.intro rfl trivial)))) ?_
          exact ih v10 (x4 + 1) s7
    · refine j_sub (ls' := [none, some (vI x1), none, none, none, none]) (And.intro rfl trivial) ?_
      exact hκ x1 s
theorem tX11_rowsThere (Θ : Th) (l : Launch)    (s : Mem) : Cs Θ l mX11_rowsThere 2 gI [vR 1] s (fX11_rowsThere  s) := by
  refine ct_of (by decide) [some (vR 1), none, none, none, none, none] rfl (Nat.le_of_ble_eq_true rfl) ?_
  unfold fX11_rowsThere
  refine j_iconst (v := 0) 1 dX11_rowsThere_0 rfl (by decide) ?_
  refine j_istore_n (i := 1) (ls' := [some (vR 1), some (vI 0), none, none, none, none]) 2 dX11_rowsThere_1 rfl rfl (by decide) rfl rfl ?_
  refine j_aload_n 3 dX11_rowsThere_2 rfl rfl ?_
  refine s_getR (x := 4) 6 fa1_1 w_403 dX11_rowsThere_3 rfl (by decide +kernel) ?_
  refine j_astore_n (i := 2) (ls' := [some (vR 1), some (vI 0), some (vR 4), none, none, none]) 7 dX11_rowsThere_6 rfl rfl (by decide) rfl rfl ?_
  refine j_aload_n 8 dX11_rowsThere_7 rfl rfl ?_
  refine s_alen (v := 6) 9 aa4 (by decide) (by decide) (by decide) dX11_rowsThere_8 rfl ?_
  refine j_istore_n (i := 3) (ls' := [some (vR 1), some (vI 0), some (vR 4), some (vI 6), none, none]) 10 dX11_rowsThere_9 rfl rfl (by decide) rfl rfl ?_
  refine j_iconst (v := 0) 11 dX11_rowsThere_10 rfl (by decide) ?_
  refine j_istore (i := 4) (ls' := [some (vR 1), some (vI 0), some (vR 4), some (vI 6), some (vI 0), none]) 13 dX11_rowsThere_11 rfl (by decide) rfl rfl ?_
  refine j_sub (ls' := [none, some (vI 0), some (vR 4), some (vI 6), some (vI 0), none]) (And.intro rfl (And.intro rfl (And.intro rfl (And.intro rfl trivial)))) ?_
  refine tX11_rowsThere_L13 Θ l _ _  ?_ _ _ _ _
  intro v11 s12
  refine j_iload_n 53 dX11_rowsThere_52 rfl rfl ?_
  exact s_iret dX11_rowsThere_53 rfl
-- X11_textsThere
def fX11_textsThere_L13  (κ : Int32 → Mem → Option (Int32 × Mem)) (y3 : Int32) : Nat → Int32 → Int32 → Mem → Option (Int32 × Mem)
  | 0, _, _, _ => none
  | k + 1, x1, x4, s =>
    if x4 < y3 then
      if inb x4 4 = true then
      if (RT 5 (ix x4)) = 0 then
        nm (x1 + 0) (fun v4 =>
        fX11_textsThere_L13 κ y3 k v4 (x4 + 1) s)
      else
        if kd (RT 5 (ix x4)) = 9 then
        bnd (fX9_isMissing (RT 5 (ix x4)) s) (fun r6 s7 =>
        if r6 = 0 then
          nm (x1 + 1) (fun v9 =>
          fX11_textsThere_L13 κ y3 k v9 (x4 + 1) s7)
        else
          nm (x1 + 0) (fun v10 =>
          fX11_textsThere_L13 κ y3 k v10 (x4 + 1) s7))
        else none
      else none
    else
      κ x1 s
def fX11_textsThere   (s : Mem) : Option (Int32 × Mem) :=
fX11_textsThere_L13 (fun v11 s12 =>
  some (v11, s12)) 4 FU 0 0 s
theorem tX11_textsThere_L13 (Θ : Th) (l : Launch)  (κ : Int32 → Mem → Option (Int32 × Mem)) (y3 : Int32)  (hκ : ∀ (x1 : Int32) (s : Mem), Js Θ l mX11_textsThere 2 gI 52 [none, some (vI x1), none, none, none, none] [] s (κ x1 s)) : ∀ (k : Nat) (x1 : Int32) (x4 : Int32) (s : Mem), Js Θ l mX11_textsThere 2 gI 13 [none, some (vI x1), some (vR 5), some (vI y3), some (vI x4), none] [] s (fX11_textsThere_L13 κ y3 k x1 x4 s) := by
  intro k
  induction k with
  | zero => intro x1 x4 s; exact j_none
  | succ k ih =>
    intro x1 x4 s
    rw [fX11_textsThere_L13]
    refine j_iload 15 dX11_textsThere_13 rfl rfl ?_
    refine j_iload_n 16 dX11_textsThere_15 rfl rfl ?_
    refine j_icmp_ge 52 19 dX11_textsThere_16 (by decide) rfl (fun c1 => ?_) (fun c1 => ?_)
    · refine j_aload_n 20 dX11_textsThere_19 rfl rfl ?_
      refine j_iload 22 dX11_textsThere_20 rfl rfl ?_
      refine s_aaload 23 aa5 (by decide) dX11_textsThere_22 rfl (fun b2 => ?_)
      refine j_astore (i := 5) (ls' := [none, some (vI x1), some (vR 5), some (vI y3), some (vI x4), some (vR (RT 5 (ix x4)))]) 25 dX11_textsThere_23 rfl (by decide) rfl rfl ?_
      refine j_iload_n 26 dX11_textsThere_25 rfl rfl ?_
      refine j_aload 28 dX11_textsThere_26 rfl rfl ?_
      refine j_ifnull 39 31 dX11_textsThere_28 (by decide) rfl (fun c3 => ?_) (fun c3 => ?_)
      · refine j_iconst (v := 0) 40 dX11_textsThere_39 rfl (by decide) ?_
        refine j_goto 44 dX11_textsThere_40 (by decide) ?_
        refine j_iadd 45 dX11_textsThere_44 rfl ?_
        refine s_nmI (fun v4 => ?_)
        refine j_istore_n (i := 1) (ls' := [none, some (vI v4), some (vR 5), some (vI y3), some (vI x4), some (vR (RT 5 (ix x4)))]) 46 dX11_textsThere_45 rfl rfl (by decide) rfl rfl ?_
        refine j_iinc (v := x4 + 1) (ls' := [none, some (vI v4), some (vR 5), some (vI y3), some (vI (x4 + 1)), some (vR (RT 5 (ix x4)))]) 49 dX11_textsThere_46 rfl rfl rfl (by decide) rfl rfl ?_
        refine j_goto 13 dX11_textsThere_49 (by decide) ?_
        refine j_sub (ls' := [none, some (vI v4), some (vR 5), some (vI y3), some (vI (x4 + 1)), none]) (And.intro rfl (And.intro rfl (And.intro rfl (And.intro rfl trivial)))) ?_
        exact ih v4 (x4 + 1) s
      · refine j_aload 33 dX11_textsThere_31 rfl rfl ?_
        refine j_ite (fun hk5 => ?_) (fun _ => j_none)
        refine s_callVi (M2 := mX9_isMissing) [] 36 (txt_oa hk5) cc9 mkX9_isMissing w_536 dX11_textsThere_33 rfl rfl (tX9_isMissing Θ l _ hk5 _) (by first | exact Nat.le_of_ble_eq_true rfl | omega) (Nat.le_of_ble_eq_true rfl) (Nat.le_of_ble_eq_true rfl) (fun r6 s7 => ?_)
        refine j_if_eq 43 39 dX11_textsThere_36 (by decide) rfl (fun c8 => ?_) (fun c8 => ?_)
        · refine j_iconst (v := 1) 44 dX11_textsThere_43 rfl (by decide) ?_
          refine j_iadd 45 dX11_textsThere_44 rfl ?_
          refine s_nmI (fun v9 => ?_)
          refine j_istore_n (i := 1) (ls' := [none, some (vI v9), some (vR 5), some (vI y3), some (vI x4), some (vR (RT 5 (ix x4)))]) 46 dX11_textsThere_45 rfl rfl (by decide) rfl rfl ?_
          refine j_iinc (v := x4 + 1) (ls' := [none, some (vI v9), some (vR 5), some (vI y3), some (vI (x4 + 1)), some (vR (RT 5 (ix x4)))]) 49 dX11_textsThere_46 rfl rfl rfl (by decide) rfl rfl ?_
          refine j_goto 13 dX11_textsThere_49 (by decide) ?_
          refine j_sub (ls' := [none, some (vI v9), some (vR 5), some (vI y3), some (vI (x4 + 1)), none]) (And.intro rfl (And.intro rfl (And.intro rfl (And.intro rfl trivial)))) ?_
          exact ih v9 (x4 + 1) s7
        · refine j_iconst (v := 0) 40 dX11_textsThere_39 rfl (by decide) ?_
          refine j_goto 44 dX11_textsThere_40 (by decide) ?_
          refine j_iadd 45 dX11_textsThere_44 rfl ?_
          refine s_nmI (fun v10 => ?_)
          refine j_istore_n (i := 1) (ls' := [none, some (vI v10), some (vR 5), some (vI y3), some (vI x4), some (vR (RT 5 (ix x4)))]) 46 dX11_textsThere_45 rfl rfl (by decide) rfl rfl ?_
          refine j_iinc (v := x4 + 1) (ls' := [none, some (vI v10), some (vR 5), some (vI y3), some (vI (x4 + 1)), some (vR (RT 5 (ix x4)))]) 49 dX11_textsThere_46 rfl rfl rfl (by decide) rfl rfl ?_
          refine j_goto 13 dX11_textsThere_49 (by decide) ?_
          refine j_sub (ls' := [none, some (vI v10), some (vR 5), some (vI y3), some (vI (x4 + 1)), none]) (And.intro rfl (And.intro rfl (And.intro rfl (And.intro rfl trivial)))) ?_
          exact ih v10 (x4 + 1) s7
    · refine j_sub (ls' := [none, some (vI x1), none, none, none, none]) (And.intro rfl trivial) ?_
      exact hκ x1 s
theorem tX11_textsThere (Θ : Th) (l : Launch)    (s : Mem) : Cs Θ l mX11_textsThere 2 gI [vR 1] s (fX11_textsThere  s) := by
  refine ct_of (by decide) [some (vR 1), none, none, none, none, none] rfl (Nat.le_of_ble_eq_true rfl) ?_
  unfold fX11_textsThere
  refine j_iconst (v := 0) 1 dX11_textsThere_0 rfl (by decide) ?_
  refine j_istore_n (i := 1) (ls' := [some (vR 1), some (vI 0), none, none, none, none]) 2 dX11_textsThere_1 rfl rfl (by decide) rfl rfl ?_
  refine j_aload_n 3 dX11_textsThere_2 rfl rfl ?_
  refine s_getR (x := 5) 6 fa1_2 w_404 dX11_textsThere_3 rfl (by decide +kernel) ?_
  refine j_astore_n (i := 2) (ls' := [some (vR 1), some (vI 0), some (vR 5), none, none, none]) 7 dX11_textsThere_6 rfl rfl (by decide) rfl rfl ?_
  refine j_aload_n 8 dX11_textsThere_7 rfl rfl ?_
  refine s_alen (v := 4) 9 aa5 (by decide) (by decide) (by decide) dX11_textsThere_8 rfl ?_
  refine j_istore_n (i := 3) (ls' := [some (vR 1), some (vI 0), some (vR 5), some (vI 4), none, none]) 10 dX11_textsThere_9 rfl rfl (by decide) rfl rfl ?_
  refine j_iconst (v := 0) 11 dX11_textsThere_10 rfl (by decide) ?_
  refine j_istore (i := 4) (ls' := [some (vR 1), some (vI 0), some (vR 5), some (vI 4), some (vI 0), none]) 13 dX11_textsThere_11 rfl (by decide) rfl rfl ?_
  refine j_sub (ls' := [none, some (vI 0), some (vR 5), some (vI 4), some (vI 0), none]) (And.intro rfl (And.intro rfl (And.intro rfl (And.intro rfl trivial)))) ?_
  refine tX11_textsThere_L13 Θ l _ _  ?_ _ _ _ _
  intro v11 s12
  refine j_iload_n 53 dX11_textsThere_52 rfl rfl ?_
  exact s_iret dX11_textsThere_53 rfl
-- X11_countOf
def fX11_countOf  (a1 : Int32) (s : Mem) : Option (Int32 × Mem) :=
if a1 = 0 then
  some (s.1 6 0, s)
else if a1 = 1 then
  some (s.1 6 1, s)
else if a1 = 2 then
  bnd (fX0_seatedCount s) (fun r4 s5 =>
  some (r4, s5))
else if a1 = 3 then
  some (s.1 18 0, s)
else if a1 = 4 then
  bnd (fX0_howManyOf 1 s) (fun r8 s9 =>
  some (r8, s9))
else if a1 = 5 then
  bnd (fX0_howManyOf 2 s) (fun r11 s12 =>
  some (r11, s12))
else if a1 = 6 then
  bnd (fX11_rowsThere s) (fun r14 s15 =>
  some (r14, s15))
else if a1 = 7 then
  bnd (fX11_textsThere s) (fun r17 s18 =>
  some (r17, s18))
else if a1 = 8 then
  some (s.1 7 0, s)
else 
  some (s.1 20 0, s)
theorem tX11_countOf (Θ : Th) (l : Launch)  (a1 : Int32)  (s : Mem) : Cs Θ l mX11_countOf 5 gI [vR 1, vI a1] s (fX11_countOf a1 s) := by
  refine ct_of (by decide) [some (vR 1), some (vI a1)] rfl (Nat.le_of_ble_eq_true rfl) ?_
  unfold fX11_countOf
  refine j_iload_n 1 dX11_countOf_0 rfl rfl ?_
  refine j_ite (fun c1 => ?_) (fun c1 => ?_)
  · refine j_tabIn (v := 0) 52 dX11_countOf_1 c1 (by decide) (by decide) rfl (by decide) ?_
    refine j_aload_n 53 dX11_countOf_52 rfl rfl ?_
    refine s_getR (x := 6) 56 fa1_3 w_405 dX11_countOf_53 rfl (by decide +kernel) ?_
    refine s_getI 59 fa6_0 w_159 dX11_countOf_56 rfl ?_
    exact s_iret dX11_countOf_59 rfl
  refine j_ite (fun c2 => ?_) (fun c2 => ?_)
  · refine j_tabIn (v := 1) 60 dX11_countOf_1 c2 (by decide) (by decide) rfl (by decide) ?_
    refine j_aload_n 61 dX11_countOf_60 rfl rfl ?_
    refine s_getR (x := 6) 64 fa1_3 w_405 dX11_countOf_61 rfl (by decide +kernel) ?_
    refine s_getI 67 fa6_1 w_162 dX11_countOf_64 rfl ?_
    exact s_iret dX11_countOf_67 rfl
  refine j_ite (fun c3 => ?_) (fun c3 => ?_)
  · refine j_tabIn (v := 2) 68 dX11_countOf_1 c3 (by decide) (by decide) rfl (by decide) ?_
    refine j_aload_n 69 dX11_countOf_68 rfl rfl ?_
    refine s_getR (x := 6) 72 fa1_3 w_405 dX11_countOf_69 rfl (by decide +kernel) ?_
    refine s_callVi (M2 := mX0_seatedCount) [] 75 oa6 cc0 mkX0_seatedCount w_854 dX11_countOf_72 rfl rfl (tX0_seatedCount Θ l   _) (by first | exact Nat.le_of_ble_eq_true rfl | omega) (Nat.le_of_ble_eq_true rfl) (Nat.le_of_ble_eq_true rfl) (fun r4 s5 => ?_)
    exact s_iret dX11_countOf_75 rfl
  refine j_ite (fun c6 => ?_) (fun c6 => ?_)
  · refine j_tabIn (v := 3) 76 dX11_countOf_1 c6 (by decide) (by decide) rfl (by decide) ?_
    refine j_aload_n 77 dX11_countOf_76 rfl rfl ?_
    refine s_getR (x := 18) 80 fa1_5 w_407 dX11_countOf_77 rfl (by decide +kernel) ?_
    refine s_getI 83 fa18_0 w_213 dX11_countOf_80 rfl ?_
    exact s_iret dX11_countOf_83 rfl
  refine j_ite (fun c7 => ?_) (fun c7 => ?_)
  · refine j_tabIn (v := 4) 84 dX11_countOf_1 c7 (by decide) (by decide) rfl (by decide) ?_
    refine j_aload_n 85 dX11_countOf_84 rfl rfl ?_
    refine s_getR (x := 6) 88 fa1_3 w_405 dX11_countOf_85 rfl (by decide +kernel) ?_
    refine j_iconst (v := 1) 89 dX11_countOf_88 rfl (by decide) ?_
    refine s_callVi (M2 := mX0_howManyOf) [vI 1] 92 oa6 cc0 mkX0_howManyOf w_1150 dX11_countOf_89 rfl rfl (tX0_howManyOf Θ l _  _) (by first | exact Nat.le_of_ble_eq_true rfl | omega) (Nat.le_of_ble_eq_true rfl) (Nat.le_of_ble_eq_true rfl) (fun r8 s9 => ?_)
    exact s_iret dX11_countOf_92 rfl
  refine j_ite (fun c10 => ?_) (fun c10 => ?_)
  · refine j_tabIn (v := 5) 93 dX11_countOf_1 c10 (by decide) (by decide) rfl (by decide) ?_
    refine j_aload_n 94 dX11_countOf_93 rfl rfl ?_
    refine s_getR (x := 6) 97 fa1_3 w_405 dX11_countOf_94 rfl (by decide +kernel) ?_
    refine j_iconst (v := 2) 98 dX11_countOf_97 rfl (by decide) ?_
    refine s_callVi (M2 := mX0_howManyOf) [vI 2] 101 oa6 cc0 mkX0_howManyOf w_1150 dX11_countOf_98 rfl rfl (tX0_howManyOf Θ l _  _) (by first | exact Nat.le_of_ble_eq_true rfl | omega) (Nat.le_of_ble_eq_true rfl) (Nat.le_of_ble_eq_true rfl) (fun r11 s12 => ?_)
    exact s_iret dX11_countOf_101 rfl
  refine j_ite (fun c13 => ?_) (fun c13 => ?_)
  · refine j_tabIn (v := 6) 102 dX11_countOf_1 c13 (by decide) (by decide) rfl (by decide) ?_
    refine j_aload_n 103 dX11_countOf_102 rfl rfl ?_
    refine s_callVi (M2 := mX11_rowsThere) [] 106 oa1 cc11 mkX11_rowsThere w_1155 dX11_countOf_103 rfl rfl (tX11_rowsThere Θ l   _) (by first | exact Nat.le_of_ble_eq_true rfl | omega) (Nat.le_of_ble_eq_true rfl) (Nat.le_of_ble_eq_true rfl) (fun r14 s15 => ?_)
    exact s_iret dX11_countOf_106 rfl
  refine j_ite (fun c16 => ?_) (fun c16 => ?_)
  · refine j_tabIn (v := 7) 107 dX11_countOf_1 c16 (by decide) (by decide) rfl (by decide) ?_
    refine j_aload_n 108 dX11_countOf_107 rfl rfl ?_
    refine s_callVi (M2 := mX11_textsThere) [] 111 oa1 cc11 mkX11_textsThere w_1159 dX11_countOf_108 rfl rfl (tX11_textsThere Θ l   _) (by first | exact Nat.le_of_ble_eq_true rfl | omega) (Nat.le_of_ble_eq_true rfl) (Nat.le_of_ble_eq_true rfl) (fun r17 s18 => ?_)
    exact s_iret dX11_countOf_111 rfl
  refine j_ite (fun c19 => ?_) (fun c19 => ?_)
  · refine j_tabIn (v := 8) 112 dX11_countOf_1 c19 (by decide) (by decide) rfl (by decide) ?_
    refine j_aload_n 113 dX11_countOf_112 rfl rfl ?_
    refine s_getR (x := 7) 116 fa1_4 w_406 dX11_countOf_113 rfl (by decide +kernel) ?_
    refine s_getI 119 fa7_0 w_143 dX11_countOf_116 rfl ?_
    exact s_iret dX11_countOf_119 rfl
  refine j_tabOut 120 dX11_countOf_1 (by have z0 := lv_neT c1 (a := 0) (by decide); have z1 := lv_neT c2 (a := 1) (by decide); have z2 := lv_neT c3 (a := 2) (by decide); have z3 := lv_neT c6 (a := 3) (by decide); have z4 := lv_neT c7 (a := 4) (by decide); have z5 := lv_neT c10 (a := 5) (by decide); have z6 := lv_neT c13 (a := 6) (by decide); have z7 := lv_neT c16 (a := 7) (by decide); have z8 := lv_neT c19 (a := 8) (by decide); omega) (by decide) ?_
  refine j_aload_n 121 dX11_countOf_120 rfl rfl ?_
  refine s_getR (x := 20) 124 fa1_6 w_408 dX11_countOf_121 rfl (by decide +kernel) ?_
  refine s_getI 127 fa20_0 w_230 dX11_countOf_124 rfl ?_
  exact s_iret dX11_countOf_127 rfl
-- X11_count
def fX11_count  (a1 : Int32) (s : Mem) : Option (Int32 × Mem) :=
bnd (fX11_isWithin a1 0 9 s) (fun r1 s2 =>
if r1 = 0 then
  some ((-1), s2)
else
  bnd (fX11_countOf a1 s2) (fun r4 s5 =>
  some (r4, s5)))
theorem tX11_count (Θ : Th) (l : Launch)  (a1 : Int32)  (s : Mem) : Cs Θ l mX11_count 6 gI [vR 1, vI a1] s (fX11_count a1 s) := by
  refine ct_of (by decide) [some (vR 1), some (vI a1)] rfl (Nat.le_of_ble_eq_true rfl) ?_
  unfold fX11_count
  refine j_iload_n 1 dX11_count_0 rfl rfl ?_
  refine j_iconst (v := 0) 2 dX11_count_1 rfl (by decide) ?_
  refine j_bipush (v := 9) 4 dX11_count_2 rfl (by decide) ?_
  refine s_callSi (M2 := mX11_isWithin) [vI a1, vI 0, vI 9] 7 mkX11_isWithin (Or.inl w_678) dX11_count_4 rfl rfl (tX11_isWithin Θ l _ _ _  _) (by first | exact Nat.le_of_ble_eq_true rfl | omega) (Nat.le_of_ble_eq_true rfl) (Nat.le_of_ble_eq_true rfl) (fun r1 s2 => ?_)
  refine j_if_eq 18 10 dX11_count_7 (by decide) rfl (fun c3 => ?_) (fun c3 => ?_)
  · refine j_iconst (v := (-1)) 19 dX11_count_18 rfl (by decide) ?_
    exact s_iret dX11_count_19 rfl
  · refine j_aload_n 11 dX11_count_10 rfl rfl ?_
    refine j_iload_n 12 dX11_count_11 rfl rfl ?_
    refine s_callVi (M2 := mX11_countOf) [vI a1] 15 oa1 cc11 mkX11_countOf w_1146 dX11_count_12 rfl rfl (tX11_countOf Θ l _  _) (by first | exact Nat.le_of_ble_eq_true rfl | omega) (Nat.le_of_ble_eq_true rfl) (Nat.le_of_ble_eq_true rfl) (fun r4 s5 => ?_)
    refine j_goto 19 dX11_count_15 (by decide) ?_
    exact s_iret dX11_count_19 rfl
-- X11_finding
def fX11_finding   (s : Mem) : Option (Int32 × Mem) :=
some (s.1 2 3, s)
theorem tX11_finding (Θ : Th) (l : Launch)    (s : Mem) : Cs Θ l mX11_finding 1 gI [vR 1] s (fX11_finding  s) := by
  refine ct_of (by decide) [some (vR 1)] rfl (Nat.le_of_ble_eq_true rfl) ?_
  unfold fX11_finding
  refine j_aload_n 1 dX11_finding_0 rfl rfl ?_
  refine s_getR (x := 2) 4 fa1_0 w_402 dX11_finding_1 rfl (by decide +kernel) ?_
  refine s_getI 7 fa2_3 w_112 dX11_finding_4 rfl ?_
  exact s_iret dX11_finding_7 rfl
-- X10_timesFound
def fX10_timesFound  (a1 : Int32) (s : Mem) : Option (Int32 × Mem) :=
if a1 < 0 then
  some (0, s)
else
  if a1 < 6 then
    if inb a1 6 = true then
    some (s.1 3 (ix a1), s)
    else none
  else
    some (0, s)
theorem tX10_timesFound (Θ : Th) (l : Launch)  (a1 : Int32)  (s : Mem) : Cs Θ l mX10_timesFound 1 gI [vR 2, vI a1] s (fX10_timesFound a1 s) := by
  refine ct_of (by decide) [some (vR 2), some (vI a1)] rfl (Nat.le_of_ble_eq_true rfl) ?_
  unfold fX10_timesFound
  refine j_iload_n 1 dX10_timesFound_0 rfl rfl ?_
  refine j_if_lt 22 4 dX10_timesFound_1 (by decide) rfl (fun c1 => ?_) (fun c1 => ?_)
  · refine j_iconst (v := 0) 23 dX10_timesFound_22 rfl (by decide) ?_
    exact s_iret dX10_timesFound_23 rfl
  · refine j_iload_n 5 dX10_timesFound_4 rfl rfl ?_
    refine j_aload_n 6 dX10_timesFound_5 rfl rfl ?_
    refine s_getR (x := 3) 9 fa2_4 w_113 dX10_timesFound_6 rfl (by decide +kernel) ?_
    refine s_alen (v := 6) 10 aa3 (by decide) (by decide) (by decide) dX10_timesFound_9 rfl ?_
    refine j_icmp_ge 22 13 dX10_timesFound_10 (by decide) rfl (fun c2 => ?_) (fun c2 => ?_)
    · refine j_aload_n 14 dX10_timesFound_13 rfl rfl ?_
      refine s_getR (x := 3) 17 fa2_4 w_113 dX10_timesFound_14 rfl (by decide +kernel) ?_
      refine j_iload_n 18 dX10_timesFound_17 rfl rfl ?_
      refine s_iaload 19 aa3 dX10_timesFound_18 rfl (fun b3 => ?_)
      refine j_goto 23 dX10_timesFound_19 (by decide) ?_
      exact s_iret dX10_timesFound_23 rfl
    · refine j_iconst (v := 0) 23 dX10_timesFound_22 rfl (by decide) ?_
      exact s_iret dX10_timesFound_23 rfl
-- X11_findings
def fX11_findings  (a1 : Int32) (s : Mem) : Option (Int32 × Mem) :=
bnd (fX11_isWithin a1 1 5 s) (fun r1 s2 =>
if r1 = 0 then
  some ((-1), s2)
else
  bnd (fX10_timesFound a1 s2) (fun r4 s5 =>
  some (r4, s5)))
theorem tX11_findings (Θ : Th) (l : Launch)  (a1 : Int32)  (s : Mem) : Cs Θ l mX11_findings 2 gI [vR 1, vI a1] s (fX11_findings a1 s) := by
  refine ct_of (by decide) [some (vR 1), some (vI a1)] rfl (Nat.le_of_ble_eq_true rfl) ?_
  unfold fX11_findings
  refine j_iload_n 1 dX11_findings_0 rfl rfl ?_
  refine j_iconst (v := 1) 2 dX11_findings_1 rfl (by decide) ?_
  refine j_iconst (v := 5) 3 dX11_findings_2 rfl (by decide) ?_
  refine s_callSi (M2 := mX11_isWithin) [vI a1, vI 1, vI 5] 6 mkX11_isWithin (Or.inl w_678) dX11_findings_3 rfl rfl (tX11_isWithin Θ l _ _ _  _) (by first | exact Nat.le_of_ble_eq_true rfl | omega) (Nat.le_of_ble_eq_true rfl) (Nat.le_of_ble_eq_true rfl) (fun r1 s2 => ?_)
  refine j_if_eq 20 9 dX11_findings_6 (by decide) rfl (fun c3 => ?_) (fun c3 => ?_)
  · refine j_iconst (v := (-1)) 21 dX11_findings_20 rfl (by decide) ?_
    exact s_iret dX11_findings_21 rfl
  · refine j_aload_n 10 dX11_findings_9 rfl rfl ?_
    refine s_getR (x := 2) 13 fa1_0 w_402 dX11_findings_10 rfl (by decide +kernel) ?_
    refine j_iload_n 14 dX11_findings_13 rfl rfl ?_
    refine s_callVi (M2 := mX10_timesFound) [vI a1] 17 oa2 cc10 mkX10_timesFound w_1171 dX11_findings_14 rfl rfl (tX10_timesFound Θ l _  _) (by first | exact Nat.le_of_ble_eq_true rfl | omega) (Nat.le_of_ble_eq_true rfl) (Nat.le_of_ble_eq_true rfl) (fun r4 s5 => ?_)
    refine j_goto 21 dX11_findings_17 (by decide) ?_
    exact s_iret dX11_findings_21 rfl
-- X11_withBarge
def fX11_withBarge_L20  (κ : Int64 → Mem → Option (Int64 × Mem)) (y5 : Int32) : Nat → Int64 → Int32 → Mem → Option (Int64 × Mem)
  | 0, _, _, _ => none
  | k + 1, x3, x6, s =>
    if x6 < 4 then
      bnd (fX11_ofBench y5 x6 s) (fun r3 s4 =>
      nm ((31 * x3) + (Int32.toInt64 r3)) (fun v5 =>
      fX11_withBarge_L20 κ y5 k v5 (x6 + 1) s4))
    else
      κ x3 s
def fX11_withBarge_L5  (κ : Int64 → Mem → Option (Int64 × Mem))  : Nat → Int64 → Int32 → Mem → Option (Int64 × Mem)
  | 0, _, _, _ => none
  | k + 1, x3, x5, s =>
    if x5 < (s.1 6 0) then
      fX11_withBarge_L20 (fun v6 s7 =>
        fX11_withBarge_L5 κ k v6 (x5 + 1) s7) x5 FU x3 0 s
    else
      κ x3 s
def fX11_withBarge_L72  (κ : Int64 → Mem → Option (Int64 × Mem)) (y5 : Int32) : Nat → Int64 → Int32 → Mem → Option (Int64 × Mem)
  | 0, _, _, _ => none
  | k + 1, x3, x6, s =>
    if x6 < 5 then
      bnd (fX11_ofGuest y5 x6 s) (fun r12 s13 =>
      nm ((31 * x3) + (Int32.toInt64 r12)) (fun v14 =>
      fX11_withBarge_L72 κ y5 k v14 (x6 + 1) s13))
    else
      κ x3 s
def fX11_withBarge_L57  (κ : Int64 → Mem → Option (Int64 × Mem))  : Nat → Int64 → Int32 → Mem → Option (Int64 × Mem)
  | 0, _, _, _ => none
  | k + 1, x3, x5, s =>
    if x5 < (s.1 6 1) then
      fX11_withBarge_L72 (fun v15 s16 =>
        fX11_withBarge_L57 κ k v15 (x5 + 1) s16) x5 FU x3 0 s
    else
      κ x3 s
def fX11_withBarge  (a1 : Int64) (s : Mem) : Option (Int64 × Mem) :=
fX11_withBarge_L5 (fun v8 s9 =>
  fX11_withBarge_L57 (fun v17 s18 =>
    some (v17, s18))  FU v8 0 s9)  FU a1 0 s
theorem tX11_withBarge_L20 (Θ : Th) (l : Launch)  (κ : Int64 → Mem → Option (Int64 × Mem)) (y5 : Int32)  (hκ : ∀ (x3 : Int64) (s : Mem), Js Θ l mX11_withBarge 6 gL 48 [some (vR 1), none, none, some (vL x3), none, some (vI y5), none] [] s (κ x3 s)) : ∀ (k : Nat) (x3 : Int64) (x6 : Int32) (s : Mem), Js Θ l mX11_withBarge 6 gL 20 [some (vR 1), none, none, some (vL x3), none, some (vI y5), some (vI x6)] [] s (fX11_withBarge_L20 κ y5 k x3 x6 s) := by
  intro k
  induction k with
  | zero => intro x3 x6 s; exact j_none
  | succ k ih =>
    intro x3 x6 s
    rw [fX11_withBarge_L20]
    refine j_iload 22 dX11_withBarge_20 rfl rfl ?_
    refine j_iconst (v := 4) 23 dX11_withBarge_22 rfl (by decide) ?_
    refine j_icmp_ge 48 26 dX11_withBarge_23 (by decide) rfl (fun c2 => ?_) (fun c2 => ?_)
    · refine j_ldc2 (v := 31) 29 dX11_withBarge_26 rfl w_1180 ?_
      refine j_lload_n 30 dX11_withBarge_29 rfl rfl ?_
      refine j_lmul 31 dX11_withBarge_30 rfl ?_
      refine j_aload_n 32 dX11_withBarge_31 rfl rfl ?_
      refine j_iload 34 dX11_withBarge_32 rfl rfl ?_
      refine j_iload 36 dX11_withBarge_34 rfl rfl ?_
      refine s_callVi (M2 := mX11_ofBench) [vI y5, vI x6] 39 oa1 cc11 mkX11_ofBench w_679 dX11_withBarge_36 rfl rfl (tX11_ofBench Θ l _ _  _) (by first | exact Nat.le_of_ble_eq_true rfl | omega) (Nat.le_of_ble_eq_true rfl) (Nat.le_of_ble_eq_true rfl) (fun r3 s4 => ?_)
      refine j_i2l 40 dX11_withBarge_39 rfl ?_
      refine j_ladd 41 dX11_withBarge_40 rfl ?_
      refine s_nmL (fun v5 => ?_)
      refine j_lstore_n (i := 3) (ls' := [some (vR 1), none, none, some (vL v5), none, some (vI y5), some (vI x6)]) 42 dX11_withBarge_41 rfl rfl (by decide) rfl rfl ?_
      refine j_iinc (v := x6 + 1) (ls' := [some (vR 1), none, none, some (vL v5), none, some (vI y5), some (vI (x6 + 1))]) 45 dX11_withBarge_42 rfl rfl rfl (by decide) rfl rfl ?_
      refine j_goto 20 dX11_withBarge_45 (by decide) ?_
      refine j_sub (ls' := [some (vR 1), none, none, some (vL v5), none, some (vI y5), some (vI (x6 + 1))]) (And.intro rfl (And.intro rfl (And.intro rfl (And.intro rfl trivial)))) ?_
      exact ih v5 (x6 + 1) s4
    · refine j_sub (ls' := [some (vR 1), none, none, some (vL x3), none, some (vI y5), none]) (And.intro rfl (And.intro rfl (And.intro rfl trivial))) ?_
      exact hκ x3 s
theorem tX11_withBarge_L5 (Θ : Th) (l : Launch)  (κ : Int64 → Mem → Option (Int64 × Mem))   (hκ : ∀ (x3 : Int64) (s : Mem), Js Θ l mX11_withBarge 6 gL 54 [some (vR 1), none, none, some (vL x3), none, none, none] [] s (κ x3 s)) : ∀ (k : Nat) (x3 : Int64) (x5 : Int32) (s : Mem), Js Θ l mX11_withBarge 6 gL 5 [some (vR 1), none, none, some (vL x3), none, some (vI x5), none] [] s (fX11_withBarge_L5 κ  k x3 x5 s) := by
  intro k
  induction k with
  | zero => intro x3 x5 s; exact j_none
  | succ k ih =>
    intro x3 x5 s
    rw [fX11_withBarge_L5]
    refine j_iload 7 dX11_withBarge_5 rfl rfl ?_
    refine j_aload_n 8 dX11_withBarge_7 rfl rfl ?_
    refine s_getR (x := 6) 11 fa1_3 w_405 dX11_withBarge_8 rfl (by decide +kernel) ?_
    refine s_getI 14 fa6_0 w_159 dX11_withBarge_11 rfl ?_
    refine j_icmp_ge 54 17 dX11_withBarge_14 (by decide) rfl (fun c1 => ?_) (fun c1 => ?_)
    · refine j_iconst (v := 0) 18 dX11_withBarge_17 rfl (by decide) ?_
      refine j_istore (i := 6) (ls' := [some (vR 1), none, none, some (vL x3), none, some (vI x5), some (vI 0)]) 20 dX11_withBarge_18 rfl (by decide) rfl rfl ?_
      refine j_sub (ls' := [some (vR 1), none, none, some (vL x3), none, some (vI x5), some (vI 0)]) (And.intro rfl (And.intro rfl (And.intro rfl (And.intro rfl trivial)))) ?_
      refine tX11_withBarge_L20 Θ l _ _  ?_ _ _ _ _
      intro v6 s7
      refine j_iinc (v := x5 + 1) (ls' := [some (vR 1), none, none, some (vL v6), none, some (vI (x5 + 1)), none]) 51 dX11_withBarge_48 rfl rfl rfl (by decide) rfl rfl ?_
      refine j_goto 5 dX11_withBarge_51 (by decide) ?_
      refine j_sub (ls' := [some (vR 1), none, none, some (vL v6), none, some (vI (x5 + 1)), none]) (And.intro rfl (And.intro rfl (And.intro rfl trivial))) ?_
      exact ih v6 (x5 + 1) s7
    · refine j_sub (ls' := [some (vR 1), none, none, some (vL x3), none, none, none]) (And.intro rfl (And.intro rfl trivial)) ?_
      exact hκ x3 s
theorem tX11_withBarge_L72 (Θ : Th) (l : Launch)  (κ : Int64 → Mem → Option (Int64 × Mem)) (y5 : Int32)  (hκ : ∀ (x3 : Int64) (s : Mem), Js Θ l mX11_withBarge 6 gL 100 [some (vR 1), none, none, some (vL x3), none, some (vI y5), none] [] s (κ x3 s)) : ∀ (k : Nat) (x3 : Int64) (x6 : Int32) (s : Mem), Js Θ l mX11_withBarge 6 gL 72 [some (vR 1), none, none, some (vL x3), none, some (vI y5), some (vI x6)] [] s (fX11_withBarge_L72 κ y5 k x3 x6 s) := by
  intro k
  induction k with
  | zero => intro x3 x6 s; exact j_none
  | succ k ih =>
    intro x3 x6 s
    rw [fX11_withBarge_L72]
    refine j_iload 74 dX11_withBarge_72 rfl rfl ?_
    refine j_iconst (v := 5) 75 dX11_withBarge_74 rfl (by decide) ?_
    refine j_icmp_ge 100 78 dX11_withBarge_75 (by decide) rfl (fun c11 => ?_) (fun c11 => ?_)
    · refine j_ldc2 (v := 31) 81 dX11_withBarge_78 rfl w_1180 ?_
      refine j_lload_n 82 dX11_withBarge_81 rfl rfl ?_
      refine j_lmul 83 dX11_withBarge_82 rfl ?_
      refine j_aload_n 84 dX11_withBarge_83 rfl rfl ?_
      refine j_iload 86 dX11_withBarge_84 rfl rfl ?_
      refine j_iload 88 dX11_withBarge_86 rfl rfl ?_
      refine s_callVi (M2 := mX11_ofGuest) [vI y5, vI x6] 91 oa1 cc11 mkX11_ofGuest w_712 dX11_withBarge_88 rfl rfl (tX11_ofGuest Θ l _ _  _) (by first | exact Nat.le_of_ble_eq_true rfl | omega) (Nat.le_of_ble_eq_true rfl) (Nat.le_of_ble_eq_true rfl) (fun r12 s13 => ?_)
      refine j_i2l 92 dX11_withBarge_91 rfl ?_
      refine j_ladd 93 dX11_withBarge_92 rfl ?_
      refine s_nmL (fun v14 => ?_)
      refine j_lstore_n (i := 3) (ls' := [some (vR 1), none, none, some (vL v14), none, some (vI y5), some (vI x6)]) 94 dX11_withBarge_93 rfl rfl (by decide) rfl rfl ?_
      refine j_iinc (v := x6 + 1) (ls' := [some (vR 1), none, none, some (vL v14), none, some (vI y5), some (vI (x6 + 1))]) 97 dX11_withBarge_94 rfl rfl rfl (by decide) rfl rfl ?_
      refine j_goto 72 dX11_withBarge_97 (by decide) ?_
      refine j_sub (ls' := [some (vR 1), none, none, some (vL v14), none, some (vI y5), some (vI (x6 + 1))]) (And.intro rfl (And.intro rfl (And.intro rfl (And.intro rfl trivial)))) ?_
      exact ih v14 (x6 + 1) s13
    · refine j_sub (ls' := [some (vR 1), none, none, some (vL x3), none, some (vI y5), none]) (And.intro rfl (And.intro rfl (And.intro rfl trivial))) ?_
      exact hκ x3 s
theorem tX11_withBarge_L57 (Θ : Th) (l : Launch)  (κ : Int64 → Mem → Option (Int64 × Mem))   (hκ : ∀ (x3 : Int64) (s : Mem), Js Θ l mX11_withBarge 6 gL 106 [none, none, none, some (vL x3), none, none, none] [] s (κ x3 s)) : ∀ (k : Nat) (x3 : Int64) (x5 : Int32) (s : Mem), Js Θ l mX11_withBarge 6 gL 57 [some (vR 1), none, none, some (vL x3), none, some (vI x5), none] [] s (fX11_withBarge_L57 κ  k x3 x5 s) := by
  intro k
  induction k with
  | zero => intro x3 x5 s; exact j_none
  | succ k ih =>
    intro x3 x5 s
    rw [fX11_withBarge_L57]
    refine j_iload 59 dX11_withBarge_57 rfl rfl ?_
    refine j_aload_n 60 dX11_withBarge_59 rfl rfl ?_
    refine s_getR (x := 6) 63 fa1_3 w_405 dX11_withBarge_60 rfl (by decide +kernel) ?_
    refine s_getI 66 fa6_1 w_162 dX11_withBarge_63 rfl ?_
    refine j_icmp_ge 106 69 dX11_withBarge_66 (by decide) rfl (fun c10 => ?_) (fun c10 => ?_)
    · refine j_iconst (v := 0) 70 dX11_withBarge_69 rfl (by decide) ?_
      refine j_istore (i := 6) (ls' := [some (vR 1), none, none, some (vL x3), none, some (vI x5), some (vI 0)]) 72 dX11_withBarge_70 rfl (by decide) rfl rfl ?_
      refine j_sub (ls' := [some (vR 1), none, none, some (vL x3), none, some (vI x5), some (vI 0)]) (And.intro rfl (And.intro rfl (And.intro rfl (And.intro rfl trivial)))) ?_
      refine tX11_withBarge_L72 Θ l _ _  ?_ _ _ _ _
      intro v15 s16
      refine j_iinc (v := x5 + 1) (ls' := [some (vR 1), none, none, some (vL v15), none, some (vI (x5 + 1)), none]) 103 dX11_withBarge_100 rfl rfl rfl (by decide) rfl rfl ?_
      refine j_goto 57 dX11_withBarge_103 (by decide) ?_
      refine j_sub (ls' := [some (vR 1), none, none, some (vL v15), none, some (vI (x5 + 1)), none]) (And.intro rfl (And.intro rfl (And.intro rfl trivial))) ?_
      exact ih v15 (x5 + 1) s16
    · refine j_sub (ls' := [none, none, none, some (vL x3), none, none, none]) (And.intro rfl trivial) ?_
      exact hκ x3 s
theorem tX11_withBarge (Θ : Th) (l : Launch)  (a1 : Int64)  (s : Mem) : Cs Θ l mX11_withBarge 6 gL [vR 1, vL a1] s (fX11_withBarge a1 s) := by
  refine ct_of (by decide) [some (vR 1), some (vL a1), none, none, none, none, none] rfl (Nat.le_of_ble_eq_true rfl) ?_
  unfold fX11_withBarge
  refine j_lload_n 1 dX11_withBarge_0 rfl rfl ?_
  refine j_lstore_n (i := 3) (ls' := [some (vR 1), some (vL a1), none, some (vL a1), none, none, none]) 2 dX11_withBarge_1 rfl rfl (by decide) rfl rfl ?_
  refine j_iconst (v := 0) 3 dX11_withBarge_2 rfl (by decide) ?_
  refine j_istore (i := 5) (ls' := [some (vR 1), some (vL a1), none, some (vL a1), none, some (vI 0), none]) 5 dX11_withBarge_3 rfl (by decide) rfl rfl ?_
  refine j_sub (ls' := [some (vR 1), none, none, some (vL a1), none, some (vI 0), none]) (And.intro rfl (And.intro rfl (And.intro rfl trivial))) ?_
  refine tX11_withBarge_L5 Θ l _   ?_ _ _ _ _
  intro v8 s9
  refine j_iconst (v := 0) 55 dX11_withBarge_54 rfl (by decide) ?_
  refine j_istore (i := 5) (ls' := [some (vR 1), none, none, some (vL v8), none, some (vI 0), none]) 57 dX11_withBarge_55 rfl (by decide) rfl rfl ?_
  refine j_sub (ls' := [some (vR 1), none, none, some (vL v8), none, some (vI 0), none]) (And.intro rfl (And.intro rfl (And.intro rfl trivial))) ?_
  refine tX11_withBarge_L57 Θ l _   ?_ _ _ _ _
  intro v17 s18
  refine j_lload_n 107 dX11_withBarge_106 rfl rfl ?_
  exact s_lret dX11_withBarge_107 rfl
-- X11_withKept
def fX11_withKept_L26  (κ : Int64 → Mem → Option (Int64 × Mem)) (y5 : Int32) : Nat → Int64 → Int32 → Mem → Option (Int64 × Mem)
  | 0, _, _, _ => none
  | k + 1, x3, x6, s =>
    if x6 < (s.1 6 1) then
      bnd (fX3_benchOf y5 x6 s) (fun r7 s8 =>
      nm ((31 * x3) + (Int32.toInt64 r7)) (fun v9 =>
      fX11_withKept_L26 κ y5 k v9 (x6 + 1) s8))
    else
      κ x3 s
def fX11_withKept_L5  (κ : Int64 → Mem → Option (Int64 × Mem))  : Nat → Int64 → Int32 → Mem → Option (Int64 × Mem)
  | 0, _, _, _ => none
  | k + 1, x3, x5, s =>
    if x5 < 3 then
      bnd (fX3_has x5 s) (fun r2 s3 =>
      if r2 = 0 then
        nm ((31 * x3) + (-1)) (fun v5 =>
        fX11_withKept_L5 κ k v5 (x5 + 1) s3)
      else
        fX11_withKept_L26 (fun v10 s11 =>
          fX11_withKept_L5 κ k v10 (x5 + 1) s11) x5 FU x3 0 s3)
    else
      κ x3 s
def fX11_withKept  (a1 : Int64) (s : Mem) : Option (Int64 × Mem) :=
fX11_withKept_L5 (fun v12 s13 =>
  some (v12, s13))  FU a1 0 s
theorem tX11_withKept_L26 (Θ : Th) (l : Launch)  (κ : Int64 → Mem → Option (Int64 × Mem)) (y5 : Int32)  (hκ : ∀ (x3 : Int64) (s : Mem), Js Θ l mX11_withKept 3 gL 63 [some (vR 1), none, none, some (vL x3), none, some (vI y5), none] [] s (κ x3 s)) : ∀ (k : Nat) (x3 : Int64) (x6 : Int32) (s : Mem), Js Θ l mX11_withKept 3 gL 26 [some (vR 1), none, none, some (vL x3), none, some (vI y5), some (vI x6)] [] s (fX11_withKept_L26 κ y5 k x3 x6 s) := by
  intro k
  induction k with
  | zero => intro x3 x6 s; exact j_none
  | succ k ih =>
    intro x3 x6 s
    rw [fX11_withKept_L26]
    refine j_iload 28 dX11_withKept_26 rfl rfl ?_
    refine j_aload_n 29 dX11_withKept_28 rfl rfl ?_
    refine s_getR (x := 6) 32 fa1_3 w_405 dX11_withKept_29 rfl (by decide +kernel) ?_
    refine s_getI 35 fa6_1 w_162 dX11_withKept_32 rfl ?_
    refine j_icmp_ge 63 38 dX11_withKept_35 (by decide) rfl (fun c6 => ?_) (fun c6 => ?_)
    · refine j_ldc2 (v := 31) 41 dX11_withKept_38 rfl w_1180 ?_
      refine j_lload_n 42 dX11_withKept_41 rfl rfl ?_
      refine j_lmul 43 dX11_withKept_42 rfl ?_
      refine j_aload_n 44 dX11_withKept_43 rfl rfl ?_
      refine s_getR (x := 24) 47 fa1_7 w_409 dX11_withKept_44 rfl (by decide +kernel) ?_
      refine j_iload 49 dX11_withKept_47 rfl rfl ?_
      refine j_iload 51 dX11_withKept_49 rfl rfl ?_
      refine s_callVi (M2 := mX3_benchOf) [vI y5, vI x6] 54 oa24 cc3 mkX3_benchOf w_1189 dX11_withKept_51 rfl rfl (tX3_benchOf Θ l _ _  _) (by first | exact Nat.le_of_ble_eq_true rfl | omega) (Nat.le_of_ble_eq_true rfl) (Nat.le_of_ble_eq_true rfl) (fun r7 s8 => ?_)
      refine j_i2l 55 dX11_withKept_54 rfl ?_
      refine j_ladd 56 dX11_withKept_55 rfl ?_
      refine s_nmL (fun v9 => ?_)
      refine j_lstore_n (i := 3) (ls' := [some (vR 1), none, none, some (vL v9), none, some (vI y5), some (vI x6)]) 57 dX11_withKept_56 rfl rfl (by decide) rfl rfl ?_
      refine j_iinc (v := x6 + 1) (ls' := [some (vR 1), none, none, some (vL v9), none, some (vI y5), some (vI (x6 + 1))]) 60 dX11_withKept_57 rfl rfl rfl (by decide) rfl rfl ?_
      refine j_goto 26 dX11_withKept_60 (by decide) ?_
      refine j_sub (ls' := [some (vR 1), none, none, some (vL v9), none, some (vI y5), some (vI (x6 + 1))]) (And.intro rfl (And.intro rfl (And.intro rfl (And.intro rfl trivial)))) ?_
      exact ih v9 (x6 + 1) s8
    · refine j_sub (ls' := [some (vR 1), none, none, some (vL x3), none, some (vI y5), none]) (And.intro rfl (And.intro rfl (And.intro rfl trivial))) ?_
      exact hκ x3 s
theorem tX11_withKept_L5 (Θ : Th) (l : Launch)  (κ : Int64 → Mem → Option (Int64 × Mem))   (hκ : ∀ (x3 : Int64) (s : Mem), Js Θ l mX11_withKept 3 gL 82 [none, none, none, some (vL x3), none, none, none] [] s (κ x3 s)) : ∀ (k : Nat) (x3 : Int64) (x5 : Int32) (s : Mem), Js Θ l mX11_withKept 3 gL 5 [some (vR 1), none, none, some (vL x3), none, some (vI x5), none] [] s (fX11_withKept_L5 κ  k x3 x5 s) := by
  intro k
  induction k with
  | zero => intro x3 x5 s; exact j_none
  | succ k ih =>
    intro x3 x5 s
    rw [fX11_withKept_L5]
    refine j_iload 7 dX11_withKept_5 rfl rfl ?_
    refine j_iconst (v := 3) 8 dX11_withKept_7 rfl (by decide) ?_
    refine j_icmp_ge 82 11 dX11_withKept_8 (by decide) rfl (fun c1 => ?_) (fun c1 => ?_)
    · refine j_aload_n 12 dX11_withKept_11 rfl rfl ?_
      refine s_getR (x := 24) 15 fa1_7 w_409 dX11_withKept_12 rfl (by decide +kernel) ?_
      refine j_iload 17 dX11_withKept_15 rfl rfl ?_
      refine s_callVi (M2 := mX3_has) [vI x5] 20 oa24 cc3 mkX3_has w_863 dX11_withKept_17 rfl rfl (tX3_has Θ l _  _) (by first | exact Nat.le_of_ble_eq_true rfl | omega) (Nat.le_of_ble_eq_true rfl) (Nat.le_of_ble_eq_true rfl) (fun r2 s3 => ?_)
      refine j_if_eq 66 23 dX11_withKept_20 (by decide) rfl (fun c4 => ?_) (fun c4 => ?_)
      · refine j_ldc2 (v := 31) 69 dX11_withKept_66 rfl w_1180 ?_
        refine j_lload_n 70 dX11_withKept_69 rfl rfl ?_
        refine j_lmul 71 dX11_withKept_70 rfl ?_
        refine j_ldc2 (v := (-1)) 74 dX11_withKept_71 rfl w_1190 ?_
        refine j_ladd 75 dX11_withKept_74 rfl ?_
        refine s_nmL (fun v5 => ?_)
        refine j_lstore_n (i := 3) (ls' := [some (vR 1), none, none, some (vL v5), none, some (vI x5), none]) 76 dX11_withKept_75 rfl rfl (by decide) rfl rfl ?_
        refine j_iinc (v := x5 + 1) (ls' := [some (vR 1), none, none, some (vL v5), none, some (vI (x5 + 1)), none]) 79 dX11_withKept_76 rfl rfl rfl (by decide) rfl rfl ?_
        refine j_goto 5 dX11_withKept_79 (by decide) ?_
        refine j_sub (ls' := [some (vR 1), none, none, some (vL v5), none, some (vI (x5 + 1)), none]) (And.intro rfl (And.intro rfl (And.intro rfl trivial))) ?_
        exact ih v5 (x5 + 1) s3
      · refine j_iconst (v := 0) 24 dX11_withKept_23 rfl (by decide) ?_
        refine j_istore (i := 6) (ls' := [some (vR 1), none, none, some (vL x3), none, some (vI x5), some (vI 0)]) 26 dX11_withKept_24 rfl (by decide) rfl rfl ?_
        refine j_sub (ls' := [some (vR 1), none, none, some (vL x3), none, some (vI x5), some (vI 0)]) (And.intro rfl (And.intro rfl (And.intro rfl (And.intro rfl trivial)))) ?_
        refine tX11_withKept_L26 Θ l _ _  ?_ _ _ _ _
        intro v10 s11
        refine j_goto 76 dX11_withKept_63 (by decide) ?_
        refine j_iinc (v := x5 + 1) (ls' := [some (vR 1), none, none, some (vL v10), none, some (vI (x5 + 1)), none]) 79 dX11_withKept_76 rfl rfl rfl (by decide) rfl rfl ?_
        refine j_goto 5 dX11_withKept_79 (by decide) ?_
        refine j_sub (ls' := [some (vR 1), none, none, some (vL v10), none, some (vI (x5 + 1)), none]) (And.intro rfl (And.intro rfl (And.intro rfl trivial))) ?_
        exact ih v10 (x5 + 1) s11
    · refine j_sub (ls' := [none, none, none, some (vL x3), none, none, none]) (And.intro rfl trivial) ?_
      exact hκ x3 s
theorem tX11_withKept (Θ : Th) (l : Launch)  (a1 : Int64)  (s : Mem) : Cs Θ l mX11_withKept 3 gL [vR 1, vL a1] s (fX11_withKept a1 s) := by
  refine ct_of (by decide) [some (vR 1), some (vL a1), none, none, none, none, none] rfl (Nat.le_of_ble_eq_true rfl) ?_
  unfold fX11_withKept
  refine j_lload_n 1 dX11_withKept_0 rfl rfl ?_
  refine j_lstore_n (i := 3) (ls' := [some (vR 1), some (vL a1), none, some (vL a1), none, none, none]) 2 dX11_withKept_1 rfl rfl (by decide) rfl rfl ?_
  refine j_iconst (v := 0) 3 dX11_withKept_2 rfl (by decide) ?_
  refine j_istore (i := 5) (ls' := [some (vR 1), some (vL a1), none, some (vL a1), none, some (vI 0), none]) 5 dX11_withKept_3 rfl (by decide) rfl rfl ?_
  refine j_sub (ls' := [some (vR 1), none, none, some (vL a1), none, some (vI 0), none]) (And.intro rfl (And.intro rfl (And.intro rfl trivial))) ?_
  refine tX11_withKept_L5 Θ l _   ?_ _ _ _ _
  intro v12 s13
  refine j_lload_n 83 dX11_withKept_82 rfl rfl ?_
  exact s_lret dX11_withKept_83 rfl
-- X11_withRows
def fX11_withRows_L51  (κ : Int64 → Mem → Option (Int64 × Mem)) (y6 : Int32) (y7 : Int32) (q8 : Nat) : Nat → Int64 → Int32 → Mem → Option (Int64 × Mem)
  | 0, _, _, _ => none
  | k + 1, x3, x9, s =>
    if x9 < (s.1 q8 0) then
      bnd (fX7_placeAt q8 x9 s) (fun r7 s8 =>
      nm ((31 * x3) + (Int32.toInt64 r7)) (fun v9 =>
      fX11_withRows_L51 κ y6 y7 q8 k v9 (x9 + 1) s8))
    else
      κ x3 s
def fX11_withRows_L16  (κ : Int64 → Mem → Option (Int64 × Mem)) (y6 : Int32) : Nat → Int64 → Int32 → Mem → Option (Int64 × Mem)
  | 0, _, _, _ => none
  | k + 1, x3, x7, s =>
    if x7 < y6 then
      if inb x7 6 = true then
      if (RT 4 (ix x7)) = 0 then
        fX11_withRows_L16 κ y6 k x3 (x7 + 1) s
      else
        if kd (RT 4 (ix x7)) = 7 then
        nm ((31 * x3) + (Int32.toInt64 (s.1 (RT 4 (ix x7)) 0))) (fun v5 =>
        fX11_withRows_L51 (fun v10 s11 =>
          fX11_withRows_L16 κ y6 k v10 (x7 + 1) s11) y6 x7 (RT 4 (ix x7)) FU v5 0 s)
        else none
      else none
    else
      κ x3 s
def fX11_withRows  (a1 : Int64) (s : Mem) : Option (Int64 × Mem) :=
fX11_withRows_L16 (fun v12 s13 =>
  some (v12, s13)) 6 FU a1 0 s
theorem tX11_withRows_L51 (Θ : Th) (l : Launch)  (κ : Int64 → Mem → Option (Int64 × Mem)) (y6 : Int32) (y7 : Int32) (q8 : Nat) (hq8 : kd q8 = 7) (hκ : ∀ (x3 : Int64) (s : Mem), Js Θ l mX11_withRows 3 gL 82 [none, none, none, some (vL x3), none, some (vR 4), some (vI y6), some (vI y7), none, none] [] s (κ x3 s)) : ∀ (k : Nat) (x3 : Int64) (x9 : Int32) (s : Mem), Js Θ l mX11_withRows 3 gL 51 [none, none, none, some (vL x3), none, some (vR 4), some (vI y6), some (vI y7), some (vR q8), some (vI x9)] [] s (fX11_withRows_L51 κ y6 y7 q8 k x3 x9 s) := by
  intro k
  induction k with
  | zero => intro x3 x9 s; exact j_none
  | succ k ih =>
    intro x3 x9 s
    rw [fX11_withRows_L51]
    refine j_iload 53 dX11_withRows_51 rfl rfl ?_
    refine j_aload 55 dX11_withRows_53 rfl rfl ?_
    refine s_getI 58 (row_fa0 hq8) w_379 dX11_withRows_55 rfl ?_
    refine j_icmp_ge 82 61 dX11_withRows_58 (by decide) rfl (fun c6 => ?_) (fun c6 => ?_)
    · refine j_ldc2 (v := 31) 64 dX11_withRows_61 rfl w_1180 ?_
      refine j_lload_n 65 dX11_withRows_64 rfl rfl ?_
      refine j_lmul 66 dX11_withRows_65 rfl ?_
      refine j_aload 68 dX11_withRows_66 rfl rfl ?_
      refine j_iload 70 dX11_withRows_68 rfl rfl ?_
      refine s_callVi (M2 := mX7_placeAt) [vI x9] 73 (row_oa hq8) cc7 mkX7_placeAt w_474 dX11_withRows_70 rfl rfl (tX7_placeAt Θ l _ _ hq8 _) (by first | exact Nat.le_of_ble_eq_true rfl | omega) (Nat.le_of_ble_eq_true rfl) (Nat.le_of_ble_eq_true rfl) (fun r7 s8 => ?_)
      refine j_i2l 74 dX11_withRows_73 rfl ?_
      refine j_ladd 75 dX11_withRows_74 rfl ?_
      refine s_nmL (fun v9 => ?_)
      refine j_lstore_n (i := 3) (ls' := [none, none, none, some (vL v9), none, some (vR 4), some (vI y6), some (vI y7), some (vR q8), some (vI x9)]) 76 dX11_withRows_75 rfl rfl (by decide) rfl rfl ?_
      refine j_iinc (v := x9 + 1) (ls' := [none, none, none, some (vL v9), none, some (vR 4), some (vI y6), some (vI y7), some (vR q8), some (vI (x9 + 1))]) 79 dX11_withRows_76 rfl rfl rfl (by decide) rfl rfl ?_
      refine j_goto 51 dX11_withRows_79 (by decide) ?_
      refine j_sub (ls' := [none, none, none, some (vL v9), none, some (vR 4), some (vI y6), some (vI y7), some (vR q8), some (vI (x9 + 1))]) (And.intro rfl (And.intro rfl (And.intro rfl (And.intro rfl (And.intro rfl (And.intro rfl trivial)))))) ?_
      exact ih v9 (x9 + 1) s8
    · refine j_sub (ls' := [none, none, none, some (vL x3), none, some (vR 4), some (vI y6), some (vI y7), none, none]) (And.intro rfl (And.intro rfl (And.intro rfl (And.intro rfl trivial)))) ?_
      exact hκ x3 s
theorem tX11_withRows_L16 (Θ : Th) (l : Launch)  (κ : Int64 → Mem → Option (Int64 × Mem)) (y6 : Int32)  (hκ : ∀ (x3 : Int64) (s : Mem), Js Θ l mX11_withRows 3 gL 88 [none, none, none, some (vL x3), none, none, none, none, none, none] [] s (κ x3 s)) : ∀ (k : Nat) (x3 : Int64) (x7 : Int32) (s : Mem), Js Θ l mX11_withRows 3 gL 16 [none, none, none, some (vL x3), none, some (vR 4), some (vI y6), some (vI x7), none, none] [] s (fX11_withRows_L16 κ y6 k x3 x7 s) := by
  intro k
  induction k with
  | zero => intro x3 x7 s; exact j_none
  | succ k ih =>
    intro x3 x7 s
    rw [fX11_withRows_L16]
    refine j_iload 18 dX11_withRows_16 rfl rfl ?_
    refine j_iload 20 dX11_withRows_18 rfl rfl ?_
    refine j_icmp_ge 88 23 dX11_withRows_20 (by decide) rfl (fun c1 => ?_) (fun c1 => ?_)
    · refine j_aload 25 dX11_withRows_23 rfl rfl ?_
      refine j_iload 27 dX11_withRows_25 rfl rfl ?_
      refine s_aaload 28 aa4 (by decide) dX11_withRows_27 rfl (fun b2 => ?_)
      refine j_astore (i := 8) (ls' := [none, none, none, some (vL x3), none, some (vR 4), some (vI y6), some (vI x7), some (vR (RT 4 (ix x7))), none]) 30 dX11_withRows_28 rfl (by decide) rfl rfl ?_
      refine j_aload 32 dX11_withRows_30 rfl rfl ?_
      refine j_ifnull 82 35 dX11_withRows_32 (by decide) rfl (fun c3 => ?_) (fun c3 => ?_)
      · refine j_iinc (v := x7 + 1) (ls' := [none, none, none, some (vL x3), none, some (vR 4), some (vI y6), some (vI (x7 + 1)), some (vR (RT 4 (ix x7))), none]) 85 dX11_withRows_82 rfl rfl rfl (by decide) rfl rfl ?_
        refine j_goto 16 dX11_withRows_85 (by decide) ?_
        refine j_sub (ls' := [none, none, none, some (vL x3), none, some (vR 4), some (vI y6), some (vI (x7 + 1)), none, none]) (And.intro rfl (And.intro rfl (And.intro rfl (And.intro rfl trivial)))) ?_
        exact ih x3 (x7 + 1) s
      · refine j_ldc2 (v := 31) 38 dX11_withRows_35 rfl w_1180 ?_
        refine j_lload_n 39 dX11_withRows_38 rfl rfl ?_
        refine j_lmul 40 dX11_withRows_39 rfl ?_
        refine j_aload 42 dX11_withRows_40 rfl rfl ?_
        refine j_ite (fun hk4 => ?_) (fun _ => j_none)
        refine s_getI 45 (row_fa0 hk4) w_379 dX11_withRows_42 rfl ?_
        refine j_i2l 46 dX11_withRows_45 rfl ?_
        refine j_ladd 47 dX11_withRows_46 rfl ?_
        refine s_nmL (fun v5 => ?_)
        refine j_lstore_n (i := 3) (ls' := [none, none, none, some (vL v5), none, some (vR 4), some (vI y6), some (vI x7), some (vR (RT 4 (ix x7))), none]) 48 dX11_withRows_47 rfl rfl (by decide) rfl rfl ?_
        refine j_iconst (v := 0) 49 dX11_withRows_48 rfl (by decide) ?_
        refine j_istore (i := 9) (ls' := [none, none, none, some (vL v5), none, some (vR 4), some (vI y6), some (vI x7), some (vR (RT 4 (ix x7))), some (vI 0)]) 51 dX11_withRows_49 rfl (by decide) rfl rfl ?_
        refine j_sub (ls' := [none, none, none, some (vL v5), none, some (vR 4), some (vI y6), some (vI x7), some (vR (RT 4 (ix x7))), some (vI 0)]) (And.intro rfl (And.intro rfl (And.intro rfl (And.intro rfl (And.intro rfl (And.intro rfl trivial)))))) ?_
        refine tX11_withRows_L51 Θ l _ _ _ _ hk4 ?_ _ _ _ _
        intro v10 s11
        refine j_iinc (v := x7 + 1) (ls' := [none, none, none, some (vL v10), none, some (vR 4), some (vI y6), some (vI (x7 + 1)), none, none]) 85 dX11_withRows_82 rfl rfl rfl (by decide) rfl rfl ?_
        refine j_goto 16 dX11_withRows_85 (by decide) ?_
        refine j_sub (ls' := [none, none, none, some (vL v10), none, some (vR 4), some (vI y6), some (vI (x7 + 1)), none, none]) (And.intro rfl (And.intro rfl (And.intro rfl (And.intro rfl trivial)))) ?_
        exact ih v10 (x7 + 1) s11
    · refine j_sub (ls' := [none, none, none, some (vL x3), none, none, none, none, none, none]) (And.intro rfl trivial) ?_
      exact hκ x3 s
theorem tX11_withRows (Θ : Th) (l : Launch)  (a1 : Int64)  (s : Mem) : Cs Θ l mX11_withRows 3 gL [vR 1, vL a1] s (fX11_withRows a1 s) := by
  refine ct_of (by decide) [some (vR 1), some (vL a1), none, none, none, none, none, none, none, none] rfl (Nat.le_of_ble_eq_true rfl) ?_
  unfold fX11_withRows
  refine j_lload_n 1 dX11_withRows_0 rfl rfl ?_
  refine j_lstore_n (i := 3) (ls' := [some (vR 1), some (vL a1), none, some (vL a1), none, none, none, none, none, none]) 2 dX11_withRows_1 rfl rfl (by decide) rfl rfl ?_
  refine j_aload_n 3 dX11_withRows_2 rfl rfl ?_
  refine s_getR (x := 4) 6 fa1_1 w_403 dX11_withRows_3 rfl (by decide +kernel) ?_
  refine j_astore (i := 5) (ls' := [some (vR 1), some (vL a1), none, some (vL a1), none, some (vR 4), none, none, none, none]) 8 dX11_withRows_6 rfl (by decide) rfl rfl ?_
  refine j_aload 10 dX11_withRows_8 rfl rfl ?_
  refine s_alen (v := 6) 11 aa4 (by decide) (by decide) (by decide) dX11_withRows_10 rfl ?_
  refine j_istore (i := 6) (ls' := [some (vR 1), some (vL a1), none, some (vL a1), none, some (vR 4), some (vI 6), none, none, none]) 13 dX11_withRows_11 rfl (by decide) rfl rfl ?_
  refine j_iconst (v := 0) 14 dX11_withRows_13 rfl (by decide) ?_
  refine j_istore (i := 7) (ls' := [some (vR 1), some (vL a1), none, some (vL a1), none, some (vR 4), some (vI 6), some (vI 0), none, none]) 16 dX11_withRows_14 rfl (by decide) rfl rfl ?_
  refine j_sub (ls' := [none, none, none, some (vL a1), none, some (vR 4), some (vI 6), some (vI 0), none, none]) (And.intro rfl (And.intro rfl (And.intro rfl (And.intro rfl trivial)))) ?_
  refine tX11_withRows_L16 Θ l _ _  ?_ _ _ _ _
  intro v12 s13
  refine j_lload_n 89 dX11_withRows_88 rfl rfl ?_
  exact s_lret dX11_withRows_89 rfl
-- X11_withTexts
def fX11_withTexts_L51  (κ : Int64 → Mem → Option (Int64 × Mem)) (y6 : Int32) (y7 : Int32) (q8 : Nat) : Nat → Int64 → Int32 → Mem → Option (Int64 × Mem)
  | 0, _, _, _ => none
  | k + 1, x3, x9, s =>
    if x9 < (s.1 q8 0) then
      bnd (fX9_byteAt q8 x9 s) (fun r7 s8 =>
      nm ((31 * x3) + (Int32.toInt64 r7)) (fun v9 =>
      fX11_withTexts_L51 κ y6 y7 q8 k v9 (x9 + 1) s8))
    else
      κ x3 s
def fX11_withTexts_L16  (κ : Int64 → Mem → Option (Int64 × Mem)) (y6 : Int32) : Nat → Int64 → Int32 → Mem → Option (Int64 × Mem)
  | 0, _, _, _ => none
  | k + 1, x3, x7, s =>
    if x7 < y6 then
      if inb x7 4 = true then
      if (RT 5 (ix x7)) = 0 then
        fX11_withTexts_L16 κ y6 k x3 (x7 + 1) s
      else
        if kd (RT 5 (ix x7)) = 9 then
        nm ((31 * x3) + (Int32.toInt64 (s.1 (RT 5 (ix x7)) 0))) (fun v5 =>
        fX11_withTexts_L51 (fun v10 s11 =>
          fX11_withTexts_L16 κ y6 k v10 (x7 + 1) s11) y6 x7 (RT 5 (ix x7)) FU v5 0 s)
        else none
      else none
    else
      κ x3 s
def fX11_withTexts  (a1 : Int64) (s : Mem) : Option (Int64 × Mem) :=
fX11_withTexts_L16 (fun v12 s13 =>
  some (v12, s13)) 4 FU a1 0 s
theorem tX11_withTexts_L51 (Θ : Th) (l : Launch)  (κ : Int64 → Mem → Option (Int64 × Mem)) (y6 : Int32) (y7 : Int32) (q8 : Nat) (hq8 : kd q8 = 9) (hκ : ∀ (x3 : Int64) (s : Mem), Js Θ l mX11_withTexts 3 gL 82 [none, none, none, some (vL x3), none, some (vR 5), some (vI y6), some (vI y7), none, none] [] s (κ x3 s)) : ∀ (k : Nat) (x3 : Int64) (x9 : Int32) (s : Mem), Js Θ l mX11_withTexts 3 gL 51 [none, none, none, some (vL x3), none, some (vR 5), some (vI y6), some (vI y7), some (vR q8), some (vI x9)] [] s (fX11_withTexts_L51 κ y6 y7 q8 k x3 x9 s) := by
  intro k
  induction k with
  | zero => intro x3 x9 s; exact j_none
  | succ k ih =>
    intro x3 x9 s
    rw [fX11_withTexts_L51]
    refine j_iload 53 dX11_withTexts_51 rfl rfl ?_
    refine j_aload 55 dX11_withTexts_53 rfl rfl ?_
    refine s_getI 58 (txt_fa0 hq8) w_393 dX11_withTexts_55 rfl ?_
    refine j_icmp_ge 82 61 dX11_withTexts_58 (by decide) rfl (fun c6 => ?_) (fun c6 => ?_)
    · refine j_ldc2 (v := 31) 64 dX11_withTexts_61 rfl w_1180 ?_
      refine j_lload_n 65 dX11_withTexts_64 rfl rfl ?_
      refine j_lmul 66 dX11_withTexts_65 rfl ?_
      refine j_aload 68 dX11_withTexts_66 rfl rfl ?_
      refine j_iload 70 dX11_withTexts_68 rfl rfl ?_
      refine s_callVi (M2 := mX9_byteAt) [vI x9] 73 (txt_oa hq8) cc9 mkX9_byteAt w_1199 dX11_withTexts_70 rfl rfl (tX9_byteAt Θ l _ _ hq8 _) (by first | exact Nat.le_of_ble_eq_true rfl | omega) (Nat.le_of_ble_eq_true rfl) (Nat.le_of_ble_eq_true rfl) (fun r7 s8 => ?_)
      refine j_i2l 74 dX11_withTexts_73 rfl ?_
      refine j_ladd 75 dX11_withTexts_74 rfl ?_
      refine s_nmL (fun v9 => ?_)
      refine j_lstore_n (i := 3) (ls' := [none, none, none, some (vL v9), none, some (vR 5), some (vI y6), some (vI y7), some (vR q8), some (vI x9)]) 76 dX11_withTexts_75 rfl rfl (by decide) rfl rfl ?_
      refine j_iinc (v := x9 + 1) (ls' := [none, none, none, some (vL v9), none, some (vR 5), some (vI y6), some (vI y7), some (vR q8), some (vI (x9 + 1))]) 79 dX11_withTexts_76 rfl rfl rfl (by decide) rfl rfl ?_
      refine j_goto 51 dX11_withTexts_79 (by decide) ?_
      refine j_sub (ls' := [none, none, none, some (vL v9), none, some (vR 5), some (vI y6), some (vI y7), some (vR q8), some (vI (x9 + 1))]) (And.intro rfl (And.intro rfl (And.intro rfl (And.intro rfl (And.intro rfl (And.intro rfl trivial)))))) ?_
      exact ih v9 (x9 + 1) s8
    · refine j_sub (ls' := [none, none, none, some (vL x3), none, some (vR 5), some (vI y6), some (vI y7), none, none]) (And.intro rfl (And.intro rfl (And.intro rfl (And.intro rfl trivial)))) ?_
      exact hκ x3 s
theorem tX11_withTexts_L16 (Θ : Th) (l : Launch)  (κ : Int64 → Mem → Option (Int64 × Mem)) (y6 : Int32)  (hκ : ∀ (x3 : Int64) (s : Mem), Js Θ l mX11_withTexts 3 gL 88 [none, none, none, some (vL x3), none, none, none, none, none, none] [] s (κ x3 s)) : ∀ (k : Nat) (x3 : Int64) (x7 : Int32) (s : Mem), Js Θ l mX11_withTexts 3 gL 16 [none, none, none, some (vL x3), none, some (vR 5), some (vI y6), some (vI x7), none, none] [] s (fX11_withTexts_L16 κ y6 k x3 x7 s) := by
  intro k
  induction k with
  | zero => intro x3 x7 s; exact j_none
  | succ k ih =>
    intro x3 x7 s
    rw [fX11_withTexts_L16]
    refine j_iload 18 dX11_withTexts_16 rfl rfl ?_
    refine j_iload 20 dX11_withTexts_18 rfl rfl ?_
    refine j_icmp_ge 88 23 dX11_withTexts_20 (by decide) rfl (fun c1 => ?_) (fun c1 => ?_)
    · refine j_aload 25 dX11_withTexts_23 rfl rfl ?_
      refine j_iload 27 dX11_withTexts_25 rfl rfl ?_
      refine s_aaload 28 aa5 (by decide) dX11_withTexts_27 rfl (fun b2 => ?_)
      refine j_astore (i := 8) (ls' := [none, none, none, some (vL x3), none, some (vR 5), some (vI y6), some (vI x7), some (vR (RT 5 (ix x7))), none]) 30 dX11_withTexts_28 rfl (by decide) rfl rfl ?_
      refine j_aload 32 dX11_withTexts_30 rfl rfl ?_
      refine j_ifnull 82 35 dX11_withTexts_32 (by decide) rfl (fun c3 => ?_) (fun c3 => ?_)
      · refine j_iinc (v := x7 + 1) (ls' := [none, none, none, some (vL x3), none, some (vR 5), some (vI y6), some (vI (x7 + 1)), some (vR (RT 5 (ix x7))), none]) 85 dX11_withTexts_82 rfl rfl rfl (by decide) rfl rfl ?_
        refine j_goto 16 dX11_withTexts_85 (by decide) ?_
        refine j_sub (ls' := [none, none, none, some (vL x3), none, some (vR 5), some (vI y6), some (vI (x7 + 1)), none, none]) (And.intro rfl (And.intro rfl (And.intro rfl (And.intro rfl trivial)))) ?_
        exact ih x3 (x7 + 1) s
      · refine j_ldc2 (v := 31) 38 dX11_withTexts_35 rfl w_1180 ?_
        refine j_lload_n 39 dX11_withTexts_38 rfl rfl ?_
        refine j_lmul 40 dX11_withTexts_39 rfl ?_
        refine j_aload 42 dX11_withTexts_40 rfl rfl ?_
        refine j_ite (fun hk4 => ?_) (fun _ => j_none)
        refine s_getI 45 (txt_fa0 hk4) w_393 dX11_withTexts_42 rfl ?_
        refine j_i2l 46 dX11_withTexts_45 rfl ?_
        refine j_ladd 47 dX11_withTexts_46 rfl ?_
        refine s_nmL (fun v5 => ?_)
        refine j_lstore_n (i := 3) (ls' := [none, none, none, some (vL v5), none, some (vR 5), some (vI y6), some (vI x7), some (vR (RT 5 (ix x7))), none]) 48 dX11_withTexts_47 rfl rfl (by decide) rfl rfl ?_
        refine j_iconst (v := 0) 49 dX11_withTexts_48 rfl (by decide) ?_
        refine j_istore (i := 9) (ls' := [none, none, none, some (vL v5), none, some (vR 5), some (vI y6), some (vI x7), some (vR (RT 5 (ix x7))), some (vI 0)]) 51 dX11_withTexts_49 rfl (by decide) rfl rfl ?_
        refine j_sub (ls' := [none, none, none, some (vL v5), none, some (vR 5), some (vI y6), some (vI x7), some (vR (RT 5 (ix x7))), some (vI 0)]) (And.intro rfl (And.intro rfl (And.intro rfl (And.intro rfl (And.intro rfl (And.intro rfl trivial)))))) ?_
        refine tX11_withTexts_L51 Θ l _ _ _ _ hk4 ?_ _ _ _ _
        intro v10 s11
        refine j_iinc (v := x7 + 1) (ls' := [none, none, none, some (vL v10), none, some (vR 5), some (vI y6), some (vI (x7 + 1)), none, none]) 85 dX11_withTexts_82 rfl rfl rfl (by decide) rfl rfl ?_
        refine j_goto 16 dX11_withTexts_85 (by decide) ?_
        refine j_sub (ls' := [none, none, none, some (vL v10), none, some (vR 5), some (vI y6), some (vI (x7 + 1)), none, none]) (And.intro rfl (And.intro rfl (And.intro rfl (And.intro rfl trivial)))) ?_
        exact ih v10 (x7 + 1) s11
    · refine j_sub (ls' := [none, none, none, some (vL x3), none, none, none, none, none, none]) (And.intro rfl trivial) ?_
      exact hκ x3 s
theorem tX11_withTexts (Θ : Th) (l : Launch)  (a1 : Int64)  (s : Mem) : Cs Θ l mX11_withTexts 3 gL [vR 1, vL a1] s (fX11_withTexts a1 s) := by
  refine ct_of (by decide) [some (vR 1), some (vL a1), none, none, none, none, none, none, none, none] rfl (Nat.le_of_ble_eq_true rfl) ?_
  unfold fX11_withTexts
  refine j_lload_n 1 dX11_withTexts_0 rfl rfl ?_
  refine j_lstore_n (i := 3) (ls' := [some (vR 1), some (vL a1), none, some (vL a1), none, none, none, none, none, none]) 2 dX11_withTexts_1 rfl rfl (by decide) rfl rfl ?_
  refine j_aload_n 3 dX11_withTexts_2 rfl rfl ?_
  refine s_getR (x := 5) 6 fa1_2 w_404 dX11_withTexts_3 rfl (by decide +kernel) ?_
  refine j_astore (i := 5) (ls' := [some (vR 1), some (vL a1), none, some (vL a1), none, some (vR 5), none, none, none, none]) 8 dX11_withTexts_6 rfl (by decide) rfl rfl ?_
  refine j_aload 10 dX11_withTexts_8 rfl rfl ?_
  refine s_alen (v := 4) 11 aa5 (by decide) (by decide) (by decide) dX11_withTexts_10 rfl ?_
  refine j_istore (i := 6) (ls' := [some (vR 1), some (vL a1), none, some (vL a1), none, some (vR 5), some (vI 4), none, none, none]) 13 dX11_withTexts_11 rfl (by decide) rfl rfl ?_
  refine j_iconst (v := 0) 14 dX11_withTexts_13 rfl (by decide) ?_
  refine j_istore (i := 7) (ls' := [some (vR 1), some (vL a1), none, some (vL a1), none, some (vR 5), some (vI 4), some (vI 0), none, none]) 16 dX11_withTexts_14 rfl (by decide) rfl rfl ?_
  refine j_sub (ls' := [none, none, none, some (vL a1), none, some (vR 5), some (vI 4), some (vI 0), none, none]) (And.intro rfl (And.intro rfl (And.intro rfl (And.intro rfl trivial)))) ?_
  refine tX11_withTexts_L16 Θ l _ _  ?_ _ _ _ _
  intro v12 s13
  refine j_lload_n 89 dX11_withTexts_88 rfl rfl ?_
  exact s_lret dX11_withTexts_89 rfl
-- X11_digest
def fX11_digest_L6  (κ : Int64 → Mem → Option (Int64 × Mem))  : Nat → Int64 → Int32 → Mem → Option (Int64 × Mem)
  | 0, _, _, _ => none
  | k + 1, x1, x3, s =>
    if x3 < 10 then
      bnd (fX11_countOf x3 s) (fun r2 s3 =>
      nm ((31 * x1) + (Int32.toInt64 r2)) (fun v4 =>
      fX11_digest_L6 κ k v4 (x3 + 1) s3))
    else
      κ x1 s
def fX11_digest_L69  (κ : Int64 → Mem → Option (Int64 × Mem))  : Nat → Int64 → Int32 → Mem → Option (Int64 × Mem)
  | 0, _, _, _ => none
  | k + 1, x1, x3, s =>
    if x3 < (s.1 18 0) then
      bnd (fX6_postureIn x3 s) (fun r12 s13 =>
      nm ((31 * x1) + (Int32.toInt64 r12)) (fun v14 =>
      fX11_digest_L69 κ k v14 (x3 + 1) s13))
    else
      κ x1 s
def fX11_digest_L104  (κ : Int64 → Mem → Option (Int64 × Mem))  : Nat → Int64 → Int32 → Mem → Option (Int64 × Mem)
  | 0, _, _, _ => none
  | k + 1, x1, x3, s =>
    if x3 < (s.1 7 0) then
      bnd (fX5_oneOf x3 s) (fun r18 s19 =>
      nm ((31 * x1) + (Int32.toInt64 r18)) (fun v20 =>
      bnd (fX5_otherOf x3 s19) (fun r21 s22 =>
      nm ((31 * v20) + (Int32.toInt64 r21)) (fun v23 =>
      fX11_digest_L104 κ k v23 (x3 + 1) s22))))
    else
      κ x1 s
def fX11_digest   (s : Mem) : Option (Int64 × Mem) :=
fX11_digest_L6 (fun v5 s6 =>
  nm ((31 * v5) + (Int32.toInt64 (s6.1 6 2))) (fun v7 =>
  nm ((31 * v7) + (Int32.toInt64 (s6.1 6 3))) (fun v8 =>
  bnd (fX11_withBarge v8 s6) (fun r9 s10 =>
  fX11_digest_L69 (fun v15 s16 =>
    fX11_digest_L104 (fun v24 s25 =>
      bnd (fX11_withKept v24 s25) (fun r26 s27 =>
      bnd (fX11_withRows r26 s27) (fun r28 s29 =>
      bnd (fX11_withTexts r28 s29) (fun r30 s31 =>
      some (r30, s31)))))  FU v15 0 s16)  FU r9 0 s10))))  FU 17 0 s
theorem tX11_digest_L6 (Θ : Th) (l : Launch)  (κ : Int64 → Mem → Option (Int64 × Mem))   (hκ : ∀ (x1 : Int64) (s : Mem), Js Θ l mX11_digest 7 gL 31 [some (vR 1), some (vL x1), none, none] [] s (κ x1 s)) : ∀ (k : Nat) (x1 : Int64) (x3 : Int32) (s : Mem), Js Θ l mX11_digest 7 gL 6 [some (vR 1), some (vL x1), none, some (vI x3)] [] s (fX11_digest_L6 κ  k x1 x3 s) := by
  intro k
  induction k with
  | zero => intro x1 x3 s; exact j_none
  | succ k ih =>
    intro x1 x3 s
    rw [fX11_digest_L6]
    refine j_iload_n 7 dX11_digest_6 rfl rfl ?_
    refine j_bipush (v := 10) 9 dX11_digest_7 rfl (by decide) ?_
    refine j_icmp_ge 31 12 dX11_digest_9 (by decide) rfl (fun c1 => ?_) (fun c1 => ?_)
    · refine j_ldc2 (v := 31) 15 dX11_digest_12 rfl w_1180 ?_
      refine j_lload_n 16 dX11_digest_15 rfl rfl ?_
      refine j_lmul 17 dX11_digest_16 rfl ?_
      refine j_aload_n 18 dX11_digest_17 rfl rfl ?_
      refine j_iload_n 19 dX11_digest_18 rfl rfl ?_
      refine s_callVi (M2 := mX11_countOf) [vI x3] 22 oa1 cc11 mkX11_countOf w_1146 dX11_digest_19 rfl rfl (tX11_countOf Θ l _  _) (by first | exact Nat.le_of_ble_eq_true rfl | omega) (Nat.le_of_ble_eq_true rfl) (Nat.le_of_ble_eq_true rfl) (fun r2 s3 => ?_)
      refine j_i2l 23 dX11_digest_22 rfl ?_
      refine j_ladd 24 dX11_digest_23 rfl ?_
      refine s_nmL (fun v4 => ?_)
      refine j_lstore_n (i := 1) (ls' := [some (vR 1), some (vL v4), none, some (vI x3)]) 25 dX11_digest_24 rfl rfl (by decide) rfl rfl ?_
      refine j_iinc (v := x3 + 1) (ls' := [some (vR 1), some (vL v4), none, some (vI (x3 + 1))]) 28 dX11_digest_25 rfl rfl rfl (by decide) rfl rfl ?_
      refine j_goto 6 dX11_digest_28 (by decide) ?_
      refine j_sub (ls' := [some (vR 1), some (vL v4), none, some (vI (x3 + 1))]) (And.intro rfl (And.intro rfl (And.intro rfl trivial))) ?_
      exact ih v4 (x3 + 1) s3
    · refine j_sub (ls' := [some (vR 1), some (vL x1), none, none]) (And.intro rfl (And.intro rfl trivial)) ?_
      exact hκ x1 s
theorem tX11_digest_L69 (Θ : Th) (l : Launch)  (κ : Int64 → Mem → Option (Int64 × Mem))   (hκ : ∀ (x1 : Int64) (s : Mem), Js Θ l mX11_digest 7 gL 102 [some (vR 1), some (vL x1), none, none] [] s (κ x1 s)) : ∀ (k : Nat) (x1 : Int64) (x3 : Int32) (s : Mem), Js Θ l mX11_digest 7 gL 69 [some (vR 1), some (vL x1), none, some (vI x3)] [] s (fX11_digest_L69 κ  k x1 x3 s) := by
  intro k
  induction k with
  | zero => intro x1 x3 s; exact j_none
  | succ k ih =>
    intro x1 x3 s
    rw [fX11_digest_L69]
    refine j_iload_n 70 dX11_digest_69 rfl rfl ?_
    refine j_aload_n 71 dX11_digest_70 rfl rfl ?_
    refine s_getR (x := 18) 74 fa1_5 w_407 dX11_digest_71 rfl (by decide +kernel) ?_
    refine s_getI 77 fa18_0 w_213 dX11_digest_74 rfl ?_
    refine j_icmp_ge 102 80 dX11_digest_77 (by decide) rfl (fun c11 => ?_) (fun c11 => ?_)
    · refine j_ldc2 (v := 31) 83 dX11_digest_80 rfl w_1180 ?_
      refine j_lload_n 84 dX11_digest_83 rfl rfl ?_
      refine j_lmul 85 dX11_digest_84 rfl ?_
      refine j_aload_n 86 dX11_digest_85 rfl rfl ?_
      refine s_getR (x := 18) 89 fa1_5 w_407 dX11_digest_86 rfl (by decide +kernel) ?_
      refine j_iload_n 90 dX11_digest_89 rfl rfl ?_
      refine s_callVi (M2 := mX6_postureIn) [vI x3] 93 oa18 cc6 mkX6_postureIn w_899 dX11_digest_90 rfl rfl (tX6_postureIn Θ l _  _) (by first | exact Nat.le_of_ble_eq_true rfl | omega) (Nat.le_of_ble_eq_true rfl) (Nat.le_of_ble_eq_true rfl) (fun r12 s13 => ?_)
      refine j_i2l 94 dX11_digest_93 rfl ?_
      refine j_ladd 95 dX11_digest_94 rfl ?_
      refine s_nmL (fun v14 => ?_)
      refine j_lstore_n (i := 1) (ls' := [some (vR 1), some (vL v14), none, some (vI x3)]) 96 dX11_digest_95 rfl rfl (by decide) rfl rfl ?_
      refine j_iinc (v := x3 + 1) (ls' := [some (vR 1), some (vL v14), none, some (vI (x3 + 1))]) 99 dX11_digest_96 rfl rfl rfl (by decide) rfl rfl ?_
      refine j_goto 69 dX11_digest_99 (by decide) ?_
      refine j_sub (ls' := [some (vR 1), some (vL v14), none, some (vI (x3 + 1))]) (And.intro rfl (And.intro rfl (And.intro rfl trivial))) ?_
      exact ih v14 (x3 + 1) s13
    · refine j_sub (ls' := [some (vR 1), some (vL x1), none, none]) (And.intro rfl (And.intro rfl trivial)) ?_
      exact hκ x1 s
theorem tX11_digest_L104 (Θ : Th) (l : Launch)  (κ : Int64 → Mem → Option (Int64 × Mem))   (hκ : ∀ (x1 : Int64) (s : Mem), Js Θ l mX11_digest 7 gL 153 [some (vR 1), some (vL x1), none, none] [] s (κ x1 s)) : ∀ (k : Nat) (x1 : Int64) (x3 : Int32) (s : Mem), Js Θ l mX11_digest 7 gL 104 [some (vR 1), some (vL x1), none, some (vI x3)] [] s (fX11_digest_L104 κ  k x1 x3 s) := by
  intro k
  induction k with
  | zero => intro x1 x3 s; exact j_none
  | succ k ih =>
    intro x1 x3 s
    rw [fX11_digest_L104]
    refine j_iload_n 105 dX11_digest_104 rfl rfl ?_
    refine j_aload_n 106 dX11_digest_105 rfl rfl ?_
    refine s_getR (x := 7) 109 fa1_4 w_406 dX11_digest_106 rfl (by decide +kernel) ?_
    refine s_getI 112 fa7_0 w_143 dX11_digest_109 rfl ?_
    refine j_icmp_ge 153 115 dX11_digest_112 (by decide) rfl (fun c17 => ?_) (fun c17 => ?_)
    · refine j_ldc2 (v := 31) 118 dX11_digest_115 rfl w_1180 ?_
      refine j_lload_n 119 dX11_digest_118 rfl rfl ?_
      refine j_lmul 120 dX11_digest_119 rfl ?_
      refine j_aload_n 121 dX11_digest_120 rfl rfl ?_
      refine s_getR (x := 7) 124 fa1_4 w_406 dX11_digest_121 rfl (by decide +kernel) ?_
      refine j_iload_n 125 dX11_digest_124 rfl rfl ?_
      refine s_callVi (M2 := mX5_oneOf) [vI x3] 128 oa7 cc5 mkX5_oneOf w_1095 dX11_digest_125 rfl rfl (tX5_oneOf Θ l _  _) (by first | exact Nat.le_of_ble_eq_true rfl | omega) (Nat.le_of_ble_eq_true rfl) (Nat.le_of_ble_eq_true rfl) (fun r18 s19 => ?_)
      refine j_i2l 129 dX11_digest_128 rfl ?_
      refine j_ladd 130 dX11_digest_129 rfl ?_
      refine s_nmL (fun v20 => ?_)
      refine j_lstore_n (i := 1) (ls' := [some (vR 1), some (vL v20), none, some (vI x3)]) 131 dX11_digest_130 rfl rfl (by decide) rfl rfl ?_
      refine j_ldc2 (v := 31) 134 dX11_digest_131 rfl w_1180 ?_
      refine j_lload_n 135 dX11_digest_134 rfl rfl ?_
      refine j_lmul 136 dX11_digest_135 rfl ?_
      refine j_aload_n 137 dX11_digest_136 rfl rfl ?_
      refine s_getR (x := 7) 140 fa1_4 w_406 dX11_digest_137 rfl (by decide +kernel) ?_
      refine j_iload_n 141 dX11_digest_140 rfl rfl ?_
      refine s_callVi (M2 := mX5_otherOf) [vI x3] 144 oa7 cc5 mkX5_otherOf w_1099 dX11_digest_141 rfl rfl (tX5_otherOf Θ l _  _) (by first | exact Nat.le_of_ble_eq_true rfl | omega) (Nat.le_of_ble_eq_true rfl) (Nat.le_of_ble_eq_true rfl) (fun r21 s22 => ?_)
      refine j_i2l 145 dX11_digest_144 rfl ?_
      refine j_ladd 146 dX11_digest_145 rfl ?_
      refine s_nmL (fun v23 => ?_)
      refine j_lstore_n (i := 1) (ls' := [some (vR 1), some (vL v23), none, some (vI x3)]) 147 dX11_digest_146 rfl rfl (by decide) rfl rfl ?_
      refine j_iinc (v := x3 + 1) (ls' := [some (vR 1), some (vL v23), none, some (vI (x3 + 1))]) 150 dX11_digest_147 rfl rfl rfl (by decide) rfl rfl ?_
      refine j_goto 104 dX11_digest_150 (by decide) ?_
      refine j_sub (ls' := [some (vR 1), some (vL v23), none, some (vI (x3 + 1))]) (And.intro rfl (And.intro rfl (And.intro rfl trivial))) ?_
      exact ih v23 (x3 + 1) s22
    · refine j_sub (ls' := [some (vR 1), some (vL x1), none, none]) (And.intro rfl (And.intro rfl trivial)) ?_
      exact hκ x1 s
theorem tX11_digest (Θ : Th) (l : Launch)    (s : Mem) : Cs Θ l mX11_digest 7 gL [vR 1] s (fX11_digest  s) := by
  refine ct_of (by decide) [some (vR 1), none, none, none] rfl (Nat.le_of_ble_eq_true rfl) ?_
  unfold fX11_digest
  refine j_ldc2 (v := 17) 3 dX11_digest_0 rfl w_1179 ?_
  refine j_lstore_n (i := 1) (ls' := [some (vR 1), some (vL 17), none, none]) 4 dX11_digest_3 rfl rfl (by decide) rfl rfl ?_
  refine j_iconst (v := 0) 5 dX11_digest_4 rfl (by decide) ?_
  refine j_istore_n (i := 3) (ls' := [some (vR 1), some (vL 17), none, some (vI 0)]) 6 dX11_digest_5 rfl rfl (by decide) rfl rfl ?_
  refine j_sub (ls' := [some (vR 1), some (vL 17), none, some (vI 0)]) (And.intro rfl (And.intro rfl (And.intro rfl trivial))) ?_
  refine tX11_digest_L6 Θ l _   ?_ _ _ _ _
  intro v5 s6
  refine j_ldc2 (v := 31) 34 dX11_digest_31 rfl w_1180 ?_
  refine j_lload_n 35 dX11_digest_34 rfl rfl ?_
  refine j_lmul 36 dX11_digest_35 rfl ?_
  refine j_aload_n 37 dX11_digest_36 rfl rfl ?_
  refine s_getR (x := 6) 40 fa1_3 w_405 dX11_digest_37 rfl (by decide +kernel) ?_
  refine s_getI 43 fa6_2 w_164 dX11_digest_40 rfl ?_
  refine j_i2l 44 dX11_digest_43 rfl ?_
  refine j_ladd 45 dX11_digest_44 rfl ?_
  refine s_nmL (fun v7 => ?_)
  refine j_lstore_n (i := 1) (ls' := [some (vR 1), some (vL v7), none, none]) 46 dX11_digest_45 rfl rfl (by decide) rfl rfl ?_
  refine j_ldc2 (v := 31) 49 dX11_digest_46 rfl w_1180 ?_
  refine j_lload_n 50 dX11_digest_49 rfl rfl ?_
  refine j_lmul 51 dX11_digest_50 rfl ?_
  refine j_aload_n 52 dX11_digest_51 rfl rfl ?_
  refine s_getR (x := 6) 55 fa1_3 w_405 dX11_digest_52 rfl (by decide +kernel) ?_
  refine s_getI 58 fa6_3 w_167 dX11_digest_55 rfl ?_
  refine j_i2l 59 dX11_digest_58 rfl ?_
  refine j_ladd 60 dX11_digest_59 rfl ?_
  refine s_nmL (fun v8 => ?_)
  refine j_lstore_n (i := 1) (ls' := [some (vR 1), some (vL v8), none, none]) 61 dX11_digest_60 rfl rfl (by decide) rfl rfl ?_
  refine j_aload_n 62 dX11_digest_61 rfl rfl ?_
  refine j_lload_n 63 dX11_digest_62 rfl rfl ?_
  refine s_callVl (M2 := mX11_withBarge) [vL v8] 66 oa1 cc11 mkX11_withBarge w_1181 dX11_digest_63 rfl rfl (tX11_withBarge Θ l _  _) (by first | exact Nat.le_of_ble_eq_true rfl | omega) (Nat.le_of_ble_eq_true rfl) (Nat.le_of_ble_eq_true rfl) (fun r9 s10 => ?_)
  refine j_lstore_n (i := 1) (ls' := [some (vR 1), some (vL r9), none, none]) 67 dX11_digest_66 rfl rfl (by decide) rfl rfl ?_
  refine j_iconst (v := 0) 68 dX11_digest_67 rfl (by decide) ?_
  refine j_istore_n (i := 3) (ls' := [some (vR 1), some (vL r9), none, some (vI 0)]) 69 dX11_digest_68 rfl rfl (by decide) rfl rfl ?_
  refine j_sub (ls' := [some (vR 1), some (vL r9), none, some (vI 0)]) (And.intro rfl (And.intro rfl (And.intro rfl trivial))) ?_
  refine tX11_digest_L69 Θ l _   ?_ _ _ _ _
  intro v15 s16
  refine j_iconst (v := 0) 103 dX11_digest_102 rfl (by decide) ?_
  refine j_istore_n (i := 3) (ls' := [some (vR 1), some (vL v15), none, some (vI 0)]) 104 dX11_digest_103 rfl rfl (by decide) rfl rfl ?_
  refine j_sub (ls' := [some (vR 1), some (vL v15), none, some (vI 0)]) (And.intro rfl (And.intro rfl (And.intro rfl trivial))) ?_
  refine tX11_digest_L104 Θ l _   ?_ _ _ _ _
  intro v24 s25
  refine j_aload_n 154 dX11_digest_153 rfl rfl ?_
  refine j_aload_n 155 dX11_digest_154 rfl rfl ?_
  refine j_aload_n 156 dX11_digest_155 rfl rfl ?_
  refine j_lload_n 157 dX11_digest_156 rfl rfl ?_
  refine s_callVl (M2 := mX11_withKept) [vL v24] 160 oa1 cc11 mkX11_withKept w_1185 dX11_digest_157 rfl rfl (tX11_withKept Θ l _  _) (by first | exact Nat.le_of_ble_eq_true rfl | omega) (Nat.le_of_ble_eq_true rfl) (Nat.le_of_ble_eq_true rfl) (fun r26 s27 => ?_)
  refine s_callVl (M2 := mX11_withRows) [vL r26] 163 oa1 cc11 mkX11_withRows w_1191 dX11_digest_160 rfl rfl (tX11_withRows Θ l _  _) (by first | exact Nat.le_of_ble_eq_true rfl | omega) (Nat.le_of_ble_eq_true rfl) (Nat.le_of_ble_eq_true rfl) (fun r28 s29 => ?_)
  refine s_callVl (M2 := mX11_withTexts) [vL r28] 166 oa1 cc11 mkX11_withTexts w_1195 dX11_digest_163 rfl rfl (tX11_withTexts Θ l _  _) (by first | exact Nat.le_of_ble_eq_true rfl | omega) (Nat.le_of_ble_eq_true rfl) (Nat.le_of_ble_eq_true rfl) (fun r30 s31 => ?_)
  exact s_lret dX11_digest_166 rfl
-- X12_finding
def fX12_finding   (s : Mem) : Option (Int32 × Mem) :=
some (s.1 68 0, s)
theorem tX12_finding (Θ : Th) (l : Launch)    (s : Mem) : Cs Θ l mX12_finding 1 gI [vR 68] s (fX12_finding  s) := by
  refine ct_of (by decide) [some (vR 68)] rfl (Nat.le_of_ble_eq_true rfl) ?_
  unfold fX12_finding
  refine j_aload_n 1 dX12_finding_0 rfl rfl ?_
  refine s_getI 4 fa68_0 w_1206 dX12_finding_1 rfl ?_
  exact s_iret dX12_finding_4 rfl
-- X12_in
def fX12_in  (a0 : Int32) (a1 : Int32) (a2 : Int32) (s : Mem) : Option (Int32 × Mem) :=
if a0 < a1 then
  some (0, s)
else
  if a2 < a0 then
    some (0, s)
  else
    some (1, s)
theorem tX12_in (Θ : Th) (l : Launch)  (a0 : Int32) (a1 : Int32) (a2 : Int32)  (s : Mem) : Cs Θ l mX12_in 1 gI [vI a0, vI a1, vI a2] s (fX12_in a0 a1 a2 s) := by
  refine ct_of (by decide) [some (vI a0), some (vI a1), some (vI a2)] rfl (Nat.le_of_ble_eq_true rfl) ?_
  unfold fX12_in
  refine j_iload_n 1 dX12_in_0 rfl rfl ?_
  refine j_iload_n 2 dX12_in_1 rfl rfl ?_
  refine j_icmp_lt 14 5 dX12_in_2 (by decide) rfl (fun c1 => ?_) (fun c1 => ?_)
  · refine j_iconst (v := 0) 15 dX12_in_14 rfl (by decide) ?_
    exact s_zret dX12_in_15 rfl (by decide)
  · refine j_iload_n 6 dX12_in_5 rfl rfl ?_
    refine j_iload_n 7 dX12_in_6 rfl rfl ?_
    refine j_icmp_gt 14 10 dX12_in_7 (by decide) rfl (fun c2 => ?_) (fun c2 => ?_)
    · refine j_iconst (v := 0) 15 dX12_in_14 rfl (by decide) ?_
      exact s_zret dX12_in_15 rfl (by decide)
    · refine j_iconst (v := 1) 11 dX12_in_10 rfl (by decide) ?_
      refine j_goto 15 dX12_in_11 (by decide) ?_
      exact s_zret dX12_in_15 rfl (by decide)
-- X12_findings
def fX12_findings  (a1 : Int32) (s : Mem) : Option (Int32 × Mem) :=
bnd (fX12_in a1 1 5 s) (fun r1 s2 =>
if r1 = 0 then
  some ((-1), s2)
else
  if inb a1 6 = true then
  some (s2.1 69 (ix a1), s2)
  else none)
theorem tX12_findings (Θ : Th) (l : Launch)  (a1 : Int32)  (s : Mem) : Cs Θ l mX12_findings 2 gI [vR 68, vI a1] s (fX12_findings a1 s) := by
  refine ct_of (by decide) [some (vR 68), some (vI a1)] rfl (Nat.le_of_ble_eq_true rfl) ?_
  unfold fX12_findings
  refine j_iload_n 1 dX12_findings_0 rfl rfl ?_
  refine j_iconst (v := 1) 2 dX12_findings_1 rfl (by decide) ?_
  refine j_iconst (v := 5) 3 dX12_findings_2 rfl (by decide) ?_
  refine s_callSi (M2 := mX12_in) [vI a1, vI 1, vI 5] 6 mkX12_in (Or.inl w_1380) dX12_findings_3 rfl rfl (tX12_in Θ l _ _ _  _) (by first | exact Nat.le_of_ble_eq_true rfl | omega) (Nat.le_of_ble_eq_true rfl) (Nat.le_of_ble_eq_true rfl) (fun r1 s2 => ?_)
  refine j_if_eq 18 9 dX12_findings_6 (by decide) rfl (fun c3 => ?_) (fun c3 => ?_)
  · refine j_iconst (v := (-1)) 19 dX12_findings_18 rfl (by decide) ?_
    exact s_iret dX12_findings_19 rfl
  · refine j_aload_n 10 dX12_findings_9 rfl rfl ?_
    refine s_getR (x := 69) 13 fa68_1 w_1207 dX12_findings_10 rfl (by decide +kernel) ?_
    refine j_iload_n 14 dX12_findings_13 rfl rfl ?_
    refine s_iaload 15 aa69 dX12_findings_14 rfl (fun b4 => ?_)
    refine j_goto 19 dX12_findings_15 (by decide) ?_
    exact s_iret dX12_findings_19 rfl
-- X12_asked
def fX12_asked   (s : Mem) : Option (Int32 × Mem) :=
some (s.1 68 2, s)
theorem tX12_asked (Θ : Th) (l : Launch)    (s : Mem) : Cs Θ l mX12_asked 1 gI [vR 68] s (fX12_asked  s) := by
  refine ct_of (by decide) [some (vR 68)] rfl (Nat.le_of_ble_eq_true rfl) ?_
  unfold fX12_asked
  refine j_aload_n 1 dX12_asked_0 rfl rfl ?_
  refine s_getI 4 fa68_2 w_1208 dX12_asked_1 rfl ?_
  exact s_iret dX12_asked_4 rfl
-- X12_upper
def fX12_upper   (s : Mem) : Option (Int64 × Mem) :=
some (s.2 68 3, s)
theorem tX12_upper (Θ : Th) (l : Launch)    (s : Mem) : Cs Θ l mX12_upper 1 gL [vR 68] s (fX12_upper  s) := by
  refine ct_of (by decide) [some (vR 68)] rfl (Nat.le_of_ble_eq_true rfl) ?_
  unfold fX12_upper
  refine j_aload_n 1 dX12_upper_0 rfl rfl ?_
  refine s_getL 4 fa68_3 w_1209 dX12_upper_1 rfl ?_
  exact s_lret dX12_upper_4 rfl
-- X12_lower
def fX12_lower   (s : Mem) : Option (Int64 × Mem) :=
some (s.2 68 4, s)
theorem tX12_lower (Θ : Th) (l : Launch)    (s : Mem) : Cs Θ l mX12_lower 1 gL [vR 68] s (fX12_lower  s) := by
  refine ct_of (by decide) [some (vR 68)] rfl (Nat.le_of_ble_eq_true rfl) ?_
  unfold fX12_lower
  refine j_aload_n 1 dX12_lower_0 rfl rfl ?_
  refine s_getL 4 fa68_4 w_1210 dX12_lower_1 rfl ?_
  exact s_lret dX12_lower_4 rfl
-- X12_isRow
def fX12_isRow  (a0 : Int32) (s : Mem) : Option (Int32 × Mem) :=
bnd (fX12_in a0 0 5 s) (fun r1 s2 =>
if r1 = 0 ∨ r1 = 1 then some (r1, s2) else none)
theorem tX12_isRow (Θ : Th) (l : Launch)  (a0 : Int32)  (s : Mem) : Cs Θ l mX12_isRow 2 gI [vI a0] s (fX12_isRow a0 s) := by
  refine ct_of (by decide) [some (vI a0)] rfl (Nat.le_of_ble_eq_true rfl) ?_
  unfold fX12_isRow
  refine j_iload_n 1 dX12_isRow_0 rfl rfl ?_
  refine j_iconst (v := 0) 2 dX12_isRow_1 rfl (by decide) ?_
  refine j_iconst (v := 5) 3 dX12_isRow_2 rfl (by decide) ?_
  refine s_callSi (M2 := mX12_in) [vI a0, vI 0, vI 5] 6 mkX12_in (Or.inl w_1380) dX12_isRow_3 rfl rfl (tX12_in Θ l _ _ _  _) (by first | exact Nat.le_of_ble_eq_true rfl | omega) (Nat.le_of_ble_eq_true rfl) (Nat.le_of_ble_eq_true rfl) (fun r1 s2 => ?_)
  exact s_zretG dX12_isRow_6 rfl
-- X12_meets
def fX12_meets  (a1 : Int32) (s : Mem) : Option (Int32 × Mem) :=
if inb a1 6 = true then
if inb a1 6 = true then
some ((-3), wI (wI s 68 0 a1) 69 (ix a1) (((wI s 68 0 a1).1 69 (ix a1)) + 1))
else none
else none
theorem tX12_meets (Θ : Th) (l : Launch)  (a1 : Int32)  (s : Mem) : Cs Θ l mX12_meets 1 gI [vR 68, vI a1] s (fX12_meets a1 s) := by
  refine ct_of (by decide) [some (vR 68), some (vI a1)] rfl (Nat.le_of_ble_eq_true rfl) ?_
  unfold fX12_meets
  refine j_aload_n 1 dX12_meets_0 rfl rfl ?_
  refine j_iload_n 2 dX12_meets_1 rfl rfl ?_
  refine s_putI 5 fa68_0 w_1206 dX12_meets_2 rfl ?_
  refine j_aload_n 6 dX12_meets_5 rfl rfl ?_
  refine s_getR (x := 69) 9 fa68_1 w_1207 dX12_meets_6 rfl (by decide +kernel) ?_
  refine j_iload_n 10 dX12_meets_9 rfl rfl ?_
  refine j_dup2 11 dX12_meets_10 rfl rfl rfl ?_
  refine s_iaload 12 aa69 dX12_meets_11 rfl (fun b1 => ?_)
  refine j_iconst (v := 1) 13 dX12_meets_12 rfl (by decide) ?_
  refine j_iadd 14 dX12_meets_13 rfl ?_
  refine s_iastore 15 aa69 dX12_meets_14 rfl (fun b2 => ?_)
  refine j_bipush (v := (-3)) 17 dX12_meets_15 rfl (by decide) ?_
  exact s_iret dX12_meets_17 rfl
