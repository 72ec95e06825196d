-- X12_outOf
def fX12_outOf  (a1 : Int32) (a2 : Int32) (a3 : Int32) (s : Mem) : Option (Int32 × Mem) :=
if inb a2 8 = true then
nm (s.1 75 (ix a2)) (fun v2 =>
if inb a1 7 = true then
nm (s.1 76 (ix a1)) (fun v4 =>
bnd (fX12_sizeOf v2 s) (fun r5 s6 =>
if a3 = 1 then
  if v4 = 1 then
    nm (r5 + 1) (fun v9 =>
    if a3 = 2 then
      if v4 = 2 then
        bnd (fX12_greater 0 (v9 - 1) s6) (fun r12 s13 =>
        if v2 = 0 then
          some (0, s13)
        else
          some (r12, s13))
      else
        if v4 = 5 then
          bnd (fX12_greater 0 (v9 - 2) s6) (fun r16 s17 =>
          if v2 = 0 then
            some (0, s17)
          else
            some (r16, s17))
        else
          bnd (fX12_greater 0 (v9 - 0) s6) (fun r19 s20 =>
          if v2 = 0 then
            some (0, s20)
          else
            some (r19, s20))
    else
      if v2 = 0 then
        some (0, s6)
      else
        some (v9, s6))
  else
    if v4 = 4 then
      nm (r5 + 2) (fun v24 =>
      if a3 = 2 then
        if v4 = 2 then
          bnd (fX12_greater 0 (v24 - 1) s6) (fun r27 s28 =>
          if v2 = 0 then
            some (0, s28)
          else
            some (r27, s28))
        else
          if v4 = 5 then
            bnd (fX12_greater 0 (v24 - 2) s6) (fun r31 s32 =>
            if v2 = 0 then
              some (0, s32)
            else
              some (r31, s32))
          else
            bnd (fX12_greater 0 (v24 - 0) s6) (fun r34 s35 =>
            if v2 = 0 then
              some (0, s35)
            else
              some (r34, s35))
      else
        if v2 = 0 then
          some (0, s6)
        else
          some (v24, s6))
    else
      nm (r5 + 0) (fun v38 =>
      if a3 = 2 then
        if v4 = 2 then
          bnd (fX12_greater 0 (v38 - 1) s6) (fun r41 s42 =>
          if v2 = 0 then
            some (0, s42)
          else
            some (r41, s42))
        else
          if v4 = 5 then
            bnd (fX12_greater 0 (v38 - 2) s6) (fun r45 s46 =>
            if v2 = 0 then
              some (0, s46)
            else
              some (r45, s46))
          else
            bnd (fX12_greater 0 (v38 - 0) s6) (fun r48 s49 =>
            if v2 = 0 then
              some (0, s49)
            else
              some (r48, s49))
      else
        if v2 = 0 then
          some (0, s6)
        else
          some (v38, s6))
else
  if a3 = 2 then
    if v4 = 2 then
      bnd (fX12_greater 0 (r5 - 1) s6) (fun r54 s55 =>
      if v2 = 0 then
        some (0, s55)
      else
        some (r54, s55))
    else
      if v4 = 5 then
        bnd (fX12_greater 0 (r5 - 2) s6) (fun r58 s59 =>
        if v2 = 0 then
          some (0, s59)
        else
          some (r58, s59))
      else
        bnd (fX12_greater 0 (r5 - 0) s6) (fun r61 s62 =>
        if v2 = 0 then
          some (0, s62)
        else
          some (r61, s62))
  else
    if v2 = 0 then
      some (0, s6)
    else
      some (r5, s6)))
else none)
else none
theorem tX12_outOf (Θ : Th) (l : Launch)  (a1 : Int32) (a2 : Int32) (a3 : Int32)  (s : Mem) : Cs Θ l mX12_outOf 2 gI [vR 68, vI a1, vI a2, vI a3] s (fX12_outOf a1 a2 a3 s) := by
  refine ct_of (by decide) [some (vR 68), some (vI a1), some (vI a2), some (vI a3), none, none, none] rfl (Nat.le_of_ble_eq_true rfl) ?_
  unfold fX12_outOf
  refine j_aload_n 1 dX12_outOf_0 rfl rfl ?_
  refine s_getR (x := 75) 4 fa68_11 w_1217 dX12_outOf_1 rfl (by decide +kernel) ?_
  refine j_iload_n 5 dX12_outOf_4 rfl rfl ?_
  refine s_iaload 6 aa75 dX12_outOf_5 rfl (fun b1 => ?_)
  refine s_nmI (fun v2 => ?_)
  refine j_istore (i := 4) (ls' := [some (vR 68), some (vI a1), some (vI a2), some (vI a3), some (vI v2), none, none]) 8 dX12_outOf_6 rfl (by decide) rfl rfl ?_
  refine j_aload_n 9 dX12_outOf_8 rfl rfl ?_
  refine s_getR (x := 76) 12 fa68_13 w_1219 dX12_outOf_9 rfl (by decide +kernel) ?_
  refine j_iload_n 13 dX12_outOf_12 rfl rfl ?_
  refine s_iaload 14 aa76 dX12_outOf_13 rfl (fun b3 => ?_)
  refine s_nmI (fun v4 => ?_)
  refine j_istore (i := 5) (ls' := [some (vR 68), some (vI a1), some (vI a2), some (vI a3), some (vI v2), some (vI v4), none]) 16 dX12_outOf_14 rfl (by decide) rfl rfl ?_
  refine j_iload 18 dX12_outOf_16 rfl rfl ?_
  refine s_callSi (M2 := mX12_sizeOf) [vI v2] 21 mkX12_sizeOf (Or.inl w_1539) dX12_outOf_18 rfl rfl (tX12_sizeOf Θ l _  _) (by first | exact Nat.le_of_ble_eq_true rfl | omega) (Nat.le_of_ble_eq_true rfl) (Nat.le_of_ble_eq_true rfl) (fun r5 s6 => ?_)
  refine j_istore (i := 6) (ls' := [some (vR 68), some (vI a1), some (vI a2), some (vI a3), some (vI v2), some (vI v4), some (vI r5)]) 23 dX12_outOf_21 rfl (by decide) rfl rfl ?_
  refine j_iload_n 24 dX12_outOf_23 rfl rfl ?_
  refine j_iconst (v := 1) 25 dX12_outOf_24 rfl (by decide) ?_
  refine j_icmp_ne 54 28 dX12_outOf_25 (by decide) rfl (fun c7 => ?_) (fun c7 => ?_)
  · refine j_iload 30 dX12_outOf_28 rfl rfl ?_
    refine j_iload 32 dX12_outOf_30 rfl rfl ?_
    refine j_iconst (v := 1) 33 dX12_outOf_32 rfl (by decide) ?_
    refine j_icmp_ne 40 36 dX12_outOf_33 (by decide) rfl (fun c8 => ?_) (fun c8 => ?_)
    · refine j_iconst (v := 1) 37 dX12_outOf_36 rfl (by decide) ?_
      refine j_goto 51 dX12_outOf_37 (by decide) ?_
      refine j_iadd 52 dX12_outOf_51 rfl ?_
      refine s_nmI (fun v9 => ?_)
      refine j_istore (i := 6) (ls' := [some (vR 68), some (vI a1), some (vI a2), some (vI a3), some (vI v2), some (vI v4), some (vI v9)]) 54 dX12_outOf_52 rfl (by decide) rfl rfl ?_
      refine j_iload_n 55 dX12_outOf_54 rfl rfl ?_
      refine j_iconst (v := 2) 56 dX12_outOf_55 rfl (by decide) ?_
      refine j_icmp_ne 89 59 dX12_outOf_56 (by decide) rfl (fun c10 => ?_) (fun c10 => ?_)
      · refine j_iconst (v := 0) 60 dX12_outOf_59 rfl (by decide) ?_
        refine j_iload 62 dX12_outOf_60 rfl rfl ?_
        refine j_iload 64 dX12_outOf_62 rfl rfl ?_
        refine j_iconst (v := 2) 65 dX12_outOf_64 rfl (by decide) ?_
        refine j_icmp_ne 72 68 dX12_outOf_65 (by decide) rfl (fun c11 => ?_) (fun c11 => ?_)
        · refine j_iconst (v := 1) 69 dX12_outOf_68 rfl (by decide) ?_
          refine j_goto 83 dX12_outOf_69 (by decide) ?_
          refine j_isub 84 dX12_outOf_83 rfl ?_
          refine s_callSi (M2 := mX12_greater) [vI 0, vI (v9 - 1)] 87 mkX12_greater (Or.inl w_1542) dX12_outOf_84 rfl rfl (tX12_greater Θ l _ _  _) (by first | exact Nat.le_of_ble_eq_true rfl | omega) (Nat.le_of_ble_eq_true rfl) (Nat.le_of_ble_eq_true rfl) (fun r12 s13 => ?_)
          refine j_istore (i := 6) (ls' := [some (vR 68), some (vI a1), some (vI a2), some (vI a3), some (vI v2), some (vI v4), some (vI r12)]) 89 dX12_outOf_87 rfl (by decide) rfl rfl ?_
          refine j_iload 91 dX12_outOf_89 rfl rfl ?_
          refine j_if_ne 98 94 dX12_outOf_91 (by decide) rfl (fun c14 => ?_) (fun c14 => ?_)
          · refine j_iconst (v := 0) 95 dX12_outOf_94 rfl (by decide) ?_
            refine j_goto 100 dX12_outOf_95 (by decide) ?_
            exact s_iret dX12_outOf_100 rfl
          · refine j_iload 100 dX12_outOf_98 rfl rfl ?_
            exact s_iret dX12_outOf_100 rfl
        · refine j_iload 74 dX12_outOf_72 rfl rfl ?_
          refine j_iconst (v := 5) 75 dX12_outOf_74 rfl (by decide) ?_
          refine j_icmp_ne 82 78 dX12_outOf_75 (by decide) rfl (fun c15 => ?_) (fun c15 => ?_)
          · refine j_iconst (v := 2) 79 dX12_outOf_78 rfl (by decide) ?_
            refine j_goto 83 dX12_outOf_79 (by decide) ?_
            refine j_isub 84 dX12_outOf_83 rfl ?_
            refine s_callSi (M2 := mX12_greater) [vI 0, vI (v9 - 2)] 87 mkX12_greater (Or.inl w_1542) dX12_outOf_84 rfl rfl (tX12_greater Θ l _ _  _) (by first | exact Nat.le_of_ble_eq_true rfl | omega) (Nat.le_of_ble_eq_true rfl) (Nat.le_of_ble_eq_true rfl) (fun r16 s17 => ?_)
            refine j_istore (i := 6) (ls' := [some (vR 68), some (vI a1), some (vI a2), some (vI a3), some (vI v2), some (vI v4), some (vI r16)]) 89 dX12_outOf_87 rfl (by decide) rfl rfl ?_
            refine j_iload 91 dX12_outOf_89 rfl rfl ?_
            refine j_if_ne 98 94 dX12_outOf_91 (by decide) rfl (fun c18 => ?_) (fun c18 => ?_)
            · refine j_iconst (v := 0) 95 dX12_outOf_94 rfl (by decide) ?_
              refine j_goto 100 dX12_outOf_95 (by decide) ?_
              exact s_iret dX12_outOf_100 rfl
            · refine j_iload 100 dX12_outOf_98 rfl rfl ?_
              exact s_iret dX12_outOf_100 rfl
          · refine j_iconst (v := 0) 83 dX12_outOf_82 rfl (by decide) ?_
            refine j_isub 84 dX12_outOf_83 rfl ?_
            refine s_callSi (M2 := mX12_greater) [vI 0, vI (v9 - 0)] 87 mkX12_greater (Or.inl w_1542) dX12_outOf_84 rfl rfl (tX12_greater Θ l _ _  _) (by first | exact Nat.le_of_ble_eq_true rfl | omega) (Nat.le_of_ble_eq_true rfl) (Nat.le_of_ble_eq_true rfl) (fun r19 s20 => ?_)
            refine j_istore (i := 6) (ls' := [some (vR 68), some (vI a1), some (vI a2), some (vI a3), some (vI v2), some (vI v4), some (vI r19)]) 89 dX12_outOf_87 rfl (by decide) rfl rfl ?_
            refine j_iload 91 dX12_outOf_89 rfl rfl ?_
            refine j_if_ne 98 94 dX12_outOf_91 (by decide) rfl (fun c21 => ?_) (fun c21 => ?_)
            · refine j_iconst (v := 0) 95 dX12_outOf_94 rfl (by decide) ?_
              refine j_goto 100 dX12_outOf_95 (by decide) ?_
              exact s_iret dX12_outOf_100 rfl
            · refine j_iload 100 dX12_outOf_98 rfl rfl ?_
              exact s_iret dX12_outOf_100 rfl
      · refine j_iload 91 dX12_outOf_89 rfl rfl ?_
        refine j_if_ne 98 94 dX12_outOf_91 (by decide) rfl (fun c22 => ?_) (fun c22 => ?_)
        · refine j_iconst (v := 0) 95 dX12_outOf_94 rfl (by decide) ?_
          refine j_goto 100 dX12_outOf_95 (by decide) ?_
          exact s_iret dX12_outOf_100 rfl
        · refine j_iload 100 dX12_outOf_98 rfl rfl ?_
          exact s_iret dX12_outOf_100 rfl
    · refine j_iload 42 dX12_outOf_40 rfl rfl ?_
      refine j_iconst (v := 4) 43 dX12_outOf_42 rfl (by decide) ?_
      refine j_icmp_ne 50 46 dX12_outOf_43 (by decide) rfl (fun c23 => ?_) (fun c23 => ?_)
      · refine j_iconst (v := 2) 47 dX12_outOf_46 rfl (by decide) ?_
        refine j_goto 51 dX12_outOf_47 (by decide) ?_
        refine j_iadd 52 dX12_outOf_51 rfl ?_
        refine s_nmI (fun v24 => ?_)
        refine j_istore (i := 6) (ls' := [some (vR 68), some (vI a1), some (vI a2), some (vI a3), some (vI v2), some (vI v4), some (vI v24)]) 54 dX12_outOf_52 rfl (by decide) rfl rfl ?_
        refine j_iload_n 55 dX12_outOf_54 rfl rfl ?_
        refine j_iconst (v := 2) 56 dX12_outOf_55 rfl (by decide) ?_
        refine j_icmp_ne 89 59 dX12_outOf_56 (by decide) rfl (fun c25 => ?_) (fun c25 => ?_)
        · refine j_iconst (v := 0) 60 dX12_outOf_59 rfl (by decide) ?_
          refine j_iload 62 dX12_outOf_60 rfl rfl ?_
          refine j_iload 64 dX12_outOf_62 rfl rfl ?_
          refine j_iconst (v := 2) 65 dX12_outOf_64 rfl (by decide) ?_
          refine j_icmp_ne 72 68 dX12_outOf_65 (by decide) rfl (fun c26 => ?_) (fun c26 => ?_)
          · refine j_iconst (v := 1) 69 dX12_outOf_68 rfl (by decide) ?_
            refine j_goto 83 dX12_outOf_69 (by decide) ?_
            refine j_isub 84 dX12_outOf_83 rfl ?_
            refine s_callSi (M2 := mX12_greater) [vI 0, vI (v24 - 1)] 87 mkX12_greater (Or.inl w_1542) dX12_outOf_84 rfl rfl (tX12_greater Θ l _ _  _) (by first | exact Nat.le_of_ble_eq_true rfl | omega) (Nat.le_of_ble_eq_true rfl) (Nat.le_of_ble_eq_true rfl) (fun r27 s28 => ?_)
            refine j_istore (i := 6) (ls' := [some (vR 68), some (vI a1), some (vI a2), some (vI a3), some (vI v2), some (vI v4), some (vI r27)]) 89 dX12_outOf_87 rfl (by decide) rfl rfl ?_
            refine j_iload 91 dX12_outOf_89 rfl rfl ?_
            refine j_if_ne 98 94 dX12_outOf_91 (by decide) rfl (fun c29 => ?_) (fun c29 => ?_)
            · refine j_iconst (v := 0) 95 dX12_outOf_94 rfl (by decide) ?_
              refine j_goto 100 dX12_outOf_95 (by decide) ?_
              exact s_iret dX12_outOf_100 rfl
            · refine j_iload 100 dX12_outOf_98 rfl rfl ?_
              exact s_iret dX12_outOf_100 rfl
          · refine j_iload 74 dX12_outOf_72 rfl rfl ?_
            refine j_iconst (v := 5) 75 dX12_outOf_74 rfl (by decide) ?_
            refine j_icmp_ne 82 78 dX12_outOf_75 (by decide) rfl (fun c30 => ?_) (fun c30 => ?_)
            · refine j_iconst (v := 2) 79 dX12_outOf_78 rfl (by decide) ?_
              refine j_goto 83 dX12_outOf_79 (by decide) ?_
              refine j_isub 84 dX12_outOf_83 rfl ?_
              refine s_callSi (M2 := mX12_greater) [vI 0, vI (v24 - 2)] 87 mkX12_greater (Or.inl w_1542) dX12_outOf_84 rfl rfl (tX12_greater Θ l _ _  _) (by first | exact Nat.le_of_ble_eq_true rfl | omega) (Nat.le_of_ble_eq_true rfl) (Nat.le_of_ble_eq_true rfl) (fun r31 s32 => ?_)
              refine j_istore (i := 6) (ls' := [some (vR 68), some (vI a1), some (vI a2), some (vI a3), some (vI v2), some (vI v4), some (vI r31)]) 89 dX12_outOf_87 rfl (by decide) rfl rfl ?_
              refine j_iload 91 dX12_outOf_89 rfl rfl ?_
              refine j_if_ne 98 94 dX12_outOf_91 (by decide) rfl (fun c33 => ?_) (fun c33 => ?_)
              · refine j_iconst (v := 0) 95 dX12_outOf_94 rfl (by decide) ?_
                refine j_goto 100 dX12_outOf_95 (by decide) ?_
                exact s_iret dX12_outOf_100 rfl
              · refine j_iload 100 dX12_outOf_98 rfl rfl ?_
                exact s_iret dX12_outOf_100 rfl
            · refine j_iconst (v := 0) 83 dX12_outOf_82 rfl (by decide) ?_
              refine j_isub 84 dX12_outOf_83 rfl ?_
              refine s_callSi (M2 := mX12_greater) [vI 0, vI (v24 - 0)] 87 mkX12_greater (Or.inl w_1542) dX12_outOf_84 rfl rfl (tX12_greater Θ l _ _  _) (by first | exact Nat.le_of_ble_eq_true rfl | omega) (Nat.le_of_ble_eq_true rfl) (Nat.le_of_ble_eq_true rfl) (fun r34 s35 => ?_)
              refine j_istore (i := 6) (ls' := [some (vR 68), some (vI a1), some (vI a2), some (vI a3), some (vI v2), some (vI v4), some (vI r34)]) 89 dX12_outOf_87 rfl (by decide) rfl rfl ?_
              refine j_iload 91 dX12_outOf_89 rfl rfl ?_
              refine j_if_ne 98 94 dX12_outOf_91 (by decide) rfl (fun c36 => ?_) (fun c36 => ?_)
              · refine j_iconst (v := 0) 95 dX12_outOf_94 rfl (by decide) ?_
                refine j_goto 100 dX12_outOf_95 (by decide) ?_
                exact s_iret dX12_outOf_100 rfl
              · refine j_iload 100 dX12_outOf_98 rfl rfl ?_
                exact s_iret dX12_outOf_100 rfl
        · refine j_iload 91 dX12_outOf_89 rfl rfl ?_
          refine j_if_ne 98 94 dX12_outOf_91 (by decide) rfl (fun c37 => ?_) (fun c37 => ?_)
          · refine j_iconst (v := 0) 95 dX12_outOf_94 rfl (by decide) ?_
            refine j_goto 100 dX12_outOf_95 (by decide) ?_
            exact s_iret dX12_outOf_100 rfl
          · refine j_iload 100 dX12_outOf_98 rfl rfl ?_
            exact s_iret dX12_outOf_100 rfl
      · refine j_iconst (v := 0) 51 dX12_outOf_50 rfl (by decide) ?_
        refine j_iadd 52 dX12_outOf_51 rfl ?_
        refine s_nmI (fun v38 => ?_)
        refine j_istore (i := 6) (ls' := [some (vR 68), some (vI a1), some (vI a2), some (vI a3), some (vI v2), some (vI v4), some (vI v38)]) 54 dX12_outOf_52 rfl (by decide) rfl rfl ?_
        refine j_iload_n 55 dX12_outOf_54 rfl rfl ?_
        refine j_iconst (v := 2) 56 dX12_outOf_55 rfl (by decide) ?_
        refine j_icmp_ne 89 59 dX12_outOf_56 (by decide) rfl (fun c39 => ?_) (fun c39 => ?_)
        · refine j_iconst (v := 0) 60 dX12_outOf_59 rfl (by decide) ?_
          refine j_iload 62 dX12_outOf_60 rfl rfl ?_
          refine j_iload 64 dX12_outOf_62 rfl rfl ?_
          refine j_iconst (v := 2) 65 dX12_outOf_64 rfl (by decide) ?_
          refine j_icmp_ne 72 68 dX12_outOf_65 (by decide) rfl (fun c40 => ?_) (fun c40 => ?_)
          · refine j_iconst (v := 1) 69 dX12_outOf_68 rfl (by decide) ?_
            refine j_goto 83 dX12_outOf_69 (by decide) ?_
            refine j_isub 84 dX12_outOf_83 rfl ?_
            refine s_callSi (M2 := mX12_greater) [vI 0, vI (v38 - 1)] 87 mkX12_greater (Or.inl w_1542) dX12_outOf_84 rfl rfl (tX12_greater Θ l _ _  _) (by first | exact Nat.le_of_ble_eq_true rfl | omega) (Nat.le_of_ble_eq_true rfl) (Nat.le_of_ble_eq_true rfl) (fun r41 s42 => ?_)
            refine j_istore (i := 6) (ls' := [some (vR 68), some (vI a1), some (vI a2), some (vI a3), some (vI v2), some (vI v4), some (vI r41)]) 89 dX12_outOf_87 rfl (by decide) rfl rfl ?_
            refine j_iload 91 dX12_outOf_89 rfl rfl ?_
            refine j_if_ne 98 94 dX12_outOf_91 (by decide) rfl (fun c43 => ?_) (fun c43 => ?_)
            · refine j_iconst (v := 0) 95 dX12_outOf_94 rfl (by decide) ?_
              refine j_goto 100 dX12_outOf_95 (by decide) ?_
              exact s_iret dX12_outOf_100 rfl
            · refine j_iload 100 dX12_outOf_98 rfl rfl ?_
              exact s_iret dX12_outOf_100 rfl
          · refine j_iload 74 dX12_outOf_72 rfl rfl ?_
            refine j_iconst (v := 5) 75 dX12_outOf_74 rfl (by decide) ?_
            refine j_icmp_ne 82 78 dX12_outOf_75 (by decide) rfl (fun c44 => ?_) (fun c44 => ?_)
            · refine j_iconst (v := 2) 79 dX12_outOf_78 rfl (by decide) ?_
              refine j_goto 83 dX12_outOf_79 (by decide) ?_
              refine j_isub 84 dX12_outOf_83 rfl ?_
              refine s_callSi (M2 := mX12_greater) [vI 0, vI (v38 - 2)] 87 mkX12_greater (Or.inl w_1542) dX12_outOf_84 rfl rfl (tX12_greater Θ l _ _  _) (by first | exact Nat.le_of_ble_eq_true rfl | omega) (Nat.le_of_ble_eq_true rfl) (Nat.le_of_ble_eq_true rfl) (fun r45 s46 => ?_)
              refine j_istore (i := 6) (ls' := [some (vR 68), some (vI a1), some (vI a2), some (vI a3), some (vI v2), some (vI v4), some (vI r45)]) 89 dX12_outOf_87 rfl (by decide) rfl rfl ?_
              refine j_iload 91 dX12_outOf_89 rfl rfl ?_
              refine j_if_ne 98 94 dX12_outOf_91 (by decide) rfl (fun c47 => ?_) (fun c47 => ?_)
              · refine j_iconst (v := 0) 95 dX12_outOf_94 rfl (by decide) ?_
                refine j_goto 100 dX12_outOf_95 (by decide) ?_
                exact s_iret dX12_outOf_100 rfl
              · refine j_iload 100 dX12_outOf_98 rfl rfl ?_
                exact s_iret dX12_outOf_100 rfl
            · refine j_iconst (v := 0) 83 dX12_outOf_82 rfl (by decide) ?_
              refine j_isub 84 dX12_outOf_83 rfl ?_
              refine s_callSi (M2 := mX12_greater) [vI 0, vI (v38 - 0)] 87 mkX12_greater (Or.inl w_1542) dX12_outOf_84 rfl rfl (tX12_greater Θ l _ _  _) (by first | exact Nat.le_of_ble_eq_true rfl | omega) (Nat.le_of_ble_eq_true rfl) (Nat.le_of_ble_eq_true rfl) (fun r48 s49 => ?_)
              refine j_istore (i := 6) (ls' := [some (vR 68), some (vI a1), some (vI a2), some (vI a3), some (vI v2), some (vI v4), some (vI r48)]) 89 dX12_outOf_87 rfl (by decide) rfl rfl ?_
              refine j_iload 91 dX12_outOf_89 rfl rfl ?_
              refine j_if_ne 98 94 dX12_outOf_91 (by decide) rfl (fun c50 => ?_) (fun c50 => ?_)
              · refine j_iconst (v := 0) 95 dX12_outOf_94 rfl (by decide) ?_
                refine j_goto 100 dX12_outOf_95 (by decide) ?_
                exact s_iret dX12_outOf_100 rfl
              · refine j_iload 100 dX12_outOf_98 rfl rfl ?_
                exact s_iret dX12_outOf_100 rfl
        · refine j_iload 91 dX12_outOf_89 rfl rfl ?_
          refine j_if_ne 98 94 dX12_outOf_91 (by decide) rfl (fun c51 => ?_) (fun c51 => ?_)
          · refine j_iconst (v := 0) 95 dX12_outOf_94 rfl (by decide) ?_
            refine j_goto 100 dX12_outOf_95 (by decide) ?_
            exact s_iret dX12_outOf_100 rfl
          · refine j_iload 100 dX12_outOf_98 rfl rfl ?_
            exact s_iret dX12_outOf_100 rfl
  · refine j_iload_n 55 dX12_outOf_54 rfl rfl ?_
    refine j_iconst (v := 2) 56 dX12_outOf_55 rfl (by decide) ?_
    refine j_icmp_ne 89 59 dX12_outOf_56 (by decide) rfl (fun c52 => ?_) (fun c52 => ?_)
    · refine j_iconst (v := 0) 60 dX12_outOf_59 rfl (by decide) ?_
      refine j_iload 62 dX12_outOf_60 rfl rfl ?_
      refine j_iload 64 dX12_outOf_62 rfl rfl ?_
      refine j_iconst (v := 2) 65 dX12_outOf_64 rfl (by decide) ?_
      refine j_icmp_ne 72 68 dX12_outOf_65 (by decide) rfl (fun c53 => ?_) (fun c53 => ?_)
      · refine j_iconst (v := 1) 69 dX12_outOf_68 rfl (by decide) ?_
        refine j_goto 83 dX12_outOf_69 (by decide) ?_
        refine j_isub 84 dX12_outOf_83 rfl ?_
        refine s_callSi (M2 := mX12_greater) [vI 0, vI (r5 - 1)] 87 mkX12_greater (Or.inl w_1542) dX12_outOf_84 rfl rfl (tX12_greater Θ l _ _  _) (by first | exact Nat.le_of_ble_eq_true rfl | omega) (Nat.le_of_ble_eq_true rfl) (Nat.le_of_ble_eq_true rfl) (fun r54 s55 => ?_)
        refine j_istore (i := 6) (ls' := [some (vR 68), some (vI a1), some (vI a2), some (vI a3), some (vI v2), some (vI v4), some (vI r54)]) 89 dX12_outOf_87 rfl (by decide) rfl rfl ?_
        refine j_iload 91 dX12_outOf_89 rfl rfl ?_
        refine j_if_ne 98 94 dX12_outOf_91 (by decide) rfl (fun c56 => ?_) (fun c56 => ?_)
        · refine j_iconst (v := 0) 95 dX12_outOf_94 rfl (by decide) ?_
          refine j_goto 100 dX12_outOf_95 (by decide) ?_
          exact s_iret dX12_outOf_100 rfl
        · refine j_iload 100 dX12_outOf_98 rfl rfl ?_
          exact s_iret dX12_outOf_100 rfl
      · refine j_iload 74 dX12_outOf_72 rfl rfl ?_
        refine j_iconst (v := 5) 75 dX12_outOf_74 rfl (by decide) ?_
        refine j_icmp_ne 82 78 dX12_outOf_75 (by decide) rfl (fun c57 => ?_) (fun c57 => ?_)
        · refine j_iconst (v := 2) 79 dX12_outOf_78 rfl (by decide) ?_
          refine j_goto 83 dX12_outOf_79 (by decide) ?_
          refine j_isub 84 dX12_outOf_83 rfl ?_
          refine s_callSi (M2 := mX12_greater) [vI 0, vI (r5 - 2)] 87 mkX12_greater (Or.inl w_1542) dX12_outOf_84 rfl rfl (tX12_greater Θ l _ _  _) (by first | exact Nat.le_of_ble_eq_true rfl | omega) (Nat.le_of_ble_eq_true rfl) (Nat.le_of_ble_eq_true rfl) (fun r58 s59 => ?_)
          refine j_istore (i := 6) (ls' := [some (vR 68), some (vI a1), some (vI a2), some (vI a3), some (vI v2), some (vI v4), some (vI r58)]) 89 dX12_outOf_87 rfl (by decide) rfl rfl ?_
          refine j_iload 91 dX12_outOf_89 rfl rfl ?_
          refine j_if_ne 98 94 dX12_outOf_91 (by decide) rfl (fun c60 => ?_) (fun c60 => ?_)
          · refine j_iconst (v := 0) 95 dX12_outOf_94 rfl (by decide) ?_
            refine j_goto 100 dX12_outOf_95 (by decide) ?_
            exact s_iret dX12_outOf_100 rfl
          · refine j_iload 100 dX12_outOf_98 rfl rfl ?_
            exact s_iret dX12_outOf_100 rfl
        · refine j_iconst (v := 0) 83 dX12_outOf_82 rfl (by decide) ?_
          refine j_isub 84 dX12_outOf_83 rfl ?_
          refine s_callSi (M2 := mX12_greater) [vI 0, vI (r5 - 0)] 87 mkX12_greater (Or.inl w_1542) dX12_outOf_84 rfl rfl (tX12_greater Θ l _ _  _) (by first | exact Nat.le_of_ble_eq_true rfl | omega) (Nat.le_of_ble_eq_true rfl) (Nat.le_of_ble_eq_true rfl) (fun r61 s62 => ?_)
          refine j_istore (i := 6) (ls' := [some (vR 68), some (vI a1), some (vI a2), some (vI a3), some (vI v2), some (vI v4), some (vI r61)]) 89 dX12_outOf_87 rfl (by decide) rfl rfl ?_
          refine j_iload 91 dX12_outOf_89 rfl rfl ?_
          refine j_if_ne 98 94 dX12_outOf_91 (by decide) rfl (fun c63 => ?_) (fun c63 => ?_)
          · refine j_iconst (v := 0) 95 dX12_outOf_94 rfl (by decide) ?_
            refine j_goto 100 dX12_outOf_95 (by decide) ?_
            exact s_iret dX12_outOf_100 rfl
          · refine j_iload 100 dX12_outOf_98 rfl rfl ?_
            exact s_iret dX12_outOf_100 rfl
    · refine j_iload 91 dX12_outOf_89 rfl rfl ?_
      refine j_if_ne 98 94 dX12_outOf_91 (by decide) rfl (fun c64 => ?_) (fun c64 => ?_)
      · refine j_iconst (v := 0) 95 dX12_outOf_94 rfl (by decide) ?_
        refine j_goto 100 dX12_outOf_95 (by decide) ?_
        exact s_iret dX12_outOf_100 rfl
      · refine j_iload 100 dX12_outOf_98 rfl rfl ?_
        exact s_iret dX12_outOf_100 rfl
-- X12_momentOf
def fX12_momentOf  (a1 : Int32) (a2 : Int32) (a3 : Int32) (s : Mem) : Option (Int32 × Mem) :=
if inb a2 8 = true then
if (s.1 75 (ix a2)) < 0 then
  bnd (fX12_outOf a1 a2 a3 s) (fun r3 s4 =>
  bnd (fX12_weighs a1 s4) (fun r5 s6 =>
  some (((-1) * r3) * r5, s6)))
else
  bnd (fX12_outOf a1 a2 a3 s) (fun r7 s8 =>
  bnd (fX12_weighs a1 s8) (fun r9 s10 =>
  some ((1 * r7) * r9, s10)))
else none
theorem tX12_momentOf (Θ : Th) (l : Launch)  (a1 : Int32) (a2 : Int32) (a3 : Int32)  (s : Mem) : Cs Θ l mX12_momentOf 3 gI [vR 68, vI a1, vI a2, vI a3] s (fX12_momentOf a1 a2 a3 s) := by
  refine ct_of (by decide) [some (vR 68), some (vI a1), some (vI a2), some (vI a3)] rfl (Nat.le_of_ble_eq_true rfl) ?_
  unfold fX12_momentOf
  refine j_aload_n 1 dX12_momentOf_0 rfl rfl ?_
  refine s_getR (x := 75) 4 fa68_11 w_1217 dX12_momentOf_1 rfl (by decide +kernel) ?_
  refine j_iload_n 5 dX12_momentOf_4 rfl rfl ?_
  refine s_iaload 6 aa75 dX12_momentOf_5 rfl (fun b1 => ?_)
  refine j_if_ge 13 9 dX12_momentOf_6 (by decide) rfl (fun c2 => ?_) (fun c2 => ?_)
  · refine j_iconst (v := (-1)) 10 dX12_momentOf_9 rfl (by decide) ?_
    refine j_goto 14 dX12_momentOf_10 (by decide) ?_
    refine j_aload_n 15 dX12_momentOf_14 rfl rfl ?_
    refine j_iload_n 16 dX12_momentOf_15 rfl rfl ?_
    refine j_iload_n 17 dX12_momentOf_16 rfl rfl ?_
    refine j_iload_n 18 dX12_momentOf_17 rfl rfl ?_
    refine s_callVi (M2 := mX12_outOf) [vI a1, vI a2, vI a3] 21 oa68 cc12 mkX12_outOf w_1535 dX12_momentOf_18 rfl rfl (tX12_outOf Θ l _ _ _  _) (by first | exact Nat.le_of_ble_eq_true rfl | omega) (Nat.le_of_ble_eq_true rfl) (Nat.le_of_ble_eq_true rfl) (fun r3 s4 => ?_)
    refine j_imul 22 dX12_momentOf_21 rfl ?_
    refine j_aload_n 23 dX12_momentOf_22 rfl rfl ?_
    refine j_iload_n 24 dX12_momentOf_23 rfl rfl ?_
    refine s_callVi (M2 := mX12_weighs) [vI a1] 27 oa68 cc12 mkX12_weighs w_1507 dX12_momentOf_24 rfl rfl (tX12_weighs Θ l _  _) (by first | exact Nat.le_of_ble_eq_true rfl | omega) (Nat.le_of_ble_eq_true rfl) (Nat.le_of_ble_eq_true rfl) (fun r5 s6 => ?_)
    refine j_imul 28 dX12_momentOf_27 rfl ?_
    exact s_iret dX12_momentOf_28 rfl
  · refine j_iconst (v := 1) 14 dX12_momentOf_13 rfl (by decide) ?_
    refine j_aload_n 15 dX12_momentOf_14 rfl rfl ?_
    refine j_iload_n 16 dX12_momentOf_15 rfl rfl ?_
    refine j_iload_n 17 dX12_momentOf_16 rfl rfl ?_
    refine j_iload_n 18 dX12_momentOf_17 rfl rfl ?_
    refine s_callVi (M2 := mX12_outOf) [vI a1, vI a2, vI a3] 21 oa68 cc12 mkX12_outOf w_1535 dX12_momentOf_18 rfl rfl (tX12_outOf Θ l _ _ _  _) (by first | exact Nat.le_of_ble_eq_true rfl | omega) (Nat.le_of_ble_eq_true rfl) (Nat.le_of_ble_eq_true rfl) (fun r7 s8 => ?_)
    refine j_imul 22 dX12_momentOf_21 rfl ?_
    refine j_aload_n 23 dX12_momentOf_22 rfl rfl ?_
    refine j_iload_n 24 dX12_momentOf_23 rfl rfl ?_
    refine s_callVi (M2 := mX12_weighs) [vI a1] 27 oa68 cc12 mkX12_weighs w_1507 dX12_momentOf_24 rfl rfl (tX12_weighs Θ l _  _) (by first | exact Nat.le_of_ble_eq_true rfl | omega) (Nat.le_of_ble_eq_true rfl) (Nat.le_of_ble_eq_true rfl) (fun r9 s10 => ?_)
    refine j_imul 28 dX12_momentOf_27 rfl ?_
    exact s_iret dX12_momentOf_28 rfl
-- X12_bits
def fX12_bits_L4  (κ : Int32 → Mem → Option (Int32 × Mem))  : Nat → Int32 → Int32 → Mem → Option (Int32 × Mem)
  | 0, _, _, _ => none
  | k + 1, x1, x2, s =>
    if x2 = 0 then
      κ x1 s
    else
      nm (x2 &&& (x2 - 1)) (fun v2 =>
      fX12_bits_L4 κ k (x1 + 1) v2 s)
def fX12_bits  (a0 : Int32) (s : Mem) : Option (Int32 × Mem) :=
fX12_bits_L4 (fun v3 s4 =>
  some (v3, s4))  FU 0 a0 s
theorem tX12_bits_L4 (Θ : Th) (l : Launch)  (κ : Int32 → Mem → Option (Int32 × Mem))   (hκ : ∀ (x1 : Int32) (s : Mem), Js Θ l mX12_bits 1 gI 20 [none, some (vI x1), none] [] s (κ x1 s)) : ∀ (k : Nat) (x1 : Int32) (x2 : Int32) (s : Mem), Js Θ l mX12_bits 1 gI 4 [none, some (vI x1), some (vI x2)] [] s (fX12_bits_L4 κ  k x1 x2 s) := by
  intro k
  induction k with
  | zero => intro x1 x2 s; exact j_none
  | succ k ih =>
    intro x1 x2 s
    rw [fX12_bits_L4]
    refine j_iload_n 5 dX12_bits_4 rfl rfl ?_
    refine j_if_eq 20 8 dX12_bits_5 (by decide) rfl (fun c1 => ?_) (fun c1 => ?_)
    · refine j_sub (ls' := [none, some (vI x1), none]) (And.intro rfl trivial) ?_
      exact hκ x1 s
    · refine j_iinc (v := x1 + 1) (ls' := [none, some (vI (x1 + 1)), some (vI x2)]) 11 dX12_bits_8 rfl rfl rfl (by decide) rfl rfl ?_
      refine j_iload_n 12 dX12_bits_11 rfl rfl ?_
      refine j_iload_n 13 dX12_bits_12 rfl rfl ?_
      refine j_iconst (v := 1) 14 dX12_bits_13 rfl (by decide) ?_
      refine j_isub 15 dX12_bits_14 rfl ?_
      refine j_iand 16 dX12_bits_15 rfl ?_
      refine s_nmI (fun v2 => ?_)
      refine j_istore_n (i := 2) (ls' := [none, some (vI (x1 + 1)), some (vI v2)]) 17 dX12_bits_16 rfl rfl (by decide) rfl rfl ?_
      refine j_goto 4 dX12_bits_17 (by decide) ?_
      refine j_sub (ls' := [none, some (vI (x1 + 1)), some (vI v2)]) (And.intro rfl (And.intro rfl trivial)) ?_
      exact ih (x1 + 1) v2 s
theorem tX12_bits (Θ : Th) (l : Launch)  (a0 : Int32)  (s : Mem) : Cs Θ l mX12_bits 1 gI [vI a0] s (fX12_bits a0 s) := by
  refine ct_of (by decide) [some (vI a0), none, none] rfl (Nat.le_of_ble_eq_true rfl) ?_
  unfold fX12_bits
  refine j_iconst (v := 0) 1 dX12_bits_0 rfl (by decide) ?_
  refine j_istore_n (i := 1) (ls' := [some (vI a0), some (vI 0), none]) 2 dX12_bits_1 rfl rfl (by decide) rfl rfl ?_
  refine j_iload_n 3 dX12_bits_2 rfl rfl ?_
  refine j_istore_n (i := 2) (ls' := [some (vI a0), some (vI 0), some (vI a0)]) 4 dX12_bits_3 rfl rfl (by decide) rfl rfl ?_
  refine j_sub (ls' := [none, some (vI 0), some (vI a0)]) (And.intro rfl (And.intro rfl trivial)) ?_
  refine tX12_bits_L4 Θ l _   ?_ _ _ _ _
  intro v3 s4
  refine j_iload_n 21 dX12_bits_20 rfl rfl ?_
  exact s_iret dX12_bits_21 rfl
-- X12_kinSeated
def fX12_kinSeated_L4  (κ : Int32 → Mem → Option (Int32 × Mem)) (y1 : Int32) : Nat → Int32 → Int32 → Mem → Option (Int32 × Mem)
  | 0, _, _, _ => none
  | k + 1, x2, x3, s =>
    if x3 < (s.1 68 12) then
      if x3 = y1 then
        nm (x2 + 0) (fun v3 =>
        fX12_kinSeated_L4 κ y1 k v3 (x3 + 1) s)
      else
        if inb x3 8 = true then
        if (s.1 79 (ix x3)) = (-9) then
          nm (x2 + 0) (fun v6 =>
          fX12_kinSeated_L4 κ y1 k v6 (x3 + 1) s)
        else
          if inb x3 7 = true then
          if inb y1 7 = true then
          if (s.1 78 (ix x3)) = (s.1 78 (ix y1)) then
            nm (x2 + 1) (fun v10 =>
            fX12_kinSeated_L4 κ y1 k v10 (x3 + 1) s)
          else
            nm (x2 + 0) (fun v11 =>
            fX12_kinSeated_L4 κ y1 k v11 (x3 + 1) s)
          else none
          else none
        else none
    else
      κ x2 s
def fX12_kinSeated  (a1 : Int32) (s : Mem) : Option (Int32 × Mem) :=
fX12_kinSeated_L4 (fun v12 s13 =>
  some (v12, s13)) a1 FU 0 0 s
theorem tX12_kinSeated_L4 (Θ : Th) (l : Launch)  (κ : Int32 → Mem → Option (Int32 × Mem)) (y1 : Int32)  (hκ : ∀ (x2 : Int32) (s : Mem), Js Θ l mX12_kinSeated 1 gI 57 [none, none, some (vI x2), none] [] s (κ x2 s)) : ∀ (k : Nat) (x2 : Int32) (x3 : Int32) (s : Mem), Js Θ l mX12_kinSeated 1 gI 4 [some (vR 68), some (vI y1), some (vI x2), some (vI x3)] [] s (fX12_kinSeated_L4 κ y1 k x2 x3 s) := by
  intro k
  induction k with
  | zero => intro x2 x3 s; exact j_none
  | succ k ih =>
    intro x2 x3 s
    rw [fX12_kinSeated_L4]
    refine j_iload_n 5 dX12_kinSeated_4 rfl rfl ?_
    refine j_aload_n 6 dX12_kinSeated_5 rfl rfl ?_
    refine s_getI 9 fa68_12 w_1218 dX12_kinSeated_6 rfl ?_
    refine j_icmp_ge 57 12 dX12_kinSeated_9 (by decide) rfl (fun c1 => ?_) (fun c1 => ?_)
    · refine j_iload_n 13 dX12_kinSeated_12 rfl rfl ?_
      refine j_iload_n 14 dX12_kinSeated_13 rfl rfl ?_
      refine j_iload_n 15 dX12_kinSeated_14 rfl rfl ?_
      refine j_icmp_eq 48 18 dX12_kinSeated_15 (by decide) rfl (fun c2 => ?_) (fun c2 => ?_)
      · refine j_iconst (v := 0) 49 dX12_kinSeated_48 rfl (by decide) ?_
        refine j_iadd 50 dX12_kinSeated_49 rfl ?_
        refine s_nmI (fun v3 => ?_)
        refine j_istore_n (i := 2) (ls' := [some (vR 68), some (vI y1), some (vI v3), some (vI x3)]) 51 dX12_kinSeated_50 rfl rfl (by decide) rfl rfl ?_
        refine j_iinc (v := x3 + 1) (ls' := [some (vR 68), some (vI y1), some (vI v3), some (vI (x3 + 1))]) 54 dX12_kinSeated_51 rfl rfl rfl (by decide) rfl rfl ?_
        refine j_goto 4 dX12_kinSeated_54 (by decide) ?_
        refine j_sub (ls' := [some (vR 68), some (vI y1), some (vI v3), some (vI (x3 + 1))]) (And.intro rfl (And.intro rfl (And.intro rfl (And.intro rfl trivial)))) ?_
        exact ih v3 (x3 + 1) s
      · refine j_aload_n 19 dX12_kinSeated_18 rfl rfl ?_
        refine s_getR (x := 79) 22 fa68_16 w_1222 dX12_kinSeated_19 rfl (by decide +kernel) ?_
        refine j_iload_n 23 dX12_kinSeated_22 rfl rfl ?_
        refine s_iaload 24 aa79 dX12_kinSeated_23 rfl (fun b4 => ?_)
        refine j_bipush (v := (-9)) 26 dX12_kinSeated_24 rfl (by decide) ?_
        refine j_icmp_eq 48 29 dX12_kinSeated_26 (by decide) rfl (fun c5 => ?_) (fun c5 => ?_)
        · refine j_iconst (v := 0) 49 dX12_kinSeated_48 rfl (by decide) ?_
          refine j_iadd 50 dX12_kinSeated_49 rfl ?_
          refine s_nmI (fun v6 => ?_)
          refine j_istore_n (i := 2) (ls' := [some (vR 68), some (vI y1), some (vI v6), some (vI x3)]) 51 dX12_kinSeated_50 rfl rfl (by decide) rfl rfl ?_
          refine j_iinc (v := x3 + 1) (ls' := [some (vR 68), some (vI y1), some (vI v6), some (vI (x3 + 1))]) 54 dX12_kinSeated_51 rfl rfl rfl (by decide) rfl rfl ?_
          refine j_goto 4 dX12_kinSeated_54 (by decide) ?_
          refine j_sub (ls' := [some (vR 68), some (vI y1), some (vI v6), some (vI (x3 + 1))]) (And.intro rfl (And.intro rfl (And.intro rfl (And.intro rfl trivial)))) ?_
          exact ih v6 (x3 + 1) s
        · refine j_aload_n 30 dX12_kinSeated_29 rfl rfl ?_
          refine s_getR (x := 78) 33 fa68_15 w_1221 dX12_kinSeated_30 rfl (by decide +kernel) ?_
          refine j_iload_n 34 dX12_kinSeated_33 rfl rfl ?_
          refine s_iaload 35 aa78 dX12_kinSeated_34 rfl (fun b7 => ?_)
          refine j_aload_n 36 dX12_kinSeated_35 rfl rfl ?_
          refine s_getR (x := 78) 39 fa68_15 w_1221 dX12_kinSeated_36 rfl (by decide +kernel) ?_
          refine j_iload_n 40 dX12_kinSeated_39 rfl rfl ?_
          refine s_iaload 41 aa78 dX12_kinSeated_40 rfl (fun b8 => ?_)
          refine j_icmp_ne 48 44 dX12_kinSeated_41 (by decide) rfl (fun c9 => ?_) (fun c9 => ?_)
          · refine j_iconst (v := 1) 45 dX12_kinSeated_44 rfl (by decide) ?_
            refine j_goto 49 dX12_kinSeated_45 (by decide) ?_
            refine j_iadd 50 dX12_kinSeated_49 rfl ?_
            refine s_nmI (fun v10 => ?_)
            refine j_istore_n (i := 2) (ls' := [some (vR 68), some (vI y1), some (vI v10), some (vI x3)]) 51 dX12_kinSeated_50 rfl rfl (by decide) rfl rfl ?_
            refine j_iinc (v := x3 + 1) (ls' := [some (vR 68), some (vI y1), some (vI v10), some (vI (x3 + 1))]) 54 dX12_kinSeated_51 rfl rfl rfl (by decide) rfl rfl ?_
            refine j_goto 4 dX12_kinSeated_54 (by decide) ?_
            refine j_sub (ls' := [some (vR 68), some (vI y1), some (vI v10), some (vI (x3 + 1))]) (And.intro rfl (And.intro rfl (And.intro rfl (And.intro rfl trivial)))) ?_
            exact ih v10 (x3 + 1) s
          · refine j_iconst (v := 0) 49 dX12_kinSeated_48 rfl (by decide) ?_
            refine j_iadd 50 dX12_kinSeated_49 rfl ?_
            refine s_nmI (fun v11 => ?_)
            refine j_istore_n (i := 2) (ls' := [some (vR 68), some (vI y1), some (vI v11), some (vI x3)]) 51 dX12_kinSeated_50 rfl rfl (by decide) rfl rfl ?_
            refine j_iinc (v := x3 + 1) (ls' := [some (vR 68), some (vI y1), some (vI v11), some (vI (x3 + 1))]) 54 dX12_kinSeated_51 rfl rfl rfl (by decide) rfl rfl ?_
            refine j_goto 4 dX12_kinSeated_54 (by decide) ?_
            refine j_sub (ls' := [some (vR 68), some (vI y1), some (vI v11), some (vI (x3 + 1))]) (And.intro rfl (And.intro rfl (And.intro rfl (And.intro rfl trivial)))) ?_
            exact ih v11 (x3 + 1) s
    · refine j_sub (ls' := [none, none, some (vI x2), none]) (And.intro rfl trivial) ?_
      exact hκ x2 s
theorem tX12_kinSeated (Θ : Th) (l : Launch)  (a1 : Int32)  (s : Mem) : Cs Θ l mX12_kinSeated 1 gI [vR 68, vI a1] s (fX12_kinSeated a1 s) := by
  refine ct_of (by decide) [some (vR 68), some (vI a1), none, none] rfl (Nat.le_of_ble_eq_true rfl) ?_
  unfold fX12_kinSeated
  refine j_iconst (v := 0) 1 dX12_kinSeated_0 rfl (by decide) ?_
  refine j_istore_n (i := 2) (ls' := [some (vR 68), some (vI a1), some (vI 0), none]) 2 dX12_kinSeated_1 rfl rfl (by decide) rfl rfl ?_
  refine j_iconst (v := 0) 3 dX12_kinSeated_2 rfl (by decide) ?_
  refine j_istore_n (i := 3) (ls' := [some (vR 68), some (vI a1), some (vI 0), some (vI 0)]) 4 dX12_kinSeated_3 rfl rfl (by decide) rfl rfl ?_
  refine j_sub (ls' := [some (vR 68), some (vI a1), some (vI 0), some (vI 0)]) (And.intro rfl (And.intro rfl (And.intro rfl (And.intro rfl trivial)))) ?_
  refine tX12_kinSeated_L4 Θ l _ _  ?_ _ _ _ _
  intro v12 s13
  refine j_iload_n 58 dX12_kinSeated_57 rfl rfl ?_
  exact s_iret dX12_kinSeated_58 rfl
-- X12_mark
def fX12_mark  (a1 : Int32) (a2 : Int32) (s : Mem) : Option (Int32 × Mem) :=
bnd (fX12_isGuest a1 s) (fun r1 s2 =>
if r1 = 0 then
  some ((-1), s2)
else
  bnd (fX12_in a2 1 5 s2) (fun r4 s5 =>
  if r4 = 0 then
    some ((-1), s5)
  else
    if inb a1 7 = true then
    nm (s5.1 76 (ix a1)) (fun v8 =>
    if v8 = a2 then
      if inb a1 8 = true then
      nm (s5.1 79 (ix a1)) (fun v11 =>
      if a2 = 1 then
        if v11 = (-9) then
          some (0, s5)
        else
          bnd (fX12_momentOf a1 v11 1 s5) (fun r14 s15 =>
          bnd (fX12_momentOf a1 v11 0 s15) (fun r16 s17 =>
          some (r14 - r16, s17)))
      else if a2 = 2 then
        if v11 = (-9) then
          some (0, s5)
        else
          bnd (fX12_momentOf a1 v11 2 s5) (fun r20 s21 =>
          bnd (fX12_momentOf a1 v11 0 s21) (fun r22 s23 =>
          some (r20 - r22, s23)))
      else if a2 = 3 then
        if v11 = (-9) then
          some ((-9), s5)
        else
          bnd (fX12_setOn v11 s5) (fun r26 s27 =>
          bnd (fX12_bits r26 s27) (fun r28 s29 =>
          some (r28 - 1, s29)))
      else if a2 = 4 then
        if v11 = (-9) then
          some (0, s5)
        else
          bnd (fX12_outOf a1 v11 1 s5) (fun r32 s33 =>
          some (r32, s33))
      else 
        bnd (fX12_kinSeated a1 s5) (fun r34 s35 =>
        some (r34, s35)))
      else none
    else
      if a2 = 1 then
        if v8 = 4 then
          if inb a1 8 = true then
          nm (s5.1 79 (ix a1)) (fun v39 =>
          if a2 = 1 then
            if v39 = (-9) then
              some (0, s5)
            else
              bnd (fX12_momentOf a1 v39 1 s5) (fun r42 s43 =>
              bnd (fX12_momentOf a1 v39 0 s43) (fun r44 s45 =>
              some (r42 - r44, s45)))
          else if a2 = 2 then
            if v39 = (-9) then
              some (0, s5)
            else
              bnd (fX12_momentOf a1 v39 2 s5) (fun r48 s49 =>
              bnd (fX12_momentOf a1 v39 0 s49) (fun r50 s51 =>
              some (r48 - r50, s51)))
          else if a2 = 3 then
            if v39 = (-9) then
              some ((-9), s5)
            else
              bnd (fX12_setOn v39 s5) (fun r54 s55 =>
              bnd (fX12_bits r54 s55) (fun r56 s57 =>
              some (r56 - 1, s57)))
          else if a2 = 4 then
            if v39 = (-9) then
              some (0, s5)
            else
              bnd (fX12_outOf a1 v39 1 s5) (fun r60 s61 =>
              some (r60, s61))
          else 
            bnd (fX12_kinSeated a1 s5) (fun r62 s63 =>
            some (r62, s63)))
          else none
        else
          if a2 = 2 then
            if v8 = 5 then
              if inb a1 8 = true then
              nm (s5.1 79 (ix a1)) (fun v67 =>
              if a2 = 1 then
                if v67 = (-9) then
                  some (0, s5)
                else
                  bnd (fX12_momentOf a1 v67 1 s5) (fun r70 s71 =>
                  bnd (fX12_momentOf a1 v67 0 s71) (fun r72 s73 =>
                  some (r70 - r72, s73)))
              else if a2 = 2 then
                if v67 = (-9) then
                  some (0, s5)
                else
                  bnd (fX12_momentOf a1 v67 2 s5) (fun r76 s77 =>
                  bnd (fX12_momentOf a1 v67 0 s77) (fun r78 s79 =>
                  some (r76 - r78, s79)))
              else if a2 = 3 then
                if v67 = (-9) then
                  some ((-9), s5)
                else
                  bnd (fX12_setOn v67 s5) (fun r82 s83 =>
                  bnd (fX12_bits r82 s83) (fun r84 s85 =>
                  some (r84 - 1, s85)))
              else if a2 = 4 then
                if v67 = (-9) then
                  some (0, s5)
                else
                  bnd (fX12_outOf a1 v67 1 s5) (fun r88 s89 =>
                  some (r88, s89))
              else 
                bnd (fX12_kinSeated a1 s5) (fun r90 s91 =>
                some (r90, s91)))
              else none
            else
              bnd (fX12_meets 3 s5) (fun r92 s93 =>
              some (r92, s93))
          else
            bnd (fX12_meets 3 s5) (fun r94 s95 =>
            some (r94, s95))
      else
        if a2 = 2 then
          if v8 = 5 then
            if inb a1 8 = true then
            nm (s5.1 79 (ix a1)) (fun v99 =>
            if a2 = 1 then
              if v99 = (-9) then
                some (0, s5)
              else
                bnd (fX12_momentOf a1 v99 1 s5) (fun r102 s103 =>
                bnd (fX12_momentOf a1 v99 0 s103) (fun r104 s105 =>
                some (r102 - r104, s105)))
            else if a2 = 2 then
              if v99 = (-9) then
                some (0, s5)
              else
                bnd (fX12_momentOf a1 v99 2 s5) (fun r108 s109 =>
                bnd (fX12_momentOf a1 v99 0 s109) (fun r110 s111 =>
                some (r108 - r110, s111)))
            else if a2 = 3 then
              if v99 = (-9) then
                some ((-9), s5)
              else
                bnd (fX12_setOn v99 s5) (fun r114 s115 =>
                bnd (fX12_bits r114 s115) (fun r116 s117 =>
                some (r116 - 1, s117)))
            else if a2 = 4 then
              if v99 = (-9) then
                some (0, s5)
              else
                bnd (fX12_outOf a1 v99 1 s5) (fun r120 s121 =>
                some (r120, s121))
            else 
              bnd (fX12_kinSeated a1 s5) (fun r122 s123 =>
              some (r122, s123)))
            else none
          else
            bnd (fX12_meets 3 s5) (fun r124 s125 =>
            some (r124, s125))
        else
          bnd (fX12_meets 3 s5) (fun r126 s127 =>
          some (r126, s127)))
    else none))
theorem tX12_mark (Θ : Th) (l : Launch)  (a1 : Int32) (a2 : Int32)  (s : Mem) : Cs Θ l mX12_mark 4 gI [vR 68, vI a1, vI a2] s (fX12_mark a1 a2 s) := by
  refine ct_of (by decide) [some (vR 68), some (vI a1), some (vI a2), none, none] rfl (Nat.le_of_ble_eq_true rfl) ?_
  unfold fX12_mark
  refine j_aload_n 1 dX12_mark_0 rfl rfl ?_
  refine j_iload_n 2 dX12_mark_1 rfl rfl ?_
  refine s_callVi (M2 := mX12_isGuest) [vI a1] 5 oa68 cc12 mkX12_isGuest w_1519 dX12_mark_2 rfl rfl (tX12_isGuest Θ l _  _) (by first | exact Nat.le_of_ble_eq_true rfl | omega) (Nat.le_of_ble_eq_true rfl) (Nat.le_of_ble_eq_true rfl) (fun r1 s2 => ?_)
  refine j_if_eq 17 8 dX12_mark_5 (by decide) rfl (fun c3 => ?_) (fun c3 => ?_)
  · refine j_iconst (v := (-1)) 18 dX12_mark_17 rfl (by decide) ?_
    exact s_iret dX12_mark_18 rfl
  · refine j_iload_n 9 dX12_mark_8 rfl rfl ?_
    refine j_iconst (v := 1) 10 dX12_mark_9 rfl (by decide) ?_
    refine j_iconst (v := 5) 11 dX12_mark_10 rfl (by decide) ?_
    refine s_callSi (M2 := mX12_in) [vI a2, vI 1, vI 5] 14 mkX12_in (Or.inl w_1380) dX12_mark_11 rfl rfl (tX12_in Θ l _ _ _  _) (by first | exact Nat.le_of_ble_eq_true rfl | omega) (Nat.le_of_ble_eq_true rfl) (Nat.le_of_ble_eq_true rfl) (fun r4 s5 => ?_)
    refine j_if_ne 19 17 dX12_mark_14 (by decide) rfl (fun c6 => ?_) (fun c6 => ?_)
    · refine j_iconst (v := (-1)) 18 dX12_mark_17 rfl (by decide) ?_
      exact s_iret dX12_mark_18 rfl
    · refine j_aload_n 20 dX12_mark_19 rfl rfl ?_
      refine s_getR (x := 76) 23 fa68_13 w_1219 dX12_mark_20 rfl (by decide +kernel) ?_
      refine j_iload_n 24 dX12_mark_23 rfl rfl ?_
      refine s_iaload 25 aa76 dX12_mark_24 rfl (fun b7 => ?_)
      refine s_nmI (fun v8 => ?_)
      refine j_istore_n (i := 3) (ls' := [some (vR 68), some (vI a1), some (vI a2), some (vI v8), none]) 26 dX12_mark_25 rfl rfl (by decide) rfl rfl ?_
      refine j_iload_n 27 dX12_mark_26 rfl rfl ?_
      refine j_iload_n 28 dX12_mark_27 rfl rfl ?_
      refine j_icmp_eq 57 31 dX12_mark_28 (by decide) rfl (fun c9 => ?_) (fun c9 => ?_)
      · refine j_aload_n 58 dX12_mark_57 rfl rfl ?_
        refine s_getR (x := 79) 61 fa68_16 w_1222 dX12_mark_58 rfl (by decide +kernel) ?_
        refine j_iload_n 62 dX12_mark_61 rfl rfl ?_
        refine s_iaload 63 aa79 dX12_mark_62 rfl (fun b10 => ?_)
        refine s_nmI (fun v11 => ?_)
        refine j_istore (i := 4) (ls' := [some (vR 68), some (vI a1), some (vI a2), some (vI v8), some (vI v11)]) 65 dX12_mark_63 rfl (by decide) rfl rfl ?_
        refine j_iload_n 66 dX12_mark_65 rfl rfl ?_
        refine j_ite (fun c12 => ?_) (fun c12 => ?_)
        · refine j_tabIn (v := 1) 96 dX12_mark_66 c12 (by decide) (by decide) rfl (by decide) ?_
          refine j_iload 98 dX12_mark_96 rfl rfl ?_
          refine j_bipush (v := (-9)) 100 dX12_mark_98 rfl (by decide) ?_
          refine j_icmp_ne 107 103 dX12_mark_100 (by decide) rfl (fun c13 => ?_) (fun c13 => ?_)
          · refine j_iconst (v := 0) 104 dX12_mark_103 rfl (by decide) ?_
            refine j_goto 124 dX12_mark_104 (by decide) ?_
            exact s_iret dX12_mark_124 rfl
          · refine j_aload_n 108 dX12_mark_107 rfl rfl ?_
            refine j_iload_n 109 dX12_mark_108 rfl rfl ?_
            refine j_iload 111 dX12_mark_109 rfl rfl ?_
            refine j_iconst (v := 1) 112 dX12_mark_111 rfl (by decide) ?_
            refine s_callVi (M2 := mX12_momentOf) [vI a1, vI v11, vI 1] 115 oa68 cc12 mkX12_momentOf w_1531 dX12_mark_112 rfl rfl (tX12_momentOf Θ l _ _ _  _) (by first | exact Nat.le_of_ble_eq_true rfl | omega) (Nat.le_of_ble_eq_true rfl) (Nat.le_of_ble_eq_true rfl) (fun r14 s15 => ?_)
            refine j_aload_n 116 dX12_mark_115 rfl rfl ?_
            refine j_iload_n 117 dX12_mark_116 rfl rfl ?_
            refine j_iload 119 dX12_mark_117 rfl rfl ?_
            refine j_iconst (v := 0) 120 dX12_mark_119 rfl (by decide) ?_
            refine s_callVi (M2 := mX12_momentOf) [vI a1, vI v11, vI 0] 123 oa68 cc12 mkX12_momentOf w_1531 dX12_mark_120 rfl rfl (tX12_momentOf Θ l _ _ _  _) (by first | exact Nat.le_of_ble_eq_true rfl | omega) (Nat.le_of_ble_eq_true rfl) (Nat.le_of_ble_eq_true rfl) (fun r16 s17 => ?_)
            refine j_isub 124 dX12_mark_123 rfl ?_
            exact s_iret dX12_mark_124 rfl
        refine j_ite (fun c18 => ?_) (fun c18 => ?_)
        · refine j_tabIn (v := 2) 125 dX12_mark_66 c18 (by decide) (by decide) rfl (by decide) ?_
          refine j_iload 127 dX12_mark_125 rfl rfl ?_
          refine j_bipush (v := (-9)) 129 dX12_mark_127 rfl (by decide) ?_
          refine j_icmp_ne 136 132 dX12_mark_129 (by decide) rfl (fun c19 => ?_) (fun c19 => ?_)
          · refine j_iconst (v := 0) 133 dX12_mark_132 rfl (by decide) ?_
            refine j_goto 153 dX12_mark_133 (by decide) ?_
            exact s_iret dX12_mark_153 rfl
          · refine j_aload_n 137 dX12_mark_136 rfl rfl ?_
            refine j_iload_n 138 dX12_mark_137 rfl rfl ?_
            refine j_iload 140 dX12_mark_138 rfl rfl ?_
            refine j_iconst (v := 2) 141 dX12_mark_140 rfl (by decide) ?_
            refine s_callVi (M2 := mX12_momentOf) [vI a1, vI v11, vI 2] 144 oa68 cc12 mkX12_momentOf w_1531 dX12_mark_141 rfl rfl (tX12_momentOf Θ l _ _ _  _) (by first | exact Nat.le_of_ble_eq_true rfl | omega) (Nat.le_of_ble_eq_true rfl) (Nat.le_of_ble_eq_true rfl) (fun r20 s21 => ?_)
            refine j_aload_n 145 dX12_mark_144 rfl rfl ?_
            refine j_iload_n 146 dX12_mark_145 rfl rfl ?_
            refine j_iload 148 dX12_mark_146 rfl rfl ?_
            refine j_iconst (v := 0) 149 dX12_mark_148 rfl (by decide) ?_
            refine s_callVi (M2 := mX12_momentOf) [vI a1, vI v11, vI 0] 152 oa68 cc12 mkX12_momentOf w_1531 dX12_mark_149 rfl rfl (tX12_momentOf Θ l _ _ _  _) (by first | exact Nat.le_of_ble_eq_true rfl | omega) (Nat.le_of_ble_eq_true rfl) (Nat.le_of_ble_eq_true rfl) (fun r22 s23 => ?_)
            refine j_isub 153 dX12_mark_152 rfl ?_
            exact s_iret dX12_mark_153 rfl
        refine j_ite (fun c24 => ?_) (fun c24 => ?_)
        · refine j_tabIn (v := 3) 154 dX12_mark_66 c24 (by decide) (by decide) rfl (by decide) ?_
          refine j_iload 156 dX12_mark_154 rfl rfl ?_
          refine j_bipush (v := (-9)) 158 dX12_mark_156 rfl (by decide) ?_
          refine j_icmp_ne 166 161 dX12_mark_158 (by decide) rfl (fun c25 => ?_) (fun c25 => ?_)
          · refine j_bipush (v := (-9)) 163 dX12_mark_161 rfl (by decide) ?_
            refine j_goto 177 dX12_mark_163 (by decide) ?_
            exact s_iret dX12_mark_177 rfl
          · refine j_aload_n 167 dX12_mark_166 rfl rfl ?_
            refine j_iload 169 dX12_mark_167 rfl rfl ?_
            refine s_callVi (M2 := mX12_setOn) [vI v11] 172 oa68 cc12 mkX12_setOn w_1511 dX12_mark_169 rfl rfl (tX12_setOn Θ l _  _) (by first | exact Nat.le_of_ble_eq_true rfl | omega) (Nat.le_of_ble_eq_true rfl) (Nat.le_of_ble_eq_true rfl) (fun r26 s27 => ?_)
            refine s_callSi (M2 := mX12_bits) [vI r26] 175 mkX12_bits (Or.inl w_1545) dX12_mark_172 rfl rfl (tX12_bits Θ l _  _) (by first | exact Nat.le_of_ble_eq_true rfl | omega) (Nat.le_of_ble_eq_true rfl) (Nat.le_of_ble_eq_true rfl) (fun r28 s29 => ?_)
            refine j_iconst (v := 1) 176 dX12_mark_175 rfl (by decide) ?_
            refine j_isub 177 dX12_mark_176 rfl ?_
            exact s_iret dX12_mark_177 rfl
        refine j_ite (fun c30 => ?_) (fun c30 => ?_)
        · refine j_tabIn (v := 4) 178 dX12_mark_66 c30 (by decide) (by decide) rfl (by decide) ?_
          refine j_iload 180 dX12_mark_178 rfl rfl ?_
          refine j_bipush (v := (-9)) 182 dX12_mark_180 rfl (by decide) ?_
          refine j_icmp_ne 189 185 dX12_mark_182 (by decide) rfl (fun c31 => ?_) (fun c31 => ?_)
          · refine j_iconst (v := 0) 186 dX12_mark_185 rfl (by decide) ?_
            refine j_goto 197 dX12_mark_186 (by decide) ?_
            exact s_iret dX12_mark_197 rfl
          · refine j_aload_n 190 dX12_mark_189 rfl rfl ?_
            refine j_iload_n 191 dX12_mark_190 rfl rfl ?_
            refine j_iload 193 dX12_mark_191 rfl rfl ?_
            refine j_iconst (v := 1) 194 dX12_mark_193 rfl (by decide) ?_
            refine s_callVi (M2 := mX12_outOf) [vI a1, vI v11, vI 1] 197 oa68 cc12 mkX12_outOf w_1535 dX12_mark_194 rfl rfl (tX12_outOf Θ l _ _ _  _) (by first | exact Nat.le_of_ble_eq_true rfl | omega) (Nat.le_of_ble_eq_true rfl) (Nat.le_of_ble_eq_true rfl) (fun r32 s33 => ?_)
            exact s_iret dX12_mark_197 rfl
        refine j_tabOut 198 dX12_mark_66 (by have z0 := lv_neT c12 (a := 1) (by decide); have z1 := lv_neT c18 (a := 2) (by decide); have z2 := lv_neT c24 (a := 3) (by decide); have z3 := lv_neT c30 (a := 4) (by decide); omega) (by decide) ?_
        refine j_aload_n 199 dX12_mark_198 rfl rfl ?_
        refine j_iload_n 200 dX12_mark_199 rfl rfl ?_
        refine s_callVi (M2 := mX12_kinSeated) [vI a1] 203 oa68 cc12 mkX12_kinSeated w_1548 dX12_mark_200 rfl rfl (tX12_kinSeated Θ l _  _) (by first | exact Nat.le_of_ble_eq_true rfl | omega) (Nat.le_of_ble_eq_true rfl) (Nat.le_of_ble_eq_true rfl) (fun r34 s35 => ?_)
        exact s_iret dX12_mark_203 rfl
      · refine j_iload_n 32 dX12_mark_31 rfl rfl ?_
        refine j_iconst (v := 1) 33 dX12_mark_32 rfl (by decide) ?_
        refine j_icmp_ne 41 36 dX12_mark_33 (by decide) rfl (fun c36 => ?_) (fun c36 => ?_)
        · refine j_iload_n 37 dX12_mark_36 rfl rfl ?_
          refine j_iconst (v := 4) 38 dX12_mark_37 rfl (by decide) ?_
          refine j_icmp_eq 57 41 dX12_mark_38 (by decide) rfl (fun c37 => ?_) (fun c37 => ?_)
          · refine j_aload_n 58 dX12_mark_57 rfl rfl ?_
            refine s_getR (x := 79) 61 fa68_16 w_1222 dX12_mark_58 rfl (by decide +kernel) ?_
            refine j_iload_n 62 dX12_mark_61 rfl rfl ?_
            refine s_iaload 63 aa79 dX12_mark_62 rfl (fun b38 => ?_)
            refine s_nmI (fun v39 => ?_)
            refine j_istore (i := 4) (ls' := [some (vR 68), some (vI a1), some (vI a2), some (vI v8), some (vI v39)]) 65 dX12_mark_63 rfl (by decide) rfl rfl ?_
            refine j_iload_n 66 dX12_mark_65 rfl rfl ?_
            refine j_ite (fun c40 => ?_) (fun c40 => ?_)
            · refine j_tabIn (v := 1) 96 dX12_mark_66 c40 (by decide) (by decide) rfl (by decide) ?_
              refine j_iload 98 dX12_mark_96 rfl rfl ?_
              refine j_bipush (v := (-9)) 100 dX12_mark_98 rfl (by decide) ?_
              refine j_icmp_ne 107 103 dX12_mark_100 (by decide) rfl (fun c41 => ?_) (fun c41 => ?_)
              · refine j_iconst (v := 0) 104 dX12_mark_103 rfl (by decide) ?_
                refine j_goto 124 dX12_mark_104 (by decide) ?_
                exact s_iret dX12_mark_124 rfl
              · refine j_aload_n 108 dX12_mark_107 rfl rfl ?_
                refine j_iload_n 109 dX12_mark_108 rfl rfl ?_
                refine j_iload 111 dX12_mark_109 rfl rfl ?_
                refine j_iconst (v := 1) 112 dX12_mark_111 rfl (by decide) ?_
                refine s_callVi (M2 := mX12_momentOf) [vI a1, vI v39, vI 1] 115 oa68 cc12 mkX12_momentOf w_1531 dX12_mark_112 rfl rfl (tX12_momentOf Θ l _ _ _  _) (by first | exact Nat.le_of_ble_eq_true rfl | omega) (Nat.le_of_ble_eq_true rfl) (Nat.le_of_ble_eq_true rfl) (fun r42 s43 => ?_)
                refine j_aload_n 116 dX12_mark_115 rfl rfl ?_
                refine j_iload_n 117 dX12_mark_116 rfl rfl ?_
                refine j_iload 119 dX12_mark_117 rfl rfl ?_
                refine j_iconst (v := 0) 120 dX12_mark_119 rfl (by decide) ?_
                refine s_callVi (M2 := mX12_momentOf) [vI a1, vI v39, vI 0] 123 oa68 cc12 mkX12_momentOf w_1531 dX12_mark_120 rfl rfl (tX12_momentOf Θ l _ _ _  _) (by first | exact Nat.le_of_ble_eq_true rfl | omega) (Nat.le_of_ble_eq_true rfl) (Nat.le_of_ble_eq_true rfl) (fun r44 s45 => ?_)
                refine j_isub 124 dX12_mark_123 rfl ?_
                exact s_iret dX12_mark_124 rfl
            refine j_ite (fun c46 => ?_) (fun c46 => ?_)
            · refine j_tabIn (v := 2) 125 dX12_mark_66 c46 (by decide) (by decide) rfl (by decide) ?_
              refine j_iload 127 dX12_mark_125 rfl rfl ?_
              refine j_bipush (v := (-9)) 129 dX12_mark_127 rfl (by decide) ?_
              refine j_icmp_ne 136 132 dX12_mark_129 (by decide) rfl (fun c47 => ?_) (fun c47 => ?_)
              · refine j_iconst (v := 0) 133 dX12_mark_132 rfl (by decide) ?_
                refine j_goto 153 dX12_mark_133 (by decide) ?_
                exact s_iret dX12_mark_153 rfl
              · refine j_aload_n 137 dX12_mark_136 rfl rfl ?_
                refine j_iload_n 138 dX12_mark_137 rfl rfl ?_
                refine j_iload 140 dX12_mark_138 rfl rfl ?_
                refine j_iconst (v := 2) 141 dX12_mark_140 rfl (by decide) ?_
                refine s_callVi (M2 := mX12_momentOf) [vI a1, vI v39, vI 2] 144 oa68 cc12 mkX12_momentOf w_1531 dX12_mark_141 rfl rfl (tX12_momentOf Θ l _ _ _  _) (by first | exact Nat.le_of_ble_eq_true rfl | omega) (Nat.le_of_ble_eq_true rfl) (Nat.le_of_ble_eq_true rfl) (fun r48 s49 => ?_)
                refine j_aload_n 145 dX12_mark_144 rfl rfl ?_
                refine j_iload_n 146 dX12_mark_145 rfl rfl ?_
                refine j_iload 148 dX12_mark_146 rfl rfl ?_
                refine j_iconst (v := 0) 149 dX12_mark_148 rfl (by decide) ?_
                refine s_callVi (M2 := mX12_momentOf) [vI a1, vI v39, vI 0] 152 oa68 cc12 mkX12_momentOf w_1531 dX12_mark_149 rfl rfl (tX12_momentOf Θ l _ _ _  _) (by first | exact Nat.le_of_ble_eq_true rfl | omega) (Nat.le_of_ble_eq_true rfl) (Nat.le_of_ble_eq_true rfl) (fun r50 s51 => ?_)
                refine j_isub 153 dX12_mark_152 rfl ?_
                exact s_iret dX12_mark_153 rfl
            refine j_ite (fun c52 => ?_) (fun c52 => ?_)
            · refine j_tabIn (v := 3) 154 dX12_mark_66 c52 (by decide) (by decide) rfl (by decide) ?_
              refine j_iload 156 dX12_mark_154 rfl rfl ?_
              refine j_bipush (v := (-9)) 158 dX12_mark_156 rfl (by decide) ?_
              refine j_icmp_ne 166 161 dX12_mark_158 (by decide) rfl (fun c53 => ?_) (fun c53 => ?_)
              · refine j_bipush (v := (-9)) 163 dX12_mark_161 rfl (by decide) ?_
                refine j_goto 177 dX12_mark_163 (by decide) ?_
                exact s_iret dX12_mark_177 rfl
              · refine j_aload_n 167 dX12_mark_166 rfl rfl ?_
                refine j_iload 169 dX12_mark_167 rfl rfl ?_
                refine s_callVi (M2 := mX12_setOn) [vI v39] 172 oa68 cc12 mkX12_setOn w_1511 dX12_mark_169 rfl rfl (tX12_setOn Θ l _  _) (by first | exact Nat.le_of_ble_eq_true rfl | omega) (Nat.le_of_ble_eq_true rfl) (Nat.le_of_ble_eq_true rfl) (fun r54 s55 => ?_)
                refine s_callSi (M2 := mX12_bits) [vI r54] 175 mkX12_bits (Or.inl w_1545) dX12_mark_172 rfl rfl (tX12_bits Θ l _  _) (by first | exact Nat.le_of_ble_eq_true rfl | omega) (Nat.le_of_ble_eq_true rfl) (Nat.le_of_ble_eq_true rfl) (fun r56 s57 => ?_)
                refine j_iconst (v := 1) 176 dX12_mark_175 rfl (by decide) ?_
                refine j_isub 177 dX12_mark_176 rfl ?_
                exact s_iret dX12_mark_177 rfl
            refine j_ite (fun c58 => ?_) (fun c58 => ?_)
            · refine j_tabIn (v := 4) 178 dX12_mark_66 c58 (by decide) (by decide) rfl (by decide) ?_
              refine j_iload 180 dX12_mark_178 rfl rfl ?_
              refine j_bipush (v := (-9)) 182 dX12_mark_180 rfl (by decide) ?_
              refine j_icmp_ne 189 185 dX12_mark_182 (by decide) rfl (fun c59 => ?_) (fun c59 => ?_)
              · refine j_iconst (v := 0) 186 dX12_mark_185 rfl (by decide) ?_
                refine j_goto 197 dX12_mark_186 (by decide) ?_
                exact s_iret dX12_mark_197 rfl
              · refine j_aload_n 190 dX12_mark_189 rfl rfl ?_
                refine j_iload_n 191 dX12_mark_190 rfl rfl ?_
                refine j_iload 193 dX12_mark_191 rfl rfl ?_
                refine j_iconst (v := 1) 194 dX12_mark_193 rfl (by decide) ?_
                refine s_callVi (M2 := mX12_outOf) [vI a1, vI v39, vI 1] 197 oa68 cc12 mkX12_outOf w_1535 dX12_mark_194 rfl rfl (tX12_outOf Θ l _ _ _  _) (by first | exact Nat.le_of_ble_eq_true rfl | omega) (Nat.le_of_ble_eq_true rfl) (Nat.le_of_ble_eq_true rfl) (fun r60 s61 => ?_)
                exact s_iret dX12_mark_197 rfl
            refine j_tabOut 198 dX12_mark_66 (by have z0 := lv_neT c40 (a := 1) (by decide); have z1 := lv_neT c46 (a := 2) (by decide); have z2 := lv_neT c52 (a := 3) (by decide); have z3 := lv_neT c58 (a := 4) (by decide); omega) (by decide) ?_
            refine j_aload_n 199 dX12_mark_198 rfl rfl ?_
            refine j_iload_n 200 dX12_mark_199 rfl rfl ?_
            refine s_callVi (M2 := mX12_kinSeated) [vI a1] 203 oa68 cc12 mkX12_kinSeated w_1548 dX12_mark_200 rfl rfl (tX12_kinSeated Θ l _  _) (by first | exact Nat.le_of_ble_eq_true rfl | omega) (Nat.le_of_ble_eq_true rfl) (Nat.le_of_ble_eq_true rfl) (fun r62 s63 => ?_)
            exact s_iret dX12_mark_203 rfl
          · refine j_iload_n 42 dX12_mark_41 rfl rfl ?_
            refine j_iconst (v := 2) 43 dX12_mark_42 rfl (by decide) ?_
            refine j_icmp_ne 51 46 dX12_mark_43 (by decide) rfl (fun c64 => ?_) (fun c64 => ?_)
            · refine j_iload_n 47 dX12_mark_46 rfl rfl ?_
              refine j_iconst (v := 5) 48 dX12_mark_47 rfl (by decide) ?_
              refine j_icmp_eq 57 51 dX12_mark_48 (by decide) rfl (fun c65 => ?_) (fun c65 => ?_)
              · refine j_aload_n 58 dX12_mark_57 rfl rfl ?_
                refine s_getR (x := 79) 61 fa68_16 w_1222 dX12_mark_58 rfl (by decide +kernel) ?_
                refine j_iload_n 62 dX12_mark_61 rfl rfl ?_
                refine s_iaload 63 aa79 dX12_mark_62 rfl (fun b66 => ?_)
                refine s_nmI (fun v67 => ?_)
                refine j_istore (i := 4) (ls' := [some (vR 68), some (vI a1), some (vI a2), some (vI v8), some (vI v67)]) 65 dX12_mark_63 rfl (by decide) rfl rfl ?_
                refine j_iload_n 66 dX12_mark_65 rfl rfl ?_
                refine j_ite (fun c68 => ?_) (fun c68 => ?_)
                · refine j_tabIn (v := 1) 96 dX12_mark_66 c68 (by decide) (by decide) rfl (by decide) ?_
                  refine j_iload 98 dX12_mark_96 rfl rfl ?_
                  refine j_bipush (v := (-9)) 100 dX12_mark_98 rfl (by decide) ?_
                  refine j_icmp_ne 107 103 dX12_mark_100 (by decide) rfl (fun c69 => ?_) (fun c69 => ?_)
                  · refine j_iconst (v := 0) 104 dX12_mark_103 rfl (by decide) ?_
                    refine j_goto 124 dX12_mark_104 (by decide) ?_
                    exact s_iret dX12_mark_124 rfl
                  · refine j_aload_n 108 dX12_mark_107 rfl rfl ?_
                    refine j_iload_n 109 dX12_mark_108 rfl rfl ?_
                    refine j_iload 111 dX12_mark_109 rfl rfl ?_
                    refine j_iconst (v := 1) 112 dX12_mark_111 rfl (by decide) ?_
                    refine s_callVi (M2 := mX12_momentOf) [vI a1, vI v67, vI 1] 115 oa68 cc12 mkX12_momentOf w_1531 dX12_mark_112 rfl rfl (tX12_momentOf Θ l _ _ _  _) (by first | exact Nat.le_of_ble_eq_true rfl | omega) (Nat.le_of_ble_eq_true rfl) (Nat.le_of_ble_eq_true rfl) (fun r70 s71 => ?_)
                    refine j_aload_n 116 dX12_mark_115 rfl rfl ?_
                    refine j_iload_n 117 dX12_mark_116 rfl rfl ?_
                    refine j_iload 119 dX12_mark_117 rfl rfl ?_
                    refine j_iconst (v := 0) 120 dX12_mark_119 rfl (by decide) ?_
                    refine s_callVi (M2 := mX12_momentOf) [vI a1, vI v67, vI 0] 123 oa68 cc12 mkX12_momentOf w_1531 dX12_mark_120 rfl rfl (tX12_momentOf Θ l _ _ _  _) (by first | exact Nat.le_of_ble_eq_true rfl | omega) (Nat.le_of_ble_eq_true rfl) (Nat.le_of_ble_eq_true rfl) (fun r72 s73 => ?_)
                    refine j_isub 124 dX12_mark_123 rfl ?_
                    exact s_iret dX12_mark_124 rfl
                refine j_ite (fun c74 => ?_) (fun c74 => ?_)
                · refine j_tabIn (v := 2) 125 dX12_mark_66 c74 (by decide) (by decide) rfl (by decide) ?_
                  refine j_iload 127 dX12_mark_125 rfl rfl ?_
                  refine j_bipush (v := (-9)) 129 dX12_mark_127 rfl (by decide) ?_
                  refine j_icmp_ne 136 132 dX12_mark_129 (by decide) rfl (fun c75 => ?_) (fun c75 => ?_)
                  · refine j_iconst (v := 0) 133 dX12_mark_132 rfl (by decide) ?_
                    refine j_goto 153 dX12_mark_133 (by decide) ?_
                    exact s_iret dX12_mark_153 rfl
                  · refine j_aload_n 137 dX12_mark_136 rfl rfl ?_
                    refine j_iload_n 138 dX12_mark_137 rfl rfl ?_
                    refine j_iload 140 dX12_mark_138 rfl rfl ?_
                    refine j_iconst (v := 2) 141 dX12_mark_140 rfl (by decide) ?_
                    refine s_callVi (M2 := mX12_momentOf) [vI a1, vI v67, vI 2] 144 oa68 cc12 mkX12_momentOf w_1531 dX12_mark_141 rfl rfl (tX12_momentOf Θ l _ _ _  _) (by first | exact Nat.le_of_ble_eq_true rfl | omega) (Nat.le_of_ble_eq_true rfl) (Nat.le_of_ble_eq_true rfl) (fun r76 s77 => ?_)
                    refine j_aload_n 145 dX12_mark_144 rfl rfl ?_
                    refine j_iload_n 146 dX12_mark_145 rfl rfl ?_
                    refine j_iload 148 dX12_mark_146 rfl rfl ?_
                    refine j_iconst (v := 0) 149 dX12_mark_148 rfl (by decide) ?_
                    refine s_callVi (M2 := mX12_momentOf) [vI a1, vI v67, vI 0] 152 oa68 cc12 mkX12_momentOf w_1531 dX12_mark_149 rfl rfl (tX12_momentOf Θ l _ _ _  _) (by first | exact Nat.le_of_ble_eq_true rfl | omega) (Nat.le_of_ble_eq_true rfl) (Nat.le_of_ble_eq_true rfl) (fun r78 s79 => ?_)
                    refine j_isub 153 dX12_mark_152 rfl ?_
                    exact s_iret dX12_mark_153 rfl
                refine j_ite (fun c80 => ?_) (fun c80 => ?_)
                · refine j_tabIn (v := 3) 154 dX12_mark_66 c80 (by decide) (by decide) rfl (by decide) ?_
                  refine j_iload 156 dX12_mark_154 rfl rfl ?_
                  refine j_bipush (v := (-9)) 158 dX12_mark_156 rfl (by decide) ?_
                  refine j_icmp_ne 166 161 dX12_mark_158 (by decide) rfl (fun c81 => ?_) (fun c81 => ?_)
                  · refine j_bipush (v := (-9)) 163 dX12_mark_161 rfl (by decide) ?_
                    refine j_goto 177 dX12_mark_163 (by decide) ?_
                    exact s_iret dX12_mark_177 rfl
                  · refine j_aload_n 167 dX12_mark_166 rfl rfl ?_
                    refine j_iload 169 dX12_mark_167 rfl rfl ?_
                    refine s_callVi (M2 := mX12_setOn) [vI v67] 172 oa68 cc12 mkX12_setOn w_1511 dX12_mark_169 rfl rfl (tX12_setOn Θ l _  _) (by first | exact Nat.le_of_ble_eq_true rfl | omega) (Nat.le_of_ble_eq_true rfl) (Nat.le_of_ble_eq_true rfl) (fun r82 s83 => ?_)
                    refine s_callSi (M2 := mX12_bits) [vI r82] 175 mkX12_bits (Or.inl w_1545) dX12_mark_172 rfl rfl (tX12_bits Θ l _  _) (by first | exact Nat.le_of_ble_eq_true rfl | omega) (Nat.le_of_ble_eq_true rfl) (Nat.le_of_ble_eq_true rfl) (fun r84 s85 => ?_)
                    refine j_iconst (v := 1) 176 dX12_mark_175 rfl (by decide) ?_
                    refine j_isub 177 dX12_mark_176 rfl ?_
                    exact s_iret dX12_mark_177 rfl
                refine j_ite (fun c86 => ?_) (fun c86 => ?_)
                · refine j_tabIn (v := 4) 178 dX12_mark_66 c86 (by decide) (by decide) rfl (by decide) ?_
                  refine j_iload 180 dX12_mark_178 rfl rfl ?_
                  refine j_bipush (v := (-9)) 182 dX12_mark_180 rfl (by decide) ?_
                  refine j_icmp_ne 189 185 dX12_mark_182 (by decide) rfl (fun c87 => ?_) (fun c87 => ?_)
                  · refine j_iconst (v := 0) 186 dX12_mark_185 rfl (by decide) ?_
                    refine j_goto 197 dX12_mark_186 (by decide) ?_
                    exact s_iret dX12_mark_197 rfl
                  · refine j_aload_n 190 dX12_mark_189 rfl rfl ?_
                    refine j_iload_n 191 dX12_mark_190 rfl rfl ?_
                    refine j_iload 193 dX12_mark_191 rfl rfl ?_
                    refine j_iconst (v := 1) 194 dX12_mark_193 rfl (by decide) ?_
                    refine s_callVi (M2 := mX12_outOf) [vI a1, vI v67, vI 1] 197 oa68 cc12 mkX12_outOf w_1535 dX12_mark_194 rfl rfl (tX12_outOf Θ l _ _ _  _) (by first | exact Nat.le_of_ble_eq_true rfl | omega) (Nat.le_of_ble_eq_true rfl) (Nat.le_of_ble_eq_true rfl) (fun r88 s89 => ?_)
                    exact s_iret dX12_mark_197 rfl
                refine j_tabOut 198 dX12_mark_66 (by have z0 := lv_neT c68 (a := 1) (by decide); have z1 := lv_neT c74 (a := 2) (by decide); have z2 := lv_neT c80 (a := 3) (by decide); have z3 := lv_neT c86 (a := 4) (by decide); omega) (by decide) ?_
                refine j_aload_n 199 dX12_mark_198 rfl rfl ?_
                refine j_iload_n 200 dX12_mark_199 rfl rfl ?_
                refine s_callVi (M2 := mX12_kinSeated) [vI a1] 203 oa68 cc12 mkX12_kinSeated w_1548 dX12_mark_200 rfl rfl (tX12_kinSeated Θ l _  _) (by first | exact Nat.le_of_ble_eq_true rfl | omega) (Nat.le_of_ble_eq_true rfl) (Nat.le_of_ble_eq_true rfl) (fun r90 s91 => ?_)
                exact s_iret dX12_mark_203 rfl
              · refine j_aload_n 52 dX12_mark_51 rfl rfl ?_
                refine j_iconst (v := 3) 53 dX12_mark_52 rfl (by decide) ?_
                refine s_callVi (M2 := mX12_meets) [vI 3] 56 oa68 cc12 mkX12_meets w_1402 dX12_mark_53 rfl rfl (tX12_meets Θ l _  _) (by first | exact Nat.le_of_ble_eq_true rfl | omega) (Nat.le_of_ble_eq_true rfl) (Nat.le_of_ble_eq_true rfl) (fun r92 s93 => ?_)
                exact s_iret dX12_mark_56 rfl
            · refine j_aload_n 52 dX12_mark_51 rfl rfl ?_
              refine j_iconst (v := 3) 53 dX12_mark_52 rfl (by decide) ?_
              refine s_callVi (M2 := mX12_meets) [vI 3] 56 oa68 cc12 mkX12_meets w_1402 dX12_mark_53 rfl rfl (tX12_meets Θ l _  _) (by first | exact Nat.le_of_ble_eq_true rfl | omega) (Nat.le_of_ble_eq_true rfl) (Nat.le_of_ble_eq_true rfl) (fun r94 s95 => ?_)
              exact s_iret dX12_mark_56 rfl
        · refine j_iload_n 42 dX12_mark_41 rfl rfl ?_
          refine j_iconst (v := 2) 43 dX12_mark_42 rfl (by decide) ?_
          refine j_icmp_ne 51 46 dX12_mark_43 (by decide) rfl (fun c96 => ?_) (fun c96 => ?_)
          · refine j_iload_n 47 dX12_mark_46 rfl rfl ?_
            refine j_iconst (v := 5) 48 dX12_mark_47 rfl (by decide) ?_
            refine j_icmp_eq 57 51 dX12_mark_48 (by decide) rfl (fun c97 => ?_) (fun c97 => ?_)
            · refine j_aload_n 58 dX12_mark_57 rfl rfl ?_
              refine s_getR (x := 79) 61 fa68_16 w_1222 dX12_mark_58 rfl (by decide +kernel) ?_
              refine j_iload_n 62 dX12_mark_61 rfl rfl ?_
              refine s_iaload 63 aa79 dX12_mark_62 rfl (fun b98 => ?_)
              refine s_nmI (fun v99 => ?_)
              refine j_istore (i := 4) (ls' := [some (vR 68), some (vI a1), some (vI a2), some (vI v8), some (vI v99)]) 65 dX12_mark_63 rfl (by decide) rfl rfl ?_
              refine j_iload_n 66 dX12_mark_65 rfl rfl ?_
              refine j_ite (fun c100 => ?_) (fun c100 => ?_)
              · refine j_tabIn (v := 1) 96 dX12_mark_66 c100 (by decide) (by decide) rfl (by decide) ?_
                refine j_iload 98 dX12_mark_96 rfl rfl ?_
                refine j_bipush (v := (-9)) 100 dX12_mark_98 rfl (by decide) ?_
                refine j_icmp_ne 107 103 dX12_mark_100 (by decide) rfl (fun c101 => ?_) (fun c101 => ?_)
                · refine j_iconst (v := 0) 104 dX12_mark_103 rfl (by decide) ?_
                  refine j_goto 124 dX12_mark_104 (by decide) ?_
                  exact s_iret dX12_mark_124 rfl
                · refine j_aload_n 108 dX12_mark_107 rfl rfl ?_
                  refine j_iload_n 109 dX12_mark_108 rfl rfl ?_
                  refine j_iload 111 dX12_mark_109 rfl rfl ?_
                  refine j_iconst (v := 1) 112 dX12_mark_111 rfl (by decide) ?_
                  refine s_callVi (M2 := mX12_momentOf) [vI a1, vI v99, vI 1] 115 oa68 cc12 mkX12_momentOf w_1531 dX12_mark_112 rfl rfl (tX12_momentOf Θ l _ _ _  _) (by first | exact Nat.le_of_ble_eq_true rfl | omega) (Nat.le_of_ble_eq_true rfl) (Nat.le_of_ble_eq_true rfl) (fun r102 s103 => ?_)
                  refine j_aload_n 116 dX12_mark_115 rfl rfl ?_
                  refine j_iload_n 117 dX12_mark_116 rfl rfl ?_
                  refine j_iload 119 dX12_mark_117 rfl rfl ?_
                  refine j_iconst (v := 0) 120 dX12_mark_119 rfl (by decide) ?_
                  refine s_callVi (M2 := mX12_momentOf) [vI a1, vI v99, vI 0] 123 oa68 cc12 mkX12_momentOf w_1531 dX12_mark_120 rfl rfl (tX12_momentOf Θ l _ _ _  _) (by first | exact Nat.le_of_ble_eq_true rfl | omega) (Nat.le_of_ble_eq_true rfl) (Nat.le_of_ble_eq_true rfl) (fun r104 s105 => ?_)
                  refine j_isub 124 dX12_mark_123 rfl ?_
                  exact s_iret dX12_mark_124 rfl
              refine j_ite (fun c106 => ?_) (fun c106 => ?_)
              · refine j_tabIn (v := 2) 125 dX12_mark_66 c106 (by decide) (by decide) rfl (by decide) ?_
                refine j_iload 127 dX12_mark_125 rfl rfl ?_
                refine j_bipush (v := (-9)) 129 dX12_mark_127 rfl (by decide) ?_
                refine j_icmp_ne 136 132 dX12_mark_129 (by decide) rfl (fun c107 => ?_) (fun c107 => ?_)
                · refine j_iconst (v := 0) 133 dX12_mark_132 rfl (by decide) ?_
                  refine j_goto 153 dX12_mark_133 (by decide) ?_
                  exact s_iret dX12_mark_153 rfl
                · refine j_aload_n 137 dX12_mark_136 rfl rfl ?_
                  refine j_iload_n 138 dX12_mark_137 rfl rfl ?_
                  refine j_iload 140 dX12_mark_138 rfl rfl ?_
                  refine j_iconst (v := 2) 141 dX12_mark_140 rfl (by decide) ?_
                  refine s_callVi (M2 := mX12_momentOf) [vI a1, vI v99, vI 2] 144 oa68 cc12 mkX12_momentOf w_1531 dX12_mark_141 rfl rfl (tX12_momentOf Θ l _ _ _  _) (by first | exact Nat.le_of_ble_eq_true rfl | omega) (Nat.le_of_ble_eq_true rfl) (Nat.le_of_ble_eq_true rfl) (fun r108 s109 => ?_)
                  refine j_aload_n 145 dX12_mark_144 rfl rfl ?_
                  refine j_iload_n 146 dX12_mark_145 rfl rfl ?_
                  refine j_iload 148 dX12_mark_146 rfl rfl ?_
                  refine j_iconst (v := 0) 149 dX12_mark_148 rfl (by decide) ?_
                  refine s_callVi (M2 := mX12_momentOf) [vI a1, vI v99, vI 0] 152 oa68 cc12 mkX12_momentOf w_1531 dX12_mark_149 rfl rfl (tX12_momentOf Θ l _ _ _  _) (by first | exact Nat.le_of_ble_eq_true rfl | omega) (Nat.le_of_ble_eq_true rfl) (Nat.le_of_ble_eq_true rfl) (fun r110 s111 => ?_)
                  refine j_isub 153 dX12_mark_152 rfl ?_
                  exact s_iret dX12_mark_153 rfl
              refine j_ite (fun c112 => ?_) (fun c112 => ?_)
              · refine j_tabIn (v := 3) 154 dX12_mark_66 c112 (by decide) (by decide) rfl (by decide) ?_
                refine j_iload 156 dX12_mark_154 rfl rfl ?_
                refine j_bipush (v := (-9)) 158 dX12_mark_156 rfl (by decide) ?_
                refine j_icmp_ne 166 161 dX12_mark_158 (by decide) rfl (fun c113 => ?_) (fun c113 => ?_)
                · refine j_bipush (v := (-9)) 163 dX12_mark_161 rfl (by decide) ?_
                  refine j_goto 177 dX12_mark_163 (by decide) ?_
                  exact s_iret dX12_mark_177 rfl
                · refine j_aload_n 167 dX12_mark_166 rfl rfl ?_
                  refine j_iload 169 dX12_mark_167 rfl rfl ?_
                  refine s_callVi (M2 := mX12_setOn) [vI v99] 172 oa68 cc12 mkX12_setOn w_1511 dX12_mark_169 rfl rfl (tX12_setOn Θ l _  _) (by first | exact Nat.le_of_ble_eq_true rfl | omega) (Nat.le_of_ble_eq_true rfl) (Nat.le_of_ble_eq_true rfl) (fun r114 s115 => ?_)
                  refine s_callSi (M2 := mX12_bits) [vI r114] 175 mkX12_bits (Or.inl w_1545) dX12_mark_172 rfl rfl (tX12_bits Θ l _  _) (by first | exact Nat.le_of_ble_eq_true rfl | omega) (Nat.le_of_ble_eq_true rfl) (Nat.le_of_ble_eq_true rfl) (fun r116 s117 => ?_)
                  refine j_iconst (v := 1) 176 dX12_mark_175 rfl (by decide) ?_
                  refine j_isub 177 dX12_mark_176 rfl ?_
                  exact s_iret dX12_mark_177 rfl
              refine j_ite (fun c118 => ?_) (fun c118 => ?_)
              · refine j_tabIn (v := 4) 178 dX12_mark_66 c118 (by decide) (by decide) rfl (by decide) ?_
                refine j_iload 180 dX12_mark_178 rfl rfl ?_
                refine j_bipush (v := (-9)) 182 dX12_mark_180 rfl (by decide) ?_
                refine j_icmp_ne 189 185 dX12_mark_182 (by decide) rfl (fun c119 => ?_) (fun c119 => ?_)
                · refine j_iconst (v := 0) 186 dX12_mark_185 rfl (by decide) ?_
                  refine j_goto 197 dX12_mark_186 (by decide) ?_
                  exact s_iret dX12_mark_197 rfl
                · refine j_aload_n 190 dX12_mark_189 rfl rfl ?_
                  refine j_iload_n 191 dX12_mark_190 rfl rfl ?_
                  refine j_iload 193 dX12_mark_191 rfl rfl ?_
                  refine j_iconst (v := 1) 194 dX12_mark_193 rfl (by decide) ?_
                  refine s_callVi (M2 := mX12_outOf) [vI a1, vI v99, vI 1] 197 oa68 cc12 mkX12_outOf w_1535 dX12_mark_194 rfl rfl (tX12_outOf Θ l _ _ _  _) (by first | exact Nat.le_of_ble_eq_true rfl | omega) (Nat.le_of_ble_eq_true rfl) (Nat.le_of_ble_eq_true rfl) (fun r120 s121 => ?_)
                  exact s_iret dX12_mark_197 rfl
              refine j_tabOut 198 dX12_mark_66 (by have z0 := lv_neT c100 (a := 1) (by decide); have z1 := lv_neT c106 (a := 2) (by decide); have z2 := lv_neT c112 (a := 3) (by decide); have z3 := lv_neT c118 (a := 4) (by decide); omega) (by decide) ?_
              refine j_aload_n 199 dX12_mark_198 rfl rfl ?_
              refine j_iload_n 200 dX12_mark_199 rfl rfl ?_
              refine s_callVi (M2 := mX12_kinSeated) [vI a1] 203 oa68 cc12 mkX12_kinSeated w_1548 dX12_mark_200 rfl rfl (tX12_kinSeated Θ l _  _) (by first | exact Nat.le_of_ble_eq_true rfl | omega) (Nat.le_of_ble_eq_true rfl) (Nat.le_of_ble_eq_true rfl) (fun r122 s123 => ?_)
              exact s_iret dX12_mark_203 rfl
            · refine j_aload_n 52 dX12_mark_51 rfl rfl ?_
              refine j_iconst (v := 3) 53 dX12_mark_52 rfl (by decide) ?_
              refine s_callVi (M2 := mX12_meets) [vI 3] 56 oa68 cc12 mkX12_meets w_1402 dX12_mark_53 rfl rfl (tX12_meets Θ l _  _) (by first | exact Nat.le_of_ble_eq_true rfl | omega) (Nat.le_of_ble_eq_true rfl) (Nat.le_of_ble_eq_true rfl) (fun r124 s125 => ?_)
              exact s_iret dX12_mark_56 rfl
          · refine j_aload_n 52 dX12_mark_51 rfl rfl ?_
            refine j_iconst (v := 3) 53 dX12_mark_52 rfl (by decide) ?_
            refine s_callVi (M2 := mX12_meets) [vI 3] 56 oa68 cc12 mkX12_meets w_1402 dX12_mark_53 rfl rfl (tX12_meets Θ l _  _) (by first | exact Nat.le_of_ble_eq_true rfl | omega) (Nat.le_of_ble_eq_true rfl) (Nat.le_of_ble_eq_true rfl) (fun r126 s127 => ?_)
            exact s_iret dX12_mark_56 rfl
-- X12_limit
def fX12_limit  (a1 : Int32) (s : Mem) : Option (Int32 × Mem) :=
bnd (fX12_in a1 0 999 s) (fun r1 s2 =>
if r1 = 0 then
  some ((-1), s2)
else
  nm (s2.1 68 17) (fun v4 =>
  some (v4, wI s2 68 17 a1)))
theorem tX12_limit (Θ : Th) (l : Launch)  (a1 : Int32)  (s : Mem) : Cs Θ l mX12_limit 2 gI [vR 68, vI a1] s (fX12_limit a1 s) := by
  refine ct_of (by decide) [some (vR 68), some (vI a1), none] rfl (Nat.le_of_ble_eq_true rfl) ?_
  unfold fX12_limit
  refine j_iload_n 1 dX12_limit_0 rfl rfl ?_
  refine j_iconst (v := 0) 2 dX12_limit_1 rfl (by decide) ?_
  refine j_sipush (v := 999) 5 dX12_limit_2 rfl (by decide) ?_
  refine s_callSi (M2 := mX12_in) [vI a1, vI 0, vI 999] 8 mkX12_in (Or.inl w_1380) dX12_limit_5 rfl rfl (tX12_in Θ l _ _ _  _) (by first | exact Nat.le_of_ble_eq_true rfl | omega) (Nat.le_of_ble_eq_true rfl) (Nat.le_of_ble_eq_true rfl) (fun r1 s2 => ?_)
  refine j_if_ne 13 11 dX12_limit_8 (by decide) rfl (fun c3 => ?_) (fun c3 => ?_)
  · refine j_iconst (v := (-1)) 12 dX12_limit_11 rfl (by decide) ?_
    exact s_iret dX12_limit_12 rfl
  · refine j_aload_n 14 dX12_limit_13 rfl rfl ?_
    refine s_getI 17 fa68_17 w_1223 dX12_limit_14 rfl ?_
    refine s_nmI (fun v4 => ?_)
    refine j_istore_n (i := 2) (ls' := [some (vR 68), some (vI a1), some (vI v4)]) 18 dX12_limit_17 rfl rfl (by decide) rfl rfl ?_
    refine j_aload_n 19 dX12_limit_18 rfl rfl ?_
    refine j_iload_n 20 dX12_limit_19 rfl rfl ?_
    refine s_putI 23 fa68_17 w_1223 dX12_limit_20 rfl ?_
    refine j_iload_n 24 dX12_limit_23 rfl rfl ?_
    exact s_iret dX12_limit_24 rfl
-- X12_rain
def fX12_rain  (a1 : Int32) (s : Mem) : Option (Int32 × Mem) :=
bnd (fX12_in a1 (-200) 200 s) (fun r1 s2 =>
if r1 = 0 then
  some ((-1), s2)
else
  nm (s2.1 68 18) (fun v4 =>
  bnd (fX12_tells v4 1 (wI s2 68 18 a1)) (fun r5 s6 =>
  some (r5, s6))))
theorem tX12_rain (Θ : Th) (l : Launch)  (a1 : Int32)  (s : Mem) : Cs Θ l mX12_rain 2 gI [vR 68, vI a1] s (fX12_rain a1 s) := by
  refine ct_of (by decide) [some (vR 68), some (vI a1), none] rfl (Nat.le_of_ble_eq_true rfl) ?_
  unfold fX12_rain
  refine j_iload_n 1 dX12_rain_0 rfl rfl ?_
  refine j_sipush (v := (-200)) 4 dX12_rain_1 rfl (by decide) ?_
  refine j_sipush (v := 200) 7 dX12_rain_4 rfl (by decide) ?_
  refine s_callSi (M2 := mX12_in) [vI a1, vI (-200), vI 200] 10 mkX12_in (Or.inl w_1380) dX12_rain_7 rfl rfl (tX12_in Θ l _ _ _  _) (by first | exact Nat.le_of_ble_eq_true rfl | omega) (Nat.le_of_ble_eq_true rfl) (Nat.le_of_ble_eq_true rfl) (fun r1 s2 => ?_)
  refine j_if_ne 15 13 dX12_rain_10 (by decide) rfl (fun c3 => ?_) (fun c3 => ?_)
  · refine j_iconst (v := (-1)) 14 dX12_rain_13 rfl (by decide) ?_
    exact s_iret dX12_rain_14 rfl
  · refine j_aload_n 16 dX12_rain_15 rfl rfl ?_
    refine s_getI 19 fa68_18 w_1224 dX12_rain_16 rfl ?_
    refine s_nmI (fun v4 => ?_)
    refine j_istore_n (i := 2) (ls' := [some (vR 68), some (vI a1), some (vI v4)]) 20 dX12_rain_19 rfl rfl (by decide) rfl rfl ?_
    refine j_aload_n 21 dX12_rain_20 rfl rfl ?_
    refine j_iload_n 22 dX12_rain_21 rfl rfl ?_
    refine s_putI 25 fa68_18 w_1224 dX12_rain_22 rfl ?_
    refine j_aload_n 26 dX12_rain_25 rfl rfl ?_
    refine j_iload_n 27 dX12_rain_26 rfl rfl ?_
    refine j_iconst (v := 1) 28 dX12_rain_27 rfl (by decide) ?_
    refine s_callVi (M2 := mX12_tells) [vI v4, vI 1] 31 oa68 cc12 mkX12_tells w_1414 dX12_rain_28 rfl rfl (tX12_tells Θ l _ _  _) (by first | exact Nat.le_of_ble_eq_true rfl | omega) (Nat.le_of_ble_eq_true rfl) (Nat.le_of_ble_eq_true rfl) (fun r5 s6 => ?_)
    exact s_iret dX12_rain_31 rfl
-- X12_quarrel
def fX12_quarrel  (a1 : Int32) (a2 : Int32) (s : Mem) : Option (Int32 × Mem) :=
bnd (fX12_isGuest a1 s) (fun r1 s2 =>
if r1 = 0 then
  some ((-1), s2)
else
  bnd (fX12_isGuest a2 s2) (fun r4 s5 =>
  if r4 = 0 then
    some ((-1), s5)
  else
    if a1 = a2 then
      some ((-1), s5)
    else
      if (s5.1 68 29) = 8 then
        some ((-2), s5)
      else
        if inb (s5.1 68 29) 8 = true then
        if inb ((wI s5 85 (ix (s5.1 68 29)) a1).1 68 29) 8 = true then
        some (((wI (wI (wI s5 85 (ix (s5.1 68 29)) a1) 86 (ix ((wI s5 85 (ix (s5.1 68 29)) a1).1 68 29)) a2) 68 29 (((wI (wI s5 85 (ix (s5.1 68 29)) a1) 86 (ix ((wI s5 85 (ix (s5.1 68 29)) a1).1 68 29)) a2).1 68 29) + 1)).1 68 29) - 1, wI (wI (wI s5 85 (ix (s5.1 68 29)) a1) 86 (ix ((wI s5 85 (ix (s5.1 68 29)) a1).1 68 29)) a2) 68 29 (((wI (wI s5 85 (ix (s5.1 68 29)) a1) 86 (ix ((wI s5 85 (ix (s5.1 68 29)) a1).1 68 29)) a2).1 68 29) + 1))
        else none
        else none))
theorem tX12_quarrel (Θ : Th) (l : Launch)  (a1 : Int32) (a2 : Int32)  (s : Mem) : Cs Θ l mX12_quarrel 3 gI [vR 68, vI a1, vI a2] s (fX12_quarrel a1 a2 s) := by
  refine ct_of (by decide) [some (vR 68), some (vI a1), some (vI a2)] rfl (Nat.le_of_ble_eq_true rfl) ?_
  unfold fX12_quarrel
  refine j_aload_n 1 dX12_quarrel_0 rfl rfl ?_
  refine j_iload_n 2 dX12_quarrel_1 rfl rfl ?_
  refine s_callVi (M2 := mX12_isGuest) [vI a1] 5 oa68 cc12 mkX12_isGuest w_1519 dX12_quarrel_2 rfl rfl (tX12_isGuest Θ l _  _) (by first | exact Nat.le_of_ble_eq_true rfl | omega) (Nat.le_of_ble_eq_true rfl) (Nat.le_of_ble_eq_true rfl) (fun r1 s2 => ?_)
  refine j_if_eq 21 8 dX12_quarrel_5 (by decide) rfl (fun c3 => ?_) (fun c3 => ?_)
  · refine j_iconst (v := (-1)) 22 dX12_quarrel_21 rfl (by decide) ?_
    exact s_iret dX12_quarrel_22 rfl
  · refine j_aload_n 9 dX12_quarrel_8 rfl rfl ?_
    refine j_iload_n 10 dX12_quarrel_9 rfl rfl ?_
    refine s_callVi (M2 := mX12_isGuest) [vI a2] 13 oa68 cc12 mkX12_isGuest w_1519 dX12_quarrel_10 rfl rfl (tX12_isGuest Θ l _  _) (by first | exact Nat.le_of_ble_eq_true rfl | omega) (Nat.le_of_ble_eq_true rfl) (Nat.le_of_ble_eq_true rfl) (fun r4 s5 => ?_)
    refine j_if_eq 21 16 dX12_quarrel_13 (by decide) rfl (fun c6 => ?_) (fun c6 => ?_)
    · refine j_iconst (v := (-1)) 22 dX12_quarrel_21 rfl (by decide) ?_
      exact s_iret dX12_quarrel_22 rfl
    · refine j_iload_n 17 dX12_quarrel_16 rfl rfl ?_
      refine j_iload_n 18 dX12_quarrel_17 rfl rfl ?_
      refine j_icmp_ne 23 21 dX12_quarrel_18 (by decide) rfl (fun c7 => ?_) (fun c7 => ?_)
      · refine j_iconst (v := (-1)) 22 dX12_quarrel_21 rfl (by decide) ?_
        exact s_iret dX12_quarrel_22 rfl
      · refine j_aload_n 24 dX12_quarrel_23 rfl rfl ?_
        refine s_getI 27 fa68_29 w_1235 dX12_quarrel_24 rfl ?_
        refine j_bipush (v := 8) 29 dX12_quarrel_27 rfl (by decide) ?_
        refine j_icmp_ne 35 32 dX12_quarrel_29 (by decide) rfl (fun c8 => ?_) (fun c8 => ?_)
        · refine j_bipush (v := (-2)) 34 dX12_quarrel_32 rfl (by decide) ?_
          exact s_iret dX12_quarrel_34 rfl
        · refine j_aload_n 36 dX12_quarrel_35 rfl rfl ?_
          refine s_getR (x := 85) 39 fa68_30 w_1236 dX12_quarrel_36 rfl (by decide +kernel) ?_
          refine j_aload_n 40 dX12_quarrel_39 rfl rfl ?_
          refine s_getI 43 fa68_29 w_1235 dX12_quarrel_40 rfl ?_
          refine j_iload_n 44 dX12_quarrel_43 rfl rfl ?_
          refine s_iastore 45 aa85 dX12_quarrel_44 rfl (fun b9 => ?_)
          refine j_aload_n 46 dX12_quarrel_45 rfl rfl ?_
          refine s_getR (x := 86) 49 fa68_31 w_1237 dX12_quarrel_46 rfl (by decide +kernel) ?_
          refine j_aload_n 50 dX12_quarrel_49 rfl rfl ?_
          refine s_getI 53 fa68_29 w_1235 dX12_quarrel_50 rfl ?_
          refine j_iload_n 54 dX12_quarrel_53 rfl rfl ?_
          refine s_iastore 55 aa86 dX12_quarrel_54 rfl (fun b10 => ?_)
          refine j_aload_n 56 dX12_quarrel_55 rfl rfl ?_
          refine j_dup 57 dX12_quarrel_56 rfl rfl ?_
          refine s_getI 60 fa68_29 w_1235 dX12_quarrel_57 rfl ?_
          refine j_iconst (v := 1) 61 dX12_quarrel_60 rfl (by decide) ?_
          refine j_iadd 62 dX12_quarrel_61 rfl ?_
          refine s_putI 65 fa68_29 w_1235 dX12_quarrel_62 rfl ?_
          refine j_aload_n 66 dX12_quarrel_65 rfl rfl ?_
          refine s_getI 69 fa68_29 w_1235 dX12_quarrel_66 rfl ?_
          refine j_iconst (v := 1) 70 dX12_quarrel_69 rfl (by decide) ?_
          refine j_isub 71 dX12_quarrel_70 rfl ?_
          exact s_iret dX12_quarrel_71 rfl
-- X12_peace
def fX12_peace  (a1 : Int32) (s : Mem) : Option (Int32 × Mem) :=
bnd (fX12_in a1 0 (s.1 68 29) s) (fun r1 s2 =>
if r1 = 0 then
  some ((-1), s2)
else
  nm ((s2.1 68 29) - a1) (fun v4 =>
  some (v4, wI s2 68 29 a1)))
theorem tX12_peace (Θ : Th) (l : Launch)  (a1 : Int32)  (s : Mem) : Cs Θ l mX12_peace 2 gI [vR 68, vI a1] s (fX12_peace a1 s) := by
  refine ct_of (by decide) [some (vR 68), some (vI a1), none] rfl (Nat.le_of_ble_eq_true rfl) ?_
  unfold fX12_peace
  refine j_iload_n 1 dX12_peace_0 rfl rfl ?_
  refine j_iconst (v := 0) 2 dX12_peace_1 rfl (by decide) ?_
  refine j_aload_n 3 dX12_peace_2 rfl rfl ?_
  refine s_getI 6 fa68_29 w_1235 dX12_peace_3 rfl ?_
  refine s_callSi (M2 := mX12_in) [vI a1, vI 0, vI (s.1 68 29)] 9 mkX12_in (Or.inl w_1380) dX12_peace_6 rfl rfl (tX12_in Θ l _ _ _  _) (by first | exact Nat.le_of_ble_eq_true rfl | omega) (Nat.le_of_ble_eq_true rfl) (Nat.le_of_ble_eq_true rfl) (fun r1 s2 => ?_)
  refine j_if_ne 14 12 dX12_peace_9 (by decide) rfl (fun c3 => ?_) (fun c3 => ?_)
  · refine j_iconst (v := (-1)) 13 dX12_peace_12 rfl (by decide) ?_
    exact s_iret dX12_peace_13 rfl
  · refine j_aload_n 15 dX12_peace_14 rfl rfl ?_
    refine s_getI 18 fa68_29 w_1235 dX12_peace_15 rfl ?_
    refine j_iload_n 19 dX12_peace_18 rfl rfl ?_
    refine j_isub 20 dX12_peace_19 rfl ?_
    refine s_nmI (fun v4 => ?_)
    refine j_istore_n (i := 2) (ls' := [some (vR 68), some (vI a1), some (vI v4)]) 21 dX12_peace_20 rfl rfl (by decide) rfl rfl ?_
    refine j_aload_n 22 dX12_peace_21 rfl rfl ?_
    refine j_iload_n 23 dX12_peace_22 rfl rfl ?_
    refine s_putI 26 fa68_29 w_1235 dX12_peace_23 rfl ?_
    refine j_iload_n 27 dX12_peace_26 rfl rfl ?_
    exact s_iret dX12_peace_27 rfl
-- X12_isBroken
def fX12_isBroken  (a1 : Int32) (s : Mem) : Option (Int32 × Mem) :=
if inb a1 8 = true then
if inb (s.1 85 (ix a1)) 8 = true then
nm (s.1 79 (ix (s.1 85 (ix a1)))) (fun v3 =>
if inb a1 8 = true then
if inb (s.1 86 (ix a1)) 8 = true then
nm (s.1 79 (ix (s.1 86 (ix a1)))) (fun v6 =>
if v3 = (-9) then
  some (0, s)
else
  if v6 = (-9) then
    some (0, s)
  else
    bnd (fX12_sizeOf (v3 - v6) s) (fun r9 s10 =>
    if 1 < r9 then
      some (0, s10)
    else
      some (1, s10)))
else none
else none)
else none
else none
theorem tX12_isBroken (Θ : Th) (l : Launch)  (a1 : Int32)  (s : Mem) : Cs Θ l mX12_isBroken 2 gI [vR 68, vI a1] s (fX12_isBroken a1 s) := by
  refine ct_of (by decide) [some (vR 68), some (vI a1), none, none] rfl (Nat.le_of_ble_eq_true rfl) ?_
  unfold fX12_isBroken
  refine j_aload_n 1 dX12_isBroken_0 rfl rfl ?_
  refine s_getR (x := 79) 4 fa68_16 w_1222 dX12_isBroken_1 rfl (by decide +kernel) ?_
  refine j_aload_n 5 dX12_isBroken_4 rfl rfl ?_
  refine s_getR (x := 85) 8 fa68_30 w_1236 dX12_isBroken_5 rfl (by decide +kernel) ?_
  refine j_iload_n 9 dX12_isBroken_8 rfl rfl ?_
  refine s_iaload 10 aa85 dX12_isBroken_9 rfl (fun b1 => ?_)
  refine s_iaload 11 aa79 dX12_isBroken_10 rfl (fun b2 => ?_)
  refine s_nmI (fun v3 => ?_)
  refine j_istore_n (i := 2) (ls' := [some (vR 68), some (vI a1), some (vI v3), none]) 12 dX12_isBroken_11 rfl rfl (by decide) rfl rfl ?_
  refine j_aload_n 13 dX12_isBroken_12 rfl rfl ?_
  refine s_getR (x := 79) 16 fa68_16 w_1222 dX12_isBroken_13 rfl (by decide +kernel) ?_
  refine j_aload_n 17 dX12_isBroken_16 rfl rfl ?_
  refine s_getR (x := 86) 20 fa68_31 w_1237 dX12_isBroken_17 rfl (by decide +kernel) ?_
  refine j_iload_n 21 dX12_isBroken_20 rfl rfl ?_
  refine s_iaload 22 aa86 dX12_isBroken_21 rfl (fun b4 => ?_)
  refine s_iaload 23 aa79 dX12_isBroken_22 rfl (fun b5 => ?_)
  refine s_nmI (fun v6 => ?_)
  refine j_istore_n (i := 3) (ls' := [some (vR 68), some (vI a1), some (vI v3), some (vI v6)]) 24 dX12_isBroken_23 rfl rfl (by decide) rfl rfl ?_
  refine j_iload_n 25 dX12_isBroken_24 rfl rfl ?_
  refine j_bipush (v := (-9)) 27 dX12_isBroken_25 rfl (by decide) ?_
  refine j_icmp_eq 50 30 dX12_isBroken_27 (by decide) rfl (fun c7 => ?_) (fun c7 => ?_)
  · refine j_iconst (v := 0) 51 dX12_isBroken_50 rfl (by decide) ?_
    exact s_zret dX12_isBroken_51 rfl (by decide)
  · refine j_iload_n 31 dX12_isBroken_30 rfl rfl ?_
    refine j_bipush (v := (-9)) 33 dX12_isBroken_31 rfl (by decide) ?_
    refine j_icmp_eq 50 36 dX12_isBroken_33 (by decide) rfl (fun c8 => ?_) (fun c8 => ?_)
    · refine j_iconst (v := 0) 51 dX12_isBroken_50 rfl (by decide) ?_
      exact s_zret dX12_isBroken_51 rfl (by decide)
    · refine j_iload_n 37 dX12_isBroken_36 rfl rfl ?_
      refine j_iload_n 38 dX12_isBroken_37 rfl rfl ?_
      refine j_isub 39 dX12_isBroken_38 rfl ?_
      refine s_callSi (M2 := mX12_sizeOf) [vI (v3 - v6)] 42 mkX12_sizeOf (Or.inl w_1539) dX12_isBroken_39 rfl rfl (tX12_sizeOf Θ l _  _) (by first | exact Nat.le_of_ble_eq_true rfl | omega) (Nat.le_of_ble_eq_true rfl) (Nat.le_of_ble_eq_true rfl) (fun r9 s10 => ?_)
      refine j_iconst (v := 1) 43 dX12_isBroken_42 rfl (by decide) ?_
      refine j_icmp_gt 50 46 dX12_isBroken_43 (by decide) rfl (fun c11 => ?_) (fun c11 => ?_)
      · refine j_iconst (v := 0) 51 dX12_isBroken_50 rfl (by decide) ?_
        exact s_zret dX12_isBroken_51 rfl (by decide)
      · refine j_iconst (v := 1) 47 dX12_isBroken_46 rfl (by decide) ?_
        refine j_goto 51 dX12_isBroken_47 (by decide) ?_
        exact s_zret dX12_isBroken_51 rfl (by decide)
-- X12_isAtPeace
def fX12_isAtPeace_L4  (κ : Int32 → Mem → Option (Int32 × Mem)) (y1 : Int32) : Nat → Int32 → Int32 → Mem → Option (Int32 × Mem)
  | 0, _, _, _ => none
  | k + 1, x2, x3, s =>
    if x3 < (s.1 68 29) then
      if x2 = 0 then
        fX12_isAtPeace_L4 κ y1 k 0 (x3 + 1) s
      else
        if inb x3 8 = true then
        if (s.1 85 (ix x3)) = y1 then
          bnd (fX12_isBroken x3 s) (fun r5 s6 =>
          if r5 = 0 then
            fX12_isAtPeace_L4 κ y1 k 1 (x3 + 1) s6
          else
            fX12_isAtPeace_L4 κ y1 k 0 (x3 + 1) s6)
        else
          if inb x3 8 = true then
          if (s.1 86 (ix x3)) = y1 then
            bnd (fX12_isBroken x3 s) (fun r10 s11 =>
            if r10 = 0 then
              fX12_isAtPeace_L4 κ y1 k 1 (x3 + 1) s11
            else
              fX12_isAtPeace_L4 κ y1 k 0 (x3 + 1) s11)
          else
            fX12_isAtPeace_L4 κ y1 k 1 (x3 + 1) s
          else none
        else none
    else
      κ x2 s
def fX12_isAtPeace  (a1 : Int32) (s : Mem) : Option (Int32 × Mem) :=
fX12_isAtPeace_L4 (fun v13 s14 =>
  if v13 = 0 ∨ v13 = 1 then some (v13, s14) else none) a1 FU 1 0 s
theorem tX12_isAtPeace_L4 (Θ : Th) (l : Launch)  (κ : Int32 → Mem → Option (Int32 × Mem)) (y1 : Int32)  (hκ : ∀ (x2 : Int32) (s : Mem), Js Θ l mX12_isAtPeace 3 gI 56 [none, none, some (vI x2), none] [] s (κ x2 s)) : ∀ (k : Nat) (x2 : Int32) (x3 : Int32) (s : Mem), Js Θ l mX12_isAtPeace 3 gI 4 [some (vR 68), some (vI y1), some (vI x2), some (vI x3)] [] s (fX12_isAtPeace_L4 κ y1 k x2 x3 s) := by
  intro k
  induction k with
  | zero => intro x2 x3 s; exact j_none
  | succ k ih =>
    intro x2 x3 s
    rw [fX12_isAtPeace_L4]
    refine j_iload_n 5 dX12_isAtPeace_4 rfl rfl ?_
    refine j_aload_n 6 dX12_isAtPeace_5 rfl rfl ?_
    refine s_getI 9 fa68_29 w_1235 dX12_isAtPeace_6 rfl ?_
    refine j_icmp_ge 56 12 dX12_isAtPeace_9 (by decide) rfl (fun c1 => ?_) (fun c1 => ?_)
    · refine j_iload_n 13 dX12_isAtPeace_12 rfl rfl ?_
      refine j_if_eq 48 16 dX12_isAtPeace_13 (by decide) rfl (fun c2 => ?_) (fun c2 => ?_)
      · refine j_iconst (v := 0) 49 dX12_isAtPeace_48 rfl (by decide) ?_
        refine j_istore_n (i := 2) (ls' := [some (vR 68), some (vI y1), some (vI 0), some (vI x3)]) 50 dX12_isAtPeace_49 rfl rfl (by decide) rfl rfl ?_
        refine j_iinc (v := x3 + 1) (ls' := [some (vR 68), some (vI y1), some (vI 0), some (vI (x3 + 1))]) 53 dX12_isAtPeace_50 rfl rfl rfl (by decide) rfl rfl ?_
        refine j_goto 4 dX12_isAtPeace_53 (by decide) ?_
        refine j_sub (ls' := [some (vR 68), some (vI y1), some (vI 0), some (vI (x3 + 1))]) (And.intro rfl (And.intro rfl (And.intro rfl (And.intro rfl trivial)))) ?_
        exact ih 0 (x3 + 1) s
      · refine j_aload_n 17 dX12_isAtPeace_16 rfl rfl ?_
        refine s_getR (x := 85) 20 fa68_30 w_1236 dX12_isAtPeace_17 rfl (by decide +kernel) ?_
        refine j_iload_n 21 dX12_isAtPeace_20 rfl rfl ?_
        refine s_iaload 22 aa85 dX12_isAtPeace_21 rfl (fun b3 => ?_)
        refine j_iload_n 23 dX12_isAtPeace_22 rfl rfl ?_
        refine j_icmp_eq 36 26 dX12_isAtPeace_23 (by decide) rfl (fun c4 => ?_) (fun c4 => ?_)
        · refine j_aload_n 37 dX12_isAtPeace_36 rfl rfl ?_
          refine j_iload_n 38 dX12_isAtPeace_37 rfl rfl ?_
          refine s_callVi (M2 := mX12_isBroken) [vI x3] 41 oa68 cc12 mkX12_isBroken w_1580 dX12_isAtPeace_38 rfl rfl (tX12_isBroken Θ l _  _) (by first | exact Nat.le_of_ble_eq_true rfl | omega) (Nat.le_of_ble_eq_true rfl) (Nat.le_of_ble_eq_true rfl) (fun r5 s6 => ?_)
          refine j_if_ne 48 44 dX12_isAtPeace_41 (by decide) rfl (fun c7 => ?_) (fun c7 => ?_)
          · refine j_iconst (v := 1) 45 dX12_isAtPeace_44 rfl (by decide) ?_
            refine j_goto 49 dX12_isAtPeace_45 (by decide) ?_
            refine j_istore_n (i := 2) (ls' := [some (vR 68), some (vI y1), some (vI 1), some (vI x3)]) 50 dX12_isAtPeace_49 rfl rfl (by decide) rfl rfl ?_
            refine j_iinc (v := x3 + 1) (ls' := [some (vR 68), some (vI y1), some (vI 1), some (vI (x3 + 1))]) 53 dX12_isAtPeace_50 rfl rfl rfl (by decide) rfl rfl ?_
            refine j_goto 4 dX12_isAtPeace_53 (by decide) ?_
            refine j_sub (ls' := [some (vR 68), some (vI y1), some (vI 1), some (vI (x3 + 1))]) (And.intro rfl (And.intro rfl (And.intro rfl (And.intro rfl trivial)))) ?_
            exact ih 1 (x3 + 1) s6
          · refine j_iconst (v := 0) 49 dX12_isAtPeace_48 rfl (by decide) ?_
            refine j_istore_n (i := 2) (ls' := [some (vR 68), some (vI y1), some (vI 0), some (vI x3)]) 50 dX12_isAtPeace_49 rfl rfl (by decide) rfl rfl ?_
            refine j_iinc (v := x3 + 1) (ls' := [some (vR 68), some (vI y1), some (vI 0), some (vI (x3 + 1))]) 53 dX12_isAtPeace_50 rfl rfl rfl (by decide) rfl rfl ?_
            refine j_goto 4 dX12_isAtPeace_53 (by decide) ?_
            refine j_sub (ls' := [some (vR 68), some (vI y1), some (vI 0), some (vI (x3 + 1))]) (And.intro rfl (And.intro rfl (And.intro rfl (And.intro rfl trivial)))) ?_
            exact ih 0 (x3 + 1) s6
        · refine j_aload_n 27 dX12_isAtPeace_26 rfl rfl ?_
          refine s_getR (x := 86) 30 fa68_31 w_1237 dX12_isAtPeace_27 rfl (by decide +kernel) ?_
          refine j_iload_n 31 dX12_isAtPeace_30 rfl rfl ?_
          refine s_iaload 32 aa86 dX12_isAtPeace_31 rfl (fun b8 => ?_)
          refine j_iload_n 33 dX12_isAtPeace_32 rfl rfl ?_
          refine j_icmp_ne 44 36 dX12_isAtPeace_33 (by decide) rfl (fun c9 => ?_) (fun c9 => ?_)
          · refine j_aload_n 37 dX12_isAtPeace_36 rfl rfl ?_
            refine j_iload_n 38 dX12_isAtPeace_37 rfl rfl ?_
            refine s_callVi (M2 := mX12_isBroken) [vI x3] 41 oa68 cc12 mkX12_isBroken w_1580 dX12_isAtPeace_38 rfl rfl (tX12_isBroken Θ l _  _) (by first | exact Nat.le_of_ble_eq_true rfl | omega) (Nat.le_of_ble_eq_true rfl) (Nat.le_of_ble_eq_true rfl) (fun r10 s11 => ?_)
            refine j_if_ne 48 44 dX12_isAtPeace_41 (by decide) rfl (fun c12 => ?_) (fun c12 => ?_)
            · refine j_iconst (v := 1) 45 dX12_isAtPeace_44 rfl (by decide) ?_
              refine j_goto 49 dX12_isAtPeace_45 (by decide) ?_
              refine j_istore_n (i := 2) (ls' := [some (vR 68), some (vI y1), some (vI 1), some (vI x3)]) 50 dX12_isAtPeace_49 rfl rfl (by decide) rfl rfl ?_
              refine j_iinc (v := x3 + 1) (ls' := [some (vR 68), some (vI y1), some (vI 1), some (vI (x3 + 1))]) 53 dX12_isAtPeace_50 rfl rfl rfl (by decide) rfl rfl ?_
              refine j_goto 4 dX12_isAtPeace_53 (by decide) ?_
              refine j_sub (ls' := [some (vR 68), some (vI y1), some (vI 1), some (vI (x3 + 1))]) (And.intro rfl (And.intro rfl (And.intro rfl (And.intro rfl trivial)))) ?_
              exact ih 1 (x3 + 1) s11
            · refine j_iconst (v := 0) 49 dX12_isAtPeace_48 rfl (by decide) ?_
              refine j_istore_n (i := 2) (ls' := [some (vR 68), some (vI y1), some (vI 0), some (vI x3)]) 50 dX12_isAtPeace_49 rfl rfl (by decide) rfl rfl ?_
              refine j_iinc (v := x3 + 1) (ls' := [some (vR 68), some (vI y1), some (vI 0), some (vI (x3 + 1))]) 53 dX12_isAtPeace_50 rfl rfl rfl (by decide) rfl rfl ?_
              refine j_goto 4 dX12_isAtPeace_53 (by decide) ?_
              refine j_sub (ls' := [some (vR 68), some (vI y1), some (vI 0), some (vI (x3 + 1))]) (And.intro rfl (And.intro rfl (And.intro rfl (And.intro rfl trivial)))) ?_
              exact ih 0 (x3 + 1) s11
          · refine j_iconst (v := 1) 45 dX12_isAtPeace_44 rfl (by decide) ?_
            refine j_goto 49 dX12_isAtPeace_45 (by decide) ?_
            refine j_istore_n (i := 2) (ls' := [some (vR 68), some (vI y1), some (vI 1), some (vI x3)]) 50 dX12_isAtPeace_49 rfl rfl (by decide) rfl rfl ?_
            refine j_iinc (v := x3 + 1) (ls' := [some (vR 68), some (vI y1), some (vI 1), some (vI (x3 + 1))]) 53 dX12_isAtPeace_50 rfl rfl rfl (by decide) rfl rfl ?_
            refine j_goto 4 dX12_isAtPeace_53 (by decide) ?_
            refine j_sub (ls' := [some (vR 68), some (vI y1), some (vI 1), some (vI (x3 + 1))]) (And.intro rfl (And.intro rfl (And.intro rfl (And.intro rfl trivial)))) ?_
            exact ih 1 (x3 + 1) s
    · refine j_sub (ls' := [none, none, some (vI x2), none]) (And.intro rfl trivial) ?_
      exact hκ x2 s
theorem tX12_isAtPeace (Θ : Th) (l : Launch)  (a1 : Int32)  (s : Mem) : Cs Θ l mX12_isAtPeace 3 gI [vR 68, vI a1] s (fX12_isAtPeace a1 s) := by
  refine ct_of (by decide) [some (vR 68), some (vI a1), none, none] rfl (Nat.le_of_ble_eq_true rfl) ?_
  unfold fX12_isAtPeace
  refine j_iconst (v := 1) 1 dX12_isAtPeace_0 rfl (by decide) ?_
  refine j_istore_n (i := 2) (ls' := [some (vR 68), some (vI a1), some (vI 1), none]) 2 dX12_isAtPeace_1 rfl rfl (by decide) rfl rfl ?_
  refine j_iconst (v := 0) 3 dX12_isAtPeace_2 rfl (by decide) ?_
  refine j_istore_n (i := 3) (ls' := [some (vR 68), some (vI a1), some (vI 1), some (vI 0)]) 4 dX12_isAtPeace_3 rfl rfl (by decide) rfl rfl ?_
  refine j_sub (ls' := [some (vR 68), some (vI a1), some (vI 1), some (vI 0)]) (And.intro rfl (And.intro rfl (And.intro rfl (And.intro rfl trivial)))) ?_
  refine tX12_isAtPeace_L4 Θ l _ _  ?_ _ _ _ _
  intro v13 s14
  refine j_iload_n 57 dX12_isAtPeace_56 rfl rfl ?_
  exact s_zretG dX12_isAtPeace_57 rfl
-- X12_sitsOn
def fX12_sitsOn  (a1 : Int32) (a2 : Int32) (s : Mem) : Option (Int32 × Mem) :=
if inb a1 8 = true then
nm (s.1 79 (ix a1)) (fun v2 =>
if inb a1 8 = true then
bnd (fX12_takenOn a2 (wI s 79 (ix a1) a2)) (fun r4 s5 =>
if 2 < r4 then
  if inb a1 8 = true then
  some (0, wI s5 79 (ix a1) v2)
  else none
else
  bnd (fX12_isAtPeace a1 s5) (fun r8 s9 =>
  if r8 = 0 then
    if inb a1 8 = true then
    some (0, wI s9 79 (ix a1) v2)
    else none
  else
    if inb a1 8 = true then
    some (1, wI s9 79 (ix a1) a2)
    else none))
else none)
else none
theorem tX12_sitsOn (Θ : Th) (l : Launch)  (a1 : Int32) (a2 : Int32)  (s : Mem) : Cs Θ l mX12_sitsOn 4 gI [vR 68, vI a1, vI a2] s (fX12_sitsOn a1 a2 s) := by
  refine ct_of (by decide) [some (vR 68), some (vI a1), some (vI a2), none, none] rfl (Nat.le_of_ble_eq_true rfl) ?_
  unfold fX12_sitsOn
  refine j_aload_n 1 dX12_sitsOn_0 rfl rfl ?_
  refine s_getR (x := 79) 4 fa68_16 w_1222 dX12_sitsOn_1 rfl (by decide +kernel) ?_
  refine j_iload_n 5 dX12_sitsOn_4 rfl rfl ?_
  refine s_iaload 6 aa79 dX12_sitsOn_5 rfl (fun b1 => ?_)
  refine s_nmI (fun v2 => ?_)
  refine j_istore_n (i := 3) (ls' := [some (vR 68), some (vI a1), some (vI a2), some (vI v2), none]) 7 dX12_sitsOn_6 rfl rfl (by decide) rfl rfl ?_
  refine j_aload_n 8 dX12_sitsOn_7 rfl rfl ?_
  refine s_getR (x := 79) 11 fa68_16 w_1222 dX12_sitsOn_8 rfl (by decide +kernel) ?_
  refine j_iload_n 12 dX12_sitsOn_11 rfl rfl ?_
  refine j_iload_n 13 dX12_sitsOn_12 rfl rfl ?_
  refine s_iastore 14 aa79 dX12_sitsOn_13 rfl (fun b3 => ?_)
  refine j_aload_n 15 dX12_sitsOn_14 rfl rfl ?_
  refine j_iload_n 16 dX12_sitsOn_15 rfl rfl ?_
  refine s_callVi (M2 := mX12_takenOn) [vI a2] 19 oa68 cc12 mkX12_takenOn w_1499 dX12_sitsOn_16 rfl rfl (tX12_takenOn Θ l _  _) (by first | exact Nat.le_of_ble_eq_true rfl | omega) (Nat.le_of_ble_eq_true rfl) (Nat.le_of_ble_eq_true rfl) (fun r4 s5 => ?_)
  refine j_iconst (v := 2) 20 dX12_sitsOn_19 rfl (by decide) ?_
  refine j_icmp_gt 35 23 dX12_sitsOn_20 (by decide) rfl (fun c6 => ?_) (fun c6 => ?_)
  · refine j_iconst (v := 0) 36 dX12_sitsOn_35 rfl (by decide) ?_
    refine j_istore (i := 4) (ls' := [some (vR 68), some (vI a1), some (vI a2), some (vI v2), some (vI 0)]) 38 dX12_sitsOn_36 rfl (by decide) rfl rfl ?_
    refine j_aload_n 39 dX12_sitsOn_38 rfl rfl ?_
    refine s_getR (x := 79) 42 fa68_16 w_1222 dX12_sitsOn_39 rfl (by decide +kernel) ?_
    refine j_iload_n 43 dX12_sitsOn_42 rfl rfl ?_
    refine j_iload 45 dX12_sitsOn_43 rfl rfl ?_
    refine j_if_eq_T 52 48 dX12_sitsOn_45 (by decide) rfl (by decide) ?_
    refine j_iload_n 53 dX12_sitsOn_52 rfl rfl ?_
    refine s_iastore 54 aa79 dX12_sitsOn_53 rfl (fun b7 => ?_)
    refine j_iload 56 dX12_sitsOn_54 rfl rfl ?_
    exact s_zret dX12_sitsOn_56 rfl (by decide)
  · refine j_aload_n 24 dX12_sitsOn_23 rfl rfl ?_
    refine j_iload_n 25 dX12_sitsOn_24 rfl rfl ?_
    refine s_callVi (M2 := mX12_isAtPeace) [vI a1] 28 oa68 cc12 mkX12_isAtPeace w_1576 dX12_sitsOn_25 rfl rfl (tX12_isAtPeace Θ l _  _) (by first | exact Nat.le_of_ble_eq_true rfl | omega) (Nat.le_of_ble_eq_true rfl) (Nat.le_of_ble_eq_true rfl) (fun r8 s9 => ?_)
    refine j_if_eq 35 31 dX12_sitsOn_28 (by decide) rfl (fun c10 => ?_) (fun c10 => ?_)
    · refine j_iconst (v := 0) 36 dX12_sitsOn_35 rfl (by decide) ?_
      refine j_istore (i := 4) (ls' := [some (vR 68), some (vI a1), some (vI a2), some (vI v2), some (vI 0)]) 38 dX12_sitsOn_36 rfl (by decide) rfl rfl ?_
      refine j_aload_n 39 dX12_sitsOn_38 rfl rfl ?_
      refine s_getR (x := 79) 42 fa68_16 w_1222 dX12_sitsOn_39 rfl (by decide +kernel) ?_
      refine j_iload_n 43 dX12_sitsOn_42 rfl rfl ?_
      refine j_iload 45 dX12_sitsOn_43 rfl rfl ?_
      refine j_if_eq_T 52 48 dX12_sitsOn_45 (by decide) rfl (by decide) ?_
      refine j_iload_n 53 dX12_sitsOn_52 rfl rfl ?_
      refine s_iastore 54 aa79 dX12_sitsOn_53 rfl (fun b11 => ?_)
      refine j_iload 56 dX12_sitsOn_54 rfl rfl ?_
      exact s_zret dX12_sitsOn_56 rfl (by decide)
    · refine j_iconst (v := 1) 32 dX12_sitsOn_31 rfl (by decide) ?_
      refine j_goto 36 dX12_sitsOn_32 (by decide) ?_
      refine j_istore (i := 4) (ls' := [some (vR 68), some (vI a1), some (vI a2), some (vI v2), some (vI 1)]) 38 dX12_sitsOn_36 rfl (by decide) rfl rfl ?_
      refine j_aload_n 39 dX12_sitsOn_38 rfl rfl ?_
      refine s_getR (x := 79) 42 fa68_16 w_1222 dX12_sitsOn_39 rfl (by decide +kernel) ?_
      refine j_iload_n 43 dX12_sitsOn_42 rfl rfl ?_
      refine j_iload 45 dX12_sitsOn_43 rfl rfl ?_
      refine j_if_eq_F 52 48 dX12_sitsOn_45 (by decide) rfl (by decide) ?_
      refine j_iload_n 49 dX12_sitsOn_48 rfl rfl ?_
      refine j_goto 53 dX12_sitsOn_49 (by decide) ?_
      refine s_iastore 54 aa79 dX12_sitsOn_53 rfl (fun b12 => ?_)
      refine j_iload 56 dX12_sitsOn_54 rfl rfl ?_
      exact s_zret dX12_sitsOn_56 rfl (by decide)
-- X12_remembers
def fX12_remembers_L11  (κ : Mem → Option (Unit × Mem)) (y1 : Int32) : Nat → Int32 → Mem → Option (Unit × Mem)
  | 0, _, _ => none
  | k + 1, x2, s =>
    if x2 < 472 then
      if inb (x2 + 8) 480 = true then
      if inb x2 480 = true then
      fX12_remembers_L11 κ y1 k (x2 + 1) (wI s 87 (ix x2) (s.1 87 (ix (x2 + 8))))
      else none
      else none
    else
      κ s
def fX12_remembers_L51  (κ : Mem → Option (Unit × Mem)) (y1 : Int32) : Nat → Int32 → Mem → Option (Unit × Mem)
  | 0, _, _ => none
  | k + 1, x2, s =>
    if x2 < 7 then
      if inb x2 8 = true then
      if inb ((8 * (s.1 68 32)) + x2) 480 = true then
      fX12_remembers_L51 κ y1 k (x2 + 1) (wI s 87 (ix ((8 * (s.1 68 32)) + x2)) (s.1 79 (ix x2)))
      else none
      else none
    else
      κ s
def fX12_remembers  (a1 : Int32) (s : Mem) : Option (Unit × Mem) :=
if (s.1 68 32) = 60 then
  fX12_remembers_L11 (fun s5 =>
    fX12_remembers_L51 (fun s9 =>
      if inb ((8 * (s9.1 68 32)) + 7) 480 = true then
      some ((), wI (wI s9 87 (ix ((8 * (s9.1 68 32)) + 7)) a1) 68 32 (((wI s9 87 (ix ((8 * (s9.1 68 32)) + 7)) a1).1 68 32) + 1))
      else none) a1 FU 0 (wI s5 68 32 ((s5.1 68 32) - 1))) a1 FU 0 s
else
  fX12_remembers_L51 (fun s11 =>
    if inb ((8 * (s11.1 68 32)) + 7) 480 = true then
    some ((), wI (wI s11 87 (ix ((8 * (s11.1 68 32)) + 7)) a1) 68 32 (((wI s11 87 (ix ((8 * (s11.1 68 32)) + 7)) a1).1 68 32) + 1))
    else none) a1 FU 0 s
theorem tX12_remembers_L11 (Θ : Th) (l : Launch)  (κ : Mem → Option (Unit × Mem)) (y1 : Int32)  (hκ : ∀  (s : Mem), Js Θ l mX12_remembers 1 gU 39 [some (vR 68), some (vI y1), none] [] s (κ  s)) : ∀ (k : Nat) (x2 : Int32) (s : Mem), Js Θ l mX12_remembers 1 gU 11 [some (vR 68), some (vI y1), some (vI x2)] [] s (fX12_remembers_L11 κ y1 k x2 s) := by
  intro k
  induction k with
  | zero => intro x2 s; exact j_none
  | succ k ih =>
    intro x2 s
    rw [fX12_remembers_L11]
    refine j_iload_n 12 dX12_remembers_11 rfl rfl ?_
    refine j_sipush (v := 472) 15 dX12_remembers_12 rfl (by decide) ?_
    refine j_icmp_ge 39 18 dX12_remembers_15 (by decide) rfl (fun c2 => ?_) (fun c2 => ?_)
    · refine j_aload_n 19 dX12_remembers_18 rfl rfl ?_
      refine s_getR (x := 87) 22 fa68_33 w_1239 dX12_remembers_19 rfl (by decide +kernel) ?_
      refine j_iload_n 23 dX12_remembers_22 rfl rfl ?_
      refine j_aload_n 24 dX12_remembers_23 rfl rfl ?_
      refine s_getR (x := 87) 27 fa68_33 w_1239 dX12_remembers_24 rfl (by decide +kernel) ?_
      refine j_iload_n 28 dX12_remembers_27 rfl rfl ?_
      refine j_bipush (v := 8) 30 dX12_remembers_28 rfl (by decide) ?_
      refine j_iadd 31 dX12_remembers_30 rfl ?_
      refine s_iaload 32 aa87 dX12_remembers_31 rfl (fun b3 => ?_)
      refine s_iastore 33 aa87 dX12_remembers_32 rfl (fun b4 => ?_)
      refine j_iinc (v := x2 + 1) (ls' := [some (vR 68), some (vI y1), some (vI (x2 + 1))]) 36 dX12_remembers_33 rfl rfl rfl (by decide) rfl rfl ?_
      refine j_goto 11 dX12_remembers_36 (by decide) ?_
      refine j_sub (ls' := [some (vR 68), some (vI y1), some (vI (x2 + 1))]) (And.intro rfl (And.intro rfl (And.intro rfl trivial))) ?_
      exact ih (x2 + 1) (wI s 87 (ix x2) (s.1 87 (ix (x2 + 8))))
    · refine j_sub (ls' := [some (vR 68), some (vI y1), none]) (And.intro rfl (And.intro rfl trivial)) ?_
      exact hκ s
theorem tX12_remembers_L51 (Θ : Th) (l : Launch)  (κ : Mem → Option (Unit × Mem)) (y1 : Int32)  (hκ : ∀  (s : Mem), Js Θ l mX12_remembers 1 gU 83 [some (vR 68), some (vI y1), none] [] s (κ  s)) : ∀ (k : Nat) (x2 : Int32) (s : Mem), Js Θ l mX12_remembers 1 gU 51 [some (vR 68), some (vI y1), some (vI x2)] [] s (fX12_remembers_L51 κ y1 k x2 s) := by
  intro k
  induction k with
  | zero => intro x2 s; exact j_none
  | succ k ih =>
    intro x2 s
    rw [fX12_remembers_L51]
    refine j_iload_n 52 dX12_remembers_51 rfl rfl ?_
    refine j_bipush (v := 7) 54 dX12_remembers_52 rfl (by decide) ?_
    refine j_icmp_ge 83 57 dX12_remembers_54 (by decide) rfl (fun c6 => ?_) (fun c6 => ?_)
    · refine j_aload_n 58 dX12_remembers_57 rfl rfl ?_
      refine s_getR (x := 87) 61 fa68_33 w_1239 dX12_remembers_58 rfl (by decide +kernel) ?_
      refine j_bipush (v := 8) 63 dX12_remembers_61 rfl (by decide) ?_
      refine j_aload_n 64 dX12_remembers_63 rfl rfl ?_
      refine s_getI 67 fa68_32 w_1238 dX12_remembers_64 rfl ?_
      refine j_imul 68 dX12_remembers_67 rfl ?_
      refine j_iload_n 69 dX12_remembers_68 rfl rfl ?_
      refine j_iadd 70 dX12_remembers_69 rfl ?_
      refine j_aload_n 71 dX12_remembers_70 rfl rfl ?_
      refine s_getR (x := 79) 74 fa68_16 w_1222 dX12_remembers_71 rfl (by decide +kernel) ?_
      refine j_iload_n 75 dX12_remembers_74 rfl rfl ?_
      refine s_iaload 76 aa79 dX12_remembers_75 rfl (fun b7 => ?_)
      refine s_iastore 77 aa87 dX12_remembers_76 rfl (fun b8 => ?_)
      refine j_iinc (v := x2 + 1) (ls' := [some (vR 68), some (vI y1), some (vI (x2 + 1))]) 80 dX12_remembers_77 rfl rfl rfl (by decide) rfl rfl ?_
      refine j_goto 51 dX12_remembers_80 (by decide) ?_
      refine j_sub (ls' := [some (vR 68), some (vI y1), some (vI (x2 + 1))]) (And.intro rfl (And.intro rfl (And.intro rfl trivial))) ?_
      exact ih (x2 + 1) (wI s 87 (ix ((8 * (s.1 68 32)) + x2)) (s.1 79 (ix x2)))
    · refine j_sub (ls' := [some (vR 68), some (vI y1), none]) (And.intro rfl (And.intro rfl trivial)) ?_
      exact hκ s
theorem tX12_remembers (Θ : Th) (l : Launch)  (a1 : Int32)  (s : Mem) : Cs Θ l mX12_remembers 1 gU [vR 68, vI a1] s (fX12_remembers a1 s) := by
  refine ct_of (by decide) [some (vR 68), some (vI a1), none] rfl (Nat.le_of_ble_eq_true rfl) ?_
  unfold fX12_remembers
  refine j_aload_n 1 dX12_remembers_0 rfl rfl ?_
  refine s_getI 4 fa68_32 w_1238 dX12_remembers_1 rfl ?_
  refine j_bipush (v := 60) 6 dX12_remembers_4 rfl (by decide) ?_
  refine j_icmp_ne 49 9 dX12_remembers_6 (by decide) rfl (fun c1 => ?_) (fun c1 => ?_)
  · refine j_iconst (v := 0) 10 dX12_remembers_9 rfl (by decide) ?_
    refine j_istore_n (i := 2) (ls' := [some (vR 68), some (vI a1), some (vI 0)]) 11 dX12_remembers_10 rfl rfl (by decide) rfl rfl ?_
    refine j_sub (ls' := [some (vR 68), some (vI a1), some (vI 0)]) (And.intro rfl (And.intro rfl (And.intro rfl trivial))) ?_
    refine tX12_remembers_L11 Θ l _ _  ?_ _ _ _
    intro s5
    refine j_aload_n 40 dX12_remembers_39 rfl rfl ?_
    refine j_dup 41 dX12_remembers_40 rfl rfl ?_
    refine s_getI 44 fa68_32 w_1238 dX12_remembers_41 rfl ?_
    refine j_iconst (v := 1) 45 dX12_remembers_44 rfl (by decide) ?_
    refine j_isub 46 dX12_remembers_45 rfl ?_
    refine s_putI 49 fa68_32 w_1238 dX12_remembers_46 rfl ?_
    refine j_iconst (v := 0) 50 dX12_remembers_49 rfl (by decide) ?_
    refine j_istore_n (i := 2) (ls' := [some (vR 68), some (vI a1), some (vI 0)]) 51 dX12_remembers_50 rfl rfl (by decide) rfl rfl ?_
    refine j_sub (ls' := [some (vR 68), some (vI a1), some (vI 0)]) (And.intro rfl (And.intro rfl (And.intro rfl trivial))) ?_
    refine tX12_remembers_L51 Θ l _ _  ?_ _ _ _
    intro s9
    refine j_aload_n 84 dX12_remembers_83 rfl rfl ?_
    refine s_getR (x := 87) 87 fa68_33 w_1239 dX12_remembers_84 rfl (by decide +kernel) ?_
    refine j_bipush (v := 8) 89 dX12_remembers_87 rfl (by decide) ?_
    refine j_aload_n 90 dX12_remembers_89 rfl rfl ?_
    refine s_getI 93 fa68_32 w_1238 dX12_remembers_90 rfl ?_
    refine j_imul 94 dX12_remembers_93 rfl ?_
    refine j_bipush (v := 7) 96 dX12_remembers_94 rfl (by decide) ?_
    refine j_iadd 97 dX12_remembers_96 rfl ?_
    refine j_iload_n 98 dX12_remembers_97 rfl rfl ?_
    refine s_iastore 99 aa87 dX12_remembers_98 rfl (fun b10 => ?_)
    refine j_aload_n 100 dX12_remembers_99 rfl rfl ?_
    refine j_dup 101 dX12_remembers_100 rfl rfl ?_
    refine s_getI 104 fa68_32 w_1238 dX12_remembers_101 rfl ?_
    refine j_iconst (v := 1) 105 dX12_remembers_104 rfl (by decide) ?_
    refine j_iadd 106 dX12_remembers_105 rfl ?_
    refine s_putI 109 fa68_32 w_1238 dX12_remembers_106 rfl ?_
    exact s_ret dX12_remembers_109 rfl
  · refine j_iconst (v := 0) 50 dX12_remembers_49 rfl (by decide) ?_
    refine j_istore_n (i := 2) (ls' := [some (vR 68), some (vI a1), some (vI 0)]) 51 dX12_remembers_50 rfl rfl (by decide) rfl rfl ?_
    refine j_sub (ls' := [some (vR 68), some (vI a1), some (vI 0)]) (And.intro rfl (And.intro rfl (And.intro rfl trivial))) ?_
    refine tX12_remembers_L51 Θ l _ _  ?_ _ _ _
    intro s11
    refine j_aload_n 84 dX12_remembers_83 rfl rfl ?_
    refine s_getR (x := 87) 87 fa68_33 w_1239 dX12_remembers_84 rfl (by decide +kernel) ?_
    refine j_bipush (v := 8) 89 dX12_remembers_87 rfl (by decide) ?_
    refine j_aload_n 90 dX12_remembers_89 rfl rfl ?_
    refine s_getI 93 fa68_32 w_1238 dX12_remembers_90 rfl ?_
    refine j_imul 94 dX12_remembers_93 rfl ?_
    refine j_bipush (v := 7) 96 dX12_remembers_94 rfl (by decide) ?_
    refine j_iadd 97 dX12_remembers_96 rfl ?_
    refine j_iload_n 98 dX12_remembers_97 rfl rfl ?_
    refine s_iastore 99 aa87 dX12_remembers_98 rfl (fun b12 => ?_)
    refine j_aload_n 100 dX12_remembers_99 rfl rfl ?_
    refine j_dup 101 dX12_remembers_100 rfl rfl ?_
    refine s_getI 104 fa68_32 w_1238 dX12_remembers_101 rfl ?_
    refine j_iconst (v := 1) 105 dX12_remembers_104 rfl (by decide) ?_
    refine j_iadd 106 dX12_remembers_105 rfl ?_
    refine s_putI 109 fa68_32 w_1238 dX12_remembers_106 rfl ?_
    exact s_ret dX12_remembers_109 rfl
-- X12_seat
def fX12_seat  (a1 : Int32) (a2 : Int32) (s : Mem) : Option (Int32 × Mem) :=
bnd (fX12_isGuest a1 s) (fun r1 s2 =>
if r1 = 0 then
  some ((-1), s2)
else
  bnd (fX12_isBench a2 s2) (fun r4 s5 =>
  if r4 = 0 then
    some ((-1), s5)
  else
    if inb a1 8 = true then
    nm (s5.1 79 (ix a1)) (fun v8 =>
    if v8 = a2 then
      some ((-4), s5)
    else
      bnd (fX12_sitsOn a1 a2 s5) (fun r10 s11 =>
      if r10 = 0 then
        some ((-4), s11)
      else
        if inb a1 8 = true then
        bnd (fX12_remembers 0 (wI s11 79 (ix a1) v8)) (fun r14 s15 =>
        if inb a1 8 = true then
        some (a2, wI s15 79 (ix a1) a2)
        else none)
        else none))
    else none))
theorem tX12_seat (Θ : Th) (l : Launch)  (a1 : Int32) (a2 : Int32)  (s : Mem) : Cs Θ l mX12_seat 5 gI [vR 68, vI a1, vI a2] s (fX12_seat a1 a2 s) := by
  refine ct_of (by decide) [some (vR 68), some (vI a1), some (vI a2), none] rfl (Nat.le_of_ble_eq_true rfl) ?_
  unfold fX12_seat
  refine j_aload_n 1 dX12_seat_0 rfl rfl ?_
  refine j_iload_n 2 dX12_seat_1 rfl rfl ?_
  refine s_callVi (M2 := mX12_isGuest) [vI a1] 5 oa68 cc12 mkX12_isGuest w_1519 dX12_seat_2 rfl rfl (tX12_isGuest Θ l _  _) (by first | exact Nat.le_of_ble_eq_true rfl | omega) (Nat.le_of_ble_eq_true rfl) (Nat.le_of_ble_eq_true rfl) (fun r1 s2 => ?_)
  refine j_if_eq 16 8 dX12_seat_5 (by decide) rfl (fun c3 => ?_) (fun c3 => ?_)
  · refine j_iconst (v := (-1)) 17 dX12_seat_16 rfl (by decide) ?_
    exact s_iret dX12_seat_17 rfl
  · refine j_aload_n 9 dX12_seat_8 rfl rfl ?_
    refine j_iload_n 10 dX12_seat_9 rfl rfl ?_
    refine s_callVi (M2 := mX12_isBench) [vI a2] 13 oa68 cc12 mkX12_isBench w_1491 dX12_seat_10 rfl rfl (tX12_isBench Θ l _  _) (by first | exact Nat.le_of_ble_eq_true rfl | omega) (Nat.le_of_ble_eq_true rfl) (Nat.le_of_ble_eq_true rfl) (fun r4 s5 => ?_)
    refine j_if_ne 18 16 dX12_seat_13 (by decide) rfl (fun c6 => ?_) (fun c6 => ?_)
    · refine j_iconst (v := (-1)) 17 dX12_seat_16 rfl (by decide) ?_
      exact s_iret dX12_seat_17 rfl
    · refine j_aload_n 19 dX12_seat_18 rfl rfl ?_
      refine s_getR (x := 79) 22 fa68_16 w_1222 dX12_seat_19 rfl (by decide +kernel) ?_
      refine j_iload_n 23 dX12_seat_22 rfl rfl ?_
      refine s_iaload 24 aa79 dX12_seat_23 rfl (fun b7 => ?_)
      refine s_nmI (fun v8 => ?_)
      refine j_istore_n (i := 3) (ls' := [some (vR 68), some (vI a1), some (vI a2), some (vI v8)]) 25 dX12_seat_24 rfl rfl (by decide) rfl rfl ?_
      refine j_iload_n 26 dX12_seat_25 rfl rfl ?_
      refine j_iload_n 27 dX12_seat_26 rfl rfl ?_
      refine j_icmp_eq 39 30 dX12_seat_27 (by decide) rfl (fun c9 => ?_) (fun c9 => ?_)
      · refine j_bipush (v := (-4)) 41 dX12_seat_39 rfl (by decide) ?_
        exact s_iret dX12_seat_41 rfl
      · refine j_aload_n 31 dX12_seat_30 rfl rfl ?_
        refine j_iload_n 32 dX12_seat_31 rfl rfl ?_
        refine j_iload_n 33 dX12_seat_32 rfl rfl ?_
        refine s_callVi (M2 := mX12_sitsOn) [vI a1, vI a2] 36 oa68 cc12 mkX12_sitsOn w_1572 dX12_seat_33 rfl rfl (tX12_sitsOn Θ l _ _  _) (by first | exact Nat.le_of_ble_eq_true rfl | omega) (Nat.le_of_ble_eq_true rfl) (Nat.le_of_ble_eq_true rfl) (fun r10 s11 => ?_)
        refine j_if_ne 42 39 dX12_seat_36 (by decide) rfl (fun c12 => ?_) (fun c12 => ?_)
        · refine j_bipush (v := (-4)) 41 dX12_seat_39 rfl (by decide) ?_
          exact s_iret dX12_seat_41 rfl
        · refine j_aload_n 43 dX12_seat_42 rfl rfl ?_
          refine s_getR (x := 79) 46 fa68_16 w_1222 dX12_seat_43 rfl (by decide +kernel) ?_
          refine j_iload_n 47 dX12_seat_46 rfl rfl ?_
          refine j_iload_n 48 dX12_seat_47 rfl rfl ?_
          refine s_iastore 49 aa79 dX12_seat_48 rfl (fun b13 => ?_)
          refine j_aload_n 50 dX12_seat_49 rfl rfl ?_
          refine j_iconst (v := 0) 51 dX12_seat_50 rfl (by decide) ?_
          refine s_callVu (M2 := mX12_remembers) [vI 0] 54 oa68 cc12 mkX12_remembers w_1584 dX12_seat_51 rfl rfl (tX12_remembers Θ l _  _) (by first | exact Nat.le_of_ble_eq_true rfl | omega) (Nat.le_of_ble_eq_true rfl) (Nat.le_of_ble_eq_true rfl) (fun r14 s15 => ?_)
          refine j_aload_n 55 dX12_seat_54 rfl rfl ?_
          refine s_getR (x := 79) 58 fa68_16 w_1222 dX12_seat_55 rfl (by decide +kernel) ?_
          refine j_iload_n 59 dX12_seat_58 rfl rfl ?_
          refine j_iload_n 60 dX12_seat_59 rfl rfl ?_
          refine s_iastore 61 aa79 dX12_seat_60 rfl (fun b16 => ?_)
          refine j_iload_n 62 dX12_seat_61 rfl rfl ?_
          exact s_iret dX12_seat_62 rfl
-- X12_rise
def fX12_rise  (a1 : Int32) (s : Mem) : Option (Int32 × Mem) :=
bnd (fX12_isGuest a1 s) (fun r1 s2 =>
if r1 = 0 then
  some ((-1), s2)
else
  if inb a1 8 = true then
  nm (s2.1 79 (ix a1)) (fun v5 =>
  if v5 = (-9) then
    some ((-4), s2)
  else
    bnd (fX12_remembers 1 s2) (fun r7 s8 =>
    if inb a1 8 = true then
    some (v5, wI s8 79 (ix a1) (-9))
    else none))
  else none)
theorem tX12_rise (Θ : Th) (l : Launch)  (a1 : Int32)  (s : Mem) : Cs Θ l mX12_rise 3 gI [vR 68, vI a1] s (fX12_rise a1 s) := by
  refine ct_of (by decide) [some (vR 68), some (vI a1), none] rfl (Nat.le_of_ble_eq_true rfl) ?_
  unfold fX12_rise
  refine j_aload_n 1 dX12_rise_0 rfl rfl ?_
  refine j_iload_n 2 dX12_rise_1 rfl rfl ?_
  refine s_callVi (M2 := mX12_isGuest) [vI a1] 5 oa68 cc12 mkX12_isGuest w_1519 dX12_rise_2 rfl rfl (tX12_isGuest Θ l _  _) (by first | exact Nat.le_of_ble_eq_true rfl | omega) (Nat.le_of_ble_eq_true rfl) (Nat.le_of_ble_eq_true rfl) (fun r1 s2 => ?_)
  refine j_if_ne 10 8 dX12_rise_5 (by decide) rfl (fun c3 => ?_) (fun c3 => ?_)
  · refine j_iconst (v := (-1)) 9 dX12_rise_8 rfl (by decide) ?_
    exact s_iret dX12_rise_9 rfl
  · refine j_aload_n 11 dX12_rise_10 rfl rfl ?_
    refine s_getR (x := 79) 14 fa68_16 w_1222 dX12_rise_11 rfl (by decide +kernel) ?_
    refine j_iload_n 15 dX12_rise_14 rfl rfl ?_
    refine s_iaload 16 aa79 dX12_rise_15 rfl (fun b4 => ?_)
    refine s_nmI (fun v5 => ?_)
    refine j_istore_n (i := 2) (ls' := [some (vR 68), some (vI a1), some (vI v5)]) 17 dX12_rise_16 rfl rfl (by decide) rfl rfl ?_
    refine j_iload_n 18 dX12_rise_17 rfl rfl ?_
    refine j_bipush (v := (-9)) 20 dX12_rise_18 rfl (by decide) ?_
    refine j_icmp_ne 26 23 dX12_rise_20 (by decide) rfl (fun c6 => ?_) (fun c6 => ?_)
    · refine j_bipush (v := (-4)) 25 dX12_rise_23 rfl (by decide) ?_
      exact s_iret dX12_rise_25 rfl
    · refine j_aload_n 27 dX12_rise_26 rfl rfl ?_
      refine j_iconst (v := 1) 28 dX12_rise_27 rfl (by decide) ?_
      refine s_callVu (M2 := mX12_remembers) [vI 1] 31 oa68 cc12 mkX12_remembers w_1584 dX12_rise_28 rfl rfl (tX12_remembers Θ l _  _) (by first | exact Nat.le_of_ble_eq_true rfl | omega) (Nat.le_of_ble_eq_true rfl) (Nat.le_of_ble_eq_true rfl) (fun r7 s8 => ?_)
      refine j_aload_n 32 dX12_rise_31 rfl rfl ?_
      refine s_getR (x := 79) 35 fa68_16 w_1222 dX12_rise_32 rfl (by decide +kernel) ?_
      refine j_iload_n 36 dX12_rise_35 rfl rfl ?_
      refine j_bipush (v := (-9)) 38 dX12_rise_36 rfl (by decide) ?_
      refine s_iastore 39 aa79 dX12_rise_38 rfl (fun b9 => ?_)
      refine j_iload_n 40 dX12_rise_39 rfl rfl ?_
      exact s_iret dX12_rise_40 rfl
-- X12_swap
def fX12_swap  (a1 : Int32) (a2 : Int32) (s : Mem) : Option (Unit × Mem) :=
if inb a1 8 = true then
nm (s.1 79 (ix a1)) (fun v2 =>
if inb a2 8 = true then
if inb a1 8 = true then
if inb a2 8 = true then
some ((), wI (wI s 79 (ix a1) (s.1 79 (ix a2))) 79 (ix a2) v2)
else none
else none
else none)
else none
theorem tX12_swap (Θ : Th) (l : Launch)  (a1 : Int32) (a2 : Int32)  (s : Mem) : Cs Θ l mX12_swap 1 gU [vR 68, vI a1, vI a2] s (fX12_swap a1 a2 s) := by
  refine ct_of (by decide) [some (vR 68), some (vI a1), some (vI a2), none] rfl (Nat.le_of_ble_eq_true rfl) ?_
  unfold fX12_swap
  refine j_aload_n 1 dX12_swap_0 rfl rfl ?_
  refine s_getR (x := 79) 4 fa68_16 w_1222 dX12_swap_1 rfl (by decide +kernel) ?_
  refine j_iload_n 5 dX12_swap_4 rfl rfl ?_
  refine s_iaload 6 aa79 dX12_swap_5 rfl (fun b1 => ?_)
  refine s_nmI (fun v2 => ?_)
  refine j_istore_n (i := 3) (ls' := [some (vR 68), some (vI a1), some (vI a2), some (vI v2)]) 7 dX12_swap_6 rfl rfl (by decide) rfl rfl ?_
  refine j_aload_n 8 dX12_swap_7 rfl rfl ?_
  refine s_getR (x := 79) 11 fa68_16 w_1222 dX12_swap_8 rfl (by decide +kernel) ?_
  refine j_iload_n 12 dX12_swap_11 rfl rfl ?_
  refine j_aload_n 13 dX12_swap_12 rfl rfl ?_
  refine s_getR (x := 79) 16 fa68_16 w_1222 dX12_swap_13 rfl (by decide +kernel) ?_
  refine j_iload_n 17 dX12_swap_16 rfl rfl ?_
  refine s_iaload 18 aa79 dX12_swap_17 rfl (fun b3 => ?_)
  refine s_iastore 19 aa79 dX12_swap_18 rfl (fun b4 => ?_)
  refine j_aload_n 20 dX12_swap_19 rfl rfl ?_
  refine s_getR (x := 79) 23 fa68_16 w_1222 dX12_swap_20 rfl (by decide +kernel) ?_
  refine j_iload_n 24 dX12_swap_23 rfl rfl ?_
  refine j_iload_n 25 dX12_swap_24 rfl rfl ?_
  refine s_iastore 26 aa79 dX12_swap_25 rfl (fun b5 => ?_)
  exact s_ret dX12_swap_26 rfl
-- X12_canChange
def fX12_canChange  (a1 : Int32) (a2 : Int32) (s : Mem) : Option (Int32 × Mem) :=
if inb a1 8 = true then
if (s.1 79 (ix a1)) = (-9) then
  some (0, s)
else
  if inb a2 8 = true then
  if (s.1 79 (ix a2)) = (-9) then
    some (0, s)
  else
    if inb a1 8 = true then
    if inb a2 8 = true then
    if (s.1 79 (ix a1)) = (s.1 79 (ix a2)) then
      some (0, s)
    else
      bnd (fX12_swap a1 a2 s) (fun r8 s9 =>
      if inb a1 8 = true then
      bnd (fX12_takenOn (s9.1 79 (ix a1)) s9) (fun r11 s12 =>
      if 2 < r11 then
        bnd (fX12_swap a1 a2 s12) (fun r14 s15 =>
        some (0, s15))
      else
        if inb a2 8 = true then
        bnd (fX12_takenOn (s12.1 79 (ix a2)) s12) (fun r17 s18 =>
        if 2 < r17 then
          bnd (fX12_swap a1 a2 s18) (fun r20 s21 =>
          some (0, s21))
        else
          bnd (fX12_isAtPeace a1 s18) (fun r22 s23 =>
          if r22 = 0 then
            bnd (fX12_swap a1 a2 s23) (fun r25 s26 =>
            some (0, s26))
          else
            bnd (fX12_isAtPeace a2 s23) (fun r27 s28 =>
            if r27 = 0 then
              bnd (fX12_swap a1 a2 s28) (fun r30 s31 =>
              some (0, s31))
            else
              bnd (fX12_swap a1 a2 s28) (fun r32 s33 =>
              some (1, s33)))))
        else none)
      else none)
    else none
    else none
  else none
else none
theorem tX12_canChange (Θ : Th) (l : Launch)  (a1 : Int32) (a2 : Int32)  (s : Mem) : Cs Θ l mX12_canChange 4 gI [vR 68, vI a1, vI a2] s (fX12_canChange a1 a2 s) := by
  refine ct_of (by decide) [some (vR 68), some (vI a1), some (vI a2), none] rfl (Nat.le_of_ble_eq_true rfl) ?_
  unfold fX12_canChange
  refine j_aload_n 1 dX12_canChange_0 rfl rfl ?_
  refine s_getR (x := 79) 4 fa68_16 w_1222 dX12_canChange_1 rfl (by decide +kernel) ?_
  refine j_iload_n 5 dX12_canChange_4 rfl rfl ?_
  refine s_iaload 6 aa79 dX12_canChange_5 rfl (fun b1 => ?_)
  refine j_bipush (v := (-9)) 8 dX12_canChange_6 rfl (by decide) ?_
  refine j_icmp_eq 37 11 dX12_canChange_8 (by decide) rfl (fun c2 => ?_) (fun c2 => ?_)
  · refine j_iconst (v := 0) 38 dX12_canChange_37 rfl (by decide) ?_
    exact s_zret dX12_canChange_38 rfl (by decide)
  · refine j_aload_n 12 dX12_canChange_11 rfl rfl ?_
    refine s_getR (x := 79) 15 fa68_16 w_1222 dX12_canChange_12 rfl (by decide +kernel) ?_
    refine j_iload_n 16 dX12_canChange_15 rfl rfl ?_
    refine s_iaload 17 aa79 dX12_canChange_16 rfl (fun b3 => ?_)
    refine j_bipush (v := (-9)) 19 dX12_canChange_17 rfl (by decide) ?_
    refine j_icmp_eq 37 22 dX12_canChange_19 (by decide) rfl (fun c4 => ?_) (fun c4 => ?_)
    · refine j_iconst (v := 0) 38 dX12_canChange_37 rfl (by decide) ?_
      exact s_zret dX12_canChange_38 rfl (by decide)
    · refine j_aload_n 23 dX12_canChange_22 rfl rfl ?_
      refine s_getR (x := 79) 26 fa68_16 w_1222 dX12_canChange_23 rfl (by decide +kernel) ?_
      refine j_iload_n 27 dX12_canChange_26 rfl rfl ?_
      refine s_iaload 28 aa79 dX12_canChange_27 rfl (fun b5 => ?_)
      refine j_aload_n 29 dX12_canChange_28 rfl rfl ?_
      refine s_getR (x := 79) 32 fa68_16 w_1222 dX12_canChange_29 rfl (by decide +kernel) ?_
      refine j_iload_n 33 dX12_canChange_32 rfl rfl ?_
      refine s_iaload 34 aa79 dX12_canChange_33 rfl (fun b6 => ?_)
      refine j_icmp_ne 39 37 dX12_canChange_34 (by decide) rfl (fun c7 => ?_) (fun c7 => ?_)
      · refine j_iconst (v := 0) 38 dX12_canChange_37 rfl (by decide) ?_
        exact s_zret dX12_canChange_38 rfl (by decide)
      · refine j_aload_n 40 dX12_canChange_39 rfl rfl ?_
        refine j_iload_n 41 dX12_canChange_40 rfl rfl ?_
        refine j_iload_n 42 dX12_canChange_41 rfl rfl ?_
        refine s_callVu (M2 := mX12_swap) [vI a1, vI a2] 45 oa68 cc12 mkX12_swap w_1600 dX12_canChange_42 rfl rfl (tX12_swap Θ l _ _  _) (by first | exact Nat.le_of_ble_eq_true rfl | omega) (Nat.le_of_ble_eq_true rfl) (Nat.le_of_ble_eq_true rfl) (fun r8 s9 => ?_)
        refine j_aload_n 46 dX12_canChange_45 rfl rfl ?_
        refine j_aload_n 47 dX12_canChange_46 rfl rfl ?_
        refine s_getR (x := 79) 50 fa68_16 w_1222 dX12_canChange_47 rfl (by decide +kernel) ?_
        refine j_iload_n 51 dX12_canChange_50 rfl rfl ?_
        refine s_iaload 52 aa79 dX12_canChange_51 rfl (fun b10 => ?_)
        refine s_callVi (M2 := mX12_takenOn) [vI (s9.1 79 (ix a1))] 55 oa68 cc12 mkX12_takenOn w_1499 dX12_canChange_52 rfl rfl (tX12_takenOn Θ l _  _) (by first | exact Nat.le_of_ble_eq_true rfl | omega) (Nat.le_of_ble_eq_true rfl) (Nat.le_of_ble_eq_true rfl) (fun r11 s12 => ?_)
        refine j_iconst (v := 2) 56 dX12_canChange_55 rfl (by decide) ?_
        refine j_icmp_gt 93 59 dX12_canChange_56 (by decide) rfl (fun c13 => ?_) (fun c13 => ?_)
        · refine j_iconst (v := 0) 94 dX12_canChange_93 rfl (by decide) ?_
          refine j_istore_n (i := 3) (ls' := [some (vR 68), some (vI a1), some (vI a2), some (vI 0)]) 95 dX12_canChange_94 rfl rfl (by decide) rfl rfl ?_
          refine j_aload_n 96 dX12_canChange_95 rfl rfl ?_
          refine j_iload_n 97 dX12_canChange_96 rfl rfl ?_
          refine j_iload_n 98 dX12_canChange_97 rfl rfl ?_
          refine s_callVu (M2 := mX12_swap) [vI a1, vI a2] 101 oa68 cc12 mkX12_swap w_1600 dX12_canChange_98 rfl rfl (tX12_swap Θ l _ _  _) (by first | exact Nat.le_of_ble_eq_true rfl | omega) (Nat.le_of_ble_eq_true rfl) (Nat.le_of_ble_eq_true rfl) (fun r14 s15 => ?_)
          refine j_iload_n 102 dX12_canChange_101 rfl rfl ?_
          exact s_zret dX12_canChange_102 rfl (by decide)
        · refine j_aload_n 60 dX12_canChange_59 rfl rfl ?_
          refine j_aload_n 61 dX12_canChange_60 rfl rfl ?_
          refine s_getR (x := 79) 64 fa68_16 w_1222 dX12_canChange_61 rfl (by decide +kernel) ?_
          refine j_iload_n 65 dX12_canChange_64 rfl rfl ?_
          refine s_iaload 66 aa79 dX12_canChange_65 rfl (fun b16 => ?_)
          refine s_callVi (M2 := mX12_takenOn) [vI (s12.1 79 (ix a2))] 69 oa68 cc12 mkX12_takenOn w_1499 dX12_canChange_66 rfl rfl (tX12_takenOn Θ l _  _) (by first | exact Nat.le_of_ble_eq_true rfl | omega) (Nat.le_of_ble_eq_true rfl) (Nat.le_of_ble_eq_true rfl) (fun r17 s18 => ?_)
          refine j_iconst (v := 2) 70 dX12_canChange_69 rfl (by decide) ?_
          refine j_icmp_gt 93 73 dX12_canChange_70 (by decide) rfl (fun c19 => ?_) (fun c19 => ?_)
          · refine j_iconst (v := 0) 94 dX12_canChange_93 rfl (by decide) ?_
            refine j_istore_n (i := 3) (ls' := [some (vR 68), some (vI a1), some (vI a2), some (vI 0)]) 95 dX12_canChange_94 rfl rfl (by decide) rfl rfl ?_
            refine j_aload_n 96 dX12_canChange_95 rfl rfl ?_
            refine j_iload_n 97 dX12_canChange_96 rfl rfl ?_
            refine j_iload_n 98 dX12_canChange_97 rfl rfl ?_
            refine s_callVu (M2 := mX12_swap) [vI a1, vI a2] 101 oa68 cc12 mkX12_swap w_1600 dX12_canChange_98 rfl rfl (tX12_swap Θ l _ _  _) (by first | exact Nat.le_of_ble_eq_true rfl | omega) (Nat.le_of_ble_eq_true rfl) (Nat.le_of_ble_eq_true rfl) (fun r20 s21 => ?_)
            refine j_iload_n 102 dX12_canChange_101 rfl rfl ?_
            exact s_zret dX12_canChange_102 rfl (by decide)
          · refine j_aload_n 74 dX12_canChange_73 rfl rfl ?_
            refine j_iload_n 75 dX12_canChange_74 rfl rfl ?_
            refine s_callVi (M2 := mX12_isAtPeace) [vI a1] 78 oa68 cc12 mkX12_isAtPeace w_1576 dX12_canChange_75 rfl rfl (tX12_isAtPeace Θ l _  _) (by first | exact Nat.le_of_ble_eq_true rfl | omega) (Nat.le_of_ble_eq_true rfl) (Nat.le_of_ble_eq_true rfl) (fun r22 s23 => ?_)
            refine j_if_eq 93 81 dX12_canChange_78 (by decide) rfl (fun c24 => ?_) (fun c24 => ?_)
            · refine j_iconst (v := 0) 94 dX12_canChange_93 rfl (by decide) ?_
              refine j_istore_n (i := 3) (ls' := [some (vR 68), some (vI a1), some (vI a2), some (vI 0)]) 95 dX12_canChange_94 rfl rfl (by decide) rfl rfl ?_
              refine j_aload_n 96 dX12_canChange_95 rfl rfl ?_
              refine j_iload_n 97 dX12_canChange_96 rfl rfl ?_
              refine j_iload_n 98 dX12_canChange_97 rfl rfl ?_
              refine s_callVu (M2 := mX12_swap) [vI a1, vI a2] 101 oa68 cc12 mkX12_swap w_1600 dX12_canChange_98 rfl rfl (tX12_swap Θ l _ _  _) (by first | exact Nat.le_of_ble_eq_true rfl | omega) (Nat.le_of_ble_eq_true rfl) (Nat.le_of_ble_eq_true rfl) (fun r25 s26 => ?_)
              refine j_iload_n 102 dX12_canChange_101 rfl rfl ?_
              exact s_zret dX12_canChange_102 rfl (by decide)
            · refine j_aload_n 82 dX12_canChange_81 rfl rfl ?_
              refine j_iload_n 83 dX12_canChange_82 rfl rfl ?_
              refine s_callVi (M2 := mX12_isAtPeace) [vI a2] 86 oa68 cc12 mkX12_isAtPeace w_1576 dX12_canChange_83 rfl rfl (tX12_isAtPeace Θ l _  _) (by first | exact Nat.le_of_ble_eq_true rfl | omega) (Nat.le_of_ble_eq_true rfl) (Nat.le_of_ble_eq_true rfl) (fun r27 s28 => ?_)
              refine j_if_eq 93 89 dX12_canChange_86 (by decide) rfl (fun c29 => ?_) (fun c29 => ?_)
              · refine j_iconst (v := 0) 94 dX12_canChange_93 rfl (by decide) ?_
                refine j_istore_n (i := 3) (ls' := [some (vR 68), some (vI a1), some (vI a2), some (vI 0)]) 95 dX12_canChange_94 rfl rfl (by decide) rfl rfl ?_
                refine j_aload_n 96 dX12_canChange_95 rfl rfl ?_
                refine j_iload_n 97 dX12_canChange_96 rfl rfl ?_
                refine j_iload_n 98 dX12_canChange_97 rfl rfl ?_
                refine s_callVu (M2 := mX12_swap) [vI a1, vI a2] 101 oa68 cc12 mkX12_swap w_1600 dX12_canChange_98 rfl rfl (tX12_swap Θ l _ _  _) (by first | exact Nat.le_of_ble_eq_true rfl | omega) (Nat.le_of_ble_eq_true rfl) (Nat.le_of_ble_eq_true rfl) (fun r30 s31 => ?_)
                refine j_iload_n 102 dX12_canChange_101 rfl rfl ?_
                exact s_zret dX12_canChange_102 rfl (by decide)
              · refine j_iconst (v := 1) 90 dX12_canChange_89 rfl (by decide) ?_
                refine j_goto 94 dX12_canChange_90 (by decide) ?_
                refine j_istore_n (i := 3) (ls' := [some (vR 68), some (vI a1), some (vI a2), some (vI 1)]) 95 dX12_canChange_94 rfl rfl (by decide) rfl rfl ?_
                refine j_aload_n 96 dX12_canChange_95 rfl rfl ?_
                refine j_iload_n 97 dX12_canChange_96 rfl rfl ?_
                refine j_iload_n 98 dX12_canChange_97 rfl rfl ?_
                refine s_callVu (M2 := mX12_swap) [vI a1, vI a2] 101 oa68 cc12 mkX12_swap w_1600 dX12_canChange_98 rfl rfl (tX12_swap Θ l _ _  _) (by first | exact Nat.le_of_ble_eq_true rfl | omega) (Nat.le_of_ble_eq_true rfl) (Nat.le_of_ble_eq_true rfl) (fun r32 s33 => ?_)
                refine j_iload_n 102 dX12_canChange_101 rfl rfl ?_
                exact s_zret dX12_canChange_102 rfl (by decide)
-- X12_change
def fX12_change  (a1 : Int32) (a2 : Int32) (s : Mem) : Option (Int32 × Mem) :=
bnd (fX12_isGuest a1 s) (fun r1 s2 =>
if r1 = 0 then
  some ((-1), s2)
else
  bnd (fX12_isGuest a2 s2) (fun r4 s5 =>
  if r4 = 0 then
    some ((-1), s5)
  else
    if a1 = a2 then
      some ((-1), s5)
    else
      bnd (fX12_canChange a1 a2 s5) (fun r8 s9 =>
      if r8 = 0 then
        some ((-4), s9)
      else
        bnd (fX12_remembers 2 s9) (fun r11 s12 =>
        bnd (fX12_swap a1 a2 s12) (fun r13 s14 =>
        some (1, s14))))))
theorem tX12_change (Θ : Th) (l : Launch)  (a1 : Int32) (a2 : Int32)  (s : Mem) : Cs Θ l mX12_change 5 gI [vR 68, vI a1, vI a2] s (fX12_change a1 a2 s) := by
  refine ct_of (by decide) [some (vR 68), some (vI a1), some (vI a2)] rfl (Nat.le_of_ble_eq_true rfl) ?_
  unfold fX12_change
  refine j_aload_n 1 dX12_change_0 rfl rfl ?_
  refine j_iload_n 2 dX12_change_1 rfl rfl ?_
  refine s_callVi (M2 := mX12_isGuest) [vI a1] 5 oa68 cc12 mkX12_isGuest w_1519 dX12_change_2 rfl rfl (tX12_isGuest Θ l _  _) (by first | exact Nat.le_of_ble_eq_true rfl | omega) (Nat.le_of_ble_eq_true rfl) (Nat.le_of_ble_eq_true rfl) (fun r1 s2 => ?_)
  refine j_if_eq 21 8 dX12_change_5 (by decide) rfl (fun c3 => ?_) (fun c3 => ?_)
  · refine j_iconst (v := (-1)) 22 dX12_change_21 rfl (by decide) ?_
    exact s_iret dX12_change_22 rfl
  · refine j_aload_n 9 dX12_change_8 rfl rfl ?_
    refine j_iload_n 10 dX12_change_9 rfl rfl ?_
    refine s_callVi (M2 := mX12_isGuest) [vI a2] 13 oa68 cc12 mkX12_isGuest w_1519 dX12_change_10 rfl rfl (tX12_isGuest Θ l _  _) (by first | exact Nat.le_of_ble_eq_true rfl | omega) (Nat.le_of_ble_eq_true rfl) (Nat.le_of_ble_eq_true rfl) (fun r4 s5 => ?_)
    refine j_if_eq 21 16 dX12_change_13 (by decide) rfl (fun c6 => ?_) (fun c6 => ?_)
    · refine j_iconst (v := (-1)) 22 dX12_change_21 rfl (by decide) ?_
      exact s_iret dX12_change_22 rfl
    · refine j_iload_n 17 dX12_change_16 rfl rfl ?_
      refine j_iload_n 18 dX12_change_17 rfl rfl ?_
      refine j_icmp_ne 23 21 dX12_change_18 (by decide) rfl (fun c7 => ?_) (fun c7 => ?_)
      · refine j_iconst (v := (-1)) 22 dX12_change_21 rfl (by decide) ?_
        exact s_iret dX12_change_22 rfl
      · refine j_aload_n 24 dX12_change_23 rfl rfl ?_
        refine j_iload_n 25 dX12_change_24 rfl rfl ?_
        refine j_iload_n 26 dX12_change_25 rfl rfl ?_
        refine s_callVi (M2 := mX12_canChange) [vI a1, vI a2] 29 oa68 cc12 mkX12_canChange w_1596 dX12_change_26 rfl rfl (tX12_canChange Θ l _ _  _) (by first | exact Nat.le_of_ble_eq_true rfl | omega) (Nat.le_of_ble_eq_true rfl) (Nat.le_of_ble_eq_true rfl) (fun r8 s9 => ?_)
        refine j_if_ne 35 32 dX12_change_29 (by decide) rfl (fun c10 => ?_) (fun c10 => ?_)
        · refine j_bipush (v := (-4)) 34 dX12_change_32 rfl (by decide) ?_
          exact s_iret dX12_change_34 rfl
        · refine j_aload_n 36 dX12_change_35 rfl rfl ?_
          refine j_iconst (v := 2) 37 dX12_change_36 rfl (by decide) ?_
          refine s_callVu (M2 := mX12_remembers) [vI 2] 40 oa68 cc12 mkX12_remembers w_1584 dX12_change_37 rfl rfl (tX12_remembers Θ l _  _) (by first | exact Nat.le_of_ble_eq_true rfl | omega) (Nat.le_of_ble_eq_true rfl) (Nat.le_of_ble_eq_true rfl) (fun r11 s12 => ?_)
          refine j_aload_n 41 dX12_change_40 rfl rfl ?_
          refine j_iload_n 42 dX12_change_41 rfl rfl ?_
          refine j_iload_n 43 dX12_change_42 rfl rfl ?_
          refine s_callVu (M2 := mX12_swap) [vI a1, vI a2] 46 oa68 cc12 mkX12_swap w_1600 dX12_change_43 rfl rfl (tX12_swap Θ l _ _  _) (by first | exact Nat.le_of_ble_eq_true rfl | omega) (Nat.le_of_ble_eq_true rfl) (Nat.le_of_ble_eq_true rfl) (fun r13 s14 => ?_)
          refine j_iconst (v := 1) 47 dX12_change_46 rfl (by decide) ?_
          exact s_iret dX12_change_47 rfl
-- X12_undo
def fX12_undo_L22  (κ : Mem → Option (Int32 × Mem))  : Nat → Int32 → Mem → Option (Int32 × Mem)
  | 0, _, _ => none
  | k + 1, x1, s =>
    if x1 < 7 then
      if inb ((8 * (s.1 68 32)) + x1) 480 = true then
      if inb x1 8 = true then
      fX12_undo_L22 κ k (x1 + 1) (wI s 79 (ix x1) (s.1 87 (ix ((8 * (s.1 68 32)) + x1))))
      else none
      else none
    else
      κ s
def fX12_undo   (s : Mem) : Option (Int32 × Mem) :=
if (s.1 68 32) = 0 then
  some ((-4), s)
else
  fX12_undo_L22 (fun s5 =>
    if inb ((8 * (s5.1 68 32)) + 7) 480 = true then
    some (s5.1 87 (ix ((8 * (s5.1 68 32)) + 7)), s5)
    else none)  FU 0 (wI s 68 32 ((s.1 68 32) - 1))
theorem tX12_undo_L22 (Θ : Th) (l : Launch)  (κ : Mem → Option (Int32 × Mem))   (hκ : ∀  (s : Mem), Js Θ l mX12_undo 1 gI 54 [some (vR 68), none] [] s (κ  s)) : ∀ (k : Nat) (x1 : Int32) (s : Mem), Js Θ l mX12_undo 1 gI 22 [some (vR 68), some (vI x1)] [] s (fX12_undo_L22 κ  k x1 s) := by
  intro k
  induction k with
  | zero => intro x1 s; exact j_none
  | succ k ih =>
    intro x1 s
    rw [fX12_undo_L22]
    refine j_iload_n 23 dX12_undo_22 rfl rfl ?_
    refine j_bipush (v := 7) 25 dX12_undo_23 rfl (by decide) ?_
    refine j_icmp_ge 54 28 dX12_undo_25 (by decide) rfl (fun c2 => ?_) (fun c2 => ?_)
    · refine j_aload_n 29 dX12_undo_28 rfl rfl ?_
      refine s_getR (x := 79) 32 fa68_16 w_1222 dX12_undo_29 rfl (by decide +kernel) ?_
      refine j_iload_n 33 dX12_undo_32 rfl rfl ?_
      refine j_aload_n 34 dX12_undo_33 rfl rfl ?_
      refine s_getR (x := 87) 37 fa68_33 w_1239 dX12_undo_34 rfl (by decide +kernel) ?_
      refine j_bipush (v := 8) 39 dX12_undo_37 rfl (by decide) ?_
      refine j_aload_n 40 dX12_undo_39 rfl rfl ?_
      refine s_getI 43 fa68_32 w_1238 dX12_undo_40 rfl ?_
      refine j_imul 44 dX12_undo_43 rfl ?_
      refine j_iload_n 45 dX12_undo_44 rfl rfl ?_
      refine j_iadd 46 dX12_undo_45 rfl ?_
      refine s_iaload 47 aa87 dX12_undo_46 rfl (fun b3 => ?_)
      refine s_iastore 48 aa79 dX12_undo_47 rfl (fun b4 => ?_)
      refine j_iinc (v := x1 + 1) (ls' := [some (vR 68), some (vI (x1 + 1))]) 51 dX12_undo_48 rfl rfl rfl (by decide) rfl rfl ?_
      refine j_goto 22 dX12_undo_51 (by decide) ?_
      refine j_sub (ls' := [some (vR 68), some (vI (x1 + 1))]) (And.intro rfl (And.intro rfl trivial)) ?_
      exact ih (x1 + 1) (wI s 79 (ix x1) (s.1 87 (ix ((8 * (s.1 68 32)) + x1))))
    · refine j_sub (ls' := [some (vR 68), none]) (And.intro rfl trivial) ?_
      exact hκ s
theorem tX12_undo (Θ : Th) (l : Launch)    (s : Mem) : Cs Θ l mX12_undo 1 gI [vR 68] s (fX12_undo  s) := by
  refine ct_of (by decide) [some (vR 68), none] rfl (Nat.le_of_ble_eq_true rfl) ?_
  unfold fX12_undo
  refine j_aload_n 1 dX12_undo_0 rfl rfl ?_
  refine s_getI 4 fa68_32 w_1238 dX12_undo_1 rfl ?_
  refine j_if_ne 10 7 dX12_undo_4 (by decide) rfl (fun c1 => ?_) (fun c1 => ?_)
  · refine j_bipush (v := (-4)) 9 dX12_undo_7 rfl (by decide) ?_
    exact s_iret dX12_undo_9 rfl
  · refine j_aload_n 11 dX12_undo_10 rfl rfl ?_
    refine j_dup 12 dX12_undo_11 rfl rfl ?_
    refine s_getI 15 fa68_32 w_1238 dX12_undo_12 rfl ?_
    refine j_iconst (v := 1) 16 dX12_undo_15 rfl (by decide) ?_
    refine j_isub 17 dX12_undo_16 rfl ?_
    refine s_putI 20 fa68_32 w_1238 dX12_undo_17 rfl ?_
    refine j_iconst (v := 0) 21 dX12_undo_20 rfl (by decide) ?_
    refine j_istore_n (i := 1) (ls' := [some (vR 68), some (vI 0)]) 22 dX12_undo_21 rfl rfl (by decide) rfl rfl ?_
    refine j_sub (ls' := [some (vR 68), some (vI 0)]) (And.intro rfl (And.intro rfl trivial)) ?_
    refine tX12_undo_L22 Θ l _   ?_ _ _ _
    intro s5
    refine j_aload_n 55 dX12_undo_54 rfl rfl ?_
    refine s_getR (x := 87) 58 fa68_33 w_1239 dX12_undo_55 rfl (by decide +kernel) ?_
    refine j_bipush (v := 8) 60 dX12_undo_58 rfl (by decide) ?_
    refine j_aload_n 61 dX12_undo_60 rfl rfl ?_
    refine s_getI 64 fa68_32 w_1238 dX12_undo_61 rfl ?_
    refine j_imul 65 dX12_undo_64 rfl ?_
    refine j_bipush (v := 7) 67 dX12_undo_65 rfl (by decide) ?_
    refine j_iadd 68 dX12_undo_67 rfl ?_
    refine s_iaload 69 aa87 dX12_undo_68 rfl (fun b6 => ?_)
    exact s_iret dX12_undo_69 rfl
-- X12_seatedMany
def fX12_seatedMany_L4  (κ : Int32 → Mem → Option (Int32 × Mem))  : Nat → Int32 → Int32 → Mem → Option (Int32 × Mem)
  | 0, _, _, _ => none
  | k + 1, x1, x2, s =>
    if x2 < (s.1 68 12) then
      if inb x2 8 = true then
      if (s.1 79 (ix x2)) = (-9) then
        nm (x1 + 0) (fun v4 =>
        fX12_seatedMany_L4 κ k v4 (x2 + 1) s)
      else
        nm (x1 + 1) (fun v5 =>
        fX12_seatedMany_L4 κ k v5 (x2 + 1) s)
      else none
    else
      κ x1 s
def fX12_seatedMany   (s : Mem) : Option (Int32 × Mem) :=
fX12_seatedMany_L4 (fun v6 s7 =>
  some (v6, s7))  FU 0 0 s
theorem tX12_seatedMany_L4 (Θ : Th) (l : Launch)  (κ : Int32 → Mem → Option (Int32 × Mem))   (hκ : ∀ (x1 : Int32) (s : Mem), Js Θ l mX12_seatedMany 1 gI 37 [none, some (vI x1), none] [] s (κ x1 s)) : ∀ (k : Nat) (x1 : Int32) (x2 : Int32) (s : Mem), Js Θ l mX12_seatedMany 1 gI 4 [some (vR 68), some (vI x1), some (vI x2)] [] s (fX12_seatedMany_L4 κ  k x1 x2 s) := by
  intro k
  induction k with
  | zero => intro x1 x2 s; exact j_none
  | succ k ih =>
    intro x1 x2 s
    rw [fX12_seatedMany_L4]
    refine j_iload_n 5 dX12_seatedMany_4 rfl rfl ?_
    refine j_aload_n 6 dX12_seatedMany_5 rfl rfl ?_
    refine s_getI 9 fa68_12 w_1218 dX12_seatedMany_6 rfl ?_
    refine j_icmp_ge 37 12 dX12_seatedMany_9 (by decide) rfl (fun c1 => ?_) (fun c1 => ?_)
    · refine j_iload_n 13 dX12_seatedMany_12 rfl rfl ?_
      refine j_aload_n 14 dX12_seatedMany_13 rfl rfl ?_
      refine s_getR (x := 79) 17 fa68_16 w_1222 dX12_seatedMany_14 rfl (by decide +kernel) ?_
      refine j_iload_n 18 dX12_seatedMany_17 rfl rfl ?_
      refine s_iaload 19 aa79 dX12_seatedMany_18 rfl (fun b2 => ?_)
      refine j_bipush (v := (-9)) 21 dX12_seatedMany_19 rfl (by decide) ?_
      refine j_icmp_ne 28 24 dX12_seatedMany_21 (by decide) rfl (fun c3 => ?_) (fun c3 => ?_)
      · refine j_iconst (v := 0) 25 dX12_seatedMany_24 rfl (by decide) ?_
        refine j_goto 29 dX12_seatedMany_25 (by decide) ?_
        refine j_iadd 30 dX12_seatedMany_29 rfl ?_
        refine s_nmI (fun v4 => ?_)
        refine j_istore_n (i := 1) (ls' := [some (vR 68), some (vI v4), some (vI x2)]) 31 dX12_seatedMany_30 rfl rfl (by decide) rfl rfl ?_
        refine j_iinc (v := x2 + 1) (ls' := [some (vR 68), some (vI v4), some (vI (x2 + 1))]) 34 dX12_seatedMany_31 rfl rfl rfl (by decide) rfl rfl ?_
        refine j_goto 4 dX12_seatedMany_34 (by decide) ?_
        refine j_sub (ls' := [some (vR 68), some (vI v4), some (vI (x2 + 1))]) (And.intro rfl (And.intro rfl (And.intro rfl trivial))) ?_
        exact ih v4 (x2 + 1) s
      · refine j_iconst (v := 1) 29 dX12_seatedMany_28 rfl (by decide) ?_
        refine j_iadd 30 dX12_seatedMany_29 rfl ?_
        refine s_nmI (fun v5 => ?_)
        refine j_istore_n (i := 1) (ls' := [some (vR 68), some (vI v5), some (vI x2)]) 31 dX12_seatedMany_30 rfl rfl (by decide) rfl rfl ?_
        refine j_iinc (v := x2 + 1) (ls' := [some (vR 68), some (vI v5), some (vI (x2 + 1))]) 34 dX12_seatedMany_31 rfl rfl rfl (by decide) rfl rfl ?_
        refine j_goto 4 dX12_seatedMany_34 (by decide) ?_
        refine j_sub (ls' := [some (vR 68), some (vI v5), some (vI (x2 + 1))]) (And.intro rfl (And.intro rfl (And.intro rfl trivial))) ?_
        exact ih v5 (x2 + 1) s
    · refine j_sub (ls' := [none, some (vI x1), none]) (And.intro rfl trivial) ?_
      exact hκ x1 s
theorem tX12_seatedMany (Θ : Th) (l : Launch)    (s : Mem) : Cs Θ l mX12_seatedMany 1 gI [vR 68] s (fX12_seatedMany  s) := by
  refine ct_of (by decide) [some (vR 68), none, none] rfl (Nat.le_of_ble_eq_true rfl) ?_
  unfold fX12_seatedMany
  refine j_iconst (v := 0) 1 dX12_seatedMany_0 rfl (by decide) ?_
  refine j_istore_n (i := 1) (ls' := [some (vR 68), some (vI 0), none]) 2 dX12_seatedMany_1 rfl rfl (by decide) rfl rfl ?_
  refine j_iconst (v := 0) 3 dX12_seatedMany_2 rfl (by decide) ?_
  refine j_istore_n (i := 2) (ls' := [some (vR 68), some (vI 0), some (vI 0)]) 4 dX12_seatedMany_3 rfl rfl (by decide) rfl rfl ?_
  refine j_sub (ls' := [some (vR 68), some (vI 0), some (vI 0)]) (And.intro rfl (And.intro rfl (And.intro rfl trivial))) ?_
  refine tX12_seatedMany_L4 Θ l _   ?_ _ _ _ _
  intro v6 s7
  refine j_iload_n 38 dX12_seatedMany_37 rfl rfl ?_
  exact s_iret dX12_seatedMany_38 rfl
-- X12_keep
def fX12_keep_L23  (κ : Mem → Option (Int32 × Mem)) (y1 : Int32) : Nat → Int32 → Mem → Option (Int32 × Mem)
  | 0, _, _ => none
  | k + 1, x2, s =>
    if x2 < 7 then
      if inb x2 8 = true then
      if inb ((7 * y1) + x2) 21 = true then
      fX12_keep_L23 κ y1 k (x2 + 1) (wI s 89 (ix ((7 * y1) + x2)) (s.1 79 (ix x2)))
      else none
      else none
    else
      κ s
def fX12_keep  (a1 : Int32) (s : Mem) : Option (Int32 × Mem) :=
bnd (fX12_in a1 0 2 s) (fun r1 s2 =>
if r1 = 0 then
  some ((-1), s2)
else
  if (s2.1 68 10) = 0 then
    some ((-4), s2)
  else
    fX12_keep_L23 (fun s8 =>
      if inb a1 3 = true then
      bnd (fX12_seatedMany (wI s8 88 (ix a1) (vp_nar .boolean 1))) (fun r10 s11 =>
      some (r10, s11))
      else none) a1 FU 0 s2)
theorem tX12_keep_L23 (Θ : Th) (l : Launch)  (κ : Mem → Option (Int32 × Mem)) (y1 : Int32)  (hκ : ∀  (s : Mem), Js Θ l mX12_keep 2 gI 52 [some (vR 68), some (vI y1), none] [] s (κ  s)) : ∀ (k : Nat) (x2 : Int32) (s : Mem), Js Θ l mX12_keep 2 gI 23 [some (vR 68), some (vI y1), some (vI x2)] [] s (fX12_keep_L23 κ y1 k x2 s) := by
  intro k
  induction k with
  | zero => intro x2 s; exact j_none
  | succ k ih =>
    intro x2 s
    rw [fX12_keep_L23]
    refine j_iload_n 24 dX12_keep_23 rfl rfl ?_
    refine j_bipush (v := 7) 26 dX12_keep_24 rfl (by decide) ?_
    refine j_icmp_ge 52 29 dX12_keep_26 (by decide) rfl (fun c5 => ?_) (fun c5 => ?_)
    · refine j_aload_n 30 dX12_keep_29 rfl rfl ?_
      refine s_getR (x := 89) 33 fa68_35 w_1241 dX12_keep_30 rfl (by decide +kernel) ?_
      refine j_bipush (v := 7) 35 dX12_keep_33 rfl (by decide) ?_
      refine j_iload_n 36 dX12_keep_35 rfl rfl ?_
      refine j_imul 37 dX12_keep_36 rfl ?_
      refine j_iload_n 38 dX12_keep_37 rfl rfl ?_
      refine j_iadd 39 dX12_keep_38 rfl ?_
      refine j_aload_n 40 dX12_keep_39 rfl rfl ?_
      refine s_getR (x := 79) 43 fa68_16 w_1222 dX12_keep_40 rfl (by decide +kernel) ?_
      refine j_iload_n 44 dX12_keep_43 rfl rfl ?_
      refine s_iaload 45 aa79 dX12_keep_44 rfl (fun b6 => ?_)
      refine s_iastore 46 aa89 dX12_keep_45 rfl (fun b7 => ?_)
      refine j_iinc (v := x2 + 1) (ls' := [some (vR 68), some (vI y1), some (vI (x2 + 1))]) 49 dX12_keep_46 rfl rfl rfl (by decide) rfl rfl ?_
      refine j_goto 23 dX12_keep_49 (by decide) ?_
      refine j_sub (ls' := [some (vR 68), some (vI y1), some (vI (x2 + 1))]) (And.intro rfl (And.intro rfl (And.intro rfl trivial))) ?_
      exact ih (x2 + 1) (wI s 89 (ix ((7 * y1) + x2)) (s.1 79 (ix x2)))
    · refine j_sub (ls' := [some (vR 68), some (vI y1), none]) (And.intro rfl (And.intro rfl trivial)) ?_
      exact hκ s
theorem tX12_keep (Θ : Th) (l : Launch)  (a1 : Int32)  (s : Mem) : Cs Θ l mX12_keep 2 gI [vR 68, vI a1] s (fX12_keep a1 s) := by
  refine ct_of (by decide) [some (vR 68), some (vI a1), none] rfl (Nat.le_of_ble_eq_true rfl) ?_
  unfold fX12_keep
  refine j_iload_n 1 dX12_keep_0 rfl rfl ?_
  refine j_iconst (v := 0) 2 dX12_keep_1 rfl (by decide) ?_
  refine j_iconst (v := 2) 3 dX12_keep_2 rfl (by decide) ?_
  refine s_callSi (M2 := mX12_in) [vI a1, vI 0, vI 2] 6 mkX12_in (Or.inl w_1380) dX12_keep_3 rfl rfl (tX12_in Θ l _ _ _  _) (by first | exact Nat.le_of_ble_eq_true rfl | omega) (Nat.le_of_ble_eq_true rfl) (Nat.le_of_ble_eq_true rfl) (fun r1 s2 => ?_)
  refine j_if_ne 11 9 dX12_keep_6 (by decide) rfl (fun c3 => ?_) (fun c3 => ?_)
  · refine j_iconst (v := (-1)) 10 dX12_keep_9 rfl (by decide) ?_
    exact s_iret dX12_keep_10 rfl
  · refine j_aload_n 12 dX12_keep_11 rfl rfl ?_
    refine s_getI 15 fa68_10 w_1216 dX12_keep_12 rfl ?_
    refine j_if_ne 21 18 dX12_keep_15 (by decide) rfl (fun c4 => ?_) (fun c4 => ?_)
    · refine j_bipush (v := (-4)) 20 dX12_keep_18 rfl (by decide) ?_
      exact s_iret dX12_keep_20 rfl
    · refine j_iconst (v := 0) 22 dX12_keep_21 rfl (by decide) ?_
      refine j_istore_n (i := 2) (ls' := [some (vR 68), some (vI a1), some (vI 0)]) 23 dX12_keep_22 rfl rfl (by decide) rfl rfl ?_
      refine j_sub (ls' := [some (vR 68), some (vI a1), some (vI 0)]) (And.intro rfl (And.intro rfl (And.intro rfl trivial))) ?_
      refine tX12_keep_L23 Θ l _ _  ?_ _ _ _
      intro s8
      refine j_aload_n 53 dX12_keep_52 rfl rfl ?_
      refine s_getR (x := 88) 56 fa68_34 w_1240 dX12_keep_53 rfl (by decide +kernel) ?_
      refine j_iload_n 57 dX12_keep_56 rfl rfl ?_
      refine j_iconst (v := 1) 58 dX12_keep_57 rfl (by decide) ?_
      refine s_zastore 59 aa88 dX12_keep_58 rfl (fun b9 => ?_)
      refine j_aload_n 60 dX12_keep_59 rfl rfl ?_
      refine s_callVi (M2 := mX12_seatedMany) [] 63 oa68 cc12 mkX12_seatedMany w_1612 dX12_keep_60 rfl rfl (tX12_seatedMany Θ l   _) (by first | exact Nat.le_of_ble_eq_true rfl | omega) (Nat.le_of_ble_eq_true rfl) (Nat.le_of_ble_eq_true rfl) (fun r10 s11 => ?_)
      exact s_iret dX12_keep_63 rfl
-- X12_on
def fX12_on_L28  (κ : Mem → Option (Int32 × Mem)) (y1 : Int32) : Nat → Int32 → Mem → Option (Int32 × Mem)
  | 0, _, _ => none
  | k + 1, x2, s =>
    if x2 < 7 then
      if inb ((7 * y1) + x2) 21 = true then
      if inb x2 8 = true then
      fX12_on_L28 κ y1 k (x2 + 1) (wI s 79 (ix x2) (s.1 89 (ix ((7 * y1) + x2))))
      else none
      else none
    else
      κ s
def fX12_on  (a1 : Int32) (s : Mem) : Option (Int32 × Mem) :=
bnd (fX12_in a1 0 2 s) (fun r1 s2 =>
if r1 = 0 then
  some ((-1), s2)
else
  if inb a1 3 = true then
  if (s2.1 88 (ix a1)) = 0 then
    bnd (fX12_meets 1 s2) (fun r6 s7 =>
    some (r6, s7))
  else
    fX12_on_L28 (fun s11 =>
      bnd (fX12_seatedMany (wI s11 68 32 0)) (fun r12 s13 =>
      some (r12, s13))) a1 FU 0 s2
  else none)
theorem tX12_on_L28 (Θ : Th) (l : Launch)  (κ : Mem → Option (Int32 × Mem)) (y1 : Int32)  (hκ : ∀  (s : Mem), Js Θ l mX12_on 2 gI 57 [some (vR 68), none, none] [] s (κ  s)) : ∀ (k : Nat) (x2 : Int32) (s : Mem), Js Θ l mX12_on 2 gI 28 [some (vR 68), some (vI y1), some (vI x2)] [] s (fX12_on_L28 κ y1 k x2 s) := by
  intro k
  induction k with
  | zero => intro x2 s; exact j_none
  | succ k ih =>
    intro x2 s
    rw [fX12_on_L28]
    refine j_iload_n 29 dX12_on_28 rfl rfl ?_
    refine j_bipush (v := 7) 31 dX12_on_29 rfl (by decide) ?_
    refine j_icmp_ge 57 34 dX12_on_31 (by decide) rfl (fun c8 => ?_) (fun c8 => ?_)
    · refine j_aload_n 35 dX12_on_34 rfl rfl ?_
      refine s_getR (x := 79) 38 fa68_16 w_1222 dX12_on_35 rfl (by decide +kernel) ?_
      refine j_iload_n 39 dX12_on_38 rfl rfl ?_
      refine j_aload_n 40 dX12_on_39 rfl rfl ?_
      refine s_getR (x := 89) 43 fa68_35 w_1241 dX12_on_40 rfl (by decide +kernel) ?_
      refine j_bipush (v := 7) 45 dX12_on_43 rfl (by decide) ?_
      refine j_iload_n 46 dX12_on_45 rfl rfl ?_
      refine j_imul 47 dX12_on_46 rfl ?_
      refine j_iload_n 48 dX12_on_47 rfl rfl ?_
      refine j_iadd 49 dX12_on_48 rfl ?_
      refine s_iaload 50 aa89 dX12_on_49 rfl (fun b9 => ?_)
      refine s_iastore 51 aa79 dX12_on_50 rfl (fun b10 => ?_)
      refine j_iinc (v := x2 + 1) (ls' := [some (vR 68), some (vI y1), some (vI (x2 + 1))]) 54 dX12_on_51 rfl rfl rfl (by decide) rfl rfl ?_
      refine j_goto 28 dX12_on_54 (by decide) ?_
      refine j_sub (ls' := [some (vR 68), some (vI y1), some (vI (x2 + 1))]) (And.intro rfl (And.intro rfl (And.intro rfl trivial))) ?_
      exact ih (x2 + 1) (wI s 79 (ix x2) (s.1 89 (ix ((7 * y1) + x2))))
    · refine j_sub (ls' := [some (vR 68), none, none]) (And.intro rfl trivial) ?_
      exact hκ s
theorem tX12_on (Θ : Th) (l : Launch)  (a1 : Int32)  (s : Mem) : Cs Θ l mX12_on 2 gI [vR 68, vI a1] s (fX12_on a1 s) := by
  refine ct_of (by decide) [some (vR 68), some (vI a1), none] rfl (Nat.le_of_ble_eq_true rfl) ?_
  unfold fX12_on
  refine j_iload_n 1 dX12_on_0 rfl rfl ?_
  refine j_iconst (v := 0) 2 dX12_on_1 rfl (by decide) ?_
  refine j_iconst (v := 2) 3 dX12_on_2 rfl (by decide) ?_
  refine s_callSi (M2 := mX12_in) [vI a1, vI 0, vI 2] 6 mkX12_in (Or.inl w_1380) dX12_on_3 rfl rfl (tX12_in Θ l _ _ _  _) (by first | exact Nat.le_of_ble_eq_true rfl | omega) (Nat.le_of_ble_eq_true rfl) (Nat.le_of_ble_eq_true rfl) (fun r1 s2 => ?_)
  refine j_if_ne 11 9 dX12_on_6 (by decide) rfl (fun c3 => ?_) (fun c3 => ?_)
  · refine j_iconst (v := (-1)) 10 dX12_on_9 rfl (by decide) ?_
    exact s_iret dX12_on_10 rfl
  · refine j_aload_n 12 dX12_on_11 rfl rfl ?_
    refine s_getR (x := 88) 15 fa68_34 w_1240 dX12_on_12 rfl (by decide +kernel) ?_
    refine j_iload_n 16 dX12_on_15 rfl rfl ?_
    refine s_baload 17 (Or.inr aa88) dX12_on_16 rfl (fun b4 => ?_)
    refine j_if_ne 26 20 dX12_on_17 (by decide) rfl (fun c5 => ?_) (fun c5 => ?_)
    · refine j_aload_n 21 dX12_on_20 rfl rfl ?_
      refine j_iconst (v := 1) 22 dX12_on_21 rfl (by decide) ?_
      refine s_callVi (M2 := mX12_meets) [vI 1] 25 oa68 cc12 mkX12_meets w_1402 dX12_on_22 rfl rfl (tX12_meets Θ l _  _) (by first | exact Nat.le_of_ble_eq_true rfl | omega) (Nat.le_of_ble_eq_true rfl) (Nat.le_of_ble_eq_true rfl) (fun r6 s7 => ?_)
      exact s_iret dX12_on_25 rfl
    · refine j_iconst (v := 0) 27 dX12_on_26 rfl (by decide) ?_
      refine j_istore_n (i := 2) (ls' := [some (vR 68), some (vI a1), some (vI 0)]) 28 dX12_on_27 rfl rfl (by decide) rfl rfl ?_
      refine j_sub (ls' := [some (vR 68), some (vI a1), some (vI 0)]) (And.intro rfl (And.intro rfl (And.intro rfl trivial))) ?_
      refine tX12_on_L28 Θ l _ _  ?_ _ _ _
      intro s11
      refine j_aload_n 58 dX12_on_57 rfl rfl ?_
      refine j_iconst (v := 0) 59 dX12_on_58 rfl (by decide) ?_
      refine s_putI 62 fa68_32 w_1238 dX12_on_59 rfl ?_
      refine j_aload_n 63 dX12_on_62 rfl rfl ?_
      refine s_callVi (M2 := mX12_seatedMany) [] 66 oa68 cc12 mkX12_seatedMany w_1612 dX12_on_63 rfl rfl (tX12_seatedMany Θ l   _) (by first | exact Nat.le_of_ble_eq_true rfl | omega) (Nat.le_of_ble_eq_true rfl) (Nat.le_of_ble_eq_true rfl) (fun r12 s13 => ?_)
      exact s_iret dX12_on_66 rfl
-- X12_listOf
def fX12_listOf_L5  (κ : Int32 → Mem → Option (Int32 × Mem)) (y1 : Int32) : Nat → Int32 → Int32 → Mem → Option (Int32 × Mem)
  | 0, _, _, _ => none
  | k + 1, x3, x4, s =>
    if x4 < (s.1 68 12) then
      if inb x4 8 = true then
      if (s.1 79 (ix x4)) = (-9) then
        nm (x3 + 0) (fun v4 =>
        fX12_listOf_L5 κ y1 k v4 (x4 + 1) s)
      else
        if inb x4 8 = true then
        bnd (fX12_momentOf x4 (s.1 79 (ix x4)) y1 s) (fun r6 s7 =>
        nm (x3 + r6) (fun v8 =>
        fX12_listOf_L5 κ y1 k v8 (x4 + 1) s7))
        else none
      else none
    else
      κ x3 s
def fX12_listOf  (a1 : Int32) (a2 : Int32) (s : Mem) : Option (Int32 × Mem) :=
fX12_listOf_L5 (fun v9 s10 =>
  some (v9, s10)) a1 FU a2 0 s
theorem tX12_listOf_L5 (Θ : Th) (l : Launch)  (κ : Int32 → Mem → Option (Int32 × Mem)) (y1 : Int32)  (hκ : ∀ (x3 : Int32) (s : Mem), Js Θ l mX12_listOf 4 gI 53 [none, none, none, some (vI x3), none] [] s (κ x3 s)) : ∀ (k : Nat) (x3 : Int32) (x4 : Int32) (s : Mem), Js Θ l mX12_listOf 4 gI 5 [some (vR 68), some (vI y1), none, some (vI x3), some (vI x4)] [] s (fX12_listOf_L5 κ y1 k x3 x4 s) := by
  intro k
  induction k with
  | zero => intro x3 x4 s; exact j_none
  | succ k ih =>
    intro x3 x4 s
    rw [fX12_listOf_L5]
    refine j_iload 7 dX12_listOf_5 rfl rfl ?_
    refine j_aload_n 8 dX12_listOf_7 rfl rfl ?_
    refine s_getI 11 fa68_12 w_1218 dX12_listOf_8 rfl ?_
    refine j_icmp_ge 53 14 dX12_listOf_11 (by decide) rfl (fun c1 => ?_) (fun c1 => ?_)
    · refine j_iload_n 15 dX12_listOf_14 rfl rfl ?_
      refine j_aload_n 16 dX12_listOf_15 rfl rfl ?_
      refine s_getR (x := 79) 19 fa68_16 w_1222 dX12_listOf_16 rfl (by decide +kernel) ?_
      refine j_iload 21 dX12_listOf_19 rfl rfl ?_
      refine s_iaload 22 aa79 dX12_listOf_21 rfl (fun b2 => ?_)
      refine j_bipush (v := (-9)) 24 dX12_listOf_22 rfl (by decide) ?_
      refine j_icmp_ne 31 27 dX12_listOf_24 (by decide) rfl (fun c3 => ?_) (fun c3 => ?_)
      · refine j_iconst (v := 0) 28 dX12_listOf_27 rfl (by decide) ?_
        refine j_goto 45 dX12_listOf_28 (by decide) ?_
        refine j_iadd 46 dX12_listOf_45 rfl ?_
        refine s_nmI (fun v4 => ?_)
        refine j_istore_n (i := 3) (ls' := [some (vR 68), some (vI y1), none, some (vI v4), some (vI x4)]) 47 dX12_listOf_46 rfl rfl (by decide) rfl rfl ?_
        refine j_iinc (v := x4 + 1) (ls' := [some (vR 68), some (vI y1), none, some (vI v4), some (vI (x4 + 1))]) 50 dX12_listOf_47 rfl rfl rfl (by decide) rfl rfl ?_
        refine j_goto 5 dX12_listOf_50 (by decide) ?_
        refine j_sub (ls' := [some (vR 68), some (vI y1), none, some (vI v4), some (vI (x4 + 1))]) (And.intro rfl (And.intro rfl (And.intro rfl (And.intro rfl trivial)))) ?_
        exact ih v4 (x4 + 1) s
      · refine j_aload_n 32 dX12_listOf_31 rfl rfl ?_
        refine j_iload 34 dX12_listOf_32 rfl rfl ?_
        refine j_aload_n 35 dX12_listOf_34 rfl rfl ?_
        refine s_getR (x := 79) 38 fa68_16 w_1222 dX12_listOf_35 rfl (by decide +kernel) ?_
        refine j_iload 40 dX12_listOf_38 rfl rfl ?_
        refine s_iaload 41 aa79 dX12_listOf_40 rfl (fun b5 => ?_)
        refine j_iload_n 42 dX12_listOf_41 rfl rfl ?_
        refine s_callVi (M2 := mX12_momentOf) [vI x4, vI (s.1 79 (ix x4)), vI y1] 45 oa68 cc12 mkX12_momentOf w_1531 dX12_listOf_42 rfl rfl (tX12_momentOf Θ l _ _ _  _) (by first | exact Nat.le_of_ble_eq_true rfl | omega) (Nat.le_of_ble_eq_true rfl) (Nat.le_of_ble_eq_true rfl) (fun r6 s7 => ?_)
        refine j_iadd 46 dX12_listOf_45 rfl ?_
        refine s_nmI (fun v8 => ?_)
        refine j_istore_n (i := 3) (ls' := [some (vR 68), some (vI y1), none, some (vI v8), some (vI x4)]) 47 dX12_listOf_46 rfl rfl (by decide) rfl rfl ?_
        refine j_iinc (v := x4 + 1) (ls' := [some (vR 68), some (vI y1), none, some (vI v8), some (vI (x4 + 1))]) 50 dX12_listOf_47 rfl rfl rfl (by decide) rfl rfl ?_
        refine j_goto 5 dX12_listOf_50 (by decide) ?_
        refine j_sub (ls' := [some (vR 68), some (vI y1), none, some (vI v8), some (vI (x4 + 1))]) (And.intro rfl (And.intro rfl (And.intro rfl (And.intro rfl trivial)))) ?_
        exact ih v8 (x4 + 1) s7
    · refine j_sub (ls' := [none, none, none, some (vI x3), none]) (And.intro rfl trivial) ?_
      exact hκ x3 s
theorem tX12_listOf (Θ : Th) (l : Launch)  (a1 : Int32) (a2 : Int32)  (s : Mem) : Cs Θ l mX12_listOf 4 gI [vR 68, vI a1, vI a2] s (fX12_listOf a1 a2 s) := by
  refine ct_of (by decide) [some (vR 68), some (vI a1), some (vI a2), none, none] rfl (Nat.le_of_ble_eq_true rfl) ?_
  unfold fX12_listOf
  refine j_iload_n 1 dX12_listOf_0 rfl rfl ?_
  refine j_istore_n (i := 3) (ls' := [some (vR 68), some (vI a1), some (vI a2), some (vI a2), none]) 2 dX12_listOf_1 rfl rfl (by decide) rfl rfl ?_
  refine j_iconst (v := 0) 3 dX12_listOf_2 rfl (by decide) ?_
  refine j_istore (i := 4) (ls' := [some (vR 68), some (vI a1), some (vI a2), some (vI a2), some (vI 0)]) 5 dX12_listOf_3 rfl (by decide) rfl rfl ?_
  refine j_sub (ls' := [some (vR 68), some (vI a1), none, some (vI a2), some (vI 0)]) (And.intro rfl (And.intro rfl (And.intro rfl (And.intro rfl trivial)))) ?_
  refine tX12_listOf_L5 Θ l _ _  ?_ _ _ _ _
  intro v9 s10
  refine j_iload_n 54 dX12_listOf_53 rfl rfl ?_
  exact s_iret dX12_listOf_54 rfl
-- X12_isLevel
def fX12_isLevel  (a1 : Int32) (s : Mem) : Option (Int32 × Mem) :=
bnd (fX12_sizeOf a1 s) (fun r1 s2 =>
if (s2.1 68 17) < r1 then
  some (0, s2)
else
  some (1, s2))
theorem tX12_isLevel (Θ : Th) (l : Launch)  (a1 : Int32)  (s : Mem) : Cs Θ l mX12_isLevel 2 gI [vR 68, vI a1] s (fX12_isLevel a1 s) := by
  refine ct_of (by decide) [some (vR 68), some (vI a1)] rfl (Nat.le_of_ble_eq_true rfl) ?_
  unfold fX12_isLevel
  refine j_iload_n 1 dX12_isLevel_0 rfl rfl ?_
  refine s_callSi (M2 := mX12_sizeOf) [vI a1] 4 mkX12_sizeOf (Or.inl w_1539) dX12_isLevel_1 rfl rfl (tX12_sizeOf Θ l _  _) (by first | exact Nat.le_of_ble_eq_true rfl | omega) (Nat.le_of_ble_eq_true rfl) (Nat.le_of_ble_eq_true rfl) (fun r1 s2 => ?_)
  refine j_aload_n 5 dX12_isLevel_4 rfl rfl ?_
  refine s_getI 8 fa68_17 w_1223 dX12_isLevel_5 rfl ?_
  refine j_icmp_gt 15 11 dX12_isLevel_8 (by decide) rfl (fun c3 => ?_) (fun c3 => ?_)
  · refine j_iconst (v := 0) 16 dX12_isLevel_15 rfl (by decide) ?_
    exact s_zret dX12_isLevel_16 rfl (by decide)
  · refine j_iconst (v := 1) 12 dX12_isLevel_11 rfl (by decide) ?_
    refine j_goto 16 dX12_isLevel_12 (by decide) ?_
    exact s_zret dX12_isLevel_16 rfl (by decide)
-- X12_list
def fX12_list  (a1 : Int32) (s : Mem) : Option (Int32 × Mem) :=
bnd (fX12_in a1 0 2 s) (fun r1 s2 =>
if r1 = 0 then
  some ((-1), s2)
else
  bnd (fX12_listOf a1 (s2.1 68 18) s2) (fun r4 s5 =>
  bnd (fX12_isLevel r4 s5) (fun r6 s7 =>
  if r6 = 0 then
    bnd (fX12_tells r4 0 s7) (fun r9 s10 =>
    some (r9, s10))
  else
    bnd (fX12_tells r4 1 s7) (fun r11 s12 =>
    some (r11, s12)))))
theorem tX12_list (Θ : Th) (l : Launch)  (a1 : Int32)  (s : Mem) : Cs Θ l mX12_list 5 gI [vR 68, vI a1] s (fX12_list a1 s) := by
  refine ct_of (by decide) [some (vR 68), some (vI a1), none] rfl (Nat.le_of_ble_eq_true rfl) ?_
  unfold fX12_list
  refine j_iload_n 1 dX12_list_0 rfl rfl ?_
  refine j_iconst (v := 0) 2 dX12_list_1 rfl (by decide) ?_
  refine j_iconst (v := 2) 3 dX12_list_2 rfl (by decide) ?_
  refine s_callSi (M2 := mX12_in) [vI a1, vI 0, vI 2] 6 mkX12_in (Or.inl w_1380) dX12_list_3 rfl rfl (tX12_in Θ l _ _ _  _) (by first | exact Nat.le_of_ble_eq_true rfl | omega) (Nat.le_of_ble_eq_true rfl) (Nat.le_of_ble_eq_true rfl) (fun r1 s2 => ?_)
  refine j_if_ne 11 9 dX12_list_6 (by decide) rfl (fun c3 => ?_) (fun c3 => ?_)
  · refine j_iconst (v := (-1)) 10 dX12_list_9 rfl (by decide) ?_
    exact s_iret dX12_list_10 rfl
  · refine j_aload_n 12 dX12_list_11 rfl rfl ?_
    refine j_iload_n 13 dX12_list_12 rfl rfl ?_
    refine j_aload_n 14 dX12_list_13 rfl rfl ?_
    refine s_getI 17 fa68_18 w_1224 dX12_list_14 rfl ?_
    refine s_callVi (M2 := mX12_listOf) [vI a1, vI (s2.1 68 18)] 20 oa68 cc12 mkX12_listOf w_1624 dX12_list_17 rfl rfl (tX12_listOf Θ l _ _  _) (by first | exact Nat.le_of_ble_eq_true rfl | omega) (Nat.le_of_ble_eq_true rfl) (Nat.le_of_ble_eq_true rfl) (fun r4 s5 => ?_)
    refine j_istore_n (i := 2) (ls' := [some (vR 68), some (vI a1), some (vI r4)]) 21 dX12_list_20 rfl rfl (by decide) rfl rfl ?_
    refine j_aload_n 22 dX12_list_21 rfl rfl ?_
    refine j_iload_n 23 dX12_list_22 rfl rfl ?_
    refine j_aload_n 24 dX12_list_23 rfl rfl ?_
    refine j_iload_n 25 dX12_list_24 rfl rfl ?_
    refine s_callVi (M2 := mX12_isLevel) [vI r4] 28 oa68 cc12 mkX12_isLevel w_1628 dX12_list_25 rfl rfl (tX12_isLevel Θ l _  _) (by first | exact Nat.le_of_ble_eq_true rfl | omega) (Nat.le_of_ble_eq_true rfl) (Nat.le_of_ble_eq_true rfl) (fun r6 s7 => ?_)
    refine j_if_eq 35 31 dX12_list_28 (by decide) rfl (fun c8 => ?_) (fun c8 => ?_)
    · refine j_iconst (v := 0) 36 dX12_list_35 rfl (by decide) ?_
      refine s_callVi (M2 := mX12_tells) [vI r4, vI 0] 39 oa68 cc12 mkX12_tells w_1414 dX12_list_36 rfl rfl (tX12_tells Θ l _ _  _) (by first | exact Nat.le_of_ble_eq_true rfl | omega) (Nat.le_of_ble_eq_true rfl) (Nat.le_of_ble_eq_true rfl) (fun r9 s10 => ?_)
      exact s_iret dX12_list_39 rfl
    · refine j_iconst (v := 1) 32 dX12_list_31 rfl (by decide) ?_
      refine j_goto 36 dX12_list_32 (by decide) ?_
      refine s_callVi (M2 := mX12_tells) [vI r4, vI 1] 39 oa68 cc12 mkX12_tells w_1414 dX12_list_36 rfl rfl (tX12_tells Θ l _ _  _) (by first | exact Nat.le_of_ble_eq_true rfl | omega) (Nat.le_of_ble_eq_true rfl) (Nat.le_of_ble_eq_true rfl) (fun r11 s12 => ?_)
      exact s_iret dX12_list_39 rfl
-- X12_when
def fX12_when_L2  (κ : Mem → Option (Int32 × Mem))  : Nat → Int32 → Mem → Option (Int32 × Mem)
  | 0, _, _ => none
  | k + 1, x1, s =>
    if x1 < (s.1 68 19) then
      if inb x1 40 = true then
      bnd (fX12_listOf (s.1 80 (ix x1)) (s.1 68 18) s) (fun r3 s4 =>
      bnd (fX12_isLevel r3 s4) (fun r5 s6 =>
      if r5 = 0 then
        bnd (fX12_tells r3 x1 s6) (fun r8 s9 =>
        some (r8, s9))
      else
        fX12_when_L2 κ k (x1 + 1) s6))
      else none
    else
      κ s
def fX12_when   (s : Mem) : Option (Int32 × Mem) :=
fX12_when_L2 (fun s10 =>
  some ((-9), s10))  FU 0 s
theorem tX12_when_L2 (Θ : Th) (l : Launch)  (κ : Mem → Option (Int32 × Mem))   (hκ : ∀  (s : Mem), Js Θ l mX12_when 5 gI 46 [none, none, none] [] s (κ  s)) : ∀ (k : Nat) (x1 : Int32) (s : Mem), Js Θ l mX12_when 5 gI 2 [some (vR 68), some (vI x1), none] [] s (fX12_when_L2 κ  k x1 s) := by
  intro k
  induction k with
  | zero => intro x1 s; exact j_none
  | succ k ih =>
    intro x1 s
    rw [fX12_when_L2]
    refine j_iload_n 3 dX12_when_2 rfl rfl ?_
    refine j_aload_n 4 dX12_when_3 rfl rfl ?_
    refine s_getI 7 fa68_19 w_1225 dX12_when_4 rfl ?_
    refine j_icmp_ge 46 10 dX12_when_7 (by decide) rfl (fun c1 => ?_) (fun c1 => ?_)
    · refine j_aload_n 11 dX12_when_10 rfl rfl ?_
      refine j_aload_n 12 dX12_when_11 rfl rfl ?_
      refine s_getR (x := 80) 15 fa68_20 w_1226 dX12_when_12 rfl (by decide +kernel) ?_
      refine j_iload_n 16 dX12_when_15 rfl rfl ?_
      refine s_iaload 17 aa80 dX12_when_16 rfl (fun b2 => ?_)
      refine j_aload_n 18 dX12_when_17 rfl rfl ?_
      refine s_getI 21 fa68_18 w_1224 dX12_when_18 rfl ?_
      refine s_callVi (M2 := mX12_listOf) [vI (s.1 80 (ix x1)), vI (s.1 68 18)] 24 oa68 cc12 mkX12_listOf w_1624 dX12_when_21 rfl rfl (tX12_listOf Θ l _ _  _) (by first | exact Nat.le_of_ble_eq_true rfl | omega) (Nat.le_of_ble_eq_true rfl) (Nat.le_of_ble_eq_true rfl) (fun r3 s4 => ?_)
      refine j_istore_n (i := 2) (ls' := [some (vR 68), some (vI x1), some (vI r3)]) 25 dX12_when_24 rfl rfl (by decide) rfl rfl ?_
      refine j_aload_n 26 dX12_when_25 rfl rfl ?_
      refine j_iload_n 27 dX12_when_26 rfl rfl ?_
      refine s_callVi (M2 := mX12_isLevel) [vI r3] 30 oa68 cc12 mkX12_isLevel w_1628 dX12_when_27 rfl rfl (tX12_isLevel Θ l _  _) (by first | exact Nat.le_of_ble_eq_true rfl | omega) (Nat.le_of_ble_eq_true rfl) (Nat.le_of_ble_eq_true rfl) (fun r5 s6 => ?_)
      refine j_if_ne 40 33 dX12_when_30 (by decide) rfl (fun c7 => ?_) (fun c7 => ?_)
      · refine j_aload_n 34 dX12_when_33 rfl rfl ?_
        refine j_iload_n 35 dX12_when_34 rfl rfl ?_
        refine j_iload_n 36 dX12_when_35 rfl rfl ?_
        refine s_callVi (M2 := mX12_tells) [vI r3, vI x1] 39 oa68 cc12 mkX12_tells w_1414 dX12_when_36 rfl rfl (tX12_tells Θ l _ _  _) (by first | exact Nat.le_of_ble_eq_true rfl | omega) (Nat.le_of_ble_eq_true rfl) (Nat.le_of_ble_eq_true rfl) (fun r8 s9 => ?_)
        exact s_iret dX12_when_39 rfl
      · refine j_iinc (v := x1 + 1) (ls' := [some (vR 68), some (vI (x1 + 1)), some (vI r3)]) 43 dX12_when_40 rfl rfl rfl (by decide) rfl rfl ?_
        refine j_goto 2 dX12_when_43 (by decide) ?_
        refine j_sub (ls' := [some (vR 68), some (vI (x1 + 1)), none]) (And.intro rfl (And.intro rfl trivial)) ?_
        exact ih (x1 + 1) s6
    · refine j_sub (ls' := [none, none, none]) (trivial) ?_
      exact hκ s
theorem tX12_when (Θ : Th) (l : Launch)    (s : Mem) : Cs Θ l mX12_when 5 gI [vR 68] s (fX12_when  s) := by
  refine ct_of (by decide) [some (vR 68), none, none] rfl (Nat.le_of_ble_eq_true rfl) ?_
  unfold fX12_when
  refine j_iconst (v := 0) 1 dX12_when_0 rfl (by decide) ?_
  refine j_istore_n (i := 1) (ls' := [some (vR 68), some (vI 0), none]) 2 dX12_when_1 rfl rfl (by decide) rfl rfl ?_
  refine j_sub (ls' := [some (vR 68), some (vI 0), none]) (And.intro rfl (And.intro rfl trivial)) ?_
  refine tX12_when_L2 Θ l _   ?_ _ _ _
  intro s10
  refine j_bipush (v := (-9)) 48 dX12_when_46 rfl (by decide) ?_
  exact s_iret dX12_when_48 rfl
