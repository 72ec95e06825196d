-- the constructors (by a program)
theorem j_iastoreC {α : Type} {Θ : Th} {l : Launch} {M : Mi} {h : Nat} {G : α → Option AV} {T : Tg} {N : Nat} {ρ : Rf} {ce sl pc : Nat} {ls : List (Option AV)} {st : List AV} {s : Mem} {o : Option (α × Mem)} {q : Nat} {i x : Int32} (n : Nat) (hd : decode M.2.1 pc = .ok (.iastore, 1)) (hn : pc + 1 = n) (hq1 : 0 < q) (hq2 : q ≤ N) (hN : N < 900) (hk : kd q = 20) {z : Nat} (hz : ln q = z) (hb : inb i z = true) (k : Jg Θ l M h G T N ρ ce sl n ls st (wI s q (ix i) x) o) : Jg Θ l M h G T N ρ ce sl pc ls (vI x :: vI i :: vR q :: st) s o := by
  have h1 := j_iastore (o := o) n hd hn hq1 hq2 hN hk hz (fun _ => k)
  rw [if_pos hb] at h1
  exact h1
theorem j_callT {α : Type} {Θ : Th} {l : Launch} {M M2 : Mi} {h h2 : Nat} {G : α → Option AV} {T : Tg} {N N2 mc2 ms2 : Nat} {ρ ρ2 : Rf} {ce sl pc : Nat} {ls : List (Option AV)} {st : List AV} {s : Mem} {o : Option (α × Mem)} {q i : Nat} {stk : List AV} (as : List AV) (n : Nat) (hM : MkI M2 as.length) (hw : Cond.methodLink M.1.cls i M2.1 ∈ gtb ∨ ∃ host, Cond.methodLinkNest M.1.cls i M2.1 host ∈ nwL) (hd : decode M.2.1 pc = .ok (.invokespecial i, 3)) (hn : pc + 3 = n) (hst : stk = as.reverse ++ vR q :: st) (hq1 : 0 < q) (hq2 : q < 900) {s2 : Mem} (hct : Ct Θ l M2 h2 gU (N2, ρ2, mc2, ms2) N ρ (vR q :: as) s (some ((), s2)))
    (hh : h2 + 1 ≤ h) (hL9 : M2.2.2.1 ≤ 60) (hcat : catS st ≤ 8) (hf1 : ce + mc2 ≤ T.2.2.1) (hf2 : sl + ms2 ≤ T.2.2.2)
    (k : Jg Θ l M h G T N2 ρ2 (ce + mc2) (sl + ms2) n ls st s2 o) : Jg Θ l M h G T N ρ ce sl pc ls stk s o := j_callI (T2 := (N2, ρ2, mc2, ms2)) as n hM hw hd hn hst hq1 hq2 hct hh hL9 hcat hf1 hf2 k
theorem tn_X10_init_2 (Θ : Th) (l : Launch) (ρ : Rf) (s : Mem) (b3 : Blk s ρ 3) : Ct Θ l mX10_init 1 gU (3, wR ρ 2 4 3, 1, 6) 2 ρ [vR 2] s (some ((), wI (wL (wL (wI s 2 0 0) 2 1 0) 2 2 1) 2 3 0)) := by
  refine ct_of (by decide) [some (vR 2)] rfl (Nat.le_of_ble_eq_true rfl) ?_
  refine j_aload_n 1 dX10_init_0 rfl rfl ?_
  refine j_objInit 4 dX10_init_1 rfl w_104 w_97 w_98 (by decide) (by decide) (Nat.le_of_ble_eq_true rfl) (Nat.le_of_ble_eq_true rfl) ?_
  refine j_aload_n 5 dX10_init_4 rfl rfl ?_
  refine j_iconst (v := 0) 6 dX10_init_5 rfl (by decide) ?_
  refine j_putI (j := 0) 9 cc10 dX10_init_6 rfl (by decide) (by decide) (by decide) (by decide +kernel) (by decide +kernel) (fin := false) rfl (Or.inl rfl) w_105 (by decide +kernel) ?_
  refine j_aload_n 10 dX10_init_9 rfl rfl ?_
  refine j_lconst (v := 0) 11 dX10_init_10 rfl (by decide) ?_
  refine j_putL (j := 1) 14 cc10 dX10_init_11 rfl (by decide) (by decide) (by decide) (by decide +kernel) (by decide +kernel) (fin := false) rfl (Or.inl rfl) w_107 (by decide +kernel) ?_
  refine j_aload_n 15 dX10_init_14 rfl rfl ?_
  refine j_lconst (v := 1) 16 dX10_init_15 rfl (by decide) ?_
  refine j_putL (j := 2) 19 cc10 dX10_init_16 rfl (by decide) (by decide) (by decide) (by decide +kernel) (by decide +kernel) (fin := false) rfl (Or.inl rfl) w_109 (by decide +kernel) ?_
  refine j_aload_n 20 dX10_init_19 rfl rfl ?_
  refine j_iconst (v := 0) 21 dX10_init_20 rfl (by decide) ?_
  refine j_putI (j := 3) 24 cc10 dX10_init_21 rfl (by decide) (by decide) (by decide) (by decide +kernel) (by decide +kernel) (fin := false) rfl (Or.inl rfl) w_111 (by decide +kernel) ?_
  refine j_aload_n 25 dX10_init_24 rfl rfl ?_
  refine j_bipush (v := 6) 27 dX10_init_25 rfl (by decide) ?_
  refine j_newarray (c := 20) (at_ := .int) (ty := .int) (n0 := 6) 29 (by decide) rfl rfl (by decide) dX10_init_27 rfl w_125 (by decide) (by decide) (by decide +kernel) (by decide +kernel) (by decide) (by decide) (by decide) ⟨b3.1, b3.2.1, b3.2.2⟩ (Nat.le_of_ble_eq_true rfl) (Nat.le_of_ble_eq_true rfl) ?_
  refine j_putR (j := 4) (fty := (.array .int)) 32 cc10 dX10_init_29 rfl (by decide) (by decide) (by decide) (by decide +kernel) (by decide +kernel) (fin := true) rfl (Or.inr ⟨rfl, rfl, rfl⟩) w_113 (by decide +kernel) (by decide +kernel) (Or.inr ⟨_, rfl⟩) ?_
  exact j_ret dX10_init_32 rfl rfl rfl (Nat.le_refl _) (Nat.le_refl _)
theorem tn_X5_init_7 (Θ : Th) (l : Launch) (ρ : Rf) (s : Mem) (b8 : Blk s ρ 8) (b9 : Blk s ρ 9) (b10 : Blk s ρ 10) : Ct Θ l mX5_init 1 gU (10, wR (wR (wR ρ 7 1 8) 7 2 9) 7 3 10, 3, 23) 7 ρ [vR 7] s (some ((), wI s 7 0 0)) := by
  refine ct_of (by decide) [some (vR 7)] rfl (Nat.le_of_ble_eq_true rfl) ?_
  refine j_aload_n 1 dX5_init_0 rfl rfl ?_
  refine j_objInit 4 dX5_init_1 rfl w_141 w_97 w_98 (by decide) (by decide) (Nat.le_of_ble_eq_true rfl) (Nat.le_of_ble_eq_true rfl) ?_
  refine j_aload_n 5 dX5_init_4 rfl rfl ?_
  refine j_iconst (v := 0) 6 dX5_init_5 rfl (by decide) ?_
  refine j_putI (j := 0) 9 cc5 dX5_init_6 rfl (by decide) (by decide) (by decide) (by decide +kernel) (by decide +kernel) (fin := false) rfl (Or.inl rfl) w_142 (by decide +kernel) ?_
  refine j_aload_n 10 dX5_init_9 rfl rfl ?_
  refine j_bipush (v := 8) 12 dX5_init_10 rfl (by decide) ?_
  refine j_newarray (c := 20) (at_ := .int) (ty := .int) (n0 := 8) 14 (by decide) rfl rfl (by decide) dX5_init_12 rfl w_125 (by decide) (by decide) (by decide +kernel) (by decide +kernel) (by decide) (by decide) (by decide) ⟨b8.1, b8.2.1, b8.2.2⟩ (Nat.le_of_ble_eq_true rfl) (Nat.le_of_ble_eq_true rfl) ?_
  refine j_putR (j := 1) (fty := (.array .int)) 17 cc5 dX5_init_14 rfl (by decide) (by decide) (by decide) (by decide +kernel) (by decide +kernel) (fin := true) rfl (Or.inr ⟨rfl, rfl, rfl⟩) w_144 (by decide +kernel) (by decide +kernel) (Or.inr ⟨_, rfl⟩) ?_
  refine j_aload_n 18 dX5_init_17 rfl rfl ?_
  refine j_bipush (v := 8) 20 dX5_init_18 rfl (by decide) ?_
  refine j_newarray (c := 20) (at_ := .int) (ty := .int) (n0 := 8) 22 (by decide) rfl rfl (by decide) dX5_init_20 rfl w_125 (by decide) (by decide) (by decide +kernel) (by decide +kernel) (by decide) (by decide) (by decide) ⟨b9.1, b9.2.1, b9.2.2⟩ (Nat.le_of_ble_eq_true rfl) (Nat.le_of_ble_eq_true rfl) ?_
  refine j_putR (j := 2) (fty := (.array .int)) 25 cc5 dX5_init_22 rfl (by decide) (by decide) (by decide) (by decide +kernel) (by decide +kernel) (fin := true) rfl (Or.inr ⟨rfl, rfl, rfl⟩) w_145 (by decide +kernel) (by decide +kernel) (Or.inr ⟨_, rfl⟩) ?_
  refine j_aload_n 26 dX5_init_25 rfl rfl ?_
  refine j_bipush (v := 7) 28 dX5_init_26 rfl (by decide) ?_
  refine j_newarray (c := 20) (at_ := .int) (ty := .int) (n0 := 7) 30 (by decide) rfl rfl (by decide) dX5_init_28 rfl w_125 (by decide) (by decide) (by decide +kernel) (by decide +kernel) (by decide) (by decide) (by decide) ⟨b10.1, b10.2.1, b10.2.2⟩ (Nat.le_of_ble_eq_true rfl) (Nat.le_of_ble_eq_true rfl) ?_
  refine j_putR (j := 3) (fty := (.array .int)) 33 cc5 dX5_init_30 rfl (by decide) (by decide) (by decide) (by decide +kernel) (by decide +kernel) (fin := true) rfl (Or.inr ⟨rfl, rfl, rfl⟩) w_146 (by decide +kernel) (by decide +kernel) (Or.inr ⟨_, rfl⟩) ?_
  exact j_ret dX5_init_33 rfl rfl rfl (Nat.le_refl _) (Nat.le_refl _)
theorem tn_X0_init_6 (Θ : Th) (l : Launch) (ρ : Rf) (s : Mem) (b7 : Blk s ρ 7) (b8 : Blk s ρ 8) (b9 : Blk s ρ 9) (b10 : Blk s ρ 10) (b11 : Blk s ρ 11) (b12 : Blk s ρ 12) (b13 : Blk s ρ 13) (b14 : Blk s ρ 14) (b15 : Blk s ρ 15) (b16 : Blk s ρ 16) (b17 : Blk s ρ 17) : Ct Θ l mX0_init 2 gU (17, wR (wR (wR (wR (wR (wR (wR (wR (wR (wR (wR ρ 7 1 8) 7 2 9) 7 3 10) 6 4 7) 6 5 11) 6 6 12) 6 7 13) 6 8 14) 6 9 15) 6 10 16) 6 11 17, 11, 239) 6 ρ [vR 6] s (some ((), wI (wI (wI (wI (wI (wI s 6 0 0) 6 1 0) 6 2 0) 6 3 0) 7 0 0) 6 12 0)) := by
  refine ct_of (by decide) [some (vR 6)] rfl (Nat.le_of_ble_eq_true rfl) ?_
  refine j_aload_n 1 dX0_init_0 rfl rfl ?_
  refine j_objInit 4 dX0_init_1 rfl w_135 w_97 w_98 (by decide) (by decide) (Nat.le_of_ble_eq_true rfl) (Nat.le_of_ble_eq_true rfl) ?_
  refine j_aload_n 5 dX0_init_4 rfl rfl ?_
  refine j_iconst (v := 0) 6 dX0_init_5 rfl (by decide) ?_
  refine j_putI (j := 0) 9 cc0 dX0_init_6 rfl (by decide) (by decide) (by decide) (by decide +kernel) (by decide +kernel) (fin := false) rfl (Or.inl rfl) w_156 (by decide +kernel) ?_
  refine j_aload_n 10 dX0_init_9 rfl rfl ?_
  refine j_iconst (v := 0) 11 dX0_init_10 rfl (by decide) ?_
  refine j_putI (j := 1) 14 cc0 dX0_init_11 rfl (by decide) (by decide) (by decide) (by decide +kernel) (by decide +kernel) (fin := false) rfl (Or.inl rfl) w_160 (by decide +kernel) ?_
  refine j_aload_n 15 dX0_init_14 rfl rfl ?_
  refine j_iconst (v := 0) 16 dX0_init_15 rfl (by decide) ?_
  refine j_putI (j := 2) 19 cc0 dX0_init_16 rfl (by decide) (by decide) (by decide) (by decide +kernel) (by decide +kernel) (fin := false) rfl (Or.inl rfl) w_163 (by decide +kernel) ?_
  refine j_aload_n 20 dX0_init_19 rfl rfl ?_
  refine j_iconst (v := 0) 21 dX0_init_20 rfl (by decide) ?_
  refine j_putI (j := 3) 24 cc0 dX0_init_21 rfl (by decide) (by decide) (by decide) (by decide +kernel) (by decide +kernel) (fin := false) rfl (Or.inl rfl) w_165 (by decide +kernel) ?_
  refine j_aload_n 25 dX0_init_24 rfl rfl ?_
  refine j_new 28 cc5 df5 dX0_init_25 rfl w_136 w_137 w_78 (by decide) (by decide) (by decide +kernel) ⟨b7.1, b7.2.1, b7.2.2⟩ (Nat.le_of_ble_eq_true rfl) (Nat.le_of_ble_eq_true rfl) ?_
  refine j_dup 29 dX0_init_28 rfl rfl ?_
  refine j_callT (M2 := mX5_init) [] 32 mkX5_init (Or.inr ⟨_, w_138⟩) dX0_init_29 rfl rfl (by decide) (by decide) (tn_X5_init_7 Θ l _ _ ⟨b8.1, b8.2.1, b8.2.2⟩ ⟨b9.1, b9.2.1, b9.2.2⟩ ⟨b10.1, b10.2.1, b10.2.2⟩) (Nat.le_of_ble_eq_true rfl) (Nat.le_of_ble_eq_true rfl) (Nat.le_of_ble_eq_true rfl) (Nat.le_of_ble_eq_true rfl) (Nat.le_of_ble_eq_true rfl) ?_
  refine j_putR (j := 4) (fty := (.object "HeavierSide$Quarrels")) 35 cc0 dX0_init_32 rfl (by decide) (by decide) (by decide) (by decide +kernel) (by decide +kernel) (fin := true) rfl (Or.inr ⟨rfl, rfl, rfl⟩) w_168 (by decide +kernel) (by decide +kernel) (Or.inl ⟨_, rfl⟩) ?_
  refine j_aload_n 36 dX0_init_35 rfl rfl ?_
  refine j_bipush (v := 8) 38 dX0_init_36 rfl (by decide) ?_
  refine j_newarray (c := 20) (at_ := .int) (ty := .int) (n0 := 8) 40 (by decide) rfl rfl (by decide) dX0_init_38 rfl w_125 (by decide) (by decide) (by decide +kernel) (by decide +kernel) (by decide) (by decide) (by decide) ⟨b11.1, b11.2.1, b11.2.2⟩ (Nat.le_of_ble_eq_true rfl) (Nat.le_of_ble_eq_true rfl) ?_
  refine j_putR (j := 5) (fty := (.array .int)) 43 cc0 dX0_init_40 rfl (by decide) (by decide) (by decide) (by decide +kernel) (by decide +kernel) (fin := true) rfl (Or.inr ⟨rfl, rfl, rfl⟩) w_171 (by decide +kernel) (by decide +kernel) (Or.inr ⟨_, rfl⟩) ?_
  refine j_aload_n 44 dX0_init_43 rfl rfl ?_
  refine j_bipush (v := 8) 46 dX0_init_44 rfl (by decide) ?_
  refine j_newarray (c := 20) (at_ := .int) (ty := .int) (n0 := 8) 48 (by decide) rfl rfl (by decide) dX0_init_46 rfl w_125 (by decide) (by decide) (by decide +kernel) (by decide +kernel) (by decide) (by decide) (by decide) ⟨b12.1, b12.2.1, b12.2.2⟩ (Nat.le_of_ble_eq_true rfl) (Nat.le_of_ble_eq_true rfl) ?_
  refine j_putR (j := 6) (fty := (.array .int)) 51 cc0 dX0_init_48 rfl (by decide) (by decide) (by decide) (by decide +kernel) (by decide +kernel) (fin := true) rfl (Or.inr ⟨rfl, rfl, rfl⟩) w_172 (by decide +kernel) (by decide +kernel) (Or.inr ⟨_, rfl⟩) ?_
  refine j_aload_n 52 dX0_init_51 rfl rfl ?_
  refine j_bipush (v := 7) 54 dX0_init_52 rfl (by decide) ?_
  refine j_newarray (c := 20) (at_ := .int) (ty := .int) (n0 := 7) 56 (by decide) rfl rfl (by decide) dX0_init_54 rfl w_125 (by decide) (by decide) (by decide +kernel) (by decide +kernel) (by decide) (by decide) (by decide) ⟨b13.1, b13.2.1, b13.2.2⟩ (Nat.le_of_ble_eq_true rfl) (Nat.le_of_ble_eq_true rfl) ?_
  refine j_putR (j := 7) (fty := (.array .int)) 59 cc0 dX0_init_56 rfl (by decide) (by decide) (by decide) (by decide +kernel) (by decide +kernel) (fin := true) rfl (Or.inr ⟨rfl, rfl, rfl⟩) w_173 (by decide +kernel) (by decide +kernel) (Or.inr ⟨_, rfl⟩) ?_
  refine j_aload_n 60 dX0_init_59 rfl rfl ?_
  refine j_bipush (v := 7) 62 dX0_init_60 rfl (by decide) ?_
  refine j_newarray (c := 20) (at_ := .int) (ty := .int) (n0 := 7) 64 (by decide) rfl rfl (by decide) dX0_init_62 rfl w_125 (by decide) (by decide) (by decide +kernel) (by decide +kernel) (by decide) (by decide) (by decide) ⟨b14.1, b14.2.1, b14.2.2⟩ (Nat.le_of_ble_eq_true rfl) (Nat.le_of_ble_eq_true rfl) ?_
  refine j_putR (j := 8) (fty := (.array .int)) 67 cc0 dX0_init_64 rfl (by decide) (by decide) (by decide) (by decide +kernel) (by decide +kernel) (fin := true) rfl (Or.inr ⟨rfl, rfl, rfl⟩) w_174 (by decide +kernel) (by decide +kernel) (Or.inr ⟨_, rfl⟩) ?_
  refine j_aload_n 68 dX0_init_67 rfl rfl ?_
  refine j_bipush (v := 7) 70 dX0_init_68 rfl (by decide) ?_
  refine j_newarray (c := 20) (at_ := .int) (ty := .int) (n0 := 7) 72 (by decide) rfl rfl (by decide) dX0_init_70 rfl w_125 (by decide) (by decide) (by decide +kernel) (by decide +kernel) (by decide) (by decide) (by decide) ⟨b15.1, b15.2.1, b15.2.2⟩ (Nat.le_of_ble_eq_true rfl) (Nat.le_of_ble_eq_true rfl) ?_
  refine j_putR (j := 9) (fty := (.array .int)) 75 cc0 dX0_init_72 rfl (by decide) (by decide) (by decide) (by decide +kernel) (by decide +kernel) (fin := true) rfl (Or.inr ⟨rfl, rfl, rfl⟩) w_175 (by decide +kernel) (by decide +kernel) (Or.inr ⟨_, rfl⟩) ?_
  refine j_aload_n 76 dX0_init_75 rfl rfl ?_
  refine j_bipush (v := 7) 78 dX0_init_76 rfl (by decide) ?_
  refine j_newarray (c := 20) (at_ := .int) (ty := .int) (n0 := 7) 80 (by decide) rfl rfl (by decide) dX0_init_78 rfl w_125 (by decide) (by decide) (by decide +kernel) (by decide +kernel) (by decide) (by decide) (by decide) ⟨b16.1, b16.2.1, b16.2.2⟩ (Nat.le_of_ble_eq_true rfl) (Nat.le_of_ble_eq_true rfl) ?_
  refine j_putR (j := 10) (fty := (.array .int)) 83 cc0 dX0_init_80 rfl (by decide) (by decide) (by decide) (by decide +kernel) (by decide +kernel) (fin := true) rfl (Or.inr ⟨rfl, rfl, rfl⟩) w_176 (by decide +kernel) (by decide +kernel) (Or.inr ⟨_, rfl⟩) ?_
  refine j_aload_n 84 dX0_init_83 rfl rfl ?_
  refine j_sipush (v := 168) 87 dX0_init_84 rfl (by decide) ?_
  refine j_newarray (c := 20) (at_ := .int) (ty := .int) (n0 := 168) 89 (by decide) rfl rfl (by decide) dX0_init_87 rfl w_125 (by decide) (by decide) (by decide +kernel) (by decide +kernel) (by decide) (by decide) (by decide) ⟨b17.1, b17.2.1, b17.2.2⟩ (Nat.le_of_ble_eq_true rfl) (Nat.le_of_ble_eq_true rfl) ?_
  refine j_putR (j := 11) (fty := (.array .int)) 92 cc0 dX0_init_89 rfl (by decide) (by decide) (by decide) (by decide +kernel) (by decide +kernel) (fin := true) rfl (Or.inr ⟨rfl, rfl, rfl⟩) w_177 (by decide +kernel) (by decide +kernel) (Or.inr ⟨_, rfl⟩) ?_
  refine j_aload_n 93 dX0_init_92 rfl rfl ?_
  refine j_iconst (v := 0) 94 dX0_init_93 rfl (by decide) ?_
  refine j_putI (j := 12) 97 cc0 dX0_init_94 rfl (by decide) (by decide) (by decide) (by decide +kernel) (by decide +kernel) (fin := false) rfl (Or.inl rfl) w_178 (by decide +kernel) ?_
  exact j_ret dX0_init_97 rfl rfl rfl (Nat.le_refl _) (Nat.le_refl _)
theorem tn_X6_init_18 (Θ : Th) (l : Launch) (ρ : Rf) (s : Mem) (b19 : Blk s ρ 19) : Ct Θ l mX6_init 1 gU (19, wR ρ 18 1 19, 1, 40) 18 ρ [vR 18] s (some ((), wI (wI s 18 0 1) 18 2 1)) := by
  refine ct_of (by decide) [some (vR 18)] rfl (Nat.le_of_ble_eq_true rfl) ?_
  refine j_aload_n 1 dX6_init_0 rfl rfl ?_
  refine j_objInit 4 dX6_init_1 rfl w_211 w_97 w_98 (by decide) (by decide) (Nat.le_of_ble_eq_true rfl) (Nat.le_of_ble_eq_true rfl) ?_
  refine j_aload_n 5 dX6_init_4 rfl rfl ?_
  refine j_iconst (v := 1) 6 dX6_init_5 rfl (by decide) ?_
  refine j_putI (j := 0) 9 cc6 dX6_init_6 rfl (by decide) (by decide) (by decide) (by decide +kernel) (by decide +kernel) (fin := false) rfl (Or.inl rfl) w_212 (by decide +kernel) ?_
  refine j_aload_n 10 dX6_init_9 rfl rfl ?_
  refine j_bipush (v := 40) 12 dX6_init_10 rfl (by decide) ?_
  refine j_newarray (c := 20) (at_ := .int) (ty := .int) (n0 := 40) 14 (by decide) rfl rfl (by decide) dX6_init_12 rfl w_125 (by decide) (by decide) (by decide +kernel) (by decide +kernel) (by decide) (by decide) (by decide) ⟨b19.1, b19.2.1, b19.2.2⟩ (Nat.le_of_ble_eq_true rfl) (Nat.le_of_ble_eq_true rfl) ?_
  refine j_putR (j := 1) (fty := (.array .int)) 17 cc6 dX6_init_14 rfl (by decide) (by decide) (by decide) (by decide +kernel) (by decide +kernel) (fin := true) rfl (Or.inr ⟨rfl, rfl, rfl⟩) w_214 (by decide +kernel) (by decide +kernel) (Or.inr ⟨_, rfl⟩) ?_
  refine j_aload_n 18 dX6_init_17 rfl rfl ?_
  refine j_iconst (v := 1) 19 dX6_init_18 rfl (by decide) ?_
  refine j_putI (j := 2) 22 cc6 dX6_init_19 rfl (by decide) (by decide) (by decide) (by decide +kernel) (by decide +kernel) (fin := false) rfl (Or.inl rfl) w_215 (by decide +kernel) ?_
  exact j_ret dX6_init_22 rfl rfl rfl (Nat.le_refl _) (Nat.le_refl _)
theorem tn_X1_init_20 (Θ : Th) (l : Launch) (ρ : Rf) (s : Mem) (b21 : Blk s ρ 21) (b22 : Blk s ρ 22) (b23 : Blk s ρ 23) : Ct Θ l mX1_init 1 gU (23, wR (wR (wR ρ 20 1 21) 20 2 22) 20 3 23, 3, 180) 20 ρ [vR 20] s (some ((), wI s 20 0 0)) := by
  refine ct_of (by decide) [some (vR 20)] rfl (Nat.le_of_ble_eq_true rfl) ?_
  refine j_aload_n 1 dX1_init_0 rfl rfl ?_
  refine j_objInit 4 dX1_init_1 rfl w_228 w_97 w_98 (by decide) (by decide) (Nat.le_of_ble_eq_true rfl) (Nat.le_of_ble_eq_true rfl) ?_
  refine j_aload_n 5 dX1_init_4 rfl rfl ?_
  refine j_iconst (v := 0) 6 dX1_init_5 rfl (by decide) ?_
  refine j_putI (j := 0) 9 cc1 dX1_init_6 rfl (by decide) (by decide) (by decide) (by decide +kernel) (by decide +kernel) (fin := false) rfl (Or.inl rfl) w_229 (by decide +kernel) ?_
  refine j_aload_n 10 dX1_init_9 rfl rfl ?_
  refine j_bipush (v := 60) 12 dX1_init_10 rfl (by decide) ?_
  refine j_newarray (c := 20) (at_ := .int) (ty := .int) (n0 := 60) 14 (by decide) rfl rfl (by decide) dX1_init_12 rfl w_125 (by decide) (by decide) (by decide +kernel) (by decide +kernel) (by decide) (by decide) (by decide) ⟨b21.1, b21.2.1, b21.2.2⟩ (Nat.le_of_ble_eq_true rfl) (Nat.le_of_ble_eq_true rfl) ?_
  refine j_putR (j := 1) (fty := (.array .int)) 17 cc1 dX1_init_14 rfl (by decide) (by decide) (by decide) (by decide +kernel) (by decide +kernel) (fin := true) rfl (Or.inr ⟨rfl, rfl, rfl⟩) w_231 (by decide +kernel) (by decide +kernel) (Or.inr ⟨_, rfl⟩) ?_
  refine j_aload_n 18 dX1_init_17 rfl rfl ?_
  refine j_bipush (v := 60) 20 dX1_init_18 rfl (by decide) ?_
  refine j_newarray (c := 20) (at_ := .int) (ty := .int) (n0 := 60) 22 (by decide) rfl rfl (by decide) dX1_init_20 rfl w_125 (by decide) (by decide) (by decide +kernel) (by decide +kernel) (by decide) (by decide) (by decide) ⟨b22.1, b22.2.1, b22.2.2⟩ (Nat.le_of_ble_eq_true rfl) (Nat.le_of_ble_eq_true rfl) ?_
  refine j_putR (j := 2) (fty := (.array .int)) 25 cc1 dX1_init_22 rfl (by decide) (by decide) (by decide) (by decide +kernel) (by decide +kernel) (fin := true) rfl (Or.inr ⟨rfl, rfl, rfl⟩) w_232 (by decide +kernel) (by decide +kernel) (Or.inr ⟨_, rfl⟩) ?_
  refine j_aload_n 26 dX1_init_25 rfl rfl ?_
  refine j_bipush (v := 60) 28 dX1_init_26 rfl (by decide) ?_
  refine j_newarray (c := 20) (at_ := .int) (ty := .int) (n0 := 60) 30 (by decide) rfl rfl (by decide) dX1_init_28 rfl w_125 (by decide) (by decide) (by decide +kernel) (by decide +kernel) (by decide) (by decide) (by decide) ⟨b23.1, b23.2.1, b23.2.2⟩ (Nat.le_of_ble_eq_true rfl) (Nat.le_of_ble_eq_true rfl) ?_
  refine j_putR (j := 3) (fty := (.array .int)) 33 cc1 dX1_init_30 rfl (by decide) (by decide) (by decide) (by decide +kernel) (by decide +kernel) (fin := true) rfl (Or.inr ⟨rfl, rfl, rfl⟩) w_233 (by decide +kernel) (by decide +kernel) (Or.inr ⟨_, rfl⟩) ?_
  exact j_ret dX1_init_33 rfl rfl rfl (Nat.le_refl _) (Nat.le_refl _)
theorem tn_X3_init_24 (Θ : Th) (l : Launch) (ρ : Rf) (s : Mem) (b25 : Blk s ρ 25) (b26 : Blk s ρ 26) : Ct Θ l mX3_init 1 gU (26, wR (wR ρ 24 0 25) 24 1 26, 2, 24) 24 ρ [vR 24] s (some ((), s)) := by
  refine ct_of (by decide) [some (vR 24)] rfl (Nat.le_of_ble_eq_true rfl) ?_
  refine j_aload_n 1 dX3_init_0 rfl rfl ?_
  refine j_objInit 4 dX3_init_1 rfl w_248 w_97 w_98 (by decide) (by decide) (Nat.le_of_ble_eq_true rfl) (Nat.le_of_ble_eq_true rfl) ?_
  refine j_aload_n 5 dX3_init_4 rfl rfl ?_
  refine j_iconst (v := 3) 6 dX3_init_5 rfl (by decide) ?_
  refine j_newarray (c := 22) (at_ := .boolean) (ty := .boolean) (n0 := 3) 8 (by decide) rfl rfl (by decide) dX3_init_6 rfl w_256 (by decide) (by decide) (by decide +kernel) (by decide +kernel) (by decide) (by decide) (by decide) ⟨b25.1, b25.2.1, b25.2.2⟩ (Nat.le_of_ble_eq_true rfl) (Nat.le_of_ble_eq_true rfl) ?_
  refine j_putR (j := 0) (fty := (.array .boolean)) 11 cc3 dX3_init_8 rfl (by decide) (by decide) (by decide) (by decide +kernel) (by decide +kernel) (fin := true) rfl (Or.inr ⟨rfl, rfl, rfl⟩) w_249 (by decide +kernel) (by decide +kernel) (Or.inr ⟨_, rfl⟩) ?_
  refine j_aload_n 12 dX3_init_11 rfl rfl ?_
  refine j_bipush (v := 21) 14 dX3_init_12 rfl (by decide) ?_
  refine j_newarray (c := 20) (at_ := .int) (ty := .int) (n0 := 21) 16 (by decide) rfl rfl (by decide) dX3_init_14 rfl w_125 (by decide) (by decide) (by decide +kernel) (by decide +kernel) (by decide) (by decide) (by decide) ⟨b26.1, b26.2.1, b26.2.2⟩ (Nat.le_of_ble_eq_true rfl) (Nat.le_of_ble_eq_true rfl) ?_
  refine j_putR (j := 1) (fty := (.array .int)) 19 cc3 dX3_init_16 rfl (by decide) (by decide) (by decide) (by decide +kernel) (by decide +kernel) (fin := true) rfl (Or.inr ⟨rfl, rfl, rfl⟩) w_250 (by decide +kernel) (by decide +kernel) (Or.inr ⟨_, rfl⟩) ?_
  exact j_ret dX3_init_19 rfl rfl rfl (Nat.le_refl _) (Nat.le_refl _)
theorem tn_X8_init_27 (Θ : Th) (l : Launch) (ρ : Rf) (s : Mem) (b28 : Blk s ρ 28) (b29 : Blk s ρ 29) (b30 : Blk s ρ 30) (b31 : Blk s ρ 31) (b32 : Blk s ρ 32) (b33 : Blk s ρ 33) (b34 : Blk s ρ 34) (b35 : Blk s ρ 35) (b36 : Blk s ρ 36) : Ct Θ l mX8_init 1 gU (36, wR (wR (wR (wR (wR (wR (wR (wR (wR (wR (wR ρ 27 1 28) 27 6 29) 27 8 30) 27 9 31) 27 10 32) 27 11 33) 27 12 34) 27 13 35) 27 14 36) 27 4 6) 27 5 18, 9, 214) 27 ρ [vR 27, vR 6, vR 18] s (some ((), wI (wI (wI (wI s 27 0 (-9)) 27 2 0) 27 3 0) 27 7 0)) := by
  refine ct_of (by decide) [some (vR 27), some (vR 6), some (vR 18)] rfl (Nat.le_of_ble_eq_true rfl) ?_
  refine j_aload_n 1 dX8_init_0 rfl rfl ?_
  refine j_objInit 4 dX8_init_1 rfl w_262 w_97 w_98 (by decide) (by decide) (Nat.le_of_ble_eq_true rfl) (Nat.le_of_ble_eq_true rfl) ?_
  refine j_aload_n 5 dX8_init_4 rfl rfl ?_
  refine j_bipush (v := (-9)) 7 dX8_init_5 rfl (by decide) ?_
  refine j_putI (j := 0) 10 cc8 dX8_init_7 rfl (by decide) (by decide) (by decide) (by decide +kernel) (by decide +kernel) (fin := false) rfl (Or.inl rfl) w_263 (by decide +kernel) ?_
  refine j_aload_n 11 dX8_init_10 rfl rfl ?_
  refine j_bipush (v := 7) 13 dX8_init_11 rfl (by decide) ?_
  refine j_newarray (c := 20) (at_ := .int) (ty := .int) (n0 := 7) 15 (by decide) rfl rfl (by decide) dX8_init_13 rfl w_125 (by decide) (by decide) (by decide +kernel) (by decide +kernel) (by decide) (by decide) (by decide) ⟨b28.1, b28.2.1, b28.2.2⟩ (Nat.le_of_ble_eq_true rfl) (Nat.le_of_ble_eq_true rfl) ?_
  refine j_putR (j := 1) (fty := (.array .int)) 18 cc8 dX8_init_15 rfl (by decide) (by decide) (by decide) (by decide +kernel) (by decide +kernel) (fin := true) rfl (Or.inr ⟨rfl, rfl, rfl⟩) w_265 (by decide +kernel) (by decide +kernel) (Or.inr ⟨_, rfl⟩) ?_
  refine j_aload_n 19 dX8_init_18 rfl rfl ?_
  refine j_iconst (v := 0) 20 dX8_init_19 rfl (by decide) ?_
  refine j_putI (j := 2) 23 cc8 dX8_init_20 rfl (by decide) (by decide) (by decide) (by decide +kernel) (by decide +kernel) (fin := false) rfl (Or.inl rfl) w_267 (by decide +kernel) ?_
  refine j_aload_n 24 dX8_init_23 rfl rfl ?_
  refine j_iconst (v := 0) 25 dX8_init_24 rfl (by decide) ?_
  refine j_putI (j := 3) 28 cc8 dX8_init_25 rfl (by decide) (by decide) (by decide) (by decide +kernel) (by decide +kernel) (fin := false) rfl (Or.inl rfl) w_269 (by decide +kernel) ?_
  refine j_aload_n 29 dX8_init_28 rfl rfl ?_
  refine j_bipush (v := 7) 31 dX8_init_29 rfl (by decide) ?_
  refine j_newarray (c := 20) (at_ := .int) (ty := .int) (n0 := 7) 33 (by decide) rfl rfl (by decide) dX8_init_31 rfl w_125 (by decide) (by decide) (by decide +kernel) (by decide +kernel) (by decide) (by decide) (by decide) ⟨b29.1, b29.2.1, b29.2.2⟩ (Nat.le_of_ble_eq_true rfl) (Nat.le_of_ble_eq_true rfl) ?_
  refine j_putR (j := 6) (fty := (.array .int)) 36 cc8 dX8_init_33 rfl (by decide) (by decide) (by decide) (by decide +kernel) (by decide +kernel) (fin := true) rfl (Or.inr ⟨rfl, rfl, rfl⟩) w_273 (by decide +kernel) (by decide +kernel) (Or.inr ⟨_, rfl⟩) ?_
  refine j_aload_n 37 dX8_init_36 rfl rfl ?_
  refine j_iconst (v := 0) 38 dX8_init_37 rfl (by decide) ?_
  refine j_putI (j := 7) 41 cc8 dX8_init_38 rfl (by decide) (by decide) (by decide) (by decide +kernel) (by decide +kernel) (fin := false) rfl (Or.inl rfl) w_274 (by decide +kernel) ?_
  refine j_aload_n 42 dX8_init_41 rfl rfl ?_
  refine j_bipush (v := 7) 44 dX8_init_42 rfl (by decide) ?_
  refine j_newarray (c := 20) (at_ := .int) (ty := .int) (n0 := 7) 46 (by decide) rfl rfl (by decide) dX8_init_44 rfl w_125 (by decide) (by decide) (by decide +kernel) (by decide +kernel) (by decide) (by decide) (by decide) ⟨b30.1, b30.2.1, b30.2.2⟩ (Nat.le_of_ble_eq_true rfl) (Nat.le_of_ble_eq_true rfl) ?_
  refine j_putR (j := 8) (fty := (.array .int)) 49 cc8 dX8_init_46 rfl (by decide) (by decide) (by decide) (by decide +kernel) (by decide +kernel) (fin := true) rfl (Or.inr ⟨rfl, rfl, rfl⟩) w_275 (by decide +kernel) (by decide +kernel) (Or.inr ⟨_, rfl⟩) ?_
  refine j_aload_n 50 dX8_init_49 rfl rfl ?_
  refine j_bipush (v := 7) 52 dX8_init_50 rfl (by decide) ?_
  refine j_newarray (c := 20) (at_ := .int) (ty := .int) (n0 := 7) 54 (by decide) rfl rfl (by decide) dX8_init_52 rfl w_125 (by decide) (by decide) (by decide +kernel) (by decide +kernel) (by decide) (by decide) (by decide) ⟨b31.1, b31.2.1, b31.2.2⟩ (Nat.le_of_ble_eq_true rfl) (Nat.le_of_ble_eq_true rfl) ?_
  refine j_putR (j := 9) (fty := (.array .int)) 57 cc8 dX8_init_54 rfl (by decide) (by decide) (by decide) (by decide +kernel) (by decide +kernel) (fin := true) rfl (Or.inr ⟨rfl, rfl, rfl⟩) w_276 (by decide +kernel) (by decide +kernel) (Or.inr ⟨_, rfl⟩) ?_
  refine j_aload_n 58 dX8_init_57 rfl rfl ?_
  refine j_bipush (v := 8) 60 dX8_init_58 rfl (by decide) ?_
  refine j_newarray (c := 20) (at_ := .int) (ty := .int) (n0 := 8) 62 (by decide) rfl rfl (by decide) dX8_init_60 rfl w_125 (by decide) (by decide) (by decide +kernel) (by decide +kernel) (by decide) (by decide) (by decide) ⟨b32.1, b32.2.1, b32.2.2⟩ (Nat.le_of_ble_eq_true rfl) (Nat.le_of_ble_eq_true rfl) ?_
  refine j_putR (j := 10) (fty := (.array .int)) 65 cc8 dX8_init_62 rfl (by decide) (by decide) (by decide) (by decide +kernel) (by decide +kernel) (fin := true) rfl (Or.inr ⟨rfl, rfl, rfl⟩) w_277 (by decide +kernel) (by decide +kernel) (Or.inr ⟨_, rfl⟩) ?_
  refine j_aload_n 66 dX8_init_65 rfl rfl ?_
  refine j_bipush (v := 10) 68 dX8_init_66 rfl (by decide) ?_
  refine j_newarray (c := 20) (at_ := .int) (ty := .int) (n0 := 10) 70 (by decide) rfl rfl (by decide) dX8_init_68 rfl w_125 (by decide) (by decide) (by decide +kernel) (by decide +kernel) (by decide) (by decide) (by decide) ⟨b33.1, b33.2.1, b33.2.2⟩ (Nat.le_of_ble_eq_true rfl) (Nat.le_of_ble_eq_true rfl) ?_
  refine j_putR (j := 11) (fty := (.array .int)) 73 cc8 dX8_init_70 rfl (by decide) (by decide) (by decide) (by decide +kernel) (by decide +kernel) (fin := true) rfl (Or.inr ⟨rfl, rfl, rfl⟩) w_278 (by decide +kernel) (by decide +kernel) (Or.inr ⟨_, rfl⟩) ?_
  refine j_aload_n 74 dX8_init_73 rfl rfl ?_
  refine j_bipush (v := 56) 76 dX8_init_74 rfl (by decide) ?_
  refine j_newarray (c := 20) (at_ := .int) (ty := .int) (n0 := 56) 78 (by decide) rfl rfl (by decide) dX8_init_76 rfl w_125 (by decide) (by decide) (by decide +kernel) (by decide +kernel) (by decide) (by decide) (by decide) ⟨b34.1, b34.2.1, b34.2.2⟩ (Nat.le_of_ble_eq_true rfl) (Nat.le_of_ble_eq_true rfl) ?_
  refine j_putR (j := 12) (fty := (.array .int)) 81 cc8 dX8_init_78 rfl (by decide) (by decide) (by decide) (by decide +kernel) (by decide +kernel) (fin := true) rfl (Or.inr ⟨rfl, rfl, rfl⟩) w_279 (by decide +kernel) (by decide +kernel) (Or.inr ⟨_, rfl⟩) ?_
  refine j_aload_n 82 dX8_init_81 rfl rfl ?_
  refine j_bipush (v := 56) 84 dX8_init_82 rfl (by decide) ?_
  refine j_newarray (c := 20) (at_ := .int) (ty := .int) (n0 := 56) 86 (by decide) rfl rfl (by decide) dX8_init_84 rfl w_125 (by decide) (by decide) (by decide +kernel) (by decide +kernel) (by decide) (by decide) (by decide) ⟨b35.1, b35.2.1, b35.2.2⟩ (Nat.le_of_ble_eq_true rfl) (Nat.le_of_ble_eq_true rfl) ?_
  refine j_putR (j := 13) (fty := (.array .int)) 89 cc8 dX8_init_86 rfl (by decide) (by decide) (by decide) (by decide +kernel) (by decide +kernel) (fin := true) rfl (Or.inr ⟨rfl, rfl, rfl⟩) w_280 (by decide +kernel) (by decide +kernel) (Or.inr ⟨_, rfl⟩) ?_
  refine j_aload_n 90 dX8_init_89 rfl rfl ?_
  refine j_bipush (v := 56) 92 dX8_init_90 rfl (by decide) ?_
  refine j_newarray (c := 20) (at_ := .int) (ty := .int) (n0 := 56) 94 (by decide) rfl rfl (by decide) dX8_init_92 rfl w_125 (by decide) (by decide) (by decide +kernel) (by decide +kernel) (by decide) (by decide) (by decide) ⟨b36.1, b36.2.1, b36.2.2⟩ (Nat.le_of_ble_eq_true rfl) (Nat.le_of_ble_eq_true rfl) ?_
  refine j_putR (j := 14) (fty := (.array .int)) 97 cc8 dX8_init_94 rfl (by decide) (by decide) (by decide) (by decide +kernel) (by decide +kernel) (fin := true) rfl (Or.inr ⟨rfl, rfl, rfl⟩) w_281 (by decide +kernel) (by decide +kernel) (Or.inr ⟨_, rfl⟩) ?_
  refine j_aload_n 98 dX8_init_97 rfl rfl ?_
  refine j_aload_n 99 dX8_init_98 rfl rfl ?_
  refine j_putR (j := 4) (fty := (.object "HeavierSide$Barge")) 102 cc8 dX8_init_99 rfl (by decide) (by decide) (by decide) (by decide +kernel) (by decide +kernel) (fin := true) rfl (Or.inr ⟨rfl, rfl, rfl⟩) w_271 (by decide +kernel) (by decide +kernel) (Or.inl ⟨_, rfl⟩) ?_
  refine j_aload_n 103 dX8_init_102 rfl rfl ?_
  refine j_aload_n 104 dX8_init_103 rfl rfl ?_
  refine j_putR (j := 5) (fty := (.object "HeavierSide$Rite")) 107 cc8 dX8_init_104 rfl (by decide) (by decide) (by decide) (by decide +kernel) (by decide +kernel) (fin := true) rfl (Or.inr ⟨rfl, rfl, rfl⟩) w_272 (by decide +kernel) (by decide +kernel) (Or.inl ⟨_, rfl⟩) ?_
  exact j_ret dX8_init_107 rfl rfl rfl (Nat.le_refl _) (Nat.le_refl _)
theorem tn_X4_init_37 (Θ : Th) (l : Launch) (ρ : Rf) (s : Mem) (b38 : Blk s ρ 38) (b39 : Blk s ρ 39) (b40 : Blk s ρ 40) (b41 : Blk s ρ 41) : Ct Θ l mX4_init 1 gU (41, wR (wR (wR (wR (wR ρ 37 1 38) 37 2 39) 37 3 40) 37 4 41) 37 0 6, 4, 391) 37 ρ [vR 37, vR 6] s (some ((), wI s 37 5 0)) := by
  refine ct_of (by decide) [some (vR 37), some (vR 6)] rfl (Nat.le_of_ble_eq_true rfl) ?_
  refine j_aload_n 1 dX4_init_0 rfl rfl ?_
  refine j_objInit 4 dX4_init_1 rfl w_318 w_97 w_98 (by decide) (by decide) (Nat.le_of_ble_eq_true rfl) (Nat.le_of_ble_eq_true rfl) ?_
  refine j_aload_n 5 dX4_init_4 rfl rfl ?_
  refine j_sipush (v := 128) 8 dX4_init_5 rfl (by decide) ?_
  refine j_newarray (c := 22) (at_ := .boolean) (ty := .boolean) (n0 := 128) 10 (by decide) rfl rfl (by decide) dX4_init_8 rfl w_256 (by decide) (by decide) (by decide +kernel) (by decide +kernel) (by decide) (by decide) (by decide) ⟨b38.1, b38.2.1, b38.2.2⟩ (Nat.le_of_ble_eq_true rfl) (Nat.le_of_ble_eq_true rfl) ?_
  refine j_putR (j := 1) (fty := (.array .boolean)) 13 cc4 dX4_init_10 rfl (by decide) (by decide) (by decide) (by decide +kernel) (by decide +kernel) (fin := true) rfl (Or.inr ⟨rfl, rfl, rfl⟩) w_320 (by decide +kernel) (by decide +kernel) (Or.inr ⟨_, rfl⟩) ?_
  refine j_aload_n 14 dX4_init_13 rfl rfl ?_
  refine j_sipush (v := 128) 17 dX4_init_14 rfl (by decide) ?_
  refine j_newarray (c := 22) (at_ := .boolean) (ty := .boolean) (n0 := 128) 19 (by decide) rfl rfl (by decide) dX4_init_17 rfl w_256 (by decide) (by decide) (by decide +kernel) (by decide +kernel) (by decide) (by decide) (by decide) ⟨b39.1, b39.2.1, b39.2.2⟩ (Nat.le_of_ble_eq_true rfl) (Nat.le_of_ble_eq_true rfl) ?_
  refine j_putR (j := 2) (fty := (.array .boolean)) 22 cc4 dX4_init_19 rfl (by decide) (by decide) (by decide) (by decide +kernel) (by decide +kernel) (fin := true) rfl (Or.inr ⟨rfl, rfl, rfl⟩) w_321 (by decide +kernel) (by decide +kernel) (Or.inr ⟨_, rfl⟩) ?_
  refine j_aload_n 23 dX4_init_22 rfl rfl ?_
  refine j_sipush (v := 128) 26 dX4_init_23 rfl (by decide) ?_
  refine j_newarray (c := 22) (at_ := .boolean) (ty := .boolean) (n0 := 128) 28 (by decide) rfl rfl (by decide) dX4_init_26 rfl w_256 (by decide) (by decide) (by decide +kernel) (by decide +kernel) (by decide) (by decide) (by decide) ⟨b40.1, b40.2.1, b40.2.2⟩ (Nat.le_of_ble_eq_true rfl) (Nat.le_of_ble_eq_true rfl) ?_
  refine j_putR (j := 3) (fty := (.array .boolean)) 31 cc4 dX4_init_28 rfl (by decide) (by decide) (by decide) (by decide +kernel) (by decide +kernel) (fin := true) rfl (Or.inr ⟨rfl, rfl, rfl⟩) w_322 (by decide +kernel) (by decide +kernel) (Or.inr ⟨_, rfl⟩) ?_
  refine j_aload_n 32 dX4_init_31 rfl rfl ?_
  refine j_bipush (v := 7) 34 dX4_init_32 rfl (by decide) ?_
  refine j_newarray (c := 20) (at_ := .int) (ty := .int) (n0 := 7) 36 (by decide) rfl rfl (by decide) dX4_init_34 rfl w_125 (by decide) (by decide) (by decide +kernel) (by decide +kernel) (by decide) (by decide) (by decide) ⟨b41.1, b41.2.1, b41.2.2⟩ (Nat.le_of_ble_eq_true rfl) (Nat.le_of_ble_eq_true rfl) ?_
  refine j_putR (j := 4) (fty := (.array .int)) 39 cc4 dX4_init_36 rfl (by decide) (by decide) (by decide) (by decide +kernel) (by decide +kernel) (fin := true) rfl (Or.inr ⟨rfl, rfl, rfl⟩) w_323 (by decide +kernel) (by decide +kernel) (Or.inr ⟨_, rfl⟩) ?_
  refine j_aload_n 40 dX4_init_39 rfl rfl ?_
  refine j_iconst (v := 0) 41 dX4_init_40 rfl (by decide) ?_
  refine j_putI (j := 5) 44 cc4 dX4_init_41 rfl (by decide) (by decide) (by decide) (by decide +kernel) (by decide +kernel) (fin := false) rfl (Or.inl rfl) w_324 (by decide +kernel) ?_
  refine j_aload_n 45 dX4_init_44 rfl rfl ?_
  refine j_aload_n 46 dX4_init_45 rfl rfl ?_
  refine j_putR (j := 0) (fty := (.object "HeavierSide$Barge")) 49 cc4 dX4_init_46 rfl (by decide) (by decide) (by decide) (by decide +kernel) (by decide +kernel) (fin := true) rfl (Or.inr ⟨rfl, rfl, rfl⟩) w_319 (by decide +kernel) (by decide +kernel) (Or.inl ⟨_, rfl⟩) ?_
  exact j_ret dX4_init_49 rfl rfl rfl (Nat.le_refl _) (Nat.le_refl _)
theorem tn_X2_init_42 (Θ : Th) (l : Launch) (ρ : Rf) (s : Mem) (b43 : Blk s ρ 43) (b44 : Blk s ρ 44) (b45 : Blk s ρ 45) (b46 : Blk s ρ 46) (b47 : Blk s ρ 47) : Ct Θ l mX2_init 1 gU (47, wR (wR (wR (wR (wR (wR ρ 42 2 43) 42 4 44) 42 5 45) 42 6 46) 42 7 47) 42 3 6, 5, 24) 42 ρ [vR 42, vR 6] s (some ((), wI (wI s 42 0 0) 42 1 (-9))) := by
  refine ct_of (by decide) [some (vR 42), some (vR 6)] rfl (Nat.le_of_ble_eq_true rfl) ?_
  refine j_aload_n 1 dX2_init_0 rfl rfl ?_
  refine j_objInit 4 dX2_init_1 rfl w_343 w_97 w_98 (by decide) (by decide) (Nat.le_of_ble_eq_true rfl) (Nat.le_of_ble_eq_true rfl) ?_
  refine j_aload_n 5 dX2_init_4 rfl rfl ?_
  refine j_iconst (v := 0) 6 dX2_init_5 rfl (by decide) ?_
  refine j_putI (j := 0) 9 cc2 dX2_init_6 rfl (by decide) (by decide) (by decide) (by decide +kernel) (by decide +kernel) (fin := false) rfl (Or.inl rfl) w_344 (by decide +kernel) ?_
  refine j_aload_n 10 dX2_init_9 rfl rfl ?_
  refine j_bipush (v := (-9)) 12 dX2_init_10 rfl (by decide) ?_
  refine j_putI (j := 1) 15 cc2 dX2_init_12 rfl (by decide) (by decide) (by decide) (by decide +kernel) (by decide +kernel) (fin := false) rfl (Or.inl rfl) w_346 (by decide +kernel) ?_
  refine j_aload_n 16 dX2_init_15 rfl rfl ?_
  refine j_iconst (v := 4) 17 dX2_init_16 rfl (by decide) ?_
  refine j_newarray (c := 20) (at_ := .int) (ty := .int) (n0 := 4) 19 (by decide) rfl rfl (by decide) dX2_init_17 rfl w_125 (by decide) (by decide) (by decide +kernel) (by decide +kernel) (by decide) (by decide) (by decide) ⟨b43.1, b43.2.1, b43.2.2⟩ (Nat.le_of_ble_eq_true rfl) (Nat.le_of_ble_eq_true rfl) ?_
  refine j_putR (j := 2) (fty := (.array .int)) 22 cc2 dX2_init_19 rfl (by decide) (by decide) (by decide) (by decide +kernel) (by decide +kernel) (fin := true) rfl (Or.inr ⟨rfl, rfl, rfl⟩) w_348 (by decide +kernel) (by decide +kernel) (Or.inr ⟨_, rfl⟩) ?_
  refine j_aload_n 23 dX2_init_22 rfl rfl ?_
  refine j_iconst (v := 4) 24 dX2_init_23 rfl (by decide) ?_
  refine j_newarray (c := 20) (at_ := .int) (ty := .int) (n0 := 4) 26 (by decide) rfl rfl (by decide) dX2_init_24 rfl w_125 (by decide) (by decide) (by decide +kernel) (by decide +kernel) (by decide) (by decide) (by decide) ⟨b44.1, b44.2.1, b44.2.2⟩ (Nat.le_of_ble_eq_true rfl) (Nat.le_of_ble_eq_true rfl) ?_
  refine j_putR (j := 4) (fty := (.array .int)) 29 cc2 dX2_init_26 rfl (by decide) (by decide) (by decide) (by decide +kernel) (by decide +kernel) (fin := true) rfl (Or.inr ⟨rfl, rfl, rfl⟩) w_351 (by decide +kernel) (by decide +kernel) (Or.inr ⟨_, rfl⟩) ?_
  refine j_aload_n 30 dX2_init_29 rfl rfl ?_
  refine j_bipush (v := 8) 32 dX2_init_30 rfl (by decide) ?_
  refine j_newarray (c := 20) (at_ := .int) (ty := .int) (n0 := 8) 34 (by decide) rfl rfl (by decide) dX2_init_32 rfl w_125 (by decide) (by decide) (by decide +kernel) (by decide +kernel) (by decide) (by decide) (by decide) ⟨b45.1, b45.2.1, b45.2.2⟩ (Nat.le_of_ble_eq_true rfl) (Nat.le_of_ble_eq_true rfl) ?_
  refine j_putR (j := 5) (fty := (.array .int)) 37 cc2 dX2_init_34 rfl (by decide) (by decide) (by decide) (by decide +kernel) (by decide +kernel) (fin := true) rfl (Or.inr ⟨rfl, rfl, rfl⟩) w_352 (by decide +kernel) (by decide +kernel) (Or.inr ⟨_, rfl⟩) ?_
  refine j_aload_n 38 dX2_init_37 rfl rfl ?_
  refine j_iconst (v := 4) 39 dX2_init_38 rfl (by decide) ?_
  refine j_newarray (c := 20) (at_ := .int) (ty := .int) (n0 := 4) 41 (by decide) rfl rfl (by decide) dX2_init_39 rfl w_125 (by decide) (by decide) (by decide +kernel) (by decide +kernel) (by decide) (by decide) (by decide) ⟨b46.1, b46.2.1, b46.2.2⟩ (Nat.le_of_ble_eq_true rfl) (Nat.le_of_ble_eq_true rfl) ?_
  refine j_putR (j := 6) (fty := (.array .int)) 44 cc2 dX2_init_41 rfl (by decide) (by decide) (by decide) (by decide +kernel) (by decide +kernel) (fin := true) rfl (Or.inr ⟨rfl, rfl, rfl⟩) w_353 (by decide +kernel) (by decide +kernel) (Or.inr ⟨_, rfl⟩) ?_
  refine j_aload_n 45 dX2_init_44 rfl rfl ?_
  refine j_iconst (v := 4) 46 dX2_init_45 rfl (by decide) ?_
  refine j_newarray (c := 20) (at_ := .int) (ty := .int) (n0 := 4) 48 (by decide) rfl rfl (by decide) dX2_init_46 rfl w_125 (by decide) (by decide) (by decide +kernel) (by decide +kernel) (by decide) (by decide) (by decide) ⟨b47.1, b47.2.1, b47.2.2⟩ (Nat.le_of_ble_eq_true rfl) (Nat.le_of_ble_eq_true rfl) ?_
  refine j_putR (j := 7) (fty := (.array .int)) 51 cc2 dX2_init_48 rfl (by decide) (by decide) (by decide) (by decide +kernel) (by decide +kernel) (fin := true) rfl (Or.inr ⟨rfl, rfl, rfl⟩) w_354 (by decide +kernel) (by decide +kernel) (Or.inr ⟨_, rfl⟩) ?_
  refine j_aload_n 52 dX2_init_51 rfl rfl ?_
  refine j_aload_n 53 dX2_init_52 rfl rfl ?_
  refine j_putR (j := 3) (fty := (.object "HeavierSide$Barge")) 56 cc2 dX2_init_53 rfl (by decide) (by decide) (by decide) (by decide +kernel) (by decide +kernel) (fin := true) rfl (Or.inr ⟨rfl, rfl, rfl⟩) w_350 (by decide +kernel) (by decide +kernel) (Or.inl ⟨_, rfl⟩) ?_
  exact j_ret dX2_init_56 rfl rfl rfl (Nat.le_refl _) (Nat.le_refl _)
theorem tn_X7_init_48 (Θ : Th) (l : Launch) (ρ : Rf) (s : Mem) (b49 : Blk s ρ 49) : Ct Θ l mX7_init 1 gU (49, wR ρ 48 1 49, 1, 60) 48 ρ [vR 48] s (some ((), wI s 48 0 (-1))) := by
  refine ct_of (by decide) [some (vR 48)] rfl (Nat.le_of_ble_eq_true rfl) ?_
  refine j_aload_n 1 dX7_init_0 rfl rfl ?_
  refine j_objInit 4 dX7_init_1 rfl w_376 w_97 w_98 (by decide) (by decide) (Nat.le_of_ble_eq_true rfl) (Nat.le_of_ble_eq_true rfl) ?_
  refine j_aload_n 5 dX7_init_4 rfl rfl ?_
  refine j_iconst (v := (-1)) 6 dX7_init_5 rfl (by decide) ?_
  refine j_putI (j := 0) 9 cc7 dX7_init_6 rfl (by decide) (by decide) (by decide) (by decide +kernel) (by decide +kernel) (fin := false) rfl (Or.inl rfl) w_377 (by decide +kernel) ?_
  refine j_aload_n 10 dX7_init_9 rfl rfl ?_
  refine j_bipush (v := 60) 12 dX7_init_10 rfl (by decide) ?_
  refine j_newarray (c := 20) (at_ := .int) (ty := .int) (n0 := 60) 14 (by decide) rfl rfl (by decide) dX7_init_12 rfl w_125 (by decide) (by decide) (by decide +kernel) (by decide +kernel) (by decide) (by decide) (by decide) ⟨b49.1, b49.2.1, b49.2.2⟩ (Nat.le_of_ble_eq_true rfl) (Nat.le_of_ble_eq_true rfl) ?_
  refine j_putR (j := 1) (fty := (.array .int)) 17 cc7 dX7_init_14 rfl (by decide) (by decide) (by decide) (by decide +kernel) (by decide +kernel) (fin := true) rfl (Or.inr ⟨rfl, rfl, rfl⟩) w_380 (by decide +kernel) (by decide +kernel) (Or.inr ⟨_, rfl⟩) ?_
  exact j_ret dX7_init_17 rfl rfl rfl (Nat.le_refl _) (Nat.le_refl _)
theorem tn_X7_init_50 (Θ : Th) (l : Launch) (ρ : Rf) (s : Mem) (b51 : Blk s ρ 51) : Ct Θ l mX7_init 1 gU (51, wR ρ 50 1 51, 1, 60) 50 ρ [vR 50] s (some ((), wI s 50 0 (-1))) := by
  refine ct_of (by decide) [some (vR 50)] rfl (Nat.le_of_ble_eq_true rfl) ?_
  refine j_aload_n 1 dX7_init_0 rfl rfl ?_
  refine j_objInit 4 dX7_init_1 rfl w_376 w_97 w_98 (by decide) (by decide) (Nat.le_of_ble_eq_true rfl) (Nat.le_of_ble_eq_true rfl) ?_
  refine j_aload_n 5 dX7_init_4 rfl rfl ?_
  refine j_iconst (v := (-1)) 6 dX7_init_5 rfl (by decide) ?_
  refine j_putI (j := 0) 9 cc7 dX7_init_6 rfl (by decide) (by decide) (by decide) (by decide +kernel) (by decide +kernel) (fin := false) rfl (Or.inl rfl) w_377 (by decide +kernel) ?_
  refine j_aload_n 10 dX7_init_9 rfl rfl ?_
  refine j_bipush (v := 60) 12 dX7_init_10 rfl (by decide) ?_
  refine j_newarray (c := 20) (at_ := .int) (ty := .int) (n0 := 60) 14 (by decide) rfl rfl (by decide) dX7_init_12 rfl w_125 (by decide) (by decide) (by decide +kernel) (by decide +kernel) (by decide) (by decide) (by decide) ⟨b51.1, b51.2.1, b51.2.2⟩ (Nat.le_of_ble_eq_true rfl) (Nat.le_of_ble_eq_true rfl) ?_
  refine j_putR (j := 1) (fty := (.array .int)) 17 cc7 dX7_init_14 rfl (by decide) (by decide) (by decide) (by decide +kernel) (by decide +kernel) (fin := true) rfl (Or.inr ⟨rfl, rfl, rfl⟩) w_380 (by decide +kernel) (by decide +kernel) (Or.inr ⟨_, rfl⟩) ?_
  exact j_ret dX7_init_17 rfl rfl rfl (Nat.le_refl _) (Nat.le_refl _)
theorem tn_X7_init_52 (Θ : Th) (l : Launch) (ρ : Rf) (s : Mem) (b53 : Blk s ρ 53) : Ct Θ l mX7_init 1 gU (53, wR ρ 52 1 53, 1, 60) 52 ρ [vR 52] s (some ((), wI s 52 0 (-1))) := by
  refine ct_of (by decide) [some (vR 52)] rfl (Nat.le_of_ble_eq_true rfl) ?_
  refine j_aload_n 1 dX7_init_0 rfl rfl ?_
  refine j_objInit 4 dX7_init_1 rfl w_376 w_97 w_98 (by decide) (by decide) (Nat.le_of_ble_eq_true rfl) (Nat.le_of_ble_eq_true rfl) ?_
  refine j_aload_n 5 dX7_init_4 rfl rfl ?_
  refine j_iconst (v := (-1)) 6 dX7_init_5 rfl (by decide) ?_
  refine j_putI (j := 0) 9 cc7 dX7_init_6 rfl (by decide) (by decide) (by decide) (by decide +kernel) (by decide +kernel) (fin := false) rfl (Or.inl rfl) w_377 (by decide +kernel) ?_
  refine j_aload_n 10 dX7_init_9 rfl rfl ?_
  refine j_bipush (v := 60) 12 dX7_init_10 rfl (by decide) ?_
  refine j_newarray (c := 20) (at_ := .int) (ty := .int) (n0 := 60) 14 (by decide) rfl rfl (by decide) dX7_init_12 rfl w_125 (by decide) (by decide) (by decide +kernel) (by decide +kernel) (by decide) (by decide) (by decide) ⟨b53.1, b53.2.1, b53.2.2⟩ (Nat.le_of_ble_eq_true rfl) (Nat.le_of_ble_eq_true rfl) ?_
  refine j_putR (j := 1) (fty := (.array .int)) 17 cc7 dX7_init_14 rfl (by decide) (by decide) (by decide) (by decide +kernel) (by decide +kernel) (fin := true) rfl (Or.inr ⟨rfl, rfl, rfl⟩) w_380 (by decide +kernel) (by decide +kernel) (Or.inr ⟨_, rfl⟩) ?_
  exact j_ret dX7_init_17 rfl rfl rfl (Nat.le_refl _) (Nat.le_refl _)
theorem tn_X7_init_54 (Θ : Th) (l : Launch) (ρ : Rf) (s : Mem) (b55 : Blk s ρ 55) : Ct Θ l mX7_init 1 gU (55, wR ρ 54 1 55, 1, 60) 54 ρ [vR 54] s (some ((), wI s 54 0 (-1))) := by
  refine ct_of (by decide) [some (vR 54)] rfl (Nat.le_of_ble_eq_true rfl) ?_
  refine j_aload_n 1 dX7_init_0 rfl rfl ?_
  refine j_objInit 4 dX7_init_1 rfl w_376 w_97 w_98 (by decide) (by decide) (Nat.le_of_ble_eq_true rfl) (Nat.le_of_ble_eq_true rfl) ?_
  refine j_aload_n 5 dX7_init_4 rfl rfl ?_
  refine j_iconst (v := (-1)) 6 dX7_init_5 rfl (by decide) ?_
  refine j_putI (j := 0) 9 cc7 dX7_init_6 rfl (by decide) (by decide) (by decide) (by decide +kernel) (by decide +kernel) (fin := false) rfl (Or.inl rfl) w_377 (by decide +kernel) ?_
  refine j_aload_n 10 dX7_init_9 rfl rfl ?_
  refine j_bipush (v := 60) 12 dX7_init_10 rfl (by decide) ?_
  refine j_newarray (c := 20) (at_ := .int) (ty := .int) (n0 := 60) 14 (by decide) rfl rfl (by decide) dX7_init_12 rfl w_125 (by decide) (by decide) (by decide +kernel) (by decide +kernel) (by decide) (by decide) (by decide) ⟨b55.1, b55.2.1, b55.2.2⟩ (Nat.le_of_ble_eq_true rfl) (Nat.le_of_ble_eq_true rfl) ?_
  refine j_putR (j := 1) (fty := (.array .int)) 17 cc7 dX7_init_14 rfl (by decide) (by decide) (by decide) (by decide +kernel) (by decide +kernel) (fin := true) rfl (Or.inr ⟨rfl, rfl, rfl⟩) w_380 (by decide +kernel) (by decide +kernel) (Or.inr ⟨_, rfl⟩) ?_
  exact j_ret dX7_init_17 rfl rfl rfl (Nat.le_refl _) (Nat.le_refl _)
theorem tn_X7_init_56 (Θ : Th) (l : Launch) (ρ : Rf) (s : Mem) (b57 : Blk s ρ 57) : Ct Θ l mX7_init 1 gU (57, wR ρ 56 1 57, 1, 60) 56 ρ [vR 56] s (some ((), wI s 56 0 (-1))) := by
  refine ct_of (by decide) [some (vR 56)] rfl (Nat.le_of_ble_eq_true rfl) ?_
  refine j_aload_n 1 dX7_init_0 rfl rfl ?_
  refine j_objInit 4 dX7_init_1 rfl w_376 w_97 w_98 (by decide) (by decide) (Nat.le_of_ble_eq_true rfl) (Nat.le_of_ble_eq_true rfl) ?_
  refine j_aload_n 5 dX7_init_4 rfl rfl ?_
  refine j_iconst (v := (-1)) 6 dX7_init_5 rfl (by decide) ?_
  refine j_putI (j := 0) 9 cc7 dX7_init_6 rfl (by decide) (by decide) (by decide) (by decide +kernel) (by decide +kernel) (fin := false) rfl (Or.inl rfl) w_377 (by decide +kernel) ?_
  refine j_aload_n 10 dX7_init_9 rfl rfl ?_
  refine j_bipush (v := 60) 12 dX7_init_10 rfl (by decide) ?_
  refine j_newarray (c := 20) (at_ := .int) (ty := .int) (n0 := 60) 14 (by decide) rfl rfl (by decide) dX7_init_12 rfl w_125 (by decide) (by decide) (by decide +kernel) (by decide +kernel) (by decide) (by decide) (by decide) ⟨b57.1, b57.2.1, b57.2.2⟩ (Nat.le_of_ble_eq_true rfl) (Nat.le_of_ble_eq_true rfl) ?_
  refine j_putR (j := 1) (fty := (.array .int)) 17 cc7 dX7_init_14 rfl (by decide) (by decide) (by decide) (by decide +kernel) (by decide +kernel) (fin := true) rfl (Or.inr ⟨rfl, rfl, rfl⟩) w_380 (by decide +kernel) (by decide +kernel) (Or.inr ⟨_, rfl⟩) ?_
  exact j_ret dX7_init_17 rfl rfl rfl (Nat.le_refl _) (Nat.le_refl _)
theorem tn_X7_init_58 (Θ : Th) (l : Launch) (ρ : Rf) (s : Mem) (b59 : Blk s ρ 59) : Ct Θ l mX7_init 1 gU (59, wR ρ 58 1 59, 1, 60) 58 ρ [vR 58] s (some ((), wI s 58 0 (-1))) := by
  refine ct_of (by decide) [some (vR 58)] rfl (Nat.le_of_ble_eq_true rfl) ?_
  refine j_aload_n 1 dX7_init_0 rfl rfl ?_
  refine j_objInit 4 dX7_init_1 rfl w_376 w_97 w_98 (by decide) (by decide) (Nat.le_of_ble_eq_true rfl) (Nat.le_of_ble_eq_true rfl) ?_
  refine j_aload_n 5 dX7_init_4 rfl rfl ?_
  refine j_iconst (v := (-1)) 6 dX7_init_5 rfl (by decide) ?_
  refine j_putI (j := 0) 9 cc7 dX7_init_6 rfl (by decide) (by decide) (by decide) (by decide +kernel) (by decide +kernel) (fin := false) rfl (Or.inl rfl) w_377 (by decide +kernel) ?_
  refine j_aload_n 10 dX7_init_9 rfl rfl ?_
  refine j_bipush (v := 60) 12 dX7_init_10 rfl (by decide) ?_
  refine j_newarray (c := 20) (at_ := .int) (ty := .int) (n0 := 60) 14 (by decide) rfl rfl (by decide) dX7_init_12 rfl w_125 (by decide) (by decide) (by decide +kernel) (by decide +kernel) (by decide) (by decide) (by decide) ⟨b59.1, b59.2.1, b59.2.2⟩ (Nat.le_of_ble_eq_true rfl) (Nat.le_of_ble_eq_true rfl) ?_
  refine j_putR (j := 1) (fty := (.array .int)) 17 cc7 dX7_init_14 rfl (by decide) (by decide) (by decide) (by decide +kernel) (by decide +kernel) (fin := true) rfl (Or.inr ⟨rfl, rfl, rfl⟩) w_380 (by decide +kernel) (by decide +kernel) (Or.inr ⟨_, rfl⟩) ?_
  exact j_ret dX7_init_17 rfl rfl rfl (Nat.le_refl _) (Nat.le_refl _)
theorem tn_X9_init_60 (Θ : Th) (l : Launch) (ρ : Rf) (s : Mem) (b61 : Blk s ρ 61) : Ct Θ l mX9_init 1 gU (61, wR ρ 60 1 61, 1, 60) 60 ρ [vR 60] s (some ((), wI s 60 0 (-1))) := by
  refine ct_of (by decide) [some (vR 60)] rfl (Nat.le_of_ble_eq_true rfl) ?_
  refine j_aload_n 1 dX9_init_0 rfl rfl ?_
  refine j_objInit 4 dX9_init_1 rfl w_391 w_97 w_98 (by decide) (by decide) (Nat.le_of_ble_eq_true rfl) (Nat.le_of_ble_eq_true rfl) ?_
  refine j_aload_n 5 dX9_init_4 rfl rfl ?_
  refine j_iconst (v := (-1)) 6 dX9_init_5 rfl (by decide) ?_
  refine j_putI (j := 0) 9 cc9 dX9_init_6 rfl (by decide) (by decide) (by decide) (by decide +kernel) (by decide +kernel) (fin := false) rfl (Or.inl rfl) w_392 (by decide +kernel) ?_
  refine j_aload_n 10 dX9_init_9 rfl rfl ?_
  refine j_bipush (v := 60) 12 dX9_init_10 rfl (by decide) ?_
  refine j_newarray (c := 21) (at_ := .byte) (ty := .byte) (n0 := 60) 14 (by decide) rfl rfl (by decide) dX9_init_12 rfl w_401 (by decide) (by decide) (by decide +kernel) (by decide +kernel) (by decide) (by decide) (by decide) ⟨b61.1, b61.2.1, b61.2.2⟩ (Nat.le_of_ble_eq_true rfl) (Nat.le_of_ble_eq_true rfl) ?_
  refine j_putR (j := 1) (fty := (.array .byte)) 17 cc9 dX9_init_14 rfl (by decide) (by decide) (by decide) (by decide +kernel) (by decide +kernel) (fin := true) rfl (Or.inr ⟨rfl, rfl, rfl⟩) w_394 (by decide +kernel) (by decide +kernel) (Or.inr ⟨_, rfl⟩) ?_
  exact j_ret dX9_init_17 rfl rfl rfl (Nat.le_refl _) (Nat.le_refl _)
theorem tn_X9_init_62 (Θ : Th) (l : Launch) (ρ : Rf) (s : Mem) (b63 : Blk s ρ 63) : Ct Θ l mX9_init 1 gU (63, wR ρ 62 1 63, 1, 60) 62 ρ [vR 62] s (some ((), wI s 62 0 (-1))) := by
  refine ct_of (by decide) [some (vR 62)] rfl (Nat.le_of_ble_eq_true rfl) ?_
  refine j_aload_n 1 dX9_init_0 rfl rfl ?_
  refine j_objInit 4 dX9_init_1 rfl w_391 w_97 w_98 (by decide) (by decide) (Nat.le_of_ble_eq_true rfl) (Nat.le_of_ble_eq_true rfl) ?_
  refine j_aload_n 5 dX9_init_4 rfl rfl ?_
  refine j_iconst (v := (-1)) 6 dX9_init_5 rfl (by decide) ?_
  refine j_putI (j := 0) 9 cc9 dX9_init_6 rfl (by decide) (by decide) (by decide) (by decide +kernel) (by decide +kernel) (fin := false) rfl (Or.inl rfl) w_392 (by decide +kernel) ?_
  refine j_aload_n 10 dX9_init_9 rfl rfl ?_
  refine j_bipush (v := 60) 12 dX9_init_10 rfl (by decide) ?_
  refine j_newarray (c := 21) (at_ := .byte) (ty := .byte) (n0 := 60) 14 (by decide) rfl rfl (by decide) dX9_init_12 rfl w_401 (by decide) (by decide) (by decide +kernel) (by decide +kernel) (by decide) (by decide) (by decide) ⟨b63.1, b63.2.1, b63.2.2⟩ (Nat.le_of_ble_eq_true rfl) (Nat.le_of_ble_eq_true rfl) ?_
  refine j_putR (j := 1) (fty := (.array .byte)) 17 cc9 dX9_init_14 rfl (by decide) (by decide) (by decide) (by decide +kernel) (by decide +kernel) (fin := true) rfl (Or.inr ⟨rfl, rfl, rfl⟩) w_394 (by decide +kernel) (by decide +kernel) (Or.inr ⟨_, rfl⟩) ?_
  exact j_ret dX9_init_17 rfl rfl rfl (Nat.le_refl _) (Nat.le_refl _)
theorem tn_X9_init_64 (Θ : Th) (l : Launch) (ρ : Rf) (s : Mem) (b65 : Blk s ρ 65) : Ct Θ l mX9_init 1 gU (65, wR ρ 64 1 65, 1, 60) 64 ρ [vR 64] s (some ((), wI s 64 0 (-1))) := by
  refine ct_of (by decide) [some (vR 64)] rfl (Nat.le_of_ble_eq_true rfl) ?_
  refine j_aload_n 1 dX9_init_0 rfl rfl ?_
  refine j_objInit 4 dX9_init_1 rfl w_391 w_97 w_98 (by decide) (by decide) (Nat.le_of_ble_eq_true rfl) (Nat.le_of_ble_eq_true rfl) ?_
  refine j_aload_n 5 dX9_init_4 rfl rfl ?_
  refine j_iconst (v := (-1)) 6 dX9_init_5 rfl (by decide) ?_
  refine j_putI (j := 0) 9 cc9 dX9_init_6 rfl (by decide) (by decide) (by decide) (by decide +kernel) (by decide +kernel) (fin := false) rfl (Or.inl rfl) w_392 (by decide +kernel) ?_
  refine j_aload_n 10 dX9_init_9 rfl rfl ?_
  refine j_bipush (v := 60) 12 dX9_init_10 rfl (by decide) ?_
  refine j_newarray (c := 21) (at_ := .byte) (ty := .byte) (n0 := 60) 14 (by decide) rfl rfl (by decide) dX9_init_12 rfl w_401 (by decide) (by decide) (by decide +kernel) (by decide +kernel) (by decide) (by decide) (by decide) ⟨b65.1, b65.2.1, b65.2.2⟩ (Nat.le_of_ble_eq_true rfl) (Nat.le_of_ble_eq_true rfl) ?_
  refine j_putR (j := 1) (fty := (.array .byte)) 17 cc9 dX9_init_14 rfl (by decide) (by decide) (by decide) (by decide +kernel) (by decide +kernel) (fin := true) rfl (Or.inr ⟨rfl, rfl, rfl⟩) w_394 (by decide +kernel) (by decide +kernel) (Or.inr ⟨_, rfl⟩) ?_
  exact j_ret dX9_init_17 rfl rfl rfl (Nat.le_refl _) (Nat.le_refl _)
theorem tn_X9_init_66 (Θ : Th) (l : Launch) (ρ : Rf) (s : Mem) (b67 : Blk s ρ 67) : Ct Θ l mX9_init 1 gU (67, wR ρ 66 1 67, 1, 60) 66 ρ [vR 66] s (some ((), wI s 66 0 (-1))) := by
  refine ct_of (by decide) [some (vR 66)] rfl (Nat.le_of_ble_eq_true rfl) ?_
  refine j_aload_n 1 dX9_init_0 rfl rfl ?_
  refine j_objInit 4 dX9_init_1 rfl w_391 w_97 w_98 (by decide) (by decide) (Nat.le_of_ble_eq_true rfl) (Nat.le_of_ble_eq_true rfl) ?_
  refine j_aload_n 5 dX9_init_4 rfl rfl ?_
  refine j_iconst (v := (-1)) 6 dX9_init_5 rfl (by decide) ?_
  refine j_putI (j := 0) 9 cc9 dX9_init_6 rfl (by decide) (by decide) (by decide) (by decide +kernel) (by decide +kernel) (fin := false) rfl (Or.inl rfl) w_392 (by decide +kernel) ?_
  refine j_aload_n 10 dX9_init_9 rfl rfl ?_
  refine j_bipush (v := 60) 12 dX9_init_10 rfl (by decide) ?_
  refine j_newarray (c := 21) (at_ := .byte) (ty := .byte) (n0 := 60) 14 (by decide) rfl rfl (by decide) dX9_init_12 rfl w_401 (by decide) (by decide) (by decide +kernel) (by decide +kernel) (by decide) (by decide) (by decide) ⟨b67.1, b67.2.1, b67.2.2⟩ (Nat.le_of_ble_eq_true rfl) (Nat.le_of_ble_eq_true rfl) ?_
  refine j_putR (j := 1) (fty := (.array .byte)) 17 cc9 dX9_init_14 rfl (by decide) (by decide) (by decide) (by decide +kernel) (by decide +kernel) (fin := true) rfl (Or.inr ⟨rfl, rfl, rfl⟩) w_394 (by decide +kernel) (by decide +kernel) (Or.inr ⟨_, rfl⟩) ?_
  exact j_ret dX9_init_17 rfl rfl rfl (Nat.le_refl _) (Nat.le_refl _)
theorem tn_X11_init_1 (Θ : Th) (l : Launch) (ρ : Rf) (s : Mem) (b2 : Blk s ρ 2) (b3 : Blk s ρ 3) (b4 : Blk s ρ 4) (b5 : Blk s ρ 5) (b6 : Blk s ρ 6) (b7 : Blk s ρ 7) (b8 : Blk s ρ 8) (b9 : Blk s ρ 9) (b10 : Blk s ρ 10) (b11 : Blk s ρ 11) (b12 : Blk s ρ 12) (b13 : Blk s ρ 13) (b14 : Blk s ρ 14) (b15 : Blk s ρ 15) (b16 : Blk s ρ 16) (b17 : Blk s ρ 17) (b18 : Blk s ρ 18) (b19 : Blk s ρ 19) (b20 : Blk s ρ 20) (b21 : Blk s ρ 21) (b22 : Blk s ρ 22) (b23 : Blk s ρ 23) (b24 : Blk s ρ 24) (b25 : Blk s ρ 25) (b26 : Blk s ρ 26) (b27 : Blk s ρ 27) (b28 : Blk s ρ 28) (b29 : Blk s ρ 29) (b30 : Blk s ρ 30) (b31 : Blk s ρ 31) (b32 : Blk s ρ 32) (b33 : Blk s ρ 33) (b34 : Blk s ρ 34) (b35 : Blk s ρ 35) (b36 : Blk s ρ 36) (b37 : Blk s ρ 37) (b38 : Blk s ρ 38) (b39 : Blk s ρ 39) (b40 : Blk s ρ 40) (b41 : Blk s ρ 41) (b42 : Blk s ρ 42) (b43 : Blk s ρ 43) (b44 : Blk s ρ 44) (b45 : Blk s ρ 45) (b46 : Blk s ρ 46) (b47 : Blk s ρ 47) (b48 : Blk s ρ 48) (b49 : Blk s ρ 49) (b50 : Blk s ρ 50) (b51 : Blk s ρ 51) (b52 : Blk s ρ 52) (b53 : Blk s ρ 53) (b54 : Blk s ρ 54) (b55 : Blk s ρ 55) (b56 : Blk s ρ 56) (b57 : Blk s ρ 57) (b58 : Blk s ρ 58) (b59 : Blk s ρ 59) (b60 : Blk s ρ 60) (b61 : Blk s ρ 61) (b62 : Blk s ρ 62) (b63 : Blk s ρ 63) (b64 : Blk s ρ 64) (b65 : Blk s ρ 65) (b66 : Blk s ρ 66) (b67 : Blk s ρ 67) : Ct Θ l mX11_init 3 gU (67, wR (wR (wR (wR (wR (wR (wR (wR (wR (wR (wR (wR (wR (wR (wR (wR (wR (wR (wR (wR (wR (wR (wR (wR (wR (wR (wR (wR (wR (wR (wR (wR (wR (wR (wR (wR (wR (wR (wR (wR (wR (wR (wR (wR (wR (wR (wR (wR (wR (wR (wR (wR (wR (wR (wR (wR (wR (wR (wR (wR (wR (wR (wR (wR (wR (wR (wR (wR (wR (wR (wR ρ 2 4 3) 1 0 2) 1 1 4) 1 2 5) 7 1 8) 7 2 9) 7 3 10) 6 4 7) 6 5 11) 6 6 12) 6 7 13) 6 8 14) 6 9 15) 6 10 16) 6 11 17) 1 3 6) 1 4 7) 18 1 19) 1 5 18) 20 1 21) 20 2 22) 20 3 23) 1 6 20) 24 0 25) 24 1 26) 1 7 24) 27 1 28) 27 6 29) 27 8 30) 27 9 31) 27 10 32) 27 11 33) 27 12 34) 27 13 35) 27 14 36) 27 4 6) 27 5 18) 1 8 27) 37 1 38) 37 2 39) 37 3 40) 37 4 41) 37 0 6) 1 9 37) 42 2 43) 42 4 44) 42 5 45) 42 6 46) 42 7 47) 42 3 6) 1 10 42) 48 1 49) 4 0 48) 50 1 51) 4 1 50) 52 1 53) 4 2 52) 54 1 55) 4 3 54) 56 1 57) 4 4 56) 58 1 59) 4 5 58) 60 1 61) 5 0 60) 62 1 63) 5 1 62) 64 1 65) 5 2 64) 66 1 67) 5 3 66, 66, 1804) 1 ρ [vR 1] s (some ((), wI (wI (wI (wI (wI (wI (wI (wI (wI (wI (wI (wI (wI (wI (wI (wI (wI (wI (wI (wI (wI (wI (wI (wI (wI (wI (wI (wL (wL (wI s 2 0 0) 2 1 0) 2 2 1) 2 3 0) 6 0 0) 6 1 0) 6 2 0) 6 3 0) 7 0 0) 6 12 0) 18 0 1) 18 2 1) 20 0 0) 27 0 (-9)) 27 2 0) 27 3 0) 27 7 0) 37 5 0) 42 0 0) 42 1 (-9)) 48 0 (-1)) 50 0 (-1)) 52 0 (-1)) 54 0 (-1)) 56 0 (-1)) 58 0 (-1)) 60 0 (-1)) 62 0 (-1)) 64 0 (-1)) 66 0 (-1))) := by
  refine ct_of (by decide) [some (vR 1), none] rfl (Nat.le_of_ble_eq_true rfl) ?_
  refine j_aload_n 1 dX11_init_0 rfl rfl ?_
  refine j_objInit 4 dX11_init_1 rfl w_96 w_97 w_98 (by decide) (by decide) (Nat.le_of_ble_eq_true rfl) (Nat.le_of_ble_eq_true rfl) ?_
  refine j_aload_n 5 dX11_init_4 rfl rfl ?_
  refine j_new 8 cc10 df10 dX11_init_5 rfl w_99 w_100 w_76 (by decide) (by decide) (by decide +kernel) ⟨b2.1, b2.2.1, b2.2.2⟩ (Nat.le_of_ble_eq_true rfl) (Nat.le_of_ble_eq_true rfl) ?_
  refine j_dup 9 dX11_init_8 rfl rfl ?_
  refine j_callT (M2 := mX10_init) [] 12 mkX10_init (Or.inr ⟨_, w_101⟩) dX11_init_9 rfl rfl (by decide) (by decide) (tn_X10_init_2 Θ l _ _ ⟨b3.1, b3.2.1, b3.2.2⟩) (Nat.le_of_ble_eq_true rfl) (Nat.le_of_ble_eq_true rfl) (Nat.le_of_ble_eq_true rfl) (Nat.le_of_ble_eq_true rfl) (Nat.le_of_ble_eq_true rfl) ?_
  refine j_putR (j := 0) (fty := (.object "HeavierSide$Told")) 15 cc11 dX11_init_12 rfl (by decide) (by decide) (by decide) (by decide +kernel) (by decide +kernel) (fin := true) rfl (Or.inr ⟨rfl, rfl, rfl⟩) w_402 (by decide +kernel) (by decide +kernel) (Or.inl ⟨_, rfl⟩) ?_
  refine j_aload_n 16 dX11_init_15 rfl rfl ?_
  refine j_bipush (v := 6) 18 dX11_init_16 rfl (by decide) ?_
  refine j_anewarray (c := 23) (n0 := 6) 21 (by first | exact Or.inl ⟨rfl, rfl⟩ | exact Or.inr ⟨rfl, rfl⟩) dX11_init_18 rfl w_126 (by decide) (by decide) (by decide +kernel) (by decide +kernel) (by decide) (by decide) (by decide) ⟨b4.1, b4.2.1, b4.2.2⟩ (Nat.le_of_ble_eq_true rfl) (Nat.le_of_ble_eq_true rfl) ?_
  refine j_putR (j := 1) (fty := (.array (.object "HeavierSide$Row"))) 24 cc11 dX11_init_21 rfl (by decide) (by decide) (by decide) (by decide +kernel) (by decide +kernel) (fin := true) rfl (Or.inr ⟨rfl, rfl, rfl⟩) w_403 (by decide +kernel) (by decide +kernel) (Or.inr ⟨_, rfl⟩) ?_
  refine j_aload_n 25 dX11_init_24 rfl rfl ?_
  refine j_iconst (v := 4) 26 dX11_init_25 rfl (by decide) ?_
  refine j_anewarray (c := 24) (n0 := 4) 29 (by first | exact Or.inl ⟨rfl, rfl⟩ | exact Or.inr ⟨rfl, rfl⟩) dX11_init_26 rfl w_128 (by decide) (by decide) (by decide +kernel) (by decide +kernel) (by decide) (by decide) (by decide) ⟨b5.1, b5.2.1, b5.2.2⟩ (Nat.le_of_ble_eq_true rfl) (Nat.le_of_ble_eq_true rfl) ?_
  refine j_putR (j := 2) (fty := (.array (.object "HeavierSide$Text"))) 32 cc11 dX11_init_29 rfl (by decide) (by decide) (by decide) (by decide +kernel) (by decide +kernel) (fin := true) rfl (Or.inr ⟨rfl, rfl, rfl⟩) w_404 (by decide +kernel) (by decide +kernel) (Or.inr ⟨_, rfl⟩) ?_
  refine j_aload_n 33 dX11_init_32 rfl rfl ?_
  refine j_new 36 cc0 df0 dX11_init_33 rfl w_130 w_131 w_77 (by decide) (by decide) (by decide +kernel) ⟨b6.1, b6.2.1, b6.2.2⟩ (Nat.le_of_ble_eq_true rfl) (Nat.le_of_ble_eq_true rfl) ?_
  refine j_dup 37 dX11_init_36 rfl rfl ?_
  refine j_callT (M2 := mX0_init) [] 40 mkX0_init (Or.inr ⟨_, w_132⟩) dX11_init_37 rfl rfl (by decide) (by decide) (tn_X0_init_6 Θ l _ _ ⟨b7.1, b7.2.1, b7.2.2⟩ ⟨b8.1, b8.2.1, b8.2.2⟩ ⟨b9.1, b9.2.1, b9.2.2⟩ ⟨b10.1, b10.2.1, b10.2.2⟩ ⟨b11.1, b11.2.1, b11.2.2⟩ ⟨b12.1, b12.2.1, b12.2.2⟩ ⟨b13.1, b13.2.1, b13.2.2⟩ ⟨b14.1, b14.2.1, b14.2.2⟩ ⟨b15.1, b15.2.1, b15.2.2⟩ ⟨b16.1, b16.2.1, b16.2.2⟩ ⟨b17.1, b17.2.1, b17.2.2⟩) (Nat.le_of_ble_eq_true rfl) (Nat.le_of_ble_eq_true rfl) (Nat.le_of_ble_eq_true rfl) (Nat.le_of_ble_eq_true rfl) (Nat.le_of_ble_eq_true rfl) ?_
  refine j_putR (j := 3) (fty := (.object "HeavierSide$Barge")) 43 cc11 dX11_init_40 rfl (by decide) (by decide) (by decide) (by decide +kernel) (by decide +kernel) (fin := true) rfl (Or.inr ⟨rfl, rfl, rfl⟩) w_405 (by decide +kernel) (by decide +kernel) (Or.inl ⟨_, rfl⟩) ?_
  refine j_aload_n 44 dX11_init_43 rfl rfl ?_
  refine j_aload_n 45 dX11_init_44 rfl rfl ?_
  refine j_get (v := vR 6) 48 cc11 dX11_init_45 rfl (by decide) (by decide) (by decide) (by decide +kernel) (j := 3) (by decide +kernel) rfl w_405 (fun _ => rfl) ?_
  refine j_get (v := vR 7) 51 cc0 dX11_init_48 rfl (by decide) (by decide) (by decide) (by decide +kernel) (j := 4) (by decide +kernel) rfl w_169 (fun _ => rfl) ?_
  refine j_putR (j := 4) (fty := (.object "HeavierSide$Quarrels")) 54 cc11 dX11_init_51 rfl (by decide) (by decide) (by decide) (by decide +kernel) (by decide +kernel) (fin := true) rfl (Or.inr ⟨rfl, rfl, rfl⟩) w_406 (by decide +kernel) (by decide +kernel) (Or.inl ⟨_, rfl⟩) ?_
  refine j_aload_n 55 dX11_init_54 rfl rfl ?_
  refine j_new 58 cc6 df6 dX11_init_55 rfl w_206 w_207 w_79 (by decide) (by decide) (by decide +kernel) ⟨b18.1, b18.2.1, b18.2.2⟩ (Nat.le_of_ble_eq_true rfl) (Nat.le_of_ble_eq_true rfl) ?_
  refine j_dup 59 dX11_init_58 rfl rfl ?_
  refine j_callT (M2 := mX6_init) [] 62 mkX6_init (Or.inr ⟨_, w_208⟩) dX11_init_59 rfl rfl (by decide) (by decide) (tn_X6_init_18 Θ l _ _ ⟨b19.1, b19.2.1, b19.2.2⟩) (Nat.le_of_ble_eq_true rfl) (Nat.le_of_ble_eq_true rfl) (Nat.le_of_ble_eq_true rfl) (Nat.le_of_ble_eq_true rfl) (Nat.le_of_ble_eq_true rfl) ?_
  refine j_putR (j := 5) (fty := (.object "HeavierSide$Rite")) 65 cc11 dX11_init_62 rfl (by decide) (by decide) (by decide) (by decide +kernel) (by decide +kernel) (fin := true) rfl (Or.inr ⟨rfl, rfl, rfl⟩) w_407 (by decide +kernel) (by decide +kernel) (Or.inl ⟨_, rfl⟩) ?_
  refine j_aload_n 66 dX11_init_65 rfl rfl ?_
  refine j_new 69 cc1 df1 dX11_init_66 rfl w_223 w_224 w_80 (by decide) (by decide) (by decide +kernel) ⟨b20.1, b20.2.1, b20.2.2⟩ (Nat.le_of_ble_eq_true rfl) (Nat.le_of_ble_eq_true rfl) ?_
  refine j_dup 70 dX11_init_69 rfl rfl ?_
  refine j_callT (M2 := mX1_init) [] 73 mkX1_init (Or.inr ⟨_, w_225⟩) dX11_init_70 rfl rfl (by decide) (by decide) (tn_X1_init_20 Θ l _ _ ⟨b21.1, b21.2.1, b21.2.2⟩ ⟨b22.1, b22.2.1, b22.2.2⟩ ⟨b23.1, b23.2.1, b23.2.2⟩) (Nat.le_of_ble_eq_true rfl) (Nat.le_of_ble_eq_true rfl) (Nat.le_of_ble_eq_true rfl) (Nat.le_of_ble_eq_true rfl) (Nat.le_of_ble_eq_true rfl) ?_
  refine j_putR (j := 6) (fty := (.object "HeavierSide$Deeds")) 76 cc11 dX11_init_73 rfl (by decide) (by decide) (by decide) (by decide +kernel) (by decide +kernel) (fin := true) rfl (Or.inr ⟨rfl, rfl, rfl⟩) w_408 (by decide +kernel) (by decide +kernel) (Or.inl ⟨_, rfl⟩) ?_
  refine j_aload_n 77 dX11_init_76 rfl rfl ?_
  refine j_new 80 cc3 df3 dX11_init_77 rfl w_243 w_244 w_81 (by decide) (by decide) (by decide +kernel) ⟨b24.1, b24.2.1, b24.2.2⟩ (Nat.le_of_ble_eq_true rfl) (Nat.le_of_ble_eq_true rfl) ?_
  refine j_dup 81 dX11_init_80 rfl rfl ?_
  refine j_callT (M2 := mX3_init) [] 84 mkX3_init (Or.inr ⟨_, w_245⟩) dX11_init_81 rfl rfl (by decide) (by decide) (tn_X3_init_24 Θ l _ _ ⟨b25.1, b25.2.1, b25.2.2⟩ ⟨b26.1, b26.2.1, b26.2.2⟩) (Nat.le_of_ble_eq_true rfl) (Nat.le_of_ble_eq_true rfl) (Nat.le_of_ble_eq_true rfl) (Nat.le_of_ble_eq_true rfl) (Nat.le_of_ble_eq_true rfl) ?_
  refine j_putR (j := 7) (fty := (.object "HeavierSide$Kept")) 87 cc11 dX11_init_84 rfl (by decide) (by decide) (by decide) (by decide +kernel) (by decide +kernel) (fin := true) rfl (Or.inr ⟨rfl, rfl, rfl⟩) w_409 (by decide +kernel) (by decide +kernel) (Or.inl ⟨_, rfl⟩) ?_
  refine j_aload_n 88 dX11_init_87 rfl rfl ?_
  refine j_new 91 cc8 df8 dX11_init_88 rfl w_257 w_258 w_82 (by decide) (by decide) (by decide +kernel) ⟨b27.1, b27.2.1, b27.2.2⟩ (Nat.le_of_ble_eq_true rfl) (Nat.le_of_ble_eq_true rfl) ?_
  refine j_dup 92 dX11_init_91 rfl rfl ?_
  refine j_aload_n 93 dX11_init_92 rfl rfl ?_
  refine j_get (v := vR 6) 96 cc11 dX11_init_93 rfl (by decide) (by decide) (by decide) (by decide +kernel) (j := 3) (by decide +kernel) rfl w_405 (fun _ => rfl) ?_
  refine j_aload_n 97 dX11_init_96 rfl rfl ?_
  refine j_get (v := vR 18) 100 cc11 dX11_init_97 rfl (by decide) (by decide) (by decide) (by decide +kernel) (j := 5) (by decide +kernel) rfl w_407 (fun _ => rfl) ?_
  refine j_callT (M2 := mX8_init) [vR 6, vR 18] 103 mkX8_init (Or.inl w_259) dX11_init_100 rfl rfl (by decide) (by decide) (tn_X8_init_27 Θ l _ _ ⟨b28.1, b28.2.1, b28.2.2⟩ ⟨b29.1, b29.2.1, b29.2.2⟩ ⟨b30.1, b30.2.1, b30.2.2⟩ ⟨b31.1, b31.2.1, b31.2.2⟩ ⟨b32.1, b32.2.1, b32.2.2⟩ ⟨b33.1, b33.2.1, b33.2.2⟩ ⟨b34.1, b34.2.1, b34.2.2⟩ ⟨b35.1, b35.2.1, b35.2.2⟩ ⟨b36.1, b36.2.1, b36.2.2⟩) (Nat.le_of_ble_eq_true rfl) (Nat.le_of_ble_eq_true rfl) (Nat.le_of_ble_eq_true rfl) (Nat.le_of_ble_eq_true rfl) (Nat.le_of_ble_eq_true rfl) ?_
  refine j_putR (j := 8) (fty := (.object "HeavierSide$Seatings")) 106 cc11 dX11_init_103 rfl (by decide) (by decide) (by decide) (by decide +kernel) (by decide +kernel) (fin := true) rfl (Or.inr ⟨rfl, rfl, rfl⟩) w_410 (by decide +kernel) (by decide +kernel) (Or.inl ⟨_, rfl⟩) ?_
  refine j_aload_n 107 dX11_init_106 rfl rfl ?_
  refine j_new 110 cc4 df4 dX11_init_107 rfl w_313 w_314 w_83 (by decide) (by decide) (by decide +kernel) ⟨b37.1, b37.2.1, b37.2.2⟩ (Nat.le_of_ble_eq_true rfl) (Nat.le_of_ble_eq_true rfl) ?_
  refine j_dup 111 dX11_init_110 rfl rfl ?_
  refine j_aload_n 112 dX11_init_111 rfl rfl ?_
  refine j_get (v := vR 6) 115 cc11 dX11_init_112 rfl (by decide) (by decide) (by decide) (by decide +kernel) (j := 3) (by decide +kernel) rfl w_405 (fun _ => rfl) ?_
  refine j_callT (M2 := mX4_init) [vR 6] 118 mkX4_init (Or.inl w_315) dX11_init_115 rfl rfl (by decide) (by decide) (tn_X4_init_37 Θ l _ _ ⟨b38.1, b38.2.1, b38.2.2⟩ ⟨b39.1, b39.2.1, b39.2.2⟩ ⟨b40.1, b40.2.1, b40.2.2⟩ ⟨b41.1, b41.2.1, b41.2.2⟩) (Nat.le_of_ble_eq_true rfl) (Nat.le_of_ble_eq_true rfl) (Nat.le_of_ble_eq_true rfl) (Nat.le_of_ble_eq_true rfl) (Nat.le_of_ble_eq_true rfl) ?_
  refine j_putR (j := 9) (fty := (.object "HeavierSide$Leaving")) 121 cc11 dX11_init_118 rfl (by decide) (by decide) (by decide) (by decide +kernel) (by decide +kernel) (fin := true) rfl (Or.inr ⟨rfl, rfl, rfl⟩) w_411 (by decide +kernel) (by decide +kernel) (Or.inl ⟨_, rfl⟩) ?_
  refine j_aload_n 122 dX11_init_121 rfl rfl ?_
  refine j_new 125 cc2 df2 dX11_init_122 rfl w_338 w_339 w_84 (by decide) (by decide) (by decide +kernel) ⟨b42.1, b42.2.1, b42.2.2⟩ (Nat.le_of_ble_eq_true rfl) (Nat.le_of_ble_eq_true rfl) ?_
  refine j_dup 126 dX11_init_125 rfl rfl ?_
  refine j_aload_n 127 dX11_init_126 rfl rfl ?_
  refine j_get (v := vR 6) 130 cc11 dX11_init_127 rfl (by decide) (by decide) (by decide) (by decide +kernel) (j := 3) (by decide +kernel) rfl w_405 (fun _ => rfl) ?_
  refine j_callT (M2 := mX2_init) [vR 6] 133 mkX2_init (Or.inl w_340) dX11_init_130 rfl rfl (by decide) (by decide) (tn_X2_init_42 Θ l _ _ ⟨b43.1, b43.2.1, b43.2.2⟩ ⟨b44.1, b44.2.1, b44.2.2⟩ ⟨b45.1, b45.2.1, b45.2.2⟩ ⟨b46.1, b46.2.1, b46.2.2⟩ ⟨b47.1, b47.2.1, b47.2.2⟩) (Nat.le_of_ble_eq_true rfl) (Nat.le_of_ble_eq_true rfl) (Nat.le_of_ble_eq_true rfl) (Nat.le_of_ble_eq_true rfl) (Nat.le_of_ble_eq_true rfl) ?_
  refine j_putR (j := 10) (fty := (.object "HeavierSide$Invitation")) 136 cc11 dX11_init_133 rfl (by decide) (by decide) (by decide) (by decide +kernel) (by decide +kernel) (fin := true) rfl (Or.inr ⟨rfl, rfl, rfl⟩) w_412 (by decide +kernel) (by decide +kernel) (Or.inl ⟨_, rfl⟩) ?_
  refine j_iconst (v := 0) 137 dX11_init_136 rfl (by decide) ?_
  refine j_istore_n (i := 1) (ls' := [some (vR 1), some (vI 0)]) 138 dX11_init_137 rfl rfl (by decide) rfl rfl ?_
  refine j_iload_n 139 dX11_init_138 rfl rfl ?_
  refine j_bipush (v := 6) 141 dX11_init_139 rfl (by decide) ?_
  refine j_icmp_ge_T 163 144 dX11_init_141 (by decide) rfl (by decide) ?_
  refine j_aload_n 145 dX11_init_144 rfl rfl ?_
  refine j_get (v := vR 4) 148 cc11 dX11_init_145 rfl (by decide) (by decide) (by decide) (by decide +kernel) (j := 1) (by decide +kernel) rfl w_403 (fun _ => rfl) ?_
  refine j_iload_n 149 dX11_init_148 rfl rfl ?_
  refine j_new 152 cc7 df7 dX11_init_149 rfl w_126 w_372 w_85 (by decide) (by decide) (by decide +kernel) ⟨b48.1, b48.2.1, b48.2.2⟩ (Nat.le_of_ble_eq_true rfl) (Nat.le_of_ble_eq_true rfl) ?_
  refine j_dup 153 dX11_init_152 rfl rfl ?_
  refine j_callT (M2 := mX7_init) [] 156 mkX7_init (Or.inr ⟨_, w_373⟩) dX11_init_153 rfl rfl (by decide) (by decide) (tn_X7_init_48 Θ l _ _ ⟨b49.1, b49.2.1, b49.2.2⟩) (Nat.le_of_ble_eq_true rfl) (Nat.le_of_ble_eq_true rfl) (Nat.le_of_ble_eq_true rfl) (Nat.le_of_ble_eq_true rfl) (Nat.le_of_ble_eq_true rfl) ?_
  refine j_aastore (c := 23) 157 (by first | exact Or.inl ⟨rfl, rfl⟩ | exact Or.inr ⟨rfl, rfl⟩) cc7 dX11_init_156 rfl (by decide) (by decide) (by decide) (by decide +kernel) (by decide) (by decide) (by decide +kernel) (z := 6) (by decide +kernel) (by decide) ?_
  refine j_iinc (v := 1) (ls' := [some (vR 1), some (vI 1)]) 160 dX11_init_157 rfl rfl (by decide) (by decide) rfl rfl ?_
  refine j_goto 138 dX11_init_160 (by decide) ?_
  refine j_iload_n 139 dX11_init_138 rfl rfl ?_
  refine j_bipush (v := 6) 141 dX11_init_139 rfl (by decide) ?_
  refine j_icmp_ge_T 163 144 dX11_init_141 (by decide) rfl (by decide) ?_
  refine j_aload_n 145 dX11_init_144 rfl rfl ?_
  refine j_get (v := vR 4) 148 cc11 dX11_init_145 rfl (by decide) (by decide) (by decide) (by decide +kernel) (j := 1) (by decide +kernel) rfl w_403 (fun _ => rfl) ?_
  refine j_iload_n 149 dX11_init_148 rfl rfl ?_
  refine j_new 152 cc7 df7 dX11_init_149 rfl w_126 w_372 w_85 (by decide) (by decide) (by decide +kernel) ⟨b50.1, b50.2.1, b50.2.2⟩ (Nat.le_of_ble_eq_true rfl) (Nat.le_of_ble_eq_true rfl) ?_
  refine j_dup 153 dX11_init_152 rfl rfl ?_
  refine j_callT (M2 := mX7_init) [] 156 mkX7_init (Or.inr ⟨_, w_373⟩) dX11_init_153 rfl rfl (by decide) (by decide) (tn_X7_init_50 Θ l _ _ ⟨b51.1, b51.2.1, b51.2.2⟩) (Nat.le_of_ble_eq_true rfl) (Nat.le_of_ble_eq_true rfl) (Nat.le_of_ble_eq_true rfl) (Nat.le_of_ble_eq_true rfl) (Nat.le_of_ble_eq_true rfl) ?_
  refine j_aastore (c := 23) 157 (by first | exact Or.inl ⟨rfl, rfl⟩ | exact Or.inr ⟨rfl, rfl⟩) cc7 dX11_init_156 rfl (by decide) (by decide) (by decide) (by decide +kernel) (by decide) (by decide) (by decide +kernel) (z := 6) (by decide +kernel) (by decide) ?_
  refine j_iinc (v := 2) (ls' := [some (vR 1), some (vI 2)]) 160 dX11_init_157 rfl rfl (by decide) (by decide) rfl rfl ?_
  refine j_goto 138 dX11_init_160 (by decide) ?_
  refine j_iload_n 139 dX11_init_138 rfl rfl ?_
  refine j_bipush (v := 6) 141 dX11_init_139 rfl (by decide) ?_
  refine j_icmp_ge_T 163 144 dX11_init_141 (by decide) rfl (by decide) ?_
  refine j_aload_n 145 dX11_init_144 rfl rfl ?_
  refine j_get (v := vR 4) 148 cc11 dX11_init_145 rfl (by decide) (by decide) (by decide) (by decide +kernel) (j := 1) (by decide +kernel) rfl w_403 (fun _ => rfl) ?_
  refine j_iload_n 149 dX11_init_148 rfl rfl ?_
  refine j_new 152 cc7 df7 dX11_init_149 rfl w_126 w_372 w_85 (by decide) (by decide) (by decide +kernel) ⟨b52.1, b52.2.1, b52.2.2⟩ (Nat.le_of_ble_eq_true rfl) (Nat.le_of_ble_eq_true rfl) ?_
  refine j_dup 153 dX11_init_152 rfl rfl ?_
  refine j_callT (M2 := mX7_init) [] 156 mkX7_init (Or.inr ⟨_, w_373⟩) dX11_init_153 rfl rfl (by decide) (by decide) (tn_X7_init_52 Θ l _ _ ⟨b53.1, b53.2.1, b53.2.2⟩) (Nat.le_of_ble_eq_true rfl) (Nat.le_of_ble_eq_true rfl) (Nat.le_of_ble_eq_true rfl) (Nat.le_of_ble_eq_true rfl) (Nat.le_of_ble_eq_true rfl) ?_
  refine j_aastore (c := 23) 157 (by first | exact Or.inl ⟨rfl, rfl⟩ | exact Or.inr ⟨rfl, rfl⟩) cc7 dX11_init_156 rfl (by decide) (by decide) (by decide) (by decide +kernel) (by decide) (by decide) (by decide +kernel) (z := 6) (by decide +kernel) (by decide) ?_
  refine j_iinc (v := 3) (ls' := [some (vR 1), some (vI 3)]) 160 dX11_init_157 rfl rfl (by decide) (by decide) rfl rfl ?_
  refine j_goto 138 dX11_init_160 (by decide) ?_
  refine j_iload_n 139 dX11_init_138 rfl rfl ?_
  refine j_bipush (v := 6) 141 dX11_init_139 rfl (by decide) ?_
  refine j_icmp_ge_T 163 144 dX11_init_141 (by decide) rfl (by decide) ?_
  refine j_aload_n 145 dX11_init_144 rfl rfl ?_
  refine j_get (v := vR 4) 148 cc11 dX11_init_145 rfl (by decide) (by decide) (by decide) (by decide +kernel) (j := 1) (by decide +kernel) rfl w_403 (fun _ => rfl) ?_
  refine j_iload_n 149 dX11_init_148 rfl rfl ?_
  refine j_new 152 cc7 df7 dX11_init_149 rfl w_126 w_372 w_85 (by decide) (by decide) (by decide +kernel) ⟨b54.1, b54.2.1, b54.2.2⟩ (Nat.le_of_ble_eq_true rfl) (Nat.le_of_ble_eq_true rfl) ?_
  refine j_dup 153 dX11_init_152 rfl rfl ?_
  refine j_callT (M2 := mX7_init) [] 156 mkX7_init (Or.inr ⟨_, w_373⟩) dX11_init_153 rfl rfl (by decide) (by decide) (tn_X7_init_54 Θ l _ _ ⟨b55.1, b55.2.1, b55.2.2⟩) (Nat.le_of_ble_eq_true rfl) (Nat.le_of_ble_eq_true rfl) (Nat.le_of_ble_eq_true rfl) (Nat.le_of_ble_eq_true rfl) (Nat.le_of_ble_eq_true rfl) ?_
  refine j_aastore (c := 23) 157 (by first | exact Or.inl ⟨rfl, rfl⟩ | exact Or.inr ⟨rfl, rfl⟩) cc7 dX11_init_156 rfl (by decide) (by decide) (by decide) (by decide +kernel) (by decide) (by decide) (by decide +kernel) (z := 6) (by decide +kernel) (by decide) ?_
  refine j_iinc (v := 4) (ls' := [some (vR 1), some (vI 4)]) 160 dX11_init_157 rfl rfl (by decide) (by decide) rfl rfl ?_
  refine j_goto 138 dX11_init_160 (by decide) ?_
  refine j_iload_n 139 dX11_init_138 rfl rfl ?_
  refine j_bipush (v := 6) 141 dX11_init_139 rfl (by decide) ?_
  refine j_icmp_ge_T 163 144 dX11_init_141 (by decide) rfl (by decide) ?_
  refine j_aload_n 145 dX11_init_144 rfl rfl ?_
  refine j_get (v := vR 4) 148 cc11 dX11_init_145 rfl (by decide) (by decide) (by decide) (by decide +kernel) (j := 1) (by decide +kernel) rfl w_403 (fun _ => rfl) ?_
  refine j_iload_n 149 dX11_init_148 rfl rfl ?_
  refine j_new 152 cc7 df7 dX11_init_149 rfl w_126 w_372 w_85 (by decide) (by decide) (by decide +kernel) ⟨b56.1, b56.2.1, b56.2.2⟩ (Nat.le_of_ble_eq_true rfl) (Nat.le_of_ble_eq_true rfl) ?_
  refine j_dup 153 dX11_init_152 rfl rfl ?_
  refine j_callT (M2 := mX7_init) [] 156 mkX7_init (Or.inr ⟨_, w_373⟩) dX11_init_153 rfl rfl (by decide) (by decide) (tn_X7_init_56 Θ l _ _ ⟨b57.1, b57.2.1, b57.2.2⟩) (Nat.le_of_ble_eq_true rfl) (Nat.le_of_ble_eq_true rfl) (Nat.le_of_ble_eq_true rfl) (Nat.le_of_ble_eq_true rfl) (Nat.le_of_ble_eq_true rfl) ?_
  refine j_aastore (c := 23) 157 (by first | exact Or.inl ⟨rfl, rfl⟩ | exact Or.inr ⟨rfl, rfl⟩) cc7 dX11_init_156 rfl (by decide) (by decide) (by decide) (by decide +kernel) (by decide) (by decide) (by decide +kernel) (z := 6) (by decide +kernel) (by decide) ?_
  refine j_iinc (v := 5) (ls' := [some (vR 1), some (vI 5)]) 160 dX11_init_157 rfl rfl (by decide) (by decide) rfl rfl ?_
  refine j_goto 138 dX11_init_160 (by decide) ?_
  refine j_iload_n 139 dX11_init_138 rfl rfl ?_
  refine j_bipush (v := 6) 141 dX11_init_139 rfl (by decide) ?_
  refine j_icmp_ge_T 163 144 dX11_init_141 (by decide) rfl (by decide) ?_
  refine j_aload_n 145 dX11_init_144 rfl rfl ?_
  refine j_get (v := vR 4) 148 cc11 dX11_init_145 rfl (by decide) (by decide) (by decide) (by decide +kernel) (j := 1) (by decide +kernel) rfl w_403 (fun _ => rfl) ?_
  refine j_iload_n 149 dX11_init_148 rfl rfl ?_
  refine j_new 152 cc7 df7 dX11_init_149 rfl w_126 w_372 w_85 (by decide) (by decide) (by decide +kernel) ⟨b58.1, b58.2.1, b58.2.2⟩ (Nat.le_of_ble_eq_true rfl) (Nat.le_of_ble_eq_true rfl) ?_
  refine j_dup 153 dX11_init_152 rfl rfl ?_
  refine j_callT (M2 := mX7_init) [] 156 mkX7_init (Or.inr ⟨_, w_373⟩) dX11_init_153 rfl rfl (by decide) (by decide) (tn_X7_init_58 Θ l _ _ ⟨b59.1, b59.2.1, b59.2.2⟩) (Nat.le_of_ble_eq_true rfl) (Nat.le_of_ble_eq_true rfl) (Nat.le_of_ble_eq_true rfl) (Nat.le_of_ble_eq_true rfl) (Nat.le_of_ble_eq_true rfl) ?_
  refine j_aastore (c := 23) 157 (by first | exact Or.inl ⟨rfl, rfl⟩ | exact Or.inr ⟨rfl, rfl⟩) cc7 dX11_init_156 rfl (by decide) (by decide) (by decide) (by decide +kernel) (by decide) (by decide) (by decide +kernel) (z := 6) (by decide +kernel) (by decide) ?_
  refine j_iinc (v := 6) (ls' := [some (vR 1), some (vI 6)]) 160 dX11_init_157 rfl rfl (by decide) (by decide) rfl rfl ?_
  refine j_goto 138 dX11_init_160 (by decide) ?_
  refine j_iload_n 139 dX11_init_138 rfl rfl ?_
  refine j_bipush (v := 6) 141 dX11_init_139 rfl (by decide) ?_
  refine j_icmp_ge_F 163 144 dX11_init_141 (by decide) rfl (by decide) ?_
  refine j_iconst (v := 0) 164 dX11_init_163 rfl (by decide) ?_
  refine j_istore_n (i := 1) (ls' := [some (vR 1), some (vI 0)]) 165 dX11_init_164 rfl rfl (by decide) rfl rfl ?_
  refine j_iload_n 166 dX11_init_165 rfl rfl ?_
  refine j_iconst (v := 4) 167 dX11_init_166 rfl (by decide) ?_
  refine j_icmp_ge_T 189 170 dX11_init_167 (by decide) rfl (by decide) ?_
  refine j_aload_n 171 dX11_init_170 rfl rfl ?_
  refine j_get (v := vR 5) 174 cc11 dX11_init_171 rfl (by decide) (by decide) (by decide) (by decide +kernel) (j := 2) (by decide +kernel) rfl w_404 (fun _ => rfl) ?_
  refine j_iload_n 175 dX11_init_174 rfl rfl ?_
  refine j_new 178 cc9 df9 dX11_init_175 rfl w_128 w_387 w_86 (by decide) (by decide) (by decide +kernel) ⟨b60.1, b60.2.1, b60.2.2⟩ (Nat.le_of_ble_eq_true rfl) (Nat.le_of_ble_eq_true rfl) ?_
  refine j_dup 179 dX11_init_178 rfl rfl ?_
  refine j_callT (M2 := mX9_init) [] 182 mkX9_init (Or.inr ⟨_, w_388⟩) dX11_init_179 rfl rfl (by decide) (by decide) (tn_X9_init_60 Θ l _ _ ⟨b61.1, b61.2.1, b61.2.2⟩) (Nat.le_of_ble_eq_true rfl) (Nat.le_of_ble_eq_true rfl) (Nat.le_of_ble_eq_true rfl) (Nat.le_of_ble_eq_true rfl) (Nat.le_of_ble_eq_true rfl) ?_
  refine j_aastore (c := 24) 183 (by first | exact Or.inl ⟨rfl, rfl⟩ | exact Or.inr ⟨rfl, rfl⟩) cc9 dX11_init_182 rfl (by decide) (by decide) (by decide) (by decide +kernel) (by decide) (by decide) (by decide +kernel) (z := 4) (by decide +kernel) (by decide) ?_
  refine j_iinc (v := 1) (ls' := [some (vR 1), some (vI 1)]) 186 dX11_init_183 rfl rfl (by decide) (by decide) rfl rfl ?_
  refine j_goto 165 dX11_init_186 (by decide) ?_
  refine j_iload_n 166 dX11_init_165 rfl rfl ?_
  refine j_iconst (v := 4) 167 dX11_init_166 rfl (by decide) ?_
  refine j_icmp_ge_T 189 170 dX11_init_167 (by decide) rfl (by decide) ?_
  refine j_aload_n 171 dX11_init_170 rfl rfl ?_
  refine j_get (v := vR 5) 174 cc11 dX11_init_171 rfl (by decide) (by decide) (by decide) (by decide +kernel) (j := 2) (by decide +kernel) rfl w_404 (fun _ => rfl) ?_
  refine j_iload_n 175 dX11_init_174 rfl rfl ?_
  refine j_new 178 cc9 df9 dX11_init_175 rfl w_128 w_387 w_86 (by decide) (by decide) (by decide +kernel) ⟨b62.1, b62.2.1, b62.2.2⟩ (Nat.le_of_ble_eq_true rfl) (Nat.le_of_ble_eq_true rfl) ?_
  refine j_dup 179 dX11_init_178 rfl rfl ?_
  refine j_callT (M2 := mX9_init) [] 182 mkX9_init (Or.inr ⟨_, w_388⟩) dX11_init_179 rfl rfl (by decide) (by decide) (tn_X9_init_62 Θ l _ _ ⟨b63.1, b63.2.1, b63.2.2⟩) (Nat.le_of_ble_eq_true rfl) (Nat.le_of_ble_eq_true rfl) (Nat.le_of_ble_eq_true rfl) (Nat.le_of_ble_eq_true rfl) (Nat.le_of_ble_eq_true rfl) ?_
  refine j_aastore (c := 24) 183 (by first | exact Or.inl ⟨rfl, rfl⟩ | exact Or.inr ⟨rfl, rfl⟩) cc9 dX11_init_182 rfl (by decide) (by decide) (by decide) (by decide +kernel) (by decide) (by decide) (by decide +kernel) (z := 4) (by decide +kernel) (by decide) ?_
  refine j_iinc (v := 2) (ls' := [some (vR 1), some (vI 2)]) 186 dX11_init_183 rfl rfl (by decide) (by decide) rfl rfl ?_
  refine j_goto 165 dX11_init_186 (by decide) ?_
  refine j_iload_n 166 dX11_init_165 rfl rfl ?_
  refine j_iconst (v := 4) 167 dX11_init_166 rfl (by decide) ?_
  refine j_icmp_ge_T 189 170 dX11_init_167 (by decide) rfl (by decide) ?_
  refine j_aload_n 171 dX11_init_170 rfl rfl ?_
  refine j_get (v := vR 5) 174 cc11 dX11_init_171 rfl (by decide) (by decide) (by decide) (by decide +kernel) (j := 2) (by decide +kernel) rfl w_404 (fun _ => rfl) ?_
  refine j_iload_n 175 dX11_init_174 rfl rfl ?_
  refine j_new 178 cc9 df9 dX11_init_175 rfl w_128 w_387 w_86 (by decide) (by decide) (by decide +kernel) ⟨b64.1, b64.2.1, b64.2.2⟩ (Nat.le_of_ble_eq_true rfl) (Nat.le_of_ble_eq_true rfl) ?_
  refine j_dup 179 dX11_init_178 rfl rfl ?_
  refine j_callT (M2 := mX9_init) [] 182 mkX9_init (Or.inr ⟨_, w_388⟩) dX11_init_179 rfl rfl (by decide) (by decide) (tn_X9_init_64 Θ l _ _ ⟨b65.1, b65.2.1, b65.2.2⟩) (Nat.le_of_ble_eq_true rfl) (Nat.le_of_ble_eq_true rfl) (Nat.le_of_ble_eq_true rfl) (Nat.le_of_ble_eq_true rfl) (Nat.le_of_ble_eq_true rfl) ?_
  refine j_aastore (c := 24) 183 (by first | exact Or.inl ⟨rfl, rfl⟩ | exact Or.inr ⟨rfl, rfl⟩) cc9 dX11_init_182 rfl (by decide) (by decide) (by decide) (by decide +kernel) (by decide) (by decide) (by decide +kernel) (z := 4) (by decide +kernel) (by decide) ?_
  refine j_iinc (v := 3) (ls' := [some (vR 1), some (vI 3)]) 186 dX11_init_183 rfl rfl (by decide) (by decide) rfl rfl ?_
  refine j_goto 165 dX11_init_186 (by decide) ?_
  refine j_iload_n 166 dX11_init_165 rfl rfl ?_
  refine j_iconst (v := 4) 167 dX11_init_166 rfl (by decide) ?_
  refine j_icmp_ge_T 189 170 dX11_init_167 (by decide) rfl (by decide) ?_
  refine j_aload_n 171 dX11_init_170 rfl rfl ?_
  refine j_get (v := vR 5) 174 cc11 dX11_init_171 rfl (by decide) (by decide) (by decide) (by decide +kernel) (j := 2) (by decide +kernel) rfl w_404 (fun _ => rfl) ?_
  refine j_iload_n 175 dX11_init_174 rfl rfl ?_
  refine j_new 178 cc9 df9 dX11_init_175 rfl w_128 w_387 w_86 (by decide) (by decide) (by decide +kernel) ⟨b66.1, b66.2.1, b66.2.2⟩ (Nat.le_of_ble_eq_true rfl) (Nat.le_of_ble_eq_true rfl) ?_
  refine j_dup 179 dX11_init_178 rfl rfl ?_
  refine j_callT (M2 := mX9_init) [] 182 mkX9_init (Or.inr ⟨_, w_388⟩) dX11_init_179 rfl rfl (by decide) (by decide) (tn_X9_init_66 Θ l _ _ ⟨b67.1, b67.2.1, b67.2.2⟩) (Nat.le_of_ble_eq_true rfl) (Nat.le_of_ble_eq_true rfl) (Nat.le_of_ble_eq_true rfl) (Nat.le_of_ble_eq_true rfl) (Nat.le_of_ble_eq_true rfl) ?_
  refine j_aastore (c := 24) 183 (by first | exact Or.inl ⟨rfl, rfl⟩ | exact Or.inr ⟨rfl, rfl⟩) cc9 dX11_init_182 rfl (by decide) (by decide) (by decide) (by decide +kernel) (by decide) (by decide) (by decide +kernel) (z := 4) (by decide +kernel) (by decide) ?_
  refine j_iinc (v := 4) (ls' := [some (vR 1), some (vI 4)]) 186 dX11_init_183 rfl rfl (by decide) (by decide) rfl rfl ?_
  refine j_goto 165 dX11_init_186 (by decide) ?_
  refine j_iload_n 166 dX11_init_165 rfl rfl ?_
  refine j_iconst (v := 4) 167 dX11_init_166 rfl (by decide) ?_
  refine j_icmp_ge_F 189 170 dX11_init_167 (by decide) rfl (by decide) ?_
  exact j_ret dX11_init_189 rfl rfl rfl (Nat.le_refl _) (Nat.le_refl _)
theorem tn_X12_init_68 (Θ : Th) (l : Launch) (ρ : Rf) (s : Mem) (b69 : Blk s ρ 69) (b70 : Blk s ρ 70) (b71 : Blk s ρ 71) (b72 : Blk s ρ 72) (b73 : Blk s ρ 73) (b74 : Blk s ρ 74) (b75 : Blk s ρ 75) (b76 : Blk s ρ 76) (b77 : Blk s ρ 77) (b78 : Blk s ρ 78) (b79 : Blk s ρ 79) (b80 : Blk s ρ 80) (b81 : Blk s ρ 81) (b82 : Blk s ρ 82) (b83 : Blk s ρ 83) (b84 : Blk s ρ 84) (b85 : Blk s ρ 85) (b86 : Blk s ρ 86) (b87 : Blk s ρ 87) (b88 : Blk s ρ 88) (b89 : Blk s ρ 89) (b90 : Blk s ρ 90) (b91 : Blk s ρ 91) (b92 : Blk s ρ 92) (b93 : Blk s ρ 93) (b94 : Blk s ρ 94) (b95 : Blk s ρ 95) (b96 : Blk s ρ 96) (b97 : Blk s ρ 97) (b98 : Blk s ρ 98) : Ct Θ l mX12_init 1 gU (98, wR (wR (wR (wR (wR (wR (wR (wR (wR (wR (wR (wR (wR (wR (wR (wR (wR (wR (wR (wR (wR (wR (wR (wR (wR (wR (wR (wR (wR (wR ρ 68 1 69) 68 5 70) 68 6 71) 68 7 72) 68 8 73) 68 9 74) 68 11 75) 68 13 76) 68 14 77) 68 15 78) 68 16 79) 68 20 80) 68 25 81) 68 26 82) 68 27 83) 68 28 84) 68 30 85) 68 31 86) 68 33 87) 68 34 88) 68 35 89) 68 40 90) 68 41 91) 68 45 92) 68 46 93) 68 48 94) 68 49 95) 68 50 96) 68 51 97) 68 52 98, 30, 1354) 68 ρ [vR 68] s (some ((), wI (wI (wI (wI (wI (wI (wI (wI (wI (wI (wI (wL s 68 4 1) 68 19 1) 70 0 (-1)) 70 1 (-1)) 70 2 (-1)) 70 3 (-1)) 70 4 (-1)) 70 5 (-1)) 73 0 (-1)) 73 1 (-1)) 73 2 (-1)) 73 3 (-1))) := by
  refine ct_of (by decide) [some (vR 68), none] rfl (Nat.le_of_ble_eq_true rfl) ?_
  refine j_aload_n 1 dX12_init_0 rfl rfl ?_
  refine j_objInit 4 dX12_init_1 rfl w_1205 w_97 w_98 (by decide) (by decide) (Nat.le_of_ble_eq_true rfl) (Nat.le_of_ble_eq_true rfl) ?_
  refine j_aload_n 5 dX12_init_4 rfl rfl ?_
  refine j_bipush (v := 6) 7 dX12_init_5 rfl (by decide) ?_
  refine j_newarray (c := 20) (at_ := .int) (ty := .int) (n0 := 6) 9 (by decide) rfl rfl (by decide) dX12_init_7 rfl w_125 (by decide) (by decide) (by decide +kernel) (by decide +kernel) (by decide) (by decide) (by decide) ⟨b69.1, b69.2.1, b69.2.2⟩ (Nat.le_of_ble_eq_true rfl) (Nat.le_of_ble_eq_true rfl) ?_
  refine j_putR (j := 1) (fty := (.array .int)) 12 cc12 dX12_init_9 rfl (by decide) (by decide) (by decide) (by decide +kernel) (by decide +kernel) (fin := true) rfl (Or.inr ⟨rfl, rfl, rfl⟩) w_1207 (by decide +kernel) (by decide +kernel) (Or.inr ⟨_, rfl⟩) ?_
  refine j_aload_n 13 dX12_init_12 rfl rfl ?_
  refine j_bipush (v := 6) 15 dX12_init_13 rfl (by decide) ?_
  refine j_newarray (c := 20) (at_ := .int) (ty := .int) (n0 := 6) 17 (by decide) rfl rfl (by decide) dX12_init_15 rfl w_125 (by decide) (by decide) (by decide +kernel) (by decide +kernel) (by decide) (by decide) (by decide) ⟨b70.1, b70.2.1, b70.2.2⟩ (Nat.le_of_ble_eq_true rfl) (Nat.le_of_ble_eq_true rfl) ?_
  refine j_putR (j := 5) (fty := (.array .int)) 20 cc12 dX12_init_17 rfl (by decide) (by decide) (by decide) (by decide +kernel) (by decide +kernel) (fin := true) rfl (Or.inr ⟨rfl, rfl, rfl⟩) w_1211 (by decide +kernel) (by decide +kernel) (Or.inr ⟨_, rfl⟩) ?_
  refine j_aload_n 21 dX12_init_20 rfl rfl ?_
  refine j_sipush (v := 360) 24 dX12_init_21 rfl (by decide) ?_
  refine j_newarray (c := 20) (at_ := .int) (ty := .int) (n0 := 360) 26 (by decide) rfl rfl (by decide) dX12_init_24 rfl w_125 (by decide) (by decide) (by decide +kernel) (by decide +kernel) (by decide) (by decide) (by decide) ⟨b71.1, b71.2.1, b71.2.2⟩ (Nat.le_of_ble_eq_true rfl) (Nat.le_of_ble_eq_true rfl) ?_
  refine j_putR (j := 6) (fty := (.array .int)) 29 cc12 dX12_init_26 rfl (by decide) (by decide) (by decide) (by decide +kernel) (by decide +kernel) (fin := true) rfl (Or.inr ⟨rfl, rfl, rfl⟩) w_1212 (by decide +kernel) (by decide +kernel) (Or.inr ⟨_, rfl⟩) ?_
  refine j_aload_n 30 dX12_init_29 rfl rfl ?_
  refine j_bipush (v := 60) 32 dX12_init_30 rfl (by decide) ?_
  refine j_newarray (c := 20) (at_ := .int) (ty := .int) (n0 := 60) 34 (by decide) rfl rfl (by decide) dX12_init_32 rfl w_125 (by decide) (by decide) (by decide +kernel) (by decide +kernel) (by decide) (by decide) (by decide) ⟨b72.1, b72.2.1, b72.2.2⟩ (Nat.le_of_ble_eq_true rfl) (Nat.le_of_ble_eq_true rfl) ?_
  refine j_putR (j := 7) (fty := (.array .int)) 37 cc12 dX12_init_34 rfl (by decide) (by decide) (by decide) (by decide +kernel) (by decide +kernel) (fin := true) rfl (Or.inr ⟨rfl, rfl, rfl⟩) w_1213 (by decide +kernel) (by decide +kernel) (Or.inr ⟨_, rfl⟩) ?_
  refine j_aload_n 38 dX12_init_37 rfl rfl ?_
  refine j_iconst (v := 4) 39 dX12_init_38 rfl (by decide) ?_
  refine j_newarray (c := 20) (at_ := .int) (ty := .int) (n0 := 4) 41 (by decide) rfl rfl (by decide) dX12_init_39 rfl w_125 (by decide) (by decide) (by decide +kernel) (by decide +kernel) (by decide) (by decide) (by decide) ⟨b73.1, b73.2.1, b73.2.2⟩ (Nat.le_of_ble_eq_true rfl) (Nat.le_of_ble_eq_true rfl) ?_
  refine j_putR (j := 8) (fty := (.array .int)) 44 cc12 dX12_init_41 rfl (by decide) (by decide) (by decide) (by decide +kernel) (by decide +kernel) (fin := true) rfl (Or.inr ⟨rfl, rfl, rfl⟩) w_1214 (by decide +kernel) (by decide +kernel) (Or.inr ⟨_, rfl⟩) ?_
  refine j_aload_n 45 dX12_init_44 rfl rfl ?_
  refine j_sipush (v := 240) 48 dX12_init_45 rfl (by decide) ?_
  refine j_newarray (c := 21) (at_ := .byte) (ty := .byte) (n0 := 240) 50 (by decide) rfl rfl (by decide) dX12_init_48 rfl w_401 (by decide) (by decide) (by decide +kernel) (by decide +kernel) (by decide) (by decide) (by decide) ⟨b74.1, b74.2.1, b74.2.2⟩ (Nat.le_of_ble_eq_true rfl) (Nat.le_of_ble_eq_true rfl) ?_
  refine j_putR (j := 9) (fty := (.array .byte)) 53 cc12 dX12_init_50 rfl (by decide) (by decide) (by decide) (by decide +kernel) (by decide +kernel) (fin := true) rfl (Or.inr ⟨rfl, rfl, rfl⟩) w_1215 (by decide +kernel) (by decide +kernel) (Or.inr ⟨_, rfl⟩) ?_
  refine j_aload_n 54 dX12_init_53 rfl rfl ?_
  refine j_bipush (v := 8) 56 dX12_init_54 rfl (by decide) ?_
  refine j_newarray (c := 20) (at_ := .int) (ty := .int) (n0 := 8) 58 (by decide) rfl rfl (by decide) dX12_init_56 rfl w_125 (by decide) (by decide) (by decide +kernel) (by decide +kernel) (by decide) (by decide) (by decide) ⟨b75.1, b75.2.1, b75.2.2⟩ (Nat.le_of_ble_eq_true rfl) (Nat.le_of_ble_eq_true rfl) ?_
  refine j_putR (j := 11) (fty := (.array .int)) 61 cc12 dX12_init_58 rfl (by decide) (by decide) (by decide) (by decide +kernel) (by decide +kernel) (fin := true) rfl (Or.inr ⟨rfl, rfl, rfl⟩) w_1217 (by decide +kernel) (by decide +kernel) (Or.inr ⟨_, rfl⟩) ?_
  refine j_aload_n 62 dX12_init_61 rfl rfl ?_
  refine j_bipush (v := 7) 64 dX12_init_62 rfl (by decide) ?_
  refine j_newarray (c := 20) (at_ := .int) (ty := .int) (n0 := 7) 66 (by decide) rfl rfl (by decide) dX12_init_64 rfl w_125 (by decide) (by decide) (by decide +kernel) (by decide +kernel) (by decide) (by decide) (by decide) ⟨b76.1, b76.2.1, b76.2.2⟩ (Nat.le_of_ble_eq_true rfl) (Nat.le_of_ble_eq_true rfl) ?_
  refine j_putR (j := 13) (fty := (.array .int)) 69 cc12 dX12_init_66 rfl (by decide) (by decide) (by decide) (by decide +kernel) (by decide +kernel) (fin := true) rfl (Or.inr ⟨rfl, rfl, rfl⟩) w_1219 (by decide +kernel) (by decide +kernel) (Or.inr ⟨_, rfl⟩) ?_
  refine j_aload_n 70 dX12_init_69 rfl rfl ?_
  refine j_bipush (v := 7) 72 dX12_init_70 rfl (by decide) ?_
  refine j_newarray (c := 20) (at_ := .int) (ty := .int) (n0 := 7) 74 (by decide) rfl rfl (by decide) dX12_init_72 rfl w_125 (by decide) (by decide) (by decide +kernel) (by decide +kernel) (by decide) (by decide) (by decide) ⟨b77.1, b77.2.1, b77.2.2⟩ (Nat.le_of_ble_eq_true rfl) (Nat.le_of_ble_eq_true rfl) ?_
  refine j_putR (j := 14) (fty := (.array .int)) 77 cc12 dX12_init_74 rfl (by decide) (by decide) (by decide) (by decide +kernel) (by decide +kernel) (fin := true) rfl (Or.inr ⟨rfl, rfl, rfl⟩) w_1220 (by decide +kernel) (by decide +kernel) (Or.inr ⟨_, rfl⟩) ?_
  refine j_aload_n 78 dX12_init_77 rfl rfl ?_
  refine j_bipush (v := 7) 80 dX12_init_78 rfl (by decide) ?_
  refine j_newarray (c := 20) (at_ := .int) (ty := .int) (n0 := 7) 82 (by decide) rfl rfl (by decide) dX12_init_80 rfl w_125 (by decide) (by decide) (by decide +kernel) (by decide +kernel) (by decide) (by decide) (by decide) ⟨b78.1, b78.2.1, b78.2.2⟩ (Nat.le_of_ble_eq_true rfl) (Nat.le_of_ble_eq_true rfl) ?_
  refine j_putR (j := 15) (fty := (.array .int)) 85 cc12 dX12_init_82 rfl (by decide) (by decide) (by decide) (by decide +kernel) (by decide +kernel) (fin := true) rfl (Or.inr ⟨rfl, rfl, rfl⟩) w_1221 (by decide +kernel) (by decide +kernel) (Or.inr ⟨_, rfl⟩) ?_
  refine j_aload_n 86 dX12_init_85 rfl rfl ?_
  refine j_bipush (v := 8) 88 dX12_init_86 rfl (by decide) ?_
  refine j_newarray (c := 20) (at_ := .int) (ty := .int) (n0 := 8) 90 (by decide) rfl rfl (by decide) dX12_init_88 rfl w_125 (by decide) (by decide) (by decide +kernel) (by decide +kernel) (by decide) (by decide) (by decide) ⟨b79.1, b79.2.1, b79.2.2⟩ (Nat.le_of_ble_eq_true rfl) (Nat.le_of_ble_eq_true rfl) ?_
  refine j_putR (j := 16) (fty := (.array .int)) 93 cc12 dX12_init_90 rfl (by decide) (by decide) (by decide) (by decide +kernel) (by decide +kernel) (fin := true) rfl (Or.inr ⟨rfl, rfl, rfl⟩) w_1222 (by decide +kernel) (by decide +kernel) (Or.inr ⟨_, rfl⟩) ?_
  refine j_aload_n 94 dX12_init_93 rfl rfl ?_
  refine j_bipush (v := 40) 96 dX12_init_94 rfl (by decide) ?_
  refine j_newarray (c := 20) (at_ := .int) (ty := .int) (n0 := 40) 98 (by decide) rfl rfl (by decide) dX12_init_96 rfl w_125 (by decide) (by decide) (by decide +kernel) (by decide +kernel) (by decide) (by decide) (by decide) ⟨b80.1, b80.2.1, b80.2.2⟩ (Nat.le_of_ble_eq_true rfl) (Nat.le_of_ble_eq_true rfl) ?_
  refine j_putR (j := 20) (fty := (.array .int)) 101 cc12 dX12_init_98 rfl (by decide) (by decide) (by decide) (by decide +kernel) (by decide +kernel) (fin := true) rfl (Or.inr ⟨rfl, rfl, rfl⟩) w_1226 (by decide +kernel) (by decide +kernel) (Or.inr ⟨_, rfl⟩) ?_
  refine j_aload_n 102 dX12_init_101 rfl rfl ?_
  refine j_bipush (v := 8) 104 dX12_init_102 rfl (by decide) ?_
  refine j_newarray (c := 20) (at_ := .int) (ty := .int) (n0 := 8) 106 (by decide) rfl rfl (by decide) dX12_init_104 rfl w_125 (by decide) (by decide) (by decide +kernel) (by decide +kernel) (by decide) (by decide) (by decide) ⟨b81.1, b81.2.1, b81.2.2⟩ (Nat.le_of_ble_eq_true rfl) (Nat.le_of_ble_eq_true rfl) ?_
  refine j_putR (j := 25) (fty := (.array .int)) 109 cc12 dX12_init_106 rfl (by decide) (by decide) (by decide) (by decide +kernel) (by decide +kernel) (fin := true) rfl (Or.inr ⟨rfl, rfl, rfl⟩) w_1231 (by decide +kernel) (by decide +kernel) (Or.inr ⟨_, rfl⟩) ?_
  refine j_aload_n 110 dX12_init_109 rfl rfl ?_
  refine j_bipush (v := 7) 112 dX12_init_110 rfl (by decide) ?_
  refine j_newarray (c := 20) (at_ := .int) (ty := .int) (n0 := 7) 114 (by decide) rfl rfl (by decide) dX12_init_112 rfl w_125 (by decide) (by decide) (by decide +kernel) (by decide +kernel) (by decide) (by decide) (by decide) ⟨b82.1, b82.2.1, b82.2.2⟩ (Nat.le_of_ble_eq_true rfl) (Nat.le_of_ble_eq_true rfl) ?_
  refine j_putR (j := 26) (fty := (.array .int)) 117 cc12 dX12_init_114 rfl (by decide) (by decide) (by decide) (by decide +kernel) (by decide +kernel) (fin := true) rfl (Or.inr ⟨rfl, rfl, rfl⟩) w_1232 (by decide +kernel) (by decide +kernel) (Or.inr ⟨_, rfl⟩) ?_
  refine j_aload_n 118 dX12_init_117 rfl rfl ?_
  refine j_bipush (v := 7) 120 dX12_init_118 rfl (by decide) ?_
  refine j_newarray (c := 20) (at_ := .int) (ty := .int) (n0 := 7) 122 (by decide) rfl rfl (by decide) dX12_init_120 rfl w_125 (by decide) (by decide) (by decide +kernel) (by decide +kernel) (by decide) (by decide) (by decide) ⟨b83.1, b83.2.1, b83.2.2⟩ (Nat.le_of_ble_eq_true rfl) (Nat.le_of_ble_eq_true rfl) ?_
  refine j_putR (j := 27) (fty := (.array .int)) 125 cc12 dX12_init_122 rfl (by decide) (by decide) (by decide) (by decide +kernel) (by decide +kernel) (fin := true) rfl (Or.inr ⟨rfl, rfl, rfl⟩) w_1233 (by decide +kernel) (by decide +kernel) (Or.inr ⟨_, rfl⟩) ?_
  refine j_aload_n 126 dX12_init_125 rfl rfl ?_
  refine j_bipush (v := 7) 128 dX12_init_126 rfl (by decide) ?_
  refine j_newarray (c := 20) (at_ := .int) (ty := .int) (n0 := 7) 130 (by decide) rfl rfl (by decide) dX12_init_128 rfl w_125 (by decide) (by decide) (by decide +kernel) (by decide +kernel) (by decide) (by decide) (by decide) ⟨b84.1, b84.2.1, b84.2.2⟩ (Nat.le_of_ble_eq_true rfl) (Nat.le_of_ble_eq_true rfl) ?_
  refine j_putR (j := 28) (fty := (.array .int)) 133 cc12 dX12_init_130 rfl (by decide) (by decide) (by decide) (by decide +kernel) (by decide +kernel) (fin := true) rfl (Or.inr ⟨rfl, rfl, rfl⟩) w_1234 (by decide +kernel) (by decide +kernel) (Or.inr ⟨_, rfl⟩) ?_
  refine j_aload_n 134 dX12_init_133 rfl rfl ?_
  refine j_bipush (v := 8) 136 dX12_init_134 rfl (by decide) ?_
  refine j_newarray (c := 20) (at_ := .int) (ty := .int) (n0 := 8) 138 (by decide) rfl rfl (by decide) dX12_init_136 rfl w_125 (by decide) (by decide) (by decide +kernel) (by decide +kernel) (by decide) (by decide) (by decide) ⟨b85.1, b85.2.1, b85.2.2⟩ (Nat.le_of_ble_eq_true rfl) (Nat.le_of_ble_eq_true rfl) ?_
  refine j_putR (j := 30) (fty := (.array .int)) 141 cc12 dX12_init_138 rfl (by decide) (by decide) (by decide) (by decide +kernel) (by decide +kernel) (fin := true) rfl (Or.inr ⟨rfl, rfl, rfl⟩) w_1236 (by decide +kernel) (by decide +kernel) (Or.inr ⟨_, rfl⟩) ?_
  refine j_aload_n 142 dX12_init_141 rfl rfl ?_
  refine j_bipush (v := 8) 144 dX12_init_142 rfl (by decide) ?_
  refine j_newarray (c := 20) (at_ := .int) (ty := .int) (n0 := 8) 146 (by decide) rfl rfl (by decide) dX12_init_144 rfl w_125 (by decide) (by decide) (by decide +kernel) (by decide +kernel) (by decide) (by decide) (by decide) ⟨b86.1, b86.2.1, b86.2.2⟩ (Nat.le_of_ble_eq_true rfl) (Nat.le_of_ble_eq_true rfl) ?_
  refine j_putR (j := 31) (fty := (.array .int)) 149 cc12 dX12_init_146 rfl (by decide) (by decide) (by decide) (by decide +kernel) (by decide +kernel) (fin := true) rfl (Or.inr ⟨rfl, rfl, rfl⟩) w_1237 (by decide +kernel) (by decide +kernel) (Or.inr ⟨_, rfl⟩) ?_
  refine j_aload_n 150 dX12_init_149 rfl rfl ?_
  refine j_sipush (v := 480) 153 dX12_init_150 rfl (by decide) ?_
  refine j_newarray (c := 20) (at_ := .int) (ty := .int) (n0 := 480) 155 (by decide) rfl rfl (by decide) dX12_init_153 rfl w_125 (by decide) (by decide) (by decide +kernel) (by decide +kernel) (by decide) (by decide) (by decide) ⟨b87.1, b87.2.1, b87.2.2⟩ (Nat.le_of_ble_eq_true rfl) (Nat.le_of_ble_eq_true rfl) ?_
  refine j_putR (j := 33) (fty := (.array .int)) 158 cc12 dX12_init_155 rfl (by decide) (by decide) (by decide) (by decide +kernel) (by decide +kernel) (fin := true) rfl (Or.inr ⟨rfl, rfl, rfl⟩) w_1239 (by decide +kernel) (by decide +kernel) (Or.inr ⟨_, rfl⟩) ?_
  refine j_aload_n 159 dX12_init_158 rfl rfl ?_
  refine j_iconst (v := 3) 160 dX12_init_159 rfl (by decide) ?_
  refine j_newarray (c := 22) (at_ := .boolean) (ty := .boolean) (n0 := 3) 162 (by decide) rfl rfl (by decide) dX12_init_160 rfl w_256 (by decide) (by decide) (by decide +kernel) (by decide +kernel) (by decide) (by decide) (by decide) ⟨b88.1, b88.2.1, b88.2.2⟩ (Nat.le_of_ble_eq_true rfl) (Nat.le_of_ble_eq_true rfl) ?_
  refine j_putR (j := 34) (fty := (.array .boolean)) 165 cc12 dX12_init_162 rfl (by decide) (by decide) (by decide) (by decide +kernel) (by decide +kernel) (fin := true) rfl (Or.inr ⟨rfl, rfl, rfl⟩) w_1240 (by decide +kernel) (by decide +kernel) (Or.inr ⟨_, rfl⟩) ?_
  refine j_aload_n 166 dX12_init_165 rfl rfl ?_
  refine j_bipush (v := 21) 168 dX12_init_166 rfl (by decide) ?_
  refine j_newarray (c := 20) (at_ := .int) (ty := .int) (n0 := 21) 170 (by decide) rfl rfl (by decide) dX12_init_168 rfl w_125 (by decide) (by decide) (by decide +kernel) (by decide +kernel) (by decide) (by decide) (by decide) ⟨b89.1, b89.2.1, b89.2.2⟩ (Nat.le_of_ble_eq_true rfl) (Nat.le_of_ble_eq_true rfl) ?_
  refine j_putR (j := 35) (fty := (.array .int)) 173 cc12 dX12_init_170 rfl (by decide) (by decide) (by decide) (by decide +kernel) (by decide +kernel) (fin := true) rfl (Or.inr ⟨rfl, rfl, rfl⟩) w_1241 (by decide +kernel) (by decide +kernel) (Or.inr ⟨_, rfl⟩) ?_
  refine j_aload_n 174 dX12_init_173 rfl rfl ?_
  refine j_bipush (v := 7) 176 dX12_init_174 rfl (by decide) ?_
  refine j_newarray (c := 20) (at_ := .int) (ty := .int) (n0 := 7) 178 (by decide) rfl rfl (by decide) dX12_init_176 rfl w_125 (by decide) (by decide) (by decide +kernel) (by decide +kernel) (by decide) (by decide) (by decide) ⟨b90.1, b90.2.1, b90.2.2⟩ (Nat.le_of_ble_eq_true rfl) (Nat.le_of_ble_eq_true rfl) ?_
  refine j_putR (j := 40) (fty := (.array .int)) 181 cc12 dX12_init_178 rfl (by decide) (by decide) (by decide) (by decide +kernel) (by decide +kernel) (fin := true) rfl (Or.inr ⟨rfl, rfl, rfl⟩) w_1246 (by decide +kernel) (by decide +kernel) (Or.inr ⟨_, rfl⟩) ?_
  refine j_aload_n 182 dX12_init_181 rfl rfl ?_
  refine j_bipush (v := 7) 184 dX12_init_182 rfl (by decide) ?_
  refine j_newarray (c := 20) (at_ := .int) (ty := .int) (n0 := 7) 186 (by decide) rfl rfl (by decide) dX12_init_184 rfl w_125 (by decide) (by decide) (by decide +kernel) (by decide +kernel) (by decide) (by decide) (by decide) ⟨b91.1, b91.2.1, b91.2.2⟩ (Nat.le_of_ble_eq_true rfl) (Nat.le_of_ble_eq_true rfl) ?_
  refine j_putR (j := 41) (fty := (.array .int)) 189 cc12 dX12_init_186 rfl (by decide) (by decide) (by decide) (by decide +kernel) (by decide +kernel) (fin := true) rfl (Or.inr ⟨rfl, rfl, rfl⟩) w_1247 (by decide +kernel) (by decide +kernel) (Or.inr ⟨_, rfl⟩) ?_
  refine j_aload_n 190 dX12_init_189 rfl rfl ?_
  refine j_bipush (v := 7) 192 dX12_init_190 rfl (by decide) ?_
  refine j_newarray (c := 20) (at_ := .int) (ty := .int) (n0 := 7) 194 (by decide) rfl rfl (by decide) dX12_init_192 rfl w_125 (by decide) (by decide) (by decide +kernel) (by decide +kernel) (by decide) (by decide) (by decide) ⟨b92.1, b92.2.1, b92.2.2⟩ (Nat.le_of_ble_eq_true rfl) (Nat.le_of_ble_eq_true rfl) ?_
  refine j_putR (j := 45) (fty := (.array .int)) 197 cc12 dX12_init_194 rfl (by decide) (by decide) (by decide) (by decide +kernel) (by decide +kernel) (fin := true) rfl (Or.inr ⟨rfl, rfl, rfl⟩) w_1251 (by decide +kernel) (by decide +kernel) (Or.inr ⟨_, rfl⟩) ?_
  refine j_aload_n 198 dX12_init_197 rfl rfl ?_
  refine j_bipush (v := 7) 200 dX12_init_198 rfl (by decide) ?_
  refine j_newarray (c := 20) (at_ := .int) (ty := .int) (n0 := 7) 202 (by decide) rfl rfl (by decide) dX12_init_200 rfl w_125 (by decide) (by decide) (by decide +kernel) (by decide +kernel) (by decide) (by decide) (by decide) ⟨b93.1, b93.2.1, b93.2.2⟩ (Nat.le_of_ble_eq_true rfl) (Nat.le_of_ble_eq_true rfl) ?_
  refine j_putR (j := 46) (fty := (.array .int)) 205 cc12 dX12_init_202 rfl (by decide) (by decide) (by decide) (by decide +kernel) (by decide +kernel) (fin := true) rfl (Or.inr ⟨rfl, rfl, rfl⟩) w_1252 (by decide +kernel) (by decide +kernel) (Or.inr ⟨_, rfl⟩) ?_
  refine j_aload_n 206 dX12_init_205 rfl rfl ?_
  refine j_iconst (v := 4) 207 dX12_init_206 rfl (by decide) ?_
  refine j_newarray (c := 20) (at_ := .int) (ty := .int) (n0 := 4) 209 (by decide) rfl rfl (by decide) dX12_init_207 rfl w_125 (by decide) (by decide) (by decide +kernel) (by decide +kernel) (by decide) (by decide) (by decide) ⟨b94.1, b94.2.1, b94.2.2⟩ (Nat.le_of_ble_eq_true rfl) (Nat.le_of_ble_eq_true rfl) ?_
  refine j_putR (j := 48) (fty := (.array .int)) 212 cc12 dX12_init_209 rfl (by decide) (by decide) (by decide) (by decide +kernel) (by decide +kernel) (fin := true) rfl (Or.inr ⟨rfl, rfl, rfl⟩) w_1254 (by decide +kernel) (by decide +kernel) (Or.inr ⟨_, rfl⟩) ?_
  refine j_aload_n 213 dX12_init_212 rfl rfl ?_
  refine j_iconst (v := 4) 214 dX12_init_213 rfl (by decide) ?_
  refine j_newarray (c := 20) (at_ := .int) (ty := .int) (n0 := 4) 216 (by decide) rfl rfl (by decide) dX12_init_214 rfl w_125 (by decide) (by decide) (by decide +kernel) (by decide +kernel) (by decide) (by decide) (by decide) ⟨b95.1, b95.2.1, b95.2.2⟩ (Nat.le_of_ble_eq_true rfl) (Nat.le_of_ble_eq_true rfl) ?_
  refine j_putR (j := 49) (fty := (.array .int)) 219 cc12 dX12_init_216 rfl (by decide) (by decide) (by decide) (by decide +kernel) (by decide +kernel) (fin := true) rfl (Or.inr ⟨rfl, rfl, rfl⟩) w_1255 (by decide +kernel) (by decide +kernel) (Or.inr ⟨_, rfl⟩) ?_
  refine j_aload_n 220 dX12_init_219 rfl rfl ?_
  refine j_iconst (v := 4) 221 dX12_init_220 rfl (by decide) ?_
  refine j_newarray (c := 20) (at_ := .int) (ty := .int) (n0 := 4) 223 (by decide) rfl rfl (by decide) dX12_init_221 rfl w_125 (by decide) (by decide) (by decide +kernel) (by decide +kernel) (by decide) (by decide) (by decide) ⟨b96.1, b96.2.1, b96.2.2⟩ (Nat.le_of_ble_eq_true rfl) (Nat.le_of_ble_eq_true rfl) ?_
  refine j_putR (j := 50) (fty := (.array .int)) 226 cc12 dX12_init_223 rfl (by decide) (by decide) (by decide) (by decide +kernel) (by decide +kernel) (fin := true) rfl (Or.inr ⟨rfl, rfl, rfl⟩) w_1256 (by decide +kernel) (by decide +kernel) (Or.inr ⟨_, rfl⟩) ?_
  refine j_aload_n 227 dX12_init_226 rfl rfl ?_
  refine j_iconst (v := 4) 228 dX12_init_227 rfl (by decide) ?_
  refine j_newarray (c := 20) (at_ := .int) (ty := .int) (n0 := 4) 230 (by decide) rfl rfl (by decide) dX12_init_228 rfl w_125 (by decide) (by decide) (by decide +kernel) (by decide +kernel) (by decide) (by decide) (by decide) ⟨b97.1, b97.2.1, b97.2.2⟩ (Nat.le_of_ble_eq_true rfl) (Nat.le_of_ble_eq_true rfl) ?_
  refine j_putR (j := 51) (fty := (.array .int)) 233 cc12 dX12_init_230 rfl (by decide) (by decide) (by decide) (by decide +kernel) (by decide +kernel) (fin := true) rfl (Or.inr ⟨rfl, rfl, rfl⟩) w_1257 (by decide +kernel) (by decide +kernel) (Or.inr ⟨_, rfl⟩) ?_
  refine j_aload_n 234 dX12_init_233 rfl rfl ?_
  refine j_bipush (v := 8) 236 dX12_init_234 rfl (by decide) ?_
  refine j_newarray (c := 20) (at_ := .int) (ty := .int) (n0 := 8) 238 (by decide) rfl rfl (by decide) dX12_init_236 rfl w_125 (by decide) (by decide) (by decide +kernel) (by decide +kernel) (by decide) (by decide) (by decide) ⟨b98.1, b98.2.1, b98.2.2⟩ (Nat.le_of_ble_eq_true rfl) (Nat.le_of_ble_eq_true rfl) ?_
  refine j_putR (j := 52) (fty := (.array .int)) 241 cc12 dX12_init_238 rfl (by decide) (by decide) (by decide) (by decide +kernel) (by decide +kernel) (fin := true) rfl (Or.inr ⟨rfl, rfl, rfl⟩) w_1258 (by decide +kernel) (by decide +kernel) (Or.inr ⟨_, rfl⟩) ?_
  refine j_aload_n 242 dX12_init_241 rfl rfl ?_
  refine j_lconst (v := 1) 243 dX12_init_242 rfl (by decide) ?_
  refine j_putL (j := 4) 246 cc12 dX12_init_243 rfl (by decide) (by decide) (by decide) (by decide +kernel) (by decide +kernel) (fin := false) rfl (Or.inl rfl) w_1210 (by decide +kernel) ?_
  refine j_aload_n 247 dX12_init_246 rfl rfl ?_
  refine j_iconst (v := 1) 248 dX12_init_247 rfl (by decide) ?_
  refine j_putI (j := 19) 251 cc12 dX12_init_248 rfl (by decide) (by decide) (by decide) (by decide +kernel) (by decide +kernel) (fin := false) rfl (Or.inl rfl) w_1225 (by decide +kernel) ?_
  refine j_iconst (v := 0) 252 dX12_init_251 rfl (by decide) ?_
  refine j_istore_n (i := 1) (ls' := [some (vR 68), some (vI 0)]) 253 dX12_init_252 rfl rfl (by decide) rfl rfl ?_
  refine j_iload_n 254 dX12_init_253 rfl rfl ?_
  refine j_bipush (v := 6) 256 dX12_init_254 rfl (by decide) ?_
  refine j_icmp_ge_T 272 259 dX12_init_256 (by decide) rfl (by decide) ?_
  refine j_aload_n 260 dX12_init_259 rfl rfl ?_
  refine j_get (v := vR 70) 263 cc12 dX12_init_260 rfl (by decide) (by decide) (by decide) (by decide +kernel) (j := 5) (by decide +kernel) rfl w_1211 (fun _ => rfl) ?_
  refine j_iload_n 264 dX12_init_263 rfl rfl ?_
  refine j_iconst (v := (-1)) 265 dX12_init_264 rfl (by decide) ?_
  refine j_iastoreC 266 dX12_init_265 rfl (by decide) (by decide) (by decide) (by decide +kernel) (z := 6) (by decide +kernel) (by decide) ?_
  refine j_iinc (v := 1) (ls' := [some (vR 68), some (vI 1)]) 269 dX12_init_266 rfl rfl (by decide) (by decide) rfl rfl ?_
  refine j_goto 253 dX12_init_269 (by decide) ?_
  refine j_iload_n 254 dX12_init_253 rfl rfl ?_
  refine j_bipush (v := 6) 256 dX12_init_254 rfl (by decide) ?_
  refine j_icmp_ge_T 272 259 dX12_init_256 (by decide) rfl (by decide) ?_
  refine j_aload_n 260 dX12_init_259 rfl rfl ?_
  refine j_get (v := vR 70) 263 cc12 dX12_init_260 rfl (by decide) (by decide) (by decide) (by decide +kernel) (j := 5) (by decide +kernel) rfl w_1211 (fun _ => rfl) ?_
  refine j_iload_n 264 dX12_init_263 rfl rfl ?_
  refine j_iconst (v := (-1)) 265 dX12_init_264 rfl (by decide) ?_
  refine j_iastoreC 266 dX12_init_265 rfl (by decide) (by decide) (by decide) (by decide +kernel) (z := 6) (by decide +kernel) (by decide) ?_
  refine j_iinc (v := 2) (ls' := [some (vR 68), some (vI 2)]) 269 dX12_init_266 rfl rfl (by decide) (by decide) rfl rfl ?_
  refine j_goto 253 dX12_init_269 (by decide) ?_
  refine j_iload_n 254 dX12_init_253 rfl rfl ?_
  refine j_bipush (v := 6) 256 dX12_init_254 rfl (by decide) ?_
  refine j_icmp_ge_T 272 259 dX12_init_256 (by decide) rfl (by decide) ?_
  refine j_aload_n 260 dX12_init_259 rfl rfl ?_
  refine j_get (v := vR 70) 263 cc12 dX12_init_260 rfl (by decide) (by decide) (by decide) (by decide +kernel) (j := 5) (by decide +kernel) rfl w_1211 (fun _ => rfl) ?_
  refine j_iload_n 264 dX12_init_263 rfl rfl ?_
  refine j_iconst (v := (-1)) 265 dX12_init_264 rfl (by decide) ?_
  refine j_iastoreC 266 dX12_init_265 rfl (by decide) (by decide) (by decide) (by decide +kernel) (z := 6) (by decide +kernel) (by decide) ?_
  refine j_iinc (v := 3) (ls' := [some (vR 68), some (vI 3)]) 269 dX12_init_266 rfl rfl (by decide) (by decide) rfl rfl ?_
  refine j_goto 253 dX12_init_269 (by decide) ?_
  refine j_iload_n 254 dX12_init_253 rfl rfl ?_
  refine j_bipush (v := 6) 256 dX12_init_254 rfl (by decide) ?_
  refine j_icmp_ge_T 272 259 dX12_init_256 (by decide) rfl (by decide) ?_
  refine j_aload_n 260 dX12_init_259 rfl rfl ?_
  refine j_get (v := vR 70) 263 cc12 dX12_init_260 rfl (by decide) (by decide) (by decide) (by decide +kernel) (j := 5) (by decide +kernel) rfl w_1211 (fun _ => rfl) ?_
  refine j_iload_n 264 dX12_init_263 rfl rfl ?_
  refine j_iconst (v := (-1)) 265 dX12_init_264 rfl (by decide) ?_
  refine j_iastoreC 266 dX12_init_265 rfl (by decide) (by decide) (by decide) (by decide +kernel) (z := 6) (by decide +kernel) (by decide) ?_
  refine j_iinc (v := 4) (ls' := [some (vR 68), some (vI 4)]) 269 dX12_init_266 rfl rfl (by decide) (by decide) rfl rfl ?_
  refine j_goto 253 dX12_init_269 (by decide) ?_
  refine j_iload_n 254 dX12_init_253 rfl rfl ?_
  refine j_bipush (v := 6) 256 dX12_init_254 rfl (by decide) ?_
  refine j_icmp_ge_T 272 259 dX12_init_256 (by decide) rfl (by decide) ?_
  refine j_aload_n 260 dX12_init_259 rfl rfl ?_
  refine j_get (v := vR 70) 263 cc12 dX12_init_260 rfl (by decide) (by decide) (by decide) (by decide +kernel) (j := 5) (by decide +kernel) rfl w_1211 (fun _ => rfl) ?_
  refine j_iload_n 264 dX12_init_263 rfl rfl ?_
  refine j_iconst (v := (-1)) 265 dX12_init_264 rfl (by decide) ?_
  refine j_iastoreC 266 dX12_init_265 rfl (by decide) (by decide) (by decide) (by decide +kernel) (z := 6) (by decide +kernel) (by decide) ?_
  refine j_iinc (v := 5) (ls' := [some (vR 68), some (vI 5)]) 269 dX12_init_266 rfl rfl (by decide) (by decide) rfl rfl ?_
  refine j_goto 253 dX12_init_269 (by decide) ?_
  refine j_iload_n 254 dX12_init_253 rfl rfl ?_
  refine j_bipush (v := 6) 256 dX12_init_254 rfl (by decide) ?_
  refine j_icmp_ge_T 272 259 dX12_init_256 (by decide) rfl (by decide) ?_
  refine j_aload_n 260 dX12_init_259 rfl rfl ?_
  refine j_get (v := vR 70) 263 cc12 dX12_init_260 rfl (by decide) (by decide) (by decide) (by decide +kernel) (j := 5) (by decide +kernel) rfl w_1211 (fun _ => rfl) ?_
  refine j_iload_n 264 dX12_init_263 rfl rfl ?_
  refine j_iconst (v := (-1)) 265 dX12_init_264 rfl (by decide) ?_
  refine j_iastoreC 266 dX12_init_265 rfl (by decide) (by decide) (by decide) (by decide +kernel) (z := 6) (by decide +kernel) (by decide) ?_
  refine j_iinc (v := 6) (ls' := [some (vR 68), some (vI 6)]) 269 dX12_init_266 rfl rfl (by decide) (by decide) rfl rfl ?_
  refine j_goto 253 dX12_init_269 (by decide) ?_
  refine j_iload_n 254 dX12_init_253 rfl rfl ?_
  refine j_bipush (v := 6) 256 dX12_init_254 rfl (by decide) ?_
  refine j_icmp_ge_F 272 259 dX12_init_256 (by decide) rfl (by decide) ?_
  refine j_iconst (v := 0) 273 dX12_init_272 rfl (by decide) ?_
  refine j_istore_n (i := 1) (ls' := [some (vR 68), some (vI 0)]) 274 dX12_init_273 rfl rfl (by decide) rfl rfl ?_
  refine j_iload_n 275 dX12_init_274 rfl rfl ?_
  refine j_iconst (v := 4) 276 dX12_init_275 rfl (by decide) ?_
  refine j_icmp_ge_T 292 279 dX12_init_276 (by decide) rfl (by decide) ?_
  refine j_aload_n 280 dX12_init_279 rfl rfl ?_
  refine j_get (v := vR 73) 283 cc12 dX12_init_280 rfl (by decide) (by decide) (by decide) (by decide +kernel) (j := 8) (by decide +kernel) rfl w_1214 (fun _ => rfl) ?_
  refine j_iload_n 284 dX12_init_283 rfl rfl ?_
  refine j_iconst (v := (-1)) 285 dX12_init_284 rfl (by decide) ?_
  refine j_iastoreC 286 dX12_init_285 rfl (by decide) (by decide) (by decide) (by decide +kernel) (z := 4) (by decide +kernel) (by decide) ?_
  refine j_iinc (v := 1) (ls' := [some (vR 68), some (vI 1)]) 289 dX12_init_286 rfl rfl (by decide) (by decide) rfl rfl ?_
  refine j_goto 274 dX12_init_289 (by decide) ?_
  refine j_iload_n 275 dX12_init_274 rfl rfl ?_
  refine j_iconst (v := 4) 276 dX12_init_275 rfl (by decide) ?_
  refine j_icmp_ge_T 292 279 dX12_init_276 (by decide) rfl (by decide) ?_
  refine j_aload_n 280 dX12_init_279 rfl rfl ?_
  refine j_get (v := vR 73) 283 cc12 dX12_init_280 rfl (by decide) (by decide) (by decide) (by decide +kernel) (j := 8) (by decide +kernel) rfl w_1214 (fun _ => rfl) ?_
  refine j_iload_n 284 dX12_init_283 rfl rfl ?_
  refine j_iconst (v := (-1)) 285 dX12_init_284 rfl (by decide) ?_
  refine j_iastoreC 286 dX12_init_285 rfl (by decide) (by decide) (by decide) (by decide +kernel) (z := 4) (by decide +kernel) (by decide) ?_
  refine j_iinc (v := 2) (ls' := [some (vR 68), some (vI 2)]) 289 dX12_init_286 rfl rfl (by decide) (by decide) rfl rfl ?_
  refine j_goto 274 dX12_init_289 (by decide) ?_
  refine j_iload_n 275 dX12_init_274 rfl rfl ?_
  refine j_iconst (v := 4) 276 dX12_init_275 rfl (by decide) ?_
  refine j_icmp_ge_T 292 279 dX12_init_276 (by decide) rfl (by decide) ?_
  refine j_aload_n 280 dX12_init_279 rfl rfl ?_
  refine j_get (v := vR 73) 283 cc12 dX12_init_280 rfl (by decide) (by decide) (by decide) (by decide +kernel) (j := 8) (by decide +kernel) rfl w_1214 (fun _ => rfl) ?_
  refine j_iload_n 284 dX12_init_283 rfl rfl ?_
  refine j_iconst (v := (-1)) 285 dX12_init_284 rfl (by decide) ?_
  refine j_iastoreC 286 dX12_init_285 rfl (by decide) (by decide) (by decide) (by decide +kernel) (z := 4) (by decide +kernel) (by decide) ?_
  refine j_iinc (v := 3) (ls' := [some (vR 68), some (vI 3)]) 289 dX12_init_286 rfl rfl (by decide) (by decide) rfl rfl ?_
  refine j_goto 274 dX12_init_289 (by decide) ?_
  refine j_iload_n 275 dX12_init_274 rfl rfl ?_
  refine j_iconst (v := 4) 276 dX12_init_275 rfl (by decide) ?_
  refine j_icmp_ge_T 292 279 dX12_init_276 (by decide) rfl (by decide) ?_
  refine j_aload_n 280 dX12_init_279 rfl rfl ?_
  refine j_get (v := vR 73) 283 cc12 dX12_init_280 rfl (by decide) (by decide) (by decide) (by decide +kernel) (j := 8) (by decide +kernel) rfl w_1214 (fun _ => rfl) ?_
  refine j_iload_n 284 dX12_init_283 rfl rfl ?_
  refine j_iconst (v := (-1)) 285 dX12_init_284 rfl (by decide) ?_
  refine j_iastoreC 286 dX12_init_285 rfl (by decide) (by decide) (by decide) (by decide +kernel) (z := 4) (by decide +kernel) (by decide) ?_
  refine j_iinc (v := 4) (ls' := [some (vR 68), some (vI 4)]) 289 dX12_init_286 rfl rfl (by decide) (by decide) rfl rfl ?_
  refine j_goto 274 dX12_init_289 (by decide) ?_
  refine j_iload_n 275 dX12_init_274 rfl rfl ?_
  refine j_iconst (v := 4) 276 dX12_init_275 rfl (by decide) ?_
  refine j_icmp_ge_F 292 279 dX12_init_276 (by decide) rfl (by decide) ?_
  exact j_ret dX12_init_292 rfl rfl rfl (Nat.le_refl _) (Nat.le_refl _)
