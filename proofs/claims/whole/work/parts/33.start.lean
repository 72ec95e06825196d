-- the law's start: the two objects are made; what holds at its entry
def Lr (u : List (Nat × Nat × Nat)) : Rf := u.foldr (fun q ρ => wR ρ q.1 q.2.1 q.2.2) (fun _ _ => 0)
theorem Lr_out : ∀ (u : List (Nat × Nat × Nat)), (∀ q ∈ u, q.1 < 99 ∧ q.2.1 < 60) → ∀ a b, 99 ≤ a ∨ 60 ≤ b → Lr u a b = 0
  | [], _, _, _, _ => rfl
  | q :: u, h, a, b, hab => by
    have h1 := h q List.mem_cons_self
    have h2 := Lr_out u (fun z hz => h z (List.mem_cons_of_mem _ hz)) a b hab
    show wR (Lr u) q.1 q.2.1 q.2.2 a b = 0
    unfold wR
    by_cases ha : a = q.1
    · rw [if_pos ha, if_neg (by omega)]
      exact h2
    · rw [if_neg ha]
      exact h2
def rIu : List (Nat × Nat × Nat) := [(68, 52, 98), (68, 51, 97), (68, 50, 96), (68, 49, 95), (68, 48, 94), (68, 46, 93), (68, 45, 92), (68, 41, 91), (68, 40, 90), (68, 35, 89), (68, 34, 88), (68, 33, 87), (68, 31, 86), (68, 30, 85), (68, 28, 84), (68, 27, 83), (68, 26, 82), (68, 25, 81), (68, 20, 80), (68, 16, 79), (68, 15, 78), (68, 14, 77), (68, 13, 76), (68, 11, 75), (68, 9, 74), (68, 8, 73), (68, 7, 72), (68, 6, 71), (68, 5, 70), (68, 1, 69), (5, 3, 66), (66, 1, 67), (5, 2, 64), (64, 1, 65), (5, 1, 62), (62, 1, 63), (5, 0, 60), (60, 1, 61), (4, 5, 58), (58, 1, 59), (4, 4, 56), (56, 1, 57), (4, 3, 54), (54, 1, 55), (4, 2, 52), (52, 1, 53), (4, 1, 50), (50, 1, 51), (4, 0, 48), (48, 1, 49), (1, 10, 42), (42, 3, 6), (42, 7, 47), (42, 6, 46), (42, 5, 45), (42, 4, 44), (42, 2, 43), (1, 9, 37), (37, 0, 6), (37, 4, 41), (37, 3, 40), (37, 2, 39), (37, 1, 38), (1, 8, 27), (27, 5, 18), (27, 4, 6), (27, 14, 36), (27, 13, 35), (27, 12, 34), (27, 11, 33), (27, 10, 32), (27, 9, 31), (27, 8, 30), (27, 6, 29), (27, 1, 28), (1, 7, 24), (24, 1, 26), (24, 0, 25), (1, 6, 20), (20, 3, 23), (20, 2, 22), (20, 1, 21), (1, 5, 18), (18, 1, 19), (1, 4, 7), (1, 3, 6), (6, 11, 17), (6, 10, 16), (6, 9, 15), (6, 8, 14), (6, 7, 13), (6, 6, 12), (6, 5, 11), (6, 4, 7), (7, 3, 10), (7, 2, 9), (7, 1, 8), (1, 2, 5), (1, 1, 4), (1, 0, 2), (2, 4, 3)]
def rInit : Rf := Lr rIu
theorem rInit_eq : rInit = RT := by
  funext a b
  by_cases h : 99 ≤ a ∨ 60 ≤ b
  · have h1 : rInit a b = 0 := Lr_out rIu (by decide +kernel) a b h
    rw [h1]
    unfold RT
    by_cases ha : a < 99
    · have h2 : ∀ a, a < 99 → (rtL.getD a []).length ≤ 60 := by decide +kernel
      have h3 := h2 a ha
      rw [List.getD_eq_getElem?_getD (l := rtL.getD a []), List.getElem?_eq_none (by omega)]
      rfl
    · have h4 : rtL.length = 99 := by decide +kernel
      have h5 : rtL.getD a [] = [] := by rw [List.getD_eq_getElem?_getD, List.getElem?_eq_none (by omega)]; rfl
      rw [h5]
      rfl
  · have h6 : ∀ a, a < 99 → ∀ b, b < 60 → rInit a b = RT a b := by decide +kernel
    exact h6 a (by omega) b (by omega)
def s00 : Mem := (fun _ _ => 0, fun _ _ => 0)
def r00 : Rf := fun _ _ => 0
def sInit : Mem := wI (wI (wI (wI (wI (wI (wI (wI (wI (wI (wI (wL (wI (wI (wI (wI (wI (wI (wI (wI (wI (wI (wI (wI (wI (wI (wI (wI (wI (wI (wI (wI (wI (wI (wI (wI (wI (wI (wI (wL (wL (wI (s00) 2 0 0) 2 1 0) 2 2 1) 2 3 0) 6 0 0) 6 1 0) 6 2 0) 6 3 0) 7 0 0) 6 12 0) 18 0 1) 18 2 1) 20 0 0) 27 0 (-9)) 27 2 0) 27 3 0) 27 7 0) 37 5 0) 42 0 0) 42 1 (-9)) 48 0 (-1)) 50 0 (-1)) 52 0 (-1)) 54 0 (-1)) 56 0 (-1)) 58 0 (-1)) 60 0 (-1)) 62 0 (-1)) 64 0 (-1)) 66 0 (-1)) 68 4 1) 68 19 1) 70 0 (-1)) 70 1 (-1)) 70 2 (-1)) 70 3 (-1)) 70 4 (-1)) 70 5 (-1)) 73 0 (-1)) 73 1 (-1)) 73 2 (-1)) 73 3 (-1)
section JL2
variable {Θ : Th} {l : Launch} {b L : Nat} {xs : Nat → Int32} {N : Nat} {ρ : Rf} {ce sl pc : Nat} {ls : List (Option AV)} {st : List AV} {s : Mem} {o : Option (Int32 × Mem)}
theorem l_new {c i : Nat} {CN : String} {Tb : u_T} {ty : Nat → FieldType} (n : Nat) (hC : Cls c CN Tb ty) (hdf : Dfl c ty) (hd : decode code pc = .ok (.new i, 3)) (hn : pc + 3 = n) (hw1 : Cond.classLink RL i CN ∈ gtb) (hw2 : Cond.instantiable CN (nf c) ∈ gtb) (hw3 : Cond.initialized CN ∈ gtb) (hN : N < NNc) (hN2 : N + 1 < 900) (hk : kd (N + 1) = c) (hb : Blk s ρ (N + 1)) (hce : ce + 1 ≤ 600000) (hsl : sl + nf c ≤ 7302249)
    (k : Jl Θ l b L xs (N + 1) ρ (ce + 1) (sl + nf c) n ls (vR (N + 1) :: st) s o) : Jl Θ l b L xs N ρ ce sl pc ls st s o := by
  subst hn
  intro ho p e S m below meth cd H locs lr C hS hR hL
  obtain ⟨hc1, hcl, hin, hty, hnm⟩ := hC
  have hK := (cl_frz C).1
  have hKn := hK.1 c _ hcl
  have hsz : H.size = Θ.2.1 + (N + 1) := by rw [hR.2 hN]; omega
  refine W.newcK C.1 C.2.1 C.2.2.2.2.1 (cl_word C hw1) (cl_word C hw2) (cl_word C hw3) rfl hd hce hsl hKn.2.1 hsz fun H1 kC hkC e1 z1 o1 => ?_
  have hat : va_at Θ.1 vwCl (Θ.2.1 + (N + 1), .inr (c, (List.range (nf c)).map (fcont Θ ρ s (N + 1)))) H1 := by
    refine ⟨_, hcl, (u_born ty (C.2.2.2.2.2.1) hin hKn hkC e1 hty).to (fun j hj => ?_)⟩
    rw [hdf j hj]
    unfold vp_V
    rw [List.getD_eq_getElem?_getD, List.getElem?_map, List.getElem?_range hj]
    simp only [Option.map_some, Option.getD_some]
    unfold fcont
    rw [hk, hb.1 j, hb.2.1 j, hb.2.2 j]
    rfl
  have k2 := k ho p e S m below meth cd H1 locs lr C (S_push hS (by omega) (fun q hq => o1 q (by omega))) (Rel_push hR hN (cell_obj hk (by omega)) hat (by omega) (fun q hq => o1 q (by omega))) hL
  simp only [List.map_cons] at k2
  rw [cv_ref (by omega) hN2] at k2
  exact k2
theorem l_callT {M2 : Mi} {h2 N2 mc2 ms2 : Nat} {ρ2 : Rf} {q i : Nat} {stk : List AV} (n : Nat) (hM : MkI M2 0) (hw : Cond.methodLink RL i M2.1 ∈ gtb) (hd : decode code pc = .ok (.invokespecial i, 3)) (hn : pc + 3 = n) (hst : stk = vR q :: st) (hq1 : 0 < q) (hq2 : q < 900) {s2 : Mem} (hct : Ct Θ l M2 h2 gU (N2, ρ2, mc2, ms2) N ρ [vR q] s (some ((), s2)))
    (hh : h2 ≤ 800) (hL9 : M2.2.2.1 ≤ 60) (hcat : catS st ≤ 8) (hf1 : ce + mc2 ≤ 600000) (hf2 : sl + ms2 ≤ 7302249)
    (k : Jl Θ l b L xs N2 ρ2 (ce + mc2) (sl + ms2) n ls st s2 o) : Jl Θ l b L xs N ρ ce sl pc ls stk s o := by
  subst hn; subst hst
  intro ho p e S m below meth cd H locs lr C hS hR hL
  have hMet := hct () s2 rfl
  simp only [List.map_cons]
  rw [cv_ref hq1 hq2]
  have hpre : PreS S H (Pq Θ N ρ [vR q] s) (.ref (Θ.2.1 + q) :: []) := by
    refine ⟨Pq_blind, fun U hU hW => ?_⟩
    have z := Pq_at (as := [vR q]) (cl_frz C) (Nat.le_of_eq (cl_base C)) hS hR hU hW
    rw [List.map_cons, cv_ref hq1 hq2] at z
    exact z
  have hgood : GoodIn gtb (wsOf M2) := fun w hw2 => ⟨ws_sub hM.1 w hw2, good_of_word (lw_good w (ws_sub hM.1 w hw2))⟩
  have hcw : CallB room_1 S #[Value.ref b] RL i M2.1 M2.2.1 M2.2.2.1 none (wsOf M2) (rmH h2 mc2 ms2) mc2 ms2 0 ∧ M2.1.name = "<init>" ∧ (Cond.instanceMethod M2.1).before #[Value.ref b] S = true := by
    refine ⟨?_, hM.2.2.1, cl_word C hM.2.1⟩
    rw [← hM.2.2.2]
    refine callB_of 0 C.2.2.2.2.2.1 hgood rfl rfl rfl (cl_word C hM.1.1) (cl_word C hw) hM.1.2.2 ⟨?_, ?_⟩
    · show h2 + 1 ≤ 2048
      omega
    · show 8 + (M2.2.2.1 + 11) + 100 * h2 ≤ 84000
      omega
  exact call_core (va_runI (g := F0 m pc lr _) (As := []) ⟨C.1, C.2.1, C.2.2.2.1, C.2.2.2.2.1, C.2.2.2.2.2.1⟩ hMet hcw hpre rfl rfl hL.1 rfl (lv_room (by rw [catS_eq]; exact hcat)) hd ⟨hf1, hf2⟩) hS (fun H1 locs1 hS1 hR1 => k ho p e S m below meth cd H1 locs1 lr C hS1 hR1 hL)
end JL2
set_option maxRecDepth 100000 in
set_option maxHeartbeats 4000000 in
theorem l_start (Θ : Th) (l : Launch) (b L : Nat) (xs : Nat → Int32) (k : Nat) : Jl Θ l b L xs 0 r00 0 0 0 [some (vR 950), none, none, none] [] s00 (fL_L18 L xs k 0 sInit) := by
  refine l_new 3 cc11 df11 dL_law_0 rfl w_91 w_92 w_75 (by decide) (by decide) (by decide +kernel) ⟨fun _ => rfl, fun _ => rfl, fun _ => rfl⟩ (by decide) (by decide) ?_
  refine l_dup 4 dL_law_3 rfl rfl ?_
  refine l_callT (M2 := mX11_init) 7 mkX11_init w_93 dL_law_4 rfl rfl (by decide) (by decide) (tn_X11_init_1 Θ l _ _ ⟨fun _ => rfl, fun _ => rfl, fun _ => rfl⟩ ⟨fun _ => rfl, fun _ => rfl, fun _ => rfl⟩ ⟨fun _ => rfl, fun _ => rfl, fun _ => rfl⟩ ⟨fun _ => rfl, fun _ => rfl, fun _ => rfl⟩ ⟨fun _ => rfl, fun _ => rfl, fun _ => rfl⟩ ⟨fun _ => rfl, fun _ => rfl, fun _ => rfl⟩ ⟨fun _ => rfl, fun _ => rfl, fun _ => rfl⟩ ⟨fun _ => rfl, fun _ => rfl, fun _ => rfl⟩ ⟨fun _ => rfl, fun _ => rfl, fun _ => rfl⟩ ⟨fun _ => rfl, fun _ => rfl, fun _ => rfl⟩ ⟨fun _ => rfl, fun _ => rfl, fun _ => rfl⟩ ⟨fun _ => rfl, fun _ => rfl, fun _ => rfl⟩ ⟨fun _ => rfl, fun _ => rfl, fun _ => rfl⟩ ⟨fun _ => rfl, fun _ => rfl, fun _ => rfl⟩ ⟨fun _ => rfl, fun _ => rfl, fun _ => rfl⟩ ⟨fun _ => rfl, fun _ => rfl, fun _ => rfl⟩ ⟨fun _ => rfl, fun _ => rfl, fun _ => rfl⟩ ⟨fun _ => rfl, fun _ => rfl, fun _ => rfl⟩ ⟨fun _ => rfl, fun _ => rfl, fun _ => rfl⟩ ⟨fun _ => rfl, fun _ => rfl, fun _ => rfl⟩ ⟨fun _ => rfl, fun _ => rfl, fun _ => rfl⟩ ⟨fun _ => rfl, fun _ => rfl, fun _ => rfl⟩ ⟨fun _ => rfl, fun _ => rfl, fun _ => rfl⟩ ⟨fun _ => rfl, fun _ => rfl, fun _ => rfl⟩ ⟨fun _ => rfl, fun _ => rfl, fun _ => rfl⟩ ⟨fun _ => rfl, fun _ => rfl, fun _ => rfl⟩ ⟨fun _ => rfl, fun _ => rfl, fun _ => rfl⟩ ⟨fun _ => rfl, fun _ => rfl, fun _ => rfl⟩ ⟨fun _ => rfl, fun _ => rfl, fun _ => rfl⟩ ⟨fun _ => rfl, fun _ => rfl, fun _ => rfl⟩ ⟨fun _ => rfl, fun _ => rfl, fun _ => rfl⟩ ⟨fun _ => rfl, fun _ => rfl, fun _ => rfl⟩ ⟨fun _ => rfl, fun _ => rfl, fun _ => rfl⟩ ⟨fun _ => rfl, fun _ => rfl, fun _ => rfl⟩ ⟨fun _ => rfl, fun _ => rfl, fun _ => rfl⟩ ⟨fun _ => rfl, fun _ => rfl, fun _ => rfl⟩ ⟨fun _ => rfl, fun _ => rfl, fun _ => rfl⟩ ⟨fun _ => rfl, fun _ => rfl, fun _ => rfl⟩ ⟨fun _ => rfl, fun _ => rfl, fun _ => rfl⟩ ⟨fun _ => rfl, fun _ => rfl, fun _ => rfl⟩ ⟨fun _ => rfl, fun _ => rfl, fun _ => rfl⟩ ⟨fun _ => rfl, fun _ => rfl, fun _ => rfl⟩ ⟨fun _ => rfl, fun _ => rfl, fun _ => rfl⟩ ⟨fun _ => rfl, fun _ => rfl, fun _ => rfl⟩ ⟨fun _ => rfl, fun _ => rfl, fun _ => rfl⟩ ⟨fun _ => rfl, fun _ => rfl, fun _ => rfl⟩ ⟨fun _ => rfl, fun _ => rfl, fun _ => rfl⟩ ⟨fun _ => rfl, fun _ => rfl, fun _ => rfl⟩ ⟨fun _ => rfl, fun _ => rfl, fun _ => rfl⟩ ⟨fun _ => rfl, fun _ => rfl, fun _ => rfl⟩ ⟨fun _ => rfl, fun _ => rfl, fun _ => rfl⟩ ⟨fun _ => rfl, fun _ => rfl, fun _ => rfl⟩ ⟨fun _ => rfl, fun _ => rfl, fun _ => rfl⟩ ⟨fun _ => rfl, fun _ => rfl, fun _ => rfl⟩ ⟨fun _ => rfl, fun _ => rfl, fun _ => rfl⟩ ⟨fun _ => rfl, fun _ => rfl, fun _ => rfl⟩ ⟨fun _ => rfl, fun _ => rfl, fun _ => rfl⟩ ⟨fun _ => rfl, fun _ => rfl, fun _ => rfl⟩ ⟨fun _ => rfl, fun _ => rfl, fun _ => rfl⟩ ⟨fun _ => rfl, fun _ => rfl, fun _ => rfl⟩ ⟨fun _ => rfl, fun _ => rfl, fun _ => rfl⟩ ⟨fun _ => rfl, fun _ => rfl, fun _ => rfl⟩ ⟨fun _ => rfl, fun _ => rfl, fun _ => rfl⟩ ⟨fun _ => rfl, fun _ => rfl, fun _ => rfl⟩ ⟨fun _ => rfl, fun _ => rfl, fun _ => rfl⟩ ⟨fun _ => rfl, fun _ => rfl, fun _ => rfl⟩) (Nat.le_of_ble_eq_true rfl) (Nat.le_of_ble_eq_true rfl) (Nat.le_of_ble_eq_true rfl) (Nat.le_of_ble_eq_true rfl) (Nat.le_of_ble_eq_true rfl) ?_
  refine l_astore_n (i := 1) (ls' := [some (vR 950), some (vR 1), none, none]) 8 dL_law_7 rfl rfl (by decide) rfl rfl ?_
  refine l_new 11 cc12 df12 dL_law_8 rfl w_1200 w_1201 w_87 (by decide) (by decide) (by decide +kernel) ⟨fun _ => rfl, fun _ => rfl, fun _ => rfl⟩ (by decide) (by decide) ?_
  refine l_dup 12 dL_law_11 rfl rfl ?_
  refine l_callT (M2 := mX12_init) 15 mkX12_init w_1202 dL_law_12 rfl rfl (by decide) (by decide) (tn_X12_init_68 Θ l _ _ ⟨fun _ => rfl, fun _ => rfl, fun _ => rfl⟩ ⟨fun _ => rfl, fun _ => rfl, fun _ => rfl⟩ ⟨fun _ => rfl, fun _ => rfl, fun _ => rfl⟩ ⟨fun _ => rfl, fun _ => rfl, fun _ => rfl⟩ ⟨fun _ => rfl, fun _ => rfl, fun _ => rfl⟩ ⟨fun _ => rfl, fun _ => rfl, fun _ => rfl⟩ ⟨fun _ => rfl, fun _ => rfl, fun _ => rfl⟩ ⟨fun _ => rfl, fun _ => rfl, fun _ => rfl⟩ ⟨fun _ => rfl, fun _ => rfl, fun _ => rfl⟩ ⟨fun _ => rfl, fun _ => rfl, fun _ => rfl⟩ ⟨fun _ => rfl, fun _ => rfl, fun _ => rfl⟩ ⟨fun _ => rfl, fun _ => rfl, fun _ => rfl⟩ ⟨fun _ => rfl, fun _ => rfl, fun _ => rfl⟩ ⟨fun _ => rfl, fun _ => rfl, fun _ => rfl⟩ ⟨fun _ => rfl, fun _ => rfl, fun _ => rfl⟩ ⟨fun _ => rfl, fun _ => rfl, fun _ => rfl⟩ ⟨fun _ => rfl, fun _ => rfl, fun _ => rfl⟩ ⟨fun _ => rfl, fun _ => rfl, fun _ => rfl⟩ ⟨fun _ => rfl, fun _ => rfl, fun _ => rfl⟩ ⟨fun _ => rfl, fun _ => rfl, fun _ => rfl⟩ ⟨fun _ => rfl, fun _ => rfl, fun _ => rfl⟩ ⟨fun _ => rfl, fun _ => rfl, fun _ => rfl⟩ ⟨fun _ => rfl, fun _ => rfl, fun _ => rfl⟩ ⟨fun _ => rfl, fun _ => rfl, fun _ => rfl⟩ ⟨fun _ => rfl, fun _ => rfl, fun _ => rfl⟩ ⟨fun _ => rfl, fun _ => rfl, fun _ => rfl⟩ ⟨fun _ => rfl, fun _ => rfl, fun _ => rfl⟩ ⟨fun _ => rfl, fun _ => rfl, fun _ => rfl⟩ ⟨fun _ => rfl, fun _ => rfl, fun _ => rfl⟩ ⟨fun _ => rfl, fun _ => rfl, fun _ => rfl⟩) (Nat.le_of_ble_eq_true rfl) (Nat.le_of_ble_eq_true rfl) (Nat.le_of_ble_eq_true rfl) (Nat.le_of_ble_eq_true rfl) (Nat.le_of_ble_eq_true rfl) ?_
  refine l_astore_n (i := 2) (ls' := [some (vR 950), some (vR 1), some (vR 68), none]) 16 dL_law_15 rfl rfl (by decide) rfl rfl ?_
  refine l_iconst (v := 0) 17 dL_law_16 rfl (by decide) ?_
  refine l_istore_n (i := 3) (ls' := [some (vR 950), some (vR 1), some (vR 68), some (vI 0)]) 18 dL_law_17 rfl rfl (by decide) rfl rfl ?_
  have h1 : Jl Θ l b L xs 98 rInit 98 3224 18 [some (vR 950), some (vR 1), some (vR 68), some (vI 0)] [] sInit (fL_L18 L xs k 0 sInit) := by
    rw [rInit_eq]
    exact tL_L18 Θ l b L xs k 0 sInit
  exact h1
