section JE
variable {α β : Type} {Θ : Th} {l : Launch} {M M2 : Mi} {h h2 : Nat} {G : α → Option AV} {G2 : β → Option AV} {T T2 : Tg} {N : Nat} {ρ : Rf} {ce sl pc : Nat} {ls : List (Option AV)} {st : List AV} {s : Mem} {o : Option (α × Mem)} {o2 : Option (β × Mem)} {g : β → Mem → Option (α × Mem)}
-- returns
theorem end_ok {p : Program} {S : State} {m : MethodId} {args : Array Value} {meth : Method} {c : Code} {H : Heap} {locs : List Loc} {r : α} (hS : va_S (Ar Θ) S.heap H locs) (hR : Rel Θ N ρ s H) (hT1 : T.1 = N) (hT2 : T.2.1 = ρ) {ov : Option Value} (hov : (G r).map (cv Θ) = ov) (t : State) (ht : t.heap = H) : Qo Θ G T r s args S (.returned ov) t := by
  subst hT1; subst hT2; subst hov
  exact ⟨rfl, by rw [ht]; exact hR, hS.F ht⟩
theorem j_iret {x : Int32} (hd : decode M.2.1 pc = .ok (.ireturn, 1)) (hr : M.2.2.2 = some .int) (hT1 : T.1 = N) (hT2 : T.2.1 = ρ) (hc : ce ≤ T.2.2.1) (hs : sl ≤ T.2.2.2) : Jg Θ l M h gI T N ρ ce sl pc ls [vI x] s (some (x, s)) := by
  intro r s' ho p e S m args below meth c H locs lr C hS hR hL
  cases ho
  refine W.widen hc hs ?_
  have hlocks := C.2.2.2.2.2.2.1
  exact W.iret (v := x) C.1 C.2.1 (C.2.2.1.trans hr) (fun t ht hW => end_ok (p := p) (m := m) (meth := meth) (c := c) hS hR hT1 hT2 rfl t ht) hS.2.2 hd
/-- a boolean: 0 or 1 -/
theorem j_zret {x : Int32} (hd : decode M.2.1 pc = .ok (.ireturn, 1)) (hr : M.2.2.2 = some .boolean) (hx : x = 0 ∨ x = 1) (hT1 : T.1 = N) (hT2 : T.2.1 = ρ) (hc : ce ≤ T.2.2.1) (hs : sl ≤ T.2.2.2) : Jg Θ l M h gI T N ρ ce sl pc ls [vI x] s (some (x, s)) := by
  intro r s' ho p e S m args below meth c H locs lr C hS hR hL
  cases ho
  refine W.widen hc hs ?_
  have hlocks := C.2.2.2.2.2.2.1
  have hn : narrow .boolean (.int x) = .int x := by rcases hx with rfl | rfl <;> rfl
  exact W.zret (v := x) C.1 C.2.1 (C.2.2.1.trans hr) hn (fun t ht hW => end_ok (p := p) (m := m) (meth := meth) (c := c) hS hR hT1 hT2 rfl t ht) hS.2.2 hd
/-- a boolean that was reckoned -/
theorem j_zretG {x : Int32} (hd : decode M.2.1 pc = .ok (.ireturn, 1)) (hr : M.2.2.2 = some .boolean) (hT1 : T.1 = N) (hT2 : T.2.1 = ρ) (hc : ce ≤ T.2.2.1) (hs : sl ≤ T.2.2.2) : Jg Θ l M h gI T N ρ ce sl pc ls [vI x] s (if x = 0 ∨ x = 1 then some (x, s) else none) := by
  by_cases hx : x = 0 ∨ x = 1
  · rw [if_pos hx]
    exact j_zret hd hr hx hT1 hT2 hc hs
  · rw [if_neg hx]
    exact j_none
theorem j_lret {x : Int64} (hd : decode M.2.1 pc = .ok (.lreturn, 1)) (hr : M.2.2.2 = some .long) (hT1 : T.1 = N) (hT2 : T.2.1 = ρ) (hc : ce ≤ T.2.2.1) (hs : sl ≤ T.2.2.2) : Jg Θ l M h gL T N ρ ce sl pc ls [vL x] s (some (x, s)) := by
  intro r s' ho p e S m args below meth c H locs lr C hS hR hL
  cases ho
  refine W.widen hc hs ?_
  have hlocks := C.2.2.2.2.2.2.1
  exact W.lret (v := x) C.1 C.2.1 (C.2.2.1.trans hr) (fun t ht hW => end_ok (p := p) (m := m) (meth := meth) (c := c) hS hR hT1 hT2 rfl t ht) hS.2.2 hd
theorem j_aret {q : Nat} {rt : FieldType} (hd : decode M.2.1 pc = .ok (.areturn, 1)) (hr : M.2.2.2 = some rt) (hrt : (∃ n, rt = .object n) ∨ ∃ t, rt = .array t) (hT1 : T.1 = N) (hT2 : T.2.1 = ρ) (hc : ce ≤ T.2.2.1) (hs : sl ≤ T.2.2.2) : Jg Θ l M h gR T N ρ ce sl pc ls [vR q] s (some (q, s)) := by
  intro r s' ho p e S m args below meth c H locs lr C hS hR hL
  cases ho
  refine W.widen hc hs ?_
  have hlocks := C.2.2.2.2.2.2.1
  have hv : cv Θ (vR q) = .null ∨ ∃ a, cv Θ (vR q) = .ref a := by
    show va_rf (adO Θ q) = .null ∨ ∃ a, va_rf (adO Θ q) = .ref a
    cases adO Θ q with
    | none => exact Or.inl rfl
    | some a => exact Or.inr ⟨a, rfl⟩
  exact W.aret (v := cv Θ (vR q)) C.1 C.2.1 (C.2.2.1.trans hr) hrt hv (fun t ht hW => end_ok (p := p) (m := m) (meth := meth) (c := c) hS hR hT1 hT2 rfl t ht) hS.2.2 hd
theorem j_ret (hd : decode M.2.1 pc = .ok (.return_, 1)) (hr : M.2.2.2 = none) (hT1 : T.1 = N) (hT2 : T.2.1 = ρ) (hc : ce ≤ T.2.2.1) (hs : sl ≤ T.2.2.2) : Jg Θ l M h gU T N ρ ce sl pc ls [] s (some ((), s)) := by
  intro r s' ho p e S m args below meth c H locs lr C hS hR hL
  cases ho
  refine W.widen hc hs ?_
  have hlocks := C.2.2.2.2.2.2.1
  exact W.vret C.1 C.2.1 (C.2.2.1.trans hr) (fun t ht hW => end_ok (p := p) (m := m) (meth := meth) (c := c) hS hR hT1 hT2 rfl t ht) hS.2.2 hd
-- System.arraycopy between rows of ints
theorem j_copy {q0 q1 i : Nat} {sp dp z : Int32} (n : Nat) (hd : decode M.2.1 pc = .ok (.invokestatic i, 3)) (hn : pc + 3 = n) (hw1 : Cond.methodLink M.1.cls i arraycopyName ∈ gtb) (hw2 : Cond.native arraycopyName ∈ gtb) (hw3 : Cond.static arraycopyName ∈ gtb) (hw4 : Cond.initialized "java/lang/System" ∈ gtb)
    (ha1 : 0 < q0) (ha2 : q0 ≤ N) (hb1 : 0 < q1) (hb2 : q1 ≤ N) (hN : N < 900) (hNN : NNc ≤ N) (hka : kd q0 = 20) (hkb : kd q1 = 20) {n0 n1 : Nat} (hl0 : ln q0 = n0) (hl1 : ln q1 = n1) (hh : 1 ≤ h) (hcat : catS st ≤ 8)
    (k : Jg Θ l M h G T N ρ ce sl n ls st (wF s q1 (va_cpy (s.1 q0) (s.1 q1) (ix sp) (ix dp) (ix z))) o) : Jg Θ l M h G T N ρ ce sl pc ls (vI z :: vI dp :: vR q1 :: vI sp :: vR q0 :: st) s (if ¬ sp < 0 ∧ ¬ dp < 0 ∧ ¬ z < 0 ∧ ix sp + ix z ≤ n0 ∧ ix dp + ix z ≤ n1 then o else none) := by
  subst hn; subst hl0; subst hl1
  intro r s' ho p e S m args below meth c H locs lr C hS hR hL
  by_cases hb : ¬ sp < 0 ∧ ¬ dp < 0 ∧ ¬ z < 0 ∧ ix sp + ix z ≤ ln q0 ∧ ix dp + ix z ≤ ln q1
  · rw [if_pos hb] at ho
    obtain ⟨c1, c2, c3, c4, c5⟩ := hb
    simp only [List.map_cons]
    rw [cv_ref ha1 (by omega), cv_ref hb1 (by omega)]
    have hat0 := at_int (Θ := Θ) (ρ := ρ) (s := s) ha1 ha2 hka (by omega) (by omega)
    have hat1 := at_int (Θ := Θ) (ρ := ρ) (s := s) hb1 hb2 hkb (by omega) (by omega)
    refine va_copyi C.1 C.2.1 (C.2.2.2.1.trans hL.1.symm) C.2.2.2.2.1 (cx_word C hw1) (cx_word C hw2) (cx_word C hw3) (cx_word C hw4) C.2.2.2.2.2.2.2.2.1.1 hR.1 (wsN_D Θ N ρ s) hS (q0 - 1) (q1 - 1) 0 0 hat0 hat1 ty_at.1 ty_at.1 rfl c1 c2 c3 c4 c5 (fun _ _ => rfl) hh ?_ hd (fun H1 locs1 hP1 hD1 hS1 => ?_)
    · rw [catS_eq]
      have e5 : nativeFrameWords "java/lang/System" "arraycopy" 5 = 7 := by decide +kernel
      rw [e5]
      show catS st + (7 + 11) ≤ 100 * h
      omega
    · refine k r s' ho p e S m args below meth c H1 locs1 lr C hS1 ⟨?_, fun hlt => absurd hNN (by omega)⟩ hL
      have e6 : (wsN Θ N ρ s).set (q1 - 1) (Θ.2.1 + q1, .inl (Θ.2.2.2 20, ln q1, .inl (va_cpy (s.1 q0) (s.1 q1) (ix sp) (ix dp) (ix z)))) = wsN Θ N ρ (wF s q1 (va_cpy (s.1 q0) (s.1 q1) (ix sp) (ix dp) (ix z))) := by
        refine wsN_set hb1 hb2 ?_ (fun a ha => cell_congr (wF_ne ha) rfl rfl)
        rw [cell_int hkb (by omega) (by omega)]
        simp [wF]
      rw [← e6]
      exact hP1
  · rw [if_neg hb] at ho
    cases ho
-- Object.<init>
theorem j_objInit {q i : Nat} (n : Nat) (hd : decode M.2.1 pc = .ok (.invokespecial i, 3)) (hn : pc + 3 = n) (hw1 : Cond.methodLink M.1.cls i objectInit ∈ gtb) (hw2 : Cond.instanceMethod objectInit ∈ gtb) (hw3 : Cond.code objectInit ⟨#[0xb1]⟩ 1 none ∈ gtb) (hq1 : 0 < q) (hq2 : q < 900) (hh : 1 ≤ h) (hcat : catS st ≤ 8) (k : Jg Θ l M h G T N ρ ce sl n ls st s o) : Jg Θ l M h G T N ρ ce sl pc ls (vR q :: st) s o := by
  subst hn
  intro r s' ho p e S m args below meth c H locs lr C hS hR hL
  simp only [List.map_cons]
  rw [cv_ref hq1 hq2]
  refine W.objInit C.1 C.2.1 C.2.2.2.2.1 (cx_word C hw1) (cx_word C hw2) (cx_word C hw3) rfl (hL.1.trans C.2.2.2.1.symm) rfl hd hh ?_ (W.eq rfl (k r s' ho p e S m args below meth c H locs lr C hS hR hL))
  show 2 * 0 + ((st.map (cv Θ)).map fun v => v.category).sum + 12 ≤ 100 * h
  rw [catS_eq]
  omega
-- invokespecial of a constructor
theorem j_callI {q i : Nat} {stk : List AV} (as : List AV) (n : Nat) (hM : MkI M2 as.length) (hw : Cond.methodLink M.1.cls i M2.1 ∈ gtb ∨ ∃ host, Cond.methodLinkNest M.1.cls i M2.1 host ∈ nwL) (hd : decode M.2.1 pc = .ok (.invokespecial i, 3)) (hn : pc + 3 = n) (hst : stk = as.reverse ++ vR q :: st) (hq1 : 0 < q) (hq2 : q < 900) {s2 : Mem} (hct : Ct Θ l M2 h2 gU T2 N ρ (vR q :: as) s (some ((), s2)))
    (hh : h2 + 1 ≤ h) (hL9 : M2.2.2.1 ≤ 60) (hcat : catS st ≤ 8) (hf1 : ce + T2.2.2.1 ≤ T.2.2.1) (hf2 : sl + T2.2.2.2 ≤ T.2.2.2)
    (k : Jg Θ l M h G T T2.1 T2.2.1 (ce + T2.2.2.1) (sl + T2.2.2.2) n ls st s2 o) : Jg Θ l M h G T N ρ ce sl pc ls stk s o := by
  subst hn; subst hst
  intro r s' ho p e S m args below meth cd H locs lr C hS hR hL
  have hMet := hct () s2 rfl
  have e1 : (as.reverse ++ vR q :: st).map (cv Θ) = (as.map (cv Θ)).reverse ++ .ref (Θ.2.1 + q) :: st.map (cv Θ) := by
    rw [List.map_append, List.map_reverse, List.map_cons, cv_ref hq1 hq2]
  rw [e1]
  have hpre : PreS S H (Pq Θ N ρ (vR q :: as) s) (.ref (Θ.2.1 + q) :: as.map (cv Θ)) := by
    refine ⟨Pq_blind, fun U hU hW => ?_⟩
    have z := Pq_at (as := vR q :: as) C.2.2.2.2.2.2.2.2.1 C.2.2.2.2.2.2.2.2.2 hS hR hU hW
    rw [List.map_cons, cv_ref hq1 hq2] at z
    exact z
  have hroom : (rmH h2 T2.2.2.1 T2.2.2.2).frames + 1 ≤ (rmH h T.2.2.1 T.2.2.2).frames ∧ 8 + (M2.2.2.1 + 11) + (rmH h2 T2.2.2.1 T2.2.2.2).locals ≤ (rmH h T.2.2.1 T.2.2.2).locals := by
    refine ⟨hh, ?_⟩
    show 8 + (M2.2.2.1 + 11) + 100 * h2 ≤ 100 * h
    omega
  have kk : ∀ (H1 : Heap) (locs1 : List Loc), va_S (Ar Θ) S.heap H1 locs1 → Rel Θ T2.1 T2.2.1 s2 H1 → W p l e (rmH h T.2.2.1 T.2.2.2) S m args below meth cd H1 locs1 (ce + T2.2.2.1) (sl + T2.2.2.2) (MQ below (Qo Θ G T r s') args S T.2.2.1 T.2.2.2 (Ar Θ)) (F0 m (pc + 3) lr (((gU ()).map (cv Θ)).toList ++ st.map (cv Θ))) := by
    intro H1 locs1 hS1 hR1
    exact k r s' ho p e S m args below meth cd H1 locs1 lr C hS1 hR1 hL
  have hgood : GoodIn (wsOf M) (wsOf M2) := good_sub (ws_sub hM.1)
  have hret := hM.2.2.2
  rcases hw with hw | ⟨host, hw⟩
  · have hcw : CallB (rmH h T.2.2.1 T.2.2.2) S args M.1.cls i M2.1 M2.2.1 M2.2.2.1 none (wsOf M2) (rmH h2 T2.2.2.1 T2.2.2.2) T2.2.2.1 T2.2.2.2 as.length ∧ M2.1.name = "<init>" ∧ (Cond.instanceMethod M2.1).before args S = true := by
      refine ⟨?_, hM.2.2.1, cx_word C hM.2.1⟩
      rw [← hret]
      exact callB_of as.length C.2.2.2.2.2.1 hgood rfl rfl rfl (cx_word C hM.1.1) (cx_word C hw) hM.1.2.2 hroom
    exact call_core (va_runI (g := F0 m pc lr _) ⟨C.1, C.2.1, C.2.2.2.1, C.2.2.2.2.1, C.2.2.2.2.2.1⟩ hMet hcw hpre rfl (by rw [List.length_map]) hL.1 rfl (lv_room (by rw [catS_eq]; exact hcat)) hd ⟨hf1, hf2⟩) hS kk
  · have hcw : va_CN (rmH h T.2.2.1 T.2.2.2) S args M.1.cls i M2.1 host M2.2.1 M2.2.2.1 none (wsOf M2) (rmH h2 T2.2.2.1 T2.2.2.2) T2.2.2.1 T2.2.2.2 as.length ∧ M2.1.name = "<init>" ∧ (Cond.instanceMethod M2.1).before args S = true := by
      refine ⟨?_, hM.2.2.1, cx_word C hM.2.1⟩
      rw [← hret]
      exact va_cnB as.length C.2.2.2.2.2.1 hgood rfl rfl rfl (C.2.2.2.2.2.2.2.2.1.2.2.1 _ hw) (cx_word C hM.1.1) hM.1.2.2 hroom
    exact call_core (va_runIN (g := F0 m pc lr _) ⟨C.1, C.2.1, C.2.2.2.1, C.2.2.2.2.1, C.2.2.2.2.2.1⟩ hMet hcw hpre rfl (by rw [List.length_map]) hL.1 rfl (lv_room (by rw [catS_eq]; exact hcat)) hd ⟨hf1, hf2⟩) hS kk
end JE
