theorem lw_good : ∀ w ∈ gtb, goodWord w = true := fun w h => (List.mem_filter.mp h).2
theorem nw_is {w : Cond} (h : w ∈ nwL) : ∃ a i x b, w = Cond.methodLinkNest a i x b := by
  have h1 := (List.mem_filter.mp h).2
  cases w <;> first | (exact ⟨_, _, _, _, rfl⟩) | (simp [isNst] at h1)
theorem good_sub {M : Mi} {ws : List Cond} (h : ∀ w ∈ ws, w ∈ gtb) : GoodIn (wsOf M) ws := fun w hw => ⟨List.mem_cons_of_mem _ (h w hw), good_of_word (lw_good w (h w hw))⟩
def gI : Int32 → Option AV := fun x => some (vI x)
def gL : Int64 → Option AV := fun x => some (vL x)
def gR : Nat → Option AV := fun q => some (vR q)
def gU : Unit → Option AV := fun _ => none
def catS : List AV → Nat
  | [] => 0
  | v :: t => (if isLg v then 2 else 1) + catS t
theorem catS_eq (Θ : Th) : ∀ st : List AV, ((st.map (cv Θ)).map fun v => v.category).sum = catS st
  | [] => rfl
  | v :: t => by
    simp only [List.map_cons, List.sum_cons, catS]
    rw [cv_cat]
    exact congrArg _ (catS_eq Θ t)
-- the entry
def enL : List AV → List (Option AV)
  | [] => []
  | v :: t => if isLg v then some v :: none :: enL t else some v :: enL t
theorem enL_at (Θ : Th) : ∀ (as : List AV) (off i : Nat) (v : AV), (enL as)[i]? = some (some v) → (off + i, cv Θ v) ∈ lv_args off (as.map (cv Θ))
  | [], off, i, v, h => by simp [enL] at h
  | w :: t, off, i, v, h => by
    simp only [List.map_cons, lv_args]
    rw [cv_cat]
    cases hw : isLg w with
    | true =>
      simp only [enL, hw, if_true] at h
      match i, h with
      | 0, h =>
        simp only [List.getElem?_cons_zero, Option.some.injEq] at h
        subst h
        exact List.mem_cons_self
      | 1, h => simp at h
      | j + 2, h =>
        simp only [List.getElem?_cons_succ] at h
        have h2 := enL_at Θ t (off + 2) j v h
        refine List.mem_cons_of_mem _ ?_
        simp only [if_true]
        have e : off + (j + 2) = off + 2 + j := by omega
        rw [e]
        exact h2
    | false =>
      simp only [enL, hw] at h
      match i, h with
      | 0, h =>
        simp at h
        subst h
        exact List.mem_cons_self
      | j + 1, h =>
        simp at h
        have h2 := enL_at Θ t (off + 1) j v h
        refine List.mem_cons_of_mem _ ?_
        have e : off + (j + 1) = off + 1 + j := by omega
        rw [e]
        simpa using h2
theorem enL_len (Θ : Th) : ∀ as : List AV, (lg_sl (as.map (cv Θ))).length = (enL as).length
  | [] => rfl
  | v :: t => by
    have ih := enL_len Θ t
    simp only [lg_sl, List.map_cons, List.flatMap_cons, List.length_append] at ih ⊢
    rw [ih, cv_cat]
    cases hv : isLg v <;> simp [enL, hv] <;> omega
theorem Frz_moved {Θ : Th} {S U : State} {H : Heap} {locs : List Loc} (hF : Frz Θ S) (hS : va_S (Ar Θ) S.heap H locs) (hU : U.heap = H) (hW : S.WarmedH U.vm) : Frz Θ U := by
  refine ⟨hF.1.moved hW.alike, fun k hk => ⟨?_, ?_⟩, fun w hw => ?_, hF.2.2.2.1.moved hW.alike, hF.2.2.2.2.moved hW.alike⟩
  · rw [hU]
    exact ((hF.2.1 k hk).1.kept (fun a ha hna => hS.2.1 a ha hna)).moved hW.alike
  · rw [hU]
    exact ((hF.2.1 k hk).2.kept (fun a ha hna => hS.2.1 a ha hna)).moved hW.alike
  · have h1 := hF.2.2.1 w hw
    obtain ⟨a, i, x, b, rfl⟩ := nw_is hw
    exact va_Nw.warmM hW h1
theorem Pq_blind {Θ : Th} {N : Nat} {ρ : Rf} {as : List AV} {s : Mem} : FrameBlind (Pq Θ N ρ as s) := by
  intro a U g mk ⟨h1, h2, h3, h4⟩
  refine ⟨h1, ⟨va_K.moved (u := U) (U := U.calling g mk a) (Vm.Alike.refl U.vm) h2.1, fun k hk => ⟨va_Z.moved (u := U) (U := U.calling g mk a) (Vm.Alike.refl U.vm) (h2.2.1 k hk).1, va_T.moved (u := U) (U := U.calling g mk a) (Vm.Alike.refl U.vm) (h2.2.1 k hk).2⟩, fun w hw => ?_, va_AO.moved (u := U) (U := U.calling g mk a) (Vm.Alike.refl U.vm) h2.2.2.2.1, va_AO.moved (u := U) (U := U.calling g mk a) (Vm.Alike.refl U.vm) h2.2.2.2.2⟩, h3, h4⟩
  have h5 := h2.2.2.1 w hw
  obtain ⟨a1, i, x, b, rfl⟩ := nw_is hw
  exact va_Nw.same rfl (rfl : U.vm = (U.calling g mk a).vm) h5
theorem Pq_at {Θ : Th} {N : Nat} {ρ : Rf} {as : List AV} {s : Mem} {S U : State} {H : Heap} {locs : List Loc} (hF : Frz Θ S) (hB : Θ.2.1 + 1 ≤ S.heap.size) (hS : va_S (Ar Θ) S.heap H locs) (hR : Rel Θ N ρ s H) (hU : U.heap = H) (hW : S.WarmedH U.vm) : Pq Θ N ρ as s (as.map (cv Θ)).toArray U :=
  ⟨rfl, Frz_moved hF hS hU hW, by rw [hU]; exact hR, by rw [hU]; exact Nat.le_trans hB hS.1⟩
section JC
variable {α β : Type} {Θ : Th} {l : Launch} {M M2 : Mi} {h h2 : Nat} {G : α → Option AV} {G2 : β → Option AV} {T T2 : Tg} {N : Nat} {ρ : Rf} {ce sl pc : Nat} {ls : List (Option AV)} {st : List AV} {s : Mem} {o : Option (α × Mem)} {o2 : Option (β × Mem)} {g : β → Mem → Option (α × Mem)}
/-- a contract out of the judgement at the method's entry -/
theorem ct_of {as : List AV} (hy : plainName M.1.cls = true) (ls : List (Option AV)) (hls : enL as ++ List.replicate (M.2.2.1 - (enL as).length) none = ls) (hlen : (enL as).length ≤ M.2.2.1) (k : Jg Θ l M h G T N ρ 0 0 0 ls [] s o) : Ct Θ l M h G T N ρ as s o := by
  intro r s' ho
  refine Met.ofW (cc := M.2.1) (maxL := M.2.2.1) (ret := M.2.2.2) hy rfl ?_
  intro p e S m args below meth c s₁ B hml hv
  obtain ⟨rfl, hF, hR, hB⟩ := hv
  have hl := lv_entry (as.map (cv Θ)) (n := M.2.2.1) (by rw [enL_len]; exact hlen)
  rw [lg_entry_eq]
  refine k r s' ho p e S m _ below meth c S.heap [] _ ⟨B.exec, B.bytes, B.returns, hml, findClass_of_methodNamed B.named, atoms_spec (ws := wsOf M) B.pre, B.notSynchronized, (name_of_methodNamed B.named B.method).1, hF, hB⟩ va_S.rf hR (lr_has_sub hl ?_)
  intro q hq
  obtain ⟨v, h1, h2⟩ := prs_of hq
  rw [← hls] at h1
  have h3 : (enL as)[q.1]? = some (some v) := by
    by_cases hl2 : q.1 < (enL as).length
    · rwa [List.getElem?_append_left hl2] at h1
    · rw [List.getElem?_append_right (by omega)] at h1
      rw [List.getElem?_replicate] at h1
      split at h1 <;> simp at h1
  have h4 := enL_at Θ as 0 q.1 v h3
  obtain ⟨a, b⟩ := q
  simp only [Nat.zero_add] at h4 h2
  rw [h2]
  exact h4
theorem call_core {p : Program} {e : Env} {R : Room} {S : State} {m : MethodId} {args arr : Array Value} {below : List Frame} {meth : Method} {c : Code} {H : Heap} {locs : List Loc} {mc ms : Nat} {lr : Array Slot} {stk rest : List Value} {Q : State → Prop} {r2 : β} {s2 : Mem}
    (hr : va_Run p l e R S m args below meth c H locs ce sl mc ms (F0 m pc lr stk) rest (Qo Θ G2 T2 r2 s2 arr) (Ar Θ)) (hS : va_S (Ar Θ) S.heap H locs)
    (kk : ∀ (H1 : Heap) (locs1 : List Loc), va_S (Ar Θ) S.heap H1 locs1 → Rel Θ T2.1 T2.2.1 s2 H1 → W p l e R S m args below meth c H1 locs1 (ce + mc) (sl + ms) Q (F0 m (pc + 3) lr (((G2 r2).map (cv Θ)).toList ++ rest))) : W p l e R S m args below meth c H locs ce sl Q (F0 m pc lr stk) := by
  intro X0 hT X
  obtain ⟨v, st₀, t, T', L, h0, X', hL, e1, e2, ⟨hv, hRel, hz, hk⟩, st⟩ := hr X0 hT X
  cases hv
  rw [h0] at hz hk
  obtain ⟨t2, a1, b1⟩ := kk T'.heap (locs ++ L) ⟨Nat.le_trans hS.1 (by rw [e1]; exact hz), fun q g1 g2 => by rw [e1, hk q (Nat.lt_of_lt_of_le g1 hS.1) g2]; exact hS.2.1 q g1 g2, fun q hq => by
      rcases List.mem_append.mp hq with z | z
      · exact hS.2.2 q z
      · exact hL q z⟩ (by rw [e1]; exact hRel) T' rfl X'
  exact ⟨t2, st t2 a1, b1⟩
def MkD (M2 : Mi) (n : Nat) : Prop := Cond.initialized M2.1.cls ∈ gtb ∧ Cond.code M2.1 M2.2.1 M2.2.2.1 M2.2.2.2 ∈ gtb ∧ M2.1.cls ≠ "java/lang/invoke/MethodHandle" ∧ M2.1.cls ≠ "java/lang/invoke/VarHandle" ∧ (parseMethodDescriptor M2.1.desc).map (fun d => d.parameters.length) = some n
def MkV (M2 : Mi) (n : Nat) : Prop := MkD M2 n ∧ Cond.instanceMethod M2.1 ∈ gtb ∧ Cond.selects M2.1.cls M2.1 M2.1 ∈ gtb
def MkS (M2 : Mi) (n : Nat) : Prop := MkD M2 n ∧ Cond.static M2.1 ∈ gtb
def MkI (M2 : Mi) (n : Nat) : Prop := MkD M2 n ∧ Cond.instanceMethod M2.1 ∈ gtb ∧ M2.1.name = "<init>" ∧ M2.2.2.2 = none
theorem ws_sub {M2 : Mi} {n : Nat} (hM : MkD M2 n) : ∀ w ∈ wsOf M2, w ∈ gtb := fun w hw => (List.mem_cons.mp hw).elim (fun e => e ▸ hM.2.1) id
/-- invokevirtual of a method of the class itself -/
theorem j_callV {q c i : Nat} {Tb : u_T} {ty : Nat → FieldType} {stk : List AV} (as : List AV) (n : Nat) (hC : Cls c M2.1.cls Tb ty) (hM : MkV M2 as.length) (hw : Cond.methodLink M.1.cls i M2.1 ∈ gtb) (hd : decode M.2.1 pc = .ok (.invokevirtual i, 3)) (hn : pc + 3 = n) (hst : stk = as.reverse ++ vR q :: st) (hq1 : 0 < q) (hq2 : q ≤ N) (hN : N < 900) (hk : kd q = c) (hct : Ct Θ l M2 h2 G2 T2 N ρ (vR q :: as) s o2)
    (hh : h2 + 1 ≤ h) (hL9 : M2.2.2.1 ≤ 60) (hcat : catS st ≤ 8) (hf1 : ce + T2.2.2.1 ≤ T.2.2.1) (hf2 : sl + T2.2.2.2 ≤ T.2.2.2)
    (k : ∀ (r : β) (s1 : Mem), Jg Θ l M h G T T2.1 T2.2.1 (ce + T2.2.2.1) (sl + T2.2.2.2) n ls ((G2 r).toList ++ st) s1 (g r s1)) : Jg Θ l M h G T N ρ ce sl pc ls stk s (bnd o2 g) := by
  subst hn; subst hst
  intro r s' ho p e S m args below meth cd H locs lr C hS hR hL
  cases ho2 : o2 with
  | none => rw [ho2] at ho; cases ho
  | some x =>
    obtain ⟨r2, s2⟩ := x
    rw [ho2, bnd_some] at ho
    have hMet := hct r2 s2 ho2
    obtain ⟨hc1, hcl, hin, hty, hnm⟩ := hC
    have hcell := wsN_at (Θ := Θ) (ρ := ρ) (s := s) hq1 hq2
    rw [cell_obj hk (by omega)] at hcell
    have hK := C.2.2.2.2.2.2.2.2.1.1
    have e1 : (as.reverse ++ vR q :: st).map (cv Θ) = (as.map (cv Θ)).reverse ++ .ref (Θ.2.1 + q) :: st.map (cv Θ) := by
      rw [List.map_append, List.map_reverse, List.map_cons, cv_ref hq1 (by omega)]
    rw [e1]
    have hpre : PreV S H M2.1.cls (Θ.2.1 + q) (Pq Θ N ρ (vR q :: as) s) (as.map (cv Θ)) := by
      refine ⟨Pq_blind, va_recv hK hR.1 hcl hcell, fun U hU hW => ?_⟩
      have z := Pq_at (as := vR q :: as) C.2.2.2.2.2.2.2.2.1 C.2.2.2.2.2.2.2.2.2 hS hR hU hW
      rw [List.map_cons, cv_ref hq1 (by omega)] at z
      exact z
    have hcw : CallW (rmH h T.2.2.1 T.2.2.2) S args M.1.cls M2.1.cls i M2.1 M2.2.1 M2.2.2.1 M2.2.2.2 (wsOf M2) (rmH h2 T2.2.2.1 T2.2.2.2) T2.2.2.1 T2.2.2.2 as.length := by
      refine cwV as.length (Ts := wsOf M) C.2.2.2.2.2.1 ?_ rfl rfl rfl ⟨rfl, hM.1.2.2⟩ ⟨hh, ?_⟩
      · refine good_sub (fun w hw2 => ?_)
        unfold wsV at hw2
        rcases List.mem_append.mp hw2 with z | z
        · simp only [List.mem_cons, List.not_mem_nil, or_false] at z
          rcases z with rfl | rfl | rfl | rfl
          · exact hw
          · exact hM.2.1
          · exact hM.2.2
          · exact hM.1.1
        · exact ws_sub hM.1 w z
      · show 8 + (M2.2.2.1 + 11) + 100 * h2 ≤ 100 * h
        omega
    refine call_core (va_runV (g := F0 m pc lr _) ⟨C.1, C.2.1, C.2.2.2.1, C.2.2.2.2.1, C.2.2.2.2.2.1⟩ hMet hcw hpre rfl (by rw [List.length_map]) hL.1 rfl (lv_room (by rw [catS_eq]; exact hcat)) hd ⟨hf1, hf2⟩) hS (fun H1 locs1 hS1 hR1 => ?_)
    have k2 := k r2 s2 r s' ho p e S m args below meth cd H1 locs1 lr C hS1 hR1 hL
    rw [List.map_append] at k2
    have e2 : (G2 r2).toList.map (cv Θ) = ((G2 r2).map (cv Θ)).toList := by cases G2 r2 <;> rfl
    rw [e2] at k2
    exact k2
/-- invokestatic, within a class or of a nest mate -/
theorem j_callS {i : Nat} {stk : List AV} (as : List AV) (n : Nat) (hM : MkS M2 as.length) (hw : Cond.methodLink M.1.cls i M2.1 ∈ gtb ∨ ∃ host, Cond.methodLinkNest M.1.cls i M2.1 host ∈ nwL) (hd : decode M.2.1 pc = .ok (.invokestatic i, 3)) (hn : pc + 3 = n) (hst : stk = as.reverse ++ st) (hct : Ct Θ l M2 h2 G2 T2 N ρ as s o2)
    (hh : h2 + 1 ≤ h) (hL9 : M2.2.2.1 ≤ 60) (hcat : catS st ≤ 8) (hf1 : ce + T2.2.2.1 ≤ T.2.2.1) (hf2 : sl + T2.2.2.2 ≤ T.2.2.2)
    (k : ∀ (r : β) (s1 : Mem), Jg Θ l M h G T T2.1 T2.2.1 (ce + T2.2.2.1) (sl + T2.2.2.2) n ls ((G2 r).toList ++ st) s1 (g r s1)) : Jg Θ l M h G T N ρ ce sl pc ls stk s (bnd o2 g) := by
  subst hn; subst hst
  intro r s' ho p e S m args below meth cd H locs lr C hS hR hL
  cases ho2 : o2 with
  | none => rw [ho2] at ho; cases ho
  | some x =>
    obtain ⟨r2, s2⟩ := x
    rw [ho2, bnd_some] at ho
    have hMet := hct r2 s2 ho2
    have e1 : (as.reverse ++ st).map (cv Θ) = (as.map (cv Θ)).reverse ++ st.map (cv Θ) := by
      rw [List.map_append, List.map_reverse]
    rw [e1]
    have hpre : PreS S H (Pq Θ N ρ as s) (as.map (cv Θ)) := ⟨Pq_blind, fun U hU hW => Pq_at C.2.2.2.2.2.2.2.2.1 C.2.2.2.2.2.2.2.2.2 hS hR hU hW⟩
    have hroom : (rmH h2 T2.2.2.1 T2.2.2.2).frames + 1 ≤ (rmH h T.2.2.1 T.2.2.2).frames ∧ 8 + (M2.2.2.1 + 11) + (rmH h2 T2.2.2.1 T2.2.2.2).locals ≤ (rmH h T.2.2.1 T.2.2.2).locals := by
      refine ⟨hh, ?_⟩
      show 8 + (M2.2.2.1 + 11) + 100 * h2 ≤ 100 * h
      omega
    have kk : ∀ (H1 : Heap) (locs1 : List Loc), va_S (Ar Θ) S.heap H1 locs1 → Rel Θ T2.1 T2.2.1 s2 H1 → W p l e (rmH h T.2.2.1 T.2.2.2) S m args below meth cd H1 locs1 (ce + T2.2.2.1) (sl + T2.2.2.2) (MQ below (Qo Θ G T r s') args S T.2.2.1 T.2.2.2 (Ar Θ)) (F0 m (pc + 3) lr (((G2 r2).map (cv Θ)).toList ++ st.map (cv Θ))) := by
      intro H1 locs1 hS1 hR1
      have k2 := k r2 s2 r s' ho p e S m args below meth cd H1 locs1 lr C hS1 hR1 hL
      rw [List.map_append] at k2
      have e2 : (G2 r2).toList.map (cv Θ) = ((G2 r2).map (cv Θ)).toList := by cases G2 r2 <;> rfl
      rw [e2] at k2
      exact k2
    have hgood : GoodIn (wsOf M) (wsOf M2) := good_sub (ws_sub hM.1)
    rcases hw with hw | ⟨host, hw⟩
    · have hcw : CallB (rmH h T.2.2.1 T.2.2.2) S args M.1.cls i M2.1 M2.2.1 M2.2.2.1 M2.2.2.2 (wsOf M2) (rmH h2 T2.2.2.1 T2.2.2.2) T2.2.2.1 T2.2.2.2 as.length ∧ (Cond.static M2.1).before args S = true :=
        ⟨callB_of as.length C.2.2.2.2.2.1 hgood rfl rfl rfl (cx_word C hM.1.1) (cx_word C hw) hM.1.2.2 hroom, cx_word C hM.2⟩
      exact call_core (va_runS (g := F0 m pc lr _) ⟨C.1, C.2.1, C.2.2.2.1, C.2.2.2.2.1, C.2.2.2.2.2.1⟩ hMet hcw hpre rfl (by rw [List.length_map]) hL.1 rfl (lv_room (by rw [catS_eq]; exact hcat)) hd ⟨hf1, hf2⟩) hS kk
    · have hcw : va_CN (rmH h T.2.2.1 T.2.2.2) S args M.1.cls i M2.1 host M2.2.1 M2.2.2.1 M2.2.2.2 (wsOf M2) (rmH h2 T2.2.2.1 T2.2.2.2) T2.2.2.1 T2.2.2.2 as.length ∧ (Cond.static M2.1).before args S = true ∧ True :=
        ⟨va_cnB as.length C.2.2.2.2.2.1 hgood rfl rfl rfl (C.2.2.2.2.2.2.2.2.1.2.2.1 _ hw) (cx_word C hM.1.1) hM.1.2.2 hroom, cx_word C hM.2, trivial⟩
      exact call_core (va_runSN (g := F0 m pc lr _) ⟨C.1, C.2.1, C.2.2.2.1, C.2.2.2.2.1, C.2.2.2.2.2.1⟩ hMet hcw hpre rfl (by rw [List.length_map]) hL.1 rfl (lv_room (by rw [catS_eq]; exact hcat)) hd ⟨hf1, hf2⟩) hS kk
end JC
