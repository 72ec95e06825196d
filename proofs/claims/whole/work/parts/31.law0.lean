-- the law: the skeleton's head (starting text), then the judgement of the law's own body
/-! THE CLAIM OUT OF ONE WALK OF THE LAW'S BODY. Your part is whole_start (and what it stands on); all else here is the same for every law, but numbers. -/
def R_law : String := "HeavierSideLaw"
def lw_P (b : Addr) (xs : List Int32) (args : Array Value) (s : State) : Prop := args = #[.ref b] ∧ s.IntsAt b xs ∧ xs.length ≤ 3072 ∧ (Jvm.Cond.and given_1 narrow_1).before args s = true
def lw_Q (_ : Array Value) (s : State) (o : Outcome) (t : State) : Prop := o = .returned (some (.int 1)) ∧ Framed s o t [] 600000 7302249
def lw_Z (below : List Frame) (a : Array Value) (s : State) : State → Prop := fun t => ∃ o, t.status = .running ∧ Ended t below o ∧ lw_Q a s o t
/-- the law's own end, with 1 on the stack, nothing written that was there before, its room as the claim has it -/
theorem lw_ret {p : Program} {l : Launch} {e : Env} {s : State} {m : MethodId} {below : List Frame} {meth : Method} {c : Code} {b : Nat} (hx : p.tables.exec = Jvm.exec) (hb : c.code = code) (hr : meth.sig.returnType = ret) (hlocks : meth.locks = false) {pc : Nat} {H : Heap} {ls : Array Slot} (hdg : decode code pc = .ok (.ireturn, 1)) : W p l e room_1 s m #[Value.ref b] below meth c H [] 600000 7302249 (lw_Z below #[Value.ref b] s) (F0 m pc ls [.int 1]) := by
  intro T hT X
  obtain ⟨fs, hret, hrun, hended, hW, hframe⟩ := X.leave (v := some (.int 1)) (hlocks := hlocks) (fun h => by rw [hr] at h; cases h)
  have hmeth' : T.vm.method? m = some meth := X.method'
  refine ⟨T.setFrames fs, ?_, .returned (some (.int 1)), hrun, hended, rfl, ⟨_, rfl⟩, hW, hframe⟩
  jvm_step X.here [X.here.top, hx, hb, hdg, hmeth', hr, ret, narrow_b1]
  (try refine ⟨rfl, ?_⟩); (try refine ⟨rfl, ?_⟩)
  first | (intro acts; rw [hret _ acts rfl rfl rfl]) | rw [hret _ _ rfl rfl rfl]
  exact Steps.refl _
/-- what holds at the law's entry: the machine, the code, the tables' words (any of lw_tbl by 'hts w (by decide +kernel)'), the script of L ints xs at the cell b, what the Statement gives of the start (any of its parts by flat_of_before) -/
def lw_At (p : Program) (s : State) (m : MethodId) (meth : Method) (c : Code) (b L : Nat) (xs : Nat → Int32) : Prop :=
  p.tables.exec = Jvm.exec ∧ c.code = code ∧ meth.sig.returnType = ret ∧ c.maxLocals = 4 ∧ s.vm.findClass R_law = some m.cls ∧ (∀ w ∈ lw_tbl, w.before #[Value.ref b] s = true) ∧ va_X b L xs s s.heap ∧ b < s.heap.size ∧ meth.locks = false ∧ (Jvm.Cond.and given_1 narrow_1).before #[Value.ref b] s = true
def Cl (Θ : Th) (b L : Nat) (xs : Nat → Int32) (p : Program) (S : State) (m : MethodId) (meth : Method) (c : Code) : Prop :=
  p.tables.exec = Jvm.exec ∧ c.code = code ∧ meth.sig.returnType = ret ∧ c.maxLocals = 4 ∧ S.vm.findClass RL = some m.cls ∧ (∀ w ∈ gtb, w.before #[Value.ref b] S = true) ∧ meth.locks = false ∧ Frz Θ S ∧ Θ.2.1 + 1 = S.heap.size ∧ va_X b L xs S S.heap ∧ b < S.heap.size ∧ Θ.2.2.1 49 = b
def Jl (Θ : Th) (l : Launch) (b L : Nat) (xs : Nat → Int32) (N : Nat) (ρ : Rf) (ce sl pc : Nat) (ls : List (Option AV)) (st : List AV) (s : Mem) (o : Option (Int32 × Mem)) : Prop :=
  (∃ s' : Mem, o = some (1, s')) → ∀ (p : Program) (e : Env) (S : State) (m : MethodId) (below : List Frame) (meth : Method) (c : Code) (H : Heap) (locs : List Loc) (lr : Array Slot),
    Cl Θ b L xs p S m meth c → va_S (Ar Θ) S.heap H locs → Rel Θ N ρ s H → lv_has lr 4 (prs Θ ls) →
    W p l e room_1 S m #[Value.ref b] below meth c H locs ce sl (lw_Z below #[Value.ref b] S) (F0 m pc lr (st.map (cv Θ)))
section JL
variable {Θ : Th} {l : Launch} {b L : Nat} {xs : Nat → Int32} {N : Nat} {ρ : Rf} {ce sl pc : Nat} {ls : List (Option AV)} {st : List AV} {s : Mem} {o o1 o2 : Option (Int32 × Mem)}
theorem l_iconst {z : Int} {v : Int32} (n : Nat) (hd : decode code pc = .ok (.iconst z, 1)) (hn : pc + 1 = n) (hv : Int32.ofInt z = v) (k : Jl Θ l b L xs N ρ ce sl n ls (vI v :: st) s o) : Jl Θ l b L xs N ρ ce sl pc ls (st) s o := by
  subst hn
  intro ho p e S m below meth c H locs lr C hS hR hL
  exact lv_iconst C.1 C.2.1 hd hv (k ho p e S m below meth c H locs lr C hS hR hL)
theorem l_bipush {z : Int} {v : Int32} (n : Nat) (hd : decode code pc = .ok (.bipush z, 2)) (hn : pc + 2 = n) (hv : (Int8.ofInt z).toInt32 = v) (k : Jl Θ l b L xs N ρ ce sl n ls (vI v :: st) s o) : Jl Θ l b L xs N ρ ce sl pc ls (st) s o := by
  subst hn
  intro ho p e S m below meth c H locs lr C hS hR hL
  exact lv_bipush C.1 C.2.1 hd hv (k ho p e S m below meth c H locs lr C hS hR hL)
theorem l_iload_n {z : Fin 4} {x : Int32} (n : Nat) (hd : decode code pc = .ok (.iload_n z, 1)) (hn : pc + 1 = n) (hi : ls[(z : Nat)]? = some (some (vI x))) (k : Jl Θ l b L xs N ρ ce sl n ls (vI x :: st) s o) : Jl Θ l b L xs N ρ ce sl pc ls (st) s o := by
  subst hn
  intro ho p e S m below meth c H locs lr C hS hR hL
  exact lv_iload_n C.1 C.2.1 hd rfl (lr_at hL hi) (k ho p e S m below meth c H locs lr C hS hR hL)
theorem l_aload_n {z : Fin 4} {q : Nat} (n : Nat) (hd : decode code pc = .ok (.aload_n z, 1)) (hn : pc + 1 = n) (hi : ls[(z : Nat)]? = some (some (vR q))) (k : Jl Θ l b L xs N ρ ce sl n ls (vR q :: st) s o) : Jl Θ l b L xs N ρ ce sl pc ls st s o := by
  subst hn
  intro ho p e S m below meth c H locs lr C hS hR hL
  have h1 := lr_at hL hi
  have h2 := (k ho p e S m below meth c H locs lr C hS hR hL)
  have e9 : cv Θ (vR q) = va_rf (adO Θ q) := rfl
  simp only [List.map_cons] at h2
  rw [e9] at h1 h2
  cases hq : adO Θ q with
  | none => rw [hq] at h1 h2; exact lv_aload_nN C.1 C.2.1 hd rfl h1 h2
  | some a => rw [hq] at h1 h2; exact lv_aload_n C.1 C.2.1 hd rfl h1 h2
theorem l_istore_n {z : Fin 4} {i : Nat} {x : Int32} {ls' : List (Option AV)} (n : Nat) (hd : decode code pc = .ok (.istore_n z, 1)) (hn : pc + 1 = n) (hz : (z : Nat) = i) (hl : i < 4) (hok : okS ls i = true) (hs : ls.set i (some (vI x)) = ls') (k : Jl Θ l b L xs N ρ ce sl n ls' st s o) : Jl Θ l b L xs N ρ ce sl pc ls (vI x :: st) s o := by
  subst hn; subst hs
  intro ho p e S m below meth c H locs lr C hS hR hL
  exact lv_istore_n C.1 C.2.1 hd hz hL hl rfl (fun lr' h' => k ho p e S m below meth c H locs lr' C hS hR (lr_store1 (v := vI x) hok h'))
theorem l_astore_n {z : Fin 4} {i q : Nat} {ls' : List (Option AV)} (n : Nat) (hd : decode code pc = .ok (.astore_n z, 1)) (hn : pc + 1 = n) (hz : (z : Nat) = i) (hl : i < 4) (hok : okS ls i = true) (hs : ls.set i (some (vR q)) = ls') (k : Jl Θ l b L xs N ρ ce sl n ls' st s o) : Jl Θ l b L xs N ρ ce sl pc ls (vR q :: st) s o := by
  subst hn; subst hs
  intro ho p e S m below meth c H locs lr C hS hR hL
  have e9 : cv Θ (vR q) = va_rf (adO Θ q) := rfl
  have k2 := fun lr' h' => k ho p e S m below meth c H locs lr' C hS hR (lr_store1 (Θ := Θ) (v := vR q) (nL := 4) hok h')
  simp only [List.map_cons]
  rw [e9] at k2 ⊢
  cases hq : adO Θ q with
  | none => rw [hq] at k2; exact lv_astore_nN C.1 C.2.1 hd hz hL hl rfl k2
  | some a => rw [hq] at k2; exact lv_astore_n C.1 C.2.1 hd hz hL hl rfl k2
theorem l_iinc {i : Nat} {z : Int} {x v : Int32} {ls' : List (Option AV)} (n : Nat) (hd : decode code pc = .ok (.iinc i z, 3)) (hn : pc + 3 = n) (hi : ls[i]? = some (some (vI x))) (hv : x + Int32.ofInt z = v) (hl : i < 4) (hok : okS ls i = true) (hs : ls.set i (some (vI v)) = ls') (k : Jl Θ l b L xs N ρ ce sl n ls' st s o) : Jl Θ l b L xs N ρ ce sl pc ls st s o := by
  subst hn; subst hs
  intro ho p e S m below meth c H locs lr C hS hR hL
  obtain ⟨kk, hkk⟩ := List.getElem?_of_mem (prs_mem (Θ := Θ) hi)
  exact lv_iinc C.1 C.2.1 hd hL hkk hv hl rfl (fun lr' h' => k ho p e S m below meth c H locs lr' C hS hR (lr_store1 (v := vI v) hok h'))
theorem l_iadd {x y : Int32} (n : Nat) (hd : decode code pc = .ok (.iadd, 1)) (hn : pc + 1 = n) (k : Jl Θ l b L xs N ρ ce sl n ls (vI (x + y) :: st) s o) : Jl Θ l b L xs N ρ ce sl pc ls (vI y :: vI x :: st) s o := by
  subst hn
  intro ho p e S m below meth c H locs lr C hS hR hL
  exact lv_iadd C.1 C.2.1 hd (k ho p e S m below meth c H locs lr C hS hR hL)
theorem l_isub {x y : Int32} (n : Nat) (hd : decode code pc = .ok (.isub, 1)) (hn : pc + 1 = n) (k : Jl Θ l b L xs N ρ ce sl n ls (vI (x - y) :: st) s o) : Jl Θ l b L xs N ρ ce sl pc ls (vI y :: vI x :: st) s o := by
  subst hn
  intro ho p e S m below meth c H locs lr C hS hR hL
  exact lv_isub C.1 C.2.1 hd (k ho p e S m below meth c H locs lr C hS hR hL)
theorem l_iand {x y : Int32} (n : Nat) (hd : decode code pc = .ok (.iand, 1)) (hn : pc + 1 = n) (k : Jl Θ l b L xs N ρ ce sl n ls (vI (x &&& y) :: st) s o) : Jl Θ l b L xs N ρ ce sl pc ls (vI y :: vI x :: st) s o := by
  subst hn
  intro ho p e S m below meth c H locs lr C hS hR hL
  exact lv_iand C.1 C.2.1 hd (k ho p e S m below meth c H locs lr C hS hR hL)
theorem l_lcmp {x y : Int64} (n : Nat) (hd : decode code pc = .ok (.lcmp, 1)) (hn : pc + 1 = n) (k : Jl Θ l b L xs N ρ ce sl n ls (vI (lg_cmp x y) :: st) s o) : Jl Θ l b L xs N ρ ce sl pc ls (vL y :: vL x :: st) s o := by
  subst hn
  intro ho p e S m below meth c H locs lr C hS hR hL
  exact W.lcmp C.1 C.2.1 hd (k ho p e S m below meth c H locs lr C hS hR hL)
theorem l_dup {v : AV} (n : Nat) (hd : decode code pc = .ok (.dup, 1)) (hn : pc + 1 = n) (hv : isLg v = false) (k : Jl Θ l b L xs N ρ ce sl n ls (v :: v :: st) s o) : Jl Θ l b L xs N ρ ce sl pc ls (v :: st) s o := by
  subst hn
  intro ho p e S m below meth c H locs lr C hS hR hL
  exact lv_dup C.1 C.2.1 hd (by rw [cv_cat, hv]; rfl) (k ho p e S m below meth c H locs lr C hS hR hL)
theorem l_goto {off : Int} (tgt : Nat) (hd : decode code pc = .ok (.goto off, 3)) (ht : (pc : Int) + off = (tgt : Int)) (k : Jl Θ l b L xs N ρ ce sl tgt ls st s o) : Jl Θ l b L xs N ρ ce sl pc ls st s o := by
  intro ho p e S m below meth c H locs lr C hS hR hL
  exact lv_goto C.1 C.2.1 hd ht (k ho p e S m below meth c H locs lr C hS hR hL)
theorem l_icmp_eq {x y : Int32} {off : Int} (tgt n : Nat) (hd : decode code pc = .ok (.if_icmp .eq off, 3)) (ht : (pc : Int) + off = (tgt : Int)) (hn : pc + 3 = n) (k1 : x = y → Jl Θ l b L xs N ρ ce sl tgt ls st s o1) (k2 : ¬ x = y → Jl Θ l b L xs N ρ ce sl n ls st s o2) : Jl Θ l b L xs N ρ ce sl pc ls (vI y :: vI x :: st) s (if x = y then o1 else o2) := by
  subst hn
  intro ho p e S m below meth c H locs lr C hS hR hL
  exact lv_icmp_eq C.1 C.2.1 hd ht (fun hc => by rw [if_pos hc] at ho; exact k1 hc ho p e S m below meth c H locs lr C hS hR hL) (fun hc => by rw [if_neg hc] at ho; exact k2 hc ho p e S m below meth c H locs lr C hS hR hL)
theorem l_icmp_gt {x y : Int32} {off : Int} (tgt n : Nat) (hd : decode code pc = .ok (.if_icmp .gt off, 3)) (ht : (pc : Int) + off = (tgt : Int)) (hn : pc + 3 = n) (k1 : y < x → Jl Θ l b L xs N ρ ce sl tgt ls st s o1) (k2 : ¬ y < x → Jl Θ l b L xs N ρ ce sl n ls st s o2) : Jl Θ l b L xs N ρ ce sl pc ls (vI y :: vI x :: st) s (if y < x then o1 else o2) := by
  subst hn
  intro ho p e S m below meth c H locs lr C hS hR hL
  exact lv_icmp_gt C.1 C.2.1 hd ht (fun hc => by rw [if_pos hc] at ho; exact k1 hc ho p e S m below meth c H locs lr C hS hR hL) (fun hc => by rw [if_neg hc] at ho; exact k2 hc ho p e S m below meth c H locs lr C hS hR hL)
theorem l_if_eq {x : Int32} {off : Int} (tgt n : Nat) (hd : decode code pc = .ok (.ifCond .eq off, 3)) (ht : (pc : Int) + off = (tgt : Int)) (hn : pc + 3 = n) (k1 : x = 0 → Jl Θ l b L xs N ρ ce sl tgt ls st s o1) (k2 : ¬ x = 0 → Jl Θ l b L xs N ρ ce sl n ls st s o2) : Jl Θ l b L xs N ρ ce sl pc ls (vI x :: st) s (if x = 0 then o1 else o2) := by
  subst hn
  intro ho p e S m below meth c H locs lr C hS hR hL
  exact lv_if_eq C.1 C.2.1 hd ht (fun hc => by rw [if_pos hc] at ho; exact k1 hc ho p e S m below meth c H locs lr C hS hR hL) (fun hc => by rw [if_neg hc] at ho; exact k2 hc ho p e S m below meth c H locs lr C hS hR hL)
theorem l_if_ne {x : Int32} {off : Int} (tgt n : Nat) (hd : decode code pc = .ok (.ifCond .ne off, 3)) (ht : (pc : Int) + off = (tgt : Int)) (hn : pc + 3 = n) (k1 : x = 0 → Jl Θ l b L xs N ρ ce sl n ls st s o1) (k2 : ¬ x = 0 → Jl Θ l b L xs N ρ ce sl tgt ls st s o2) : Jl Θ l b L xs N ρ ce sl pc ls (vI x :: st) s (if x = 0 then o1 else o2) := by
  subst hn
  intro ho p e S m below meth c H locs lr C hS hR hL
  exact lv_if_ne C.1 C.2.1 hd ht (fun hc => by rw [if_neg hc] at ho; exact k2 hc ho p e S m below meth c H locs lr C hS hR hL) (fun hc => by rw [if_pos hc] at ho; exact k1 hc ho p e S m below meth c H locs lr C hS hR hL)
theorem l_none : Jl Θ l b L xs N ρ ce sl pc ls st s none := by
  rintro ⟨s', h⟩
  cases h
theorem l_ite {c : Prop} [Decidable c] (k1 : c → Jl Θ l b L xs N ρ ce sl pc ls st s o1) (k2 : ¬ c → Jl Θ l b L xs N ρ ce sl pc ls st s o2) : Jl Θ l b L xs N ρ ce sl pc ls st s (if c then o1 else o2) := by
  by_cases hc : c
  · rw [if_pos hc]; exact k1 hc
  · rw [if_neg hc]; exact k2 hc
theorem l_sub {ls' : List (Option AV)} (hs : subL ls' ls) (k : Jl Θ l b L xs N ρ ce sl pc ls' st s o) : Jl Θ l b L xs N ρ ce sl pc ls st s o := by
  intro ho p e S m below meth c H locs lr C hS hR hL
  exact k ho p e S m below meth c H locs lr C hS hR (lr_sub hL hs)
theorem cl_word {p : Program} {S : State} {m : MethodId} {meth : Method} {c : Code} (C : Cl Θ b L xs p S m meth c) {w : Cond} (hw : w ∈ gtb) : w.before #[Value.ref b] S = true := C.2.2.2.2.2.1 _ hw
theorem cl_frz {p : Program} {S : State} {m : MethodId} {meth : Method} {c : Code} (C : Cl Θ b L xs p S m meth c) : Frz Θ S := C.2.2.2.2.2.2.2.1
theorem cl_base {p : Program} {S : State} {m : MethodId} {meth : Method} {c : Code} (C : Cl Θ b L xs p S m meth c) : Θ.2.1 + 1 = S.heap.size := C.2.2.2.2.2.2.2.2.1
theorem cl_scr {p : Program} {S : State} {m : MethodId} {meth : Method} {c : Code} (C : Cl Θ b L xs p S m meth c) : cv Θ (vR 950) = .ref b := by
  show va_rf (adO Θ 950) = _
  rw [adO, if_neg (by decide), adr, if_neg (by decide)]
  show va_rf (some (Θ.2.2.1 49)) = _
  rw [C.2.2.2.2.2.2.2.2.2.2.2]
  rfl
theorem cl_out {p : Program} {S : State} {m : MethodId} {meth : Method} {c : Code} (C : Cl Θ b L xs p S m meth c) : ¬ Ar Θ b := by
  have h1 := C.2.2.2.2.2.2.2.2.2.2.1
  have h2 := cl_base C
  show ¬ Θ.2.1 + 1 ≤ b
  omega
theorem l_ialoadX {i : Int32} (n : Nat) (hd : decode code pc = .ok (.iaload, 1)) (hn : pc + 1 = n) (k : inb i L = true → Jl Θ l b L xs N ρ ce sl n ls (vI (xs (ix i)) :: st) s o) : Jl Θ l b L xs N ρ ce sl pc ls (vI i :: vR 950 :: st) s (if inb i L = true then o else none) := by
  subst hn
  intro ho p e S m below meth c H locs lr C hS hR hL
  by_cases hb : inb i L = true
  · rw [if_pos hb] at ho
    simp only [List.map_cons]
    rw [cl_scr C]
    exact va_sld C.1 C.2.1 C.2.2.2.2.2.2.2.2.2.1 C.2.2.2.2.2.2.2.2.2.2.1 (cl_out C) hS (inb_in hb) hd (k hb ho p e S m below meth c H locs lr C hS hR hL)
  · rw [if_neg hb] at ho
    obtain ⟨_, h⟩ := ho
    cases h
theorem l_alenX (n : Nat) (hd : decode code pc = .ok (.arraylength, 1)) (hn : pc + 1 = n) (k : Jl Θ l b L xs N ρ ce sl n ls (vI (nI L) :: st) s o) : Jl Θ l b L xs N ρ ce sl pc ls (vR 950 :: st) s o := by
  subst hn
  intro ho p e S m below meth c H locs lr C hS hR hL
  simp only [List.map_cons]
  rw [cl_scr C]
  exact va_slen C.1 C.2.1 C.2.2.2.2.2.2.2.2.2.1 C.2.2.2.2.2.2.2.2.2.2.1 (cl_out C) hS hd (k ho p e S m below meth c H locs lr C hS hR hL)
theorem l_tabIn {dflt lo hi off : Int} {offs : Array Int} {len : Nat} {x v : Int32} (tgt : Nat) (hd : decode code pc = .ok (.tableswitch dflt lo hi offs, len)) (hx : x = v) (h1 : ¬ v.toInt < lo) (h2 : ¬ hi < v.toInt) (ho9 : offs[(v.toInt - lo).toNat]? = some off) (ht : (pc : Int) + off = (tgt : Int)) (k : Jl Θ l b L xs N ρ ce sl tgt ls st s o) : Jl Θ l b L xs N ρ ce sl pc ls (vI x :: st) s o := by
  subst hx
  intro ho p e S m below meth c H locs lr C hS hR hL
  exact lv_tableIn C.1 C.2.1 hd h1 h2 ho9 ht (k ho p e S m below meth c H locs lr C hS hR hL)
theorem l_tabOut {dflt lo hi : Int} {offs : Array Int} {len : Nat} {x : Int32} (tgt : Nat) (hd : decode code pc = .ok (.tableswitch dflt lo hi offs, len)) (hx : x.toInt < lo ∨ hi < x.toInt) (ht : (pc : Int) + dflt = (tgt : Int)) (k : Jl Θ l b L xs N ρ ce sl tgt ls st s o) : Jl Θ l b L xs N ρ ce sl pc ls (vI x :: st) s o := by
  intro ho p e S m below meth c H locs lr C hS hR hL
  exact lv_tableOut C.1 C.2.1 hd hx ht (k ho p e S m below meth c H locs lr C hS hR hL)
theorem l_ret0 : Jl Θ l b L xs N ρ ce sl pc ls st s (some (0, s)) := by
  rintro ⟨s', h⟩
  cases h
theorem l_ret1 (hd : decode code pc = .ok (.ireturn, 1)) (hce : ce ≤ 600000) (hsl : sl ≤ 7302249) : Jl Θ l b L xs N ρ ce sl pc ls [vI 1] s (some (1, s)) := by
  intro ho p e S m below meth c H locs lr C hS hR hL
  refine va_forget (fun q hq => ?_) ?_
  · rw [← cl_base C]
    exact hS.2.2 q hq
  · refine W.widen (k := 600000) (n := 7302249) hce hsl ?_
    exact lw_ret C.1 C.2.1 C.2.2.1 C.2.2.2.2.2.2.1 hd
theorem l_callV {β : Type} {M2 : Mi} {h2 : Nat} {G2 : β → Option AV} {g : β → Mem → Option (Int32 × Mem)} {o2 : Option (β × Mem)} {q c i : Nat} {Tb : u_T} {ty : Nat → FieldType} {stk : List AV} (as : List AV) (n : Nat) (hO : OA q c) (hC : Cls c M2.1.cls Tb ty) (hM : MkV M2 as.length) (hw : Cond.methodLink RL i M2.1 ∈ gtb) (hd : decode code pc = .ok (.invokevirtual i, 3)) (hn : pc + 3 = n) (hst : stk = as.reverse ++ vR q :: st) (hct : Cs Θ l M2 h2 G2 (vR q :: as) s o2) (hh : h2 ≤ 800) (hL9 : M2.2.2.1 ≤ 60) (hcat : catS st ≤ 8) (hce : ce ≤ 600000) (hsl : sl ≤ 7302249)
    (k : ∀ (r : β) (s1 : Mem), Jl Θ l b L xs NNc RT ce sl n ls ((G2 r).toList ++ st) s1 (g r s1)) : Jl Θ l b L xs NNc RT ce sl pc ls stk s (bnd o2 g) := by
  subst hn; subst hst
  intro ho p e S m below meth cd H locs lr C hS hR hL
  obtain ⟨hq1, hq2, hk⟩ := hO
  cases ho2 : o2 with
  | none => rw [ho2] at ho; obtain ⟨_, h⟩ := ho; cases h
  | some x =>
    obtain ⟨r2, s2⟩ := x
    rw [ho2, bnd_some] at ho
    have hMet := hct r2 s2 ho2
    obtain ⟨hc1, hcl, hin, hty, hnm⟩ := hC
    have hcell := wsN_at (Θ := Θ) (ρ := RT) (s := s) hq1 hq2
    rw [cell_obj hk (by omega)] at hcell
    have h9 : q < 900 := Nat.lt_of_le_of_lt hq2 nn9
    have e1 : (as.reverse ++ vR q :: st).map (cv Θ) = (as.map (cv Θ)).reverse ++ .ref (Θ.2.1 + q) :: st.map (cv Θ) := by
      rw [List.map_append, List.map_reverse, List.map_cons, cv_ref hq1 h9]
    rw [e1]
    have hpre : PreV S H M2.1.cls (Θ.2.1 + q) (Pq Θ NNc RT (vR q :: as) s) (as.map (cv Θ)) := by
      refine ⟨Pq_blind, va_recv (cl_frz C).1 hR.1 hcl hcell, fun U hU hW => ?_⟩
      have z := Pq_at (as := vR q :: as) (cl_frz C) (Nat.le_of_eq (cl_base C)) hS hR hU hW
      rw [List.map_cons, cv_ref hq1 h9] at z
      exact z
    have hcw : CallW room_1 S #[Value.ref b] RL M2.1.cls i M2.1 M2.2.1 M2.2.2.1 M2.2.2.2 (wsOf M2) (rmH h2 0 0) 0 0 as.length := by
      refine cwV as.length (Ts := gtb) C.2.2.2.2.2.1 ?_ rfl rfl rfl ⟨rfl, hM.1.2.2⟩ ⟨?_, ?_⟩
      · intro w hw2
        have hm : w ∈ gtb := by
          unfold wsV at hw2
          rcases List.mem_append.mp hw2 with z | z
          · simp only [List.mem_cons, List.not_mem_nil, or_false] at z
            rcases z with rfl | rfl | rfl | rfl
            · exact hw
            · exact hM.2.1
            · exact hM.2.2
            · exact hM.1.1
          · exact ws_sub hM.1 w z
        exact ⟨hm, good_of_word (lw_good w hm)⟩
      · show h2 + 1 ≤ 2048
        omega
      · show 8 + (M2.2.2.1 + 11) + 100 * h2 ≤ 84000
        omega
    refine call_core (va_runV (g := F0 m pc lr _) ⟨C.1, C.2.1, C.2.2.2.1, C.2.2.2.2.1, C.2.2.2.2.2.1⟩ hMet hcw hpre rfl (by rw [List.length_map]) hL.1 rfl (lv_room (by rw [catS_eq]; exact hcat)) hd ⟨hce, hsl⟩) hS (fun H1 locs1 hS1 hR1 => ?_)
    have k2 := k r2 s2 ho p e S m below meth cd H1 locs1 lr C hS1 hR1 hL
    rw [List.map_append] at k2
    have e2 : (G2 r2).toList.map (cv Θ) = ((G2 r2).map (cv Θ)).toList := by cases G2 r2 <;> rfl
    rw [e2] at k2
    exact k2
theorem l_callVi {M2 : Mi} {h2 : Nat} {q c i : Nat} {Tb : u_T} {ty : Nat → FieldType} {stk : List AV} {o2 : Option (Int32 × Mem)} {g : Int32 → Mem → Option (Int32 × Mem)} (as : List AV) (n : Nat) (hO : OA q c) (hC : Cls c M2.1.cls Tb ty) (hM : MkV M2 as.length) (hw : Cond.methodLink RL i M2.1 ∈ gtb) (hd : decode code pc = .ok (.invokevirtual i, 3)) (hn : pc + 3 = n) (hst : stk = as.reverse ++ vR q :: st) (hct : Cs Θ l M2 h2 gI (vR q :: as) s o2) (hh : h2 ≤ 800) (hL9 : M2.2.2.1 ≤ 60) (hcat : catS st ≤ 8) (k : ∀ (r : Int32) (s1 : Mem), Jl Θ l b L xs NNc RT 98 3224 n ls (vI r :: st) s1 (g r s1)) : Jl Θ l b L xs NNc RT 98 3224 pc ls stk s (bnd o2 g) := l_callV as n hO hC hM hw hd hn hst hct hh hL9 hcat (by decide) (by decide) k
theorem l_callVl {M2 : Mi} {h2 : Nat} {q c i : Nat} {Tb : u_T} {ty : Nat → FieldType} {stk : List AV} {o2 : Option (Int64 × Mem)} {g : Int64 → Mem → Option (Int32 × Mem)} (as : List AV) (n : Nat) (hO : OA q c) (hC : Cls c M2.1.cls Tb ty) (hM : MkV M2 as.length) (hw : Cond.methodLink RL i M2.1 ∈ gtb) (hd : decode code pc = .ok (.invokevirtual i, 3)) (hn : pc + 3 = n) (hst : stk = as.reverse ++ vR q :: st) (hct : Cs Θ l M2 h2 gL (vR q :: as) s o2) (hh : h2 ≤ 800) (hL9 : M2.2.2.1 ≤ 60) (hcat : catS st ≤ 8) (k : ∀ (r : Int64) (s1 : Mem), Jl Θ l b L xs NNc RT 98 3224 n ls (vL r :: st) s1 (g r s1)) : Jl Θ l b L xs NNc RT 98 3224 pc ls stk s (bnd o2 g) := l_callV as n hO hC hM hw hd hn hst hct hh hL9 hcat (by decide) (by decide) k
end JL
