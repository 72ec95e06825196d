-- THE FRAME: a judgement Jg over an abstract machine whose cells are numbered, whose ints lie in one store; each row of it is proved once over the kit's rows
def gtb : List Cond := lw_tbl.filter goodWord
def isNst : Cond → Bool
  | .methodLinkNest .. => true
  | _ => false
def nwL : List Cond := lw_tbl.filter isNst
theorem mem_g {w : Cond} (i : Nat) (h : lw_tbl[i]? = some w) (hg : goodWord w = true) : w ∈ gtb := List.mem_filter.mpr ⟨List.mem_of_getElem? h, hg⟩
theorem mem_n {w : Cond} (i : Nat) (h : lw_tbl[i]? = some w) (hg : isNst w = true) : w ∈ nwL := List.mem_filter.mpr ⟨List.mem_of_getElem? h, hg⟩
abbrev AV : Type := Int32 ⊕ Int64 ⊕ Nat
abbrev vI (x : Int32) : AV := .inl x
abbrev vL (x : Int64) : AV := .inr (.inl x)
abbrev vR (q : Nat) : AV := .inr (.inr q)
/-- the ints, and the longs, by cell and place -/
abbrev Mem : Type := (Nat → Nat → Int32) × (Nat → Nat → Int64)
abbrev Rf : Type := Nat → Nat → Nat
/-- classes and slots, the base address, the static rows' addresses, the array classes -/
abbrev Th : Type := va_G × Nat × (Nat → Nat) × (Nat → ClassId)
abbrev Mi : Type := MethodName × ByteArray × Nat × Option FieldType
def adr (Θ : Th) (q : Nat) : Nat := if q < 900 then Θ.2.1 + q else Θ.2.2.1 (q - 901)
def adO (Θ : Th) (q : Nat) : Option Nat := if q = 0 then none else some (adr Θ q)
def cv (Θ : Th) : AV → Value
  | .inl x => .int x
  | .inr (.inl x) => .long x
  | .inr (.inr q) => va_rf (adO Θ q)
def wI (s : Mem) (q j : Nat) (v : Int32) : Mem := (fun a b => if a = q then (if b = j then v else s.1 a b) else s.1 a b, s.2)
def wL (s : Mem) (q j : Nat) (v : Int64) : Mem := (s.1, fun a b => if a = q then (if b = j then v else s.2 a b) else s.2 a b)
/-- a whole row of a cell anew -/
def wF (s : Mem) (q : Nat) (f : Nat → Int32) : Mem := (fun a => if a = q then f else s.1 a, s.2)
def wR (ρ : Rf) (q j v : Nat) : Rf := fun a b => if a = q then (if b = j then v else ρ a b) else ρ a b
def ix (i : Int32) : Nat := i.toNatClampNeg
def inb (i : Int32) (n : Nat) : Bool := decide (0 ≤ i) && decide (i.toNatClampNeg < n)
def bnd {α β : Type} (o : Option (α × Mem)) (k : α → Mem → Option (β × Mem)) : Option (β × Mem) := match o with
  | none => none
  | some (a, s) => k a s
theorem bnd_some {α β : Type} (a : α) (s : Mem) (k : α → Mem → Option (β × Mem)) : bnd (some (a, s)) k = k a s := rfl
theorem bnd_none {α β : Type} (k : α → Mem → Option (β × Mem)) : bnd (none : Option (α × Mem)) k = none := rfl
def fcont (Θ : Th) (ρ : Rf) (s : Mem) (q j : Nat) : Value := if fk (kd q) j = 0 then .int (s.1 q j) else if fk (kd q) j = 1 then .long (s.2 q j) else va_rf (adO Θ (ρ q j))
def cellOf (Θ : Th) (ρ : Rf) (s : Mem) (q : Nat) : va_E :=
  if kd q < 20 then .inr (kd q, (List.range (nf (kd q))).map (fcont Θ ρ s q))
  else if kd q < 23 then .inl (Θ.2.2.2 (kd q), ln q, .inl (s.1 q))
  else .inl (Θ.2.2.2 (kd q), ln q, .inr (.inr (.inr (.inr (fun k => adO Θ (ρ q k))))))
def wsN (Θ : Th) (N : Nat) (ρ : Rf) (s : Mem) : va_W := (List.range N).map (fun i => (Θ.2.1 + (i + 1), cellOf Θ ρ s (i + 1)))
def tysT (Θ : Th) : List (ClassId × FieldType) := [(Θ.2.2.2 20, .int), (Θ.2.2.2 21, .byte), (Θ.2.2.2 22, .boolean), (Θ.2.2.2 23, .object "HeavierSide$Row"), (Θ.2.2.2 24, .object "HeavierSide$Text")]
def Ar (Θ : Th) : Nat → Prop := fun q => Θ.2.1 + 1 ≤ q
def Rel (Θ : Th) (N : Nat) (ρ : Rf) (s : Mem) (H : Heap) : Prop := va_P Θ.1 vwCl (wsN Θ N ρ s) H ∧ (N < NNc → H.size = Θ.2.1 + 1 + N)
def Frz (Θ : Th) (U : State) : Prop := va_K Θ.1 vwCl (tysT Θ) U ∧ (∀ k, k < 4 → va_Z "HeavierSide$Barge" (stN k) "[I" (.ref (Θ.2.2.1 k)) (Ar Θ) U U.heap ∧ va_T .int (Θ.2.2.1 k) 6 (fun j => .int (stc k j)) (Ar Θ) U U.heap) ∧ (∀ w ∈ nwL, va_Nw w U) ∧ va_AO "HeavierSide$Row" U ∧ va_AO "HeavierSide$Text" U
def wsOf (M : Mi) : List Cond := .code M.1 M.2.1 M.2.2.1 M.2.2.2 :: gtb
def rmH (h mc ms : Nat) : Room := { frames := h, cells := mc, slots := ms, locals := 100 * h }
abbrev Tg : Type := Nat × Rf × Nat × Nat
/-- behind a method: its answer, the store, what isn't the system's is as it was -/
def Qo {α : Type} (Θ : Th) (G : α → Option AV) (T : Tg) (r : α) (s' : Mem) : Array Value → State → Outcome → State → Prop := fun _ st o t => o = .returned ((G r).map (cv Θ)) ∧ Rel Θ T.1 T.2.1 s' t.heap ∧ va_F (Ar Θ) st t
def Pq (Θ : Th) (N : Nat) (ρ : Rf) (as : List AV) (s : Mem) : Array Value → State → Prop := fun v U => v = (as.map (cv Θ)).toArray ∧ Frz Θ U ∧ Rel Θ N ρ s U.heap ∧ Θ.2.1 + 1 ≤ U.heap.size
/-- a method's contract: where the pure reading o answers, the method does so -/
def Ct {α : Type} (Θ : Th) (l : Launch) (M : Mi) (h : Nat) (G : α → Option AV) (T : Tg) (N : Nat) (ρ : Rf) (as : List AV) (s : Mem) (o : Option (α × Mem)) : Prop :=
  ∀ (r : α) (s' : Mem), o = some (r, s') → Met l M.1 (wsOf M) (rmH h T.2.2.1 T.2.2.2) (Pq Θ N ρ as s) (Qo Θ G T r s') T.2.2.1 T.2.2.2 (Ar Θ)
def prs (Θ : Th) (ls : List (Option AV)) : List (Nat × Value) := (List.range ls.length).filterMap (fun i => match ls[i]? with
  | some (some v) => some (i, cv Θ v)
  | _ => none)
def Cx (Θ : Th) (M : Mi) (p : Program) (S : State) (m : MethodId) (args : Array Value) (meth : Method) (c : Code) : Prop :=
  p.tables.exec = Jvm.exec ∧ c.code = M.2.1 ∧ meth.sig.returnType = M.2.2.2 ∧ c.maxLocals = M.2.2.1 ∧ S.vm.findClass M.1.cls = some m.cls ∧ (∀ w ∈ wsOf M, w.before args S = true) ∧ meth.locks = false ∧ meth.name = M.1.name ∧ Frz Θ S ∧ Θ.2.1 + 1 ≤ S.heap.size
/-- THE JUDGEMENT: the machine at pc with locals ls, stack st, store s comes to the method's end with the answer o, if o answers -/
def Jg {α : Type} (Θ : Th) (l : Launch) (M : Mi) (h : Nat) (G : α → Option AV) (T : Tg) (N : Nat) (ρ : Rf) (ce sl pc : Nat) (ls : List (Option AV)) (st : List AV) (s : Mem) (o : Option (α × Mem)) : Prop :=
  ∀ (r : α) (s' : Mem), o = some (r, s') → ∀ (p : Program) (e : Env) (S : State) (m : MethodId) (args : Array Value) (below : List Frame) (meth : Method) (c : Code) (H : Heap) (locs : List Loc) (lr : Array Slot),
    Cx Θ M p S m args meth c → va_S (Ar Θ) S.heap H locs → Rel Θ N ρ s H → lv_has lr M.2.2.1 (prs Θ ls) →
    W p l e (rmH h T.2.2.1 T.2.2.2) S m args below meth c H locs ce sl (MQ below (Qo Θ G T r s') args S T.2.2.1 T.2.2.2 (Ar Θ)) (F0 m pc lr (st.map (cv Θ)))
-- ===== locals =====
theorem prs_mem {Θ : Th} {ls : List (Option AV)} {i : Nat} {v : AV} (h : ls[i]? = some (some v)) : (i, cv Θ v) ∈ prs Θ ls := by
  refine List.mem_filterMap.mpr ⟨i, List.mem_range.mpr (List.getElem?_eq_some_iff.mp h).1, ?_⟩
  simp only [h]
theorem prs_of {Θ : Th} {ls : List (Option AV)} {q : Nat × Value} (h : q ∈ prs Θ ls) : ∃ v : AV, ls[q.1]? = some (some v) ∧ q.2 = cv Θ v := by
  obtain ⟨i, -, hi⟩ := List.mem_filterMap.mp h
  split at hi
  · next v hv =>
    cases hi
    exact ⟨v, hv, rfl⟩
  · cases hi
theorem lr_at {Θ : Th} {lr : Array Slot} {nL : Nat} {ls : List (Option AV)} (h : lv_has lr nL (prs Θ ls)) {i : Nat} {v : AV} (hi : ls[i]? = some (some v)) : lr[i]? = some (.val (cv Θ v)) := h.2.2 _ (prs_mem hi)
def subL : List (Option AV) → List (Option AV) → Prop
  | [], _ => True
  | none :: a, _ :: b => subL a b
  | some v :: a, x :: b => x = some v ∧ subL a b
  | none :: a, [] => subL a []
  | some _ :: _, [] => False
theorem subL_at : ∀ {a b : List (Option AV)}, subL a b → ∀ {i : Nat} {v : AV}, a[i]? = some (some v) → b[i]? = some (some v)
  | [], _, _, i, v, h => by simp at h
  | none :: a, x :: b, hs, 0, v, h => by simp at h
  | none :: a, x :: b, hs, i + 1, v, h => by
    rw [List.getElem?_cons_succ] at h ⊢
    exact subL_at (a := a) (b := b) hs h
  | some w :: a, x :: b, hs, 0, v, h => by
    rw [List.getElem?_cons_zero] at h ⊢
    rw [hs.1]
    exact h
  | some w :: a, x :: b, hs, i + 1, v, h => by
    rw [List.getElem?_cons_succ] at h ⊢
    exact subL_at (a := a) (b := b) hs.2 h
  | none :: a, [], hs, 0, v, h => by simp at h
  | none :: a, [], hs, i + 1, v, h => by
    rw [List.getElem?_cons_succ] at h
    have := subL_at (a := a) (b := []) hs h
    simp at this
theorem lr_sub {Θ : Th} {lr : Array Slot} {nL : Nat} {ls ls' : List (Option AV)} (h : lv_has lr nL (prs Θ ls)) (hs : subL ls' ls) : lv_has lr nL (prs Θ ls') := by
  refine ⟨h.1, h.2.1, fun q hq => ?_⟩
  obtain ⟨v, h1, h2⟩ := prs_of hq
  rw [h2]
  exact lr_at h (subL_at hs h1)
def isLg : AV → Bool
  | .inr (.inl _) => true
  | _ => false
theorem va_rf_cat (r : Option Nat) : (va_rf r).category = 1 := by cases r <;> rfl
theorem cv_cat (Θ : Th) (v : AV) : (cv Θ v).category = if isLg v then 2 else 1 := by
  rcases v with x | x | q
  · rfl
  · rfl
  · simp [cv, isLg, va_rf_cat]
/-- no long stands just ahead of place i -/
def okS (ls : List (Option AV)) (i : Nat) : Bool := match i with
  | 0 => true
  | j + 1 => match ls[j]? with
    | some (some v) => !(isLg v)
    | _ => true
theorem prs_set1 {Θ : Th} {ls : List (Option AV)} {i : Nat} {v : AV} (hok : okS ls i = true) {q : Nat × Value} (hq : q ∈ prs Θ (ls.set i (some v))) :
    q ∈ (i, cv Θ v) :: (prs Θ ls).filter (fun q => !(q.1 == i) && !(q.1 + 1 == i && q.2.category == 2)) := by
  obtain ⟨w, h1, h2⟩ := prs_of hq
  by_cases hi : q.1 = i
  · rw [hi] at h1
    have hl : i < ls.length := by
      have := (List.getElem?_eq_some_iff.mp h1).1
      simpa using this
    rw [List.getElem?_set_self hl] at h1
    cases h1
    obtain ⟨a, b⟩ := q
    simp only at hi h2
    subst hi; subst h2
    exact List.mem_cons_self
  · rw [List.getElem?_set_ne (fun e => hi e.symm)] at h1
    refine List.mem_cons_of_mem _ (List.mem_filter.mpr ⟨?_, ?_⟩)
    · obtain ⟨a, b⟩ := q
      simp only at h1 h2
      subst h2
      exact prs_mem h1
    · have e1 : (q.1 == i) = false := by simp [hi]
      simp only [e1, Bool.not_false, Bool.true_and]
      cases hc : (q.1 + 1 == i && q.2.category == 2) with
      | false => rfl
      | true =>
        simp only [Bool.and_eq_true, beq_iff_eq] at hc
        obtain ⟨e2, e3⟩ := hc
        subst e2
        simp only [okS, h1] at hok
        rw [h2, cv_cat] at e3
        cases hw : isLg w with
        | false => rw [hw] at e3; simp at e3
        | true => rw [hw] at hok; simp at hok
theorem lr_has_sub {lr : Array Slot} {nL : Nat} {l l' : List (Nat × Value)} (h : lv_has lr nL l) (hs : ∀ q ∈ l', q ∈ l) : lv_has lr nL l' := ⟨h.1, h.2.1, fun q hq => h.2.2 q (hs q hq)⟩
theorem lr_store1 {Θ : Th} {ls : List (Option AV)} {i nL : Nat} {v : AV} {lr : Array Slot} (hok : okS ls i = true)
    (h : lv_has lr nL ((i, cv Θ v) :: (prs Θ ls).filter (fun q => !(q.1 == i) && !(q.1 + 1 == i && q.2.category == 2)))) : lv_has lr nL (prs Θ (ls.set i (some v))) := lr_has_sub h (fun q hq => prs_set1 hok hq)
