-- the world of numbered cells: reading and writing it
theorem wsN_at {Θ : Th} {N : Nat} {ρ : Rf} {s : Mem} {q : Nat} (h1 : 0 < q) (h2 : q ≤ N) : (wsN Θ N ρ s)[q - 1]? = some (Θ.2.1 + q, cellOf Θ ρ s q) := by
  unfold wsN
  rw [List.getElem?_map, List.getElem?_range (by omega)]
  have e : q - 1 + 1 = q := by omega
  simp only [Option.map_some, e]
theorem wsN_D (Θ : Th) (N : Nat) (ρ : Rf) (s : Mem) : va_D (Ar Θ) (wsN Θ N ρ s) := by
  have key : ∀ (k : Nat) (p : Nat × va_E), (wsN Θ N ρ s)[k]? = some p → p.1 = Θ.2.1 + (k + 1) := by
    intro k p hk
    unfold wsN at hk
    rw [List.getElem?_map] at hk
    by_cases hl : k < N
    · rw [List.getElem?_range hl] at hk
      cases hk
      rfl
    · rw [List.getElem?_eq_none (by simpa using hl)] at hk
      cases hk
  refine ⟨fun i j p q hi hj hpq => ?_, fun k q hk => ?_⟩
  · have h1 := key i p hi
    have h2 := key j q hj
    omega
  · have h1 := key k q hk
    show Θ.2.1 + 1 ≤ q.1
    omega
theorem wsN_get {Θ : Th} {N : Nat} {ρ : Rf} {s : Mem} (k : Nat) : (wsN Θ N ρ s)[k]? = if k < N then some (Θ.2.1 + (k + 1), cellOf Θ ρ s (k + 1)) else none := by
  by_cases hl : k < N
  · rw [if_pos hl]
    exact wsN_at (q := k + 1) (by omega) (by omega)
  · rw [if_neg hl]
    have h1 : (wsN Θ N ρ s).length = N := by unfold wsN; rw [List.length_map, List.length_range]
    exact List.getElem?_eq_none (by omega)
theorem wsN_len {Θ : Th} {N : Nat} {ρ : Rf} {s : Mem} : (wsN Θ N ρ s).length = N := by unfold wsN; rw [List.length_map, List.length_range]
theorem wsN_set {Θ : Th} {N : Nat} {ρ ρ' : Rf} {s s' : Mem} {q : Nat} {e : va_E} (h1 : 0 < q) (h2 : q ≤ N) (he : cellOf Θ ρ' s' q = e) (ho : ∀ a, a ≠ q → cellOf Θ ρ' s' a = cellOf Θ ρ s a) :
    (wsN Θ N ρ s).set (q - 1) (Θ.2.1 + q, e) = wsN Θ N ρ' s' := by
  apply List.ext_getElem?
  intro k
  have hlen : q - 1 < (wsN Θ N ρ s).length := by rw [wsN_len]; omega
  by_cases hk : k = q - 1
  · subst hk
    rw [List.getElem?_set_self hlen]
    have h3 := wsN_at (Θ := Θ) (ρ := ρ') (s := s') h1 h2
    rw [he] at h3
    exact h3.symm
  · rw [List.getElem?_set_ne (fun z => hk z.symm), wsN_get, wsN_get]
    by_cases hl : k < N
    · rw [if_pos hl, if_pos hl]
      have h4 : k + 1 ≠ q := by omega
      rw [ho (k + 1) h4]
    · rw [if_neg hl, if_neg hl]
theorem wsN_push {Θ : Th} {N : Nat} {ρ : Rf} {s : Mem} {a : Nat} {e : va_E} (ha : a = Θ.2.1 + (N + 1)) (he : cellOf Θ ρ s (N + 1) = e) : wsN Θ N ρ s ++ [(a, e)] = wsN Θ (N + 1) ρ s := by
  unfold wsN
  rw [List.range_succ, List.map_append]
  simp [ha, he]
theorem cell_obj {Θ : Th} {ρ : Rf} {s : Mem} {q c : Nat} (hk : kd q = c) (hc : c < 20) : cellOf Θ ρ s q = .inr (c, (List.range (nf c)).map (fcont Θ ρ s q)) := by
  subst hk
  unfold cellOf
  rw [if_pos hc]
theorem cell_int {Θ : Th} {ρ : Rf} {s : Mem} {q c : Nat} (hk : kd q = c) (h1 : 20 ≤ c) (h2 : c < 23) : cellOf Θ ρ s q = .inl (Θ.2.2.2 c, ln q, .inl (s.1 q)) := by
  subst hk
  unfold cellOf
  rw [if_neg (by omega), if_pos h2]
theorem cell_ref {Θ : Th} {ρ : Rf} {s : Mem} {q c : Nat} (hk : kd q = c) (h1 : 23 ≤ c) : cellOf Θ ρ s q = .inl (Θ.2.2.2 c, ln q, .inr (.inr (.inr (.inr (fun k => adO Θ (ρ q k)))))) := by
  subst hk
  unfold cellOf
  rw [if_neg (by omega), if_neg (by omega)]
theorem cell_congr {Θ : Th} {ρ ρ' : Rf} {s s' : Mem} {q : Nat} (h1 : s'.1 q = s.1 q) (h2 : s'.2 q = s.2 q) (h3 : ρ' q = ρ q) : cellOf Θ ρ' s' q = cellOf Θ ρ s q := by
  have e : fcont Θ ρ' s' q = fcont Θ ρ s q := by
    funext j
    unfold fcont
    rw [h1, h2, h3]
  unfold cellOf
  rw [e, h1, h3]
theorem wI_ne {s : Mem} {q j a : Nat} {v : Int32} (h : a ≠ q) : (wI s q j v).1 a = s.1 a := by
  funext b
  simp [wI, h]
theorem wL_ne {s : Mem} {q j a : Nat} {v : Int64} (h : a ≠ q) : (wL s q j v).2 a = s.2 a := by
  funext b
  simp [wL, h]
theorem wF_ne {s : Mem} {q a : Nat} {f : Nat → Int32} (h : a ≠ q) : (wF s q f).1 a = s.1 a := by simp [wF, h]
theorem wR_ne {ρ : Rf} {q j v a : Nat} (h : a ≠ q) : wR ρ q j v a = ρ a := by
  funext b
  simp [wR, h]
theorem wI_eq {s : Mem} {q j : Nat} {v : Int32} : (wI s q j v).1 q = upd (s.1 q) j v := by
  funext b
  simp [wI, upd]
theorem list_set_map {f g : Nat → Value} {n j : Nat} {v : Value} (hv : g j = v) (ho : ∀ b, b ≠ j → g b = f b) : ((List.range n).map f).set j v = (List.range n).map g := by
  apply List.ext_getElem?
  intro k
  by_cases hk : k = j
  · subst hk
    by_cases hl : k < n
    · rw [List.getElem?_set_self (by simpa using hl), List.getElem?_map, List.getElem?_range hl]
      simp [hv]
    · rw [List.getElem?_eq_none (by simpa using hl), List.getElem?_eq_none (by simpa using hl)]
  · rw [List.getElem?_set_ne (fun e => hk e.symm), List.getElem?_map, List.getElem?_map]
    by_cases hl : k < n
    · rw [List.getElem?_range hl]
      simp [ho k hk]
    · rw [List.getElem?_eq_none (by simpa using hl)]
      rfl
theorem adr_lo {Θ : Th} {q : Nat} (h : q < 900) : adr Θ q = Θ.2.1 + q := by rw [adr, if_pos h]
theorem cv_ref {Θ : Th} {q : Nat} (h : 0 < q) (h2 : q < 900) : cv Θ (vR q) = .ref (Θ.2.1 + q) := by
  show va_rf (adO Θ q) = _
  rw [adO, if_neg (by omega), adr_lo h2]
  rfl
/-- what the tables say of class c: its words, types, names apart -/
def Cls (c : Nat) (C : String) (Tb : u_T) (ty : Nat → FieldType) : Prop :=
  c < 13 ∧ vwCl[c]? = some (C, Tb, nf c) ∧ (∀ w ∈ u_ws C Tb (nf c), w ∈ gtb) ∧ (∀ k, k < nf c → parseFieldDescriptor (Tb k).2.2.1 = some (ty k)) ∧ ∀ a, a < nf c → ∀ b, b < nf c → a ≠ b → (Tb a).2.1 ≠ (Tb b).2.1
section JH
variable {α : Type} {Θ : Th} {l : Launch} {M : Mi} {h : Nat} {G : α → Option AV} {T : Tg} {N : Nat} {ρ : Rf} {ce sl pc : Nat} {ls : List (Option AV)} {st : List AV} {s : Mem} {o o1 o2 : Option (α × Mem)}
theorem cx_word {p : Program} {S : State} {m : MethodId} {args : Array Value} {meth : Method} {c : Code} (C : Cx Θ M p S m args meth c) {w : Cond} (hw : w ∈ gtb) : w.before args S = true := C.2.2.2.2.2.1 _ (List.mem_cons_of_mem _ hw)
theorem cx_tbl {p : Program} {S : State} {m : MethodId} {args : Array Value} {meth : Method} {c : Code} (C : Cx Θ M p S m args meth c) : ∀ w ∈ gtb, w.before args S = true := fun _ hw => cx_word C hw
/-- getfield, any type -/
theorem j_get {q c j i : Nat} {CN nm ds : String} {Tb : u_T} {ty : Nat → FieldType} {v : AV} (n : Nat) (hC : Cls c CN Tb ty) (hd : decode M.2.1 pc = .ok (.getfield i, 3)) (hn : pc + 3 = n) (hq1 : 0 < q) (hq2 : q ≤ N) (hN : N < 900) (hk : kd q = c) (hj : j < nf c) (hT : Tb j = (CN, nm, ds, (Tb j).2.2.2)) (hw : Cond.fieldLink M.1.cls i CN nm ds ∈ gtb) (hv : ∀ Θ : Th, fcont Θ ρ s q j = cv Θ v)
    (k : Jg Θ l M h G T N ρ ce sl n ls (v :: st) s o) : Jg Θ l M h G T N ρ ce sl pc ls (vR q :: st) s o := by
  subst hn
  intro r s' ho p e S m args below meth cd H locs lr C hS hR hL
  have k2 := k r s' ho p e S m args below meth cd H locs lr C hS hR hL
  simp only [List.map_cons] at k2 ⊢
  rw [cv_ref hq1 (by omega)]
  obtain ⟨hc1, hcl, hin, hty, hnm⟩ := hC
  have hcell := wsN_at (Θ := Θ) (ρ := ρ) (s := s) hq1 hq2
  rw [cell_obj hk (by omega)] at hcell
  have e1 : (Tb j).1 = CN := by rw [hT]
  have e2 : (Tb j).2.1 = nm := by rw [hT]
  have e3 : (Tb j).2.2.1 = ds := by rw [hT]
  refine va_get (D := Θ.1) (ci := c) (v := cv Θ v) (C := CN) (T := Tb) (N := nf c) (ref := CN) C.1 C.2.1 (cx_tbl C) hin C.2.2.2.2.1 C.2.2.2.2.2.2.2.2.1.1 hR.1 (q - 1) hcell hcl j hj (by rw [e2, e3]; exact cx_word C hw) (by rw [e1]; exact fun _ h9 => h9) ?_ hd k2
  rw [List.getElem?_map, List.getElem?_range hj]
  simp [hv Θ]
end JH
