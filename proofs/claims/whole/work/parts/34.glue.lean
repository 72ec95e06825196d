-- the law out of its pure reading: what holds at the entry
theorem in_tbl {w : Cond} (h : w ∈ gtb) : w ∈ lw_tbl := (List.mem_filter.mp h).1
theorem in_tblN {w : Cond} (h : w ∈ nwL) : w ∈ lw_tbl := (List.mem_filter.mp h).1
theorem st_at0 {b : Nat} {s : State} (hts : ∀ w ∈ lw_tbl, w.before #[Value.ref b] s = true) (hgv : (Jvm.Cond.and given_1 narrow_1).before #[Value.ref b] s = true) {A : Nat → Prop} (hA : ∀ a : Nat, a < s.heap.size → ¬ A a) : ∃ t : Nat, va_Z "HeavierSide$Barge" (stN 0) "[I" (.ref t) A s s.heap ∧ va_T .int t 6 (fun j => .int (stc 0 j)) A s s.heap := by
  have hs := flat_of_before _ hgv
  have harr : (Cond.arrayOf (.static "HeavierSide$Barge" "STANDS_FARTHER" "[I") .int).before #[Value.ref b] s = true := hs _ (by decide +kernel)
  have hlen : (Cond.eq (.length (.static "HeavierSide$Barge" "STANDS_FARTHER" "[I")) (.int 6)).before #[Value.ref b] s = true := hs _ (by decide +kernel)
  have e0 : (Cond.eq (.elem (.static "HeavierSide$Barge" "STANDS_FARTHER" "[I") (.int 0)) (.int 0)).before #[Value.ref b] s = true := hs _ (by decide +kernel)
  have e1 : (Cond.eq (.elem (.static "HeavierSide$Barge" "STANDS_FARTHER" "[I") (.int 1)) (.int 1)).before #[Value.ref b] s = true := hs _ (by decide +kernel)
  have e2 : (Cond.eq (.elem (.static "HeavierSide$Barge" "STANDS_FARTHER" "[I") (.int 2)) (.int 0)).before #[Value.ref b] s = true := hs _ (by decide +kernel)
  have e3 : (Cond.eq (.elem (.static "HeavierSide$Barge" "STANDS_FARTHER" "[I") (.int 3)) (.int 0)).before #[Value.ref b] s = true := hs _ (by decide +kernel)
  have e4 : (Cond.eq (.elem (.static "HeavierSide$Barge" "STANDS_FARTHER" "[I") (.int 4)) (.int 2)).before #[Value.ref b] s = true := hs _ (by decide +kernel)
  have e5 : (Cond.eq (.elem (.static "HeavierSide$Barge" "STANDS_FARTHER" "[I") (.int 5)) (.int 0)).before #[Value.ref b] s = true := hs _ (by decide +kernel)
  obtain ⟨t, h1, h2⟩ := va_Tof (N := 6) (f := fun j => .int (stc 0 j)) (by decide) harr (va_eqt hlen) (fun j hj => by
    rcases (show j = 0 ∨ j = 1 ∨ j = 2 ∨ j = 3 ∨ j = 4 ∨ j = 5 by omega) with rfl | rfl | rfl | rfl | rfl | rfl
    · exact va_eqt e0
    · exact va_eqt e1
    · exact va_eqt e2
    · exact va_eqt e3
    · exact va_eqt e4
    · exact va_eqt e5) hA
  exact ⟨t, va_Zref (hts (.laysStatic "HeavierSide$Barge" "STANDS_FARTHER" "[I") (List.mem_of_getElem? (i := 618) (by decide +kernel))) (hts (.initialized "HeavierSide$Barge") (List.mem_of_getElem? (i := 77) (by decide +kernel))) h1 hA, h2⟩
theorem st_at1 {b : Nat} {s : State} (hts : ∀ w ∈ lw_tbl, w.before #[Value.ref b] s = true) (hgv : (Jvm.Cond.and given_1 narrow_1).before #[Value.ref b] s = true) {A : Nat → Prop} (hA : ∀ a : Nat, a < s.heap.size → ¬ A a) : ∃ t : Nat, va_Z "HeavierSide$Barge" (stN 1) "[I" (.ref t) A s s.heap ∧ va_T .int t 6 (fun j => .int (stc 1 j)) A s s.heap := by
  have hs := flat_of_before _ hgv
  have harr : (Cond.arrayOf (.static "HeavierSide$Barge" "KNEELS_NEARER" "[I") .int).before #[Value.ref b] s = true := hs _ (by decide +kernel)
  have hlen : (Cond.eq (.length (.static "HeavierSide$Barge" "KNEELS_NEARER" "[I")) (.int 6)).before #[Value.ref b] s = true := hs _ (by decide +kernel)
  have e0 : (Cond.eq (.elem (.static "HeavierSide$Barge" "KNEELS_NEARER" "[I") (.int 0)) (.int 0)).before #[Value.ref b] s = true := hs _ (by decide +kernel)
  have e1 : (Cond.eq (.elem (.static "HeavierSide$Barge" "KNEELS_NEARER" "[I") (.int 1)) (.int 0)).before #[Value.ref b] s = true := hs _ (by decide +kernel)
  have e2 : (Cond.eq (.elem (.static "HeavierSide$Barge" "KNEELS_NEARER" "[I") (.int 2)) (.int 1)).before #[Value.ref b] s = true := hs _ (by decide +kernel)
  have e3 : (Cond.eq (.elem (.static "HeavierSide$Barge" "KNEELS_NEARER" "[I") (.int 3)) (.int 0)).before #[Value.ref b] s = true := hs _ (by decide +kernel)
  have e4 : (Cond.eq (.elem (.static "HeavierSide$Barge" "KNEELS_NEARER" "[I") (.int 4)) (.int 0)).before #[Value.ref b] s = true := hs _ (by decide +kernel)
  have e5 : (Cond.eq (.elem (.static "HeavierSide$Barge" "KNEELS_NEARER" "[I") (.int 5)) (.int 2)).before #[Value.ref b] s = true := hs _ (by decide +kernel)
  obtain ⟨t, h1, h2⟩ := va_Tof (N := 6) (f := fun j => .int (stc 1 j)) (by decide) harr (va_eqt hlen) (fun j hj => by
    rcases (show j = 0 ∨ j = 1 ∨ j = 2 ∨ j = 3 ∨ j = 4 ∨ j = 5 by omega) with rfl | rfl | rfl | rfl | rfl | rfl
    · exact va_eqt e0
    · exact va_eqt e1
    · exact va_eqt e2
    · exact va_eqt e3
    · exact va_eqt e4
    · exact va_eqt e5) hA
  exact ⟨t, va_Zref (hts (.laysStatic "HeavierSide$Barge" "KNEELS_NEARER" "[I") (List.mem_of_getElem? (i := 623) (by decide +kernel))) (hts (.initialized "HeavierSide$Barge") (List.mem_of_getElem? (i := 77) (by decide +kernel))) h1 hA, h2⟩
theorem st_at2 {b : Nat} {s : State} (hts : ∀ w ∈ lw_tbl, w.before #[Value.ref b] s = true) (hgv : (Jvm.Cond.and given_1 narrow_1).before #[Value.ref b] s = true) {A : Nat → Prop} (hA : ∀ a : Nat, a < s.heap.size → ¬ A a) : ∃ t : Nat, va_Z "HeavierSide$Barge" (stN 2) "[I" (.ref t) A s s.heap ∧ va_T .int t 6 (fun j => .int (stc 2 j)) A s s.heap := by
  have hs := flat_of_before _ hgv
  have harr : (Cond.arrayOf (.static "HeavierSide$Barge" "WEIGHT_TIMES" "[I") .int).before #[Value.ref b] s = true := hs _ (by decide +kernel)
  have hlen : (Cond.eq (.length (.static "HeavierSide$Barge" "WEIGHT_TIMES" "[I")) (.int 6)).before #[Value.ref b] s = true := hs _ (by decide +kernel)
  have e0 : (Cond.eq (.elem (.static "HeavierSide$Barge" "WEIGHT_TIMES" "[I") (.int 0)) (.int 1)).before #[Value.ref b] s = true := hs _ (by decide +kernel)
  have e1 : (Cond.eq (.elem (.static "HeavierSide$Barge" "WEIGHT_TIMES" "[I") (.int 1)) (.int 1)).before #[Value.ref b] s = true := hs _ (by decide +kernel)
  have e2 : (Cond.eq (.elem (.static "HeavierSide$Barge" "WEIGHT_TIMES" "[I") (.int 2)) (.int 2)).before #[Value.ref b] s = true := hs _ (by decide +kernel)
  have e3 : (Cond.eq (.elem (.static "HeavierSide$Barge" "WEIGHT_TIMES" "[I") (.int 3)) (.int 1)).before #[Value.ref b] s = true := hs _ (by decide +kernel)
  have e4 : (Cond.eq (.elem (.static "HeavierSide$Barge" "WEIGHT_TIMES" "[I") (.int 4)) (.int 1)).before #[Value.ref b] s = true := hs _ (by decide +kernel)
  have e5 : (Cond.eq (.elem (.static "HeavierSide$Barge" "WEIGHT_TIMES" "[I") (.int 5)) (.int 2)).before #[Value.ref b] s = true := hs _ (by decide +kernel)
  obtain ⟨t, h1, h2⟩ := va_Tof (N := 6) (f := fun j => .int (stc 2 j)) (by decide) harr (va_eqt hlen) (fun j hj => by
    rcases (show j = 0 ∨ j = 1 ∨ j = 2 ∨ j = 3 ∨ j = 4 ∨ j = 5 by omega) with rfl | rfl | rfl | rfl | rfl | rfl
    · exact va_eqt e0
    · exact va_eqt e1
    · exact va_eqt e2
    · exact va_eqt e3
    · exact va_eqt e4
    · exact va_eqt e5) hA
  exact ⟨t, va_Zref (hts (.laysStatic "HeavierSide$Barge" "WEIGHT_TIMES" "[I") (List.mem_of_getElem? (i := 641) (by decide +kernel))) (hts (.initialized "HeavierSide$Barge") (List.mem_of_getElem? (i := 77) (by decide +kernel))) h1 hA, h2⟩
theorem st_at3 {b : Nat} {s : State} (hts : ∀ w ∈ lw_tbl, w.before #[Value.ref b] s = true) (hgv : (Jvm.Cond.and given_1 narrow_1).before #[Value.ref b] s = true) {A : Nat → Prop} (hA : ∀ a : Nat, a < s.heap.size → ¬ A a) : ∃ t : Nat, va_Z "HeavierSide$Barge" (stN 3) "[I" (.ref t) A s s.heap ∧ va_T .int t 6 (fun j => .int (stc 3 j)) A s s.heap := by
  have hs := flat_of_before _ hgv
  have harr : (Cond.arrayOf (.static "HeavierSide$Barge" "KIND_ABOVE" "[I") .int).before #[Value.ref b] s = true := hs _ (by decide +kernel)
  have hlen : (Cond.eq (.length (.static "HeavierSide$Barge" "KIND_ABOVE" "[I")) (.int 6)).before #[Value.ref b] s = true := hs _ (by decide +kernel)
  have e0 : (Cond.eq (.elem (.static "HeavierSide$Barge" "KIND_ABOVE" "[I") (.int 0)) (.int 0)).before #[Value.ref b] s = true := hs _ (by decide +kernel)
  have e1 : (Cond.eq (.elem (.static "HeavierSide$Barge" "KIND_ABOVE" "[I") (.int 1)) (.int 0)).before #[Value.ref b] s = true := hs _ (by decide +kernel)
  have e2 : (Cond.eq (.elem (.static "HeavierSide$Barge" "KIND_ABOVE" "[I") (.int 2)) (.int 0)).before #[Value.ref b] s = true := hs _ (by decide +kernel)
  have e3 : (Cond.eq (.elem (.static "HeavierSide$Barge" "KIND_ABOVE" "[I") (.int 3)) (.int 0)).before #[Value.ref b] s = true := hs _ (by decide +kernel)
  have e4 : (Cond.eq (.elem (.static "HeavierSide$Barge" "KIND_ABOVE" "[I") (.int 4)) (.int 1)).before #[Value.ref b] s = true := hs _ (by decide +kernel)
  have e5 : (Cond.eq (.elem (.static "HeavierSide$Barge" "KIND_ABOVE" "[I") (.int 5)) (.int 2)).before #[Value.ref b] s = true := hs _ (by decide +kernel)
  obtain ⟨t, h1, h2⟩ := va_Tof (N := 6) (f := fun j => .int (stc 3 j)) (by decide) harr (va_eqt hlen) (fun j hj => by
    rcases (show j = 0 ∨ j = 1 ∨ j = 2 ∨ j = 3 ∨ j = 4 ∨ j = 5 by omega) with rfl | rfl | rfl | rfl | rfl | rfl
    · exact va_eqt e0
    · exact va_eqt e1
    · exact va_eqt e2
    · exact va_eqt e3
    · exact va_eqt e4
    · exact va_eqt e5) hA
  exact ⟨t, va_Zref (hts (.laysStatic "HeavierSide$Barge" "KIND_ABOVE" "[I") (List.mem_of_getElem? (i := 736) (by decide +kernel))) (hts (.initialized "HeavierSide$Barge") (List.mem_of_getElem? (i := 77) (by decide +kernel))) h1 hA, h2⟩
theorem ar_of {ty : FieldType} {args : Array Value} {s : State} (hp : ty = .int ∨ ty = .byte ∨ ty = .boolean) (h : (Cond.arrayClass ty).before args s = true) : ∃ cA : ClassId, ArrOfT s cA ty ∧ va_RA s cA ty := by
  obtain ⟨cA, kA, comp, h1, h2, h3⟩ := Cond.arrayClass_spec h
  refine ⟨cA, fun n z => ⟨fun k h => (by cases h), kA, h2, comp, h3⟩, ?_⟩
  rcases hp with rfl | rfl | rfl <;> exact h1
theorem ar_ofR {C : String} {args : Array Value} {s : State} (h : (Cond.arrayOver (.object C)).before args s = true) : ∃ cA : ClassId, ArrOfT s cA (.object C) ∧ va_RA s cA (.object C) := by
  obtain ⟨comp, cA, kA, h1, h2, h3, h4, h5⟩ := Cond.arrayOver_spec h
  exact ⟨cA, fun n z => ⟨fun k h => (by cases h), kA, h3, comp, h4⟩, kA, comp, h3, h4, h1, h5⟩
set_option maxRecDepth 20000 in
set_option maxHeartbeats 4000000 in
theorem whole_open {p : Program} {e : Env} {s : State} {m : MethodId} {below : List Frame} {meth : Method} {c : Code} (l : Launch) {b L : Nat} {xs : Nat → Int32} (hp : ∃ (k : Nat) (s' : Mem), fL_L18 L xs k 0 sInit = some (1, s')) (C0 : lw_At p s m meth c b L xs) : W p l e room_1 s m #[Value.ref b] below meth c s.heap [] 0 0 (lw_Z below #[Value.ref b] s) (entryFrame m ([Value.ref b] : List Value).toArray 4) := by
  obtain ⟨hx, hb, hr, hml, hown, hts, hX, hbl, hlocks, hgv⟩ := C0
  have hgt : ∀ w ∈ gtb, w.before #[Value.ref b] s = true := fun w hw => hts w (in_tbl hw)
  obtain ⟨c0, i0, hK0⟩ := u_known (C := RX0) (T := TX0) (N := 13) (n := 13) hgt cc0.2.2.1 (hts (.instantiable RX0 13) (List.mem_of_getElem? (i := 131) (by decide +kernel)))
  obtain ⟨c1, i1, hK1⟩ := u_known (C := RX1) (T := TX1) (N := 4) (n := 4) hgt cc1.2.2.1 (hts (.instantiable RX1 4) (List.mem_of_getElem? (i := 224) (by decide +kernel)))
  obtain ⟨c2, i2, hK2⟩ := u_known (C := RX2) (T := TX2) (N := 8) (n := 8) hgt cc2.2.2.1 (hts (.instantiable RX2 8) (List.mem_of_getElem? (i := 339) (by decide +kernel)))
  obtain ⟨c3, i3, hK3⟩ := u_known (C := RX3) (T := TX3) (N := 2) (n := 2) hgt cc3.2.2.1 (hts (.instantiable RX3 2) (List.mem_of_getElem? (i := 244) (by decide +kernel)))
  obtain ⟨c4, i4, hK4⟩ := u_known (C := RX4) (T := TX4) (N := 6) (n := 6) hgt cc4.2.2.1 (hts (.instantiable RX4 6) (List.mem_of_getElem? (i := 314) (by decide +kernel)))
  obtain ⟨c5, i5, hK5⟩ := u_known (C := RX5) (T := TX5) (N := 4) (n := 4) hgt cc5.2.2.1 (hts (.instantiable RX5 4) (List.mem_of_getElem? (i := 137) (by decide +kernel)))
  obtain ⟨c6, i6, hK6⟩ := u_known (C := RX6) (T := TX6) (N := 3) (n := 3) hgt cc6.2.2.1 (hts (.instantiable RX6 3) (List.mem_of_getElem? (i := 207) (by decide +kernel)))
  obtain ⟨c7, i7, hK7⟩ := u_known (C := RX7) (T := TX7) (N := 2) (n := 2) hgt cc7.2.2.1 (hts (.instantiable RX7 2) (List.mem_of_getElem? (i := 372) (by decide +kernel)))
  obtain ⟨c8, i8, hK8⟩ := u_known (C := RX8) (T := TX8) (N := 15) (n := 15) hgt cc8.2.2.1 (hts (.instantiable RX8 15) (List.mem_of_getElem? (i := 258) (by decide +kernel)))
  obtain ⟨c9, i9, hK9⟩ := u_known (C := RX9) (T := TX9) (N := 2) (n := 2) hgt cc9.2.2.1 (hts (.instantiable RX9 2) (List.mem_of_getElem? (i := 387) (by decide +kernel)))
  obtain ⟨c10, i10, hK10⟩ := u_known (C := RX10) (T := TX10) (N := 5) (n := 5) hgt cc10.2.2.1 (hts (.instantiable RX10 5) (List.mem_of_getElem? (i := 100) (by decide +kernel)))
  obtain ⟨c11, i11, hK11⟩ := u_known (C := RX11) (T := TX11) (N := 11) (n := 11) hgt cc11.2.2.1 (hts (.instantiable RX11 11) (List.mem_of_getElem? (i := 92) (by decide +kernel)))
  obtain ⟨c12, i12, hK12⟩ := u_known (C := RX12) (T := TX12) (N := 55) (n := 55) hgt cc12.2.2.1 (hts (.instantiable RX12 55) (List.mem_of_getElem? (i := 1201) (by decide +kernel)))
  obtain ⟨a20, hA20⟩ := ar_of (ty := .int) (by decide) (hts (.arrayClass .int) (List.mem_of_getElem? (i := 125) (by decide +kernel)))
  obtain ⟨a21, hA21⟩ := ar_of (ty := .byte) (by decide) (hts (.arrayClass .byte) (List.mem_of_getElem? (i := 401) (by decide +kernel)))
  obtain ⟨a22, hA22⟩ := ar_of (ty := .boolean) (by decide) (hts (.arrayClass .boolean) (List.mem_of_getElem? (i := 256) (by decide +kernel)))
  have hO23 : (Cond.arrayOver (.object "HeavierSide$Row")).before #[Value.ref b] s = true := hts (.arrayOver (.object "HeavierSide$Row")) (List.mem_of_getElem? (i := 127) (by decide +kernel))
  obtain ⟨a23, hA23⟩ := ar_ofR hO23
  have hO24 : (Cond.arrayOver (.object "HeavierSide$Text")).before #[Value.ref b] s = true := hts (.arrayOver (.object "HeavierSide$Text")) (List.mem_of_getElem? (i := 129) (by decide +kernel))
  obtain ⟨a24, hA24⟩ := ar_ofR hO24
  have hAr : ∀ a : Nat, a < s.heap.size → ¬ (fun q : Nat => s.heap.size - 1 + 1 ≤ q) a := fun a ha h => by
    have h' : s.heap.size - 1 + 1 ≤ a := h
    omega
  obtain ⟨t0, hZ0, hT0⟩ := st_at0 hts hgv hAr
  obtain ⟨t1, hZ1, hT1⟩ := st_at1 hts hgv hAr
  obtain ⟨t2, hZ2, hT2⟩ := st_at2 hts hgv hAr
  obtain ⟨t3, hZ3, hT3⟩ := st_at3 hts hgv hAr
  obtain ⟨dC, dI, hKc⟩ : ∃ (dC : Nat → ClassId) (dI : Nat → Nat → Nat), ∀ (k : Nat) (q : vw_C), vwCl[k]? = some q → u_Kn s q.1 q.2.1 q.2.2 (dC k) (dI k) := by
    refine ⟨fun k => if k = 0 then c0 else if k = 1 then c1 else if k = 2 then c2 else if k = 3 then c3 else if k = 4 then c4 else if k = 5 then c5 else if k = 6 then c6 else if k = 7 then c7 else if k = 8 then c8 else if k = 9 then c9 else if k = 10 then c10 else if k = 11 then c11 else c12, fun k => if k = 0 then i0 else if k = 1 then i1 else if k = 2 then i2 else if k = 3 then i3 else if k = 4 then i4 else if k = 5 then i5 else if k = 6 then i6 else if k = 7 then i7 else if k = 8 then i8 else if k = 9 then i9 else if k = 10 then i10 else if k = 11 then i11 else i12, ?_⟩
    intro k q hq
    match k, hq with
    | 0, hq => cases hq; exact hK0
    | 1, hq => cases hq; exact hK1
    | 2, hq => cases hq; exact hK2
    | 3, hq => cases hq; exact hK3
    | 4, hq => cases hq; exact hK4
    | 5, hq => cases hq; exact hK5
    | 6, hq => cases hq; exact hK6
    | 7, hq => cases hq; exact hK7
    | 8, hq => cases hq; exact hK8
    | 9, hq => cases hq; exact hK9
    | 10, hq => cases hq; exact hK10
    | 11, hq => cases hq; exact hK11
    | 12, hq => cases hq; exact hK12
    | k + 13, hq => simp [vwCl] at hq
  obtain ⟨tb, hb0, hb1, hb2, hb3, hb49⟩ : ∃ tb : Nat → Nat, tb 0 = t0 ∧ tb 1 = t1 ∧ tb 2 = t2 ∧ tb 3 = t3 ∧ tb 49 = b := ⟨fun k => if k = 0 then t0 else if k = 1 then t1 else if k = 2 then t2 else if k = 3 then t3 else b, rfl, rfl, rfl, rfl, rfl⟩
  obtain ⟨cA, g20, g21, g22, g23, g24⟩ : ∃ cA : Nat → ClassId, cA 20 = a20 ∧ cA 21 = a21 ∧ cA 22 = a22 ∧ cA 23 = a23 ∧ cA 24 = a24 := ⟨fun k => if k = 20 then a20 else if k = 21 then a21 else if k = 22 then a22 else if k = 23 then a23 else a24, rfl, rfl, rfl, rfl, rfl⟩
  subst g20; subst g21; subst g22; subst g23; subst g24; subst hb0; subst hb1; subst hb2; subst hb3
  let Θ : Th := ((dC, dI), s.heap.size - 1, tb, cA)
  have hbase : Θ.2.1 + 1 = s.heap.size := by
    show s.heap.size - 1 + 1 = s.heap.size
    omega
  have hK : va_K Θ.1 vwCl (tysT Θ) s := by
    refine ⟨hKc, fun k q hk => ?_⟩
    match k, hk with
    | 0, hk => cases hk; exact hA20
    | 1, hk => cases hk; exact hA21
    | 2, hk => cases hk; exact hA22
    | 3, hk => cases hk; exact hA23
    | 4, hk => cases hk; exact hA24
    | k + 5, hk => simp [tysT] at hk
  have hF : Frz Θ s := by
    refine ⟨hK, fun k hk => ?_, fun w hw => ?_, va_AO.of hO23, va_AO.of hO24⟩
    · rcases (show k = 0 ∨ k = 1 ∨ k = 2 ∨ k = 3 by omega) with rfl | rfl | rfl | rfl
      · exact ⟨hZ0, hT0⟩
      · exact ⟨hZ1, hT1⟩
      · exact ⟨hZ2, hT2⟩
      · exact ⟨hZ3, hT3⟩
    · have h1 := hts w (in_tblN hw)
      obtain ⟨a, i, x, z, rfl⟩ := nw_is hw
      exact va_Nw.of rfl h1
  obtain ⟨k, s', hk⟩ := hp
  have hl := lv_entry ([.ref b]) (n := 4) (Nat.le_of_ble_eq_true rfl)
  rw [lg_entry_eq]
  have hC : Cl Θ b L xs p s m meth c := ⟨hx, hb, hr, hml, hown, hgt, hlocks, hF, hbase, hX, hbl, hb49⟩
  have hR : Rel Θ 0 r00 s00 s.heap := ⟨fun k q h => by simp [wsN] at h, fun _ => by omega⟩
  refine l_start Θ l b L xs k ⟨s', hk⟩ p e s m below meth c s.heap [] _ hC va_S.rf hR (lr_has_sub hl ?_)
  intro q hq
  obtain ⟨v, h1, h2⟩ := prs_of hq
  match hq1 : q.1, h1 with
  | 0, h1 =>
    simp at h1
    subst h1
    obtain ⟨q1, q2⟩ := q
    simp only at hq1 h2
    subst hq1
    rw [h2, cl_scr hC]
    exact List.mem_cons_self
  | 1, h1 => simp at h1
  | 2, h1 => simp at h1
  | 3, h1 => simp at h1
  | k + 4, h1 => simp at h1
