-- THE INVARIANT between the class's cells (1 .. 67) and the reference's (68 .. 98)
/-- a row's size: missing, or 0 .. 60 -/
def SzOk (x : Int32) : Prop := x = -1 ∨ ∃ n : Nat, n ≤ 60 ∧ x = nI n
/-- where a guest sits: nowhere, or on one of nb benches -/
def StOk (nb : Nat) (x : Int32) : Prop := x = -9 ∨ ∃ b : Nat, b < nb ∧ x = nI b
/-- told -/
def Ga (s : Mem) : Prop := s.1 2 0 = s.1 68 2 ∧ s.2 2 1 = s.2 68 3 ∧ s.2 2 2 = s.2 68 4 ∧ s.1 2 3 = s.1 68 0 ∧ s.1 3 = s.1 69
/-- rows -/
def Gb (s : Mem) : Prop := ∀ r : Nat, r < 6 → s.1 (48 + 2 * r) 0 = s.1 70 r ∧ SzOk (s.1 70 r) ∧ ∀ i n : Nat, s.1 70 r = nI n → i < n → n ≤ 60 → s.1 (49 + 2 * r) i = s.1 71 (60 * r + i)
/-- texts -/
def Gc (s : Mem) : Prop := ∀ t : Nat, t < 4 → s.1 (60 + 2 * t) 0 = s.1 73 t ∧ SzOk (s.1 73 t) ∧ ∀ i n : Nat, s.1 73 t = nI n → i < n → n ≤ 60 → s.1 (61 + 2 * t) i = s.1 74 (60 * t + i)
/-- benches, guests, limit, rain; who sits where -/
def Gd (s : Mem) (nb n : Nat) : Prop := nb ≤ 8 ∧ n ≤ 7 ∧ (0 < n → 0 < nb) ∧ s.1 6 0 = nI nb ∧ s.1 68 10 = nI nb ∧ s.1 6 1 = nI n ∧ s.1 68 12 = nI n ∧ s.1 6 2 = s.1 68 17 ∧ s.1 6 3 = s.1 68 18 ∧
  s.1 11 = s.1 75 ∧ s.1 13 = s.1 76 ∧ s.1 14 = s.1 77 ∧ s.1 15 = s.1 78 ∧ s.1 16 = s.1 79 ∧
  (∃ z : Nat, z ≤ 999 ∧ s.1 68 17 = nI z) ∧ (-200 ≤ (s.1 68 18).toInt ∧ (s.1 68 18).toInt ≤ 200) ∧
  (∀ b, b < nb → -9 ≤ (s.1 75 b).toInt ∧ (s.1 75 b).toInt ≤ 9) ∧ (∀ g, g < n → ∃ k : Nat, k < 6 ∧ s.1 76 g = nI k) ∧ (∀ g, g < n → ∃ w : Nat, 1 ≤ w ∧ w ≤ 9 ∧ s.1 77 g = nI w) ∧ (∀ g, g < n → s.1 78 g = 0 ∨ s.1 78 g = 1) ∧ ∀ g, g < n → StOk nb (s.1 79 g)
/-- what a guest weighs -/
def wgh (kd wt : Nat → Int32) (g : Nat) : Int32 := if kd g = 2 ∨ kd g = 5 then 2 * wt g else wt g
/-- how far out a guest of a kind counts at x in a posture -/
def out3 (kd x : Int32) (p : Nat) : Int32 :=
  if x = 0 then 0 else
  let f := if x < 0 then 0 - x else x
  if p = 1 then f + (if kd = 1 then 1 else if kd = 4 then 2 else 0)
  else if p = 2 then (let d := f - (if kd = 2 then 1 else if kd = 5 then 2 else 0); if 0 < d then d else 0)
  else f
def mom (xs kd wt : Nat → Int32) (g b p : Nat) : Int32 := (if xs b < 0 then -1 else 1) * out3 (kd g) (xs b) p * wgh kd wt g
/-- the tables that the class keeps beside -/
def Ge (s : Mem) (nb n : Nat) : Prop := (∀ b, b < nb → s.1 12 b = nI (msk (fun g => decide (s.1 79 g = nI b)) n)) ∧ (∀ g, g < n → ∀ b, b < nb → ∀ p, p < 3 → s.1 17 ((g * 8 + b) * 3 + p) = mom (s.1 75) (s.1 76) (s.1 77) g b p) ∧ s.1 6 12 = nI (msk (fun g => decide (s.1 76 g ≠ 3)) n)
/-- quarrels -/
def Gf (s : Mem) (n nq : Nat) : Prop := nq ≤ 8 ∧ s.1 7 0 = nI nq ∧ s.1 68 29 = nI nq ∧ s.1 8 = s.1 85 ∧ s.1 9 = s.1 86 ∧ (∀ q, q < nq → ∃ g h : Nat, g < n ∧ h < n ∧ g ≠ h ∧ s.1 85 q = nI g ∧ s.1 86 q = nI h) ∧
  ∀ g, g < 7 → s.1 10 g = nI (msk (fun h => decide (∃ q, q < nq ∧ ((s.1 85 q = nI g ∧ s.1 86 q = nI h) ∨ (s.1 85 q = nI h ∧ s.1 86 q = nI g)))) 7)
/-- the rite -/
def Gg (s : Mem) (nm : Nat) : Prop := 1 ≤ nm ∧ nm ≤ 40 ∧ s.1 18 0 = nI nm ∧ s.1 68 19 = nI nm ∧ s.1 19 = s.1 80 ∧ (∀ m, m < nm → ∃ p : Nat, p < 3 ∧ s.1 80 m = nI p) ∧ s.1 18 2 = nI (msk (fun p => decide (∃ m, m < nm ∧ s.1 80 m = nI p)) 3)
/-- the seating behind deed j of nd: the next snapshot, or as it is now -/
def nxt (s : Mem) (nd j g : Nat) : Int32 := if j + 1 < nd then s.1 87 (8 * (j + 1) + g) else s.1 79 g
/-- the seating ahead of a deed, out of that behind it -/
def und (sort g0 o : Int32) (f : Nat → Int32) (g : Nat) : Int32 := if sort = 2 then (if nI g = g0 then f (ix o) else if nI g = o then f (ix g0) else f g) else (if nI g = g0 then o else f g)
/-- deeds -/
def Gh (s : Mem) (nb n nd : Nat) : Prop := nd ≤ 60 ∧ s.1 20 0 = nI nd ∧ s.1 68 32 = nI nd ∧
  ∀ j, j < nd → s.1 21 j = s.1 87 (8 * j + 7) ∧ (∃ k : Nat, k < 3 ∧ s.1 21 j = nI k) ∧ (∃ g : Nat, g < n ∧ s.1 22 j = nI g) ∧
    (s.1 21 j = 2 → ∃ h : Nat, h < n ∧ s.1 23 j = nI h ∧ s.1 23 j ≠ s.1 22 j) ∧ (s.1 21 j ≠ 2 → StOk nb (s.1 23 j)) ∧
    (∀ g, g < 7 → s.1 87 (8 * j + g) = und (s.1 21 j) (s.1 22 j) (s.1 23 j) (nxt s nd j) g) ∧ (∀ g, g < n → StOk nb (s.1 87 (8 * j + g)))
/-- kept barges -/
def Gi (s : Mem) (nb n : Nat) : Prop := ∀ k : Nat, k < 3 → s.1 25 k = s.1 88 k ∧ (s.1 88 k = 0 ∨ s.1 88 k = 1) ∧ (s.1 88 k = 1 → (∀ g, g < n → s.1 26 (7 * k + g) = s.1 89 (7 * k + g) ∧ StOk nb (s.1 89 (7 * k + g))) ∧ ∀ g, n ≤ g → g < 7 → s.1 89 (7 * k + g) = s.1 79 g)
/-- what the class's own rows keep between calls -/
def Gj (s : Mem) : Prop := (∀ b, b < 8 → s.1 45 b = 0) ∧ s.1 33 0 = 0 ∧ s.1 33 9 = 0
def Inv (s : Mem) : Prop := ∃ nb n nq nm nd : Nat, Ga s ∧ Gb s ∧ Gc s ∧ Gd s nb n ∧ Ge s nb n ∧ Gf s n nq ∧ Gg s nm ∧ Gh s nb n nd ∧ Gi s nb n ∧ Gj s
/-- both answer alike, and the invariant holds behind them -/
def Alike {α : Type} (f g : Mem → Option (α × Mem)) : Prop := ∀ s, Inv s → ∃ (r : α) (s1 s2 : Mem), f s = some (r, s1) ∧ g s1 = some (r, s2) ∧ Inv s2
