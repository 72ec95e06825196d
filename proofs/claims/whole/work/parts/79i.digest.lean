-- digest
def hs (v : Nat → Int64) (h : Int64) : Nat → Int64
  | 0 => h
  | j + 1 => 31 * hs v h j + v j
def hob (G : Nat → Int64 → Int64) (h : Int64) : Nat → Int64
  | 0 => h
  | j + 1 => G j (hob G h j)
theorem wL_ov (s : Mem) (q j : Nat) (u v : Int64) : wL (wL s q j u) q j v = wL s q j v := by
  unfold wL
  congr 1
  funext a b
  by_cases h : a = q
  · by_cases h2 : b = j
    · simp [h, h2]
    · simp [h, h2]
  · simp [h]
theorem mix_ok (s : Mem) (h a : Int64) : fX12_mix a (wL s 68 54 h) = some ((), wL s 68 54 (31 * h + a)) := by
  unfold fX12_mix
  rw [wL_ov]
  rfl
section DIG
variable {s : Mem} {nb n nq nm' nd : Nat}
def cval (s : Mem) (nb n nq nm' nd z : Nat) : Int32 := if z = 0 then nI nb else if z = 1 then nI n else if z = 2 then nI (cntN (std s) n) else if z = 3 then nI nm' else if z = 4 then nI (cntN (c4 s 4) n) else if z = 5 then nI (cntN (c4 s 5) n) else if z = 6 then nI (cntN (c6 s 6 6 70) 6) else if z = 7 then nI (cntN (c6 s 7 7 73) 4) else if z = 8 then nI nq else nI nd
theorem count_both (gb : Gb s) (gc : Gc s) (gd : Gd s nb n) (ge : Ge s nb n) (gf : Gf s n nq) (gg : Gg s nm') (gh : Gh s nb n nd) {z : Nat} (hz : z ≤ 9) : fX11_countOf (nI z) s = some (cval s nb n nq nm' nd z, s) ∧ fX12_counted (nI z) s = some (cval s nb n nq nm' nd z, s) := by
  have h7 := gd.ln
  have key : ∃ v, fX11_countOf (nI z) s = some (v, s) ∧ fX12_counted (nI z) s = some (v, s) ∧ v = cval s nb n nq nm' nd z := by
    unfold fX11_countOf fX12_counted
    rw [cL4 gd.g68 h7 hz, cL78 hz, cL115 hz]
    have hz10 : z = 0 ∨ z = 1 ∨ z = 2 ∨ z = 3 ∨ z = 4 ∨ z = 5 ∨ z = 6 ∨ z = 7 ∨ z = 8 ∨ z = 9 := by omega
    rcases hz10 with rfl | rfl | rfl | rfl | rfl | rfl | rfl | rfl | rfl | rfl
    · exact ⟨nI nb, by rw [if_pos (by decide), gd.b6], by rw [if_pos (by decide), gd.b68], rfl⟩
    · exact ⟨nI n, by rw [if_neg (by decide), if_pos (by decide), gd.g6], by rw [if_neg (by decide), if_pos (by decide), gd.g68], rfl⟩
    · exact ⟨nI (cntN (std s) n), by rw [if_neg (by decide), if_neg (by decide), if_pos (by decide), seatedCount_ok gd ge, bnd_some], by rw [if_neg (by decide), if_neg (by decide), if_pos (by decide), seatedMany_ok gd.g68 h7, bnd_some], rfl⟩
    · exact ⟨nI nm', by rw [if_neg (by decide), if_neg (by decide), if_neg (by decide), if_pos (by decide), gg.2.2.1], by rw [if_neg (by decide), if_neg (by decide), if_neg (by decide), if_pos (by decide), gg.2.2.2.1], rfl⟩
    · have e := howMany_ok gd (z := 1) (Or.inl rfl)
      refine ⟨nI (cntN (c4 s 4) n), ?_, ?_, rfl⟩
      · rw [if_neg (by decide), if_neg (by decide), if_neg (by decide), if_neg (by decide), if_pos (by decide), show (1 : Int32) = nI 1 from rfl, e, bnd_some]
      · rw [c6_no (by decide), c6_no (by decide), if_neg (by decide), if_neg (by decide), if_neg (by decide), if_neg (by decide), if_pos (by decide)]
        rfl
    · have e := howMany_ok gd (z := 2) (Or.inr rfl)
      refine ⟨nI (cntN (c4 s 5) n), ?_, ?_, rfl⟩
      · rw [if_neg (by decide), if_neg (by decide), if_neg (by decide), if_neg (by decide), if_neg (by decide), if_pos (by decide), show (2 : Int32) = nI 2 from rfl, e, bnd_some]
      · rw [c6_no (by decide), c6_no (by decide), if_neg (by decide), if_neg (by decide), if_neg (by decide), if_neg (by decide), if_neg (by decide), if_pos (by decide)]
        rfl
    · refine ⟨nI (cntN (c6 s 6 6 70) 6), ?_, ?_, rfl⟩
      · rw [if_neg (by decide), if_neg (by decide), if_neg (by decide), if_neg (by decide), if_neg (by decide), if_neg (by decide), if_pos (by decide), rowsThere_ok gb, bnd_some]
      · rw [c4_no (by decide) (by decide), c6_no (z := 6) (y := 7) (by decide), if_neg (by decide), if_neg (by decide), if_neg (by decide), if_neg (by decide), if_neg (by decide), if_neg (by decide), if_pos (by decide), Nat.zero_add]
        rfl
    · refine ⟨nI (cntN (c6 s 7 7 73) 4), ?_, ?_, rfl⟩
      · rw [if_neg (by decide), if_neg (by decide), if_neg (by decide), if_neg (by decide), if_neg (by decide), if_neg (by decide), if_neg (by decide), if_pos (by decide), textsThere_ok gc, bnd_some]
      · rw [c4_no (by decide) (by decide), c6_no (z := 7) (y := 6) (by decide), if_neg (by decide), if_neg (by decide), if_neg (by decide), if_neg (by decide), if_neg (by decide), if_neg (by decide), if_neg (by decide), if_pos (by decide), Nat.zero_add]
    · exact ⟨nI nq, by rw [if_neg (by decide), if_neg (by decide), if_neg (by decide), if_neg (by decide), if_neg (by decide), if_neg (by decide), if_neg (by decide), if_neg (by decide), if_pos (by decide), gf.2.1], by rw [if_neg (by decide), if_neg (by decide), if_neg (by decide), if_neg (by decide), if_neg (by decide), if_neg (by decide), if_neg (by decide), if_neg (by decide), if_pos (by decide), gf.2.2.1], rfl⟩
    · exact ⟨nI nd, by rw [if_neg (by decide), if_neg (by decide), if_neg (by decide), if_neg (by decide), if_neg (by decide), if_neg (by decide), if_neg (by decide), if_neg (by decide), if_neg (by decide), gh.2.1], by rw [if_neg (by decide), if_neg (by decide), if_neg (by decide), if_neg (by decide), if_neg (by decide), if_neg (by decide), if_neg (by decide), if_neg (by decide), if_neg (by decide), if_pos (by decide), gh.2.2.1], rfl⟩
  obtain ⟨v, e1, e2, rfl⟩ := key
  exact ⟨e1, e2⟩
theorem dC6 {V : Nat → Int64} (hV : ∀ z, z < 10 → ∃ r, fX11_countOf (nI z) s = some (r, s) ∧ r.toInt64 = V z) (κ : Int64 → Mem → Option (Int64 × Mem)) : fX11_digest_L6 κ FU 17 0 s = κ (hs V 17 10) s := by
  have key := lp0 (fun k j => fX11_digest_L6 κ k (hs V 17 j) (nI j) s) (κ (hs V 17 10) s) 10 ?_ ?_ (by omega)
  · exact key
  · intro j k hj
    show fX11_digest_L6 κ (k + 1) _ (nI j) s = fX11_digest_L6 κ k _ (nI (j + 1)) s
    obtain ⟨r, e, er⟩ := hV j hj
    rw [fX11_digest_L6, if_pos ((lt_num (b := 10) (by omega) (by decide)).mpr hj), e, bnd_some, nm_eq, nI_1, hs, er]
  · intro k
    show fX11_digest_L6 κ (k + 1) _ (nI 10) s = _
    rw [fX11_digest_L6, if_neg (by decide)]
theorem dR9 {V : Nat → Int64} (hV : ∀ z, z < 10 → ∃ r : Int32, (∀ h, fX12_counted (nI z) (wL s 68 54 h) = some (r, wL s 68 54 h)) ∧ r.toInt64 = V z) (κ : Mem → Option (Int64 × Mem)) : fX12_digest_L9 κ FU 0 (wL s 68 54 17) = κ (wL s 68 54 (hs V 17 10)) := by
  have key := lp0 (fun k j => fX12_digest_L9 κ k (nI j) (wL s 68 54 (hs V 17 j))) (κ (wL s 68 54 (hs V 17 10))) 10 ?_ ?_ (by omega)
  · exact key
  · intro j k hj
    show fX12_digest_L9 κ (k + 1) (nI j) _ = fX12_digest_L9 κ k (nI (j + 1)) _
    obtain ⟨r, e, er⟩ := hV j hj
    rw [fX12_digest_L9, if_pos ((lt_num (b := 10) (by omega) (by decide)).mpr hj), e, bnd_some, mix_ok, bnd_some, nI_1, hs, er]
  · intro k
    show fX12_digest_L9 κ (k + 1) (nI 10) _ = _
    rw [fX12_digest_L9, if_neg (by decide)]
/-- benches, then guests -/
def hB (s : Mem) (n b : Nat) (h : Int64) : Int64 := hs (fun z => (bv s n b z).toInt64) h 4
def hG (s : Mem) (g : Nat) (h : Int64) : Int64 := hs (fun z => (gv s g z).toInt64) h 5
theorem dCB (gd : Gd s nb n) (ge : Ge s nb n) (h0 : Int64) (κ : Int64 → Mem → Option (Int64 × Mem)) : fX11_withBarge_L5 κ FU h0 0 s = κ (hob (hB s n) h0 nb) s := by
  have h8 := gd.lb
  have key := lp0 (fun k j => fX11_withBarge_L5 κ k (hob (hB s n) h0 j) (nI j) s) (κ (hob (hB s n) h0 nb) s) nb ?_ ?_ (by omega)
  · exact key
  · intro b k hb
    show fX11_withBarge_L5 κ (k + 1) _ (nI b) s = fX11_withBarge_L5 κ k _ (nI (b + 1)) s
    rw [fX11_withBarge_L5, gd.b6, if_pos (nI_lt hb (by omega)), nI_1, hob]
    have key2 := lp0 (fun k' z => fX11_withBarge_L20 (fun v6 s7 => fX11_withBarge_L5 κ k v6 (nI (b + 1)) s7) (nI b) k' (hs (fun z => (bv s n b z).toInt64) (hob (hB s n) h0 b) z) (nI z) s) (fX11_withBarge_L5 κ k (hB s n b (hob (hB s n) h0 b)) (nI (b + 1)) s) 4 ?_ ?_ (by omega)
    · exact key2
    · intro z k' hz
      show fX11_withBarge_L20 _ (nI b) (k' + 1) _ (nI z) s = fX11_withBarge_L20 _ (nI b) k' _ (nI (z + 1)) s
      rw [fX11_withBarge_L20, if_pos ((lt_num (b := 4) (by omega) (by decide)).mpr hz), ofBench_ok gd ge hb (by omega), bnd_some, nm_eq, nI_1, hs]
    · intro k'
      show fX11_withBarge_L20 _ (nI b) (k' + 1) _ (nI 4) s = _
      rw [fX11_withBarge_L20, if_neg (by decide)]
      rfl
  · intro k
    show fX11_withBarge_L5 κ (k + 1) _ (nI nb) s = _
    rw [fX11_withBarge_L5, gd.b6, if_neg (nI_nlt (Nat.le_refl nb) (by omega))]
theorem dCG (gd : Gd s nb n) (h0 : Int64) (κ : Int64 → Mem → Option (Int64 × Mem)) : fX11_withBarge_L57 κ FU h0 0 s = κ (hob (hG s) h0 n) s := by
  have h7 := gd.ln
  have key := lp0 (fun k j => fX11_withBarge_L57 κ k (hob (hG s) h0 j) (nI j) s) (κ (hob (hG s) h0 n) s) n ?_ ?_ (by omega)
  · exact key
  · intro b k hb
    show fX11_withBarge_L57 κ (k + 1) _ (nI b) s = fX11_withBarge_L57 κ k _ (nI (b + 1)) s
    rw [fX11_withBarge_L57, gd.g6, if_pos (nI_lt hb (by omega)), nI_1, hob]
    have key2 := lp0 (fun k' z => fX11_withBarge_L72 (fun v6 s7 => fX11_withBarge_L57 κ k v6 (nI (b + 1)) s7) (nI b) k' (hs (fun z => (gv s b z).toInt64) (hob (hG s) h0 b) z) (nI z) s) (fX11_withBarge_L57 κ k (hG s b (hob (hG s) h0 b)) (nI (b + 1)) s) 5 ?_ ?_ (by omega)
    · exact key2
    · intro z k' hz
      show fX11_withBarge_L72 _ (nI b) (k' + 1) _ (nI z) s = fX11_withBarge_L72 _ (nI b) k' _ (nI (z + 1)) s
      rw [fX11_withBarge_L72, if_pos ((lt_num (b := 5) (by omega) (by decide)).mpr hz), ofGuest_ok gd hb (by omega), bnd_some, nm_eq, nI_1, hs]
    · intro k'
      show fX11_withBarge_L72 _ (nI b) (k' + 1) _ (nI 5) s = _
      rw [fX11_withBarge_L72, if_neg (by decide)]
      rfl
  · intro k
    show fX11_withBarge_L57 κ (k + 1) _ (nI n) s = _
    rw [fX11_withBarge_L57, gd.g6, if_neg (nI_nlt (Nat.le_refl n) (by omega))]
theorem dRB (gd : Gd s nb n) (h0 : Int64) (κ : Mem → Option (Unit × Mem)) : fX12_mixBarge_L20 κ FU 0 (wL s 68 54 h0) = κ (wL s 68 54 (hob (hB s n) h0 nb)) := by
  have h8 := gd.lb
  have key := lp0 (fun k j => fX12_mixBarge_L20 κ k (nI j) (wL s 68 54 (hob (hB s n) h0 j))) (κ (wL s 68 54 (hob (hB s n) h0 nb))) nb ?_ ?_ (by omega)
  · exact key
  · intro b k hb
    show fX12_mixBarge_L20 κ (k + 1) (nI b) _ = fX12_mixBarge_L20 κ k (nI (b + 1)) _
    rw [fX12_mixBarge_L20, rd_wL, gd.b68, if_pos (nI_lt hb (by omega)), nI_1, hob]
    have key2 := lp0 (fun k' z => fX12_mixBarge_L30 (fun s11 => fX12_mixBarge_L20 κ k (nI (b + 1)) s11) (nI b) k' (nI z) (wL s 68 54 (hs (fun z => (bv s n b z).toInt64) (hob (hB s n) h0 b) z))) (fX12_mixBarge_L20 κ k (nI (b + 1)) (wL s 68 54 (hB s n b (hob (hB s n) h0 b)))) 4 ?_ ?_ (by omega)
    · exact key2
    · intro z k' hz
      show fX12_mixBarge_L30 _ (nI b) (k' + 1) (nI z) _ = fX12_mixBarge_L30 _ (nI b) k' (nI (z + 1)) _
      have hbt : ∀ h, fX12_benchTells (nI b) (nI z) (wL s 68 54 h) = some (bv s n b z, wL s 68 54 h) := fun h => benchTells_ok (Gd_L h gd) hb (by omega)
      rw [fX12_mixBarge_L30, if_pos ((lt_num (b := 4) (by omega) (by decide)).mpr hz), hbt, bnd_some, mix_ok, bnd_some, nI_1, hs]
    · intro k'
      show fX12_mixBarge_L30 _ (nI b) (k' + 1) (nI 4) _ = _
      rw [fX12_mixBarge_L30, if_neg (by decide)]
      rfl
  · intro k
    show fX12_mixBarge_L20 κ (k + 1) (nI nb) _ = _
    rw [fX12_mixBarge_L20, rd_wL, gd.b68, if_neg (nI_nlt (Nat.le_refl nb) (by omega))]
theorem dRG (gd : Gd s nb n) (h0 : Int64) (κ : Mem → Option (Unit × Mem)) : fX12_mixBarge_L60 κ FU 0 (wL s 68 54 h0) = κ (wL s 68 54 (hob (hG s) h0 n)) := by
  have h7 := gd.ln
  have key := lp0 (fun k j => fX12_mixBarge_L60 κ k (nI j) (wL s 68 54 (hob (hG s) h0 j))) (κ (wL s 68 54 (hob (hG s) h0 n))) n ?_ ?_ (by omega)
  · exact key
  · intro b k hb
    show fX12_mixBarge_L60 κ (k + 1) (nI b) _ = fX12_mixBarge_L60 κ k (nI (b + 1)) _
    rw [fX12_mixBarge_L60, rd_wL, gd.g68, if_pos (nI_lt hb (by omega)), nI_1, hob]
    have key2 := lp0 (fun k' z => fX12_mixBarge_L70 (fun s11 => fX12_mixBarge_L60 κ k (nI (b + 1)) s11) (nI b) k' (nI z) (wL s 68 54 (hs (fun z => (gv s b z).toInt64) (hob (hG s) h0 b) z))) (fX12_mixBarge_L60 κ k (nI (b + 1)) (wL s 68 54 (hG s b (hob (hG s) h0 b)))) 5 ?_ ?_ (by omega)
    · exact key2
    · intro z k' hz
      show fX12_mixBarge_L70 _ (nI b) (k' + 1) (nI z) _ = fX12_mixBarge_L70 _ (nI b) k' (nI (z + 1)) _
      have hbt : ∀ h, fX12_guestTells (nI b) (nI z) (wL s 68 54 h) = some (gv s b z, wL s 68 54 h) := fun h => guestTells_ok (Gd_L h gd) hb (by omega)
      rw [fX12_mixBarge_L70, if_pos ((lt_num (b := 5) (by omega) (by decide)).mpr hz), hbt, bnd_some, mix_ok, bnd_some, nI_1, hs]
    · intro k'
      show fX12_mixBarge_L70 _ (nI b) (k' + 1) (nI 5) _ = _
      rw [fX12_mixBarge_L70, if_neg (by decide)]
      rfl
  · intro k
    show fX12_mixBarge_L60 κ (k + 1) (nI n) _ = _
    rw [fX12_mixBarge_L60, rd_wL, gd.g68, if_neg (nI_nlt (Nat.le_refl n) (by omega))]
-- minutes, quarrels
def hM (s : Mem) (i : Nat) : Int64 := (s.1 80 i).toInt64
theorem dCM (gg : Gg s nm') (h0 : Int64) (κ : Int64 → Mem → Option (Int64 × Mem)) : fX11_digest_L69 κ FU h0 0 s = κ (hs (hM s) h0 nm') s := by
  have h40 := gg.2.1
  have key := lp0 (fun k j => fX11_digest_L69 κ k (hs (hM s) h0 j) (nI j) s) (κ (hs (hM s) h0 nm') s) nm' ?_ ?_ (by omega)
  · exact key
  · intro j k hj
    show fX11_digest_L69 κ (k + 1) _ (nI j) s = fX11_digest_L69 κ k _ (nI (j + 1)) s
    rw [fX11_digest_L69, gg.2.2.1, if_pos (nI_lt hj (by omega)), postureIn_ok gg hj, bnd_some, nm_eq, nI_1, hs]
    unfold hM
    rw [(pv_ok gg hj).2]
  · intro k
    show fX11_digest_L69 κ (k + 1) _ (nI nm') s = _
    rw [fX11_digest_L69, gg.2.2.1, if_neg (nI_nlt (Nat.le_refl _) (by omega))]
theorem dRM (gg : Gg s nm') (h0 : Int64) (κ : Mem → Option (Unit × Mem)) : fX12_mixBarge_L100 κ FU 0 (wL s 68 54 h0) = κ (wL s 68 54 (hs (hM s) h0 nm')) := by
  have h40 := gg.2.1
  have key := lp0 (fun k j => fX12_mixBarge_L100 κ k (nI j) (wL s 68 54 (hs (hM s) h0 j))) (κ (wL s 68 54 (hs (hM s) h0 nm'))) nm' ?_ ?_ (by omega)
  · exact key
  · intro j k hj
    show fX12_mixBarge_L100 κ (k + 1) (nI j) _ = fX12_mixBarge_L100 κ k (nI (j + 1)) _
    rw [fX12_mixBarge_L100, rd_wL, gg.2.2.2.1, if_pos (nI_lt hj (by omega)), if_pos (inb_ok (by omega) (by decide)), ix_nI (by omega), mix_ok, bnd_some, nI_1, hs]
    rfl
  · intro k
    show fX12_mixBarge_L100 κ (k + 1) (nI nm') _ = _
    rw [fX12_mixBarge_L100, rd_wL, gg.2.2.2.1, if_neg (nI_nlt (Nat.le_refl _) (by omega))]
def hQ (s : Mem) (q : Nat) (h : Int64) : Int64 := 31 * (31 * h + (s.1 85 q).toInt64) + (s.1 86 q).toInt64
theorem dCQ (gf : Gf s n nq) (h0 : Int64) (κ : Int64 → Mem → Option (Int64 × Mem)) : fX11_digest_L104 κ FU h0 0 s = κ (hob (hQ s) h0 nq) s := by
  have h8 := gf.1
  have key := lp0 (fun k j => fX11_digest_L104 κ k (hob (hQ s) h0 j) (nI j) s) (κ (hob (hQ s) h0 nq) s) nq ?_ ?_ (by omega)
  · exact key
  · intro j k hj
    show fX11_digest_L104 κ (k + 1) _ (nI j) s = fX11_digest_L104 κ k _ (nI (j + 1)) s
    rw [fX11_digest_L104, gf.2.1, if_pos (nI_lt hj (by omega)), oneOf_ok gf hj, bnd_some, nm_eq, otherOf_ok gf hj, bnd_some, nm_eq, nI_1, hob]
    rfl
  · intro k
    show fX11_digest_L104 κ (k + 1) _ (nI nq) s = _
    rw [fX11_digest_L104, gf.2.1, if_neg (nI_nlt (Nat.le_refl _) (by omega))]
theorem dRQ (gf : Gf s n nq) (h0 : Int64) (κ : Mem → Option (Unit × Mem)) : fX12_mixBarge_L127 κ FU 0 (wL s 68 54 h0) = κ (wL s 68 54 (hob (hQ s) h0 nq)) := by
  have h8 := gf.1
  have key := lp0 (fun k j => fX12_mixBarge_L127 κ k (nI j) (wL s 68 54 (hob (hQ s) h0 j))) (κ (wL s 68 54 (hob (hQ s) h0 nq))) nq ?_ ?_ (by omega)
  · exact key
  · intro j k hj
    show fX12_mixBarge_L127 κ (k + 1) (nI j) _ = fX12_mixBarge_L127 κ k (nI (j + 1)) _
    have hi : inb (nI j) 8 = true := inb_ok (by omega) (by decide)
    rw [fX12_mixBarge_L127, rd_wL, gf.2.2.1, if_pos (nI_lt hj (by omega)), if_pos hi, ix_nI (by omega), mix_ok, bnd_some, if_pos hi, rd_wL, mix_ok, bnd_some, nI_1, hob]
    rfl
  · intro k
    show fX12_mixBarge_L127 κ (k + 1) (nI nq) _ = _
    rw [fX12_mixBarge_L127, rd_wL, gf.2.2.1, if_neg (nI_nlt (Nat.le_refl _) (by omega))]
-- kept barges
def hK (s : Mem) (n k : Nat) (h : Int64) : Int64 := if s.1 88 k = 0 then 31 * h + (-1) else hs (fun g => (s.1 89 (7 * k + g)).toInt64) h n
theorem dCK (gd : Gd s nb n) (gi : Gi s nb n) (h0 : Int64) : fX11_withKept h0 s = some (hob (hK s n) h0 3, s) := by
  have h7 := gd.ln
  unfold fX11_withKept
  have key := lp0 (fun t k => fX11_withKept_L5 (fun v12 s13 => some (v12, s13)) t (hob (hK s n) h0 k) (nI k) s) (some (hob (hK s n) h0 3, s)) 3 ?_ ?_ (by omega)
  · exact key
  · intro k t hk
    show fX11_withKept_L5 _ (t + 1) _ (nI k) s = fX11_withKept_L5 _ t _ (nI (k + 1)) s
    obtain ⟨b1, b2, b3⟩ := gi k hk
    rw [fX11_withKept_L5, if_pos ((lt_num (b := 3) (by omega) (by decide)).mpr hk), nI_1, hob]
    rcases b2 with b2 | b2
    · have e : hK s n k (hob (hK s n) h0 k) = 31 * hob (hK s n) h0 k + (-1) := by
        unfold hK
        rw [if_pos b2]
      rw [hask_f hk (b1.trans b2), bnd_some, if_pos rfl, nm_eq, e]
    · have e : hK s n k (hob (hK s n) h0 k) = hs (fun g => (s.1 89 (7 * k + g)).toInt64) (hob (hK s n) h0 k) n := by
        unfold hK
        rw [if_neg (by rw [b2]; exact one_ne)]
      rw [hask_t hk (b1.trans b2), bnd_some, if_neg one_ne, e]
      have key2 := lp0 (fun t' g => fX11_withKept_L26 (fun v10 s11 => fX11_withKept_L5 (fun v12 s13 => some (v12, s13)) t v10 (nI (k + 1)) s11) (nI k) t' (hs (fun g => (s.1 89 (7 * k + g)).toInt64) (hob (hK s n) h0 k) g) (nI g) s) (fX11_withKept_L5 (fun v12 s13 => some (v12, s13)) t (hs (fun g => (s.1 89 (7 * k + g)).toInt64) (hob (hK s n) h0 k) n) (nI (k + 1)) s) n ?_ ?_ (by omega)
      · exact key2
      · intro g t' hg
        show fX11_withKept_L26 _ (nI k) (t' + 1) _ (nI g) s = fX11_withKept_L26 _ (nI k) t' _ (nI (g + 1)) s
        rw [fX11_withKept_L26, gd.g6, if_pos (nI_lt hg (by omega)), kbench hk (by omega) (b1.trans b2), bnd_some, nm_eq, nI_1, hs, ((b3 b2).1 g hg).1]
      · intro t'
        show fX11_withKept_L26 _ (nI k) (t' + 1) _ (nI n) s = _
        rw [fX11_withKept_L26, gd.g6, if_neg (nI_nlt (Nat.le_refl _) (by omega))]
  · intro t
    show fX11_withKept_L5 _ (t + 1) _ (nI 3) s = _
    rw [fX11_withKept_L5, if_neg (by decide)]
theorem dRK (gd : Gd s nb n) (gi : Gi s nb n) (h0 : Int64) (κ : Mem → Option (Unit × Mem)) : fX12_mixBarge_L165 κ FU 0 (wL s 68 54 h0) = κ (wL s 68 54 (hob (hK s n) h0 3)) := by
  have h7 := gd.ln
  have key := lp0 (fun t k => fX12_mixBarge_L165 κ t (nI k) (wL s 68 54 (hob (hK s n) h0 k))) (κ (wL s 68 54 (hob (hK s n) h0 3))) 3 ?_ ?_ (by omega)
  · exact key
  · intro k t hk
    show fX12_mixBarge_L165 κ (t + 1) (nI k) _ = fX12_mixBarge_L165 κ t (nI (k + 1)) _
    obtain ⟨b1, b2, b3⟩ := gi k hk
    have hi : inb (nI k) 3 = true := inb_ok hk (by decide)
    rw [fX12_mixBarge_L165, if_pos ((lt_num (b := 3) (by omega) (by decide)).mpr hk), if_pos hi, rd_wL, ix_nI (by omega), nI_1, hob]
    rcases b2 with b2 | b2
    · have e : hK s n k (hob (hK s n) h0 k) = 31 * hob (hK s n) h0 k + (-1) := by
        unfold hK
        rw [if_pos b2]
      rw [if_pos b2, mix_ok, bnd_some, e]
      show fX12_mixBarge_L188 _ (nI k) (99999 + 1) 0 _ = _
      rw [fX12_mixBarge_L188, rd_wL, gd.g68, if_pos hi, ix_nI (by omega), if_pos b2, ite_self]
    · have e : hK s n k (hob (hK s n) h0 k) = hs (fun g => (s.1 89 (7 * k + g)).toInt64) (hob (hK s n) h0 k) n := by
        unfold hK
        rw [if_neg (by rw [b2]; exact one_ne)]
      rw [if_neg (by rw [b2]; exact one_ne), e]
      have key2 := lp0 (fun t' g => fX12_mixBarge_L188 (fun s46 => fX12_mixBarge_L165 κ t (nI (k + 1)) s46) (nI k) t' (nI g) (wL s 68 54 (hs (fun g => (s.1 89 (7 * k + g)).toInt64) (hob (hK s n) h0 k) g))) (fX12_mixBarge_L165 κ t (nI (k + 1)) (wL s 68 54 (hs (fun g => (s.1 89 (7 * k + g)).toInt64) (hob (hK s n) h0 k) n))) n ?_ ?_ (by omega)
      · exact key2
      · intro g t' hg
        show fX12_mixBarge_L188 _ (nI k) (t' + 1) (nI g) _ = fX12_mixBarge_L188 _ (nI k) t' (nI (g + 1)) _
        have e8 : 7 * nI k + nI g = nI (7 * k + g) := by rw [show (7 : Int32) = nI 7 from rfl, pk_mul, nI_add]
        rw [fX12_mixBarge_L188, rd_wL, gd.g68, if_pos (nI_lt hg (by omega)), if_pos hi, ix_nI (show k < 2 ^ 31 by omega), if_neg (by rw [b2]; exact one_ne), e8, if_pos (inb_ok (by omega) (by decide)), ix_nI (by omega), mix_ok, bnd_some, nI_1, hs]
      · intro t'
        show fX12_mixBarge_L188 _ (nI k) (t' + 1) (nI n) _ = _
        rw [fX12_mixBarge_L188, rd_wL, gd.g68, if_neg (nI_nlt (Nat.le_refl _) (by omega))]
  · intro t
    show fX12_mixBarge_L165 κ (t + 1) (nI 3) _ = _
    rw [fX12_mixBarge_L165, if_neg (by decide)]
-- rows, texts
def hR (s : Mem) (q p r : Nat) (h : Int64) : Int64 := hs (fun i => (s.1 p (60 * r + i)).toInt64) (31 * h + (s.1 q r).toInt64) (ix (s.1 q r))
theorem ixm1 : ix (-1) = 0 := by decide
theorem szlt {x : Int32} (h : SzOk x) {i : Nat} (hi : i ≤ 60) : (nI i < x) ↔ i < ix x := by
  rcases h with rfl | ⟨m, hm, rfl⟩
  · rw [ixm1]
    exact ⟨fun z => absurd (Int32.lt_trans z (by decide : (-1 : Int32) < 0)) (nI_nonneg (by omega)), fun z => absurd z (by omega)⟩
  · rw [ix_nI (by omega)]
    exact ⟨fun z => Nat.lt_of_not_le (fun z2 => nI_nlt z2 (by omega) z), fun z => nI_lt z (by omega)⟩
theorem szle {x : Int32} (h : SzOk x) : ix x ≤ 60 := by
  rcases h with rfl | ⟨m, hm, rfl⟩
  · rw [ixm1]
    omega
  · rw [ix_nI (by omega)]
    exact hm
theorem szeq {x : Int32} (h : SzOk x) {i : Nat} (hi : i < ix x) : x = nI (ix x) := by
  rcases h with rfl | ⟨m, hm, rfl⟩
  · rw [ixm1] at hi
    omega
  · rw [ix_nI (by omega)]
theorem dCR (gb : Gb s) (h0 : Int64) : fX11_withRows h0 s = some (hob (hR s 70 71) h0 6, s) := by
  unfold fX11_withRows
  have key := lp0 (fun t r => fX11_withRows_L16 (fun v12 s13 => some (v12, s13)) 6 t (hob (hR s 70 71) h0 r) (nI r) s) (some (hob (hR s 70 71) h0 6, s)) 6 ?_ ?_ (by omega)
  · exact key
  · intro r t hr
    show fX11_withRows_L16 _ 6 (t + 1) _ (nI r) s = fX11_withRows_L16 _ 6 t _ (nI (r + 1)) s
    obtain ⟨b1, b2, b3⟩ := gb r hr
    have hle := szle b2
    rw [fX11_withRows_L16, if_pos ((lt_num (b := 6) (by omega) (by decide)).mpr hr), if_pos (inb_ok hr (by decide)), ix_nI (by omega), (rt4 r hr).1, if_neg row_ne, if_pos (rt4 r hr).2, nm_eq, nI_1, hob, b1]
    have key2 := lp0 (fun t' i => fX11_withRows_L51 (fun v10 s11 => fX11_withRows_L16 (fun v12 s13 => some (v12, s13)) 6 t v10 (nI (r + 1)) s11) 6 (nI r) (48 + 2 * r) t' (hs (fun i => (s.1 71 (60 * r + i)).toInt64) (31 * hob (hR s 70 71) h0 r + (s.1 70 r).toInt64) i) (nI i) s) (fX11_withRows_L16 (fun v12 s13 => some (v12, s13)) 6 t (hR s 70 71 r (hob (hR s 70 71) h0 r)) (nI (r + 1)) s) (ix (s.1 70 r)) ?_ ?_ (by omega)
    · exact key2
    · intro i t' hi
      show fX11_withRows_L51 _ 6 (nI r) (48 + 2 * r) (t' + 1) _ (nI i) s = fX11_withRows_L51 _ 6 (nI r) (48 + 2 * r) t' _ (nI (i + 1)) s
      have e := szeq b2 hi
      rw [fX11_withRows_L51, b1, if_pos ((szlt b2 (by omega)).mpr hi), placeAt_ok (b1.trans e) hle hi, bnd_some, nm_eq, nI_1, hs, e48, b3 i _ e hi hle]
    · intro t'
      show fX11_withRows_L51 _ 6 (nI r) (48 + 2 * r) (t' + 1) _ (nI (ix (s.1 70 r))) s = _
      rw [fX11_withRows_L51, b1, if_neg (fun z => by have := (szlt b2 hle).mp z; omega)]
      rfl
  · intro t
    show fX11_withRows_L16 _ 6 (t + 1) _ (nI 6) s = _
    rw [fX11_withRows_L16, if_neg (by decide)]
theorem dCT (gc : Gc s) (h0 : Int64) : fX11_withTexts h0 s = some (hob (hR s 73 74) h0 4, s) := by
  unfold fX11_withTexts
  have key := lp0 (fun t r => fX11_withTexts_L16 (fun v12 s13 => some (v12, s13)) 4 t (hob (hR s 73 74) h0 r) (nI r) s) (some (hob (hR s 73 74) h0 4, s)) 4 ?_ ?_ (by omega)
  · exact key
  · intro r t hr
    show fX11_withTexts_L16 _ 4 (t + 1) _ (nI r) s = fX11_withTexts_L16 _ 4 t _ (nI (r + 1)) s
    obtain ⟨b1, b2, b3⟩ := gc r hr
    have hle := szle b2
    rw [fX11_withTexts_L16, if_pos ((lt_num (b := 4) (by omega) (by decide)).mpr hr), if_pos (inb_ok hr (by decide)), ix_nI (by omega), (rt5 r hr).1, if_neg txt_ne, if_pos (rt5 r hr).2, nm_eq, nI_1, hob, b1]
    have key2 := lp0 (fun t' i => fX11_withTexts_L51 (fun v10 s11 => fX11_withTexts_L16 (fun v12 s13 => some (v12, s13)) 4 t v10 (nI (r + 1)) s11) 4 (nI r) (60 + 2 * r) t' (hs (fun i => (s.1 74 (60 * r + i)).toInt64) (31 * hob (hR s 73 74) h0 r + (s.1 73 r).toInt64) i) (nI i) s) (fX11_withTexts_L16 (fun v12 s13 => some (v12, s13)) 4 t (hR s 73 74 r (hob (hR s 73 74) h0 r)) (nI (r + 1)) s) (ix (s.1 73 r)) ?_ ?_ (by omega)
    · exact key2
    · intro i t' hi
      show fX11_withTexts_L51 _ 4 (nI r) (60 + 2 * r) (t' + 1) _ (nI i) s = fX11_withTexts_L51 _ 4 (nI r) (60 + 2 * r) t' _ (nI (i + 1)) s
      have e := szeq b2 hi
      have tc : TxC s r (ix (s.1 73 r)) (fun i => s.1 74 (60 * r + i)) := ⟨b1.trans e, fun i hi => b3 i _ e hi hle⟩
      rw [fX11_withTexts_L51, b1, if_pos ((szlt b2 (by omega)).mpr hi), byteC tc hle hi, bnd_some, nm_eq, nI_1, hs]
    · intro t'
      show fX11_withTexts_L51 _ 4 (nI r) (60 + 2 * r) (t' + 1) _ (nI (ix (s.1 73 r))) s = _
      rw [fX11_withTexts_L51, b1, if_neg (fun z => by have := (szlt b2 hle).mp z; omega)]
      rfl
  · intro t
    show fX11_withTexts_L16 _ 4 (t + 1) _ (nI 4) s = _
    rw [fX11_withTexts_L16, if_neg (by decide)]
theorem dRR (gb : Gb s) (h0 : Int64) (κ : Mem → Option (Int64 × Mem)) : fX12_digest_L37 κ FU 0 (wL s 68 54 h0) = κ (wL s 68 54 (hob (hR s 70 71) h0 6)) := by
  have key := lp0 (fun t r => fX12_digest_L37 κ t (nI r) (wL s 68 54 (hob (hR s 70 71) h0 r))) (κ (wL s 68 54 (hob (hR s 70 71) h0 6))) 6 ?_ ?_ (by omega)
  · exact key
  · intro r t hr
    show fX12_digest_L37 κ (t + 1) (nI r) _ = fX12_digest_L37 κ t (nI (r + 1)) _
    obtain ⟨b1, b2, b3⟩ := gb r hr
    have hle := szle b2
    have hi6 : inb (nI r) 6 = true := inb_ok hr (by decide)
    rw [fX12_digest_L37, if_pos ((lt_num (b := 6) (by omega) (by decide)).mpr hr), if_pos hi6, ix_nI (by omega), rd_wL, mix_ok, bnd_some, nI_1, hob]
    have key2 := lp0 (fun t' i => fX12_digest_L56 (fun s19 => fX12_digest_L37 κ t (nI (r + 1)) s19) (nI r) t' (nI i) (wL s 68 54 (hs (fun i => (s.1 71 (60 * r + i)).toInt64) (31 * hob (hR s 70 71) h0 r + (s.1 70 r).toInt64) i))) (fX12_digest_L37 κ t (nI (r + 1)) (wL s 68 54 (hR s 70 71 r (hob (hR s 70 71) h0 r)))) (ix (s.1 70 r)) ?_ ?_ (by omega)
    · exact key2
    · intro i t' hi
      show fX12_digest_L56 _ (nI r) (t' + 1) (nI i) _ = fX12_digest_L56 _ (nI r) t' (nI (i + 1)) _
      rw [fX12_digest_L56, if_pos hi6, rd_wL, ix_nI (by omega), if_pos ((szlt b2 (by omega)).mpr hi), rowAt_ok hr (by omega), bnd_some, mix_ok, bnd_some, nI_1, hs, rd_wL]
    · intro t'
      show fX12_digest_L56 _ (nI r) (t' + 1) (nI (ix (s.1 70 r))) _ = _
      rw [fX12_digest_L56, if_pos hi6, rd_wL, ix_nI (show r < 2 ^ 31 by omega), if_neg (fun z => by have := (szlt b2 hle).mp z; omega)]
      rfl
  · intro t
    show fX12_digest_L37 κ (t + 1) (nI 6) _ = _
    rw [fX12_digest_L37, if_neg (by decide)]
theorem dRT (gc : Gc s) (h0 : Int64) (κ : Mem → Option (Int64 × Mem)) : fX12_digest_L91 κ FU 0 (wL s 68 54 h0) = κ (wL s 68 54 (hob (hR s 73 74) h0 4)) := by
  have key := lp0 (fun t r => fX12_digest_L91 κ t (nI r) (wL s 68 54 (hob (hR s 73 74) h0 r))) (κ (wL s 68 54 (hob (hR s 73 74) h0 4))) 4 ?_ ?_ (by omega)
  · exact key
  · intro r t hr
    show fX12_digest_L91 κ (t + 1) (nI r) _ = fX12_digest_L91 κ t (nI (r + 1)) _
    obtain ⟨b1, b2, b3⟩ := gc r hr
    have hle := szle b2
    have hi6 : inb (nI r) 4 = true := inb_ok hr (by decide)
    rw [fX12_digest_L91, if_pos ((lt_num (b := 4) (by omega) (by decide)).mpr hr), if_pos hi6, ix_nI (by omega), rd_wL, mix_ok, bnd_some, nI_1, hob]
    have key2 := lp0 (fun t' i => fX12_digest_L109 (fun s19 => fX12_digest_L91 κ t (nI (r + 1)) s19) (nI r) t' (nI i) (wL s 68 54 (hs (fun i => (s.1 74 (60 * r + i)).toInt64) (31 * hob (hR s 73 74) h0 r + (s.1 73 r).toInt64) i))) (fX12_digest_L91 κ t (nI (r + 1)) (wL s 68 54 (hR s 73 74 r (hob (hR s 73 74) h0 r)))) (ix (s.1 73 r)) ?_ ?_ (by omega)
    · exact key2
    · intro i t' hi
      show fX12_digest_L109 _ (nI r) (t' + 1) (nI i) _ = fX12_digest_L109 _ (nI r) t' (nI (i + 1)) _
      have e := szeq b2 hi
      have tr : ∀ h, TxR (wL s 68 54 h) r (ix (s.1 73 r)) (fun i => s.1 74 (60 * r + i)) := fun h => ⟨e, fun _ _ => rfl⟩
      rw [fX12_digest_L109, if_pos hi6, rd_wL, ix_nI (by omega), if_pos ((szlt b2 (by omega)).mpr hi), byteR (tr _) hr hle hi, bnd_some, mix_ok, bnd_some, nI_1, hs]
    · intro t'
      show fX12_digest_L109 _ (nI r) (t' + 1) (nI (ix (s.1 73 r))) _ = _
      rw [fX12_digest_L109, if_pos hi6, rd_wL, ix_nI (show r < 2 ^ 31 by omega), if_neg (fun z => by have := (szlt b2 hle).mp z; omega)]
      rfl
  · intro t
    show fX12_digest_L91 κ (t + 1) (nI 4) _ = _
    rw [fX12_digest_L91, if_neg (by decide)]
end DIG
theorem al_digest : Alike fX11_digest fX12_digest := by
  intro s hI
  obtain ⟨nb, n, nq, nm, nd, ga, gb, gc, gd, ge, gf, gg, gh, gi, gj⟩ := id hI
  have hc1 := dC6 (s := s) (V := fun z => (cval s nb n nq nm nd z).toInt64) (fun z hz => ⟨_, (count_both gb gc gd ge gf gg gh (by omega)).1, rfl⟩)
  have hc2 := dR9 (s := s) (V := fun z => (cval s nb n nq nm nd z).toInt64) (fun z hz => ⟨cval s nb n nq nm nd z, fun h => (count_both (s := wL s 68 54 h) gb gc gd ge gf gg gh (by omega)).2, rfl⟩)
  unfold fX11_digest fX12_digest fX11_withBarge fX12_mixBarge
  refine ⟨hob (hR s 73 74) (hob (hR s 70 71) (hob (hK s n) (hob (hQ s) (hs (hM s) (hob (hG s) (hob (hB s n) (31 * (31 * hs (fun z => (cval s nb n nq nm nd z).toInt64) 17 10 + (s.1 68 17).toInt64) + (s.1 68 18).toInt64) nb) n) nm) nq) 3) 6) 4, s, wL s 68 54 (hob (hR s 73 74) (hob (hR s 70 71) (hob (hK s n) (hob (hQ s) (hs (hM s) (hob (hG s) (hob (hB s n) (31 * (31 * hs (fun z => (cval s nb n nq nm nd z).toInt64) 17 10 + (s.1 68 17).toInt64) + (s.1 68 18).toInt64) nb) n) nm) nq) 3) 6) 4), ?_, ?_, Inv_keep hI (SmX.wL (by unfold Xt; omega)) ?_⟩
  · rw [hc1, nm_eq, nm_eq, dCB gd ge, dCG gd, bnd_some, dCM gg, dCQ gf, dCK gd gi, bnd_some, dCR gb, bnd_some, dCT gc, bnd_some, gd.lm, gd.rn]
  · rw [hc2, mix_ok, bnd_some, rd_wL, mix_ok, bnd_some, dRB gd, dRG gd, dRM gg, dRQ gf, dRK gd gi, bnd_some, dRR gb, dRT gc]
    rfl
  · obtain ⟨h1, h2, h3, h4, h5⟩ := ga
    exact ⟨h1, h2, h3, h4, h5⟩
