-- rise, seat
section SIT
variable {s : Mem} {nb n nq nd : Nat}
/-- one guest sits elsewhere (sort k), both sides: the state behind it keeps the invariant -/
theorem one_sits {k g : Nat} {x : Int32} (hI : Inv s) (gd : Gd s nb n) (ge : Ge s nb n) (gh : Gh s nb n nd) (hk : k < 2) (hg : g < n) (hx : StOk nb x) :
    ∃ sa sb, fX0_place (nI g) x s = some ((), sa) ∧ fX1_remember (nI k) (nI g) (s.1 79 g) sa = some ((), sb) ∧ SmX (fun a => a = 12 ∨ a = 16 ∨ (20 ≤ a ∧ a ≤ 23)) s sb ∧
      ∀ sc, SmX (fun a => a = 12 ∨ a = 16 ∨ (20 ≤ a ∧ a ≤ 23)) s sc → sc = sb → ∃ sd, fX12_remembers (nI k) sc = some ((), sd) ∧ Inv (wI sd 79 g x) := by
  have h7 := gd.ln
  have h8 := gd.lb
  obtain ⟨h60, g20, g32, _⟩ := id gh
  obtain ⟨sa, ea, ca, ma⟩ := place_ok (cs_of gd ge) hg hx
  have h20 : sa.1 20 0 = nI nd := by
    rw [ma.1 20 (by unfold Cr; omega) (by omega)]
    exact g20
  obtain ⟨sb, eb, rb1, rb2, rb3, rb4, rb5⟩ := remember_ok h60 h20 (nI k) (nI g) (s.1 79 g)
  have mb : SmX (fun a => a = 12 ∨ a = 16 ∨ (20 ≤ a ∧ a ≤ 23)) s sb := (ma.mono (fun a ha => by omega)).tr (rb1.mono (fun a ha => by omega))
  refine ⟨sa, sb, ea, eb, mb, ?_⟩
  rintro sc _ rfl
  have h32 : sc.1 68 32 = nI nd := by
    rw [mb.2.1 32 (by unfold Cf; omega) (by omega)]
    exact g32
  obtain ⟨sd, ed, rd1, rd2, rd3⟩ := remembers_ok h60 h32 (nI k)
  refine ⟨sd, ed, ?_⟩
  have b79 : sc.1 79 = s.1 79 := mb.1 79 (by unfold Cr; omega) (by omega)
  have d79 : sd.1 79 = s.1 79 := (rd1.1 79 (by unfold Cr; omega) (by omega)).trans b79
  have b87 : sc.1 87 = s.1 87 := mb.1 87 (by unfold Cr; omega) (by omega)
  have hS : SmX Xs s (wI sd 79 g x) := ((mb.mono (fun a ha => by unfold Xs; omega)).tr (rd1.mono (fun a ha => by unfold Xs; omega))).tr (SmX.wI (fun _ => by unfold Xs; omega) (by omega) (by omega))
  have t79 : (wI sd 79 g x).1 79 = upd (s.1 79) g x := by rw [wI_79, d79]
  have t16 : (wI sd 79 g x).1 16 = upd (s.1 79) g x := by
    rw [wI_ne (by decide), rd1.1 16 (by unfold Cr; omega) (by omega), rb1.1 16 (by unfold Cr; omega) (by omega)]
    exact ca.2.2.2.2.1
  have t12 : (wI sd 79 g x).1 12 = sa.1 12 := by rw [wI_ne (by decide), rd1.1 12 (by unfold Cr; omega) (by omega), rb1.1 12 (by unfold Cr; omega) (by omega)]
  have t21 : ∀ q, 20 ≤ q → q ≤ 23 → (wI sd 79 g x).1 q = sc.1 q := fun q h1 h2 => by rw [wI_ne (by omega), rd1.1 q (by unfold Cr; omega) (by omega)]
  have a21 : ∀ q, 20 ≤ q → q ≤ 23 → sa.1 q = s.1 q := fun q h1 h2 => ma.1 q (by unfold Cr; omega) (by omega)
  refine Inv_sit (nd' := rm nd + 1) hI gd ge hS (t16.trans t79.symm) ?_ ?_ ?_ ?_
  · rw [t79]
    exact ca.2.2.2.2.2.1
  · rw [t79, t12]
    exact ca.2.2.2.2.2.2
  · intro h hh
    rw [t79, uq_n _ _ (by omega)]
  · refine Gh_new (k := k) (gg := g) (o := s.1 79 g) gh gd.sts h7 (by omega) hg (fun z => by omega) (fun _ => gd.sts g hg) ?_ rd2 ?_ ?_ ?_ ?_ ?_
    · rw [t21 20 (by decide) (by decide)]
      exact rb2
    · intro j hj
      rw [t21 21 (by decide) (by decide), rb3 j hj, a21 21 (by decide) (by decide)]
    · intro j hj
      rw [t21 22 (by decide) (by decide), rb4 j hj, a21 22 (by decide) (by decide)]
    · intro j hj
      rw [t21 23 (by decide) (by decide), rb5 j hj, a21 23 (by decide) (by decide)]
    · intro j i hj hi
      rw [wI_ne (by decide), rd3 j i hj hi, b79, b87]
    · intro i hi
      unfold und
      rw [if_neg (fun z => by have := (nI_eq (a := k) (b := 2) (by omega) (by decide)).mp z; omega), t79]
      by_cases c : i = g
      · rw [c, if_pos rfl]
      · rw [if_neg (fun z => c ((nI_eq (by omega) (by omega)).mp z)), uq_n _ _ c]
end SIT
theorem al_rise (a1 : Int32) : Alike (fX11_rise a1) (fX12_rise a1) := by
  intro s hI
  obtain ⟨nb, n, nq, nm, nd, ga, gb, gc, gd, ge, gf, gg, gh, gi, gj⟩ := id hI
  have h7 := gd.ln
  have h8 := gd.lb
  unfold fX11_rise fX12_rise
  rcases pl_cases a1 n (by omega) with hb | ⟨g, hg, rfl⟩
  · exact ⟨-1, s, s, by rw [isG_f gd.g6 hb, bnd_some, if_pos rfl], by rw [mG_f gd.g68 (by omega) hb, bnd_some, if_pos rfl], hI⟩
  · have hi : inb (nI g) 8 = true := inb_ok (by omega) (by decide)
    by_cases hc : s.1 79 g = -9
    · exact ⟨-4, s, s, by rw [isG_t gd.g6 (by omega) hg, bnd_some, if_neg one_ne, benchOf_ok gd hg, bnd_some, if_pos hc], by rw [mG_t gd.g68 (by omega) hg, bnd_some, if_neg one_ne, if_pos hi, nm_eq, ix_nI (by omega), if_pos hc], hI⟩
    · obtain ⟨sa, sb, ea, eb, mb, hd⟩ := one_sits (k := 1) (x := -9) hI gd ge gh (by decide) hg (Or.inl rfl)
      obtain ⟨sd, ed, hId⟩ := hd sb mb rfl
      have h12 : sb.1 68 12 = nI n := by
        rw [mb.2.1 12 (by unfold Cf; omega) (by omega)]
        exact gd.g68
      have h79 : sb.1 79 = s.1 79 := mb.1 79 (by unfold Cr; omega) (by omega)
      refine ⟨s.1 79 g, sb, _, ?_, ?_, hId⟩
      · rw [isG_t gd.g6 (by omega) hg, bnd_some, if_neg one_ne, benchOf_ok gd hg, bnd_some, if_neg hc, ea, bnd_some, show (1 : Int32) = nI 1 from rfl, eb, bnd_some]
      · rw [mG_t h12 (by omega) hg, bnd_some, if_neg one_ne, if_pos hi, nm_eq, ix_nI (by omega), h79, if_neg hc, show (1 : Int32) = nI 1 from rfl, ed, bnd_some, if_pos hi]
section SI2
variable {s : Mem} {nb n nq nd : Nat}
theorem Gf.qd (gf : Gf s n nq) : Qd (s.1 85) (s.1 86) n nq := ⟨gf.1, gf.2.2.2.2.2.1⟩
theorem Ge.tk (gd : Gd s nb n) (ge : Ge s nb n) : s.1 6 12 = nI (msk (fun g => decide (s.1 13 g ≠ 3)) n) := by
  rw [gd.c13]
  exact ge.2.2
end SI2
theorem al_seat (a1 a2 : Int32) : Alike (fX11_seat a1 a2) (fX12_seat a1 a2) := by
  intro s hI
  obtain ⟨nb, n, nq, nm, nd, ga, gb, gc, gd, ge, gf, gg, gh, gi, gj⟩ := id hI
  have h7 := gd.ln
  have h8 := gd.lb
  unfold fX11_seat fX12_seat
  rcases pl_cases a1 n (by omega) with hb | ⟨g, hg, rfl⟩
  · exact ⟨-1, s, s, by rw [isG_f gd.g6 hb, bnd_some, if_pos rfl], by rw [mG_f gd.g68 (by omega) hb, bnd_some, if_pos rfl], hI⟩
  · have hi : inb (nI g) 8 = true := inb_ok (by omega) (by decide)
    rcases pl_cases a2 nb (by omega) with hb | ⟨b, hb, rfl⟩
    · exact ⟨-1, s, s, by rw [isG_t gd.g6 (by omega) hg, bnd_some, if_neg one_ne, isB_f gd.b6 hb, bnd_some, if_pos rfl], by rw [mG_t gd.g68 (by omega) hg, bnd_some, if_neg one_ne, mB_f gd.b68 (by omega) hb, bnd_some, if_pos rfl], hI⟩
    · by_cases hc : s.1 79 g = nI b
      · exact ⟨-4, s, s, by rw [isG_t gd.g6 (by omega) hg, bnd_some, if_neg one_ne, isB_t gd.b6 (by omega) hb, bnd_some, if_neg one_ne, benchOf_ok gd hg, bnd_some, if_pos hc], by rw [mG_t gd.g68 (by omega) hg, bnd_some, if_neg one_ne, mB_t gd.b68 (by omega) hb, bnd_some, if_neg one_ne, if_pos hi, nm_eq, ix_nI (by omega), if_pos hc], hI⟩
      · have hmc := mayTake_ok (cs_of gd ge) (Ge.tk gd ge) gf.fo gf.qd hg hb hc
        rw [gd.c13] at hmc
        by_cases hm : mayP (s.1 76) (s.1 85) (s.1 86) (s.1 79) n nq g b
        · obtain ⟨sa, sb, ea, eb, mb, hd⟩ := one_sits (k := 0) (x := nI b) hI gd ge gh (by decide) hg (Or.inr ⟨b, hb, rfl⟩)
          obtain ⟨sd, ed, hId⟩ := hd sb mb rfl
          have h12 : sb.1 68 12 = nI n := by
            rw [mb.2.1 12 (by unfold Cf; omega) (by omega)]
            exact gd.g68
          have h10 : sb.1 68 10 = nI nb := by
            rw [mb.2.1 10 (by unfold Cf; omega) (by omega)]
            exact gd.b68
          have h79 : sb.1 79 = s.1 79 := mb.1 79 (by unfold Cr; omega) (by omega)
          have h76 : sb.1 76 = s.1 76 := mb.1 76 (by unfold Cr; omega) (by omega)
          have h85 : sb.1 85 = s.1 85 := mb.1 85 (by unfold Cr; omega) (by omega)
          have h86 : sb.1 86 = s.1 86 := mb.1 86 (by unfold Cr; omega) (by omega)
          have rd : Rd sb nb n := ⟨h8, h7, h10, h12, by rw [h79]; exact gd.sts⟩
          have rq : Rq sb n nq := ⟨gf.1, by rw [mb.2.1 29 (by unfold Cf; omega) (by omega)]; exact gf.2.2.1, by rw [h85, h86]; exact gf.2.2.2.2.2.1⟩
          have hs := (sitsOn_ok rd rq hg hb).1 (by rw [h79, h76, h85, h86]; exact hm)
          refine ⟨nI b, sb, _, ?_, ?_, hId⟩
          · rw [isG_t gd.g6 (by omega) hg, bnd_some, if_neg one_ne, isB_t gd.b6 (by omega) hb, bnd_some, if_neg one_ne, benchOf_ok gd hg, bnd_some, if_neg hc, hmc.1 hm, bnd_some, if_neg one_ne, ea, bnd_some, show (0 : Int32) = nI 0 from rfl, eb, bnd_some]
          · rw [mG_t h12 (by omega) hg, bnd_some, if_neg one_ne, mB_t h10 (by omega) hb, bnd_some, if_neg one_ne, if_pos hi, nm_eq, ix_nI (by omega), h79, if_neg hc, hs, bnd_some, if_neg one_ne, if_pos hi, wI_ov, ← h79, wI_id, show (0 : Int32) = nI 0 from rfl, ed, bnd_some, if_pos hi]
        · have hs := (sitsOn_ok gd.rd gf.rq hg hb).2 hm
          refine ⟨-4, s, s, ?_, ?_, hI⟩
          · rw [isG_t gd.g6 (by omega) hg, bnd_some, if_neg one_ne, isB_t gd.b6 (by omega) hb, bnd_some, if_neg one_ne, benchOf_ok gd hg, bnd_some, if_neg hc, hmc.2 hm, bnd_some, if_pos rfl]
          · rw [mG_t gd.g68 (by omega) hg, bnd_some, if_neg one_ne, mB_t gd.b68 (by omega) hb, bnd_some, if_neg one_ne, if_pos hi, nm_eq, ix_nI (by omega), if_neg hc, hs, bnd_some, if_pos rfl]
