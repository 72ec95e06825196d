-- what is still open of the single calls
theorem al_fault (a1 a2 : Int32) (h2 : a2 = 0 ∨ a2 = 1) : Alike (fX11_fault a1 a2) (fX12_fault a1 a2) := sorry
theorem al_barge (a1 : Int32) : Alike (fX11_barge a1) (fX12_barge a1) := sorry
theorem al_rite (a1 : Int32) : Alike (fX11_rite a1) (fX12_rite a1) := sorry
theorem al_quarrel (a1 a2 : Int32) : Alike (fX11_quarrel a1 a2) (fX12_quarrel a1 a2) := sorry
theorem al_peace (a1 : Int32) : Alike (fX11_peace a1) (fX12_peace a1) := sorry
theorem al_seat (a1 a2 : Int32) : Alike (fX11_seat a1 a2) (fX12_seat a1 a2) := sorry
theorem al_rise (a1 : Int32) : Alike (fX11_rise a1) (fX12_rise a1) := sorry
theorem al_change (a1 a2 : Int32) : Alike (fX11_change a1 a2) (fX12_change a1 a2) := sorry
theorem al_undo : Alike fX11_undo fX12_undo := sorry
theorem al_keep (a1 : Int32) : Alike (fX11_keep a1) (fX12_keep a1) := sorry
theorem al_on (a1 : Int32) : Alike (fX11_on a1) (fX12_on a1) := sorry
theorem al_best (a1 : Int32) : Alike (fX11_best a1) (fX12_best a1) := sorry
theorem al_ways : Alike fX11_ways fX12_ways := sorry
theorem al_sure : Alike fX11_sure fX12_sure := sorry
theorem al_where (a1 : Int32) : Alike (fX11_where a1) (fX12_where a1) := sorry
theorem al_aisle : Alike fX11_aisle fX12_aisle := sorry
theorem al_leave (a1 : Int32) : Alike (fX11_leave a1) (fX12_leave a1) := sorry
theorem al_leavers : Alike fX11_leavers fX12_leavers := sorry
theorem al_invite (a1 a2 a3 : Int32) : Alike (fX11_invite a1 a2 a3) (fX12_invite a1 a2 a3) := sorry
theorem al_far (a1 a2 : Int32) : Alike (fX11_far a1 a2) (fX12_far a1 a2) := sorry
theorem al_crossed : Alike fX11_crossed fX12_crossed := sorry
theorem al_divorce : Alike fX11_divorce fX12_divorce := sorry
theorem al_kin (a1 : Int32) : Alike (fX11_kin a1) (fX12_kin a1) := sorry
theorem al_digest : Alike fX11_digest fX12_digest := sorry
