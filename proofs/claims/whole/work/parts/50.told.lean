theorem al_asked : Alike fX11_asked fX12_asked := by
  intro s hI
  refine ⟨_, s, s, rfl, ?_, hI⟩
  unfold fX12_asked
  rw [hI.ga.1]
theorem al_upper : Alike fX11_upper fX12_upper := by
  intro s hI
  refine ⟨_, s, s, rfl, ?_, hI⟩
  unfold fX12_upper
  rw [hI.ga.2.1]
theorem al_lower : Alike fX11_lower fX12_lower := by
  intro s hI
  refine ⟨_, s, s, rfl, ?_, hI⟩
  unfold fX12_lower
  rw [hI.ga.2.2.1]
theorem al_finding : Alike fX11_finding fX12_finding := by
  intro s hI
  refine ⟨_, s, s, rfl, ?_, hI⟩
  unfold fX12_finding
  rw [hI.ga.2.2.2.1]
