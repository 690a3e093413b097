-- the first state
theorem iX5_3 : ∀ s, s < 4 → iX5 3 s = (-1) := by decide +kernel
theorem iX10_1 : ∀ s, s < 4 → iX10 1 s = (-1) := by decide +kernel
theorem REL_first : REL iC iX10 := by
  refine ⟨0, 0, ⟨?_, ?_, ?_, ?_, ?_⟩, ⟨rfl, rfl, fun i hi => absurd hi (Nat.not_lt_zero i), fun i hi => absurd hi (Nat.not_lt_zero i)⟩, ⟨Or.inl rfl, ⟨0, by omega, rfl⟩, rfl, rfl⟩, ⟨0, by omega, rfl, rfl, fun i hi => absurd hi (Nat.not_lt_zero i)⟩, fun s hs => Or.inl ⟨iX5_3 s hs, iX10_1 s hs⟩, rfl⟩
  · exact ⟨rfl, rfl, rfl, by omega, by omega⟩
  · exact ⟨rfl, rfl, rfl, by omega, by omega⟩
  · have e : NHb (iC 1 1) 0 = 0 := rfl
    rw [e]
    exact ⟨rfl, rfl, rfl, fun h hh => absurd hh (Nat.not_lt_zero h)⟩
  · have e : NGb (iC 2 1) 0 = 0 := rfl
    rw [e]
    exact ⟨rfl, fun h hh => absurd hh (Nat.not_lt_zero h)⟩
  · exact ⟨fun g hg => absurd hg (Nat.not_lt_zero g), rfl, fun h hh => ⟨rfl, rfl⟩⟩
