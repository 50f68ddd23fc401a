/-! the invariant at the start -/
theorem Inv_M0 : Inv M0 := by
  refine ⟨⟨?_, ?_, Or.inl ?_, ?_, ?_⟩, told_of ?_ ?_ ?_ ?_ ?_ ?_, ?_, ⟨?_, ?_, fun j => j, ?_, fun i j _ _ h => h, ?_⟩, ⟨?_, ?_, ?_⟩, ?_, fun _ _ => rfl, Or.inl ?_⟩
  · unfold RNw; decide +kernel
  · unfold OkN bnd; decide +kernel
  · decide +kernel
  · decide +kernel
  · decide +kernel
  · unfold IvT1 bnd; decide +kernel
  · unfold IvRoads bnd; decide +kernel
  · exact ⟨[], by decide, fun x h => (by cases h), by decide, by decide, by decide +kernel, by decide +kernel, by decide +kernel, trivial, trivial⟩
  · exact ⟨[], by decide, fun x h => (by cases h), by decide, by decide, by decide +kernel, by decide +kernel, by decide +kernel, trivial, trivial⟩
  · refine ⟨by decide +kernel, by unfold bnd; decide +kernel, fun i hi => ?_⟩
    rw [show (M0 20 0).toNatClampNeg = 0 by decide +kernel] at hi
    omega
  · refine ⟨by decide +kernel, by unfold bnd; decide +kernel, fun i hi => ?_⟩
    rw [show (M0 25 0).toNatClampNeg = 0 by decide +kernel] at hi
    omega
  · unfold IvBook; decide +kernel
  · decide +kernel
  · unfold bnd; decide +kernel
  · intro j hj
    refine ⟨hj, ?_⟩
    have h : ∀ j : Nat, j < 6 → M0 35 j = nI (36 + 5 * j + 1) := by decide +kernel
    exact h j hj
  · intro j hj
    rw [show (M0 34 0).toNatClampNeg = 0 by decide +kernel] at hj
    omega
  · decide +kernel
  · unfold bnd; decide +kernel
  · unfold bnd; decide +kernel
  · unfold IvFault; decide +kernel
  · decide +kernel
