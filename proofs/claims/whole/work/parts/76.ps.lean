/-! carry -/
theorem past_ps {M : IM} (h : IvPast M) : ∃ (u : Nat) (k : Nat → Nat), u ≤ 6 ∧ M 34 0 = nI u ∧ M 136 3 = nI u ∧ PS M M u k := by
  obtain ⟨a1, a2, k, a3, a4, a5⟩ := h
  obtain ⟨u, hu, eu⟩ := bnd_nI (n := 6) a2 (by decide)
  refine ⟨u, k, hu, eu, by rw [a1, eu], a3, a4, fun j hj => a5 j ?_⟩
  rw [eu, nI_clamp (by omega)]
  exact hj
theorem ps_past {M : IM} {u : Nat} {k : Nat → Nat} (hu : u ≤ 6) (h1 : M 34 0 = nI u) (h2 : M 136 3 = nI u) (h : PS M M u k) : IvPast M := by
  obtain ⟨a3, a4, a5⟩ := h
  refine ⟨by rw [h1, h2], by rw [h1]; exact bnd_n (by omega) (by omega) (by omega), k, a3, a4, fun j hj => a5 j ?_⟩
  rw [h1, nI_clamp (by omega)] at hj
  exact hj
/-- PS looks at the class's rows of C and at row 138 of D -/
theorem ps_fr {C D C' D' : IM} {u : Nat} {k : Nat → Nat} (hu : u ≤ 6) (h35 : C' 35 = C 35) (hr : ∀ p : Nat, 36 ≤ p → p ≤ 65 → C' p = C p) (h20 : C' 20 = C 20) (h22 : C' 22 = C 22) (h1 : C' 1 10 = C 1 10) (h3 : C' 3 = C 3) (h138 : D' 138 = D 138) (h : PS C D u k) : PS C' D' u k := by
  obtain ⟨a3, a4, a5⟩ := h
  refine ⟨fun j hj => by rw [h35]; exact a3 j hj, a4, fun j hj => ?_⟩
  have hk := (a3 j (by omega)).1
  rw [hr (36 + 5 * k j) (by omega) (by omega), hr (37 + 5 * k j) (by omega) (by omega), hr (38 + 5 * k j) (by omega) (by omega), hr (39 + 5 * k j) (by omega) (by omega), hr (40 + 5 * k j) (by omega) (by omega), h138, h20, h22, h1, h3]
  exact a5 j hj
