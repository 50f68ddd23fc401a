/-! one more is kept, on both sides -/
/-- the first u of the table of Nows in C are the first u rows of the model's in D -/
def PS (C D : IM) (u : Nat) (k : Nat → Nat) : Prop := (∀ j : Nat, j < 6 → k j < 6 ∧ C 35 j = nI (36 + 5 * k j + 1)) ∧ (∀ i j : Nat, i < 6 → j < 6 → k i = k j → i = j) ∧
  ∀ j : Nat, j < u → RNw (C (36 + 5 * k j)) (C (37 + 5 * k j)) (C (39 + 5 * k j)) (C (40 + 5 * k j)) (fun i => D 138 (40 * j + i)) ∧ OkN (C (36 + 5 * k j)) (C (37 + 5 * k j)) (C (38 + 5 * k j)) (C (39 + 5 * k j)) (C (40 + 5 * k j)) ∧ OkL (C (36 + 5 * k j)) (C 20) (C 22) ∧ C (36 + 5 * k j) 10 = C 1 10 ∧ ∀ w : Nat, w < 10 → C (38 + 5 * k j) w = C 3 w
theorem keep_core {C D : IM} {u : Nat} {k : Nat → Nat} (hu : u < 6) (hP : PS C D u k) (hR : RNw (C 1) (C 2) (C 4) (C 5) (D 137)) (hO : OkN (C 1) (C 2) (C 3) (C 4) (C 5)) (hL : OkL (C 1) (C 20) (C 22)) (h34 : C 34 0 = nI u) (h3 : D 136 3 = nI u) : ∃ C' D', f_X5_keep_13 1 C = some (0, C') ∧ f_X12_keepsAhead_55 BG 0 D = some (0, D') ∧ PS C' D' (u + 1) k ∧ C' 34 0 = nI (u + 1) ∧ D' 136 3 = nI (u + 1) ∧ (∀ p : Nat, (p < 34 ∨ 66 ≤ p) → C' p = C p) ∧ agr [138] [(136, 3)] D D' := by
  obtain ⟨p1, p2, p3⟩ := hP
  obtain ⟨ku, eu⟩ := p1 u hu
  obtain ⟨N, b1, b2, b3, b4⟩ := become_ok (o0 := 36 + 5 * k u) (o1 := 1) (Or.inr (by omega)) C
  obtain ⟨D', d1, d2, d3, d4, d5⟩ := keep_m hu BG 0 D (by decide) (by unfold BG; omega) h3
  have n34 : N 34 = C 34 := b4 34 (by omega)
  have far : ∀ p : Nat, ¬ p = 34 → (p < 36 + 5 * k u ∨ 36 + 5 * k u + 5 ≤ p) → ms N 34 0 (nI (u + 1)) p = C p := fun p h h' => by rw [ms_ne h, b4 p h']
  have own : ∀ p : Nat, 36 ≤ p → ms N 34 0 (nI (u + 1)) p = N p := fun p h => ms_ne (by omega)
  refine ⟨ms N 34 0 (nI (u + 1)), D', ?_, d1, ⟨fun j hj => ?_, p2, fun j hj => ?_⟩, ms_it, d2, fun p hp => far p (by omega) (by omega), d5⟩
  · simp only [f_X5_keep_13, pt]
    rw [raK (j := u) (k := k u) h34 hu ku eu, cl_s b1, n34, h34, nI_1]
  · rw [far 35 (by decide) (by omega)]
    exact p1 j hj
  · rw [far 20 (by decide) (by omega), far 22 (by decide) (by omega), far 1 (by decide) (by omega), far 3 (by decide) (by omega)]
    by_cases hju : j = u
    · subst hju
      rw [own (36 + 5 * k j) (by omega), own (37 + 5 * k j) (by omega), own (38 + 5 * k j) (by omega), own (39 + 5 * k j) (by omega), own (40 + 5 * k j) (by omega)]
      have r1 : ∀ i : Nat, i < 10 → N (37 + 5 * k j) i = C 2 i := fun i hi => by have := b3 1 (by decide) (by decide) i hi; rwa [show 36 + 5 * k j + 1 = 37 + 5 * k j by omega] at this
      have r2 : ∀ i : Nat, i < 10 → N (38 + 5 * k j) i = C 3 i := fun i hi => by have := b3 2 (by decide) (by decide) i hi; rwa [show 36 + 5 * k j + 2 = 38 + 5 * k j by omega] at this
      have r3 : ∀ i : Nat, i < 10 → N (39 + 5 * k j) i = C 4 i := fun i hi => by have := b3 3 (by decide) (by decide) i hi; rwa [show 36 + 5 * k j + 3 = 39 + 5 * k j by omega] at this
      have r4 : ∀ i : Nat, i < 10 → N (40 + 5 * k j) i = C 5 i := fun i hi => by have := b3 4 (by decide) (by decide) i hi; rwa [show 36 + 5 * k j + 4 = 40 + 5 * k j by omega] at this
      have q : ∀ i : Nat, i < 40 → D' 138 (40 * j + i) = D 137 i := fun i hi => d3 i (by omega) hi
      obtain ⟨a0, a1, a2, a3, a4, a5, a6, a7, a8, a9, aw⟩ := hR
      obtain ⟨c1, c2, c3, c4, c5, cw⟩ := hO
      refine ⟨⟨?_, ?_, ?_, ?_, ?_, ?_, ?_, ?_, ?_, ?_, fun w hw => ?_⟩, ⟨?_, ?_, ?_, ?_, ?_, fun w hw => ?_⟩, ?_, b2 10 (by decide), fun w hw => r2 w hw⟩
      · show D' 138 (40 * j + 0) = _; rw [q 0 (by decide), b2 1 (by decide)]; exact a0
      · show D' 138 (40 * j + 1) = _; rw [q 1 (by decide), b2 0 (by decide)]; exact a1
      · show D' 138 (40 * j + 2) = _; rw [q 2 (by decide), b2 9 (by decide)]; exact a2
      · show D' 138 (40 * j + 3) = _; rw [q 3 (by decide), b2 2 (by decide)]; exact a3
      · show D' 138 (40 * j + 4) = _; rw [q 4 (by decide), b2 3 (by decide)]; exact a4
      · show D' 138 (40 * j + 5) = _; rw [q 5 (by decide), b2 4 (by decide)]; exact a5
      · show D' 138 (40 * j + 6) = _; rw [q 6 (by decide), b2 5 (by decide)]; exact a6
      · show D' 138 (40 * j + 7) = _; rw [q 7 (by decide), b2 6 (by decide)]; exact a7
      · show D' 138 (40 * j + 8) = _; rw [q 8 (by decide), b2 7 (by decide)]; exact a8
      · show D' 138 (40 * j + 9) = _; rw [q 9 (by decide), b2 8 (by decide)]; exact a9
      · show D' 138 (40 * j + (10 + w)) = _ ∧ D' 138 (40 * j + (20 + w)) = _ ∧ D' 138 (40 * j + (30 + w)) = _
        rw [q (10 + w) (by omega), q (20 + w) (by omega), q (30 + w) (by omega), r3 w hw, r4 w hw, r1 w hw]
        exact aw w hw
      · rw [b2 1 (by decide)]; exact c1
      · rw [b2 4 (by decide), b2 1 (by decide)]; exact c2
      · rw [b2 8 (by decide)]; exact c3
      · rw [b2 9 (by decide)]; exact c4
      · rw [b2 10 (by decide)]; exact c5
      · rw [r1 w hw, r2 w hw, r3 w hw, r4 w hw]; exact cw w hw
      · unfold OkL at *
        rw [b2 2 (by decide), b2 3 (by decide)]; exact hL
    · have hlt : j < u := by omega
      have hne : ¬ k j = k u := fun e => hju (p2 j u (by omega) hu e)
      have kj := (p1 j (by omega)).1
      have q : (fun i => D' 138 (40 * j + i)) = fun i => D' 138 (40 * j + i) := rfl
      rw [far (36 + 5 * k j) (by omega) (by omega), far (37 + 5 * k j) (by omega) (by omega), far (38 + 5 * k j) (by omega) (by omega), far (39 + 5 * k j) (by omega) (by omega), far (40 + 5 * k j) (by omega) (by omega)]
      obtain ⟨⟨a0, a1, a2, a3, a4, a5, a6, a7, a8, a9, aw⟩, rest⟩ := p3 j hlt
      have z : ∀ i : Nat, i < 40 → D' 138 (40 * j + i) = D 138 (40 * j + i) := fun i hi => d4 _ (by omega)
      refine ⟨⟨(z 0 (by decide)).trans a0, (z 1 (by decide)).trans a1, (z 2 (by decide)).trans a2, (z 3 (by decide)).trans a3, (z 4 (by decide)).trans a4, (z 5 (by decide)).trans a5, (z 6 (by decide)).trans a6, (z 7 (by decide)).trans a7, (z 8 (by decide)).trans a8, (z 9 (by decide)).trans a9, fun w hw => ⟨(z (10 + w) (by omega)).trans (aw w hw).1, (z (20 + w) (by omega)).trans (aw w hw).2.1, (z (30 + w) (by omega)).trans (aw w hw).2.2⟩⟩, rest⟩
