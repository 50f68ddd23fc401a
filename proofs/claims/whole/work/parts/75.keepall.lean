/-! keep and keepsAhead, also when six are kept already -/
theorem keep_sim {C D : IM} {u : Nat} {k : Nat → Nat} (hu : u ≤ 6) (hP : PS C D u k) (hR : RNw (C 1) (C 2) (C 4) (C 5) (D 137)) (hO : OkN (C 1) (C 2) (C 3) (C 4) (C 5)) (hL : OkL (C 1) (C 20) (C 22)) (h34 : C 34 0 = nI u) (h3 : D 136 3 = nI u) : ∃ (C' D' : IM) (v : Nat) (k' : Nat → Nat), f_X5_keep 1 C = some (0, C') ∧ f_X12_keepsAhead D = some (0, D') ∧ v < 6 ∧ PS C' D' (v + 1) k' ∧ C' 34 0 = nI (v + 1) ∧ D' 136 3 = nI (v + 1) ∧ (∀ p : Nat, (p < 34 ∨ 66 ≤ p) → C' p = C p) ∧ agr [138] [(136, 3)] D D' := by
  by_cases h6 : u = 6
  · subst h6
    obtain ⟨p1, p2, p3⟩ := hP
    obtain ⟨k0, e0⟩ := p1 0 (by decide)
    obtain ⟨C1, c1, c2, c3, c4, c5, c6⟩ := drop_l (o := 36 + 5 * k 0) BG 1 C k (by decide) (by decide) (by unfold BG; omega) h34 (fun j _ hj => p1 j hj)
    have hd : f_X5_dropOldest C = some (0, C1) := by
      unfold f_X5_dropOldest
      rw [raK (i := 0) (j := 0) (k := k 0) rfl (by decide) k0 e0, ← c1]
      rfl
    obtain ⟨D1, s1, s2, s3, s4, s5⟩ := shift_m BG 0 (ms D 136 3 (nI 5)) (by decide) (by unfold BG; omega) ms_it
    have hk : f_X12_keepsAhead D = f_X12_keepsAhead_55 BG 0 D1 := by
      simp only [f_X12_keepsAhead, pt]
      rw [h3, if_pos (show nI 6 = 6 from rfl), show nI 6 - 1 = nI 5 by decide]
      exact s1
    have crow : ∀ p : Nat, ¬ p = 35 → ¬ p = 34 → C1 p = C p := fun p h h' => funext fun i => c6 p i (by simp [h]) (by simp [h'])
    have hP1 : PS C1 D1 5 (fun j => if j < 5 then k (j + 1) else k 0) := by
      refine ⟨fun j hj => ?_, fun i j hi hj => ?_, fun j hj => ?_⟩
      · by_cases h : j < 5
        · simp only [if_pos h]
          obtain ⟨a, b⟩ := p1 (j + 1) (by omega)
          refine ⟨a, ?_⟩
          have := c3 (j + 1) (by omega) (by omega)
          rw [Nat.add_sub_cancel] at this
          rw [this, b]
        · have : j = 5 := by omega
          subst this
          simp only [if_neg h]
          exact ⟨k0, c5⟩
      · intro h
        by_cases h1 : i < 5
        · by_cases h2 : j < 5
          · simp only [if_pos h1, if_pos h2] at h
            have := p2 (i + 1) (j + 1) (by omega) (by omega) h
            omega
          · simp only [if_pos h1, if_neg h2] at h
            have := p2 (i + 1) 0 (by omega) (by omega) h
            omega
        · by_cases h2 : j < 5
          · simp only [if_neg h1, if_pos h2] at h
            have := p2 0 (j + 1) (by omega) (by omega) h
            omega
          · omega
      · simp only [if_pos hj]
        obtain ⟨⟨a0, a1, a2, a3, a4, a5, a6, a7, a8, a9, aw⟩, rest⟩ := p3 (j + 1) (by omega)
        rw [crow (36 + 5 * k (j + 1)) (by omega) (by omega), crow (37 + 5 * k (j + 1)) (by omega) (by omega), crow (38 + 5 * k (j + 1)) (by omega) (by omega), crow (39 + 5 * k (j + 1)) (by omega) (by omega), crow (40 + 5 * k (j + 1)) (by omega) (by omega), crow 20 (by decide) (by decide), crow 22 (by decide) (by decide), crow 1 (by decide) (by decide), crow 3 (by decide) (by decide)]
        have z : ∀ i : Nat, i < 40 → D1 138 (40 * j + i) = D 138 (40 * (j + 1) + i) := fun i hi => by
          rw [s3 (40 * j + i) (by omega) (by omega), ms_ne (by decide), show 40 * j + i + 40 = 40 * (j + 1) + i by omega]
        exact ⟨⟨(z 0 (by decide)).trans a0, (z 1 (by decide)).trans a1, (z 2 (by decide)).trans a2, (z 3 (by decide)).trans a3, (z 4 (by decide)).trans a4, (z 5 (by decide)).trans a5, (z 6 (by decide)).trans a6, (z 7 (by decide)).trans a7, (z 8 (by decide)).trans a8, (z 9 (by decide)).trans a9, fun w hw => ⟨(z (10 + w) (by omega)).trans (aw w hw).1, (z (20 + w) (by omega)).trans (aw w hw).2.1, (z (30 + w) (by omega)).trans (aw w hw).2.2⟩⟩, rest⟩
    have d137 : D1 137 = D 137 := (agr_row (LR := [137]) (LC := []) s5 (by decide) (by decide)).trans (ms_ne (by decide))
    obtain ⟨C', D', f1, f2, f3, f4, f5, f6, f7⟩ := keep_core (by decide) hP1 (by rw [crow 1 (by decide) (by decide), crow 2 (by decide) (by decide), crow 4 (by decide) (by decide), crow 5 (by decide) (by decide), d137]; exact hR) (by rw [crow 1 (by decide) (by decide), crow 2 (by decide) (by decide), crow 3 (by decide) (by decide), crow 4 (by decide) (by decide), crow 5 (by decide) (by decide)]; exact hO) (by rw [crow 1 (by decide) (by decide), crow 20 (by decide) (by decide), crow 22 (by decide) (by decide)]; exact hL) c2 s2
    refine ⟨C', D', 5, _, ?_, by rw [hk]; exact f2, by decide, f3, f4, f5, fun p hp => (f6 p hp).trans (crow p (by omega) (by omega)), ?_⟩
    · unfold f_X5_keep
      rw [h34, if_pos (show nI 6 = 6 from rfl), cl_s hd]
      exact f1
    · intro p i hp hi
      rw [f7 p i hp hi, s5 p i hp (by simp)]
      unfold ms
      rw [if_neg]
      rintro ⟨rfl, rfl⟩
      exact hi (by decide)
  · have hlt : u < 6 := by omega
    have hne : ¬ nI u = 6 := fun e => h6 ((nI_eq (b := 6) (by omega) (by decide)).mp e)
    obtain ⟨C', D', f1, f2, f3, f4, f5, f6, f7⟩ := keep_core hlt hP hR hO hL h34 h3
    refine ⟨C', D', u, k, ?_, ?_, hlt, f3, f4, f5, f6, f7⟩
    · unfold f_X5_keep
      rw [h34, if_neg hne]
      exact f1
    · simp only [f_X12_keepsAhead, pt]
      rw [h3, if_neg hne]
      exact f2
