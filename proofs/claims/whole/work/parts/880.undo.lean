/-! undo -/
theorem st_undo : Stp2 Inv (fun M => f_X11_undo M) (fun M => f_X12_undo M) := by
  intro M hI
  obtain ⟨hN, hT, hB, hP, hTp, hF, hW, hG⟩ := id hI
  obtain ⟨u, k, hu, e34, e3, p1, p2, p3⟩ := past_ps hP
  by_cases h0 : u = 0
  · subst h0
    refine ⟨0, M, ms M 136 0 0, ?_, ?_, Inv_same same_told hI⟩
    · have : f_X5_goBack 1 M = some (0, M) := by
        unfold f_X5_goBack
        rw [e34, if_neg (by decide)]
      show f_X11_undo M = _
      unfold f_X11_undo
      rw [cl_s this]
      rfl
    · show f_X12_undo M = _
      simp only [f_X12_undo, pt]
      rw [if_pos (show ms M 136 0 0 136 3 = 0 by rw [ms_at (by decide), e3]; rfl)]
  obtain ⟨v, rfl⟩ : ∃ v, u = v + 1 := ⟨u - 1, by omega⟩
  obtain ⟨kv, ev⟩ := p1 v (by omega)
  obtain ⟨N, b1, b2, b3, b4⟩ := become_ok (o0 := 1) (o1 := 36 + 5 * k v) (Or.inl (by omega)) (ms M 34 0 (nI v))
  have m34 : ∀ p : Nat, ¬ p = 34 → ms M 34 0 (nI v) p = M p := fun p h => ms_ne h
  have n2 : ∀ i : Nat, i ≤ 10 → N 1 i = M (36 + 5 * k v) i := fun i hi => by rw [b2 i hi, m34 _ (by omega)]
  have n3 : ∀ j : Nat, 1 ≤ j → j ≤ 4 → ∀ i : Nat, i < 10 → N (1 + j) i = M (36 + 5 * k v + j) i := fun j h1 h4 i hi => by rw [b3 j h1 h4 i hi, m34 _ (by omega)]
  have n4 : ∀ p : Nat, (p < 1 ∨ 6 ≤ p) → ¬ p = 34 → N p = M p := fun p h h' => by rw [b4 p (by omega), m34 _ h']
  have n34 : N 34 0 = nI v := by rw [b4 34 (by omega), ms_it]
  have e1 : f_X11_undo M = some (1, N) := by
    have : f_X5_goBack 1 M = some (1, N) := by
      simp only [f_X5_goBack, pt]
      rw [e34, if_pos (show (0 : Int32) < nI (v + 1) from nI_lt (a := 0) (by omega) (by omega)), nI_pred, raK (j := v) (k := k v) ms_it (by omega) kv (by rw [m34 _ (by decide)]; exact ev), cl_s b1]
    unfold f_X11_undo
    rw [cl_s this]
    rfl
  have d3 : N 136 3 = nI (v + 1) := by rw [n4 136 (by omega) (by decide)]; exact e3
  obtain ⟨D, c1, c2, c3, c4⟩ := back_m (u := v) (by omega) BG 0 (ms (ms N 136 0 0) 136 3 (nI v)) (by decide) (by unfold BG; omega) ms_it
  have e2 : f_X12_undo N = some (1, D) := by
    simp only [f_X12_undo, pt]
    rw [ms_at (by decide), d3, if_neg (nI_ne0 (by omega) (by omega)), nI_pred]
    exact c1
  refine ⟨1, N, D, e1, e2, ?_⟩
  have r : ∀ p : Nat, ¬ p = 136 → ¬ p = 137 → D p = N p := fun p h1 h2 => by
    funext i
    rw [c4 p i (by simpa using h2) (by simp), ms_ne h1, ms_ne h1]
  have r136 : ∀ i : Nat, ¬ i = 0 → ¬ i = 3 → D 136 i = M 136 i := fun i h1 h2 => by
    rw [c4 136 i (by decide) (by simp), ms_at h2, ms_at h1, n4 136 (by omega) (by decide)]
  have r1363 : D 136 3 = nI v := by rw [c4 136 3 (by decide) (by simp), ms_it]
  have r137 : ∀ i : Nat, i < 40 → D 137 i = M 138 (40 * v + i) := fun i hi => by
    rw [c2 i (by omega) hi, ms_ne (by decide), ms_ne (by decide), n4 138 (by omega) (by decide)]
  have far : ∀ p : Nat, (p < 1 ∨ 6 ≤ p) → ¬ p = 34 → ¬ p = 136 → ¬ p = 137 → D p = M p := fun p h1 h2 h3 h4 => by rw [r p h3 h4, n4 p h1 h2]
  have q1 : ∀ i : Nat, i ≤ 10 → D 1 i = M (36 + 5 * k v) i := fun i hi => by rw [r 1 (by decide) (by decide), n2 i hi]
  have q2 : ∀ i : Nat, i < 10 → D 2 i = M (37 + 5 * k v) i := fun i hi => by rw [r 2 (by decide) (by decide), n3 1 (by decide) (by decide) i hi, show 36 + 5 * k v + 1 = 37 + 5 * k v by omega]
  have q3 : ∀ i : Nat, i < 10 → D 3 i = M (38 + 5 * k v) i := fun i hi => by rw [r 3 (by decide) (by decide), n3 2 (by decide) (by decide) i hi, show 36 + 5 * k v + 2 = 38 + 5 * k v by omega]
  have q4 : ∀ i : Nat, i < 10 → D 4 i = M (39 + 5 * k v) i := fun i hi => by rw [r 4 (by decide) (by decide), n3 3 (by decide) (by decide) i hi, show 36 + 5 * k v + 3 = 39 + 5 * k v by omega]
  have q5 : ∀ i : Nat, i < 10 → D 5 i = M (40 + 5 * k v) i := fun i hi => by rw [r 5 (by decide) (by decide), n3 4 (by decide) (by decide) i hi, show 36 + 5 * k v + 4 = 40 + 5 * k v by omega]
  obtain ⟨⟨a0, a1, a2, a3, a4, a5, a6, a7, a8, a9, aw⟩, ⟨o1, o2, o3, o4, o5, ow⟩, hL, hw, hl⟩ := p3 v (by omega)
  obtain ⟨-, -, -, dw, dl⟩ := hN
  have q110 : D 1 10 = M 1 10 := by rw [q1 10 (by decide), hw]
  refine ⟨⟨⟨?_, ?_, ?_, ?_, ?_, ?_, ?_, ?_, ?_, ?_, fun w hw => ?_⟩, ⟨?_, ?_, ?_, ?_, ?_, fun w hw => ?_⟩, ?_, ?_, fun w hw => ?_⟩,
    fr_Told (fun p h1 h2 => far p (by omega) (by omega) (by omega) (by omega)) q110 (r136 _ (by decide) (by decide)) (r136 _ (by decide) (by decide)) (r136 _ (by decide) (by decide)) (r136 _ (by decide) (by decide)) (r136 _ (by decide) (by decide)) (far _ (by decide) (by decide) (by decide) (by decide)) (fun p h1 h2 => far p (by omega) (by omega) (by omega) (by omega)) (far _ (by decide) (by decide) (by decide) (by decide)) (far _ (by decide) (by decide) (by decide) (by decide)) hT,
    fr_Book (far _ (by decide) (by decide) (by decide) (by decide)) (far _ (by decide) (by decide) (by decide) (by decide)) (far _ (by decide) (by decide) (by decide) (by decide)) (far _ (by decide) (by decide) (by decide) (by decide)) hB,
    ps_past (u := v) (k := k) (by omega) (by rw [r 34 (by decide) (by decide), n34]) r1363 ⟨fun j hj => by rw [far 35 (by decide) (by decide) (by decide) (by decide)]; exact p1 j hj, p2, fun j hj => ?_⟩,
    fr_Tape (r136 _ (by decide) (by decide)) (congrFun (far 0 (by decide) (by decide) (by decide) (by decide)) 9) (far _ (by decide) (by decide) (by decide) (by decide)) (far _ (by decide) (by decide) (by decide) (by decide)) hTp,
    fr_Fault (r136 _ (by decide) (by decide)) (r136 _ (by decide) (by decide)) (r136 _ (by decide) (by decide)) (congrFun (far 100 (by decide) (by decide) (by decide) (by decide)) 0) (congrFun (far 100 (by decide) (by decide) (by decide) (by decide)) 1) hF,
    fr_Words (far _ (by decide) (by decide) (by decide) (by decide)) hW,
    fr_Img (fun p h1 h2 _ _ => far p (by omega) (by omega) (by omega) (by omega)) (congrFun (far 0 (by decide) (by decide) (by decide) (by decide)) 7) (r136 _ (by decide) (by decide)) (far _ (by decide) (by decide) (by decide) (by decide)) hG⟩
  · rw [r137 0 (by decide), q1 1 (by decide)]; exact a0
  · rw [r137 1 (by decide), q1 0 (by decide)]; exact a1
  · rw [r137 2 (by decide), q1 9 (by decide)]; exact a2
  · rw [r137 3 (by decide), q1 2 (by decide)]; exact a3
  · rw [r137 4 (by decide), q1 3 (by decide)]; exact a4
  · rw [r137 5 (by decide), q1 4 (by decide)]; exact a5
  · rw [r137 6 (by decide), q1 5 (by decide)]; exact a6
  · rw [r137 7 (by decide), q1 6 (by decide)]; exact a7
  · rw [r137 8 (by decide), q1 7 (by decide)]; exact a8
  · rw [r137 9 (by decide), q1 8 (by decide)]; exact a9
  · rw [r137 (10 + w) (by omega), r137 (20 + w) (by omega), r137 (30 + w) (by omega), q4 w hw, q5 w hw, q2 w hw]
    exact aw w hw
  · rw [q1 1 (by decide)]; exact o1
  · rw [q1 4 (by decide), q1 1 (by decide)]; exact o2
  · rw [q1 8 (by decide)]; exact o3
  · rw [q1 9 (by decide)]; exact o4
  · rw [q1 10 (by decide)]; exact o5
  · rw [q2 w hw, q3 w hw, q4 w hw, q5 w hw]; exact ow w hw
  · unfold OkL at *
    rw [q1 2 (by decide), q1 3 (by decide), far 20 (by decide) (by decide) (by decide) (by decide), far 22 (by decide) (by decide) (by decide) (by decide)]
    exact hL
  · rw [r136 6 (by decide) (by decide), q110]; exact dw
  · rw [far 140 (by decide) (by decide) (by decide) (by decide), q3 w hw, hl w hw]; exact dl w hw
  · have kj := (p1 j (by omega)).1
    obtain ⟨z1, z2, z3, z4, z5⟩ := p3 j (by omega)
    rw [far (36 + 5 * k j) (by omega) (by omega) (by omega) (by omega), far (37 + 5 * k j) (by omega) (by omega) (by omega) (by omega), far (38 + 5 * k j) (by omega) (by omega) (by omega) (by omega), far (39 + 5 * k j) (by omega) (by omega) (by omega) (by omega), far (40 + 5 * k j) (by omega) (by omega) (by omega) (by omega), far 138 (by decide) (by decide) (by decide) (by decide), far 20 (by decide) (by decide) (by decide) (by decide), far 22 (by decide) (by decide) (by decide) (by decide), q110]
    exact ⟨z1, z2, z3, z4, fun w hw => by rw [z5 w hw, q3 w hw, hl w hw]⟩
