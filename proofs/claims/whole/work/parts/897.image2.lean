/-! image: the step -/
theorem len_of {feet : Bool} {a wo fr wh sp co : Nat → Int32} {lm : Int32} {m1 m2 m3 m4 m5 m6 : Nat → Int32} (h : RLw feet a wo fr wh sp co lm m1 m2 m3 m4 m5 m6) : ∃ N : Nat, N ≤ 400 ∧ a 5 = nI N := by
  obtain ⟨l, b1, b2, b3, b4, b5, b6, -⟩ := h
  exact ⟨lnLen l, b3, b6⟩
theorem st_taken : Stp2 Inv (f_X11_image 1) (f_X12_image 1) := by
  intro M hI
  obtain ⟨hN, hT, hB, hP, hTp, hF, hW, hG⟩ := id hI
  obtain ⟨u1, u2, u3, u4, u5, u6⟩ := told_to hT
  obtain ⟨N0, n0, e0⟩ := len_of u3
  obtain ⟨N1, n1, e1⟩ := len_of u4
  obtain ⟨A, a1, a2, a3, a4⟩ := become_ok (o0 := 66) (o1 := 1) (Or.inr (by omega)) M
  obtain ⟨B, b1, b2, b3⟩ := told_become (M := A) (o0 := 71) (o1 := 6) (N0 := N0) (N1 := N1) (Or.inr (by omega)) n0 n1 (by rw [a4 (6 + 2) (by omega)]; exact e0) (by rw [a4 (6 + 8) (by omega)]; exact e1)
  obtain ⟨C, c1, c2, c3⟩ := book_become (M := B) (o0 := 95) (o1 := 30) (Or.inr (by omega))
  have eC : f_X11_image 1 M = some (1, ms C 0 7 1) := by
    unfold f_X11_image pz
    rw [if_neg (by decide), cl_s a1, cl_s b1, cl_s c1, if_pos (Or.inr rfl)]
  obtain ⟨X, x1, xn, ⟨x40, x41, x42, x43, x44, x45⟩, xl, xr, xs, xh, xb, ⟨x650, xw0, xc0⟩, ⟨x1515, xw1, xc1⟩, x50, xp, x136⟩ := takes_m (D := ms (ms C 0 7 1) 136 0 0)
  have eX : f_X12_image 1 (ms C 0 7 1) = some (1, X) := by
    simp only [f_X12_image, pt]
    rw [if_neg (by decide)]
    exact x1
  -- the class's rows, as they are at the end
  have am : ∀ p : Nat, (p < 66 ∨ 71 ≤ p) → A p = M p := fun p h => a4 p (by omega)
  have bm : ∀ p : Nat, (p < 66 ∨ 93 ≤ p) → B p = M p := fun p h => by rw [b3 p (by omega), am p (by omega)]
  have cm : ∀ p : Nat, (p < 66 ∨ 99 ≤ p) → C p = M p := fun p h => by rw [c3 p (by omega), bm p (by omega)]
  have dr : ∀ p : Nat, ¬ p = 0 → ¬ p = 136 → ms (ms C 0 7 1) 136 0 0 p = C p := fun p h1 h2 => by rw [ms_ne h2, ms_ne h1]
  have d136 : ∀ i : Nat, ¬ i = 0 → ms (ms C 0 7 1) 136 0 0 136 i = M 136 i := fun i h => by rw [ms_at h, ms_ne (by decide), cm 136 (by omega)]
  have dm : ∀ p : Nat, 99 ≤ p → ¬ p = 136 → ms (ms C 0 7 1) 136 0 0 p = M p := fun p h1 h2 => by rw [dr p (by omega) h2, cm p (by omega)]
  have Xr : ∀ p : Nat, ¬ p = 0 → ¬ p = 136 → ¬ p = 164 → X p = C p := fun p h1 h2 h3 => by rw [xp p h3 h2, dr p h1 h2]
  have Xm : ∀ p : Nat, ¬ p = 0 → ¬ p = 136 → ¬ p = 164 → (p < 66 ∨ 99 ≤ p) → X p = M p := fun p h1 h2 h3 h4 => by rw [Xr p h1 h2 h3, cm p h4]
  have X136 : ∀ i : Nat, ¬ i = 0 → ¬ i = 49 → ¬ i = 50 → ¬ i = 51 → X 136 i = M 136 i := fun i h0 h1 h2 h3 => by rw [x136 i h1 h2 h3, d136 i h0]
  have X0c : ∀ i : Nat, ¬ i = 7 → X 0 i = M 0 i := fun i h => by rw [xp 0 (by decide) (by decide), ms_ne (by decide), ms_at h, cm 0 (by omega)]
  have hA : agr ([66, 67, 68, 69, 70] ++ (List.range 22).map (fun i => 71 + i) ++ [96, 97, 98, 164]) [(0, 7), (136, 0), (136, 49), (136, 50), (136, 51)] M X := fun p i hp hi => by
    simp only [List.mem_append, List.mem_cons, List.not_mem_nil, or_false, not_or, List.mem_map, List.mem_range, Prod.mk.injEq] at hp hi
    by_cases h0 : p = 0
    · subst h0
      exact X0c i (fun e => hi.1 ⟨rfl, e⟩)
    · by_cases h6 : p = 136
      · subst h6
        exact X136 i (fun e => hi.2.1 ⟨rfl, e⟩) (fun e => hi.2.2.1 ⟨rfl, e⟩) (fun e => hi.2.2.2.1 ⟨rfl, e⟩) (fun e => hi.2.2.2.2 ⟨rfl, e⟩)
      · rw [Xr p h0 h6 hp.2.2.2.2, c3 p (by omega)]
        have h71 : p < 71 ∨ 93 ≤ p := by
          rcases Nat.lt_or_ge p 71 with q | q
          · exact Or.inl q
          · rcases Nat.lt_or_ge p 93 with q2 | q2
            · exact absurd ⟨p - 71, by omega, by omega⟩ hp.1.2
            · exact Or.inr q2
        rw [b3 p (by omega), a4 p (by omega)]
  refine ⟨1, _, X, eC, eX, ag_Now hA (by decide) hN, ag_Told hA (by decide +kernel) hT, ag_Book hA (by decide) hB, ag_Past hA (by decide +kernel) hP, ag_Tape hA (by decide) hTp, ag_Fault hA (by decide) hF, ag_Words hA (by decide) hW, Or.inr ⟨?_, x50, ?_, ?_, ?_, ?_, fun w hw => ?_, ?_, fun i hi => ?_⟩⟩
  -- the Now of the image
  · rw [xp 0 (by decide) (by decide), ms_ne (by decide), ms_it]
  · have rn : ∀ i : Nat, i ≤ 10 → X 66 i = M 1 i := fun i hi => by rw [Xr 66 (by decide) (by decide) (by decide), c3 66 (by omega), b3 66 (by omega), a2 i hi]
    have rk : ∀ k : Nat, 1 ≤ k → k ≤ 4 → ∀ i : Nat, i < 10 → X (66 + k) i = M (1 + k) i := fun k h1 h4 i hi => by rw [Xr (66 + k) (by omega) (by omega) (by omega), c3 (66 + k) (by omega), b3 (66 + k) (by omega), a3 k h1 h4 i hi]
    exact RNw_congr2 rn (rk 1 (by decide) (by decide)) (rk 3 (by decide) (by decide)) (rk 4 (by decide) (by decide)) (fun i hi => by rw [xn i hi, dm 137 (by decide) (by decide)]) hN.1
  · have rn : ∀ i : Nat, i ≤ 10 → X 66 i = M 1 i := fun i hi => by rw [Xr 66 (by decide) (by decide) (by decide), c3 66 (by omega), b3 66 (by omega), a2 i hi]
    have rk : ∀ k : Nat, 1 ≤ k → k ≤ 4 → ∀ i : Nat, i < 10 → X (66 + k) i = M (1 + k) i := fun k h1 h4 i hi => by rw [Xr (66 + k) (by omega) (by omega) (by omega), c3 (66 + k) (by omega), b3 (66 + k) (by omega), a3 k h1 h4 i hi]
    exact OkN_congr rn (rk 1 (by decide) (by decide)) (rk 2 (by decide) (by decide)) (rk 3 (by decide) (by decide)) (rk 4 (by decide) (by decide)) hN.2.1
  · have rt : ∀ p : Nat, 71 ≤ p → p < 93 → X p = B p := fun p h1 h2 => by rw [Xr p (by omega) (by omega) (by omega), c3 p (by omega)]
    obtain ⟨t1, t2, t3, t4, ⟨t5, t6⟩, t7⟩ := b2
    exact OkL_congr (by rw [Xr 66 (by decide) (by decide) (by decide), c3 66 (by omega), b3 66 (by omega), a2 2 (by decide)]) (by rw [Xr 66 (by decide) (by decide) (by decide), c3 66 (by omega), b3 66 (by omega), a2 3 (by decide)]) (by rw [rt 85 (by omega) (by omega)]; exact t5.trans (by rw [am 20 (by omega)])) u5.2.1 (fun i hi => by rw [rt 87 (by omega) (by omega)]; exact (t6 16 (by decide) (by decide) i hi).trans (by rw [am 22 (by omega)])) hN.2.2.1
  · rw [x40, d136 6 (by decide), Xr 66 (by decide) (by decide) (by decide), c3 66 (by omega), b3 66 (by omega), a2 10 (by decide)]
    exact hN.2.2.2.1
  · rw [xl w hw, dm 140 (by decide) (by decide), Xr 68 (by decide) (by decide) (by decide), c3 68 (by omega), b3 68 (by omega), a3 2 (by decide) (by decide) w hw]
    exact hN.2.2.2.2 w hw
  · have rt : ∀ p : Nat, 71 ≤ p → p < 93 → X p = B p := fun p h1 h2 => by rw [Xr p (by omega) (by omega) (by omega), c3 p (by omega)]
    obtain ⟨t1, t2, ⟨t3a, t3b, t3c, t3d⟩, ⟨t4a, t4b, t4c, t4d⟩, ⟨t5, t6⟩, t7, t8, t9⟩ := b2
    have B1 : ∀ i : Nat, i ≤ 2 → X 71 i = M 6 i := fun i hi => by rw [rt 71 (by omega) (by omega), t1 i hi, am 6 (by omega)]
    refine ⟨?_, ?_, ?_, ?_, ?_, ?_, fun i hi => ?_, ?_, ?_, ?_, ?_⟩
    · rw [x41, d136 8 (by decide), B1 0 (by decide)]; exact u1.1
    · rw [x42, d136 9 (by decide), B1 1 (by decide)]; exact u1.2.1
    · rw [x43, d136 10 (by decide), B1 2 (by decide)]; exact u1.2.2.1
    · rw [B1 0 (by decide)]; exact u1.2.2.2.1
    · rw [B1 1 (by decide)]; exact u1.2.2.2.2.1
    · rw [B1 2 (by decide)]; exact u1.2.2.2.2.2
    · show X 164 (56 + i) = X (71 + 1) i ∧ bnd (X (71 + 1) i) 0 99
      rw [xr i hi, dm 141 (by decide) (by decide), rt (71 + 1) (by omega) (by omega), t2 i hi, am (6 + 1) (by omega)]
      exact u2 i hi
    · have hL : RLw false (M 8) (M 9) (M 10) (M 11) (M 12) (M 13) (M 145 0) (M 146) (M 147) (M 148) (M 149) (M 150) (M 151) := u3
      refine RLw_congr (N := N0) e0 n0 ?_ ?_ ?_ ?_ ?_ ?_ ?_ ?_ ?_ ?_ ?_ ?_ ?_ ?_ hL
      · rw [rt (71 + 2) (by omega) (by omega), t3a, am (6 + 2) (by omega)]
      · rw [rt (71 + 2) (by omega) (by omega), t3b, am (6 + 2) (by omega)]
      · exact fun i hi => by rw [rt (71 + 3) (by omega) (by omega), t3c 3 (by decide) (by decide) i hi, am (6 + 3) (by omega)]
      · exact fun i hi => by rw [rt (71 + 4) (by omega) (by omega), t3c 4 (by decide) (by decide) i hi, am (6 + 4) (by omega)]
      · exact fun i hi => by rw [rt (71 + 5) (by omega) (by omega), t3c 5 (by decide) (by decide) i hi, am (6 + 5) (by omega)]
      · exact fun i hi => by rw [rt (71 + 6) (by omega) (by omega), t3c 6 (by decide) (by decide) i hi, am (6 + 6) (by omega)]
      · exact fun i hi => by rw [rt (71 + 7) (by omega) (by omega), t3d i hi, am (6 + 7) (by omega)]
      · rw [x650, dm 145 (by decide) (by decide)]
      · exact fun i hi => by show X 164 (651 + 4 * i) = _; rw [(xw0 i hi).1, dm 146 (by decide) (by decide)]
      · exact fun i hi => by show X 164 (652 + 4 * i) = _; rw [(xw0 i hi).2.1, dm 147 (by decide) (by decide)]
      · exact fun i hi => by show X 164 (653 + 4 * i) = _; rw [(xw0 i hi).2.2.1, dm 148 (by decide) (by decide)]
      · exact fun i hi => by show X 164 (654 + 4 * i) = _; rw [(xw0 i hi).2.2.2, dm 149 (by decide) (by decide)]
      · exact fun i hi => by show X 164 (715 + 2 * i) = _; rw [(xc0 i hi).1, dm 150 (by decide) (by decide)]
      · exact fun i hi => by show X 164 (716 + 2 * i) = _; rw [(xc0 i hi).2, dm 151 (by decide) (by decide)]
    · have hL : RLw true (M 14) (M 15) (M 16) (M 17) (M 18) (M 19) (M 145 1) (fun i => M 146 (16 + i)) (fun i => M 147 (16 + i)) (fun i => M 148 (16 + i)) (fun i => M 149 (16 + i)) (fun i => M 150 (400 + i)) (fun i => M 151 (400 + i)) := u4
      refine RLw_congr (N := N1) e1 n1 ?_ ?_ ?_ ?_ ?_ ?_ ?_ ?_ ?_ ?_ ?_ ?_ ?_ ?_ hL
      · rw [rt (71 + 8) (by omega) (by omega), t4a, am (6 + 8) (by omega)]
      · rw [rt (71 + 8) (by omega) (by omega), t4b, am (6 + 8) (by omega)]
      · exact fun i hi => by rw [rt (71 + 9) (by omega) (by omega), t4c 9 (by decide) (by decide) i hi, am (6 + 9) (by omega)]
      · exact fun i hi => by rw [rt (71 + 10) (by omega) (by omega), t4c 10 (by decide) (by decide) i hi, am (6 + 10) (by omega)]
      · exact fun i hi => by rw [rt (71 + 11) (by omega) (by omega), t4c 11 (by decide) (by decide) i hi, am (6 + 11) (by omega)]
      · exact fun i hi => by rw [rt (71 + 12) (by omega) (by omega), t4c 12 (by decide) (by decide) i hi, am (6 + 12) (by omega)]
      · exact fun i hi => by rw [rt (71 + 13) (by omega) (by omega), t4d i hi, am (6 + 13) (by omega)]
      · rw [x1515, dm 145 (by decide) (by decide)]
      · exact fun i hi => by show X 164 (1516 + 4 * i) = _; rw [(xw1 i hi).1, dm 146 (by decide) (by decide)]
      · exact fun i hi => by show X 164 (1517 + 4 * i) = _; rw [(xw1 i hi).2.1, dm 147 (by decide) (by decide)]
      · exact fun i hi => by show X 164 (1518 + 4 * i) = _; rw [(xw1 i hi).2.2.1, dm 148 (by decide) (by decide)]
      · exact fun i hi => by show X 164 (1519 + 4 * i) = _; rw [(xw1 i hi).2.2.2, dm 149 (by decide) (by decide)]
      · exact fun i hi => by show X 164 (1580 + 2 * i) = _; rw [(xc1 i hi).1, dm 150 (by decide) (by decide)]
      · exact fun i hi => by show X 164 (1581 + 2 * i) = _; rw [(xc1 i hi).2, dm 151 (by decide) (by decide)]
    · have hL : RRd (M 20) (M 21) (M 22) (M 23) (M 24) (M 136 36) (M 153) := u5
      refine RRd_congr ?_ ?_ ?_ ?_ ?_ ?_ ?_ hL
      · rw [rt (71 + 14) (by omega) (by omega), t5, am (6 + 14) (by omega)]
      · exact fun i hi => by rw [rt (71 + 15) (by omega) (by omega), t6 15 (by decide) (by decide) i hi, am (6 + 15) (by omega)]
      · exact fun i hi => by rw [rt (71 + 16) (by omega) (by omega), t6 16 (by decide) (by decide) i hi, am (6 + 16) (by omega)]
      · exact fun i hi => by rw [rt (71 + 17) (by omega) (by omega), t6 17 (by decide) (by decide) i hi, am (6 + 17) (by omega)]
      · exact fun i hi => by rw [rt (71 + 18) (by omega) (by omega), t6 18 (by decide) (by decide) i hi, am (6 + 18) (by omega)]
      · rw [x44, d136 36 (by decide)]
      · exact fun i hi => by show X 164 (120 + i) = _; rw [xs i hi, dm 153 (by decide) (by decide)]
    · have hL : RSh (M 25) (M 26) (M 27) (M 136 38) (M 154) (M 1 10) := u6
      refine RSh_congr ?_ ?_ ?_ ?_ ?_ ?_ hL
      · rw [rt (71 + 19) (by omega) (by omega), t7, am (6 + 19) (by omega)]
      · exact fun i hi => by rw [rt (71 + 20) (by omega) (by omega), t8 i hi, am (6 + 20) (by omega)]
      · exact fun i hi => by rw [rt (71 + 21) (by omega) (by omega), t9 i hi, am (6 + 21) (by omega)]
      · rw [x45, d136 38 (by decide)]
      · rw [Xr 66 (by decide) (by decide) (by decide), c3 66 (by omega), b3 66 (by omega), a2 10 (by decide)]
      · exact fun i hi => by show X 164 (152 + i) = _; rw [xh i hi, dm 154 (by decide) (by decide)]
  · have rb : ∀ k : Nat, 1 ≤ k → k ≤ 3 → X (95 + k) i = M (30 + k) i := fun k h1 h3 => by rw [Xr (95 + k) (by omega) (by omega) (by omega), c2 k h1 h3 i hi, bm (30 + k) (by omega)]
    have q : ∀ j : Nat, j < 450 → X 164 (200 + j) = M 142 j := fun j hj => by rw [xb j hj, dm 142 (by decide) (by decide)]
    rw [show (96 : Nat) = 95 + 1 from rfl, show (97 : Nat) = 95 + 2 from rfl, show (98 : Nat) = 95 + 3 from rfl, rb 1 (by decide) (by decide), rb 2 (by decide) (by decide), rb 3 (by decide) (by decide), q (3 * i) (by omega), show 200 + 3 * i + 1 = 200 + (3 * i + 1) by omega, show 200 + 3 * i + 2 = 200 + (3 * i + 2) by omega, q (3 * i + 1) (by omega), q (3 * i + 2) (by omega)]
    exact hB i hi
theorem st_given : Stp2 Inv (f_X11_image 0) (f_X12_image 0) := by
  intro M hI
  obtain ⟨hN, hT, hB, hP, hTp, hF, hW, hG⟩ := id hI
  rcases id hG with ⟨g0, g50⟩ | ⟨g0, g50, gR, gO, gL, gw, gl, gT, gB⟩
  · refine ⟨0, M, ms M 136 0 0, ?_, ?_, Inv_same same_told hI⟩
    · unfold f_X11_image
      rw [if_pos rfl, if_pos g0]
    · simp only [f_X12_image, pt]
      rw [if_pos trivial, if_pos (by rw [ms_at (by decide)]; exact g50)]
  obtain ⟨t1, t2, t3, t4, t5, t6, t7, t8, t9, t10, t11⟩ := gT
  obtain ⟨N0, n0, e0⟩ := len_of t8
  obtain ⟨N1, n1, e1⟩ := len_of t9
  obtain ⟨A, a1, a2, a3, a4⟩ := become_ok (o0 := 1) (o1 := 66) (Or.inl (by omega)) M
  obtain ⟨B, b1, b2, b3⟩ := told_become (M := A) (o0 := 6) (o1 := 71) (N0 := N0) (N1 := N1) (Or.inl (by omega)) n0 n1 (by rw [a4 (71 + 2) (by omega)]; exact e0) (by rw [a4 (71 + 8) (by omega)]; exact e1)
  obtain ⟨C, c1, c2, c3⟩ := book_become (M := B) (o0 := 30) (o1 := 95) (Or.inl (by omega))
  have eC : f_X11_image 0 M = some (1, ms C 34 0 0) := by
    unfold f_X11_image
    rw [if_pos rfl, if_neg (by rw [g0]; decide), cl_s a1, cl_s b1, cl_s c1]
    rfl
  obtain ⟨X, x1, xn, ⟨x6, x8, x9, x10, x36, x38⟩, xl, xr, xs, xh, xb, ⟨x145, xw0, xc0⟩, ⟨x145', xw1, xc1⟩, x50, x3, xp, x136⟩ := gives_m (D := ms (ms C 34 0 0) 136 0 0)
  have am : ∀ p : Nat, (p < 1 ∨ 6 ≤ p) → A p = M p := fun p h => a4 p (by omega)
  have bm : ∀ p : Nat, (p < 1 ∨ 28 ≤ p) → B p = M p := fun p h => by rw [b3 p (by omega), am p (by omega)]
  have cm : ∀ p : Nat, (p < 1 ∨ (28 ≤ p ∧ p < 31) ∨ 34 ≤ p) → C p = M p := fun p h => by rw [c3 p (by omega), bm p (by omega)]
  have dr : ∀ p : Nat, ¬ p = 34 → ¬ p = 136 → ms (ms C 34 0 0) 136 0 0 p = C p := fun p h1 h2 => by rw [ms_ne h2, ms_ne h1]
  have d164 : ms (ms C 34 0 0) 136 0 0 164 = M 164 := by rw [dr 164 (by decide) (by decide), cm 164 (by omega)]
  have eX : f_X12_image 0 (ms C 34 0 0) = some (1, X) := by
    simp only [f_X12_image, pt]
    rw [if_pos trivial, if_neg (by rw [ms_at (by decide), ms_ne (by decide), cm 136 (by omega), g50]; decide)]
    exact x1
  rw [d164] at xn x6 x8 x9 x10 x36 x38 xl xr xs xh xb x145 xw0 xc0 x145' xw1 xc1
  have Xc : ∀ p : Nat, p < 136 → ¬ p = 34 → X p = C p := fun p h1 h2 => by rw [xp p (by omega), dr p h2 (by omega)]
  have Xm : ∀ p : Nat, (p < 1 ∨ (28 ≤ p ∧ p < 31) ∨ (35 ≤ p ∧ p < 136) ∨ p = 138 ∨ p = 139 ∨ p = 143 ∨ p = 144 ∨ p = 152 ∨ 155 ≤ p) → X p = M p := fun p h => by rw [xp p (by omega), dr p (by omega) (by omega), cm p (by omega)]
  have X136 : ∀ i ∈ [5, 14, 34, 35], X 136 i = M 136 i := fun i hi => by rw [x136 i hi, ms_at (fun e => by subst e; revert hi; decide), ms_ne (by decide), cm 136 (by omega)]
  have rn : ∀ i : Nat, i ≤ 10 → X 1 i = M 66 i := fun i hi => by rw [Xc 1 (by decide) (by decide), c3 1 (by omega), b3 1 (by omega), a2 i hi]
  have rk : ∀ k : Nat, 1 ≤ k → k ≤ 4 → ∀ i : Nat, i < 10 → X (1 + k) i = M (66 + k) i := fun k h1 h4 i hi => by rw [Xc (1 + k) (by omega) (by omega), c3 (1 + k) (by omega), b3 (1 + k) (by omega), a3 k h1 h4 i hi]
  have rt : ∀ p : Nat, 6 ≤ p → p < 28 → X p = B p := fun p h1 h2 => by rw [Xc p (by omega) (by omega), c3 p (by omega)]
  obtain ⟨s1, s2, ⟨s3a, s3b, s3c, s3d⟩, ⟨s4a, s4b, s4c, s4d⟩, ⟨s5, s6⟩, s7, s8, s9⟩ := b2
  have B1 : ∀ i : Nat, i ≤ 2 → X 6 i = M 71 i := fun i hi => by rw [rt 6 (by omega) (by omega), s1 i hi, am 71 (by omega)]
  refine ⟨1, _, X, eC, eX, ⟨?_, ?_, ?_, ?_, fun w hw => ?_⟩, told_of ⟨?_, ?_, ?_, ?_, ?_, ?_⟩ (fun i hi => ?_) ?_ ?_ ?_ ?_, fun i hi => ?_, no_Past (Xm 35 (by omega)) ?_ x3 hP, fr_Tape (X136 14 (by decide)) (congrFun (Xm 0 (by omega)) 9) (Xm 143 (by omega)) (Xm 99 (by omega)) hTp, fr_Fault (X136 34 (by decide)) (X136 35 (by decide)) (X136 5 (by decide)) (congrFun (Xm 100 (by omega)) 0) (congrFun (Xm 100 (by omega)) 1) hF, fr_Words (Xm 144 (by omega)) hW, fr_Img (fun p h1 h2 _ _ => Xm p (by omega)) (congrFun (Xm 0 (by omega)) 7) (by rw [x50, g50]) (Xm 164 (by omega)) hG⟩
  · exact RNw_congr2 rn (rk 1 (by decide) (by decide)) (rk 3 (by decide) (by decide)) (rk 4 (by decide) (by decide)) xn gR
  · exact OkN_congr rn (rk 1 (by decide) (by decide)) (rk 2 (by decide) (by decide)) (rk 3 (by decide) (by decide)) (rk 4 (by decide) (by decide)) gO
  · exact OkL_congr (rn 2 (by decide)) (rn 3 (by decide)) (by rw [rt 20 (by omega) (by omega)]; exact s5.trans (by rw [am (71 + 14) (by omega)])) t10.2.1 (fun i hi => by rw [rt 22 (by omega) (by omega)]; exact (s6 16 (by decide) (by decide) i hi).trans (by rw [am (71 + 16) (by omega)])) gL
  · rw [x6, rn 10 (by decide)]; exact gw
  · rw [xl w hw, show (3 : Nat) = 1 + 2 from rfl, rk 2 (by decide) (by decide) w hw]; exact gl w hw
  · rw [x8, B1 0 (by decide)]; exact t1
  · rw [x9, B1 1 (by decide)]; exact t2
  · rw [x10, B1 2 (by decide)]; exact t3
  · rw [B1 0 (by decide)]; exact t4
  · rw [B1 1 (by decide)]; exact t5
  · rw [B1 2 (by decide)]; exact t6
  · rw [xr i hi, show (7 : Nat) = 6 + 1 from rfl, rt (6 + 1) (by omega) (by omega), s2 i hi, am (71 + 1) (by omega)]
    exact t7 i hi
  · refine RLw_congr (N := N0) e0 n0 ?_ ?_ ?_ ?_ ?_ ?_ ?_ ?_ ?_ ?_ ?_ ?_ ?_ ?_ t8
    · rw [rt 8 (by omega) (by omega)]; exact s3a.trans (by rw [am (71 + 2) (by omega)])
    · rw [rt 8 (by omega) (by omega)]; exact s3b.trans (by rw [am (71 + 2) (by omega)])
    · exact fun i hi => by rw [rt 9 (by omega) (by omega)]; exact (s3c 3 (by decide) (by decide) i hi).trans (by rw [am (71 + 3) (by omega)])
    · exact fun i hi => by rw [rt 10 (by omega) (by omega)]; exact (s3c 4 (by decide) (by decide) i hi).trans (by rw [am (71 + 4) (by omega)])
    · exact fun i hi => by rw [rt 11 (by omega) (by omega)]; exact (s3c 5 (by decide) (by decide) i hi).trans (by rw [am (71 + 5) (by omega)])
    · exact fun i hi => by rw [rt 12 (by omega) (by omega)]; exact (s3c 6 (by decide) (by decide) i hi).trans (by rw [am (71 + 6) (by omega)])
    · exact fun i hi => by rw [rt 13 (by omega) (by omega)]; exact (s3d i hi).trans (by rw [am (71 + 7) (by omega)])
    · exact x145
    · exact fun i hi => (xw0 i hi).1
    · exact fun i hi => (xw0 i hi).2.1
    · exact fun i hi => (xw0 i hi).2.2.1
    · exact fun i hi => (xw0 i hi).2.2.2
    · exact fun i hi => (xc0 i hi).1
    · exact fun i hi => (xc0 i hi).2
  · refine RLw_congr (N := N1) e1 n1 ?_ ?_ ?_ ?_ ?_ ?_ ?_ ?_ ?_ ?_ ?_ ?_ ?_ ?_ t9
    · rw [rt 14 (by omega) (by omega)]; exact s4a.trans (by rw [am (71 + 8) (by omega)])
    · rw [rt 14 (by omega) (by omega)]; exact s4b.trans (by rw [am (71 + 8) (by omega)])
    · exact fun i hi => by rw [rt 15 (by omega) (by omega)]; exact (s4c 9 (by decide) (by decide) i hi).trans (by rw [am (71 + 9) (by omega)])
    · exact fun i hi => by rw [rt 16 (by omega) (by omega)]; exact (s4c 10 (by decide) (by decide) i hi).trans (by rw [am (71 + 10) (by omega)])
    · exact fun i hi => by rw [rt 17 (by omega) (by omega)]; exact (s4c 11 (by decide) (by decide) i hi).trans (by rw [am (71 + 11) (by omega)])
    · exact fun i hi => by rw [rt 18 (by omega) (by omega)]; exact (s4c 12 (by decide) (by decide) i hi).trans (by rw [am (71 + 12) (by omega)])
    · exact fun i hi => by rw [rt 19 (by omega) (by omega)]; exact (s4d i hi).trans (by rw [am (71 + 13) (by omega)])
    · exact x145'
    · exact fun i hi => (xw1 i hi).1
    · exact fun i hi => (xw1 i hi).2.1
    · exact fun i hi => (xw1 i hi).2.2.1
    · exact fun i hi => (xw1 i hi).2.2.2
    · exact fun i hi => (xc1 i hi).1
    · exact fun i hi => (xc1 i hi).2
  · refine RRd_congr ?_ ?_ ?_ ?_ ?_ ?_ ?_ t10
    · rw [rt 20 (by omega) (by omega)]; exact s5.trans (by rw [am (71 + 14) (by omega)])
    · exact fun i hi => by rw [rt 21 (by omega) (by omega)]; exact (s6 15 (by decide) (by decide) i hi).trans (by rw [am (71 + 15) (by omega)])
    · exact fun i hi => by rw [rt 22 (by omega) (by omega)]; exact (s6 16 (by decide) (by decide) i hi).trans (by rw [am (71 + 16) (by omega)])
    · exact fun i hi => by rw [rt 23 (by omega) (by omega)]; exact (s6 17 (by decide) (by decide) i hi).trans (by rw [am (71 + 17) (by omega)])
    · exact fun i hi => by rw [rt 24 (by omega) (by omega)]; exact (s6 18 (by decide) (by decide) i hi).trans (by rw [am (71 + 18) (by omega)])
    · exact x36
    · exact xs
  · refine RSh_congr ?_ ?_ ?_ ?_ ?_ ?_ t11
    · rw [rt 25 (by omega) (by omega)]; exact s7.trans (by rw [am (71 + 19) (by omega)])
    · exact fun i hi => by rw [rt 26 (by omega) (by omega)]; exact (s8 i hi).trans (by rw [am (71 + 20) (by omega)])
    · exact fun i hi => by rw [rt 27 (by omega) (by omega)]; exact (s9 i hi).trans (by rw [am (71 + 21) (by omega)])
    · exact x38
    · exact rn 10 (by decide)
    · exact xh
  · have rb : ∀ k : Nat, 1 ≤ k → k ≤ 3 → X (30 + k) i = M (95 + k) i := fun k h1 h3 => by rw [Xc (30 + k) (by omega) (by omega), c2 k h1 h3 i hi, bm (95 + k) (by omega)]
    rw [show (31 : Nat) = 30 + 1 from rfl, show (32 : Nat) = 30 + 2 from rfl, show (33 : Nat) = 30 + 3 from rfl, rb 1 (by decide) (by decide), rb 2 (by decide) (by decide), rb 3 (by decide) (by decide), xb (3 * i) (by omega), xb (3 * i + 1) (by omega), xb (3 * i + 2) (by omega)]
    exact gB i hi
  · rw [xp 34 (by omega), ms_ne (by decide), ms_it]
theorem st_image (v : Int32) (hv : v = 0 ∨ v = 1) : Stp2 Inv (f_X11_image v) (f_X12_image v) := by
  rcases hv with rfl | rfl
  · exact st_given
  · exact st_taken
