/-! hours -/
section HRS2
variable {C D M : IM} {l0 l1 : List LLn}
theorem add_sub1 (a s : Int32) : a + 1 - s = a - s + 1 := by
  rw [Int32.sub_eq_add_neg, Int32.sub_eq_add_neg, Int32.add_assoc, Int32.add_comm 1, ← Int32.add_assoc]
/-- class's and model's memory between two hours -/
def HRl (C D : IM) (l0 l1 : List LLn) (u : Nat) (k : Nat → Nat) : Prop := RC C D 1 l0 l1 ∧ BK C D ∧ bnd (C 1 4) 0 (C 1 1).toInt ∧ PS C D u k ∧ u ≤ 6 ∧ C 34 0 = nI u ∧ D 136 3 = nI u ∧ D 136 5 = 0
def cFr (C C' : IM) : Prop := ∀ q : Nat, q = 0 ∨ q = 2 ∨ q = 3 ∨ (6 ≤ q ∧ q ≤ 30) ∨ (66 ≤ q ∧ q < 120) ∨ 121 < q → C' q = C q
def dFr (D D' : IM) : Prop := (∀ q : Nat, q < 136 ∨ (138 < q ∧ q < 142) ∨ (142 < q ∧ q < 155) ∨ 157 < q → D' q = D q) ∧ ∀ i : Nat, ¬ i = 3 → D' 136 i = D 136 i
theorem hrl_hour {u : Nat} {k : Nat → Nat} (h : HRl C D l0 l1 u k) (hh : (C 1 1).toInt < 9999) : ∃ (r : Int32) (C1 D1 C2 D2 : IM) (u' : Nat) (k' : Nat → Nat), f_X5_keep 1 C = some (0, C1) ∧ f_X11_passHour 1 0 C1 = some (r, C2) ∧ f_X12_keepsAhead D = some (0, D1) ∧ f_X12_goesBy D1 = some (0, D2) ∧ (r = 0 ∨ r = 1) ∧ HRl C2 D2 l0 l1 u' k' ∧ C2 1 4 = C 1 4 + r ∧ (C2 1 1).toInt = (C 1 1).toInt + 1 ∧ C2 1 10 = C 1 10 ∧ cFr C C2 ∧ dFr D D2 := by
  obtain ⟨hR, hB, h4, hP, hu, h34, h3, h5⟩ := h
  obtain ⟨⟨a1, ⟨o1, o2, o3, o4, o5, o6⟩, a3, a4, a5⟩, -⟩ := id hR
  obtain ⟨C1, D1, v, k', e1, e2, hv, hP1, c34, d3, fC, fD⟩ := keep_sim hu hP a1 ⟨⟨o1.1, by omega⟩, h4, o3, o4, o5, o6⟩ a3 h34 h3
  have dr1 : ∀ q : Nat, ¬ q = 136 → ¬ q = 138 → D1 q = D q := fun q h1 h2 => by
    funext i
    exact fD q i (by simpa using h2) (by simp [h1])
  have d136 : ∀ i : Nat, ¬ i = 3 → D1 136 i = D 136 i := fun i hi => fD 136 i (by decide) (by simp [hi])
  have hR1 : RC C1 D1 1 l0 l1 := by
    refine RC_mk (Or.inl rfl) hR (fun q h1 h2 => fC q (by omega)) (fun i hi => d136 i (fun e => by subst e; revert hi; decide)) (fun q hq => dr1 q (by omega) (by omega)) (by rw [fC 1 (by omega)]) (fun w _ => by rw [fC (1 + 2) (by omega)]) ?_ ?_ ?_
    · rw [fC 1 (by omega), fC (1 + 1) (by omega), fC (1 + 3) (by omega), fC (1 + 4) (by omega), dr1 137 (by decide) (by decide)]
      exact a1
    · rw [fC 1 (by omega), fC (1 + 1) (by omega), fC (1 + 2) (by omega), fC (1 + 3) (by omega), fC (1 + 4) (by omega)]
      exact ⟨o1, o2, o3, o4, o5, o6⟩
    · rw [fC 1 (by omega)]; exact a3
  have hB1 : BK C1 D1 := by
    unfold BK
    rw [fC 31 (by omega), fC 32 (by omega), fC 33 (by omega), dr1 142 (by decide) (by decide)]
    exact hB
  have ec1 : C1 1 = C 1 := fC 1 (by omega)
  obtain ⟨r, C2, D2, s1, s2, s3, s4, s5, s6, s7, s8, s9, s10, s11⟩ := hour_sim (b := true) (Or.inl rfl) hR1 (fun _ => hB1) (by rw [d136 5 (by decide)]; exact h5) (by rw [ec1]; omega) (by rw [ec1]; exact h4)
  have rc2 : ∀ q : Nat, q = 0 ∨ q = 2 ∨ q = 3 ∨ (6 ≤ q ∧ q ≤ 30) ∨ (34 ≤ q ∧ q < 120) ∨ 121 < q → C2 q = C1 q := fun q hq => s10 q (by simp [RW, FC]; omega)
  have rd2 : ∀ q : Nat, q < 137 ∨ (137 < q ∧ q < 142) ∨ (142 < q ∧ q < 155) ∨ 157 < q → D2 q = D1 q := fun q hq => s11 q (by simp [RV, FD]; omega)
  have e10 : C2 1 10 = C 1 10 := by rw [s9, ec1]
  refine ⟨r, C1, D1, C2, D2, v + 1, k', e1, s1, e2, s2, s3, ⟨s4, s5 rfl, s6, ?_, by omega, by rw [rc2 34 (by omega)]; exact c34, by rw [rd2 136 (by omega)]; exact d3, by rw [rd2 136 (by omega), d136 5 (by decide)]; exact h5⟩, by rw [s7, ec1], ?_, e10, fun q hq => ?_, ⟨fun q hq => ?_, fun i hi => ?_⟩⟩
  · exact ps_fr (by omega) (rc2 35 (by omega)) (fun p h1 h2 => rc2 p (by omega)) (rc2 20 (by omega)) (rc2 22 (by omega)) s9 (rc2 3 (by omega)) (rd2 138 (by omega)) hP1
  · rw [s8, ec1, bnd_add (y := 1) (c := 0) (d := 1) o1 ⟨by decide, by decide⟩ (by omega) (by omega)]
    rfl
  · rw [rc2 q (by omega), fC q (by omega)]
  · rw [rd2 q (by omega)]
    by_cases h : q = 136
    · omega
    · exact dr1 q h (by omega)
  · rw [rd2 136 (by omega), d136 i hi]
theorem hours_loop {n : Nat} {s0 : Int32} (hn : n ≤ 99) : ∀ (m i f f' : Nat) (C D : IM) (u : Nat) (k : Nat → Nat), i + m = n → m < f → m < f' → HRl C D l0 l1 u k → (C 1 1).toInt + m ≤ 9999 → ∃ (C' D' : IM) (u' : Nat) (k' : Nat → Nat), f_X11_hours_31 f (nI n) (C 1 4 - s0) (nI i) C = some (C' 1 4 - s0, C') ∧ f_X12_hours_41 f' (nI n) s0 (nI i) D = some (C' 1 4 - s0, D') ∧ HRl C' D' l0 l1 u' k' ∧ (C' 1 1).toInt ≤ 9999 ∧ C' 1 10 = C 1 10 ∧ cFr C C' ∧ dFr D D' := by
  intro m
  induction m with
  | zero =>
    intro i f f' C D u k hi hf hf' h hh
    obtain ⟨x, rfl⟩ : ∃ x, f = x + 1 := ⟨f - 1, by omega⟩
    obtain ⟨y, rfl⟩ : ∃ y, f' = y + 1 := ⟨f' - 1, by omega⟩
    have : i = n := by omega
    subst this
    refine ⟨C, D, u, k, ?_, ?_, h, by omega, rfl, fun _ _ => rfl, fun _ _ => rfl, fun _ _ => rfl⟩
    · show f_X11_hours_31_b (f_X11_hours_31 x) _ _ _ C = _
      unfold f_X11_hours_31_b
      rw [if_pos (nI_le (Nat.le_refl _) (by omega))]
    · show f_X12_hours_41_b (f_X12_hours_41 y) _ _ _ D = _
      unfold f_X12_hours_41_b
      rw [if_pos (nI_le (Nat.le_refl _) (by omega)), rdK (i := 5) (j := 5) (n := 40) rfl (by decide) (by decide), show D 137 5 = C 1 4 from h.1.1.1.2.2.2.2.2.1]
  | succ m ih =>
    intro i f f' C D u k hi hf hf' h hh
    obtain ⟨x, rfl⟩ : ∃ x, f = x + 1 := ⟨f - 1, by omega⟩
    obtain ⟨y, rfl⟩ : ∃ y, f' = y + 1 := ⟨f' - 1, by omega⟩
    obtain ⟨r, C1, D1, C2, D2, u', k', e1, e2, e3, e4, hr, h2, e5, e6, e7, e8, e9⟩ := hrl_hour h (by omega)
    obtain ⟨C', D', u2, k2, g1, g2, g3, g4, g5, g6, g7⟩ := ih (i + 1) x y C2 D2 u' k' (by omega) (by omega) (by omega) h2 (by rw [e6]; omega)
    refine ⟨C', D', u2, k2, ?_, ?_, g3, g4, by rw [g5, e7], fun q hq => by rw [g6 q hq, e8 q hq], fun q hq => by rw [g7.1 q hq, e9.1 q hq], fun i hi => by rw [g7.2 i hi, e9.2 i hi]⟩
    · show f_X11_hours_31_b (f_X11_hours_31 x) _ _ _ C = _
      unfold f_X11_hours_31_b
      rw [if_neg (nI_ge (by omega) (by omega)), cl_s e1, cl_s e2]
      rcases hr with rfl | rfl
      · rw [if_pos rfl]
        simp only [lt]
        rw [nI_1, ← g1, e5, Int32.add_zero]
      · rw [if_neg (by decide)]
        simp only [lt]
        rw [nI_1, ← g1, e5, add_sub1]
    · show f_X12_hours_41_b (f_X12_hours_41 y) _ _ _ D = _
      unfold f_X12_hours_41_b
      rw [if_neg (nI_ge (by omega) (by omega)), cl_s e3, cl_s e4]
      simp only [lt]
      rw [nI_1]
      exact g2
theorem Inv_rel {u : Nat} {k : Nat → Nat} (hI : Inv M) (h : HRl C D l0 l1 u k) (h1 : (C 1 1).toInt ≤ 9999) (h10 : C 1 10 = M 1 10) (hlow : ∀ q : Nat, q < 136 → D q = C q) (fC : cFr M C) (fD : ∀ q : Nat, (138 < q ∧ q < 142) ∨ (142 < q ∧ q < 155) ∨ 157 < q → D q = M q) (f136 : ∀ i : Nat, ¬ i = 0 → ¬ i = 3 → D 136 i = M 136 i) : Inv D := by
  obtain ⟨hN, hT, hB0, hP0, hTp, hF, hW, hG⟩ := hI
  obtain ⟨hR, hB, h4, hP, hu, h34, h3, h5⟩ := h
  obtain ⟨⟨a1, ⟨o1, o2, o3, o4, o5, o6⟩, a3, a4, a5⟩, -⟩ := id hR
  have far : ∀ q : Nat, q = 0 ∨ q = 2 ∨ q = 3 ∨ (6 ≤ q ∧ q ≤ 30) ∨ (66 ≤ q ∧ q < 120) → D q = M q := fun q hq => by rw [hlow q (by omega), fC q (by omega)]
  refine ⟨⟨?_, ?_, ?_, ?_, ?_⟩, fr_Told (fun p h1 h2 => far p (by omega)) (by rw [hlow 1 (by decide), h10]) (f136 _ (by decide) (by decide)) (f136 _ (by decide) (by decide)) (f136 _ (by decide) (by decide)) (f136 _ (by decide) (by decide)) (f136 _ (by decide) (by decide)) (fD 141 (by omega)) (fun p h1 h2 => fD p (by omega)) (fD 153 (by omega)) (fD 154 (by omega)) hT, ?_, ?_,
    fr_Tape (f136 _ (by decide) (by decide)) (congrFun (far 0 (by omega)) 9) (fD 143 (by omega)) (far 99 (by omega)) hTp,
    fr_Fault (f136 _ (by decide) (by decide)) (f136 _ (by decide) (by decide)) (f136 _ (by decide) (by decide)) (congrFun (far 100 (by omega)) 0) (congrFun (far 100 (by omega)) 1) hF,
    fr_Words (fD 144 (by omega)) hW,
    fr_Img (fun p h1 h2 _ _ => far p (by omega)) (congrFun (far 0 (by omega)) 7) (f136 _ (by decide) (by decide)) (fD 164 (by omega)) hG⟩
  · rw [hlow 1 (by decide), hlow 2 (by decide), hlow 4 (by decide), hlow 5 (by decide)]; exact a1
  · rw [hlow 1 (by decide), hlow 2 (by decide), hlow 3 (by decide), hlow 4 (by decide), hlow 5 (by decide)]
    exact ⟨⟨o1.1, h1⟩, h4, o3, o4, o5, o6⟩
  · rw [hlow 1 (by decide), hlow 20 (by decide), hlow 22 (by decide)]; exact a3
  · rw [hlow 1 (by decide)]; exact a4
  · rw [hlow 3 (by decide)]; exact a5
  · unfold IvBook
    rw [hlow 31 (by decide), hlow 32 (by decide), hlow 33 (by decide)]
    exact hB
  · exact ps_past hu (by rw [hlow 34 (by decide)]; exact h34) h3 (ps_fr hu (hlow 35 (by decide)) (fun p h1 h2 => hlow p (by omega)) (hlow 20 (by decide)) (hlow 22 (by decide)) (by rw [hlow 1 (by decide)]) (hlow 3 (by decide)) rfl hP)
end HRS2
theorem st_hours (p : Int32) : Stp2 Inv (f_X11_hours p) (f_X12_hours p) := by
  intro M hI
  have e0 : ∀ X : IM, X 137 = M 137 → ms X 136 0 0 137 0 = M 1 1 := fun X hX => by rw [ms_ne (by decide), hX]; exact hI.1.1.1
  have e5 : ∀ X : IM, X 137 = M 137 → ms X 136 0 0 137 5 = M 1 4 := fun X hX => by rw [ms_ne (by decide), hX]; exact hI.1.1.2.2.2.2.2.1
  by_cases hp : p < 1 ∨ 99 < p
  · exact ⟨-1, M, ms M 136 0 0, by unfold f_X11_hours; rw [cl_s (win_c _ _ _ M), if_pos (i0 hp)], by simp only [f_X12_hours, pt]; rw [cl_s (win_m _ _ _ _), if_pos (i0 hp)], Inv_same same_told hI⟩
  by_cases hc : M 1 1 + p ≤ 9999
  case neg => exact ⟨-1, M, ms M 136 0 0, by unfold f_X11_hours; rw [cl_s (win_c _ _ _ M), if_neg (i1 hp), if_neg hc], by simp only [f_X12_hours, pt]; rw [cl_s (win_m _ _ _ _), if_neg (i1 hp), rdK (i := 0) (j := 0) (n := 40) rfl (by decide) (by decide), e0 M rfl, if_neg hc], Inv_same same_told hI⟩
  have hb : bnd p 1 99 := bnd_of hp (by decide) (by decide)
  obtain ⟨n, hn, en⟩ := bnd_nI (x := p) (n := 99) ⟨by have := hb.1; omega, hb.2⟩ (by decide)
  have hn1 : 1 ≤ n := by have := hb.1; rw [en, nI_toInt (by omega)] at this; omega
  obtain ⟨l0, l1, hR⟩ := RC_of hI
  obtain ⟨hN, hT, hB0, hP0, hTp, hF, hW, hG⟩ := id hI
  obtain ⟨u, k, hu, h34, h3, hP⟩ := past_ps hP0
  obtain ⟨o1, o2, -⟩ := hN.2.1
  have hsum : (M 1 1).toInt + n ≤ 9999 := by
    have := Int32.le_iff_toInt_le.mp hc
    rw [bnd_add o1 hb (by omega) (by omega), en, nI_toInt (by omega), show (9999 : Int32).toInt = 9999 by decide] at this
    exact this
  have rel : ∀ X : IM, (∀ q : Nat, 136 ≤ q → X q = M q) → HRl M (ms X 136 0 0) l0 l1 u k := fun X hX => by
    have r : ∀ q : Nat, 136 < q → ms X 136 0 0 q = M q := fun q hq => by rw [ms_ne (by omega), hX q (by omega)]
    have r136 : ∀ i : Nat, ¬ i = 0 → ms X 136 0 0 136 i = M 136 i := fun i hi => by rw [ms_at hi, hX 136 (by omega)]
    refine ⟨RC_mk (Or.inl rfl) hR (fun _ _ _ => rfl) (fun i hi => r136 i (fun e => by subst e; revert hi; decide)) (fun q hq => r q (by omega)) rfl (fun _ _ => rfl) (by rw [r 137 (by decide)]; exact hR.1.1) hR.1.2.1 hR.1.2.2.1, ?_, o2, ?_, hu, h34, by rw [r136 3 (by decide)]; exact h3, by rw [r136 5 (by decide)]; exact hF.2.2⟩
    · unfold BK
      rw [r 142 (by decide)]
      exact hB0
    · exact ps_fr hu rfl (fun _ _ _ => rfl) rfl rfl rfl rfl (r 138 (by decide)) hP
  obtain ⟨M1, DX, ux, kx, g1, -, -, -, -, g6, -⟩ := hours_loop (l0 := l0) (l1 := l1) (s0 := M 1 4) hn n 0 BG BG M (ms M 136 0 0) u k (by omega) (by unfold BG; omega) (by unfold BG; omega) (rel M (fun _ _ => rfl)) hsum
  have hM1 : ∀ q : Nat, 136 ≤ q → M1 q = M q := fun q hq => g6 q (by omega)
  obtain ⟨M1', D2, u2, k2, q1, q2, q3, q4, q5, q6, q7⟩ := hours_loop (l0 := l0) (l1 := l1) (s0 := M 1 4) hn n 0 BG BG M (ms M1 136 0 0) u k (by omega) (by unfold BG; omega) (by unfold BG; omega) (rel M1 hM1) hsum
  have eM : M1' = M1 := by
    rw [g1] at q1
    simp only [Option.some.injEq, Prod.mk.injEq] at q1
    exact q1.2.symm
  subst eM
  have ez : M 1 4 - M 1 4 = 0 := Int32.sub_self _
  rw [ez] at q1
  refine ⟨M1' 1 4 - M 1 4, M1', D2, ?_, ?_, ?_⟩
  · unfold f_X11_hours
    rw [cl_s (win_c _ _ _ M), if_neg (i1 hp), if_pos hc, en]
    exact q1
  · simp only [f_X12_hours, pt]
    rw [cl_s (win_m _ _ _ _), if_neg (i1 hp), rdK (i := 0) (j := 0) (n := 40) rfl (by decide) (by decide), e0 _ (hM1 137 (by decide)), if_pos hc, rdK (i := 5) (j := 5) (n := 40) rfl (by decide) (by decide), e5 _ (hM1 137 (by decide)), en]
    exact q2
  · refine Inv_rel hI q3 q4 q5 (fun q hq => by rw [q7.1 q (by omega), ms_ne (by omega)]) q6 (fun q hq => by rw [q7.1 q (by omega), ms_ne (by omega), hM1 q (by omega)]) (fun i hi hi3 => by rw [q7.2 i hi3, ms_at hi, hM1 136 (by omega)])
