theorem st_carry (p : Int32) : Stp2 Inv (f_X11_carry p) (f_X12_carry p) := by
  intro M hI
  obtain ⟨hN, hT, hB, hP, hTp, hF, hW, hG⟩ := id hI
  obtain ⟨hR, hO, hL, dw, dl⟩ := id hN
  have e9 : ∀ {v : Int32}, ms M 136 0 v 137 9 = M 1 8 := fun {v} => by rw [ms_ne (by decide)]; exact hR.2.2.2.2.2.2.2.2.2.1
  by_cases hp : p < 1 ∨ 999 < p
  · exact ⟨-1, M, ms M 136 0 0, by unfold f_X11_carry; rw [cl_s (win_c _ _ _ M), if_pos (i0 hp)], by simp only [f_X12_carry, pt]; rw [cl_s (win_m _ _ _ _), if_pos (i0 hp)], Inv_same same_told hI⟩
  by_cases hf : M 1 8 + p ≤ 9999
  · obtain ⟨u, k, hu, e34, e3, hps⟩ := past_ps hP
    obtain ⟨C', D', w, k', f1, f2, f3, f4, f5, f6, f7, f8⟩ := keep_sim hu hps hR hO hL e34 e3
    have c1 : C' 1 = M 1 := f7 1 (Or.inl (by decide))
    generalize hM1 : ms C' 1 8 (M 1 8 + p) = M1
    have g1 : f_X11_carry p M = some (M 1 8 + p, M1) := by
      simp only [f_X11_carry, pt]
      rw [cl_s (win_c _ _ _ M), if_neg (i1 hp), if_pos hf, cl_s f1, c1, ms_it, hM1]
    have m1 : ∀ q : Nat, 66 ≤ q → M1 q = M q := fun q h => by rw [← hM1, ms_ne (by omega)]; exact f7 q (Or.inr h)
    generalize hD0 : ms M1 136 0 0 = D0
    have d0 : ∀ q : Nat, 66 ≤ q → ¬ q = 136 → D0 q = M q := fun q h h' => by rw [← hD0, ms_ne h']; exact m1 q h
    have d3 : D0 136 3 = nI u := by rw [← hD0, ms_at (by decide), m1 136 (by decide)]; exact e3
    have hps2 : PS M D0 u k := ps_fr hu rfl (fun _ _ _ => rfl) rfl rfl rfl rfl (d0 138 (by decide) (by decide)) hps
    obtain ⟨C2, D2, w2, k2, q1, q2, q3, q4, q5, q6, q7, q8⟩ := keep_sim hu hps2 (by rw [d0 137 (by decide) (by decide)]; exact hR) hO hL e34 d3
    have eC : C2 = C' := by
      have := q1.symm.trans f1
      simp only [Option.some.injEq, Prod.mk.injEq, true_and] at this
      exact this
    subst eC
    have d9 : D0 137 9 = M 1 8 := by rw [d0 137 (by decide) (by decide)]; exact hR.2.2.2.2.2.2.2.2.2.1
    have d29 : D2 137 = D0 137 := agr_row (LR := [137]) (LC := []) q8 (by decide) (by decide)
    have g2 : f_X12_carry p M1 = some (M 1 8 + p, ms D2 137 9 (M 1 8 + p)) := by
      simp only [f_X12_carry, pt]
      rw [hD0, cl_s (win_m _ _ _ _), if_neg (i1 hp), rdK (i := 9) (j := 9) (n := 40) rfl (by decide) (by decide), d9, if_pos hf, cl_s q2, rdK (i := 9) (j := 9) (n := 40) rfl (by decide) (by decide), d29, d9, wrK (i := 9) (j := 9) (n := 40) rfl (by decide) (by decide), rdK (i := 9) (j := 9) (n := 40) rfl (by decide) (by decide), ms_it]
    refine ⟨M 1 8 + p, M1, ms D2 137 9 (M 1 8 + p), g1, g2, ?_⟩
    generalize hM2 : ms D2 137 9 (M 1 8 + p) = M2
    have far : ∀ q i : Nat, ¬ (34 ≤ q ∧ q ≤ 65) → ¬ q = 138 → ¬ (q = 1 ∧ i = 8) → ¬ (q = 137 ∧ i = 9) → ¬ (q = 136 ∧ (i = 0 ∨ i = 3)) → M2 q i = M q i := fun q i h1 h2 h3 h4 h5 => by
      rw [← hM2]
      unfold ms
      rw [if_neg h4, q8 q i (by simp; omega) (by simp; omega), ← hD0]
      unfold ms
      rw [if_neg (by omega), ← hM1]
      unfold ms
      rw [if_neg h3, f7 q (by omega)]
    have row : ∀ q : Nat, ¬ (34 ≤ q ∧ q ≤ 65) → ¬ q = 138 → ¬ q = 1 → ¬ q = 137 → ¬ q = 136 → M2 q = M q := fun q h1 h2 h3 h4 h5 => funext fun i => far q i h1 h2 (by omega) (by omega) (by omega)
    have cls2 : ∀ q : Nat, 34 ≤ q → q ≤ 65 → M2 q = C2 q := fun q h1 h2 => funext fun i => by
      rw [← hM2]
      unfold ms
      rw [if_neg (by omega), q8 q i (by simp; omega) (by simp; omega), ← hD0]
      unfold ms
      rw [if_neg (by omega), ← hM1]
      unfold ms
      rw [if_neg (by omega)]
    have m18 : M2 1 8 = M 1 8 + p := by
      rw [← hM2, ms_ne (by decide), q8 1 8 (by decide) (by decide), ← hD0, ms_ne (by decide), ← hM1, ms_it]
    have m1379 : M2 137 9 = M 1 8 + p := by rw [← hM2, ms_it]
    have n1 : ∀ i : Nat, ¬ i = 8 → M2 1 i = M 1 i := fun i h => far 1 i (by omega) (by omega) (by omega) (by omega) (by omega)
    have n137 : ∀ i : Nat, ¬ i = 9 → M2 137 i = M 137 i := fun i h => far 137 i (by omega) (by omega) (by omega) (by omega) (by omega)
    have n136 : ∀ i : Nat, ¬ i = 0 → ¬ i = 3 → M2 136 i = M 136 i := fun i h h' => far 136 i (by omega) (by omega) (by omega) (by omega) (by omega)
    have rw' : ∀ q : Nat, ¬ (34 ≤ q ∧ q ≤ 65) ∧ ¬ q = 138 ∧ ¬ q = 1 ∧ ¬ q = 137 ∧ ¬ q = 136 → M2 q = M q := fun q h => row q h.1 h.2.1 h.2.2.1 h.2.2.2.1 h.2.2.2.2
    have hbv : bnd (M 1 8 + p) 0 9999 := by
      obtain ⟨f, hf1, ef⟩ := bnd_nI (n := 9999) hO.2.2.1 (by decide)
      have hb1 : bnd p 1 999 := bnd_of hp (by decide) (by decide)
      obtain ⟨j, hj, rfl⟩ := bnd_nI (n := 999) (x := p) ⟨by have := hb1.1; omega, hb1.2⟩ (by decide)
      rw [ef, nI_add] at hf ⊢
      have hle : f + j ≤ 9999 := (nI_leI (b := 9999) (by omega) (by decide)).mp hf
      exact bnd_n (by omega) (by omega) (by omega)
    refine ⟨?_, fr_Told (fun q h1 h2 => if h : q = 1 then by omega else rw' q (by omega)) (n1 10 (by decide)) (n136 _ (by decide) (by decide)) (n136 _ (by decide) (by decide)) (n136 _ (by decide) (by decide)) (n136 _ (by decide) (by decide)) (n136 _ (by decide) (by decide)) (rw' _ (by decide)) (fun q h1 h2 => rw' q (by omega)) (rw' _ (by decide)) (rw' _ (by decide)) hT,
      fr_Book (rw' _ (by decide)) (rw' _ (by decide)) (rw' _ (by decide)) (rw' _ (by decide)) hB,
      ps_past (u := w2 + 1) (k := k2) (by omega) (by rw [cls2 34 (by decide) (by decide)]; exact q5) (by rw [← hM2, ms_ne (by decide)]; exact q6) (ps_fr (by omega) (cls2 35 (by decide) (by decide)) (fun q h1 h2 => cls2 q (by omega) h2) ((rw' 20 (by decide)).trans (q7 20 (Or.inl (by decide))).symm) ((rw' 22 (by decide)).trans (q7 22 (Or.inl (by decide))).symm) ((n1 10 (by decide)).trans (congrFun (q7 1 (Or.inl (by decide))) 10).symm) ((rw' 3 (by decide)).trans (q7 3 (Or.inl (by decide))).symm) (by rw [← hM2, ms_ne (by decide)]) q4),
      fr_Tape (n136 _ (by decide) (by decide)) (congrFun (rw' 0 (by decide)) 9) (rw' _ (by decide)) (rw' _ (by decide)) hTp,
      fr_Fault (n136 _ (by decide) (by decide)) (n136 _ (by decide) (by decide)) (n136 _ (by decide) (by decide)) (congrFun (rw' 100 (by decide)) 0) (congrFun (rw' 100 (by decide)) 1) hF,
      fr_Words (rw' _ (by decide)) hW, fr_Img (fun q h1 h2 _ _ => rw' q (by omega)) (congrFun (rw' 0 (by decide)) 7) (n136 _ (by decide) (by decide)) (rw' _ (by decide)) hG⟩
    obtain ⟨a0, a1, a2, a3, a4, a5, a6, a7, a8, a9, aw⟩ := hR
    obtain ⟨b1, b2, b3, b4, b5, bw⟩ := hO
    unfold IvNow RNw OkN
    unfold OkL at *
    rw [rw' 2 (by decide), rw' 3 (by decide), rw' 4 (by decide), rw' 5 (by decide), rw' 20 (by decide), rw' 22 (by decide), rw' 140 (by decide), n136 6 (by decide) (by decide), n1 0 (by decide), n1 1 (by decide), n1 2 (by decide), n1 3 (by decide), n1 4 (by decide), n1 5 (by decide), n1 6 (by decide), n1 7 (by decide), n1 9 (by decide), n1 10 (by decide), m18, n137 0 (by decide), n137 1 (by decide), n137 2 (by decide), n137 3 (by decide), n137 4 (by decide), n137 5 (by decide), n137 6 (by decide), n137 7 (by decide), n137 8 (by decide), m1379]
    exact ⟨⟨a0, a1, a2, a3, a4, a5, a6, a7, a8, rfl, fun x hx => by rw [n137 _ (by omega), n137 _ (by omega), n137 _ (by omega)]; exact aw x hx⟩, ⟨b1, b2, hbv, b4, b5, bw⟩, hL, dw, dl⟩
  · refine ⟨-1, M, ms M 136 0 0, ?_, ?_, Inv_same same_told hI⟩
    · unfold f_X11_carry
      rw [cl_s (win_c _ _ _ M), if_neg (i1 hp), if_neg hf]
    · simp only [f_X12_carry, pt]
      rw [cl_s (win_m _ _ _ _), if_neg (i1 hp), rdK (i := 9) (j := 9) (n := 40) rfl (by decide) (by decide), e9, if_neg hf]
