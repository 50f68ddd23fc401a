theorem st_move (p q : Int32) : Stp2 Inv (f_X11_move p q) (f_X12_move p q) := by
  intro M hI
  obtain ⟨hN, hT, hB, hP, hTp, hF, hW, hG⟩ := id hI
  obtain ⟨hR, hO, hL, dw, dl⟩ := id hN
  obtain ⟨n, hn, en⟩ := bnd_nI (n := 10) hO.2.2.2.2.1 (by decide)
  have em : ∀ {v : Int32}, ms M 136 0 v 136 6 = nI n := fun {v} => by rw [ms_at (by decide), dw, en]
  by_cases hp : p < 0 ∨ nI n ≤ p
  · exact ⟨0, M, ms M 136 0 0, by unfold f_X11_move; rw [cl_s (wal_c _ M), en, if_pos (i0 hp)], by simp only [f_X12_move, pt]; rw [cl_s (wal_m _ _), em, if_pos (i0 hp)], Inv_same same_told hI⟩
  by_cases hq : q < 0 ∨ 8 ≤ q
  · exact ⟨0, M, ms M 136 0 0, by unfold f_X11_move; rw [cl_s (wal_c _ M), en, if_neg (i1 hp), cl_s (par_c q M), if_pos (i0 hq)], by simp only [f_X12_move, pt]; rw [cl_s (wal_m _ _), em, if_neg (i1 hp), cl_s (par_m q _), if_pos (i0 hq)], Inv_same same_told hI⟩
  have hp2 := hp
  obtain ⟨j, hj, rfl⟩ := in_wal (by omega) hp
  have e30 : (30 : Int32) + nI j = nI (30 + j) := nI_add 30 j
  have r30 : M 137 (30 + j) = M 2 j := (hR.2.2.2.2.2.2.2.2.2.2 j (by omega)).2.2
  have e9 : ∀ {v : Int32}, ms M 136 0 v 137 (30 + j) = M 2 j := fun {v} => by rw [ms_ne (by decide)]; exact r30
  have hbq : bnd q 0 7 := by
    obtain ⟨i, hi, rfl⟩ := in8 hq
    exact bnd_n (by omega) (by omega) (by omega)
  by_cases hf : M 2 j = q
  · refine ⟨0, M, ms M 136 0 0, ?_, ?_, Inv_same same_told hI⟩
    · unfold f_X11_move
      rw [cl_s (wal_c _ M), en, if_neg (i1 hp2), cl_s (par_c q M), if_neg (i1 hq), rdK (i := nI j) (j := j) (n := 10) rfl (by omega) (by decide), if_pos hf]
    · simp only [f_X12_move, pt]
      rw [cl_s (wal_m _ _), em, if_neg (i1 hp2), cl_s (par_m q _), if_neg (i1 hq), rdK (j := 30 + j) (n := 40) e30 (by omega) (by decide), e9, if_pos hf]
  · obtain ⟨u, k, hu, e34, e3, hps⟩ := past_ps hP
    obtain ⟨C', D', w, k', f1, f2, f3, f4, f5, f6, f7, f8⟩ := keep_sim hu hps hR hO hL e34 e3
    generalize hM1 : ms C' 2 j q = M1
    have g1 : f_X11_move (nI j) q M = some (1, M1) := by
      unfold f_X11_move
      rw [cl_s (wal_c _ M), en, if_neg (i1 hp2), cl_s (par_c q M), if_neg (i1 hq), rdK (i := nI j) (j := j) (n := 10) rfl (by omega) (by decide), if_neg hf, cl_s f1, wrK (i := nI j) (j := j) (n := 10) rfl (by omega) (by decide), hM1]
    have m1 : ∀ x : Nat, 66 ≤ x → M1 x = M x := fun x h => by rw [← hM1, ms_ne (by omega)]; exact f7 x (Or.inr h)
    generalize hD0 : ms M1 136 0 0 = D0
    have d0 : ∀ x : Nat, 66 ≤ x → ¬ x = 136 → D0 x = M x := fun x h h' => by rw [← hD0, ms_ne h']; exact m1 x h
    have d3 : D0 136 3 = nI u := by rw [← hD0, ms_at (by decide), m1 136 (by decide)]; exact e3
    have d6 : D0 136 6 = nI n := by rw [← hD0, ms_at (by decide), m1 136 (by decide), dw, en]
    have hps2 : PS M D0 u k := ps_fr hu rfl (fun _ _ _ => rfl) rfl rfl rfl rfl (d0 138 (by decide) (by decide)) hps
    obtain ⟨C2, D2, w2, k2, q1, q2, q3, q4, q5, q6, q7, q8⟩ := keep_sim hu hps2 (by rw [d0 137 (by decide) (by decide)]; exact hR) hO hL e34 d3
    have eC : C2 = C' := by
      have := q1.symm.trans f1
      simp only [Option.some.injEq, Prod.mk.injEq, true_and] at this
      exact this
    subst eC
    have d9 : D0 137 (30 + j) = M 2 j := by rw [d0 137 (by decide) (by decide)]; exact r30
    have g2 : f_X12_move (nI j) q M1 = some (1, ms D2 137 (30 + j) q) := by
      simp only [f_X12_move, pt]
      rw [hD0, cl_s (wal_m _ _), d6, if_neg (i1 hp2), cl_s (par_m q _), if_neg (i1 hq), rdK (j := 30 + j) (n := 40) e30 (by omega) (by decide), d9, if_neg hf, cl_s q2, wrK (j := 30 + j) (n := 40) e30 (by omega) (by decide)]
    refine ⟨1, M1, ms D2 137 (30 + j) q, g1, g2, ?_⟩
    generalize hM2 : ms D2 137 (30 + j) q = M2
    have far : ∀ x i : Nat, ¬ (34 ≤ x ∧ x ≤ 65) → ¬ x = 138 → ¬ (x = 2 ∧ i = j) → ¬ (x = 137 ∧ i = 30 + j) → ¬ (x = 136 ∧ (i = 0 ∨ i = 3)) → M2 x i = M x i := fun x i h1 h2 h3 h4 h5 => by
      rw [← hM2]
      unfold ms
      rw [if_neg h4, q8 x i (by simp; omega) (by simp; omega), ← hD0]
      unfold ms
      rw [if_neg (by omega), ← hM1]
      unfold ms
      rw [if_neg h3, f7 x (by omega)]
    have rw' : ∀ x : Nat, ¬ (34 ≤ x ∧ x ≤ 65) ∧ ¬ x = 138 ∧ ¬ x = 2 ∧ ¬ x = 137 ∧ ¬ x = 136 → M2 x = M x := fun x h => funext fun i => far x i h.1 h.2.1 (by omega) (by omega) (by omega)
    have cls2 : ∀ x : Nat, 34 ≤ x → x ≤ 65 → M2 x = C2 x := fun x h1 h2 => funext fun i => by
      rw [← hM2]
      unfold ms
      rw [if_neg (by omega), q8 x i (by simp; omega) (by simp; omega), ← hD0]
      unfold ms
      rw [if_neg (by omega), ← hM1]
      unfold ms
      rw [if_neg (by omega)]
    have m2j : M2 2 j = q := by
      rw [← hM2, ms_ne (by decide), q8 2 j (by decide) (by simp), ← hD0, ms_ne (by decide), ← hM1, ms_it]
    have m137j : M2 137 (30 + j) = q := by rw [← hM2, ms_it]
    have n2 : ∀ i : Nat, ¬ i = j → M2 2 i = M 2 i := fun i h => far 2 i (by omega) (by omega) (by omega) (by omega) (by omega)
    have n137 : ∀ i : Nat, ¬ i = 30 + j → M2 137 i = M 137 i := fun i h => far 137 i (by omega) (by omega) (by omega) (by omega) (by omega)
    have n136 : ∀ i : Nat, ¬ i = 0 → ¬ i = 3 → M2 136 i = M 136 i := fun i h h' => far 136 i (by omega) (by omega) (by omega) (by omega) (by omega)
    refine ⟨?_, fr_Told (fun x h1 h2 => rw' x (by omega)) (congrFun (rw' 1 (by decide)) 10) (n136 _ (by decide) (by decide)) (n136 _ (by decide) (by decide)) (n136 _ (by decide) (by decide)) (n136 _ (by decide) (by decide)) (n136 _ (by decide) (by decide)) (rw' _ (by decide)) (fun x h1 h2 => rw' x (by omega)) (rw' _ (by decide)) (rw' _ (by decide)) hT,
      fr_Book (rw' _ (by decide)) (rw' _ (by decide)) (rw' _ (by decide)) (rw' _ (by decide)) hB,
      ps_past (u := w2 + 1) (k := k2) (by omega) (by rw [cls2 34 (by decide) (by decide)]; exact q5) (by rw [← hM2, ms_ne (by decide)]; exact q6) (ps_fr (by omega) (cls2 35 (by decide) (by decide)) (fun x h1 h2 => cls2 x (by omega) h2) ((rw' 20 (by decide)).trans (q7 20 (Or.inl (by decide))).symm) ((rw' 22 (by decide)).trans (q7 22 (Or.inl (by decide))).symm) ((congrFun (rw' 1 (by decide)) 10).trans (congrFun (q7 1 (Or.inl (by decide))) 10).symm) ((rw' 3 (by decide)).trans (q7 3 (Or.inl (by decide))).symm) (by rw [← hM2, ms_ne (by decide)]) q4),
      fr_Tape (n136 _ (by decide) (by decide)) (congrFun (rw' 0 (by decide)) 9) (rw' _ (by decide)) (rw' _ (by decide)) hTp,
      fr_Fault (n136 _ (by decide) (by decide)) (n136 _ (by decide) (by decide)) (n136 _ (by decide) (by decide)) (congrFun (rw' 100 (by decide)) 0) (congrFun (rw' 100 (by decide)) 1) hF,
      fr_Words (rw' _ (by decide)) hW, fr_Img (fun x h1 h2 _ _ => rw' x (by omega)) (congrFun (rw' 0 (by decide)) 7) (n136 _ (by decide) (by decide)) (rw' _ (by decide)) hG⟩
    obtain ⟨a0, a1, a2, a3, a4, a5, a6, a7, a8, a9, aw⟩ := hR
    obtain ⟨b1, b2, b3, b4, b5, bw⟩ := hO
    unfold IvNow RNw OkN
    rw [rw' 1 (by decide), rw' 3 (by decide), rw' 4 (by decide), rw' 5 (by decide), rw' 20 (by decide), rw' 22 (by decide), rw' 140 (by decide), n136 6 (by decide) (by decide), n137 0 (by omega), n137 1 (by omega), n137 2 (by omega), n137 3 (by omega), n137 4 (by omega), n137 5 (by omega), n137 6 (by omega), n137 7 (by omega), n137 8 (by omega), n137 9 (by omega)]
    refine ⟨⟨a0, a1, a2, a3, a4, a5, a6, a7, a8, a9, fun x hx => ?_⟩, ⟨b1, b2, b3, b4, b5, fun x hx => ?_⟩, hL, dw, dl⟩
    · rw [n137 (10 + x) (by omega), n137 (20 + x) (by omega)]
      refine ⟨(aw x hx).1, (aw x hx).2.1, ?_⟩
      by_cases h : x = j
      · subst h; rw [m137j, m2j]
      · rw [n137 (30 + x) (by omega), n2 x h]; exact (aw x hx).2.2
    · obtain ⟨y1, y2, y3, y4⟩ := bw x hx
      refine ⟨?_, y2, y3, y4⟩
      by_cases h : x = j
      · subst h; rw [m2j]; exact hbq
      · rw [n2 x h]; exact y1
