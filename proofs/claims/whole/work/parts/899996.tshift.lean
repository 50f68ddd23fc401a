/-! text: shifts are told; the step -/
theorem st_shiftT : Stp2 Inv (f_X11_text 3) (f_X12_text 3) := by
  intro M hI
  obtain ⟨hN, hT, hB, hP, hTp, hF, hW, hG⟩ := id hI
  obtain ⟨-, -, u3, u4, u5, u6⟩ := told_to hT
  obtain ⟨tx, len, m, C, b1, hc, h7, h0, h1, hr, hr0, hr9, hdt⟩ := zq_setup hTp hW
  have hm := hc.1
  obtain ⟨W, hW10, eW⟩ := bnd_nI (n := 10) hN.2.1.2.2.2.2.1 (by decide)
  have e6 : M 136 6 = nI W := hN.2.2.2.1.trans eW
  have eC1 : C 1 10 = nI W := by rw [hr 1 (by decide)]; exact eW
  have eC : f_X11_text 3 M = cl (f_X6_readsShifts (nI W) C) fun w31 M32 => if w31 = 0 then some ((-1), M32) else cl (f_X11_tellShifts M32) fun w35 M36 => some (w35, M36) := by
    unfold f_X11_text
    simp only [lt]
    rw [zq_pt, cl_s b1, if_neg (by decide), if_neg (by decide), if_neg (by decide), if_pos (by decide), eC1]
  have c' : zq_ct (ms C 112 0 0) (tkC tx len m) (pl tx len) m := by
    refine ⟨hc.1, hc.2.1, fun k hk => ?_⟩
    rw [ms_ne (by decide), ms_ne (by decide)]
    exact hc.2.2 k hk
  have J : ∀ D : IM, zq_dt D tx len m → AtM D tx len m 0 → D 136 6 = nI W → zq_jo [100, 112, 113, 114] 154 48 (ms C 112 0 0) D (f_X6_readsShifts (nI W) C) (f_X12_readShifts D) (zq_ss (nI W)) := fun D d1 d2 d3 =>
    zq_shs hW10 m BG BG 0 0 (ms C 112 0 0) D (by omega) (by omega) c' (by rw [ms_ne (by decide)]; exact h7) d1 d2 d3 ⟨by rw [ms_it]; rfl, by decide, fun i hi => absurd hi (by omega)⟩ (by unfold BG; omega) (by unfold BG; omega)
  have eQ : ∀ D1 : IM, zq_Q 3 D1 = cl (f_X12_readShifts D1) fun w10 M11 => some (w10, M11) := fun D1 => by
    unfold zq_Q
    rw [if_neg (by decide), if_pos rfl]
  obtain ⟨E1, -, -, E3, -, -, E6⟩ := zq_first (v := 3) (zq_dtZ (Y := M) hdt rfl rfl rfl)
  rcases J E1 E3.1 E3.2.1 (E6.trans e6) with ⟨Ce, -, x1, -, -, -, x5, -⟩ | ⟨C1, -, n1, x1, -, x3, x4, -, x6⟩
  · have hr1 : ∀ p : Nat, p ∉ [0, 100, 112, 113, 114, 117, 118] → Ce p = M p := fun p hp => by
      simp only [List.mem_cons, List.not_mem_nil, or_false, not_or] at hp
      rw [x5 p (by simp only [List.mem_cons, List.not_mem_nil, or_false, not_or]; omega), ms_ne (by omega), hr p (by simp only [List.mem_cons, List.not_mem_nil, or_false, not_or]; omega)]
    obtain ⟨D1, d1, d2, d3, -, -, d6⟩ := zq_first (v := 3) (zq_dtZ (Y := Ce) hdt (hr1 143 (by decide)) (hr1 144 (by decide)) (by rw [hr1 136 (by decide)]))
    rcases J D1 d3.1 d3.2.1 (by rw [d6, hr1 136 (by decide)]; exact e6) with ⟨Cf, De, z1, z2, z3, z4, z5, z6⟩ | ⟨Cf, De, n2, z1, -⟩
    · rw [x1] at z1
      obtain ⟨-, rfl⟩ := Prod.mk.inj (Option.some.inj z1)
      have eX := (zq_text_e (v := 3) (by decide) d1 (show zq_Q 3 D1 = some (-1, De) by rw [eQ, cl_s z2])).1 rfl
      rw [zq_flt] at eX
      refine ⟨-1, Ce, _, by rw [eC, cl_s x1, if_pos rfl], eX, ?_⟩
      have r0 : Ce 0 = C 0 := by rw [x5 0 (by decide), ms_ne (by decide)]
      refine zq_invf hI (fun p hp => hr1 p ?_) (fun i hi => by rw [r0]; exact hr0 i hi) (by rw [r0]; exact hr9) (zq_ma_tr (zq_ma_tr d2 (zq_ma_4 z6)) (zq_ma_tr (zq_ma_tr (zq_ma_c (by decide)) (zq_ma_c (by decide))) (zq_ma_c (by decide)))) ms_it ?_ ?_
      · simp only [List.mem_cons, List.not_mem_nil, or_false, not_or] at hp ⊢
        omega
      · rw [ms_at (by decide), ms_at (by decide), ms_it, z3]
      · rw [ms_at (by decide), ms_it, z4]
    · rw [x1] at z1
      have := (Prod.mk.inj (Option.some.inj z1)).1
      exact absurd this (by decide)
  · obtain ⟨A, eA⟩ : ∃ A : IM, A = ms C1 34 0 0 := ⟨_, rfl⟩
    have rA : ∀ p : Nat, ¬ p = 34 → A p = C1 p := fun p p2 => by rw [eA, ms_ne p2]
    have hrC : ∀ p : Nat, p ∉ [0, 100, 112, 113, 114, 117, 118] → C1 p = M p := fun p hp => by
      simp only [List.mem_cons, List.not_mem_nil, or_false, not_or] at hp
      rw [x4 p (by simp only [List.mem_cons, List.not_mem_nil, or_false, not_or]; omega), ms_ne (by omega), hr p (by simp only [List.mem_cons, List.not_mem_nil, or_false, not_or]; omega)]
    obtain ⟨Y, y1, y2, y3, y3b, y4⟩ := shifts_become (M := A) (o0 := 25) (o1 := 112) (by omega)
    have eT : f_X11_tellShifts C1 = some (A 112 0, Y) := by
      unfold f_X11_tellShifts f_X5_forget
      rw [zq_pt, ← eA]
      rw [cl_s rfl, cl_s y1]
    have hrY : ∀ p : Nat, p ∉ [0, 34, 25, 26, 27, 100, 112, 113, 114, 117, 118] → Y p = M p := fun p hp => by
      simp only [List.mem_cons, List.not_mem_nil, or_false, not_or] at hp
      rw [y4 p (by omega), rA p (by omega), hrC p (by simp only [List.mem_cons, List.not_mem_nil, or_false, not_or]; omega)]
    have hY2 : ∀ p : Nat, 119 ≤ p → Y p = M p := fun p hp => hrY p (by simp only [List.mem_cons, List.not_mem_nil, or_false, not_or]; omega)
    have hdZ := zq_dtZ (v := 3) (Y := Y) hdt (hY2 143 (by decide)) (hY2 144 (by decide)) (by rw [hY2 136 (by decide)])
    obtain ⟨D1, d1, d2, d3, -, -, d6⟩ := zq_first hdZ
    obtain ⟨g34, g35⟩ := zq_f345 hdZ d1
    rcases J D1 d3.1 d3.2.1 (by rw [d6, hY2 136 (by decide)]; exact e6) with ⟨Cf, De, z1, -⟩ | ⟨Cf, D2, n, z1, z2, z3, z4, z5, z6, z7, z8⟩
    · rw [x1] at z1
      have := (Prod.mk.inj (Option.some.inj z1)).1
      exact absurd this (by decide)
    · rw [x1] at z1
      obtain ⟨-, rfl⟩ := Prod.mk.inj (Option.some.inj z1)
      have hne : ¬ nI n = -1 := zq_vm (by omega)
      have eX := (zq_text_e (v := 3) (by decide) d1 (show zq_Q 3 D1 = some (nI n, D2) by rw [eQ, cl_s z2])).2 hne
      obtain ⟨X0, v1, v2, v3⟩ := zq_tks2 (D := ms D2 136 14 0) z7
      obtain ⟨X, eXX⟩ : ∃ X : IM, X = ms (ms X0 136 38 (nI n)) 136 3 0 := ⟨_, rfl⟩
      rw [← eXX] at v1
      have e69 : f_X12_text_69 3 (nI n) D2 = some (nI n, X) := by
        unfold f_X12_text_69
        rw [zq_pt, if_neg hne, if_pos (by decide), cl_s v1]
      have eA0 : A 112 0 = nI n := by rw [rA 112 (by decide)]; exact z6
      refine ⟨nI n, Y, X, by rw [eC, cl_s x1, if_neg (by decide), cl_s eT, eA0], by rw [eX, e69], ?_⟩
      have mE : zq_ma Y (ms D2 136 14 0) := zq_ma_tr (zq_ma_tr d2 (zq_ma_4 z5)) (zq_ma_c (by decide))
      have rX : ∀ p : Nat, ¬ p = 136 → X p = X0 p := fun p p1 => by rw [eXX, ms_ne p1, ms_ne p1]
      have rX6 : ∀ j : Nat, ¬ j = 38 → ¬ j = 3 → X 136 j = ms D2 136 14 0 136 j := fun j j1 j2 => by rw [eXX, ms_at j2, ms_at j1, v3 136 (by decide)]
      have hXl : ∀ p : Nat, p < 136 → X p = Y p := fun p hp => by
        rw [rX p (by omega), v3 p (by simp only [List.mem_cons, List.not_mem_nil, or_false]; omega), mE.2.2.2.2.2 p (by simp only [List.mem_cons, List.not_mem_nil, or_false, not_or]; omega)]
      have far : ∀ p : Nat, p ∉ [0, 34, 136, 25, 26, 27, 100, 112, 113, 114, 117, 118, 146, 147, 148, 149, 150, 151, 152, 153, 154] → X p = M p := fun p hp => by
        simp only [List.mem_cons, List.not_mem_nil, or_false, not_or] at hp
        rw [rX p (by omega), v3 p (by simp only [List.mem_cons, List.not_mem_nil, or_false]; omega), mE.2.2.2.2.2 p (by simp only [List.mem_cons, List.not_mem_nil, or_false, not_or]; omega), hrY p (by simp only [List.mem_cons, List.not_mem_nil, or_false, not_or]; omega)]
      have x136 : ∀ j : Nat, j ∉ [0, 3, 38, 14, 15, 16, 17, 18, 27, 28, 29, 31, 32, 33, 34, 35] → X 136 j = M 136 j := fun j hj => by
        simp only [List.mem_cons, List.not_mem_nil, or_false, not_or] at hj
        rw [rX6 j (by omega) (by omega), mE.2.2.2.2.1 j (by simp only [List.mem_cons, List.not_mem_nil, or_false, not_or]; omega), hY2 136 (by decide)]
      have hs : ∀ j ∈ [5, 8, 9, 10, 50], j ∉ [0, 3, 38, 14, 15, 16, 17, 18, 27, 28, 29, 31, 32, 33, 34, 35] := by decide
      have x340 : X 34 0 = 0 := by rw [hXl 34 (by decide), y4 34 (by omega), eA, ms_it]
      have k38 : X 136 38 = nI n := by rw [eXX, ms_at (by decide), ms_it]
      have k3 : X 136 3 = 0 := by rw [eXX, ms_it]
      have t25 : X 25 0 = nI n := by rw [hXl 25 (by decide), y2, eA0]
      have t26 : ∀ i : Nat, i < 16 → X 26 i = C1 113 i := fun i hi => by rw [hXl 26 (by decide), y3 i hi, rA 113 (by decide)]
      have t27 : ∀ i : Nat, i < 16 → X 27 i = C1 114 i := fun i hi => by rw [hXl 27 (by decide), y3b i hi, rA 114 (by decide)]
      have q154 : ∀ j : Nat, j < 3 * n → X 154 j = D2 154 (48 + j) := fun j hj => by rw [rX 154 (by decide), v2 j hj, ms_ne (by decide)]
      have hSh : IvSh X := by
        refine ⟨by rw [k38, t25], by rw [t25]; exact bnd_n (by omega) (by omega) (by omega), fun i hi => ?_⟩
        rw [t25, nI_clamp (by omega)] at hi
        have := z8 i hi
        rw [q154 _ (by omega), q154 _ (by omega), q154 _ (by omega), t26 i (by omega), t27 i (by omega), congrFun (far 1 (by decide)) 10, eW]
        exact this
      refine zq_inv hI (fun p hp => far p ?_) (fun i hi => by rw [hXl 0 (by decide), y4 0 (by omega), rA 0 (by decide), x4 0 (by decide), ms_ne (by decide)]; exact hr0 i hi) (fun j hj => x136 j (hs j hj)) (by rw [hXl 0 (by decide), y4 0 (by omega), rA 0 (by decide), x4 0 (by decide), ms_ne (by decide)]; exact hr9) (by rw [rX6 14 (by decide) (by decide), ms_it]) ?_ ?_
        (fr_Now (far _ (by decide)) (far _ (by decide)) (far _ (by decide)) (far _ (by decide)) (far _ (by decide)) (far _ (by decide)) (far _ (by decide)) (far _ (by decide)) (far _ (by decide)) (x136 _ (by decide)) hN)
        (no_Past (far 35 (by decide)) x340 k3 hP)
        (zq_kL0 (fun p p1 p2 => far p (by simp only [List.mem_cons, List.not_mem_nil, or_false, not_or]; omega)) (congrFun (far 145 (by decide)) 0) (fun q q1 q2 i hi => by rw [rX q (by omega), v3 q (by simp only [List.mem_cons, List.not_mem_nil, or_false]; omega), mE.1 q q1 q2 i (by omega), hY2 q (by omega)]) (fun q q1 q2 i hi => by rw [rX q (by omega), v3 q (by simp only [List.mem_cons, List.not_mem_nil, or_false]; omega), mE.2.1 q q1 q2 i (by omega), hY2 q (by omega)]) u3)
        (zq_kL1 (fun p p1 p2 => far p (by simp only [List.mem_cons, List.not_mem_nil, or_false, not_or]; omega)) (congrFun (far 145 (by decide)) 1) (fun q q1 q2 i hi => by rw [rX q (by omega), v3 q (by simp only [List.mem_cons, List.not_mem_nil, or_false]; omega), mE.1 q q1 q2 _ (by omega), hY2 q (by omega)]) (fun q q1 q2 i hi => by rw [rX q (by omega), v3 q (by simp only [List.mem_cons, List.not_mem_nil, or_false]; omega), mE.2.1 q q1 q2 _ (by omega), hY2 q (by omega)]) u4)
        (zq_kRd (fun p p1 p2 => far p (by simp only [List.mem_cons, List.not_mem_nil, or_false, not_or]; omega)) (x136 _ (by decide)) (fun i hi => by rw [rX 153 (by decide), v3 153 (by decide), mE.2.2.1 i hi, hY2 153 (by decide)]) u5)
        hSh
      · simp only [List.mem_cons, List.not_mem_nil, or_false, not_or] at hp ⊢
        omega
      · rw [rX6 34 (by decide) (by decide), ms_at (by decide), z5.1 34 (by decide), g34, hXl 100 (by decide), y4 100 (by omega), rA 100 (by decide), x3.1, ms_ne (by decide), h0]
      · rw [rX6 35 (by decide) (by decide), ms_at (by decide), z5.1 35 (by decide), g35, hXl 100 (by decide), y4 100 (by omega), rA 100 (by decide), x3.2, ms_ne (by decide), h1]
/-- no such text -/
theorem st_noT {v : Int32} (n0 : ¬ v = 0) (n1 : ¬ v = 1) (n2 : ¬ v = 2) (n3 : ¬ v = 3) : Stp2 Inv (f_X11_text v) (f_X12_text v) := by
  intro M hI
  obtain ⟨hN, hT, hB, hP, hTp, hF, hW, hG⟩ := id hI
  obtain ⟨tx, len, m, C, b1, hc, h7, h0, h1, hr, hr0, hr9, hdt⟩ := zq_setup hTp hW
  have hv : v < 0 ∨ 3 < v := by
    apply Decidable.byContradiction
    intro z
    obtain ⟨j, hj, e⟩ := in_to (n := 3) (by decide) z
    have : j = 0 ∨ j = 1 ∨ j = 2 ∨ j = 3 := by omega
    rcases this with rfl | rfl | rfl | rfl
    · exact n0 e
    · exact n1 e
    · exact n2 e
    · exact n3 e
  have eC : f_X11_text v M = some (-1, C) := by
    unfold f_X11_text
    simp only [lt]
    rw [zq_pt, cl_s b1, if_neg n0, if_neg n1, if_neg n2, if_neg n3]
  obtain ⟨X, eX⟩ : ∃ X : IM, X = ms (ms (ms (ms (ms (ms (ms C 136 0 0) 136 34 0) 136 35 (-1)) 136 15 0) 136 28 0) 136 29 0) 136 14 0 := ⟨_, rfl⟩
  have eM : f_X12_text v C = some (-1, X) := by
    unfold f_X12_text
    rw [zq_pt, zq_pt, zq_pt, zq_pt, zq_pt, zq_pt, cl_s (win_m _ _ _ _), if_pos (by rw [if_pos hv]), zq_flt, eX]
  refine ⟨-1, C, X, eC, eM, ?_⟩
  refine zq_invf hI (fun p hp => hr p ?_) hr0 hr9 (by rw [eX]; exact zq_ma_tr (zq_ma_tr (zq_ma_tr (zq_ma_tr (zq_ma_tr (zq_ma_tr (zq_ma_c (by decide)) (zq_ma_c (by decide))) (zq_ma_c (by decide))) (zq_ma_c (by decide))) (zq_ma_c (by decide))) (zq_ma_c (by decide))) (zq_ma_c (by decide))) (by rw [eX, ms_it]) ?_ ?_
  · simp only [List.mem_cons, List.not_mem_nil, or_false, not_or] at hp ⊢
    omega
  · rw [eX, ms_at (by decide), ms_at (by decide), ms_at (by decide), ms_at (by decide), ms_at (by decide), ms_it, h0]
  · rw [eX, ms_at (by decide), ms_at (by decide), ms_at (by decide), ms_at (by decide), ms_it, h1]
theorem st_text (v : Int32) : Stp2 Inv (f_X11_text v) (f_X12_text v) := by
  by_cases n0 : v = 0
  · subst n0
    exact st_lawT (ft := false) (o := 8) (g := 0) (Or.inl ⟨rfl, rfl, rfl⟩)
  by_cases n1 : v = 1
  · subst n1
    exact st_lawT (ft := true) (o := 14) (g := 1) (Or.inr ⟨rfl, rfl, rfl⟩)
  by_cases n2 : v = 2
  · subst n2
    exact st_roundT
  by_cases n3 : v = 3
  · subst n3
    exact st_shiftT
  exact st_noT n0 n1 n2 n3
