/-! text: a round is told, shifts are told -/
theorem zq_f345 {tx : Nat → Nat} {len m : Nat} {v : Int32} {Y D1 : IM} (hd : zq_dt (zq_Z v Y) tx len m) (h : f_X12_reads (zq_Z v Y) = some (0, D1)) : D1 136 34 = 0 ∧ D1 136 35 = -1 := by
  obtain ⟨D2, q1, q2, -⟩ := zq_fs (p := 0) hd (by unfold zq_Z; rw [ms_at (by decide), ms_at (by decide), ms_it]; rfl) (by unfold zq_Z; rw [ms_at (by decide), ms_at (by decide), ms_at (by decide), ms_it]; rfl)
  rw [q1] at h
  obtain ⟨-, rfl⟩ := Prod.mk.inj (Option.some.inj h)
  refine ⟨?_, ?_⟩
  · rw [q2.2.1 34 (by decide)]
    unfold zq_Z
    rw [ms_at (by decide), ms_at (by decide), ms_at (by decide), ms_at (by decide), ms_at (by decide), ms_it]
  · rw [q2.2.1 35 (by decide)]
    unfold zq_Z
    rw [ms_at (by decide), ms_at (by decide), ms_at (by decide), ms_at (by decide), ms_it]
theorem st_roundT : Stp2 Inv (f_X11_text 2) (f_X12_text 2) := by
  intro M hI
  obtain ⟨hN, hT, hB, hP, hTp, hF, hW, hG⟩ := id hI
  obtain ⟨-, -, u3, u4, u5, u6⟩ := told_to hT
  obtain ⟨tx, len, m, C, b1, hc, h7, h0, h1, hr, hr0, hr9, hdt⟩ := zq_setup hTp hW
  have hm := hc.1
  have eC : f_X11_text 2 M = cl (f_X6_readsRound C) fun w23 M24 => if w23 = 0 then some ((-1), M24) else cl (f_X11_tellRound M24) fun w27 M28 => some (w27, M28) := by
    unfold f_X11_text
    simp only [lt]
    rw [zq_pt, cl_s b1, if_neg (by decide), if_neg (by decide), if_pos (by decide)]
  have c' : zq_ct (ms C 107 0 0) (tkC tx len m) (pl tx len) m := by
    refine ⟨hc.1, hc.2.1, fun k hk => ?_⟩
    rw [ms_ne (by decide), ms_ne (by decide)]
    exact hc.2.2 k hk
  have J : ∀ D : IM, zq_dt D tx len m → AtM D tx len m 0 → zq_jo [100, 107, 108, 109, 110, 111] 153 32 (ms C 107 0 0) D (f_X6_readsRound C) (f_X12_readStones D) zq_rr := fun D d1 d2 =>
    zq_rds m BG BG 0 0 (ms C 107 0 0) D (by omega) (by omega) c' (by rw [ms_ne (by decide)]; exact h7) d1 d2 ⟨by rw [ms_it]; rfl, by decide, fun i hi => absurd hi (by omega)⟩ (by unfold BG; omega) (by unfold BG; omega)
  have eQ : ∀ D1 : IM, zq_Q 2 D1 = cl (f_X12_readStones D1) fun w13 M14 => some (w13, M14) := fun D1 => by
    unfold zq_Q
    rw [if_pos rfl]
  obtain ⟨E1, -, -, E3, -⟩ := zq_first (v := 2) (zq_dtZ (Y := M) hdt rfl rfl rfl)
  rcases J E1 E3.1 E3.2.1 with ⟨Ce, -, x1, -, -, -, x5, -⟩ | ⟨C1, -, n1, x1, -, x3, x4, -, x6⟩
  · have hr1 : ∀ p : Nat, p ∉ [0, 100, 107, 108, 109, 110, 111, 117, 118] → Ce p = M p := fun p hp => by
      simp only [List.mem_cons, List.not_mem_nil, or_false, not_or] at hp
      rw [x5 p (by simp only [List.mem_cons, List.not_mem_nil, or_false, not_or]; omega), ms_ne (by omega), hr p (by simp only [List.mem_cons, List.not_mem_nil, or_false, not_or]; omega)]
    obtain ⟨D1, d1, d2, d3, -⟩ := zq_first (v := 2) (zq_dtZ (Y := Ce) hdt (hr1 143 (by decide)) (hr1 144 (by decide)) (by rw [hr1 136 (by decide)]))
    rcases J D1 d3.1 d3.2.1 with ⟨Cf, De, z1, z2, z3, z4, z5, z6⟩ | ⟨Cf, De, n2, z1, -⟩
    · rw [x1] at z1
      obtain ⟨-, rfl⟩ := Prod.mk.inj (Option.some.inj z1)
      have eX := (zq_text_e (v := 2) (by decide) d1 (show zq_Q 2 D1 = some (-1, De) by rw [eQ, cl_s z2])).1 rfl
      rw [zq_flt] at eX
      refine ⟨-1, Ce, _, by rw [eC, cl_s x1, if_pos rfl], eX, ?_⟩
      have r0 : Ce 0 = C 0 := by rw [x5 0 (by decide), ms_ne (by decide)]
      refine zq_invf hI (fun p hp => hr1 p ?_) (fun i hi => by rw [r0]; exact hr0 i hi) (by rw [r0]; exact hr9) (zq_ma_tr (zq_ma_tr d2 (zq_ma_3 z6)) (zq_ma_tr (zq_ma_tr (zq_ma_c (by decide)) (zq_ma_c (by decide))) (zq_ma_c (by decide)))) ms_it ?_ ?_
      · simp only [List.mem_cons, List.not_mem_nil, or_false, not_or] at hp ⊢
        omega
      · rw [ms_at (by decide), ms_at (by decide), ms_it, z3]
      · rw [ms_at (by decide), ms_it, z4]
    · rw [x1] at z1
      have := (Prod.mk.inj (Option.some.inj z1)).1
      exact absurd this (by decide)
  · obtain ⟨A, eA⟩ : ∃ A : IM, A = ms (ms (ms C1 1 2 0) 1 3 0) 34 0 0 := ⟨_, rfl⟩
    have rA : ∀ p : Nat, ¬ p = 1 → ¬ p = 34 → A p = C1 p := fun p p1 p2 => by rw [eA, ms_ne p2, ms_ne p1, ms_ne p1]
    have hrC : ∀ p : Nat, p ∉ [0, 100, 107, 108, 109, 110, 111, 117, 118] → C1 p = M p := fun p hp => by
      simp only [List.mem_cons, List.not_mem_nil, or_false, not_or] at hp
      rw [x4 p (by simp only [List.mem_cons, List.not_mem_nil, or_false, not_or]; omega), ms_ne (by omega), hr p (by simp only [List.mem_cons, List.not_mem_nil, or_false, not_or]; omega)]
    obtain ⟨Y, y1, y2, y3, y4⟩ := round_become (M := A) (o0 := 20) (o1 := 107) (by omega)
    have eT : f_X11_tellRound C1 = some (A 107 0, Y) := by
      unfold f_X11_tellRound f_X5_forget
      rw [zq_pt, zq_pt, zq_pt, ← eA]
      rw [cl_s rfl, cl_s y1]
    have hrY : ∀ p : Nat, p ∉ [0, 1, 34, 20, 21, 22, 23, 24, 100, 107, 108, 109, 110, 111, 117, 118] → Y p = M p := fun p hp => by
      simp only [List.mem_cons, List.not_mem_nil, or_false, not_or] at hp
      rw [y4 p (by omega), rA p (by omega) (by omega), hrC p (by simp only [List.mem_cons, List.not_mem_nil, or_false, not_or]; omega)]
    have hY2 : ∀ p : Nat, 119 ≤ p → Y p = M p := fun p hp => hrY p (by simp only [List.mem_cons, List.not_mem_nil, or_false, not_or]; omega)
    have hdZ := zq_dtZ (v := 2) (Y := Y) hdt (hY2 143 (by decide)) (hY2 144 (by decide)) (by rw [hY2 136 (by decide)])
    obtain ⟨D1, d1, d2, d3, -⟩ := zq_first hdZ
    obtain ⟨g34, g35⟩ := zq_f345 hdZ d1
    rcases J D1 d3.1 d3.2.1 with ⟨Cf, De, z1, -⟩ | ⟨Cf, D2, n, z1, z2, z3, z4, z5, z6, z7, z8⟩
    · rw [x1] at z1
      have := (Prod.mk.inj (Option.some.inj z1)).1
      exact absurd this (by decide)
    · rw [x1] at z1
      obtain ⟨-, rfl⟩ := Prod.mk.inj (Option.some.inj z1)
      have hne : ¬ nI n = -1 := zq_vm (by omega)
      have eX := (zq_text_e (v := 2) (by decide) d1 (show zq_Q 2 D1 = some (nI n, D2) by rw [eQ, cl_s z2])).2 hne
      obtain ⟨X0, v1, v2, v3⟩ := zq_tkr (D := ms D2 136 14 0) z7
      obtain ⟨X, eXX⟩ : ∃ X : IM, X = ms (ms (ms (ms X0 136 36 (nI n)) 137 3 0) 137 4 0) 136 3 0 := ⟨_, rfl⟩
      rw [← eXX] at v1
      have e69 : f_X12_text_69 2 (nI n) D2 = some (nI n, X) := by
        unfold f_X12_text_69
        rw [zq_pt, if_neg hne, if_pos (by decide), cl_s v1]
      have eA0 : A 107 0 = nI n := by rw [rA 107 (by decide) (by decide)]; exact z6
      refine ⟨nI n, Y, X, by rw [eC, cl_s x1, if_neg (by decide), cl_s eT, eA0], by rw [eX, e69], ?_⟩
      have mE : zq_ma Y (ms D2 136 14 0) := zq_ma_tr (zq_ma_tr d2 (zq_ma_3 z5)) (zq_ma_c (by decide))
      have rX : ∀ p : Nat, ¬ p = 136 → ¬ p = 137 → X p = X0 p := fun p p1 p2 => by rw [eXX, ms_ne p1, ms_ne p2, ms_ne p2, ms_ne p1]
      have rX6 : ∀ j : Nat, ¬ j = 36 → ¬ j = 3 → X 136 j = ms D2 136 14 0 136 j := fun j j1 j2 => by rw [eXX, ms_at j2, ms_ne (by decide), ms_ne (by decide), ms_at j1, v3 136 (by decide)]
      have hXl : ∀ p : Nat, p < 136 → X p = Y p := fun p hp => by
        rw [rX p (by omega) (by omega), v3 p (by simp only [List.mem_cons, List.not_mem_nil, or_false]; omega), mE.2.2.2.2.2 p (by simp only [List.mem_cons, List.not_mem_nil, or_false, not_or]; omega)]
      have far : ∀ p : Nat, p ∉ [0, 1, 34, 136, 137, 20, 21, 22, 23, 24, 100, 107, 108, 109, 110, 111, 117, 118, 146, 147, 148, 149, 150, 151, 152, 153, 154] → X p = M p := fun p hp => by
        simp only [List.mem_cons, List.not_mem_nil, or_false, not_or] at hp
        rw [rX p (by omega) (by omega), v3 p (by simp only [List.mem_cons, List.not_mem_nil, or_false]; omega), mE.2.2.2.2.2 p (by simp only [List.mem_cons, List.not_mem_nil, or_false, not_or]; omega), hrY p (by simp only [List.mem_cons, List.not_mem_nil, or_false, not_or]; omega)]
      have x136 : ∀ j : Nat, j ∉ [0, 3, 36, 14, 15, 16, 17, 18, 27, 28, 29, 31, 32, 33, 34, 35] → X 136 j = M 136 j := fun j hj => by
        simp only [List.mem_cons, List.not_mem_nil, or_false, not_or] at hj
        rw [rX6 j (by omega) (by omega), mE.2.2.2.2.1 j (by simp only [List.mem_cons, List.not_mem_nil, or_false, not_or]; omega), hY2 136 (by decide)]
      have hs : ∀ j ∈ [5, 8, 9, 10, 50], j ∉ [0, 3, 36, 14, 15, 16, 17, 18, 27, 28, 29, 31, 32, 33, 34, 35] := by decide
      have x1r : ∀ i : Nat, ¬ i = 2 → ¬ i = 3 → X 1 i = M 1 i := fun i i2 i3 => by rw [hXl 1 (by decide), y4 1 (by omega), eA, ms_ne (by decide), ms_at i3, ms_at i2, hrC 1 (by decide)]
      have x12 : X 1 2 = 0 := by rw [hXl 1 (by decide), y4 1 (by omega), eA, ms_ne (by decide), ms_at (by decide), ms_it]
      have x13 : X 1 3 = 0 := by rw [hXl 1 (by decide), y4 1 (by omega), eA, ms_ne (by decide), ms_it]
      have x340 : X 34 0 = 0 := by rw [hXl 34 (by decide), y4 34 (by omega), eA, ms_it]
      have X0137 : X0 137 = M 137 := by rw [v3 137 (by decide), mE.2.2.2.2.2 137 (by decide), hY2 137 (by decide)]
      have q137 : ∀ i : Nat, ¬ i = 3 → ¬ i = 4 → X 137 i = M 137 i := fun i i3 i4 => by rw [eXX, ms_ne (by decide), ms_at i4, ms_at i3, ms_ne (by decide), X0137]
      have q3 : X 137 3 = 0 := by rw [eXX, ms_ne (by decide), ms_at (by decide), ms_it]
      have q4 : X 137 4 = 0 := by rw [eXX, ms_ne (by decide), ms_it]
      have k36 : X 136 36 = nI n := by rw [eXX, ms_at (by decide), ms_ne (by decide), ms_ne (by decide), ms_it]
      have k3 : X 136 3 = 0 := by rw [eXX, ms_it]
      have t20 : X 20 0 = nI n := by rw [hXl 20 (by decide), y2, eA0]
      have tk : ∀ t : Nat, 1 ≤ t → t ≤ 4 → ∀ i : Nat, i < 8 → X (20 + t) i = C1 (107 + t) i := fun t t1 t4 i hi => by rw [hXl (20 + t) (by omega), y3 t t1 t4 i hi, rA (107 + t) (by omega) (by omega)]
      have q153 : ∀ j : Nat, j < 4 * n → X 153 j = D2 153 (32 + j) := fun j hj => by rw [rX 153 (by decide) (by decide), v2 j hj, ms_ne (by decide)]
      have hRd : IvRd X := by
        refine ⟨by rw [k36, t20], by rw [t20]; exact bnd_n (by omega) (by omega) (by omega), fun i hi => ?_⟩
        rw [t20, nI_clamp (by omega)] at hi
        have := z8 i hi
        rw [q153 _ (by omega), q153 _ (by omega), q153 _ (by omega), q153 _ (by omega), tk 1 (by decide) (by decide) i (by omega), tk 2 (by decide) (by decide) i (by omega), tk 3 (by decide) (by decide) i (by omega), tk 4 (by decide) (by decide) i (by omega)]
        exact this
      have hNow : IvNow X := by
        obtain ⟨⟨a0, a1, a2, a3, a4, a5, a6, a7, a8, a9, aw⟩, ⟨c1, c2, c3, c4, c5, cw⟩, -, d, dl⟩ := hN
        refine ⟨?_, ?_, ?_, ?_, ?_⟩
        · unfold RNw
          rw [q137 0 (by decide) (by decide), q137 1 (by decide) (by decide), q137 2 (by decide) (by decide), q3, q4, q137 5 (by decide) (by decide), q137 6 (by decide) (by decide), q137 7 (by decide) (by decide), q137 8 (by decide) (by decide), q137 9 (by decide) (by decide), x1r 1 (by decide) (by decide), x1r 0 (by decide) (by decide), x1r 9 (by decide) (by decide), x12, x13, x1r 4 (by decide) (by decide), x1r 5 (by decide) (by decide), x1r 6 (by decide) (by decide), x1r 7 (by decide) (by decide), x1r 8 (by decide) (by decide)]
          refine ⟨a0, a1, a2, rfl, rfl, a5, a6, a7, a8, a9, fun w hw => ?_⟩
          rw [q137 _ (by omega) (by omega), q137 _ (by omega) (by omega), q137 _ (by omega) (by omega), far 4 (by decide), far 5 (by decide), far 2 (by decide)]
          exact aw w hw
        · unfold OkN
          rw [x1r 1 (by decide) (by decide), x1r 4 (by decide) (by decide), x1r 8 (by decide) (by decide), x1r 9 (by decide) (by decide), x1r 10 (by decide) (by decide), far 2 (by decide), far 3 (by decide), far 4 (by decide), far 5 (by decide)]
          exact ⟨c1, c2, c3, c4, c5, cw⟩
        · unfold OkL
          rw [x12, x13, t20]
          by_cases e : n = 0
          · left
            rw [e]
            exact ⟨rfl, rfl, rfl⟩
          · right
            have hb := (z8 0 (by omega)).2.2.1
            have e22 : X 22 0 = C1 109 0 := tk 2 (by decide) (by decide) 0 (by decide)
            rw [show (0 : Int32).toNatClampNeg = 0 by decide, e22, nI_toInt (by omega)]
            have := hb.1
            exact ⟨by decide, by show (0 : Int) < _; omega, by decide, by show (0 : Int) < _; omega⟩
        · rw [x136 6 (by decide), x1r 10 (by decide) (by decide)]
          exact d
        · rw [far 140 (by decide), far 3 (by decide)]
          exact dl
      refine zq_inv hI (fun p hp => far p ?_) (fun i hi => by rw [hXl 0 (by decide), y4 0 (by omega), rA 0 (by decide) (by decide), x4 0 (by decide), ms_ne (by decide)]; exact hr0 i hi) (fun j hj => x136 j (hs j hj)) (by rw [hXl 0 (by decide), y4 0 (by omega), rA 0 (by decide) (by decide), x4 0 (by decide), ms_ne (by decide)]; exact hr9) (by rw [rX6 14 (by decide) (by decide), ms_it]) ?_ ?_ hNow (no_Past (far 35 (by decide)) x340 k3 hP)
        (zq_kL0 (fun p p1 p2 => far p (by simp only [List.mem_cons, List.not_mem_nil, or_false, not_or]; omega)) (congrFun (far 145 (by decide)) 0) (fun q q1 q2 i hi => by rw [rX q (by omega) (by omega), v3 q (by simp only [List.mem_cons, List.not_mem_nil, or_false]; omega), mE.1 q q1 q2 i (by omega), hY2 q (by omega)]) (fun q q1 q2 i hi => by rw [rX q (by omega) (by omega), v3 q (by simp only [List.mem_cons, List.not_mem_nil, or_false]; omega), mE.2.1 q q1 q2 i (by omega), hY2 q (by omega)]) u3)
        (zq_kL1 (fun p p1 p2 => far p (by simp only [List.mem_cons, List.not_mem_nil, or_false, not_or]; omega)) (congrFun (far 145 (by decide)) 1) (fun q q1 q2 i hi => by rw [rX q (by omega) (by omega), v3 q (by simp only [List.mem_cons, List.not_mem_nil, or_false]; omega), mE.1 q q1 q2 _ (by omega), hY2 q (by omega)]) (fun q q1 q2 i hi => by rw [rX q (by omega) (by omega), v3 q (by simp only [List.mem_cons, List.not_mem_nil, or_false]; omega), mE.2.1 q q1 q2 _ (by omega), hY2 q (by omega)]) u4)
        hRd
        (zq_kSh (fun p p1 p2 => far p (by simp only [List.mem_cons, List.not_mem_nil, or_false, not_or]; omega)) (x136 _ (by decide)) (x1r 10 (by decide) (by decide)) (fun i hi => by rw [rX 154 (by decide) (by decide), v3 154 (by decide), mE.2.2.2.1 i hi, hY2 154 (by decide)]) u6)
      · simp only [List.mem_cons, List.not_mem_nil, or_false, not_or] at hp ⊢
        omega
      · rw [rX6 34 (by decide) (by decide), ms_at (by decide), z5.1 34 (by decide), g34, hXl 100 (by decide), y4 100 (by omega), rA 100 (by decide) (by decide), x3.1, ms_ne (by decide), h0]
      · rw [rX6 35 (by decide) (by decide), ms_at (by decide), z5.1 35 (by decide), g35, hXl 100 (by decide), y4 100 (by omega), rA 100 (by decide) (by decide), x3.2, ms_ne (by decide), h1]
