/-! text: a law is told -/
theorem zq_clR {C C1 : IM} (h : zq_cg C C1) : ∀ p : Nat, p ∉ [100, 101, 102, 103, 104, 105, 106] → C1 p = C p := h
theorem st_lawT {ft : Bool} {o g : Nat} (ho : (ft = false ∧ o = 8 ∧ g = 0) ∨ (ft = true ∧ o = 14 ∧ g = 1)) : Stp2 Inv (f_X11_text (zq_bI ft)) (f_X12_text (zq_bI ft)) := by
  intro M hI
  obtain ⟨hN, hT, hB, hP, hTp, hF, hW, hG⟩ := id hI
  obtain ⟨-, -, u3, u4, u5, u6⟩ := told_to hT
  obtain ⟨tx, len, m, C, b1, hc, h7, h0, h1, hr, hr0, hr9, hdt⟩ := zq_setup hTp hW
  have hm := hc.1
  have hg : g < 2 := by omega
  have eg : zq_bI ft = nI g := by rcases ho with ⟨rfl, rfl, rfl⟩ | ⟨rfl, rfl, rfl⟩ <;> rfl
  have hin : ¬ (zq_bI ft < 0 ∨ 3 < zq_bI ft) := by cases ft <;> decide
  have n2 : ¬ zq_bI ft = 2 := by cases ft <;> decide
  have n3 : ¬ zq_bI ft = 3 := by cases ft <;> decide
  have n1 : ¬ 1 < zq_bI ft := by cases ft <;> decide
  have eC : f_X11_text (zq_bI ft) M = cl (f_X6_readsLaw (zq_bI ft) C) fun w7 M8 => if w7 = 0 then some ((-1), M8) else cl (f_X3_become o 101 M8) fun w11 M12 => some (w11, M12) := by
    unfold f_X11_text
    simp only [lt]
    rw [zq_pt, cl_s b1]
    rcases ho with ⟨rfl, rfl, rfl⟩ | ⟨rfl, rfl, rfl⟩
    · rw [if_pos (show zq_bI false = 0 from rfl)]
      rfl
    · rw [if_neg (show ¬ zq_bI true = 0 by decide), if_pos (show zq_bI true = 1 from rfl)]
      rfl
  have hcl := zq_lawc (ft := ft) hc h7
  -- the model, on whatever memory
  have hmod : ∀ Y : IM, Y 143 = M 143 → Y 144 = M 144 → Y 136 14 = M 136 14 → ∃ D1, f_X12_reads (zq_Z (zq_bI ft) Y) = some (0, D1) ∧ zq_ma Y D1 ∧ D1 136 27 = zq_bI ft ∧ zq_mlw tx len m D1 (f_X12_readLaw D1) (zq_lw (tkC tx len m) m ft m 0 []) := fun Y y1 y2 y3 => by
    obtain ⟨D1, a1, a2, a3, a4, a5, -⟩ := zq_first (v := zq_bI ft) (zq_dtZ hdt y1 y2 y3)
    exact ⟨D1, a1, a2, a4, zq_lwm (ft := ft) m BG 0 [] D1 (by omega) (by omega) ⟨a3, a5, trivial⟩ a4 (by decide) (by decide) (by unfold BG; omega)⟩
  have eQ : ∀ D1 : IM, zq_Q (zq_bI ft) D1 = cl (f_X12_readLaw D1) fun w7 M8 => some (w7, M8) := fun D1 => by
    unfold zq_Q
    rw [if_neg n2, if_neg n3]
  cases hz : zq_lw (tkC tx len m) m ft m 0 [] with
  | inl y =>
    rw [hz] at hcl
    obtain ⟨C1, a1, a2, a3, a4⟩ := hcl
    have hr1 : ∀ p : Nat, p ∉ [0, 100, 101, 102, 103, 104, 105, 106, 107, 108, 109, 110, 111, 112, 113, 114, 115, 116, 117, 118] → C1 p = M p := fun p hp => by
      simp only [List.mem_cons, List.not_mem_nil, or_false, not_or] at hp
      rw [a2 p (by simp only [List.mem_cons, List.not_mem_nil, or_false, not_or]; omega), hr p (by simp only [List.mem_cons, List.not_mem_nil, or_false, not_or]; omega)]
    obtain ⟨D1, d1, d2, d3, d4⟩ := hmod C1 (hr1 143 (by decide)) (hr1 144 (by decide)) (by rw [hr1 136 (by decide)])
    rw [hz] at d4
    obtain ⟨D2, e1, e2, e3, e4⟩ := d4
    have eX := (zq_text_e hin d1 (show zq_Q (zq_bI ft) D1 = some (-1, D2) by rw [eQ, cl_s e1])).1 rfl
    rw [zq_flt] at eX
    refine ⟨-1, C1, _, by rw [eC, cl_s a1, if_pos rfl], eX, ?_⟩
    refine zq_invf hI hr1 (fun i hi => by rw [a2 0 (by decide)]; exact hr0 i hi) (by rw [a2 0 (by decide)]; exact hr9) (zq_ma_tr (zq_ma_tr d2 (zq_ma_m e2)) (zq_ma_tr (zq_ma_tr (zq_ma_c (by decide)) (zq_ma_c (by decide))) (zq_ma_c (by decide)))) ms_it ?_ ?_
    · rw [ms_at (by decide), ms_at (by decide), ms_it, e3, a3]
    · rw [ms_at (by decide), ms_it, e4, a4]
  | inr y =>
    rw [hz] at hcl
    obtain ⟨C1, a1, a2, a3, k, w7, w0, w5, wL⟩ := hcl
    obtain ⟨l1, l2, l3⟩ := zq_lw_a hc.2.1 m 0 [] y (by omega) (by decide) (fun x hx => absurd hx (by simp)) (by decide) hz
    have l4 := zq_lnle y
    have hr1 : ∀ p : Nat, p ∉ [0, 100, 101, 102, 103, 104, 105, 106, 117, 118] → C1 p = M p := fun p hp => by
      simp only [List.mem_cons, List.not_mem_nil, or_false, not_or] at hp
      rw [a2 p (by simp only [List.mem_cons, List.not_mem_nil, or_false, not_or]; omega), hr p (by simp only [List.mem_cons, List.not_mem_nil, or_false, not_or]; omega)]
    obtain ⟨Y, y1, y2, y3, y4, y5, y6⟩ := law_become (M := C1) (o0 := o) (o1 := 101) (N := lnLen y) (by omega) (by omega) w5
    have hrY : ∀ p : Nat, (p < o ∨ o + 6 ≤ p) → p ∉ [0, 100, 101, 102, 103, 104, 105, 106, 117, 118] → Y p = M p := fun p h1 h2 => by rw [y6 p h1, hr1 p h2]
    have hY2 : ∀ p : Nat, 119 ≤ p → Y p = M p := fun p hp => hrY p (by omega) (by simp only [List.mem_cons, List.not_mem_nil, or_false, not_or]; omega)
    obtain ⟨D1, d1, d2, d3, d4⟩ := hmod Y (hY2 143 (by decide)) (hY2 144 (by decide)) (by rw [hY2 136 (by decide)])
    rw [hz] at d4
    obtain ⟨D2, e1, e2, k2, e3, e4, e5⟩ := d4
    have hne : ¬ nI y.length = -1 := zq_vm (by omega)
    have eX := (zq_text_e hin d1 (show zq_Q (zq_bI ft) D1 = some (nI y.length, D2) by rw [eQ, cl_s e1])).2 hne
    have mD := zq_ma_tr d2 (zq_ma_m e2)
    obtain ⟨X, x1, x2, x3, x4, x5, x6⟩ := zq_tkl (D := ms D2 136 14 0) (g := g) (N := y.length) (K := lnEnc y) hg l1 (by omega) (by rw [ms_at (by decide), e2.2.2.1 27 (by decide), d3, eg]) (by rw [ms_at (by decide)]; exact e3.2.2.1)
    have e69 : f_X12_text_69 (zq_bI ft) (nI y.length) D2 = some (nI y.length, X) := by
      unfold f_X12_text_69
      rw [zq_pt, if_neg hne, if_neg n1, cl_s x1]
    refine ⟨nI y.length, Y, X, by rw [eC, cl_s a1, if_neg (by decide), cl_s y1, w0], by rw [eX, e69], ?_⟩
    -- what became of each row
    have mE : zq_ma Y (ms D2 136 14 0) := zq_ma_tr mD (zq_ma_c (by decide))
    have hXl : ∀ p : Nat, p < 136 → X p = Y p := fun p hp => by
      rw [x6 p (by simp only [List.mem_cons, List.not_mem_nil, or_false, not_or]; omega), mE.2.2.2.2.2 p (by simp only [List.mem_cons, List.not_mem_nil, or_false, not_or]; omega)]
    have far : ∀ p : Nat, (p < o ∨ o + 6 ≤ p) → p ∉ [0, 136, 100, 101, 102, 103, 104, 105, 106, 117, 118, 145, 146, 147, 148, 149, 150, 151, 152, 153, 154] → X p = M p := fun p h1 h2 => by
      simp only [List.mem_cons, List.not_mem_nil, or_false, not_or] at h2
      rw [x6 p (by simp only [List.mem_cons, List.not_mem_nil, or_false, not_or]; omega), mE.2.2.2.2.2 p (by simp only [List.mem_cons, List.not_mem_nil, or_false, not_or]; omega), hrY p h1 (by simp only [List.mem_cons, List.not_mem_nil, or_false, not_or]; omega)]
    have x136 : ∀ j : Nat, j ∉ [0, 14, 15, 16, 17, 18, 27, 28, 29, 31, 32, 33, 34, 35] → X 136 j = M 136 j := fun j hj => by rw [x6 136 (by decide), mE.2.2.2.2.1 j hj, hY2 136 (by decide)]
    have hs : ∀ j ∈ [5, 8, 9, 10, 50], j ∉ [0, 14, 15, 16, 17, 18, 27, 28, 29, 31, 32, 33, 34, 35] := by decide
    have r153 : ∀ i : Nat, i < 32 → X 153 i = M 153 i := fun i hi => by rw [x6 153 (by decide), mE.2.2.1 i hi, hY2 153 (by decide)]
    have r154 : ∀ i : Nat, i < 48 → X 154 i = M 154 i := fun i hi => by rw [x6 154 (by decide), mE.2.2.2.1 i hi, hY2 154 (by decide)]
    have r145 : ∀ j : Nat, ¬ j = g → X 145 j = M 145 j := fun j hj => by rw [x3 j hj, mE.2.2.2.2.2 145 (by decide), hY2 145 (by decide)]
    have rl : ∀ q : Nat, 146 ≤ q → q ≤ 149 → ∀ i : Nat, i < 32 → (i < 16 * g ∨ 16 * g + 16 ≤ i) → X q i = M q i := fun q q1 q2 i hi hh => by rw [(x4 q q1 q2).2 i hh, mE.1 q q1 q2 i hi, hY2 q (by omega)]
    have rc : ∀ q : Nat, 150 ≤ q → q ≤ 151 → ∀ i : Nat, i < 800 → (i < 400 * g ∨ 400 * g + 400 ≤ i) → X q i = M q i := fun q q1 q2 i hi hh => by rw [(x5 q q1 q2).2 i hh, mE.2.1 q q1 q2 i hi, hY2 q (by omega)]
    have f34 : X 136 34 = 0 := by
      rw [x6 136 (by decide), ms_at (by decide), e2.2.2.1 34 (by decide)]
      obtain ⟨D1', q1, q2, -⟩ := zq_fs (p := 0) (zq_dtZ (v := zq_bI ft) hdt (hY2 143 (by decide)) (hY2 144 (by decide)) (by rw [hY2 136 (by decide)])) (by unfold zq_Z; rw [ms_at (by decide), ms_at (by decide), ms_it]; rfl) (by unfold zq_Z; rw [ms_at (by decide), ms_at (by decide), ms_at (by decide), ms_it]; rfl)
      rw [q1] at d1
      obtain ⟨-, rfl⟩ := Prod.mk.inj (Option.some.inj d1)
      rw [q2.2.1 34 (by decide)]
      unfold zq_Z
      rw [ms_at (by decide), ms_at (by decide), ms_at (by decide), ms_at (by decide), ms_at (by decide), ms_it]
    have f35 : X 136 35 = -1 := by
      rw [x6 136 (by decide), ms_at (by decide), e2.2.2.1 35 (by decide)]
      obtain ⟨D1', q1, q2, -⟩ := zq_fs (p := 0) (zq_dtZ (v := zq_bI ft) hdt (hY2 143 (by decide)) (hY2 144 (by decide)) (by rw [hY2 136 (by decide)])) (by unfold zq_Z; rw [ms_at (by decide), ms_at (by decide), ms_it]; rfl) (by unfold zq_Z; rw [ms_at (by decide), ms_at (by decide), ms_at (by decide), ms_it]; rfl)
      rw [q1] at d1
      obtain ⟨-, rfl⟩ := Prod.mk.inj (Option.some.inj d1)
      rw [q2.2.1 35 (by decide)]
      unfold zq_Z
      rw [ms_at (by decide), ms_at (by decide), ms_at (by decide), ms_at (by decide), ms_it]
    -- the law itself
    have hL : RLw ft (X o) (X (o + 1)) (X (o + 2)) (X (o + 3)) (X (o + 4)) (X (o + 5)) (X 145 g) (fun i => X 146 (16 * g + i)) (fun i => X 147 (16 * g + i)) (fun i => X 148 (16 * g + i)) (fun i => X 149 (16 * g + i)) (fun i => X 150 (400 * g + i)) (fun i => X 151 (400 * g + i)) := by
      rw [hXl o (by omega), hXl (o + 1) (by omega), hXl (o + 2) (by omega), hXl (o + 3) (by omega), hXl (o + 4) (by omega), hXl (o + 5) (by omega)]
      refine ⟨y, l1, l2, by omega, by omega, by rw [y2, w0], y3, x2, ?_, ?_⟩
      · exact CLw_congr (N := lnLen y) (y4 1 (by decide) (by decide)) (y4 2 (by decide) (by decide)) (y4 3 (by decide) (by decide)) (y4 4 (by decide) (by decide)) y5 y 0 0 (by omega) (by omega) wL
      · refine zq_Mc y 0 0 (fun j hj => ?_) (fun j hj => ?_) e5
        · rw [Nat.zero_add] at hj
          refine ⟨?_, ?_, ?_, ?_⟩
          · show X 146 (16 * g + j) = D2 146 (32 + j)
            rw [(x4 146 (by decide) (by decide)).1 j hj, ms_ne (by decide)]
          · show X 147 (16 * g + j) = D2 147 (32 + j)
            rw [(x4 147 (by decide) (by decide)).1 j hj, ms_ne (by decide)]
          · show X 148 (16 * g + j) = D2 148 (32 + j)
            rw [(x4 148 (by decide) (by decide)).1 j hj, ms_ne (by decide)]
          · show X 149 (16 * g + j) = D2 149 (32 + j)
            rw [(x4 149 (by decide) (by decide)).1 j hj, ms_ne (by decide)]
        · rw [Nat.zero_add] at hj
          refine ⟨?_, ?_⟩
          · show X 150 (400 * g + j) = D2 150 (800 + j)
            rw [(x5 150 (by decide) (by decide)).1 j hj, ms_ne (by decide)]
          · show X 151 (400 * g + j) = D2 151 (800 + j)
            rw [(x5 151 (by decide) (by decide)).1 j hj, ms_ne (by decide)]
    have hlaws : IvL0 X ∧ IvL1 X := by
      rcases ho with ⟨rfl, rfl, rfl⟩ | ⟨rfl, rfl, rfl⟩
      · refine ⟨?_, zq_kL1 (fun p p1 p2 => far p (by omega) (by simp only [List.mem_cons, List.not_mem_nil, or_false, not_or]; omega)) (r145 1 (by decide)) (fun q q1 q2 i hi => rl q q1 q2 (16 + i) (by omega) (by omega)) (fun q q1 q2 i hi => rc q q1 q2 (400 + i) (by omega) (by omega)) u4⟩
        have e : ∀ q a : Nat, (fun i => X q (a * 0 + i)) = X q := fun q a => funext (fun i => by rw [Nat.mul_zero, Nat.zero_add])
        rw [e 146 16, e 147 16, e 148 16, e 149 16, e 150 400, e 151 400] at hL
        exact hL
      · exact ⟨zq_kL0 (fun p p1 p2 => far p (by omega) (by simp only [List.mem_cons, List.not_mem_nil, or_false, not_or]; omega)) (r145 0 (by decide)) (fun q q1 q2 i hi => rl q q1 q2 i (by omega) (by omega)) (fun q q1 q2 i hi => rc q q1 q2 i (by omega) (by omega)) u3, hL⟩
    refine zq_inv hI (fun p hp => ?_) (fun i hi => by rw [hXl 0 (by decide), y6 0 (by omega), a2 0 (by decide)]; exact hr0 i hi) (fun j hj => x136 j (hs j hj)) (by rw [hXl 0 (by decide), y6 0 (by omega), a2 0 (by decide)]; exact hr9) (by rw [x6 136 (by decide), ms_it]) (by rw [f34, hXl 100 (by decide), y6 100 (by omega), a3.1, h0]) (by rw [f35, hXl 100 (by decide), y6 100 (by omega), a3.2, h1])
      (fr_Now (far _ (by omega) (by decide)) (far _ (by omega) (by decide)) (far _ (by omega) (by decide)) (far _ (by omega) (by decide)) (far _ (by omega) (by decide)) (far _ (by omega) (by decide)) (far _ (by omega) (by decide)) (far _ (by omega) (by decide)) (far _ (by omega) (by decide)) (x136 _ (by decide)) hN)
      (fr_Past (fun p p1 p2 => far p (by omega) (by simp only [List.mem_cons, List.not_mem_nil, or_false, not_or]; omega)) (x136 _ (by decide)) (far _ (by omega) (by decide)) (far _ (by omega) (by decide)) (far _ (by omega) (by decide)) (congrFun (far 1 (by omega) (by decide)) 10) (far _ (by omega) (by decide)) hP)
      hlaws.1 hlaws.2
      (zq_kRd (fun p p1 p2 => far p (by omega) (by simp only [List.mem_cons, List.not_mem_nil, or_false, not_or]; omega)) (x136 _ (by decide)) r153 u5)
      (zq_kSh (fun p p1 p2 => far p (by omega) (by simp only [List.mem_cons, List.not_mem_nil, or_false, not_or]; omega)) (x136 _ (by decide)) (congrFun (far 1 (by omega) (by decide)) 10) r154 u6)
    simp only [List.mem_cons, List.not_mem_nil, or_false, not_or] at hp
    exact far p (by omega) (by simp only [List.mem_cons, List.not_mem_nil, or_false, not_or]; omega)
