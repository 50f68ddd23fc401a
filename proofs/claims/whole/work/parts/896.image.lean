/-! image -/
/-- the model takes the image -/
theorem takes_m {D : IM} : ∃ X, f_X12_image_18 1 D = some (1, X) ∧ (∀ i : Nat, i < 40 → X 164 i = D 137 i) ∧ (X 164 40 = D 136 6 ∧ X 164 41 = D 136 8 ∧ X 164 42 = D 136 9 ∧ X 164 43 = D 136 10 ∧ X 164 44 = D 136 36 ∧ X 164 45 = D 136 38) ∧ (∀ i : Nat, i < 10 → X 164 (46 + i) = D 140 i) ∧ (∀ i : Nat, i < 64 → X 164 (56 + i) = D 141 i) ∧ (∀ i : Nat, i < 32 → X 164 (120 + i) = D 153 i) ∧ (∀ i : Nat, i < 48 → X 164 (152 + i) = D 154 i) ∧ (∀ i : Nat, i < 450 → X 164 (200 + i) = D 142 i) ∧
    (X 164 650 = D 145 0 ∧ (∀ j : Nat, j < 16 → X 164 (651 + 4 * j) = D 146 j ∧ X 164 (652 + 4 * j) = D 147 j ∧ X 164 (653 + 4 * j) = D 148 j ∧ X 164 (654 + 4 * j) = D 149 j) ∧ (∀ j : Nat, j < 400 → X 164 (715 + 2 * j) = D 150 j ∧ X 164 (716 + 2 * j) = D 151 j)) ∧
    (X 164 1515 = D 145 1 ∧ (∀ j : Nat, j < 16 → X 164 (1516 + 4 * j) = D 146 (16 + j) ∧ X 164 (1517 + 4 * j) = D 147 (16 + j) ∧ X 164 (1518 + 4 * j) = D 148 (16 + j) ∧ X 164 (1519 + 4 * j) = D 149 (16 + j)) ∧ (∀ j : Nat, j < 400 → X 164 (1580 + 2 * j) = D 150 (400 + j) ∧ X 164 (1581 + 2 * j) = D 151 (400 + j))) ∧
    X 136 50 = 1 ∧ (∀ p : Nat, ¬ p = 164 → ¬ p = 136 → X p = D p) ∧ (∀ i : Nat, ¬ i = 49 → ¬ i = 50 → ¬ i = 51 → X 136 i = D 136 i) := by
  generalize hX0 : ms (ms (ms D 136 49 1) 136 50 1) 136 51 0 = X0
  have x0r : ∀ p : Nat, ¬ p = 136 → X0 p = D p := fun p h => by rw [← hX0, ms_ne h, ms_ne h, ms_ne h]
  have x0c : ∀ i : Nat, ¬ i = 49 → ¬ i = 50 → ¬ i = 51 → X0 136 i = D 136 i := fun i h1 h2 h3 => by rw [← hX0, ms_at h3, ms_at h2, ms_at h1]
  have x49 : X0 136 49 = 1 := by rw [← hX0, ms_at (by decide), ms_at (by decide), ms_it]
  have x50 : X0 136 50 = 1 := by rw [← hX0, ms_at (by decide), ms_it]
  have x51 : X0 136 51 = nI (0 + 0) := by rw [← hX0, ms_it]; rfl
  obtain ⟨X1, a1, a2, a3, a4, a5⟩ := rowT (F := fun n x M => f_X12_image_35 n 1 x M) (K := fun M => cl (f_X12_keepsTold M) fun _ M11 => f_X12_image_69 BG 1 0 M11) (c := 40) (o := 137) (w := 40) (N := 40) (b := 0) (fun n x M => rfl) rfl (by decide) (by decide) (by decide) (by decide) (by decide) 40 BG 0 X0 (by omega) (by unfold BG; omega) x49 x51
  have f49 : X1 136 49 = 1 := by rw [a5.2 49 (by decide)]; exact x49
  -- six numbers
  generalize hY1 : ms (ms X1 136 51 (nI (40 + 1))) 164 40 (X1 136 6) = Y1
  have s1 : stg [164] X1 Y1 := by rw [← hY1]; exact stg_ms stg_51 (by simp) (by decide)
  have c1 : Y1 136 51 = nI 41 := by rw [← hY1, ms_ne (by decide), ms_it]
  generalize hY2 : ms (ms Y1 136 51 (nI (41 + 1))) 164 41 (Y1 136 8) = Y2
  have s2 : stg [164] Y1 Y2 := by rw [← hY2]; exact stg_ms stg_51 (by simp) (by decide)
  have c2 : Y2 136 51 = nI 42 := by rw [← hY2, ms_ne (by decide), ms_it]
  generalize hY3 : ms (ms Y2 136 51 (nI (42 + 1))) 164 42 (Y2 136 9) = Y3
  have s3 : stg [164] Y2 Y3 := by rw [← hY3]; exact stg_ms stg_51 (by simp) (by decide)
  have c3 : Y3 136 51 = nI 43 := by rw [← hY3, ms_ne (by decide), ms_it]
  generalize hY4 : ms (ms Y3 136 51 (nI (43 + 1))) 164 43 (Y3 136 10) = Y4
  have s4 : stg [164] Y3 Y4 := by rw [← hY4]; exact stg_ms stg_51 (by simp) (by decide)
  have c4 : Y4 136 51 = nI 44 := by rw [← hY4, ms_ne (by decide), ms_it]
  generalize hY5 : ms (ms Y4 136 51 (nI (44 + 1))) 164 44 (Y4 136 36) = Y5
  have s5 : stg [164] Y4 Y5 := by rw [← hY5]; exact stg_ms stg_51 (by simp) (by decide)
  have c5 : Y5 136 51 = nI 45 := by rw [← hY5, ms_ne (by decide), ms_it]
  generalize hY6 : ms (ms Y5 136 51 (nI (45 + 1))) 164 45 (Y5 136 38) = Y6
  have s6 : stg [164] Y5 Y6 := by rw [← hY6]; exact stg_ms stg_51 (by simp) (by decide)
  have c6 : Y6 136 51 = nI (46 + 0) := by rw [← hY6, ms_ne (by decide), ms_it]
  have t2 : stg [164] X1 Y2 := stg_tr s1 s2
  have t3 : stg [164] X1 Y3 := stg_tr t2 s3
  have t4 : stg [164] X1 Y4 := stg_tr t3 s4
  have t5 : stg [164] X1 Y5 := stg_tr t4 s5
  have t6 : stg [164] X1 Y6 := stg_tr t5 s6
  have v45 : Y6 164 45 = X1 136 38 := by rw [← hY6, ms_it, t5.2 38 (by decide)]
  have v44 : Y6 164 44 = X1 136 36 := by rw [← hY6, ms_at (by decide), ms_ne (by decide), ← hY5, ms_it, t4.2 36 (by decide)]
  have v43 : Y6 164 43 = X1 136 10 := by rw [← hY6, ms_at (by decide), ms_ne (by decide), ← hY5, ms_at (by decide), ms_ne (by decide), ← hY4, ms_it, t3.2 10 (by decide)]
  have v42 : Y6 164 42 = X1 136 9 := by rw [← hY6, ms_at (by decide), ms_ne (by decide), ← hY5, ms_at (by decide), ms_ne (by decide), ← hY4, ms_at (by decide), ms_ne (by decide), ← hY3, ms_it, t2.2 9 (by decide)]
  have v41 : Y6 164 41 = X1 136 8 := by rw [← hY6, ms_at (by decide), ms_ne (by decide), ← hY5, ms_at (by decide), ms_ne (by decide), ← hY4, ms_at (by decide), ms_ne (by decide), ← hY3, ms_at (by decide), ms_ne (by decide), ← hY2, ms_it, s1.2 8 (by decide)]
  have v40 : Y6 164 40 = X1 136 6 := by rw [← hY6, ms_at (by decide), ms_ne (by decide), ← hY5, ms_at (by decide), ms_ne (by decide), ← hY4, ms_at (by decide), ms_ne (by decide), ← hY3, ms_at (by decide), ms_ne (by decide), ← hY2, ms_at (by decide), ms_ne (by decide), ← hY1, ms_it]
  have vlo : ∀ i : Nat, i < 40 → Y6 164 i = X1 164 i := fun i hi => by rw [← hY6, ms_at (by omega), ms_ne (by decide), ← hY5, ms_at (by omega), ms_ne (by decide), ← hY4, ms_at (by omega), ms_ne (by decide), ← hY3, ms_at (by omega), ms_ne (by decide), ← hY2, ms_at (by omega), ms_ne (by decide), ← hY1, ms_at (by omega), ms_ne (by decide)]
  have g49 : Y6 136 49 = 1 := by rw [t6.2 49 (by decide)]; exact f49
  obtain ⟨Z1, b1, b2, b3, b4, b5⟩ := rowT (F := f_X12_keepsTold_74) (K := fun M => f_X12_keepsTold_104 BG 0 M) (c := 10) (o := 140) (w := 10) (N := 10) (b := 46) (fun n x M => rfl) rfl (by decide) (by decide) (by decide) (by decide) (by decide) 10 BG 0 Y6 (by omega) (by unfold BG; omega) g49 c6
  have h49 : Z1 136 49 = 1 := by rw [b5.2 49 (by decide)]; exact g49
  obtain ⟨Z2, d1, d2, d3, d4, d5⟩ := rowT (F := f_X12_keepsTold_104) (K := fun M => f_X12_keepsTold_134 BG 0 M) (c := 64) (o := 141) (w := 64) (N := 64) (b := 56) (fun n x M => rfl) rfl (by decide) (by decide) (by decide) (by decide) (by decide) 64 BG 0 Z1 (by omega) (by unfold BG; omega) h49 b2
  have i49 : Z2 136 49 = 1 := by rw [d5.2 49 (by decide)]; exact h49
  obtain ⟨Z3, e1, e2, e3, e4, e5⟩ := rowT (F := f_X12_keepsTold_134) (K := fun M => f_X12_keepsTold_164 BG 0 M) (c := 32) (o := 153) (w := 64) (N := 32) (b := 120) (fun n x M => rfl) rfl (by decide) (by decide) (by decide) (by decide) (by decide) 32 BG 0 Z2 (by omega) (by unfold BG; omega) i49 d2
  have j49 : Z3 136 49 = 1 := by rw [e5.2 49 (by decide)]; exact i49
  obtain ⟨Z4, g1, g2, g3, g4, g5⟩ := rowT (F := f_X12_keepsTold_164) (K := fun M => some (0, M)) (c := 48) (o := 154) (w := 96) (N := 48) (b := 152) (fun n x M => rfl) rfl (by decide) (by decide) (by decide) (by decide) (by decide) 48 BG 0 Z3 (by omega) (by unfold BG; omega) j49 e2
  have k49 : Z4 136 49 = 1 := by rw [g5.2 49 (by decide)]; exact j49
  have eTold : f_X12_keepsTold X1 = some (0, Z4) := by
    unfold f_X12_keepsTold
    rw [fdT f49 a2 (by decide) (by decide), hY1, fdT (by rw [s1.2 49 (by decide)]; exact f49) c1 (by decide) (by decide), hY2, fdT (by rw [t2.2 49 (by decide)]; exact f49) c2 (by decide) (by decide), hY3, fdT (by rw [t3.2 49 (by decide)]; exact f49) c3 (by decide) (by decide), hY4, fdT (by rw [t4.2 49 (by decide)]; exact f49) c4 (by decide) (by decide), hY5, fdT (by rw [t5.2 49 (by decide)]; exact f49) c5 (by decide) (by decide), hY6]
    exact b1.trans (d1.trans (e1.trans g1))
  obtain ⟨W1, l1, l2, l3, l4, l5⟩ := rowT (F := fun n x M => f_X12_image_69 n 1 x M) (K := fun M => cl (f_X12_keepsLaw 0 M) fun _ M23 => cl (f_X12_keepsLaw 1 M23) fun _ M26 => if (1 : Int32) = 0 then pt M26 136 3 0 fun M29 => some (1, M29) else some (1, M26)) (c := 450) (o := 142) (w := 450) (N := 450) (b := 200) (fun n x M => rfl) rfl (by decide) (by decide) (by decide) (by decide) (by decide) 450 BG 0 Z4 (by omega) (by unfold BG; omega) k49 g2
  have m49 : W1 136 49 = 1 := by rw [l5.2 49 (by decide)]; exact k49
  obtain ⟨W2, n1, n2, n3, n4, n5, n6, n7⟩ := lawT (g := 0) (b := 650) (by decide) (by decide) m49 l2
  have o49 : W2 136 49 = 1 := by rw [n7.2 49 (by decide)]; exact m49
  obtain ⟨W3, q1, q2, q3, q4, q5, q6, q7⟩ := lawT (g := 1) (b := 1515) (by decide) (by decide) o49 n2
  -- frames
  have fX1 : stg [164] X0 X1 := a5
  have fY6 : stg [164] X0 Y6 := stg_tr fX1 t6
  have fZ1 : stg [164] X0 Z1 := stg_tr fY6 b5
  have fZ2 : stg [164] X0 Z2 := stg_tr fZ1 d5
  have fZ3 : stg [164] X0 Z3 := stg_tr fZ2 e5
  have fZ4 : stg [164] X0 Z4 := stg_tr fZ3 g5
  have fW1 : stg [164] X0 W1 := stg_tr fZ4 l5
  have fW2 : stg [164] X0 W2 := stg_tr fW1 n7
  have fW3 : stg [164] X0 W3 := stg_tr fW2 q7
  have row : ∀ {Y : IM}, stg [164] X0 Y → ∀ p : Nat, ¬ p = 164 → ¬ p = 136 → Y p = D p := fun {Y} hY p h1 h2 => by rw [hY.1 p (by simpa using h1) h2, x0r p h2]
  have lo2 : ∀ m : Nat, m < 650 → W3 164 m = W1 164 m := fun m hm => by rw [q6 m (by omega), n6 m (by omega)]
  have lo1 : ∀ m : Nat, m < 200 → W3 164 m = Z4 164 m := fun m hm => by rw [lo2 m (by omega), l4 m (by omega)]
  have loE : ∀ m : Nat, m < 152 → W3 164 m = Z3 164 m := fun m hm => by rw [lo1 m (by omega), g4 m (by omega)]
  have loD : ∀ m : Nat, m < 120 → W3 164 m = Z2 164 m := fun m hm => by rw [loE m (by omega), e4 m (by omega)]
  have loB : ∀ m : Nat, m < 56 → W3 164 m = Z1 164 m := fun m hm => by rw [loD m (by omega), d4 m (by omega)]
  have loA : ∀ m : Nat, m < 46 → W3 164 m = Y6 164 m := fun m hm => by rw [loB m (by omega), b4 m (by omega)]
  have c136 : ∀ i : Nat, ¬ i = 49 → ¬ i = 50 → ¬ i = 51 → X1 136 i = D 136 i := fun i h1 h2 h3 => by rw [fX1.2 i h3, x0c i h1 h2 h3]
  refine ⟨W3, ?_, fun i hi => ?_, ⟨?_, ?_, ?_, ?_, ?_, ?_⟩, fun i hi => ?_, fun i hi => ?_, fun i hi => ?_, fun i hi => ?_, fun i hi => ?_, ⟨?_, fun j hj => ?_, fun j hj => ?_⟩, ⟨?_, fun j hj => ?_, fun j hj => ?_⟩, ?_, fun p h1 h2 => row fW3 p h1 h2, fun i h1 h2 h3 => ?_⟩
  · refine Eq.trans (show f_X12_image_18 1 D = f_X12_image_35 BG 1 0 X0 by rw [← hX0]; rfl) ?_
    refine Eq.trans a1 ?_
    rw [cl_s eTold]
    refine Eq.trans l1 ?_
    rw [cl_s (show f_X12_keepsLaw 0 W1 = some (0, W2) from n1), cl_s (show f_X12_keepsLaw 1 W2 = some (0, W3) from q1), if_neg (by decide)]
  · rw [loA i (by omega), vlo i hi]
    have := a3 i (by omega) hi
    rw [Nat.zero_add] at this
    rw [this, x0r 137 (by decide)]
  · rw [loA 40 (by decide), v40, c136 6 (by decide) (by decide) (by decide)]
  · rw [loA 41 (by decide), v41, c136 8 (by decide) (by decide) (by decide)]
  · rw [loA 42 (by decide), v42, c136 9 (by decide) (by decide) (by decide)]
  · rw [loA 43 (by decide), v43, c136 10 (by decide) (by decide) (by decide)]
  · rw [loA 44 (by decide), v44, c136 36 (by decide) (by decide) (by decide)]
  · rw [loA 45 (by decide), v45, c136 38 (by decide) (by decide) (by decide)]
  · rw [loB _ (by omega), b3 i (by omega) hi, row fY6 140 (by decide) (by decide)]
  · rw [loD _ (by omega), d3 i (by omega) hi, row fZ1 141 (by decide) (by decide)]
  · rw [loE _ (by omega), e3 i (by omega) hi, row fZ2 153 (by decide) (by decide)]
  · rw [lo1 _ (by omega), g3 i (by omega) hi, row fZ3 154 (by decide) (by decide)]
  · rw [lo2 _ (by omega), l3 i (by omega) hi, row fZ4 142 (by decide) (by decide)]
  · rw [q6 _ (by omega), n3, row fW1 145 (by decide) (by decide)]
  · have := n4 j hj
    simp only [Nat.mul_zero, Nat.zero_add] at this
    rw [row fW1 146 (by decide) (by decide), row fW1 147 (by decide) (by decide), row fW1 148 (by decide) (by decide), row fW1 149 (by decide) (by decide)] at this
    rw [q6 _ (by omega), q6 _ (by omega), q6 _ (by omega), q6 _ (by omega)]
    refine ⟨this.1, ?_, ?_, ?_⟩
    · rw [show 652 + 4 * j = 650 + 1 + 4 * j + 1 by omega]; exact this.2.1
    · rw [show 653 + 4 * j = 650 + 1 + 4 * j + 2 by omega]; exact this.2.2.1
    · rw [show 654 + 4 * j = 650 + 1 + 4 * j + 3 by omega]; exact this.2.2.2
  · have := n5 j hj
    simp only [Nat.mul_zero, Nat.zero_add] at this
    rw [row fW1 150 (by decide) (by decide), row fW1 151 (by decide) (by decide)] at this
    rw [q6 _ (by omega), q6 _ (by omega)]
    refine ⟨this.1, ?_⟩
    rw [show 716 + 2 * j = 650 + 65 + 2 * j + 1 by omega]; exact this.2
  · rw [q3, row fW2 145 (by decide) (by decide)]
  · have := q4 j hj
    rw [row fW2 146 (by decide) (by decide), row fW2 147 (by decide) (by decide), row fW2 148 (by decide) (by decide), row fW2 149 (by decide) (by decide)] at this
    refine ⟨this.1, ?_, ?_, ?_⟩
    · rw [show 1517 + 4 * j = 1515 + 1 + 4 * j + 1 by omega]; exact this.2.1
    · rw [show 1518 + 4 * j = 1515 + 1 + 4 * j + 2 by omega]; exact this.2.2.1
    · rw [show 1519 + 4 * j = 1515 + 1 + 4 * j + 3 by omega]; exact this.2.2.2
  · have := q5 j hj
    rw [row fW2 150 (by decide) (by decide), row fW2 151 (by decide) (by decide)] at this
    refine ⟨this.1, ?_⟩
    rw [show 1581 + 2 * j = 1515 + 65 + 2 * j + 1 by omega]; exact this.2
  · rw [fW3.2 50 (by decide)]; exact x50
  · rw [fW3.2 i h3, x0c i h1 h2 h3]
/-- the model goes on from the image -/
theorem gives_m {D : IM} : ∃ X, f_X12_image_18 0 D = some (1, X) ∧ (∀ i : Nat, i < 40 → X 137 i = D 164 i) ∧ (X 136 6 = D 164 40 ∧ X 136 8 = D 164 41 ∧ X 136 9 = D 164 42 ∧ X 136 10 = D 164 43 ∧ X 136 36 = D 164 44 ∧ X 136 38 = D 164 45) ∧ (∀ i : Nat, i < 10 → X 140 i = D 164 (46 + i)) ∧ (∀ i : Nat, i < 64 → X 141 i = D 164 (56 + i)) ∧ (∀ i : Nat, i < 32 → X 153 i = D 164 (120 + i)) ∧ (∀ i : Nat, i < 48 → X 154 i = D 164 (152 + i)) ∧ (∀ i : Nat, i < 450 → X 142 i = D 164 (200 + i)) ∧
    (X 145 0 = D 164 650 ∧ (∀ j : Nat, j < 16 → X 146 j = D 164 (651 + 4 * j) ∧ X 147 j = D 164 (652 + 4 * j) ∧ X 148 j = D 164 (653 + 4 * j) ∧ X 149 j = D 164 (654 + 4 * j)) ∧ (∀ j : Nat, j < 400 → X 150 j = D 164 (715 + 2 * j) ∧ X 151 j = D 164 (716 + 2 * j))) ∧
    (X 145 1 = D 164 1515 ∧ (∀ j : Nat, j < 16 → X 146 (16 + j) = D 164 (1516 + 4 * j) ∧ X 147 (16 + j) = D 164 (1517 + 4 * j) ∧ X 148 (16 + j) = D 164 (1518 + 4 * j) ∧ X 149 (16 + j) = D 164 (1519 + 4 * j)) ∧ (∀ j : Nat, j < 400 → X 150 (400 + j) = D 164 (1580 + 2 * j) ∧ X 151 (400 + j) = D 164 (1581 + 2 * j))) ∧
    X 136 50 = 1 ∧ X 136 3 = 0 ∧ (∀ p : Nat, p < 136 ∨ p = 138 ∨ p = 139 ∨ p = 143 ∨ p = 144 ∨ p = 152 ∨ 155 ≤ p → X p = D p) ∧ (∀ i ∈ [5, 14, 34, 35], X 136 i = D 136 i) := by
  generalize hX0 : ms (ms (ms D 136 49 0) 136 50 1) 136 51 0 = X0
  have x0r : ∀ p : Nat, ¬ p = 136 → X0 p = D p := fun p h => by rw [← hX0, ms_ne h, ms_ne h, ms_ne h]
  have x0c : ∀ i : Nat, ¬ i = 49 → ¬ i = 50 → ¬ i = 51 → X0 136 i = D 136 i := fun i h1 h2 h3 => by rw [← hX0, ms_at h3, ms_at h2, ms_at h1]
  have x49 : X0 136 49 = 0 := by rw [← hX0, ms_at (by decide), ms_at (by decide), ms_it]
  have x50 : X0 136 50 = 1 := by rw [← hX0, ms_at (by decide), ms_it]
  have x51 : X0 136 51 = nI (0 + 0) := by rw [← hX0, ms_it]; rfl
  obtain ⟨X1, a1, a2, a3, a4, a5⟩ := rowR (F := fun n x M => f_X12_image_35 n 0 x M) (K := fun M => cl (f_X12_keepsTold M) fun _ M11 => f_X12_image_69 BG 0 0 M11) (c := 40) (o := 137) (w := 40) (N := 40) (b := 0) (fun n x M => rfl) rfl (by decide) (by decide) (by decide) (by decide) (by decide) 40 BG 0 X0 (by omega) (by unfold BG; omega) x49 x51
  have f49 : X1 136 49 = 0 := by rw [a5.2 49 (by decide)]; exact x49
  have r1 : X1 164 = D 164 := by rw [a5.1 164 (by simp) (by decide), x0r 164 (by decide)]
  generalize hY1 : ms (ms X1 136 51 (nI (40 + 1))) 136 6 (X1 164 40) = Y1
  generalize hY2 : ms (ms Y1 136 51 (nI (41 + 1))) 136 8 (Y1 164 41) = Y2
  generalize hY3 : ms (ms Y2 136 51 (nI (42 + 1))) 136 9 (Y2 164 42) = Y3
  generalize hY4 : ms (ms Y3 136 51 (nI (43 + 1))) 136 10 (Y3 164 43) = Y4
  generalize hY5 : ms (ms Y4 136 51 (nI (44 + 1))) 136 36 (Y4 164 44) = Y5
  generalize hY6 : ms (ms Y5 136 51 (nI (45 + 1))) 136 38 (Y5 164 45) = Y6
  have s1 : ∀ p : Nat, ¬ p = 136 → Y1 p = X1 p := fun p h => by rw [← hY1, ms_ne h, ms_ne h]
  have s2 : ∀ p : Nat, ¬ p = 136 → Y2 p = X1 p := fun p h => by rw [← hY2, ms_ne h, ms_ne h, s1 p h]
  have s3 : ∀ p : Nat, ¬ p = 136 → Y3 p = X1 p := fun p h => by rw [← hY3, ms_ne h, ms_ne h, s2 p h]
  have s4 : ∀ p : Nat, ¬ p = 136 → Y4 p = X1 p := fun p h => by rw [← hY4, ms_ne h, ms_ne h, s3 p h]
  have s5 : ∀ p : Nat, ¬ p = 136 → Y5 p = X1 p := fun p h => by rw [← hY5, ms_ne h, ms_ne h, s4 p h]
  have s6 : ∀ p : Nat, ¬ p = 136 → Y6 p = X1 p := fun p h => by rw [← hY6, ms_ne h, ms_ne h, s5 p h]
  have c1 : Y1 136 51 = nI 41 := by rw [← hY1, ms_at (by decide), ms_it]
  have c2 : Y2 136 51 = nI 42 := by rw [← hY2, ms_at (by decide), ms_it]
  have c3 : Y3 136 51 = nI 43 := by rw [← hY3, ms_at (by decide), ms_it]
  have c4 : Y4 136 51 = nI 44 := by rw [← hY4, ms_at (by decide), ms_it]
  have c5 : Y5 136 51 = nI 45 := by rw [← hY5, ms_at (by decide), ms_it]
  have c6 : Y6 136 51 = nI (46 + 0) := by rw [← hY6, ms_at (by decide), ms_it]
  have u1 : ∀ i : Nat, ¬ i = 51 → ¬ i = 6 → Y1 136 i = X1 136 i := fun i h1 h2 => by rw [← hY1, ms_at h2, ms_at h1]
  have u2 : ∀ i : Nat, ¬ i = 51 → ¬ i = 8 → Y2 136 i = Y1 136 i := fun i h1 h2 => by rw [← hY2, ms_at h2, ms_at h1]
  have u3 : ∀ i : Nat, ¬ i = 51 → ¬ i = 9 → Y3 136 i = Y2 136 i := fun i h1 h2 => by rw [← hY3, ms_at h2, ms_at h1]
  have u4 : ∀ i : Nat, ¬ i = 51 → ¬ i = 10 → Y4 136 i = Y3 136 i := fun i h1 h2 => by rw [← hY4, ms_at h2, ms_at h1]
  have u5 : ∀ i : Nat, ¬ i = 51 → ¬ i = 36 → Y5 136 i = Y4 136 i := fun i h1 h2 => by rw [← hY5, ms_at h2, ms_at h1]
  have u6 : ∀ i : Nat, ¬ i = 51 → ¬ i = 38 → Y6 136 i = Y5 136 i := fun i h1 h2 => by rw [← hY6, ms_at h2, ms_at h1]
  have v6 : Y6 136 6 = D 164 40 := by rw [u6 _ (by decide) (by decide), u5 _ (by decide) (by decide), u4 _ (by decide) (by decide), u3 _ (by decide) (by decide), u2 _ (by decide) (by decide), ← hY1, ms_it, r1]
  have v8 : Y6 136 8 = D 164 41 := by rw [u6 _ (by decide) (by decide), u5 _ (by decide) (by decide), u4 _ (by decide) (by decide), u3 _ (by decide) (by decide), ← hY2, ms_it, s1 164 (by decide), r1]
  have v9 : Y6 136 9 = D 164 42 := by rw [u6 _ (by decide) (by decide), u5 _ (by decide) (by decide), u4 _ (by decide) (by decide), ← hY3, ms_it, s2 164 (by decide), r1]
  have v10 : Y6 136 10 = D 164 43 := by rw [u6 _ (by decide) (by decide), u5 _ (by decide) (by decide), ← hY4, ms_it, s3 164 (by decide), r1]
  have v36 : Y6 136 36 = D 164 44 := by rw [u6 _ (by decide) (by decide), ← hY5, ms_it, s4 164 (by decide), r1]
  have v38 : Y6 136 38 = D 164 45 := by rw [← hY6, ms_it, s5 164 (by decide), r1]
  have vo : ∀ i : Nat, ¬ i = 51 → ¬ i = 6 → ¬ i = 8 → ¬ i = 9 → ¬ i = 10 → ¬ i = 36 → ¬ i = 38 → Y6 136 i = X1 136 i := fun i h0 h1 h2 h3 h4 h5 h6 => by rw [u6 i h0 h6, u5 i h0 h5, u4 i h0 h4, u3 i h0 h3, u2 i h0 h2, u1 i h0 h1]
  have g49 : Y6 136 49 = 0 := by rw [vo 49 (by decide) (by decide) (by decide) (by decide) (by decide) (by decide) (by decide)]; exact f49
  obtain ⟨Z1, b1, b2, b3, b4, b5⟩ := rowR (F := f_X12_keepsTold_74) (K := fun M => f_X12_keepsTold_104 BG 0 M) (c := 10) (o := 140) (w := 10) (N := 10) (b := 46) (fun n x M => rfl) rfl (by decide) (by decide) (by decide) (by decide) (by decide) 10 BG 0 Y6 (by omega) (by unfold BG; omega) g49 c6
  have h49 : Z1 136 49 = 0 := by rw [b5.2 49 (by decide)]; exact g49
  obtain ⟨Z2, d1, d2, d3, d4, d5⟩ := rowR (F := f_X12_keepsTold_104) (K := fun M => f_X12_keepsTold_134 BG 0 M) (c := 64) (o := 141) (w := 64) (N := 64) (b := 56) (fun n x M => rfl) rfl (by decide) (by decide) (by decide) (by decide) (by decide) 64 BG 0 Z1 (by omega) (by unfold BG; omega) h49 b2
  have i49 : Z2 136 49 = 0 := by rw [d5.2 49 (by decide)]; exact h49
  obtain ⟨Z3, e1, e2, e3, e4, e5⟩ := rowR (F := f_X12_keepsTold_134) (K := fun M => f_X12_keepsTold_164 BG 0 M) (c := 32) (o := 153) (w := 64) (N := 32) (b := 120) (fun n x M => rfl) rfl (by decide) (by decide) (by decide) (by decide) (by decide) 32 BG 0 Z2 (by omega) (by unfold BG; omega) i49 d2
  have j49 : Z3 136 49 = 0 := by rw [e5.2 49 (by decide)]; exact i49
  obtain ⟨Z4, g1, g2, g3, g4, g5⟩ := rowR (F := f_X12_keepsTold_164) (K := fun M => some (0, M)) (c := 48) (o := 154) (w := 96) (N := 48) (b := 152) (fun n x M => rfl) rfl (by decide) (by decide) (by decide) (by decide) (by decide) 48 BG 0 Z3 (by omega) (by unfold BG; omega) j49 e2
  have k49 : Z4 136 49 = 0 := by rw [g5.2 49 (by decide)]; exact j49
  have y49 : ∀ {Y : IM}, True → True := fun _ => trivial
  have z1 : Y1 136 49 = 0 := by rw [u1 49 (by decide) (by decide)]; exact f49
  have z2 : Y2 136 49 = 0 := by rw [u2 49 (by decide) (by decide)]; exact z1
  have z3 : Y3 136 49 = 0 := by rw [u3 49 (by decide) (by decide)]; exact z2
  have z4 : Y4 136 49 = 0 := by rw [u4 49 (by decide) (by decide)]; exact z3
  have z5 : Y5 136 49 = 0 := by rw [u5 49 (by decide) (by decide)]; exact z4
  have eTold : f_X12_keepsTold X1 = some (0, Z4) := by
    unfold f_X12_keepsTold
    rw [fdR f49 a2 (by decide), hY1, fdR z1 c1 (by decide), hY2, fdR z2 c2 (by decide), hY3, fdR z3 c3 (by decide), hY4, fdR z4 c4 (by decide), hY5, fdR z5 c5 (by decide), hY6]
    exact b1.trans (d1.trans (e1.trans g1))
  obtain ⟨W1, l1, l2, l3, l4, l5⟩ := rowR (F := fun n x M => f_X12_image_69 n 0 x M) (K := fun M => cl (f_X12_keepsLaw 0 M) fun _ M23 => cl (f_X12_keepsLaw 1 M23) fun _ M26 => if (0 : Int32) = 0 then pt M26 136 3 0 fun M29 => some (1, M29) else some (1, M26)) (c := 450) (o := 142) (w := 450) (N := 450) (b := 200) (fun n x M => rfl) rfl (by decide) (by decide) (by decide) (by decide) (by decide) 450 BG 0 Z4 (by omega) (by unfold BG; omega) k49 g2
  have m49 : W1 136 49 = 0 := by rw [l5.2 49 (by decide)]; exact k49
  obtain ⟨W2, n1, n2, n3, n3', n4, n4', n5, n5', n7⟩ := lawR (g := 0) (b := 650) (by decide) (by decide) m49 l2
  have o49 : W2 136 49 = 0 := by rw [n7.2 49 (by decide)]; exact m49
  obtain ⟨W3, q1, q2, q3, q3', q4, q4', q5, q5', q7⟩ := lawR (g := 1) (b := 1515) (by decide) (by decide) o49 n2
  -- the image itself stays as it is
  have i2 : Y6 164 = D 164 := by rw [s6 164 (by decide), r1]
  have i3 : Z1 164 = D 164 := by rw [b5.1 164 (by simp) (by decide), i2]
  have i4 : Z2 164 = D 164 := by rw [d5.1 164 (by simp) (by decide), i3]
  have i5 : Z3 164 = D 164 := by rw [e5.1 164 (by simp) (by decide), i4]
  have i6 : Z4 164 = D 164 := by rw [g5.1 164 (by simp) (by decide), i5]
  have i7 : W1 164 = D 164 := by rw [l5.1 164 (by simp) (by decide), i6]
  have i8 : W2 164 = D 164 := by rw [n7.1 164 (by simp) (by decide), i7]
  have c136 : ∀ i : Nat, ¬ i = 51 → W3 136 i = Y6 136 i := fun i h => by rw [q7.2 i h, n7.2 i h, l5.2 i h, g5.2 i h, e5.2 i h, d5.2 i h, b5.2 i h]
  have c3r : ∀ p : Nat, ¬ p = 136 → ms W3 136 3 0 p = W3 p := fun p h => ms_ne h
  have lw : ∀ p : Nat, p ∉ [145, 146, 147, 148, 149, 150, 151] → ¬ p = 136 → W3 p = W1 p := fun p h1 h2 => by rw [q7.1 p h1 h2, n7.1 p h1 h2]
  refine ⟨ms W3 136 3 0, ?_, fun i hi => ?_, ⟨?_, ?_, ?_, ?_, ?_, ?_⟩, fun i hi => ?_, fun i hi => ?_, fun i hi => ?_, fun i hi => ?_, fun i hi => ?_, ⟨?_, fun j hj => ?_, fun j hj => ?_⟩, ⟨?_, fun j hj => ?_, fun j hj => ?_⟩, ?_, ms_it, fun p hp => ?_, fun i hi => ?_⟩
  · refine Eq.trans (show f_X12_image_18 0 D = f_X12_image_35 BG 0 0 X0 by rw [← hX0]; rfl) ?_
    refine Eq.trans a1 ?_
    rw [cl_s eTold]
    refine Eq.trans l1 ?_
    rw [cl_s (show f_X12_keepsLaw 0 W1 = some (0, W2) from n1), cl_s (show f_X12_keepsLaw 1 W2 = some (0, W3) from q1), if_pos rfl]
    rfl
  · rw [c3r 137 (by decide), lw 137 (by decide) (by decide), l5.1 137 (by simp) (by decide), g5.1 137 (by simp) (by decide), e5.1 137 (by simp) (by decide), d5.1 137 (by simp) (by decide), b5.1 137 (by simp) (by decide), s6 137 (by decide)]
    have := a3 i (by omega) hi
    rw [Nat.zero_add] at this
    rw [this, x0r 164 (by decide)]
  · rw [ms_at (by decide), c136 6 (by decide)]; exact v6
  · rw [ms_at (by decide), c136 8 (by decide)]; exact v8
  · rw [ms_at (by decide), c136 9 (by decide)]; exact v9
  · rw [ms_at (by decide), c136 10 (by decide)]; exact v10
  · rw [ms_at (by decide), c136 36 (by decide)]; exact v36
  · rw [ms_at (by decide), c136 38 (by decide)]; exact v38
  · rw [c3r 140 (by decide), lw 140 (by decide) (by decide), l5.1 140 (by simp) (by decide), g5.1 140 (by simp) (by decide), e5.1 140 (by simp) (by decide), d5.1 140 (by simp) (by decide), b3 i (by omega) hi, i2]
  · rw [c3r 141 (by decide), lw 141 (by decide) (by decide), l5.1 141 (by simp) (by decide), g5.1 141 (by simp) (by decide), e5.1 141 (by simp) (by decide), d3 i (by omega) hi, i3]
  · rw [c3r 153 (by decide), lw 153 (by decide) (by decide), l5.1 153 (by simp) (by decide), g5.1 153 (by simp) (by decide), e3 i (by omega) hi, i4]
  · rw [c3r 154 (by decide), lw 154 (by decide) (by decide), l5.1 154 (by simp) (by decide), g3 i (by omega) hi, i5]
  · rw [c3r 142 (by decide), lw 142 (by decide) (by decide), l3 i (by omega) hi, i6]
  · rw [c3r 145 (by decide), q3' 0 (by decide), n3, i7]
  · rw [c3r 146 (by decide), c3r 147 (by decide), c3r 148 (by decide), c3r 149 (by decide)]
    obtain ⟨w1, w2, w3, w4⟩ := q4' j (by omega)
    have := n4 j hj
    simp only [Nat.mul_zero, Nat.zero_add] at this
    rw [i7] at this
    rw [w1, w2, w3, w4]
    refine ⟨this.1, ?_, ?_, ?_⟩
    · rw [show 652 + 4 * j = 650 + 1 + 4 * j + 1 by omega]; exact this.2.1
    · rw [show 653 + 4 * j = 650 + 1 + 4 * j + 2 by omega]; exact this.2.2.1
    · rw [show 654 + 4 * j = 650 + 1 + 4 * j + 3 by omega]; exact this.2.2.2
  · rw [c3r 150 (by decide), c3r 151 (by decide)]
    obtain ⟨w1, w2⟩ := q5' j (by omega)
    have := n5 j hj
    simp only [Nat.mul_zero, Nat.zero_add] at this
    rw [i7] at this
    rw [w1, w2]
    refine ⟨this.1, ?_⟩
    rw [show 716 + 2 * j = 650 + 65 + 2 * j + 1 by omega]; exact this.2
  · rw [c3r 145 (by decide), q3, i8]
  · rw [c3r 146 (by decide), c3r 147 (by decide), c3r 148 (by decide), c3r 149 (by decide)]
    have := q4 j hj
    rw [i8] at this
    refine ⟨this.1, ?_, ?_, ?_⟩
    · rw [show 1517 + 4 * j = 1515 + 1 + 4 * j + 1 by omega]; exact this.2.1
    · rw [show 1518 + 4 * j = 1515 + 1 + 4 * j + 2 by omega]; exact this.2.2.1
    · rw [show 1519 + 4 * j = 1515 + 1 + 4 * j + 3 by omega]; exact this.2.2.2
  · rw [c3r 150 (by decide), c3r 151 (by decide)]
    have := q5 j hj
    rw [i8] at this
    refine ⟨this.1, ?_⟩
    rw [show 1581 + 2 * j = 1515 + 65 + 2 * j + 1 by omega]; exact this.2
  · rw [ms_at (by decide), c136 50 (by decide), vo 50 (by decide) (by decide) (by decide) (by decide) (by decide) (by decide) (by decide), a5.2 50 (by decide)]; exact x50
  · have hp6 : ¬ p = 136 := by omega
    rw [c3r p hp6, lw p (by simp; omega) hp6, l5.1 p (by simp; omega) hp6, g5.1 p (by simp; omega) hp6, e5.1 p (by simp; omega) hp6, d5.1 p (by simp; omega) hp6, b5.1 p (by simp; omega) hp6, s6 p hp6, a5.1 p (by simp; omega) hp6, x0r p hp6]
  · have h : ¬ i = 3 ∧ ¬ i = 51 ∧ ¬ i = 6 ∧ ¬ i = 8 ∧ ¬ i = 9 ∧ ¬ i = 10 ∧ ¬ i = 36 ∧ ¬ i = 38 ∧ ¬ i = 49 ∧ ¬ i = 50 := (by decide : ∀ i ∈ [5, 14, 34, 35], ¬ i = 3 ∧ ¬ i = 51 ∧ ¬ i = 6 ∧ ¬ i = 8 ∧ ¬ i = 9 ∧ ¬ i = 10 ∧ ¬ i = 36 ∧ ¬ i = 38 ∧ ¬ i = 49 ∧ ¬ i = 50) i hi
    obtain ⟨p0, p1, p2, p3, p4, p5, p6, p7, p8, p9⟩ := h
    rw [ms_at p0, c136 i p1, vo i p1 p2 p3 p4 p5 p6 p7, a5.2 i p1, x0c i p8 p9 p1]
