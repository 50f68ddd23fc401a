/-! steps of the small calls -/
/-- nothing that the invariant looks at has changed -/
def same (M M' : IM) : Prop := (∀ p : Nat, p ≤ 27 ∨ (30 ≤ p ∧ p ≤ 92) ∨ (95 ≤ p ∧ p ≤ 99) ∨ p = 137 ∨ p = 138 ∨ (140 ≤ p ∧ p ≤ 151) ∨ p = 153 ∨ p = 154 ∨ p = 164 → M' p = M p) ∧ (∀ i ∈ [3, 5, 6, 8, 9, 10, 14, 34, 35, 36, 38, 50], M' 136 i = M 136 i) ∧ M' 100 0 = M 100 0 ∧ M' 100 1 = M 100 1
theorem same_rf {M : IM} : same M M := ⟨fun _ _ => rfl, fun _ _ => rfl, rfl, rfl⟩
theorem same_tr {M M1 M2 : IM} (h : same M M1) (h2 : same M1 M2) : same M M2 := ⟨fun p hp => (h2.1 p hp).trans (h.1 p hp), fun i hi => (h2.2.1 i hi).trans (h.2.1 i hi), h2.2.2.1.trans h.2.2.1, h2.2.2.2.trans h.2.2.2⟩
theorem same_told {M : IM} {v : Int32} : same M (ms M 136 0 v) := ⟨fun p hp => ms_ne (by omega), fun i hi => ms_at (fun e => by subst e; revert hi; decide), by rw [ms_ne (by decide)], by rw [ms_ne (by decide)]⟩
theorem same_far {M : IM} {o i : Nat} {v : Int32} (h : o = 28 ∨ o = 29 ∨ (93 ≤ o ∧ o ≤ 94) ∨ (101 ≤ o ∧ o ≤ 135) ∨ o = 139 ∨ o = 152 ∨ (155 ≤ o ∧ o ≤ 163)) : same M (ms M o i v) := ⟨fun p hp => ms_ne (by omega), fun i hi => by rw [ms_ne (by omega)], by rw [ms_ne (by omega)], by rw [ms_ne (by omega)]⟩
theorem Inv_same {M M' : IM} (hs : same M M') (h : Inv M) : Inv M' := by
  obtain ⟨hN, hT, hB, hP, hTp, hF, hW, hG⟩ := h
  obtain ⟨hr, h6, h0, h1⟩ := hs
  have r : ∀ p : Nat, p ≤ 27 → M' p = M p := fun p h => hr p (Or.inl h)
  have r2 : ∀ p : Nat, 30 ≤ p → p ≤ 92 → M' p = M p := fun p h h' => hr p (Or.inr (Or.inl ⟨h, h'⟩))
  have r3 : ∀ p : Nat, 95 ≤ p → p ≤ 99 → M' p = M p := fun p h h' => hr p (by omega)
  have r4 : ∀ p : Nat, 140 ≤ p → p ≤ 151 → M' p = M p := fun p h h' => hr p (by omega)
  refine ⟨fr_Now (r _ (by decide)) (r _ (by decide)) (r _ (by decide)) (r _ (by decide)) (r _ (by decide)) (r _ (by decide)) (r _ (by decide)) (hr _ (by decide)) (hr _ (by decide)) (h6 _ (by decide)) hN,
    fr_Told (fun p h h' => r p h') (congrFun (r 1 (by decide)) 10) (h6 _ (by decide)) (h6 _ (by decide)) (h6 _ (by decide)) (h6 _ (by decide)) (h6 _ (by decide)) (hr _ (by decide)) (fun p h h' => r4 p (by omega) (by omega)) (hr _ (by decide)) (hr _ (by decide)) hT,
    fr_Book (hr _ (by decide)) (hr _ (by decide)) (hr _ (by decide)) (hr _ (by decide)) hB,
    fr_Past (fun p h h' => r2 p (by omega) (by omega)) (h6 _ (by decide)) (hr _ (by decide)) (r _ (by decide)) (r _ (by decide)) (congrFun (r 1 (by decide)) 10) (r _ (by decide)) hP,
    fr_Tape (h6 _ (by decide)) (congrFun (r 0 (by decide)) 9) (hr _ (by decide)) (hr _ (by decide)) hTp,
    fr_Fault (h6 _ (by decide)) (h6 _ (by decide)) (h6 _ (by decide)) h0 h1 hF, fr_Words (hr _ (by decide)) hW,
    fr_Img (fun p h h' n1 n2 => hr p (by omega)) (congrFun (r 0 (by decide)) 7) (h6 _ (by decide)) (hr _ (by decide)) hG⟩
theorem par_c (p : Int32) (M : IM) : f_X11_isParish p M = some (if p < 0 ∨ 8 ≤ p then 0 else 1, M) := by
  unfold f_X11_isParish
  by_cases h1 : p < 0
  · simp [h1]
  · by_cases h2 : 8 ≤ p <;> simp [h1, h2]
theorem par_m (p : Int32) (M : IM) : f_X12_isParish p M = some (if p < 0 ∨ 8 ≤ p then 0 else 1, M) := par_c p M
theorem win_c (p a b : Int32) (M : IM) : f_X11_within p a b M = some (if p < a ∨ b < p then 0 else 1, M) := by
  unfold f_X11_within
  by_cases h1 : p < a
  · simp [h1]
  · by_cases h2 : b < p <;> simp [h1, h2]
theorem win_m (p a b : Int32) (M : IM) : f_X12_isIn p a b M = some (if p < a ∨ b < p then 0 else 1, M) := win_c p a b M
theorem i0 {c : Prop} [Decidable c] (h : c) : (if c then (0 : Int32) else 1) = 0 := if_pos h
theorem i1 {c : Prop} [Decidable c] (h : ¬ c) : ¬ (if c then (0 : Int32) else 1) = 0 := by rw [if_neg h]; decide
/-- fault -/
theorem st_fault (v : Int32) : Stp2 Inv (f_X11_fault v) (f_X12_fault v) := by
  intro M hI
  have hF := hI.2.2.2.2.2.1
  have e34 : ms M 136 0 0 136 34 = M 100 0 := by rw [ms_at (by decide)]; exact hF.1
  have e35 : ms M 136 0 0 136 35 = M 100 1 := by rw [ms_at (by decide)]; exact hF.2.1
  by_cases h0 : v = 0
  · exact ⟨M 100 0, M, ms M 136 0 0, by unfold f_X11_fault; rw [if_pos h0], by simp only [f_X12_fault, pt]; rw [if_pos h0, e34], Inv_same same_told hI⟩
  · by_cases h1 : v = 1
    · exact ⟨M 100 1, M, ms M 136 0 0, by unfold f_X11_fault; rw [if_neg h0, if_pos h1], by simp only [f_X12_fault, pt]; rw [if_neg h0, if_pos h1, e35], Inv_same same_told hI⟩
    · exact ⟨-1, M, ms M 136 0 0, by unfold f_X11_fault; rw [if_neg h0, if_neg h1], by simp only [f_X12_fault, pt]; rw [if_neg h0, if_neg h1], Inv_same same_told hI⟩
/-- roadOf -/
theorem st_roadOf (p q : Int32) : Stp2 Inv (f_X11_roadOf p q) (f_X12_roadOf p q) := by
  intro M hI
  have hT := hI.2.1
  obtain ⟨-, -, -, -, -, -, hr, -⟩ := hT
  by_cases hp : p < 0 ∨ 8 ≤ p
  · exact ⟨-1, M, ms M 136 0 0, by unfold f_X11_roadOf; rw [cl_s (par_c p M), if_pos (i0 hp)], by simp only [f_X12_roadOf, pt]; rw [cl_s (par_m p _), if_pos (i0 hp)], Inv_same same_told hI⟩
  · by_cases hq : q < 0 ∨ 8 ≤ q
    · exact ⟨-1, M, ms M 136 0 0, by unfold f_X11_roadOf; rw [cl_s (par_c p M), if_neg (i1 hp), cl_s (par_c q M), if_pos (i0 hq)], by simp only [f_X12_roadOf, pt]; rw [cl_s (par_m p _), if_neg (i1 hp), cl_s (par_m q _), if_pos (i0 hq)], Inv_same same_told hI⟩
    · obtain ⟨j, hj, rfl⟩ : ∃ j : Nat, j < 8 ∧ p = nI j := by
        rcases pk_ix p (n := 8) (by decide) with h | h | h
        · exact absurd (Or.inl h) hp
        · exact absurd (Or.inr h) hp
        · exact h
      obtain ⟨k, hk, rfl⟩ : ∃ j : Nat, j < 8 ∧ q = nI j := by
        rcases pk_ix q (n := 8) (by decide) with h | h | h
        · exact absurd (Or.inl h) hq
        · exact absurd (Or.inr h) hq
        · exact h
      have e1 : nI j * 8 + nI k = nI (8 * j + k) := by rw [show (8 : Int32) = nI 8 from rfl, pk_mul, nI_add, Nat.mul_comm]
      have e2 : (8 : Int32) * nI j + nI k = nI (8 * j + k) := by rw [show (8 : Int32) = nI 8 from rfl, pk_mul, nI_add]
      obtain ⟨hv, hb1, hb2⟩ := hr (8 * j + k) (by omega)
      have em : ms M 136 0 0 141 (8 * j + k) = M 7 (8 * j + k) := by rw [ms_ne (by decide)]; exact hv
      have c1 : f_X11_roadOf (nI j) (nI k) M = if M 7 (8 * j + k) ≤ 0 then some (-1, M) else some (M 7 (8 * j + k), M) := by
        unfold f_X11_roadOf
        rw [cl_s (par_c _ M), if_neg (i1 hp), cl_s (par_c _ M), if_neg (i1 hq), rdK (j := 8 * j + k) (n := 64) e1 (by omega) (by decide)]
      have c2 : f_X12_roadOf (nI j) (nI k) M = if M 7 (8 * j + k) = 0 then some (-1, ms M 136 0 0) else some (M 7 (8 * j + k), ms M 136 0 0) := by
        simp only [f_X12_roadOf, pt]
        rw [cl_s (par_m _ _), if_neg (i1 hp), cl_s (par_m _ _), if_neg (i1 hq), rdK (j := 8 * j + k) (n := 64) e2 (by omega) (by decide), em]
        by_cases h : M 7 (8 * j + k) = 0
        · rw [if_pos h, if_pos h]
        · rw [if_neg h, if_neg h, rdK (j := 8 * j + k) (n := 64) e2 (by omega) (by decide), em]
      by_cases h : M 7 (8 * j + k) = 0
      · exact ⟨-1, M, ms M 136 0 0, by rw [c1, if_pos (by rw [h]; decide)], by rw [c2, if_pos h], Inv_same same_told hI⟩
      · refine ⟨M 7 (8 * j + k), M, ms M 136 0 0, ?_, by rw [c2, if_neg h], Inv_same same_told hI⟩
        rw [c1, if_neg]
        intro hle
        have h1 := Int32.le_iff_toInt_le.mp hle
        have h0 : (0 : Int32).toInt = 0 := by decide
        have hb1 : (0 : Int) ≤ (M 7 (8 * j + k)).toInt := hb1
        exact h (Int32.toInt_inj.mp (by omega))
