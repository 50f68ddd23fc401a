/-! stone, book -/
theorem bnd_nI {x : Int32} {n : Nat} (h : bnd x 0 n) (hn : n < 2 ^ 31) : ∃ s : Nat, s ≤ n ∧ x = nI s := by
  obtain ⟨h1, h2⟩ := h
  refine ⟨x.toInt.toNat, by omega, Int32.toInt_inj.mp ?_⟩
  rw [nI_toInt (by omega)]
  omega
theorem sub1 {s : Nat} (hs : s < 2 ^ 30) : (nI s - 1).toInt = (s : Int) - 1 := pk_sub_toInt (a := s) (b := 1) hs (by decide)
/-- a place below s, as both sides ask for it -/
theorem in_sub {p : Int32} {s : Nat} (hs : s < 2 ^ 30) (h : ¬ (p < 0 ∨ nI s - 1 < p)) : ∃ j : Nat, j < s ∧ p = nI j := by
  rw [not_or, Int32.not_lt, Int32.not_lt, Int32.le_iff_toInt_le, Int32.le_iff_toInt_le, sub1 hs] at h
  have h1 : (0 : Int32).toInt = 0 := by decide
  obtain ⟨h2, h3⟩ := h
  refine ⟨p.toInt.toNat, by omega, Int32.toInt_inj.mp ?_⟩
  rw [nI_toInt (by omega)]
  omega
theorem in_to {p : Int32} {n : Nat} (hn : n < 2 ^ 30) (h : ¬ (p < 0 ∨ nI n < p)) : ∃ j : Nat, j ≤ n ∧ p = nI j := by
  rw [not_or, Int32.not_lt, Int32.not_lt, Int32.le_iff_toInt_le, Int32.le_iff_toInt_le, nI_toInt (by omega)] at h
  have h1 : (0 : Int32).toInt = 0 := by decide
  obtain ⟨h2, h3⟩ := h
  refine ⟨p.toInt.toNat, by omega, Int32.toInt_inj.mp ?_⟩
  rw [nI_toInt (by omega)]
  omega
/-- a place that isn't 0 .. n -/
theorem out_to {p : Int32} {n : Nat} (hn : n < 2 ^ 30) (h : p < 0 ∨ nI n < p) {j : Nat} (hj : j ≤ n) : ¬ p = nI j := by
  rintro rfl
  rcases h with h | h
  · exact nI_pos (by omega) h
  · exact nI_nlt hj (by omega) h
theorem mul_add (a i b : Nat) : nI a * nI i + nI b = nI (a * i + b) := by rw [pk_mul, nI_add]
theorem st_stone (p q : Int32) : Stp2 Inv (f_X11_stone p q) (f_X12_stone p q) := by
  intro M hI
  obtain ⟨-, -, -, -, u5, -⟩ := told_to hI.2.1
  obtain ⟨a1, a2, a3⟩ := u5
  obtain ⟨s, hs, es⟩ := bnd_nI (n := 8) a2 (by decide)
  have em : ms M 136 0 0 136 36 = nI s := by rw [ms_at (by decide), a1, es]
  have ec : (M 20 0).toNatClampNeg = s := by rw [es, nI_clamp (by omega)]
  by_cases hp : p < 0 ∨ nI s - 1 < p
  · exact ⟨-1, M, ms M 136 0 0, by unfold f_X11_stone; rw [es, cl_s (win_c _ _ _ M), if_pos (i0 hp)], by simp only [f_X12_stone, pt]; rw [em, cl_s (win_m _ _ _ _), if_pos (i0 hp)], Inv_same same_told hI⟩
  · obtain ⟨j, hj, rfl⟩ := in_sub (by omega) hp
    obtain ⟨⟨v0, v1, v2, v3⟩, -⟩ := a3 j (by rw [ec]; exact hj)
    have c1 : ∀ k : IR, f_X11_stone (nI j) q M = k → f_X11_stone (nI j) q M = k := fun _ h => h
    have cb : f_X11_stone (nI j) q M = if q = 0 then some (M 21 j, M) else if q = 1 then some (M 22 j, M) else if q = 2 then some (M 23 j, M) else if q = 3 then some (M 24 j, M) else some (-1, M) := by
      unfold f_X11_stone
      rw [es, cl_s (win_c _ _ _ M), if_neg (i1 hp), rdK (i := nI j) (j := j) (n := 8) rfl (by omega) (by decide), rdK (i := nI j) (j := j) (n := 8) rfl (by omega) (by decide), rdK (i := nI j) (j := j) (n := 8) rfl (by omega) (by decide), rdK (i := nI j) (j := j) (n := 8) rfl (by omega) (by decide)]
    by_cases hq : q < 0 ∨ 3 < q
    · have n0 : ¬ q = 0 := out_to (n := 3) (by decide) hq (j := 0) (by decide)
      have n1 : ¬ q = 1 := out_to (n := 3) (by decide) hq (j := 1) (by decide)
      have n2 : ¬ q = 2 := out_to (n := 3) (by decide) hq (j := 2) (by decide)
      have n3 : ¬ q = 3 := out_to (n := 3) (by decide) hq (j := 3) (by decide)
      exact ⟨-1, M, ms M 136 0 0, by rw [cb, if_neg n0, if_neg n1, if_neg n2, if_neg n3], by simp only [f_X12_stone, pt]; rw [em, cl_s (win_m _ _ _ _), if_neg (i1 hp), cl_s (win_m _ _ _ _), if_pos (i0 hq)], Inv_same same_told hI⟩
    · have hq' := hq
      obtain ⟨k, hk, rfl⟩ := in_to (n := 3) (by decide) hq
      have cm : f_X12_stone (nI j) (nI k) M = some (M 153 (4 * j + k), ms M 136 0 0) := by
        have c2 : f_X12_ofStone (nI j) (nI k) (ms M 136 0 0) = some (M 153 (4 * j + k), ms M 136 0 0) := by
          unfold f_X12_ofStone
          rw [rdK (j := 4 * j + k) (n := 64) (show (4 : Int32) * nI j + nI k = nI (4 * j + k) from mul_add 4 j k) (by omega) (by decide), ms_ne (by decide)]
        simp only [f_X12_stone, pt]
        rw [em, cl_s (win_m _ _ _ _), if_neg (i1 hp), cl_s (win_m _ _ _ _), if_neg (i1 hq'), cl_s c2]
      refine ⟨M 153 (4 * j + k), M, ms M 136 0 0, ?_, cm, Inv_same same_told hI⟩
      rw [cb]
      match k, hk with
      | 0, _ => rw [if_pos (show nI 0 = 0 from rfl), Nat.add_zero, v0]
      | 1, _ => rw [if_neg (by decide), if_pos (show nI 1 = 1 from rfl), v1]
      | 2, _ => rw [if_neg (by decide), if_neg (by decide), if_pos (show nI 2 = 2 from rfl), v2]
      | 3, _ => rw [if_neg (by decide), if_neg (by decide), if_neg (by decide), if_pos (show nI 3 = 3 from rfl), v3]
theorem st_book (p q : Int32) : Stp2 Inv (f_X11_book p q) (f_X12_book p q) := by
  intro M hI
  have hB := hI.2.2.1
  obtain ⟨⟨-, -, r2, -⟩, ⟨-, -, -, b9, -⟩, -⟩ := hI.1
  obtain ⟨s, hs, es⟩ := bnd_nI (n := 150) b9 (by decide)
  have em : ms M 136 0 0 137 2 = nI s := by rw [ms_ne (by decide), r2, es]
  by_cases hp : p < 0 ∨ nI s - 1 < p
  · exact ⟨-1, M, ms M 136 0 0, by unfold f_X11_book; rw [es, cl_s (win_c _ _ _ M), if_pos (i0 hp)], by simp only [f_X12_book, pt]; rw [rdK (i := 2) (j := 2) (n := 40) rfl (by decide) (by decide), em, cl_s (win_m _ _ _ _), if_pos (i0 hp)], Inv_same same_told hI⟩
  · obtain ⟨j, hj, rfl⟩ := in_sub (by omega) hp
    obtain ⟨v0, v1, v2⟩ := hB j (by omega)
    have cb : f_X11_book (nI j) q M = if q = 0 then some (M 31 j, M) else if q = 1 then some (M 32 j, M) else if q = 2 then some (M 33 j, M) else some (-1, M) := by
      unfold f_X11_book
      rw [es, cl_s (win_c _ _ _ M), if_neg (i1 hp), rdK (i := nI j) (j := j) (n := 150) rfl (by omega) (by decide), rdK (i := nI j) (j := j) (n := 150) rfl (by omega) (by decide), rdK (i := nI j) (j := j) (n := 150) rfl (by omega) (by decide)]
    by_cases hq : q < 0 ∨ 2 < q
    · have n0 : ¬ q = 0 := out_to (n := 2) (by decide) hq (j := 0) (by decide)
      have n1 : ¬ q = 1 := out_to (n := 2) (by decide) hq (j := 1) (by decide)
      have n2 : ¬ q = 2 := out_to (n := 2) (by decide) hq (j := 2) (by decide)
      exact ⟨-1, M, ms M 136 0 0, by rw [cb, if_neg n0, if_neg n1, if_neg n2], by simp only [f_X12_book, pt]; rw [rdK (i := 2) (j := 2) (n := 40) rfl (by decide) (by decide), em, cl_s (win_m _ _ _ _), if_neg (i1 hp), cl_s (win_m _ _ _ _), if_pos (i0 hq)], Inv_same same_told hI⟩
    · have hq' := hq
      obtain ⟨k, hk, rfl⟩ := in_to (n := 2) (by decide) hq
      have cm : f_X12_book (nI j) (nI k) M = some (M 142 (3 * j + k), ms M 136 0 0) := by
        simp only [f_X12_book, pt]
        rw [rdK (i := 2) (j := 2) (n := 40) rfl (by decide) (by decide), em, cl_s (win_m _ _ _ _), if_neg (i1 hp), cl_s (win_m _ _ _ _), if_neg (i1 hq'), rdK (j := 3 * j + k) (n := 450) (show (3 : Int32) * nI j + nI k = nI (3 * j + k) from mul_add 3 j k) (by omega) (by decide), ms_ne (by decide)]
      refine ⟨M 142 (3 * j + k), M, ms M 136 0 0, ?_, cm, Inv_same same_told hI⟩
      rw [cb]
      match k, hk with
      | 0, _ => rw [if_pos (show nI 0 = 0 from rfl), Nat.add_zero, v0]
      | 1, _ => rw [if_neg (by decide), if_pos (show nI 1 = 1 from rfl), v1]
      | 2, _ => rw [if_neg (by decide), if_neg (by decide), if_pos (show nI 2 = 2 from rfl), v2]
