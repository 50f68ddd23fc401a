/-! the table of Nows, the model's rows: shift and copy back -/
theorem nw_in {k : Nat} (h : k < 6) : 36 + 5 * k ∈ nwL := by
  have : ∀ k : Nat, k < 6 → 36 + 5 * k ∈ nwL := by decide
  exact this k h
theorem raK {M : IM} {j k : Nat} {i : Int32} {f : Nat → IR} (hi : i = nI j) (hj : j < 6) (hk : k < 6) (h : M 35 j = nI (36 + 5 * k + 1)) : ra nwL M 35 6 i f = f (36 + 5 * k) := by
  subst hi
  have e : (nI (36 + 5 * k + 1)).toNatClampNeg - 1 = 36 + 5 * k := by rw [nI_clamp (by omega)]; omega
  unfold ra
  rw [if_neg (nI_in hj (by decide)), nI_clamp (by omega), h, if_neg (nI_ne0 (by omega) (by omega)), e, if_pos (nw_in hk)]
theorem waK {M : IM} {j k : Nat} {i : Int32} {f : IM → IR} (hi : i = nI j) (hj : j < 6) : wa M 35 6 i k f = f (ms M 35 j (nI (k + 1))) := by
  subst hi
  unfold wa
  rw [if_neg (nI_in hj (by decide)), nI_clamp (by omega)]
  rfl
/-- dropOldest's loop -/
theorem drop_l {o : Nat} (n : Nat) : ∀ (i : Nat) (M : IM) (k : Nat → Nat), 1 ≤ i → i ≤ 6 → 6 - i < n → M 34 0 = nI 6 → (∀ j : Nat, i ≤ j → j < 6 → k j < 6 ∧ M 35 j = nI (36 + 5 * k j + 1)) → ∃ M', f_X5_dropOldest_9 n o (nI i) M = some (0, M') ∧ M' 34 0 = nI 5 ∧ (∀ j : Nat, i ≤ j → j < 6 → M' 35 (j - 1) = M 35 j) ∧ (∀ j : Nat, j + 1 < i → M' 35 j = M 35 j) ∧ M' 35 5 = nI (o + 1) ∧ agr [35] [(34, 0)] M M' := by
  induction n with
  | zero => intro i M k h1 h2 h3; omega
  | succ n ih =>
    intro i M k h1 h6 hn hm hk
    have hstep : f_X5_dropOldest_9 (n + 1) o (nI i) M = f_X5_dropOldest_9_b (f_X5_dropOldest_9 n) o (nI i) M := rfl
    by_cases h : i = 6
    · subst h
      refine ⟨ms (ms M 35 5 (nI (o + 1))) 34 0 (nI 5), ?_, ms_it, fun j h1 h2 => by omega, fun j hj => by rw [ms_ne (by decide), ms_at (by omega)], by rw [ms_ne (by decide), ms_it], agr_c (agr_c agr_rf (Or.inr (by decide))) (by decide)⟩
      rw [hstep]
      simp only [f_X5_dropOldest_9_b, pt]
      rw [if_pos (by decide), waK (i := 5) (j := 5) rfl (by decide), ms_ne (by decide), hm]
      rfl
    · obtain ⟨k1, k2⟩ := hk i (Nat.le_refl _) (by omega)
      have e1 : nI i - 1 = nI (i - 1) := pk_sub (a := i) (b := 1) h1
      have hb : f_X5_dropOldest_9 (n + 1) o (nI i) M = f_X5_dropOldest_9 n o (nI (i + 1)) (ms M 35 (i - 1) (nI (36 + 5 * k i + 1))) := by
        rw [hstep]
        simp only [f_X5_dropOldest_9_b, lt]
        rw [if_neg (show ¬ (6 : Int32) ≤ nI i from nI_ge (a := i) (b := 6) (by omega) (by decide)), raK (j := i) (k := k i) rfl (by omega) k1 k2, waK (j := i - 1) e1 (by omega), nI_1]
      obtain ⟨M', f1, f2, f3, f4, f5, f6⟩ := ih (i + 1) (ms M 35 (i - 1) (nI (36 + 5 * k i + 1))) k (by omega) (by omega) (by omega) (by rw [ms_ne (by decide)]; exact hm) (fun j hj hj6 => ⟨(hk j (by omega) hj6).1, by rw [ms_at (by omega)]; exact (hk j (by omega) hj6).2⟩)
      refine ⟨M', by rw [hb]; exact f1, f2, fun j hj hj6 => ?_, fun j hj => ?_, f5, agr_tr (agr_c agr_rf (Or.inr (by decide))) f6⟩
      · by_cases hji : j = i
        · subst hji
          rw [f4 (j - 1) (by omega), ms_it, k2]
        · rw [f3 j (by omega) hj6, ms_at (by omega)]
      · rw [f4 j (by omega), ms_at (by omega)]
/-- keepsAhead's shift of five rows -/
theorem shift_m (n : Nat) : ∀ (k : Nat) (M : IM), k ≤ 200 → 200 - k < n → M 136 3 = nI 5 → ∃ M', f_X12_keepsAhead_21 n (nI k) M = f_X12_keepsAhead_55 BG 0 M' ∧ M' 136 3 = nI 5 ∧ (∀ i : Nat, k ≤ i → i < 200 → M' 138 i = M 138 (i + 40)) ∧ (∀ i : Nat, (i < k ∨ 200 ≤ i) → M' 138 i = M 138 i) ∧ agr [138] [] M M' := by
  induction n with
  | zero => intro k M h1 h2; omega
  | succ n ih =>
    intro k M hk hn h3
    have hstep : f_X12_keepsAhead_21 (n + 1) (nI k) M = f_X12_keepsAhead_21_b (f_X12_keepsAhead_21 n) (nI k) M := rfl
    have e200 : (40 : Int32) * nI 5 = nI 200 := by decide
    by_cases h : k = 200
    · subst h
      refine ⟨M, ?_, h3, fun i h1 h2 => by omega, fun _ _ => rfl, agr_rf⟩
      rw [hstep]
      unfold f_X12_keepsAhead_21_b
      rw [h3, e200, if_pos (by decide)]
    · have hb : f_X12_keepsAhead_21 (n + 1) (nI k) M = f_X12_keepsAhead_21 n (nI (k + 1)) (ms M 138 k (M 138 (k + 40))) := by
        rw [hstep]
        simp only [f_X12_keepsAhead_21_b, lt]
        rw [h3, e200, if_neg (show ¬ nI 200 ≤ nI k from nI_ge (by omega) (by decide)), rdK (j := k + 40) (n := 240) (show nI k + 40 = nI (k + 40) from nI_add k 40) (by omega) (by decide), wrK (i := nI k) (j := k) (n := 240) rfl (by omega) (by decide), nI_1]
      obtain ⟨M', f1, f2, f3, f4, f5⟩ := ih (k + 1) (ms M 138 k (M 138 (k + 40))) (by omega) (by omega) (by rw [ms_ne (by decide)]; exact h3)
      refine ⟨M', by rw [hb]; exact f1, f2, fun i h1 h2 => ?_, fun i hi => ?_, agr_tr (agr_c agr_rf (Or.inr (by decide))) f5⟩
      · by_cases hik : i = k
        · subst hik
          rw [f4 i (by omega), ms_it]
        · rw [f3 i (by omega) h2, ms_at (by omega)]
      · rw [f4 i (by omega), ms_at (by omega)]
/-- undo's copy -/
theorem back_m {u : Nat} (hu : u < 6) (n : Nat) : ∀ (k : Nat) (M : IM), k ≤ 40 → 40 - k < n → M 136 3 = nI u → ∃ M', f_X12_undo_26 n (nI k) M = some (1, M') ∧ (∀ i : Nat, k ≤ i → i < 40 → M' 137 i = M 138 (40 * u + i)) ∧ (∀ i : Nat, (i < k ∨ 40 ≤ i) → M' 137 i = M 137 i) ∧ agr [137] [] M M' := by
  induction n with
  | zero => intro k M h1 h2; omega
  | succ n ih =>
    intro k M hk hn h3
    have hstep : f_X12_undo_26 (n + 1) (nI k) M = f_X12_undo_26_b (f_X12_undo_26 n) (nI k) M := rfl
    by_cases h : k = 40
    · subst h
      refine ⟨M, ?_, fun i h1 h2 => by omega, fun _ _ => rfl, agr_rf⟩
      rw [hstep]
      unfold f_X12_undo_26_b
      rw [if_pos (by decide)]
    · have e : (40 : Int32) * nI u + nI k = nI (40 * u + k) := by rw [show (40 : Int32) = nI 40 from rfl, pk_mul, nI_add]
      have hb : f_X12_undo_26 (n + 1) (nI k) M = f_X12_undo_26 n (nI (k + 1)) (ms M 137 k (M 138 (40 * u + k))) := by
        rw [hstep]
        simp only [f_X12_undo_26_b, lt]
        rw [if_neg (show ¬ (40 : Int32) ≤ nI k from nI_ge (a := k) (b := 40) (by omega) (by decide)), h3, rdK (j := 40 * u + k) (n := 240) e (by omega) (by decide), wrK (i := nI k) (j := k) (n := 40) rfl (by omega) (by decide), nI_1]
      obtain ⟨M', f1, f3, f4, f5⟩ := ih (k + 1) (ms M 137 k (M 138 (40 * u + k))) (by omega) (by omega) (by rw [ms_ne (by decide)]; exact h3)
      refine ⟨M', by rw [hb]; exact f1, fun i h1 h2 => ?_, fun i hi => ?_, agr_tr (agr_c agr_rf (Or.inr (by decide))) f5⟩
      · by_cases hik : i = k
        · subst hik
          rw [f4 i (by omega), ms_it]
        · rw [f3 i (by omega) h2, ms_ne (by decide)]
      · rw [f4 i (by omega), ms_at (by omega)]
