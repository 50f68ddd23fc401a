/-! laws, rounds, shifts, books become others -/
theorem mr_at {M : IM} {o p : Nat} {f : Nat → Int32} (h : ¬ p = o) : mr M o f p = M p := mr_ne h
section BEC
variable {M : IM} {o0 o1 : Nat}
theorem law_become {N : Nat} (hd : o0 + 6 ≤ o1 ∨ o1 + 6 ≤ o0) (hN : N ≤ 400) (h5 : M o1 5 = nI N) : ∃ M', f_X3_become o0 o1 M = some (M o1 0, M') ∧ M' o0 0 = M o1 0 ∧ M' o0 5 = nI N ∧ (∀ k : Nat, 1 ≤ k → k ≤ 4 → ∀ i : Nat, i < 16 → M' (o0 + k) i = M (o1 + k) i) ∧ (∀ i : Nat, i < N → M' (o0 + 5) i = M (o1 + 5) i) ∧ ∀ p : Nat, (p < o0 ∨ o0 + 6 ≤ p) → M' p = M p := by
  generalize hA : ms (ms M o0 0 (M o1 0)) o0 5 (nI N) = A
  have a1 : ∀ p : Nat, ¬ p = o0 → A p = M p := fun p h => by rw [← hA, ms_ne h, ms_ne h]
  have a0 : A o0 0 = M o1 0 := by rw [← hA, ms_at (by decide), ms_it]
  have a5 : A o0 5 = nI N := by rw [← hA, ms_it]
  generalize hB : mr (mr (mr (mr A (o0 + 1) (va_cpy (A (o1 + 1)) (A (o0 + 1)) 0 0 16)) (o0 + 2) (va_cpy (A (o1 + 2)) (A (o0 + 2)) 0 0 16)) (o0 + 3) (va_cpy (A (o1 + 3)) (A (o0 + 3)) 0 0 16)) (o0 + 4) (va_cpy (A (o1 + 4)) (A (o0 + 4)) 0 0 16) = B
  have b1 : ∀ p : Nat, (p < o0 + 1 ∨ o0 + 5 ≤ p) → B p = A p := fun p h => by rw [← hB, mr_ne (by omega), mr_ne (by omega), mr_ne (by omega), mr_ne (by omega)]
  refine ⟨mr B (o0 + 5) (va_cpy (B (o1 + 5)) (B (o0 + 5)) 0 0 N), ?_, ?_, ?_, ?_, ?_, ?_⟩
  · simp only [f_X3_become, pt]
    rw [ms_ne (show ¬ o1 = o0 by omega), h5, hA, cpK (c := 16) (n := 16) (n' := 16) (l := 16) rfl (by decide) (by decide) (by decide), cpK (c := 16) (n := 16) (n' := 16) (l := 16) rfl (by decide) (by decide) (by decide), cpK (c := 16) (n := 16) (n' := 16) (l := 16) rfl (by decide) (by decide) (by decide), cpK (c := 16) (n := 16) (n' := 16) (l := 16) rfl (by decide) (by decide) (by decide)]
    rw [mr_ne (p := o1 + 2) (o := o0 + 1) (by omega), mr_ne (p := o0 + 2) (o := o0 + 1) (by omega), mr_ne (p := o1 + 3) (o := o0 + 2) (by omega), mr_ne (p := o0 + 3) (o := o0 + 2) (by omega), mr_ne (p := o1 + 3) (o := o0 + 1) (by omega), mr_ne (p := o0 + 3) (o := o0 + 1) (by omega), mr_ne (p := o1 + 4) (o := o0 + 3) (by omega), mr_ne (p := o0 + 4) (o := o0 + 3) (by omega), mr_ne (p := o1 + 4) (o := o0 + 2) (by omega), mr_ne (p := o0 + 4) (o := o0 + 2) (by omega), mr_ne (p := o1 + 4) (o := o0 + 1) (by omega), mr_ne (p := o0 + 4) (o := o0 + 1) (by omega), hB, cpK (l := N) (by rw [b1 o0 (by omega)]; exact a5) hN hN (by omega), mr_ne (show ¬ o0 = o0 + 5 by omega), b1 o0 (by omega), a0]
  · rw [mr_ne (by omega), b1 o0 (by omega)]; exact a0
  · rw [mr_ne (by omega), b1 o0 (by omega)]; exact a5
  · intro k h1 h4 i hi
    rw [mr_ne (by omega), ← hB]
    match k, h1, h4 with
    | 1, _, _ => rw [mr_ne (by omega), mr_ne (by omega), mr_ne (by omega), mr_it, cpy_in hi, a1 _ (by omega)]
    | 2, _, _ => rw [mr_ne (by omega), mr_ne (by omega), mr_it, cpy_in hi, a1 _ (by omega)]
    | 3, _, _ => rw [mr_ne (by omega), mr_it, cpy_in hi, a1 _ (by omega)]
    | 4, _, _ => rw [mr_it, cpy_in hi, a1 _ (by omega)]
    | k + 5, _, h => omega
  · intro i hi
    rw [mr_it, cpy_in hi, b1 _ (by omega), a1 _ (by omega)]
  · intro p hp
    rw [mr_ne (by omega), b1 p (by omega), a1 p (by omega)]
theorem round_become (hd : o0 + 5 ≤ o1 ∨ o1 + 5 ≤ o0) : ∃ M', f_X7_become o0 o1 M = some (M o1 0, M') ∧ M' o0 0 = M o1 0 ∧ (∀ k : Nat, 1 ≤ k → k ≤ 4 → ∀ i : Nat, i < 8 → M' (o0 + k) i = M (o1 + k) i) ∧ ∀ p : Nat, (p < o0 ∨ o0 + 5 ≤ p) → M' p = M p := by
  generalize hA : ms M o0 0 (M o1 0) = A
  have a1 : ∀ p : Nat, ¬ p = o0 → A p = M p := fun p h => by rw [← hA, ms_ne h]
  have a0 : A o0 0 = M o1 0 := by rw [← hA, ms_it]
  generalize hB : mr (mr (mr (mr A (o0 + 1) (va_cpy (A (o1 + 1)) (A (o0 + 1)) 0 0 8)) (o0 + 2) (va_cpy (A (o1 + 2)) (A (o0 + 2)) 0 0 8)) (o0 + 3) (va_cpy (A (o1 + 3)) (A (o0 + 3)) 0 0 8)) (o0 + 4) (va_cpy (A (o1 + 4)) (A (o0 + 4)) 0 0 8) = B
  have b1 : ∀ p : Nat, (p < o0 + 1 ∨ o0 + 5 ≤ p) → B p = A p := fun p h => by rw [← hB, mr_ne (by omega), mr_ne (by omega), mr_ne (by omega), mr_ne (by omega)]
  refine ⟨B, ?_, ?_, ?_, ?_⟩
  · simp only [f_X7_become, pt]
    rw [hA, cpK (c := 8) (n := 8) (n' := 8) (l := 8) rfl (by decide) (by decide) (by decide), cpK (c := 8) (n := 8) (n' := 8) (l := 8) rfl (by decide) (by decide) (by decide), cpK (c := 8) (n := 8) (n' := 8) (l := 8) rfl (by decide) (by decide) (by decide), cpK (c := 8) (n := 8) (n' := 8) (l := 8) rfl (by decide) (by decide) (by decide)]
    rw [mr_ne (p := o1 + 2) (o := o0 + 1) (by omega), mr_ne (p := o0 + 2) (o := o0 + 1) (by omega), mr_ne (p := o1 + 3) (o := o0 + 2) (by omega), mr_ne (p := o0 + 3) (o := o0 + 2) (by omega), mr_ne (p := o1 + 3) (o := o0 + 1) (by omega), mr_ne (p := o0 + 3) (o := o0 + 1) (by omega), mr_ne (p := o1 + 4) (o := o0 + 3) (by omega), mr_ne (p := o0 + 4) (o := o0 + 3) (by omega), mr_ne (p := o1 + 4) (o := o0 + 2) (by omega), mr_ne (p := o0 + 4) (o := o0 + 2) (by omega), mr_ne (p := o1 + 4) (o := o0 + 1) (by omega), mr_ne (p := o0 + 4) (o := o0 + 1) (by omega), hB, b1 o0 (by omega), a0]
  · rw [b1 o0 (by omega)]; exact a0
  · intro k h1 h4 i hi
    rw [← hB]
    match k, h1, h4 with
    | 1, _, _ => rw [mr_ne (by omega), mr_ne (by omega), mr_ne (by omega), mr_it, cpy_in hi, a1 _ (by omega)]
    | 2, _, _ => rw [mr_ne (by omega), mr_ne (by omega), mr_it, cpy_in hi, a1 _ (by omega)]
    | 3, _, _ => rw [mr_ne (by omega), mr_it, cpy_in hi, a1 _ (by omega)]
    | 4, _, _ => rw [mr_it, cpy_in hi, a1 _ (by omega)]
    | k + 5, _, h => omega
  · intro p hp
    rw [b1 p (by omega), a1 p (by omega)]
theorem shifts_become (hd : o0 + 3 ≤ o1 ∨ o1 + 3 ≤ o0) : ∃ M', f_X8_become o0 o1 M = some (M o1 0, M') ∧ M' o0 0 = M o1 0 ∧ (∀ i : Nat, i < 16 → M' (o0 + 1) i = M (o1 + 1) i) ∧ (∀ i : Nat, i < 16 → M' (o0 + 2) i = M (o1 + 2) i) ∧ ∀ p : Nat, (p < o0 ∨ o0 + 3 ≤ p) → M' p = M p := by
  generalize hA : ms M o0 0 (M o1 0) = A
  have a1 : ∀ p : Nat, ¬ p = o0 → A p = M p := fun p h => by rw [← hA, ms_ne h]
  have a0 : A o0 0 = M o1 0 := by rw [← hA, ms_it]
  generalize hB : mr (mr A (o0 + 1) (va_cpy (A (o1 + 1)) (A (o0 + 1)) 0 0 16)) (o0 + 2) (va_cpy (A (o1 + 2)) (A (o0 + 2)) 0 0 16) = B
  have b1 : ∀ p : Nat, (p < o0 + 1 ∨ o0 + 3 ≤ p) → B p = A p := fun p h => by rw [← hB, mr_ne (by omega), mr_ne (by omega)]
  refine ⟨B, ?_, ?_, ?_, ?_, ?_⟩
  · simp only [f_X8_become, pt]
    rw [hA, cpK (c := 16) (n := 16) (n' := 16) (l := 16) rfl (by decide) (by decide) (by decide), cpK (c := 16) (n := 16) (n' := 16) (l := 16) rfl (by decide) (by decide) (by decide), mr_ne (p := o1 + 2) (o := o0 + 1) (by omega), mr_ne (p := o0 + 2) (o := o0 + 1) (by omega), hB, b1 o0 (by omega), a0]
  · rw [b1 o0 (by omega)]; exact a0
  · intro i hi; rw [← hB, mr_ne (by omega), mr_it, cpy_in hi, a1 _ (by omega)]
  · intro i hi; rw [← hB, mr_it, cpy_in hi, a1 _ (by omega)]
  · intro p hp
    rw [b1 p (by omega), a1 p (by omega)]
theorem book_become (hd : o0 + 4 ≤ o1 ∨ o1 + 4 ≤ o0) : ∃ M', f_X1_become o0 o1 M = some (0, M') ∧ (∀ k : Nat, 1 ≤ k → k ≤ 3 → ∀ i : Nat, i < 150 → M' (o0 + k) i = M (o1 + k) i) ∧ ∀ p : Nat, (p < o0 + 1 ∨ o0 + 4 ≤ p) → M' p = M p := by
  generalize hB : mr (mr (mr M (o0 + 1) (va_cpy (M (o1 + 1)) (M (o0 + 1)) 0 0 150)) (o0 + 2) (va_cpy (M (o1 + 2)) (M (o0 + 2)) 0 0 150)) (o0 + 3) (va_cpy (M (o1 + 3)) (M (o0 + 3)) 0 0 150) = B
  refine ⟨B, ?_, ?_, ?_⟩
  · unfold f_X1_become
    rw [cpK (c := 150) (n := 150) (n' := 150) (l := 150) rfl (by decide) (by decide) (by decide), cpK (c := 150) (n := 150) (n' := 150) (l := 150) rfl (by decide) (by decide) (by decide), cpK (c := 150) (n := 150) (n' := 150) (l := 150) rfl (by decide) (by decide) (by decide)]
    rw [mr_ne (p := o1 + 2) (o := o0 + 1) (by omega), mr_ne (p := o0 + 2) (o := o0 + 1) (by omega), mr_ne (p := o1 + 3) (o := o0 + 2) (by omega), mr_ne (p := o0 + 3) (o := o0 + 2) (by omega), mr_ne (p := o1 + 3) (o := o0 + 1) (by omega), mr_ne (p := o0 + 3) (o := o0 + 1) (by omega), hB]
  · intro k h1 h4 i hi
    rw [← hB]
    match k, h1, h4 with
    | 1, _, _ => rw [mr_ne (by omega), mr_ne (by omega), mr_it, cpy_in hi]
    | 2, _, _ => rw [mr_ne (by omega), mr_it, cpy_in hi]
    | 3, _, _ => rw [mr_it, cpy_in hi]
    | k + 4, _, h => omega
  · intro p hp
    rw [← hB, mr_ne (by omega), mr_ne (by omega), mr_ne (by omega)]
/-- what of a Told counts, as the other has it -/
def TdEq (M M' : IM) (o0 o1 : Nat) (N0 N1 : Nat) : Prop := (∀ i : Nat, i ≤ 2 → M' o0 i = M o1 i) ∧ (∀ i : Nat, i < 64 → M' (o0 + 1) i = M (o1 + 1) i) ∧
  (M' (o0 + 2) 0 = M (o1 + 2) 0 ∧ M' (o0 + 2) 5 = M (o1 + 2) 5 ∧ (∀ k : Nat, 3 ≤ k → k ≤ 6 → ∀ i : Nat, i < 16 → M' (o0 + k) i = M (o1 + k) i) ∧ ∀ i : Nat, i < N0 → M' (o0 + 7) i = M (o1 + 7) i) ∧
  (M' (o0 + 8) 0 = M (o1 + 8) 0 ∧ M' (o0 + 8) 5 = M (o1 + 8) 5 ∧ (∀ k : Nat, 9 ≤ k → k ≤ 12 → ∀ i : Nat, i < 16 → M' (o0 + k) i = M (o1 + k) i) ∧ ∀ i : Nat, i < N1 → M' (o0 + 13) i = M (o1 + 13) i) ∧
  (M' (o0 + 14) 0 = M (o1 + 14) 0 ∧ ∀ k : Nat, 15 ≤ k → k ≤ 18 → ∀ i : Nat, i < 8 → M' (o0 + k) i = M (o1 + k) i) ∧
  (M' (o0 + 19) 0 = M (o1 + 19) 0 ∧ (∀ i : Nat, i < 16 → M' (o0 + 20) i = M (o1 + 20) i) ∧ ∀ i : Nat, i < 16 → M' (o0 + 21) i = M (o1 + 21) i)
theorem told_become {N0 N1 : Nat} (hd : o0 + 22 ≤ o1 ∨ o1 + 22 ≤ o0) (h0 : N0 ≤ 400) (h1 : N1 ≤ 400) (e0 : M (o1 + 2) 5 = nI N0) (e1 : M (o1 + 8) 5 = nI N1) : ∃ M', f_X9_become o0 o1 M = some (0, M') ∧ TdEq M M' o0 o1 N0 N1 ∧ ∀ p : Nat, (p < o0 ∨ o0 + 22 ≤ p) → M' p = M p := by
  have hm : ∀ (X : IM) (i : Nat) (v : Int32), ms X o0 i v o1 = X o1 := fun _ _ _ => ms_ne (by omega)
  generalize hA : ms (ms (ms M o0 0 (M o1 0)) o0 1 (M o1 1)) o0 2 (M o1 2) = A
  have a1 : ∀ p : Nat, ¬ p = o0 → A p = M p := fun p h => by rw [← hA, ms_ne h, ms_ne h, ms_ne h]
  have a0 : ∀ i : Nat, i ≤ 2 → A o0 i = M o1 i := fun i hi => by
    rw [← hA]
    match i, hi with
    | 0, _ => simp [ms]
    | 1, _ => simp [ms]
    | 2, _ => simp [ms]
    | i + 3, h => omega
  generalize hB : mr A (o0 + 1) (va_cpy (A (o1 + 1)) (A (o0 + 1)) 0 0 64) = B
  have b1 : ∀ p : Nat, ¬ p = o0 + 1 → B p = A p := fun p h => by rw [← hB, mr_ne h]
  have bm : ∀ p : Nat, (p < o0 ∨ o0 + 2 ≤ p) → B p = M p := fun p h => by rw [b1 p (by omega), a1 p (by omega)]
  obtain ⟨X1, x1, x2, x3, x4, x5, x6⟩ := law_become (M := B) (o0 := o0 + 2) (o1 := o1 + 2) (N := N0) (by omega) h0 (by rw [bm _ (by omega)]; exact e0)
  have xm : ∀ p : Nat, (p < o0 ∨ o0 + 8 ≤ p) → X1 p = M p := fun p h => by rw [x6 p (by omega), bm p (by omega)]
  obtain ⟨X2, y1, y2, y3, y4, y5, y6⟩ := law_become (M := X1) (o0 := o0 + 8) (o1 := o1 + 8) (N := N1) (by omega) h1 (by rw [xm _ (by omega)]; exact e1)
  have ym : ∀ p : Nat, (p < o0 ∨ o0 + 14 ≤ p) → X2 p = M p := fun p h => by rw [y6 p (by omega), xm p (by omega)]
  obtain ⟨X3, z1, z2, z3, z4⟩ := round_become (M := X2) (o0 := o0 + 14) (o1 := o1 + 14) (by omega)
  have zm : ∀ p : Nat, (p < o0 ∨ o0 + 19 ≤ p) → X3 p = M p := fun p h => by rw [z4 p (by omega), ym p (by omega)]
  obtain ⟨X4, w1, w2, w3, w4, w5⟩ := shifts_become (M := X3) (o0 := o0 + 19) (o1 := o1 + 19) (by omega)
  refine ⟨X4, ?_, ⟨?_, ?_, ⟨?_, ?_, ?_, ?_⟩, ⟨?_, ?_, ?_, ?_⟩, ⟨?_, ?_⟩, ?_, ?_, ?_⟩, ?_⟩
  · simp only [f_X9_become, pt, hm]
    rw [hA, cpK (c := 64) (n := 64) (n' := 64) (l := 64) rfl (by decide) (by decide) (by decide), hB, cl_s x1, cl_s y1, cl_s z1, cl_s w1]
  · intro i hi
    rw [w5 o0 (by omega), z4 o0 (by omega), y6 o0 (by omega), x6 o0 (by omega), b1 o0 (by omega), a0 i hi]
  · intro i hi
    rw [w5 (o0 + 1) (by omega), z4 (o0 + 1) (by omega), y6 (o0 + 1) (by omega), x6 (o0 + 1) (by omega), ← hB, mr_it, cpy_in hi, a1 _ (by omega)]
  · rw [w5 (o0 + 2) (by omega), z4 (o0 + 2) (by omega), y6 (o0 + 2) (by omega), x2, bm _ (by omega)]
  · rw [w5 (o0 + 2) (by omega), z4 (o0 + 2) (by omega), y6 (o0 + 2) (by omega), x3, e0]
  · intro k h1 h2 i hi
    have := x4 (k - 2) (by omega) (by omega) i hi
    rw [show o0 + 2 + (k - 2) = o0 + k by omega, show o1 + 2 + (k - 2) = o1 + k by omega] at this
    rw [w5 (o0 + k) (by omega), z4 (o0 + k) (by omega), y6 (o0 + k) (by omega), this, bm _ (by omega)]
  · intro i hi
    have := x5 i hi
    rw [show o0 + 2 + 5 = o0 + 7 by omega, show o1 + 2 + 5 = o1 + 7 by omega] at this
    rw [w5 (o0 + 7) (by omega), z4 (o0 + 7) (by omega), y6 (o0 + 7) (by omega), this, bm _ (by omega)]
  · rw [w5 (o0 + 8) (by omega), z4 (o0 + 8) (by omega), y2, xm _ (by omega)]
  · rw [w5 (o0 + 8) (by omega), z4 (o0 + 8) (by omega), y3, e1]
  · intro k h1 h2 i hi
    have := y4 (k - 8) (by omega) (by omega) i hi
    rw [show o0 + 8 + (k - 8) = o0 + k by omega, show o1 + 8 + (k - 8) = o1 + k by omega] at this
    rw [w5 (o0 + k) (by omega), z4 (o0 + k) (by omega), this, xm _ (by omega)]
  · intro i hi
    have := y5 i hi
    rw [show o0 + 8 + 5 = o0 + 13 by omega, show o1 + 8 + 5 = o1 + 13 by omega] at this
    rw [w5 (o0 + 13) (by omega), z4 (o0 + 13) (by omega), this, xm _ (by omega)]
  · rw [w5 (o0 + 14) (by omega), z2, ym _ (by omega)]
  · intro k h1 h2 i hi
    have := z3 (k - 14) (by omega) (by omega) i hi
    rw [show o0 + 14 + (k - 14) = o0 + k by omega, show o1 + 14 + (k - 14) = o1 + k by omega] at this
    rw [w5 (o0 + k) (by omega), this, ym _ (by omega)]
  · rw [w2, zm _ (by omega)]
  · intro i hi
    have := w3 i hi
    rw [show o0 + 19 + 1 = o0 + 20 by omega, show o1 + 19 + 1 = o1 + 20 by omega] at this
    rw [this, zm _ (by omega)]
  · intro i hi
    have := w4 i hi
    rw [show o0 + 19 + 2 = o0 + 21 by omega, show o1 + 19 + 2 = o1 + 21 by omega] at this
    rw [this, zm _ (by omega)]
  · intro p hp
    rw [w5 p (by omega), zm p (by omega)]
end BEC
/-! what is told holds of the copy too -/
theorem CLw_congr {wo fr wh sp co wo' fr' wh' sp' co' : Nat → Int32} {N : Nat} (h1 : ∀ i : Nat, i < 16 → wo' i = wo i) (h2 : ∀ i : Nat, i < 16 → fr' i = fr i) (h3 : ∀ i : Nat, i < 16 → wh' i = wh i) (h4 : ∀ i : Nat, i < 16 → sp' i = sp i) (h5 : ∀ i : Nat, i < N → co' i = co i) : ∀ (l : List LLn) (i p : Nat), i + l.length ≤ 16 → p + lnLen l ≤ N → CLw wo fr wh sp co i p l → CLw wo' fr' wh' sp' co' i p l
  | [], _, _, _, _, _ => trivial
  | (w, e, b) :: t, i, p, hi, hp, h => by
    rw [lnLen_cons] at hp
    simp only [List.length_cons] at hi hp
    obtain ⟨c1, c2, c3, c4, c5, c6, c7⟩ := h
    refine ⟨by rw [h1 i (by omega)]; exact c1, by rw [h2 i (by omega)]; exact c2, by rw [h3 i (by omega)]; exact c3, by rw [h4 i (by omega)]; exact c4, fun k hk => by rw [h5 _ (by omega)]; exact c5 k hk, fun k hk => by rw [h5 _ (by omega)]; exact c6 k hk, CLw_congr h1 h2 h3 h4 h5 t (i + 1) _ (by omega) (by omega) c7⟩
theorem MLw_congr {wo fr wh sp op ag wo' fr' wh' sp' op' ag' : Nat → Int32} (h1 : ∀ i : Nat, i < 16 → wo' i = wo i) (h2 : ∀ i : Nat, i < 16 → fr' i = fr i) (h3 : ∀ i : Nat, i < 16 → wh' i = wh i) (h4 : ∀ i : Nat, i < 16 → sp' i = sp i) (h5 : ∀ i : Nat, i < 400 → op' i = op i) (h6 : ∀ i : Nat, i < 400 → ag' i = ag i) : ∀ (l : List LLn) (i p : Nat), i + l.length ≤ 16 → p + lnEnc l ≤ 400 → MLw wo fr wh sp op ag i p l → MLw wo' fr' wh' sp' op' ag' i p l
  | [], _, _, _, _, _ => trivial
  | (w, e, b) :: t, i, p, hi, hp, h => by
    rw [lnEnc_cons] at hp
    simp only [List.length_cons] at hi hp
    obtain ⟨c1, c2, c3, c4, c5, c6, c7⟩ := h
    refine ⟨by rw [h1 i (by omega)]; exact c1, by rw [h2 i (by omega)]; exact c2, by rw [h3 i (by omega)]; exact c3, by rw [h4 i (by omega)]; exact c4, fun k hk => by rw [h5 _ (by omega), h6 _ (by omega)]; exact c5 k hk, fun k hk => by rw [h5 _ (by omega), h6 _ (by omega)]; exact c6 k hk, MLw_congr h1 h2 h3 h4 h5 h6 t (i + 1) _ (by omega) (by omega) c7⟩
theorem RLw_congr {feet : Bool} {a wo fr wh sp co a' wo' fr' wh' sp' co' : Nat → Int32} {lm lm' : Int32} {m1 m2 m3 m4 m5 m6 n1 n2 n3 n4 n5 n6 : Nat → Int32} {N : Nat} (hN : a 5 = nI N) (hN4 : N ≤ 400) (ha0 : a' 0 = a 0) (ha5 : a' 5 = a 5) (h1 : ∀ i : Nat, i < 16 → wo' i = wo i) (h2 : ∀ i : Nat, i < 16 → fr' i = fr i) (h3 : ∀ i : Nat, i < 16 → wh' i = wh i) (h4 : ∀ i : Nat, i < 16 → sp' i = sp i) (h5 : ∀ i : Nat, i < N → co' i = co i) (hl : lm' = lm) (k1 : ∀ i : Nat, i < 16 → n1 i = m1 i) (k2 : ∀ i : Nat, i < 16 → n2 i = m2 i) (k3 : ∀ i : Nat, i < 16 → n3 i = m3 i) (k4 : ∀ i : Nat, i < 16 → n4 i = m4 i) (k5 : ∀ i : Nat, i < 400 → n5 i = m5 i) (k6 : ∀ i : Nat, i < 400 → n6 i = m6 i) (h : RLw feet a wo fr wh sp co lm m1 m2 m3 m4 m5 m6) : RLw feet a' wo' fr' wh' sp' co' lm' n1 n2 n3 n4 n5 n6 := by
  obtain ⟨l, b1, b2, b3, b4, b5, b6, b7, b8, b9⟩ := h
  have hNl : N = lnLen l := (nI_eq (by omega) (by omega)).mp (hN.symm.trans b6)
  exact ⟨l, b1, b2, b3, b4, by rw [ha0]; exact b5, by rw [ha5]; exact b6, by rw [hl]; exact b7, CLw_congr h1 h2 h3 h4 h5 l 0 0 (by omega) (by omega) b8, MLw_congr k1 k2 k3 k4 k5 k6 l 0 0 (by omega) (by omega) b9⟩
theorem RRd_congr {r pa hr ri fo q r' pa' hr' ri' fo' q' : Nat → Int32} {s s' : Int32} (h0 : r' 0 = r 0) (h1 : ∀ i : Nat, i < 8 → pa' i = pa i) (h2 : ∀ i : Nat, i < 8 → hr' i = hr i) (h3 : ∀ i : Nat, i < 8 → ri' i = ri i) (h4 : ∀ i : Nat, i < 8 → fo' i = fo i) (hs : s' = s) (hq : ∀ i : Nat, i < 32 → q' i = q i) (h : RRd r pa hr ri fo s q) : RRd r' pa' hr' ri' fo' s' q' := by
  obtain ⟨a1, a2, a3⟩ := h
  obtain ⟨n, hn, en⟩ := bnd_nI (n := 8) a2 (by decide)
  refine ⟨by rw [hs, h0]; exact a1, by rw [h0]; exact a2, fun i hi => ?_⟩
  rw [h0] at hi
  have hi8 : i < 8 := by rw [en, nI_clamp (by omega)] at hi; omega
  rw [hq _ (by omega), hq _ (by omega), hq _ (by omega), hq _ (by omega), h1 i hi8, h2 i hi8, h3 i hi8, h4 i hi8]
  exact a3 i hi
theorem RSh_congr {s wa ck q s' wa' ck' q' : Nat → Int32} {m m' wk wk' : Int32} (h0 : s' 0 = s 0) (h1 : ∀ i : Nat, i < 16 → wa' i = wa i) (h2 : ∀ i : Nat, i < 16 → ck' i = ck i) (hm : m' = m) (hw : wk' = wk) (hq : ∀ i : Nat, i < 48 → q' i = q i) (h : RSh s wa ck m q wk) : RSh s' wa' ck' m' q' wk' := by
  obtain ⟨a1, a2, a3⟩ := h
  obtain ⟨n, hn, en⟩ := bnd_nI (n := 16) a2 (by decide)
  refine ⟨by rw [hm, h0]; exact a1, by rw [h0]; exact a2, fun i hi => ?_⟩
  rw [h0] at hi
  have hi8 : i < 16 := by rw [en, nI_clamp (by omega)] at hi; omega
  rw [hq _ (by omega), hq _ (by omega), hq _ (by omega), h1 i hi8, h2 i hi8, hw]
  exact a3 i hi
theorem OkN_congr {n pa la fe ro n' pa' la' fe' ro' : Nat → Int32} (hn : ∀ i : Nat, i ≤ 10 → n' i = n i) (h1 : ∀ i : Nat, i < 10 → pa' i = pa i) (h2 : ∀ i : Nat, i < 10 → la' i = la i) (h3 : ∀ i : Nat, i < 10 → fe' i = fe i) (h4 : ∀ i : Nat, i < 10 → ro' i = ro i) (h : OkN n pa la fe ro) : OkN n' pa' la' fe' ro' := by
  obtain ⟨a1, a2, a3, a4, a5, a6⟩ := h
  exact ⟨by rw [hn 1 (by decide)]; exact a1, by rw [hn 4 (by decide), hn 1 (by decide)]; exact a2, by rw [hn 8 (by decide)]; exact a3, by rw [hn 9 (by decide)]; exact a4, by rw [hn 10 (by decide)]; exact a5, fun w hw => by rw [h1 w hw, h2 w hw, h3 w hw, h4 w hw]; exact a6 w hw⟩
theorem RNw_congr2 {n pa fe ro q n' pa' fe' ro' q' : Nat → Int32} (hn : ∀ i : Nat, i ≤ 10 → n' i = n i) (h1 : ∀ i : Nat, i < 10 → pa' i = pa i) (h3 : ∀ i : Nat, i < 10 → fe' i = fe i) (h4 : ∀ i : Nat, i < 10 → ro' i = ro i) (hq : ∀ i : Nat, i < 40 → q' i = q i) (h : RNw n pa fe ro q) : RNw n' pa' fe' ro' q' := by
  obtain ⟨a0, a1, a2, a3, a4, a5, a6, a7, a8, a9, aw⟩ := rnw_congr h hq
  exact ⟨by rw [hn 1 (by decide)]; exact a0, by rw [hn 0 (by decide)]; exact a1, by rw [hn 9 (by decide)]; exact a2, by rw [hn 2 (by decide)]; exact a3, by rw [hn 3 (by decide)]; exact a4, by rw [hn 4 (by decide)]; exact a5, by rw [hn 5 (by decide)]; exact a6, by rw [hn 6 (by decide)]; exact a7, by rw [hn 7 (by decide)]; exact a8, by rw [hn 8 (by decide)]; exact a9, fun w hw => by rw [h1 w hw, h3 w hw, h4 w hw]; exact aw w hw⟩
theorem OkL_congr {n r hr n' r' hr' : Nat → Int32} (h2 : n' 2 = n 2) (h3 : n' 3 = n 3) (h0 : r' 0 = r 0) (hb : bnd (r 0) 0 8) (hh : ∀ i : Nat, i < 8 → hr' i = hr i) (h : OkL n r hr) : OkL n' r' hr' := by
  unfold OkL at *
  rw [h2, h3, h0]
  rcases h with h | ⟨a, b, c, d⟩
  · exact Or.inl h
  · refine Or.inr ⟨a, b, c, ?_⟩
    rw [hh]
    · exact d
    · rw [Int32.toNatClampNeg]
      have := hb.2
      omega
