/-! text: the model's next token, whole -/
section NXT
variable {D : IM} {tx : Nat → Nat} {len : Nat}
theorem mark_m {n : Nat} (hn : n ≤ 255) (X : IM) : f_X12_isMarkSign (nI n) X = some (if sgn n = 30001 then 0 else 1, X) := by
  have k : ∀ v : Nat, v < 256 → ¬ n = v → ¬ nI n = nI v := fun v hv hne z => by
    have := congrArg Int32.toInt z
    rw [nI_toInt (by omega), nI_toInt (by omega)] at this
    omega
  by_cases hr : n = 40 ∨ n = 41 ∨ n = 42 ∨ n = 43 ∨ n = 45 ∨ n = 47 ∨ n = 59 ∨ n = 60 ∨ n = 61 ∨ n = 62
  · rcases hr with rfl | rfl | rfl | rfl | rfl | rfl | rfl | rfl | rfl | rfl <;> rfl
  · have hs : sgn n = 30001 := by
      unfold sgn
      rw [if_neg hr]
    unfold f_X12_isMarkSign
    rw [hs, if_pos rfl, if_neg (show ¬ nI n = 59 from k 59 (by decide) (by omega)), if_neg (show ¬ nI n = 43 from k 43 (by decide) (by omega)), if_neg (show ¬ nI n = 45 from k 45 (by decide) (by omega)), if_neg (show ¬ nI n = 42 from k 42 (by decide) (by omega)), if_neg (show ¬ nI n = 47 from k 47 (by decide) (by omega)), if_neg (show ¬ nI n = 40 from k 40 (by decide) (by omega)), if_neg (show ¬ nI n = 41 from k 41 (by decide) (by omega)), if_neg (show ¬ nI n = 60 from k 60 (by decide) (by omega)), if_neg (show ¬ nI n = 61 from k 61 (by decide) (by omega)), if_neg (show ¬ nI n = 62 from k 62 (by decide) (by omega))]
theorem sgn_ok (n : Nat) (hn : n ≤ 255) : sgn n = 30001 ∨ (sgn n = 20000 + n ∧ sgn n < 20256) := by
  unfold sgn
  split
  · exact Or.inr ⟨rfl, by omega⟩
  · exact Or.inl rfl
/-- from the spot s: the token at i, behind the blanks -/
theorem reads_e (h : Tx (D 143) tx) (hW : IvWords D) (h14 : D 136 14 = nI len) (hl : len ≤ 400) : ∀ (d f s : Nat) (X : IM), s + d = len → d < f → cf D X → X 136 15 = nI s → ∃ X', f_X12_reads_0 f X = some (0, X') ∧ cf D X' ∧ X' 136 16 = nI (rnE tx len 0 s) ∧ (rnE tx len 0 s = len → X' 136 15 = nI len ∧ X' 136 17 = 0) ∧ (rnE tx len 0 s < len → X' 136 15 = nI (ten tx len (rnE tx len 0 s)) ∧ TokM (tcd tx len (rnE tx len 0 s)) (X' 136 17) (X' 136 18)) := by
  intro d
  induction d with
  | zero =>
    intro f s X hs hf hX h15
    obtain ⟨m, rfl⟩ : ∃ m, f = m + 1 := ⟨f - 1, by omega⟩
    have es : s = len := by omega
    subst es
    have hst : f_X12_reads_0 (m + 1) X = f_X12_reads_0_b (f_X12_reads_0 m) X := rfl
    have hraw : f_X12_raw (X 136 15) X = some (-1, X) := by rw [h15]; exact raw_out h14 hX
    have hX2 : cf D (ms (ms X 136 16 (nI s)) 136 17 1) := cf_ms (cf_ms hX (by omega)) (by omega)
    have hraw2 : f_X12_raw (ms (ms X 136 16 (nI s)) 136 17 1 136 15) (ms (ms X 136 16 (nI s)) 136 17 1) = some (-1, ms (ms X 136 16 (nI s)) 136 17 1) := by
      rw [ms_at (by decide), ms_at (by decide), h15]
      exact raw_out h14 hX2
    rw [rnE_n (by omega)]
    refine ⟨ms (ms (ms X 136 16 (nI s)) 136 17 1) 136 17 0, ?_, cf_ms hX2 (by omega), by rw [ms_at (by decide), ms_at (by decide), ms_it], fun _ => ⟨by rw [ms_at (by decide), ms_at (by decide), ms_at (by decide)]; exact h15, ms_it⟩, fun z => by omega⟩
    rw [hst]
    unfold f_X12_reads_0_b
    rw [cl_s hraw, if_neg (by decide), cl_s hraw, if_neg (by decide)]
    simp only [pt]
    rw [h15, cl_s hraw2, if_pos rfl]
  | succ d ih =>
    intro f s X hs hf hX h15
    obtain ⟨m, rfl⟩ : ∃ m, f = m + 1 := ⟨f - 1, by omega⟩
    obtain ⟨-, k2⟩ := h s (by omega)
    have hst : f_X12_reads_0 (m + 1) X = f_X12_reads_0_b (f_X12_reads_0 m) X := rfl
    have hraw : f_X12_raw (X 136 15) X = some (nI (tx s), X) := by rw [h15]; exact raw_in h h14 hl hX (by omega)
    have nE : ∀ v : Nat, v < 256 → (nI (tx s) = nI v ↔ tx s = v) := fun v hv => ⟨fun z => by
      have := congrArg Int32.toInt z
      rw [nI_toInt (by omega), nI_toInt (by omega)] at this
      omega, fun z => by rw [z]⟩
    by_cases q0 : sg (tx s) = 0
    · obtain ⟨X', g1, g2⟩ := ih m (s + 1) (ms X 136 15 (nI (s + 1))) (by omega) (by omega) (cf_ms hX (by omega)) ms_it
      have h26 : f_X12_reads_26 (f_X12_reads_0 m) X = some (0, X') := by
        unfold f_X12_reads_26
        simp only [pt]
        rw [h15, nI_1]
        exact g1
      rw [rnE_s (by omega) q0]
      refine ⟨X', ?_, g2⟩
      rw [hst]
      unfold f_X12_reads_0_b
      rw [cl_s hraw, cl_s hraw]
      by_cases c : tx s = 32
      · rw [if_pos (by rw [c]; rfl), h26]
      · have c10 : tx s = 10 := by
          unfold sg at q0
          by_cases z : tx s = 32 ∨ tx s = 10
          · omega
          · rw [if_neg z] at q0
            repeat' split at q0
            all_goals omega
        rw [if_neg (show ¬ nI (tx s) = 32 from fun z => c ((nE 32 (by decide)).mp z)), if_pos (by rw [c10]; rfl), h26]
    · have c32 : ¬ tx s = 32 := fun z => q0 (by rw [z]; rfl)
      have c10 : ¬ tx s = 10 := fun z => q0 (by rw [z]; rfl)
      have hle := sg_le (tx s)
      rw [rnE_n (fun z => q0 z.2)]
      -- the memory with the token begun
      obtain ⟨A, hA⟩ : ∃ A : IM, A = ms (ms X 136 16 (nI s)) 136 17 1 := ⟨_, rfl⟩
      obtain ⟨B, hB⟩ : ∃ B : IM, B = ms (ms A 136 15 (nI (s + 1))) 136 18 (nI (tx s)) := ⟨_, rfl⟩
      have cA : cf D A := by rw [hA]; exact cf_ms (cf_ms hX (by omega)) (by omega)
      have cB : cf D B := by rw [hB]; exact cf_ms (cf_ms cA (by omega)) (by omega)
      have A15 : A 136 15 = nI s := by rw [hA, ms_at (by decide), ms_at (by decide), h15]
      have A16 : A 136 16 = nI s := by rw [hA, ms_at (by decide), ms_it]
      have A17 : A 136 17 = 1 := by rw [hA, ms_it]
      have B15 : B 136 15 = nI (s + 1) := by rw [hB, ms_at (by decide), ms_it]
      have B16 : B 136 16 = nI s := by rw [hB, ms_at (by decide), ms_at (by decide), A16]
      have B17 : B 136 17 = 1 := by rw [hB, ms_at (by decide), ms_at (by decide), A17]
      have B18 : B 136 18 = nI (tx s) := by rw [hB, ms_it]
      have hrawA : f_X12_raw (A 136 15) A = some (nI (tx s), A) := by rw [A15]; exact raw_in h h14 hl cA (by omega)
      have hbody : f_X12_reads_0 (m + 1) X = cl (f_X12_isLetter (nI (tx s)) B) fun w17 M18 => if w17 = 0 then cl (f_X12_isDigit (nI (tx s)) M18) fun w21 M22 => if w21 = 0 then cl (f_X12_isMarkSign (nI (tx s)) M22) fun w25 M26 => if w25 = 0 then some (0, M26) else pt M26 136 17 4 fun M29 => some (0, M29) else pt M22 136 18 (nI (tx s) - 48) fun M30 => f_X12_reads_171 BG M30 else f_X12_reads_95 BG M18 := by
        rw [hst]
        unfold f_X12_reads_0_b
        rw [cl_s hraw, if_neg (show ¬ nI (tx s) = 32 from fun z => c32 ((nE 32 (by decide)).mp z)), cl_s hraw, if_neg (show ¬ nI (tx s) = 10 from fun z => c10 ((nE 10 (by decide)).mp z))]
        simp only [pt]
        rw [h15, ← hA, cl_s hrawA, if_neg, A15, nI_1, ← hB]
        intro z
        have := congrArg Int32.toInt z
        rw [nI_toInt (by omega), show (-1 : Int32).toInt = -1 from rfl] at this
        omega
      rw [hbody]
      by_cases q1 : sg (tx s) = 1
      · obtain ⟨X', g1, g2, g3, g4, g5⟩ := letters_m h hW h14 hl (show s < len by omega) q1 (len - (s + 1)) BG (s + 1) B (by omega) (by unfold BG; omega) (by omega) (rnE_s (by omega) q1).symm cB B15 B16 B17
        refine ⟨X', ?_, g2, g3, fun z => by omega, fun _ => ⟨?_, g5⟩⟩
        · rw [cl_s (letter_m k2 B), if_pos q1, if_neg (by decide)]
          exact g1
        · unfold ten
          rw [if_pos q1]
          exact g4
      · by_cases q2 : sg (tx s) = 2
        · have hq := sg_2 q2
          obtain ⟨X', g1, g2, g3, g4, g5⟩ := digits_m h h14 hl (show s < len by omega) q2 (len - (s + 1)) BG (s + 1) (ms B 136 18 (nI (tx s - 48))) (by omega) (by unfold BG; omega) (by omega) (rnE_s (by omega) q2).symm (fun t ht => by rw [show t = 0 by omega]; exact q2) (cf_ms cB (by omega)) (by rw [ms_at (by decide)]; exact B15) (by rw [ms_at (by decide)]; exact B16) (by rw [ms_at (by decide)]; exact B17) (fun _ => by
            rw [ms_it, show s + 1 - s = 1 by omega]
            show nI (tx s - 48) = nI (0 * 10 + tx (s + 0) - 48)
            rw [Nat.zero_mul, Nat.zero_add, Nat.add_zero])
          refine ⟨X', ?_, g2, g3, fun z => by omega, fun _ => ⟨?_, g5⟩⟩
          · rw [cl_s (letter_m k2 B), if_neg q1, if_pos rfl, cl_s (digit_m k2 B), if_pos q2, if_neg (by decide), show nI (tx s) - 48 = nI (tx s - 48) from pk_sub (b := 48) (by omega)]
            exact g1
          · unfold ten
            rw [if_neg q1, if_pos q2]
            exact g4
        · have et : tcd tx len s = sgn (tx s) := by
            unfold tcd
            rw [if_neg q1, if_neg q2]
          have en : ten tx len s = s + 1 := by
            unfold ten
            rw [if_neg q1, if_neg q2]
          rw [et, en, cl_s (letter_m k2 B), if_neg q1, if_pos rfl, cl_s (digit_m k2 B), if_neg q2, if_pos rfl, cl_s (mark_m k2 B)]
          rcases sgn_ok (tx s) k2 with z | ⟨z, z2⟩
          · rw [if_pos z, if_pos rfl]
            exact ⟨B, rfl, cB, B16, fun y => by omega, fun _ => ⟨B15, Or.inr (Or.inr (Or.inr ⟨z, B17⟩))⟩⟩
          · have hsn : ¬ sgn (tx s) = 30001 := by omega
            rw [if_neg hsn, if_neg (by decide)]
            refine ⟨ms B 136 17 4, rfl, cf_ms cB (by omega), by rw [ms_at (by decide)]; exact B16, fun y => by omega, fun _ => ⟨by rw [ms_at (by decide)]; exact B15, Or.inr (Or.inr (Or.inl ⟨by omega, z2, ms_it, ?_⟩))⟩⟩
            rw [ms_at (by decide), B18, z, Nat.add_sub_cancel_left]
end NXT
