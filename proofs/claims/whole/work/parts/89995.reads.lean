/-! text: the model's next token -/
def TokM (c : Nat) (t v : Int32) : Prop := (c < 10000 ∧ t = 3 ∧ v = nI c) ∨ (10000 ≤ c ∧ c < 10022 ∧ t = 2 ∧ v = nI (wM (c - 10000))) ∨ (20000 ≤ c ∧ c < 20256 ∧ t = 4 ∧ v = nI (c - 20000)) ∨ (c = 30001 ∧ t = 1)
/-- all but the four cells of a token stands -/
def cf (D X : IM) : Prop := ∀ q j : Nat, (¬ q = 136 ∨ (¬ j = 15 ∧ ¬ j = 16 ∧ ¬ j = 17 ∧ ¬ j = 18)) → X q j = D q j
theorem cf_rf {D : IM} : cf D D := fun _ _ _ => rfl
theorem cf_ms {D X : IM} {j : Nat} {v : Int32} (h : cf D X) (hj : j = 15 ∨ j = 16 ∨ j = 17 ∨ j = 18) : cf D (ms X 136 j v) := fun q k hk => by
  rw [← h q k hk]
  unfold ms
  rw [if_neg (fun z => by omega)]
theorem cf_row {D X : IM} {q : Nat} (h : cf D X) (hq : ¬ q = 136) : X q = D q := funext (fun j => h q j (Or.inl hq))
section RDS
variable {D : IM} {tx : Nat → Nat} {len : Nat}
theorem raw_in {X : IM} {i : Nat} (h : Tx (D 143) tx) (h14 : D 136 14 = nI len) (hl : len ≤ 400) (hX : cf D X) (hi : i < len) : f_X12_raw (nI i) X = some (nI (tx i), X) := by
  unfold f_X12_raw
  rw [hX 136 14 (by decide), h14, if_neg (nI_ge hi (by omega)), rdK (j := i) rfl (by omega) (by decide), cf_row hX (by decide), (h i (by omega)).1]
theorem raw_out {X : IM} (h14 : D 136 14 = nI len) (hX : cf D X) : f_X12_raw (nI len) X = some (-1, X) := by
  unfold f_X12_raw
  rw [hX 136 14 (by decide), h14, if_pos (Int32.le_refl _)]
theorem letter_o (X : IM) : f_X12_isLetter (-1) X = some (0, X) := by
  unfold f_X12_isLetter
  rw [cl_s (win_m (-1) 97 122 X), cl_s (win_m (-1) 65 90 X), if_pos (show (if (-1 : Int32) < 97 ∨ (122 : Int32) < -1 then (0 : Int32) else 1) = 0 by decide), if_pos (show (if (-1 : Int32) < 65 ∨ (90 : Int32) < -1 then (0 : Int32) else 1) = 0 by decide)]
theorem digit_o (X : IM) : f_X12_isDigit (-1) X = some (0, X) := by
  unfold f_X12_isDigit
  rw [cl_s (win_m (-1) 48 57 X), if_pos (by decide)]
  rfl
/-- letters to their end -/
theorem letters_m {i : Nat} (h : Tx (D 143) tx) (hW : IvWords D) (h14 : D 136 14 = nI len) (hl : len ≤ 400) (hi : i < len) (hs : sg (tx i) = 1) : ∀ (d f k : Nat) (X : IM), k + d = len → d < f → i < k → rnE tx len 1 k = rnE tx len 1 i → cf D X → X 136 15 = nI k → X 136 16 = nI i → X 136 17 = 1 → ∃ X', f_X12_reads_95 f X = some (0, X') ∧ cf D X' ∧ X' 136 16 = nI i ∧ X' 136 15 = nI (rnE tx len 1 i) ∧ TokM (tcd tx len i) (X' 136 17) (X' 136 18) := by
  -- the end
  have fin : ∀ (X : IM) (k : Nat), k = rnE tx len 1 i → cf D X → X 136 15 = nI k → X 136 16 = nI i → X 136 17 = 1 → ∃ X', (cl (f_X12_wordAt (X 136 16) (X 136 15) X) fun w53 M54 => pt M54 136 18 w53 fun M56 => if (M56 136 18) = (-1) then some (0, M56) else pt M56 136 17 2 fun M58 => some (0, M58)) = some (0, X') ∧ cf D X' ∧ X' 136 16 = nI i ∧ X' 136 15 = nI (rnE tx len 1 i) ∧ TokM (tcd tx len i) (X' 136 17) (X' 136 18) := by
    intro X k hk hX h15 h16 h17
    obtain ⟨r1, r2, r3, -⟩ := rnE_ok (tx := tx) (len := len) (s := 1) (len - i) i (by omega)
    have hTX : Tx (X 143) tx := by rw [cf_row hX (by decide)]; exact h
    have hWX : IvWords X := fun t ht => by rw [cf_row hX (by decide)]; exact hW t ht
    have hwm := word_m (i := i) (e := k) hTX hWX (by omega) (by omega) (fun t t1 t2 z => by
      have := r3 t t1 (by omega)
      rw [z] at this
      exact absurd this (by decide))
    rw [h16, h15, cl_s hwm]
    simp only [pt]
    rw [ms_it]
    have et : tcd tx len i = match wcd tx i k with | some j => 10000 + j | none => 30001 := by
      unfold tcd
      rw [if_pos hs, hk]
      cases wcd tx i (rnE tx len 1 i) <;> rfl
    cases hw : wcd tx i k with
    | none =>
      rw [hw] at et
      replace et : tcd tx len i = 30001 := et
      refine ⟨ms X 136 18 (-1), if_pos rfl, cf_ms hX (by omega), by rw [ms_at (by decide)]; exact h16, by rw [ms_at (by decide), h15, hk], ?_⟩
      rw [et, ms_at (by decide), h17]
      exact Or.inr (Or.inr (Or.inr ⟨rfl, rfl⟩))
    | some w =>
      rw [hw] at et
      replace et : tcd tx len i = 10000 + w := et
      obtain ⟨-, w2, -⟩ := wcF_some 22 0 hw
      obtain ⟨m1, -⟩ := wk_m w (by omega)
      refine ⟨ms (ms X 136 18 (nI (wM w))) 136 17 2, if_neg ?_, cf_ms (cf_ms hX (by omega)) (by omega), by rw [ms_at (by decide), ms_at (by decide)]; exact h16, by rw [ms_at (by decide), ms_at (by decide), h15, hk], ?_⟩
      · intro z
        have := congrArg Int32.toInt z
        rw [nI_toInt (by omega), show (-1 : Int32).toInt = -1 from rfl] at this
        omega
      · rw [et, ms_it, ms_at (by decide), ms_it]
        exact Or.inr (Or.inl ⟨by omega, by omega, rfl, by rw [Nat.add_sub_cancel_left]⟩)
  intro d
  induction d with
  | zero =>
    intro f k X hk hf hik hr hX h15 h16 h17
    obtain ⟨m, rfl⟩ : ∃ m, f = m + 1 := ⟨f - 1, by omega⟩
    have ek : k = len := by omega
    have hst : f_X12_reads_95 (m + 1) X = f_X12_reads_95_b (f_X12_reads_95 m) X := rfl
    obtain ⟨X', g1, g2⟩ := fin X k (by rw [← hr, rnE_n (by omega)]) hX h15 h16 h17
    refine ⟨X', ?_, g2⟩
    rw [hst]
    unfold f_X12_reads_95_b
    have hraw : f_X12_raw (X 136 15) X = some (-1, X) := by rw [h15, ek]; exact raw_out h14 hX
    rw [cl_s hraw, cl_s (letter_o X), if_pos rfl]
    exact g1
  | succ d ih =>
    intro f k X hk hf hik hr hX h15 h16 h17
    obtain ⟨m, rfl⟩ : ∃ m, f = m + 1 := ⟨f - 1, by omega⟩
    obtain ⟨-, k2⟩ := h k (by omega)
    have hst : f_X12_reads_95 (m + 1) X = f_X12_reads_95_b (f_X12_reads_95 m) X := rfl
    have hraw : f_X12_raw (X 136 15) X = some (nI (tx k), X) := by rw [h15]; exact raw_in h h14 hl hX (by omega)
    by_cases q : sg (tx k) = 1
    · obtain ⟨X', g1, g2⟩ := ih m (k + 1) (ms X 136 15 (nI (k + 1))) (by omega) (by omega) (by omega) (by rw [← hr]; exact (rnE_s (by omega) q).symm) (cf_ms hX (by omega)) ms_it (by rw [ms_at (by decide)]; exact h16) (by rw [ms_at (by decide)]; exact h17)
      refine ⟨X', ?_, g2⟩
      rw [hst]
      unfold f_X12_reads_95_b
      rw [cl_s hraw, cl_s (letter_m k2 X), if_pos q, if_neg (by decide)]
      simp only [pt]
      rw [h15, nI_1]
      exact g1
    · obtain ⟨X', g1, g2⟩ := fin X k (by rw [← hr, rnE_n (fun z => q z.2)]) hX h15 h16 h17
      refine ⟨X', ?_, g2⟩
      rw [hst]
      unfold f_X12_reads_95_b
      rw [cl_s hraw, cl_s (letter_m k2 X), if_neg q, if_pos rfl]
      exact g1
/-- digits to their end -/
theorem digits_m {i : Nat} (h : Tx (D 143) tx) (h14 : D 136 14 = nI len) (hl : len ≤ 400) (hi : i < len) (hs : sg (tx i) = 2) : ∀ (d f k : Nat) (X : IM), k + d = len → d < f → i < k → rnE tx len 2 k = rnE tx len 2 i → (∀ t : Nat, t < k - i → sg (tx (i + t)) = 2) → cf D X → X 136 15 = nI k → X 136 16 = nI i → X 136 17 = 1 → (k - i ≤ 4 → X 136 18 = nI (nuF tx i (k - i))) → ∃ X', f_X12_reads_171 f X = some (0, X') ∧ cf D X' ∧ X' 136 16 = nI i ∧ X' 136 15 = nI (rnE tx len 2 i) ∧ TokM (tcd tx len i) (X' 136 17) (X' 136 18) := by
  have fin : ∀ (X : IM) (k : Nat), i < k → k ≤ len → k = rnE tx len 2 i → (∀ t : Nat, t < k - i → sg (tx (i + t)) = 2) → cf D X → X 136 15 = nI k → X 136 16 = nI i → X 136 17 = 1 → (k - i ≤ 4 → X 136 18 = nI (nuF tx i (k - i))) → ∃ X', (if 5 ≤ ((X 136 15) - (X 136 16)) then some (0, X) else pt X 136 17 3 fun M41 => some (0, M41)) = some (0, X') ∧ cf D X' ∧ X' 136 16 = nI i ∧ X' 136 15 = nI (rnE tx len 2 i) ∧ TokM (tcd tx len i) (X' 136 17) (X' 136 18) := by
    intro X k hik hkl hk hdg hX h15 h16 h17 h18
    have et : tcd tx len i = if k - i ≤ 4 then nuF tx i (k - i) else 30001 := by
      unfold tcd
      rw [if_neg (by omega), if_pos hs, hk]
    rw [h15, h16, pk_sub (by omega)]
    by_cases q : k - i ≤ 4
    · have hlt := nuF_lt (k - i) hdg
      have hp : 10 ^ (k - i) ≤ 10 ^ 4 := Nat.pow_le_pow_right (by decide) q
      rw [if_neg (show ¬ (5 : Int32) ≤ nI (k - i) from nI_ge (b := 5) (by omega) (by decide))]
      refine ⟨ms X 136 17 3, rfl, cf_ms hX (by omega), by rw [ms_at (by decide)]; exact h16, by rw [ms_at (by decide), h15, hk], ?_⟩
      rw [et, if_pos q, ms_it, ms_at (by decide), h18 q]
      exact Or.inl ⟨by omega, rfl, rfl⟩
    · rw [if_pos (show (5 : Int32) ≤ nI (k - i) from nI_le (a := 5) (by omega) (by omega))]
      refine ⟨X, rfl, hX, h16, by rw [h15, hk], ?_⟩
      rw [et, if_neg q, h17]
      exact Or.inr (Or.inr (Or.inr ⟨rfl, rfl⟩))
  intro d
  induction d with
  | zero =>
    intro f k X hk hf hik hr hdg hX h15 h16 h17 h18
    obtain ⟨m, rfl⟩ : ∃ m, f = m + 1 := ⟨f - 1, by omega⟩
    have ek : k = len := by omega
    have hst : f_X12_reads_171 (m + 1) X = f_X12_reads_171_b (f_X12_reads_171 m) X := rfl
    obtain ⟨X', g1, g2⟩ := fin X k hik (by omega) (by rw [← hr, rnE_n (by omega)]) hdg hX h15 h16 h17 h18
    refine ⟨X', ?_, g2⟩
    rw [hst]
    unfold f_X12_reads_171_b
    have hraw : f_X12_raw (X 136 15) X = some (-1, X) := by rw [h15, ek]; exact raw_out h14 hX
    rw [cl_s hraw, cl_s (digit_o X), if_pos rfl]
    exact g1
  | succ d ih =>
    intro f k X hk hf hik hr hdg hX h15 h16 h17 h18
    obtain ⟨m, rfl⟩ : ∃ m, f = m + 1 := ⟨f - 1, by omega⟩
    obtain ⟨-, k2⟩ := h k (by omega)
    have hst : f_X12_reads_171 (m + 1) X = f_X12_reads_171_b (f_X12_reads_171 m) X := rfl
    have hraw : f_X12_raw (X 136 15) X = some (nI (tx k), X) := by rw [h15]; exact raw_in h h14 hl hX (by omega)
    by_cases q : sg (tx k) = 2
    · have hq := sg_2 q
      have step : ∀ y : Int32, (k - i ≤ 3 → y = nI (nuF tx i (k + 1 - i))) → ∃ X', f_X12_reads_223 (f_X12_reads_171 m) y X = some (0, X') ∧ cf D X' ∧ X' 136 16 = nI i ∧ X' 136 15 = nI (rnE tx len 2 i) ∧ TokM (tcd tx len i) (X' 136 17) (X' 136 18) := fun y hy => by
        obtain ⟨X', g1, g2⟩ := ih m (k + 1) (ms (ms X 136 18 y) 136 15 (nI (k + 1))) (by omega) (by omega) (by omega) (by rw [← hr]; exact (rnE_s (by omega) q).symm) (fun t ht => by
          by_cases et : t = k - i
          · rw [et, show i + (k - i) = k by omega]; exact q
          · exact hdg t (by omega)) (cf_ms (cf_ms hX (by omega)) (by omega)) ms_it (by rw [ms_at (by decide), ms_at (by decide)]; exact h16) (by rw [ms_at (by decide), ms_at (by decide)]; exact h17) (fun z => by rw [ms_at (by decide), ms_it]; exact hy (by omega))
        refine ⟨X', ?_, g2⟩
        unfold f_X12_reads_223
        simp only [pt]
        rw [ms_at (by decide), h15, nI_1]
        exact g1
      rw [hst]
      unfold f_X12_reads_171_b
      rw [cl_s hraw, cl_s (digit_m k2 X), if_pos q, if_neg (by decide), cl_s hraw]
      by_cases c : k - i ≤ 3
      · have hlt := nuF_lt (k - i) hdg
        have hp : 10 ^ (k - i) ≤ 10 ^ 3 := Nat.pow_le_pow_right (by decide) c
        rw [h18 (by omega), if_neg (show ¬ (10000 : Int32) ≤ nI (nuF tx i (k - i)) from nI_ge (b := 10000) (by omega) (by decide))]
        refine step _ (fun _ => ?_)
        have e1 : nuF tx i (k + 1 - i) = nuF tx i (k - i) * 10 + tx k - 48 := by
          rw [show k + 1 - i = (k - i) + 1 by omega]
          show nuF tx i (k - i) * 10 + tx (i + (k - i)) - 48 = _
          rw [show i + (k - i) = k by omega]
        rw [e1, show (10 : Int32) * nI (nuF tx i (k - i)) = nI (10 * nuF tx i (k - i)) from pk_mul 10 _, nI_add, Nat.mul_comm]
        exact pk_sub (b := 48) (by omega)
      · by_cases c2 : (10000 : Int32) ≤ X 136 18
        · rw [if_pos c2]
          exact step _ (fun z => absurd z c)
        · rw [if_neg c2]
          exact step _ (fun z => absurd z c)
    · obtain ⟨X', g1, g2⟩ := fin X k hik (by omega) (by rw [← hr, rnE_n (fun z => q z.2)]) hdg hX h15 h16 h17 h18
      refine ⟨X', ?_, g2⟩
      rw [hst]
      unfold f_X12_reads_171_b
      rw [cl_s hraw, cl_s (digit_m k2 X), if_neg q, if_pos rfl]
      exact g1
end RDS
