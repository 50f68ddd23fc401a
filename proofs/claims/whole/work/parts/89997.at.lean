/-! text: both stand at token k -/
/-- what both know of the text; m tokens, then the end -/
def Tks (C D : IM) (tx : Nat → Nat) (len m : Nat) : Prop :=
  Tx (D 143) tx ∧ IvWords D ∧ D 136 14 = nI len ∧ len ≤ 400 ∧ m ≤ len ∧ pl tx len m = len ∧ (∀ x : Nat, x < m → pl tx len x < len ∧ C 117 x = nI (tcd tx len (pl tx len x)) ∧ C 118 x = nI (pl tx len x)) ∧ C 117 m = 30000 ∧ C 118 m = nI len
/-- the model's token k -/
def AtM (D : IM) (tx : Nat → Nat) (len m k : Nat) : Prop := D 136 16 = nI (pl tx len k) ∧ (k = m → D 136 15 = nI len ∧ D 136 17 = 0) ∧ (k < m → D 136 15 = nI (ten tx len (pl tx len k)) ∧ TokM (tcd tx len (pl tx len k)) (D 136 17) (D 136 18))
section ATK
variable {C D : IM} {tx : Nat → Nat} {len m k : Nat}
theorem tcd_le {i : Nat} (h : ∀ j : Nat, j < 400 → tx j ≤ 255) (hl : len ≤ 400) (hi : i < len) : tcd tx len i < 10022 ∨ (20000 ≤ tcd tx len i ∧ tcd tx len i < 20256) ∨ tcd tx len i = 30001 := by
  obtain ⟨r1, r2, r3, -⟩ := rnE_ok (tx := tx) (len := len) (s := 2) (len - i) i (by omega)
  unfold tcd
  by_cases q1 : sg (tx i) = 1
  · rw [if_pos q1]
    cases hw : wcd tx i (rnE tx len 1 i) with
    | none => exact Or.inr (Or.inr rfl)
    | some w =>
      obtain ⟨-, w2, -⟩ := wcF_some 22 0 hw
      left
      show 10000 + w < 10022
      omega
  · rw [if_neg q1]
    by_cases q2 : sg (tx i) = 2
    · rw [if_pos q2]
      by_cases q : rnE tx len 2 i - i ≤ 4
      · rw [if_pos q]
        have hlt := nuF_lt (tx := tx) (i := i) (rnE tx len 2 i - i) (fun t ht => r3 (i + t) (by omega) (by omega))
        have hp : 10 ^ (rnE tx len 2 i - i) ≤ 10 ^ 4 := Nat.pow_le_pow_right (by decide) q
        left
        omega
      · rw [if_neg q]; exact Or.inr (Or.inr rfl)
    · rw [if_neg q2]
      rcases sgn_ok (tx i) (h i (by omega)) with z | ⟨z, z2⟩
      · exact Or.inr (Or.inr z)
      · exact Or.inr (Or.inl ⟨by omega, z2⟩)
/-- the model goes on to the next token -/
theorem next_m {X : IM} (h : Tks C D tx len m) (hk : k < m) (hX : cf D X) (h15 : X 136 15 = nI (ten tx len (pl tx len k))) : ∃ X', f_X12_reads X = some (0, X') ∧ cf D X' ∧ AtM X' tx len m (k + 1) := by
  obtain ⟨h1, h2, h3, h4, h5, h6, h7, -, -⟩ := h
  have hp := (h7 k hk).1
  have hbg := (pl_le (tx := tx) (len := len) k).2 hp
  obtain ⟨t1, t2, -, -⟩ := ten_ok hp hbg.1
  have ep : pl tx len (k + 1) = rnE tx len 0 (ten tx len (pl tx len k)) := by
    show (if pl tx len k < len then _ else len) = _
    rw [if_pos hp]
  obtain ⟨X', g1, g2, g3, g4, g5⟩ := reads_e h1 h2 h3 h4 (len - ten tx len (pl tx len k)) BG (ten tx len (pl tx len k)) X (by omega) (by unfold BG; omega) hX h15
  rw [← ep] at g3 g4 g5
  refine ⟨X', g1, g2, g3, fun e => g4 (by rw [e]; exact h6), fun e => g5 (h7 (k + 1) e).1⟩
/-- the first token -/
theorem first_m {X : IM} (h : Tks C D tx len m) (hX : cf D X) (h15 : X 136 15 = nI 0) : ∃ X', f_X12_reads X = some (0, X') ∧ cf D X' ∧ AtM X' tx len m 0 := by
  obtain ⟨h1, h2, h3, h4, h5, h6, h7, -, -⟩ := h
  obtain ⟨X', g1, g2, g3, g4, g5⟩ := reads_e h1 h2 h3 h4 len BG 0 X (by omega) (by unfold BG; omega) hX h15
  exact ⟨X', g1, g2, g3, fun e => g4 (show pl tx len 0 = len from by rw [e]; exact h6), fun e => g5 (h7 0 e).1⟩
end ATK
