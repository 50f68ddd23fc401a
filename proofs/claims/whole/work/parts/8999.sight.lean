/-! text: sights and runs -/
/-- what a character is to the eye: 0 blank, 1 letter, 2 digit, 3 another -/
def sg (n : Nat) : Nat := if n = 32 ∨ n = 10 then 0 else if (97 ≤ n ∧ n ≤ 122) ∨ (65 ≤ n ∧ n ≤ 90) then 1 else if 48 ≤ n ∧ n ≤ 57 then 2 else 3
theorem sg_le (n : Nat) : sg n ≤ 3 := by
  unfold sg
  repeat' split
  all_goals omega
/-- a row of characters -/
def Tx (r : Nat → Int32) (tx : Nat → Nat) : Prop := ∀ i : Nat, i < 400 → r i = nI (tx i) ∧ tx i ≤ 255
theorem sight_c {n : Nat} (hn : n ≤ 255) (M : IM) : f_X6_sightOf (nI n) M = some (nI (sg n), M) := by
  have c32 : nI n = 32 ↔ n = 32 := ⟨fun h => by
    have := congrArg Int32.toInt h
    rw [nI_toInt (by omega), show (32 : Int32).toInt = 32 from rfl] at this
    omega, fun h => by rw [h]; rfl⟩
  have c10 : nI n = 10 ↔ n = 10 := ⟨fun h => by
    have := congrArg Int32.toInt h
    rw [nI_toInt (by omega), show (10 : Int32).toInt = 10 from rfl] at this
    omega, fun h => by rw [h]; rfl⟩
  have l97 : nI n < 97 ↔ n < 97 := nI_ltI (b := 97) (by omega) (by decide)
  have l65 : nI n < 65 ↔ n < 65 := nI_ltI (b := 65) (by omega) (by decide)
  have l48 : nI n < 48 ↔ n < 48 := nI_ltI (b := 48) (by omega) (by decide)
  have g122 : nI n ≤ 122 ↔ n ≤ 122 := nI_leI (b := 122) (by omega) (by decide)
  have g90 : 90 < nI n ↔ 90 < n := nI_ltI (a := 90) (by decide) (by omega)
  have g57 : 57 < nI n ↔ 57 < n := nI_ltI (a := 57) (by decide) (by omega)
  have z : ∀ a b : Nat, a = b → (some (nI a, M) : IR) = some (nI b, M) := fun a b h => by rw [h]
  have e0 : (some (0, M) : IR) = some (nI 0, M) := rfl
  have e1 : (some (1, M) : IR) = some (nI 1, M) := rfl
  have e2 : (some (2, M) : IR) = some (nI 2, M) := rfl
  have e3 : (some (3, M) : IR) = some (nI 3, M) := rfl
  unfold f_X6_sightOf f_X6_sightOf_26 f_X6_sightOf_40
  simp only [c32, c10, l97, l65, l48, g122, g90, g57, e0, e1, e2, e3]
  clear c32 c10 l97 l65 l48 g122 g90 g57
  have hs : sg n = if n = 32 ∨ n = 10 then 0 else if (97 ≤ n ∧ n ≤ 122) ∨ (65 ≤ n ∧ n ≤ 90) then 1 else if 48 ≤ n ∧ n ≤ 57 then 2 else 3 := rfl
  repeat' split
  all_goals
    refine z _ _ ?_
    rw [hs]
  all_goals
    repeat' split
  all_goals omega
/-- the model's two questions -/
theorem letter_m {n : Nat} (hn : n ≤ 255) (M : IM) : f_X12_isLetter (nI n) M = some (if sg n = 1 then 1 else 0, M) := by
  have l97 : nI n < 97 ↔ n < 97 := nI_ltI (b := 97) (by omega) (by decide)
  have g122 : 122 < nI n ↔ 122 < n := nI_ltI (a := 122) (by decide) (by omega)
  have l65 : nI n < 65 ↔ n < 65 := nI_ltI (b := 65) (by omega) (by decide)
  have g90 : 90 < nI n ↔ 90 < n := nI_ltI (a := 90) (by decide) (by omega)
  unfold f_X12_isLetter
  rw [cl_s (win_m (nI n) 97 122 M), cl_s (win_m (nI n) 65 90 M)]
  simp only [l97, g122, l65, g90]
  clear l97 g122 l65 g90
  by_cases h1 : n < 97 ∨ 122 < n
  · rw [if_pos h1, if_pos rfl]
    by_cases h2 : n < 65 ∨ 90 < n
    · have : ¬ sg n = 1 := by
        unfold sg
        repeat' split
        all_goals omega
      rw [if_pos h2, if_pos rfl, if_neg this]
    · have : sg n = 1 := by
        unfold sg
        repeat' split
        all_goals omega
      rw [if_neg h2, if_neg (by decide), if_pos this]
  · have : sg n = 1 := by
      unfold sg
      repeat' split
      all_goals omega
    rw [if_neg h1, if_neg (by decide), if_pos this]
theorem digit_m {n : Nat} (hn : n ≤ 255) (M : IM) : f_X12_isDigit (nI n) M = some (if sg n = 2 then 1 else 0, M) := by
  have l48 : nI n < 48 ↔ n < 48 := nI_ltI (b := 48) (by omega) (by decide)
  have g57 : 57 < nI n ↔ 57 < n := nI_ltI (a := 57) (by decide) (by omega)
  unfold f_X12_isDigit
  rw [cl_s (win_m (nI n) 48 57 M)]
  simp only [l48, g57]
  clear l48 g57
  by_cases h1 : n < 48 ∨ 57 < n
  · have : ¬ sg n = 2 := by
      unfold sg
      repeat' split
      all_goals omega
    rw [if_pos h1, if_neg this]
    rfl
  · have : sg n = 2 := by
      unfold sg
      repeat' split
      all_goals omega
    rw [if_neg h1, if_pos this]
    rfl
/-- the end of the run of s that goes on at i -/
def rnF (tx : Nat → Nat) (len s : Nat) : Nat → Nat → Nat
  | 0, i => i
  | f + 1, i => if i < len ∧ sg (tx i) = s then rnF tx len s f (i + 1) else i
def rnE (tx : Nat → Nat) (len s i : Nat) : Nat := rnF tx len s (len - i) i
theorem rnE_s {tx : Nat → Nat} {len s i : Nat} (hi : i < len) (h : sg (tx i) = s) : rnE tx len s i = rnE tx len s (i + 1) := by
  unfold rnE
  rw [show len - i = (len - (i + 1)) + 1 by omega]
  show (if i < len ∧ sg (tx i) = s then _ else i) = _
  rw [if_pos ⟨hi, h⟩]
theorem rnE_n {tx : Nat → Nat} {len s i : Nat} (h : ¬ (i < len ∧ sg (tx i) = s)) : rnE tx len s i = i := by
  unfold rnE
  cases len - i with
  | zero => rfl
  | succ f =>
    show (if i < len ∧ sg (tx i) = s then _ else i) = i
    rw [if_neg h]
theorem rnE_ok {tx : Nat → Nat} {len s : Nat} : ∀ (k i : Nat), i + k = len → i ≤ rnE tx len s i ∧ rnE tx len s i ≤ len ∧ (∀ j : Nat, i ≤ j → j < rnE tx len s i → sg (tx j) = s) ∧ (rnE tx len s i < len → ¬ sg (tx (rnE tx len s i)) = s) := by
  intro k
  induction k with
  | zero =>
    intro i hi
    rw [rnE_n (by omega)]
    exact ⟨Nat.le_refl _, by omega, fun j h1 h2 => by omega, fun h => by omega⟩
  | succ k ih =>
    intro i hi
    by_cases h : sg (tx i) = s
    · rw [rnE_s (by omega) h]
      obtain ⟨h1, h2, h3, h4⟩ := ih (i + 1) (by omega)
      refine ⟨by omega, h2, fun j j1 j2 => ?_, h4⟩
      by_cases e : j = i
      · subst e; exact h
      · exact h3 j (by omega) j2
    · rw [rnE_n (fun q => h q.2)]
      exact ⟨Nat.le_refl _, by omega, fun j h1 h2 => by omega, fun _ => h⟩
