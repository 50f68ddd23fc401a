/-! text: tokens -/
def sgn (n : Nat) : Nat := if n = 40 ∨ n = 41 ∨ n = 42 ∨ n = 43 ∨ n = 45 ∨ n = 47 ∨ n = 59 ∨ n = 60 ∨ n = 61 ∨ n = 62 then 20000 + n else 30001
/-- the number that stands from i on, k digits long -/
def nuF (tx : Nat → Nat) (i : Nat) : Nat → Nat
  | 0 => 0
  | k + 1 => nuF tx i k * 10 + tx (i + k) - 48
def tcd (tx : Nat → Nat) (len i : Nat) : Nat := if sg (tx i) = 1 then (match wcd tx i (rnE tx len 1 i) with | some j => 10000 + j | none => 30001) else if sg (tx i) = 2 then (if rnE tx len 2 i - i ≤ 4 then nuF tx i (rnE tx len 2 i - i) else 30001) else sgn (tx i)
def ten (tx : Nat → Nat) (len i : Nat) : Nat := if sg (tx i) = 1 then rnE tx len 1 i else if sg (tx i) = 2 then rnE tx len 2 i else i + 1
theorem sg_2 {n : Nat} (h : sg n = 2) : 48 ≤ n ∧ n ≤ 57 := by
  unfold sg at h
  repeat' split at h
  all_goals first | (exact absurd h (by decide)) | assumption
theorem nuF_lt {tx : Nat → Nat} {i : Nat} : ∀ k : Nat, (∀ t : Nat, t < k → sg (tx (i + t)) = 2) → nuF tx i k < 10 ^ k
  | 0, _ => Nat.zero_lt_one
  | k + 1, h => by
    have ih := nuF_lt (tx := tx) (i := i) k (fun t ht => h t (by omega))
    have h2 := sg_2 (h k (by omega))
    have e : nuF tx i (k + 1) = nuF tx i k * 10 + tx (i + k) - 48 := rfl
    rw [e, Nat.pow_succ]
    omega
theorem sign_c {n : Nat} (hn : n ≤ 255) (M : IM) : f_X6_signFrom (nI n) M = some (nI (sgn n), M) := by
  have c : ∀ k : Nat, k < 256 → (nI n = nI k ↔ n = k) := fun k hk => ⟨fun h => by
    have := congrArg Int32.toInt h
    rw [nI_toInt (by omega), nI_toInt (by omega)] at this
    omega, fun h => by rw [h]⟩
  by_cases hr : 40 ≤ n ∧ n ≤ 62
  · have : n = 40 ∨ n = 41 ∨ n = 42 ∨ n = 43 ∨ n = 44 ∨ n = 45 ∨ n = 46 ∨ n = 47 ∨ n = 48 ∨ n = 49 ∨ n = 50 ∨ n = 51 ∨ n = 52 ∨ n = 53 ∨ n = 54 ∨ n = 55 ∨ n = 56 ∨ n = 57 ∨ n = 58 ∨ n = 59 ∨ n = 60 ∨ n = 61 ∨ n = 62 := by omega
    rcases this with rfl | rfl | rfl | rfl | rfl | rfl | rfl | rfl | rfl | rfl | rfl | rfl | rfl | rfl | rfl | rfl | rfl | rfl | rfl | rfl | rfl | rfl | rfl <;> rfl
  · have hs : sgn n = 30001 := by
      unfold sgn
      rw [if_neg (by omega)]
    have k : ∀ v : Nat, 40 ≤ v → v ≤ 62 → ¬ nI n = nI v := fun v h1 h2 z => by
      have := (c v (by omega)).mp z
      omega
    unfold f_X6_signFrom
    rw [hs, if_neg (show ¬ nI n = 40 from k 40 (by decide) (by decide)), if_neg (show ¬ nI n = 41 from k 41 (by decide) (by decide)), if_neg (show ¬ nI n = 42 from k 42 (by decide) (by decide)), if_neg (show ¬ nI n = 43 from k 43 (by decide) (by decide)), if_neg (show ¬ nI n = 44 from k 44 (by decide) (by decide)), if_neg (show ¬ nI n = 45 from k 45 (by decide) (by decide)), if_neg (show ¬ nI n = 46 from k 46 (by decide) (by decide)), if_neg (show ¬ nI n = 47 from k 47 (by decide) (by decide)), if_neg (show ¬ nI n = 48 from k 48 (by decide) (by decide)), if_neg (show ¬ nI n = 49 from k 49 (by decide) (by decide)), if_neg (show ¬ nI n = 50 from k 50 (by decide) (by decide)), if_neg (show ¬ nI n = 51 from k 51 (by decide) (by decide)), if_neg (show ¬ nI n = 52 from k 52 (by decide) (by decide)), if_neg (show ¬ nI n = 53 from k 53 (by decide) (by decide)), if_neg (show ¬ nI n = 54 from k 54 (by decide) (by decide)), if_neg (show ¬ nI n = 55 from k 55 (by decide) (by decide)), if_neg (show ¬ nI n = 56 from k 56 (by decide) (by decide)), if_neg (show ¬ nI n = 57 from k 57 (by decide) (by decide)), if_neg (show ¬ nI n = 58 from k 58 (by decide) (by decide)), if_neg (show ¬ nI n = 59 from k 59 (by decide) (by decide)), if_neg (show ¬ nI n = 60 from k 60 (by decide) (by decide)), if_neg (show ¬ nI n = 61 from k 61 (by decide) (by decide)), if_neg (show ¬ nI n = 62 from k 62 (by decide) (by decide))]
    rfl
section TOKC
variable {M : IM} {tx : Nat → Nat} {len i : Nat}
theorem number_c {e : Nat} (h : Tx (M 99) tx) (hie : i ≤ e) (he : e ≤ 400) (hd : ∀ t : Nat, i ≤ t → t < e → sg (tx t) = 2) : f_X6_numberFrom 99 400 (nI i) (nI e) M = some (nI (if e - i ≤ 4 then nuF tx i (e - i) else 30001), M) := by
  unfold f_X6_numberFrom
  rw [pk_sub hie]
  by_cases q : e - i ≤ 4
  · rw [if_pos (show nI (e - i) ≤ 4 from nI_le (b := 4) q (by decide)), if_pos q]
    have loop : ∀ (d f k : Nat), k + d = e - i → d < f → f_X6_numberFrom_16 99 400 f (nI e) (nI (nuF tx i k)) (nI (i + k)) M = some (nI (nuF tx i (e - i)), M) := by
      intro d
      induction d with
      | zero =>
        intro f k hk hf
        obtain ⟨m, rfl⟩ : ∃ m, f = m + 1 := ⟨f - 1, by omega⟩
        show f_X6_numberFrom_16_b 99 400 (f_X6_numberFrom_16 99 400 m) _ _ _ M = _
        unfold f_X6_numberFrom_16_b
        rw [if_pos (nI_le (by omega) (by omega)), show k = e - i by omega]
      | succ d ih =>
        intro f k hk hf
        obtain ⟨m, rfl⟩ : ∃ m, f = m + 1 := ⟨f - 1, by omega⟩
        have hs := sg_2 (hd (i + k) (by omega) (by omega))
        have e1 : nI (nuF tx i k) * 10 + nI (tx (i + k)) - 48 = nI (nuF tx i (k + 1)) := by
          rw [show nI (nuF tx i k) * 10 = nI (nuF tx i k * 10) from pk_mul _ 10, nI_add]
          exact pk_sub (b := 48) (by omega)
        show f_X6_numberFrom_16_b 99 400 (f_X6_numberFrom_16 99 400 m) _ _ _ M = _
        unfold f_X6_numberFrom_16_b
        rw [if_neg (nI_ge (by omega) (by omega)), rdK (j := i + k) rfl (by omega) (by decide), (h (i + k) (by omega)).1]
        simp only [lt]
        rw [e1, nI_1]
        exact ih m (k + 1) (by omega) (by omega)
    exact loop (e - i) BG 0 (by omega) (by unfold BG; omega)
  · rw [if_neg (show ¬ nI (e - i) ≤ 4 from nI_ge (a := 4) (by omega) (by omega)), if_neg q]
    rfl
/-- one token, as the class reads it -/
theorem token_c (h : Tx (M 99) tx) (hl : len ≤ 400) (hi : i < len) (hs : ¬ sg (tx i) = 0) : f_X6_tokenFrom 99 400 (nI i) (nI len) M = some (nI (tcd tx len i), M) := by
  obtain ⟨c1, c2⟩ := h i (by omega)
  have hle := sg_le (tx i)
  have h35 : ∀ e : Nat, e = rnE tx len (sg (tx i)) i → f_X6_tokenFrom_35 99 400 (nI i) (nI (sg (tx i))) (nI e) M = some (nI (tcd tx len i), M) := by
    rintro e rfl
    obtain ⟨r1, r2, r3, -⟩ := rnE_ok (tx := tx) (len := len) (s := sg (tx i)) (len - i) i (by omega)
    unfold f_X6_tokenFrom_35 tcd
    have : sg (tx i) = 1 ∨ sg (tx i) = 2 ∨ sg (tx i) = 3 := by omega
    rcases this with e1 | e1 | e1
    · rw [e1] at r1 r2 r3 ⊢
      rw [if_pos (show nI 1 = 1 from rfl), if_pos rfl, cl_s (word_c h r1 (by omega))]
      cases wcd tx i (rnE tx len 1 i) <;> rfl
    · rw [e1] at r1 r2 r3 ⊢
      rw [if_neg (show ¬ nI 2 = 1 by decide), if_pos (show nI 2 = 2 from rfl), if_neg (show ¬ 2 = 1 by decide), if_pos rfl, cl_s (number_c h r1 (by omega) r3)]
    · rw [e1]
      rw [if_neg (show ¬ nI 3 = 1 by decide), if_neg (show ¬ nI 3 = 2 by decide), if_neg (show ¬ 3 = 1 by decide), if_neg (show ¬ 3 = 2 by decide), rdK (j := i) rfl (by omega) (by decide), c1, cl_s (sign_c c2 M)]
  have loop : ∀ (d f k : Nat), k + d = len → d < f → i < k → rnE tx len (sg (tx i)) k = rnE tx len (sg (tx i)) i → f_X6_tokenFrom_12 99 400 f (nI i) (nI len) (nI (sg (tx i))) (nI k) M = some (nI (tcd tx len i), M) := by
    intro d
    induction d with
    | zero =>
      intro f k hk hf hik hr
      obtain ⟨m, rfl⟩ : ∃ m, f = m + 1 := ⟨f - 1, by omega⟩
      show f_X6_tokenFrom_12_b 99 400 (f_X6_tokenFrom_12 99 400 m) _ _ _ _ M = _
      unfold f_X6_tokenFrom_12_b
      rw [if_pos (nI_le (by omega) (by omega))]
      refine h35 k ?_
      rw [← hr, rnE_n (by omega)]
    | succ d ih =>
      intro f k hk hf hik hr
      obtain ⟨m, rfl⟩ : ∃ m, f = m + 1 := ⟨f - 1, by omega⟩
      obtain ⟨k1, k2⟩ := h k (by omega)
      have hlk := sg_le (tx k)
      show f_X6_tokenFrom_12_b 99 400 (f_X6_tokenFrom_12 99 400 m) _ _ _ _ M = _
      unfold f_X6_tokenFrom_12_b
      rw [if_neg (nI_ge (by omega) (by omega)), rdK (j := k) rfl (by omega) (by decide), k1, cl_s (sight_c k2 M)]
      simp only [lt]
      by_cases q : sg (tx k) = sg (tx i)
      · rw [if_pos (by rw [q]), nI_1]
        exact ih m (k + 1) (by omega) (by omega) (by omega) (by rw [← hr]; exact (rnE_s (by omega) q).symm)
      · rw [if_neg]
        · refine h35 k ?_
          rw [← hr, rnE_n (fun z => q z.2)]
        · intro z
          have := congrArg Int32.toInt z
          rw [nI_toInt (by omega), nI_toInt (by omega)] at this
          omega
  unfold f_X6_tokenFrom
  rw [rdK (j := i) rfl (by omega) (by decide), c1, cl_s (sight_c c2 M)]
  simp only [lt]
  rw [nI_1]
  exact loop (len - (i + 1)) BG (i + 1) (by omega) (by unfold BG; omega) (by omega) (rnE_s hi rfl).symm
end TOKC
