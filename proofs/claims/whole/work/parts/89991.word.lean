/-! text: words -/
def zwT : List Nat := [102, 101, 101, 116, 32, 114, 111, 119, 32, 108, 97, 109, 101, 32, 99, 108, 111, 99, 107, 32, 100, 97, 121, 32, 111, 119, 110, 32, 108, 101, 103, 32, 114, 105, 118, 101, 114, 32, 102, 111, 111, 100, 32, 103, 111, 32, 115, 116, 97, 121, 32, 116, 105, 114, 101, 32, 101, 97, 115, 101, 32, 101, 97, 116, 32, 119, 104, 101, 110, 32, 111, 114, 32, 97, 110, 100, 32, 110, 111, 116, 32, 115, 116, 111, 110, 101, 32, 102, 111, 114, 32, 119, 97, 108, 107, 101, 114, 32, 102, 114, 111, 109]
def zwS : List Nat := [0, 5, 9, 14, 20, 24, 28, 32, 38, 43, 46, 51, 56, 61, 65, 70, 73, 77, 81, 87, 91, 98, 103]
def zwL : List Nat := [4, 3, 4, 5, 3, 3, 3, 5, 4, 2, 4, 4, 4, 3, 4, 2, 3, 3, 5, 3, 6, 4]
def zmT : List Nat := [32, 103, 111, 32, 115, 116, 97, 121, 32, 116, 105, 114, 101, 32, 101, 97, 115, 101, 32, 101, 97, 116, 32, 119, 104, 101, 110, 32, 111, 114, 32, 97, 110, 100, 32, 110, 111, 116, 32, 102, 101, 101, 116, 32, 114, 111, 119, 32, 108, 97, 109, 101, 32, 99, 108, 111, 99, 107, 32, 100, 97, 121, 32, 111, 119, 110, 32, 108, 101, 103, 32, 114, 105, 118, 101, 114, 32, 102, 111, 111, 100, 32, 115, 116, 111, 110, 101, 32, 102, 111, 114, 32, 119, 97, 108, 107, 101, 114, 32, 102, 114, 111, 109, 32]
def zmP : List Nat := [0, 3, 8, 13, 18, 22, 27, 30, 34, 38, 43, 47, 52, 58, 62, 66, 70, 76, 81, 87, 91, 98, 103]
def wS (j : Nat) : Nat := zwS.getD j 0
def wL (j : Nat) : Nat := zwL.getD j 0
def wC (j t : Nat) : Nat := zwT.getD (wS j + t) 0
def mP (j : Nat) : Nat := zmP.getD j 0
/-- the model's number of the class's word, and back -/
def wM (w : Nat) : Nat := if w < 9 then w + 9 else if w < 18 then w - 9 else w
theorem wk_c : ∀ j : Nat, j < 22 → wS (j + 1) = wS j + wL j + 1 ∧ wS j + wL j ≤ 102 ∧ 2 ≤ wL j ∧ wL j ≤ 6 ∧ (j < 21 → zwT.getD (wS j + wL j) 0 = 32 ∧ wS j + wL j < 102) ∧ (j = 21 → wS j + wL j = 102) ∧ ∀ t : Nat, t < wL j → ¬ wC j t = 32 := by decide
theorem wk_m : ∀ j : Nat, j < 22 → wM j < 22 ∧ wM (wM j) = j ∧ mP (j + 1) = mP j + 1 + wL (wM j) ∧ mP j < 103 ∧ mP (j + 1) ≤ 103 ∧ zmT.getD (mP (j + 1)) 0 = 32 ∧ ∀ t : Nat, t < wL (wM j) → zmT.getD (mP j + 1 + t) 0 = wC (wM j) t := by decide
theorem wk_d : ∀ j : Nat, j < 22 → ∀ k : Nat, k < 22 → ¬ j = k → ¬ wL j = wL k ∨ ∃ t : Nat, t < wL j ∧ ¬ wC j t = wC k t := by decide
theorem zw_by : ∀ t : Nat, t < 102 → ie_wby.getD t 0 = nI (zwT.getD t 0) ∧ zwT.getD t 0 < 128 := by decide
theorem zm_by : ∀ t : Nat, t < 104 → M0 144 t = nI (zmT.getD t 0) ∧ zmT.getD t 0 < 128 := by decide +kernel
/-- word j stands from i to e -/
abbrev Wd (tx : Nat → Nat) (i e j : Nat) : Prop := e - i = wL j ∧ ∀ t : Nat, t < wL j → tx (i + t) = wC j t
def wcF (tx : Nat → Nat) (i e : Nat) : Nat → Nat → Option Nat
  | 0, _ => none
  | k + 1, j => if Wd tx i e j then some j else wcF tx i e k (j + 1)
def wcd (tx : Nat → Nat) (i e : Nat) : Option Nat := wcF tx i e 22 0
theorem wd_one {tx : Nat → Nat} {i e j k : Nat} (hj : j < 22) (hk : k < 22) (h1 : Wd tx i e j) (h2 : Wd tx i e k) : j = k := by
  apply Decidable.byContradiction
  intro hne
  have hl : wL j = wL k := by rw [← h1.1, ← h2.1]
  rcases wk_d j hj k hk hne with h | ⟨t, t1, t2⟩
  · exact h hl
  · exact t2 (by rw [← h1.2 t t1, ← h2.2 t (by omega)])
theorem wcF_none {tx : Nat → Nat} {i e : Nat} : ∀ (k j : Nat), wcF tx i e k j = none → ∀ v : Nat, j ≤ v → v < j + k → ¬ Wd tx i e v
  | 0, j, _, v, h1, h2 => by omega
  | k + 1, j, h, v, h1, h2 => by
    unfold wcF at h
    by_cases q : Wd tx i e j
    · rw [if_pos q] at h; cases h
    · rw [if_neg q] at h
      by_cases ev : v = j
      · subst ev; exact q
      · exact wcF_none k (j + 1) h v (by omega) (by omega)
theorem wcF_some {tx : Nat → Nat} {i e w : Nat} : ∀ (k j : Nat), wcF tx i e k j = some w → j ≤ w ∧ w < j + k ∧ Wd tx i e w
  | 0, j, h => by cases h
  | k + 1, j, h => by
    unfold wcF at h
    by_cases q : Wd tx i e j
    · rw [if_pos q] at h
      cases h
      exact ⟨Nat.le_refl _, by omega, q⟩
    · rw [if_neg q] at h
      obtain ⟨h1, h2, h3⟩ := wcF_some k (j + 1) h
      exact ⟨by omega, by omega, h3⟩
theorem rc_n : ∀ c : Nat, c < 128 → (Int32.toUInt32 (nI c &&& 255)).toUInt16.toUInt32.toInt32 = nI c ∧ (nI c).toUInt32.toUInt16.toUInt32.toInt32 = nI c := by decide
theorem charAt_e {t : Nat} (ht : t < 102) (M : IM) : f_J0_charAt_5068e (nI t) M = some (nI (zwT.getD t 0), M) := by
  obtain ⟨h1, h2⟩ := zw_by t ht
  obtain ⟨r1, r2⟩ := rc_n _ h2
  have hi : ¬ (nI t < 0 ∨ ie_wln ≤ (nI t).toNatClampNeg) := by
    rintro (z | z)
    · exact nI_pos (by omega) z
    · rw [nI_clamp (by omega)] at z
      unfold ie_wln at z
      omega
  have e2 : f_J1_charAt_3b067 (nI t) M = some (nI (zwT.getD t 0), M) := by
    unfold f_J1_charAt_3b067 f_J0_checkIndex_df160 f_J3_checkIndex_8e157
    rw [if_neg (nI_pos (by omega)), if_pos (show nI t < Int32.ofNat ie_wln from nI_lt (b := 102) ht (by decide))]
    rw [cl_s (f := cl (some (nI t, M)) fun w1 M2 => some (0, M2)) (r := 0) (M1 := M) (cl_s rfl), rx_in hi, nI_clamp (by omega)]
    show rc ((Int32.toUInt32 (ie_wby.getD t 0 &&& 255)).toUInt16.toUInt32.toInt32) M = _
    rw [h1, r1]
    unfold rc
    rw [if_pos r2]
  unfold f_J0_charAt_5068e
  have e1 : f_J0_isLatin1_aae02 M = some (1, M) := by
    unfold f_J0_isLatin1_aae02
    rw [if_neg (by decide), if_pos rfl]
  rw [cl_s e1, if_neg (by decide), cl_s e2]
  unfold rc
  rw [if_pos r2]
theorem length_e (M : IM) : f_J0_length_8abf5 M = some (nI 102, M) := by
  have e1 : f_J0_coder_7d493 M = some (0, M) := by
    unfold f_J0_coder_7d493
    rw [if_neg (by decide)]
  unfold f_J0_length_8abf5
  rw [cl_s e1]
  rfl
theorem isSame_e {M : IM} {tx : Nat → Nat} {i s n : Nat} (h : Tx (M 99) tx) (hi : i + n ≤ 400) (hs : s + n ≤ 102) : f_X6_isSame 99 400 (nI i) (nI s) (nI n) M = some (if ∀ t : Nat, t < n → tx (i + t) = zwT.getD (s + t) 0 then 1 else 0, M) := by
  have loop : ∀ (d f t : Nat), t + d = n → d < f → (∀ u : Nat, u < t → tx (i + u) = zwT.getD (s + u) 0) → f_X6_isSame_3 99 400 f (nI i) (nI s) (nI n) (nI t) M = some (if ∀ t : Nat, t < n → tx (i + t) = zwT.getD (s + t) 0 then 1 else 0, M) := by
    intro d
    induction d with
    | zero =>
      intro f t ht hf hu
      obtain ⟨m, rfl⟩ : ∃ m, f = m + 1 := ⟨f - 1, by omega⟩
      have : t = n := by omega
      subst this
      show f_X6_isSame_3_b 99 400 (f_X6_isSame_3 99 400 m) _ _ _ _ M = _
      unfold f_X6_isSame_3_b
      rw [if_pos (Int32.le_refl _), if_pos hu]
    | succ d ih =>
      intro f t ht hf hu
      obtain ⟨m, rfl⟩ : ∃ m, f = m + 1 := ⟨f - 1, by omega⟩
      obtain ⟨c1, c2⟩ := h (i + t) (by omega)
      obtain ⟨-, c3⟩ := zw_by (s + t) (by omega)
      show f_X6_isSame_3_b 99 400 (f_X6_isSame_3 99 400 m) _ _ _ _ M = _
      unfold f_X6_isSame_3_b
      rw [if_neg (nI_ge (by omega) (by omega)), nI_add, nI_add, rdK (j := i + t) rfl (by omega) (by decide), cl_s (charAt_e (by omega) M), c1]
      simp only [lt]
      rw [nI_1]
      by_cases q : tx (i + t) = zwT.getD (s + t) 0
      · rw [if_pos (by rw [q])]
        refine ih m (t + 1) (by omega) (by omega) (fun u hu2 => ?_)
        by_cases eu : u = t
        · subst eu; exact q
        · exact hu u (by omega)
      · rw [if_neg, if_neg (fun z => q (z t (by omega)))]
        intro z
        have := congrArg Int32.toInt z
        rw [nI_toInt (by omega), nI_toInt (by omega)] at this
        omega
  exact loop n BG 0 (by omega) (by unfold BG; omega) (fun u hu => by omega)
