/-! a Now becomes another; a row of forty is copied -/
theorem mr_ne {M : IM} {o p : Nat} {f : Nat → Int32} (h : ¬ p = o) : mr M o f p = M p := by unfold mr; rw [if_neg h]
theorem mr_it {M : IM} {o : Nat} {f : Nat → Int32} : mr M o f o = f := by unfold mr; rw [if_pos rfl]
theorem cpK {M : IM} {o n o' n' l : Nat} {k : IM → IR} {c : Int32} (hc : c = nI l) (h1 : l ≤ n) (h2 : l ≤ n') (hl : l < 2 ^ 31) : cp M o n 0 o' n' 0 c k = k (mr M o' (va_cpy (M o) (M o') 0 0 l)) := by
  subst hc
  have z : (0 : Int32).toNatClampNeg = 0 := by decide
  unfold cp
  rw [if_neg, z, nI_clamp hl]
  rw [z, nI_clamp hl]
  rintro (h | h | h | h | h)
  · exact absurd h (by decide)
  · exact absurd h (by decide)
  · exact nI_pos hl h
  · omega
  · omega
theorem cpy_in {f g : Nat → Int32} {l i : Nat} (h : i < l) : va_cpy f g 0 0 l i = f i := by
  unfold va_cpy
  rw [if_pos ⟨Nat.zero_le _, by omega⟩]
  congr 1
  omega
theorem become_ok {o0 o1 : Nat} (hd : o0 + 5 ≤ o1 ∨ o1 + 5 ≤ o0) (M : IM) : ∃ M', f_X4_become o0 o1 M = some (0, M') ∧ (∀ i : Nat, i ≤ 10 → M' o0 i = M o1 i) ∧ (∀ k : Nat, 1 ≤ k → k ≤ 4 → ∀ i : Nat, i < 10 → M' (o0 + k) i = M (o1 + k) i) ∧ ∀ p : Nat, (p < o0 ∨ o0 + 5 ≤ p) → M' p = M p := by
  have hm : ∀ (X : IM) (i : Nat) (v : Int32), ms X o0 i v o1 = X o1 := fun _ _ _ => ms_ne (by omega)
  have hf : ∀ (X : IM) (i : Nat) (v : Int32) (p : Nat), ¬ p = o0 → ms X o0 i v p = X p := fun _ _ _ _ h => ms_ne h
  generalize hN : ms (ms (ms (ms (ms (ms (ms (ms (ms (ms (ms M o0 0 (M o1 0)) o0 1 (M o1 1)) o0 2 (M o1 2)) o0 3 (M o1 3)) o0 4 (M o1 4)) o0 5 (M o1 5)) o0 6 (M o1 6)) o0 7 (M o1 7)) o0 8 (M o1 8)) o0 9 (M o1 9)) o0 10 (M o1 10) = N
  have n1 : ∀ p : Nat, ¬ p = o0 → N p = M p := fun p h => by
    rw [← hN, hf _ _ _ _ h, hf _ _ _ _ h, hf _ _ _ _ h, hf _ _ _ _ h, hf _ _ _ _ h, hf _ _ _ _ h, hf _ _ _ _ h, hf _ _ _ _ h, hf _ _ _ _ h, hf _ _ _ _ h, hf _ _ _ _ h]
  have n0 : ∀ i : Nat, i ≤ 10 → N o0 i = M o1 i := fun i hi => by
    rw [← hN]
    match i, hi with
    | 0, _ => simp [ms]
    | 1, _ => simp [ms]
    | 2, _ => simp [ms]
    | 3, _ => simp [ms]
    | 4, _ => simp [ms]
    | 5, _ => simp [ms]
    | 6, _ => simp [ms]
    | 7, _ => simp [ms]
    | 8, _ => simp [ms]
    | 9, _ => simp [ms]
    | 10, _ => simp [ms]
    | i + 11, h => omega
  generalize hP : mr (mr (mr (mr N (o0 + 1) (va_cpy (N (o1 + 1)) (N (o0 + 1)) 0 0 10)) (o0 + 2) (va_cpy (N (o1 + 2)) (N (o0 + 2)) 0 0 10)) (o0 + 3) (va_cpy (N (o1 + 3)) (N (o0 + 3)) 0 0 10)) (o0 + 4) (va_cpy (N (o1 + 4)) (N (o0 + 4)) 0 0 10) = P
  refine ⟨P, ?_, ?_, ?_, ?_⟩
  · simp only [f_X4_become, pt, hm]
    rw [hN, cpK (c := 10) (n := 10) (n' := 10) (l := 10) rfl (by decide) (by decide) (by decide), cpK (c := 10) (n := 10) (n' := 10) (l := 10) rfl (by decide) (by decide) (by decide), cpK (c := 10) (n := 10) (n' := 10) (l := 10) rfl (by decide) (by decide) (by decide), cpK (c := 10) (n := 10) (n' := 10) (l := 10) rfl (by decide) (by decide) (by decide), ← hP]
    rw [mr_ne (p := o1 + 2) (o := o0 + 1) (by omega), mr_ne (p := o0 + 2) (o := o0 + 1) (by omega), mr_ne (p := o1 + 3) (o := o0 + 2) (by omega), mr_ne (p := o0 + 3) (o := o0 + 2) (by omega), mr_ne (p := o1 + 3) (o := o0 + 1) (by omega), mr_ne (p := o0 + 3) (o := o0 + 1) (by omega), mr_ne (p := o1 + 4) (o := o0 + 3) (by omega), mr_ne (p := o0 + 4) (o := o0 + 3) (by omega), mr_ne (p := o1 + 4) (o := o0 + 2) (by omega), mr_ne (p := o0 + 4) (o := o0 + 2) (by omega), mr_ne (p := o1 + 4) (o := o0 + 1) (by omega), mr_ne (p := o0 + 4) (o := o0 + 1) (by omega)]
  · intro i hi
    rw [← hP, mr_ne (by omega), mr_ne (by omega), mr_ne (by omega), mr_ne (by omega)]
    exact n0 i hi
  · intro k h1 h4 i hi
    rw [← hP]
    match k, h1, h4 with
    | 1, _, _ => rw [mr_ne (by omega), mr_ne (by omega), mr_ne (by omega), mr_it, cpy_in hi, n1 _ (by omega)]
    | 2, _, _ => rw [mr_ne (by omega), mr_ne (by omega), mr_it, cpy_in hi, n1 _ (by omega)]
    | 3, _, _ => rw [mr_ne (by omega), mr_it, cpy_in hi, n1 _ (by omega)]
    | 4, _, _ => rw [mr_it, cpy_in hi, n1 _ (by omega)]
    | k + 5, _, h => omega
  · intro p hp
    rw [← hP, mr_ne (by omega), mr_ne (by omega), mr_ne (by omega), mr_ne (by omega), n1 _ (by omega)]
/-- keepsAhead's copy: now's forty go behind the rows -/
theorem keep_m {u : Nat} (hu : u < 6) (n : Nat) : ∀ (k : Nat) (M : IM), k ≤ 40 → 40 - k < n → M 136 3 = nI u → ∃ M', f_X12_keepsAhead_55 n (nI k) M = some (0, M') ∧ M' 136 3 = nI (u + 1) ∧ (∀ i : Nat, k ≤ i → i < 40 → M' 138 (40 * u + i) = M 137 i) ∧ (∀ i : Nat, (i < 40 * u + k ∨ 40 * u + 40 ≤ i) → M' 138 i = M 138 i) ∧ agr [138] [(136, 3)] M M' := by
  induction n with
  | zero => intro k M h1 h2; omega
  | succ n ih =>
    intro k M hk hn hu3
    have hstep : f_X12_keepsAhead_55 (n + 1) (nI k) M = f_X12_keepsAhead_55_b (f_X12_keepsAhead_55 n) (nI k) M := rfl
    by_cases h40 : k = 40
    · subst h40
      refine ⟨ms M 136 3 (nI (u + 1)), ?_, ms_it, fun i h1 h2 => by omega, fun i _ => by rw [ms_ne (by decide)], agr_c agr_rf (by decide)⟩
      rw [hstep]
      simp only [f_X12_keepsAhead_55_b, pt]
      rw [if_pos (by decide), hu3, nI_1]
    · have hlt : k < 40 := by omega
      have e : (40 : Int32) * nI u + nI k = nI (40 * u + k) := by rw [show (40 : Int32) = nI 40 from rfl, pk_mul, nI_add]
      have hb : f_X12_keepsAhead_55 (n + 1) (nI k) M = f_X12_keepsAhead_55 n (nI (k + 1)) (ms M 138 (40 * u + k) (M 137 k)) := by
        rw [hstep]
        simp only [f_X12_keepsAhead_55_b, lt]
        rw [if_neg (show ¬ (40 : Int32) ≤ nI k from nI_ge (a := k) (b := 40) hlt (by decide)), rdK (i := nI k) (j := k) (n := 40) rfl hlt (by decide), hu3, wrK (j := 40 * u + k) (n := 240) e (by omega) (by decide), nI_1]
      obtain ⟨M', e1, e2, e3, e4, e5⟩ := ih (k + 1) (ms M 138 (40 * u + k) (M 137 k)) (by omega) (by omega) (by rw [ms_ne (by decide)]; exact hu3)
      refine ⟨M', by rw [hb]; exact e1, e2, fun i h1 h2 => ?_, fun i h => ?_, agr_tr (agr_c agr_rf (Or.inr (by decide))) e5⟩
      · by_cases hik : i = k
        · subst hik
          rw [e4 _ (by omega), ms_it]
        · rw [e3 i (by omega) h2, ms_ne (by decide)]
      · rw [e4 i (by omega), ms_at (by omega)]
