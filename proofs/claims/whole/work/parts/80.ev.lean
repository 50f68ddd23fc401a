/-! a law's codes: what they come to, on both sides -/
def jn (c a b : Int32) : Int32 := if c = 10016 then a &&& b else if c = 20042 then a * b else if c = 20043 then a + b else if c = 20045 then a - b else if c = 20060 then (if b ≤ a then 0 else 1) else if c = 20061 then (if a = b then 1 else 0) else if c = 20062 then (if a ≤ b then 0 else 1) else a ||| b
theorem joined_e (c a b : Int32) (M : IM) : f_X0_joined c a b M = some (jn c a b, M) := by
  unfold f_X0_joined jn
  repeat' split
  all_goals first | rfl | contradiction
def evC (v : Nat → Int32) (st : List Int32) (c : Int32) : List Int32 :=
  if c < 10009 then (if c < 10000 then c else v (c - 10000).toNatClampNeg) :: st
  else if c = 10017 then (match st with
    | a :: t => (1 - a) :: t
    | s => s)
  else if 40000 < c then (match st with
    | a :: t => (a / (c - 40000)) :: t
    | s => s)
  else (match st with
    | b :: a :: t => jn c a b :: t
    | s => s)
def evL (v : Nat → Int32) (l : List Int32) : Int32 := (l.foldl (evC v) []).headD 0
/-- the first numbers of a row, the topmost first in the list -/
def Stk (f : Nat → Int32) : List Int32 → Prop
  | [] => True
  | a :: t => f t.length = a ∧ Stk f t
def Ty : List Bool → List Int32 → Prop
  | [], [] => True
  | b :: d, a :: s => (b = true → a = 0 ∨ a = 1) ∧ Ty d s
  | _, _ => False
theorem stk_fr {f g : Nat → Int32} : ∀ {st : List Int32}, (∀ k : Nat, k < st.length → g k = f k) → Stk f st → Stk g st
  | [], _, _ => trivial
  | a :: t, h, hs => ⟨(h t.length (by simp)).trans hs.1, stk_fr (fun k hk => h k (by simp; omega)) hs.2⟩
theorem stk_push {f : Nat → Int32} {st : List Int32} {a : Int32} (h : Stk f st) : Stk (upd f st.length a) (a :: st) := ⟨upd_s, stk_fr (fun k hk => upd_n (by omega)) h⟩
theorem ty_len : ∀ {d : List Bool} {st : List Int32}, Ty d st → d.length = st.length
  | [], [], _ => rfl
  | b :: d, a :: s, h => by simp [ty_len h.2]
  | [], _ :: _, h => h.elim
  | _ :: _, [], h => h.elim
theorem ty_1 {b : Bool} {t : List Bool} {st : List Int32} (h : Ty (b :: t) st) : ∃ a s, st = a :: s ∧ (b = true → a = 0 ∨ a = 1) ∧ Ty t s := by
  cases st with
  | nil => exact h.elim
  | cons a s => exact ⟨a, s, rfl, h⟩
theorem c_nat {c : Int32} (h0 : 0 ≤ c) : ∃ k : Nat, k < 2 ^ 31 ∧ c = nI k := nI_of (Int32.not_lt.mpr h0)
theorem b01_and : ∀ {a b : Int32}, (a = 0 ∨ a = 1) → (b = 0 ∨ b = 1) → a &&& b = a * b ∧ (a &&& b = 0 ∨ a &&& b = 1) := by
  rintro a b (rfl | rfl) (rfl | rfl) <;> decide
theorem b01_or : ∀ {a b : Int32}, (a = 0 ∨ a = 1) → (b = 0 ∨ b = 1) → a ||| b = (if a + b ≤ 0 then 0 else 1) ∧ (a ||| b = 0 ∨ a ||| b = 1) := by
  rintro a b (rfl | rfl) (rfl | rfl) <;> decide
theorem b01_not : ∀ {a : Int32}, (a = 0 ∨ a = 1) → (1 - a = 0 ∨ 1 - a = 1) := by
  rintro a (rfl | rfl) <;> decide
/-- the six sorts of code -/
theorem depC_of {d e : List Bool} {c : Int32} (h : depC d c = some e) :
    (∃ k : Nat, c = nI k ∧ k < 10009 ∧ e = false :: d) ∨ (c = 10017 ∧ ∃ t, d = true :: t ∧ e = d) ∨ (∃ k : Nat, c = nI (40000 + k) ∧ 0 < k ∧ k ≤ 9999 ∧ ∃ t, d = false :: t ∧ e = d) ∨
    ((c = 20043 ∨ c = 20045 ∨ c = 20042) ∧ ∃ t, d = false :: false :: t ∧ e = false :: t) ∨ ((c = 20060 ∨ c = 20061 ∨ c = 20062) ∧ ∃ t, d = false :: false :: t ∧ e = true :: t) ∨ ((c = 10016 ∨ c = 10015) ∧ ∃ t, d = true :: true :: t ∧ e = true :: t) := by
  unfold depC at h
  by_cases h1 : c < 10009
  · rw [if_pos h1] at h
    by_cases h0 : 0 ≤ c
    · rw [if_pos h0] at h
      obtain ⟨k, hk, rfl⟩ := c_nat h0
      have := (nI_ltI (a := k) (b := 10009) hk (by decide)).mp h1
      exact Or.inl ⟨k, rfl, this, by simpa using h.symm⟩
    · rw [if_neg h0] at h; cases h
  rw [if_neg h1] at h
  by_cases h2 : c = 10017
  · rw [if_pos h2] at h
    split at h
    · exact Or.inr (Or.inl ⟨h2, _, rfl, by simpa using h.symm⟩)
    · cases h
  rw [if_neg h2] at h
  by_cases h3 : 40000 < c
  · rw [if_pos h3] at h
    by_cases h4 : c ≤ 49999
    · rw [if_pos h4] at h
      obtain ⟨k, hk, rfl⟩ := c_nat (c := c) (Int32.le_trans (by decide) (Int32.le_of_lt h3))
      have q1 := (nI_ltI (a := 40000) (b := k) (by decide) hk).mp h3
      have q2 := (nI_leI (a := k) (b := 49999) hk (by decide)).mp h4
      split at h
      · exact Or.inr (Or.inr (Or.inl ⟨k - 40000, by rw [show 40000 + (k - 40000) = k by omega], by omega, by omega, _, rfl, by simpa using h.symm⟩))
      · cases h
    · rw [if_neg h4] at h; cases h
  rw [if_neg h3] at h
  by_cases h5 : c = 20043 ∨ c = 20045 ∨ c = 20042
  · rw [if_pos h5] at h
    split at h
    · exact Or.inr (Or.inr (Or.inr (Or.inl ⟨h5, _, rfl, by simpa using h.symm⟩)))
    · cases h
  rw [if_neg h5] at h
  by_cases h6 : c = 20060 ∨ c = 20061 ∨ c = 20062
  · rw [if_pos h6] at h
    split at h
    · exact Or.inr (Or.inr (Or.inr (Or.inr (Or.inl ⟨h6, _, rfl, by simpa using h.symm⟩))))
    · cases h
  rw [if_neg h6] at h
  by_cases h7 : c = 10016 ∨ c = 10015
  · rw [if_pos h7] at h
    split at h
    · exact Or.inr (Or.inr (Or.inr (Or.inr (Or.inr ⟨h7, _, rfl, by simpa using h.symm⟩))))
    · cases h
  · rw [if_neg h7] at h; cases h
theorem evC_num {v : Nat → Int32} {st : List Int32} {k : Nat} (h : k < 10009) : evC v st (nI k) = (if k < 10000 then nI k else v (k - 10000)) :: st := by
  unfold evC
  rw [if_pos (show nI k < 10009 from nI_lt (b := 10009) h (by decide))]
  by_cases h1 : k < 10000
  · rw [if_pos (show nI k < 10000 from nI_lt (b := 10000) h1 (by decide)), if_pos h1]
  · rw [if_neg (show ¬ nI k < 10000 from nI_nlt (b := 10000) (by omega) (by omega)), if_neg h1, show nI k - 10000 = nI (k - 10000) from pk_sub (b := 10000) (by omega), nI_clamp (by omega)]
theorem evC_not {v : Nat → Int32} {a : Int32} {t : List Int32} : evC v (a :: t) 10017 = (1 - a) :: t := by
  unfold evC
  rw [if_neg (by decide), if_pos rfl]
theorem evC_part {v : Nat → Int32} {a : Int32} {t : List Int32} {k : Nat} (h0 : 0 < k) (h : k ≤ 9999) : evC v (a :: t) (nI (40000 + k)) = (a / nI k) :: t := by
  unfold evC
  rw [if_neg (show ¬ nI (40000 + k) < 10009 from nI_nlt (b := 10009) (by omega) (by omega)), if_neg (show ¬ nI (40000 + k) = 10017 from fun e => by have := (nI_eq (b := 10017) (by omega) (by decide)).mp e; omega), if_pos (show 40000 < nI (40000 + k) from nI_lt (a := 40000) (by omega) (by omega)), show nI (40000 + k) - 40000 = nI (40000 + k - 40000) from pk_sub (b := 40000) (by omega), show 40000 + k - 40000 = k by omega]
theorem evC_two {v : Nat → Int32} {a b c : Int32} {t : List Int32} (h : c ∈ [(20043 : Int32), 20045, 20042, 20060, 20061, 20062, 10016, 10015]) : evC v (b :: a :: t) c = jn c a b :: t := by
  have h1 : ∀ c ∈ [(20043 : Int32), 20045, 20042, 20060, 20061, 20062, 10016, 10015], ¬ c < 10009 ∧ ¬ c = 10017 ∧ ¬ 40000 < c := by decide
  obtain ⟨h2, h3, h4⟩ := h1 c h
  unfold evC
  rw [if_neg h2, if_neg h3, if_neg h4]
theorem evC_ty {v : Nat → Int32} {d e : List Bool} {c : Int32} {st : List Int32} (hd : depC d c = some e) (ht : Ty d st) : Ty e (evC v st c) := by
  rcases depC_of hd with ⟨k, rfl, hk, rfl⟩ | ⟨rfl, t, rfl, rfl⟩ | ⟨k, rfl, h0, hk, t, rfl, rfl⟩ | ⟨hc, t, rfl, rfl⟩ | ⟨hc, t, rfl, rfl⟩ | ⟨hc, t, rfl, rfl⟩
  · rw [evC_num hk]; exact ⟨fun h => (by cases h), ht⟩
  · obtain ⟨a, s, rfl, ha, hs⟩ := ty_1 ht
    rw [evC_not]; exact ⟨fun h => b01_not (ha h), hs⟩
  · obtain ⟨a, s, rfl, ha, hs⟩ := ty_1 ht
    rw [evC_part h0 hk]; exact ⟨fun h => (by cases h), hs⟩
  · obtain ⟨b, s, rfl, hb, hs⟩ := ty_1 ht
    obtain ⟨a, s, rfl, ha, hs⟩ := ty_1 hs
    rw [evC_two (by rcases hc with rfl | rfl | rfl <;> decide)]; exact ⟨fun h => (by cases h), hs⟩
  · obtain ⟨b, s, rfl, hb, hs⟩ := ty_1 ht
    obtain ⟨a, s, rfl, ha, hs⟩ := ty_1 hs
    rw [evC_two (by rcases hc with rfl | rfl | rfl <;> decide)]
    refine ⟨fun _ => ?_, hs⟩
    rcases hc with rfl | rfl | rfl
    · show (if b ≤ a then (0 : Int32) else 1) = 0 ∨ (if b ≤ a then (0 : Int32) else 1) = 1
      split <;> simp
    · show (if a = b then (1 : Int32) else 0) = 0 ∨ (if a = b then (1 : Int32) else 0) = 1
      split <;> simp
    · show (if a ≤ b then (0 : Int32) else 1) = 0 ∨ (if a ≤ b then (0 : Int32) else 1) = 1
      split <;> simp
  · obtain ⟨b, s, rfl, hb, hs⟩ := ty_1 ht
    obtain ⟨a, s, rfl, ha, hs⟩ := ty_1 hs
    rw [evC_two (by rcases hc with rfl | rfl <;> decide)]
    refine ⟨fun _ => ?_, hs⟩
    rcases hc with rfl | rfl
    · exact (b01_and (ha rfl) (hb rfl)).2
    · exact (b01_or (ha rfl) (hb rfl)).2
/-- a code, on the class's stack -/
theorem step_c {v : Nat → Int32} {d e : List Bool} {c : Int32} {st : List Int32} {M : IM} (hd : depC d c = some e) (ht : Ty d st) (hl : st.length ≤ 22) (hS : Stk (M 121) st) (hv : ∀ i : Nat, i < 9 → M 120 i = v i) :
    Ok (f_X0_step c (nI st.length) M) (fun r M1 => r = nI (evC v st c).length ∧ fr [121] M M1 ∧ Stk (M1 121) (evC v st c)) := by
  unfold f_X0_step
  rcases depC_of hd with ⟨k, rfl, hk, rfl⟩ | ⟨rfl, t, rfl, rfl⟩ | ⟨k, rfl, h0, hk, t, rfl, rfl⟩ | ⟨hc, t, rfl, rfl⟩ | ⟨hc, t, rfl, rfl⟩ | ⟨hc, t, rfl, rfl⟩
  · rw [evC_num hk]
    refine ok_f (nI_ge (b := 10009) hk (by decide)) (ok_t (nI_lt (b := 32) (by omega) (by decide)) ?_)
    by_cases h1 : k < 10000
    · refine ok_f (nI_ge (b := 10000) h1 (by decide)) (ok_wr st.length rfl (by omega) (by decide) (ok_s ⟨by rw [nI_1]; rfl, fr_ms fr_rf (by decide), ?_⟩))
      rw [ms_ro, if_pos h1]
      exact stk_push hS
    · refine ok_t (nI_le (a := 10000) (by omega) (by omega)) (ok_rd (k - 10000) (pk_sub (b := 10000) (by omega)) (by omega) (by decide) (ok_wr st.length rfl (by omega) (by decide) (ok_s ⟨by rw [nI_1]; rfl, fr_ms fr_rf (by decide), ?_⟩)))
      rw [ms_ro, if_neg h1, hv _ (by omega)]
      exact stk_push hS
  · obtain ⟨a, s, rfl, ha, hs⟩ := ty_1 ht
    rw [evC_not]
    refine ok_t (by decide) (ok_f (nI_nle (by simp) (by omega)) (ok_t rfl (ok_rd s.length (pk_sub (b := 1) (by simp)) (by simp at hl; omega) (by decide) (ok_wr s.length (pk_sub (b := 1) (by simp)) (by simp at hl; omega) (by decide) (ok_s ⟨rfl, fr_ms fr_rf (by decide), ?_⟩)))))
    rw [ms_ro, hS.1]
    exact stk_push hS.2
  · obtain ⟨a, s, rfl, ha, hs⟩ := ty_1 ht
    rw [evC_part h0 hk]
    have e1 : nI (40000 + k) - 40000 = nI k := by rw [show nI (40000 + k) - 40000 = nI (40000 + k - 40000) from pk_sub (b := 40000) (by omega), show 40000 + k - 40000 = k by omega]
    refine ok_t (nI_le (a := 10009) (by omega) (by omega)) (ok_f (nI_nle (by simp) (by omega)) (ok_f (fun e => by have := (nI_eq (b := 10017) (by omega) (by decide)).mp e; omega) ?_))
    unfold f_X0_step_77
    refine ok_f (nI_nle (by simp) (by omega)) (ok_f (nI_ge (a := 40000) (by omega) (by omega)) (ok_rd s.length (pk_sub (b := 1) (by simp)) (by simp at hl; omega) (by decide) (ok_dv (by rw [e1]; exact nI_ne0 h0 (by omega)) (ok_wr s.length (pk_sub (b := 1) (by simp)) (by simp at hl; omega) (by decide) (ok_s ⟨rfl, fr_ms fr_rf (by decide), ?_⟩)))))
    rw [ms_ro, hS.1, e1]
    exact stk_push hS.2
  all_goals
    obtain ⟨b, s, rfl, hb, hs⟩ := ty_1 ht
    obtain ⟨a, s, rfl, ha, hs⟩ := ty_1 hs
    have hm : c ∈ [(20043 : Int32), 20045, 20042, 20060, 20061, 20062, 10016, 10015] := by
      first | (rcases hc with h | h | h <;> subst h <;> decide) | (rcases hc with h | h <;> subst h <;> decide)
    have h1 : ∀ c ∈ [(20043 : Int32), 20045, 20042, 20060, 20061, 20062, 10016, 10015], 10009 ≤ c ∧ ¬ c = 10017 ∧ c ≤ 40000 := by decide
    obtain ⟨h2, h3, h4⟩ := h1 c hm
    rw [evC_two hm]
    refine ok_t h2 (ok_f (nI_nle (by simp) (by omega)) (ok_f h3 ?_))
    unfold f_X0_step_77
    refine ok_f (nI_nle (by simp) (by omega)) (ok_t h4 ?_)
    unfold f_X0_step_104
    simp only [List.length_cons] at hl
    have e2 : nI (b :: a :: s).length - 2 = nI s.length := by simp only [List.length_cons]; exact pk_sub (b := 2) (by omega)
    have e1 : nI (b :: a :: s).length - 1 = nI (s.length + 1) := by simp only [List.length_cons]; exact pk_sub (b := 1) (by omega)
    refine ok_t (nI_le (a := 2) (by simp only [List.length_cons]; omega) (by simp only [List.length_cons]; omega)) (ok_rd s.length e2 (by omega) (by decide) (ok_rd (s.length + 1) e1 (by omega) (by decide) (ok_c (joined_e _ _ _ _) (ok_wr s.length e2 (by omega) (by decide) (ok_s ⟨e1, fr_ms fr_rf (by decide), ?_⟩)))))
    rw [ms_ro, hS.2.1, show M 121 (s.length + 1) = b from hS.1]
    exact stk_push hS.2.2
