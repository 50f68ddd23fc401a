/-! the model's laws: runs, lineOf -/
def tw (c a b : Int32) : Int32 := if c = 2 then a + b else if c = 3 then a - b else if c = 4 then a * b else if c = 5 then a / b else if c = 6 then (if b ≤ a then 0 else 1) else if c = 7 then (if a = b then 1 else 0) else if c = 8 then (if a ≤ b then 0 else 1) else if c = 10 then a * b else if a + b ≤ 0 then 0 else 1
theorem two_e (c a b : Int32) (M : IM) (h : c = 5 → ¬ b = 0) : f_X12_twoOf c a b M = some (tw c a b, M) := by
  unfold f_X12_twoOf tw dv
  by_cases h5 : c = 5
  · subst h5
    have := h rfl
    simp [this]
  · repeat' split
    all_goals first | rfl | contradiction
section RUN1
variable {Q : Int32 → IM → Prop} {x1 x3 : Int32} {E n t p : Nat} {M : IM} {x : Int32}
theorem run_num (hE : 400 * x1 + x3 = nI E) (hp : p < E) (hE2 : E ≤ 1200) (ht : t < 420) (h0 : M 150 p = 0) (h1 : M 151 p = x) (h : Ok (f_X12_runs_12 n x1 x3 (nI (t + 1)) (nI (p + 1)) (ms M 156 t x)) Q) : Ok (f_X12_runs_12 (n + 1) x1 x3 (nI t) (nI p) M) Q := by
  show Ok (f_X12_runs_12_b (f_X12_runs_12 n) x1 x3 (nI t) (nI p) M) Q
  unfold f_X12_runs_12_b
  rw [hE]
  refine ok_f (nI_ge hp (by omega)) (ok_rv p 0 rfl (by omega) (by decide) h0 (ok_t rfl ?_))
  unfold f_X12_runs_45
  refine ok_rv p 0 rfl (by omega) (by decide) h0 (ok_t rfl (ok_rv p x rfl (by omega) (by decide) h1 ?_))
  unfold f_X12_runs_83
  refine ok_wr t rfl ht (by decide) (ok_lt (ok_lt ?_))
  rw [nI_1, nI_1]
  exact h
theorem run_ask {j : Nat} (hE : 400 * x1 + x3 = nI E) (hp : p < E) (hE2 : E ≤ 1200) (ht : t < 420) (h0 : M 150 p = 1) (h1 : M 151 p = nI j) (hj : j < 9) (hx : M 155 j = x) (h : Ok (f_X12_runs_12 n x1 x3 (nI (t + 1)) (nI (p + 1)) (ms M 156 t x)) Q) : Ok (f_X12_runs_12 (n + 1) x1 x3 (nI t) (nI p) M) Q := by
  show Ok (f_X12_runs_12_b (f_X12_runs_12 n) x1 x3 (nI t) (nI p) M) Q
  unfold f_X12_runs_12_b
  rw [hE]
  refine ok_f (nI_ge hp (by omega)) (ok_rv p 1 rfl (by omega) (by decide) h0 (ok_f (by decide) (ok_rv p 1 rfl (by omega) (by decide) h0 (ok_t rfl ?_))))
  unfold f_X12_runs_45
  refine ok_rv p 1 rfl (by omega) (by decide) h0 (ok_f (by decide) (ok_rv p (nI j) rfl (by omega) (by decide) h1 (ok_rv j x rfl hj (by decide) hx ?_)))
  unfold f_X12_runs_83
  refine ok_wr t rfl ht (by decide) (ok_lt (ok_lt ?_))
  rw [nI_1, nI_1]
  exact h
theorem run_not (hE : 400 * x1 + x3 = nI E) (hp : p < E) (hE2 : E ≤ 1200) (ht : t < 419) (h0 : M 150 p = 9) (hx : M 156 t = x) (h : Ok (f_X12_runs_12 n x1 x3 (nI (t + 1)) (nI (p + 1)) (ms M 156 t (1 - x))) Q) : Ok (f_X12_runs_12 (n + 1) x1 x3 (nI (t + 1)) (nI p) M) Q := by
  show Ok (f_X12_runs_12_b (f_X12_runs_12 n) x1 x3 (nI (t + 1)) (nI p) M) Q
  unfold f_X12_runs_12_b
  rw [hE]
  refine ok_f (nI_ge hp (by omega)) (ok_rv p 9 rfl (by omega) (by decide) h0 (ok_f (by decide) (ok_rv p 9 rfl (by omega) (by decide) h0 (ok_f (by decide) (ok_rv p 9 rfl (by omega) (by decide) h0 (ok_t rfl (ok_rv t x (nI_pred t) (by omega) (by decide) hx (ok_wr t (nI_pred t) (by omega) (by decide) (ok_lt ?_)))))))))
  rw [nI_1]
  exact h
theorem run_two {c a b : Int32} (hE : 400 * x1 + x3 = nI E) (hp : p < E) (hE2 : E ≤ 1200) (ht : t < 418) (h0 : M 150 p = c) (hc : ¬ c = 0 ∧ ¬ c = 1 ∧ ¬ c = 9) (ha : M 156 t = a) (hb : M 156 (t + 1) = b) (h5 : c = 5 → ¬ b = 0) (h : Ok (f_X12_runs_12 n x1 x3 (nI (t + 1)) (nI (p + 1)) (ms M 156 t (tw c a b))) Q) : Ok (f_X12_runs_12 (n + 1) x1 x3 (nI (t + 2)) (nI p) M) Q := by
  show Ok (f_X12_runs_12_b (f_X12_runs_12 n) x1 x3 (nI (t + 2)) (nI p) M) Q
  unfold f_X12_runs_12_b
  rw [hE]
  refine ok_f (nI_ge hp (by omega)) (ok_rv p c rfl (by omega) (by decide) h0 (ok_f hc.1 (ok_rv p c rfl (by omega) (by decide) h0 (ok_f hc.2.1 (ok_rv p c rfl (by omega) (by decide) h0 (ok_f hc.2.2 (ok_lt ?_)))))))
  rw [show nI (t + 2) - 1 = nI (t + 1) from nI_pred (t + 1)]
  refine ok_rv p c rfl (by omega) (by decide) h0 (ok_rv t a (nI_pred t) (by omega) (by decide) ha (ok_rv (t + 1) b rfl (by omega) (by decide) hb (ok_c (two_e c a b M h5) (ok_wr t (nI_pred t) (by omega) (by decide) (ok_lt ?_)))))
  rw [nI_1]
  exact h
end RUN1
theorem enc_num {k : Nat} (h : k < 10000) : encC (nI k) = [(0, nI k)] := by
  unfold encC
  rw [if_pos (show nI k < 10000 from nI_lt (b := 10000) h (by decide))]
theorem enc_ask {k : Nat} (h : ¬ k < 10000) (h2 : k < 10009) : encC (nI k) = [(1, nI (k - 10000))] := by
  unfold encC
  rw [if_neg (show ¬ nI k < 10000 from nI_nlt (b := 10000) (by omega) (by omega)), if_pos (show nI k < 10009 from nI_lt (b := 10009) h2 (by decide)), show nI k - 10000 = nI (k - 10000) from pk_sub (b := 10000) (by omega)]
theorem enc_part {k : Nat} (h0 : 0 < k) (h : k ≤ 9999) : encC (nI (40000 + k)) = [(0, nI k), (5, 0)] := by
  have ne : ∀ c : Nat, c < 40000 → ¬ nI (40000 + k) = nI c := fun c hc e => by have := (nI_eq (by omega) (by omega)).mp e; omega
  unfold encC
  rw [if_neg (show ¬ nI (40000 + k) < 10000 from nI_nlt (b := 10000) (by omega) (by omega)), if_neg (show ¬ nI (40000 + k) < 10009 from nI_nlt (b := 10009) (by omega) (by omega)), if_neg (show ¬ nI (40000 + k) = 20043 from ne 20043 (by decide)), if_neg (show ¬ nI (40000 + k) = 20045 from ne 20045 (by decide)), if_neg (show ¬ nI (40000 + k) = 20042 from ne 20042 (by decide)), if_pos (show 40000 < nI (40000 + k) from nI_lt (a := 40000) (by omega) (by omega)), show nI (40000 + k) - 40000 = nI (40000 + k - 40000) from pk_sub (b := 40000) (by omega), show 40000 + k - 40000 = k by omega]
theorem encL_cons (c : Int32) (t : List Int32) : encL (c :: t) = encC c ++ encL t := by simp [encL]
/-- the model's pairs from the place p on -/
def Prs (M : IM) (p : Nat) (L : List (Int32 × Int32)) : Prop := ∀ k : Nat, k < L.length → M 150 (p + k) = (L.getD k (0, 0)).1 ∧ M 151 (p + k) = (L.getD k (0, 0)).2
theorem prs_cons {M : IM} {p : Nat} {x : Int32 × Int32} {L : List (Int32 × Int32)} (h : Prs M p (x :: L)) : M 150 p = x.1 ∧ M 151 p = x.2 ∧ Prs M (p + 1) L := by
  have h0 := h 0 (by simp)
  refine ⟨by simpa using h0.1, by simpa using h0.2, fun k hk => ?_⟩
  have := h (k + 1) (by simp; omega)
  rw [show p + 1 + k = p + (k + 1) by omega]
  simpa using this
theorem prs_fr {M M1 : IM} {p : Nat} {L : List (Int32 × Int32)} (h0 : M1 150 = M 150) (h1 : M1 151 = M 151) (h : Prs M p L) : Prs M1 p L := by
  unfold Prs at *
  rw [h0, h1]
  exact h
theorem runs_l {v : Nat → Int32} {x1 x3 : Int32} {E : Nat} {b : Bool} (hE : 400 * x1 + x3 = nI E) (hE2 : E ≤ 1200) : ∀ (l : List Int32) (n p : Nat) (M : IM) (d : List Bool) (st : List Int32), depL d l = some [b] → Ty d st → st.length ≤ 22 → Stk (M 156) st → (∀ i : Nat, i < 9 → M 155 i = v i) → Prs M p (encL l) → p + (encL l).length = E → (encL l).length < n →
    Ok (f_X12_runs_12 n x1 x3 (nI st.length) (nI p) M) (fun r M1 => r = (l.foldl (evC v) st).headD 0 ∧ fr [156] M M1) := by
  intro l
  induction l with
  | nil =>
    intro n p M d st hd ht hl hS hv hc hp hn
    obtain ⟨m, rfl⟩ : ∃ m, n = m + 1 := ⟨n - 1, by omega⟩
    show Ok (f_X12_runs_12_b (f_X12_runs_12 m) x1 x3 (nI st.length) (nI p) M) _
    unfold f_X12_runs_12_b
    have e : d = [b] := by simpa [depL] using hd
    subst e
    have hp : p = E := by simpa [encL] using hp
    obtain ⟨a, s, rfl, ha, hs⟩ := ty_1 ht
    cases s with
    | cons x y => exact hs.elim
    | nil =>
      rw [hE]
      refine ok_t (nI_le (by omega) (by omega)) (ok_rd 0 rfl (by decide) (by decide) (ok_s ⟨?_, fr_rf⟩))
      exact hS.1
  | cons c t ih =>
    intro n p M d st hd ht hl hS hv hc hp hn
    obtain ⟨d1, h1, h2, h3⟩ := depL_cons hd
    have ht1 := evC_ty (v := v) h1 ht
    rw [encL_cons] at hc hp hn
    have fin : ∀ (m q : Nat) (M1 : IM), fr [156] M M1 → Stk (M1 156) (evC v st c) → Prs M1 q (encL t) → q + (encL t).length = E → (encL t).length < m → Ok (f_X12_runs_12 m x1 x3 (nI (evC v st c).length) (nI q) M1) (fun r M1 => r = ((c :: t).foldl (evC v) st).headD 0 ∧ fr [156] M M1) := fun m q M1 hf hS1 hp1 hq hm =>
      ok_mono (ih m q M1 d1 (evC v st c) h3 ht1 (by rw [← ty_len ht1]; exact h2) hS1 (fun i hi => by rw [hf 155 (by decide)]; exact hv i hi) hp1 hq hm) (fun r M2 h => ⟨h.1, fr_tr hf h.2⟩)
    rcases depC_of h1 with ⟨k, rfl, hk, rfl⟩ | ⟨rfl, u, rfl, rfl⟩ | ⟨k, rfl, h0, hk, u, rfl, rfl⟩ | ⟨hcc, u, rfl, rfl⟩ | ⟨hcc, u, rfl, rfl⟩ | ⟨hcc, u, rfl, rfl⟩
    · rw [evC_num hk] at fin
      by_cases hk1 : k < 10000
      · rw [enc_num hk1] at hc hp hn
        simp only [List.cons_append, List.nil_append, List.length_cons] at hc hp hn
        obtain ⟨c0, c1, c2⟩ := prs_cons hc
        obtain ⟨m, rfl⟩ : ∃ m, n = m + 1 := ⟨n - 1, by omega⟩
        rw [if_pos hk1] at fin
        refine run_num hE (by omega) hE2 (by omega) c0 c1 (fin m (p + 1) _ (fr_ms fr_rf (by decide)) (by rw [ms_ro]; exact stk_push hS) (prs_fr (ms_ne (by decide)) (ms_ne (by decide)) c2) (by omega) (by omega))
      · rw [enc_ask hk1 hk] at hc hp hn
        simp only [List.cons_append, List.nil_append, List.length_cons] at hc hp hn
        obtain ⟨c0, c1, c2⟩ := prs_cons hc
        obtain ⟨m, rfl⟩ : ∃ m, n = m + 1 := ⟨n - 1, by omega⟩
        rw [if_neg hk1] at fin
        refine run_ask hE (by omega) hE2 (by omega) c0 c1 (by omega) (hv _ (by omega)) (fin m (p + 1) _ (fr_ms fr_rf (by decide)) (by rw [ms_ro]; exact stk_push hS) (prs_fr (ms_ne (by decide)) (ms_ne (by decide)) c2) (by omega) (by omega))
    · obtain ⟨a, s, rfl, ha, hs⟩ := ty_1 ht
      rw [evC_not] at fin
      rw [show encC 10017 = [(9, 0)] by decide] at hc hp hn
      simp only [List.cons_append, List.nil_append, List.length_cons] at hc hp hn hl
      obtain ⟨c0, c1, c2⟩ := prs_cons hc
      obtain ⟨m, rfl⟩ : ∃ m, n = m + 1 := ⟨n - 1, by omega⟩
      refine run_not hE (by omega) hE2 (by omega) c0 hS.1 (fin m (p + 1) _ (fr_ms fr_rf (by decide)) (by rw [ms_ro]; exact stk_push hS.2) (prs_fr (ms_ne (by decide)) (ms_ne (by decide)) c2) (by omega) (by omega))
    · obtain ⟨a, s, rfl, ha, hs⟩ := ty_1 ht
      rw [evC_part h0 hk] at fin
      rw [enc_part h0 hk] at hc hp hn
      simp only [List.cons_append, List.nil_append, List.length_cons] at hc hp hn hl
      obtain ⟨c0, c1, c2⟩ := prs_cons hc
      obtain ⟨c3, c4, c5⟩ := prs_cons c2
      obtain ⟨m, rfl⟩ : ∃ m, n = m + 1 + 1 := ⟨n - 2, by omega⟩
      have hm := stk_push (a := nI k) hS
      refine run_num hE (by omega) hE2 (by simp only [List.length_cons]; omega) c0 c1 ?_
      simp only [List.length_cons]
      refine run_two (c := 5) (a := a) (b := nI k) hE (by omega) hE2 (by omega) (by rw [ms_ne (by decide)]; exact c3) (by decide) (by rw [ms_at (by omega)]; exact hS.1) ms_it (fun _ => nI_ne0 h0 (by omega)) (fin m (p + 1 + 1) _ (fr_ms (fr_ms fr_rf (by decide)) (by decide)) ?_ (prs_fr ?_ ?_ c5) (by omega) (by omega))
      · rw [ms_ro]
        refine stk_push (stk_fr (fun k hk => ?_) hS.2)
        rw [ms_at (by omega)]
      · rw [ms_ne (by decide), ms_ne (by decide)]
      · rw [ms_ne (by decide), ms_ne (by decide)]
    all_goals
      obtain ⟨b2, s, rfl, hb, hs⟩ := ty_1 ht
      obtain ⟨a, s, rfl, ha, hs⟩ := ty_1 hs
      have hm : c ∈ [(20043 : Int32), 20045, 20042, 20060, 20061, 20062, 10016, 10015] := by
        first | (rcases hcc with h | h | h <;> subst h <;> decide) | (rcases hcc with h | h <;> subst h <;> decide)
      rw [evC_two hm] at fin
      have hq : ∃ c2 : Int32, encC c = [(c2, 0)] ∧ (¬ c2 = 0 ∧ ¬ c2 = 1 ∧ ¬ c2 = 9) ∧ ¬ c2 = 5 ∧ tw c2 a b2 = jn c a b2 := by
        first
        | (rcases hcc with h | h | h <;> subst h
           · exact ⟨2, by decide, by decide, by decide, rfl⟩
           · exact ⟨3, by decide, by decide, by decide, rfl⟩
           · exact ⟨4, by decide, by decide, by decide, rfl⟩)
        | (rcases hcc with h | h | h <;> subst h
           · exact ⟨6, by decide, by decide, by decide, rfl⟩
           · exact ⟨7, by decide, by decide, by decide, rfl⟩
           · exact ⟨8, by decide, by decide, by decide, rfl⟩)
        | (rcases hcc with h | h <;> subst h
           · exact ⟨10, by decide, by decide, by decide, (b01_and (ha rfl) (hb rfl)).1.symm⟩
           · exact ⟨11, by decide, by decide, by decide, (b01_or (ha rfl) (hb rfl)).1.symm⟩)
      obtain ⟨c2, q1, q2, q3, q4⟩ := hq
      rw [q1] at hc hp hn
      simp only [List.cons_append, List.nil_append, List.length_cons] at hc hp hn hl
      obtain ⟨c0, c1, c3⟩ := prs_cons hc
      obtain ⟨m, rfl⟩ : ∃ m, n = m + 1 := ⟨n - 1, by omega⟩
      refine run_two (c := c2) (a := a) (b := b2) hE (by omega) hE2 (by omega) c0 q2 hS.2.1 hS.1 (fun h => absurd h q3) (fin m (p + 1) _ (fr_ms fr_rf (by decide)) ?_ (prs_fr (ms_ne (by decide)) (ms_ne (by decide)) c3) (by omega) (by omega))
      rw [ms_ro, q4]
      exact stk_push hS.2.2
/-- a law's rows, as the model has them -/
def LwM (M : IM) (g i p : Nat) (t : List LLn) : Prop := M 145 g = nI (i + t.length) ∧ i + t.length ≤ 16 ∧ p + lnEnc t ≤ 400 ∧ MLw (fun i => M 146 (16 * g + i)) (fun i => M 147 (16 * g + i)) (fun i => M 148 (16 * g + i)) (fun i => M 149 (16 * g + i)) (fun i => M 150 (400 * g + i)) (fun i => M 151 (400 * g + i)) i p t
theorem LwM_fr {M M1 : IM} {g i p : Nat} {t : List LLn} {R : List Nat} (hR : ∀ q ∈ R, q < 145 ∨ 151 < q) (hf : fr R M M1) (h : LwM M g i p t) : LwM M1 g i p t := by
  have e : ∀ q : Nat, 145 ≤ q → q ≤ 151 → M1 q = M q := fun q hq hq2 => hf q (fun hm => by have := hR q hm; omega)
  unfold LwM at *
  rw [e 145 (by omega) (by omega), e 146 (by omega) (by omega), e 147 (by omega) (by omega), e 148 (by omega) (by omega), e 149 (by omega) (by omega), e 150 (by omega) (by omega), e 151 (by omega) (by omega)]
  exact h
theorem lnEnc_cons (x : LLn) (t : List LLn) : lnEnc (x :: t) = (encL x.2.1).length + (encL x.2.2).length + lnEnc t := by simp [lnEnc]
theorem LwM_tail {M : IM} {g i p : Nat} {x : LLn} {t : List LLn} (h : LwM M g i p (x :: t)) : LwM M g (i + 1) (p + (encL x.2.1).length + (encL x.2.2).length) t := by
  obtain ⟨h1, h2, h3, h4⟩ := h
  obtain ⟨w, e, b⟩ := x
  rw [lnEnc_cons] at h3
  simp only [List.length_cons] at h1 h2 h3
  exact ⟨by rw [h1]; congr 1; omega, by omega, by simp only; omega, h4.2.2.2.2.2.2⟩
theorem run_m {v : Nat → Int32} {g : Nat} {b : Bool} {M : IM} {l : List Int32} {p : Nat} (hg : g < 2) (hd : depL [] l = some [b]) (hv : ∀ i : Nat, i < 9 → M 155 i = v i) (hc : ∀ k : Nat, k < (encL l).length → M 150 (400 * g + (p + k)) = ((encL l).getD k (0, 0)).1 ∧ M 151 (400 * g + (p + k)) = ((encL l).getD k (0, 0)).2) (hp : p + (encL l).length ≤ 400) : Ok (f_X12_runs (nI g) (nI p) (nI (p + (encL l).length)) M) (fun r M1 => r = evL v l ∧ fr [156] M M1) := by
  unfold f_X12_runs
  refine ok_lt ?_
  have e1 : ∀ q : Nat, 400 * nI g + nI q = nI (400 * g + q) := fun q => mul_add 400 g q
  rw [e1]
  exact runs_l (E := 400 * g + (p + (encL l).length)) (e1 _) (by omega) l BG (400 * g + p) M [] [] hd trivial (by decide) trivial hv (fun k hk => by rw [Nat.add_assoc]; exact hc k hk) (by omega) (by unfold BG; omega)
theorem enc_ne {b : List Int32} (h : ¬ b = []) : 0 < (encL b).length := by
  cases b with
  | nil => exact absurd rfl h
  | cons c t =>
    rw [encL_cons, List.length_append]
    have : 0 < (encC c).length := by
      unfold encC
      repeat' split
      all_goals simp
    omega
/-- the selector of a line -/
def selL (v : Nat → Int32) (w : Int32) (x : LLn) : Bool := (decide (w = -1) || decide (x.1 - 10009 = w)) && hold v x.2.2
theorem lineOf_l {v : Nat → Int32} {g : Nat} {w : Int32} {feet : Bool} (hg : g < 2) : ∀ (t : List LLn) (n i p : Nat) (M : IM), LwM M g i p t → (∀ x ∈ t, OkLn feet x) → (∀ i : Nat, i < 9 → M 155 i = v i) → t.length < n → Ok (f_X12_lineOf_2 n (nI g) w (nI i) M) (fun r M1 => fr [156] M M1 ∧ ((r = -1 ∧ t.find? (selL v w) = none) ∨ ∃ k p x s, r = nI (16 * g + k) ∧ LwM M g k p (x :: s) ∧ t.find? (selL v w) = some x)) := by
  intro t
  induction t with
  | nil =>
    intro n i p M hL hx hv hn
    obtain ⟨m, rfl⟩ : ∃ m, n = m + 1 := ⟨n - 1, by simp at hn; omega⟩
    show Ok (f_X12_lineOf_2_b (f_X12_lineOf_2 m) (nI g) w (nI i) M) _
    unfold f_X12_lineOf_2_b
    refine ok_rv g _ rfl hg (by decide) hL.1 (ok_t (nI_le (by simp) (by have := hL.2.1; omega)) (ok_s ⟨fr_rf, Or.inl ⟨rfl, rfl⟩⟩))
  | cons x t ih =>
    intro n i p M hL hx hv hn
    obtain ⟨m, rfl⟩ : ∃ m, n = m + 1 := ⟨n - 1, by omega⟩
    show Ok (f_X12_lineOf_2_b (f_X12_lineOf_2 m) (nI g) w (nI i) M) _
    unfold f_X12_lineOf_2_b
    have hl := hL.2.1
    simp only [List.length_cons] at hn hl
    have el : (16 : Int32) * nI g + nI i = nI (16 * g + i) := mul_add 16 g i
    refine ok_rv g _ rfl hg (by decide) hL.1 (ok_f (nI_ge (by simp) (by simp; omega)) (ok_lt ?_))
    rw [el]
    have next : ∀ M1, fr [156] M M1 → selL v w x = false → Ok (f_X12_lineOf_2 m (nI g) w (nI i + 1) M1) (fun r M1 => fr [156] M M1 ∧ ((r = -1 ∧ (x :: t).find? (selL v w) = none) ∨ ∃ k p y s, r = nI (16 * g + k) ∧ LwM M g k p (y :: s) ∧ (x :: t).find? (selL v w) = some y)) := fun M1 hf hs => by
      rw [nI_1, List.find?_cons_of_neg (by rw [hs]; decide)]
      refine ok_mono (ih m (i + 1) _ M1 (LwM_fr (R := [156]) (by simp) hf (LwM_tail hL)) (fun y hy => hx y (List.mem_cons_of_mem _ hy)) (fun i hi => by rw [hf 155 (by decide)]; exact hv i hi) (by omega)) (fun r M2 h => ⟨fr_tr hf h.1, ?_⟩)
      rcases h.2 with h | ⟨k, p, y, s, h1, h2, h3⟩
      · exact Or.inl h
      · exact Or.inr ⟨k, p, y, s, h1, LwM_fr (M := M1) (R := [156]) (by simp) (fun q hq => (hf q hq).symm) h2, h3⟩
    have hL' := hL
    obtain ⟨h1, h2, h3, h4⟩ := hL
    obtain ⟨xw, e, b⟩ := x
    rw [lnEnc_cons] at h3
    simp only at h3
    obtain ⟨c1, c2, c3, c4, c5, c6, -⟩ := h4
    have body : (w = -1 ∨ xw - 10009 = w) → Ok (f_X12_lineOf_36 (f_X12_lineOf_2 m) (nI g) w (nI i) (nI (16 * g + i)) M) (fun r M1 => fr [156] M M1 ∧ ((r = -1 ∧ ((xw, e, b) :: t).find? (selL v w) = none) ∨ ∃ k p y s, r = nI (16 * g + k) ∧ LwM M g k p (y :: s) ∧ ((xw, e, b) :: t).find? (selL v w) = some y)) := fun hw => by
      have hsel : selL v w (xw, e, b) = hold v b := by
        unfold selL
        rcases hw with h | h <;> simp [h]
      unfold f_X12_lineOf_36
      refine ok_rv (16 * g + i) _ rfl (by omega) (by decide) c3 (ok_rv (16 * g + i) _ rfl (by omega) (by decide) c4 ?_)
      by_cases hb : b = []
      · subst hb
        exact ok_t rfl (ok_s ⟨fr_rf, Or.inr ⟨i, p, _, t, rfl, hL', List.find?_cons_of_pos (by rw [hsel]; rfl)⟩⟩)
      · have hb1 := enc_ne hb
        refine ok_f (fun q => by have := (nI_eq (by omega) (by omega)).mp q; omega) (ok_rv (16 * g + i) _ rfl (by omega) (by decide) c3 (ok_rv (16 * g + i) _ rfl (by omega) (by decide) c4 ?_))
        have hd : depL [] b = some [true] := (hx _ List.mem_cons_self).2.resolve_left hb
        refine ok_cl (run_m hg hd hv c6 (by omega)) (fun r M1 h => ?_)
        obtain ⟨rfl, hf⟩ := h
        rw [hold_cons hb] at hsel
        refine ok_if (fun q => ok_lt (next M1 hf (by rw [hsel]; simp [q]))) (fun q => ok_s ⟨hf, Or.inr ⟨i, p, _, t, rfl, hL', List.find?_cons_of_pos (by rw [hsel]; simp [q])⟩⟩)
    refine ok_if (fun hw => body (Or.inl hw)) (fun hw => ok_rv (16 * g + i) _ rfl (by omega) (by decide) c1 (ok_if (fun hw2 => body (Or.inr hw2)) (fun hw2 => ok_lt (next M fr_rf ?_))))
    unfold selL
    simp [hw, hw2]
theorem am_find {v : Nat → Int32} {w w' d : Int32} (hw : ¬ w' = -1) (hww : ∀ x : Int32, (x - 10009 = w') ↔ (x = w)) : ∀ t : List LLn, am v w d t = (match t.find? (selL v w') with
    | none => d
    | some x => cl99 (evL v x.2.1))
  | [] => rfl
  | x :: t => by
    unfold am
    by_cases h : x.1 = w ∧ hold v x.2.2 = true
    · rw [if_pos h, List.find?_cons_of_pos (by unfold selL; simp [hw, (hww x.1).mpr h.1, h.2])]
    · rw [if_neg h, List.find?_cons_of_neg, am_find hw hww t]
      unfold selL
      intro q
      simp [hw] at q
      exact h ⟨(hww _).mp q.1, q.2⟩
theorem gd_find {v : Nat → Int32} : ∀ t : List LLn, gd v t = (match t.find? (selL v (-1)) with
    | none => true
    | some x => decide (x.1 = 10009))
  | [] => rfl
  | x :: t => by
    unfold gd
    by_cases h : hold v x.2.2 = true
    · rw [if_pos h, List.find?_cons_of_pos (by unfold selL; simp [h])]
    · rw [if_neg h, List.find?_cons_of_neg, gd_find t]
      unfold selL
      intro q
      simp at q
      exact h q
