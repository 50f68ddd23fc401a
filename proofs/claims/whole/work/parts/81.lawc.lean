/-! the class's laws: worth, holds, mayGo, amount -/
theorem depL_cons {d e : List Bool} {c : Int32} {t : List Int32} (h : depL d (c :: t) = some e) : ∃ d1, depC d c = some d1 ∧ d1.length ≤ 22 ∧ depL d1 t = some e := by
  unfold depL at h
  split at h
  · rename_i d1 h1
    split at h
    · exact ⟨d1, h1, by assumption, h⟩
    · cases h
  · cases h
theorem worth_c {v : Nat → Int32} {o n1 : Nat} {b : Bool} (ho : ¬ o = 121) (hn1 : n1 < 2 ^ 31) : ∀ (l : List Int32) (n p : Nat) (M : IM) (d : List Bool) (st : List Int32), depL d l = some [b] → Ty d st → st.length ≤ 22 → Stk (M 121) st → (∀ i : Nat, i < 9 → M 120 i = v i) → (∀ k : Nat, k < l.length → M o (p + k) = l.getD k 0) → p + l.length ≤ n1 → l.length < n →
    Ok (f_X0_worth_6 o n1 n (nI (p + l.length)) (nI st.length) (nI p) M) (fun r M1 => r = (l.foldl (evC v) st).headD 0 ∧ fr [121] M M1) := by
  intro l
  induction l with
  | nil =>
    intro n p M d st hd ht hl hS hv hc hp hn
    obtain ⟨m, rfl⟩ : ∃ m, n = m + 1 := ⟨n - 1, by simp at hn; omega⟩
    show Ok (f_X0_worth_6_b o n1 (f_X0_worth_6 o n1 m) (nI (p + 0)) (nI st.length) (nI p) M) _
    unfold f_X0_worth_6_b
    have e : d = [b] := by simpa [depL] using hd
    subst e
    obtain ⟨a, s, rfl, ha, hs⟩ := ty_1 ht
    cases s with
    | cons x y => exact hs.elim
    | nil =>
      refine ok_t (nI_le (by omega) (by simp at hp; omega)) (ok_rd 0 rfl (by decide) (by decide) (ok_s ⟨?_, fr_rf⟩))
      exact hS.1
  | cons c t ih =>
    intro n p M d st hd ht hl hS hv hc hp hn
    obtain ⟨m, rfl⟩ : ∃ m, n = m + 1 := ⟨n - 1, by omega⟩
    simp only [List.length_cons] at hp hn hc ⊢
    show Ok (f_X0_worth_6_b o n1 (f_X0_worth_6 o n1 m) (nI (p + (t.length + 1))) (nI st.length) (nI p) M) _
    unfold f_X0_worth_6_b
    obtain ⟨d1, h1, h2, h3⟩ := depL_cons hd
    have e0 : M o p = c := by have := hc 0 (by omega); simpa using this
    refine ok_f (nI_ge (by omega) (by omega)) (ok_rv p c rfl (by omega) hn1 e0 (ok_cl (step_c h1 ht hl hS hv) (fun r M1 h => ?_)))
    obtain ⟨rfl, hf, hS1⟩ := h
    refine ok_lt ?_
    rw [nI_1, show p + (t.length + 1) = (p + 1) + t.length by omega]
    have ht1 := evC_ty (v := v) h1 ht
    refine ok_mono (ih m (p + 1) M1 d1 (evC v st c) h3 ht1 (by rw [← ty_len ht1]; exact h2) hS1 (fun i hi => by rw [hf 120 (by decide)]; exact hv i hi) (fun k hk => ?_) (by omega) (by omega)) (fun r M2 h => ⟨h.1, fr_tr hf h.2⟩)
    rw [hf o (by simpa using ho), show p + 1 + k = p + (k + 1) by omega, hc (k + 1) (by omega)]
    rfl
def hold (v : Nat → Int32) (b : List Int32) : Bool := b.isEmpty || !(decide (evL v b = 0))
def gd (v : Nat → Int32) : List LLn → Bool
  | [] => true
  | x :: t => if hold v x.2.2 = true then decide (x.1 = 10009) else gd v t
def cl99 (x : Int32) : Int32 := if 0 ≤ x then (if x ≤ 99 then x else 99) else 0
def am (v : Nat → Int32) (w d : Int32) : List LLn → Int32
  | [] => d
  | x :: t => if x.1 = w ∧ hold v x.2.2 = true then cl99 (evL v x.2.1) else am v w d t
def dfl (w : Int32) : Int32 := if w = 10011 then 10 else if w = 10012 then 5 else 1
/-- a law's rows, as the class has them -/
def LwC (M : IM) (o i p : Nat) (t : List LLn) : Prop := M o 0 = nI (i + t.length) ∧ i + t.length ≤ 16 ∧ p + lnLen t ≤ 400 ∧ CLw (M (o + 1)) (M (o + 2)) (M (o + 3)) (M (o + 4)) (M (o + 5)) i p t
theorem LwC_fr {M M1 : IM} {o i p : Nat} {t : List LLn} {R : List Nat} (hR : ∀ q ∈ R, o + 5 < q) (hf : fr R M M1) (h : LwC M o i p t) : LwC M1 o i p t := by
  have e : ∀ q : Nat, q ≤ o + 5 → M1 q = M q := fun q hq => hf q (fun hm => by have := hR q hm; omega)
  unfold LwC at *
  rw [e o (by omega), e (o + 1) (by omega), e (o + 2) (by omega), e (o + 3) (by omega), e (o + 4) (by omega), e (o + 5) (by omega)]
  exact h
theorem lnLen_cons (x : LLn) (t : List LLn) : lnLen (x :: t) = x.2.1.length + x.2.2.length + lnLen t := by simp [lnLen]
theorem LwC_tail {M : IM} {o i p : Nat} {x : LLn} {t : List LLn} (h : LwC M o i p (x :: t)) : LwC M o (i + 1) (p + x.2.1.length + x.2.2.length) t := by
  obtain ⟨h1, h2, h3, h4⟩ := h
  obtain ⟨w, e, b⟩ := x
  rw [lnLen_cons] at h3
  simp only [List.length_cons] at h1 h2 h3
  exact ⟨by rw [h1]; congr 1; omega, by omega, by simp only; omega, h4.2.2.2.2.2.2⟩
/-- the codes of an amount or a condition, run -/
theorem run_c {v : Nat → Int32} {o : Nat} {b : Bool} {M : IM} {l : List Int32} {p : Nat} (ho : ¬ o = 121) (hd : depL [] l = some [b]) (hv : ∀ i : Nat, i < 9 → M 120 i = v i) (hc : ∀ k : Nat, k < l.length → M o (p + k) = l.getD k 0) (hp : p + l.length ≤ 400) : Ok (f_X0_worth o 400 (nI p) (nI (p + l.length)) M) (fun r M1 => r = evL v l ∧ fr [121] M M1) :=
  worth_c ho (by decide) l BG p M [] [] hd trivial (by decide) trivial hv hc hp (by unfold BG; omega)
theorem hold_nil {v : Nat → Int32} : hold v [] = true := rfl
theorem hold_cons {v : Nat → Int32} {b : List Int32} (h : ¬ b = []) : hold v b = !(decide (evL v b = 0)) := by
  cases b with
  | nil => exact absurd rfl h
  | cons a t => simp [hold]
theorem holds_c {v : Nat → Int32} {o i p : Nat} {M : IM} {x : LLn} {t : List LLn} {feet : Bool} (ho : o < 100) (hL : LwC M o i p (x :: t)) (hx : OkLn feet x) (hv : ∀ i : Nat, i < 9 → M 120 i = v i) : Ok (f_X0_holds o (nI i) M) (fun r M1 => r = (if hold v x.2.2 = true then 1 else 0) ∧ fr [121] M M1) := by
  obtain ⟨h1, h2, h3, h4⟩ := hL
  obtain ⟨w, e, b⟩ := x
  rw [lnLen_cons] at h3
  simp only [List.length_cons] at h1 h2 h3
  obtain ⟨c1, c2, c3, c4, c5, c6, -⟩ := h4
  unfold f_X0_holds
  refine ok_rv i _ rfl (by omega) (by decide) c3 (ok_rv i _ rfl (by omega) (by decide) c4 ?_)
  by_cases hb : b = []
  · subst hb
    exact ok_t rfl (ok_s ⟨rfl, fr_rf⟩)
  · have hb1 : 0 < b.length := List.length_pos_iff.mpr hb
    refine ok_f (fun q => by have := (nI_eq (by omega) (by omega)).mp q; omega) (ok_rv i _ rfl (by omega) (by decide) c3 (ok_rv i _ rfl (by omega) (by decide) c4 ?_))
    have hd : depL [] b = some [true] := hx.2.resolve_left hb
    refine ok_cl (run_c (o := o + 5) (by omega) hd hv c6 (by omega)) (fun r M1 h => ?_)
    obtain ⟨rfl, hf⟩ := h
    show Ok _ (fun r M1 => r = (if hold v b = true then 1 else 0) ∧ fr [121] M M1)
    rw [hold_cons hb]
    refine ok_if (fun q => ok_s ⟨by simp [q], hf⟩) (fun q => ok_s ⟨by simp [q], hf⟩)
theorem mayGo_l {v : Nat → Int32} {o : Nat} (ho : o < 100) : ∀ (t : List LLn) (n i p : Nat) (M : IM), LwC M o i p t → (∀ x ∈ t, OkLn false x) → (∀ i : Nat, i < 9 → M 120 i = v i) → t.length < n → Ok (f_X0_mayGo_2 o n (nI i) M) (fun r M1 => r = (if gd v t = true then 1 else 0) ∧ fr [121] M M1) := by
  intro t
  induction t with
  | nil =>
    intro n i p M hL hx hv hn
    obtain ⟨m, rfl⟩ : ∃ m, n = m + 1 := ⟨n - 1, by simp at hn; omega⟩
    show Ok (f_X0_mayGo_2_b o (f_X0_mayGo_2 o m) (nI i) M) _
    unfold f_X0_mayGo_2_b
    rw [hL.1]
    exact ok_t (nI_le (by simp) (by have := hL.2.1; omega)) (ok_s ⟨rfl, fr_rf⟩)
  | cons x t ih =>
    intro n i p M hL hx hv hn
    obtain ⟨m, rfl⟩ : ∃ m, n = m + 1 := ⟨n - 1, by omega⟩
    show Ok (f_X0_mayGo_2_b o (f_X0_mayGo_2 o m) (nI i) M) _
    unfold f_X0_mayGo_2_b
    have hl := hL.2.1
    rw [hL.1]
    simp only [List.length_cons] at hn hl
    refine ok_f (nI_ge (by simp) (by simp; omega)) (ok_cl (holds_c ho hL (hx x List.mem_cons_self) hv) (fun r M1 h => ?_))
    obtain ⟨rfl, hf⟩ := h
    have hL1 := LwC_fr (R := [121]) (by simp; omega) hf hL
    unfold gd
    by_cases hh : hold v x.2.2 = true
    · rw [if_pos hh]
      refine ok_f (by decide) (ok_rv i x.1 rfl (by omega) (by decide) hL1.2.2.2.1 ?_)
      rw [if_pos hh]
      exact ok_if (fun q => ok_s ⟨by simp [q], hf⟩) (fun q => ok_s ⟨by simp [q], hf⟩)
    · rw [if_neg hh]
      refine ok_t rfl (ok_lt ?_)
      rw [nI_1, if_neg hh]
      exact ok_mono (ih m (i + 1) _ M1 (LwC_tail hL1) (fun y hy => hx y (List.mem_cons_of_mem _ hy)) (fun i hi => by rw [hf 120 (by decide)]; exact hv i hi) (by omega)) (fun r M2 h => ⟨h.1, fr_tr hf h.2⟩)
theorem amount_l {v : Nat → Int32} {o : Nat} {w : Int32} (ho : o < 100) : ∀ (t : List LLn) (n i p : Nat) (M : IM), LwC M o i p t → (∀ x ∈ t, OkLn true x) → (∀ i : Nat, i < 9 → M 120 i = v i) → t.length < n → Ok (f_X0_amount_2 o n w (nI i) M) (fun r M1 => r = am v w (dfl w) t ∧ fr [121] M M1) := by
  intro t
  induction t with
  | nil =>
    intro n i p M hL hx hv hn
    obtain ⟨m, rfl⟩ : ∃ m, n = m + 1 := ⟨n - 1, by simp at hn; omega⟩
    show Ok (f_X0_amount_2_b o (f_X0_amount_2 o m) w (nI i) M) _
    unfold f_X0_amount_2_b
    rw [hL.1]
    refine ok_t (nI_le (by simp) (by have := hL.2.1; omega)) ?_
    unfold am dfl
    refine ok_if (fun q => ok_s ⟨by simp [q], fr_rf⟩) (fun q => ok_if (fun q2 => ok_s ⟨by simp [q, q2], fr_rf⟩) (fun q2 => ok_s ⟨by simp [q, q2], fr_rf⟩))
  | cons x t ih =>
    intro n i p M hL hx hv hn
    obtain ⟨m, rfl⟩ : ∃ m, n = m + 1 := ⟨n - 1, by omega⟩
    show Ok (f_X0_amount_2_b o (f_X0_amount_2 o m) w (nI i) M) _
    unfold f_X0_amount_2_b
    have hl := hL.2.1
    rw [hL.1]
    simp only [List.length_cons] at hn hl
    refine ok_f (nI_ge (by simp) (by simp; omega)) (ok_rv i x.1 rfl (by omega) (by decide) hL.2.2.2.1 ?_)
    unfold am
    refine ok_if (fun hw => ?_) (fun hw => ?_)
    · refine ok_cl (holds_c ho hL (hx x List.mem_cons_self) hv) (fun r M1 h => ?_)
      obtain ⟨rfl, hf⟩ := h
      have hL1 := LwC_fr (R := [121]) (by simp; omega) hf hL
      by_cases hh : hold v x.2.2 = true
      · rw [if_pos hh, if_pos (show x.1 = w ∧ hold v x.2.2 = true from ⟨hw, hh⟩)]
        obtain ⟨k1, k2, k3, k4⟩ := hL1
        obtain ⟨xw, e, b⟩ := x
        rw [lnLen_cons] at k3
        obtain ⟨c1, c2, c3, c4, c5, c6, -⟩ := k4
        simp only at k3
        have hd : depL [] e = some [false] := (hx (xw, e, b) List.mem_cons_self).1.2
        refine ok_f (by decide) (ok_rv i _ rfl (by omega) (by decide) c2 (ok_rv i _ rfl (by omega) (by decide) c3 (ok_cl (run_c (v := v) (o := o + 5) (by omega) hd (fun i hi => by rw [hf 120 (by decide)]; exact hv i hi) c5 (by omega)) (fun r M2 h => ?_))))
        obtain ⟨rfl, hf2⟩ := h
        have emin : f_J9_min_7cf53 99 (evL v e) M2 = some (if evL v e < 99 then evL v e else 99, M2) := by
          unfold f_J9_min_7cf53
          split <;> rfl
        have emax : ∀ y : Int32, f_J9_max_7cf53 0 y M2 = some (if 0 < y then y else 0, M2) := fun y => by
          unfold f_J9_max_7cf53
          split <;> rfl
        refine ok_c emin (ok_c (emax _) (ok_s ⟨?_, fr_tr hf hf2⟩))
        unfold cl99
        simp only [Int32.lt_iff_toInt_lt, Int32.le_iff_toInt_le, ← Int32.toInt_inj]
        have z0 : (0 : Int32).toInt = 0 := by decide
        have z9 : (99 : Int32).toInt = 99 := by decide
        repeat' split
        all_goals omega
      · rw [if_neg hh, if_neg (show ¬ (x.1 = w ∧ hold v x.2.2 = true) from fun q => hh q.2)]
        refine ok_t rfl (ok_lt ?_)
        rw [nI_1]
        exact ok_mono (ih m (i + 1) _ M1 (LwC_tail hL1) (fun y hy => hx y (List.mem_cons_of_mem _ hy)) (fun i hi => by rw [hf 120 (by decide)]; exact hv i hi) (by omega)) (fun r M2 h => ⟨h.1, fr_tr hf h.2⟩)
    · rw [if_neg (show ¬ (x.1 = w ∧ hold v x.2.2 = true) from fun q => hw q.1)]
      refine ok_lt ?_
      rw [nI_1]
      exact ih m (i + 1) _ M (LwC_tail hL) (fun y hy => hx y (List.mem_cons_of_mem _ hy)) hv (by omega)
