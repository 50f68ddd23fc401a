/-! how many walkers are missing, by a set of lines -/
def hdB (wa ck : Nat → Int32) (p : Nat → Bool) (w c : Nat) : Nat → Bool
  | 0 => false
  | i + 1 => hdB wa ck p w c i || (p i && (decide (wa i = nI w) && bt (ck i) c))
/-- how many of the first k walkers hold the clock c -/
def cnB (wa ck : Nat → Int32) (p : Nat → Bool) (n c k : Nat) : Nat := ctB (fun w => hdB wa ck p w c n) k
def lkN (wa ck : Nat → Int32) (p : Nat → Bool) (n L : Nat) : Nat := sm (fun c => L - cnB wa ck p n c 10) 24
def dsm (cn : Nat → Nat) : Nat → Nat
  | 0 => 0
  | j + 1 => dsm cn j + ctB (fun c => decide (j < cn c)) 24
theorem sm_step {cn : Nat → Nat} {L : Nat} : ∀ n : Nat, sm (fun c => L + 1 - cn c) n + ctB (fun c => decide (L < cn c)) n = sm (fun c => L - cn c) n + n
  | 0 => rfl
  | n + 1 => by
    have ih := sm_step (cn := cn) (L := L) n
    show sm (fun c => L + 1 - cn c) n + (L + 1 - cn n) + (if decide (L < cn n) = true then ctB (fun c => decide (L < cn c)) n + 1 else ctB (fun c => decide (L < cn c)) n) = sm (fun c => L - cn c) n + (L - cn n) + (n + 1)
    by_cases h : L < cn n
    · rw [if_pos (decide_eq_true h)]; omega
    · rw [if_neg (by simp [h])]; omega
theorem sm_zero : ∀ {c : Nat → Nat} (n : Nat), (∀ i : Nat, c i = 0) → sm c n = 0
  | _, 0, _ => rfl
  | c, n + 1, h => by
    show sm c n + c n = 0
    rw [sm_zero n h, h n]
theorem lk_sum (cn : Nat → Nat) : ∀ L : Nat, sm (fun c => L - cn c) 24 + dsm cn L = 24 * L
  | 0 => by
    rw [sm_zero 24 (fun i => by omega)]
    rfl
  | L + 1 => by
    have ih := lk_sum cn L
    have := sm_step (cn := cn) (L := L) 24
    show sm (fun c => L + 1 - cn c) 24 + (dsm cn L + ctB (fun c => decide (L < cn c)) 24) = 24 * (L + 1)
    omega
theorem dsm_mono {cn : Nat → Nat} {J L : Nat} (h : J ≤ L) : dsm cn J ≤ dsm cn L := by
  induction L with
  | zero =>
    have : J = 0 := by omega
    subst this
    exact Nat.le_refl _
  | succ L ih =>
    by_cases e : J = L + 1
    · subst e; exact Nat.le_refl _
    · have := ih (by omega)
      show dsm cn J ≤ dsm cn L + ctB (fun c => decide (L < cn c)) 24
      omega
def LnOk (C : IM) (n : Nat) : Prop := n ≤ 16 ∧ C 25 0 = nI n ∧ ∀ i : Nat, i < n → (∃ u : Nat, u < 10 ∧ C 26 i = nI u) ∧ ∀ c : Nat, 24 ≤ c → c < 32 → bt (C 27 i) c = false
section LACK
variable {C : IM} {n L S : Nat}
theorem hdB_big {p : Nat → Bool} {w c : Nat} (h : LnOk C n) (h1 : 24 ≤ c) (h2 : c < 32) : ∀ i : Nat, i ≤ n → hdB (C 26) (C 27) p w c i = false
  | 0, _ => rfl
  | i + 1, hi => by
    show (hdB (C 26) (C 27) p w c i || (p i && (decide (C 26 i = nI w) && bt (C 27 i) c))) = false
    rw [hdB_big h h1 h2 i (by omega), (h.2.2 i (by omega)).2 c h1 h2]
    simp
theorem fuse {a b : Bool} : (a || b) = true ↔ a = true ∨ b = true := by cases a <;> cases b <;> simp
theorem lack_c (h : LnOk C n) (hL : L ≤ 10) : Ok (f_X8_lacking 25 (nI S) (nI L) C) (fun r C1 => r = nI (lkN (C 26) (C 27) (fun i => S.testBit i) n L) ∧ fr [28, 29] C C1) := by
  obtain ⟨hn, en, hl⟩ := id h
  generalize hP : (fun i => S.testBit i) = P
  have hPi : ∀ i : Nat, S.testBit i = P i := fun i => by rw [← hP]
  let H : Nat → Nat → Bool := fun w c => hdB (C 26) (C 27) P w c n
  let cn : Nat → Nat → Nat := fun c k => ctB (fun w => H w c) k
  have hcn : ∀ c k : Nat, cn c (k + 1) = if H k c = true then cn c k + 1 else cn c k := fun _ _ => rfl
  have hbig : ∀ w c : Nat, 24 ≤ c → c < 32 → H w c = false := fun w c h1 h2 => hdB_big h h1 h2 n (Nat.le_refl _)
  -- what is missing
  have l4 : ∀ (f J : Nat) (X : IM), J ≤ L → L - J < f → (∀ j : Nat, j < L → ∀ c : Nat, c < 32 → bt (X 29 j) c = decide (j < cn c 10)) → fr [28, 29] C X → Ok (f_X8_lacking_138 25 f (nI L) (nI (24 * L - dsm (fun c => cn c 10) J)) (nI J) X) (fun r C1 => r = nI (lkN (C 26) (C 27) P n L) ∧ fr [28, 29] C C1) := by
    intro f
    induction f with
    | zero => intro J X _ h; omega
    | succ f ih =>
      intro J X hJ hf hD hX
      show Ok (f_X8_lacking_138_b 25 (f_X8_lacking_138 25 f) _ _ _ X) _
      unfold f_X8_lacking_138_b
      have hs := lk_sum (fun c => cn c 10) L
      by_cases e : J = L
      · subst e
        refine ok_t (nI_le (Nat.le_refl _) (by omega)) (ok_s ⟨?_, hX⟩)
        have : 24 * J - dsm (fun c => cn c 10) J = lkN (C 26) (C 27) P n J := by
          show _ = sm (fun c => J - cn c 10) 24
          omega
        rw [this]
      · have hb := bc_bt (x := X 29 J) (fun c h1 h2 => by
          rw [hD J (by omega) c h2]
          have : cn c 10 = 0 := by
            have : ∀ k : Nat, cn c k = 0 := by
              intro k
              induction k with
              | zero => rfl
              | succ k ih => rw [hcn, hbig k c h1 h2, if_neg (by decide), ih]
            exact this 10
          rw [this]
          simp)
        have ec : ctB (fun c => bt (X 29 J) c) 24 = ctB (fun c => decide (J < cn c 10)) 24 := ctB_congr (fun c hc => hD J (by omega) c (by omega))
        have hd : dsm (fun c => cn c 10) (J + 1) = dsm (fun c => cn c 10) J + ctB (fun c => decide (J < cn c 10)) 24 := rfl
        have hm := dsm_mono (cn := fun c => cn c 10) (show J + 1 ≤ L by omega)
        refine ok_f (nI_ge (by omega) (by omega)) (ok_rd J rfl (by omega) (by decide) (ok_c (bitCount_e _ _) (ok_lt (ok_lt ?_))))
        rw [hb.1, ec, nI_1, pk_sub (by omega)]
        have := ih (J + 1) X (by omega) (by omega) hD hX
        rwa [hd, ← Nat.sub_sub] at this
  -- one walker's clocks rise
  have l3 : ∀ (K : Int32 → Int32 → IM → IR) (w : Nat), w < 10 → ∀ (f J : Nat) (x : Int32) (X : IM), J ≤ L → L - J < f → (∀ c : Nat, c < 32 → bt x c = (H w c && decide (J ≤ cn c w))) → (∀ j : Nat, j < L → ∀ c : Nat, c < 32 → bt (X 29 j) c = if j < J then decide (j < cn c (w + 1)) else decide (j < cn c w)) → fr [29] X X → ∃ X', f_X8_lacking_79 25 K f (nI L) (nI w) x (nI J) X = K (nI L) (nI (w + 1)) X' ∧ (∀ j : Nat, j < L → ∀ c : Nat, c < 32 → bt (X' 29 j) c = decide (j < cn c (w + 1))) ∧ fr [29] X X' := by
    intro K w hw f
    induction f with
    | zero => intro J x X _ h; omega
    | succ f ih =>
      intro J x X hJ hf hx hD _
      have hstep : f_X8_lacking_79 25 K (f + 1) (nI L) (nI w) x (nI J) X = f_X8_lacking_79_b 25 K (f_X8_lacking_79 25 K f) (nI L) (nI w) x (nI J) X := rfl
      by_cases e : J = L
      · subst e
        refine ⟨X, ?_, fun j hj c hc => by rw [hD j hj c hc, if_pos hj], fr_rf⟩
        rw [hstep]
        unfold f_X8_lacking_79_b
        rw [if_pos (nI_le (Nat.le_refl _) (by omega))]
        simp only [lt]
        rw [nI_1]
      by_cases hz : x = 0
      · refine ⟨X, ?_, fun j hj c hc => ?_, fr_rf⟩
        · rw [hstep]
          unfold f_X8_lacking_79_b
          rw [if_neg (nI_ge (by omega) (by omega)), if_pos hz]
          simp only [lt]
          rw [nI_1]
        · rw [hD j hj c hc]
          by_cases hjJ : j < J
          · rw [if_pos hjJ]
          · rw [if_neg hjJ, hcn]
            have h0 := hx c hc
            rw [hz, b_0] at h0
            by_cases hH : H w c = true
            · rw [hH, Bool.true_and] at h0
              have h1 : ¬ J ≤ cn c w := fun q => by rw [decide_eq_true q] at h0; cases h0
              rw [if_pos hH]
              apply decide_eq_decide.mpr
              omega
            · rw [if_neg hH]
      · obtain ⟨X', g1, g2, g3⟩ := ih (J + 1) (X 29 J &&& x) (ms X 29 J (X 29 J ||| x)) (by omega) (by omega) (fun c hc => by
          rw [b_and, hD J (by omega) c hc, if_neg (Nat.lt_irrefl _), hx c hc]
          by_cases hH : H w c = true
          · rw [hH, Bool.true_and, Bool.true_and]
            by_cases h1 : J < cn c w
            · have h2 : J ≤ cn c w := by omega
              have h3 : J + 1 ≤ cn c w := by omega
              simp [h1, h2, h3]
            · have h3 : ¬ J + 1 ≤ cn c w := by omega
              simp [h1, h3]
          · simp [hH]) (fun j hj c hc => by
          rw [ms_ro]
          by_cases ej : j = J
          · subst ej
            rw [upd_s, if_pos (by omega), b_or, hD j hj c hc, if_neg (Nat.lt_irrefl _), hx c hc, hcn]
            by_cases hH : H w c = true
            · rw [hH, Bool.true_and, if_pos rfl]
              by_cases h1 : j < cn c w
              · have h2 : j < cn c w + 1 := by omega
                simp [h1, h2]
              · by_cases h4 : j ≤ cn c w
                · have h2 : j < cn c w + 1 := by omega
                  simp [h1, h2, h4]
                · have h2 : ¬ j < cn c w + 1 := by omega
                  simp [h1, h2, h4]
            · rw [if_neg hH]
              simp [hH]
          · rw [upd_n ej, hD j hj c hc]
            by_cases hjJ : j < J
            · rw [if_pos hjJ, if_pos (by omega)]
            · rw [if_neg hjJ, if_neg (by omega)]) fr_rf
        refine ⟨X', ?_, g2, fr_tr (fr_ms fr_rf (by simp)) g3⟩
        rw [hstep]
        unfold f_X8_lacking_79_b
        rw [if_neg (nI_ge (by omega) (by omega)), if_neg hz, rdK (j := J) rfl (by omega) (by decide)]
        simp only [lt]
        rw [rdK (j := J) rfl (by omega) (by decide), wrK (j := J) rfl (by omega) (by decide), nI_1]
        exact g1
  have l2 : ∀ (f w : Nat) (X : IM), w ≤ 10 → 10 - w < f → (∀ v : Nat, v < 10 → ∀ c : Nat, c < 32 → bt (X 28 v) c = H v c) → (∀ j : Nat, j < L → ∀ c : Nat, c < 32 → bt (X 29 j) c = decide (j < cn c w)) → fr [28, 29] C X → Ok (f_X8_lacking_62 25 f (nI L) (nI w) X) (fun r C1 => r = nI (lkN (C 26) (C 27) P n L) ∧ fr [28, 29] C C1) := by
    intro f
    induction f with
    | zero => intro w X _ h; omega
    | succ f ih =>
      intro w X hw hf hH hD hX
      show Ok (f_X8_lacking_62_b 25 (f_X8_lacking_62 25 f) (nI L) (nI w) X) _
      unfold f_X8_lacking_62_b
      by_cases e : w = 10
      · subst e
        refine ok_t (by decide) (ok_lt ?_)
        have := l4 BG 0 X (by omega) (by unfold BG; omega) hD hX
        rw [show (24 : Int32) * nI L = nI (24 * L) from pk_mul 24 L]
        exact this
      · refine ok_f (nI_ge (b := 10) (by omega) (by decide)) (ok_rd w rfl (by omega) (by decide) ?_)
        obtain ⟨X', g1, g2, g3⟩ := l3 (f_X8_lacking_62 25 f) w (by omega) BG 0 (X 28 w) X (by omega) (by unfold BG; omega) (fun c hc => by rw [hH w (by omega) c hc]; simp) (fun j hj c hc => by rw [hD j hj c hc, if_neg (Nat.not_lt_zero _)]) fr_rf
        have g1' : f_X8_lacking_79 25 (f_X8_lacking_62 25 f) BG (nI L) (nI w) (X 28 w) 0 X = f_X8_lacking_62 25 f (nI L) (nI (w + 1)) X' := g1
        show Ok (f_X8_lacking_79 25 (f_X8_lacking_62 25 f) BG (nI L) (nI w) (X 28 w) 0 X) _
        rw [g1']
        exact ih (w + 1) X' (by omega) (by omega) (fun v hv c hc => by rw [g3 28 (by decide)]; exact hH v hv c hc) g2 (fr_tr hX (fr_sub g3 (by simp)))
  have l1 : ∀ (f i : Nat) (X : IM), i ≤ n → n - i < f → (∀ v : Nat, v < 10 → ∀ c : Nat, c < 32 → bt (X 28 v) c = hdB (C 26) (C 27) P v c i) → fr [28, 29] C X → Ok (f_X8_lacking_10 25 f (nI S) (nI L) (nI i) X) (fun r C1 => r = nI (lkN (C 26) (C 27) P n L) ∧ fr [28, 29] C C1) := by
    intro f
    induction f with
    | zero => intro i X _ h; omega
    | succ f ih =>
      intro i X hi hf hH hX
      show Ok (f_X8_lacking_10_b 25 (f_X8_lacking_10 25 f) (nI S) (nI L) (nI i) X) _
      unfold f_X8_lacking_10_b
      rw [hX 25 (by decide), en]
      by_cases e : i = n
      · subst e
        obtain ⟨Y, y1, y2, y3⟩ := fill_e (o := 29) (n := 10) (v := 0) (by decide) X
        refine ok_t (nI_le (Nat.le_refl _) (by omega)) (ok_c y1 ?_)
        exact l2 BG 0 Y (by omega) (by unfold BG; omega) (fun v hv c hc => by rw [y3 28 (by decide)]; exact hH v hv c hc) (fun j hj c hc => by
          rw [y2 j (by omega), b_0]
          exact (decide_eq_false (Nat.not_lt_zero j)).symm) (fr_tr hX (fr_sub y3 (by simp)))
      · obtain ⟨⟨u, hu, eu⟩, hck⟩ := hl i (by omega)
        have hs : ∀ v c : Nat, hdB (C 26) (C 27) P v c (i + 1) = (hdB (C 26) (C 27) P v c i || (P i && (decide (C 26 i = nI v) && bt (C 27 i) c))) := fun _ _ => rfl
        refine ok_f (nI_ge (by omega) (by omega)) ?_
        rw [tst_n (by omega), hPi]
        by_cases hp : P i = true
        · rw [if_pos hp]
          refine ok_f (by decide) (ok_rv i (nI u) rfl (by omega) (by decide) (by rw [hX 26 (by decide)]; exact eu) (ok_rd u rfl hu (by decide) (ok_rv i (C 27 i) rfl (by omega) (by decide) (by rw [hX 27 (by decide)]) (ok_wr u rfl hu (by decide) (ok_lt ?_)))))
          rw [nI_1]
          refine ih (i + 1) _ (by omega) (by omega) (fun v hv c hc => ?_) (fr_ms hX (by simp))
          rw [ms_ro, hs, hp, Bool.true_and, eu]
          by_cases ev : v = u
          · subst ev
            rw [upd_s, b_or]
            have e2 : X (25 + 3) v = X 28 v := rfl
            rw [e2, hH v hv c hc]
            simp
          · rw [upd_n ev, decide_eq_false (fun z => ev ((nI_eq (by omega) (by omega)).mp z).symm)]
            have e2 : X (25 + 3) v = X 28 v := rfl
            rw [e2, hH v hv c hc]
            simp
        · rw [if_neg hp]
          refine ok_t rfl (ok_lt ?_)
          rw [nI_1]
          refine ih (i + 1) X (by omega) (by omega) (fun v hv c hc => ?_) hX
          rw [hs, hH v hv c hc]
          simp [hp]
  unfold f_X8_lacking
  obtain ⟨Y, y1, y2, y3⟩ := fill_e (o := 28) (n := 10) (v := 0) (by decide) C
  refine ok_c y1 ?_
  exact l1 BG 0 Y (by omega) (by unfold BG; omega) (fun v hv c hc => by rw [y2 v hv, b_0]; rfl) (fr_sub y3 (by simp))
end LACK
