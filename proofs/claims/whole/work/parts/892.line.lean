/-! line -/
def updN (a : Nat → Nat) (k v : Nat) : Nat → Nat := fun i => if i = k then v else a i
theorem updN_s {a : Nat → Nat} {k v : Nat} : updN a k v k = v := if_pos rfl
theorem updN_n {a : Nat → Nat} {k v i : Nat} (h : ¬ i = k) : updN a k v i = a i := if_neg h
/-- w goes into the row a, from the place p down -/
def insF (fe : Nat → Int32) (w : Nat) : Nat → (Nat → Nat) → Nat → Nat
  | 0, a => updN a 0 w
  | p + 1, a => if fe w < fe (a p) then insF fe w p (updN a (p + 1) (a p)) else updN a (p + 1) w
def srt (sn : Nat → Bool) (fe : Nat → Int32) : Nat → Nat × (Nat → Nat)
  | 0 => (0, fun _ => 0)
  | w + 1 => if sn w = true then ((srt sn fe w).1 + 1, insF fe w (srt sn fe w).1 (srt sn fe w).2) else srt sn fe w
/-- how many of the first w -/
def ctB (p : Nat → Bool) : Nat → Nat
  | 0 => 0
  | w + 1 => if p w = true then ctB p w + 1 else ctB p w
theorem insF_lt {fe : Nat → Int32} {w m : Nat} : ∀ (p : Nat) (a : Nat → Nat), p ≤ m → (∀ i : Nat, i ≤ m → ¬ i = p → a i < w + 1) → ∀ i : Nat, i ≤ m → insF fe w p a i < w + 1
  | 0, a, _, h, i, hi => by
    unfold insF
    by_cases e : i = 0
    · rw [e, updN_s]; omega
    · rw [updN_n e]; exact h i hi e
  | p + 1, a, hp, h, i, hi => by
    unfold insF
    split
    · refine insF_lt p _ (by omega) (fun j hj hne => ?_) i hi
      by_cases e : j = p + 1
      · rw [e, updN_s]; exact h p (by omega) (by omega)
      · rw [updN_n e]; exact h j hj e
    · by_cases e : i = p + 1
      · rw [e, updN_s]; omega
      · rw [updN_n e]; exact h i hi e
theorem srt_ok {sn : Nat → Bool} {fe : Nat → Int32} : ∀ w : Nat, (srt sn fe w).1 = ctB sn w ∧ ∀ i : Nat, i < (srt sn fe w).1 → (srt sn fe w).2 i < w
  | 0 => ⟨rfl, fun i hi => by simp [srt] at hi⟩
  | w + 1 => by
    obtain ⟨h1, h2⟩ := srt_ok (sn := sn) (fe := fe) w
    unfold srt ctB
    by_cases q : sn w = true
    · rw [if_pos q, if_pos q]
      refine ⟨by rw [h1], fun i hi => ?_⟩
      exact insF_lt (m := (srt sn fe w).1) _ _ (Nat.le_refl _) (fun j hj hne => by have := h2 j (by omega); omega) i (by simp only at hi; omega)
    · rw [if_neg q, if_neg q]
      exact ⟨h1, fun i hi => by have := h2 i hi; omega⟩
theorem ctB_le {p : Nat → Bool} : ∀ w : Nat, ctB p w ≤ w
  | 0 => Nat.le_refl _
  | w + 1 => by
    have := ctB_le (p := p) w
    unfold ctB
    split <;> omega
theorem ctB_mono {p : Nat → Bool} {w v : Nat} (h : w ≤ v) : ctB p w ≤ ctB p v := by
  induction v with
  | zero =>
    have : w = 0 := by omega
    subst this
    exact Nat.le_refl _
  | succ v ih =>
    by_cases e : w = v + 1
    · subst e; exact Nat.le_refl _
    · have := ih (by omega)
      show ctB p w ≤ (if p v = true then ctB p v + 1 else ctB p v)
      split <;> omega
theorem ctB_s {p : Nat → Bool} {w : Nat} (h : p w = true) : ctB p (w + 1) = ctB p w + 1 := by
  show (if p w = true then ctB p w + 1 else ctB p w) = _
  rw [if_pos h]
theorem ctB_n {p : Nat → Bool} {w : Nat} (h : ¬ p w = true) : ctB p (w + 1) = ctB p w := by
  show (if p w = true then ctB p w + 1 else ctB p w) = _
  rw [if_neg h]
set_option maxRecDepth 100000 in
theorem pc_add : ∀ n : Nat, n < 10 → ∀ k : Nat, k < 2 ^ n → pcF 32 (k + 2 ^ n) = pcF 32 k + 1 := by decide +kernel
theorem mk_pc {p : Nat → Bool} : ∀ n : Nat, n ≤ 10 → ∃ k : Nat, k < 2 ^ n ∧ mk p n = nI k ∧ pcF 32 k = ctB p n
  | 0, _ => ⟨0, by decide, rfl, (by decide : pcF 32 0 = 0)⟩
  | n + 1, h => by
    obtain ⟨k, hk, ek, ep⟩ := mk_pc (p := p) n (by omega)
    obtain ⟨k2, hk2, ek2⟩ := mk_n (p := p) (n + 1) h
    have h2 : 2 ^ (n + 1) = 2 ^ n + 2 ^ n := by rw [Nat.pow_succ]; omega
    have h10 : 2 ^ n ≤ 2 ^ 9 := Nat.pow_le_pow_right (by decide) (by omega)
    by_cases hp : p n = true
    · refine ⟨k + 2 ^ n, by omega, ?_, by rw [pc_add n (by omega) k hk, ctB_s hp, ep]⟩
      apply b_ext
      intro i hi
      rw [bt_mk (by omega) hi, bt_n hi, Nat.add_comm k (2 ^ n), show 2 ^ n + k = 2 ^ n * 1 + k by omega, Nat.testBit_two_pow_mul_add 1 hk i]
      have hb := bt_mk (p := p) (n := n) (by omega) hi
      rw [ek, bt_n hi] at hb
      by_cases h1 : i < n
      · rw [if_pos h1, hb]
        have : i < n + 1 := by omega
        simp [h1, this]
      · rw [if_neg h1]
        by_cases h3 : i = n
        · subst h3; simp [hp]
        · have h4 : ¬ i < n + 1 := by omega
          rw [decide_eq_false h4, Bool.false_and]
          exact (Nat.testBit_lt_two_pow (Nat.lt_of_lt_of_le (show 1 < 2 ^ 1 by decide) (Nat.pow_le_pow_right (by decide) (by omega)))).symm
    · refine ⟨k, by omega, ?_, by rw [ctB_n hp, ep]⟩
      unfold mk
      rw [if_neg hp]
      exact ek
/-- the row in M at o holds the first m of a -/
def Rw (M : IM) (o m : Nat) (a : Nat → Nat) : Prop := ∀ i : Nat, i < m → M o i = nI (a i)
section LINE
variable {C D : IM} {n : Nat} {g : Int32} {sn lm : Nat → Bool}
theorem put_l {w m : Nat} (hw : w < 10) (hm : m < 10) : ∀ (p f : Nat) (M : IM) (a : Nat → Nat), p ≤ m → p < f → (∀ i : Nat, i ≤ m → ¬ i = p → M 135 i = nI (a i)) → (∀ i : Nat, i ≤ m → ¬ i = p → a i < 10) → ∃ M', f_X11_putByFeet_2 f (nI w) (nI p) M = some (0, M') ∧ (∀ i : Nat, i ≤ m → M' 135 i = nI (insF (M 4) w p a i)) ∧ fr [135] M M' := by
  intro p
  induction p with
  | zero =>
    intro f M a hp hf hM ha
    obtain ⟨x, rfl⟩ : ∃ x, f = x + 1 := ⟨f - 1, by omega⟩
    refine ⟨ms M 135 0 (nI w), ?_, fun i hi => ?_, fr_ms fr_rf (by simp)⟩
    · show f_X11_putByFeet_2_b (f_X11_putByFeet_2 x) (nI w) (nI 0) M = _
      unfold f_X11_putByFeet_2_b
      rw [if_pos (by decide), wrK (j := 0) rfl (by decide) (by decide)]
    · rw [ms_ro]
      unfold insF
      by_cases e : i = 0
      · subst e; rw [upd_s, updN_s]
      · rw [upd_n e, updN_n e]; exact hM i hi e
  | succ p ih =>
    intro f M a hp hf hM ha
    obtain ⟨x, rfl⟩ : ∃ x, f = x + 1 := ⟨f - 1, by omega⟩
    have hap := ha p (by omega) (by omega)
    have e1 : nI (p + 1) - 1 = nI p := nI_pred p
    have hb : f_X11_putByFeet_2 (x + 1) (nI w) (nI (p + 1)) M = if M 4 (a p) ≤ M 4 w then some (0, ms M 135 (p + 1) (nI w)) else f_X11_putByFeet_2 x (nI w) (nI p) (ms M 135 (p + 1) (nI (a p))) := by
      show f_X11_putByFeet_2_b (f_X11_putByFeet_2 x) _ _ M = _
      unfold f_X11_putByFeet_2_b
      rw [if_neg (nI_nle (by omega) (by omega)), rdK (j := p) e1 (by omega) (by decide), hM p (by omega) (by omega), rdK (j := a p) rfl hap (by decide), rdK (j := w) rfl hw (by decide)]
      by_cases q : M 4 (a p) ≤ M 4 w
      · rw [if_pos q, if_pos q, wrK (j := p + 1) rfl (by omega) (by decide)]
      · rw [if_neg q, if_neg q, rdK (j := p) e1 (by omega) (by decide), hM p (by omega) (by omega), wrK (j := p + 1) rfl (by omega) (by decide)]
        simp only [lt]
        rw [pk_m1]
    unfold insF
    by_cases q : M 4 (a p) ≤ M 4 w
    · refine ⟨ms M 135 (p + 1) (nI w), by rw [hb, if_pos q], fun i hi => ?_, fr_ms fr_rf (by simp)⟩
      rw [if_neg (Int32.not_lt.mpr q), ms_ro]
      by_cases e : i = p + 1
      · subst e; rw [upd_s, updN_s]
      · rw [upd_n e, updN_n e]; exact hM i hi e
    · obtain ⟨M', g1, g2, g3⟩ := ih x (ms M 135 (p + 1) (nI (a p))) (updN a (p + 1) (a p)) (by omega) (by omega) (fun i hi hne => by
        rw [ms_ro]
        by_cases e : i = p + 1
        · subst e; rw [upd_s, updN_s]
        · rw [upd_n e, updN_n e]; exact hM i hi e) (fun i hi hne => by
        by_cases e : i = p + 1
        · subst e; rw [updN_s]; exact hap
        · rw [updN_n e]; exact ha i hi e)
      refine ⟨M', by rw [hb, if_neg q]; exact g1, fun i hi => ?_, fr_tr (fr_ms fr_rf (by simp)) g3⟩
      rw [if_pos (Int32.not_le.mp q), g2 i hi, ms_ne (by decide)]
theorem sort_l {K : Int32 → Int32 → Int32 → IM → IR} {w m : Nat} {x1 : Int32} {fe : Nat → Int32} (hw : w < 10) (hm : m < 10) (hfe : ∀ i : Nat, i < 10 → D 137 (10 + i) = fe i) : ∀ (p f : Nat) (M : IM) (a : Nat → Nat), p ≤ m → p < f → (∀ i : Nat, i ≤ m → ¬ i = p → M 163 i = nI (a i)) → (∀ i : Nat, i ≤ m → ¬ i = p → a i < w) → fr [163] D M → ∃ M', f_X12_sorts_36 K f x1 (nI m) (nI w) (nI p) M = K x1 (nI (m + 1)) (nI (w + 1)) M' ∧ (∀ i : Nat, i ≤ m → M' 163 i = nI (insF fe w p a i)) ∧ fr [163] D M' := by
  have c83 : ∀ (M : IM) (p : Nat), p ≤ m → f_X12_sorts_83 K x1 (nI m) (nI w) (nI p) M = K x1 (nI (m + 1)) (nI (w + 1)) (ms M 163 p (nI w)) := fun M p hp => by
    unfold f_X12_sorts_83
    rw [wrK (j := p) rfl (by omega) (by decide)]
    simp only [lt]
    rw [nI_1, nI_1]
  intro p
  induction p with
  | zero =>
    intro f M a hp hf hM ha hD
    obtain ⟨x, rfl⟩ : ∃ x, f = x + 1 := ⟨f - 1, by omega⟩
    refine ⟨ms M 163 0 (nI w), ?_, fun i hi => ?_, fr_ms hD (by simp)⟩
    · show f_X12_sorts_36_b K (f_X12_sorts_36 K x) x1 (nI m) (nI w) (nI 0) M = _
      unfold f_X12_sorts_36_b
      rw [if_pos (by decide), c83 M 0 (by omega)]
    · rw [ms_ro]
      unfold insF
      by_cases e : i = 0
      · subst e; rw [upd_s, updN_s]
      · rw [upd_n e, updN_n e]; exact hM i hi e
  | succ p ih =>
    intro f M a hp hf hM ha hD
    obtain ⟨x, rfl⟩ : ∃ x, f = x + 1 := ⟨f - 1, by omega⟩
    have hap := ha p (by omega) (by omega)
    have e1 : nI (p + 1) - 1 = nI p := nI_pred p
    have est : f_X12_standsBefore (nI w) (nI (a p)) M = some (if fe w < fe (a p) then 1 else 0, M) := by
      unfold f_X12_standsBefore
      rw [rdK (i := 10 + nI w) (j := 10 + w) (nI_add 10 w) (by omega) (by decide), rdK (i := 10 + nI (a p)) (j := 10 + a p) (nI_add 10 (a p)) (by omega) (by decide), hD 137 (by decide), hfe w hw, hfe (a p) (by omega)]
      by_cases q : fe w < fe (a p)
      · rw [if_pos q, if_pos q]
      · rw [if_neg q, if_neg q, rdK (i := 10 + nI w) (j := 10 + w) (nI_add 10 w) (by omega) (by decide), rdK (i := 10 + nI (a p)) (j := 10 + a p) (nI_add 10 (a p)) (by omega) (by decide)]
        split
        · rw [if_pos (nI_le (by omega) (by omega))]
        · rfl
    have hb : f_X12_sorts_36 K (x + 1) x1 (nI m) (nI w) (nI (p + 1)) M = if fe w < fe (a p) then f_X12_sorts_36 K x x1 (nI m) (nI w) (nI p) (ms M 163 (p + 1) (nI (a p))) else K x1 (nI (m + 1)) (nI (w + 1)) (ms M 163 (p + 1) (nI w)) := by
      show f_X12_sorts_36_b K (f_X12_sorts_36 K x) _ _ _ _ M = _
      unfold f_X12_sorts_36_b
      rw [if_neg (nI_nle (by omega) (by omega)), rdK (j := p) e1 (by omega) (by decide), hM p (by omega) (by omega), cl_s est]
      by_cases q : fe w < fe (a p)
      · rw [if_pos q, if_pos q, if_neg (by decide), rdK (j := p) e1 (by omega) (by decide), hM p (by omega) (by omega), wrK (j := p + 1) rfl (by omega) (by decide)]
        simp only [lt]
        rw [e1]
      · rw [if_neg q, if_neg q, if_pos rfl, c83 M (p + 1) hp]
    unfold insF
    by_cases q : fe w < fe (a p)
    · obtain ⟨M', g1, g2, g3⟩ := ih x (ms M 163 (p + 1) (nI (a p))) (updN a (p + 1) (a p)) (by omega) (by omega) (fun i hi hne => by
        rw [ms_ro]
        by_cases e : i = p + 1
        · subst e; rw [upd_s, updN_s]
        · rw [upd_n e, updN_n e]; exact hM i hi e) (fun i hi hne => by
        by_cases e : i = p + 1
        · subst e; rw [updN_s]; exact hap
        · rw [updN_n e]; exact ha i hi e) (fr_ms hD (by simp))
      refine ⟨M', by rw [hb, if_pos q]; exact g1, fun i hi => ?_, g3⟩
      rw [if_pos q, g2 i hi]
    · refine ⟨ms M 163 (p + 1) (nI w), by rw [hb, if_neg q], fun i hi => ?_, fr_ms hD (by simp)⟩
      rw [if_neg q, ms_ro]
      by_cases e : i = p + 1
      · subst e; rw [upd_s, updN_s]
      · rw [upd_n e, updN_n e]; exact hM i hi e
/-- who goes is lame or sound -/
def LnH (M : IM) (n : Nat) (g : Int32) (sn lm : Nat → Bool) : Prop := ∀ w : Nat, w < n → (sn w = true ↔ bt g w = true ∧ ¬ M 3 w = 1) ∧ (lm w = true ↔ bt g w = true ∧ M 3 w = 1)
theorem ct_sum (h : LnH C n g sn lm) : ∀ w : Nat, w ≤ n → ctB sn w + ctB lm w = ctB (fun w => bt g w) w
  | 0, _ => rfl
  | w + 1, hw => by
    have ih := ct_sum h w (by omega)
    obtain ⟨h1, h2⟩ := h w (by omega)
    by_cases hg : bt g w = true
    · by_cases hl : C 3 w = 1
      · rw [ctB_s (h2.mpr ⟨hg, hl⟩), ctB_n (fun z => (h1.mp z).2 hl), ctB_s (p := fun w => bt g w) hg]; omega
      · rw [ctB_s (h1.mpr ⟨hg, hl⟩), ctB_n (fun z => hl (h2.mp z).2), ctB_s (p := fun w => bt g w) hg]; omega
    · rw [ctB_n (fun z => hg (h1.mp z).1), ctB_n (fun z => hg (h2.mp z).1), ctB_n (p := fun w => bt g w) hg]; exact ih
theorem lineUp_c (hn : n ≤ 10) (en : C 1 10 = nI n) (h : LnH C n g sn lm) : Ok (f_X11_lineUp g C) (fun r C1 => r = nI (ctB sn n + ctB lm n) ∧ (∀ i : Nat, i < (ctB sn n + 1) / 2 → C1 135 i = nI ((srt sn (C 4) n).2 i)) ∧ (∀ w : Nat, w < n → lm w = true → C1 135 ((ctB sn n + 1) / 2 + ctB lm w) = nI w) ∧ (∀ i : Nat, (ctB sn n + 1) / 2 ≤ i → i < ctB sn n → C1 135 (i + ctB lm n) = nI ((srt sn (C 4) n).2 i)) ∧ fr [135] C C1) := by
  have hsum := ct_sum h n (Nat.le_refl _)
  have hle := ctB_le (p := fun w => bt g w) n
  generalize hs : ctB sn n = s at *
  generalize ht : ctB lm n = t at *
  generalize ha : (srt sn (C 4) n).2 = a at *
  -- the lame into the middle
  have l3 : ∀ (f w : Nat) (X : IM), w ≤ n → n - w < f → (∀ i : Nat, i < (s + 1) / 2 → X 135 i = nI (a i)) → (∀ v : Nat, v < w → lm v = true → X 135 ((s + 1) / 2 + ctB lm v) = nI v) → (∀ i : Nat, (s + 1) / 2 ≤ i → i < s → X 135 (i + t) = nI (a i)) → fr [135] C X → Ok (f_X11_lineUp_115 f g (nI t) (nI s) (nI ((s + 1) / 2 + ctB lm w)) (nI w) X) (fun r C1 => r = nI (s + t) ∧ (∀ i : Nat, i < (s + 1) / 2 → C1 135 i = nI (a i)) ∧ (∀ w : Nat, w < n → lm w = true → C1 135 ((s + 1) / 2 + ctB lm w) = nI w) ∧ (∀ i : Nat, (s + 1) / 2 ≤ i → i < s → C1 135 (i + t) = nI (a i)) ∧ fr [135] C C1) := by
    intro f
    induction f with
    | zero => intro w X _ h; omega
    | succ f ih =>
      intro w X hw hf h1 h2 h3 hX
      show Ok (f_X11_lineUp_115_b (f_X11_lineUp_115 f) _ _ _ _ _ X) _
      unfold f_X11_lineUp_115_b
      rw [hX 1 (by decide), en]
      by_cases e : w = n
      · subst e
        exact ok_t (nI_le (Nat.le_refl _) (by omega)) (ok_s ⟨nI_add _ _, h1, h2, h3, hX⟩)
      obtain ⟨a1, a2⟩ := h w (by omega)
      refine ok_f (nI_ge (by omega) (by omega)) ?_
      rw [tst (by omega)]
      have skip : ¬ lm w = true → Ok (f_X11_lineUp_115 f g (nI t) (nI s) (nI ((s + 1) / 2 + ctB lm w)) (nI w + 1) X) (fun r C1 => r = nI (s + t) ∧ (∀ i : Nat, i < (s + 1) / 2 → C1 135 i = nI (a i)) ∧ (∀ w : Nat, w < n → lm w = true → C1 135 ((s + 1) / 2 + ctB lm w) = nI w) ∧ (∀ i : Nat, (s + 1) / 2 ≤ i → i < s → C1 135 (i + t) = nI (a i)) ∧ fr [135] C C1) := fun hl => by
        have := ih (w + 1) X (by omega) (by omega) h1 (fun v hv hlv => h2 v (by rcases Nat.lt_or_ge v w with q | q; exact q; exact absurd (by rwa [show v = w by omega] at hlv) hl) hlv) h3 hX
        rw [ctB_n hl] at this
        rw [nI_1]
        exact this
      by_cases hg : bt g w = true
      · rw [if_pos hg]
        refine ok_f (by decide) (ok_rv w (C 3 w) rfl (by omega) (by decide) (by rw [hX 3 (by decide)]) ?_)
        by_cases hl : C 3 w = 1
        · have hlm := a2.mpr ⟨hg, hl⟩
          have hlt : ctB lm w < t := by
            have := ctB_mono (p := lm) (show w + 1 ≤ n by omega)
            rw [ctB_s hlm] at this
            omega
          refine ok_t hl (ok_wr ((s + 1) / 2 + ctB lm w) rfl (by omega) (by decide) (ok_lt (ok_lt ?_)))
          rw [nI_1, nI_1]
          have := ih (w + 1) (ms X 135 ((s + 1) / 2 + ctB lm w) (nI w)) (by omega) (by omega) (fun i hi => by rw [ms_at (by omega)]; exact h1 i hi) (fun v hv hlv => ?_) (fun i hi1 hi2 => by rw [ms_at (by omega)]; exact h3 i hi1 hi2) (fr_ms hX (by simp))
          · rw [ctB_s hlm] at this
            exact this
          · by_cases q : v = w
            · subst q; rw [ms_it]
            · have hv2 : v < w := by omega
              have : ctB lm v + 1 ≤ ctB lm w := by
                have := ctB_mono (p := lm) (show v + 1 ≤ w by omega)
                rwa [ctB_s hlv] at this
              rw [ms_at (by omega)]
              exact h2 v hv2 hlv
        · exact ok_f hl (ok_lt (skip (fun z => hl (a2.mp z).2)))
      · rw [if_neg hg]
        exact ok_t rfl (ok_lt (skip (fun z => hg (a2.mp z).1)))
  -- the hinder half goes back
  have l2 : ∀ (f j : Nat) (X : IM), (s + 1) / 2 ≤ j → j ≤ s → j - (s + 1) / 2 < f → (∀ i : Nat, i < j → X 135 i = nI (a i)) → (∀ i : Nat, j ≤ i → i < s → X 135 (i + t) = nI (a i)) → fr [135] C X → Ok (f_X11_lineUp_79 f g (nI t) (nI s) (nI ((s + 1) / 2)) (nI j - 1) X) (fun r C1 => r = nI (s + t) ∧ (∀ i : Nat, i < (s + 1) / 2 → C1 135 i = nI (a i)) ∧ (∀ w : Nat, w < n → lm w = true → C1 135 ((s + 1) / 2 + ctB lm w) = nI w) ∧ (∀ i : Nat, (s + 1) / 2 ≤ i → i < s → C1 135 (i + t) = nI (a i)) ∧ fr [135] C C1) := by
    intro f
    induction f with
    | zero => intro j X _ _ h; omega
    | succ f ih =>
      intro j X hj1 hj2 hf h1 h2 hX
      show Ok (f_X11_lineUp_79_b (f_X11_lineUp_79 f) _ _ _ _ _ X) _
      unfold f_X11_lineUp_79_b
      by_cases e : j = (s + 1) / 2
      · have hlt : nI j - 1 < nI ((s + 1) / 2) := by
          rw [Int32.lt_iff_toInt_lt, sub1 (by omega), nI_toInt (by omega)]
          omega
        refine ok_t hlt ?_
        have := l3 BG 0 X (by omega) (by unfold BG; omega) (fun i hi => h1 i (by omega)) (fun v hv => by omega) (fun i hi1 hi2 => h2 i (by omega) hi2) hX
        exact this
      · obtain ⟨j', rfl⟩ : ∃ j', j = j' + 1 := ⟨j - 1, by omega⟩
        rw [nI_pred]
        refine ok_f (nI_nlt (by omega) (by omega)) (ok_rv j' (nI (a j')) rfl (by omega) (by decide) (h1 j' (by omega)) (ok_wr (j' + t) (nI_add j' t) (by omega) (by decide) (ok_lt ?_)))
        rw [show nI j' + (-1) = nI j' - 1 from (Int32.sub_eq_add_neg _ _).symm]
        refine ih j' _ (by omega) (by omega) (by omega) (fun i hi => by rw [ms_at (by omega)]; exact h1 i (by omega)) (fun i hi1 hi2 => ?_) (fr_ms hX (by simp))
        by_cases q : i = j'
        · subst q; rw [ms_it]
        · rw [ms_at (by omega)]; exact h2 i (by omega) hi2
  -- the sound by their feet
  have l1 : ∀ (f w : Nat) (X : IM), w ≤ n → n - w < f → Rw X 135 (srt sn (C 4) w).1 (srt sn (C 4) w).2 → fr [135] C X → Ok (f_X11_lineUp_7 f g (nI (ctB lm w)) (nI (ctB sn w)) (nI w) X) (fun r C1 => r = nI (s + t) ∧ (∀ i : Nat, i < (s + 1) / 2 → C1 135 i = nI (a i)) ∧ (∀ w : Nat, w < n → lm w = true → C1 135 ((s + 1) / 2 + ctB lm w) = nI w) ∧ (∀ i : Nat, (s + 1) / 2 ≤ i → i < s → C1 135 (i + t) = nI (a i)) ∧ fr [135] C C1) := by
    intro f
    induction f with
    | zero => intro w X _ h; omega
    | succ f ih =>
      intro w X hw hf h1 hX
      show Ok (f_X11_lineUp_7_b (f_X11_lineUp_7 f) _ _ _ _ X) _
      unfold f_X11_lineUp_7_b
      rw [hX 1 (by decide), en]
      obtain ⟨k1, k2⟩ := srt_ok (sn := sn) (fe := C 4) w
      by_cases e : w = n
      · subst e
        rw [hs, ht]
        rw [k1, hs, ha] at h1
        refine ok_t (nI_le (Nat.le_refl _) (by omega)) (ok_lt (ok_lt ?_))
        rw [nI_1, show nI (s + 1) / 2 = nI ((s + 1) / 2) from pk_div (d := 2) (by omega) (by decide) (by decide)]
        exact l2 BG s X (by omega) (Nat.le_refl _) (by unfold BG; omega) h1 (fun i hi1 hi2 => by omega) hX
      obtain ⟨a1, a2⟩ := h w (by omega)
      have hwn : ctB sn w + ctB lm w ≤ w := by rw [ct_sum h w hw]; exact ctB_le w
      refine ok_f (nI_ge (by omega) (by omega)) ?_
      rw [tst (by omega)]
      have es : ¬ sn w = true → srt sn (C 4) (w + 1) = srt sn (C 4) w := fun hsn => by
        show (if sn w = true then _ else srt sn (C 4) w) = _
        rw [if_neg hsn]
      by_cases hg : bt g w = true
      · rw [if_pos hg]
        refine ok_f (by decide) (ok_rv w (C 3 w) rfl (by omega) (by decide) (by rw [hX 3 (by decide)]) ?_)
        by_cases hl : C 3 w = 1
        · have hsn : ¬ sn w = true := fun z => (a1.mp z).2 hl
          refine ok_t hl (ok_lt (ok_lt ?_))
          rw [nI_1, nI_1]
          have := ih (w + 1) X (by omega) (by omega) (by rw [es hsn]; exact h1) hX
          rw [ctB_n hsn, ctB_s (a2.mpr ⟨hg, hl⟩)] at this
          exact this
        · have hsn := a1.mpr ⟨hg, hl⟩
          have hlm : ¬ lm w = true := fun z => hl (a2.mp z).2
          obtain ⟨X', g1, g2, g3⟩ := put_l (w := w) (m := ctB sn w) (by omega) (by omega) (ctB sn w) BG X (srt sn (C 4) w).2 (Nat.le_refl _) (by unfold BG; omega) (fun i hi hne => h1 i (by omega)) (fun i hi hne => by have := k2 i (by omega); omega)
          refine ok_f hl (ok_c (show f_X11_putByFeet (nI w) (nI (ctB sn w)) X = some (0, X') from g1) (ok_lt (ok_lt ?_)))
          rw [nI_1, nI_1]
          have := ih (w + 1) X' (by omega) (by omega) (by
            have e2 : srt sn (C 4) (w + 1) = ((srt sn (C 4) w).1 + 1, insF (C 4) w (srt sn (C 4) w).1 (srt sn (C 4) w).2) := by
              show (if sn w = true then _ else _) = _
              rw [if_pos hsn]
            rw [e2]
            intro i hi
            simp only [k1] at hi ⊢
            rw [g2 i (by omega), hX 4 (by decide)]) (fr_tr hX g3)
          rw [ctB_s hsn, ctB_n hlm] at this
          exact this
      · rw [if_neg hg]
        have hsn : ¬ sn w = true := fun z => hg (a1.mp z).1
        have hlm : ¬ lm w = true := fun z => hg (a2.mp z).1
        refine ok_t rfl (ok_lt ?_)
        rw [nI_1]
        have := ih (w + 1) X (by omega) (by omega) (by rw [es hsn]; exact h1) hX
        rw [ctB_n hsn, ctB_n hlm] at this
        exact this
  unfold f_X11_lineUp
  exact l1 BG 0 C (by omega) (by unfold BG; omega) (fun i hi => by simp [srt] at hi) fr_rf
theorem sorts_m (hn : n ≤ 10) (en : D 136 6 = nI n) (hl : ∀ w : Nat, w < 10 → D 140 w = C 3 w) (hfe : ∀ w : Nat, w < 10 → D 137 (10 + w) = C 4 w) (h : LnH C n g sn lm) : Ok (f_X12_sorts g D) (fun r D1 => r = nI (ctB sn n) ∧ (∀ i : Nat, i < ctB sn n → D1 163 i = nI ((srt sn (C 4) n).2 i)) ∧ fr [163] D D1) := by
  have l1 : ∀ (f w : Nat) (X : IM), w ≤ n → n - w < f → Rw X 163 (srt sn (C 4) w).1 (srt sn (C 4) w).2 → fr [163] D X → Ok (f_X12_sorts_4 f g (nI (ctB sn w)) (nI w) X) (fun r D1 => r = nI (ctB sn n) ∧ (∀ i : Nat, i < ctB sn n → D1 163 i = nI ((srt sn (C 4) n).2 i)) ∧ fr [163] D D1) := by
    intro f
    induction f with
    | zero => intro w X _ h; omega
    | succ f ih =>
      intro w X hw hf h1 hX
      show Ok (f_X12_sorts_4_b (f_X12_sorts_4 f) _ _ _ X) _
      unfold f_X12_sorts_4_b
      rw [hX 136 (by decide), en]
      obtain ⟨k1, k2⟩ := srt_ok (sn := sn) (fe := C 4) w
      by_cases e : w = n
      · subst e
        rw [k1] at h1
        exact ok_t (nI_le (Nat.le_refl _) (by omega)) (ok_s ⟨rfl, h1, hX⟩)
      obtain ⟨a1, a2⟩ := h w (by omega)
      have hwn : ctB sn w ≤ w := ctB_le w
      refine ok_f (nI_ge (by omega) (by omega)) ?_
      rw [tst (by omega)]
      have skip : ¬ sn w = true → Ok (f_X12_sorts_4 f g (nI (ctB sn w)) (nI w + 1) X) (fun r D1 => r = nI (ctB sn n) ∧ (∀ i : Nat, i < ctB sn n → D1 163 i = nI ((srt sn (C 4) n).2 i)) ∧ fr [163] D D1) := fun hsn => by
        have es : srt sn (C 4) (w + 1) = srt sn (C 4) w := by
          show (if sn w = true then _ else srt sn (C 4) w) = _
          rw [if_neg hsn]
        rw [nI_1]
        have := ih (w + 1) X (by omega) (by omega) (by rw [es]; exact h1) hX
        rw [ctB_n hsn] at this
        exact this
      by_cases hg : bt g w = true
      · rw [if_pos hg]
        refine ok_f (by decide) (ok_rv w (C 3 w) rfl (by omega) (by decide) (by rw [hX 140 (by decide)]; exact hl w (by omega)) ?_)
        by_cases hll : C 3 w = 1
        · exact ok_t hll (ok_lt (skip (fun z => (a1.mp z).2 hll)))
        · have hsn := a1.mpr ⟨hg, hll⟩
          obtain ⟨X', g1, g2, g3⟩ := sort_l (K := f_X12_sorts_4 f) (x1 := g) (w := w) (m := ctB sn w) (fe := C 4) (by omega) (by omega) hfe (ctB sn w) BG X (srt sn (C 4) w).2 (Nat.le_refl _) (by unfold BG; omega) (fun i hi hne => h1 i (by omega)) (fun i hi hne => k2 i (by omega)) hX
          refine ok_f hll ?_
          rw [g1]
          have := ih (w + 1) X' (by omega) (by omega) (by
            have e2 : srt sn (C 4) (w + 1) = ((srt sn (C 4) w).1 + 1, insF (C 4) w (srt sn (C 4) w).1 (srt sn (C 4) w).2) := by
              show (if sn w = true then _ else _) = _
              rw [if_pos hsn]
            rw [e2]
            intro i hi
            simp only [k1] at hi ⊢
            rw [g2 i (by omega)]) g3
          rw [ctB_s hsn] at this
          exact this
      · rw [if_neg hg]
        exact ok_t rfl (ok_lt (skip (fun z => hg (a1.mp z).1)))
  unfold f_X12_sorts
  exact l1 BG 0 D (by omega) (by unfold BG; omega) (fun i hi => by simp [srt] at hi) fr_rf
/-- the lame one at the place i -/
theorem lame_m {i hf : Nat} (hn : n ≤ 10) (hl : ∀ w : Nat, w < 10 → D 140 w = C 3 w) (hlb : ∀ w : Nat, w < 10 → C 3 w = 0 ∨ C 3 w = 1) (h : LnH C n g sn lm) (hi1 : i < hf + ctB lm n) (hi2 : hf + n < 1000) : ∀ (f w : Nat), w ≤ n → n - w < f → hf + ctB lm w ≤ i → ∃ v : Nat, v < n ∧ lm v = true ∧ hf + ctB lm v = i ∧ f_X12_line_90 f (nI i) g (nI (hf + ctB lm w)) (nI w) D = some (nI v, D) := by
  intro f
  induction f with
  | zero => intro w _ h; omega
  | succ f ih =>
    intro w hw hf2 hle
    have hstep : f_X12_line_90 (f + 1) (nI i) g (nI (hf + ctB lm w)) (nI w) D = f_X12_line_90_b (f_X12_line_90 f) (nI i) g (nI (hf + ctB lm w)) (nI w) D := rfl
    have hc := ctB_le (p := lm) w
    have hcn := ctB_le (p := lm) n
    have hwn : w < n := by
      rcases Nat.lt_or_ge w n with q | q
      · exact q
      · have : w = n := by omega
        subst this
        omega
    obtain ⟨a1, a2⟩ := h w hwn
    rw [hstep]
    by_cases hlm : lm w = true
    · obtain ⟨hg, hll⟩ := a2.mp hlm
      by_cases hi3 : i = hf + ctB lm w
      · refine ⟨w, hwn, hlm, hi3.symm, ?_⟩
        unfold f_X12_line_90_b
        rw [tst (by omega), if_pos hg, if_neg (by decide), rdK (j := w) rfl (by omega) (by decide), hl w (by omega), hll, if_neg (by decide), if_pos (nI_le (by omega) (by omega))]
      · obtain ⟨v, v1, v2, v3, v4⟩ := ih (w + 1) (by omega) (by omega) (by rw [ctB_s hlm]; omega)
        refine ⟨v, v1, v2, v3, ?_⟩
        unfold f_X12_line_90_b f_X12_line_115
        rw [tst (by omega), if_pos hg, if_neg (by decide), rdK (j := w) rfl (by omega) (by decide), hl w (by omega), hll, if_neg (by decide), if_neg (nI_ge (by omega) (by omega)), if_pos rfl, rdK (j := w) rfl (by omega) (by decide), hl w (by omega), hll, if_pos rfl]
        simp only [lt]
        rw [nI_1, nI_1, ← v4, ctB_s hlm]
        rfl
    · obtain ⟨v, v1, v2, v3, v4⟩ := ih (w + 1) (by omega) (by omega) (by rw [ctB_n hlm]; omega)
      refine ⟨v, v1, v2, v3, ?_⟩
      rw [ctB_n hlm] at v4
      have c115 : f_X12_line_115 (f_X12_line_90 f) (nI i) g (nI (hf + ctB lm w)) (nI w) D = some (nI v, D) := by
        unfold f_X12_line_115
        rw [tst (by omega)]
        by_cases hg : bt g w = true
        · have hll : ¬ C 3 w = 1 := fun z => hlm (a2.mpr ⟨hg, z⟩)
          rw [if_pos hg, if_pos rfl, rdK (j := w) rfl (by omega) (by decide), hl w (by omega), if_neg hll]
          simp only [lt]
          rw [nI_1]
          exact v4
        · rw [if_neg hg, if_neg (by decide)]
          simp only [lt]
          rw [nI_1]
          exact v4
      unfold f_X12_line_90_b
      rw [tst (by omega)]
      by_cases hg : bt g w = true
      · have hll : C 3 w = 0 := (hlb w (by omega)).resolve_right (fun z => hlm (a2.mpr ⟨hg, z⟩))
        rw [if_pos hg, if_neg (by decide), rdK (j := w) rfl (by omega) (by decide), hl w (by omega), if_pos hll]
        exact c115
      · rw [if_neg hg, if_pos rfl]
        exact c115
end LINE
theorem st_line (p : Int32) : Stp2 Inv (f_X11_line p) (f_X12_line p) := by
  refine stp_d rfl ?_
  intro M l0 l1 hI hR
  obtain ⟨n, hn, en, -, ecn⟩ := walk_n hR
  obtain ⟨k, hk, ek, epc⟩ := mk_pc (p := goB M 1 l0) n hn
  have hk10 : k < 2 ^ 10 := Nat.lt_of_lt_of_le hk (Nat.pow_le_pow_right (by decide) hn)
  have eg : goS M 1 l0 = nI k := by unfold goS; rw [ecn]; exact ek
  let sn : Nat → Bool := fun w => bt (nI k) w && !(decide (M 3 w = 1))
  let lm : Nat → Bool := fun w => bt (nI k) w && decide (M 3 w = 1)
  have hLn : LnH M n (nI k) sn lm := fun w hw => by
    refine ⟨?_, ?_⟩
    · show ((bt (nI k) w && !(decide (M 3 w = 1))) = true) ↔ _
      rw [Bool.and_eq_true, Bool.not_eq_true', decide_eq_false_iff_not]
    · show ((bt (nI k) w && decide (M 3 w = 1)) = true) ↔ _
      rw [Bool.and_eq_true, decide_eq_true_iff]
  have hLa : ∀ X : IM, X 3 = M 3 → LnH X n (nI k) sn lm := fun X hX => by unfold LnH; rw [hX]; exact hLn
  have hall : ctB sn n + ctB lm n = pcF 32 k := by
    rw [ct_sum hLn n (Nat.le_refl _), epc]
    have : ∀ w : Nat, w ≤ n → ctB (fun w => bt (nI k) w) w = ctB (goB M 1 l0) w := by
      intro w
      induction w with
      | zero => intro _; rfl
      | succ w ih =>
        intro hw
        have hb : bt (nI k) w = goB M 1 l0 w := by
          rw [← ek, bt_mk (by omega) (by omega), decide_eq_true (show w < n by omega), Bool.true_and]
        show (if bt (nI k) w = true then ctB (fun w => bt (nI k) w) w + 1 else ctB (fun w => bt (nI k) w) w) = (if goB M 1 l0 w = true then ctB (goB M 1 l0) w + 1 else ctB (goB M 1 l0) w)
        rw [hb, ih (by omega)]
    exact this n (Nat.le_refl _)
  have hle10 : pcF 32 k ≤ n := by rw [epc]; exact ctB_le n
  obtain ⟨r0, C1, c1, rfl, f1⟩ := whoGo_c (Or.inl rfl) hR
  rw [eg] at c1
  have e110 : C1 1 10 = nI n := by rw [row_a f1 (q := 1) (by omega)]; exact en
  obtain ⟨r1, C2, c2, rfl, q1, q2, q3, f2⟩ := lineUp_c (C := C1) hn e110 (hLa C1 (row_a f1 (by omega)))
  rw [row_a f1 (q := 4) (by omega)] at q1 q3
  have hsm : same M C2 := same_fr (R := [120, 121, 135]) (fr_tr (fr_sub f1 (by simp)) (fr_sub f2 (by simp))) (by decide)
  rw [hall] at c2
  have hlame : ∀ w : Nat, w < 10 → M 3 w = 0 ∨ M 3 w = 1 := fun w hw => by
    obtain ⟨j, hj, ej⟩ := bnd_nI (n := 1) (hR.1.2.1.2.2.2.2.2 w hw).2.1 (by decide)
    have : j = 0 ∨ j = 1 := by omega
    rcases this with rfl | rfl
    · exact Or.inl ej
    · exact Or.inr ej
  -- the model as far as the answer's place
  have mod : ∀ D, same M D → RC M D 1 l0 l1 → ∃ D1, f_X12_goers D = some (nI k, D1) ∧ RC M D1 1 l0 l1 ∧ fr [155, 156] D D1 ∧ f_X12_onesOf (nI k) D1 = some (nI (pcF 32 k), D1) := fun D hs hD => by
    obtain ⟨r, D1, d1, rfl, g1⟩ := goers_m (Or.inl rfl) hD
    rw [eg] at d1
    exact ⟨D1, d1, RC_m (Or.inl rfl) g1 hD, g1, ones_m (by omega)⟩
  by_cases hp : p < 0 ∨ nI (pcF 32 k) - 1 < p
  · refine ⟨-1, ?_, fun D hs hD => ?_⟩
    · unfold f_X11_line
      exact ok_c c1 (ok_c c2 (ok_c (win_c _ _ _ _) (ok_t (i0 hp) (ok_s ⟨rfl, hsm⟩))))
    · obtain ⟨D1, d1, d2, d3, d4⟩ := mod D hs hD
      exact ok_c d1 (ok_c d4 (ok_c (win_m _ _ _ _) (ok_t (i0 hp) (ok_s ⟨rfl, same_b d3⟩))))
  have hp' := hp
  obtain ⟨i, hi, rfl⟩ := in_sub (by omega) hp
  refine ⟨C2 135 i, ?_, fun D hs hD => ?_⟩
  · unfold f_X11_line
    exact ok_c c1 (ok_c c2 (ok_c (win_c _ _ _ _) (ok_f (i1 hp') (ok_rd i rfl (by omega) (by decide) (ok_s ⟨rfl, hsm⟩)))))
  · obtain ⟨D1, d1, d2, d3, d4⟩ := mod D hs hD
    refine ok_c d1 (ok_c d4 (ok_c (win_m _ _ _ _) (ok_f (i1 hp') ?_)))
    obtain ⟨r2, D2, x1, rfl, x2, x3⟩ := sorts_m (C := M) (D := D1) hn (by rw [d2.1.2.2.2.1, en]) (fun w hw => d2.1.2.2.2.2 w hw) (fun w hw => (d2.1.1.2.2.2.2.2.2.2.2.2.2 w hw).1) hLn
    have hsD : same D D2 := same_fr (R := [155, 156, 163]) (fr_tr (fr_sub d3 (by simp)) (fr_sub x3 (by simp))) (by decide)
    have hct : ctB sn n ≤ pcF 32 k := by omega
    refine ok_c x1 (ok_lt (ok_lt ?_))
    rw [nI_1, show nI (ctB sn n + 1) / 2 = nI ((ctB sn n + 1) / 2) from pk_div (d := 2) (by omega) (by decide) (by decide), pk_sub hct, show pcF 32 k - ctB sn n = ctB lm n by omega]
    by_cases h1 : i < (ctB sn n + 1) / 2
    · refine ok_f (nI_ge h1 (by omega)) (ok_rv i _ rfl (by omega) (by decide) (x2 i (by omega)) (ok_s ⟨(q1 i h1).symm, hsD⟩))
    · refine ok_t (nI_le (by omega) (by omega)) ?_
      rw [nI_add]
      by_cases h2 : i < (ctB sn n + 1) / 2 + ctB lm n
      · refine ok_t (nI_lt h2 (by omega)) ?_
        obtain ⟨v, v1, v2, v3, v4⟩ := lame_m (C := M) (D := D2) (g := nI k) (sn := sn) (lm := lm) (i := i) (hf := (ctB sn n + 1) / 2) hn (fun w hw => by rw [x3 140 (by decide)]; exact d2.1.2.2.2.2 w hw) hlame hLn h2 (by omega) BG 0 (by omega) (by unfold BG; omega) (by show (ctB sn n + 1) / 2 + 0 ≤ i; omega)
        have v4' : f_X12_line_90 BG (nI i) (nI k) (nI ((ctB sn n + 1) / 2)) 0 D2 = some (nI v, D2) := v4
        rw [v4', ← v3, q2 v v1 v2]
        exact ok_s ⟨rfl, hsD⟩
      · refine ok_f (nI_nlt (by omega) (by omega)) ?_
        have hq := q3 (i - ctB lm n) (by omega) (by omega)
        rw [show i - ctB lm n + ctB lm n = i by omega] at hq
        rw [hq]
        exact ok_rv (i - ctB lm n) _ (pk_sub (by omega)) (by omega) (by decide) (x2 _ (by omega)) (ok_s ⟨rfl, hsD⟩)
