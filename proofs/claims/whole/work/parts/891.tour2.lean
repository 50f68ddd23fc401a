/-! tour: the way itself -/
theorem loT_at {R t : Nat → Nat → Nat} {e a : Nat} : ∀ k : Nat, loT R t e a k < 1000000 → ∃ i : Nat, i < k ∧ e.testBit i = true ∧ R a (i + 1) + t (e - 2 ^ i) (i + 1) = loT R t e a k
  | 0, h => by simp [loT] at h
  | k + 1, h => by
    have ih := loT_at (R := R) (t := t) (e := e) (a := a) k
    have el : loT R t e a (k + 1) = if e.testBit k = true then mnN (loT R t e a k) (R a (k + 1) + t (e - 2 ^ k) (k + 1)) else loT R t e a k := rfl
    rw [el] at h ⊢
    by_cases hb : e.testBit k = true
    · rw [if_pos hb] at h ⊢
      unfold mnN at h ⊢
      by_cases q : R a (k + 1) + t (e - 2 ^ k) (k + 1) < loT R t e a k
      · rw [if_pos q]
        exact ⟨k, by omega, hb, rfl⟩
      · rw [if_neg q] at h ⊢
        obtain ⟨i, h1, h2, h3⟩ := ih h
        exact ⟨i, by omega, h2, h3⟩
    · rw [if_neg hb] at h ⊢
      obtain ⟨i, h1, h2, h3⟩ := ih h
      exact ⟨i, by omega, h2, h3⟩
theorem next_at {R : Nat → Nat → Nat} {e a : Nat} (h0 : ¬ e = 0) (ht : tp R e a < 1000000) : ∃ i : Nat, i < 7 ∧ (e.testBit i = true ∧ R a (i + 1) + tp R (e - 2 ^ i) (i + 1) = tp R e a) ∧ ∀ j : Nat, j < i → ¬ (e.testBit j = true ∧ R a (j + 1) + tp R (e - 2 ^ j) (j + 1) = tp R e a) := by
  have e1 := tp_eq (R := R) e a
  rw [if_neg h0] at e1
  rw [e1] at ht
  obtain ⟨i, h1, h2, h3⟩ := loT_at 7 ht
  obtain ⟨k, k1, k2⟩ := pk_least (fun i => e.testBit i = true ∧ R a (i + 1) + tp R (e - 2 ^ i) (i + 1) = tp R e a) ⟨i, h2, by rw [e1]; exact h3⟩
  refine ⟨k, ?_, k1, k2⟩
  rcases Nat.lt_or_ge i k with q | q
  · exact absurd ⟨h2, by rw [e1]; exact h3⟩ (k2 i q)
  · omega
section TOUR2
variable {M C' D' : IM} {n : Nat} {R : Nat → Nat → Nat}
theorem walk_sim (hR : R = rdN (M 7)) (h : ∀ i : Nat, i < 64 → bnd (M 7 i) 0 99) (hC : C' 7 = M 7) (hD : ∀ i : Nat, i < 64 → D' 141 i = M 7 i) (h2 : 2 ≤ n) (h8 : n ≤ 8) (hTC : TbC R n C' (2 ^ (n - 1)) 0) (hTM : TbM R n D' (2 ^ (n - 1)) 0) {pl : Nat} (hpl : pl ≤ n - 1) : ∀ (k f f' st e a : Nat), st + k = pl → k < f → k < f' → e < 2 ^ (n - 1) → a < n → tp R e a < 1000000 → pcF 7 e + st = n - 1 → ∃ v : Int32, f_X11_onTour_8 f (nI pl) (nI e) (nI a) (nI st) C' = some (v, C') ∧ f_X12_touredAt_12 f' (nI pl) (nI (2 * e)) (nI a) (nI st) D' = some (v, D') := by
  have hp := p7 h2 h8
  have hRC : R = rdN (C' 7) := by rw [hC]; exact hR
  have hbC : ∀ i : Nat, i < 64 → bnd (C' 7 i) 0 99 := by rw [hC]; exact h
  have hRl : ∀ a b : Nat, a < 8 → b < 8 → R a b ≤ 1000000 := fun a b h1 h2 => by rw [hR]; exact rdN_le h h1 h2
  have htl : ∀ e a : Nat, a < 8 → tp R e a ≤ 1000000 := fun e a ha => by
    rw [tp_eq]
    split
    · exact hRl _ _ ha (by decide)
    · exact loT_le 7
  intro k
  induction k with
  | zero =>
    intro f f' st e a hst hf hf' he ha ht hpc
    obtain ⟨x, rfl⟩ : ∃ x, f = x + 1 := ⟨f - 1, by omega⟩
    obtain ⟨y, rfl⟩ : ∃ y, f' = y + 1 := ⟨f' - 1, by omega⟩
    refine ⟨nI a, ?_, ?_⟩
    · show f_X11_onTour_8_b (f_X11_onTour_8 x) _ _ _ _ C' = _
      unfold f_X11_onTour_8_b
      rw [if_pos (nI_le (by omega) (by omega))]
    · show f_X12_touredAt_12_b (f_X12_touredAt_12 y) _ _ _ _ D' = _
      unfold f_X12_touredAt_12_b
      rw [if_pos (nI_le (by omega) (by omega))]
  | succ k ih =>
    intro f f' st e a hst hf hf' he ha ht hpc
    obtain ⟨x, rfl⟩ : ∃ x, f = x + 1 := ⟨f - 1, by omega⟩
    obtain ⟨y, rfl⟩ : ∃ y, f' = y + 1 := ⟨f' - 1, by omega⟩
    have h0 : ¬ e = 0 := fun q => by
      subst q
      have : pcF 7 0 = 0 := by decide
      omega
    obtain ⟨i, hi7, ⟨hbi, hvi⟩, hno⟩ := next_at h0 ht
    have hin := bit_n h2 h8 he hbi
    obtain ⟨b1, b2, b3⟩ := bits_c e (by omega) i hi7 hbi
    have hle := bit_le hbi
    have hpos := Nat.two_pow_pos i
    obtain ⟨v, v1, v2⟩ := ih x y (st + 1) (e - 2 ^ i) (i + 1) (by omega) (by omega) (by omega) (by omega) hin (by omega) (by omega)
    have hTCe : TbC R n C' e 0 := fun e' a' h' => hTC e' a' (by omega)
    have hTMe : TbM R n D' e 0 := fun e' a' h' => hTM e' a' (by omega)
    have eC : C' 133 (8 * e + a) = nI (tp R e a) := hTC e a (Or.inl ⟨he, ha⟩)
    have eD : D' 161 (16 * e + a) = nI (tp R e a) := hTM e a (Or.inl ⟨he, ha⟩)
    have e1 : nI e * 8 + nI a = nI (8 * e + a) := by rw [show (8 : Int32) = nI 8 from rfl, pk_mul, nI_add, Nat.mul_comm]
    have e2 : (8 : Int32) * nI (2 * e) + nI a = nI (16 * e + a) := by rw [show (8 : Int32) = nI 8 from rfl, pk_mul, nI_add]; congr 1; omega
    have isOn : ∀ j : Nat, j < 7 → f_X11_isOnTour (nI e) (nI a) (nI (j + 1)) C' = some (if e.testBit j = true ∧ R a (j + 1) + tp R (e - 2 ^ j) (j + 1) = tp R e a then 1 else 0, C') := fun j hj => by
      unfold f_X11_isOnTour
      rw [nI_pred, tst_n (by omega)]
      by_cases hb : e.testBit j = true
      · have hj2 := bit_n h2 h8 he hb
        have q1 := hRl a (j + 1) (by omega) (by omega)
        have q2 := htl (e - 2 ^ j) (j + 1) (by omega)
        rw [if_pos hb, if_neg (by decide), cl_s (hoursOver_e (n := n) (b := 0) hRC hbC h2 h8 he (by omega) hTCe hb), rdK (j := 8 * e + a) (n := 1024) e1 (by omega) (by decide), eC]
        by_cases q : R a (j + 1) + tp R (e - 2 ^ j) (j + 1) = tp R e a
        · rw [if_pos (by rw [q]), if_pos ⟨hb, q⟩]
        · rw [if_neg (fun z => q ((nI_eq (by omega) (by omega)).mp z)), if_neg (fun z => q z.2)]
      · rw [if_neg hb, if_pos rfl, if_neg (fun z => hb z.1)]
    have c42 : f_X11_onTour_42 (f_X11_onTour_8 x) (nI pl) (nI e) (nI st) (nI (i + 1)) C' = some (v, C') := by
      unfold f_X11_onTour_42
      simp only [lt]
      rw [b1, nI_1]
      exact v1
    have lc : ∀ g j : Nat, j ≤ i → i - j < g → f_X11_onTour_17 (f_X11_onTour_8 x) g (nI pl) (nI e) (nI a) (nI st) (nI (j + 1)) C' = some (v, C') := by
      intro g
      induction g with
      | zero => intro j _ h; omega
      | succ g ihg =>
        intro j hj hg
        show f_X11_onTour_17_b (f_X11_onTour_8 x) (f_X11_onTour_17 (f_X11_onTour_8 x) g) _ _ _ _ _ C' = _
        unfold f_X11_onTour_17_b
        by_cases e6 : j = 6
        · have : i = 6 := by omega
          subst this
          subst e6
          rw [if_pos (by decide)]
          exact c42
        · rw [if_neg (show ¬ (7 : Int32) ≤ nI (j + 1) from nI_ge (b := 7) (by omega) (by decide)), cl_s (isOn j (by omega))]
          by_cases ej : j = i
          · subst ej
            rw [if_pos (show e.testBit j = true ∧ R a (j + 1) + tp R (e - 2 ^ j) (j + 1) = tp R e a from ⟨hbi, hvi⟩), if_neg (by decide)]
            exact c42
          · rw [if_neg (hno j (by omega)), if_pos rfl]
            simp only [lt]
            rw [nI_1]
            exact ihg (j + 1) (by omega) (by omega)
    have lm : ∀ g j : Nat, j ≤ i → i - j < g → f_X12_touredAt_21 (f_X12_touredAt_12 y) g (nI pl) (nI (2 * e)) (nI a) (nI st) (nI (j + 1)) D' = some (v, D') := by
      intro g
      induction g with
      | zero => intro j _ h; omega
      | succ g ihg =>
        intro j hj hg
        show f_X12_touredAt_21_b (f_X12_touredAt_12 y) (f_X12_touredAt_21 (f_X12_touredAt_12 y) g) _ _ _ _ _ D' = _
        unfold f_X12_touredAt_21_b
        rw [tst_n (by omega), tb2]
        have nx : ¬ j = i → (lt (nI (j + 1) + 1) fun v13 => f_X12_touredAt_21 (f_X12_touredAt_12 y) g (nI pl) (nI (2 * e)) (nI a) (nI st) v13 D') = some (v, D') := fun ej => by
          simp only [lt]
          rw [nI_1]
          exact ihg (j + 1) (by omega) (by omega)
        by_cases hb : e.testBit j = true
        · have hj2 := bit_n h2 h8 he hb
          have q1 := hRl a (j + 1) (by omega) (by omega)
          have q2 := htl (e - 2 ^ j) (j + 1) (by omega)
          rw [if_pos hb, if_neg (by decide), cl_s (byParish_e (M := M) (n := n) (b := 0) hR (fun i hi => ⟨hD i hi, h i hi⟩) h2 h8 he (by omega) hTMe hb), rdK (j := 16 * e + a) (n := 2048) e2 (by omega) (by decide), eD]
          by_cases ej : j = i
          · subst ej
            rw [if_pos (by rw [hvi]; unfold mnN; rw [if_pos ht])]
            simp only [lt]
            rw [b2, nI_1]
            exact v2
          · rw [if_neg]
            · exact nx ej
            · intro z
              have hc : mnN 1000000 (R a (j + 1) + tp R (e - 2 ^ j) (j + 1)) ≤ 1000000 := by unfold mnN; split <;> omega
              have z2 := (nI_eq (by omega) (by omega)).mp z
              apply hno j (by omega)
              refine ⟨hb, ?_⟩
              unfold mnN at z2
              split at z2 <;> omega
        · have ej : ¬ j = i := fun q => hb (by rw [q]; exact hbi)
          rw [if_neg hb, if_pos rfl]
          exact nx ej
    refine ⟨v, ?_, ?_⟩
    · show f_X11_onTour_8_b (f_X11_onTour_8 x) _ _ _ _ C' = _
      unfold f_X11_onTour_8_b
      rw [if_neg (nI_ge (by omega) (by omega))]
      exact lc BG 0 (by omega) (by unfold BG; omega)
    · show f_X12_touredAt_12_b (f_X12_touredAt_12 y) _ _ _ _ D' = _
      unfold f_X12_touredAt_12_b
      rw [if_neg (nI_ge (by omega) (by omega))]
      exact lm BG 0 (by omega) (by unfold BG; omega)
end TOUR2
theorem st_tour (p q : Int32) : Stp2 Inv (f_X11_tour p q) (f_X12_tour p q) := by
  refine stp_d rfl ?_
  intro M l0 l1 hI hR
  by_cases hp : p < 2 ∨ 8 < p
  · refine ⟨-1, ?_, fun D hs hD => ?_⟩
    · unfold f_X11_tour
      exact ok_lt (ok_c (win_c _ _ _ M) (ok_t (i0 hp) ok_v))
    · exact ok_c (win_m _ _ _ D) (ok_t (i0 hp) ok_v)
  have hb : bnd p 2 8 := bnd_of hp (by decide) (by decide)
  obtain ⟨n, h8, en⟩ := bnd_nI (x := p) (n := 8) ⟨by have := hb.1; omega, hb.2⟩ (by decide)
  have h2 : 2 ≤ n := by have := hb.1; rw [en, nI_toInt (by omega)] at this; omega
  obtain ⟨sh1, sh2, sh3⟩ := sh_n n h2 h8
  have hpw := p7 h2 h8
  have hpos := Nat.two_pow_pos (n - 1)
  have hroads := (told_to hI.2.1).2.1
  have hbr : ∀ i : Nat, i < 64 → bnd (M 7 i) 0 99 := fun i hi => (hroads i hi).2
  have hdr : ∀ D, same M D → ∀ i : Nat, i < 64 → D 141 i = M 7 i := fun D hs i hi => by rw [hs.1 141 (by omega)]; exact (hroads i hi).1
  obtain ⟨C', g1, g2, g3⟩ := fills_c (M := M) (n := n) (R := rdN (M 7)) (x2 := q) (x3 := q - 10) rfl hbr h2 h8
  have hsC : same M C' := same_fr (R := [133]) g3 (by decide)
  have e0 : C' 133 (8 * (2 ^ (n - 1) - 1)) = nI (tp (rdN (M 7)) (2 ^ (n - 1) - 1) 0) := g2 (2 ^ (n - 1) - 1) 0 (Or.inl ⟨by omega, by omega⟩)
  have ex : nI (2 ^ (n - 1) - 1) * 8 = nI (8 * (2 ^ (n - 1) - 1)) := by rw [show (8 : Int32) = nI 8 from rfl, pk_mul, Nat.mul_comm]
  -- the class: table, then the answer
  have ec : f_X11_tour_32 p q (q - 10) M = if nI (tp (rdN (M 7)) (2 ^ (n - 1) - 1) 0) < 1000000 then if q = 0 then some (nI (tp (rdN (M 7)) (2 ^ (n - 1) - 1) 0), C') else cl (f_X11_onTour (nI (2 ^ (n - 1) - 1)) (q - 10) C') fun w17 M18 => some (w17, M18) else some (-1, C') := by
    unfold f_X11_tour_32
    simp only [lt]
    rw [en, sh1, ← g1 _ rfl]
    unfold f_X11_tour_44_b
    rw [if_pos (nI_lt (by omega) (by omega)), rdK (j := 8 * (2 ^ (n - 1) - 1)) (n := 1024) ex (by omega) (by decide), e0]
  have em : ∀ D, same M D → ∃ D', f_X12_tour_36 p q D = (if nI (tp (rdN (M 7)) (2 ^ (n - 1) - 1) 0) < 1000000 then if q = 0 then some (nI (tp (rdN (M 7)) (2 ^ (n - 1) - 1) 0), D') else cl (f_X12_touredAt (nI n) (q - 10) D') fun w18 M19 => some (w18, M19) else some (-1, D')) ∧ TbM (rdN (M 7)) n D' (2 ^ (n - 1)) 0 ∧ fr [161] D D' := fun D hs => by
    obtain ⟨D', k1, k2, k3⟩ := fills_m (M := M) (D := D) (n := n) (R := rdN (M 7)) rfl (fun i hi => ⟨hdr D hs i hi, hbr i hi⟩) h2 h8
    refine ⟨D', ?_, k2, k3⟩
    unfold f_X12_tour_36
    rw [en, cl_s k1, sh2]
    have ey : (8 : Int32) * (nI (2 * 2 ^ (n - 1)) - 2) = nI (16 * (2 ^ (n - 1) - 1)) := by
      rw [show nI (2 * 2 ^ (n - 1)) - 2 = nI (2 * 2 ^ (n - 1) - 2) from pk_sub (b := 2) (by omega), show (8 : Int32) = nI 8 from rfl, pk_mul]
      congr 1
      omega
    have k0 : D' 161 (16 * (2 ^ (n - 1) - 1)) = nI (tp (rdN (M 7)) (2 ^ (n - 1) - 1) 0) := k2 (2 ^ (n - 1) - 1) 0 (Or.inl ⟨by omega, by omega⟩)
    rw [rdK (j := 16 * (2 ^ (n - 1) - 1)) (n := 2048) ey (by omega) (by decide), k0]
  have htl : tp (rdN (M 7)) (2 ^ (n - 1) - 1) 0 ≤ 1000000 := by
    rw [tp_eq]
    split
    · exact rdN_le hbr (by decide) (by decide)
    · exact loT_le 7
  by_cases hq : q = 0
  · by_cases hv : nI (tp (rdN (M 7)) (2 ^ (n - 1) - 1) 0) < 1000000
    · refine ⟨nI (tp (rdN (M 7)) (2 ^ (n - 1) - 1) 0), ?_, fun D hs hD => ?_⟩
      · unfold f_X11_tour
        refine ok_lt (ok_c (win_c _ _ _ M) (ok_f (i1 hp) (ok_t hq ?_)))
        rw [ec, if_pos hv, if_pos hq]
        exact ok_s ⟨rfl, hsC⟩
      · obtain ⟨D', k1, k2, k3⟩ := em D hs
        refine ok_c (win_m _ _ _ D) (ok_f (i1 hp) (ok_t hq ?_))
        rw [k1, if_pos hv, if_pos hq]
        exact ok_s ⟨rfl, same_fr (R := [161]) k3 (by decide)⟩
    · refine ⟨-1, ?_, fun D hs hD => ?_⟩
      · unfold f_X11_tour
        refine ok_lt (ok_c (win_c _ _ _ M) (ok_f (i1 hp) (ok_t hq ?_)))
        rw [ec, if_neg hv]
        exact ok_s ⟨rfl, hsC⟩
      · obtain ⟨D', k1, k2, k3⟩ := em D hs
        refine ok_c (win_m _ _ _ D) (ok_f (i1 hp) (ok_t hq ?_))
        rw [k1, if_neg hv]
        exact ok_s ⟨rfl, same_fr (R := [161]) k3 (by decide)⟩
  have hequ : (q - 10 < 0 ∨ p - 1 < q - 10) ↔ (q < 10 ∨ 9 + p < q) := by
    have en1 : p - 1 = nI n - 1 := by rw [en]
    have en9 : 9 + p = nI (9 + n) := by rw [en]; exact nI_add 9 n
    constructor
    · intro h
      apply Decidable.byContradiction
      intro hc
      have hb2 : bnd q 10 (9 + n) := bnd_of (b := nI (9 + n)) (by rw [← en9]; exact hc) (by decide) (by rw [nI_toInt (by omega)]; omega)
      obtain ⟨m, hm, eq⟩ := bnd_nI (x := q) (n := 9 + n) ⟨by have := hb2.1; omega, by have := hb2.2; omega⟩ (by omega)
      have hm10 : 10 ≤ m := by have := hb2.1; rw [eq, nI_toInt (by omega)] at this; omega
      have e10 : q - 10 = nI (m - 10) := by rw [eq]; exact pk_sub (b := 10) hm10
      have e1 : p - 1 = nI (n - 1) := by rw [en]; exact pk_sub (b := 1) (by omega)
      rw [e10, e1] at h
      rcases h with h | h
      · exact nI_pos (by omega) h
      · exact nI_nlt (by omega) (by omega) h
    · intro h
      apply Decidable.byContradiction
      intro hc
      rw [en1] at hc
      obtain ⟨j, hj, ej⟩ := in_sub (by omega) hc
      have eq : q = nI (j + 10) := by
        have := congrArg (· + (10 : Int32)) ej
        simp only [Int32.sub_add_cancel] at this
        rw [this]
        exact nI_add j 10
      rw [eq, en9] at h
      rcases h with h | h
      · exact absurd h (nI_nlt (b := 10) (by omega) (by omega))
      · exact nI_nlt (by omega) (by omega) h
  by_cases hw : q - 10 < 0 ∨ p - 1 < q - 10
  · refine ⟨-1, ?_, fun D hs hD => ?_⟩
    · unfold f_X11_tour
      exact ok_lt (ok_c (win_c _ _ _ M) (ok_f (i1 hp) (ok_f hq (ok_c (win_c _ _ _ M) (ok_t (i0 hw) ok_v)))))
    · exact ok_c (win_m _ _ _ D) (ok_f (i1 hp) (ok_f hq (ok_c (win_m _ _ _ D) (ok_t (i0 (hequ.mp hw)) ok_v))))
  have hw' := hw
  rw [show p - 1 = nI n - 1 by rw [en]] at hw
  obtain ⟨pl, hpl, epl⟩ := in_sub (by omega) hw
  by_cases hv : nI (tp (rdN (M 7)) (2 ^ (n - 1) - 1) 0) < 1000000
  · have hv' : tp (rdN (M 7)) (2 ^ (n - 1) - 1) 0 < 1000000 := (nI_ltI (b := 1000000) (by omega) (by decide)).mp hv
    have sim : ∀ D', (∀ i : Nat, i < 64 → D' 141 i = M 7 i) → TbM (rdN (M 7)) n D' (2 ^ (n - 1)) 0 → ∃ v : Int32, f_X11_onTour_8 BG (nI pl) (nI (2 ^ (n - 1) - 1)) (nI 0) (nI 0) C' = some (v, C') ∧ f_X12_touredAt_12 BG (nI pl) (nI (2 * (2 ^ (n - 1) - 1))) (nI 0) (nI 0) D' = some (v, D') := fun D' hD1 hD2 => walk_sim (M := M) (R := rdN (M 7)) rfl hbr (g3 7 (by decide)) hD1 h2 h8 g2 hD2 (by omega) pl BG BG 0 (2 ^ (n - 1) - 1) 0 (by omega) (by unfold BG; omega) (by unfold BG; omega) (by omega) (by omega) hv' (by omega)
    obtain ⟨D0, -, k2, k3⟩ := em (ms M 136 0 0) same_told
    obtain ⟨v, v1, -⟩ := sim D0 (fun i hi => by rw [k3 141 (by decide)]; exact hdr _ same_told i hi) k2
    refine ⟨v, ?_, fun D hs hD => ?_⟩
    · unfold f_X11_tour
      refine ok_lt (ok_c (win_c _ _ _ M) (ok_f (i1 hp) (ok_f hq (ok_c (win_c _ _ _ M) (ok_f (i1 hw') ?_)))))
      rw [ec, if_pos hv, if_neg hq, epl]
      exact ok_c (show f_X11_onTour (nI (2 ^ (n - 1) - 1)) (nI pl) C' = some (v, C') from v1) (ok_s ⟨rfl, hsC⟩)
    · obtain ⟨D', x1, x2, x3⟩ := em D hs
      obtain ⟨v', w1, w2⟩ := sim D' (fun i hi => by rw [x3 141 (by decide)]; exact hdr _ hs i hi) x2
      have evv : v' = v := by
        rw [v1] at w1
        simp only [Option.some.injEq, Prod.mk.injEq] at w1
        exact w1.1.symm
      subst evv
      refine ok_c (win_m _ _ _ D) (ok_f (i1 hp) (ok_f hq (ok_c (win_m _ _ _ D) (ok_f (i1 (fun z => hw' (hequ.mpr z))) ?_))))
      rw [x1, if_pos hv, if_neg hq, epl]
      refine ok_c (show f_X12_touredAt (nI n) (nI pl) D' = some (v', D') from ?_) (ok_s ⟨rfl, same_fr (R := [161]) x3 (by decide)⟩)
      unfold f_X12_touredAt
      simp only [lt]
      rw [sh2, show nI (2 * 2 ^ (n - 1)) - 2 = nI (2 * (2 ^ (n - 1) - 1)) by rw [show nI (2 * 2 ^ (n - 1)) - 2 = nI (2 * 2 ^ (n - 1) - 2) from pk_sub (b := 2) (by omega)]; congr 1; omega]
      exact w2
  · refine ⟨-1, ?_, fun D hs hD => ?_⟩
    · unfold f_X11_tour
      refine ok_lt (ok_c (win_c _ _ _ M) (ok_f (i1 hp) (ok_f hq (ok_c (win_c _ _ _ M) (ok_f (i1 hw') ?_)))))
      rw [ec, if_neg hv]
      exact ok_s ⟨rfl, hsC⟩
    · obtain ⟨D', k1, k2, k3⟩ := em D hs
      refine ok_c (win_m _ _ _ D) (ok_f (i1 hp) (ok_f hq (ok_c (win_m _ _ _ D) (ok_f (i1 (fun z => hw' (hequ.mpr z))) ?_))))
      rw [k1, if_neg hv]
      exact ok_s ⟨rfl, same_fr (R := [161]) k3 (by decide)⟩
