/-! tour -/
def mnN (a b : Nat) : Nat := if b < a then b else a
def loT (R t : Nat → Nat → Nat) (e a : Nat) : Nat → Nat
  | 0 => 1000000
  | i + 1 => if e.testBit i = true then mnN (loT R t e a i) (R a (i + 1) + t (e - 2 ^ i) (i + 1)) else loT R t e a i
def tpF (R : Nat → Nat → Nat) : Nat → Nat → Nat → Nat
  | 0, _, _ => 0
  | f + 1, e, a => if e = 0 then R a 0 else loT R (tpF R f) e a 7
def tp (R : Nat → Nat → Nat) (e a : Nat) : Nat := tpF R (e + 1) e a
theorem bit_le {e i : Nat} (h : e.testBit i = true) : 2 ^ i ≤ e := by
  rcases Nat.lt_or_ge e (2 ^ i) with q | q
  · rw [Nat.testBit_lt_two_pow q] at h; cases h
  · exact q
theorem loT_congr {R t t' : Nat → Nat → Nat} {e a : Nat} : ∀ k : Nat, (∀ i : Nat, i < k → e.testBit i = true → t (e - 2 ^ i) (i + 1) = t' (e - 2 ^ i) (i + 1)) → loT R t e a k = loT R t' e a k
  | 0, _ => rfl
  | k + 1, h => by
    have ih := loT_congr (R := R) (t := t) (t' := t') (e := e) (a := a) k (fun i hi => h i (by omega))
    unfold loT
    by_cases q : e.testBit k = true
    · rw [if_pos q, if_pos q, ih, h k (by omega) q]
    · rw [if_neg q, if_neg q, ih]
theorem tpF_st {R : Nat → Nat → Nat} : ∀ (f g e a : Nat), e < f → e < g → tpF R f e a = tpF R g e a
  | 0, _, _, _, h, _ => by omega
  | f + 1, 0, _, _, _, h => by omega
  | f + 1, g + 1, e, a, h1, h2 => by
    unfold tpF
    by_cases h0 : e = 0
    · rw [if_pos h0, if_pos h0]
    · rw [if_neg h0, if_neg h0]
      exact loT_congr 7 (fun i _ hb => tpF_st f g _ _ (by have := bit_le hb; have := Nat.two_pow_pos i; omega) (by have := bit_le hb; have := Nat.two_pow_pos i; omega))
theorem tp_eq {R : Nat → Nat → Nat} (e a : Nat) : tp R e a = if e = 0 then R a 0 else loT R (tp R) e a 7 := by
  unfold tp
  show (if e = 0 then R a 0 else loT R (tpF R e) e a 7) = _
  by_cases h0 : e = 0
  · rw [if_pos h0, if_pos h0]
  · rw [if_neg h0, if_neg h0]
    exact loT_congr 7 (fun i _ hb => tpF_st _ _ _ _ (by have := bit_le hb; have := Nat.two_pow_pos i; omega) (by omega))
theorem loT_le {R t : Nat → Nat → Nat} {e a : Nat} : ∀ k : Nat, loT R t e a k ≤ 1000000
  | 0 => Nat.le_refl _
  | k + 1 => by
    have ih := loT_le (R := R) (t := t) (e := e) (a := a) k
    unfold loT mnN
    repeat' split
    all_goals omega
theorem tp_le {R : Nat → Nat → Nat} (hR : ∀ a b : Nat, R a b ≤ 1000000) (e a : Nat) : tp R e a ≤ 1000000 := by
  rw [tp_eq]
  split
  · exact hR _ _
  · exact loT_le 7
/-- roads as numbers -/
def rdN (f : Nat → Int32) (a b : Nat) : Nat := if (f (8 * a + b)).toInt.toNat = 0 then 1000000 else (f (8 * a + b)).toInt.toNat
theorem rdN_le {f : Nat → Int32} (h : ∀ i : Nat, i < 64 → bnd (f i) 0 99) {a b : Nat} (ha : a < 8) (hb : b < 8) : rdN f a b ≤ 1000000 := by
  obtain ⟨h1, h2⟩ := h (8 * a + b) (by omega)
  unfold rdN
  split <;> omega
set_option maxRecDepth 100000 in
theorem bits_c : ∀ e : Nat, e < 128 → ∀ i : Nat, i < 7 → e.testBit i = true → (nI e &&& (((1 : Int32) <<< ((nI (i + 1) - 1) &&& 31)) ^^^ (-1))) = nI (e - 2 ^ i) ∧ (nI (2 * e) &&& (((1 : Int32) <<< (nI (i + 1) &&& 31)) ^^^ (-1))) = nI (2 * (e - 2 ^ i)) ∧ pcF 7 (e - 2 ^ i) + 1 = pcF 7 e := by decide +kernel
theorem tst_n {k i : Nat} (hi : i < 32) : ((nI k >>> (nI i &&& 31)) &&& 1) = if k.testBit i = true then 1 else 0 := by rw [tst hi, bt_n hi]
theorem tb2 (e i : Nat) : (2 * e).testBit (i + 1) = e.testBit i := by
  rw [Nat.testBit_succ]
  congr 1
  omega
section TOUR
variable {M D : IM} {n : Nat}
theorem roadHours_e {a b : Nat} (h : ∀ i : Nat, i < 64 → bnd (M 7 i) 0 99) (ha : a < 8) (hb : b < 8) : f_X11_roadHours (nI a) (nI b) M = some (nI (rdN (M 7) a b), M) := by
  have e1 : nI a * 8 + nI b = nI (8 * a + b) := by rw [show (8 : Int32) = nI 8 from rfl, pk_mul, nI_add, Nat.mul_comm]
  obtain ⟨r, hr, er⟩ := bnd_nI (n := 99) (h (8 * a + b) (by omega)) (by decide)
  have ei : (M 7 (8 * a + b)).toInt.toNat = r := by rw [er, nI_toInt (by omega)]; omega
  unfold f_X11_roadHours rdN
  rw [rdK (j := 8 * a + b) (n := 64) e1 (by omega) (by decide), ei, er]
  by_cases h0 : r = 0
  · subst h0; rw [if_pos (by decide), if_pos rfl]; rfl
  · rw [if_neg (nI_nle (by omega) (by omega)), if_neg h0]
theorem roadTo_e {a b : Nat} (h : ∀ i : Nat, i < 64 → D 141 i = M 7 i ∧ bnd (M 7 i) 0 99) (ha : a < 8) (hb : b < 8) : f_X12_roadTo (nI a) (nI b) D = some (nI (rdN (M 7) a b), D) := by
  have e1 : (8 : Int32) * nI a + nI b = nI (8 * a + b) := by rw [show (8 : Int32) = nI 8 from rfl, pk_mul, nI_add]
  obtain ⟨hm, hb⟩ := h (8 * a + b) (by omega)
  obtain ⟨r, hr, er⟩ := bnd_nI (n := 99) hb (by decide)
  have ei : (M 7 (8 * a + b)).toInt.toNat = r := by rw [er, nI_toInt (by omega)]; omega
  unfold f_X12_roadTo rdN
  rw [rdK (j := 8 * a + b) (n := 64) e1 (by omega) (by decide), hm, ei, er]
  by_cases h0 : r = 0
  · subst h0; rw [if_pos (by decide), if_pos rfl]; rfl
  · rw [if_neg (nI_ne0 (by omega) (by omega)), if_neg h0, rdK (j := 8 * a + b) (n := 64) e1 (by omega) (by decide), hm, er]
/-- the class's table up to (e, a) -/
def TbC (R : Nat → Nat → Nat) (n : Nat) (M : IM) (e a : Nat) : Prop := ∀ e' a' : Nat, (e' < e ∧ a' < n) ∨ (e' = e ∧ a' < a) → M 133 (8 * e' + a') = nI (tp R e' a')
def TbM (R : Nat → Nat → Nat) (n : Nat) (M : IM) (e a : Nat) : Prop := ∀ e' a' : Nat, (e' < e ∧ a' < n) ∨ (e' = e ∧ a' < a) → M 161 (16 * e' + a') = nI (tp R e' a')
theorem bit_n {e i : Nat} (h2 : 2 ≤ n) (h8 : n ≤ 8) (he : e < 2 ^ (n - 1)) (hb : e.testBit i = true) : i + 1 < n := by
  have h1 := bit_le hb
  rcases Nat.lt_or_ge (i + 1) n with q | q
  · exact q
  · have : 2 ^ (n - 1) ≤ 2 ^ i := Nat.pow_le_pow_right (by decide) (by omega)
    omega
theorem p7 (h2 : 2 ≤ n) (h8 : n ≤ 8) : 2 ^ (n - 1) ≤ 128 := Nat.pow_le_pow_right (i := n - 1) (j := 7) (by decide) (by omega)
theorem hoursOver_e {R : Nat → Nat → Nat} {e a i b : Nat} (hR : R = rdN (M 7)) (h : ∀ i : Nat, i < 64 → bnd (M 7 i) 0 99) (h2 : 2 ≤ n) (h8 : n ≤ 8) (he : e < 2 ^ (n - 1)) (ha : a < 8) (hT : TbC R n M e b) (hb : e.testBit i = true) : f_X11_hoursOver (nI e) (nI a) (nI (i + 1)) M = some (nI (R a (i + 1) + tp R (e - 2 ^ i) (i + 1)), M) := by
  have hi := bit_n h2 h8 he hb
  have hp := p7 h2 h8
  obtain ⟨b1, -, -⟩ := bits_c e (by omega) i (by omega) hb
  have hle := bit_le hb
  have hpos := Nat.two_pow_pos i
  unfold f_X11_hoursOver
  simp only [lt]
  have e1 : nI (e - 2 ^ i) * 8 + nI (i + 1) = nI (8 * (e - 2 ^ i) + (i + 1)) := by rw [show (8 : Int32) = nI 8 from rfl, pk_mul, nI_add, Nat.mul_comm]
  rw [b1, cl_s (roadHours_e h ha (by omega)), rdK (j := 8 * (e - 2 ^ i) + (i + 1)) (n := 1024) e1 (by omega) (by decide), hT (e - 2 ^ i) (i + 1) (Or.inl ⟨by omega, hi⟩), nI_add, hR]
theorem least_e {R : Nat → Nat → Nat} {e a b : Nat} (hR : R = rdN (M 7)) (h : ∀ i : Nat, i < 64 → bnd (M 7 i) 0 99) (h2 : 2 ≤ n) (h8 : n ≤ 8) (he : e < 2 ^ (n - 1)) (ha : a < 8) (hT : TbC R n M e b) : f_X11_leastOnwards (nI e) (nI a) M = some (nI (tp R e a), M) := by
  have hp := p7 h2 h8
  unfold f_X11_leastOnwards
  rw [tp_eq]
  by_cases h0 : e = 0
  · subst h0
    rw [if_pos (show nI 0 = 0 from rfl), if_pos rfl, cl_s (show f_X11_roadHours (nI a) 0 M = _ from roadHours_e (b := 0) h ha (by decide)), hR]
  rw [if_neg (nI_ne0 (by omega) (by omega)), if_neg h0]
  have loop : ∀ f i : Nat, i ≤ 7 → 7 - i < f → f_X11_leastOnwards_18 f (nI e) (nI a) (nI (loT R (tp R) e a i)) (nI (i + 1)) M = some (nI (loT R (tp R) e a 7), M) := by
    intro f
    induction f with
    | zero => intro i _ h; omega
    | succ f ih =>
      intro i hi hf
      show f_X11_leastOnwards_18_b (f_X11_leastOnwards_18 f) _ _ _ _ M = _
      unfold f_X11_leastOnwards_18_b
      by_cases e7 : i = 7
      · subst e7; rw [if_pos (by decide)]
      · rw [if_neg (show ¬ (8 : Int32) ≤ nI (i + 1) from nI_ge (b := 8) (by omega) (by decide)), nI_pred, tst_n (by omega)]
        have h1 := ih (i + 1) (by omega) (by omega)
        have el : loT R (tp R) e a (i + 1) = if e.testBit i = true then mnN (loT R (tp R) e a i) (R a (i + 1) + tp R (e - 2 ^ i) (i + 1)) else loT R (tp R) e a i := rfl
        rw [el] at h1
        by_cases hb : e.testBit i = true
        · rw [if_pos hb] at h1
          have hRl : R a (i + 1) ≤ 1000000 := by rw [hR]; exact rdN_le h ha (by omega)
          have htl : tp R (e - 2 ^ i) (i + 1) ≤ 2000000 := by
            rw [tp_eq]
            split
            · rw [hR]; exact Nat.le_trans (rdN_le h (by omega) (by decide)) (by decide)
            · exact Nat.le_trans (loT_le 7) (by decide)
          have hll := loT_le (R := R) (t := tp R) (e := e) (a := a) i
          have emn : ∀ x y : Nat, x ≤ 1000000 → y ≤ 3000000 → f_J9_min_7cf53 (nI x) (nI y) M = some (nI (mnN x y), M) := fun x y hx hy => by
            unfold f_J9_min_7cf53 mnN
            by_cases q : y < x
            · rw [if_pos q, if_pos (nI_lt q (by omega))]
            · rw [if_neg q, if_neg (nI_nlt (by omega) (by omega))]
          rw [if_pos hb, if_neg (by decide), cl_s (hoursOver_e hR h h2 h8 he ha hT hb), cl_s (emn _ _ hll (by omega))]
          simp only [lt]
          rw [nI_1]
          exact h1
        · rw [if_neg hb] at h1
          rw [if_neg hb, if_pos rfl]
          simp only [lt]
          rw [nI_1]
          exact h1
  exact loop BG 0 (by omega) (by unfold BG; omega)
theorem sh_n : ∀ n : Nat, 2 ≤ n → n ≤ 8 → ((1 : Int32) <<< ((nI n - 1) &&& 31)) - 1 = nI (2 ^ (n - 1) - 1) ∧ ((1 : Int32) <<< (nI n &&& 31)) = nI (2 * 2 ^ (n - 1)) ∧ pcF 7 (2 ^ (n - 1) - 1) = n - 1 := by
  intro n h2 h8
  have : n = 2 ∨ n = 3 ∨ n = 4 ∨ n = 5 ∨ n = 6 ∨ n = 7 ∨ n = 8 := by omega
  rcases this with rfl | rfl | rfl | rfl | rfl | rfl | rfl <;> decide
/-- the class fills its table -/
theorem fills_c {R : Nat → Nat → Nat} {x2 x3 : Int32} (hR : R = rdN (M 7)) (h : ∀ i : Nat, i < 64 → bnd (M 7 i) 0 99) (h2 : 2 ≤ n) (h8 : n ≤ 8) : ∃ M', (∀ K, f_X11_tour_44 BG (nI n) x2 x3 (nI (2 ^ (n - 1) - 1)) 0 M = K → f_X11_tour_44_b (fun _ _ _ _ _ _ => none) (nI n) x2 x3 (nI (2 ^ (n - 1) - 1)) (nI (2 ^ (n - 1))) M' = K) ∧ TbC R n M' (2 ^ (n - 1)) 0 ∧ fr [133] M M' := by
  have hp := p7 h2 h8
  have hpos := Nat.two_pow_pos (n - 1)
  generalize hP : 2 ^ (n - 1) = P at *
  have row : ∀ {X : IM}, fr [133] M X → R = rdN (X 7) ∧ ∀ i : Nat, i < 64 → bnd (X 7 i) 0 99 := fun {X} hX => by rw [hX 7 (by decide)]; exact ⟨hR, h⟩
  have inner : ∀ (K : Int32 → Int32 → Int32 → Int32 → Int32 → IM → IR) (e : Nat), e < P → ∀ (f a : Nat) (X : IM), a ≤ n → n - a < f → TbC R n X e a → fr [133] M X → ∃ X', f_X11_tour_54 K f (nI n) x2 x3 (nI (P - 1)) (nI e) (nI a) X = K (nI n) x2 x3 (nI (P - 1)) (nI (e + 1)) X' ∧ TbC R n X' (e + 1) 0 ∧ fr [133] M X' := by
    intro K e he f
    induction f with
    | zero => intro a X _ h; omega
    | succ f ih =>
      intro a X ha hf hT hX
      by_cases en : a = n
      · subst en
        refine ⟨X, ?_, fun e' a' h' => hT e' a' ?_, hX⟩
        · show f_X11_tour_54_b K (f_X11_tour_54 K f) _ _ _ _ _ _ X = _
          unfold f_X11_tour_54_b
          rw [if_pos (nI_le (Nat.le_refl _) (by omega))]
          simp only [lt]
          rw [nI_1]
        · by_cases q : e' = e
          · exact Or.inr ⟨q, by omega⟩
          · exact Or.inl ⟨by omega, by omega⟩
      · obtain ⟨r1, r2⟩ := row hX
        have e1 : nI e * 8 + nI a = nI (8 * e + a) := by rw [show (8 : Int32) = nI 8 from rfl, pk_mul, nI_add, Nat.mul_comm]
        have hT2 : TbC R n (ms X 133 (8 * e + a) (nI (tp R e a))) e (a + 1) := fun e' a' h' => by
          rw [ms_ro]
          by_cases q : 8 * e' + a' = 8 * e + a
          · rw [q, upd_s]
            have : e' = e ∧ a' = a := by omega
            rw [this.1, this.2]
          · rw [upd_n q]
            exact hT e' a' (by omega)
        obtain ⟨X', g1, g2, g3⟩ := ih (a + 1) _ (by omega) (by omega) hT2 (fr_ms hX (by simp))
        refine ⟨X', ?_, g2, g3⟩
        rw [← g1]
        show f_X11_tour_54_b K (f_X11_tour_54 K f) _ _ _ _ _ _ X = _
        unfold f_X11_tour_54_b
        rw [if_neg (nI_ge (by omega) (by omega)), cl_s (least_e (n := n) (b := a) r1 r2 h2 h8 (by rw [hP]; exact he) (by omega) hT), wrK (j := 8 * e + a) (n := 1024) e1 (by omega) (by decide)]
        simp only [lt]
        rw [nI_1]
  have outer : ∀ (k f e : Nat) (X : IM), e + k = P → k < f → TbC R n X e 0 → fr [133] M X → ∃ M', f_X11_tour_44 f (nI n) x2 x3 (nI (P - 1)) (nI e) X = f_X11_tour_44 (f - k) (nI n) x2 x3 (nI (P - 1)) (nI P) M' ∧ TbC R n M' P 0 ∧ fr [133] M M' := by
    intro k
    induction k with
    | zero =>
      intro f e X he hf hT hX
      have : e = P := by omega
      subst this
      exact ⟨X, rfl, hT, hX⟩
    | succ k ih =>
      intro f e X he hf hT hX
      obtain ⟨m, rfl⟩ : ∃ m, f = m + 1 := ⟨f - 1, by omega⟩
      obtain ⟨X', g1, g2, g3⟩ := inner (f_X11_tour_44 m) e (by omega) BG 0 X (by omega) (by unfold BG; omega) hT hX
      obtain ⟨M', k1, k2, k3⟩ := ih m (e + 1) X' (by omega) (by omega) g2 g3
      refine ⟨M', ?_, k2, k3⟩
      rw [show m + 1 - (k + 1) = m - k by omega, ← k1, ← g1]
      show f_X11_tour_44_b (f_X11_tour_44 m) _ _ _ _ _ X = _
      unfold f_X11_tour_44_b
      rw [if_neg (nI_nlt (by omega) (by omega))]
      rfl
  obtain ⟨M', g1, g2, g3⟩ := outer P BG 0 M (by omega) (by unfold BG; omega) (fun e' a' h' => by omega) fr_rf
  refine ⟨M', fun K hK => ?_, g2, g3⟩
  have hK2 : f_X11_tour_44 BG (nI n) x2 x3 (nI (P - 1)) (nI 0) M = K := hK
  rw [g1, show BG - P = (BG - P - 1) + 1 by unfold BG; omega] at hK2
  rw [← hK2]
  show _ = f_X11_tour_44_b (f_X11_tour_44 (BG - P - 1)) _ _ _ _ _ M'
  unfold f_X11_tour_44_b
  rw [if_pos (nI_lt (by omega) (by omega)), if_pos (nI_lt (by omega) (by omega))]
theorem byParish_e {R : Nat → Nat → Nat} {e a i b : Nat} (hR : R = rdN (M 7)) (h : ∀ i : Nat, i < 64 → D 141 i = M 7 i ∧ bnd (M 7 i) 0 99) (h2 : 2 ≤ n) (h8 : n ≤ 8) (he : e < 2 ^ (n - 1)) (ha : a < 8) (hT : TbM R n D e b) (hb : e.testBit i = true) : f_X12_byParish (nI (2 * e)) (nI a) (nI (i + 1)) D = some (nI (mnN 1000000 (R a (i + 1) + tp R (e - 2 ^ i) (i + 1))), D) := by
  have hi := bit_n h2 h8 he hb
  have hp := p7 h2 h8
  obtain ⟨-, b1, -⟩ := bits_c e (by omega) i (by omega) hb
  have hle := bit_le hb
  have hpos := Nat.two_pow_pos i
  have hRl : ∀ a b : Nat, a < 8 → b < 8 → R a b ≤ 1000000 := fun a b h1 h2 => by rw [hR]; exact rdN_le (fun i hi => (h i hi).2) h1 h2
  have htl : tp R (e - 2 ^ i) (i + 1) ≤ 1000000 := by
    rw [tp_eq]
    split
    · exact hRl _ _ (by omega) (by decide)
    · exact loT_le 7
  have hr1 := hRl a (i + 1) ha (by omega)
  unfold f_X12_byParish
  have e1 : (8 : Int32) * nI (2 * (e - 2 ^ i)) + nI (i + 1) = nI (16 * (e - 2 ^ i) + (i + 1)) := by rw [show (8 : Int32) = nI 8 from rfl, pk_mul, nI_add]; congr 1; omega
  have els : ∀ y : Nat, y ≤ 3000000 → f_X12_lesser 1000000 (nI y) D = some (nI (mnN 1000000 y), D) := fun y hy => by
    unfold f_X12_lesser mnN
    by_cases q : y < 1000000
    · rw [if_pos q, if_pos (show nI y ≤ 1000000 from nI_le (b := 1000000) (by omega) (by decide))]
    · rw [if_neg q]
      by_cases q2 : y = 1000000
      · subst q2; rw [if_pos (by decide)]
      · rw [if_neg (show ¬ nI y ≤ 1000000 from nI_ge (a := 1000000) (by omega) (by omega))]; rfl
  rw [cl_s (roadTo_e h ha (by omega)), b1, rdK (j := 16 * (e - 2 ^ i) + (i + 1)) (n := 2048) e1 (by omega) (by decide), hT (e - 2 ^ i) (i + 1) (Or.inl ⟨by omega, hi⟩), nI_add, ← hR, cl_s (els _ (by omega))]
theorem mn_cap {x y : Nat} (h : x ≤ 1000000) : mnN x (mnN 1000000 y) = mnN x y := by
  unfold mnN
  repeat' split
  all_goals omega
/-- bits behind n - 1 aren't there -/
theorem loT_n {R t : Nat → Nat → Nat} {e a : Nat} (h2 : 2 ≤ n) (h8 : n ≤ 8) (he : e < 2 ^ (n - 1)) : loT R t e a (n - 1) = loT R t e a 7 := by
  have : ∀ k : Nat, loT R t e a (n - 1 + k) = loT R t e a (n - 1) := by
    intro k
    induction k with
    | zero => rfl
    | succ k ih =>
      show (if e.testBit (n - 1 + k) = true then _ else loT R t e a (n - 1 + k)) = _
      rw [if_neg, ih]
      intro hb
      have := bit_n h2 h8 he hb
      omega
  have := this (8 - n)
  rw [show n - 1 + (8 - n) = 7 by omega] at this
  exact this.symm
/-- the model fills its table -/
theorem fills_m {R : Nat → Nat → Nat} (hR : R = rdN (M 7)) (h : ∀ i : Nat, i < 64 → D 141 i = M 7 i ∧ bnd (M 7 i) 0 99) (h2 : 2 ≤ n) (h8 : n ≤ 8) : ∃ D', f_X12_findsTours (nI n) D = some (0, D') ∧ TbM R n D' (2 ^ (n - 1)) 0 ∧ fr [161] D D' := by
  have hp := p7 h2 h8
  have hpos := Nat.two_pow_pos (n - 1)
  obtain ⟨-, sh2, -⟩ := sh_n n h2 h8
  have row : ∀ {X : IM}, fr [161] D X → ∀ i : Nat, i < 64 → X 141 i = M 7 i ∧ bnd (M 7 i) 0 99 := fun {X} hX => by rw [hX 141 (by decide)]; exact h
  have hRl : ∀ a b : Nat, a < 8 → b < 8 → R a b ≤ 1000000 := fun a b h1 h2 => by rw [hR]; exact rdN_le (fun i hi => (h i hi).2) h1 h2
  have in3 : ∀ (K2 : Int32 → Int32 → IM → IR) (K : Int32 → Int32 → Int32 → IM → IR) (e a : Nat) (X : IM), e < 2 ^ (n - 1) → a < n → TbM R n X e a → fr [161] D X → (∀ s : Nat, (e = 0 ∧ s = R a 0) ∨ (¬ e = 0 ∧ s = 1000000) → f_X12_findsTours_47 K2 K BG (nI n) (nI (2 * e)) (nI a) (nI s) 1 X = K (nI n) (nI (2 * e)) (nI (a + 1)) (ms X 161 (16 * e + a) (nI (tp R e a)))) := by
    intro K2 K e a X he ha hT hX s hs
    have e1 : (8 : Int32) * nI (2 * e) + nI a = nI (16 * e + a) := by rw [show (8 : Int32) = nI 8 from rfl, pk_mul, nI_add]; congr 1; omega
    have loop : ∀ f i : Nat, i + 1 ≤ n → n - i < f + 1 → f_X12_findsTours_47 K2 K f (nI n) (nI (2 * e)) (nI a) (nI (if e = 0 then s else loT R (tp R) e a i)) (nI (i + 1)) X = K (nI n) (nI (2 * e)) (nI (a + 1)) (ms X 161 (16 * e + a) (nI (tp R e a))) := by
      intro f
      induction f with
      | zero => intro i _ h; omega
      | succ f ih =>
        intro i hi hf
        show f_X12_findsTours_47_b K2 K (f_X12_findsTours_47 K2 K f) _ _ _ _ _ X = _
        unfold f_X12_findsTours_47_b
        by_cases en : i + 1 = n
        · have hv : (if e = 0 then s else loT R (tp R) e a i) = tp R e a := by
            rw [tp_eq]
            by_cases h0 : e = 0
            · rw [if_pos h0, if_pos h0]
              rcases hs with ⟨-, q⟩ | ⟨q, -⟩
              · exact q
              · exact absurd h0 q
            · rw [if_neg h0, if_neg h0, ← loT_n h2 h8 he, show n - 1 = i by omega]
          rw [if_pos (nI_le (by omega) (by omega)), hv, wrK (j := 16 * e + a) (n := 2048) e1 (by omega) (by decide)]
          simp only [lt]
          rw [nI_1]
        · rw [if_neg (nI_ge (by omega) (by omega)), tst_n (by omega), tb2]
          have h1 := ih (i + 1) (by omega) (by omega)
          have el : loT R (tp R) e a (i + 1) = if e.testBit i = true then mnN (loT R (tp R) e a i) (R a (i + 1) + tp R (e - 2 ^ i) (i + 1)) else loT R (tp R) e a i := rfl
          rw [el] at h1
          by_cases hb : e.testBit i = true
          · have h0 : ¬ e = 0 := fun q => by rw [q] at hb; simp at hb
            rw [if_pos hb] at h1
            rw [if_neg h0] at h1 ⊢
            have hll := loT_le (R := R) (t := tp R) (e := e) (a := a) i
            have els : ∀ x y : Nat, x ≤ 1000000 → f_X12_lesser (nI x) (nI (mnN 1000000 y)) X = some (nI (mnN x y), X) := fun x y hx => by
              rw [← mn_cap (y := y) hx]
              have hc : mnN 1000000 y ≤ 1000000 := by unfold mnN; split <;> omega
              generalize mnN 1000000 y = z at *
              unfold f_X12_lesser mnN
              by_cases q : z < x
              · rw [if_pos q, if_pos (nI_le (by omega) (by omega))]
              · rw [if_neg q]
                by_cases q2 : z = x
                · subst q2; rw [if_pos (Int32.le_refl _)]
                · rw [if_neg (nI_ge (by omega) (by omega))]
            rw [if_pos hb, if_pos rfl, cl_s (byParish_e (n := n) (b := a) hR (row hX) h2 h8 he (by omega) hT hb), cl_s (els _ _ hll)]
            simp only [lt]
            rw [nI_1]
            exact h1
          · rw [if_neg hb] at h1
            rw [if_neg hb, if_neg (show ¬ (0 : Int32) = 1 by decide)]
            simp only [lt]
            rw [nI_1]
            exact h1
    have := loop BG 0 (by omega) (by unfold BG; omega)
    have e0 : (if e = 0 then s else loT R (tp R) e a 0) = s := by
      rcases hs with ⟨q, -⟩ | ⟨q, q2⟩
      · rw [if_pos q]
      · rw [if_neg q, q2]; rfl
    rw [e0] at this
    exact this
  have in2 : ∀ (K2 : Int32 → Int32 → IM → IR) (e : Nat), e < 2 ^ (n - 1) → ∀ (f a : Nat) (X : IM), a ≤ n → n - a < f → TbM R n X e a → fr [161] D X → ∃ X', f_X12_findsTours_21 K2 f (nI n) (nI (2 * e)) (nI a) X = K2 (nI n) (nI (2 * e + 1)) X' ∧ TbM R n X' (e + 1) 0 ∧ fr [161] D X' := by
    intro K2 e he f
    induction f with
    | zero => intro a X _ h; omega
    | succ f ih =>
      intro a X ha hf hT hX
      by_cases en : a = n
      · subst en
        refine ⟨X, ?_, fun e' a' h' => hT e' a' ?_, hX⟩
        · show f_X12_findsTours_21_b K2 (f_X12_findsTours_21 K2 f) _ _ _ X = _
          unfold f_X12_findsTours_21_b
          rw [if_pos (nI_le (Nat.le_refl _) (by omega))]
          simp only [lt]
          rw [nI_1]
        · by_cases q : e' = e
          · exact Or.inr ⟨q, by omega⟩
          · exact Or.inl ⟨by omega, by omega⟩
      · have hT2 : TbM R n (ms X 161 (16 * e + a) (nI (tp R e a))) e (a + 1) := fun e' a' h' => by
          rw [ms_ro]
          by_cases q : 16 * e' + a' = 16 * e + a
          · rw [q, upd_s]
            have : e' = e ∧ a' = a := by omega
            rw [this.1, this.2]
          · rw [upd_n q]
            exact hT e' a' (by omega)
        obtain ⟨X', g1, g2, g3⟩ := ih (a + 1) _ (by omega) (by omega) hT2 (fr_ms hX (by simp))
        refine ⟨X', ?_, g2, g3⟩
        rw [← g1]
        show f_X12_findsTours_21_b K2 (f_X12_findsTours_21 K2 f) _ _ _ X = _
        unfold f_X12_findsTours_21_b
        rw [if_neg (nI_ge (by omega) (by omega))]
        by_cases h0 : e = 0
        · rw [if_pos (show nI (2 * e) = 0 by rw [h0]; rfl), cl_s (show f_X12_roadTo (nI a) 0 X = _ from roadTo_e (b := 0) (row hX) (by omega) (by decide)), ← hR]
          exact in3 K2 _ e a X he (by omega) hT hX _ (Or.inl ⟨h0, rfl⟩)
        · rw [if_neg (nI_ne0 (by omega) (by omega))]
          exact in3 K2 _ e a X he (by omega) hT hX 1000000 (Or.inr ⟨h0, rfl⟩)
  have outer : ∀ (k f e : Nat) (X : IM), e + k = 2 ^ (n - 1) → 2 * k < f → TbM R n X e 0 → fr [161] D X → ∃ D', f_X12_findsTours_2 f (nI n) (nI (2 * e)) X = some (0, D') ∧ TbM R n D' (2 ^ (n - 1)) 0 ∧ fr [161] D D' := by
    intro k
    induction k with
    | zero =>
      intro f e X he hf hT hX
      obtain ⟨m, rfl⟩ : ∃ m, f = m + 1 := ⟨f - 1, by omega⟩
      have : e = 2 ^ (n - 1) := by omega
      subst this
      refine ⟨X, ?_, hT, hX⟩
      show f_X12_findsTours_2_b (f_X12_findsTours_2 m) _ _ X = _
      unfold f_X12_findsTours_2_b
      rw [sh2, if_pos (nI_le (Nat.le_refl _) (by omega))]
    | succ k ih =>
      intro f e X he hf hT hX
      obtain ⟨m, rfl⟩ : ∃ m, f = m + 2 := ⟨f - 2, by omega⟩
      obtain ⟨X', g1, g2, g3⟩ := in2 (f_X12_findsTours_2 (m + 1)) e (by omega) BG 0 X (by omega) (by unfold BG; omega) hT hX
      obtain ⟨M', k1, k2, k3⟩ := ih m (e + 1) X' (by omega) (by omega) g2 g3
      refine ⟨M', ?_, k2, k3⟩
      have ev : nI (2 * e) &&& 1 = nI 0 := by
        show nI (2 * e) &&& nI 1 = _
        rw [nx_and, Nat.and_one_is_mod, show 2 * e % 2 = 0 by omega]
      have od : nI (2 * e + 1) &&& 1 = nI 1 := by
        show nI (2 * e + 1) &&& nI 1 = _
        rw [nx_and, Nat.and_one_is_mod, show (2 * e + 1) % 2 = 1 by omega]
      show f_X12_findsTours_2_b (f_X12_findsTours_2 (m + 1)) _ _ X = _
      unfold f_X12_findsTours_2_b
      rw [sh2, if_neg (nI_ge (by omega) (by omega)), ev, if_neg (by decide)]
      show f_X12_findsTours_21 (f_X12_findsTours_2 (m + 1)) BG (nI n) (nI (2 * e)) (nI 0) X = _
      rw [g1]
      show f_X12_findsTours_2_b (f_X12_findsTours_2 m) _ _ X' = _
      unfold f_X12_findsTours_2_b
      rw [sh2, if_neg (nI_ge (by omega) (by omega)), od, if_pos (by decide)]
      simp only [lt]
      rw [nI_1]
      exact k1
  exact outer (2 ^ (n - 1)) BG 0 D (by omega) (by unfold BG; omega) (fun e' a' h' => by omega) fr_rf
end TOUR
