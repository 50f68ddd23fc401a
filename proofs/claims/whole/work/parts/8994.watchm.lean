/-! watches: the model's table -/
def up (w j : Nat) : List Nat := lsF (fun x => x) w j
theorem up_s (w j : Nat) : up w (j + 1) = w :: up (w + 1) j := rfl
def acN (s t : Nat) : Nat → Nat
  | 0 => 0
  | k + 1 => acN s t k + (if (tkl t).testBit k = true ∧ 0 < s / 11 ^ k % 11 then 11 ^ k else 0)
def lsN (s t : Nat) : Nat := s - acN s t 4
/-- what is needed at a state -/
def vS (p : Nat → Nat → Nat) (ws : List Nat) (s : Nat) : Nat := vd p ws (s % 11) (s / 11 % 11) (s / 121 % 11) (s / 1331 % 11)
theorem dg4 {a b c d : Nat} (ha : a < 11) (hb : b < 11) (hc : c < 11) (hd : d < 11) : (a + 11 * b + 121 * c + 1331 * d) % 11 = a ∧ (a + 11 * b + 121 * c + 1331 * d) / 11 % 11 = b ∧ (a + 11 * b + 121 * c + 1331 * d) / 121 % 11 = c ∧ (a + 11 * b + 121 * c + 1331 * d) / 1331 % 11 = d := by
  have e1 : (a + 11 * b + 121 * c + 1331 * d) / 11 = b + 11 * c + 121 * d := by omega
  have e2 : (a + 11 * b + 121 * c + 1331 * d) / 121 = c + 11 * d := by omega
  have e3 : (a + 11 * b + 121 * c + 1331 * d) / 1331 = d := by omega
  rw [e1, e2, e3]
  refine ⟨by omega, by omega, by omega, by omega⟩
theorem dg_of {s : Nat} (hs : s < 14641) : ∃ a b c d : Nat, a < 11 ∧ b < 11 ∧ c < 11 ∧ d < 11 ∧ s = a + 11 * b + 121 * c + 1331 * d := by
  refine ⟨s % 11, s / 11 % 11, s / 11 / 11 % 11, s / 11 / 11 / 11, by omega, by omega, by omega, by omega, ?_⟩
  have h1 := Nat.div_add_mod s 11
  have h2 := Nat.div_add_mod (s / 11) 11
  have h3 := Nat.div_add_mod (s / 11 / 11) 11
  omega
theorem zq_x {s t k v : Nat} (hv : s / 11 ^ k % 11 = v) : ∃ x : Nat, (if (tkl t).testBit k = true ∧ 0 < s / 11 ^ k % 11 then 11 ^ k else 0) = x * 11 ^ k ∧ x ≤ v ∧ v - tb t k = v - x := by
  rw [hv]
  unfold tb
  by_cases h1 : (tkl t).testBit k = true
  · by_cases h2 : 0 < v
    · exact ⟨1, by rw [if_pos ⟨h1, h2⟩, Nat.one_mul], h2, by rw [if_pos h1]⟩
    · refine ⟨0, by rw [if_neg (fun q => h2 q.2), Nat.zero_mul], Nat.zero_le _, ?_⟩
      rw [if_pos h1, show v = 0 from Nat.eq_zero_of_not_pos h2]
  · exact ⟨0, by rw [if_neg (fun q => h1 q.1), Nat.zero_mul], Nat.zero_le _, by rw [if_neg h1]⟩
theorem zq_ar {a b c d x0 x1 x2 x3 : Nat} (ha : a < 11) (hb : b < 11) (hc : c < 11) (hd : d < 11) (c0 : x0 ≤ a) (c1 : x1 ≤ b) (c2 : x2 ≤ c) (c3 : x3 ≤ d) : x0 + 11 * x1 + 121 * x2 + 1331 * x3 ≤ a + 11 * b + 121 * c + 1331 * d ∧ (a + 11 * b + 121 * c + 1331 * d) - (x0 + 11 * x1 + 121 * x2 + 1331 * x3) = (a - x0) + 11 * (b - x1) + 121 * (c - x2) + 1331 * (d - x3) := by omega
theorem zq_digs {s t : Nat} (hs : s < 14641) : acN s t 4 ≤ s ∧ lsN s t ≤ s ∧ lsN s t % 11 = s % 11 - tb t 0 ∧ lsN s t / 11 % 11 = s / 11 % 11 - tb t 1 ∧ lsN s t / 121 % 11 = s / 121 % 11 - tb t 2 ∧ lsN s t / 1331 % 11 = s / 1331 % 11 - tb t 3 := by
  obtain ⟨a, b, c, d, ha, hb, hc, hd, hS⟩ := dg_of hs
  obtain ⟨q0, q1, q2, q3⟩ := dg4 ha hb hc hd
  rw [← hS] at q0 q1 q2 q3
  obtain ⟨x0, a0, c0, d0⟩ := zq_x (s := s) (t := t) (k := 0) (v := a) (by rw [Nat.pow_zero, Nat.div_one]; exact q0)
  obtain ⟨x1, a1, c1, d1⟩ := zq_x (s := s) (t := t) (k := 1) (v := b) (by rw [Nat.pow_one]; exact q1)
  obtain ⟨x2, a2, c2, d2⟩ := zq_x (s := s) (t := t) (k := 2) (v := c) q2
  obtain ⟨x3, a3, c3, d3⟩ := zq_x (s := s) (t := t) (k := 3) (v := d) q3
  have e4 : acN s t 4 = x0 + 11 * x1 + 121 * x2 + 1331 * x3 := by
    have e1 : acN s t 1 = 0 + x0 * 11 ^ 0 := by rw [← a0]; rfl
    have e2 : acN s t 2 = acN s t 1 + x1 * 11 ^ 1 := by rw [← a1]; rfl
    have e3 : acN s t 3 = acN s t 2 + x2 * 11 ^ 2 := by rw [← a2]; rfl
    have e5 : acN s t 4 = acN s t 3 + x3 * 11 ^ 3 := by rw [← a3]; rfl
    clear a0 a1 a2 a3
    rw [e5, e3, e2, e1]
    omega
  clear a0 a1 a2 a3
  obtain ⟨z1, z2⟩ := zq_ar ha hb hc hd c0 c1 c2 c3
  have el : lsN s t = (a - x0) + 11 * (b - x1) + 121 * (c - x2) + 1331 * (d - x3) := by
    unfold lsN
    rw [e4, ← z2, ← hS]
  obtain ⟨r0, r1, r2, r3⟩ := dg4 (a := a - x0) (b := b - x1) (c := c - x2) (d := d - x3) (by omega) (by omega) (by omega) (by omega)
  refine ⟨by rw [e4, hS]; exact z1, by unfold lsN; exact Nat.sub_le _ _, ?_, ?_, ?_, ?_⟩
  · rw [el, r0, q0, d0]
  · rw [el, r1, q1, d1]
  · rw [el, r2, q2, d2]
  · rw [el, r3, q3, d3]
theorem needOf_e {s k : Nat} {X : IM} (hs : s < 2 ^ 20) (hk : k < 4) : f_X12_needOf (nI s) (nI k) X = some (nI (s / 11 ^ k % 11), X) := by
  have loop : ∀ f i : Nat, i ≤ k → k - i < f → f_X12_needOf_5 f (nI k) (nI (s / 11 ^ i)) (nI i) X = some (nI (s / 11 ^ k % 11), X) := by
    intro f
    induction f with
    | zero => intro i _ h; omega
    | succ f ih =>
      intro i hi hf
      have hd : s / 11 ^ i ≤ s := Nat.div_le_self _ _
      show f_X12_needOf_5_b (f_X12_needOf_5 f) _ _ _ X = _
      unfold f_X12_needOf_5_b
      by_cases e : i = k
      · subst e
        rw [if_pos (nI_le (Nat.le_refl _) (by omega)), show nI (s / 11 ^ i) - nI (s / 11 ^ i) / 11 * 11 = nI (s / 11 ^ i % 11) from pk_rem (d := 11) (by omega) (by decide) (by decide)]
      · rw [if_neg (nI_ge (by omega) (by omega))]
        simp only [lt]
        rw [nI_1, show nI (s / 11 ^ i) / 11 = nI (s / 11 ^ i / 11) from pk_div (d := 11) (by omega) (by decide) (by decide), Nat.div_div_eq_div_mul, ← Nat.pow_succ]
        exact ih (i + 1) (by omega) (by omega)
  have := loop BG 0 (by omega) (by unfold BG; omega)
  rw [Nat.pow_zero, Nat.div_one] at this
  exact this
theorem tkl_lt : ∀ t : Nat, t < 7 → tkl t < 11 := by decide
theorem less_e {s t : Nat} {X : IM} (hs : s < 14641) (ht : t < 7) : f_X12_less (nI s) (nI (tkl t)) X = some (nI (lsN s t), X) := by
  obtain ⟨h1, h2, -⟩ := zq_digs (t := t) hs
  have hmono : ∀ k : Nat, acN s t k ≤ acN s t (k + 1) := fun k => Nat.le_add_right _ _
  have loop : ∀ f k : Nat, k ≤ 4 → 4 - k < f → f_X12_less_8 f (nI s) (nI (tkl t)) (nI (s - acN s t k)) (nI (11 ^ k)) (nI k) X = some (nI (lsN s t), X) := by
    intro f
    induction f with
    | zero => intro k _ h; omega
    | succ f ih =>
      intro k hk hf
      show f_X12_less_8_b (f_X12_less_8 f) _ _ _ _ _ X = _
      unfold f_X12_less_8_b
      by_cases e : k = 4
      · subst e
        rw [if_pos (by decide)]
        rfl
      · have hk4 : acN s t (k + 1) ≤ s := by
          have m2 : acN s t 1 ≤ acN s t 2 := hmono 1
          have m3 : acN s t 2 ≤ acN s t 3 := hmono 2
          have m4 : acN s t 3 ≤ acN s t 4 := hmono 3
          have : k = 0 ∨ k = 1 ∨ k = 2 ∨ k = 3 := by omega
          rcases this with rfl | rfl | rfl | rfl
          · show acN s t 1 ≤ s; omega
          · show acN s t 2 ≤ s; omega
          · show acN s t 3 ≤ s; omega
          · exact h1
        have ea : acN s t (k + 1) = acN s t k + (if (tkl t).testBit k = true ∧ 0 < s / 11 ^ k % 11 then 11 ^ k else 0) := rfl
        have c39 : ∀ v : Nat, v = s - acN s t (k + 1) → f_X12_less_39 (f_X12_less_8 f) (nI s) (nI (tkl t)) (nI v) (nI (11 ^ k)) (nI k) X = some (nI (lsN s t), X) := by
          rintro v rfl
          unfold f_X12_less_39
          simp only [lt]
          rw [nI_1, show nI (11 ^ k) * 11 = nI (11 ^ k * 11) from pk_mul _ 11, ← Nat.pow_succ]
          exact ih (k + 1) (by omega) (by omega)
        rw [if_neg (show ¬ (4 : Int32) ≤ nI k from nI_ge (b := 4) (by omega) (by decide)), tst_n (by omega)]
        by_cases hb : (tkl t).testBit k = true
        · rw [if_pos hb, if_pos rfl, cl_s (needOf_e (by omega) (by omega))]
          by_cases hd : 0 < s / 11 ^ k % 11
          · rw [if_neg (nI_nle hd (by omega))]
            rw [if_pos ⟨hb, hd⟩] at ea
            simp only [lt]
            rw [pk_sub (by omega)]
            exact c39 _ (by omega)
          · have h0 : s / 11 ^ k % 11 = 0 := by omega
            rw [if_neg (fun q => hd q.2)] at ea
            rw [h0, if_pos (by decide)]
            exact c39 _ (by omega)
        · rw [if_neg (fun q => hb q.1)] at ea
          rw [if_neg hb, if_neg (by decide)]
          exact c39 _ (by omega)
  exact loop BG 0 (by omega) (by unfold BG; omega)
theorem taken_e {X : IM} (t : Nat) (ht : t < 7) : f_X12_takenBy (nI t) X = some (nI (tkl t), X) := by
  have k1 : (1 : Int32) <<< ((nI 1 - 1) &&& 31) = nI (tkl 1) := by decide
  have k2 : (1 : Int32) <<< ((nI 2 - 1) &&& 31) = nI (tkl 2) := by decide
  have k3 : (1 : Int32) <<< ((nI 3 - 1) &&& 31) = nI (tkl 3) := by decide
  have k4 : (1 : Int32) <<< ((nI 4 - 1) &&& 31) = nI (tkl 4) := by decide
  have k5 : (5 : Int32) = nI (tkl 5) := by decide
  have k6 : (10 : Int32) = nI (tkl 6) := by decide
  have k0 : (0 : Int32) = nI (tkl 0) := by decide
  unfold f_X12_takenBy
  have : t = 0 ∨ t = 1 ∨ t = 2 ∨ t = 3 ∨ t = 4 ∨ t = 5 ∨ t = 6 := by omega
  rcases this with rfl | rfl | rfl | rfl | rfl | rfl | rfl
  · rw [if_pos (by decide), k0]
  · rw [if_neg (by decide), if_neg (by decide), k1]
  · rw [if_neg (by decide), if_neg (by decide), k2]
  · rw [if_neg (by decide), if_neg (by decide), k3]
  · rw [if_neg (by decide), if_neg (by decide), k4]
  · rw [if_neg (by decide), if_pos (by decide), if_pos (by decide), ← k5]
  · rw [if_neg (by decide), if_pos (by decide), if_neg (by decide), k6]
/-- the prices, as the model has them -/
def PrM (X : IM) (p : Nat → Nat → Nat) (n : Nat) : Prop := ∀ w : Nat, w < n → ∀ k : Nat, k < 4 → X 160 (4 * w + k) = nI (p w k)
section WATM
variable {p : Nat → Nat → Nat} {n F : Nat}
theorem byWay_e {X : IM} {w s t : Nat} (hn : n ≤ 10) (hw : w < n) (hp : ∀ w k : Nat, p w k ≤ 594) (hP : PrM X p n) (hF : F < 14641) (hs : s ≤ F) (ht : t < 7) (hT : ∀ s : Nat, s ≤ F → X 159 (14641 * (w + 1) + s) = nI (vS p (up (w + 1) (n - (w + 1))) s)) : f_X12_byWay (nI w) (nI s) (nI t) X = some (nI (byF p w (up (w + 1) (n - (w + 1))) (s % 11) (s / 11 % 11) (s / 121 % 11) (s / 1331 % 11) t), X) := by
  obtain ⟨-, h2, q0, q1, q2, q3⟩ := zq_digs (s := s) (t := t) (by omega)
  have hv : vS p (up (w + 1) (n - (w + 1))) (lsN s t) = vd p (up (w + 1) (n - (w + 1))) (s % 11 - tb t 0) (s / 11 % 11 - tb t 1) (s / 121 % 11 - tb t 2) (s / 1331 % 11 - tb t 3) := by
    unfold vS
    rw [q0, q1, q2, q3]
  have hvl := vd_le (p := p) (up (w + 1) (n - (w + 1))) (s % 11 - tb t 0) (s / 11 % 11 - tb t 1) (s / 121 % 11 - tb t 2) (s / 1331 % 11 - tb t 3)
  unfold f_X12_byWay
  have e1 : (14641 : Int32) * (nI w + 1) + nI (lsN s t) = nI (14641 * (w + 1) + lsN s t) := by rw [nI_1, show (14641 : Int32) = nI 14641 from rfl, pk_mul, nI_add]
  rw [cl_s (taken_e t ht), cl_s (less_e (by omega) ht), rdK (j := 14641 * (w + 1) + lsN s t) e1 (by omega) (by decide), hT (lsN s t) (by omega), hv]
  have hby : byF p w (up (w + 1) (n - (w + 1))) (s % 11) (s / 11 % 11) (s / 121 % 11) (s / 1331 % 11) t = cstW p w t + vd p (up (w + 1) (n - (w + 1))) (s % 11 - tb t 0) (s / 11 % 11 - tb t 1) (s / 121 % 11 - tb t 2) (s / 1331 % 11 - tb t 3) := rfl
  rw [hby]
  generalize vd p (up (w + 1) (n - (w + 1))) (s % 11 - tb t 0) (s / 11 % 11 - tb t 1) (s / 121 % 11 - tb t 2) (s / 1331 % 11 - tb t 3) = V at *
  obtain ⟨cs, cs0, css⟩ : ∃ cs : Nat → Nat, cs 0 = 0 ∧ ∀ k : Nat, cs (k + 1) = cs k + tb t k * p w k := ⟨fun k => sm (fun k => tb t k * p w k) k, rfl, fun _ => rfl⟩
  have t01 : ∀ k : Nat, tb t k ≤ 1 := fun k => by unfold tb; split <;> omega
  have hm : ∀ k : Nat, tb t k * p w k ≤ 594 := fun k => by
    have h1 := t01 k
    have h2 := hp w k
    have : tb t k * p w k ≤ 1 * p w k := Nat.mul_le_mul_right _ h1
    omega
  have hcs : ∀ k : Nat, cs k ≤ 594 * k := fun k => by
    induction k with
    | zero => rw [cs0]; exact Nat.zero_le _
    | succ k ih =>
      have := hm k
      rw [css k]
      omega
  have loop : ∀ f k : Nat, k ≤ 4 → 4 - k < f → f_X12_byWay_32 f (nI w) (nI (tkl t)) (nI (V + cs k)) (nI k) X = some (nI (V + cs 4), X) := by
    intro f
    induction f with
    | zero => intro k _ h; omega
    | succ f ih =>
      intro k hk hf
      show f_X12_byWay_32_b (f_X12_byWay_32 f) _ _ _ _ X = _
      unfold f_X12_byWay_32_b
      by_cases e : k = 4
      · subst e; rw [if_pos (by decide)]
      · have ec : cs (k + 1) = cs k + tb t k * p w k := css k
        have h1 := ih (k + 1) (by omega) (by omega)
        rw [ec] at h1
        rw [if_neg (show ¬ (4 : Int32) ≤ nI k from nI_ge (b := 4) (by omega) (by decide)), tst_n (by omega)]
        simp only [lt]
        by_cases hb : (tkl t).testBit k = true
        · have et : tb t k = 1 := by unfold tb; rw [if_pos hb]
          rw [et, Nat.one_mul] at h1
          rw [if_pos hb, if_pos rfl, rdK (i := 4 * nI w + nI k) (j := 4 * w + k) (mul_add 4 w k) (by omega) (by decide), hP w hw k (by omega), nI_add, nI_1, Nat.add_assoc]
          exact h1
        · have et : tb t k = 0 := by unfold tb; rw [if_neg hb]
          rw [et, Nat.zero_mul, Nat.add_zero] at h1
          rw [if_neg hb, if_neg (by decide), nI_1]
          exact h1
  have := loop BG 0 (by omega) (by unfold BG; omega)
  have ecs : V + cs 4 = cstW p w t + V := by
    rw [css 3, css 2, css 1, css 0, cs0]
    unfold cstW
    omega
  rw [ecs, cs0, Nat.add_zero] at this
  exact this
theorem byF_le {w : Nat} {ws : List Nat} {a b c d t : Nat} (hp : ∀ w k : Nat, p w k ≤ 594) : byF p w ws a b c d t ≤ 1002376 := by
  have h := vd_le (p := p) ws (a - tb t 0) (b - tb t 1) (c - tb t 2) (d - tb t 3)
  have t01 : ∀ k : Nat, tb t k ≤ 1 := fun k => by unfold tb; split <;> omega
  have hm : ∀ k : Nat, tb t k * p w k ≤ 594 := fun k => by
    have h1 := t01 k
    have h2 := hp w k
    have : tb t k * p w k ≤ 1 * p w k := Nat.mul_le_mul_right _ h1
    omega
  have m0 := hm 0
  have m1 := hm 1
  have m2 := hm 2
  have m3 := hm 3
  unfold byF cstW
  omega
theorem bestWay_e {X : IM} {w s : Nat} (hn : n ≤ 10) (hw : w < n) (hp : ∀ w k : Nat, p w k ≤ 594) (hP : PrM X p n) (hF : F < 14641) (hs : s ≤ F) (hT : ∀ s : Nat, s ≤ F → X 159 (14641 * (w + 1) + s) = nI (vS p (up (w + 1) (n - (w + 1))) s)) : f_X12_bestWay (nI w) (nI s) X = some (nI (bwF (byF p w (up (w + 1) (n - (w + 1))) (s % 11) (s / 11 % 11) (s / 121 % 11) (s / 1331 % 11)) 6), X) := by
  have hb : ∀ t : Nat, t < 7 → f_X12_byWay (nI w) (nI s) (nI t) X = some (nI (byF p w (up (w + 1) (n - (w + 1))) (s % 11) (s / 11 % 11) (s / 121 % 11) (s / 1331 % 11) t), X) := fun t ht => byWay_e hn hw hp hP hF hs ht hT
  have hfl : ∀ t : Nat, byF p w (up (w + 1) (n - (w + 1))) (s % 11) (s / 11 % 11) (s / 121 % 11) (s / 1331 % 11) t ≤ 1002376 := fun t => byF_le hp
  generalize byF p w (up (w + 1) (n - (w + 1))) (s % 11) (s / 11 % 11) (s / 121 % 11) (s / 1331 % 11) = f at *
  have loop : ∀ g i : Nat, i ≤ 6 → 6 - i < g → f_X12_bestWay_5 g (nI w) (nI s) (nI (bwF f i)) (nI (i + 1)) X = some (nI (bwF f 6), X) := by
    intro g
    induction g with
    | zero => intro i _ h; omega
    | succ g ih =>
      intro i hi hg
      show f_X12_bestWay_5_b (f_X12_bestWay_5 g) _ _ _ _ X = _
      unfold f_X12_bestWay_5_b
      by_cases e : i = 6
      · subst e; rw [if_pos (by decide)]
      · have hbw := (bwF_ok (f := f) i).1
        have h1 := ih (i + 1) (by omega) (by omega)
        have el : bwF f (i + 1) = if f (i + 1) < f (bwF f i) then i + 1 else bwF f i := rfl
        rw [el] at h1
        rw [if_neg (show ¬ (7 : Int32) ≤ nI (i + 1) from nI_ge (b := 7) (by omega) (by decide)), cl_s (hb (i + 1) (by omega)), cl_s (hb (bwF f i) (by omega))]
        simp only [lt]
        have l1 := hfl (i + 1)
        have l2 := hfl (bwF f i)
        by_cases q : f (i + 1) < f (bwF f i)
        · rw [if_pos q] at h1
          rw [if_neg (nI_ge q (by omega)), nI_1]
          exact h1
        · rw [if_neg q] at h1
          rw [if_pos (nI_le (by omega) (by omega)), nI_1]
          exact h1
  exact loop BG 0 (by omega) (by unfold BG; omega)
/-- the model's table, all of it -/
theorem finds_m {C D : IM} {l0 l1 : List LLn} {L : Nat} (h : RC C D 1 l0 l1) (hn : n ≤ 10) (en : C 1 10 = nI n) (eL : C 6 0 = nI L) (hL : L ≤ 10) (hp : ∀ w k : Nat, p w k ≤ 594) (hpr : ∀ w k : Nat, w < n → k < 4 → 6 * am (vC C 1 (nI (6 * k)) w) 10011 10 l1 = nI (p w k)) : ∃ X, f_X12_findsWatches D = some (0, X) ∧ PrM X p n ∧ (∀ w : Nat, w ≤ n → ∀ s : Nat, s ≤ 1464 * L → X 159 (14641 * w + s) = nI (vS p (up w (n - w)) s)) ∧ fr [155, 156, 159, 160] D X := by
  have hfs : ∀ X : IM, fr [155, 156, 159, 160] D X → f_X12_firstState X = some (nI (1464 * L), X) := fun X hX => by
    unfold f_X12_firstState
    rw [hX 136 (by decide), h.2.1.2.2.1, eL, show nI L * 1464 = nI (L * 1464) from pk_mul L 1464, Nat.mul_comm]
  have e6 : ∀ X : IM, fr [155, 156, 159, 160] D X → X 136 6 = nI n := fun X hX => by rw [hX 136 (by decide), h.1.2.2.2.1, en]
  -- one row of the table
  have row : ∀ (K : Int32 → IM → IR) (w : Nat), w < n → ∀ (k f s : Nat) (X : IM), s + k = 1464 * L + 1 → k < f → PrM X p n → (∀ v : Nat, w < v → v ≤ n → ∀ s : Nat, s ≤ 1464 * L → X 159 (14641 * v + s) = nI (vS p (up v (n - v)) s)) → (∀ s' : Nat, s' < s → X 159 (14641 * w + s') = nI (vS p (up w (n - w)) s')) → fr [155, 156, 159, 160] D X → ∃ X', f_X12_findsWatches_106 K f (nI w) (nI s) X = K (nI w - 1) X' ∧ PrM X' p n ∧ (∀ v : Nat, w ≤ v → v ≤ n → ∀ s : Nat, s ≤ 1464 * L → X' 159 (14641 * v + s) = nI (vS p (up v (n - v)) s)) ∧ fr [155, 156, 159, 160] D X' := by
    intro K w hw k
    induction k with
    | zero =>
      intro f s X hs hf hP hT hR hX
      obtain ⟨x, rfl⟩ : ∃ x, f = x + 1 := ⟨f - 1, by omega⟩
      refine ⟨X, ?_, hP, fun v hv hvn s' hs' => ?_, hX⟩
      · show f_X12_findsWatches_106_b K (f_X12_findsWatches_106 K x) _ _ X = _
        unfold f_X12_findsWatches_106_b
        rw [cl_s (hfs X hX), if_pos (nI_lt (by omega) (by omega))]
        simp only [lt]
        rw [show nI w + (-1) = nI w - 1 from (Int32.sub_eq_add_neg _ _).symm]
      · by_cases e : v = w
        · subst e; exact hR s' (by omega)
        · exact hT v (by omega) hvn s' hs'
    | succ k ih =>
      intro f s X hs hf hP hT hR hX
      obtain ⟨x, rfl⟩ : ∃ x, f = x + 1 := ⟨f - 1, by omega⟩
      have hT1 := hT (w + 1) (by omega) (by omega)
      have hbest := bestWay_e (X := X) (w := w) (s := s) (F := 1464 * L) hn hw hp hP (by omega) (by omega) hT1
      have hbl := (bwF_ok (f := byF p w (up (w + 1) (n - (w + 1))) (s % 11) (s / 11 % 11) (s / 121 % 11) (s / 1331 % 11)) 6).1
      have hby := byWay_e (X := X) (w := w) (s := s) (F := 1464 * L) (t := bwF (byF p w (up (w + 1) (n - (w + 1))) (s % 11) (s / 11 % 11) (s / 121 % 11) (s / 1331 % 11)) 6) hn hw hp hP (by omega) (by omega) (by omega) hT1
      have ev : vS p (up w (n - w)) s = mnN 1000000 (byF p w (up (w + 1) (n - (w + 1))) (s % 11) (s / 11 % 11) (s / 121 % 11) (s / 1331 % 11) (bwF (byF p w (up (w + 1) (n - (w + 1))) (s % 11) (s / 11 % 11) (s / 121 % 11) (s / 1331 % 11)) 6)) := by
        unfold vS
        rw [show n - w = (n - (w + 1)) + 1 by omega, up_s]
        rfl
      have hbl2 := byF_le (p := p) (w := w) (ws := up (w + 1) (n - (w + 1))) (a := s % 11) (b := s / 11 % 11) (c := s / 121 % 11) (d := s / 1331 % 11) (t := bwF (byF p w (up (w + 1) (n - (w + 1))) (s % 11) (s / 11 % 11) (s / 121 % 11) (s / 1331 % 11)) 6) hp
      have els : ∀ y : Nat, y ≤ 1002376 → f_X12_lesser 1000000 (nI y) X = some (nI (mnN 1000000 y), X) := fun y hy => by
        unfold f_X12_lesser mnN
        by_cases q : y < 1000000
        · rw [if_pos q, if_pos (show nI y ≤ 1000000 from nI_le (b := 1000000) (by omega) (by decide))]
        · rw [if_neg q]
          by_cases q2 : y = 1000000
          · subst q2; rw [if_pos (by decide)]
          · rw [if_neg (show ¬ nI y ≤ 1000000 from nI_ge (a := 1000000) (by omega) (by omega))]; rfl
      obtain ⟨X', g1, g2, g3, g4⟩ := ih x (s + 1) (ms X 159 (14641 * w + s) (nI (vS p (up w (n - w)) s))) (by omega) (by omega) (fun v hv k hk => by rw [ms_ne (by decide)]; exact hP v hv k hk) (fun v hv hvn s' hs' => by rw [ms_at (by omega)]; exact hT v hv hvn s' hs') (fun s' hs' => by
        by_cases e : s' = s
        · subst e; rw [ms_it]
        · rw [ms_at (by omega)]; exact hR s' (by omega)) (fr_ms hX (by simp))
      refine ⟨X', ?_, g2, g3, g4⟩
      rw [← g1]
      show f_X12_findsWatches_106_b K (f_X12_findsWatches_106 K x) (nI w) (nI s) X = _
      unfold f_X12_findsWatches_106_b
      have e1 : (14641 : Int32) * nI w + nI s = nI (14641 * w + s) := mul_add 14641 w s
      rw [cl_s (hfs X hX), if_neg (nI_nlt (by omega) (by omega)), cl_s hbest, cl_s hby, cl_s (els _ hbl2), ← ev, wrK (j := 14641 * w + s) e1 (by omega) (by decide)]
      simp only [lt]
      rw [nI_1]
  have rows : ∀ (w f : Nat) (X : IM), w ≤ n → w < f → PrM X p n → (∀ v : Nat, w ≤ v → v ≤ n → ∀ s : Nat, s ≤ 1464 * L → X 159 (14641 * v + s) = nI (vS p (up v (n - v)) s)) → fr [155, 156, 159, 160] D X → ∃ X', f_X12_findsWatches_100 f (nI w - 1) X = some (0, X') ∧ PrM X' p n ∧ (∀ v : Nat, v ≤ n → ∀ s : Nat, s ≤ 1464 * L → X' 159 (14641 * v + s) = nI (vS p (up v (n - v)) s)) ∧ fr [155, 156, 159, 160] D X' := by
    intro w
    induction w with
    | zero =>
      intro f X _ hf hP hT hX
      obtain ⟨x, rfl⟩ : ∃ x, f = x + 1 := ⟨f - 1, by omega⟩
      refine ⟨X, ?_, hP, fun v hv => hT v (Nat.zero_le _) hv, hX⟩
      show f_X12_findsWatches_100_b (f_X12_findsWatches_100 x) (nI 0 - 1) X = _
      unfold f_X12_findsWatches_100_b
      rw [if_pos (by decide)]
    | succ w ih =>
      intro f X hw hf hP hT hX
      obtain ⟨x, rfl⟩ : ∃ x, f = x + 1 := ⟨f - 1, by omega⟩
      obtain ⟨Y, y1, y2, y3, y4⟩ := row (f_X12_findsWatches_100 x) w (by omega) (1464 * L + 1) BG 0 X (by omega) (by unfold BG; omega) hP (fun v hv hvn s hs => hT v (by omega) hvn s hs) (fun s hs => by omega) hX
      obtain ⟨X', g1, g2, g3, g4⟩ := ih x Y (by omega) (by omega) y2 y3 y4
      refine ⟨X', ?_, g2, g3, g4⟩
      rw [← g1, ← y1]
      show f_X12_findsWatches_100_b (f_X12_findsWatches_100 x) (nI (w + 1) - 1) X = _
      unfold f_X12_findsWatches_100_b
      rw [nI_pred, if_neg (nI_pos (by omega))]
      rfl
  have last : ∀ (k f s : Nat) (X : IM), s + k = 1464 * L + 1 → k < f → PrM X p n → (∀ s' : Nat, s' < s → X 159 (14641 * n + s') = nI (vS p [] s')) → fr [155, 156, 159, 160] D X → ∃ X', f_X12_findsWatches_53 f (nI s) X = some (0, X') ∧ PrM X' p n ∧ (∀ w : Nat, w ≤ n → ∀ s : Nat, s ≤ 1464 * L → X' 159 (14641 * w + s) = nI (vS p (up w (n - w)) s)) ∧ fr [155, 156, 159, 160] D X' := by
    intro k
    induction k with
    | zero =>
      intro f s X hs hf hP hR hX
      obtain ⟨x, rfl⟩ : ∃ x, f = x + 1 := ⟨f - 1, by omega⟩
      obtain ⟨X', g1, g2, g3, g4⟩ := rows n BG X (Nat.le_refl _) (by unfold BG; omega) hP (fun v hv hvn s' hs' => by
        have : v = n := by omega
        subst this
        rw [Nat.sub_self]
        exact hR s' (by omega)) hX
      refine ⟨X', ?_, g2, g3, g4⟩
      show f_X12_findsWatches_53_b (f_X12_findsWatches_53 x) (nI s) X = _
      unfold f_X12_findsWatches_53_b
      rw [cl_s (hfs X hX), if_pos (nI_lt (by omega) (by omega)), e6 X hX]
      exact g1
    | succ k ih =>
      intro f s X hs hf hP hR hX
      obtain ⟨x, rfl⟩ : ∃ x, f = x + 1 := ⟨f - 1, by omega⟩
      have e1 : (14641 : Int32) * nI n + nI s = nI (14641 * n + s) := mul_add 14641 n s
      have nxt : ∀ v : Int32, v = nI (vS p [] s) → ∃ X', f_X12_findsWatches_53 x (nI s + 1) (ms X 159 (14641 * n + s) v) = some (0, X') ∧ PrM X' p n ∧ (∀ w : Nat, w ≤ n → ∀ s : Nat, s ≤ 1464 * L → X' 159 (14641 * w + s) = nI (vS p (up w (n - w)) s)) ∧ fr [155, 156, 159, 160] D X' := by
        rintro v rfl
        rw [nI_1]
        exact ih x (s + 1) _ (by omega) (by omega) (fun v hv k hk => by rw [ms_ne (by decide)]; exact hP v hv k hk) (fun s' hs' => by
          by_cases e : s' = s
          · subst e; rw [ms_it]
          · rw [ms_at (by omega)]; exact hR s' (by omega)) (fr_ms hX (by simp))
      have hstep : f_X12_findsWatches_53 (x + 1) (nI s) X = f_X12_findsWatches_53_b (f_X12_findsWatches_53 x) (nI s) X := rfl
      rw [hstep]
      unfold f_X12_findsWatches_53_b
      rw [cl_s (hfs X hX), if_neg (nI_nlt (by omega) (by omega)), e6 X hX]
      by_cases h0 : s = 0
      · rw [if_pos (by rw [h0]; rfl), wrK (j := 14641 * n + s) e1 (by omega) (by decide)]
        simp only [lt]
        refine nxt 0 ?_
        subst h0
        rfl
      · rw [if_neg (nI_ne0 (by omega) (by omega)), wrK (j := 14641 * n + s) e1 (by omega) (by decide)]
        simp only [lt]
        refine nxt 1000000 ?_
        have : vS p [] s = 1000000 := by
          unfold vS vd
          rw [if_neg (by omega)]
        rw [this]
        rfl
  have prices : ∀ (K : Int32 → IM → IR) (w : Nat), w < n → ∀ (f k : Nat) (X : IM), k ≤ 4 → 4 - k < f → (∀ v j : Nat, (v < w ∧ j < 4) ∨ (v = w ∧ j < k) → X 160 (4 * v + j) = nI (p v j)) → fr [155, 156, 160] D X → ∃ X', f_X12_findsWatches_12 K f (nI w) (nI k) X = K (nI (w + 1)) X' ∧ (∀ v j : Nat, v < w + 1 → j < 4 → X' 160 (4 * v + j) = nI (p v j)) ∧ fr [155, 156, 160] D X' := by
    intro K w hw f
    induction f with
    | zero => intro k X _ h; omega
    | succ f ih =>
      intro k X hk hf hx hX
      have hstep : f_X12_findsWatches_12 K (f + 1) (nI w) (nI k) X = f_X12_findsWatches_12_b K (f_X12_findsWatches_12 K f) (nI w) (nI k) X := rfl
      by_cases e : k = 4
      · subst e
        refine ⟨X, ?_, fun v j hv hj => hx v j (by omega), hX⟩
        rw [hstep]
        unfold f_X12_findsWatches_12_b
        rw [if_pos (by decide)]
        simp only [lt]
        rw [nI_1]
      · have hRX : RC C X 1 l0 l1 := RC_fr (R := []) (R' := [155, 156, 160]) (Or.inl rfl) fr_rf hX (by simp) (by simp) h
        obtain ⟨r, Y, y1, rfl, y3⟩ := tireOf_m (c := nI (6 * k)) (Or.inl rfl) hRX (show w < 10 by omega)
        obtain ⟨X', g1, g2, g3⟩ := ih (k + 1) (ms Y 160 (4 * w + k) (nI (p w k))) (by omega) (by omega) (fun v j hvj => by
          by_cases e2 : 4 * v + j = 4 * w + k
          · rw [e2, ms_it]
            have : v = w ∧ j = k := by omega
            rw [this.1, this.2]
          · rw [ms_at e2, y3 160 (by decide)]
            exact hx v j (by omega)) (fr_ms (fr_tr hX (fr_sub y3 (by simp))) (by simp))
        refine ⟨X', ?_, g2, g3⟩
        rw [hstep]
        unfold f_X12_findsWatches_12_b
        rw [if_neg (show ¬ (4 : Int32) ≤ nI k from nI_ge (b := 4) (by omega) (by decide)), show (6 : Int32) * nI k = nI (6 * k) from pk_mul 6 k, cl_s y1, wrK (i := 4 * nI w + nI k) (j := 4 * w + k) (mul_add 4 w k) (by omega) (by decide), hpr w k hw (by omega)]
        simp only [lt]
        rw [nI_1]
        exact g1
  have all : ∀ (f w : Nat) (X : IM), w ≤ n → n - w < f → (∀ v j : Nat, v < w → j < 4 → X 160 (4 * v + j) = nI (p v j)) → fr [155, 156, 160] D X → ∃ X', f_X12_findsWatches_2 f (nI w) X = some (0, X') ∧ PrM X' p n ∧ (∀ w : Nat, w ≤ n → ∀ s : Nat, s ≤ 1464 * L → X' 159 (14641 * w + s) = nI (vS p (up w (n - w)) s)) ∧ fr [155, 156, 159, 160] D X' := by
    intro f
    induction f with
    | zero => intro w X _ h; omega
    | succ f ih =>
      intro w X hw hf hx hX
      have hX4 : fr [155, 156, 159, 160] D X := fr_sub hX (by simp)
      have hstep : f_X12_findsWatches_2 (f + 1) (nI w) X = f_X12_findsWatches_2_b (f_X12_findsWatches_2 f) (nI w) X := rfl
      rw [hstep]
      unfold f_X12_findsWatches_2_b
      rw [e6 X hX4]
      by_cases e : w = n
      · subst e
        rw [if_pos (Int32.le_refl _)]
        exact last (1464 * L + 1) BG 0 X (by omega) (by unfold BG; omega) (fun v hv k hk => hx v k hv hk) (fun s hs => by omega) hX4
      · rw [if_neg (nI_ge (by omega) (by omega))]
        obtain ⟨Y, y1, y2, y3⟩ := prices (f_X12_findsWatches_2 f) w (by omega) BG 0 X (by omega) (by unfold BG; omega) (fun v j hvj => hx v j (by omega) (by omega)) hX
        obtain ⟨X', g1, g2⟩ := ih (w + 1) Y (by omega) (by omega) y2 y3
        exact ⟨X', Eq.trans y1 g1, g2⟩
  exact all BG 0 D (by omega) (by unfold BG; omega) (fun v j hv => by omega) fr_rf
end WATM
