/-! the model's image: it is written, or read -/
theorem ms_id {M : IM} {o i : Nat} {v : Int32} (h : M o i = v) : ms M o i v = M := by
  funext p j
  unfold ms
  split
  · rename_i q
    rw [q.1, q.2, h]
  · rfl
/-- only the rows of R and the cell (136, 51) have changed -/
def stg (R : List Nat) (X X' : IM) : Prop := (∀ p : Nat, p ∉ R → ¬ p = 136 → X' p = X p) ∧ ∀ i : Nat, ¬ i = 51 → X' 136 i = X 136 i
theorem stg_rf {R : List Nat} {X : IM} : stg R X X := ⟨fun _ _ _ => rfl, fun _ _ => rfl⟩
theorem stg_tr {R : List Nat} {X X1 X2 : IM} (h : stg R X X1) (h2 : stg R X1 X2) : stg R X X2 := ⟨fun p hp h6 => (h2.1 p hp h6).trans (h.1 p hp h6), fun i hi => (h2.2 i hi).trans (h.2 i hi)⟩
theorem stg_sub {R R' : List Nat} {X X1 : IM} (h : stg R X X1) (hs : ∀ p ∈ R, p ∈ R') : stg R' X X1 := ⟨fun p hp h6 => h.1 p (fun q => hp (hs p q)) h6, h.2⟩
theorem stg_51 {R : List Nat} {X : IM} {v : Int32} : stg R X (ms X 136 51 v) := ⟨fun p _ h6 => ms_ne h6, fun i hi => ms_at hi⟩
theorem stg_ms {R : List Nat} {X X1 : IM} {o i : Nat} {v : Int32} (h : stg R X X1) (ho : o ∈ R) (h6 : ¬ o = 136) : stg R X (ms X1 o i v) := by
  refine ⟨fun p hp hp6 => ?_, fun j hj => ?_⟩
  · have hne : ¬ p = o := fun e => by subst e; exact hp ho
    rw [ms_ne hne]
    exact h.1 p hp hp6
  · have hne : ¬ 136 = o := fun e => h6 e.symm
    rw [ms_ne hne]
    exact h.2 j hj
section KEEP
variable {X : IM} {j : Nat} {v : Int32}
theorem kT (h49 : X 136 49 = 1) (h51 : X 136 51 = nI j) (hj : j < 2500) : f_X12_keeps v X = some (v, ms (ms X 136 51 (nI (j + 1))) 164 j v) := by
  simp only [f_X12_keeps, pt]
  rw [h51, nI_1, ms_at (by decide), h49, if_neg (by decide), ms_it, nI_pred, wrK (j := j) rfl hj (by decide)]
theorem kR (h49 : X 136 49 = 0) (h51 : X 136 51 = nI j) (hj : j < 2500) : f_X12_keeps v X = some (X 164 j, ms X 136 51 (nI (j + 1))) := by
  simp only [f_X12_keeps, pt]
  rw [h51, nI_1, ms_at (by decide), h49, if_pos rfl, ms_it, nI_pred, rdK (j := j) rfl hj (by decide), ms_ne (by decide)]
/-- one cell of a row is taken -/
theorem tkT {o w x : Nat} {c : Int32} {K : IM → IR} (h49 : X 136 49 = 1) (h51 : X 136 51 = nI j) (hj : j < 2500) (ho : ¬ o = 136) (ho2 : ¬ o = 164) (hc : c = nI x) (hx : x < w) (hw : w < 2 ^ 31) : (rd X o w c fun v => cl (f_X12_keeps v X) fun w1 M1 => wr M1 o w c w1 K) = K (ms (ms X 136 51 (nI (j + 1))) 164 j (X o x)) := by
  rw [rdK (j := x) hc hx hw, cl_s (kT h49 h51 hj), wrK (j := x) hc hx hw, ms_id (by rw [ms_ne ho2, ms_ne ho])]
theorem tkR {o w x : Nat} {c : Int32} {K : IM → IR} (h49 : X 136 49 = 0) (h51 : X 136 51 = nI j) (hj : j < 2500) (hc : c = nI x) (hx : x < w) (hw : w < 2 ^ 31) : (rd X o w c fun v => cl (f_X12_keeps v X) fun w1 M1 => wr M1 o w c w1 K) = K (ms (ms X 136 51 (nI (j + 1))) o x (X 164 j)) := by
  rw [rdK (j := x) hc hx hw, cl_s (kR h49 h51 hj), wrK (j := x) hc hx hw]
/-- a number of the model itself -/
theorem fdT {i : Nat} {K : IM → IR} (h49 : X 136 49 = 1) (h51 : X 136 51 = nI j) (hj : j < 2500) (hi : ¬ i = 51) : (cl (f_X12_keeps (X 136 i) X) fun w M2 => pt M2 136 i w K) = K (ms (ms X 136 51 (nI (j + 1))) 164 j (X 136 i)) := by
  rw [cl_s (kT h49 h51 hj)]
  unfold pt
  rw [ms_id (by rw [ms_ne (by decide), ms_at hi])]
theorem fdR {i : Nat} {K : IM → IR} (h49 : X 136 49 = 0) (h51 : X 136 51 = nI j) (hj : j < 2500) : (cl (f_X12_keeps (X 136 i) X) fun w M2 => pt M2 136 i w K) = K (ms (ms X 136 51 (nI (j + 1))) 136 i (X 164 j)) := by
  rw [cl_s (kR h49 h51 hj)]
  rfl
end KEEP
/-- a row is taken -/
theorem rowT {F : Nat → Int32 → IM → IR} {K : IM → IR} {c : Int32} {o w N b : Nat} (hF : ∀ (n : Nat) (x : Int32) (M : IM), F (n + 1) x M = if c ≤ x then K M else rd M o w x fun v => cl (f_X12_keeps v M) fun w1 M1 => wr M1 o w x w1 fun M2 => F n (x + 1) M2) (hc : c = nI N) (hN : N ≤ w) (hw : w < 2 ^ 20) (ho : ¬ o = 136) (ho2 : ¬ o = 164) (hb : b + N ≤ 2500) : ∀ (k f i : Nat) (X : IM), i + k = N → k < f → X 136 49 = 1 → X 136 51 = nI (b + i) → ∃ X', F f (nI i) X = K X' ∧ X' 136 51 = nI (b + N) ∧ (∀ j : Nat, i ≤ j → j < N → X' 164 (b + j) = X o j) ∧ (∀ m : Nat, (m < b + i ∨ b + N ≤ m) → X' 164 m = X 164 m) ∧ stg [164] X X' := by
  intro k
  induction k with
  | zero =>
    intro f i X hi hf h49 h51
    obtain ⟨x, rfl⟩ : ∃ x, f = x + 1 := ⟨f - 1, by omega⟩
    have : i = N := by omega
    subst this
    exact ⟨X, by rw [hF, hc, if_pos (Int32.le_refl _)], h51, fun j h1 h2 => by omega, fun _ _ => rfl, stg_rf⟩
  | succ k ih =>
    intro f i X hi hf h49 h51
    obtain ⟨x, rfl⟩ : ∃ x, f = x + 1 := ⟨f - 1, by omega⟩
    obtain ⟨X', g1, g2, g3, g4, g5⟩ := ih x (i + 1) (ms (ms X 136 51 (nI (b + i + 1))) 164 (b + i) (X o i)) (by omega) (by omega) (by rw [ms_ne (by decide), ms_at (by decide)]; exact h49) (by rw [ms_ne (by decide), ms_it, Nat.add_assoc])
    refine ⟨X', ?_, g2, fun j h1 h2 => ?_, fun m hm => ?_, stg_tr (stg_ms stg_51 (by simp) (by decide)) g5⟩
    · rw [hF, hc, if_neg (nI_ge (by omega) (by omega)), tkT h49 h51 (by omega) ho ho2 (x := i) rfl (by omega) (by omega), nI_1]
      exact g1
    · by_cases e : j = i
      · subst e; rw [g4 (b + j) (by omega), ms_it]
      · rw [g3 j (by omega) h2, ms_ne ho2, ms_ne ho]
    · rw [g4 m (by omega), ms_at (by omega), ms_ne (by decide)]
/-- a row is given back -/
theorem rowR {F : Nat → Int32 → IM → IR} {K : IM → IR} {c : Int32} {o w N b : Nat} (hF : ∀ (n : Nat) (x : Int32) (M : IM), F (n + 1) x M = if c ≤ x then K M else rd M o w x fun v => cl (f_X12_keeps v M) fun w1 M1 => wr M1 o w x w1 fun M2 => F n (x + 1) M2) (hc : c = nI N) (hN : N ≤ w) (hw : w < 2 ^ 20) (ho : ¬ o = 136) (ho2 : ¬ o = 164) (hb : b + N ≤ 2500) : ∀ (k f i : Nat) (X : IM), i + k = N → k < f → X 136 49 = 0 → X 136 51 = nI (b + i) → ∃ X', F f (nI i) X = K X' ∧ X' 136 51 = nI (b + N) ∧ (∀ j : Nat, i ≤ j → j < N → X' o j = X 164 (b + j)) ∧ (∀ m : Nat, (m < i ∨ N ≤ m) → X' o m = X o m) ∧ stg [o] X X' := by
  intro k
  induction k with
  | zero =>
    intro f i X hi hf h49 h51
    obtain ⟨x, rfl⟩ : ∃ x, f = x + 1 := ⟨f - 1, by omega⟩
    have : i = N := by omega
    subst this
    exact ⟨X, by rw [hF, hc, if_pos (Int32.le_refl _)], h51, fun j h1 h2 => by omega, fun _ _ => rfl, stg_rf⟩
  | succ k ih =>
    intro f i X hi hf h49 h51
    obtain ⟨x, rfl⟩ : ∃ x, f = x + 1 := ⟨f - 1, by omega⟩
    obtain ⟨X', g1, g2, g3, g4, g5⟩ := ih x (i + 1) (ms (ms X 136 51 (nI (b + i + 1))) o i (X 164 (b + i))) (by omega) (by omega) (by rw [ms_ne (fun e => ho e.symm), ms_at (by decide)]; exact h49) (by rw [ms_ne (fun e => ho e.symm), ms_it, Nat.add_assoc])
    refine ⟨X', ?_, g2, fun j h1 h2 => ?_, fun m hm => ?_, stg_tr (stg_ms stg_51 (by simp) ho) g5⟩
    · rw [hF, hc, if_neg (nI_ge (by omega) (by omega)), tkR h49 h51 (by omega) (x := i) rfl (by omega) (by omega), nI_1]
      exact g1
    · by_cases e : j = i
      · subst e; rw [g4 j (by omega), ms_it]
      · rw [g3 j (by omega) h2, ms_ne (fun e => ho2 e.symm), ms_ne (by decide)]
    · rw [g4 m (by omega), ms_at (by omega), ms_ne ho]
theorem e16 (g : Nat) : (16 : Int32) * nI g + 16 = nI (16 * g + 16) := by
  rw [show (16 : Int32) = nI 16 from rfl, pk_mul, nI_add]
theorem e400 (g : Nat) : (400 : Int32) * nI g + 400 = nI (400 * g + 400) := by
  rw [show (400 : Int32) = nI 400 from rfl, pk_mul, nI_add]
/-- a law's lines are taken -/
theorem lnT {g b : Nat} (hg : g < 2) (hb : b + 64 ≤ 2500) : ∀ (k f i : Nat) (X : IM), i + k = 16 → k < f → X 136 49 = 1 → X 136 51 = nI (b + 4 * i) → ∃ X', f_X12_keepsLaw_21 f (nI g) (nI (16 * g + i)) X = f_X12_keepsLaw_108 BG (nI g) (nI (400 * g)) X' ∧ X' 136 51 = nI (b + 64) ∧ (∀ j : Nat, i ≤ j → j < 16 → X' 164 (b + 4 * j) = X 146 (16 * g + j) ∧ X' 164 (b + 4 * j + 1) = X 147 (16 * g + j) ∧ X' 164 (b + 4 * j + 2) = X 148 (16 * g + j) ∧ X' 164 (b + 4 * j + 3) = X 149 (16 * g + j)) ∧ (∀ m : Nat, (m < b + 4 * i ∨ b + 64 ≤ m) → X' 164 m = X 164 m) ∧ stg [164] X X' := by
  intro k
  induction k with
  | zero =>
    intro f i X hi hf h49 h51
    obtain ⟨x, rfl⟩ : ∃ x, f = x + 1 := ⟨f - 1, by omega⟩
    have : i = 16 := by omega
    subst this
    refine ⟨X, ?_, h51, fun j h1 h2 => by omega, fun _ _ => rfl, stg_rf⟩
    show f_X12_keepsLaw_21_b (f_X12_keepsLaw_21 x) (nI g) (nI (16 * g + 16)) X = _
    unfold f_X12_keepsLaw_21_b
    rw [e16, if_pos (Int32.le_refl _)]
    simp only [lt]
    rw [show (400 : Int32) * nI g = nI (400 * g) from pk_mul 400 g]
  | succ k ih =>
    intro f i X hi hf h49 h51
    obtain ⟨x, rfl⟩ : ∃ x, f = x + 1 := ⟨f - 1, by omega⟩
    generalize hA : ms (ms X 136 51 (nI (b + 4 * i + 1))) 164 (b + 4 * i) (X 146 (16 * g + i)) = A
    have sA : stg [164] X A := by rw [← hA]; exact stg_ms stg_51 (by simp) (by decide)
    have aA : A 136 51 = nI (b + 4 * i + 1) := by rw [← hA, ms_ne (by decide), ms_it]
    generalize hB : ms (ms A 136 51 (nI (b + 4 * i + 1 + 1))) 164 (b + 4 * i + 1) (A 147 (16 * g + i)) = B
    have sB : stg [164] A B := by rw [← hB]; exact stg_ms stg_51 (by simp) (by decide)
    have aB : B 136 51 = nI (b + 4 * i + 1 + 1) := by rw [← hB, ms_ne (by decide), ms_it]
    generalize hC : ms (ms B 136 51 (nI (b + 4 * i + 1 + 1 + 1))) 164 (b + 4 * i + 1 + 1) (B 148 (16 * g + i)) = C
    have sC : stg [164] B C := by rw [← hC]; exact stg_ms stg_51 (by simp) (by decide)
    have aC : C 136 51 = nI (b + 4 * i + 1 + 1 + 1) := by rw [← hC, ms_ne (by decide), ms_it]
    generalize hE : ms (ms C 136 51 (nI (b + 4 * i + 1 + 1 + 1 + 1))) 164 (b + 4 * i + 1 + 1 + 1) (C 149 (16 * g + i)) = E
    have sE : stg [164] C E := by rw [← hE]; exact stg_ms stg_51 (by simp) (by decide)
    have sXE : stg [164] X E := stg_tr sA (stg_tr sB (stg_tr sC sE))
    have aE : E 136 51 = nI (b + 4 * (i + 1)) := by rw [← hE, ms_ne (by decide), ms_it, show b + 4 * i + 1 + 1 + 1 + 1 = b + 4 * (i + 1) by omega]
    obtain ⟨X', g1, g2, g3, g4, g5⟩ := ih x (i + 1) E (by omega) (by omega) (by rw [sXE.2 49 (by decide)]; exact h49) aE
    have v0 : E 164 (b + 4 * i) = X 146 (16 * g + i) := by
      rw [← hE, ms_at (by omega), ms_ne (by decide), ← hC, ms_at (by omega), ms_ne (by decide), ← hB, ms_at (by omega), ms_ne (by decide), ← hA, ms_it]
    have v1 : E 164 (b + 4 * i + 1) = X 147 (16 * g + i) := by
      rw [← hE, ms_at (by omega), ms_ne (by decide), ← hC, ms_at (by omega), ms_ne (by decide), ← hB, ms_it, sA.1 147 (by simp) (by decide)]
    have v2 : E 164 (b + 4 * i + 2) = X 148 (16 * g + i) := by
      rw [← hE, ms_at (by omega), ms_ne (by decide), ← hC, ms_it, sB.1 148 (by simp) (by decide), sA.1 148 (by simp) (by decide)]
    have v3 : E 164 (b + 4 * i + 3) = X 149 (16 * g + i) := by
      rw [← hE, ms_it, sC.1 149 (by simp) (by decide), sB.1 149 (by simp) (by decide), sA.1 149 (by simp) (by decide)]
    have vm : ∀ m : Nat, (m < b + 4 * i ∨ b + 4 * i + 4 ≤ m) → E 164 m = X 164 m := fun m hm => by
      rw [← hE, ms_at (by omega), ms_ne (by decide), ← hC, ms_at (by omega), ms_ne (by decide), ← hB, ms_at (by omega), ms_ne (by decide), ← hA, ms_at (by omega), ms_ne (by decide)]
    refine ⟨X', ?_, g2, fun j h1 h2 => ?_, fun m hm => ?_, stg_tr sXE g5⟩
    · show f_X12_keepsLaw_21_b (f_X12_keepsLaw_21 x) (nI g) (nI (16 * g + i)) X = _
      unfold f_X12_keepsLaw_21_b
      rw [e16, if_neg (nI_ge (by omega) (by omega)), tkT h49 h51 (by omega) (by decide) (by decide) (x := 16 * g + i) rfl (by omega) (by decide), hA, tkT (by rw [sA.2 49 (by decide)]; exact h49) aA (by omega) (by decide) (by decide) (x := 16 * g + i) rfl (by omega) (by decide), hB, tkT (by rw [sB.2 49 (by decide), sA.2 49 (by decide)]; exact h49) aB (by omega) (by decide) (by decide) (x := 16 * g + i) rfl (by omega) (by decide), hC, tkT (by rw [sC.2 49 (by decide), sB.2 49 (by decide), sA.2 49 (by decide)]; exact h49) aC (by omega) (by decide) (by decide) (x := 16 * g + i) rfl (by omega) (by decide), hE]
      simp only [lt]
      rw [nI_1, Nat.add_assoc]
      exact g1
    · by_cases e : j = i
      · subst e
        exact ⟨by rw [g4 _ (by omega)]; exact v0, by rw [g4 _ (by omega)]; exact v1, by rw [g4 _ (by omega)]; exact v2, by rw [g4 _ (by omega)]; exact v3⟩
      · have := g3 j (by omega) h2
        rw [sXE.1 146 (by simp) (by decide), sXE.1 147 (by simp) (by decide), sXE.1 148 (by simp) (by decide), sXE.1 149 (by simp) (by decide)] at this
        exact this
    · rw [g4 m (by omega), vm m (by omega)]
theorem cdT {g b : Nat} (hg : g < 2) (hb : b + 800 ≤ 2500) : ∀ (k f i : Nat) (X : IM), i + k = 400 → k < f → X 136 49 = 1 → X 136 51 = nI (b + 2 * i) → ∃ X', f_X12_keepsLaw_108 f (nI g) (nI (400 * g + i)) X = some (0, X') ∧ X' 136 51 = nI (b + 800) ∧ (∀ j : Nat, i ≤ j → j < 400 → X' 164 (b + 2 * j) = X 150 (400 * g + j) ∧ X' 164 (b + 2 * j + 1) = X 151 (400 * g + j)) ∧ (∀ m : Nat, (m < b + 2 * i ∨ b + 800 ≤ m) → X' 164 m = X 164 m) ∧ stg [164] X X' := by
  intro k
  induction k with
  | zero =>
    intro f i X hi hf h49 h51
    obtain ⟨x, rfl⟩ : ∃ x, f = x + 1 := ⟨f - 1, by omega⟩
    have : i = 400 := by omega
    subst this
    refine ⟨X, ?_, h51, fun j h1 h2 => by omega, fun _ _ => rfl, stg_rf⟩
    show f_X12_keepsLaw_108_b (f_X12_keepsLaw_108 x) (nI g) (nI (400 * g + 400)) X = _
    unfold f_X12_keepsLaw_108_b
    rw [e400, if_pos (Int32.le_refl _)]
  | succ k ih =>
    intro f i X hi hf h49 h51
    obtain ⟨x, rfl⟩ : ∃ x, f = x + 1 := ⟨f - 1, by omega⟩
    generalize hA : ms (ms X 136 51 (nI (b + 2 * i + 1))) 164 (b + 2 * i) (X 150 (400 * g + i)) = A
    have sA : stg [164] X A := by rw [← hA]; exact stg_ms stg_51 (by simp) (by decide)
    have aA : A 136 51 = nI (b + 2 * i + 1) := by rw [← hA, ms_ne (by decide), ms_it]
    generalize hB : ms (ms A 136 51 (nI (b + 2 * i + 1 + 1))) 164 (b + 2 * i + 1) (A 151 (400 * g + i)) = B
    have sB : stg [164] A B := by rw [← hB]; exact stg_ms stg_51 (by simp) (by decide)
    have sXE : stg [164] X B := stg_tr sA sB
    have aB : B 136 51 = nI (b + 2 * (i + 1)) := by rw [← hB, ms_ne (by decide), ms_it, show b + 2 * i + 1 + 1 = b + 2 * (i + 1) by omega]
    obtain ⟨X', g1, g2, g3, g4, g5⟩ := ih x (i + 1) B (by omega) (by omega) (by rw [sXE.2 49 (by decide)]; exact h49) aB
    have v0 : B 164 (b + 2 * i) = X 150 (400 * g + i) := by
      rw [← hB, ms_at (by omega), ms_ne (by decide), ← hA, ms_it]
    have v1 : B 164 (b + 2 * i + 1) = X 151 (400 * g + i) := by
      rw [← hB, ms_it, sA.1 151 (by simp) (by decide)]
    have vm : ∀ m : Nat, (m < b + 2 * i ∨ b + 2 * i + 2 ≤ m) → B 164 m = X 164 m := fun m hm => by
      rw [← hB, ms_at (by omega), ms_ne (by decide), ← hA, ms_at (by omega), ms_ne (by decide)]
    refine ⟨X', ?_, g2, fun j h1 h2 => ?_, fun m hm => ?_, stg_tr sXE g5⟩
    · show f_X12_keepsLaw_108_b (f_X12_keepsLaw_108 x) (nI g) (nI (400 * g + i)) X = _
      unfold f_X12_keepsLaw_108_b
      rw [e400, if_neg (nI_ge (by omega) (by omega)), tkT h49 h51 (by omega) (by decide) (by decide) (x := 400 * g + i) rfl (by omega) (by decide), hA, tkT (by rw [sA.2 49 (by decide)]; exact h49) aA (by omega) (by decide) (by decide) (x := 400 * g + i) rfl (by omega) (by decide), hB]
      simp only [lt]
      rw [nI_1, Nat.add_assoc]
      exact g1
    · by_cases e : j = i
      · subst e
        exact ⟨by rw [g4 _ (by omega)]; exact v0, by rw [g4 _ (by omega)]; exact v1⟩
      · have := g3 j (by omega) h2
        rw [sXE.1 150 (by simp) (by decide), sXE.1 151 (by simp) (by decide)] at this
        exact this
    · rw [g4 m (by omega), vm m (by omega)]
/-- a law is taken: 865 numbers from b on -/
theorem lawT {g b : Nat} {X : IM} (hg : g < 2) (hb : b + 865 ≤ 2500) (h49 : X 136 49 = 1) (h51 : X 136 51 = nI b) : ∃ X', f_X12_keepsLaw (nI g) X = some (0, X') ∧ X' 136 51 = nI (b + 865) ∧ X' 164 b = X 145 g ∧ (∀ j : Nat, j < 16 → X' 164 (b + 1 + 4 * j) = X 146 (16 * g + j) ∧ X' 164 (b + 1 + 4 * j + 1) = X 147 (16 * g + j) ∧ X' 164 (b + 1 + 4 * j + 2) = X 148 (16 * g + j) ∧ X' 164 (b + 1 + 4 * j + 3) = X 149 (16 * g + j)) ∧ (∀ j : Nat, j < 400 → X' 164 (b + 65 + 2 * j) = X 150 (400 * g + j) ∧ X' 164 (b + 65 + 2 * j + 1) = X 151 (400 * g + j)) ∧ (∀ m : Nat, (m < b ∨ b + 865 ≤ m) → X' 164 m = X 164 m) ∧ stg [164] X X' := by
  generalize hA : ms (ms X 136 51 (nI (b + 1))) 164 b (X 145 g) = A
  have sA : stg [164] X A := by rw [← hA]; exact stg_ms stg_51 (by simp) (by decide)
  have aA : A 136 51 = nI (b + 1 + 4 * 0) := by rw [← hA, ms_ne (by decide), ms_it]
  obtain ⟨B, b1, b2, b3, b4, b5⟩ := lnT (g := g) (b := b + 1) hg (by omega) 16 BG 0 A (by omega) (by unfold BG; omega) (by rw [sA.2 49 (by decide)]; exact h49) aA
  obtain ⟨E, e1, e2, e3, e4, e5⟩ := cdT (g := g) (b := b + 65) hg (by omega) 400 BG 0 B (by omega) (by unfold BG; omega) (by rw [b5.2 49 (by decide), sA.2 49 (by decide)]; exact h49) (by rw [b2])
  refine ⟨E, ?_, by rw [e2], ?_, fun j hj => ?_, fun j hj => ?_, fun m hm => ?_, stg_tr sA (stg_tr b5 e5)⟩
  · unfold f_X12_keepsLaw
    rw [tkT h49 h51 (by omega) (by decide) (by decide) (x := g) rfl (by omega) (by decide), hA]
    simp only [lt]
    rw [show (16 : Int32) * nI g = nI (16 * g + 0) from pk_mul 16 g, b1]
    exact e1
  · rw [e4 b (by omega), b4 b (by omega), ← hA, ms_it]
  · have := b3 j (by omega) hj
    rw [sA.1 146 (by simp) (by decide), sA.1 147 (by simp) (by decide), sA.1 148 (by simp) (by decide), sA.1 149 (by simp) (by decide)] at this
    rw [e4 _ (by omega), e4 _ (by omega), e4 _ (by omega), e4 _ (by omega)]
    exact this
  · have := e3 j (by omega) hj
    rw [b5.1 150 (by simp) (by decide), b5.1 151 (by simp) (by decide), sA.1 150 (by simp) (by decide), sA.1 151 (by simp) (by decide)] at this
    exact this
  · rw [e4 m (by omega), b4 m (by omega), ← hA, ms_at (by omega), ms_ne (by decide)]
/-- a law's lines are given back -/
theorem lnR {g b : Nat} (hg : g < 2) (hb : b + 64 ≤ 2500) : ∀ (k f i : Nat) (X : IM), i + k = 16 → k < f → X 136 49 = 0 → X 136 51 = nI (b + 4 * i) → ∃ X', f_X12_keepsLaw_21 f (nI g) (nI (16 * g + i)) X = f_X12_keepsLaw_108 BG (nI g) (nI (400 * g)) X' ∧ X' 136 51 = nI (b + 64) ∧ (∀ j : Nat, i ≤ j → j < 16 → X' 146 (16 * g + j) = X 164 (b + 4 * j) ∧ X' 147 (16 * g + j) = X 164 (b + 4 * j + 1) ∧ X' 148 (16 * g + j) = X 164 (b + 4 * j + 2) ∧ X' 149 (16 * g + j) = X 164 (b + 4 * j + 3)) ∧ (∀ m : Nat, (m < 16 * g + i ∨ 16 * g + 16 ≤ m) → X' 146 m = X 146 m ∧ X' 147 m = X 147 m ∧ X' 148 m = X 148 m ∧ X' 149 m = X 149 m) ∧ stg [146, 147, 148, 149] X X' := by
  intro k
  induction k with
  | zero =>
    intro f i X hi hf h49 h51
    obtain ⟨x, rfl⟩ : ∃ x, f = x + 1 := ⟨f - 1, by omega⟩
    have : i = 16 := by omega
    subst this
    refine ⟨X, ?_, h51, fun j h1 h2 => by omega, fun _ _ => ⟨rfl, rfl, rfl, rfl⟩, stg_rf⟩
    show f_X12_keepsLaw_21_b (f_X12_keepsLaw_21 x) (nI g) (nI (16 * g + 16)) X = _
    unfold f_X12_keepsLaw_21_b
    rw [e16, if_pos (Int32.le_refl _)]
    simp only [lt]
    rw [show (400 : Int32) * nI g = nI (400 * g) from pk_mul 400 g]
  | succ k ih =>
    intro f i X hi hf h49 h51
    obtain ⟨x, rfl⟩ : ∃ x, f = x + 1 := ⟨f - 1, by omega⟩
    generalize hA : ms (ms X 136 51 (nI (b + 4 * i + 1))) 146 (16 * g + i) (X 164 (b + 4 * i)) = A
    have sA : stg [146, 147, 148, 149] X A := by rw [← hA]; exact stg_ms stg_51 (by simp) (by decide)
    have aA : A 136 51 = nI (b + 4 * i + 1) := by rw [← hA, ms_ne (by decide), ms_it]
    generalize hB : ms (ms A 136 51 (nI (b + 4 * i + 1 + 1))) 147 (16 * g + i) (A 164 (b + 4 * i + 1)) = B
    have sB : stg [146, 147, 148, 149] A B := by rw [← hB]; exact stg_ms stg_51 (by simp) (by decide)
    have aB : B 136 51 = nI (b + 4 * i + 1 + 1) := by rw [← hB, ms_ne (by decide), ms_it]
    generalize hC : ms (ms B 136 51 (nI (b + 4 * i + 1 + 1 + 1))) 148 (16 * g + i) (B 164 (b + 4 * i + 1 + 1)) = C
    have sC : stg [146, 147, 148, 149] B C := by rw [← hC]; exact stg_ms stg_51 (by simp) (by decide)
    have aC : C 136 51 = nI (b + 4 * i + 1 + 1 + 1) := by rw [← hC, ms_ne (by decide), ms_it]
    generalize hE : ms (ms C 136 51 (nI (b + 4 * i + 1 + 1 + 1 + 1))) 149 (16 * g + i) (C 164 (b + 4 * i + 1 + 1 + 1)) = E
    have sE : stg [146, 147, 148, 149] C E := by rw [← hE]; exact stg_ms stg_51 (by simp) (by decide)
    have sXE : stg [146, 147, 148, 149] X E := stg_tr sA (stg_tr sB (stg_tr sC sE))
    have aE : E 136 51 = nI (b + 4 * (i + 1)) := by rw [← hE, ms_ne (by decide), ms_it, show b + 4 * i + 1 + 1 + 1 + 1 = b + 4 * (i + 1) by omega]
    obtain ⟨X', g1, g2, g3, g4, g5⟩ := ih x (i + 1) E (by omega) (by omega) (by rw [sXE.2 49 (by decide)]; exact h49) aE
    have r6 : E 146 = upd (X 146) (16 * g + i) (X 164 (b + 4 * i)) := by
      rw [← hE, ms_ne (by decide), ms_ne (by decide), ← hC, ms_ne (by decide), ms_ne (by decide), ← hB, ms_ne (by decide), ms_ne (by decide), ← hA, ms_ro, ms_ne (by decide)]
    have r7 : E 147 = upd (X 147) (16 * g + i) (X 164 (b + 4 * i + 1)) := by
      rw [← hE, ms_ne (by decide), ms_ne (by decide), ← hC, ms_ne (by decide), ms_ne (by decide), ← hB, ms_ro, ms_ne (by decide), sA.1 164 (by simp) (by decide), ← hA, ms_ne (by decide), ms_ne (by decide)]
    have r8 : E 148 = upd (X 148) (16 * g + i) (X 164 (b + 4 * i + 2)) := by
      rw [← hE, ms_ne (by decide), ms_ne (by decide), ← hC, ms_ro, ms_ne (by decide), sB.1 164 (by simp) (by decide), sA.1 164 (by simp) (by decide), ← hB, ms_ne (by decide), ms_ne (by decide), ← hA, ms_ne (by decide), ms_ne (by decide)]
    have r9 : E 149 = upd (X 149) (16 * g + i) (X 164 (b + 4 * i + 3)) := by
      rw [← hE, ms_ro, ms_ne (by decide), sC.1 164 (by simp) (by decide), sB.1 164 (by simp) (by decide), sA.1 164 (by simp) (by decide), ← hC, ms_ne (by decide), ms_ne (by decide), ← hB, ms_ne (by decide), ms_ne (by decide), ← hA, ms_ne (by decide), ms_ne (by decide)]
    refine ⟨X', ?_, g2, fun j h1 h2 => ?_, fun m hm => ?_, stg_tr sXE g5⟩
    · show f_X12_keepsLaw_21_b (f_X12_keepsLaw_21 x) (nI g) (nI (16 * g + i)) X = _
      unfold f_X12_keepsLaw_21_b
      rw [e16, if_neg (nI_ge (by omega) (by omega)), tkR h49 h51 (by omega) (x := 16 * g + i) rfl (by omega) (by decide), hA, tkR (by rw [sA.2 49 (by decide)]; exact h49) aA (by omega) (x := 16 * g + i) rfl (by omega) (by decide), hB, tkR (by rw [sB.2 49 (by decide), sA.2 49 (by decide)]; exact h49) aB (by omega) (x := 16 * g + i) rfl (by omega) (by decide), hC, tkR (by rw [sC.2 49 (by decide), sB.2 49 (by decide), sA.2 49 (by decide)]; exact h49) aC (by omega) (x := 16 * g + i) rfl (by omega) (by decide), hE]
      simp only [lt]
      rw [nI_1, Nat.add_assoc]
      exact g1
    · by_cases e : j = i
      · subst e
        obtain ⟨q1, q2, q3, q4⟩ := g4 (16 * g + j) (by omega)
        exact ⟨by rw [q1, r6, upd_s], by rw [q2, r7, upd_s], by rw [q3, r8, upd_s], by rw [q4, r9, upd_s]⟩
      · have := g3 j (by omega) h2
        rw [sXE.1 164 (by simp) (by decide)] at this
        exact this
    · obtain ⟨q1, q2, q3, q4⟩ := g4 m (by omega)
      exact ⟨by rw [q1, r6, upd_n (by omega)], by rw [q2, r7, upd_n (by omega)], by rw [q3, r8, upd_n (by omega)], by rw [q4, r9, upd_n (by omega)]⟩
theorem cdR {g b : Nat} (hg : g < 2) (hb : b + 800 ≤ 2500) : ∀ (k f i : Nat) (X : IM), i + k = 400 → k < f → X 136 49 = 0 → X 136 51 = nI (b + 2 * i) → ∃ X', f_X12_keepsLaw_108 f (nI g) (nI (400 * g + i)) X = some (0, X') ∧ X' 136 51 = nI (b + 800) ∧ (∀ j : Nat, i ≤ j → j < 400 → X' 150 (400 * g + j) = X 164 (b + 2 * j) ∧ X' 151 (400 * g + j) = X 164 (b + 2 * j + 1)) ∧ (∀ m : Nat, (m < 400 * g + i ∨ 400 * g + 400 ≤ m) → X' 150 m = X 150 m ∧ X' 151 m = X 151 m) ∧ stg [150, 151] X X' := by
  intro k
  induction k with
  | zero =>
    intro f i X hi hf h49 h51
    obtain ⟨x, rfl⟩ : ∃ x, f = x + 1 := ⟨f - 1, by omega⟩
    have : i = 400 := by omega
    subst this
    refine ⟨X, ?_, h51, fun j h1 h2 => by omega, fun _ _ => ⟨rfl, rfl⟩, stg_rf⟩
    show f_X12_keepsLaw_108_b (f_X12_keepsLaw_108 x) (nI g) (nI (400 * g + 400)) X = _
    unfold f_X12_keepsLaw_108_b
    rw [e400, if_pos (Int32.le_refl _)]
  | succ k ih =>
    intro f i X hi hf h49 h51
    obtain ⟨x, rfl⟩ : ∃ x, f = x + 1 := ⟨f - 1, by omega⟩
    generalize hA : ms (ms X 136 51 (nI (b + 2 * i + 1))) 150 (400 * g + i) (X 164 (b + 2 * i)) = A
    have sA : stg [150, 151] X A := by rw [← hA]; exact stg_ms stg_51 (by simp) (by decide)
    have aA : A 136 51 = nI (b + 2 * i + 1) := by rw [← hA, ms_ne (by decide), ms_it]
    generalize hB : ms (ms A 136 51 (nI (b + 2 * i + 1 + 1))) 151 (400 * g + i) (A 164 (b + 2 * i + 1)) = B
    have sB : stg [150, 151] A B := by rw [← hB]; exact stg_ms stg_51 (by simp) (by decide)
    have sXE : stg [150, 151] X B := stg_tr sA sB
    have aB : B 136 51 = nI (b + 2 * (i + 1)) := by rw [← hB, ms_ne (by decide), ms_it, show b + 2 * i + 1 + 1 = b + 2 * (i + 1) by omega]
    obtain ⟨X', g1, g2, g3, g4, g5⟩ := ih x (i + 1) B (by omega) (by omega) (by rw [sXE.2 49 (by decide)]; exact h49) aB
    have r0 : B 150 = upd (X 150) (400 * g + i) (X 164 (b + 2 * i)) := by
      rw [← hB, ms_ne (by decide), ms_ne (by decide), ← hA, ms_ro, ms_ne (by decide)]
    have r1 : B 151 = upd (X 151) (400 * g + i) (X 164 (b + 2 * i + 1)) := by
      rw [← hB, ms_ro, ms_ne (by decide), sA.1 164 (by simp) (by decide), ← hA, ms_ne (by decide), ms_ne (by decide)]
    refine ⟨X', ?_, g2, fun j h1 h2 => ?_, fun m hm => ?_, stg_tr sXE g5⟩
    · show f_X12_keepsLaw_108_b (f_X12_keepsLaw_108 x) (nI g) (nI (400 * g + i)) X = _
      unfold f_X12_keepsLaw_108_b
      rw [e400, if_neg (nI_ge (by omega) (by omega)), tkR h49 h51 (by omega) (x := 400 * g + i) rfl (by omega) (by decide), hA, tkR (by rw [sA.2 49 (by decide)]; exact h49) aA (by omega) (x := 400 * g + i) rfl (by omega) (by decide), hB]
      simp only [lt]
      rw [nI_1, Nat.add_assoc]
      exact g1
    · by_cases e : j = i
      · subst e
        obtain ⟨q1, q2⟩ := g4 (400 * g + j) (by omega)
        exact ⟨by rw [q1, r0, upd_s], by rw [q2, r1, upd_s]⟩
      · have := g3 j (by omega) h2
        rw [sXE.1 164 (by simp) (by decide)] at this
        exact this
    · obtain ⟨q1, q2⟩ := g4 m (by omega)
      exact ⟨by rw [q1, r0, upd_n (by omega)], by rw [q2, r1, upd_n (by omega)]⟩
theorem lawR {g b : Nat} {X : IM} (hg : g < 2) (hb : b + 865 ≤ 2500) (h49 : X 136 49 = 0) (h51 : X 136 51 = nI b) : ∃ X', f_X12_keepsLaw (nI g) X = some (0, X') ∧ X' 136 51 = nI (b + 865) ∧ X' 145 g = X 164 b ∧ (∀ m : Nat, ¬ m = g → X' 145 m = X 145 m) ∧ (∀ j : Nat, j < 16 → X' 146 (16 * g + j) = X 164 (b + 1 + 4 * j) ∧ X' 147 (16 * g + j) = X 164 (b + 1 + 4 * j + 1) ∧ X' 148 (16 * g + j) = X 164 (b + 1 + 4 * j + 2) ∧ X' 149 (16 * g + j) = X 164 (b + 1 + 4 * j + 3)) ∧ (∀ m : Nat, (m < 16 * g ∨ 16 * g + 16 ≤ m) → X' 146 m = X 146 m ∧ X' 147 m = X 147 m ∧ X' 148 m = X 148 m ∧ X' 149 m = X 149 m) ∧ (∀ j : Nat, j < 400 → X' 150 (400 * g + j) = X 164 (b + 65 + 2 * j) ∧ X' 151 (400 * g + j) = X 164 (b + 65 + 2 * j + 1)) ∧ (∀ m : Nat, (m < 400 * g ∨ 400 * g + 400 ≤ m) → X' 150 m = X 150 m ∧ X' 151 m = X 151 m) ∧ stg [145, 146, 147, 148, 149, 150, 151] X X' := by
  generalize hA : ms (ms X 136 51 (nI (b + 1))) 145 g (X 164 b) = A
  have sA : stg [145, 146, 147, 148, 149, 150, 151] X A := by rw [← hA]; exact stg_ms stg_51 (by simp) (by decide)
  have aA : A 136 51 = nI (b + 1 + 4 * 0) := by rw [← hA, ms_ne (by decide), ms_it]
  have rA : ∀ p : Nat, ¬ p = 145 → ¬ p = 136 → A p = X p := fun p h1 h2 => by rw [← hA, ms_ne h1, ms_ne h2]
  obtain ⟨B, b1, b2, b3, b4, b5⟩ := lnR (g := g) (b := b + 1) hg (by omega) 16 BG 0 A (by omega) (by unfold BG; omega) (by rw [sA.2 49 (by decide)]; exact h49) aA
  obtain ⟨E, e1, e2, e3, e4, e5⟩ := cdR (g := g) (b := b + 65) hg (by omega) 400 BG 0 B (by omega) (by unfold BG; omega) (by rw [b5.2 49 (by decide), sA.2 49 (by decide)]; exact h49) (by rw [b2])
  refine ⟨E, ?_, by rw [e2], ?_, fun m hm => ?_, fun j hj => ?_, fun m hm => ?_, fun j hj => ?_, fun m hm => ?_, stg_tr sA (stg_tr (stg_sub b5 (by simp)) (stg_sub e5 (by simp)))⟩
  · unfold f_X12_keepsLaw
    rw [tkR h49 h51 (by omega) (x := g) rfl (by omega) (by decide), hA]
    simp only [lt]
    rw [show (16 : Int32) * nI g = nI (16 * g + 0) from pk_mul 16 g, b1]
    exact e1
  · rw [e5.1 145 (by simp) (by decide), b5.1 145 (by simp) (by decide), ← hA, ms_it]
  · rw [e5.1 145 (by simp) (by decide), b5.1 145 (by simp) (by decide), ← hA, ms_at hm, ms_ne (by decide)]
  · have := b3 j (by omega) hj
    rw [rA 164 (by decide) (by decide)] at this
    rw [e5.1 146 (by simp) (by decide), e5.1 147 (by simp) (by decide), e5.1 148 (by simp) (by decide), e5.1 149 (by simp) (by decide)]
    exact this
  · have := b4 m (by omega)
    rw [rA 146 (by decide) (by decide), rA 147 (by decide) (by decide), rA 148 (by decide) (by decide), rA 149 (by decide) (by decide)] at this
    rw [e5.1 146 (by simp) (by decide), e5.1 147 (by simp) (by decide), e5.1 148 (by simp) (by decide), e5.1 149 (by simp) (by decide)]
    exact this
  · have := e3 j (by omega) hj
    rw [b5.1 164 (by simp) (by decide), rA 164 (by decide) (by decide)] at this
    exact this
  · have := e4 m (by omega)
    rw [b5.1 150 (by simp) (by decide), b5.1 151 (by simp) (by decide), rA 150 (by decide) (by decide), rA 151 (by decide) (by decide)] at this
    exact this
