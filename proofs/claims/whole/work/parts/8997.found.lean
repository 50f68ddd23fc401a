/-! watches: the class's prices, and what it finds -/
def ndS (s : Nat) : Nat → Nat
  | 0 => s % 11
  | 1 => s / 11 % 11
  | 2 => s / 121 % 11
  | _ => s / 1331 % 11
def tW (p : Nat → Nat → Nat) (n s w : Nat) : Nat := bwF (byF p w (up (w + 1) (n - (w + 1))) (s % 11) (s / 11 % 11) (s / 121 % 11) (s / 1331 % 11)) 6
def stW (p : Nat → Nat → Nat) (n L : Nat) : Nat → Nat
  | 0 => 1464 * L
  | w + 1 => lsN (stW p n L w) (tW p n (stW p n L w) w)
def WC0 (M : IM) (p : Nat → Nat → Nat) (n : Nat) (a : Nat → Nat → Nat) : Prop :=
  M 127 2 = nI n ∧ (∀ w : Nat, w < n → ∀ k : Nat, k < 4 → M 129 (4 * w + k) = nI (p w k)) ∧ (∀ k : Nat, k < 4 → ∀ i : Nat, i < n → M 130 (10 * k + i) = nI (a k i)) ∧ (∀ k : Nat, k < 4 → (lsF (a k) 0 n).Perm (up 0 n)) ∧ (∀ k : Nat, k < 4 → Srt (fun w => p w k) (lsF (a k) 0 n))
section WATC
variable {M : IM} {p : Nat → Nat → Nat} {n : Nat} {a : Nat → Nat → Nat} {L : Nat}
theorem stW_le (w : Nat) : stW p n L w ≤ 1464 * L ∨ 10 < L := by
  by_cases hL : 10 < L
  · exact Or.inr hL
  · left
    induction w with
    | zero => exact Nat.le_refl _
    | succ w ih => exact Nat.le_trans (zq_digs (by omega)).2.1 ih
theorem ndS_0 (hL : L ≤ 10) (k : Nat) (hk : k < 4) : ndS (1464 * L) k = L := by
  obtain ⟨q0, q1, q2, q3⟩ := dg4 (a := L) (b := L) (c := L) (d := L) (by omega) (by omega) (by omega) (by omega)
  have e : L + 11 * L + 121 * L + 1331 * L = 1464 * L := by omega
  rw [e] at q0 q1 q2 q3
  have : k = 0 ∨ k = 1 ∨ k = 2 ∨ k = 3 := by omega
  rcases this with rfl | rfl | rfl | rfl
  · exact q0
  · exact q1
  · exact q2
  · exact q3
theorem ndS_le (s k : Nat) : ndS s k ≤ 10 := by
  unfold ndS
  split <;> omega
theorem ndS_s {s t : Nat} (hs : s < 14641) (k : Nat) (hk : k < 4) : ndS (lsN s t) k = ndS s k - tb t k := by
  obtain ⟨-, -, q0, q1, q2, q3⟩ := zq_digs (t := t) hs
  have : k = 0 ∨ k = 1 ∨ k = 2 ∨ k = 3 := by omega
  rcases this with rfl | rfl | rfl | rfl
  · exact q0
  · exact q1
  · exact q2
  · exact q3
theorem found_e (h : WC0 M p n a) (hn : n ≤ 10) (hp : ∀ w k : Nat, p w k ≤ 594) (hL : L ≤ 10) : ∃ M', f_X10_isFound (nI L) M = some (if vS p (up 0 n) (1464 * L) < 1000000 then 1 else 0, M') ∧ M' 127 0 = nI (vS p (up 0 n) (1464 * L)) ∧ (vS p (up 0 n) (1464 * L) < 1000000 → ∀ w : Nat, w < n → M' 128 w = nI (tW p n (stW p n L w) w)) ∧ fr [127, 128, 131] M M' := by
  obtain ⟨X, x1, x2, x3⟩ := fill_e (o := 131) (n := 4) (v := nI L) (by decide) M
  have hX : WCl X p n a (ndS (1464 * L)) := by
    refine ⟨?_, ?_, ?_, h.2.2.2.1, h.2.2.2.2, fun k hk => by rw [ndS_0 hL k hk]; exact x2 k hk, fun k _ => ndS_le _ k⟩
    · rw [x3 127 (by decide)]; exact h.1
    · rw [x3 129 (by decide)]; exact h.2.1
    · rw [x3 130 (by decide)]; exact h.2.2.1
  have hls : f_X10_leastSum X = some (nI (vS p (up 0 n) (1464 * L)), X) := least_s hX hn hp
  have hvl : vS p (up 0 n) (1464 * L) ≤ 1000000 := vd_le _ _ _ _ _
  have hY : WCl (ms X 127 0 (nI (vS p (up 0 n) (1464 * L)))) p n a (ndS (1464 * L)) := by
    refine ⟨?_, ?_, ?_, hX.2.2.2.1, hX.2.2.2.2.1, ?_, hX.2.2.2.2.2.2⟩
    · rw [ms_at (by decide)]; exact hX.1
    · rw [ms_ne (by decide)]; exact hX.2.1
    · rw [ms_ne (by decide)]; exact hX.2.2.1
    · rw [ms_ne (by decide)]; exact hX.2.2.2.2.2.1
  have hMY : fr [127, 128, 131] M (ms X 127 0 (nI (vS p (up 0 n) (1464 * L)))) := fr_ms (fr_sub x3 (by simp)) (by simp)
  have hY0 : ms X 127 0 (nI (vS p (up 0 n) (1464 * L))) 127 0 = nI (vS p (up 0 n) (1464 * L)) := ms_it
  have e1 : f_X10_isFound (nI L) M = if ms X 127 0 (nI (vS p (up 0 n) (1464 * L))) 127 0 < 1000000 then f_X10_isFound_34 BG (ms X 127 0 (nI (vS p (up 0 n) (1464 * L))) 127 0) (nI 0) (ms X 127 0 (nI (vS p (up 0 n) (1464 * L)))) else some (0, ms X 127 0 (nI (vS p (up 0 n) (1464 * L)))) := by
    unfold f_X10_isFound
    rw [cl_s x1, cl_s hls]
    rfl
  rw [e1, hY0]
  generalize ms X 127 0 (nI (vS p (up 0 n) (1464 * L))) = Y at *
  by_cases hv : vS p (up 0 n) (1464 * L) < 1000000
  · rw [if_pos (show nI (vS p (up 0 n) (1464 * L)) < 1000000 from nI_lt (b := 1000000) hv (by decide)), if_pos hv]
    have loop : ∀ (j f w : Nat) (Z : IM), w + j = n → j < f → WCl Z p n a (ndS (stW p n L w)) → (∀ v : Nat, v < w → Z 128 v = nI (tW p n (stW p n L v) v)) → Z 127 0 = nI (vS p (up 0 n) (1464 * L)) → fr [127, 128, 131] M Z → vS p (up w (n - w)) (stW p n L w) < 1000000 → ∃ M', f_X10_isFound_34 f (nI (vS p (up w (n - w)) (stW p n L w))) (nI w) Z = some (1, M') ∧ M' 127 0 = nI (vS p (up 0 n) (1464 * L)) ∧ (∀ w : Nat, w < n → M' 128 w = nI (tW p n (stW p n L w) w)) ∧ fr [127, 128, 131] M M' := by
      intro j
      induction j with
      | zero =>
        intro f w Z hw hf hZ hr h0 hM hl
        obtain ⟨m, rfl⟩ : ∃ m, f = m + 1 := ⟨f - 1, by omega⟩
        have : w = n := by omega
        subst this
        refine ⟨Z, ?_, h0, hr, hM⟩
        show f_X10_isFound_34_b (f_X10_isFound_34 m) _ _ Z = _
        unfold f_X10_isFound_34_b
        rw [hZ.1, if_pos (Int32.le_refl _)]
      | succ j ih =>
        intro f w Z hw hf hZ hr h0 hM hl
        obtain ⟨m, rfl⟩ : ∃ m, f = m + 1 := ⟨f - 1, by omega⟩
        have hs : stW p n L w < 14641 := by
          rcases stW_le (p := p) (n := n) (L := L) w with q | q <;> omega
        obtain ⟨Z', z1, z2, z3, z4, z5, z6⟩ := choose_e (w := w) (t := tW p n (stW p n L w) w) (left := vS p (up w (n - w)) (stW p n L w)) hZ hn hp (by omega) rfl hl rfl
        have ev : vS p (up (w + 1) (n - (w + 1))) (stW p n L (w + 1)) = vd p (up (w + 1) (n - (w + 1))) (ndS (stW p n L w) 0 - tb (tW p n (stW p n L w) w) 0) (ndS (stW p n L w) 1 - tb (tW p n (stW p n L w) w) 1) (ndS (stW p n L w) 2 - tb (tW p n (stW p n L w) w) 2) (ndS (stW p n L w) 3 - tb (tW p n (stW p n L w) w) 3) := by
          rw [← ndS_s hs 0 (by decide), ← ndS_s hs 1 (by decide), ← ndS_s hs 2 (by decide), ← ndS_s hs 3 (by decide)]
          rfl
        rw [← ev] at z6
        have hZ' : WCl Z' p n a (ndS (stW p n L (w + 1))) := by
          refine ⟨z2.1, z2.2.1, z2.2.2.1, z2.2.2.2.1, z2.2.2.2.2.1, fun k hk => ?_, fun k _ => ndS_le _ k⟩
          show Z' 131 k = nI (ndS (lsN (stW p n L w) (tW p n (stW p n L w) w)) k)
          rw [ndS_s hs k hk]
          exact z2.2.2.2.2.2.1 k hk
        obtain ⟨M', g1, g2, g3, g4⟩ := ih m (w + 1) Z' (by omega) (by omega) hZ' (fun v hv => by
          by_cases e : v = w
          · subst e; exact z3
          · rw [z4 v e]; exact hr v (by omega)) (by rw [z5 127 (by decide)]; exact h0) (fr_tr hM (fr_sub z5 (by simp))) (by omega)
        refine ⟨M', ?_, g2, g3, g4⟩
        rw [← g1]
        show f_X10_isFound_34_b (f_X10_isFound_34 m) _ _ Z = _
        unfold f_X10_isFound_34_b
        rw [hZ.1, if_neg (nI_ge (by omega) (by omega)), cl_s z1]
        simp only [lt]
        rw [nI_1, pk_sub (by omega)]
        have : vS p (up w (n - w)) (stW p n L w) - cstW p w (tW p n (stW p n L w) w) = vS p (up (w + 1) (n - (w + 1))) (stW p n L (w + 1)) := by omega
        rw [this]
    obtain ⟨M', g1, g2, g3, g4⟩ := loop n BG 0 Y (by omega) (by unfold BG; omega) hY (fun v hv => by omega) hY0 hMY hv
    exact ⟨M', g1, g2, fun _ => g3, g4⟩
  · rw [if_neg (show ¬ nI (vS p (up 0 n) (1464 * L)) < 1000000 from nI_nlt (b := 1000000) (by omega) (by omega)), if_neg hv]
    exact ⟨Y, rfl, hY0, fun z => absurd z hv, hMY⟩
/-- one price goes into its row -/
theorem put_p {w k : Nat} (hw : w < 10) (hk : k < 4) (hpr : ∀ v : Nat, v < w → M 129 (4 * v + k) = nI (p v k)) : ∀ (q f : Nat) (X : IM) (b : Nat → Nat), q ≤ w → q < f → (∀ i : Nat, i ≤ w → ¬ i = q → X 130 (10 * k + i) = nI (b i)) → (∀ i : Nat, i ≤ w → ¬ i = q → b i < w) → (∀ j : Nat, j < 10 * k ∨ 10 * k + w < j → X 130 j = M 130 j) → fr [130] M X → ∃ X', f_X10_price_20 f (nI w) (nI k) (nI (p w k)) (nI (10 * k)) (nI q) X = some (0, X') ∧ (∀ i : Nat, i ≤ w → X' 130 (10 * k + i) = nI (insF (fun v => nI (p v k)) w q b i)) ∧ (∀ j : Nat, j < 10 * k ∨ 10 * k + w < j → X' 130 j = M 130 j) ∧ fr [130] M X' := by
  intro q
  induction q with
  | zero =>
    intro f X b hq hf hX hb ho hM
    obtain ⟨x, rfl⟩ : ∃ x, f = x + 1 := ⟨f - 1, by omega⟩
    refine ⟨ms X 130 (10 * k + 0) (nI w), ?_, fun i hi => ?_, fun j hj => by rw [ms_at (by omega)]; exact ho j hj, fr_ms hM (by simp)⟩
    · show f_X10_price_20_b (f_X10_price_20 x) (nI w) (nI k) (nI (p w k)) (nI (10 * k)) (nI 0) X = _
      unfold f_X10_price_20_b
      rw [if_pos (by decide)]
      unfold f_X10_price_78
      rw [nI_add, wrK (j := 10 * k + 0) rfl (by omega) (by decide)]
    · unfold insF
      by_cases e : i = 0
      · subst e; rw [ms_it, updN_s]
      · rw [ms_at (by omega), updN_n e]; exact hX i hi e
  | succ q ih =>
    intro f X b hq hf hX hb ho hM
    obtain ⟨x, rfl⟩ : ∃ x, f = x + 1 := ⟨f - 1, by omega⟩
    have hbq := hb q (by omega) (by omega)
    have e1 : nI (10 * k) + nI (q + 1) - 1 = nI (10 * k + q) := by rw [nI_add, ← Nat.add_assoc, nI_pred]
    have e2 : nI (b q) * 4 + nI k = nI (4 * b q + k) := by rw [show (4 : Int32) = nI 4 from rfl, pk_mul, nI_add, Nat.mul_comm]
    have hs : f_X10_price_20 (x + 1) (nI w) (nI k) (nI (p w k)) (nI (10 * k)) (nI (q + 1)) X = if nI (p (b q) k) ≤ nI (p w k) then some (0, ms X 130 (10 * k + (q + 1)) (nI w)) else f_X10_price_20 x (nI w) (nI k) (nI (p w k)) (nI (10 * k)) (nI q) (ms X 130 (10 * k + (q + 1)) (nI (b q))) := by
      show f_X10_price_20_b (f_X10_price_20 x) _ _ _ _ _ X = _
      unfold f_X10_price_20_b f_X10_price_78
      rw [if_neg (nI_nle (by omega) (by omega)), rdK (j := 10 * k + q) e1 (by omega) (by decide), hX q (by omega) (by omega), rdK (j := 4 * b q + k) e2 (by omega) (by decide), hM 129 (by decide), hpr (b q) hbq]
      by_cases c : nI (p (b q) k) ≤ nI (p w k)
      · rw [if_pos c, if_pos c, nI_add, wrK (j := 10 * k + (q + 1)) rfl (by omega) (by decide)]
      · rw [if_neg c, if_neg c, rdK (j := 10 * k + q) e1 (by omega) (by decide), hX q (by omega) (by omega), nI_add, wrK (j := 10 * k + (q + 1)) rfl (by omega) (by decide)]
        simp only [lt]
        rw [pk_m1]
    unfold insF
    by_cases c : nI (p (b q) k) ≤ nI (p w k)
    · refine ⟨ms X 130 (10 * k + (q + 1)) (nI w), by rw [hs, if_pos c], fun i hi => ?_, fun j hj => by rw [ms_at (by omega)]; exact ho j hj, fr_ms hM (by simp)⟩
      rw [if_neg (Int32.not_lt.mpr c)]
      by_cases e : i = q + 1
      · subst e; rw [ms_it, updN_s]
      · rw [ms_at (by omega), updN_n e]; exact hX i hi e
    · obtain ⟨X', g1, g2, g3, g4⟩ := ih x (ms X 130 (10 * k + (q + 1)) (nI (b q))) (updN b (q + 1) (b q)) (by omega) (by omega) (fun i hi hne => by
        by_cases e : i = q + 1
        · subst e; rw [ms_it, updN_s]
        · rw [ms_at (by omega), updN_n e]; exact hX i hi e) (fun i hi hne => by
        by_cases e : i = q + 1
        · subst e; rw [updN_s]; exact hbq
        · rw [updN_n e]; exact hb i hi e) (fun j hj => by rw [ms_at (by omega)]; exact ho j hj) (fr_ms hM (by simp))
      refine ⟨X', by rw [hs, if_neg c]; exact g1, fun i hi => ?_, g3, g4⟩
      rw [if_pos (Int32.not_le.mp c), g2 i hi]
theorem price_e {w k : Nat} {b : Nat → Nat} (hw : w < 10) (hk : k < 4) (hpr : ∀ v : Nat, v < w → M 129 (4 * v + k) = nI (p v k)) (hro : ∀ i : Nat, i < w → M 130 (10 * k + i) = nI (b i)) (hb : ∀ i : Nat, i < w → b i < w) : ∃ M', f_X10_price (nI w) (nI k) (nI (p w k)) M = some (0, M') ∧ M' 129 (4 * w + k) = nI (p w k) ∧ (∀ j : Nat, ¬ j = 4 * w + k → M' 129 j = M 129 j) ∧ (∀ i : Nat, i ≤ w → M' 130 (10 * k + i) = nI (insF (fun v => nI (p v k)) w w b i)) ∧ (∀ j : Nat, j < 10 * k ∨ 10 * k + w < j → M' 130 j = M 130 j) ∧ fr [129, 130] M M' := by
  obtain ⟨X', g1, g2, g3, g4⟩ := put_p (M := ms M 129 (4 * w + k) (nI (p w k))) (p := p) hw hk (fun v hv => by rw [ms_at (by omega)]; exact hpr v hv) w BG (ms M 129 (4 * w + k) (nI (p w k))) b (Nat.le_refl _) (by unfold BG; omega) (fun i hi hne => by rw [ms_ne (by decide)]; exact hro i (by omega)) (fun i hi hne => hb i (by omega)) (fun j _ => rfl) fr_rf
  refine ⟨X', ?_, ?_, fun j hj => ?_, g2, fun j hj => ?_, fr_tr (fr_ms (R := [129, 130]) fr_rf (by simp)) (fr_sub g4 (by simp))⟩
  · unfold f_X10_price
    have e2 : nI w * 4 + nI k = nI (4 * w + k) := by rw [show (4 : Int32) = nI 4 from rfl, pk_mul, nI_add, Nat.mul_comm]
    rw [wrK (j := 4 * w + k) e2 (by omega) (by decide)]
    simp only [lt]
    rw [show nI k * 10 = nI (10 * k) by rw [show (10 : Int32) = nI 10 from rfl, pk_mul, Nat.mul_comm]]
    exact g1
  · rw [g4 129 (by decide), ms_it]
  · rw [g4 129 (by decide), ms_at hj]
  · rw [g3 j hj, ms_ne (by decide)]
end WATC
