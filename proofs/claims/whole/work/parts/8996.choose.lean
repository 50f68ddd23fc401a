/-! watches: the class chooses -/
section WATC
variable {M : IM} {p : Nat → Nat → Nat} {n : Nat} {a : Nat → Nat → Nat} {nd : Nat → Nat}
theorem tb_01 (t k : Nat) : ((tkl t).testBit k = true ∧ tb t k = 1) ∨ (¬ (tkl t).testBit k = true ∧ tb t k = 0) := by
  unfold tb
  by_cases q : (tkl t).testBit k = true
  · rw [if_pos q]; exact Or.inl ⟨q, rfl⟩
  · rw [if_neg q]; exact Or.inr ⟨q, rfl⟩
theorem priceOf_e {w t : Nat} (h : WCl M p n a nd) (hn : n ≤ 10) (hw : w < n) : f_X10_priceOf (nI w) (nI (tkl t)) M = some (nI (cstW p w t), M) := by
  obtain ⟨cs, cs0, css⟩ : ∃ cs : Nat → Nat, cs 0 = 0 ∧ ∀ k : Nat, cs (k + 1) = cs k + tb t k * p w k := ⟨fun k => sm (fun k => tb t k * p w k) k, rfl, fun _ => rfl⟩
  have loop : ∀ f k : Nat, k ≤ 4 → 4 - k < f → f_X10_priceOf_5 f (nI w) (nI (tkl t)) (nI (cs k)) (nI k) M = some (nI (cs 4), M) := by
    intro f
    induction f with
    | zero => intro k _ h; omega
    | succ f ih =>
      intro k hk hf
      show f_X10_priceOf_5_b (f_X10_priceOf_5 f) _ _ _ _ M = _
      unfold f_X10_priceOf_5_b
      by_cases e : k = 4
      · subst e; rw [if_pos (by decide)]
      · have h1 := ih (k + 1) (by omega) (by omega)
        rw [css k] at h1
        have e1 : nI w * 4 + nI k = nI (4 * w + k) := by rw [show (4 : Int32) = nI 4 from rfl, pk_mul, nI_add, Nat.mul_comm]
        rw [if_neg (show ¬ (4 : Int32) ≤ nI k from nI_ge (b := 4) (by omega) (by decide)), tst_n (by omega), rdK (j := 4 * w + k) e1 (by omega) (by decide), h.2.1 w hw k (by omega)]
        simp only [lt]
        rw [nI_1, nI_add]
        rcases tb_01 t k with ⟨hb, et⟩ | ⟨hb, et⟩
        · rw [et, Nat.one_mul] at h1
          rw [if_pos hb, if_neg (by decide)]
          exact h1
        · rw [et, Nat.zero_mul, Nat.add_zero] at h1
          rw [if_neg hb, if_pos rfl]
          exact h1
  have := loop BG 0 (by omega) (by unfold BG; omega)
  have ecs : cs 4 = cstW p w t := by
    rw [css 3, css 2, css 1, css 0, cs0]
    unfold cstW
    omega
  rw [ecs, cs0] at this
  exact this
theorem needed_1 {t : Nat} (h : WCl M p n a nd) (hall : ∀ k : Nat, k < 4 → tb t k = 1 → 0 < nd k) : f_X10_isNeeded (nI (tkl t)) M = some (1, M) := by
  have loop : ∀ f k : Nat, k ≤ 4 → 4 - k < f → f_X10_isNeeded_2 f (nI (tkl t)) (nI k) M = some (1, M) := by
    intro f
    induction f with
    | zero => intro k _ h; omega
    | succ f ih =>
      intro k hk hf
      show f_X10_isNeeded_2_b (f_X10_isNeeded_2 f) _ _ M = _
      unfold f_X10_isNeeded_2_b
      by_cases e : k = 4
      · subst e; rw [if_pos (by decide)]
      · have h1 := ih (k + 1) (by omega) (by omega)
        have hl := h.2.2.2.2.2.2 k (by omega)
        rw [if_neg (show ¬ (4 : Int32) ≤ nI k from nI_ge (b := 4) (by omega) (by decide)), tst_n (by omega), rdK (j := k) rfl (by omega) (by decide), h.2.2.2.2.2.1 k (by omega)]
        simp only [lt]
        rw [nI_1]
        rcases tb_01 t k with ⟨hb, et⟩ | ⟨hb, et⟩
        · rw [if_pos hb, if_neg (by decide), if_pos (show (0 : Int32) < nI (nd k) from nI_lt (a := 0) (hall k (by omega) et) (by omega))]
          exact h1
        · rw [if_neg hb, if_pos rfl]
          exact h1
  exact loop BG 0 (by omega) (by unfold BG; omega)
theorem needed_0 {t k0 : Nat} (h : WCl M p n a nd) (hk0 : k0 < 4) (ht0 : tb t k0 = 1) (hz : nd k0 = 0) : f_X10_isNeeded (nI (tkl t)) M = some (0, M) := by
  have loop : ∀ f k : Nat, k ≤ k0 → 4 - k < f → f_X10_isNeeded_2 f (nI (tkl t)) (nI k) M = some (0, M) := by
    intro f
    induction f with
    | zero => intro k _ h; omega
    | succ f ih =>
      intro k hk hf
      show f_X10_isNeeded_2_b (f_X10_isNeeded_2 f) _ _ M = _
      unfold f_X10_isNeeded_2_b
      have hl := h.2.2.2.2.2.2 k (by omega)
      rw [if_neg (show ¬ (4 : Int32) ≤ nI k from nI_ge (b := 4) (by omega) (by decide)), tst_n (by omega), rdK (j := k) rfl (by omega) (by decide), h.2.2.2.2.2.1 k (by omega)]
      simp only [lt]
      rw [nI_1]
      by_cases e : k = k0
      · subst e
        rcases tb_01 t k with ⟨hb, et⟩ | ⟨hb, et⟩
        · rw [if_pos hb, if_neg (by decide), hz, if_neg (by decide)]
        · omega
      · have h1 := ih (k + 1) (by omega) (by omega)
        rcases tb_01 t k with ⟨hb, et⟩ | ⟨hb, et⟩
        · rw [if_pos hb, if_neg (by decide)]
          by_cases q : 0 < nd k
          · rw [if_pos (show (0 : Int32) < nI (nd k) from nI_lt (a := 0) q (by omega))]
            exact h1
          · rw [show nd k = 0 by omega, if_neg (by decide)]
        · rw [if_neg hb, if_pos rfl]
          exact h1
  exact loop BG 0 (by omega) (by unfold BG; omega)
theorem addNeed_e {t : Nat} {v : Int32} {nd' : Nat → Nat} (hN : ∀ k : Nat, k < 4 → M 131 k = nI (nd k)) (h1 : ∀ k : Nat, k < 4 → tb t k = 1 → nI (nd k) + v = nI (nd' k)) (h0 : ∀ k : Nat, k < 4 → tb t k = 0 → nd' k = nd k) : ∃ M', f_X10_addNeed (nI (tkl t)) v M = some (0, M') ∧ (∀ k : Nat, k < 4 → M' 131 k = nI (nd' k)) ∧ fr [131] M M' := by
  have loop : ∀ (f k : Nat) (X : IM), k ≤ 4 → 4 - k < f → (∀ i : Nat, i < k → X 131 i = nI (nd' i)) → (∀ i : Nat, k ≤ i → i < 4 → X 131 i = nI (nd i)) → fr [131] M X → ∃ M', f_X10_addNeed_2 f (nI (tkl t)) v (nI k) X = some (0, M') ∧ (∀ k : Nat, k < 4 → M' 131 k = nI (nd' k)) ∧ fr [131] M M' := by
    intro f
    induction f with
    | zero => intro k X _ h; omega
    | succ f ih =>
      intro k X hk hf ha hb hX
      have hstep : f_X10_addNeed_2 (f + 1) (nI (tkl t)) v (nI k) X = f_X10_addNeed_2_b (f_X10_addNeed_2 f) (nI (tkl t)) v (nI k) X := rfl
      rw [hstep]
      unfold f_X10_addNeed_2_b
      by_cases e : k = 4
      · subst e
        rw [if_pos (by decide)]
        exact ⟨X, rfl, ha, hX⟩
      · rw [if_neg (show ¬ (4 : Int32) ≤ nI k from nI_ge (b := 4) (by omega) (by decide)), tst_n (by omega), rdK (j := k) rfl (by omega) (by decide), wrK (j := k) rfl (by omega) (by decide), hb k (Nat.le_refl _) (by omega)]
        simp only [lt]
        rw [nI_1]
        rcases tb_01 t k with ⟨hq, et⟩ | ⟨hq, et⟩
        · rw [if_pos hq, if_neg (by decide), h1 k (by omega) et]
          refine ih (k + 1) _ (by omega) (by omega) (fun i hi => ?_) (fun i hi hi4 => by rw [ms_at (by omega)]; exact hb i (by omega) hi4) (fr_ms hX (by simp))
          by_cases e2 : i = k
          · subst e2; rw [ms_it]
          · rw [ms_at (by omega)]; exact ha i (by omega)
        · rw [if_neg hq, if_pos rfl]
          refine ih (k + 1) _ (by omega) (by omega) (fun i hi => ?_) (fun i hi hi4 => hb i (by omega) hi4) hX
          by_cases e2 : i = k
          · subst e2; rw [h0 i (by omega) et]; exact hb i (Nat.le_refl _) (by omega)
          · exact ha i (by omega)
  exact loop BG 0 M (by omega) (by unfold BG; omega) (fun i hi => by omega) (fun i _ hi => hN i hi) fr_rf
theorem rx_tk {t : Nat} {K : Int32 → IR} (ht : t < 7) : rx (fun j => ie_tkl.getD j 0) ie_tkn (nI t) K = K (nI (tkl t)) := by
  have : t = 0 ∨ t = 1 ∨ t = 2 ∨ t = 3 ∨ t = 4 ∨ t = 5 ∨ t = 6 := by omega
  rcases this with rfl | rfl | rfl | rfl | rfl | rfl | rfl <;> (rw [rx_in (by decide)]; rfl)
theorem wcl_fr {X : IM} {R : List Nat} {nd' : Nat → Nat} (h : WCl M p n a nd) (hX : fr R M X) (h1 : 127 ∉ R ∧ 129 ∉ R ∧ 130 ∉ R) (h2 : ∀ k : Nat, k < 4 → X 131 k = nI (nd' k)) (h3 : ∀ k : Nat, k < 4 → nd' k ≤ 10) : WCl X p n a nd' := by
  refine ⟨?_, ?_, ?_, h.2.2.2.1, h.2.2.2.2.1, h2, h3⟩
  · rw [hX 127 h1.1]; exact h.1
  · rw [hX 129 h1.2.1]; exact h.2.1
  · rw [hX 130 h1.2.2]; exact h.2.2.1
/-- the class chooses the first least way -/
theorem choose_e {w t left : Nat} (h : WCl M p n a nd) (hn : n ≤ 10) (hp : ∀ w k : Nat, p w k ≤ 594) (hw : w < n) (hl : left = vd p (up w (n - w)) (nd 0) (nd 1) (nd 2) (nd 3)) (hl6 : left < 1000000) (et : t = bwF (byF p w (up (w + 1) (n - (w + 1))) (nd 0) (nd 1) (nd 2) (nd 3)) 6) : ∃ M', f_X10_choose (nI w) (nI left) M = some (nI (cstW p w t), M') ∧ WCl M' p n a (fun k => nd k - tb t k) ∧ M' 128 w = nI t ∧ (∀ j : Nat, ¬ j = w → M' 128 j = M 128 j) ∧ fr [128, 131] M M' ∧ cstW p w t + vd p (up (w + 1) (n - (w + 1))) (nd 0 - tb t 0) (nd 1 - tb t 1) (nd 2 - tb t 2) (nd 3 - tb t 3) = left := by
  obtain ⟨b1, b2, b3⟩ := bwF_ok (f := byF p w (up (w + 1) (n - (w + 1))) (nd 0) (nd 1) (nd 2) (nd 3)) 6
  obtain ⟨n0, n1, n2, n3⟩ := bw_need (p := p) (w := w) (ws := up (w + 1) (n - (w + 1))) (a := nd 0) (b := nd 1) (c := nd 2) (d := nd 3)
  have hle : left = byF p w (up (w + 1) (n - (w + 1))) (nd 0) (nd 1) (nd 2) (nd 3) t := by
    rw [show n - w = (n - (w + 1)) + 1 by omega, up_s, vd_cons, ← et] at hl
    unfold mnN at hl
    split at hl <;> omega
  rw [← et] at b1 b3 n0 n1 n2 n3
  have hneed : ∀ k : Nat, k < 4 → tb t k = 1 → 0 < nd k := fun k hk => by
    have : k = 0 ∨ k = 1 ∨ k = 2 ∨ k = 3 := by omega
    rcases this with rfl | rfl | rfl | rfl
    · exact n0
    · exact n1
    · exact n2
    · exact n3
  have eby : ∀ t' : Nat, byF p w (up (w + 1) (n - (w + 1))) (nd 0) (nd 1) (nd 2) (nd 3) t' = cstW p w t' + vd p (up (w + 1) (n - (w + 1))) (nd 0 - tb t' 0) (nd 1 - tb t' 1) (nd 2 - tb t' 2) (nd 3 - tb t' 3) := fun t' => rfl
  have hsum : cstW p w t + vd p (up (w + 1) (n - (w + 1))) (nd 0 - tb t 0) (nd 1 - tb t 1) (nd 2 - tb t 2) (nd 3 - tb t 3) = left := by rw [hle, eby]
  have ecst : ∀ t' : Nat, cstW p w t' ≤ 2376 := fun t' => by
    have hm : ∀ k : Nat, tb t' k * p w k ≤ 594 := fun k => by
      have h2 := hp w k
      rcases tb_01 t' k with ⟨-, z⟩ | ⟨-, z⟩ <;> rw [z] <;> omega
    have m0 := hm 0
    have m1 := hm 1
    have m2 := hm 2
    have m3 := hm 3
    unfold cstW
    omega
  -- one way is tried
  have try1 : ∀ (X : IM) (t' : Nat), WCl X p n a nd → cstW p w t' ≤ left → (∀ k : Nat, k < 4 → tb t' k = 1 → 0 < nd k) → ∃ Y, f_X10_addNeed (nI (tkl t')) (-1) X = some (0, Y) ∧ fr [131] X Y ∧ WCl Y p n a (fun k => nd k - tb t' k) ∧ f_X10_isReached (nI (w + 1)) (nI left - nI (cstW p w t')) Y = some (if byF p w (up (w + 1) (n - (w + 1))) (nd 0) (nd 1) (nd 2) (nd 3) t' ≤ left then 1 else 0, Y) := fun X t' hX hc hnd => by
    obtain ⟨Y, y1, y2, y3⟩ := addNeed_e (M := X) (t := t') (v := -1) (nd := nd) (nd' := fun k => nd k - tb t' k) hX.2.2.2.2.2.1 (fun k hk hb => by
      have := hnd k hk hb
      show nI (nd k) + (-1) = nI (nd k - tb t' k)
      rw [hb]
      obtain ⟨m, hm⟩ : ∃ m, nd k = m + 1 := ⟨nd k - 1, by omega⟩
      rw [hm, pk_m1]
      rfl) (fun k _ hb => by show nd k - tb t' k = nd k; rw [hb]; rfl)
    have hY : WCl Y p n a (fun k => nd k - tb t' k) := wcl_fr hX y3 (by simp) y2 (fun k hk => Nat.le_trans (Nat.sub_le _ _) (h.2.2.2.2.2.2 k hk))
    refine ⟨Y, y1, y3, hY, ?_⟩
    rw [pk_sub hc, reach_e hY hn hp (by omega) (by omega), eby]
    by_cases q : vd p (up (w + 1) (n - (w + 1))) (nd 0 - tb t' 0) (nd 1 - tb t' 1) (nd 2 - tb t' 2) (nd 3 - tb t' 3) ≤ left - cstW p w t'
    · rw [if_pos q, if_pos (by omega)]
    · rw [if_neg q, if_neg (by omega)]
  have loop : ∀ (j f t' : Nat) (X : IM), t' + j = t → j < f → WCl X p n a nd → fr [131] M X → ∃ M', f_X10_choose_2 f (nI w) (nI left) (nI t') X = some (nI (cstW p w t), M') ∧ WCl M' p n a (fun k => nd k - tb t k) ∧ M' 128 w = nI t ∧ (∀ j : Nat, ¬ j = w → M' 128 j = M 128 j) ∧ fr [128, 131] M M' := by
    intro j
    induction j with
    | zero =>
      intro f t' X ht hf hX hMX
      obtain ⟨m, rfl⟩ : ∃ m, f = m + 1 := ⟨f - 1, by omega⟩
      have : t' = t := by omega
      subst this
      obtain ⟨Y, y1, y2, y3, y4⟩ := try1 X t' hX (by omega) hneed
      rw [if_pos (by omega)] at y4
      have hstep : f_X10_choose_2 (m + 1) (nI w) (nI left) (nI t') X = f_X10_choose_2_b (f_X10_choose_2 m) (nI w) (nI left) (nI t') X := rfl
      have hMY := fr_tr hMX y2
      refine ⟨ms Y 128 w (nI t'), ?_, wcl_fr y3 (fr_ms (R := [128]) fr_rf (by simp)) (by simp) (fun k hk => by rw [ms_ne (by decide)]; exact y3.2.2.2.2.2.1 k hk) y3.2.2.2.2.2.2, ms_it, fun j hj => by rw [ms_at hj, hMY 128 (by decide)], fr_ms (fr_sub hMY (by simp)) (by simp)⟩
      rw [hstep]
      unfold f_X10_choose_2_b
      have hcl := ecst t'
      rw [if_neg (show ¬ Int32.ofNat ie_tkn ≤ nI t' from nI_ge (b := 7) (by omega) (by decide)), rx_tk (by omega), cl_s (priceOf_e hX hn hw), cl_s (needed_1 hX hneed), if_neg (by decide), if_pos (nI_le (by omega) (by omega)), cl_s y1, nI_1, cl_s y4, if_neg (by decide), wrK (j := w) rfl (by omega) (by decide)]
    | succ j ih =>
      intro f t' X ht hf hX hMX
      obtain ⟨m, rfl⟩ : ∃ m, f = m + 1 := ⟨f - 1, by omega⟩
      have hstep : f_X10_choose_2 (m + 1) (nI w) (nI left) (nI t') X = f_X10_choose_2_b (f_X10_choose_2 m) (nI w) (nI left) (nI t') X := rfl
      have hgt := b3 t' (by omega)
      have hcl := ecst t'
      rw [hstep]
      unfold f_X10_choose_2_b
      rw [if_neg (show ¬ Int32.ofNat ie_tkn ≤ nI t' from nI_ge (b := 7) (by omega) (by decide)), rx_tk (by omega), cl_s (priceOf_e hX hn hw)]
      simp only [lt]
      rw [nI_1]
      by_cases q : ∀ k : Nat, k < 4 → tb t' k = 1 → 0 < nd k
      · rw [cl_s (needed_1 hX q), if_neg (by decide)]
        by_cases q2 : cstW p w t' ≤ left
        · obtain ⟨Y, y1, y2, y3, y4⟩ := try1 X t' hX q2 q
          rw [if_neg (by omega)] at y4
          obtain ⟨Z, z1, z2, z3⟩ := addNeed_e (M := Y) (t := t') (v := 1) (nd := fun k => nd k - tb t' k) (nd' := nd) y3.2.2.2.2.2.1 (fun k hk hb => by
            have := q k hk hb
            show nI (nd k - tb t' k) + 1 = nI (nd k)
            rw [nI_1, hb, Nat.sub_add_cancel this]) (fun k _ hb => by show nd k = nd k - tb t' k; rw [hb]; rfl)
          rw [if_pos (nI_le q2 (by omega)), cl_s y1, nI_1, cl_s y4, if_pos rfl, cl_s z1]
          exact ih m (t' + 1) Z (by omega) (by omega) (wcl_fr y3 z3 (by simp) z2 h.2.2.2.2.2.2) (fr_tr (fr_tr hMX y2) z3)
        · rw [if_neg (nI_ge (by omega) (by omega))]
          exact ih m (t' + 1) X (by omega) (by omega) hX hMX
      · obtain ⟨k0, c1, c2, c3⟩ : ∃ k0 : Nat, k0 < 4 ∧ tb t' k0 = 1 ∧ nd k0 = 0 := by
          rcases Classical.em (∃ k0 : Nat, k0 < 4 ∧ tb t' k0 = 1 ∧ nd k0 = 0) with z | z
          · exact z
          · exact absurd (fun k hk hb => Nat.pos_of_ne_zero (fun z0 => z ⟨k, hk, hb, z0⟩)) q
        rw [cl_s (needed_0 hX c1 c2 c3), if_pos rfl]
        exact ih m (t' + 1) X (by omega) (by omega) hX hMX
  obtain ⟨M', g1, g2, g3, g4, g5⟩ := loop t BG 0 M (by omega) (by unfold BG; omega) h fr_rf
  exact ⟨M', g1, g2, g3, g4, g5, hsum⟩
end WATC
