/-! of, asks -/
theorem st_of (p q : Int32) : Stp2 Inv (f_X11_of p q) (f_X12_of p q) := by
  refine stp_d rfl ?_
  intro M l0 l1 hI hR
  obtain ⟨n, hn, en, -, ecn⟩ := walk_n hR
  obtain ⟨⟨⟨-, -, -, -, -, -, -, -, -, -, aw⟩, -, -, dw, dl⟩, -⟩ := id hI
  obtain ⟨c, hc, ec, ecc⟩ := clk_n hR
  by_cases hp : p < 0 ∨ M 1 10 ≤ p
  · refine ⟨-2, ?_, fun D hs hD => ?_⟩
    · unfold f_X11_of
      exact ok_c (wal_c p M) (ok_t (i0 hp) ok_v)
    · exact ok_c (wal_m p D) (ok_t (i0 (by rw [hD.1.2.2.2.1]; exact hp)) ok_v)
  have hp' := hp
  rw [en] at hp
  obtain ⟨w, hw, rfl⟩ := in_wal (by omega) hp
  have fin : ∃ v : Int32, Ok (if q = 0 then rd M 2 10 (nI w) fun v6 => some (v6, M) else if q = 1 then rd M 3 10 (nI w) fun v9 => some (v9, M) else if q = 2 then rd M 4 10 (nI w) fun v12 => some (v12, M) else if q = 3 then rd M 5 10 (nI w) fun v15 => some (v15, M) else if q = 4 then cl (f_X11_whoGo 1 M) fun w18 M19 => some (((w18 >>> (nI w &&& 31)) &&& 1), M19) else if q = 5 then cl (f_X11_amountNow (nI w) 10011 M) fun w22 M23 => some (w22, M23) else if q = 6 then cl (f_X11_amountNow (nI w) 10012 M) fun w26 M27 => some (w26, M27) else if q = 7 then cl (f_X11_amountNow (nI w) 10013 M) fun w30 M31 => some (w30, M31) else if q = 8 then cl (f_X8_clocksOf 25 (nI w) M) fun w34 M35 => some (w34, M35) else some ((-2), M)) (fun r M1 => r = v ∧ same M M1) ∧ ∀ D, same M D ∧ RC M D 1 l0 l1 → Ok (if q = 0 then rd D 137 40 (30 + nI w) fun v39 => some (v39, D) else if q = 1 then rd D 140 10 (nI w) fun v37 => some (v37, D) else if q = 2 then rd D 137 40 (10 + nI w) fun v35 => some (v35, D) else if q = 3 then rd D 137 40 (20 + nI w) fun v33 => some (v33, D) else if q = 4 then cl (f_X12_goers D) fun w30 M31 => some (((w30 >>> (nI w &&& 31)) &&& 1), M31) else if q = 5 then cl (f_X12_clockNow D) fun w24 M25 => cl (f_X12_tireOf (nI w) w24 M25) fun w27 M28 => some (w27, M28) else if q = 6 then cl (f_X12_easeOf (nI w) D) fun w21 M22 => some (w21, M22) else if q = 7 then cl (f_X12_eatOf (nI w) D) fun w18 M19 => some (w18, M19) else if q = 8 then cl (f_X12_clocksOf (nI w) D) fun w15 M16 => some (w15, M16) else some ((-2), D)) (fun r M2 => r = v ∧ same D M2) := by
    have kq : ∀ D, same M D ∧ RC M D 1 l0 l1 → D 137 (10 + w) = M 4 w ∧ D 137 (20 + w) = M 5 w ∧ D 137 (30 + w) = M 2 w ∧ D 140 w = M 3 w := fun D hD => by
      obtain ⟨q1, q2, q3⟩ := hD.2.1.1.2.2.2.2.2.2.2.2.2.2 w (by omega)
      exact ⟨q1, q2, q3, hD.2.1.2.2.2.2 w (by omega)⟩
    apply ok_if2 <;> intro h0
    · exact ⟨_, ok_rv w _ rfl (by omega) (by decide) rfl ok_v, fun D hD => ok_rv (30 + w) _ (nI_add 30 w) (by omega) (by decide) (kq D hD).2.2.1 ok_v⟩
    apply ok_if2 <;> intro h0
    · exact ⟨_, ok_rv w _ rfl (by omega) (by decide) rfl ok_v, fun D hD => ok_rv w _ rfl (by omega) (by decide) (kq D hD).2.2.2 ok_v⟩
    apply ok_if2 <;> intro h0
    · exact ⟨_, ok_rv w _ rfl (by omega) (by decide) rfl ok_v, fun D hD => ok_rv (10 + w) _ (nI_add 10 w) (by omega) (by decide) (kq D hD).1 ok_v⟩
    apply ok_if2 <;> intro h0
    · exact ⟨_, ok_rv w _ rfl (by omega) (by decide) rfl ok_v, fun D hD => ok_rv (20 + w) _ (nI_add 20 w) (by omega) (by decide) (kq D hD).2.1 ok_v⟩
    apply ok_if2 <;> intro h0
    · exact ⟨(goS M 1 l0 >>> (nI w &&& 31)) &&& 1, ok_cl (whoGo_c (Or.inl rfl) hR) (fun r M1 z => ok_s ⟨by rw [z.1], same_a z.2⟩), fun D hD => ok_cl (goers_m (Or.inl rfl) hD.2) (fun r M1 z => ok_s ⟨by rw [z.1], same_b z.2⟩)⟩
    apply ok_if2 <;> intro h0
    · exact ⟨am (vC M 1 (clk (M 1)) w) 10011 (dfl 10011) l1, ok_cl (amountNow_c hR (by omega)) (fun r M1 z => ok_s ⟨z.1, same_a z.2⟩), fun D hD => ok_c (clockNow_e hD.2) (ok_cl (tireOf_m (Or.inl rfl) hD.2 (by omega)) (fun r M1 z => ok_s ⟨z.1, same_b z.2⟩))⟩
    apply ok_if2 <;> intro h0
    · exact ⟨am (vC M 1 (clk (M 1)) w) 10012 (dfl 10012) l1, ok_cl (amountNow_c hR (by omega)) (fun r M1 z => ok_s ⟨z.1, same_a z.2⟩), fun D hD => ok_cl (easeOf_m (Or.inl rfl) hD.2 (by omega)) (fun r M1 z => ok_s ⟨z.1, same_b z.2⟩)⟩
    apply ok_if2 <;> intro h0
    · exact ⟨am (vC M 1 (clk (M 1)) w) 10013 (dfl 10013) l1, ok_cl (amountNow_c hR (by omega)) (fun r M1 z => ok_s ⟨z.1, same_a z.2⟩), fun D hD => ok_cl (eatOf_m (Or.inl rfl) hD.2 (by omega)) (fun r M1 z => ok_s ⟨z.1, same_b z.2⟩)⟩
    apply ok_if2 <;> intro h0
    · exact ⟨mk (onSh M w) 24, ok_cl (clocksOf_c2 hR) (fun r M1 z => ok_s ⟨z.1, by rw [z.2]; exact same_rf⟩), fun D hD => ok_cl (clocksOf_m (by omega) hD.2) (fun r M1 z => ok_s ⟨z.1, by rw [z.2]; exact same_rf⟩)⟩
    · exact ⟨-2, ok_v, fun D hD => ok_v⟩
  obtain ⟨v, q1, q2⟩ := fin
  refine ⟨v, ?_, fun D hs hD => ?_⟩
  · unfold f_X11_of
    exact ok_c (wal_c _ M) (ok_f (i1 hp') q1)
  · exact ok_c (wal_m _ D) (ok_f (i1 (by rw [hD.1.2.2.2.1]; exact hp')) (q2 D ⟨hs, hD⟩))
theorem am_bnd {v : Nat → Int32} {w d : Int32} (hd : bnd d 0 99) : ∀ t : List LLn, bnd (am v w d t) 0 99
  | [] => hd
  | x :: t => by
    unfold am
    split
    · have z0 : (0 : Int32).toInt = 0 := by decide
      have z9 : (99 : Int32).toInt = 99 := by decide
      unfold cl99 bnd
      simp only [Int32.le_iff_toInt_le]
      repeat' split
      all_goals omega
    · exact am_bnd hd t
/-- whom to ask: the best of the first i -/
def bstA (t : Nat → Int32) (s : Nat → Bool) : Nat → Int32 × Int32
  | 0 => (-1, 1000000)
  | i + 1 => if s i = true then bstA t s i else if (bstA t s i).2 ≤ t i then bstA t s i else (nI i, t i)
theorem bstA_in {t : Nat → Int32} {s : Nat → Bool} : ∀ i : Nat, bstA t s i = (-1, 1000000) ∨ ∃ j : Nat, j < i ∧ bstA t s i = (nI j, t j)
  | 0 => Or.inl rfl
  | i + 1 => by
    have ih := bstA_in (t := t) (s := s) i
    unfold bstA
    have old : bstA t s i = (-1, 1000000) ∨ ∃ j : Nat, j < i + 1 ∧ bstA t s i = (nI j, t j) := by
      rcases ih with h | ⟨j, hj, h⟩
      · exact Or.inl h
      · exact Or.inr ⟨j, by omega, h⟩
    split
    · exact old
    · split
      · exact old
      · exact Or.inr ⟨i, by omega, rfl⟩
theorem st_asks (p : Int32) : Stp2 Inv (f_X11_asks p) (f_X12_asks p) := by
  refine stp_d rfl ?_
  intro M l0 l1 hI hR
  by_cases hp : p < 0 ∨ 23 < p
  · refine ⟨-1, ?_, fun D hs hD => ?_⟩
    · unfold f_X11_asks
      exact ok_c (win_c _ _ _ M) (ok_t (i0 hp) ok_v)
    · exact ok_c (win_m _ _ _ D) (ok_t (i0 hp) ok_v)
  have hp' := hp
  obtain ⟨c, hc, rfl⟩ := in_to (n := 23) (by decide) hp
  obtain ⟨n, hn, en, -, ecn⟩ := walk_n hR
  let t : Nat → Int32 := fun w => am (vC M 1 (nI c) w) 10011 10 l1
  have ht : ∀ w : Nat, bnd (t w) 0 99 := fun w => am_bnd ⟨by decide, by decide⟩ l1
  have hlt : ∀ w : Nat, ¬ (1000000 : Int32) ≤ t w := fun w h => by
    have h1 := Int32.le_iff_toInt_le.mp h
    have h2 : (1000000 : Int32).toInt = 1000000 := by decide
    have := (ht w).2
    omega
  let s : Nat → Bool := fun w => onSh M w c
  refine ⟨(bstA t s n).1, ?_, fun D hs hD => ?_⟩
  · unfold f_X11_asks
    refine ok_c (win_c _ _ _ M) (ok_f (i1 hp') ?_)
    have loop : ∀ (f i : Nat) (C : IM), i ≤ n → n - i < f → fr [120, 121] M C → Ok (f_X11_asks_21 f (nI c) (bstA t s i).1 (bstA t s i).2 (nI i) C) (fun r M1 => r = (bstA t s n).1 ∧ same M M1) := by
      intro f
      induction f with
      | zero => intro i C _ h; omega
      | succ f ih =>
        intro i C hi hf hC
        show Ok (f_X11_asks_21_b (f_X11_asks_21 f) (nI c) _ _ (nI i) C) _
        unfold f_X11_asks_21_b
        rw [row_a hC (q := 1) (by omega), en]
        by_cases e : i = n
        · subst e
          exact ok_t (nI_le (Nat.le_refl _) (by omega)) (ok_s ⟨rfl, same_a hC⟩)
        · have hRC := RC_a (Or.inl rfl) hC hR
          refine ok_f (nI_ge (by omega) (by omega)) (ok_cl (clocksOf_c hRC) (fun r M1 q => ?_))
          obtain ⟨rfl, q⟩ := q
          have q := q c (by omega)
          rw [onSh_a hC] at q
          rw [tst (by omega), q]
          have e1 : bstA t s (i + 1) = if s i = true then bstA t s i else if (bstA t s i).2 ≤ t i then bstA t s i else (nI i, t i) := rfl
          by_cases hsi : onSh M i c = true
          · rw [if_pos hsi]
            refine ok_f (by decide) (ok_lt ?_)
            rw [nI_1]
            have := ih (i + 1) M1 (by omega) (by omega) hC
            rwa [e1, if_pos hsi] at this
          · rw [if_neg hsi]
            refine ok_t rfl (ok_cl (tireAt_c hRC (by omega)) (fun r M2 q2 => ?_))
            obtain ⟨rfl, f2⟩ := q2
            rw [vC_a (Or.inl rfl) hC]
            have hC2 : fr [120, 121] M M2 := fr_tr hC f2
            refine ok_if (fun hl => ok_lt ?_) (fun hl => ok_lt ?_)
            · rw [nI_1]
              have := ih (i + 1) M2 (by omega) (by omega) hC2
              rwa [e1, if_neg hsi, if_pos hl] at this
            · rw [nI_1]
              have := ih (i + 1) M2 (by omega) (by omega) hC2
              rwa [e1, if_neg hsi, if_neg hl] at this
    exact loop BG 0 M (by omega) (by unfold BG; omega) fr_rf
  · refine ok_c (win_m _ _ _ D) (ok_f (i1 hp') ?_)
    have loop : ∀ (f i : Nat) (X : IM), i ≤ n → n - i < f → fr [155, 156] D X → Ok (f_X12_asks_22 f (nI c) (bstA t s i).1 (nI i) X) (fun r M1 => r = (bstA t s n).1 ∧ same D M1) := by
      intro f
      induction f with
      | zero => intro i X _ h; omega
      | succ f ih =>
        intro i X hi hf hX
        show Ok (f_X12_asks_22_b (f_X12_asks_22 f) (nI c) _ (nI i) X) _
        unfold f_X12_asks_22_b
        have hRC := RC_m (Or.inl rfl) hX hD
        rw [hRC.1.2.2.2.1, en]
        by_cases e : i = n
        · subst e
          exact ok_t (nI_le (Nat.le_refl _) (by omega)) (ok_s ⟨rfl, same_b hX⟩)
        · refine ok_f (nI_ge (by omega) (by omega)) (ok_cl (shiftsAt_m hRC (c := c) (by omega)) (fun r M1 q => ?_))
          obtain ⟨rfl, q⟩ := q
          rw [tst (by omega), q i (by omega)]
          have e1 : bstA t s (i + 1) = if s i = true then bstA t s i else if (bstA t s i).2 ≤ t i then bstA t s i else (nI i, t i) := rfl
          by_cases hsi : onSh M i c = true
          · rw [if_pos hsi]
            refine ok_f (by decide) (ok_lt ?_)
            rw [nI_1]
            have := ih (i + 1) M1 (by omega) (by omega) hX
            rwa [e1, if_pos hsi] at this
          · rw [if_neg hsi]
            refine ok_t rfl ?_
            rcases bstA_in (t := t) (s := s) i with hb | ⟨j, hj, hb⟩
            · rw [hb]
              refine ok_t rfl (ok_lt ?_)
              rw [nI_1]
              have := ih (i + 1) M1 (by omega) (by omega) hX
              rwa [e1, if_neg hsi, hb, if_neg (hlt i)] at this
            · rw [hb]
              refine ok_f (fun z => ?_) (ok_cl (tireOf_m (Or.inl rfl) hRC (by omega)) (fun r M2 q2 => ?_))
              · have z1 : (nI j).toInt = (j : Int) := nI_toInt (by omega)
                have z3 : (nI j, t j).1 = nI j := rfl
                rw [z3] at z
                rw [z] at z1
                have z2 : (-1 : Int32).toInt = -1 := by decide
                omega
              · obtain ⟨rfl, f2⟩ := q2
                refine ok_cl (tireOf_m (Or.inl rfl) (RC_m (Or.inl rfl) f2 hRC) (show j < 10 by omega)) (fun r M3 q3 => ?_)
                obtain ⟨rfl, f3⟩ := q3
                have hX3 : fr [155, 156] D M3 := fr_tr hX (fr_tr f2 f3)
                refine ok_if (fun hl => ok_lt ?_) (fun hl => ok_lt ?_)
                · rw [nI_1]
                  have := ih (i + 1) M3 (by omega) (by omega) hX3
                  rwa [e1, if_neg hsi, hb, if_pos (show (nI j, t j).2 ≤ t i from hl)] at this
                · rw [nI_1]
                  have := ih (i + 1) M3 (by omega) (by omega) hX3
                  rwa [e1, if_neg hsi, hb, if_neg (show ¬ (nI j, t j).2 ≤ t i from hl)] at this
    exact loop BG 0 D (by omega) (by unfold BG; omega) fr_rf
