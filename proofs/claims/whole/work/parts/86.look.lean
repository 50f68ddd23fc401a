/-! look, of, asks, undo -/
theorem stp_d {f g k : IM → IR} (hg : g = fun M => pt M 136 0 0 k) (h : ∀ M l0 l1, Inv M → RC M M 1 l0 l1 → ∃ v : Int32, Ok (f M) (fun r M1 => r = v ∧ same M M1) ∧ ∀ D, same M D → RC M D 1 l0 l1 → Ok (k D) (fun r M2 => r = v ∧ same D M2)) : Stp2 Inv f g := stp_c (g' := k) (fun M => by rw [hg]; rfl) h
def hN (f : Nat → Int32) : Nat → Nat
  | 0 => 0
  | n + 1 => hN f n + (f n).toInt.toNat
section HRS
variable {C D : IM} {o : Nat} {l0 l1 : List LLn}
theorem rc_st (h : RC C D o l0 l1) : ∃ s : Nat, s ≤ 8 ∧ C 20 0 = nI s ∧ D 136 36 = nI s ∧ ∀ i : Nat, i < s → ∃ p x r f : Nat, C 21 i = nI p ∧ p < 8 ∧ C 22 i = nI x ∧ 1 ≤ x ∧ x ≤ 24 ∧ C 23 i = nI r ∧ r ≤ x ∧ C 24 i = nI f ∧ f ≤ 99 ∧ D 153 (4 * i) = nI p ∧ D 153 (4 * i + 1) = nI x ∧ D 153 (4 * i + 2) = nI r ∧ D 153 (4 * i + 3) = nI f := by
  obtain ⟨-, ⟨⟨r1, r2, r3⟩, -⟩, -⟩ := h
  obtain ⟨s, hs, es⟩ := bnd_nI (n := 8) r2 (by decide)
  have ec : (C 20 0).toNatClampNeg = s := by rw [es, nI_clamp (by omega)]
  refine ⟨s, hs, es, by rw [r1, es], fun i hi => ?_⟩
  obtain ⟨⟨v0, v1, v2, v3⟩, b0, b1, b2, b3⟩ := r3 i (by rw [ec]; exact hi)
  obtain ⟨p, hp, ep⟩ := bnd_nI (n := 7) b0 (by decide)
  obtain ⟨x, hx, ex⟩ := bnd_nI (x := C 22 i) (n := 24) ⟨by have := b1.1; omega, b1.2⟩ (by decide)
  have ix : (C 22 i).toInt = x := by rw [ex, nI_toInt (by omega)]
  obtain ⟨r, hr, er⟩ := bnd_nI (x := C 23 i) (n := x) ⟨b2.1, by have := b2.2; omega⟩ (by omega)
  obtain ⟨f, hf, ef⟩ := bnd_nI (n := 99) b3 (by decide)
  exact ⟨p, x, r, f, ep, by omega, ex, by have := b1.1; omega, hx, er, hr, ef, hf, by rw [v0, ep], by rw [v1, ex], by rw [v2, er], by rw [v3, ef]⟩
theorem hN_s {f : Nat → Int32} {i x : Nat} (h : f i = nI x) (hx : x < 2 ^ 31) : hN f (i + 1) = hN f i + x := by
  show hN f i + (f i).toInt.toNat = _
  rw [h, nI_toInt hx, Int.toNat_natCast]
theorem hN_le {s : Nat} (h : ∀ i : Nat, i < s → ∃ x : Nat, C 22 i = nI x ∧ 1 ≤ x ∧ x ≤ 24) : ∀ k : Nat, k ≤ s → k ≤ hN (C 22) k ∧ hN (C 22) k ≤ 24 * k := by
  intro k
  induction k with
  | zero => intro _; exact ⟨Nat.le_refl _, Nat.le_refl _⟩
  | succ k ih =>
    intro hk
    obtain ⟨x, ex, h1, h2⟩ := h k (by omega)
    rw [hN_s ex (by omega)]
    have := ih (by omega)
    omega
theorem hoursTo_e {s k : Nat} (hs : s ≤ 8) (h : ∀ i : Nat, i < s → ∃ x : Nat, C 22 i = nI x ∧ 1 ≤ x ∧ x ≤ 24) (hk : k ≤ s) : f_X7_hoursTo 20 (nI k) C = some (nI (hN (C 22) k), C) := by
  have loop : ∀ n i : Nat, i ≤ k → k - i < n → f_X7_hoursTo_4 20 n (nI k) (nI (hN (C 22) i)) (nI i) C = some (nI (hN (C 22) k), C) := by
    intro n
    induction n with
    | zero => intro i _ h; omega
    | succ n ih =>
      intro i hi hn
      show f_X7_hoursTo_4_b 20 (f_X7_hoursTo_4 20 n) (nI k) _ (nI i) C = _
      unfold f_X7_hoursTo_4_b
      by_cases e : i = k
      · subst e; rw [if_pos (nI_le (Nat.le_refl _) (by omega))]
      · obtain ⟨x, ex, h1, h2⟩ := h i (by omega)
        rw [if_neg (nI_ge (by omega) (by omega)), rdK (j := i) rfl (by omega) (by decide)]
        show f_X7_hoursTo_4 20 n (nI k) (nI (hN (C 22) i) + C 22 i) (nI i + 1) C = _
        rw [nI_1, ex, nI_add, ← hN_s ex (by omega)]
        exact ih (i + 1) (by omega) (by omega)
  exact loop BG 0 (by omega) (by unfold BG; omega)
theorem placeOf_e {s k : Nat} (hs : s ≤ 8) (h : ∀ i : Nat, i < s → ∃ x : Nat, C 22 i = nI x ∧ 1 ≤ x ∧ x ≤ 24) (hd : ∀ i : Nat, i < s → D 153 (4 * i + 1) = C 22 i) (hk : k ≤ s) : f_X12_placeOf (nI k) D = some (nI (hN (C 22) k), D) := by
  have loop : ∀ n i : Nat, i ≤ k → k - i < n → f_X12_placeOf_4 n (nI k) (nI (hN (C 22) i)) (nI i) D = some (nI (hN (C 22) k), D) := by
    intro n
    induction n with
    | zero => intro i _ h; omega
    | succ n ih =>
      intro i hi hn
      show f_X12_placeOf_4_b (f_X12_placeOf_4 n) (nI k) _ (nI i) D = _
      unfold f_X12_placeOf_4_b
      by_cases e : i = k
      · subst e; rw [if_pos (nI_le (Nat.le_refl _) (by omega))]
      · obtain ⟨x, ex, h1, h2⟩ := h i (by omega)
        rw [if_neg (nI_ge (by omega) (by omega)), cl_s (show f_X12_ofStone (nI i) 1 D = some (D 153 (4 * i + 1), D) from ofStone_e (k := 1) (by omega)), hd i (by omega)]
        show f_X12_placeOf_4 n (nI k) (nI (hN (C 22) i) + C 22 i) (nI i + 1) D = _
        rw [nI_1, ex, nI_add, ← hN_s ex (by omega)]
        exact ih (i + 1) (by omega) (by omega)
  exact loop BG 0 (by omega) (by unfold BG; omega)
theorem hoursOf_e {s : Nat} (hs : s ≤ 8) (es : D 136 36 = nI s) (h : ∀ i : Nat, i < s → ∃ x : Nat, C 22 i = nI x ∧ 1 ≤ x ∧ x ≤ 24) (hd : ∀ i : Nat, i < s → D 153 (4 * i + 1) = C 22 i) : f_X12_hoursOfRound D = some (nI (hN (C 22) s), D) := by
  have loop : ∀ n i : Nat, i ≤ s → s - i < n → f_X12_hoursOfRound_4 n (nI (hN (C 22) i)) (nI i) D = some (nI (hN (C 22) s), D) := by
    intro n
    induction n with
    | zero => intro i _ h; omega
    | succ n ih =>
      intro i hi hn
      show f_X12_hoursOfRound_4_b (f_X12_hoursOfRound_4 n) _ (nI i) D = _
      unfold f_X12_hoursOfRound_4_b
      rw [es]
      by_cases e : i = s
      · subst e; rw [if_pos (nI_le (Nat.le_refl _) (by omega))]
      · obtain ⟨x, ex, h1, h2⟩ := h i (by omega)
        rw [if_neg (nI_ge (by omega) (by omega)), cl_s (show f_X12_ofStone (nI i) 1 D = some (D 153 (4 * i + 1), D) from ofStone_e (k := 1) (by omega)), hd i (by omega)]
        show f_X12_hoursOfRound_4 n (nI (hN (C 22) i) + C 22 i) (nI i + 1) D = _
        rw [nI_1, ex, nI_add, ← hN_s ex (by omega)]
        exact ih (i + 1) (by omega) (by omega)
  exact loop BG 0 (by omega) (by unfold BG; omega)
/-- the round in one: stones, hours -/
theorem rc_hr (h : RC C D o l0 l1) : ∃ s : Nat, s ≤ 8 ∧ C 20 0 = nI s ∧ D 136 36 = nI s ∧ (∀ i : Nat, i < s → ∃ x : Nat, C 22 i = nI x ∧ 1 ≤ x ∧ x ≤ 24) ∧ (∀ i : Nat, i < s → D 153 (4 * i + 1) = C 22 i) := by
  obtain ⟨s, hs, es, em, hst⟩ := rc_st h
  refine ⟨s, hs, es, em, fun i hi => ?_, fun i hi => ?_⟩
  · obtain ⟨p, x, r, f, -, -, ex, h1, h2, -⟩ := hst i hi
    exact ⟨x, ex, h1, h2⟩
  · obtain ⟨p, x, r, f, -, -, ex, -, -, -, -, -, -, -, e, -⟩ := hst i hi
    rw [e, ex]
theorem allHours_c (h : RC C D o l0 l1) : f_X7_allHours 20 C = some (nI (hN (C 22) (C 20 0).toNatClampNeg), C) := by
  obtain ⟨s, hs, es, em, h1, h2⟩ := rc_hr h
  unfold f_X7_allHours
  rw [es, cl_s (hoursTo_e hs h1 (Nat.le_refl _)), nI_clamp (by omega)]
theorem allHours_m (h : RC C D o l0 l1) : f_X12_hoursOfRound D = some (nI (hN (C 22) (C 20 0).toNatClampNeg), D) := by
  obtain ⟨s, hs, es, em, h1, h2⟩ := rc_hr h
  rw [es, nI_clamp (by omega)]
  exact hoursOf_e hs em h1 h2
end HRS
theorem same_a {M M1 : IM} (h : fr [120, 121] M M1) : same M M1 := same_fr h (by decide)
theorem same_b {M M1 : IM} (h : fr [155, 156] M M1) : same M M1 := same_fr h (by decide)
theorem ok_if2 {c : Prop} [Decidable c] {A B : IR} {A' B' : IM → IR} {M : IM} {R : IM → Prop} (h1 : c → ∃ v : Int32, Ok A (fun r M1 => r = v ∧ same M M1) ∧ ∀ D, R D → Ok (A' D) (fun r M2 => r = v ∧ same D M2)) (h2 : ¬ c → ∃ v : Int32, Ok B (fun r M1 => r = v ∧ same M M1) ∧ ∀ D, R D → Ok (B' D) (fun r M2 => r = v ∧ same D M2)) : ∃ v : Int32, Ok (if c then A else B) (fun r M1 => r = v ∧ same M M1) ∧ ∀ D, R D → Ok (if c then A' D else B' D) (fun r M2 => r = v ∧ same D M2) := by
  by_cases h : c
  · obtain ⟨v, p, q⟩ := h1 h
    exact ⟨v, ok_t h p, fun D hD => ok_t h (q D hD)⟩
  · obtain ⟨v, p, q⟩ := h2 h
    exact ⟨v, ok_f h p, fun D hD => ok_f h (q D hD)⟩
theorem ok_v {M : IM} {v : Int32} : Ok (some (v, M)) (fun r M1 => r = v ∧ same M M1) := ok_s ⟨rfl, same_rf⟩
theorem st_look (p : Int32) : Stp2 Inv (f_X11_look p) (f_X12_look p) := by
  refine stp_d rfl ?_
  intro M l0 l1 hI hR
  obtain ⟨⟨⟨a0, a1, a2, a3, a4, a5, a6, a7, a8, a9, aw⟩, -, -, dw, -⟩, -, -, ⟨pm, -⟩, -⟩ := id hI
  have hT := hI.2.1
  have key : ∀ D, same M D ∧ RC M D 1 l0 l1 → D 137 = M 137 ∧ D 136 6 = M 1 10 ∧ D 136 3 = M 34 0 ∧ D 136 36 = M 20 0 ∧ D 136 38 = M 25 0 ∧ D 136 8 = M 6 0 ∧ D 136 9 = M 6 1 ∧ D 136 10 = M 6 2 ∧ D 145 0 = M 8 0 ∧ D 145 1 = M 14 0 := by
    intro D ⟨hs, hr⟩
    obtain ⟨u1, u2, ⟨l0, b1, b2, b3, b4, b5, b6, b7, b8, b9⟩, ⟨l1, c1, c2, c3, c4, c5, c6, c7, c8, c9⟩, u5, u6⟩ := told_to hT
    refine ⟨hs.1 137 (by omega), hr.1.2.2.2.1, by rw [hs.2.1 3 (by decide)]; exact pm, hr.2.1.1.1, hr.2.1.2.1.1, hr.2.1.2.2.1, hr.2.1.2.2.2.1, hr.2.1.2.2.2.2.1, ?_, ?_⟩
    · rw [hs.1 145 (by omega), b7, b5]
    · rw [hs.1 145 (by omega), c7, c5]
  have fin : ∃ v : Int32, Ok (f_X11_look p M) (fun r M1 => r = v ∧ same M M1) ∧ ∀ D, same M D ∧ RC M D 1 l0 l1 → Ok (if p = 0 then some ((D 136 6), D) else if p = 1 then rd D 137 40 0 fun v51 => some (v51, D) else if p = 2 then rd D 137 40 3 fun v49 => some (v49, D) else if p = 3 then rd D 137 40 4 fun v47 => some (v47, D) else if p = 4 then rd D 137 40 5 fun v45 => some (v45, D) else if p = 5 then rd D 137 40 6 fun v43 => some (v43, D) else if p = 6 then rd D 137 40 7 fun v41 => some (v41, D) else if p = 7 then rd D 137 40 8 fun v39 => some (v39, D) else if p = 8 then rd D 137 40 9 fun v37 => some (v37, D) else if p = 9 then cl (f_X12_goers D) fun w34 M35 => some (w34, M35) else if p = 10 then rd D 137 40 2 fun v32 => some (v32, D) else if p = 11 then rd D 137 40 1 fun v30 => some (v30, D) else if p = 12 then rd D 145 2 0 fun v28 => some (v28, D) else if p = 13 then rd D 145 2 1 fun v26 => some (v26, D) else if p = 14 then some ((D 136 36), D) else if p = 15 then some ((D 136 38), D) else if p = 16 then some ((D 136 3), D) else if p = 17 then cl (f_X12_hoursOfRound D) fun w23 M24 => some (w23, M24) else if p = 20 then some ((D 136 8), D) else if p = 21 then some ((D 136 9), D) else if p = 22 then some ((D 136 10), D) else some ((-1), D)) (fun r M2 => r = v ∧ same D M2) := by
    unfold f_X11_look
    apply ok_if2 <;> intro h0
    · exact ⟨_, ok_v, fun D hD => ok_s ⟨(key D hD).2.1, same_rf⟩⟩
    apply ok_if2 <;> intro h0
    · exact ⟨_, ok_v, fun D hD => ok_rv 0 _ rfl (by decide) (by decide) (by rw [(key D hD).1]; exact a0) ok_v⟩
    apply ok_if2 <;> intro h0
    · exact ⟨_, ok_v, fun D hD => ok_rv 3 _ rfl (by decide) (by decide) (by rw [(key D hD).1]; exact a3) ok_v⟩
    apply ok_if2 <;> intro h0
    · exact ⟨_, ok_v, fun D hD => ok_rv 4 _ rfl (by decide) (by decide) (by rw [(key D hD).1]; exact a4) ok_v⟩
    apply ok_if2 <;> intro h0
    · exact ⟨_, ok_v, fun D hD => ok_rv 5 _ rfl (by decide) (by decide) (by rw [(key D hD).1]; exact a5) ok_v⟩
    apply ok_if2 <;> intro h0
    · exact ⟨_, ok_v, fun D hD => ok_rv 6 _ rfl (by decide) (by decide) (by rw [(key D hD).1]; exact a6) ok_v⟩
    apply ok_if2 <;> intro h0
    · exact ⟨_, ok_v, fun D hD => ok_rv 7 _ rfl (by decide) (by decide) (by rw [(key D hD).1]; exact a7) ok_v⟩
    apply ok_if2 <;> intro h0
    · exact ⟨_, ok_v, fun D hD => ok_rv 8 _ rfl (by decide) (by decide) (by rw [(key D hD).1]; exact a8) ok_v⟩
    apply ok_if2 <;> intro h0
    · exact ⟨_, ok_v, fun D hD => ok_rv 9 _ rfl (by decide) (by decide) (by rw [(key D hD).1]; exact a9) ok_v⟩
    apply ok_if2 <;> intro h0
    · exact ⟨goS M 1 l0, ok_cl (whoGo_c (Or.inl rfl) hR) (fun r M1 q => ok_s ⟨q.1, same_a q.2⟩), fun D hD => ok_cl (goers_m (Or.inl rfl) hD.2) (fun r M1 q => ok_s ⟨q.1, same_b q.2⟩)⟩
    apply ok_if2 <;> intro h0
    · exact ⟨_, ok_v, fun D hD => ok_rv 2 _ rfl (by decide) (by decide) (by rw [(key D hD).1]; exact a2) ok_v⟩
    apply ok_if2 <;> intro h0
    · exact ⟨_, ok_v, fun D hD => ok_rv 1 _ rfl (by decide) (by decide) (by rw [(key D hD).1]; exact a1) ok_v⟩
    apply ok_if2 <;> intro h0
    · exact ⟨_, ok_v, fun D hD => ok_rv 0 _ rfl (by decide) (by decide) (key D hD).2.2.2.2.2.2.2.2.1 ok_v⟩
    apply ok_if2 <;> intro h0
    · exact ⟨_, ok_v, fun D hD => ok_rv 1 _ rfl (by decide) (by decide) (key D hD).2.2.2.2.2.2.2.2.2 ok_v⟩
    apply ok_if2 <;> intro h0
    · exact ⟨_, ok_v, fun D hD => ok_s ⟨(key D hD).2.2.2.1, same_rf⟩⟩
    apply ok_if2 <;> intro h0
    · exact ⟨_, ok_v, fun D hD => ok_s ⟨(key D hD).2.2.2.2.1, same_rf⟩⟩
    apply ok_if2 <;> intro h0
    · exact ⟨_, ok_v, fun D hD => ok_s ⟨(key D hD).2.2.1, same_rf⟩⟩
    apply ok_if2 <;> intro h0
    · exact ⟨_, ok_c (allHours_c hR) ok_v, fun D hD => ok_c (allHours_m hD.2) ok_v⟩
    by_cases h18 : p = 18
    · exact ⟨-1, ok_t h18 ok_v, fun D hD => by
        subst h18
        exact ok_f (by decide) (ok_f (by decide) (ok_f (by decide) ok_v))⟩
    by_cases h19 : p = 19
    · exact ⟨-1, ok_f h18 (ok_t h19 ok_v), fun D hD => by
        subst h19
        exact ok_f (by decide) (ok_f (by decide) (ok_f (by decide) ok_v))⟩
    have rest : ∃ v : Int32, Ok (if p = 20 then some ((M 6 0), M) else if p = 21 then some ((M 6 1), M) else if p = 22 then some ((M 6 2), M) else some ((-1), M)) (fun r M1 => r = v ∧ same M M1) ∧ ∀ D, same M D ∧ RC M D 1 l0 l1 → Ok (if p = 20 then some ((D 136 8), D) else if p = 21 then some ((D 136 9), D) else if p = 22 then some ((D 136 10), D) else some ((-1), D)) (fun r M2 => r = v ∧ same D M2) := by
      apply ok_if2 <;> intro h0
      · exact ⟨_, ok_v, fun D hD => ok_s ⟨(key D hD).2.2.2.2.2.1, same_rf⟩⟩
      apply ok_if2 <;> intro h0
      · exact ⟨_, ok_v, fun D hD => ok_s ⟨(key D hD).2.2.2.2.2.2.1, same_rf⟩⟩
      apply ok_if2 <;> intro h0
      · exact ⟨_, ok_v, fun D hD => ok_s ⟨(key D hD).2.2.2.2.2.2.2.1, same_rf⟩⟩
      · exact ⟨-1, ok_v, fun D hD => ok_v⟩
    obtain ⟨v, q1, q2⟩ := rest
    exact ⟨v, ok_f h18 (ok_f h19 q1), q2⟩
  obtain ⟨v, q1, q2⟩ := fin
  exact ⟨v, q1, fun D h1 h2 => q2 D ⟨h1, h2⟩⟩
