/-! text: the model takes what was read -/
theorem zq_Mc {wo fr wh sp op ag wo' fr' wh' sp' op' ag' : Nat → Int32} : ∀ (l : List LLn) (i p : Nat), (∀ j : Nat, j < i + l.length → wo' j = wo j ∧ fr' j = fr j ∧ wh' j = wh j ∧ sp' j = sp j) → (∀ j : Nat, j < p + lnEnc l → op' j = op j ∧ ag' j = ag j) → MLw wo fr wh sp op ag i p l → MLw wo' fr' wh' sp' op' ag' i p l
  | [], _, _, _, _, _ => trivial
  | (w1, e1, b1) :: t, i, p, ha, hc, h => by
    have el : lnEnc ((w1, e1, b1) :: t) = (encL e1).length + (encL b1).length + lnEnc t := lnEnc_cons _ _
    have ei : i + ((w1, e1, b1) :: t).length = i + 1 + t.length := by rw [List.length_cons]; omega
    have ep : p + lnEnc ((w1, e1, b1) :: t) = p + (encL e1).length + (encL b1).length + lnEnc t := by omega
    rw [ei] at ha
    rw [ep] at hc
    obtain ⟨c1, c2, c3, c4, c5, c6, c7⟩ := h
    obtain ⟨a1, a2, a3, a4⟩ := ha i (by omega)
    exact ⟨by rw [a1]; exact c1, by rw [a2]; exact c2, by rw [a3]; exact c3, by rw [a4]; exact c4, fun k hk => by rw [(hc _ (by omega)).1, (hc _ (by omega)).2]; exact c5 k hk, fun k hk => by rw [(hc _ (by omega)).1, (hc _ (by omega)).2]; exact c6 k hk, zq_Mc t (i + 1) (p + (encL e1).length + (encL b1).length) ha hc c7⟩
section TAKE
variable {D : IM}
/-- a row's later part is laid over its beginning -/
theorem zq_rc {F : Nat → Int32 → IM → IR} {K : IM → IR} {c bb : Int32} {o w N b : Nat} (hF : ∀ (n : Nat) (x : Int32) (M : IM), F (n + 1) x M = if c ≤ x then K M else rd M o w (bb + x) fun v => wr M o w x v fun M2 => F n (x + 1) M2) (hc : c = nI N) (hb : bb = nI b) (hN : b + N ≤ w) (hw : w < 2 ^ 20) (hNb : N ≤ b) : ∀ (d f i : Nat) (X : IM), i + d = N → d < f → (∀ j : Nat, j < i → X o j = D o (b + j)) → (∀ j : Nat, i ≤ j → X o j = D o j) → fr [o] D X → ∃ X1, F f (nI i) X = K X1 ∧ (∀ j : Nat, j < N → X1 o j = D o (b + j)) ∧ (∀ j : Nat, N ≤ j → X1 o j = D o j) ∧ fr [o] D X1 := by
  intro d
  induction d with
  | zero =>
    intro f i X hi hf h1 h2 h3
    obtain ⟨f, rfl⟩ : ∃ j, f = j + 1 := ⟨f - 1, by omega⟩
    have e : i = N := by omega
    subst e
    exact ⟨X, by rw [hF, hc, if_pos (Int32.le_refl _)], h1, h2, h3⟩
  | succ d ih =>
    intro f i X hi hf h1 h2 h3
    obtain ⟨f, rfl⟩ : ∃ j, f = j + 1 := ⟨f - 1, by omega⟩
    obtain ⟨X1, a1, a2⟩ := ih f (i + 1) (ms X o i (D o (b + i))) (by omega) (by omega) (fun j hj => by
      by_cases z : j = i
      · rw [z, ms_it]
      · rw [ms_at z, h1 j (by omega)]) (fun j hj => by rw [ms_at (by omega), h2 j (by omega)]) (fr_ms h3 (by simp))
    refine ⟨X1, ?_, a2⟩
    rw [hF, hc, if_neg (nI_ge (by omega) (by omega)), hb, rdK (j := b + i) (nI_add b i) (by omega) (by omega), wrK (j := i) rfl (by omega) (by omega), nI_1, h2 _ (by omega)]
    exact a1
/-- lines of a law -/
theorem zq_t1 {g N : Nat} (hg : g < 2) (hN : N ≤ 16) (h27 : D 136 27 = nI g) : ∀ (d f i : Nat) (X : IM), i + d = N → d < f → (∀ q : Nat, 146 ≤ q → q ≤ 149 → (∀ j : Nat, j < i → X q (16 * g + j) = D q (32 + j)) ∧ ∀ j : Nat, (j < 16 * g ∨ 16 * g + i ≤ j) → X q j = D q j) → fr [146, 147, 148, 149] D X → ∃ X1, f_X12_takesLaw_2 f (nI N) (nI i) X = f_X12_takesLaw_107 BG (nI N) 0 X1 ∧ (∀ q : Nat, 146 ≤ q → q ≤ 149 → (∀ j : Nat, j < N → X1 q (16 * g + j) = D q (32 + j)) ∧ ∀ j : Nat, (j < 16 * g ∨ 16 * g + N ≤ j) → X1 q j = D q j) ∧ fr [146, 147, 148, 149] D X1 := by
  intro d
  induction d with
  | zero =>
    intro f i X hi hf h1 h2
    obtain ⟨f, rfl⟩ : ∃ j, f = j + 1 := ⟨f - 1, by omega⟩
    have e : i = N := by omega
    subst e
    refine ⟨X, ?_, h1, h2⟩
    show f_X12_takesLaw_2_b (f_X12_takesLaw_2 f) (nI i) (nI i) X = _
    unfold f_X12_takesLaw_2_b
    rw [if_pos (Int32.le_refl _)]
  | succ d ih =>
    intro f i X hi hf h1 h2
    obtain ⟨f, rfl⟩ : ∃ j, f = j + 1 := ⟨f - 1, by omega⟩
    have e32 : (32 : Int32) + nI i = nI (32 + i) := nI_add 32 i
    have e16 : (16 : Int32) * nI g + nI i = nI (16 * g + i) := mul_add 16 g i
    obtain ⟨Y, eY⟩ : ∃ Y : IM, Y = ms (ms (ms (ms X 146 (16 * g + i) (D 146 (32 + i))) 147 (16 * g + i) (D 147 (32 + i))) 148 (16 * g + i) (D 148 (32 + i))) 149 (16 * g + i) (D 149 (32 + i)) := ⟨_, rfl⟩
    have hY : ∀ q : Nat, 146 ≤ q → q ≤ 149 → Y q (16 * g + i) = D q (32 + i) ∧ ∀ j : Nat, ¬ j = 16 * g + i → Y q j = X q j := fun q q1 q2 => by
      have : q = 146 ∨ q = 147 ∨ q = 148 ∨ q = 149 := by omega
      rw [eY]
      rcases this with rfl | rfl | rfl | rfl
      · exact ⟨by rw [ms_ne (by decide), ms_ne (by decide), ms_ne (by decide), ms_it], fun j hj => by rw [ms_ne (by decide), ms_ne (by decide), ms_ne (by decide), ms_at hj]⟩
      · exact ⟨by rw [ms_ne (by decide), ms_ne (by decide), ms_it], fun j hj => by rw [ms_ne (by decide), ms_ne (by decide), ms_at hj, ms_ne (by decide)]⟩
      · exact ⟨by rw [ms_ne (by decide), ms_it], fun j hj => by rw [ms_ne (by decide), ms_at hj, ms_ne (by decide), ms_ne (by decide)]⟩
      · exact ⟨ms_it, fun j hj => by rw [ms_at hj, ms_ne (by decide), ms_ne (by decide), ms_ne (by decide)]⟩
    obtain ⟨X1, a1, a2⟩ := ih f (i + 1) Y (by omega) (by omega) (fun q q1 q2 => by
      obtain ⟨y1, y2⟩ := hY q q1 q2
      obtain ⟨x1, x2⟩ := h1 q q1 q2
      refine ⟨fun j hj => ?_, fun j hj => by rw [y2 j (by omega), x2 j (by omega)]⟩
      by_cases z : j = i
      · rw [z]; exact y1
      · rw [y2 _ (by omega), x1 j (by omega)]) (by rw [eY]; exact fr_ms (fr_ms (fr_ms (fr_ms h2 (by decide)) (by decide)) (by decide)) (by decide))
    refine ⟨X1, ?_, a2⟩
    have r6 : X 136 27 = nI g := by rw [h2 136 (by decide)]; exact h27
    have v6 : X 146 (32 + i) = D 146 (32 + i) := (h1 146 (by decide) (by decide)).2 _ (by omega)
    have v7 : X 147 (32 + i) = D 147 (32 + i) := (h1 147 (by decide) (by decide)).2 _ (by omega)
    have v8 : X 148 (32 + i) = D 148 (32 + i) := (h1 148 (by decide) (by decide)).2 _ (by omega)
    have v9 : X 149 (32 + i) = D 149 (32 + i) := (h1 149 (by decide) (by decide)).2 _ (by omega)
    show f_X12_takesLaw_2_b (f_X12_takesLaw_2 f) (nI N) (nI i) X = _
    unfold f_X12_takesLaw_2_b
    rw [if_neg (nI_ge (by omega) (by omega)), e32, rdK (j := 32 + i) rfl (by omega) (by decide), v6, r6, e16, wrK (j := 16 * g + i) rfl (by omega) (by decide),
      rdK (j := 32 + i) rfl (by omega) (by decide), ms_ne (show ¬ 147 = 146 by decide), v7, ms_ne (show ¬ 136 = 146 by decide), r6, e16, wrK (j := 16 * g + i) rfl (by omega) (by decide),
      rdK (j := 32 + i) rfl (by omega) (by decide), ms_ne (show ¬ 148 = 147 by decide), ms_ne (show ¬ 148 = 146 by decide), v8, ms_ne (show ¬ 136 = 147 by decide), ms_ne (show ¬ 136 = 146 by decide), r6, e16, wrK (j := 16 * g + i) rfl (by omega) (by decide),
      rdK (j := 32 + i) rfl (by omega) (by decide), ms_ne (show ¬ 149 = 148 by decide), ms_ne (show ¬ 149 = 147 by decide), ms_ne (show ¬ 149 = 146 by decide), v9, ms_ne (show ¬ 136 = 148 by decide), ms_ne (show ¬ 136 = 147 by decide), ms_ne (show ¬ 136 = 146 by decide), r6, e16, wrK (j := 16 * g + i) rfl (by omega) (by decide)]
    simp only [lt]
    rw [nI_1, ← eY]
    exact a1
/-- codes of a law -/
theorem zq_t2 {g N K : Nat} (hg : g < 2) (hK : K ≤ 400) (h27 : D 136 27 = nI g) (h28 : D 136 28 = nI K) : ∀ (d f i : Nat) (X : IM), i + d = K → d < f → (∀ q : Nat, 150 ≤ q → q ≤ 151 → (∀ j : Nat, j < i → X q (400 * g + j) = D q (800 + j)) ∧ ∀ j : Nat, (j < 400 * g ∨ 400 * g + i ≤ j) → X q j = D q j) → fr [150, 151] D X → ∃ X1, f_X12_takesLaw_107 f (nI N) (nI i) X = some (0, ms X1 145 g (nI N)) ∧ (∀ q : Nat, 150 ≤ q → q ≤ 151 → (∀ j : Nat, j < K → X1 q (400 * g + j) = D q (800 + j)) ∧ ∀ j : Nat, (j < 400 * g ∨ 400 * g + K ≤ j) → X1 q j = D q j) ∧ fr [150, 151] D X1 := by
  intro d
  induction d with
  | zero =>
    intro f i X hi hf h1 h2
    obtain ⟨f, rfl⟩ : ∃ j, f = j + 1 := ⟨f - 1, by omega⟩
    have e : i = K := by omega
    subst e
    refine ⟨X, ?_, h1, h2⟩
    have r6 : X 136 27 = nI g := by rw [h2 136 (by decide)]; exact h27
    have r8 : X 136 28 = nI i := by rw [h2 136 (by decide)]; exact h28
    show f_X12_takesLaw_107_b (f_X12_takesLaw_107 f) (nI N) (nI i) X = _
    unfold f_X12_takesLaw_107_b
    rw [r8, if_pos (Int32.le_refl _), r6, wrK (j := g) rfl hg (by decide)]
  | succ d ih =>
    intro f i X hi hf h1 h2
    obtain ⟨f, rfl⟩ : ∃ j, f = j + 1 := ⟨f - 1, by omega⟩
    have e32 : (800 : Int32) + nI i = nI (800 + i) := nI_add 800 i
    have e16 : (400 : Int32) * nI g + nI i = nI (400 * g + i) := mul_add 400 g i
    obtain ⟨Y, eY⟩ : ∃ Y : IM, Y = ms (ms X 150 (400 * g + i) (D 150 (800 + i))) 151 (400 * g + i) (D 151 (800 + i)) := ⟨_, rfl⟩
    have hY : ∀ q : Nat, 150 ≤ q → q ≤ 151 → Y q (400 * g + i) = D q (800 + i) ∧ ∀ j : Nat, ¬ j = 400 * g + i → Y q j = X q j := fun q q1 q2 => by
      have : q = 150 ∨ q = 151 := by omega
      rw [eY]
      rcases this with rfl | rfl
      · exact ⟨by rw [ms_ne (by decide), ms_it], fun j hj => by rw [ms_ne (by decide), ms_at hj]⟩
      · exact ⟨ms_it, fun j hj => by rw [ms_at hj, ms_ne (by decide)]⟩
    obtain ⟨X1, a1, a2⟩ := ih f (i + 1) Y (by omega) (by omega) (fun q q1 q2 => by
      obtain ⟨y1, y2⟩ := hY q q1 q2
      obtain ⟨x1, x2⟩ := h1 q q1 q2
      refine ⟨fun j hj => ?_, fun j hj => by rw [y2 j (by omega), x2 j (by omega)]⟩
      by_cases z : j = i
      · rw [z]; exact y1
      · rw [y2 _ (by omega), x1 j (by omega)]) (by rw [eY]; exact fr_ms (fr_ms h2 (by decide)) (by decide))
    refine ⟨X1, ?_, a2⟩
    have r6 : X 136 27 = nI g := by rw [h2 136 (by decide)]; exact h27
    have r8 : X 136 28 = nI K := by rw [h2 136 (by decide)]; exact h28
    have v6 : X 150 (800 + i) = D 150 (800 + i) := (h1 150 (by decide) (by decide)).2 _ (by omega)
    have v7 : X 151 (800 + i) = D 151 (800 + i) := (h1 151 (by decide) (by decide)).2 _ (by omega)
    show f_X12_takesLaw_107_b (f_X12_takesLaw_107 f) (nI N) (nI i) X = _
    unfold f_X12_takesLaw_107_b
    rw [r8, if_neg (nI_ge (by omega) (by omega)), e32, rdK (j := 800 + i) rfl (by omega) (by decide), v6, r6, e16, wrK (j := 400 * g + i) rfl (by omega) (by decide),
      rdK (j := 800 + i) rfl (by omega) (by decide), ms_ne (show ¬ 151 = 150 by decide), v7, ms_ne (show ¬ 136 = 150 by decide), r6, e16, wrK (j := 400 * g + i) rfl (by omega) (by decide)]
    simp only [lt]
    rw [nI_1, ← eY]
    exact a1
theorem zq_tkl {g N K : Nat} (hg : g < 2) (hN : N ≤ 16) (hK : K ≤ 400) (h27 : D 136 27 = nI g) (h28 : D 136 28 = nI K) : ∃ X, f_X12_takesLaw (nI N) D = some (0, X) ∧ X 145 g = nI N ∧ (∀ j : Nat, ¬ j = g → X 145 j = D 145 j) ∧ (∀ q : Nat, 146 ≤ q → q ≤ 149 → (∀ j : Nat, j < N → X q (16 * g + j) = D q (32 + j)) ∧ ∀ j : Nat, (j < 16 * g ∨ 16 * g + 16 ≤ j) → X q j = D q j) ∧ (∀ q : Nat, 150 ≤ q → q ≤ 151 → (∀ j : Nat, j < K → X q (400 * g + j) = D q (800 + j)) ∧ ∀ j : Nat, (j < 400 * g ∨ 400 * g + 400 ≤ j) → X q j = D q j) ∧ fr [145, 146, 147, 148, 149, 150, 151] D X := by
  obtain ⟨X1, a1, a2, a3⟩ := zq_t1 hg hN h27 N BG 0 D (by omega) (by unfold BG; omega) (fun q _ _ => ⟨fun j hj => by omega, fun _ _ => rfl⟩) fr_rf
  obtain ⟨X2, b1, b2, b3⟩ := zq_t2 (D := X1) (N := N) hg hK (by rw [a3 136 (by decide)]; exact h27) (by rw [a3 136 (by decide)]; exact h28) K BG 0 X1 (by omega) (by unfold BG; omega) (fun q _ _ => ⟨fun j hj => by omega, fun _ _ => rfl⟩) fr_rf
  refine ⟨ms X2 145 g (nI N), ?_, ms_it, fun j hj => by rw [ms_at hj, b3 145 (by decide), a3 145 (by decide)], fun q q1 q2 => ?_, fun q q1 q2 => ?_, fr_ms (fr_tr (fr_sub a3 (by decide)) (fr_sub b3 (by decide))) (by decide)⟩
  · show f_X12_takesLaw_2 BG (nI N) (nI 0) D = _
    rw [a1]
    exact b1
  · have e : ms X2 145 g (nI N) q = X1 q := by rw [ms_ne (by omega), b3 q (fun z => by simp only [List.mem_cons, List.not_mem_nil, or_false] at z; omega)]
    rw [e]
    exact ⟨(a2 q q1 q2).1, fun j hj => (a2 q q1 q2).2 j (by omega)⟩
  · have e : ms X2 145 g (nI N) q = X2 q := ms_ne (by omega)
    have e1 : X1 q = D q := a3 q (fun z => by simp only [List.mem_cons, List.not_mem_nil, or_false] at z; omega)
    rw [e, ← e1]
    exact ⟨(b2 q q1 q2).1, fun j hj => (b2 q q1 q2).2 j (by omega)⟩
theorem zq_tkr {n : Nat} (hn : n ≤ 8) : ∃ X, f_X12_takesOther 2 (nI n) D = some (0, ms (ms (ms (ms X 136 36 (nI n)) 137 3 0) 137 4 0) 136 3 0) ∧ (∀ j : Nat, j < 4 * n → X 153 j = D 153 (32 + j)) ∧ fr [153] D X := by
  obtain ⟨X, a1, a2, a3, a4⟩ := zq_rc (D := D) (F := fun f x M => f_X12_takesOther_7 f (nI n) x M) (K := fun M => pt M 136 36 (nI n) fun M11 => wr M11 137 40 3 0 fun M12 => wr M12 137 40 4 0 fun M14 => pt M14 136 3 0 fun M16 => some (0, M16)) (c := 4 * nI n) (bb := 32) (o := 153) (w := 64) (N := 4 * n) (b := 32) (fun _ _ _ => rfl) (pk_mul 4 n) rfl (by omega) (by decide) (by omega) (4 * n) BG 0 D (by omega) (by unfold BG; omega) (fun j hj => by omega) (fun _ _ => rfl) fr_rf
  refine ⟨X, ?_, a2, a4⟩
  unfold f_X12_takesOther
  rw [if_pos rfl]
  refine Eq.trans a1 ?_
  show (pt X 136 36 (nI n) fun M11 => wr M11 137 40 3 0 fun M12 => wr M12 137 40 4 0 fun M14 => pt M14 136 3 0 fun M16 => some (0, M16)) = _
  simp only [pt]
  rw [wrK (i := 3) (j := 3) (n := 40) rfl (by decide) (by decide), wrK (i := 4) (j := 4) (n := 40) rfl (by decide) (by decide)]
theorem zq_tks2 {n : Nat} (hn : n ≤ 16) : ∃ X, f_X12_takesOther 3 (nI n) D = some (0, ms (ms X 136 38 (nI n)) 136 3 0) ∧ (∀ j : Nat, j < 3 * n → X 154 j = D 154 (48 + j)) ∧ fr [154] D X := by
  obtain ⟨X, a1, a2, a3, a4⟩ := zq_rc (D := D) (F := fun f x M => f_X12_takesOther_59 f (nI n) x M) (K := fun M => pt M 136 38 (nI n) fun M3 => pt M3 136 3 0 fun M4 => some (0, M4)) (c := 3 * nI n) (bb := 48) (o := 154) (w := 96) (N := 3 * n) (b := 48) (fun _ _ _ => rfl) (pk_mul 3 n) rfl (by omega) (by decide) (by omega) (3 * n) BG 0 D (by omega) (by unfold BG; omega) (fun j hj => by omega) (fun _ _ => rfl) fr_rf
  refine ⟨X, ?_, a2, a4⟩
  unfold f_X12_takesOther
  rw [if_neg (by decide)]
  exact Eq.trans a1 rfl
end TAKE
