/-! text: both find the same word -/
section FIND
variable {M : IM} {tx : Nat → Nat} {i e : Nat}
/-- the class's search -/
theorem word_c (h : Tx (M 99) tx) (hie : i ≤ e) (he : e ≤ 400) : f_X6_wordFrom 99 400 (nI i) (nI e) M = some (match wcd tx i e with | some j => nI (10000 + j) | none => 30001, M) := by
  -- to the end of a word
  have scan : ∀ (j : Nat), j < 22 → ∀ (d f t : Nat), t + d = wL j → f_X6_wordFrom_8 99 400 (f + d + 1) (nI i) (nI e) (nI j) (nI (wS j)) (nI (wS j + t)) M = f_X6_wordFrom_43 99 400 (f_X6_wordFrom_8 99 400 f) (nI i) (nI e) (nI j) (nI (wS j)) (nI (wS j + wL j)) M := by
    intro j hj
    obtain ⟨k1, k2, k3, k4, k5, k6, k7⟩ := wk_c j hj
    intro d
    induction d with
    | zero =>
      intro f t ht
      have : t = wL j := by omega
      subst this
      show f_X6_wordFrom_8_b 99 400 (f_X6_wordFrom_8 99 400 f) _ _ _ _ _ M = _
      unfold f_X6_wordFrom_8_b
      rw [cl_s (length_e M), if_neg (nI_nlt (by omega) (by omega)), cl_s (length_e M)]
      by_cases q : j = 21
      · rw [if_pos (nI_le (by have := k6 q; omega) (by omega))]
      · obtain ⟨c1, c2⟩ := k5 (by omega)
        rw [if_neg (nI_ge (by omega) (by omega)), cl_s (charAt_e c2 M), c1, if_pos (show nI 32 = 32 from rfl)]
    | succ d ih =>
      intro f t ht
      obtain ⟨-, c3⟩ := zw_by (wS j + t) (by omega)
      have hne := k7 t (by omega)
      show f_X6_wordFrom_8_b 99 400 (f_X6_wordFrom_8 99 400 (f + (d + 1))) _ _ _ _ _ M = _
      unfold f_X6_wordFrom_8_b
      rw [cl_s (length_e M), if_neg (nI_nlt (by omega) (by omega)), cl_s (length_e M), if_neg (nI_ge (by omega) (by omega)), cl_s (charAt_e (by omega) M), if_neg]
      · simp only [lt]
        rw [nI_1]
        exact ih f (t + 1) (by omega)
      · intro z
        have := congrArg Int32.toInt z
        rw [nI_toInt (by omega), show (32 : Int32).toInt = 32 from rfl] at this
        apply hne
        show zwT.getD (wS j + t) 0 = 32
        omega
  have loop : ∀ (k f j : Nat), j + k = 22 → 104 - wS j < f → f_X6_wordFrom_8 99 400 f (nI i) (nI e) (nI j) (nI (wS j)) (nI (wS j)) M = some (match wcF tx i e k j with | some j => nI (10000 + j) | none => 30001, M) := by
    intro k
    induction k with
    | zero =>
      intro f j hj hf
      obtain ⟨m, rfl⟩ : ∃ m, f = m + 1 := ⟨f - 1, by omega⟩
      have : j = 22 := by omega
      subst this
      have hst : f_X6_wordFrom_8 99 400 (m + 1) (nI i) (nI e) (nI 22) (nI (wS 22)) (nI (wS 22)) M = f_X6_wordFrom_8_b 99 400 (f_X6_wordFrom_8 99 400 m) (nI i) (nI e) (nI 22) (nI (wS 22)) (nI (wS 22)) M := rfl
      rw [hst]
      unfold f_X6_wordFrom_8_b
      rw [cl_s (length_e M), if_pos (by decide)]
      rfl
    | succ k ih =>
      intro f j hj hf
      obtain ⟨k1, k2, k3, k4, k5, k6, k7⟩ := wk_c j (by omega)
      obtain ⟨m, rfl⟩ : ∃ m, f = m + wL j + 1 := ⟨f - wL j - 1, by omega⟩
      have h1 : f_X6_wordFrom_8 99 400 (m + wL j + 1) (nI i) (nI e) (nI j) (nI (wS j)) (nI (wS j)) M = f_X6_wordFrom_43 99 400 (f_X6_wordFrom_8 99 400 m) (nI i) (nI e) (nI j) (nI (wS j)) (nI (wS j + wL j)) M := scan j (by omega) (wL j) m 0 (by omega)
      have nxt := ih m (j + 1) (by omega) (by omega)
      have h73 : f_X6_wordFrom_73 99 400 (f_X6_wordFrom_8 99 400 m) (nI i) (nI e) (nI j) (nI (wS j + wL j)) M = some (match wcF tx i e k (j + 1) with | some j => nI (10000 + j) | none => 30001, M) := by
        unfold f_X6_wordFrom_73
        simp only [lt]
        rw [nI_1, nI_1, ← k1]
        exact nxt
      rw [h1]
      unfold f_X6_wordFrom_43 wcF
      rw [pk_sub (by omega), pk_sub hie, show wS j + wL j - wS j = wL j by omega]
      by_cases q : wL j = e - i
      · have hsm : f_X6_isSame 99 400 (nI i) (nI (wS j)) (nI (e - i)) M = some (if ∀ t : Nat, t < wL j → tx (i + t) = zwT.getD (wS j + t) 0 then 1 else 0, M) := by
          rw [show nI (e - i) = nI (wL j) by rw [q]]
          exact isSame_e h (by omega) k2
        rw [if_pos (by rw [q]), cl_s hsm, h73]
        by_cases q2 : ∀ t : Nat, t < wL j → tx (i + t) = zwT.getD (wS j + t) 0
        · rw [if_pos q2, if_neg (by decide), if_pos (show Wd tx i e j from ⟨q.symm, q2⟩)]
          show some ((10000 : Int32) + nI j, M) = some (nI (10000 + j), M)
          rw [show (10000 : Int32) + nI j = nI (10000 + j) from nI_add 10000 j]
        · rw [if_neg q2, if_pos rfl, if_neg (show ¬ Wd tx i e j from fun z => q2 z.2)]
      · rw [if_neg, if_neg (show ¬ Wd tx i e j from fun z => q z.1.symm), h73]
        intro z
        have := congrArg Int32.toInt z
        rw [nI_toInt (by omega), nI_toInt (by omega)] at this
        omega
  exact loop 22 BG 0 (by omega) (by unfold BG; omega)
/-- the model's search -/
theorem word_m {D : IM} (h : Tx (D 143) tx) (hW : IvWords D) (hie : i ≤ e) (he : e ≤ 400) (hlet : ∀ t : Nat, i ≤ t → t < e → ¬ tx t = 32) : f_X12_wordAt (nI i) (nI e) D = some (match wcd tx i e with | some j => nI (wM j) | none => (-1), D) := by
  have hz : ∀ t : Nat, t < 104 → D 144 t = nI (zmT.getD t 0) ∧ zmT.getD t 0 < 128 := fun t ht => ⟨by rw [hW t ht]; exact (zm_by t ht).1, (zm_by t ht).2⟩
  have nI32 : ∀ c : Nat, c < 1000 → (nI c = 32 ↔ c = 32) := fun c hc => ⟨fun z => by
    have := congrArg Int32.toInt z
    rw [nI_toInt (by omega), show (32 : Int32).toInt = 32 from rfl] at this
    omega, fun z => by rw [z]; rfl⟩
  -- on to the next word
  have skip : ∀ (K : Int32 → Int32 → Int32 → Int32 → IM → IR) (x3 : Int32) (j : Nat), j < 22 → ∀ (d f t : Nat), t + d = wL (wM j) → d < f → f_X12_wordAt_93 K f (nI i) (nI e) x3 (nI (mP j + 1 + t)) D = K (nI i) (nI e) x3 (nI (mP (j + 1))) D := by
    intro K x3 j hj
    obtain ⟨m1, m2, m3, m4, m5, m6, m7⟩ := wk_m j hj
    obtain ⟨-, -, -, k4, -, -, k7⟩ := wk_c (wM j) m1
    intro d
    induction d with
    | zero =>
      intro f t ht hf
      obtain ⟨m, rfl⟩ : ∃ m, f = m + 1 := ⟨f - 1, by omega⟩
      have et : mP j + 1 + t = mP (j + 1) := by omega
      rw [et]
      have hst : f_X12_wordAt_93 K (m + 1) (nI i) (nI e) x3 (nI (mP (j + 1))) D = f_X12_wordAt_93_b K (f_X12_wordAt_93 K m) (nI i) (nI e) x3 (nI (mP (j + 1))) D := rfl
      rw [hst]
      unfold f_X12_wordAt_93_b
      rw [rdK (j := mP (j + 1)) rfl (by omega) (by decide), (hz _ (by omega)).1, m6, if_pos (show nI 32 = 32 from rfl)]
    | succ d ih =>
      intro f t ht hf
      obtain ⟨m, rfl⟩ : ∃ m, f = m + 1 := ⟨f - 1, by omega⟩
      have hst : f_X12_wordAt_93 K (m + 1) (nI i) (nI e) x3 (nI (mP j + 1 + t)) D = f_X12_wordAt_93_b K (f_X12_wordAt_93 K m) (nI i) (nI e) x3 (nI (mP j + 1 + t)) D := rfl
      rw [hst]
      unfold f_X12_wordAt_93_b
      obtain ⟨c1, c2⟩ := hz (mP j + 1 + t) (by omega)
      have c3 := m7 t (by omega)
      have c4 := k7 t (by omega)
      rw [rdK (j := mP j + 1 + t) rfl (by omega) (by decide), c1, if_neg (fun z => c4 (by rw [← c3]; exact (nI32 _ (by omega)).mp z))]
      simp only [lt]
      rw [nI_1]
      exact ih m (t + 1) (by omega) (by omega)
  have comp : ∀ (K : Int32 → Int32 → Int32 → Int32 → IM → IR) (j : Nat), j < 22 → ∀ (d f m : Nat), m + d = e - i → d < f → m ≤ wL (wM j) → (∀ t : Nat, t < m → tx (i + t) = wC (wM j) t) → f_X12_wordAt_19 K f (nI i) (nI e) (nI j) (nI (mP j)) (nI m) D = if Wd tx i e (wM j) then some (nI j, D) else K (nI i) (nI e) (nI j) (nI (mP (j + 1))) D := by
    intro K j hj
    obtain ⟨m1, m2, m3, m4, m5, m6, m7⟩ := wk_m j hj
    obtain ⟨-, -, -, k4, -, -, k7⟩ := wk_c (wM j) m1
    have hskip : f_X12_wordAt_93 K BG (nI i) (nI e) (nI j) (nI (mP j) + 1) D = K (nI i) (nI e) (nI j) (nI (mP (j + 1))) D := by
      rw [nI_1]
      exact skip K (nI j) j hj (wL (wM j)) BG 0 (by omega) (by unfold BG; omega)
    have h60n : ∀ m : Nat, m < e - i → f_X12_wordAt_60 K (nI i) (nI e) (nI j) (nI (mP j)) (nI m) D = K (nI i) (nI e) (nI j) (nI (mP (j + 1))) D := fun m hm => by
      unfold f_X12_wordAt_60
      rw [nI_add, if_neg]
      · simp only [lt]
        exact hskip
      · intro z
        have := congrArg Int32.toInt z
        rw [nI_toInt (by omega), nI_toInt (by omega)] at this
        omega
    intro d
    induction d with
    | zero =>
      intro f m hm hf hml hall
      obtain ⟨x, rfl⟩ : ∃ x, f = x + 1 := ⟨f - 1, by omega⟩
      have hst : f_X12_wordAt_19 K (x + 1) (nI i) (nI e) (nI j) (nI (mP j)) (nI m) D = f_X12_wordAt_19_b K (f_X12_wordAt_19 K x) (nI i) (nI e) (nI j) (nI (mP j)) (nI m) D := rfl
      rw [hst]
      unfold f_X12_wordAt_19_b
      rw [nI_add, if_pos (nI_le (by omega) (by omega))]
      unfold f_X12_wordAt_60
      have em : i + m = e := by omega
      rw [nI_add, if_pos (by rw [em]), nI_1, nI_add, rdK (j := mP j + 1 + m) rfl (by omega) (by decide), (hz _ (by omega)).1]
      by_cases q : m = wL (wM j)
      · rw [q, ← m3, m6, if_pos (show nI 32 = 32 from rfl), if_pos (show Wd tx i e (wM j) from ⟨by omega, fun t ht => hall t (by omega)⟩)]
      · have c3 := m7 m (by omega)
        have c4 := k7 m (by omega)
        rw [c3, if_neg (fun z => c4 ((nI32 _ (by have := (hz (mP j + 1 + m) (by omega)).2; omega)).mp z)), if_neg (show ¬ Wd tx i e (wM j) from fun z => by have := z.1; omega)]
        simp only [lt]
        rw [← nI_1]
        exact hskip
    | succ d ih =>
      intro f m hm hf hml hall
      obtain ⟨x, rfl⟩ : ∃ x, f = x + 1 := ⟨f - 1, by omega⟩
      have hst : f_X12_wordAt_19 K (x + 1) (nI i) (nI e) (nI j) (nI (mP j)) (nI m) D = f_X12_wordAt_19_b K (f_X12_wordAt_19 K x) (nI i) (nI e) (nI j) (nI (mP j)) (nI m) D := rfl
      rw [hst]
      unfold f_X12_wordAt_19_b
      obtain ⟨t1, t2⟩ := h (i + m) (by omega)
      obtain ⟨c1, c2⟩ := hz (mP j + 1 + m) (by omega)
      have hne : ∀ a b : Nat, a < 1000 → b < 1000 → nI a = nI b → a = b := fun a b ha hb z => by
        have := congrArg Int32.toInt z
        rw [nI_toInt (by omega), nI_toInt (by omega)] at this
        omega
      rw [nI_add, if_neg (nI_ge (by omega) (by omega)), nI_1, nI_add, rdK (j := mP j + 1 + m) rfl (by omega) (by decide), rdK (j := i + m) rfl (by omega) (by decide), c1, t1]
      by_cases q : m = wL (wM j)
      · have hx : ¬ zmT.getD (mP j + 1 + m) 0 = tx (i + m) := by
          rw [q, ← m3, m6, ← q]
          exact fun z => hlet (i + m) (by omega) (by omega) z.symm
        rw [if_neg (fun z => hx (hne _ _ (by omega) (by omega) z)), h60n m (by omega), if_neg (show ¬ Wd tx i e (wM j) from fun z => by have := z.1; omega)]
      · have c3 := m7 m (by omega)
        by_cases q2 : tx (i + m) = wC (wM j) m
        · rw [if_pos (by rw [c3, q2])]
          simp only [lt]
          rw [nI_1]
          refine ih x (m + 1) (by omega) (by omega) (by omega) (fun t ht => ?_)
          by_cases et : t = m
          · subst et; exact q2
          · exact hall t (by omega)
        · rw [if_neg (fun z => q2 (by rw [← c3]; exact (hne _ _ (by omega) (by omega) z).symm)), h60n m (by omega), if_neg (show ¬ Wd tx i e (wM j) from fun z => q2 (z.2 m (by omega)))]
  have loop : ∀ (k f j : Nat), j + k = 22 → k < f → (∀ v : Nat, v < j → ¬ Wd tx i e (wM v)) → f_X12_wordAt_5 f (nI i) (nI e) (nI j - 1) (nI (mP j)) D = some (match wcd tx i e with | some j => nI (wM j) | none => (-1), D) := by
    intro k
    induction k with
    | zero =>
      intro f j hj hf hall
      obtain ⟨x, rfl⟩ : ∃ x, f = x + 1 := ⟨f - 1, by omega⟩
      have : j = 22 := by omega
      subst this
      have hst : f_X12_wordAt_5 (x + 1) (nI i) (nI e) (nI 22 - 1) (nI (mP 22)) D = f_X12_wordAt_5_b (f_X12_wordAt_5 x) (nI i) (nI e) (nI 22 - 1) (nI (mP 22)) D := rfl
      rw [hst]
      unfold f_X12_wordAt_5_b
      rw [if_pos (by decide)]
      cases hw : wcd tx i e with
      | none => rfl
      | some w =>
        obtain ⟨-, w2, w3⟩ := wcF_some 22 0 hw
        obtain ⟨m1, m2, -⟩ := wk_m w (by omega)
        exact absurd w3 (by have := hall (wM w) m1; rw [m2] at this; exact this)
    | succ k ih =>
      intro f j hj hf hall
      obtain ⟨x, rfl⟩ : ∃ x, f = x + 1 := ⟨f - 1, by omega⟩
      obtain ⟨m1, m2, m3, m4, m5, m6, m7⟩ := wk_m j (by omega)
      have hst : f_X12_wordAt_5 (x + 1) (nI i) (nI e) (nI j - 1) (nI (mP j)) D = f_X12_wordAt_5_b (f_X12_wordAt_5 x) (nI i) (nI e) (nI j - 1) (nI (mP j)) D := rfl
      rw [hst]
      unfold f_X12_wordAt_5_b
      rw [if_neg (show ¬ (103 : Int32) ≤ nI (mP j) from nI_ge (b := 103) m4 (by decide))]
      simp only [lt]
      rw [Int32.sub_add_cancel]
      have hc : f_X12_wordAt_19 (f_X12_wordAt_5 x) BG (nI i) (nI e) (nI j) (nI (mP j)) 0 D = if Wd tx i e (wM j) then some (nI j, D) else f_X12_wordAt_5 x (nI i) (nI e) (nI j) (nI (mP (j + 1))) D := comp (f_X12_wordAt_5 x) j (by omega) (e - i) BG 0 (by omega) (by unfold BG; omega) (by omega) (fun t ht => by omega)
      rw [hc]
      by_cases q : Wd tx i e (wM j)
      · rw [if_pos q]
        cases hw : wcd tx i e with
        | none => exact absurd q (wcF_none 22 0 hw (wM j) (by omega) (by omega))
        | some w =>
          obtain ⟨-, w2, w3⟩ := wcF_some 22 0 hw
          have := wd_one (by omega) m1 w3 q
          show some (nI j, D) = some (nI (wM w), D)
          rw [this, m2]
      · rw [if_neg q]
        have h2 := ih x (j + 1) (by omega) (by omega) (fun v hv => by
          by_cases ev : v = j
          · subst ev; exact q
          · exact hall v (by omega))
        rw [nI_pred] at h2
        exact h2
  exact loop 22 BG 0 (by omega) (by unfold BG; omega) (fun v hv => by omega)
end FIND
