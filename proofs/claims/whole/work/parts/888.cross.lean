/-! crossed, owes -/
def sm (c : Nat → Nat) : Nat → Nat
  | 0 => 0
  | n + 1 => sm c n + c n
theorem sm_le {c : Nat → Nat} : ∀ {n j : Nat}, j < n → c j ≤ sm c n
  | n + 1, j, h => by
    show c j ≤ sm c n + c n
    by_cases e : j = n
    · subst e; omega
    · have := sm_le (c := c) (n := n) (j := j) (by omega); omega
theorem sm_congr {c d : Nat → Nat} : ∀ {n : Nat}, (∀ i : Nat, i < n → d i = c i) → sm d n = sm c n
  | 0, _ => rfl
  | n + 1, h => by
    show sm d n + d n = sm c n + c n
    rw [sm_congr (fun i hi => h i (by omega)), h n (by omega)]
theorem sm_upd {c : Nat → Nat} {j v : Nat} : ∀ {n : Nat}, j < n → sm (fun i => if i = j then v else c i) n + c j = sm c n + v
  | n + 1, h => by
    show sm (fun i => if i = j then v else c i) n + (if n = j then v else c n) + c j = sm c n + c n + v
    by_cases e : j = n
    · subst e
      rw [if_pos rfl, sm_congr (c := c) (d := fun i => if i = j then v else c i) (fun i hi => if_neg (by omega))]
      omega
    · rw [if_neg (by omega)]
      have := sm_upd (c := c) (j := j) (v := v) (n := n) (by omega)
      omega
/-- one hour at the river, from the stage j down -/
def cst (a : Nat) (c : Nat → Nat) (j : Nat) : Nat → Nat := fun i => if i = j + 1 then c (j + 1) + c j * a / 1000 else if i = j then c j - c j * a / 1000 else c i
def cin (a : Nat) : Nat → (Nat → Nat) → Nat → Nat
  | 0, c => c
  | j + 1, c => cin a j (cst a c j)
def cou (a r : Nat) : Nat → (Nat → Nat) → Nat → Nat
  | 0, c => c
  | t + 1, c => cou a r t (cin a r c)
theorem cst_sm {a r j : Nat} {c : Nat → Nat} (ha : a ≤ 1000) (hj : j < r) : sm (cst a c j) (r + 1) = sm c (r + 1) := by
  have h1 : c j * a / 1000 ≤ c j := by
    have : c j * a ≤ c j * 1000 := Nat.mul_le_mul_left _ ha
    omega
  have e1 := sm_upd (c := c) (j := j) (v := c j - c j * a / 1000) (n := r + 1) (by omega)
  have e2 := sm_upd (c := fun i => if i = j then c j - c j * a / 1000 else c i) (j := j + 1) (v := c (j + 1) + c j * a / 1000) (n := r + 1) (by omega)
  rw [if_neg (by omega)] at e2
  have e3 : sm (cst a c j) (r + 1) = sm (fun i => if i = j + 1 then c (j + 1) + c j * a / 1000 else if i = j then c j - c j * a / 1000 else c i) (r + 1) := sm_congr (fun i _ => rfl)
  omega
theorem cin_sm {a r : Nat} (ha : a ≤ 1000) : ∀ (j : Nat) (c : Nat → Nat), j ≤ r → sm (cin a j c) (r + 1) = sm c (r + 1)
  | 0, c, _ => rfl
  | j + 1, c, h => by
    show sm (cin a j (cst a c j)) (r + 1) = _
    rw [cin_sm ha j _ (by omega), cst_sm ha (by omega)]
theorem i64_on {x a : Nat} (hx : x ≤ 1000000) (ha : a ≤ 1000) : Int64.toInt32 (((Int32.toInt64 (nI x)) * (Int32.toInt64 (nI a))) / 1000) = nI (x * a / 1000) := by
  have hb : x * a ≤ 1000000 * 1000 := Nat.mul_le_mul hx ha
  rw [nI_l (by omega), nI_l (by omega), lN_mul, show (1000 : Int64) = lN 1000 from rfl, pk_lDiv (by omega) (by decide) (by decide), lN_i]
theorem i32_on {x a : Nat} (hx : x ≤ 1000000) (ha : a ≤ 1000) : nI x * nI a / 1000 = nI (x * a / 1000) := by
  have hb : x * a ≤ 1000000 * 1000 := Nat.mul_le_mul hx ha
  rw [pk_mul, show (1000 : Int32) = nI 1000 from rfl, pk_div (by omega) (by decide) (by decide)]
theorem in_c {K : Int32 → Int32 → Int32 → IM → IR} {r fl : Nat} {x1 x2 x3 : Int32} (hr : r ≤ 12) (hf : fl ≤ 1000) : ∀ (j n : Nat) (M : IM) (c : Nat → Nat), j ≤ r → j < n → (∀ i : Nat, i ≤ r → M 134 i = nI (c i)) → sm c (r + 1) = 1000000 → M 6 1 = nI fl → ∃ M', f_X11_crossed_51 K n x1 x2 x3 (nI j - 1) M = K x1 x2 (x3 + 1) M' ∧ (∀ i : Nat, i ≤ r → M' 134 i = nI (cin (1000 - fl) j c i)) ∧ fr [134] M M' := by
  intro j
  induction j with
  | zero =>
    intro n M c _ hn hM _ _
    obtain ⟨m, rfl⟩ : ∃ m, n = m + 1 := ⟨n - 1, by omega⟩
    refine ⟨M, ?_, hM, fr_rf⟩
    show f_X11_crossed_51_b K (f_X11_crossed_51 K m) x1 x2 x3 (nI 0 - 1) M = _
    unfold f_X11_crossed_51_b
    rw [if_pos (by decide)]
    rfl
  | succ j ih =>
    intro n M c hj hn hM hs h6
    obtain ⟨m, rfl⟩ : ∃ m, n = m + 1 := ⟨n - 1, by omega⟩
    have hc : c j ≤ 1000000 := by rw [← hs]; exact sm_le (by omega)
    have hle : c j * (1000 - fl) / 1000 ≤ c j := by
      have : c j * (1000 - fl) ≤ c j * 1000 := Nat.mul_le_mul_left _ (by omega)
      omega
    have e1 : (1000 : Int32) - nI fl = nI (1000 - fl) := pk_sub (a := 1000) hf
    have hrow : ∀ i : Nat, i ≤ r → (ms (ms M 134 j (nI (c j - c j * (1000 - fl) / 1000))) 134 (j + 1) (nI (c (j + 1) + c j * (1000 - fl) / 1000))) 134 i = nI (cst (1000 - fl) c j i) := fun i hi => by
      rw [ms_ro, ms_ro]
      unfold cst
      by_cases h1 : i = j + 1
      · subst h1; rw [upd_s, if_pos rfl]
      · rw [upd_n h1, if_neg h1]
        by_cases h2 : i = j
        · subst h2; rw [upd_s, if_pos rfl]
        · rw [upd_n h2, if_neg h2]; exact hM i hi
    obtain ⟨M', g1, g2, g3⟩ := ih m (ms (ms M 134 j (nI (c j - c j * (1000 - fl) / 1000))) 134 (j + 1) (nI (c (j + 1) + c j * (1000 - fl) / 1000))) (cst (1000 - fl) c j) (by omega) (by omega) hrow (by rw [cst_sm (by omega) (by omega)]; exact hs) (by rw [ms_ne (by decide), ms_ne (by decide)]; exact h6)
    · refine ⟨M', ?_, g2, fr_tr (fr_ms (fr_ms fr_rf (by simp)) (by simp)) g3⟩
      rw [← g1]
      show f_X11_crossed_51_b K (f_X11_crossed_51 K m) x1 x2 x3 (nI (j + 1) - 1) M = _
      unfold f_X11_crossed_51_b
      rw [nI_pred, if_neg (nI_pos (by omega)), rdK (j := j) rfl (by omega) (by decide), hM j (by omega), h6, e1, i32_on hc (by omega)]
      simp only [lt]
      rw [rdK (j := j) rfl (by omega) (by decide), wrK (j := j) rfl (by omega) (by decide), hM j (by omega), pk_sub hle, rdK (j := j + 1) (nI_1 j) (by omega) (by decide), wrK (j := j + 1) (nI_1 j) (by omega) (by decide), ms_at (by omega), hM (j + 1) (by omega), nI_add, Int32.sub_eq_add_neg]
theorem in_m {K : Int32 → Int32 → Int32 → IM → IR} {r fl : Nat} {x1 x2 x3 : Int32} (hr : r ≤ 12) (hf : fl ≤ 1000) : ∀ (j n : Nat) (M : IM) (c : Nat → Nat), j ≤ r → j < n → (∀ i : Nat, i ≤ r → M 162 i = nI (c i)) → sm c (r + 1) = 1000000 → M 136 9 = nI fl → ∃ M', f_X12_crossed_71 K n x1 x2 x3 (nI j - 1) M = K x1 x2 (x3 + 1) M' ∧ (∀ i : Nat, i ≤ r → M' 162 i = nI (cin (1000 - fl) j c i)) ∧ fr [162] M M' := by
  intro j
  induction j with
  | zero =>
    intro n M c _ hn hM _ _
    obtain ⟨m, rfl⟩ : ∃ m, n = m + 1 := ⟨n - 1, by omega⟩
    refine ⟨M, ?_, hM, fr_rf⟩
    show f_X12_crossed_71_b K (f_X12_crossed_71 K m) x1 x2 x3 (nI 0 - 1) M = _
    unfold f_X12_crossed_71_b
    rw [if_pos (by decide)]
    rfl
  | succ j ih =>
    intro n M c hj hn hM hs h6
    obtain ⟨m, rfl⟩ : ∃ m, n = m + 1 := ⟨n - 1, by omega⟩
    have hc : c j ≤ 1000000 := by rw [← hs]; exact sm_le (by omega)
    have hle : c j * (1000 - fl) / 1000 ≤ c j := by
      have : c j * (1000 - fl) ≤ c j * 1000 := Nat.mul_le_mul_left _ (by omega)
      omega
    have e1 : (1000 : Int32) - nI fl = nI (1000 - fl) := pk_sub (a := 1000) hf
    have hrow : ∀ i : Nat, i ≤ r → (ms (ms M 162 j (nI (c j - c j * (1000 - fl) / 1000))) 162 (j + 1) (nI (c (j + 1) + c j * (1000 - fl) / 1000))) 162 i = nI (cst (1000 - fl) c j i) := fun i hi => by
      rw [ms_ro, ms_ro]
      unfold cst
      by_cases h1 : i = j + 1
      · subst h1; rw [upd_s, if_pos rfl]
      · rw [upd_n h1, if_neg h1]
        by_cases h2 : i = j
        · subst h2; rw [upd_s, if_pos rfl]
        · rw [upd_n h2, if_neg h2]; exact hM i hi
    obtain ⟨M', g1, g2, g3⟩ := ih m (ms (ms M 162 j (nI (c j - c j * (1000 - fl) / 1000))) 162 (j + 1) (nI (c (j + 1) + c j * (1000 - fl) / 1000))) (cst (1000 - fl) c j) (by omega) (by omega) hrow (by rw [cst_sm (by omega) (by omega)]; exact hs) (by rw [ms_ne (by decide), ms_ne (by decide)]; exact h6)
    · refine ⟨M', ?_, g2, fr_tr (fr_ms (fr_ms fr_rf (by simp)) (by simp)) g3⟩
      rw [← g1]
      show f_X12_crossed_71_b K (f_X12_crossed_71 K m) x1 x2 x3 (nI (j + 1) - 1) M = _
      unfold f_X12_crossed_71_b
      rw [nI_pred, if_neg (nI_pos (by omega)), rdK (j := j) rfl (by omega) (by decide), hM j (by omega), h6, e1, i64_on hc (by omega)]
      simp only [lt]
      rw [rdK (j := j) rfl (by omega) (by decide), wrK (j := j) rfl (by omega) (by decide), hM j (by omega), pk_sub hle, rdK (j := j + 1) (nI_1 j) (by omega) (by decide), wrK (j := j + 1) (nI_1 j) (by omega) (by decide), ms_at (by omega), hM (j + 1) (by omega), nI_add, Int32.sub_eq_add_neg]
theorem out_c {r fl t : Nat} (hr : r ≤ 12) (hf : fl ≤ 1000) (ht : t ≤ 30) : ∀ (k n i : Nat) (M : IM) (c : Nat → Nat), i + k = t → k < n → (∀ i : Nat, i ≤ r → M 134 i = nI (c i)) → sm c (r + 1) = 1000000 → M 6 1 = nI fl → Ok (f_X11_crossed_41 n (nI r) (nI t) (nI i) M) (fun v M1 => v = nI (cou (1000 - fl) r k c r) ∧ fr [134] M M1) := by
  intro k
  induction k with
  | zero =>
    intro n i M c hi hn hM hs h6
    obtain ⟨m, rfl⟩ : ∃ m, n = m + 1 := ⟨n - 1, by omega⟩
    show Ok (f_X11_crossed_41_b (f_X11_crossed_41 m) (nI r) (nI t) (nI i) M) _
    unfold f_X11_crossed_41_b
    exact ok_t (nI_le (by omega) (by omega)) (ok_rv r _ rfl (by omega) (by decide) (hM r (Nat.le_refl _)) (ok_s ⟨rfl, fr_rf⟩))
  | succ k ih =>
    intro n i M c hi hn hM hs h6
    obtain ⟨m, rfl⟩ : ∃ m, n = m + 1 := ⟨n - 1, by omega⟩
    show Ok (f_X11_crossed_41_b (f_X11_crossed_41 m) (nI r) (nI t) (nI i) M) _
    unfold f_X11_crossed_41_b
    obtain ⟨M', g1, g2, g3⟩ := in_c (K := f_X11_crossed_41 m) (x1 := nI r) (x2 := nI t) (x3 := nI i) hr hf r BG M c (Nat.le_refl _) (by unfold BG; omega) hM hs h6
    refine ok_f (nI_ge (by omega) (by omega)) (ok_lt ?_)
    rw [g1, nI_1]
    exact ok_mono (ih m (i + 1) M' (cin (1000 - fl) r c) (by omega) (by omega) g2 (by rw [cin_sm (by omega) r c (Nat.le_refl _)]; exact hs) (by rw [g3 6 (by decide)]; exact h6)) (fun v M2 h => ⟨h.1, fr_tr g3 h.2⟩)
theorem out_m {r fl t : Nat} (hr : r ≤ 12) (hf : fl ≤ 1000) (ht : t ≤ 30) : ∀ (k n i : Nat) (M : IM) (c : Nat → Nat), i + k = t → k < n → (∀ i : Nat, i ≤ r → M 162 i = nI (c i)) → sm c (r + 1) = 1000000 → M 136 9 = nI fl → Ok (f_X12_crossed_61 n (nI r) (nI t) (nI i) M) (fun v M1 => v = nI (cou (1000 - fl) r k c r) ∧ fr [162] M M1) := by
  intro k
  induction k with
  | zero =>
    intro n i M c hi hn hM hs h6
    obtain ⟨m, rfl⟩ : ∃ m, n = m + 1 := ⟨n - 1, by omega⟩
    show Ok (f_X12_crossed_61_b (f_X12_crossed_61 m) (nI r) (nI t) (nI i) M) _
    unfold f_X12_crossed_61_b
    exact ok_t (nI_le (by omega) (by omega)) (ok_rv r _ rfl (by omega) (by decide) (hM r (Nat.le_refl _)) (ok_s ⟨rfl, fr_rf⟩))
  | succ k ih =>
    intro n i M c hi hn hM hs h6
    obtain ⟨m, rfl⟩ : ∃ m, n = m + 1 := ⟨n - 1, by omega⟩
    show Ok (f_X12_crossed_61_b (f_X12_crossed_61 m) (nI r) (nI t) (nI i) M) _
    unfold f_X12_crossed_61_b
    obtain ⟨M', g1, g2, g3⟩ := in_m (K := f_X12_crossed_61 m) (x1 := nI r) (x2 := nI t) (x3 := nI i) hr hf r BG M c (Nat.le_refl _) (by unfold BG; omega) hM hs h6
    refine ok_f (nI_ge (by omega) (by omega)) (ok_lt ?_)
    rw [g1, nI_1]
    exact ok_mono (ih m (i + 1) M' (cin (1000 - fl) r c) (by omega) (by omega) g2 (by rw [cin_sm (by omega) r c (Nat.le_refl _)]; exact hs) (by rw [g3 136 (by decide)]; exact h6)) (fun v M2 h => ⟨h.1, fr_tr g3 h.2⟩)
/-- Arrays.fill -/
theorem fill_e {o n : Nat} {v : Int32} (hn : n < 100000) (M : IM) : ∃ M', f_J7_fill_53178 o n v M = some (0, M') ∧ (∀ i : Nat, i < n → M' o i = v) ∧ fr [o] M M' := by
  have hB : n < BG + 100000 := by unfold BG; omega
  have loop : ∀ (k f i : Nat) (X : IM), i + k = n → k < f → ∃ M', f_J7_fill_53178_5 o n f v (nI i) (nI n) X = some (0, M') ∧ (∀ j : Nat, i ≤ j → j < n → M' o j = v) ∧ (∀ j : Nat, j < i → M' o j = X o j) ∧ fr [o] X M' := by
    intro k
    induction k with
    | zero =>
      intro f i X hi hf
      obtain ⟨m, rfl⟩ : ∃ m, f = m + 1 := ⟨f - 1, by omega⟩
      refine ⟨X, ?_, fun j h1 h2 => by omega, fun _ _ => rfl, fr_rf⟩
      show f_J7_fill_53178_5_b o n (f_J7_fill_53178_5 o n m) v (nI i) (nI n) X = _
      unfold f_J7_fill_53178_5_b
      rw [if_pos (nI_le (by omega) (by omega))]
    | succ k ih =>
      intro f i X hi hf
      obtain ⟨m, rfl⟩ : ∃ m, f = m + 1 := ⟨f - 1, by omega⟩
      obtain ⟨M', g1, g2, g3, g4⟩ := ih m (i + 1) (ms X o i v) (by omega) (by omega)
      refine ⟨M', ?_, fun j h1 h2 => ?_, fun j h1 => ?_, fr_tr (fr_ms fr_rf (by simp)) g4⟩
      · show f_J7_fill_53178_5_b o n (f_J7_fill_53178_5 o n m) v (nI i) (nI n) X = _
        unfold f_J7_fill_53178_5_b
        rw [if_neg (nI_ge (by omega) (by omega)), wrK (j := i) rfl (by omega) (by omega)]
        simp only [lt]
        rw [nI_1]
        exact g1
      · by_cases e : j = i
        · subst e; rw [g3 j (by omega), ms_it]
        · exact g2 j (by omega) h2
      · rw [g3 j (by omega), ms_at (by omega)]
  by_cases hb : n < BG
  · obtain ⟨M', g1, g2, -, g4⟩ := loop n BG 0 M (by omega) hb
    exact ⟨M', g1, fun i hi => g2 i (by omega) hi, g4⟩
  · exfalso
    unfold BG at hb
    omega
def c0 (i : Nat) : Nat := if i = 0 then 1000000 else 0
theorem c0_sm : ∀ r : Nat, sm c0 (r + 1) = 1000000
  | 0 => rfl
  | r + 1 => by
    show sm c0 (r + 1) + c0 (r + 1) = _
    rw [c0_sm r]
    rfl
theorem st_crossed (p q : Int32) : Stp2 Inv (f_X11_crossed p q) (f_X12_crossed p q) := by
  refine stp_d rfl ?_
  intro M l0 l1 hI hR
  by_cases hp : p < 1 ∨ 12 < p
  · refine ⟨-1, ?_, fun D hs hD => ?_⟩
    · unfold f_X11_crossed
      exact ok_c (win_c _ _ _ M) (ok_t (i0 hp) ok_v)
    · exact ok_c (win_m _ _ _ D) (ok_t (i0 hp) ok_v)
  by_cases hq : q < 0 ∨ 30 < q
  · refine ⟨-1, ?_, fun D hs hD => ?_⟩
    · unfold f_X11_crossed
      exact ok_c (win_c _ _ _ M) (ok_f (i1 hp) (ok_c (win_c _ _ _ M) (ok_t (i0 hq) ok_v)))
    · exact ok_c (win_m _ _ _ D) (ok_f (i1 hp) (ok_c (win_m _ _ _ D) (ok_t (i0 hq) ok_v)))
  have hb : bnd p 1 12 := bnd_of hp (by decide) (by decide)
  obtain ⟨r, hr, er⟩ := bnd_nI (x := p) (n := 12) ⟨by have := hb.1; omega, hb.2⟩ (by decide)
  have hq' := hq
  obtain ⟨t, ht, et⟩ := in_to (n := 30) (by decide) hq
  obtain ⟨fl, hfl, efl⟩ := bnd_nI (n := 1000) hR.2.1.2.2.2.2.2.2.1 (by decide)
  refine ⟨nI (cou (1000 - fl) r t c0 r), ?_, fun D hs hD => ?_⟩
  · unfold f_X11_crossed
    obtain ⟨M1, g1, g2, g3⟩ := fill_e (o := 134) (n := 13) (v := 0) (by decide) M
    refine ok_c (win_c _ _ _ M) (ok_f (i1 hp) (ok_c (win_c _ _ _ M) (ok_f (i1 hq') (ok_c g1 (ok_wr 0 rfl (by decide) (by decide) ?_)))))
    rw [er, et]
    refine ok_mono (out_c hr hfl ht t BG 0 _ c0 (by omega) (by unfold BG; omega) (fun i hi => ?_) (c0_sm r) (by rw [ms_ne (by decide), g3 6 (by decide)]; exact efl)) (fun v M2 h => ⟨h.1, same_fr (R := [134]) (fr_tr (fr_ms g3 (by simp)) h.2) (by decide)⟩)
    rw [ms_ro]
    by_cases h : i = 0
    · subst h; rw [upd_s]; rfl
    · rw [upd_n h, g2 i (by omega)]
      unfold c0
      rw [if_neg h]
      rfl
  · have init : ∀ (k n i : Nat) (X : IM), i + k = r + 1 → k < n → (∀ j : Nat, j < i → X 162 j = nI (c0 j)) → fr [162] D X → Ok (f_X12_crossed_31 n (nI r) (nI t) (nI i) X) (fun v M1 => v = nI (cou (1000 - fl) r t c0 r) ∧ same D M1) := by
      intro k
      induction k with
      | zero =>
        intro n i X hi hn hX hf
        obtain ⟨m, rfl⟩ : ∃ m, n = m + 1 := ⟨n - 1, by omega⟩
        show Ok (f_X12_crossed_31_b (f_X12_crossed_31 m) (nI r) (nI t) (nI i) X) _
        unfold f_X12_crossed_31_b
        refine ok_t (nI_lt (by omega) (by omega)) ?_
        exact ok_mono (out_m hr hfl ht t BG 0 X c0 (by omega) (by unfold BG; omega) (fun i hi => hX i (by omega)) (c0_sm r) (by rw [hf 136 (by decide), hD.2.1.2.2.2.1]; exact efl)) (fun v M2 h => ⟨h.1, same_fr (R := [162]) (fr_tr hf h.2) (by decide)⟩)
      | succ k ih =>
        intro n i X hi hn hX hf
        obtain ⟨m, rfl⟩ : ∃ m, n = m + 1 := ⟨n - 1, by omega⟩
        show Ok (f_X12_crossed_31_b (f_X12_crossed_31 m) (nI r) (nI t) (nI i) X) _
        unfold f_X12_crossed_31_b
        refine ok_f (nI_nlt (by omega) (by omega)) ?_
        have nxt : ∀ v : Int32, v = nI (c0 i) → Ok (f_X12_crossed_31 m (nI r) (nI t) (nI i + 1) (ms X 162 i v)) (fun v M1 => v = nI (cou (1000 - fl) r t c0 r) ∧ same D M1) := by
          rintro v rfl
          rw [nI_1]
          refine ih m (i + 1) _ (by omega) (by omega) (fun j hj => ?_) (fr_ms hf (by simp))
          rw [ms_ro]
          by_cases h : j = i
          · subst h; rw [upd_s]
          · rw [upd_n h]; exact hX j (by omega)
        by_cases h0 : i = 0
        · subst h0
          exact ok_t rfl (ok_wr 0 rfl (by decide) (by decide) (ok_lt (nxt _ rfl)))
        · refine ok_f (nI_ne0 (by omega) (by omega)) (ok_wr i rfl (by omega) (by decide) (ok_lt (nxt _ ?_)))
          unfold c0
          rw [if_neg h0]
          rfl
    refine ok_c (win_m _ _ _ D) (ok_f (i1 hp) (ok_c (win_m _ _ _ D) (ok_f (i1 hq') ?_)))
    rw [er, et]
    exact init (r + 1) BG 0 D (by omega) (by unfold BG; omega) (fun j hj => by omega) fr_rf
/-- how many of the first n are of the parish p -/
def ctP (f : Nat → Int32) (p : Int32) : Nat → Nat
  | 0 => 0
  | n + 1 => if f n = p then ctP f p n + 1 else ctP f p n
theorem walkersOf_c {C D : IM} {l0 l1 : List LLn} {p : Int32} {n : Nat} (hn : n ≤ 10) (en : C 1 10 = nI n) : f_X4_walkersOf 1 p C = some (nI (ctP (C 2) p n), C) := by
  have loop : ∀ f i : Nat, i ≤ n → n - i < f → f_X4_walkersOf_4 1 f p (nI (ctP (C 2) p i)) (nI i) C = some (nI (ctP (C 2) p n), C) := by
    intro f
    induction f with
    | zero => intro i _ h; omega
    | succ f ih =>
      intro i hi hf
      show f_X4_walkersOf_4_b 1 (f_X4_walkersOf_4 1 f) _ _ _ C = _
      unfold f_X4_walkersOf_4_b
      rw [en]
      by_cases e : i = n
      · subst e; rw [if_pos (nI_le (Nat.le_refl _) (by omega))]
      · rw [if_neg (nI_ge (by omega) (by omega)), rdK (j := i) rfl (by omega) (by decide)]
        simp only [lt]
        have h1 := ih (i + 1) (by omega) (by omega)
        have e1 : ctP (C 2) p (i + 1) = if C 2 i = p then ctP (C 2) p i + 1 else ctP (C 2) p i := rfl
        by_cases hp : C (1 + 1) i = p
        · rw [if_pos hp, nI_1, nI_1]
          rwa [e1, if_pos (show C 2 i = p from hp)] at h1
        · rw [if_neg hp, nI_1]
          rwa [e1, if_neg (show ¬ C 2 i = p from hp)] at h1
  exact loop BG 0 (by omega) (by unfold BG; omega)
theorem manyOf_m {C D : IM} {l0 l1 : List LLn} {p : Int32} {n : Nat} (h : RC C D 1 l0 l1) (hn : n ≤ 10) (en : C 1 10 = nI n) : f_X12_manyOf p D = some (nI (ctP (C 2) p n), D) := by
  have aw := h.1.1.2.2.2.2.2.2.2.2.2.2
  have loop : ∀ f i : Nat, i ≤ n → n - i < f → f_X12_manyOf_4 f p (nI (ctP (C 2) p i)) (nI i) D = some (nI (ctP (C 2) p n), D) := by
    intro f
    induction f with
    | zero => intro i _ h; omega
    | succ f ih =>
      intro i hi hf
      show f_X12_manyOf_4_b (f_X12_manyOf_4 f) _ _ _ D = _
      unfold f_X12_manyOf_4_b
      rw [h.1.2.2.2.1, en]
      by_cases e : i = n
      · subst e; rw [if_pos (nI_le (Nat.le_refl _) (by omega))]
      · rw [if_neg (nI_ge (by omega) (by omega)), rdK (i := 30 + nI i) (j := 30 + i) (nI_add 30 i) (by omega) (by decide), (aw i (by omega)).2.2]
        simp only [lt]
        have h1 := ih (i + 1) (by omega) (by omega)
        have e1 : ctP (C 2) p (i + 1) = if C 2 i = p then ctP (C 2) p i + 1 else ctP (C 2) p i := rfl
        by_cases hp : C (1 + 1) i = p
        · rw [if_pos hp, nI_1, nI_1]
          rwa [e1, if_pos (show C 2 i = p from hp)] at h1
        · rw [if_neg hp, nI_1]
          rwa [e1, if_neg (show ¬ C 2 i = p from hp)] at h1
  exact loop BG 0 (by omega) (by unfold BG; omega)
def rmI (x y : Int32) : Int32 := x - x / y * y
/-- what is left, how many stand ahead, by the first p parishes -/
def owS (g : Nat → Int32) (s a : Int32) (pp : Nat) : Nat → Int32 × Int32
  | 0 => (s, 0)
  | p + 1 => ((owS g s a pp p).1 - g p / a, if rmI (g pp) a < rmI (g p) a ∨ (rmI (g p) a = rmI (g pp) a ∧ p < pp) then (owS g s a pp p).2 + 1 else (owS g s a pp p).2)
theorem st_owes (p q : Int32) : Stp2 Inv (f_X11_owes p q) (f_X12_owes p q) := by
  refine stp_d rfl ?_
  intro M l0 l1 hI hR
  by_cases hp : p < 0 ∨ 8 ≤ p
  · refine ⟨-1, ?_, fun D hs hD => ?_⟩
    · unfold f_X11_owes
      exact ok_c (par_c p M) (ok_t (i0 hp) ok_v)
    · exact ok_c (par_m p D) (ok_t (i0 hp) ok_v)
  by_cases hq : q < 0 ∨ 99999 < q
  · refine ⟨-1, ?_, fun D hs hD => ?_⟩
    · unfold f_X11_owes
      exact ok_c (par_c p M) (ok_f (i1 hp) (ok_c (win_c _ _ _ M) (ok_t (i0 hq) ok_v)))
    · exact ok_c (par_m p D) (ok_f (i1 hp) (ok_c (win_m _ _ _ D) (ok_t (i0 hq) ok_v)))
  obtain ⟨n, hn, en, -, ecn⟩ := walk_n hR
  by_cases h0 : n = 0
  · subst h0
    refine ⟨0, ?_, fun D hs hD => ?_⟩
    · unfold f_X11_owes
      refine ok_c (par_c p M) (ok_f (i1 hp) (ok_c (win_c _ _ _ M) (ok_f (i1 hq) (ok_lt ?_))))
      rw [en]
      exact ok_f (by decide) ok_v
    · refine ok_c (par_m p D) (ok_f (i1 hp) (ok_c (win_m _ _ _ D) (ok_f (i1 hq) ?_)))
      rw [hD.1.2.2.2.1, en]
      exact ok_t (by decide) ok_v
  have hne : ¬ nI n = 0 := nI_ne0 (by omega) (by omega)
  have hp' := hp
  obtain ⟨pp, hpp, rfl⟩ := in8 hp
  let g : Nat → Int32 := fun i => q * nI (ctP (M 2) (nI i) n)
  let S : Nat → Int32 × Int32 := owS g q (nI n) pp
  have e1 : ∀ i : Nat, S (i + 1) = ((S i).1 - g i / nI n, if rmI (g pp) (nI n) < rmI (g i) (nI n) ∨ (rmI (g i) (nI n) = rmI (g pp) (nI n) ∧ i < pp) then (S i).2 + 1 else (S i).2) := fun _ => rfl
  refine ⟨if (S 8).1 ≤ (S 8).2 then g pp / nI n + 0 else g pp / nI n + 1, ?_, fun D hs hD => ?_⟩
  · unfold f_X11_owes
    refine ok_c (par_c _ M) (ok_f (i1 hp') (ok_c (win_c _ _ _ M) (ok_f (i1 hq) (ok_lt ?_))))
    rw [en]
    refine ok_t (nI_lt (a := 0) (by omega) (by omega)) (ok_c (walkersOf_c (D := M) (l0 := l0) (l1 := l1) hn en) (ok_lt ?_))
    have loop : ∀ f i : Nat, i ≤ 8 → 8 - i < f → Ok (f_X11_owes_55 f (nI pp) q (nI n) (g pp) (S i).1 (S i).2 (nI i) M) (fun r M1 => r = (if (S 8).1 ≤ (S 8).2 then g pp / nI n + 0 else g pp / nI n + 1) ∧ same M M1) := by
      intro f
      induction f with
      | zero => intro i _ h; omega
      | succ f ih =>
        intro i hi hf
        show Ok (f_X11_owes_55_b (f_X11_owes_55 f) _ _ _ _ _ _ (nI i) M) _
        unfold f_X11_owes_55_b
        by_cases e : i = 8
        · subst e
          exact ok_t (by decide) (ok_dv hne (ok_if (fun h => ok_s ⟨by rw [if_pos h], same_rf⟩) (fun h => ok_s ⟨by rw [if_neg h], same_rf⟩)))
        · refine ok_f (nI_ge (b := 8) (by omega) (by decide)) (ok_c (walkersOf_c (D := M) (l0 := l0) (l1 := l1) hn en) (ok_lt (ok_dv hne (ok_lt (ok_dv hne (ok_dv hne ?_))))))
          have h1 := ih (i + 1) (by omega) (by omega)
          rw [e1 i] at h1
          refine ok_if (fun ha => ok_lt (ok_lt ?_)) (fun ha => ok_dv hne (ok_dv hne (ok_if (fun hb => ok_if (fun hc => ok_lt ?_) (fun hc => ok_lt (ok_lt ?_))) (fun hb => ok_lt ?_))))
          · rw [nI_1]
            rwa [if_pos (show rmI (g pp) (nI n) < rmI (g i) (nI n) ∨ (rmI (g i) (nI n) = rmI (g pp) (nI n) ∧ i < pp) from Or.inl ha)] at h1
          · rw [nI_1]
            have hc' := (nI_leI (by omega) (by omega)).mp hc
            rwa [if_neg (show ¬ (rmI (g pp) (nI n) < rmI (g i) (nI n) ∨ (rmI (g i) (nI n) = rmI (g pp) (nI n) ∧ i < pp)) from fun z => z.elim ha (fun z => by omega))] at h1
          · rw [nI_1]
            have hc' : ¬ pp ≤ i := fun z => hc (nI_le z (by omega))
            rwa [if_pos (show rmI (g pp) (nI n) < rmI (g i) (nI n) ∨ (rmI (g i) (nI n) = rmI (g pp) (nI n) ∧ i < pp) from Or.inr ⟨hb, by omega⟩)] at h1
          · rw [nI_1]
            rwa [if_neg (show ¬ (rmI (g pp) (nI n) < rmI (g i) (nI n) ∨ (rmI (g i) (nI n) = rmI (g pp) (nI n) ∧ i < pp)) from fun z => z.elim ha (fun z => hb z.1))] at h1
    exact loop BG 0 (by omega) (by unfold BG; omega)
  · refine ok_c (par_m _ D) (ok_f (i1 hp') (ok_c (win_m _ _ _ D) (ok_f (i1 hq) ?_)))
    have e6 : D 136 6 = nI n := by rw [hD.1.2.2.2.1, en]
    rw [e6]
    refine ok_f hne ?_
    have loop : ∀ f i : Nat, i ≤ 8 → 8 - i < f → Ok (f_X12_owes_44 f (nI pp) q (S i).1 (S i).2 (nI i) D) (fun r M1 => r = (if (S 8).1 ≤ (S 8).2 then g pp / nI n + 0 else g pp / nI n + 1) ∧ same D M1) := by
      intro f
      induction f with
      | zero => intro i _ h; omega
      | succ f ih =>
        intro i hi hf
        show Ok (f_X12_owes_44_b (f_X12_owes_44 f) _ _ _ _ (nI i) D) _
        unfold f_X12_owes_44_b
        by_cases e : i = 8
        · subst e
          refine ok_t (by decide) (ok_c (manyOf_m hD hn en) ?_)
          rw [e6]
          exact ok_dv hne (ok_if (fun h => ok_s ⟨by rw [if_pos h], same_rf⟩) (fun h => ok_s ⟨by rw [if_neg h], same_rf⟩))
        · refine ok_f (nI_ge (b := 8) (by omega) (by decide)) (ok_c (manyOf_m hD hn en) ?_)
          rw [e6]
          refine ok_dv hne (ok_lt ?_)
          have h1 := ih (i + 1) (by omega) (by omega)
          rw [e1 i] at h1
          by_cases ei : i = pp
          · subst ei
            refine ok_t rfl (ok_lt ?_)
            rw [nI_1]
            rwa [if_neg (show ¬ (rmI (g i) (nI n) < rmI (g i) (nI n) ∨ (rmI (g i) (nI n) = rmI (g i) (nI n) ∧ i < i)) from fun z => z.elim (fun z => Int32.lt_irrefl z) (fun z => by omega))] at h1
          · refine ok_f (fun z => ei ((nI_eq (by omega) (by omega)).mp z)) ?_
            have ea : f_X12_isAhead (nI i) (nI pp) q D = some (if rmI (g pp) (nI n) < rmI (g i) (nI n) ∨ (rmI (g i) (nI n) = rmI (g pp) (nI n) ∧ i < pp) then 1 else 0, D) := by
              unfold f_X12_isAhead
              rw [cl_s (manyOf_m hD hn en), e6]
              unfold dv
              rw [if_neg hne]
              simp only [lt]
              rw [cl_s (manyOf_m hD hn en), e6, if_neg hne]
              show (if rmI (g pp) (nI n) < rmI (g i) (nI n) then some (1, D) else if rmI (g i) (nI n) = rmI (g pp) (nI n) then if nI pp ≤ nI i then some (0, D) else some (1, D) else some (0, D)) = _
              by_cases c1 : rmI (g pp) (nI n) < rmI (g i) (nI n)
              · rw [if_pos c1, if_pos (Or.inl c1)]
              · rw [if_neg c1]
                by_cases c2 : rmI (g i) (nI n) = rmI (g pp) (nI n)
                · rw [if_pos c2]
                  by_cases c3 : i < pp
                  · rw [if_neg (nI_ge c3 (by omega)), if_pos (Or.inr ⟨c2, c3⟩)]
                  · rw [if_pos (nI_le (by omega) (by omega)), if_neg (fun z => z.elim c1 (fun z => c3 z.2))]
                · rw [if_neg c2, if_neg (fun z => z.elim c1 (fun z => c2 z.1))]
            refine ok_c ea ?_
            by_cases c : rmI (g pp) (nI n) < rmI (g i) (nI n) ∨ (rmI (g i) (nI n) = rmI (g pp) (nI n) ∧ i < pp)
            · rw [if_pos c]
              refine ok_f (by decide) (ok_lt (ok_lt ?_))
              rw [nI_1]
              rwa [if_pos c] at h1
            · rw [if_neg c]
              refine ok_t rfl (ok_lt ?_)
              rw [nI_1]
              rwa [if_neg c] at h1
    exact loop BG 0 (by omega) (by unfold BG; omega)
