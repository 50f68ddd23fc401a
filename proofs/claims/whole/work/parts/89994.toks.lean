/-! text: the class's row of tokens -/
def bgT (tx : Nat → Nat) (i : Nat) : Prop := ¬ sg (tx i) = 0 ∧ (sg (tx i) = 3 ∨ i = 0 ∨ ¬ sg (tx (i - 1)) = sg (tx i))
def pl (tx : Nat → Nat) (len : Nat) : Nat → Nat
  | 0 => rnE tx len 0 0
  | k + 1 => if pl tx len k < len then rnE tx len 0 (ten tx len (pl tx len k)) else len
section TOKS
variable {tx : Nat → Nat} {len : Nat}
theorem ten_ok {i : Nat} (hi : i < len) (hs : ¬ sg (tx i) = 0) : i < ten tx len i ∧ ten tx len i ≤ len ∧ (∀ j : Nat, i < j → j < ten tx len i → ¬ bgT tx j) ∧ (ten tx len i < len → ¬ sg (tx (ten tx len i)) = 0 → bgT tx (ten tx len i)) := by
  have hle := sg_le (tx i)
  have run : ∀ s : Nat, (s = 1 ∨ s = 2) → sg (tx i) = s → i < rnE tx len s i ∧ rnE tx len s i ≤ len ∧ (∀ j : Nat, i < j → j < rnE tx len s i → ¬ bgT tx j) ∧ (rnE tx len s i < len → ¬ sg (tx (rnE tx len s i)) = 0 → bgT tx (rnE tx len s i)) := fun s hs12 he => by
    obtain ⟨h1, h2, h3, h4⟩ := rnE_ok (tx := tx) (len := len) (s := s) (len - (i + 1)) (i + 1) (by omega)
    rw [rnE_s hi he]
    refine ⟨by omega, h2, fun j j1 j2 hb => ?_, fun hl hn => ⟨hn, Or.inr (Or.inr ?_)⟩⟩
    · have a1 := h3 j (by omega) j2
      have a2 : sg (tx (j - 1)) = s := by
        by_cases e : j - 1 = i
        · rw [e]; exact he
        · exact h3 (j - 1) (by omega) (by omega)
      rcases hb.2 with z | z | z
      · omega
      · omega
      · exact z (by rw [a1, a2])
    · have a2 : sg (tx (rnE tx len s (i + 1) - 1)) = s := by
        by_cases e : rnE tx len s (i + 1) - 1 = i
        · rw [e]; exact he
        · exact h3 _ (by omega) (by omega)
      rw [a2]
      exact fun z => h4 hl z.symm
  unfold ten
  by_cases e1 : sg (tx i) = 1
  · rw [if_pos e1]; exact run 1 (Or.inl rfl) e1
  · rw [if_neg e1]
    by_cases e2 : sg (tx i) = 2
    · rw [if_pos e2]; exact run 2 (Or.inr rfl) e2
    · rw [if_neg e2]
      refine ⟨by omega, by omega, fun j j1 j2 => by omega, fun _ hn => ⟨hn, ?_⟩⟩
      by_cases e3 : sg (tx (i + 1)) = 3
      · exact Or.inl e3
      · right; right
        show ¬ sg (tx i) = sg (tx (i + 1))
        omega
/-- behind blanks -/
theorem sk_ok {i : Nat} (hi : i ≤ len) (hb : i < len → ¬ sg (tx i) = 0 → bgT tx i) : i ≤ rnE tx len 0 i ∧ rnE tx len 0 i ≤ len ∧ (∀ j : Nat, i ≤ j → j < rnE tx len 0 i → ¬ bgT tx j) ∧ (rnE tx len 0 i < len → bgT tx (rnE tx len 0 i)) := by
  obtain ⟨h1, h2, h3, h4⟩ := rnE_ok (tx := tx) (len := len) (s := 0) (len - i) i (by omega)
  refine ⟨h1, h2, fun j j1 j2 z => z.1 (h3 j j1 j2), fun hl => ?_⟩
  by_cases e : rnE tx len 0 i = i
  · rw [e] at hl h4 ⊢
    exact hb hl (h4 hl)
  · refine ⟨h4 hl, Or.inr (Or.inr ?_)⟩
    rw [h3 (rnE tx len 0 i - 1) (by omega) (by omega)]
    exact fun z => h4 hl z.symm
theorem pl_0 : pl tx len 0 ≤ len ∧ (∀ j : Nat, j < pl tx len 0 → ¬ bgT tx j) ∧ (pl tx len 0 < len → bgT tx (pl tx len 0)) := by
  obtain ⟨-, h2, h3, h4⟩ := sk_ok (tx := tx) (len := len) (i := 0) (by omega) (fun _ hn => ⟨hn, Or.inr (Or.inl rfl)⟩)
  exact ⟨h2, fun j hj => h3 j (by omega) hj, h4⟩
theorem pl_le (k : Nat) : pl tx len k ≤ len ∧ (pl tx len k < len → bgT tx (pl tx len k)) := by
  induction k with
  | zero => exact ⟨pl_0.1, pl_0.2.2⟩
  | succ k ih =>
    unfold pl
    by_cases q : pl tx len k < len
    · rw [if_pos q]
      obtain ⟨t1, t2, t3, t4⟩ := ten_ok q (ih.2 q).1
      obtain ⟨-, h2, -, h4⟩ := sk_ok t2 t4
      exact ⟨h2, h4⟩
    · rw [if_neg q]
      exact ⟨Nat.le_refl _, fun z => by omega⟩
theorem pl_s {k : Nat} (q : pl tx len k < len) : pl tx len k < pl tx len (k + 1) ∧ ∀ j : Nat, pl tx len k < j → j < pl tx len (k + 1) → ¬ bgT tx j := by
  have e : pl tx len (k + 1) = rnE tx len 0 (ten tx len (pl tx len k)) := by
    show (if pl tx len k < len then _ else len) = _
    rw [if_pos q]
  obtain ⟨t1, t2, t3, t4⟩ := ten_ok q ((pl_le k).2 q).1
  obtain ⟨h1, h2, h3, h4⟩ := sk_ok t2 t4
  rw [e]
  refine ⟨by omega, fun j j1 j2 => ?_⟩
  by_cases c : j < ten tx len (pl tx len k)
  · exact t3 j j1 c
  · exact h3 j (by omega) j2
theorem begins_c {M : IM} {i : Nat} (h : Tx (M 99) tx) (hi : i < 400) : (bgT tx i → f_X6_beginsToken 99 400 (nI i) M = some (1, M)) ∧ (¬ bgT tx i → f_X6_beginsToken 99 400 (nI i) M = some (0, M)) := by
  obtain ⟨c1, c2⟩ := h i hi
  have hle := sg_le (tx i)
  have hne : ∀ a b : Nat, a < 1000 → b < 1000 → nI a = nI b → a = b := fun a b ha hb z => by
    have := congrArg Int32.toInt z
    rw [nI_toInt (by omega), nI_toInt (by omega)] at this
    omega
  have e0 : f_X6_beginsToken 99 400 (nI i) M = if nI (sg (tx i)) = 0 then f_X6_beginsToken_16 99 400 (nI (sg (tx i))) M else if nI (sg (tx i)) = 3 then f_X6_beginsToken_16 99 400 (nI (sg (tx i))) M else if nI i = 0 then some (1, M) else rd M 99 400 (nI i - 1) fun v9 => cl (f_X6_sightOf v9 M) fun w11 M12 => if w11 = nI (sg (tx i)) then some (0, M12) else some (1, M12) := by
    unfold f_X6_beginsToken
    rw [rdK (j := i) rfl hi (by decide), c1, cl_s (sight_c c2 M)]
  rw [e0]
  by_cases q0 : sg (tx i) = 0
  · rw [if_pos (by rw [q0]; rfl)]
    unfold f_X6_beginsToken_16
    rw [q0, if_neg (show ¬ nI 0 = 3 by decide)]
    exact ⟨fun z => absurd q0 z.1, fun _ => rfl⟩
  · rw [if_neg (nI_ne0 (Nat.pos_of_ne_zero q0) (by omega))]
    by_cases q3 : sg (tx i) = 3
    · rw [if_pos (by rw [q3]; rfl)]
      unfold f_X6_beginsToken_16
      rw [if_pos (by rw [q3]; rfl)]
      exact ⟨fun _ => rfl, fun z => absurd ⟨q0, Or.inl q3⟩ z⟩
    · rw [if_neg (show ¬ nI (sg (tx i)) = 3 from fun z => q3 (hne _ 3 (by omega) (by decide) z))]
      by_cases qi : i = 0
      · rw [if_pos (by rw [qi]; rfl)]
        exact ⟨fun _ => rfl, fun z => absurd ⟨q0, Or.inr (Or.inl qi)⟩ z⟩
      · obtain ⟨d1, d2⟩ := h (i - 1) (by omega)
        have hl1 := sg_le (tx (i - 1))
        have ei : nI i - 1 = nI (i - 1) := pk_sub (b := 1) (by omega)
        rw [if_neg (nI_ne0 (Nat.pos_of_ne_zero qi) (by omega)), rdK (j := i - 1) ei (by omega) (by decide), d1, cl_s (sight_c d2 M)]
        by_cases q : sg (tx (i - 1)) = sg (tx i)
        · rw [if_pos (by rw [q])]
          refine ⟨fun z => ?_, fun _ => rfl⟩
          rcases z.2 with y | y | y
          · exact absurd y q3
          · exact absurd y qi
          · exact absurd q y
        · rw [if_neg (fun z => q (hne _ _ (by omega) (by omega) z))]
          exact ⟨fun _ => rfl, fun z => absurd ⟨q0, Or.inr (Or.inr q)⟩ z⟩
/-- the row of tokens, all of it -/
theorem begin_c {M : IM} (h : Tx (M 99) tx) (hl : len ≤ 400) : ∃ (M' : IM) (m : Nat), f_X6_begin 99 400 (nI len) M = some (0, M') ∧ m ≤ len ∧ pl tx len m = len ∧ (∀ x : Nat, x < m → pl tx len x < len ∧ M' 117 x = nI (tcd tx len (pl tx len x)) ∧ M' 118 x = nI (pl tx len x)) ∧ M' 117 m = 30000 ∧ M' 118 m = nI len ∧ fr [117, 118] (ms (ms (ms M 100 0 0) 100 1 (-1)) 100 7 0) M' := by
  obtain ⟨Y, hY⟩ : ∃ Y : IM, Y = ms (ms (ms M 100 0 0) 100 1 (-1)) 100 7 0 := ⟨_, rfl⟩
  have hTY : Y 99 = M 99 := by rw [hY, ms_ne (by decide), ms_ne (by decide), ms_ne (by decide)]
  have loop : ∀ (d f i x : Nat) (X : IM), i + d = len → d < f → x ≤ i → i ≤ pl tx len x → (∀ j : Nat, i ≤ j → j < pl tx len x → ¬ bgT tx j) → (∀ y : Nat, y < x → pl tx len y < len ∧ X 117 y = nI (tcd tx len (pl tx len y)) ∧ X 118 y = nI (pl tx len y)) → fr [117, 118] Y X → ∃ (M' : IM) (m : Nat), f_X6_begin_20 99 400 f (nI len) (nI x) (nI i) X = some (0, M') ∧ m ≤ len ∧ pl tx len m = len ∧ (∀ x : Nat, x < m → pl tx len x < len ∧ M' 117 x = nI (tcd tx len (pl tx len x)) ∧ M' 118 x = nI (pl tx len x)) ∧ M' 117 m = 30000 ∧ M' 118 m = nI len ∧ fr [117, 118] Y M' := by
    intro d
    induction d with
    | zero =>
      intro f i x X hi hf hx hpl hb hw hX
      obtain ⟨m, rfl⟩ : ∃ m, f = m + 1 := ⟨f - 1, by omega⟩
      have hple := (pl_le (tx := tx) (len := len) x).1
      refine ⟨ms (ms X 117 x 30000) 118 x (nI len), x, ?_, by omega, by omega, fun y hy => ?_, by rw [ms_ne (by decide), ms_it], ms_it, fr_ms (fr_ms hX (by simp)) (by simp)⟩
      · have hst : f_X6_begin_20 99 400 (m + 1) (nI len) (nI x) (nI i) X = f_X6_begin_20_b 99 400 (f_X6_begin_20 99 400 m) (nI len) (nI x) (nI i) X := rfl
        rw [hst]
        unfold f_X6_begin_20_b
        rw [if_pos (nI_le (by omega) (by omega)), wrK (j := x) rfl (by omega) (by decide), wrK (j := x) rfl (by omega) (by decide)]
      · obtain ⟨w1, w2, w3⟩ := hw y hy
        exact ⟨w1, by rw [ms_ne (by decide), ms_at (by omega)]; exact w2, by rw [ms_at (by omega), ms_ne (by decide)]; exact w3⟩
    | succ d ih =>
      intro f i x X hi hf hx hpl hb hw hX
      obtain ⟨m, rfl⟩ : ∃ m, f = m + 1 := ⟨f - 1, by omega⟩
      have hTX : Tx (X 99) tx := by rw [hX 99 (by decide), hTY]; exact h
      obtain ⟨b1, b2⟩ := begins_c (i := i) hTX (by omega)
      have hst : f_X6_begin_20 99 400 (m + 1) (nI len) (nI x) (nI i) X = f_X6_begin_20_b 99 400 (f_X6_begin_20 99 400 m) (nI len) (nI x) (nI i) X := rfl
      rw [hst]
      unfold f_X6_begin_20_b
      rw [if_neg (nI_ge (by omega) (by omega))]
      by_cases q : i = pl tx len x
      · have hbg := (pl_le (tx := tx) (len := len) x).2 (by omega)
        rw [← q] at hbg
        obtain ⟨p1, p2⟩ := pl_s (tx := tx) (len := len) (k := x) (by omega)
        rw [cl_s (b1 hbg), if_neg (by decide), cl_s (token_c hTX hl (by omega) hbg.1), wrK (j := x) rfl (by omega) (by decide), wrK (j := x) rfl (by omega) (by decide)]
        simp only [lt]
        rw [nI_1, nI_1]
        refine ih m (i + 1) (x + 1) _ (by omega) (by omega) (by omega) (by omega) (fun j j1 j2 => p2 j (by omega) j2) (fun y hy => ?_) (fr_ms (fr_ms hX (by simp)) (by simp))
        by_cases ey : y = x
        · subst ey
          refine ⟨by omega, ?_, ?_⟩
          · rw [ms_ne (by decide), ms_it, q]
          · rw [ms_it, q]
        · obtain ⟨w1, w2, w3⟩ := hw y (by omega)
          exact ⟨w1, by rw [ms_ne (by decide), ms_at (by omega)]; exact w2, by rw [ms_at (by omega), ms_ne (by decide)]; exact w3⟩
      · rw [cl_s (b2 (hb i (Nat.le_refl _) (by omega))), if_pos rfl]
        simp only [lt]
        rw [nI_1]
        exact ih m (i + 1) x X (by omega) (by omega) (by omega) (by omega) (fun j j1 j2 => hb j (by omega) j2) hw hX
  obtain ⟨M', m, g1, g2⟩ := loop len BG 0 0 Y (by omega) (by unfold BG; omega) (by omega) (by omega) (fun j _ hj => pl_0.2.1 j hj) (fun y hy => by omega) fr_rf
  refine ⟨M', m, ?_, by rw [← hY]; exact g2⟩
  rw [← g1, hY]
  rfl
end TOKS
