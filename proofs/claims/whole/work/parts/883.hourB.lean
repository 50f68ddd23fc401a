/-! an hour: tiring, resting, eating -/
def mn9 (x : Int32) : Int32 := if x < 999 then x else 999
def mx0 (x : Int32) : Int32 := if 0 < x then x else 0
def tiN (C : IM) (o : Nat) (l1 : List LLn) (w : Nat) : Int32 := am (vC C o (clk (C o)) w) 10011 10 l1
def eaN (C : IM) (o : Nat) (l1 : List LLn) (w : Nat) : Int32 := am (vC C o (clk (C o)) w) 10012 5 l1
def etN (C : IM) (o : Nat) (l1 : List LLn) (w : Nat) : Int32 := am (vC C o (clk (C o)) w) 10013 1 l1
def feN (C : IM) (o : Nat) (l1 : List LLn) (g : Int32) (w : Nat) : Int32 := if bt g w = true then mn9 (C (o + 3) w + tiN C o l1 w) else mx0 (C (o + 3) w - eaN C o l1 w)
def roN (C : IM) (o : Nat) (g : Int32) (w : Nat) : Int32 := if bt g w = true then mn9 (C (o + 4) w + 1) else 0
def etS (C : IM) (o : Nat) (l1 : List LLn) (g : Int32) : Nat → Int32
  | 0 => 0
  | i + 1 => etS C o l1 g i + (if bt g i = true then etN C o l1 i else 0)
def chN (C : IM) (o : Nat) (l1 : List LLn) (g : Int32) (w : Nat) : Int32 := if bt g w = true then tiN C o l1 w else -(eaN C o l1 w)
theorem tired_e (a t : Int32) (M : IM) : f_X11_tired a t M = some (mn9 (a + t), M) := by
  unfold f_X11_tired f_J9_min_7cf53 mn9
  split <;> rfl
theorem eased_e (a t : Int32) (M : IM) : f_X11_eased a t M = some (mx0 (a - t), M) := by
  unfold f_X11_eased f_J9_max_7cf53 mx0
  split <;> rfl
theorem oneMore_e (a : Int32) (M : IM) : f_X11_oneMoreInRow a M = some (mn9 (a + 1), M) := by
  unfold f_X11_oneMoreInRow f_J9_min_7cf53 mn9
  split <;> rfl
theorem max0_e (a : Int32) (M : IM) : f_J9_max_7cf53 0 a M = some (mx0 a, M) := by
  unfold f_J9_max_7cf53 mx0
  split <;> rfl
theorem z0I : (0 : Int32).toInt = 0 := by decide
theorem z9I : (999 : Int32).toInt = 999 := by decide
theorem bnd_add {x y : Int32} {a b c d : Int} (hx : bnd x a b) (hy : bnd y c d) (h1 : -1000000000 ≤ a + c) (h2 : b + d ≤ 1000000000) : (x + y).toInt = x.toInt + y.toInt := by
  have q1 := hx.1
  have q2 := hx.2
  have q3 := hy.1
  have q4 := hy.2
  rw [Int32.toInt_add, Int.bmod_eq_of_le (by omega) (by omega)]
theorem bnd_sub {x y : Int32} {a b c d : Int} (hx : bnd x a b) (hy : bnd y c d) (h1 : -1000000000 ≤ a - d) (h2 : b - c ≤ 1000000000) : (x - y).toInt = x.toInt - y.toInt := by
  have q1 := hx.1
  have q2 := hx.2
  have q3 := hy.1
  have q4 := hy.2
  rw [Int32.toInt_sub, Int.bmod_eq_of_le (by omega) (by omega)]
theorem mn9_b {x : Int32} (h : 0 ≤ x.toInt) : bnd (mn9 x) 0 999 := by
  unfold mn9 bnd
  have := z9I
  have h3 := @Int32.lt_iff_toInt_lt x 999
  split
  · rename_i q
    have := h3.mp q
    omega
  · omega
theorem mx0_b {x : Int32} {n : Int} (h : x.toInt ≤ n) (hn : 0 ≤ n) : bnd (mx0 x) 0 n := by
  unfold mx0 bnd
  have := z0I
  have h3 := @Int32.lt_iff_toInt_lt 0 x
  split
  · rename_i q
    have := h3.mp q
    omega
  · omega
theorem held9 (x : Int32) (M : IM) : f_X12_held x 0 999 M = some (if x < 0 then 0 else if 999 < x then 999 else x, M) := by
  unfold f_X12_held
  by_cases h1 : x < 0
  · rw [if_pos h1, if_neg (Int32.not_le.mpr h1)]
  · rw [if_neg h1, if_pos (Int32.not_lt.mp h1)]
    by_cases h2 : 999 < x
    · rw [if_pos h2, if_neg (Int32.not_le.mpr h2)]
    · rw [if_neg h2, if_pos (Int32.not_lt.mp h2)]
theorem held_up {f t : Int32} (hf : bnd f 0 999) (ht : bnd t 0 99) : (if f + t < 0 then (0 : Int32) else if 999 < f + t then 999 else f + t) = mn9 (f + t) := by
  have e := bnd_add hf ht (by omega) (by omega)
  have q1 := hf.1
  have q2 := ht.1
  unfold mn9
  simp only [Int32.lt_iff_toInt_lt, ← Int32.toInt_inj]
  have := z0I
  have := z9I
  repeat' split
  all_goals omega
theorem held_dn {f t : Int32} (hf : bnd f 0 999) (ht : bnd t 0 99) : (if f + -t < 0 then (0 : Int32) else if 999 < f + -t then 999 else f + -t) = mx0 (f - t) := by
  have e := bnd_sub hf ht (by omega) (by omega)
  have q1 := hf.2
  have q2 := ht.1
  rw [← Int32.sub_eq_add_neg]
  unfold mx0
  simp only [Int32.lt_iff_toInt_lt, ← Int32.toInt_inj]
  have := z0I
  have := z9I
  repeat' split
  all_goals omega
theorem lesser9 (x : Int32) (M : IM) : f_X12_lesser 999 x M = some (mn9 x, M) := by
  unfold f_X12_lesser mn9
  by_cases h : x < 999
  · rw [if_pos h, if_pos (Int32.le_of_lt h)]
  · rw [if_neg h]
    by_cases h2 : x ≤ 999
    · rw [if_pos h2]
      have : x = 999 := by
        rw [← Int32.toInt_inj]
        have h3 := Int32.le_iff_toInt_le.mp h2
        have h4 := Int32.le_iff_toInt_le.mp (Int32.not_lt.mp h)
        omega
      rw [this]
    · rw [if_neg h2]
theorem greater0 (x : Int32) (M : IM) : f_X12_greater 0 x M = some (mx0 x, M) := by
  unfold f_X12_greater mx0
  by_cases h : 0 < x
  · rw [if_pos h, if_pos (Int32.le_of_lt h)]
  · rw [if_neg h]
    by_cases h2 : 0 ≤ x
    · rw [if_pos h2]
      have : x = 0 := by
        rw [← Int32.toInt_inj]
        have h3 := Int32.le_iff_toInt_le.mp h2
        have h4 := Int32.le_iff_toInt_le.mp (Int32.not_lt.mp h)
        omega
      rw [this]
    · rw [if_neg h2]
theorem LwC_14 {M M1 : IM} {t : List LLn} (e : ∀ q : Nat, 14 ≤ q → q ≤ 19 → M1 q = M q) (h : LwC M 14 0 0 t) : LwC M1 14 0 0 t := by
  unfold LwC at *
  rw [e 14 (by omega) (by omega), e (14 + 1) (by omega) (by omega), e (14 + 2) (by omega) (by omega), e (14 + 3) (by omega) (by omega), e (14 + 4) (by omega) (by omega), e (14 + 5) (by omega) (by omega)]
  exact h
section HRB
variable {C D : IM} {o : Nat} {l0 l1 : List LLn} {g : Int32}
theorem tireEat_c {n : Nat} (ho : o = 1 ∨ o = 122) (h : RC C D o l0 l1) (hn : n ≤ 10) (en : C o 10 = nI n) : Ok (f_X11_tireAndEat o g C) (fun _ C1 => (∀ w : Nat, C1 (o + 3) w = if w < n then feN C o l1 g w else C (o + 3) w) ∧ (∀ w : Nat, C1 (o + 4) w = if w < n then roN C o g w else C (o + 4) w) ∧ C1 o = upd (C o) 8 (mx0 (C o 8 - etS C o l1 g n)) ∧ fr [o, o + 3, o + 4, 120, 121] C C1) := by
  have hL := (rc_bnd h).1
  have hb := (rc_bnd h).2
  have loop : ∀ (f i : Nat) (M : IM), i ≤ n → n - i < f → (∀ w : Nat, M (o + 3) w = if w < i then feN C o l1 g w else C (o + 3) w) → (∀ w : Nat, M (o + 4) w = if w < i then roN C o g w else C (o + 4) w) → fr [o + 3, o + 4, 120, 121] C M → Ok (f_X11_tireAndEat_5 o f g (etS C o l1 g i) (nI i) M) (fun _ C1 => (∀ w : Nat, C1 (o + 3) w = if w < n then feN C o l1 g w else C (o + 3) w) ∧ (∀ w : Nat, C1 (o + 4) w = if w < n then roN C o g w else C (o + 4) w) ∧ C1 o = upd (C o) 8 (mx0 (C o 8 - etS C o l1 g n)) ∧ fr [o, o + 3, o + 4, 120, 121] C C1) := by
    intro f
    induction f with
    | zero => intro i M _ h; omega
    | succ f ih =>
      intro i M hi hf h3 h4 hM
      show Ok (f_X11_tireAndEat_5_b o (f_X11_tireAndEat_5 o f) g (etS C o l1 g i) (nI i) M) _
      unfold f_X11_tireAndEat_5_b
      have row : ∀ q : Nat, ¬ q = o + 3 → ¬ q = o + 4 → (q < 120 ∨ 121 < q) → M q = C q := fun q h1 h2 h3 => hM q (by simp; omega)
      rw [row o (by omega) (by omega) (by omega), en]
      by_cases e : i = n
      · subst e
        refine ok_t (nI_le (Nat.le_refl _) (by omega)) (ok_c (max0_e _ _) (ok_pt (ok_s ⟨fun w => ?_, fun w => ?_, ?_, ?_⟩)))
        · rw [ms_ne (by omega)]; exact h3 w
        · rw [ms_ne (by omega)]; exact h4 w
        · rw [ms_ro, row o (by omega) (by omega) (by omega)]
        · exact fr_ms (fr_sub hM (by simp)) (by simp)
      have hv : vC M o (clk (M o)) i = vC C o (clk (C o)) i := by
        unfold vC
        rw [row o (by omega) (by omega) (by omega), row (o + 1) (by omega) (by omega) (by omega), row (o + 2) (by omega) (by omega) (by omega), row 20 (by omega) (by omega) (by omega), row 21 (by omega) (by omega) (by omega), row 22 (by omega) (by omega) (by omega), row 23 (by omega) (by omega) (by omega), h3 i, h4 i, if_neg (Nat.lt_irrefl _), if_neg (Nat.lt_irrefl _)]
      refine ok_f (nI_ge (by omega) (by omega)) (ok_cl (meet_c (w := i) (by omega) (by omega) (by rw [row o (by omega) (by omega) (by omega), row 20 (by omega) (by omega) (by omega), row 22 (by omega) (by omega) (by omega)]; exact hL) (by rw [row 20 (by omega) (by omega) (by omega)]; exact hb)) (fun r M1 q1 => ?_))
      obtain ⟨f1, v1⟩ := q1
      rw [hv] at v1
      have amt : ∀ (wd : Int32) (X : IM), fr [120, 121] M X → (∀ j : Nat, j < 9 → X 120 j = vC C o (clk (C o)) i j) → Ok (f_X0_amount 14 wd X) (fun r M1 => r = am (vC C o (clk (C o)) i) wd (dfl wd) l1 ∧ fr [121] X M1) := fun wd X hX hv => by
        unfold f_X0_amount
        have hLw : LwC X 14 0 0 l1 := LwC_14 (fun q h1 h2 => by rw [hX q (by simp; omega), row q (by omega) (by omega) (by omega)]) h.2.2.2.1
        exact amount_l (by decide) l1 BG 0 0 X hLw h.2.2.2.2.2.2.2 hv (by have := hLw.2.1; unfold BG; omega)
      have fM1 : fr [120, 121] M M1 := fr_sub f1 (by simp)
      rw [tst (by omega)]
      by_cases hg : bt g i = true
      · rw [if_pos hg]
        refine ok_f (by decide) (ok_cl (amt 10011 M1 fM1 v1) (fun r M2 q2 => ?_))
        obtain ⟨rfl, f2⟩ := q2
        have fM2 : fr [120, 121] M M2 := fr_tr fM1 (fr_sub f2 (by simp))
        refine ok_cl (amt 10013 M2 fM2 (fun j hj => by rw [f2 120 (by decide)]; exact v1 j hj)) (fun r M3 q3 => ?_)
        obtain ⟨rfl, f3⟩ := q3
        have fM3 : fr [120, 121] M M3 := fr_tr fM2 (fr_sub f3 (by simp))
        have g3 : M3 (o + 3) = M (o + 3) := fM3 _ (by simp; omega)
        have g4 : M3 (o + 4) = M (o + 4) := fM3 _ (by simp; omega)
        refine ok_lt (ok_rv i (C (o + 3) i) rfl (by omega) (by decide) (by rw [g3, h3 i, if_neg (Nat.lt_irrefl _)]) (ok_c (tired_e _ _ _) (ok_wr i rfl (by omega) (by decide) (ok_rv i (C (o + 4) i) rfl (by omega) (by decide) (by rw [ms_ne (by omega), g4, h4 i, if_neg (Nat.lt_irrefl _)]) (ok_c (oneMore_e _ _) (ok_wr i rfl (by omega) (by decide) (ok_lt ?_)))))))
        have ee : etS C o l1 g i + am (vC C o (clk (C o)) i) 10013 (dfl 10013) l1 = etS C o l1 g (i + 1) := by
          show _ = etS C o l1 g i + (if bt g i = true then etN C o l1 i else 0)
          rw [if_pos hg]
          rfl
        rw [nI_1, ee]
        refine ih (i + 1) _ (by omega) (by omega) (fun w => ?_) (fun w => ?_) (fr_ms (fr_ms (fr_tr hM (fr_sub fM3 (by simp))) (by simp)) (by simp))
        · rw [ms_ne (by omega), ms_ro, g3]
          by_cases hw : w = i
          · subst hw
            rw [upd_s, if_pos (by omega)]
            unfold feN
            rw [if_pos hg]
            rfl
          · rw [upd_n hw, h3 w]
            by_cases h5 : w < i
            · rw [if_pos h5, if_pos (by omega)]
            · rw [if_neg h5, if_neg (by omega)]
        · rw [ms_ro, ms_ne (by omega), g4]
          by_cases hw : w = i
          · subst hw
            rw [upd_s, if_pos (by omega)]
            unfold roN
            rw [if_pos hg]
          · rw [upd_n hw, h4 w]
            by_cases h5 : w < i
            · rw [if_pos h5, if_pos (by omega)]
            · rw [if_neg h5, if_neg (by omega)]
      · rw [if_neg hg]
        have g3 : M1 (o + 3) = M (o + 3) := fM1 _ (by simp; omega)
        refine ok_t rfl (ok_rv i (C (o + 3) i) rfl (by omega) (by decide) (by rw [g3, h3 i, if_neg (Nat.lt_irrefl _)]) (ok_cl (amt 10012 M1 fM1 v1) (fun r M2 q2 => ?_)))
        obtain ⟨rfl, f2⟩ := q2
        have fM2 : fr [120, 121] M M2 := fr_tr fM1 (fr_sub f2 (by simp))
        have g3 : M2 (o + 3) = M (o + 3) := fM2 _ (by simp; omega)
        have g4 : M2 (o + 4) = M (o + 4) := fM2 _ (by simp; omega)
        refine ok_c (eased_e _ _ _) (ok_wr i rfl (by omega) (by decide) (ok_wr i rfl (by omega) (by decide) (ok_lt ?_)))
        have ee : etS C o l1 g i = etS C o l1 g (i + 1) := by
          show _ = etS C o l1 g i + (if bt g i = true then etN C o l1 i else 0)
          rw [if_neg hg, Int32.add_zero]
        rw [nI_1, ee]
        refine ih (i + 1) _ (by omega) (by omega) (fun w => ?_) (fun w => ?_) (fr_ms (fr_ms (fr_tr hM (fr_sub fM2 (by simp))) (by simp)) (by simp))
        · rw [ms_ne (by omega), ms_ro, g3]
          by_cases hw : w = i
          · subst hw
            rw [upd_s, if_pos (by omega)]
            unfold feN
            rw [if_neg hg]
            rfl
          · rw [upd_n hw, h3 w]
            by_cases h5 : w < i
            · rw [if_pos h5, if_pos (by omega)]
            · rw [if_neg h5, if_neg (by omega)]
        · rw [ms_ro, ms_ne (by omega), g4]
          by_cases hw : w = i
          · subst hw
            rw [upd_s, if_pos (by omega)]
            unfold roN
            rw [if_neg hg]
          · rw [upd_n hw, h4 w]
            by_cases h5 : w < i
            · rw [if_pos h5, if_pos (by omega)]
            · rw [if_neg h5, if_neg (by omega)]
  unfold f_X11_tireAndEat
  exact loop BG 0 C (by omega) (by unfold BG; omega) (fun w => by rw [if_neg (Nat.not_lt_zero _)]) (fun w => by rw [if_neg (Nat.not_lt_zero _)]) fr_rf
/-- the model's second loop -/
theorem walks2_m {n : Nat} (ho : o = 1 ∨ o = 122) (h : RC C D o l0 l1) (hn : n ≤ 10) (en : C o 10 = nI n) : ∀ (f i : Nat) (X : IM), i ≤ n → n - i < f → (∀ q : Nat, X 137 q = if 10 ≤ q ∧ q < 10 + i then feN C o l1 g (q - 10) else if 20 ≤ q ∧ q < 20 + i then roN C o g (q - 20) else D 137 q) → (∀ w : Nat, w < n → X 157 w = chN C o l1 g w) → fr [137, 155, 156, 157] D X → Ok (f_X12_walks_82 f g (etS C o l1 g n) (nI i) X) (fun _ X1 => (∀ q : Nat, X1 137 q = if q = 9 then mx0 (C o 8 - etS C o l1 g n) else if 10 ≤ q ∧ q < 10 + n then feN C o l1 g (q - 10) else if 20 ≤ q ∧ q < 20 + n then roN C o g (q - 20) else D 137 q) ∧ fr [137, 155, 156, 157] D X1) := by
  intro f
  obtain ⟨⟨⟨a0, a1, a2, a3, a4, a5, a6, a7, a8, a9, aw⟩, ⟨-, -, -, -, -, bw⟩, -, dw, -⟩, -⟩ := id h
  induction f with
  | zero => intro i X _ h; omega
  | succ f ih =>
    intro i X hi hf hq hc hX
    show Ok (f_X12_walks_82_b (f_X12_walks_82 f) g (etS C o l1 g n) (nI i) X) _
    unfold f_X12_walks_82_b
    rw [hX 136 (by simp), dw, en]
    by_cases e : i = n
    · subst e
      refine ok_t (nI_le (Nat.le_refl _) (by omega)) (ok_rv 9 (C o 8) rfl (by decide) (by decide) (by rw [hq 9, if_neg (by omega), if_neg (by omega)]; exact a9) (ok_c (greater0 _ _) (ok_wr 9 rfl (by decide) (by decide) (ok_s ⟨fun q => ?_, fr_ms hX (by simp)⟩))))
      rw [ms_ro]
      by_cases h9 : q = 9
      · subst h9; rw [upd_s, if_pos rfl]
      · rw [upd_n h9, if_neg h9]; exact hq q
    obtain ⟨w1, w2, w3⟩ := aw i (by omega)
    obtain ⟨-, -, bf, br⟩ := bw i (by omega)
    have ef : (if C (o + 3) i + chN C o l1 g i < 0 then (0 : Int32) else if 999 < C (o + 3) i + chN C o l1 g i then 999 else C (o + 3) i + chN C o l1 g i) = feN C o l1 g i := by
      unfold chN feN
      by_cases hg : bt g i = true
      · rw [if_pos hg, if_pos hg]
        exact held_up bf (am_bnd ⟨by decide, by decide⟩ l1)
      · rw [if_neg hg, if_neg hg]
        exact held_dn bf (am_bnd ⟨by decide, by decide⟩ l1)
    refine ok_f (nI_ge (by omega) (by omega)) (ok_rv (10 + i) (C (o + 3) i) (nI_add 10 i) (by omega) (by decide) (by rw [hq, if_neg (by omega), if_neg (by omega)]; exact w1) (ok_rv i (chN C o l1 g i) rfl (by omega) (by decide) (hc i (by omega)) (ok_c (held9 _ _) (ok_wr (10 + i) (nI_add 10 i) (by omega) (by decide) ?_))))
    rw [ef, tst (by omega)]
    have fin : ∀ y : Int32, y = roN C o g i → Ok (f_X12_walks_82 f g (etS C o l1 g n) (nI i + 1) (ms (ms X 137 (10 + i) (feN C o l1 g i)) 137 (20 + i) y)) (fun _ X1 => (∀ q : Nat, X1 137 q = if q = 9 then mx0 (C o 8 - etS C o l1 g n) else if 10 ≤ q ∧ q < 10 + n then feN C o l1 g (q - 10) else if 20 ≤ q ∧ q < 20 + n then roN C o g (q - 20) else D 137 q) ∧ fr [137, 155, 156, 157] D X1) := by
      rintro y rfl
      rw [nI_1]
      refine ih (i + 1) _ (by omega) (by omega) (fun q => ?_) (fun w hw => by rw [ms_ne (by decide), ms_ne (by decide)]; exact hc w hw) (fr_ms (fr_ms hX (by simp)) (by simp))
      rw [ms_ro, ms_ro]
      by_cases h2 : q = 20 + i
      · subst h2
        rw [upd_s, if_neg (by omega), if_pos (by omega), show 20 + i - 20 = i by omega]
      · rw [upd_n h2]
        by_cases h1 : q = 10 + i
        · subst h1
          rw [upd_s, if_pos (by omega), show 10 + i - 10 = i by omega]
        · rw [upd_n h1, hq q]
          by_cases c1 : 10 ≤ q ∧ q < 10 + i
          · rw [if_pos c1, if_pos (by omega)]
          · rw [if_neg c1, if_neg (show ¬ (10 ≤ q ∧ q < 10 + (i + 1)) by omega)]
            by_cases c2 : 20 ≤ q ∧ q < 20 + i
            · rw [if_pos c2, if_pos (by omega)]
            · rw [if_neg c2, if_neg (by omega)]
    by_cases hg : bt g i = true
    · rw [if_pos hg]
      refine ok_t rfl (ok_rv (20 + i) (C (o + 4) i) (nI_add 20 i) (by omega) (by decide) (by rw [ms_at (by omega), hq, if_neg (by omega), if_neg (by omega)]; exact w2) (ok_c (lesser9 _ _) (ok_wr (20 + i) (nI_add 20 i) (by omega) (by decide) (ok_lt (fin _ ?_)))))
      unfold roN
      rw [if_pos hg]
    · rw [if_neg hg]
      refine ok_f (by decide) (ok_wr (20 + i) (nI_add 20 i) (by omega) (by decide) (ok_lt (fin _ ?_)))
      unfold roN
      rw [if_neg hg]
theorem walks_m {n : Nat} (ho : o = 1 ∨ o = 122) (h : RC C D o l0 l1) (hn : n ≤ 10) (en : C o 10 = nI n) : Ok (f_X12_walks g D) (fun _ X1 => (∀ q : Nat, X1 137 q = if q = 9 then mx0 (C o 8 - etS C o l1 g n) else if 10 ≤ q ∧ q < 10 + n then feN C o l1 g (q - 10) else if 20 ≤ q ∧ q < 20 + n then roN C o g (q - 20) else D 137 q) ∧ fr [137, 155, 156, 157] D X1) := by
  have loop : ∀ (f i : Nat) (X : IM), i ≤ n → n - i < f → (∀ w : Nat, w < i → X 157 w = chN C o l1 g w) → fr [155, 156, 157] D X → Ok (f_X12_walks_4 f g (etS C o l1 g i) (nI i) X) (fun _ X1 => (∀ q : Nat, X1 137 q = if q = 9 then mx0 (C o 8 - etS C o l1 g n) else if 10 ≤ q ∧ q < 10 + n then feN C o l1 g (q - 10) else if 20 ≤ q ∧ q < 20 + n then roN C o g (q - 20) else D 137 q) ∧ fr [137, 155, 156, 157] D X1) := by
    intro f
    induction f with
    | zero => intro i X _ h; omega
    | succ f ih =>
      intro i X hi hf hc hX
      show Ok (f_X12_walks_4_b (f_X12_walks_4 f) g (etS C o l1 g i) (nI i) X) _
      unfold f_X12_walks_4_b
      have hR : RC C X o l0 l1 := RC_fr (R := []) (R' := [155, 156, 157]) ho fr_rf hX (by simp) (by simp) h
      rw [hR.1.2.2.2.1, en]
      by_cases e : i = n
      · subst e
        refine ok_t (nI_le (Nat.le_refl _) (by omega)) ?_
        exact walks2_m ho h hn en BG 0 X (by omega) (by unfold BG; omega) (fun q => by rw [if_neg (by omega), if_neg (by omega), hX 137 (by simp)]) hc (fr_sub hX (by simp))
      refine ok_f (nI_ge (by omega) (by omega)) ?_
      rw [tst (by omega)]
      have nxt : ∀ (X1 : IM) (y : Int32), fr [155, 156, 157] D X1 → (∀ w : Nat, w < i + 1 → X1 157 w = chN C o l1 g w) → y = etS C o l1 g (i + 1) → Ok (f_X12_walks_4 f g y (nI i + 1) X1) (fun _ X1 => (∀ q : Nat, X1 137 q = if q = 9 then mx0 (C o 8 - etS C o l1 g n) else if 10 ≤ q ∧ q < 10 + n then feN C o l1 g (q - 10) else if 20 ≤ q ∧ q < 20 + n then roN C o g (q - 20) else D 137 q) ∧ fr [137, 155, 156, 157] D X1) := by
        rintro X1 y h1 h2 rfl
        rw [nI_1]
        exact ih (i + 1) X1 (by omega) (by omega) h2 h1
      have chw : ∀ (X1 : IM) (w : Nat), X1 157 = X 157 → w < i + 1 → ms X1 157 i (chN C o l1 g i) 157 w = chN C o l1 g w := fun X1 w h1 hw => by
        rw [ms_ro, h1]
        by_cases q : w = i
        · subst q; rw [upd_s]
        · rw [upd_n q]; exact hc w (by omega)
      by_cases hg : bt g i = true
      · rw [if_pos hg]
        refine ok_t rfl ?_
        unfold f_X12_walks_26
        refine ok_f (by decide) (ok_c (clockNow_e hR) (ok_cl (tireOf_m ho hR (by omega)) (fun r X1 q => ?_)))
        obtain ⟨rfl, f1⟩ := q
        have hc1 : am (vC C o (clk (C o)) i) 10011 10 l1 = chN C o l1 g i := by unfold chN; rw [if_pos hg]; rfl
        rw [hc1]
        unfold f_X12_walks_56
        refine ok_wr i rfl (by omega) (by decide) (ok_f (by decide) ?_)
        have hX1 : fr [155, 156, 157] D (ms X1 157 i (chN C o l1 g i)) := fr_ms (fr_tr hX (fr_sub f1 (by simp))) (by simp)
        have hR1 : RC C (ms X1 157 i (chN C o l1 g i)) o l0 l1 := RC_fr (R := []) (R' := [155, 156, 157]) ho fr_rf hX1 (by simp) (by simp) h
        refine ok_cl (eatOf_m ho hR1 (by omega)) (fun r X2 q2 => ?_)
        obtain ⟨rfl, f2⟩ := q2
        refine ok_lt (ok_lt (nxt X2 _ (fr_tr hX1 (fr_sub f2 (by simp))) (fun w hw => ?_) ?_))
        · rw [f2 157 (by decide)]
          exact chw X1 w (f1 157 (by decide)) hw
        · show _ = etS C o l1 g i + (if bt g i = true then etN C o l1 i else 0)
          rw [if_pos hg]
          rfl
      · rw [if_neg hg]
        refine ok_f (by decide) ?_
        unfold f_X12_walks_26
        refine ok_t rfl (ok_cl (easeOf_m ho hR (by omega)) (fun r X1 q => ?_))
        obtain ⟨rfl, f1⟩ := q
        have hc1 : -(am (vC C o (clk (C o)) i) 10012 5 l1) = chN C o l1 g i := by unfold chN; rw [if_neg hg]; rfl
        rw [hc1]
        unfold f_X12_walks_56
        refine ok_wr i rfl (by omega) (by decide) (ok_t rfl ?_)
        have hX1 : fr [155, 156, 157] D (ms X1 157 i (chN C o l1 g i)) := fr_ms (fr_tr hX (fr_sub f1 (by simp))) (by simp)
        refine ok_lt (ok_lt (nxt _ _ hX1 (fun w hw => chw X1 w (f1 157 (by decide)) hw) ?_))
        show _ = etS C o l1 g i + (if bt g i = true then etN C o l1 i else 0)
        rw [if_neg hg]
  unfold f_X12_walks
  exact loop BG 0 D (by omega) (by unfold BG; omega) (fun w hw => by omega) fr_rf
theorem etS_b {n : Nat} : ∀ i : Nat, i ≤ n → n ≤ 10 → bnd (etS C o l1 g i) 0 (99 * i)
  | 0, _, _ => (⟨by decide, by decide⟩ : bnd 0 0 (99 * ((0 : Nat) : Int)))
  | i + 1, h, hn => by
    have ih := etS_b (n := n) i (by omega) hn
    have hb : bnd (if bt g i = true then etN C o l1 i else 0) 0 99 := by
      split
      · exact am_bnd ⟨by decide, by decide⟩ l1
      · exact ⟨by decide, by decide⟩
    have e := bnd_add ih hb (by omega) (by omega)
    show bnd (etS C o l1 g i + (if bt g i = true then etN C o l1 i else 0)) 0 (99 * ((i + 1 : Nat) : Int))
    unfold bnd
    rw [e]
    have q1 := ih.1
    have q2 := ih.2
    have q3 := hb.1
    have q4 := hb.2
    omega
end HRB
