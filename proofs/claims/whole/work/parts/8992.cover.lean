/-! cover: the model, and the step -/
theorem sm_0 {a : Nat → Nat} : ∀ {m : Nat}, sm a m = 0 ↔ ∀ c : Nat, c < m → a c = 0
  | 0 => ⟨fun _ c h => (by omega), fun _ => rfl⟩
  | m + 1 => by
    have ih := sm_0 (a := a) (m := m)
    show sm a m + a m = 0 ↔ _
    constructor
    · intro h c hc
      by_cases e : c = m
      · subst e; omega
      · exact ih.mp (by omega) c (by omega)
    · intro h
      have h1 := ih.mpr (fun c hc => h c (by omega))
      have h2 := h m (by omega)
      omega
theorem lk_0 {wa ck : Nat → Int32} {p : Nat → Bool} {n L : Nat} : lkN wa ck p n L = 0 ↔ ∀ c : Nat, c < 24 → L ≤ cnB wa ck p n c 10 := by
  unfold lkN
  rw [sm_0]
  constructor
  · intro h c hc; have := h c hc; omega
  · intro h c hc; have := h c hc; omega
section COVM
variable {C D : IM} {l0 l1 : List LLn} {n : Nat}
/-- what the model's cover needs -/
def CvM (C X : IM) (n L : Nat) : Prop := X 136 38 = nI n ∧ X 136 8 = nI L ∧ (∀ i : Nat, i < n → ∃ u : Nat, u < 10 ∧ C 26 i = nI u ∧ X 154 (3 * i) = nI u) ∧ ∀ i : Nat, i < n → ∀ c : Nat, c < 24 → bt (X 158 i) c = bt (C 27 i) c
theorem does_m {X : IM} {L S : Nat} (hn : n ≤ 16) (hL : L ≤ 10) (h : CvM C X n L) : f_X12_doesCover (nI S) X = some (if lkN (C 26) (C 27) (fun i => S.testBit i) n L = 0 then 1 else 0, X) := by
  obtain ⟨e38, e8, hu, hck⟩ := id h
  generalize hP : (fun i => S.testBit i) = P
  have hPi : ∀ i : Nat, S.testBit i = P i := fun i => by rw [← hP]
  have inner : ∀ (K : Int32 → Int32 → IM → IR) (c : Nat), c < 24 → ∀ (f i : Nat) (x : Int32), i ≤ n → n - i < f → (∀ w : Nat, w < 32 → bt x w = (decide (w < 10) && hdB (C 26) (C 27) P w c i)) → f_X12_doesCover_13 K f (nI S) (nI c) x (nI i) X = if L ≤ cnB (C 26) (C 27) P n c 10 then K (nI S) (nI (c + 1)) X else some (0, X) := by
    intro K c hc f
    induction f with
    | zero => intro i x _ h; omega
    | succ f ih =>
      intro i x hi hf hx
      show f_X12_doesCover_13_b K (f_X12_doesCover_13 K f) (nI S) (nI c) x (nI i) X = _
      unfold f_X12_doesCover_13_b
      rw [e38]
      by_cases e : i = n
      · subst e
        obtain ⟨k, hk, ek, ep⟩ := mk_pc (p := fun w => hdB (C 26) (C 27) P w c i) 10 (by decide)
        have exk : x = nI k := by
          rw [← ek]
          apply b_ext
          intro w hw
          rw [hx w hw, bt_mk (by decide) hw]
        have hcl := ctB_le (p := fun w => hdB (C 26) (C 27) P w c i) 10
        rw [if_pos (nI_le (Nat.le_refl _) (by omega)), exk, cl_s (ones_m (by omega)), e8, ep]
        simp only [lt]
        rw [nI_1]
        have ecn : cnB (C 26) (C 27) P i c 10 = ctB (fun w => hdB (C 26) (C 27) P w c i) 10 := rfl
        rw [ecn]
        generalize ctB (fun w => hdB (C 26) (C 27) P w c i) 10 = z at *
        by_cases q : L ≤ z
        · rw [if_pos q, if_pos (nI_le q (by omega))]
        · rw [if_neg q, if_neg (nI_ge (by omega) (by omega))]
      · obtain ⟨u, hu10, eu, em⟩ := hu i (by omega)
        have hs : ∀ w : Nat, hdB (C 26) (C 27) P w c (i + 1) = (hdB (C 26) (C 27) P w c i || (P i && (decide (C 26 i = nI w) && bt (C 27 i) c))) := fun _ => rfl
        rw [if_neg (nI_ge (by omega) (by omega)), tst_n (by omega), hPi]
        simp only [lt]
        have skip : (P i && bt (C 27 i) c) = false → f_X12_doesCover_13 K f (nI S) (nI c) x (nI i + 1) X = if L ≤ cnB (C 26) (C 27) P n c 10 then K (nI S) (nI (c + 1)) X else some (0, X) := fun hz => by
          rw [nI_1]
          refine ih (i + 1) x (by omega) (by omega) (fun w hw => ?_)
          rw [hx w hw, hs]
          have : (P i && (decide (C 26 i = nI w) && bt (C 27 i) c)) = false := by
            cases h1 : P i with
            | false => rfl
            | true =>
              rw [h1, Bool.true_and] at hz
              rw [hz]
              simp
          rw [this, Bool.or_false]
        by_cases hp : P i = true
        · rw [if_pos hp, if_pos rfl, rdK (j := i) rfl (by omega) (by decide), tst (by omega), hck i (by omega) c hc]
          by_cases hb : bt (C 27 i) c = true
          · rw [if_pos hb, if_pos rfl, rdK (i := 3 * nI i) (j := 3 * i) (n := 96) (pk_mul 3 i) (by omega) (by decide), em, nI_1]
            refine ih (i + 1) _ (by omega) (by omega) (fun w hw => ?_)
            rw [b_or, hx w hw, b_set (by omega) hw, hs, hp, hb, eu, Bool.true_and, Bool.and_true]
            by_cases ew : w = u
            · subst ew; simp [hu10]
            · rw [decide_eq_false ew, decide_eq_false (fun z => ew ((nI_eq (by omega) (by omega)).mp z).symm)]
              simp
          · rw [if_neg hb, if_neg (by decide)]
            exact skip (by rw [hp]; simpa using hb)
        · rw [if_neg hp, if_neg (by decide)]
          exact skip (by simp [hp])
  have outer : ∀ (f c : Nat), c ≤ 24 → 24 - c < f → (∀ c' : Nat, c' < c → L ≤ cnB (C 26) (C 27) P n c' 10) → f_X12_doesCover_2 f (nI S) (nI c) X = some (if lkN (C 26) (C 27) P n L = 0 then 1 else 0, X) := by
    intro f
    induction f with
    | zero => intro c _ h; omega
    | succ f ih =>
      intro c hc hf hlo
      show f_X12_doesCover_2_b (f_X12_doesCover_2 f) (nI S) (nI c) X = _
      unfold f_X12_doesCover_2_b
      by_cases e : c = 24
      · subst e
        rw [if_pos (by decide), if_pos (lk_0.mpr hlo)]
      · rw [if_neg (show ¬ (24 : Int32) ≤ nI c from nI_ge (b := 24) (by omega) (by decide))]
        have := inner (f_X12_doesCover_2 f) c (by omega) BG 0 0 (by omega) (by unfold BG; omega) (fun w hw => by rw [b_0]; simp [hdB])
        refine Eq.trans this ?_
        by_cases q : L ≤ cnB (C 26) (C 27) P n c 10
        · rw [if_pos q]
          refine ih (c + 1) (by omega) (by omega) (fun c' hc' => ?_)
          by_cases e2 : c' = c
          · subst e2; exact q
          · exact hlo c' (by omega)
        · rw [if_neg q, if_neg (fun z => q (lk_0.mp z c (by omega)))]
  exact outer BG 0 (by omega) (by unfold BG; omega) (fun c' h => by omega)
theorem on_pc {S : Nat} (hn : n ≤ 16) (hS : S < 2 ^ n) : pcF 32 S = onN n S := by
  rw [pc_ct]
  have := ctB_z (p := fun i => S.testBit i) (n := n) (m := 32 - n) (fun i h1 h2 => Nat.testBit_lt_two_pow (Nat.lt_of_lt_of_le hS (Nat.pow_le_pow_right (by decide) h1)))
  rw [show n + (32 - n) = 32 by omega] at this
  exact this
/-- the best so far: of the sets below N -/
def BsN (C : IM) (n L N : Nat) (b : Int32) : Prop := (b = -1 ∧ ∀ S : Nat, S < N → ¬ lkN (C 26) (C 27) (fun i => S.testBit i) n L = 0) ∨ ∃ S : Nat, b = nI S ∧ S < N ∧ lkN (C 26) (C 27) (fun i => S.testBit i) n L = 0 ∧ ∀ T : Nat, T < N → lkN (C 26) (C 27) (fun i => T.testBit i) n L = 0 → onN n S < onN n T ∨ (onN n S = onN n T ∧ S ≤ T)
theorem best_m {X : IM} {L : Nat} (hn : n ≤ 16) (hL : L ≤ 10) (h : CvM C X n L) : ∃ b : Int32, f_X12_coverSet_66 BG (-1) 0 X = some (b, X) ∧ BsN C n L (2 ^ n) b := by
  have hp16 : 2 ^ n ≤ 2 ^ 16 := Nat.pow_le_pow_right (by decide) hn
  have loop : ∀ (k f N : Nat) (b : Int32), N + k = 2 ^ n → k < f → BsN C n L N b → ∃ b' : Int32, f_X12_coverSet_66 f b (nI N) X = some (b', X) ∧ BsN C n L (2 ^ n) b' := by
    intro k
    induction k with
    | zero =>
      intro f N b hN hf hb
      obtain ⟨x, rfl⟩ : ∃ x, f = x + 1 := ⟨f - 1, by omega⟩
      have : N = 2 ^ n := by omega
      subst this
      refine ⟨b, ?_, hb⟩
      show f_X12_coverSet_66_b (f_X12_coverSet_66 x) b (nI (2 ^ n)) X = _
      unfold f_X12_coverSet_66_b
      rw [h.1, sh_16 n hn, if_pos (Int32.le_refl _)]
    | succ k ih =>
      intro f N b hN hf hb
      obtain ⟨x, rfl⟩ : ∃ x, f = x + 1 := ⟨f - 1, by omega⟩
      have hstep : f_X12_coverSet_66 (x + 1) b (nI N) X = f_X12_coverSet_66_b (f_X12_coverSet_66 x) b (nI N) X := rfl
      have c94 : f_X12_coverSet_94 (f_X12_coverSet_66 x) b (nI N) X = if lkN (C 26) (C 27) (fun i => N.testBit i) n L = 0 then f_X12_coverSet_66 x (nI N) (nI (N + 1)) X else f_X12_coverSet_66 x b (nI (N + 1)) X := by
        unfold f_X12_coverSet_94
        rw [cl_s (does_m hn hL h)]
        simp only [lt]
        rw [nI_1]
        by_cases q : lkN (C 26) (C 27) (fun i => N.testBit i) n L = 0
        · rw [if_pos q, if_neg (by decide), if_pos q]
        · rw [if_neg q, if_pos rfl, if_neg q]
      rw [hstep]
      unfold f_X12_coverSet_66_b
      rw [h.1, sh_16 n hn, if_neg (nI_ge (by omega) (by omega))]
      rcases id hb with ⟨rfl, hno⟩ | ⟨S, rfl, hS, hc, hbest⟩
      · rw [if_pos rfl, c94]
        by_cases q : lkN (C 26) (C 27) (fun i => N.testBit i) n L = 0
        · rw [if_pos q]
          refine ih x (N + 1) _ (by omega) (by omega) (Or.inr ⟨N, rfl, by omega, q, fun T hT hcT => ?_⟩)
          by_cases e : T = N
          · subst e; exact Or.inr ⟨rfl, Nat.le_refl _⟩
          · exact absurd hcT (hno T (by omega))
        · rw [if_neg q]
          refine ih x (N + 1) _ (by omega) (by omega) (Or.inl ⟨rfl, fun T hT => ?_⟩)
          by_cases e : T = N
          · subst e; exact q
          · exact hno T (by omega)
      · have o1 := on_pc hn (show N < 2 ^ n by omega)
        have o2 := on_pc hn (show S < 2 ^ n by omega)
        have l1 := ctB_le (p := fun i => N.testBit i) n
        have l2 := ctB_le (p := fun i => S.testBit i) n
        rw [if_neg, cl_s (ones_m (k := N) (by omega)), cl_s (ones_m (k := S) (by omega)), o1, o2]
        · simp only [lt]
          rw [nI_1]
          by_cases hle : onN n S ≤ onN n N
          · rw [if_pos (nI_le hle (by unfold onN; omega))]
            refine ih x (N + 1) _ (by omega) (by omega) (Or.inr ⟨S, rfl, by omega, hc, fun T hT hcT => ?_⟩)
            by_cases e : T = N
            · subst e
              rcases Nat.lt_or_ge (onN n S) (onN n T) with y | y
              · exact Or.inl y
              · exact Or.inr ⟨by omega, by omega⟩
            · exact hbest T (by omega) hcT
          · rw [if_neg (nI_ge (by omega) (by unfold onN; omega)), c94]
            by_cases q : lkN (C 26) (C 27) (fun i => N.testBit i) n L = 0
            · rw [if_pos q]
              refine ih x (N + 1) _ (by omega) (by omega) (Or.inr ⟨N, rfl, by omega, q, fun T hT hcT => ?_⟩)
              by_cases e : T = N
              · subst e; exact Or.inr ⟨rfl, Nat.le_refl _⟩
              · rcases hbest T (by omega) hcT with y | y
                · exact Or.inl (by omega)
                · exact Or.inl (by omega)
            · rw [if_neg q]
              refine ih x (N + 1) _ (by omega) (by omega) (Or.inr ⟨S, rfl, by omega, hc, fun T hT hcT => ?_⟩)
              by_cases e : T = N
              · subst e; exact absurd hcT q
              · exact hbest T (by omega) hcT
        · intro z
          have z1 : (nI S).toInt = (S : Int) := nI_toInt (by omega)
          rw [z] at z1
          have z4 : (-1 : Int32).toInt = -1 := by decide
          omega
  exact loop (2 ^ n) BG 0 (-1) (by omega) (by unfold BG; omega) (Or.inl ⟨rfl, fun S hS => by omega⟩)
/-- the model's clocks by lines -/
theorem clocks_m (h : RC C D 1 l0 l1) {L : Nat} (eL : C 6 0 = nI L) (es : C 25 0 = nI n) (hn : n ≤ 16) : ∃ X, f_X12_coverSet D = f_X12_coverSet_66 BG (-1) 0 X ∧ CvM C X n L ∧ fr [158] D X := by
  obtain ⟨s, hs, es2, em, ec, hl⟩ := rc_sh h
  have : s = n := (nI_eq (by omega) (by omega)).mp (es2.symm.trans es)
  subst this
  have inner : ∀ (K : Int32 → IM → IR) (i : Nat), i < s → ∀ (f c : Nat) (X : IM), c ≤ 24 → 24 - c < f → (∀ c' : Nat, c' < 32 → bt (X 158 i) c' = (decide (c' < c) && bt (C 27 i) c')) → fr [158] D X → ∃ X', f_X12_coverSet_19 K f (nI i) (nI c) X = K (nI (i + 1)) X' ∧ (∀ c' : Nat, c' < 24 → bt (X' 158 i) c' = bt (C 27 i) c') ∧ (∀ j : Nat, ¬ j = i → X' 158 j = X 158 j) ∧ fr [158] D X' := by
    intro K i hi f
    induction f with
    | zero => intro c X _ h; omega
    | succ f ih =>
      intro c X hc hf hx hX
      have hstep : f_X12_coverSet_19 K (f + 1) (nI i) (nI c) X = f_X12_coverSet_19_b K (f_X12_coverSet_19 K f) (nI i) (nI c) X := rfl
      rw [hstep]
      unfold f_X12_coverSet_19_b
      by_cases e : c = 24
      · subst e
        refine ⟨X, ?_, fun c' hc' => by rw [hx c' (by omega), decide_eq_true hc', Bool.true_and], fun _ _ => rfl, hX⟩
        rw [if_pos (by decide)]
        simp only [lt]
        rw [nI_1]
      · obtain ⟨u, f0, z, a1, a2, a3, a4, a5, a6, a7, a8, a9, -, a10⟩ := hl i hi
        have hb := a10 c (by omega)
        have ehs := hasShift_e (D := X) (i := i) (c := c) (f := f0) (k := z) (by omega) (by omega) a6 (by rw [hX 154 (by decide)]; exact a5) (by rw [hX 154 (by decide)]; exact a7) a9
        rw [← hb] at ehs
        rw [if_neg (show ¬ (24 : Int32) ≤ nI c from nI_ge (b := 24) (by omega) (by decide)), cl_s ehs]
        simp only [lt]
        by_cases q : bt (C 27 i) c = true
        · rw [if_pos q, if_neg (by decide), rdK (j := i) rfl (by omega) (by decide), wrK (j := i) rfl (by omega) (by decide), nI_1]
          obtain ⟨X', g1, g2, g3, g4⟩ := ih (c + 1) (ms X 158 i (X 158 i ||| ((1 : Int32) <<< (nI c &&& 31)))) (by omega) (by omega) (fun c' hc' => by
            rw [ms_it, b_or, hx c' hc', b_set (by omega) hc']
            by_cases ec : c' = c
            · subst ec
              have : c' < c' + 1 := by omega
              simp [q, this]
            · by_cases lt1 : c' < c
              · have : c' < c + 1 := by omega
                simp [ec, lt1, this]
              · have : ¬ c' < c + 1 := by omega
                simp [ec, lt1, this]) (fr_ms hX (by simp))
          exact ⟨X', g1, g2, fun j hj => by rw [g3 j hj, ms_at hj], g4⟩
        · rw [if_neg q, if_pos rfl, nI_1]
          exact ih (c + 1) X (by omega) (by omega) (fun c' hc' => by
            rw [hx c' hc']
            by_cases ec : c' = c
            · subst ec
              have : bt (C 27 i) c' = false := by simpa using q
              simp [this]
            · by_cases lt1 : c' < c
              · have : c' < c + 1 := by omega
                simp [lt1, this]
              · have : ¬ c' < c + 1 := by omega
                simp [lt1, this]) hX
  have outer : ∀ (f i : Nat) (X : IM), i ≤ s → s - i < f → (∀ j : Nat, j < i → ∀ c : Nat, c < 24 → bt (X 158 j) c = bt (C 27 j) c) → fr [158] D X → ∃ X', f_X12_coverSet_2 f (nI i) X = f_X12_coverSet_66 BG (-1) 0 X' ∧ (∀ j : Nat, j < s → ∀ c : Nat, c < 24 → bt (X' 158 j) c = bt (C 27 j) c) ∧ fr [158] D X' := by
    intro f
    induction f with
    | zero => intro i X _ h; omega
    | succ f ih =>
      intro i X hi hf hx hX
      have hstep : f_X12_coverSet_2 (f + 1) (nI i) X = f_X12_coverSet_2_b (f_X12_coverSet_2 f) (nI i) X := rfl
      rw [hstep]
      unfold f_X12_coverSet_2_b
      rw [hX 136 (by decide), em]
      by_cases e : i = s
      · subst e
        exact ⟨X, by rw [if_pos (Int32.le_refl _)], hx, hX⟩
      · rw [if_neg (nI_ge (by omega) (by omega)), wrK (j := i) rfl (by omega) (by decide)]
        obtain ⟨Y, y1, y2, y3, y4⟩ := inner (f_X12_coverSet_2 f) i (by omega) BG 0 (ms X 158 i 0) (by omega) (by unfold BG; omega) (fun c' hc' => by rw [ms_it, b_0]; simp) (fr_ms hX (by simp))
        obtain ⟨X', g1, g2, g3⟩ := ih (i + 1) Y (by omega) (by omega) (fun j hj c hc => by
          by_cases ej : j = i
          · subst ej; exact y2 c hc
          · rw [y3 j ej, ms_at ej]; exact hx j (by omega) c hc) y4
        exact ⟨X', Eq.trans y1 g1, g2, g3⟩
  obtain ⟨X, g1, g2, g3⟩ := outer BG 0 D (by omega) (by unfold BG; omega) (fun j hj => by omega) fr_rf
  refine ⟨X, g1, ⟨by rw [g3 136 (by decide)]; exact em, by rw [g3 136 (by decide), h.2.1.2.2.1]; exact eL, fun i hi => ?_, g2⟩, g3⟩
  obtain ⟨u, f0, z, a1, a2, a3, a4, -⟩ := hl i hi
  exact ⟨u, a4, a1, by rw [g3 154 (by decide)]; exact a2⟩
end COVM
theorem st_cover (p : Int32) : Stp2 Inv (f_X11_cover p) (f_X12_cover p) := by
  refine stp_d rfl ?_
  intro M l0 l1 hI hR
  by_cases hp : p < 0 ∨ 1 < p
  · refine ⟨-1, ?_, fun D hs hD => ?_⟩
    · unfold f_X11_cover
      exact ok_c (win_c _ _ _ M) (ok_t (i0 hp) ok_v)
    · exact ok_c (win_m _ _ _ D) (ok_t (i0 hp) ok_v)
  obtain ⟨n, hn, es, -, ec, hl⟩ := rc_sh hR
  obtain ⟨L, hL, eL⟩ := bnd_nI (n := 10) hR.2.1.2.2.2.2.2.1 (by decide)
  have hLn : LnOk M n := ⟨hn, es, fun i hi => by
    obtain ⟨u, f0, z, a1, a2, a3, a4, a5, a6, a7, a8, a9, a11, a10⟩ := hl i hi
    refine ⟨⟨u, a4, a1⟩, fun c h1 h2 => ?_⟩
    obtain ⟨x, hx, ex⟩ := bnd_nI (n := 16777215) a11 (by decide)
    rw [ex, bt_n h2, Nat.testBit_lt_two_pow (Nat.lt_of_lt_of_le (show x < 2 ^ 24 by omega) (Nat.pow_le_pow_right (by decide) h1))]⟩
  have hp16 : 2 ^ n ≤ 2 ^ 16 := Nat.pow_le_pow_right (by decide) hn
  obtain ⟨r, C1, c1, cr, cf⟩ := fewest_c hLn hL
  have hsC : same M C1 := same_fr (R := [28, 29]) cf (by decide)
  -- the model finds the same
  have mod : ∀ D, RC M D 1 l0 l1 → ∃ X, f_X12_coverSet D = some (r, X) ∧ fr [158] D X := fun D hD => by
    obtain ⟨X, x1, x2, x3⟩ := clocks_m hD eL es hn
    obtain ⟨b, b1, b2⟩ := best_m hn hL x2
    refine ⟨X, ?_, x3⟩
    rw [x1, b1]
    have : b = r := by
      rcases b2 with ⟨rfl, y2⟩ | ⟨S, rfl, y2, y3, y4⟩
      · rcases cr with ⟨rfl, z2⟩ | ⟨T, rfl, z2, z3, z4⟩
        · rfl
        · exact absurd z3 (y2 T z2)
      · rcases cr with ⟨rfl, z2⟩ | ⟨T, rfl, z2, z3, z4⟩
        · exact absurd y3 (z2 S y2)
        · have h1 := y4 T z2 z3
          have h2 := z4 S y2 y3
          have : S = T := by omega
          rw [this]
    rw [this]
  refine ⟨if p = 0 then (if r = -1 then r else bc r) else r, ?_, fun D hs hD => ?_⟩
  · unfold f_X11_cover
    refine ok_c (win_c _ _ _ M) (ok_f (i1 hp) ?_)
    rw [eL]
    refine ok_c c1 (ok_if (fun h => ok_if (fun h2 => ok_s ⟨by rw [if_pos h, if_pos h2], hsC⟩) (fun h2 => ok_c (bitCount_e _ _) (ok_s ⟨by rw [if_pos h, if_neg h2], hsC⟩))) (fun h => ok_s ⟨by rw [if_neg h], hsC⟩))
  · obtain ⟨X, x1, x2⟩ := mod D hD
    have hsX : same D X := same_fr (R := [158]) x2 (by decide)
    refine ok_c (win_m _ _ _ D) (ok_f (i1 hp) (ok_c x1 ?_))
    by_cases h1 : r = -1
    · refine ok_t h1 (ok_s ⟨?_, hsX⟩)
      by_cases h0 : p = 0
      · rw [if_pos h0, if_pos h1]
      · rw [if_neg h0]
    · refine ok_f h1 ?_
      rcases cr with ⟨z1, -⟩ | ⟨S, rfl, z2, -⟩
      · exact absurd z1 h1
      · have eb : bc (nI S) = nI (pcF 32 S) := by
          have e24 : pcF 24 S = onN n S := by
            rw [pc_ct]
            have := ctB_z (p := fun i => S.testBit i) (n := n) (m := 24 - n) (fun i h1 h2 => Nat.testBit_lt_two_pow (Nat.lt_of_lt_of_le z2 (Nat.pow_le_pow_right (by decide) h1)))
            rw [show n + (24 - n) = 24 by omega] at this
            exact this
          rw [bc_24 (by omega), on_pc hn z2, e24]
        have hp' := hp
        obtain ⟨j, hj, rfl⟩ := in_to (n := 1) (by decide) hp
        have : j = 0 ∨ j = 1 := by omega
        rcases this with rfl | rfl
        · refine ok_f (by decide) (ok_c (ones_m (by omega)) (ok_s ⟨?_, hsX⟩))
          rw [if_pos (show nI 0 = 0 from rfl), if_neg h1, eb]
        · exact ok_t rfl (ok_s ⟨by rw [if_neg (by decide)], hsX⟩)
