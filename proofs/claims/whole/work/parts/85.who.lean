/-! sets by bits, shifts, who goes -/
theorem b_1 (i : Nat) : bt 1 i = decide (i = 0) := by
  rcases Nat.lt_or_ge i 32 with h | h
  · exact (by decide +kernel : ∀ i, i < 32 → bt 1 i = decide (i = 0)) i h
  · rw [b_big h, decide_eq_false (by omega)]
theorem b_set {k i : Nat} (hk : k < 32) (hi : i < 32) : bt ((1 : Int32) <<< (nI k &&& 31)) i = decide (i = k) := by
  rw [b_shl k hk 1 hi, b_1]
  by_cases h : i = k
  · subst h; simp
  · by_cases h2 : k ≤ i
    · simp [h, h2]; omega
    · simp [h, h2]
theorem tst {x : Int32} {n : Nat} (hn : n < 32) : (x >>> (nI n &&& 31)) &&& 1 = if bt x n = true then 1 else 0 := by
  apply b_ext
  intro i hi
  rw [b_and, b_sshr n hn x hi, b_1]
  by_cases h0 : i = 0
  · subst h0
    by_cases hb : bt x n = true
    · rw [if_pos hb, if_pos (by omega), b_1]; simp [hb]
    · rw [if_neg hb, if_pos (by omega), b_0]; simp [hb]
  · by_cases hb : bt x n = true
    · rw [if_pos hb, b_1]; simp [h0]
    · rw [if_neg hb, b_0]; simp [h0]
theorem bt_n {k i : Nat} (hi : i < 32) : bt (nI k) i = k.testBit i := by
  show (BitVec.ofNat 32 k).getLsbD i = _
  rw [BitVec.getLsbD_ofNat]
  simp [hi]
def mk (p : Nat → Bool) : Nat → Int32
  | 0 => 0
  | n + 1 => if p n = true then mk p n ||| ((1 : Int32) <<< (nI n &&& 31)) else mk p n
theorem bt_mk {p : Nat → Bool} : ∀ {n : Nat}, n ≤ 32 → ∀ {i : Nat}, i < 32 → bt (mk p n) i = (decide (i < n) && p i)
  | 0, _, i, _ => by simp [mk, b_0]
  | n + 1, hn, i, hi => by
    have ih := bt_mk (p := p) (n := n) (by omega) hi
    unfold mk
    by_cases hp : p n = true
    · rw [if_pos hp, b_or, ih, b_set (by omega) hi]
      by_cases h : i = n
      · subst h; simp [hp]
      · by_cases h2 : i < n
        · simp [h2, h]; omega
        · have : ¬ i < n + 1 := by omega
          simp [h2, h, this]
    · rw [if_neg hp, ih]
      by_cases h : i = n
      · subst h; simp [hp]
      · by_cases h2 : i < n
        · have : i < n + 1 := by omega
          simp [h2, this]
        · have : ¬ i < n + 1 := by omega
          simp [h2, this]
def onS (wa ck : Nat → Int32) (w c : Nat) : Nat → Bool
  | 0 => false
  | i + 1 => onS wa ck w c i || (decide (wa i = nI w) && bt (ck i) c)
/-- has the walker w a shift at the clock c -/
def onSh (C : IM) (w c : Nat) : Bool := onS (C 26) (C 27) w c (C 25 0).toNatClampNeg
theorem clocksOf_l {M : IM} {s w : Nat} (hs : s ≤ 16) (es : M 25 0 = nI s) : ∀ (k n i : Nat) (x : Int32), i + k = s → k < n → (∀ c : Nat, c < 32 → bt x c = onS (M 26) (M 27) w c i) → Ok (f_X8_clocksOf_4 25 n (nI w) x (nI i) M) (fun r M1 => M1 = M ∧ ∀ c : Nat, c < 32 → bt r c = onS (M 26) (M 27) w c s) := by
  intro k
  induction k with
  | zero =>
    intro n i x hi hn hx
    obtain ⟨m, rfl⟩ : ∃ m, n = m + 1 := ⟨n - 1, by omega⟩
    show Ok (f_X8_clocksOf_4_b 25 (f_X8_clocksOf_4 25 m) (nI w) x (nI i) M) _
    unfold f_X8_clocksOf_4_b
    have : i = s := by omega
    subst this
    rw [es]
    exact ok_t (nI_le (Nat.le_refl _) (by omega)) (ok_s ⟨rfl, hx⟩)
  | succ k ih =>
    intro n i x hi hn hx
    obtain ⟨m, rfl⟩ : ∃ m, n = m + 1 := ⟨n - 1, by omega⟩
    show Ok (f_X8_clocksOf_4_b 25 (f_X8_clocksOf_4 25 m) (nI w) x (nI i) M) _
    unfold f_X8_clocksOf_4_b
    rw [es]
    refine ok_f (nI_ge (by omega) (by omega)) (ok_rd i rfl (by omega) (by decide) (ok_if (fun q => ok_rd i rfl (by omega) (by decide) (ok_lt (ok_lt ?_))) (fun q => ok_lt ?_)))
    · rw [nI_1]
      refine ih m (i + 1) _ (by omega) (by omega) (fun c hc => ?_)
      rw [b_or, hx c hc]
      show _ = (onS _ _ _ _ i || (decide (M 26 i = nI w) && bt (M 27 i) c))
      rw [show M 26 i = nI w from q]
      simp
    · rw [nI_1]
      refine ih m (i + 1) _ (by omega) (by omega) (fun c hc => ?_)
      rw [hx c hc]
      show _ = (onS _ _ _ _ i || (decide (M 26 i = nI w) && bt (M 27 i) c))
      have q : ¬ M 26 i = nI w := q
      simp [q]
section WHO
variable {C D : IM} {o : Nat} {l0 l1 : List LLn}
theorem rc_sh (h : RC C D o l0 l1) : ∃ s : Nat, s ≤ 16 ∧ C 25 0 = nI s ∧ D 136 38 = nI s ∧ (C 25 0).toNatClampNeg = s ∧ ∀ i : Nat, i < s → ∃ u f k : Nat, C 26 i = nI u ∧ D 154 (3 * i) = nI u ∧ (u : Int) < (C o 10).toInt ∧ u < 10 ∧ D 154 (3 * i + 1) = nI f ∧ f < 24 ∧ D 154 (3 * i + 2) = nI k ∧ 1 ≤ k ∧ k ≤ 24 ∧ bnd (C 27 i) 0 16777215 ∧ ∀ c : Nat, c < 24 → bt (C 27 i) c = decide ((c + 24 - f) % 24 < k) := by
  obtain ⟨⟨-, hO, -, -, -⟩, ⟨-, ⟨s1, s2, s3⟩, -⟩, -⟩ := h
  obtain ⟨s, hs, es⟩ := bnd_nI (n := 16) s2 (by decide)
  have ec : (C 25 0).toNatClampNeg = s := by rw [es, nI_clamp (by omega)]
  have hw := hO.2.2.2.2.1.2
  refine ⟨s, hs, es, by rw [s1, es], ec, fun i hi => ?_⟩
  obtain ⟨a1, a2, a3, a4, a5, a6, a7⟩ := s3 i (by rw [ec]; exact hi)
  obtain ⟨u, hu, eu⟩ := bnd_nI (x := C 26 i) (n := 9) ⟨a2, by omega⟩ (by decide)
  obtain ⟨f, hf, ef⟩ := bnd_nI (n := 23) a4 (by decide)
  obtain ⟨k, hk, ek⟩ := bnd_nI (x := D 154 (3 * i + 2)) (n := 24) ⟨by have := a5.1; omega, a5.2⟩ (by decide)
  have fi : (D 154 (3 * i + 1)).toInt = f := by rw [ef, nI_toInt (by omega)]
  have ki : (D 154 (3 * i + 2)).toInt = k := by rw [ek, nI_toInt (by omega)]
  refine ⟨u, f, k, eu, by rw [a1, eu], by rw [eu, nI_toInt (by omega)] at a3; exact a3, by omega, ef, by omega, ek, by have := a5.1; omega, hk, a6, fun c hc => ?_⟩
  obtain ⟨x, hx, ex⟩ := bnd_nI (n := 16777215) a6 (by decide)
  have := a7 c hc
  rw [fi, ki, ex, nI_toInt (by omega), Int.toNat_natCast] at this
  rw [ex, bt_n (by omega), this]
  unfold inSh
  apply decide_eq_decide.mpr
  have : ((c : Int) - f + 24) % 24 = (((c + 24 - f) % 24 : Nat) : Int) := by omega
  rw [this]
  omega
theorem clocksOf_c {w : Nat} (h : RC C D o l0 l1) : Ok (f_X8_clocksOf 25 (nI w) C) (fun r M1 => M1 = C ∧ ∀ c : Nat, c < 32 → bt r c = onSh C w c) := by
  obtain ⟨s, hs, es, -, ec, -⟩ := rc_sh h
  unfold f_X8_clocksOf
  refine ok_mono (clocksOf_l hs es s BG 0 0 (by omega) (by unfold BG; omega) (fun c _ => b_0 c)) (fun r M q => ⟨q.1, fun c hc => ?_⟩)
  rw [q.2 c hc]
  unfold onSh
  rw [ec]
theorem hasShift_e {i c f k : Nat} (hi : i < 16) (hc : c < 24) (hf : f < 24) (ef : D 154 (3 * i + 1) = nI f) (ek : D 154 (3 * i + 2) = nI k) (hk : k ≤ 24) : f_X12_hasShift (nI i) (nI c) D = some (if decide ((c + 24 - f) % 24 < k) = true then 1 else 0, D) := by
  unfold f_X12_hasShift
  have e3 : (3 : Int32) * nI i = nI (3 * i) := pk_mul 3 i
  rw [rdK (j := 3 * i + 1) (n := 96) (show (3 : Int32) * nI i + 1 = nI (3 * i + 1) by rw [e3, nI_1]) (by omega) (by decide), rdK (j := 3 * i + 2) (n := 96) (show (3 : Int32) * nI i + 2 = nI (3 * i + 2) by rw [e3]; exact nI_add _ 2) (by omega) (by decide), ef, ek]
  have e4 : nI c - nI f + 24 = nI (c + 24 - f) := by
    apply Int32.toInt_inj.mp
    have h1 : (nI c - nI f).toInt = (c : Int) - f := pk_sub_toInt (by omega) (by omega)
    have h2 : (24 : Int32).toInt = 24 := by decide
    rw [Int32.toInt_add, h1, h2, nI_toInt (by omega), Int.bmod_eq_of_le (by omega) (by omega)]
    omega
  have e5 : nI (c + 24 - f) - nI (c + 24 - f) / 24 * 24 = nI ((c + 24 - f) % 24) := pk_rem (d := 24) (by omega) (by decide) (by decide)
  rw [e4, e5]
  by_cases h : (c + 24 - f) % 24 < k
  · rw [if_neg (nI_ge h (by omega))]; simp [h]
  · rw [if_pos (nI_le (by omega) (by omega))]; simp [h]
theorem shiftsAt_m {c : Nat} (h : RC C D o l0 l1) (hc : c < 24) : Ok (f_X12_shiftsAt (nI c) D) (fun r M1 => M1 = D ∧ ∀ w : Nat, w < 32 → bt r w = onSh C w c) := by
  obtain ⟨s, hs, es, em, ec, hl⟩ := rc_sh h
  have loop : ∀ (k n i : Nat) (x : Int32), i + k = s → k < n → (∀ w : Nat, w < 32 → bt x w = onS (C 26) (C 27) w c i) → Ok (f_X12_shiftsAt_4 n (nI c) x (nI i) D) (fun r M1 => M1 = D ∧ ∀ w : Nat, w < 32 → bt r w = onS (C 26) (C 27) w c s) := by
    intro k
    induction k with
    | zero =>
      intro n i x hi hn hx
      obtain ⟨m, rfl⟩ : ∃ m, n = m + 1 := ⟨n - 1, by omega⟩
      show Ok (f_X12_shiftsAt_4_b (f_X12_shiftsAt_4 m) (nI c) x (nI i) D) _
      unfold f_X12_shiftsAt_4_b
      have : i = s := by omega
      subst this
      rw [em]
      exact ok_t (nI_le (Nat.le_refl _) (by omega)) (ok_s ⟨rfl, hx⟩)
    | succ k ih =>
      intro n i x hi hn hx
      obtain ⟨m, rfl⟩ : ∃ m, n = m + 1 := ⟨n - 1, by omega⟩
      show Ok (f_X12_shiftsAt_4_b (f_X12_shiftsAt_4 m) (nI c) x (nI i) D) _
      unfold f_X12_shiftsAt_4_b
      rw [em]
      obtain ⟨u, f, z, a1, a2, a3, a4, a5, a6, a7, a8, a9, -, a10⟩ := hl i (by omega)
      have hb := a10 c hc
      refine ok_f (nI_ge (by omega) (by omega)) (ok_c (hasShift_e (by omega) hc a6 a5 a7 a9) ?_)
      rw [← hb]
      refine ok_if (fun q => ok_lt ?_) (fun q => ok_rv (3 * i) (nI u) (pk_mul 3 i) (by omega) (by decide) a2 (ok_lt (ok_lt ?_)))
      · have q : bt (C 27 i) c = false := by
          cases hq : bt (C 27 i) c with
          | false => rfl
          | true => rw [hq] at q; exact absurd q (by decide)
        rw [nI_1]
        refine ih m (i + 1) _ (by omega) (by omega) (fun w hw => ?_)
        rw [hx w hw]
        show _ = (onS _ _ _ _ i || (decide (C 26 i = nI w) && bt (C 27 i) c))
        rw [q]
        simp
      · have q : bt (C 27 i) c = true := by
          cases hq : bt (C 27 i) c with
          | true => rfl
          | false => rw [hq] at q; exact absurd rfl q
        rw [nI_1]
        refine ih m (i + 1) _ (by omega) (by omega) (fun w hw => ?_)
        rw [b_or, hx w hw, b_set (by omega) hw]
        show _ = (onS _ _ _ _ i || (decide (C 26 i = nI w) && bt (C 27 i) c))
        rw [q, a1, Bool.and_true]
        congr 1
        apply decide_eq_decide.mpr
        rw [nI_eq (by omega) (by omega)]
        omega
  unfold f_X12_shiftsAt
  refine ok_mono (loop s BG 0 0 (by omega) (by unfold BG; omega) (fun w _ => b_0 w)) (fun r M q => ⟨q.1, fun w hw => ?_⟩)
  rw [q.2 w hw]
  unfold onSh
  rw [ec]
theorem clk_n (h : RC C D o l0 l1) : ∃ c : Nat, c < 24 ∧ clk (C o) = nI c ∧ (clk (C o)).toNatClampNeg = c := by
  obtain ⟨x, hx, ex⟩ := bnd_nI (n := 20000) h.1.2.1.1 (by decide)
  have : clk (C o) = nI (x % 24) := by
    unfold clk
    rw [ex]
    exact pk_rem (d := 24) (by omega) (by decide) (by decide)
  exact ⟨x % 24, by omega, this, by rw [this, nI_clamp (by omega)]⟩
/-- does the walker w go now -/
def goB (C : IM) (o : Nat) (l0 : List LLn) (w : Nat) : Bool := onSh C w (clk (C o)).toNatClampNeg && gd (vC C o (clk (C o)) w) l0
/-- who go, as a set -/
def goS (C : IM) (o : Nat) (l0 : List LLn) : Int32 := mk (goB C o l0) (C o 10).toNatClampNeg
theorem walk_n (h : RC C D o l0 l1) : ∃ n : Nat, n ≤ 10 ∧ C o 10 = nI n ∧ D 136 6 = nI n ∧ (C o 10).toNatClampNeg = n := by
  obtain ⟨n, hn, en⟩ := bnd_nI (n := 10) h.1.2.1.2.2.2.2.1 (by decide)
  exact ⟨n, hn, en, by rw [h.1.2.2.2.1, en], by rw [en, nI_clamp (by omega)]⟩
theorem row_a {M : IM} (hf : fr [120, 121] C M) {q : Nat} (hq : q < 120 ∨ 121 < q) : M q = C q := hf q (by simp; omega)
theorem vC_a {M : IM} {c : Int32} {w : Nat} (ho : o = 1 ∨ o = 122) (hf : fr [120, 121] C M) : vC M o c w = vC C o c w := by
  unfold vC
  rw [row_a hf (q := o) (by omega), row_a hf (q := o + 1) (by omega), row_a hf (q := o + 2) (by omega), row_a hf (q := o + 3) (by omega), row_a hf (q := o + 4) (by omega), row_a hf (q := 20) (by omega), row_a hf (q := 21) (by omega), row_a hf (q := 22) (by omega), row_a hf (q := 23) (by omega)]
theorem onSh_a {M : IM} {w c : Nat} (hf : fr [120, 121] C M) : onSh M w c = onSh C w c := by
  unfold onSh
  rw [row_a hf (q := 25) (by omega), row_a hf (q := 26) (by omega), row_a hf (q := 27) (by omega)]
theorem RC_a {M : IM} (ho : o = 1 ∨ o = 122) (hf : fr [120, 121] C M) (h : RC C D o l0 l1) : RC M D o l0 l1 := RC_fr (R := [120, 121]) (R' := []) ho hf fr_rf (by simp) (by simp) h
theorem RC_m {M : IM} (ho : o = 1 ∨ o = 122) (hf : fr [155, 156] D M) (h : RC C D o l0 l1) : RC C M o l0 l1 := RC_fr (R := []) (R' := [155, 156]) ho fr_rf hf (by simp) (by simp) h
theorem whoGo_c (ho : o = 1 ∨ o = 122) (h : RC C D o l0 l1) : Ok (f_X11_whoGo o C) (fun r M1 => r = goS C o l0 ∧ fr [120, 121] C M1) := by
  obtain ⟨n, hn, en, -, ecn⟩ := walk_n h
  obtain ⟨c, hc, ec, ecc⟩ := clk_n h
  have loop : ∀ (k f i : Nat) (M : IM), i + k = n → k < f → fr [120, 121] C M → Ok (f_X11_whoGo_13 o f (nI c) (mk (goB C o l0) i) (nI i) M) (fun r M1 => r = mk (goB C o l0) n ∧ fr [120, 121] C M1) := by
    intro k
    induction k with
    | zero =>
      intro f i M hi hf hM
      obtain ⟨m, rfl⟩ : ∃ m, f = m + 1 := ⟨f - 1, by omega⟩
      show Ok (f_X11_whoGo_13_b o (f_X11_whoGo_13 o m) (nI c) _ (nI i) M) _
      unfold f_X11_whoGo_13_b
      have : i = n := by omega
      subst this
      rw [row_a hM (q := o) (by omega), en]
      exact ok_t (nI_le (Nat.le_refl _) (by omega)) (ok_s ⟨rfl, hM⟩)
    | succ k ih =>
      intro f i M hi hf hM
      obtain ⟨m, rfl⟩ : ∃ m, f = m + 1 := ⟨f - 1, by omega⟩
      show Ok (f_X11_whoGo_13_b o (f_X11_whoGo_13 o m) (nI c) _ (nI i) M) _
      unfold f_X11_whoGo_13_b
      have hR := RC_a ho hM h
      rw [row_a hM (q := o) (by omega), en]
      have next0 : ∀ M1, fr [120, 121] C M1 → goB C o l0 i = false → Ok (f_X11_whoGo_13 o m (nI c) (mk (goB C o l0) i) (nI i + 1) M1) (fun r M1 => r = mk (goB C o l0) n ∧ fr [120, 121] C M1) := fun M1 h1 hq => by
        rw [nI_1]
        have := ih m (i + 1) M1 (by omega) (by omega) h1
        rw [show mk (goB C o l0) (i + 1) = mk (goB C o l0) i by simp [mk, hq]] at this
        exact this
      refine ok_f (nI_ge (by omega) (by omega)) (ok_cl (clocksOf_c hR) (fun r M1 q => ?_))
      obtain ⟨rfl, q⟩ := q
      have q := q c (by omega)
      rw [onSh_a hM] at q
      rw [tst (by omega), q]
      by_cases hs : onSh C i c = true
      · rw [if_pos hs]
        refine ok_f (by decide) (ok_cl (meet_r ho hR (w := i) (by omega)) (fun r M2 q2 => ok_cl (mayGo_c hR (fr_sub q2.1 (by simp)) q2.2) (fun r M3 q3 => ?_)))
        obtain ⟨rfl, f3⟩ := q3
        have hf3 : fr [120, 121] C M3 := fr_tr hM (fr_a q2.1 f3)
        rw [vC_a ho hM, row_a hM (q := o) (by omega)]
        by_cases hg : gd (vC C o (clk (C o)) i) l0 = true
        · rw [if_pos hg]
          have hB : goB C o l0 i = true := by unfold goB; rw [ecc, hs, hg]; rfl
          refine ok_f (by decide) (ok_lt (ok_lt ?_))
          rw [nI_1]
          have := ih m (i + 1) M3 (by omega) (by omega) hf3
          rw [show mk (goB C o l0) (i + 1) = mk (goB C o l0) i ||| ((1 : Int32) <<< (nI i &&& 31)) by simp [mk, hB]] at this
          exact this
        · rw [if_neg hg]
          exact ok_t rfl (ok_lt (next0 M3 hf3 (by unfold goB; rw [ecc, hs]; simpa using hg)))
      · rw [if_neg hs]
        exact ok_t rfl (ok_lt (next0 M1 hM (by unfold goB; rw [ecc]; simp [hs])))
  unfold f_X11_whoGo goS
  refine ok_lt ?_
  show Ok (f_X11_whoGo_13 o BG (clk (C o)) 0 0 C) _
  rw [ec, ecn]
  exact loop n BG 0 C (by omega) (by unfold BG; omega) fr_rf
theorem goers_m (ho : o = 1 ∨ o = 122) (h : RC C D o l0 l1) : Ok (f_X12_goers D) (fun r M1 => r = goS C o l0 ∧ fr [155, 156] D M1) := by
  obtain ⟨n, hn, en, em, ecn⟩ := walk_n h
  obtain ⟨c, hc, ec, ecc⟩ := clk_n h
  have loop : ∀ (k f i : Nat) (M : IM), i + k = n → k < f → fr [155, 156] D M → Ok (f_X12_goers_4 f (mk (goB C o l0) i) (nI i) M) (fun r M1 => r = mk (goB C o l0) n ∧ fr [155, 156] D M1) := by
    intro k
    induction k with
    | zero =>
      intro f i M hi hf hM
      obtain ⟨m, rfl⟩ : ∃ m, f = m + 1 := ⟨f - 1, by omega⟩
      show Ok (f_X12_goers_4_b (f_X12_goers_4 m) _ (nI i) M) _
      unfold f_X12_goers_4_b
      have : i = n := by omega
      subst this
      rw [hM 136 (by decide), em]
      exact ok_t (nI_le (Nat.le_refl _) (by omega)) (ok_s ⟨rfl, hM⟩)
    | succ k ih =>
      intro f i M hi hf hM
      obtain ⟨m, rfl⟩ : ∃ m, f = m + 1 := ⟨f - 1, by omega⟩
      show Ok (f_X12_goers_4_b (f_X12_goers_4 m) _ (nI i) M) _
      unfold f_X12_goers_4_b
      have hR := RC_m ho hM h
      rw [hM 136 (by decide), em]
      have next0 : ∀ M1, fr [155, 156] D M1 → goB C o l0 i = false → Ok (f_X12_goers_4 m (mk (goB C o l0) i) (nI i + 1) M1) (fun r M1 => r = mk (goB C o l0) n ∧ fr [155, 156] D M1) := fun M1 h1 hq => by
        rw [nI_1]
        have := ih m (i + 1) M1 (by omega) (by omega) h1
        rw [show mk (goB C o l0) (i + 1) = mk (goB C o l0) i by simp [mk, hq]] at this
        exact this
      refine ok_f (nI_ge (by omega) (by omega)) (ok_c (clockNow_e hR) ?_)
      rw [ec]
      refine ok_cl (shiftsAt_m hR hc) (fun r M1 q => ?_)
      obtain ⟨rfl, q⟩ := q
      have q := q i (by omega)
      rw [tst (by omega), q]
      by_cases hs : onSh C i c = true
      · rw [if_pos hs]
        refine ok_t rfl (ok_cl (doesGo_m ho hR (w := i) (by omega)) (fun r M2 q2 => ?_))
        obtain ⟨rfl, f3⟩ := q2
        have hf3 : fr [155, 156] D M2 := fr_tr hM f3
        by_cases hg : gd (vC C o (clk (C o)) i) l0 = true
        · rw [if_pos hg]
          have hB : goB C o l0 i = true := by unfold goB; rw [ecc, hs, hg]; rfl
          refine ok_f (by decide) (ok_lt (ok_lt ?_))
          rw [nI_1]
          have := ih m (i + 1) M2 (by omega) (by omega) hf3
          rw [show mk (goB C o l0) (i + 1) = mk (goB C o l0) i ||| ((1 : Int32) <<< (nI i &&& 31)) by simp [mk, hB]] at this
          exact this
        · rw [if_neg hg]
          exact ok_t rfl (ok_lt (next0 M2 hf3 (by unfold goB; rw [ecc, hs]; simpa using hg)))
      · rw [if_neg hs]
        exact ok_f (by decide) (ok_lt (next0 M1 hM (by unfold goB; rw [ecc]; simp [hs])))
  unfold f_X12_goers goS
  rw [ecn]
  exact loop n BG 0 D (by omega) (by unfold BG; omega) fr_rf
theorem clocksOf_m {w : Nat} (hw : w < 32) (h : RC C D o l0 l1) : Ok (f_X12_clocksOf (nI w) D) (fun r M1 => r = mk (onSh C w) 24 ∧ M1 = D) := by
  have loop : ∀ (k f i : Nat), i + k = 24 → k < f → Ok (f_X12_clocksOf_4 f (nI w) (mk (onSh C w) i) (nI i) D) (fun r M1 => r = mk (onSh C w) 24 ∧ M1 = D) := by
    intro k
    induction k with
    | zero =>
      intro f i hi hf
      obtain ⟨m, rfl⟩ : ∃ m, f = m + 1 := ⟨f - 1, by omega⟩
      show Ok (f_X12_clocksOf_4_b (f_X12_clocksOf_4 m) (nI w) _ (nI i) D) _
      unfold f_X12_clocksOf_4_b
      have : i = 24 := by omega
      subst this
      exact ok_t (by decide) (ok_s ⟨rfl, rfl⟩)
    | succ k ih =>
      intro f i hi hf
      obtain ⟨m, rfl⟩ : ∃ m, f = m + 1 := ⟨f - 1, by omega⟩
      show Ok (f_X12_clocksOf_4_b (f_X12_clocksOf_4 m) (nI w) _ (nI i) D) _
      unfold f_X12_clocksOf_4_b
      refine ok_f (nI_ge (b := 24) (by omega) (by decide)) (ok_cl (shiftsAt_m h (c := i) (by omega)) (fun r M1 q => ?_))
      obtain ⟨rfl, q⟩ := q
      rw [tst hw, q w hw]
      by_cases hs : onSh C w i = true
      · rw [if_pos hs]
        refine ok_t rfl (ok_lt (ok_lt ?_))
        rw [nI_1]
        have := ih m (i + 1) (by omega) (by omega)
        rw [show mk (onSh C w) (i + 1) = mk (onSh C w) i ||| ((1 : Int32) <<< (nI i &&& 31)) by simp [mk, hs]] at this
        exact this
      · rw [if_neg hs]
        refine ok_f (by decide) (ok_lt ?_)
        rw [nI_1]
        have := ih m (i + 1) (by omega) (by omega)
        rw [show mk (onSh C w) (i + 1) = mk (onSh C w) i by simp [mk, hs]] at this
        exact this
  unfold f_X12_clocksOf
  exact loop 24 BG 0 (by omega) (by unfold BG; omega)
theorem onS_big (h : RC C D o l0 l1) {w c : Nat} (hc : 24 ≤ c) (hc2 : c < 32) : onSh C w c = false := by
  obtain ⟨s, hs, es, em, ec, hl⟩ := rc_sh h
  have : ∀ i : Nat, i ≤ s → onS (C 26) (C 27) w c i = false := by
    intro i
    induction i with
    | zero => intro _; rfl
    | succ i ih =>
      intro hi
      obtain ⟨-, -, -, -, -, -, -, -, -, -, -, -, a, -⟩ := hl i (by omega)
      obtain ⟨x, hx, ex⟩ := bnd_nI (n := 16777215) a (by decide)
      show (onS _ _ _ _ i || (decide (C 26 i = nI w) && bt (C 27 i) c)) = false
      rw [ih (by omega), ex, bt_n hc2, Nat.testBit_lt_two_pow (Nat.lt_of_lt_of_le (show x < 2 ^ 24 by omega) (Nat.pow_le_pow_right (by decide) hc))]
      simp
  unfold onSh
  rw [ec]
  exact this s (Nat.le_refl _)
theorem clocksOf_c2 {w : Nat} (h : RC C D o l0 l1) : Ok (f_X8_clocksOf 25 (nI w) C) (fun r M1 => r = mk (onSh C w) 24 ∧ M1 = C) := by
  refine ok_mono (clocksOf_c h) (fun r M q => ⟨b_ext (fun i hi => ?_), q.1⟩)
  rw [q.2 i hi, bt_mk (by decide) hi]
  by_cases h24 : i < 24
  · simp [h24]
  · rw [onS_big h (by omega) hi]; simp [h24]
end WHO
theorem RC_same {M D : IM} {l0 l1 : List LLn} (hs : same M D) (h : RC M M 1 l0 l1) : RC M D 1 l0 l1 := by
  obtain ⟨hr, hc, -⟩ := hs
  have r : ∀ q : Nat, q = 137 ∨ q = 140 ∨ (145 ≤ q ∧ q ≤ 151) ∨ q = 153 ∨ q = 154 → D q = M q := fun q hq => hr q (by omega)
  obtain ⟨h1, h2, h3, h4, h5, h6, h7, h8⟩ := h
  refine ⟨?_, ?_, h3, h4, ?_, ?_, h7, h8⟩
  · unfold RCa at *
    rw [r 137 (by omega), r 140 (by omega), hc 6 (by decide)]
    exact h1
  · unfold RCb at *
    rw [r 153 (by omega), r 154 (by omega), hc 8 (by decide), hc 9 (by decide), hc 10 (by decide), hc 36 (by decide), hc 38 (by decide)]
    exact h2
  · unfold LwM at *
    rw [r 145 (by omega), r 146 (by omega), r 147 (by omega), r 148 (by omega), r 149 (by omega), r 150 (by omega), r 151 (by omega)]
    exact h5
  · unfold LwM at *
    rw [r 145 (by omega), r 146 (by omega), r 147 (by omega), r 148 (by omega), r 149 (by omega), r 150 (by omega), r 151 (by omega)]
    exact h6
/-- a step out of a query, where the model's call begins with told = 0 -/
theorem stp_c {f g g' : IM → IR} (hg : ∀ M, g M = g' (ms M 136 0 0)) (h : ∀ M l0 l1, Inv M → RC M M 1 l0 l1 → ∃ v : Int32, Ok (f M) (fun r M1 => r = v ∧ same M M1) ∧ ∀ D, same M D → RC M D 1 l0 l1 → Ok (g' D) (fun r M2 => r = v ∧ same D M2)) : Stp2 Inv f g := by
  apply stp_q
  intro M hI
  obtain ⟨l0, l1, hR⟩ := RC_of hI
  obtain ⟨v, h1, h2⟩ := h M l0 l1 hI hR
  refine ⟨v, h1, fun M1 hs => ?_⟩
  have hs2 : same M (ms M1 136 0 0) := same_tr hs same_told
  rw [hg]
  exact ok_mono (h2 _ hs2 (RC_same hs2 hR)) (fun r M2 q => ⟨q.1, same_tr same_told q.2⟩)
