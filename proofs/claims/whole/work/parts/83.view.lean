/-! a walker as a law is told of him: nine numbers, on both sides -/
def vw (n : Nat → Int32) (c pa la fe ro : Int32) (r rp rh rr : Nat → Int32) (i : Nat) : Int32 :=
  if i = 0 then fe else if i = 1 then ro else if i = 2 then la else if i = 3 then c else if i = 4 then n 1 / 24 else if i = 5 then (if n 2 < r 0 ∧ rp (n 2).toNatClampNeg = pa then 1 else 0) else if i = 6 then n 2 else if i = 7 then (if n 2 < r 0 ∧ ¬ n 3 < rh (n 2).toNatClampNeg - rr (n 2).toNatClampNeg then 1 else 0) else n 8
def vC (M : IM) (o : Nat) (c : Int32) (w : Nat) : Nat → Int32 := vw (M o) c (M (o + 1) w) (M (o + 2) w) (M (o + 3) w) (M (o + 4) w) (M 20) (M 21) (M 22) (M 23)
def clk (n : Nat → Int32) : Int32 := n 1 - n 1 / 24 * 24
theorem setFeet_e (a b : Int32) (M : IM) : f_X0_setFeet a b M = some (0, ms (ms M 120 0 a) 120 1 b) := by
  unfold f_X0_setFeet
  rw [wrK (i := 0) (j := 0) (n := 9) rfl (by decide) (by decide), wrK (i := 1) (j := 1) (n := 9) rfl (by decide) (by decide)]
theorem setHour_e (a : Int32) (M : IM) : f_X0_setHour a M = some (0, ms (ms M 120 3 (a - a / 24 * 24)) 120 4 (a / 24)) := by
  unfold f_X0_setHour
  rw [wrK (i := 3) (j := 3) (n := 9) rfl (by decide) (by decide), wrK (i := 4) (j := 4) (n := 9) rfl (by decide) (by decide)]
theorem setClock_e (a : Int32) (M : IM) : f_X0_setClock a M = some (0, ms M 120 3 a) := by
  unfold f_X0_setClock
  rw [wrK (i := 3) (j := 3) (n := 9) rfl (by decide) (by decide)]
/-- where the saint is, if there is a round -/
theorem leg_in {n r hr : Nat → Int32} (h : OkL n r hr) (hb : bnd (r 0) 0 8) (hc : ¬ r 0 ≤ n 2) : ∃ l : Nat, l < 8 ∧ n 2 = nI l ∧ l < (r 0).toNatClampNeg := by
  rcases h with ⟨h1, h2, h3⟩ | ⟨h1, h2, h3, h4⟩
  · rw [h1, h2] at hc; exact absurd (by decide) hc
  · obtain ⟨s, hs, es⟩ := bnd_nI (n := 8) hb (by decide)
    have hs2 : (r 0).toInt = s := by rw [es, nI_toInt (by omega)]
    refine ⟨(n 2).toInt.toNat, by omega, Int32.toInt_inj.mp ?_, ?_⟩
    · rw [nI_toInt (by omega)]; omega
    · rw [es, nI_clamp (by omega)]; omega
theorem isRiver_e {M : IM} {n : Nat → Int32} (hL : OkL n (M 20) (M 22)) (hb : bnd (M 20 0) 0 8) : f_X7_isRiver 20 (n 2) (n 3) M = some (if n 2 < M 20 0 ∧ ¬ n 3 < M 22 (n 2).toNatClampNeg - M 23 (n 2).toNatClampNeg then 1 else 0, M) := by
  unfold f_X7_isRiver
  by_cases hc : M 20 0 ≤ n 2
  · rw [if_pos hc, if_neg (fun q => absurd q.1 (Int32.not_lt.mpr hc))]
  · obtain ⟨l, hl, el, -⟩ := leg_in hL hb hc
    rw [if_neg hc, rdK (j := l) (n := 8) el hl (by decide), rdK (j := l) (n := 8) el hl (by decide)]
    have e2 : (n 2).toNatClampNeg = l := by rw [el, nI_clamp (by omega)]
    rw [e2]
    by_cases h3 : n 3 < M 22 l - M 23 l
    · rw [if_pos h3, if_neg (fun q => q.2 h3)]
    · rw [if_neg h3, if_pos ⟨Int32.not_le.mp hc, h3⟩]
theorem c9 {f g : Nat → Int32} (h : f 0 = g 0 ∧ f 1 = g 1 ∧ f 2 = g 2 ∧ f 3 = g 3 ∧ f 4 = g 4 ∧ f 5 = g 5 ∧ f 6 = g 6 ∧ f 7 = g 7 ∧ f 8 = g 8) : ∀ i : Nat, i < 9 → f i = g i := by
  obtain ⟨h0, h1, h2, h3, h4, h5, h6, h7, h8⟩ := h
  intro i hi
  match i, hi with
  | 0, _ => exact h0
  | 1, _ => exact h1
  | 2, _ => exact h2
  | 3, _ => exact h3
  | 4, _ => exact h4
  | 5, _ => exact h5
  | 6, _ => exact h6
  | 7, _ => exact h7
  | 8, _ => exact h8
theorem meet87_c {M M' : IM} {o : Nat} {y : Int32} {V : Nat → Int32} (ho : ¬ o = 120) (hL : OkL (M o) (M 20) (M 22)) (hb : bnd (M 20 0) 0 8) (hf : fr [120] M M') (h04 : M' 120 0 = V 0 ∧ M' 120 1 = V 1 ∧ M' 120 2 = V 2 ∧ M' 120 3 = V 3 ∧ M' 120 4 = V 4) (h5 : V 5 = y) (h6 : V 6 = M o 2) (h7 : V 7 = if M o 2 < M 20 0 ∧ ¬ M o 3 < M 22 (M o 2).toNatClampNeg - M 23 (M o 2).toNatClampNeg then 1 else 0) (h8 : V 8 = M o 8) : Ok (f_X0_meet_87 o 20 5 y M') (fun _ M1 => fr [120] M M1 ∧ ∀ i : Nat, i < 9 → M1 120 i = V i) := by
  unfold f_X0_meet_87
  have eo : M' o = M o := hf o (by simpa using ho)
  refine ok_wr 5 rfl (by decide) (by decide) ?_
  rw [ms_ne ho, eo]
  refine ok_wr 6 rfl (by decide) (by decide) ?_
  rw [ms_ne ho, ms_ne ho, eo]
  generalize hA : ms (ms M' 120 5 y) 120 6 (M o 2) = A
  have fA : fr [120] M A := by rw [← hA]; exact fr_ms (fr_ms hf (by decide)) (by decide)
  have eA : f_X7_isRiver 20 (M o 2) (M o 3) A = _ := isRiver_e (M := A) (n := M o) (by rw [fA 20 (by decide), fA 22 (by decide)]; exact hL) (by rw [fA 20 (by decide)]; exact hb)
  rw [fA 20 (by decide), fA 22 (by decide), fA 23 (by decide), ← h7] at eA
  refine ok_c eA ?_
  have fin : ∀ z : Int32, V 7 = z → Ok (f_X0_meet_125 o 20 7 z A) (fun _ M1 => fr [120] M M1 ∧ ∀ i : Nat, i < 9 → M1 120 i = V i) := fun z hz => by
    unfold f_X0_meet_125
    refine ok_wr 7 rfl (by decide) (by decide) ?_
    rw [ms_ne ho, fA o (by simpa using ho)]
    refine ok_wr 8 rfl (by decide) (by decide) (ok_s ⟨fr_ms (fr_ms fA (by decide)) (by decide), c9 ?_⟩)
    rw [← hA]
    obtain ⟨a0, a1, a2, a3, a4⟩ := h04
    simp [ms, a0, a1, a2, a3, a4, h5, h6, hz, h8]
  rcases (show V 7 = 0 ∨ V 7 = 1 by rw [h7]; split <;> simp) with q | q
  · rw [q]; exact ok_t rfl (fin 0 q)
  · rw [q]; exact ok_f (by decide) (fin 1 q)
theorem meet_c {M : IM} {o w : Nat} (ho : o < 100 ∨ 121 < o) (hw : w < 10) (hL : OkL (M o) (M 20) (M 22)) (hb : bnd (M 20 0) 0 8) : Ok (f_X0_meet o 20 (nI w) M) (fun _ M1 => fr [120] M M1 ∧ ∀ i : Nat, i < 9 → M1 120 i = vC M o (clk (M o)) w i) := by
  unfold f_X0_meet
  refine ok_rd w rfl hw (by decide) (ok_rd w rfl hw (by decide) (ok_c (setFeet_e _ _ _) ?_))
  rw [ms_ne (show ¬ o = 120 by omega), ms_ne (show ¬ o = 120 by omega)]
  refine ok_c (setHour_e _ _) (ok_rd w rfl hw (by decide) (ok_wr 2 rfl (by decide) (by decide) ?_))
  generalize hB : ms (ms (ms (ms M 120 0 (M (o + 3) w)) 120 1 (M (o + 4) w)) 120 3 (M o 1 - M o 1 / 24 * 24)) 120 4 (M o 1 / 24) = B
  have fB : fr [120] M B := by rw [← hB]; exact fr_ms (fr_ms (fr_ms (fr_ms fr_rf (by decide)) (by decide)) (by decide)) (by decide)
  generalize hA : ms B 120 2 (B (o + 2) w) = A
  have fA : fr [120] M A := by rw [← hA]; exact fr_ms fB (by decide)
  have n120 : ∀ q : Nat, ¬ q = 120 → q ∉ [120] := fun q hq => by simpa using hq
  have h04 : A 120 0 = vC M o (clk (M o)) w 0 ∧ A 120 1 = vC M o (clk (M o)) w 1 ∧ A 120 2 = vC M o (clk (M o)) w 2 ∧ A 120 3 = vC M o (clk (M o)) w 3 ∧ A 120 4 = vC M o (clk (M o)) w 4 := by
    rw [← hA, fB (o + 2) (n120 _ (by omega)), ← hB]
    simp [ms, vC, vw, clk]
  rw [fA 20 (by decide), fA o (n120 _ (by omega))]
  refine ok_if (fun hc => ?_) (fun hc => ?_)
  · unfold f_X0_meet_70
    refine ok_t rfl (meet87_c (by omega) hL hb fA h04 ?_ rfl rfl rfl)
    show (if M o 2 < M 20 0 ∧ _ then (1 : Int32) else 0) = 0
    rw [if_neg (fun q => absurd q.1 (Int32.not_lt.mpr hc))]
  · obtain ⟨l, hl, el, -⟩ := leg_in hL hb hc
    have e2 : (M o 2).toNatClampNeg = l := by rw [el, nI_clamp (by omega)]
    refine ok_rv l (M 21 l) el hl (by decide) (by rw [fA 21 (by decide)]) (ok_rv w (M (o + 1) w) rfl hw (by decide) (by rw [fA (o + 1) (n120 _ (by omega))]) ?_)
    unfold f_X0_meet_70
    refine ok_if (fun q => ok_f (by decide) (meet87_c (by omega) hL hb fA h04 ?_ rfl rfl rfl)) (fun q => ok_t rfl (meet87_c (by omega) hL hb fA h04 ?_ rfl rfl rfl))
    · show (if M o 2 < M 20 0 ∧ M 21 (M o 2).toNatClampNeg = M (o + 1) w then (1 : Int32) else 0) = 1
      rw [e2, if_pos ⟨Int32.not_le.mp hc, q⟩]
    · show (if M o 2 < M 20 0 ∧ M 21 (M o 2).toNatClampNeg = M (o + 1) w then (1 : Int32) else 0) = 0
      rw [e2, if_neg (fun z => q z.2)]
/-- a Now's bounds, also in thought -/
def OkH (n pa la fe ro : Nat → Int32) : Prop := bnd (n 1) 0 20000 ∧ bnd (n 4) 0 ((n 1).toInt + 1) ∧ bnd (n 8) 0 9999 ∧ bnd (n 9) 0 150 ∧ bnd (n 10) 0 10 ∧ ∀ w : Nat, w < 10 → bnd (pa w) 0 7 ∧ bnd (la w) 0 1 ∧ bnd (fe w) 0 999 ∧ bnd (ro w) 0 999
/-- the class's memory C with the Now o, and the model's D, say the same; l0, l1: the laws -/
def RCa (C D : IM) (o : Nat) : Prop := RNw (C o) (C (o + 1)) (C (o + 3)) (C (o + 4)) (D 137) ∧ OkH (C o) (C (o + 1)) (C (o + 2)) (C (o + 3)) (C (o + 4)) ∧ OkL (C o) (C 20) (C 22) ∧ D 136 6 = C o 10 ∧ (∀ w : Nat, w < 10 → D 140 w = C (o + 2) w)
def RCb (C D : IM) (o : Nat) : Prop := RRd (C 20) (C 21) (C 22) (C 23) (C 24) (D 136 36) (D 153) ∧ RSh (C 25) (C 26) (C 27) (D 136 38) (D 154) (C o 10) ∧ D 136 8 = C 6 0 ∧ D 136 9 = C 6 1 ∧ D 136 10 = C 6 2 ∧ bnd (C 6 0) 0 10 ∧ bnd (C 6 1) 0 1000 ∧ bnd (C 6 2) 0 1000
def RCl (C D : IM) (l0 l1 : List LLn) : Prop := LwC C 8 0 0 l0 ∧ LwC C 14 0 0 l1 ∧ LwM D 0 0 0 l0 ∧ LwM D 1 0 0 l1 ∧ (∀ x ∈ l0, OkLn false x) ∧ (∀ x ∈ l1, OkLn true x)
def RC (C D : IM) (o : Nat) (l0 l1 : List LLn) : Prop := RCa C D o ∧ RCb C D o ∧ RCl C D l0 l1
theorem RC_fr {C D C' D' : IM} {o : Nat} {l0 l1 : List LLn} {R R' : List Nat} (ho : o = 1 ∨ o = 122) (hC : fr R C C') (hD : fr R' D D') (hR : ∀ q ∈ R, q = 28 ∨ q = 29 ∨ q = 120 ∨ q = 121 ∨ 127 ≤ q) (hR' : ∀ q ∈ R', q ≤ 135 ∨ q = 138 ∨ q = 139 ∨ q = 142 ∨ q = 152 ∨ 155 ≤ q) (h : RC C D o l0 l1) : RC C' D' o l0 l1 := by
  have e : ∀ q : Nat, q < 28 ∨ (122 ≤ q ∧ q < 127) → C' q = C q := fun q hq => hC q (fun hm => by have := hR q hm; omega)
  have d : ∀ q : Nat, q = 136 ∨ q = 137 ∨ q = 140 ∨ q = 153 ∨ q = 154 → D' q = D q := fun q hq => hD q (fun hm => by have := hR' q hm; omega)
  obtain ⟨h1, h2, h3, h4, h5, h6, h7, h8⟩ := h
  refine ⟨?_, ?_, LwC_fr (R := R) (fun q hq => by have := hR q hq; omega) hC h3, LwC_fr (R := R) (fun q hq => by have := hR q hq; omega) hC h4, LwM_fr (R := R') (fun q hq => by have := hR' q hq; omega) hD h5, LwM_fr (R := R') (fun q hq => by have := hR' q hq; omega) hD h6, h7, h8⟩
  · unfold RCa at *
    rw [e o (by omega), e (o + 1) (by omega), e (o + 2) (by omega), e (o + 3) (by omega), e (o + 4) (by omega), e 20 (by omega), e 22 (by omega), d 136 (by omega), d 137 (by omega), d 140 (by omega)]
    exact h1
  · unfold RCb at *
    rw [e o (by omega), e 6 (by omega), e 20 (by omega), e 21 (by omega), e 22 (by omega), e 23 (by omega), e 24 (by omega), e 25 (by omega), e 26 (by omega), e 27 (by omega), d 136 (by omega), d 153 (by omega), d 154 (by omega)]
    exact h2
theorem LwM_0 {M : IM} {t : List LLn} (h1 : M 145 0 = nI t.length) (h2 : t.length ≤ 16) (h3 : lnEnc t ≤ 400) (h4 : MLw (M 146) (M 147) (M 148) (M 149) (M 150) (M 151) 0 0 t) : LwM M 0 0 0 t := by
  refine ⟨by rw [h1, Nat.zero_add], by omega, by omega, ?_⟩
  simp only [Nat.mul_zero, Nat.zero_add]
  exact h4
theorem RC_of {M : IM} (h : Inv M) : ∃ l0 l1, RC M M 1 l0 l1 := by
  obtain ⟨u1, u2, ⟨l0, a1, a2, a3, a4, a5, a6, a7, a8, a9⟩, ⟨l1, b1, b2, b3, b4, b5, b6, b7, b8, b9⟩, u5, u6⟩ := told_to h.2.1
  obtain ⟨hR, ⟨o1, o2, o3, o4, o5, o6⟩, hL, dw, dl⟩ := h.1
  refine ⟨l0, l1, ⟨hR, ⟨⟨o1.1, by have := o1.2; omega⟩, ⟨o2.1, by have := o2.2; omega⟩, o3, o4, o5, o6⟩, hL, dw, dl⟩, ⟨u5, u6, u1⟩, ⟨by rw [a5, Nat.zero_add], by omega, by omega, a8⟩, ⟨by rw [b5, Nat.zero_add], by omega, by omega, b8⟩, LwM_0 a7 a1 a4 a9, ⟨by rw [Nat.zero_add]; exact b7, by omega, by omega, b9⟩, a2, b2⟩
section ASKM
variable {C D : IM} {o : Nat} {l0 l1 : List LLn}
theorem rc_leg (h : RC C D o l0 l1) (hc : ¬ C 20 0 ≤ C o 2) : ∃ l : Nat, l < 8 ∧ C o 2 = nI l ∧ D 137 3 = nI l ∧ D 153 (4 * l) = C 21 l ∧ D 153 (4 * l + 1) = C 22 l ∧ D 153 (4 * l + 2) = C 23 l ∧ D 153 (4 * l + 3) = C 24 l := by
  obtain ⟨⟨hR, hO, hL, dw, dl⟩, ⟨⟨r1, r2, r3⟩, -⟩, -⟩ := h
  obtain ⟨l, hl, el, hl2⟩ := leg_in hL r2 hc
  obtain ⟨⟨v0, v1, v2, v3⟩, -⟩ := r3 l hl2
  exact ⟨l, hl, el, by rw [← el]; exact hR.2.2.2.1, v0, v1, v2, v3⟩
theorem rc_noleg (h : RC C D o l0 l1) : C 20 0 ≤ C o 2 ↔ D 136 36 ≤ 0 := by
  obtain ⟨⟨hR, hO, hL, dw, dl⟩, ⟨⟨r1, r2, r3⟩, -⟩, -⟩ := h
  rw [r1, Int32.le_iff_toInt_le, Int32.le_iff_toInt_le]
  have z : (0 : Int32).toInt = 0 := by decide
  rcases hL with ⟨h1, h2, h3⟩ | ⟨h1, h2, h3, h4⟩
  · rw [h1, h2, z]
  · omega
theorem ofStone_e {l k : Nat} (hl : 4 * l + k < 64) : f_X12_ofStone (nI l) (nI k) D = some (D 153 (4 * l + k), D) := by
  unfold f_X12_ofStone
  rw [rdK (j := 4 * l + k) (n := 64) (show (4 : Int32) * nI l + nI k = nI (4 * l + k) from mul_add 4 l k) hl (by decide)]
theorem onRiver_e (h : RC C D o l0 l1) : f_X12_isOnRiver D = some (if C o 2 < C 20 0 ∧ ¬ C o 3 < C 22 (C o 2).toNatClampNeg - C 23 (C o 2).toNatClampNeg then 1 else 0, D) := by
  unfold f_X12_isOnRiver
  by_cases hc : C 20 0 ≤ C o 2
  · rw [if_pos ((rc_noleg h).mp hc), if_neg (fun q => absurd q.1 (Int32.not_lt.mpr hc))]
  · obtain ⟨l, hl, el, e3, v0, v1, v2, v3⟩ := rc_leg h hc
    have e4 : D 137 4 = C o 3 := h.1.1.2.2.2.2.1
    have e2 : (C o 2).toNatClampNeg = l := by rw [el, nI_clamp (by omega)]
    have e5 : f_X12_longHere D = some (C 22 l, D) := by
      unfold f_X12_longHere
      rw [rdK (i := 3) (j := 3) (n := 40) rfl (by decide) (by decide), e3, cl_s (show f_X12_ofStone (nI l) 1 D = some (D 153 (4 * l + 1), D) from ofStone_e (k := 1) (by omega)), v1]
    rw [if_neg (fun q => hc ((rc_noleg h).mpr q)), rdK (i := 4) (j := 4) (n := 40) rfl (by decide) (by decide), cl_s e5, rdK (i := 3) (j := 3) (n := 40) rfl (by decide) (by decide), e3, cl_s (show f_X12_ofStone (nI l) 2 D = some (D 153 (4 * l + 2), D) from ofStone_e (k := 2) (by omega)), v2, e4, e2]
    by_cases h3 : C o 3 < C 22 l - C 23 l
    · rw [if_pos h3, if_neg (fun q => q.2 h3)]
    · rw [if_neg h3, if_pos ⟨Int32.not_le.mp hc, h3⟩]
theorem ask104_m {D' : IM} {y : Int32} {V : Nat → Int32} (ho : o = 1 ∨ o = 122) (h : RC C D o l0 l1) (hf : fr [155] D D') (h04 : D' 155 0 = V 0 ∧ D' 155 1 = V 1 ∧ D' 155 2 = V 2 ∧ D' 155 3 = V 3 ∧ D' 155 4 = V 4) (h5 : V 5 = y) (h6 : V 6 = C o 2) (h7 : V 7 = if C o 2 < C 20 0 ∧ ¬ C o 3 < C 22 (C o 2).toNatClampNeg - C 23 (C o 2).toNatClampNeg then 1 else 0) (h8 : V 8 = C o 8) : Ok (f_X12_asksOf_104 5 y D') (fun _ M1 => fr [155] D M1 ∧ ∀ i : Nat, i < 9 → M1 155 i = V i) := by
  unfold f_X12_asksOf_104
  have e137 : D' 137 = D 137 := hf 137 (by decide)
  refine ok_wr 5 rfl (by decide) (by decide) (ok_rv 3 (C o 2) rfl (by decide) (by decide) (by rw [ms_ne (by decide), e137]; exact h.1.1.2.2.2.1) (ok_wr 6 rfl (by decide) (by decide) ?_))
  generalize hA : ms (ms D' 155 5 y) 155 6 (C o 2) = A
  have fA : fr [155] D A := by rw [← hA]; exact fr_ms (fr_ms hf (by decide)) (by decide)
  have eA := onRiver_e (RC_fr (R := []) (R' := [155]) ho fr_rf fA (by simp) (by simp) h)
  rw [← h7] at eA
  refine ok_c eA ?_
  have fin : ∀ z : Int32, V 7 = z → Ok (f_X12_asksOf_136 7 z A) (fun _ M1 => fr [155] D M1 ∧ ∀ i : Nat, i < 9 → M1 155 i = V i) := fun z hz => by
    unfold f_X12_asksOf_136
    refine ok_wr 7 rfl (by decide) (by decide) (ok_rv 9 (C o 8) rfl (by decide) (by decide) (by rw [ms_ne (by decide), fA 137 (by decide)]; exact h.1.1.2.2.2.2.2.2.2.2.2.1) (ok_wr 8 rfl (by decide) (by decide) (ok_s ⟨fr_ms (fr_ms fA (by decide)) (by decide), c9 ?_⟩)))
    rw [← hA]
    obtain ⟨a0, a1, a2, a3, a4⟩ := h04
    simp [ms, a0, a1, a2, a3, a4, h5, h6, hz, h8]
  rcases (show V 7 = 0 ∨ V 7 = 1 by rw [h7]; split <;> simp) with q | q
  · rw [q]; exact ok_t rfl (fin 0 q)
  · rw [q]; exact ok_f (by decide) (fin 1 q)
theorem asksOf_m {w : Nat} {c : Int32} (ho : o = 1 ∨ o = 122) (h : RC C D o l0 l1) (hw : w < 10) : Ok (f_X12_asksOf (nI w) c D) (fun _ M1 => fr [155] D M1 ∧ ∀ i : Nat, i < 9 → M1 155 i = vC C o c w i) := by
  obtain ⟨q1, q2, q3⟩ := h.1.1.2.2.2.2.2.2.2.2.2.2 w hw
  have q0 : D 137 0 = C o 1 := h.1.1.1
  unfold f_X12_asksOf
  refine ok_rv (10 + w) (C (o + 3) w) (nI_add 10 w) (by omega) (by decide) q1 (ok_wr 0 rfl (by decide) (by decide) (ok_rv (20 + w) (C (o + 4) w) (nI_add 20 w) (by omega) (by decide) (by rw [ms_ne (by decide)]; exact q2) (ok_wr 1 rfl (by decide) (by decide) (ok_rv w (C (o + 2) w) rfl hw (by decide) (by rw [ms_ne (by decide), ms_ne (by decide)]; exact h.1.2.2.2.2 w hw) (ok_wr 2 rfl (by decide) (by decide) (ok_wr 3 rfl (by decide) (by decide) (ok_rv 0 (C o 1) rfl (by decide) (by decide) (by rw [ms_ne (by decide), ms_ne (by decide), ms_ne (by decide), ms_ne (by decide)]; exact q0) (ok_wr 4 rfl (by decide) (by decide) ?_))))))))
  generalize hA : ms (ms (ms (ms (ms D 155 0 (C (o + 3) w)) 155 1 (C (o + 4) w)) 155 2 (C (o + 2) w)) 155 3 c) 155 4 (C o 1 / 24) = A
  have fA : fr [155] D A := by rw [← hA]; exact fr_ms (fr_ms (fr_ms (fr_ms (fr_ms fr_rf (by decide)) (by decide)) (by decide)) (by decide)) (by decide)
  have h04 : A 155 0 = vC C o c w 0 ∧ A 155 1 = vC C o c w 1 ∧ A 155 2 = vC C o c w 2 ∧ A 155 3 = vC C o c w 3 ∧ A 155 4 = vC C o c w 4 := by
    rw [← hA]
    simp [ms, vC, vw]
  rw [fA 136 (by decide)]
  refine ok_if (fun hc => ?_) (fun hc => ?_)
  · refine ask104_m ho h fA h04 ?_ rfl rfl rfl
    show (if C o 2 < C 20 0 ∧ _ then (1 : Int32) else 0) = 0
    rw [if_neg (fun q => absurd q.1 (Int32.not_lt.mpr ((rc_noleg h).mpr hc)))]
  · have hc2 : ¬ C 20 0 ≤ C o 2 := fun q => hc ((rc_noleg h).mp q)
    obtain ⟨l, hl, el, e3, v0, v1, v2, v3⟩ := rc_leg h hc2
    have e2 : (C o 2).toNatClampNeg = l := by rw [el, nI_clamp (by omega)]
    refine ok_rv 3 (nI l) rfl (by decide) (by decide) (by rw [fA 137 (by decide)]; exact e3) (ok_c (show f_X12_ofStone (nI l) 0 A = some (A 153 (4 * l + 0), A) from ofStone_e (k := 0) (by omega)) (ok_rv (30 + w) (C (o + 1) w) (nI_add 30 w) (by omega) (by decide) (by rw [fA 137 (by decide)]; exact q3) ?_))
    rw [fA 153 (by decide), Nat.add_zero, v0]
    refine ok_if (fun q => ask104_m ho h fA h04 ?_ rfl rfl rfl) (fun q => ask104_m ho h fA h04 ?_ rfl rfl rfl)
    · show (if C o 2 < C 20 0 ∧ C 21 (C o 2).toNatClampNeg = C (o + 1) w then (1 : Int32) else 0) = 1
      rw [e2, if_pos ⟨Int32.not_le.mp hc2, q⟩]
    · show (if C o 2 < C 20 0 ∧ C 21 (C o 2).toNatClampNeg = C (o + 1) w then (1 : Int32) else 0) = 0
      rw [e2, if_neg (fun z => q z.2)]
end ASKM
