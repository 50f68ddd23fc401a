/-! a walker and the laws -/
section AMTS
variable {C D : IM} {o : Nat} {l0 l1 : List LLn}
theorem rc_bnd (h : RC C D o l0 l1) : OkL (C o) (C 20) (C 22) ∧ bnd (C 20 0) 0 8 := ⟨h.1.2.2.1, h.2.1.1.2.1⟩
theorem meet_r {w : Nat} (ho : o = 1 ∨ o = 122) (h : RC C D o l0 l1) (hw : w < 10) : Ok (f_X0_meet o 20 (nI w) C) (fun _ M1 => fr [120] C M1 ∧ ∀ i : Nat, i < 9 → M1 120 i = vC C o (clk (C o)) w i) := meet_c (by omega) hw (rc_bnd h).1 (rc_bnd h).2
theorem amount_c {M : IM} {v : Nat → Int32} {wd : Int32} (h : RC C D o l0 l1) (hf : fr [120, 121] C M) (hv : ∀ i : Nat, i < 9 → M 120 i = v i) : Ok (f_X0_amount 14 wd M) (fun r M1 => r = am v wd (dfl wd) l1 ∧ fr [121] M M1) := by
  unfold f_X0_amount
  have hL : LwC M 14 0 0 l1 := LwC_fr (R := [120, 121]) (by simp) hf h.2.2.2.1
  exact amount_l (by decide) l1 BG 0 0 M hL h.2.2.2.2.2.2.2 hv (by have := hL.2.1; unfold BG; omega)
theorem mayGo_c {M : IM} {v : Nat → Int32} (h : RC C D o l0 l1) (hf : fr [120, 121] C M) (hv : ∀ i : Nat, i < 9 → M 120 i = v i) : Ok (f_X0_mayGo 8 M) (fun r M1 => r = (if gd v l0 = true then 1 else 0) ∧ fr [121] M M1) := by
  unfold f_X0_mayGo
  have hL : LwC M 8 0 0 l0 := LwC_fr (R := [120, 121]) (by simp) hf h.2.2.1
  exact mayGo_l (by decide) l0 BG 0 0 M hL h.2.2.2.2.2.2.1 hv (by have := hL.2.1; unfold BG; omega)
theorem fr_a {M M1 M2 : IM} (h : fr [120] M M1) (h2 : fr [121] M1 M2) : fr [120, 121] M M2 := fr_tr (fr_sub h (by simp)) (fr_sub h2 (by simp))
theorem fr_b {M M1 M2 : IM} (h : fr [155] M M1) (h2 : fr [156] M1 M2) : fr [155, 156] M M2 := fr_tr (fr_sub h (by simp)) (fr_sub h2 (by simp))
theorem amountNow_c {w : Nat} {wd : Int32} (h : RC C D 1 l0 l1) (hw : w < 10) : Ok (f_X11_amountNow (nI w) wd C) (fun r M1 => r = am (vC C 1 (clk (C 1)) w) wd (dfl wd) l1 ∧ fr [120, 121] C M1) := by
  unfold f_X11_amountNow
  refine ok_cl (meet_r (Or.inl rfl) h hw) (fun r M1 q => ok_cl (amount_c h (fr_sub q.1 (by simp)) q.2) (fun r M2 q2 => ok_s ⟨q2.1, fr_a q.1 q2.2⟩))
theorem tireAt_c {w : Nat} {c : Int32} (h : RC C D 1 l0 l1) (hw : w < 10) : Ok (f_X11_tireAt (nI w) c C) (fun r M1 => r = am (vC C 1 c w) 10011 10 l1 ∧ fr [120, 121] C M1) := by
  unfold f_X11_tireAt
  refine ok_cl (meet_r (Or.inl rfl) h hw) (fun r M1 q => ok_c (setClock_e _ _) (ok_cl (amount_c (v := vC C 1 c w) h (fr_sub (fr_ms q.1 (by decide)) (by simp)) (c9 ?_)) (fun r M2 q2 => ok_s ⟨q2.1, fr_a (fr_ms q.1 (by decide)) q2.2⟩)))
  obtain ⟨-, q⟩ := q
  have q0 := q 0 (by decide)
  have q1 := q 1 (by decide)
  have q2 := q 2 (by decide)
  have q4 := q 4 (by decide)
  have q5 := q 5 (by decide)
  have q6 := q 6 (by decide)
  have q7 := q 7 (by decide)
  have q8 := q 8 (by decide)
  simp [vC, vw] at q0 q1 q2 q4 q5 q6 q7 q8
  simp [ms, vC, vw, q0, q1, q2, q4, q5, q6, q7, q8]
theorem clockNow_e (h : RC C D o l0 l1) : f_X12_clockNow D = some (clk (C o), D) := by
  unfold f_X12_clockNow
  rw [rdK (i := 0) (j := 0) (n := 40) rfl (by decide) (by decide), show D 137 0 = C o 1 from h.1.1.1]
  rfl
theorem held_e (x : Int32) (M : IM) : f_X12_held x 0 99 M = some (cl99 x, M) := by
  unfold f_X12_held cl99
  repeat' split
  all_goals rfl
theorem tells_m {w : Nat} {c w' wd d : Int32} (ho : o = 1 ∨ o = 122) (h : RC C D o l0 l1) (hw : w < 10) (hd : cl99 d = d) (hw' : ¬ w' = -1) (hww : ∀ x : Int32, (x - 10009 = w') ↔ (x = wd)) : Ok (f_X12_tells (nI w) c w' d D) (fun r M1 => r = am (vC C o c w) wd d l1 ∧ fr [155, 156] D M1) := by
  unfold f_X12_tells
  refine ok_cl (asksOf_m ho h hw) (fun r M1 q => ?_)
  have h1 : RC C M1 o l0 l1 := RC_fr (R := []) (R' := [155]) ho fr_rf q.1 (by simp) (by simp) h
  obtain ⟨-, -, -, -, -, hM, -, hx⟩ := h1
  have e : f_X12_lineOf 1 w' M1 = f_X12_lineOf_2 BG (nI 1) w' (nI 0) M1 := rfl
  rw [e]
  refine ok_cl (lineOf_l (g := 1) (by decide) l1 BG 0 0 M1 hM hx q.2 (by have := hM.2.1; unfold BG; omega)) (fun r M2 q2 => ?_)
  rw [am_find hw' hww]
  obtain ⟨f2, q2⟩ := q2
  rcases q2 with ⟨rfl, q2⟩ | ⟨k, p, x, s, rfl, hL, q2⟩
  · rw [q2]
    exact ok_t rfl (ok_c (held_e _ _) (ok_s ⟨hd, fr_b q.1 f2⟩))
  · rw [q2]
    have hL2 := LwM_fr (R := [156]) (by simp) f2 hL
    obtain ⟨k1, k2, k3, k4⟩ := hL2
    have hok := hx x (List.mem_of_find?_eq_some q2)
    obtain ⟨xw, e, b⟩ := x
    rw [lnEnc_cons] at k3
    simp only [List.length_cons] at k2 k3
    obtain ⟨c1, c2, c3, c4, c5, c6, -⟩ := k4
    refine ok_f (fun z => ?_) (ok_rv (16 * 1 + k) _ rfl (by omega) (by decide) c2 (ok_rv (16 * 1 + k) _ rfl (by omega) (by decide) c3 (ok_cl (run_m (g := 1) (v := vC C o c w) (by decide) hok.1.2 (fun i hi => by rw [f2 155 (by decide)]; exact q.2 i hi) c5 (by omega)) (fun r M3 q3 => ?_))))
    · have z1 : (nI (16 * 1 + k)).toInt = ((16 * 1 + k : Nat) : Int) := nI_toInt (by omega)
      rw [z] at z1
      have z2 : (-1 : Int32).toInt = -1 := by decide
      omega
    · obtain ⟨rfl, f3⟩ := q3
      exact ok_c (held_e _ _) (ok_s ⟨rfl, fr_b q.1 (fr_tr f2 f3)⟩)
theorem w_eq {a b : Int32} (hab : b - 10009 = a) (x : Int32) : (x - 10009 = a) ↔ (x = b) := by
  subst hab
  constructor
  · intro h
    have := congrArg (· + (10009 : Int32)) h
    simpa [Int32.sub_add_cancel] using this
  · rintro rfl; rfl
theorem tireOf_m {w : Nat} {c : Int32} (ho : o = 1 ∨ o = 122) (h : RC C D o l0 l1) (hw : w < 10) : Ok (f_X12_tireOf (nI w) c D) (fun r M1 => r = am (vC C o c w) 10011 10 l1 ∧ fr [155, 156] D M1) := by
  unfold f_X12_tireOf
  exact ok_cl (tells_m ho h hw (by decide) (by decide) (w_eq (by decide))) (fun r M1 q => ok_s q)
theorem easeOf_m {w : Nat} (ho : o = 1 ∨ o = 122) (h : RC C D o l0 l1) (hw : w < 10) : Ok (f_X12_easeOf (nI w) D) (fun r M1 => r = am (vC C o (clk (C o)) w) 10012 5 l1 ∧ fr [155, 156] D M1) := by
  unfold f_X12_easeOf
  exact ok_c (clockNow_e h) (ok_cl (tells_m ho h hw (by decide) (by decide) (w_eq (by decide))) (fun r M1 q => ok_s q))
theorem eatOf_m {w : Nat} (ho : o = 1 ∨ o = 122) (h : RC C D o l0 l1) (hw : w < 10) : Ok (f_X12_eatOf (nI w) D) (fun r M1 => r = am (vC C o (clk (C o)) w) 10013 1 l1 ∧ fr [155, 156] D M1) := by
  unfold f_X12_eatOf
  exact ok_c (clockNow_e h) (ok_cl (tells_m ho h hw (by decide) (by decide) (w_eq (by decide))) (fun r M1 q => ok_s q))
theorem doesGo_m {w : Nat} (ho : o = 1 ∨ o = 122) (h : RC C D o l0 l1) (hw : w < 10) : Ok (f_X12_doesGo (nI w) D) (fun r M1 => r = (if gd (vC C o (clk (C o)) w) l0 = true then 1 else 0) ∧ fr [155, 156] D M1) := by
  unfold f_X12_doesGo
  refine ok_c (clockNow_e h) (ok_cl (asksOf_m ho h hw) (fun r M1 q => ?_))
  have h1 : RC C M1 o l0 l1 := RC_fr (R := []) (R' := [155]) ho fr_rf q.1 (by simp) (by simp) h
  obtain ⟨-, -, -, -, hM, -, hx, -⟩ := h1
  have e : f_X12_lineOf 0 (-1) M1 = f_X12_lineOf_2 BG (nI 0) (-1) (nI 0) M1 := rfl
  rw [e]
  refine ok_cl (lineOf_l (g := 0) (by decide) l0 BG 0 0 M1 hM hx q.2 (by have := hM.2.1; unfold BG; omega)) (fun r M2 q2 => ?_)
  rw [gd_find]
  obtain ⟨f2, q2⟩ := q2
  rcases q2 with ⟨rfl, q2⟩ | ⟨k, p, x, s, rfl, hL, q2⟩
  · rw [q2]
    exact ok_t rfl (ok_s ⟨rfl, fr_b q.1 f2⟩)
  · rw [q2]
    have hL2 := LwM_fr (R := [156]) (by simp) f2 hL
    obtain ⟨k1, k2, k3, k4⟩ := hL2
    obtain ⟨xw, e, b⟩ := x
    simp only [List.length_cons] at k2
    refine ok_f (fun z => ?_) (ok_rv (16 * 0 + k) _ rfl (by omega) (by decide) k4.1 (ok_if (fun q3 => ok_s ⟨?_, fr_b q.1 f2⟩) (fun q3 => ok_s ⟨?_, fr_b q.1 f2⟩)))
    · have z1 : (nI (16 * 0 + k)).toInt = ((16 * 0 + k : Nat) : Int) := nI_toInt (by omega)
      rw [z] at z1
      have z2 : (-1 : Int32).toInt = -1 := by decide
      omega
    · have := (w_eq (a := 0) (b := 10009) (by decide) xw).mp q3
      simp [this]
    · have : ¬ xw = 10009 := fun z => q3 ((w_eq (a := 0) (b := 10009) (by decide) xw).mpr z)
      simp [this]
end AMTS
