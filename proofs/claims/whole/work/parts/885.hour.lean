/-! the whole hour; hours -/
section HR1
variable {C D : IM} {o : Nat} {l0 l1 : List LLn} {b : Bool}
def RW (b : Bool) (o : Nat) : List Nat := [o + 3, o + 4, 120, 121] ++ FC b o
def RV (b : Bool) : List Nat := [155, 156, 157] ++ FD b
theorem FC_in {q : Nat} (h : q ∈ FC b o) : q = o ∨ q = 31 ∨ q = 32 ∨ q = 33 := by
  cases b <;> simp [FC] at h <;> omega
theorem FD_in {q : Nat} (h : q ∈ FD b) : q = 137 ∨ q = 142 := by
  cases b <;> simp [FD] at h <;> omega
theorem blkA {m : Nat} {g : Int32} (ho : o = 1 ∨ o = 122) (h : HS b C D o) (h5 : D 136 5 = th b) (h8 : D 136 8 = C 6 0) (h10 : D 136 10 = C 6 2) (hw : bnd (C 6 2) 0 1000) (hm : m ≤ 10) : ∃ C1 D1, f_X11_passHour_29 o (th b) g (nI m) (fb C m) C = f_X11_passHour_74 o (th b) g (nI m) (fb C m) C1 ∧ f_X12_counts (nI m) D = some (0, D1) ∧ HS b C1 D1 o ∧ C1 o 4 = C o 4 + fb C m ∧ (∀ i ∈ [1, 2, 3, 7, 8, 10], C1 o i = C o i) ∧ fr (FC b o) C C1 ∧ fr (FD b) D D1 := by
  cases b with
  | true => exact blkA0 ho h h5 h8 h10 hw hm
  | false => exact blkA1 ho h h5 h8 hm
theorem hour_sim (ho : o = 1 ∨ o = 122) (h : RC C D o l0 l1) (hB : b = true → BK C D) (hth : D 136 5 = th b) (hh : (C o 1).toInt < 20000) (h4 : bnd (C o 4) 0 (C o 1).toInt) : ∃ (r : Int32) (C1 D1 : IM), f_X11_passHour o (th b) C = some (r, C1) ∧ f_X12_goesBy D = some (0, D1) ∧ (r = 0 ∨ r = 1) ∧ RC C1 D1 o l0 l1 ∧ (b = true → BK C1 D1) ∧ bnd (C1 o 4) 0 (C1 o 1).toInt ∧ C1 o 4 = C o 4 + r ∧ C1 o 1 = C o 1 + 1 ∧ C1 o 10 = C o 10 ∧ fr (RW b o) C C1 ∧ fr (RV b) D D1 := by
  obtain ⟨k, hk, ek⟩ := goS_n h
  obtain ⟨b1, b2, b3⟩ := bc_10 k hk
  obtain ⟨n, hn, en, -, ecn⟩ := walk_n h
  obtain ⟨rw0, Cw, c1, rfl, fw⟩ := whoGo_c ho h
  obtain ⟨rd0, Dw, d1, rfl, gw⟩ := goers_m ho h
  have hw : RC Cw Dw o l0 l1 := RC_m ho gw (RC_a ho fw h)
  rw [ek] at c1 d1
  have ewo : Cw o = C o := row_a fw (by omega)
  have sw : HS b Cw Dw o := ⟨hw.1.1, hw.1.2.1.2.2.2.1, fun hb => by
    unfold BK
    rw [fw 31 (by decide), fw 32 (by decide), fw 33 (by decide), gw 142 (by decide)]
    exact hB hb⟩
  generalize hm : pcF 32 k = m at *
  obtain ⟨CA, DA, a1, a2, a3, a4, a5, a6, a7⟩ := blkA (b := b) (m := m) (g := nI k) ho sw (by rw [gw 136 (by decide)]; exact hth) hw.2.1.2.2.1 hw.2.1.2.2.2.2.1 hw.2.1.2.2.2.2.2.2.2 b2
  have fbr : fb Cw m = 0 ∨ fb Cw m = 1 := by unfold fb; split <;> simp
  have fbb : bnd (fb Cw m) 0 1 := by rcases fbr with q | q <;> rw [q] <;> exact ⟨by decide, by decide⟩
  have h4w : bnd (Cw o 4) 0 20000 := by rw [ewo]; exact ⟨h4.1, by have := h4.2; omega⟩
  have e4 : (Cw o 4 + fb Cw m).toInt = (C o 4).toInt + (fb Cw m).toInt := by rw [bnd_add h4w fbb (by omega) (by omega), ewo]
  have rA : ∀ q : Nat, ¬ q = o → ¬ q = 31 → ¬ q = 32 → ¬ q = 33 → CA q = Cw q := fun q h1 h2 h3 h4 => a6 q (fun hm => by have := FC_in hm; omega)
  have rD : ∀ q : Nat, ¬ q = 137 → ¬ q = 142 → DA q = Dw q := fun q h1 h2 => a7 q (fun hm => by have := FD_in hm; omega)
  obtain ⟨⟨w1, ⟨o1, o2, o3, o4, o5, o6⟩, w3, w4, w5⟩, -⟩ := id hw
  have hRA : RC CA DA o l0 l1 := by
    refine RC_mk ho hw (fun q h1 h2 => rA q (by omega) (by omega) (by omega) (by omega)) (fun i _ => by rw [rD 136 (by decide) (by decide)]) (fun q hq => rD q (by omega) (by omega)) (a5 10 (by decide)) (fun w _ => by rw [rA (o + 2) (by omega) (by omega) (by omega) (by omega)]) a3.1 ⟨by rw [a5 1 (by decide)]; exact o1, ?_, by rw [a5 8 (by decide)]; exact o3, a3.2.1, by rw [a5 10 (by decide)]; exact o5, ?_⟩ ?_
    · unfold bnd
      rw [a4, a5 1 (by decide), e4, ewo]
      have := h4.1
      have := h4.2
      have := fbb.1
      have := fbb.2
      omega
    · rw [rA (o + 1) (by omega) (by omega) (by omega) (by omega), rA (o + 2) (by omega) (by omega) (by omega) (by omega), rA (o + 3) (by omega) (by omega) (by omega) (by omega), rA (o + 4) (by omega) (by omega) (by omega) (by omega)]
      exact o6
    · unfold OkL at *
      rw [a5 2 (by decide), a5 3 (by decide)]
      exact w3
  have eA10 : CA o 10 = nI n := by rw [a5 10 (by decide), ewo, en]
  obtain ⟨rb, CB, t0, t1, t2, t3, t4⟩ := tireEat_c (g := nI k) ho hRA hn eA10
  obtain ⟨rb2, DB, u0, u1, u2⟩ := walks_m (g := nI k) ho hRA hn eA10
  obtain ⟨⟨x1, ⟨p1, p2, p3, p4, p5, p6⟩, x3, x4, x5⟩, -⟩ := id hRA
  have rB : ∀ q : Nat, ¬ q = o → ¬ q = o + 3 → ¬ q = o + 4 → (q < 120 ∨ 121 < q) → CB q = CA q := fun q h1 h2 h3 h4 => t4 q (by simp; omega)
  have rE : ∀ q : Nat, (q < 137 ∨ (137 < q ∧ q < 155) ∨ 157 < q) → DB q = DA q := fun q h1 => u2 q (by simp; omega)
  have cbo : ∀ i : Nat, ¬ i = 8 → CB o i = CA o i := fun i hi => by rw [t3, upd_n hi]
  have efd : bnd (mx0 (CA o 8 - etS CA o l1 (nI k) n)) 0 9999 := by
    have hb := etS_b (C := CA) (o := o) (l1 := l1) (g := nI k) (n := n) n (Nat.le_refl _) hn
    refine mx0_b ?_ (by omega)
    rw [bnd_sub p3 hb (by omega) (by omega)]
    have := p3.2
    have := hb.1
    omega
  have hRNB : RNw (CB o) (CB (o + 1)) (CB (o + 3)) (CB (o + 4)) (DB 137) := by
    obtain ⟨y0, y1, y2, y3, y4, y5, y6, y7, y8, y9, yw⟩ := x1
    have lo : ∀ q : Nat, q < 9 → DB 137 q = DA 137 q := fun q hq => by rw [u1 q, if_neg (by omega), if_neg (by omega), if_neg (by omega)]
    refine ⟨?_, ?_, ?_, ?_, ?_, ?_, ?_, ?_, ?_, ?_, fun w hw => ⟨?_, ?_, ?_⟩⟩
    · rw [lo 0 (by decide), cbo 1 (by decide)]; exact y0
    · rw [lo 1 (by decide), cbo 0 (by decide)]; exact y1
    · rw [lo 2 (by decide), cbo 9 (by decide)]; exact y2
    · rw [lo 3 (by decide), cbo 2 (by decide)]; exact y3
    · rw [lo 4 (by decide), cbo 3 (by decide)]; exact y4
    · rw [lo 5 (by decide), cbo 4 (by decide)]; exact y5
    · rw [lo 6 (by decide), cbo 5 (by decide)]; exact y6
    · rw [lo 7 (by decide), cbo 6 (by decide)]; exact y7
    · rw [lo 8 (by decide), cbo 7 (by decide)]; exact y8
    · rw [u1 9, if_pos rfl, t3, upd_s]
    · rw [u1 (10 + w), if_neg (by omega), t1 w]
      by_cases hw2 : w < n
      · rw [if_pos (by omega), if_pos hw2, show 10 + w - 10 = w by omega]
      · rw [if_neg (by omega), if_neg (by omega), if_neg hw2]; exact (yw w hw).1
    · rw [u1 (20 + w), if_neg (by omega), if_neg (by omega), t2 w]
      by_cases hw2 : w < n
      · rw [if_pos (by omega), if_pos hw2, show 20 + w - 20 = w by omega]
      · rw [if_neg (by omega), if_neg hw2]; exact (yw w hw).2.1
    · rw [u1 (30 + w), if_neg (by omega), if_neg (by omega), if_neg (by omega), rB (o + 1) (by omega) (by omega) (by omega) (by omega)]; exact (yw w hw).2.2
  have hRB : RC CB DB o l0 l1 := by
    refine RC_mk ho hRA (fun q h1 h2 => rB q (by omega) (by omega) (by omega) (by omega)) (fun i _ => by rw [rE 136 (by omega)]) (fun q hq => rE q (by omega)) (cbo 10 (by decide)) (fun w _ => by rw [rB (o + 2) (by omega) (by omega) (by omega) (by omega)]) hRNB ⟨by rw [cbo 1 (by decide)]; exact p1, by rw [cbo 4 (by decide), cbo 1 (by decide)]; exact p2, by rw [t3, upd_s]; exact efd, by rw [cbo 9 (by decide)]; exact p4, by rw [cbo 10 (by decide)]; exact p5, fun w hw => ?_⟩ ?_
    · obtain ⟨z1, z2, z3, z4⟩ := p6 w hw
      refine ⟨by rw [rB (o + 1) (by omega) (by omega) (by omega) (by omega)]; exact z1, by rw [rB (o + 2) (by omega) (by omega) (by omega) (by omega)]; exact z2, ?_, ?_⟩
      · rw [t1 w]
        by_cases hw2 : w < n
        · rw [if_pos hw2]
          unfold feN
          split
          · have hb : bnd (tiN CA o l1 w) 0 99 := am_bnd ⟨by decide, by decide⟩ l1
            refine mn9_b ?_
            rw [bnd_add z3 hb (by omega) (by omega)]
            have := z3.1
            have := hb.1
            omega
          · have hb : bnd (eaN CA o l1 w) 0 99 := am_bnd ⟨by decide, by decide⟩ l1
            refine mx0_b ?_ (by omega)
            rw [bnd_sub z3 hb (by omega) (by omega)]
            have := z3.2
            have := hb.1
            omega
        · rw [if_neg hw2]; exact z3
      · rw [t2 w]
        by_cases hw2 : w < n
        · rw [if_pos hw2]
          unfold roN
          split
          · refine mn9_b ?_
            rw [bnd_add (y := 1) (c := 0) (d := 1) z4 ⟨by decide, by decide⟩ (by omega) (by omega), show (1 : Int32).toInt = 1 by decide]
            have := z4.1
            omega
          · exact ⟨by decide, by decide⟩
        · rw [if_neg hw2]; exact z4
    · unfold OkL at *
      rw [cbo 2 (by decide), cbo 3 (by decide)]
      exact x3
  have sB : HS b CB DB o := ⟨hRNB, by rw [cbo 9 (by decide)]; exact p4, fun hb => by
    unfold BK
    rw [rB 31 (by omega) (by omega) (by omega) (by omega), rB 32 (by omega) (by omega) (by omega) (by omega), rB 33 (by omega) (by omega) (by omega) (by omega), rE 142 (by omega)]
    exact a3.2.2 hb⟩
  have hthB : DB 136 5 = th b := by rw [rE 136 (by omega), rD 136 (by decide) (by decide), gw 136 (by decide)]; exact hth
  have e20B : CB 20 = C 20 := by rw [rB 20 (by omega) (by omega) (by omega) (by omega), rA 20 (by omega) (by omega) (by omega) (by omega), fw 20 (by decide)]
  have frCB : fr (RW b o) C CB := by
    refine fr_tr (fr_sub fw (by simp [RW])) (fr_tr (fr_sub a6 (fun q hq => List.mem_append.mpr (Or.inr hq))) (fr_sub t4 (fun q hq => ?_)))
    simp only [List.mem_cons, List.not_mem_nil, or_false] at hq
    rcases hq with rfl | rfl | rfl | rfl | rfl
    · exact List.mem_append.mpr (Or.inr in_FC)
    · simp [RW]
    · simp [RW]
    · simp [RW]
    · simp [RW]
  have frDB : fr (RV b) D DB := by
    refine fr_tr (fr_sub gw (by simp [RV])) (fr_tr (fr_sub a7 (fun q hq => List.mem_append.mpr (Or.inr hq))) (fr_sub u2 (fun q hq => ?_)))
    simp only [List.mem_cons, List.not_mem_nil, or_false] at hq
    rcases hq with rfl | rfl | rfl | rfl
    · exact List.mem_append.mpr (Or.inr in_FD)
    · simp [RV]
    · simp [RV]
    · simp [RV]
  -- going on, or not
  obtain ⟨CC, DC, v1, v2, v3, v4, v5, v6, v7, v8⟩ : ∃ CC DC, f_X11_passHour_74 o (th b) (nI k) (nI m) (fb Cw m) CA = f_X11_passHour_104 o (fb Cw m) CC ∧ (cl (f_X12_walks (nI k) DA) fun _ M11 => if nI k = 0 then f_X12_goesBy_34 M11 else if (M11 136 36) ≤ 0 then f_X12_goesBy_34 M11 else cl (f_X12_moves M11) fun _ M16 => f_X12_goesBy_34 M16) = f_X12_goesBy_34 DC ∧ HS b CC DC o ∧ OkL (CC o) (CB 20) (CB 22) ∧ bnd (CC o 8) 0 9999 ∧ (∀ i ∈ [1, 4, 5, 6, 10], CC o i = CB o i) ∧ fr (FC b o) CB CC ∧ fr (FD b) DB DC := by
    unfold f_X11_passHour_74
    rw [cl_s t0, cl_s u0]
    have e36 : DB 136 36 = CB 20 0 := hRB.2.1.1.1
    by_cases h0 : k = 0
    · have hm0 : m = 0 := by rw [← hm, h0]; decide
      rw [hm0, if_pos (by decide), h0, if_pos (by decide)]
      exact ⟨CB, DB, rfl, rfl, sB, hRB.1.2.2.1, hRB.1.2.1.2.2.1, fun _ _ => rfl, fr_rf, fr_rf⟩
    have hm0 : ¬ m = 0 := fun q => h0 (b3 q)
    rw [if_neg (nI_nle (by omega) (by omega)), if_neg (nI_ne0 (by omega) (by omega)), e36]
    by_cases hst : CB 20 0 ≤ 0
    · rw [if_pos hst, if_pos hst]
      exact ⟨CB, DB, rfl, rfl, sB, hRB.1.2.2.1, hRB.1.2.1.2.2.1, fun _ _ => rfl, fr_rf, fr_rf⟩
    · rw [if_neg hst, if_neg hst]
      obtain ⟨C1, D1, q1, q2, q3, q4, q5, q6, q7, q8⟩ := blkC ho hRB sB hthB hst
      rw [cl_s q1, cl_s q2]
      exact ⟨C1, D1, rfl, rfl, q3, q4, q5, q6, q7, q8⟩
  have rC : ∀ q : Nat, ¬ q = o → ¬ q = 31 → ¬ q = 32 → ¬ q = 33 → CC q = CB q := fun q h1 h2 h3 h4 => v7 q (fun hm => by have := FC_in hm; omega)
  have rF : ∀ q : Nat, ¬ q = 137 → ¬ q = 142 → DC q = DB q := fun q h1 h2 => v8 q (fun hm => by have := FD_in hm; omega)
  have eh1 : CC o 1 = C o 1 := by rw [v6 1 (by decide), cbo 1 (by decide), a5 1 (by decide), ewo]
  have ed0 : DC 137 0 = C o 1 := by rw [v3.1.1, eh1]
  have sF : HS b (ms CC o 1 (C o 1 + 1)) (ms DC 137 0 (C o 1 + 1)) o := hs_inc ho (by decide) v3
  have eC4 : CC o 4 = C o 4 + fb Cw m := by rw [v6 4 (by decide), cbo 4 (by decide), a4, ewo]
  have ei : (C o 1 + 1).toInt = (C o 1).toInt + 1 := by
    rw [bnd_add (y := 1) (c := 0) (d := 1) h.1.2.1.1 ⟨by decide, by decide⟩ (by omega) (by omega), show (1 : Int32).toInt = 1 by decide]
  have b4 : bnd (C o 4 + fb Cw m) 0 ((C o 1).toInt + 1) := by
    unfold bnd
    rw [← ewo] at e4 ⊢
    rw [e4, ewo]
    have := h4.1
    have := h4.2
    have := fbb.1
    have := fbb.2
    omega
  refine ⟨fb Cw m, ms CC o 1 (C o 1 + 1), ms DC 137 0 (C o 1 + 1), ?_, ?_, fbr, ?_, sF.2.2, ?_, ?_, ms_it, ?_, ?_, ?_⟩
  · unfold f_X11_passHour
    rw [cl_s c1, cl_s (bitCount_e _ _), b1]
    have : (if Cw 6 0 ≤ nI m then f_X11_passHour_29 o (th b) (nI k) (nI m) 0 Cw else f_X11_passHour_29 o (th b) (nI k) (nI m) 1 Cw) = f_X11_passHour_29 o (th b) (nI k) (nI m) (fb Cw m) Cw := by
      unfold fb
      split <;> rfl
    rw [this, a1, v1]
    unfold f_X11_passHour_104
    simp only [pt]
    unfold rz
    rw [if_pos fbr, eh1]
  · unfold f_X12_goesBy
    have e1 := ones_m (M := Dw) (show k < 2 ^ 31 by omega)
    rw [hm] at e1
    rw [cl_s d1, cl_s e1, cl_s a2, v2]
    unfold f_X12_goesBy_34
    rw [rdK (i := 0) (j := 0) (n := 40) rfl (by decide) (by decide), wrK (i := 0) (j := 0) (n := 40) rfl (by decide) (by decide), ed0]
  · refine RC_mk ho hRB (fun q h1 h2 => by rw [ms_ne (by omega), rC q (by omega) (by omega) (by omega) (by omega)]) (fun i _ => by rw [ms_ne (by decide), rF 136 (by decide) (by decide)]) (fun q hq => by rw [ms_ne (by omega), rF q (by omega) (by omega)]) (by rw [ms_at (by decide), v6 10 (by decide)]) (fun w _ => by rw [ms_ne (by omega), rC (o + 2) (by omega) (by omega) (by omega) (by omega)]) sF.1 ⟨?_, ?_, by rw [ms_at (by decide)]; exact v5, sF.2.1, ?_, ?_⟩ ?_
    · rw [ms_it]
      unfold bnd
      rw [ei]
      have := h.1.2.1.1.1
      omega
    · rw [ms_it, ms_at (by decide), eC4, ei]
      exact ⟨b4.1, by have := b4.2; omega⟩
    · rw [ms_at (by decide), v6 10 (by decide)]; exact hRB.1.2.1.2.2.2.2.1
    · rw [ms_ne (by omega), ms_ne (by omega), ms_ne (by omega), ms_ne (by omega), rC (o + 1) (by omega) (by omega) (by omega) (by omega), rC (o + 2) (by omega) (by omega) (by omega) (by omega), rC (o + 3) (by omega) (by omega) (by omega) (by omega), rC (o + 4) (by omega) (by omega) (by omega) (by omega)]
      exact hRB.1.2.1.2.2.2.2.2
    · unfold OkL at *
      rw [ms_at (by decide), ms_at (by decide)]
      exact v4
  · rw [ms_it, ms_at (by decide), eC4, ei]
    exact b4
  · rw [ms_at (by decide), eC4]
  · rw [ms_at (by decide), v6 10 (by decide), cbo 10 (by decide), a5 10 (by decide), ewo]
  · exact fr_ms (fr_tr frCB (fr_sub v7 (fun q hq => List.mem_append.mpr (Or.inr hq)))) (List.mem_append.mpr (Or.inr in_FC))
  · exact fr_ms (fr_tr frDB (fr_sub v8 (fun q hq => List.mem_append.mpr (Or.inr hq)))) (List.mem_append.mpr (Or.inr in_FD))
end HR1
