/-! set -/
theorem rz_ok {c : Prop} [Decidable c] {M : IM} : rz (if c then (0 : Int32) else 1) M = some ((if c then (0 : Int32) else 1), M) := by
  unfold rz
  by_cases h : c
  · rw [if_pos h, if_pos (Or.inl rfl)]
  · rw [if_neg h, if_pos (Or.inr rfl)]
theorem wal_c (p : Int32) (M : IM) : f_X11_isWalker p M = some (if p < 0 ∨ M 1 10 ≤ p then 0 else 1, M) := by
  unfold f_X11_isWalker
  by_cases h1 : p < 0
  · simp [h1]
  · by_cases h2 : M 1 10 ≤ p <;> simp [h1, h2]
theorem wal_m (p : Int32) (M : IM) : f_X12_isWalker p M = some (if p < 0 ∨ M 136 6 ≤ p then 0 else 1, M) := by
  unfold f_X12_isWalker
  by_cases h1 : p < 0
  · simp [h1]
  · by_cases h2 : M 136 6 ≤ p <;> simp [h1, h2]
theorem in_wal {p : Int32} {w : Nat} (hw : w < 2 ^ 30) (h : ¬ (p < 0 ∨ nI w ≤ p)) : ∃ j : Nat, j < w ∧ p = nI j := by
  rcases pk_ix p (n := w) (by omega) with q | q | q
  · exact absurd (Or.inl q) h
  · exact absurd (Or.inr q) h
  · exact q
theorem set_inv0 {M : IM} {v : Int32} (hb : bnd v 0 10) (hI : Inv M) : Inv (ms (ms (ms (ms (ms M 6 0 v) 34 0 0) 136 0 0) 136 8 v) 136 3 0) := by
  obtain ⟨hN, hT, hB, hP, hTp, hF, hW, hG⟩ := hI
  generalize hM2 : (ms (ms (ms (ms (ms M 6 0 v) 34 0 0) 136 0 0) 136 8 v) 136 3 0) = M2
  have hA : agr [] [(6, 0), (34, 0), (136, 0), (136, 8), (136, 3)] M M2 := by
    rw [← hM2]
    exact agr_c (agr_c (agr_c (agr_c (agr_c agr_rf (by decide)) (by decide)) (by decide)) (by decide)) (by decide)
  obtain ⟨u1, u2, u3, u4, u5, u6⟩ := told_to hT
  have hnp : IvPast M2 := no_Past (agr_row (LR := [35]) (LC := []) hA (by decide) (by decide)) (by rw [← hM2]; simp [ms_row, upd]) (by rw [← hM2, ms_it]) hP
  refine ⟨ag_Now hA (by decide) hN, told_of (?_) (ag_Roads hA (by decide) u2) (ag_L0 hA (by decide) u3) (ag_L1 hA (by decide) u4) (ag_Rd hA (by decide) u5) (ag_Sh hA (by decide) u6), ag_Book hA (by decide) hB, hnp, ag_Tape hA (by decide) hTp, ag_Fault hA (by decide) hF, ag_Words hA (by decide) hW, ag_Img hA (by decide +kernel) hG⟩
  unfold IvT1 at *
  rw [show M2 6 0 = v by rw [← hM2]; simp [ms_row, upd], show M2 6 1 = M 6 1 by rw [← hM2]; simp [ms_row, upd], show M2 6 2 = M 6 2 by rw [← hM2]; simp [ms_row, upd], show M2 136 8 = v by rw [← hM2]; simp [ms_row, upd], show M2 136 9 = M 136 9 by rw [← hM2]; simp [ms_row, upd], show M2 136 10 = M 136 10 by rw [← hM2]; simp [ms_row, upd]]
  exact ⟨rfl, u1.2.1, u1.2.2.1, hb, u1.2.2.2.2.1, u1.2.2.2.2.2⟩
theorem set_inv1 {M : IM} {v : Int32} (hb : bnd v 0 9999) (hI : Inv M) : Inv (ms (ms (ms (ms (ms M 1 8 v) 34 0 0) 136 0 0) 137 9 v) 136 3 0) := by
  obtain ⟨hN, hT, hB, hP, hTp, hF, hW, hG⟩ := hI
  generalize hM2 : (ms (ms (ms (ms (ms M 1 8 v) 34 0 0) 136 0 0) 137 9 v) 136 3 0) = M2
  have hA : agr [] [(1, 8), (34, 0), (136, 0), (137, 9), (136, 3)] M M2 := by
    rw [← hM2]
    exact agr_c (agr_c (agr_c (agr_c (agr_c agr_rf (by decide)) (by decide)) (by decide)) (by decide)) (by decide)
  obtain ⟨u1, u2, u3, u4, u5, u6⟩ := told_to hT
  have hnp : IvPast M2 := no_Past (agr_row (LR := [35]) (LC := []) hA (by decide) (by decide)) (by rw [← hM2]; simp [ms_row, upd]) (by rw [← hM2, ms_it]) hP
  refine ⟨?_, told_of (ag_T1 hA (by decide) u1) (ag_Roads hA (by decide) u2) (ag_L0 hA (by decide) u3) (ag_L1 hA (by decide) u4) (ag_Rd hA (by decide) u5) (ag_Sh hA (by decide) u6), ag_Book hA (by decide) hB, hnp, ag_Tape hA (by decide) hTp, ag_Fault hA (by decide) hF, ag_Words hA (by decide) hW, ag_Img hA (by decide +kernel) hG⟩
  obtain ⟨⟨a0, a1, a2, a3, a4, a5, a6, a7, a8, a9, aw⟩, ⟨b1, b2, b3, b4, b5, bw⟩, hL, dw, dl⟩ := hN
  have r1 : M2 1 = upd (M 1) 8 v := by rw [← hM2]; simp [ms_row]
  have r137 : M2 137 = upd (M 137) 9 v := by rw [← hM2]; simp [ms_row]
  have hc : chk [] [(1, 8), (34, 0), (136, 0), (137, 9), (136, 3)] [2, 3, 4, 5, 20, 22, 140] [(136, 6)] = true := by decide
  unfold IvNow RNw OkN OkL at *
  rw [agr_row hA hc (p := 2) (by decide), agr_row hA hc (p := 3) (by decide), agr_row hA hc (p := 4) (by decide), agr_row hA hc (p := 5) (by decide), agr_row hA hc (p := 20) (by decide), agr_row hA hc (p := 22) (by decide), agr_row hA hc (p := 140) (by decide), agr_cell hA hc (p := 136) (i := 6) (by decide), r1, r137]
  have n1 : ∀ i : Nat, ¬ i = 8 → upd (M 1) 8 v i = M 1 i := fun i h => upd_n h
  have n9 : ∀ i : Nat, ¬ i = 9 → upd (M 137) 9 v i = M 137 i := fun i h => upd_n h
  rw [n1 0 (by decide), n1 1 (by decide), n1 2 (by decide), n1 3 (by decide), n1 4 (by decide), n1 5 (by decide), n1 6 (by decide), n1 7 (by decide), n1 9 (by decide), n1 10 (by decide), upd_s, n9 0 (by decide), n9 1 (by decide), n9 2 (by decide), n9 3 (by decide), n9 4 (by decide), n9 5 (by decide), n9 6 (by decide), n9 7 (by decide), n9 8 (by decide), upd_s]
  exact ⟨⟨a0, a1, a2, a3, a4, a5, a6, a7, a8, rfl, fun w hw => by rw [n9 _ (by omega), n9 _ (by omega), n9 _ (by omega)]; exact aw w hw⟩, ⟨b1, b2, hb, b4, b5, bw⟩, hL, dw, dl⟩
theorem set_inv2 {M : IM} {v : Int32} (hb : bnd v 0 1000) (hI : Inv M) : Inv (ms (ms (ms (ms (ms M 6 1 v) 34 0 0) 136 0 0) 136 9 v) 136 3 0) := by
  obtain ⟨hN, hT, hB, hP, hTp, hF, hW, hG⟩ := hI
  generalize hM2 : (ms (ms (ms (ms (ms M 6 1 v) 34 0 0) 136 0 0) 136 9 v) 136 3 0) = M2
  have hA : agr [] [(6, 1), (34, 0), (136, 0), (136, 9), (136, 3)] M M2 := by
    rw [← hM2]
    exact agr_c (agr_c (agr_c (agr_c (agr_c agr_rf (by decide)) (by decide)) (by decide)) (by decide)) (by decide)
  obtain ⟨u1, u2, u3, u4, u5, u6⟩ := told_to hT
  have hnp : IvPast M2 := no_Past (agr_row (LR := [35]) (LC := []) hA (by decide) (by decide)) (by rw [← hM2]; simp [ms_row, upd]) (by rw [← hM2, ms_it]) hP
  refine ⟨ag_Now hA (by decide) hN, told_of (?_) (ag_Roads hA (by decide) u2) (ag_L0 hA (by decide) u3) (ag_L1 hA (by decide) u4) (ag_Rd hA (by decide) u5) (ag_Sh hA (by decide) u6), ag_Book hA (by decide) hB, hnp, ag_Tape hA (by decide) hTp, ag_Fault hA (by decide) hF, ag_Words hA (by decide) hW, ag_Img hA (by decide +kernel) hG⟩
  unfold IvT1 at *
  rw [show M2 6 0 = M 6 0 by rw [← hM2]; simp [ms_row, upd], show M2 6 1 = v by rw [← hM2]; simp [ms_row, upd], show M2 6 2 = M 6 2 by rw [← hM2]; simp [ms_row, upd], show M2 136 8 = M 136 8 by rw [← hM2]; simp [ms_row, upd], show M2 136 9 = v by rw [← hM2]; simp [ms_row, upd], show M2 136 10 = M 136 10 by rw [← hM2]; simp [ms_row, upd]]
  exact ⟨u1.1, rfl, u1.2.2.1, u1.2.2.2.1, hb, u1.2.2.2.2.2⟩
theorem set_inv3 {M : IM} {v : Int32} (hb : bnd v 0 1000) (hI : Inv M) : Inv (ms (ms (ms (ms (ms M 6 2 v) 34 0 0) 136 0 0) 136 10 v) 136 3 0) := by
  obtain ⟨hN, hT, hB, hP, hTp, hF, hW, hG⟩ := hI
  generalize hM2 : (ms (ms (ms (ms (ms M 6 2 v) 34 0 0) 136 0 0) 136 10 v) 136 3 0) = M2
  have hA : agr [] [(6, 2), (34, 0), (136, 0), (136, 10), (136, 3)] M M2 := by
    rw [← hM2]
    exact agr_c (agr_c (agr_c (agr_c (agr_c agr_rf (by decide)) (by decide)) (by decide)) (by decide)) (by decide)
  obtain ⟨u1, u2, u3, u4, u5, u6⟩ := told_to hT
  have hnp : IvPast M2 := no_Past (agr_row (LR := [35]) (LC := []) hA (by decide) (by decide)) (by rw [← hM2]; simp [ms_row, upd]) (by rw [← hM2, ms_it]) hP
  refine ⟨ag_Now hA (by decide) hN, told_of (?_) (ag_Roads hA (by decide) u2) (ag_L0 hA (by decide) u3) (ag_L1 hA (by decide) u4) (ag_Rd hA (by decide) u5) (ag_Sh hA (by decide) u6), ag_Book hA (by decide) hB, hnp, ag_Tape hA (by decide) hTp, ag_Fault hA (by decide) hF, ag_Words hA (by decide) hW, ag_Img hA (by decide +kernel) hG⟩
  unfold IvT1 at *
  rw [show M2 6 0 = M 6 0 by rw [← hM2]; simp [ms_row, upd], show M2 6 1 = M 6 1 by rw [← hM2]; simp [ms_row, upd], show M2 6 2 = v by rw [← hM2]; simp [ms_row, upd], show M2 136 8 = M 136 8 by rw [← hM2]; simp [ms_row, upd], show M2 136 9 = M 136 9 by rw [← hM2]; simp [ms_row, upd], show M2 136 10 = v by rw [← hM2]; simp [ms_row, upd]]
  exact ⟨u1.1, u1.2.1, rfl, u1.2.2.2.1, u1.2.2.2.2.1, hb⟩
theorem set_inv4 {M : IM} {v : Int32} {j : Nat} (hj : j < 10) (hb : bnd v 0 999) (hI : Inv M) : Inv (ms (ms (ms (ms (ms M 4 j v) 34 0 0) 136 0 0) 137 (10 + j) v) 136 3 0) := by
  obtain ⟨hN, hT, hB, hP, hTp, hF, hW, hG⟩ := hI
  generalize hM2 : (ms (ms (ms (ms (ms M 4 j v) 34 0 0) 136 0 0) 137 (10 + j) v) 136 3 0) = M2
  have hA : agr [4, 137] [(34, 0), (136, 0), (136, 3)] M M2 := by
    rw [← hM2]
    exact agr_c (agr_c (agr_c (agr_c (agr_c agr_rf (Or.inr (by decide))) (by decide)) (by decide)) (Or.inr (by decide))) (by decide)
  obtain ⟨u1, u2, u3, u4, u5, u6⟩ := told_to hT
  have hnp : IvPast M2 := no_Past (agr_row (LR := [35]) (LC := []) hA (by decide) (by decide)) (by rw [← hM2]; simp [ms_row, upd]) (by rw [← hM2, ms_it]) hP
  refine ⟨?_, told_of (ag_T1 hA (by decide) u1) (ag_Roads hA (by decide) u2) (ag_L0 hA (by decide) u3) (ag_L1 hA (by decide) u4) (ag_Rd hA (by decide) u5) (ag_Sh hA (by decide) u6), ag_Book hA (by decide) hB, hnp, ag_Tape hA (by decide) hTp, ag_Fault hA (by decide) hF, ag_Words hA (by decide) hW, ag_Img hA (by decide +kernel) hG⟩
  obtain ⟨⟨a0, a1, a2, a3, a4, a5, a6, a7, a8, a9, aw⟩, ⟨b1, b2, b3, b4, b5, bw⟩, hL, dw, dl⟩ := hN
  have r4 : M2 4 = upd (M 4) j v := by rw [← hM2]; simp [ms_row]
  have r137 : M2 137 = upd (M 137) (10 + j) v := by rw [← hM2]; simp [ms_row]
  have hc : chk [4, 137] [(34, 0), (136, 0), (136, 3)] [1, 2, 3, 5, 20, 22, 140] [(136, 6)] = true := by decide
  unfold IvNow RNw OkN OkL at *
  rw [agr_row hA hc (p := 1) (by decide), agr_row hA hc (p := 2) (by decide), agr_row hA hc (p := 3) (by decide), agr_row hA hc (p := 5) (by decide), agr_row hA hc (p := 20) (by decide), agr_row hA hc (p := 22) (by decide), agr_row hA hc (p := 140) (by decide), agr_cell hA hc (p := 136) (i := 6) (by decide), r4, r137]
  have n9 : ∀ i : Nat, i < 10 → upd (M 137) (10 + j) v i = M 137 i := fun i h => upd_n (by omega)
  rw [n9 0 (by decide), n9 1 (by decide), n9 2 (by decide), n9 3 (by decide), n9 4 (by decide), n9 5 (by decide), n9 6 (by decide), n9 7 (by decide), n9 8 (by decide), n9 9 (by decide)]
  refine ⟨⟨a0, a1, a2, a3, a4, a5, a6, a7, a8, a9, fun w hw => ?_⟩, ⟨b1, b2, b3, b4, b5, fun w hw => ?_⟩, hL, dw, dl⟩
  · obtain ⟨y1, y2, y3⟩ := aw w hw
    rw [upd_n (j := 20 + w) (by omega), upd_n (j := 30 + w) (by omega)]
    refine ⟨?_, y2, y3⟩
    by_cases h : w = j
    · subst h; rw [upd_s, upd_s]
    · rw [upd_n (by omega), upd_n h]; exact y1
  · obtain ⟨y1, y2, y3, y4⟩ := bw w hw
    refine ⟨y1, y2, ?_, y4⟩
    by_cases h : w = j
    · subst h; rw [upd_s]; exact hb
    · rw [upd_n h]; exact y3
theorem set_inv5 {M : IM} {v : Int32} {j : Nat} (hj : j < 10) (hb : bnd v 0 1) (hI : Inv M) : Inv (ms (ms (ms (ms (ms M 3 j v) 34 0 0) 136 0 0) 140 j v) 136 3 0) := by
  obtain ⟨hN, hT, hB, hP, hTp, hF, hW, hG⟩ := hI
  generalize hM2 : (ms (ms (ms (ms (ms M 3 j v) 34 0 0) 136 0 0) 140 j v) 136 3 0) = M2
  have hA : agr [3, 140] [(34, 0), (136, 0), (136, 3)] M M2 := by
    rw [← hM2]
    exact agr_c (agr_c (agr_c (agr_c (agr_c agr_rf (Or.inr (by decide))) (by decide)) (by decide)) (Or.inr (by decide))) (by decide)
  obtain ⟨u1, u2, u3, u4, u5, u6⟩ := told_to hT
  have hnp : IvPast M2 := no_Past (agr_row (LR := [35]) (LC := []) hA (by decide) (by decide)) (by rw [← hM2]; simp [ms_row, upd]) (by rw [← hM2, ms_it]) hP
  refine ⟨?_, told_of (ag_T1 hA (by decide) u1) (ag_Roads hA (by decide) u2) (ag_L0 hA (by decide) u3) (ag_L1 hA (by decide) u4) (ag_Rd hA (by decide) u5) (ag_Sh hA (by decide) u6), ag_Book hA (by decide) hB, hnp, ag_Tape hA (by decide) hTp, ag_Fault hA (by decide) hF, ag_Words hA (by decide) hW, ag_Img hA (by decide +kernel) hG⟩
  obtain ⟨⟨a0, a1, a2, a3, a4, a5, a6, a7, a8, a9, aw⟩, ⟨b1, b2, b3, b4, b5, bw⟩, hL, dw, dl⟩ := hN
  have r3 : M2 3 = upd (M 3) j v := by rw [← hM2]; simp [ms_row]
  have r140 : M2 140 = upd (M 140) j v := by rw [← hM2]; simp [ms_row]
  have hc : chk [3, 140] [(34, 0), (136, 0), (136, 3)] [1, 2, 4, 5, 20, 22, 137] [(136, 6)] = true := by decide
  unfold IvNow RNw OkN OkL at *
  rw [agr_row hA hc (p := 1) (by decide), agr_row hA hc (p := 2) (by decide), agr_row hA hc (p := 4) (by decide), agr_row hA hc (p := 5) (by decide), agr_row hA hc (p := 20) (by decide), agr_row hA hc (p := 22) (by decide), agr_row hA hc (p := 137) (by decide), agr_cell hA hc (p := 136) (i := 6) (by decide), r3, r140]
  refine ⟨⟨a0, a1, a2, a3, a4, a5, a6, a7, a8, a9, aw⟩, ⟨b1, b2, b3, b4, b5, fun w hw => ?_⟩, hL, dw, fun w hw => ?_⟩
  · obtain ⟨y1, y2, y3, y4⟩ := bw w hw
    refine ⟨y1, ?_, y3, y4⟩
    by_cases h : w = j
    · subst h; rw [upd_s]; exact hb
    · rw [upd_n h]; exact y2
  · by_cases h : w = j
    · subst h; rw [upd_s, upd_s]
    · rw [upd_n h, upd_n h]; exact dl w hw
set_option maxRecDepth 100000 in
theorem st_set (p q v : Int32) : Stp2 Inv (f_X11_set p q v) (f_X12_set p q v) := by
  intro M hI
  obtain ⟨w, hw, ew⟩ := bnd_nI (n := 10) hI.1.2.1.2.2.2.2.1 (by decide)
  have dw : M 136 6 = nI w := by rw [hI.1.2.2.2.1, ew]
  by_cases c0 : p = 0
  · subst c0
    have hmo : ∀ X : IM, f_X12_mostOf 0 X = some (10, X) := fun X => by unfold f_X12_mostOf; rw [if_pos rfl]
    have hcan : f_X11_canBeSet 0 q v M = some ((if v < 0 ∨ 10 < v then (0 : Int32) else 1), M) := by unfold f_X11_canBeSet; rw [if_pos rfl, cl_s (win_c _ _ _ M)]; exact rz_ok
    by_cases hv : v < 0 ∨ 10 < v
    · exact ⟨0, M, ms M 136 0 0, by unfold f_X11_set; rw [cl_s hcan, if_pos (i0 hv)], by simp only [f_X12_set, pt]; rw [cl_s (win_m _ _ _ _), if_neg (i1 (by decide)), cl_s (hmo _), cl_s (win_m _ _ _ _), if_pos (i0 hv)], Inv_same same_told hI⟩
    · refine ⟨1, (ms (ms M 6 0 v) 34 0 0), (ms (ms (ms (ms (ms M 6 0 v) 34 0 0) 136 0 0) 136 8 v) 136 3 0), ?_, ?_, set_inv0 (bnd_of hv (by decide) (by decide)) hI⟩
      · unfold f_X11_set; rw [cl_s hcan, if_neg (i1 hv), if_pos rfl]; rfl
      · simp only [f_X12_set, pt]; rw [cl_s (win_m _ _ _ _), if_neg (i1 (by decide)), cl_s (hmo _), cl_s (win_m _ _ _ _), if_neg (i1 hv), if_pos (by decide)]; unfold f_X12_set_44; rw [if_pos rfl]; simp only [pt]; unfold f_X12_set_53; rw [if_neg (by decide)]; unfold f_X12_set_66; rw [if_neg (by decide)]; unfold f_X12_set_76; rw [if_neg (by decide)]; unfold f_X12_set_86; rw [if_neg (by decide)]; unfold f_X12_set_101; rw [if_neg (by decide)]; rfl
  by_cases c1 : p = 1
  · subst c1
    have hmo : ∀ X : IM, f_X12_mostOf 1 X = some (9999, X) := fun X => by unfold f_X12_mostOf; rw [if_neg (by decide), if_pos rfl]
    have hcan : f_X11_canBeSet 1 q v M = some ((if v < 0 ∨ 9999 < v then (0 : Int32) else 1), M) := by unfold f_X11_canBeSet; rw [if_neg (by decide), if_pos rfl, cl_s (win_c _ _ _ M)]; exact rz_ok
    by_cases hv : v < 0 ∨ 9999 < v
    · exact ⟨0, M, ms M 136 0 0, by unfold f_X11_set; rw [cl_s hcan, if_pos (i0 hv)], by simp only [f_X12_set, pt]; rw [cl_s (win_m _ _ _ _), if_neg (i1 (by decide)), cl_s (hmo _), cl_s (win_m _ _ _ _), if_pos (i0 hv)], Inv_same same_told hI⟩
    · refine ⟨1, (ms (ms M 1 8 v) 34 0 0), (ms (ms (ms (ms (ms M 1 8 v) 34 0 0) 136 0 0) 137 9 v) 136 3 0), ?_, ?_, set_inv1 (bnd_of hv (by decide) (by decide)) hI⟩
      · unfold f_X11_set; rw [cl_s hcan, if_neg (i1 hv), if_neg (by decide), if_pos rfl]; rfl
      · simp only [f_X12_set, pt]; rw [cl_s (win_m _ _ _ _), if_neg (i1 (by decide)), cl_s (hmo _), cl_s (win_m _ _ _ _), if_neg (i1 hv), if_pos (by decide)]; unfold f_X12_set_44; rw [if_neg (by decide)]; unfold f_X12_set_53; rw [if_pos rfl, wrK (i := 9) (j := 9) (n := 40) rfl (by decide) (by decide)]; unfold f_X12_set_66; rw [if_neg (by decide)]; unfold f_X12_set_76; rw [if_neg (by decide)]; unfold f_X12_set_86; rw [if_neg (by decide)]; unfold f_X12_set_101; rw [if_neg (by decide)]; rfl
  by_cases c2 : p = 2
  · subst c2
    have hmo : ∀ X : IM, f_X12_mostOf 2 X = some (1000, X) := fun X => by unfold f_X12_mostOf; rw [if_neg (by decide), if_neg (by decide), if_neg (by decide)]
    have hcan : f_X11_canBeSet 2 q v M = some ((if v < 0 ∨ 1000 < v then (0 : Int32) else 1), M) := by unfold f_X11_canBeSet; rw [if_neg (by decide), if_neg (by decide), if_pos rfl, cl_s (win_c _ _ _ M)]; exact rz_ok
    by_cases hv : v < 0 ∨ 1000 < v
    · exact ⟨0, M, ms M 136 0 0, by unfold f_X11_set; rw [cl_s hcan, if_pos (i0 hv)], by simp only [f_X12_set, pt]; rw [cl_s (win_m _ _ _ _), if_neg (i1 (by decide)), cl_s (hmo _), cl_s (win_m _ _ _ _), if_pos (i0 hv)], Inv_same same_told hI⟩
    · refine ⟨1, (ms (ms M 6 1 v) 34 0 0), (ms (ms (ms (ms (ms M 6 1 v) 34 0 0) 136 0 0) 136 9 v) 136 3 0), ?_, ?_, set_inv2 (bnd_of hv (by decide) (by decide)) hI⟩
      · unfold f_X11_set; rw [cl_s hcan, if_neg (i1 hv), if_neg (by decide), if_neg (by decide), if_pos rfl]; rfl
      · simp only [f_X12_set, pt]; rw [cl_s (win_m _ _ _ _), if_neg (i1 (by decide)), cl_s (hmo _), cl_s (win_m _ _ _ _), if_neg (i1 hv), if_pos (by decide)]; unfold f_X12_set_44; rw [if_neg (by decide)]; unfold f_X12_set_53; rw [if_neg (by decide)]; unfold f_X12_set_66; rw [if_pos rfl]; simp only [pt]; unfold f_X12_set_76; rw [if_neg (by decide)]; unfold f_X12_set_86; rw [if_neg (by decide)]; unfold f_X12_set_101; rw [if_neg (by decide)]; rfl
  by_cases c3 : p = 3
  · subst c3
    have hmo : ∀ X : IM, f_X12_mostOf 3 X = some (1000, X) := fun X => by unfold f_X12_mostOf; rw [if_neg (by decide), if_neg (by decide), if_neg (by decide)]
    have hcan : f_X11_canBeSet 3 q v M = some ((if v < 0 ∨ 1000 < v then (0 : Int32) else 1), M) := by unfold f_X11_canBeSet; rw [if_neg (by decide), if_neg (by decide), if_neg (by decide), if_pos rfl, cl_s (win_c _ _ _ M)]; exact rz_ok
    by_cases hv : v < 0 ∨ 1000 < v
    · exact ⟨0, M, ms M 136 0 0, by unfold f_X11_set; rw [cl_s hcan, if_pos (i0 hv)], by simp only [f_X12_set, pt]; rw [cl_s (win_m _ _ _ _), if_neg (i1 (by decide)), cl_s (hmo _), cl_s (win_m _ _ _ _), if_pos (i0 hv)], Inv_same same_told hI⟩
    · refine ⟨1, (ms (ms M 6 2 v) 34 0 0), (ms (ms (ms (ms (ms M 6 2 v) 34 0 0) 136 0 0) 136 10 v) 136 3 0), ?_, ?_, set_inv3 (bnd_of hv (by decide) (by decide)) hI⟩
      · unfold f_X11_set; rw [cl_s hcan, if_neg (i1 hv), if_neg (by decide), if_neg (by decide), if_neg (by decide), if_pos rfl]; rfl
      · simp only [f_X12_set, pt]; rw [cl_s (win_m _ _ _ _), if_neg (i1 (by decide)), cl_s (hmo _), cl_s (win_m _ _ _ _), if_neg (i1 hv), if_pos (by decide)]; unfold f_X12_set_44; rw [if_neg (by decide)]; unfold f_X12_set_53; rw [if_neg (by decide)]; unfold f_X12_set_66; rw [if_neg (by decide)]; unfold f_X12_set_76; rw [if_pos rfl]; simp only [pt]; unfold f_X12_set_86; rw [if_neg (by decide)]; unfold f_X12_set_101; rw [if_neg (by decide)]; rfl
  by_cases c4 : p = 4
  · subst c4
    have hmo : ∀ X : IM, f_X12_mostOf 4 X = some (999, X) := fun X => by unfold f_X12_mostOf; rw [if_neg (by decide), if_neg (by decide), if_pos (by decide), if_pos rfl]
    by_cases hq : q < 0 ∨ nI w ≤ q
    · have hcan : f_X11_canBeSet 4 q v M = some (0, M) := by unfold f_X11_canBeSet; rw [if_neg (by decide), if_neg (by decide), if_neg (by decide), if_neg (by decide), if_pos rfl, cl_s (wal_c _ M), ew, if_pos (i0 hq)]
      refine ⟨0, M, ms M 136 0 0, by unfold f_X11_set; rw [cl_s hcan, if_pos rfl], ?_, Inv_same same_told hI⟩
      by_cases hv : v < 0 ∨ 999 < v
      · simp only [f_X12_set, pt]; rw [cl_s (win_m _ _ _ _), if_neg (i1 (by decide)), cl_s (hmo _), cl_s (win_m _ _ _ _), if_pos (i0 hv)]
      · simp only [f_X12_set, pt]; rw [cl_s (win_m _ _ _ _), if_neg (i1 (by decide)), cl_s (hmo _), cl_s (win_m _ _ _ _), if_neg (i1 hv), if_neg (by decide), cl_s (wal_m _ _), ms_at (by decide), dw, if_pos (i0 hq)]
    by_cases hv : v < 0 ∨ 999 < v
    · have hcan : f_X11_canBeSet 4 q v M = some (0, M) := by unfold f_X11_canBeSet; rw [if_neg (by decide), if_neg (by decide), if_neg (by decide), if_neg (by decide), if_pos rfl, cl_s (wal_c _ M), ew, if_neg (i1 hq), cl_s (win_c _ _ _ M), if_pos (i0 hv)]
      exact ⟨0, M, ms M 136 0 0, by unfold f_X11_set; rw [cl_s hcan, if_pos rfl], by simp only [f_X12_set, pt]; rw [cl_s (win_m _ _ _ _), if_neg (i1 (by decide)), cl_s (hmo _), cl_s (win_m _ _ _ _), if_pos (i0 hv)], Inv_same same_told hI⟩
    · have hcan : f_X11_canBeSet 4 q v M = some (1, M) := by unfold f_X11_canBeSet; rw [if_neg (by decide), if_neg (by decide), if_neg (by decide), if_neg (by decide), if_pos rfl, cl_s (wal_c _ M), ew, if_neg (i1 hq), cl_s (win_c _ _ _ M), if_neg (i1 hv)]
      have hq2 := hq
      obtain ⟨j, hj, rfl⟩ := in_wal (by omega) hq
      refine ⟨1, (ms (ms M 4 j v) 34 0 0), (ms (ms (ms (ms (ms M 4 j v) 34 0 0) 136 0 0) 137 (10 + j) v) 136 3 0), ?_, ?_, set_inv4 (by omega) (bnd_of hv (by decide) (by decide)) hI⟩
      · unfold f_X11_set; rw [cl_s hcan, if_neg (by decide), if_neg (by decide), if_neg (by decide), if_neg (by decide), if_neg (by decide), if_pos rfl, wrK (j := j) (n := 10) rfl (by omega) (by decide)]; rfl
      · simp only [f_X12_set, pt]; rw [cl_s (win_m _ _ _ _), if_neg (i1 (by decide)), cl_s (hmo _), cl_s (win_m _ _ _ _), if_neg (i1 hv), if_neg (by decide), cl_s (wal_m _ _), show ms (ms (ms M 4 j v) 34 0 0) 136 0 0 136 6 = nI w by rw [ms_at (by decide), ms_ne (by decide), ms_ne (by decide), dw], if_neg (i1 hq2)]; unfold f_X12_set_44; rw [if_neg (by decide)]; unfold f_X12_set_53; rw [if_neg (by decide)]; unfold f_X12_set_66; rw [if_neg (by decide)]; unfold f_X12_set_76; rw [if_neg (by decide)]; unfold f_X12_set_86; rw [if_pos rfl, wrK (j := 10 + j) (n := 40) (show (10 : Int32) + nI j = nI (10 + j) from nI_add 10 j) (by omega) (by decide)]; unfold f_X12_set_101; rw [if_neg (by decide)]; rfl
  by_cases c5 : p = 5
  · subst c5
    have hmo : ∀ X : IM, f_X12_mostOf 5 X = some (1, X) := fun X => by unfold f_X12_mostOf; rw [if_neg (by decide), if_neg (by decide), if_pos (by decide), if_neg (by decide)]
    by_cases hq : q < 0 ∨ nI w ≤ q
    · have hcan : f_X11_canBeSet 5 q v M = some (0, M) := by unfold f_X11_canBeSet; rw [if_neg (by decide), if_neg (by decide), if_neg (by decide), if_neg (by decide), if_neg (by decide), if_pos rfl, cl_s (wal_c _ M), ew, if_pos (i0 hq)]
      refine ⟨0, M, ms M 136 0 0, by unfold f_X11_set; rw [cl_s hcan, if_pos rfl], ?_, Inv_same same_told hI⟩
      by_cases hv : v < 0 ∨ 1 < v
      · simp only [f_X12_set, pt]; rw [cl_s (win_m _ _ _ _), if_neg (i1 (by decide)), cl_s (hmo _), cl_s (win_m _ _ _ _), if_pos (i0 hv)]
      · simp only [f_X12_set, pt]; rw [cl_s (win_m _ _ _ _), if_neg (i1 (by decide)), cl_s (hmo _), cl_s (win_m _ _ _ _), if_neg (i1 hv), if_neg (by decide), cl_s (wal_m _ _), ms_at (by decide), dw, if_pos (i0 hq)]
    by_cases hv : v < 0 ∨ 1 < v
    · have hcan : f_X11_canBeSet 5 q v M = some (0, M) := by unfold f_X11_canBeSet; rw [if_neg (by decide), if_neg (by decide), if_neg (by decide), if_neg (by decide), if_neg (by decide), if_pos rfl, cl_s (wal_c _ M), ew, if_neg (i1 hq), cl_s (win_c _ _ _ M), if_pos (i0 hv)]
      exact ⟨0, M, ms M 136 0 0, by unfold f_X11_set; rw [cl_s hcan, if_pos rfl], by simp only [f_X12_set, pt]; rw [cl_s (win_m _ _ _ _), if_neg (i1 (by decide)), cl_s (hmo _), cl_s (win_m _ _ _ _), if_pos (i0 hv)], Inv_same same_told hI⟩
    · have hcan : f_X11_canBeSet 5 q v M = some (1, M) := by unfold f_X11_canBeSet; rw [if_neg (by decide), if_neg (by decide), if_neg (by decide), if_neg (by decide), if_neg (by decide), if_pos rfl, cl_s (wal_c _ M), ew, if_neg (i1 hq), cl_s (win_c _ _ _ M), if_neg (i1 hv)]
      have hq2 := hq
      obtain ⟨j, hj, rfl⟩ := in_wal (by omega) hq
      refine ⟨1, (ms (ms M 3 j v) 34 0 0), (ms (ms (ms (ms (ms M 3 j v) 34 0 0) 136 0 0) 140 j v) 136 3 0), ?_, ?_, set_inv5 (by omega) (bnd_of hv (by decide) (by decide)) hI⟩
      · unfold f_X11_set; rw [cl_s hcan, if_neg (by decide), if_neg (by decide), if_neg (by decide), if_neg (by decide), if_neg (by decide), if_neg (by decide), wrK (j := j) (n := 10) rfl (by omega) (by decide)]; rfl
      · simp only [f_X12_set, pt]; rw [cl_s (win_m _ _ _ _), if_neg (i1 (by decide)), cl_s (hmo _), cl_s (win_m _ _ _ _), if_neg (i1 hv), if_neg (by decide), cl_s (wal_m _ _), show ms (ms (ms M 3 j v) 34 0 0) 136 0 0 136 6 = nI w by rw [ms_at (by decide), ms_ne (by decide), ms_ne (by decide), dw], if_neg (i1 hq2)]; unfold f_X12_set_44; rw [if_neg (by decide)]; unfold f_X12_set_53; rw [if_neg (by decide)]; unfold f_X12_set_66; rw [if_neg (by decide)]; unfold f_X12_set_76; rw [if_neg (by decide)]; unfold f_X12_set_86; rw [if_neg (by decide)]; unfold f_X12_set_101; rw [if_pos rfl, wrK (j := j) (n := 10) rfl (by omega) (by decide)]; rfl
  have hcan : f_X11_canBeSet p q v M = some (0, M) := by unfold f_X11_canBeSet; rw [if_neg c0, if_neg c1, if_neg c2, if_neg c3, if_neg c4, if_neg c5]
  refine ⟨0, M, ms M 136 0 0, by unfold f_X11_set; rw [cl_s hcan, if_pos rfl], ?_, Inv_same same_told hI⟩
  have hp : p < 0 ∨ 5 < p := by
    by_cases h : p < 0 ∨ 5 < p
    · exact h
    · obtain ⟨j, hj, rfl⟩ := in_to (n := 5) (by decide) h
      match j, hj with
      | 0, _ => exact absurd rfl c0
      | 1, _ => exact absurd rfl c1
      | 2, _ => exact absurd rfl c2
      | 3, _ => exact absurd rfl c3
      | 4, _ => exact absurd rfl c4
      | 5, _ => exact absurd rfl c5
  simp only [f_X12_set, pt]; rw [cl_s (win_m _ _ _ _), if_pos (i0 hp)]
