/-! walker -/
theorem bnd_n {k : Nat} {lo hi : Int} (hk : k < 2 ^ 31) (h1 : lo ≤ k) (h2 : (k : Int) ≤ hi) : bnd (nI k) lo hi := ⟨by rw [nI_toInt hk]; exact h1, by rw [nI_toInt hk]; exact h2⟩
theorem st_walker (p l : Int32) : Stp2 Inv (f_X11_walker p l) (f_X12_walker p l) := by
  intro M hI
  obtain ⟨hN, hT, hB, hP, hTp, hF, hW, hG⟩ := id hI
  obtain ⟨⟨a0, a1, a2, a3, a4, a5, a6, a7, a8, a9, aw⟩, ⟨b1, b2, b3, b4, b5, bw⟩, hL, dw, dl⟩ := hN
  obtain ⟨w, hw, ew⟩ := bnd_nI (n := 10) b5 (by decide)
  have em : ∀ {v : Int32}, ms M 136 0 v 136 6 = nI w := fun {v} => by rw [ms_at (by decide), dw, ew]
  by_cases hp : p < 0 ∨ 8 ≤ p
  · exact ⟨-1, M, ms M 136 0 0, by unfold f_X11_walker; rw [cl_s (par_c p M), if_pos (i0 hp)], by simp only [f_X12_walker, pt]; rw [cl_s (par_m p _), if_pos (i0 hp)], Inv_same same_told hI⟩
  by_cases hl : l < 0 ∨ 1 < l
  · exact ⟨-1, M, ms M 136 0 0, by unfold f_X11_walker; rw [cl_s (par_c p M), if_neg (i1 hp), cl_s (win_c _ _ _ M), if_pos (i0 hl)], by simp only [f_X12_walker, pt]; rw [cl_s (par_m p _), if_neg (i1 hp), cl_s (win_m _ _ _ _), if_pos (i0 hl)], Inv_same same_told hI⟩
  by_cases hw10 : w = 10
  · subst hw10
    exact ⟨-1, M, ms M 136 0 0, by unfold f_X11_walker; rw [cl_s (par_c p M), if_neg (i1 hp), cl_s (win_c _ _ _ M), if_neg (i1 hl), ew, if_neg (by decide)], by simp only [f_X12_walker, pt]; rw [cl_s (par_m p _), if_neg (i1 hp), cl_s (win_m _ _ _ _), if_neg (i1 hl), em, if_pos (by decide)], Inv_same same_told hI⟩
  have hlt : w < 10 := by omega
  have e1 : f_X11_walker p l M = some (nI w, ms (ms (ms (ms (ms (ms M 2 w p) 3 w l) 4 w 0) 5 w 0) 1 10 (nI w + 1)) 34 0 0) := by
    simp only [f_X11_walker, lt, pt]
    rw [cl_s (par_c p M), if_neg (i1 hp), cl_s (win_c _ _ _ M), if_neg (i1 hl), ew, if_pos (show nI w < 10 from nI_lt (b := 10) hlt (by decide)), wrK (j := w) rfl hlt (by decide), wrK (j := w) rfl hlt (by decide), wrK (j := w) rfl hlt (by decide), wrK (j := w) rfl hlt (by decide)]
    rfl
  generalize hM1 : ms (ms (ms (ms (ms (ms M 2 w p) 3 w l) 4 w 0) 5 w 0) 1 10 (nI w + 1)) 34 0 0 = M1 at e1
  have em1 : M1 136 6 = nI w := by rw [← hM1]; simp [ms_row]; rw [dw, ew]
  have x3 : (30 : Int32) + nI w = nI (30 + w) := nI_add 30 w
  have x1 : (10 : Int32) + nI w = nI (10 + w) := nI_add 10 w
  have x2 : (20 : Int32) + nI w = nI (20 + w) := nI_add 20 w
  have e2 : f_X12_walker p l M1 = some (nI w, ms (ms (ms (ms (ms (ms (ms M1 136 0 0) 140 w l) 137 (30 + w) p) 137 (10 + w) 0) 137 (20 + w) 0) 136 6 (nI w + 1)) 136 3 0) := by
    simp only [f_X12_walker, lt, pt]
    rw [cl_s (par_m p _), if_neg (i1 hp), cl_s (win_m _ _ _ _), if_neg (i1 hl), show ms M1 136 0 0 136 6 = nI w by rw [ms_at (by decide), em1], if_neg (show ¬ nI w = 10 from fun e => hw10 ((nI_eq (b := 10) (by omega) (by decide)).mp e)), wrK (j := w) rfl hlt (by decide), wrK (j := 30 + w) (n := 40) x3 (by omega) (by decide), wrK (j := 10 + w) (n := 40) x1 (by omega) (by decide), wrK (j := 20 + w) (n := 40) x2 (by omega) (by decide)]
    rw [show ms (ms (ms (ms (ms M1 136 0 0) 140 w l) 137 (30 + w) p) 137 (10 + w) 0) 137 (20 + w) 0 136 6 = nI w by rw [ms_ne (by decide), ms_ne (by decide), ms_ne (by decide), ms_ne (by decide), ms_at (by decide), em1]]
  refine ⟨nI w, M1, _, e1, e2, ?_⟩
  generalize hM2 : ms (ms (ms (ms (ms (ms (ms M1 136 0 0) 140 w l) 137 (30 + w) p) 137 (10 + w) 0) 137 (20 + w) 0) 136 6 (nI w + 1)) 136 3 0 = M2
  have hA : agr [2, 3, 4, 5, 140, 137] [(1, 10), (34, 0), (136, 0), (136, 6), (136, 3)] M M2 := by
    rw [← hM2, ← hM1]
    exact agr_c (agr_c (agr_c (agr_c (agr_c (agr_c (agr_c (agr_c (agr_c (agr_c (agr_c (agr_c (agr_c agr_rf (Or.inr (by decide))) (Or.inr (by decide))) (Or.inr (by decide))) (Or.inr (by decide))) (by decide)) (by decide)) (by decide)) (Or.inr (by decide))) (Or.inr (by decide))) (Or.inr (by decide))) (Or.inr (by decide))) (by decide)) (by decide)
  have nw1 : nI w + 1 = nI (w + 1) := nI_1 w
  have r2 : M2 2 = upd (M 2) w p := by rw [← hM2, ← hM1]; simp [ms_row]
  have r3 : M2 3 = upd (M 3) w l := by rw [← hM2, ← hM1]; simp [ms_row]
  have r4 : M2 4 = upd (M 4) w 0 := by rw [← hM2, ← hM1]; simp [ms_row]
  have r5 : M2 5 = upd (M 5) w 0 := by rw [← hM2, ← hM1]; simp [ms_row]
  have r140 : M2 140 = upd (M 140) w l := by rw [← hM2, ← hM1]; simp [ms_row]
  have r137 : M2 137 = upd (upd (upd (M 137) (30 + w) p) (10 + w) 0) (20 + w) 0 := by rw [← hM2, ← hM1]; simp [ms_row]
  have r1 : M2 1 = upd (M 1) 10 (nI (w + 1)) := by rw [← hM2, ← hM1, ← nw1]; simp [ms_row]
  have r6 : M2 136 6 = nI (w + 1) := by rw [← hM2, ms_at (by decide), ms_it, nw1]
  obtain ⟨u1, u2, u3, u4, u5, u6⟩ := told_to hT
  have hbp : bnd p 0 7 := by
    obtain ⟨j, hj, rfl⟩ := in8 hp
    exact bnd_n (by omega) (by omega) (by omega)
  have hbl : bnd l 0 1 := bnd_of hl (by decide) (by decide)
  refine ⟨?_, told_of (ag_T1 hA (by decide) u1) (ag_Roads hA (by decide) u2) (ag_L0 hA (by decide) u3) (ag_L1 hA (by decide) u4) (ag_Rd hA (by decide) u5) ?_, ag_Book hA (by decide) hB, no_Past (agr_row (LR := [35]) (LC := []) hA (by decide) (by decide)) (by rw [← hM2, ← hM1]; simp [ms_row, upd]) (by rw [← hM2, ms_it]) hP, ag_Tape hA (by decide) hTp, ag_Fault hA (by decide) hF, ag_Words hA (by decide) hW, ag_Img hA (by decide +kernel) hG⟩
  · have r20 : M2 20 = M 20 := agr_row (LR := [20, 22]) (LC := []) hA (by decide) (by decide)
    have r22 : M2 22 = M 22 := agr_row (LR := [20, 22]) (LC := []) hA (by decide) (by decide)
    have n1 : ∀ i : Nat, i < 10 → M2 1 i = M 1 i := fun i hi => by rw [r1, upd_n (by omega)]
    have n137 : ∀ i : Nat, i < 10 → M2 137 i = M 137 i := fun i hi => by rw [r137, upd_n (by omega), upd_n (by omega), upd_n (by omega)]
    refine ⟨?_, ?_, ?_, ?_, ?_⟩
    · unfold RNw
      rw [n1 0 (by decide), n1 1 (by decide), n1 2 (by decide), n1 3 (by decide), n1 4 (by decide), n1 5 (by decide), n1 6 (by decide), n1 7 (by decide), n1 8 (by decide), n1 9 (by decide), n137 0 (by decide), n137 1 (by decide), n137 2 (by decide), n137 3 (by decide), n137 4 (by decide), n137 5 (by decide), n137 6 (by decide), n137 7 (by decide), n137 8 (by decide), n137 9 (by decide)]
      refine ⟨a0, a1, a2, a3, a4, a5, a6, a7, a8, a9, fun x hx => ?_⟩
      rw [r137, r4, r5, r2]
      obtain ⟨y1, y2, y3⟩ := aw x hx
      by_cases hxw : x = w
      · subst hxw
        exact ⟨by rw [upd_n (by omega), upd_s, upd_s], by rw [upd_s, upd_s], by rw [upd_n (by omega), upd_n (by omega), upd_s, upd_s]⟩
      · exact ⟨by rw [upd_n (by omega), upd_n (by omega), upd_n (by omega), upd_n hxw]; exact y1, by rw [upd_n (by omega), upd_n (by omega), upd_n (by omega), upd_n hxw]; exact y2, by rw [upd_n (by omega), upd_n (by omega), upd_n (by omega), upd_n hxw]; exact y3⟩
    · unfold OkN
      rw [n1 1 (by decide), n1 4 (by decide), n1 8 (by decide), n1 9 (by decide), r1, upd_s, r2, r3, r4, r5]
      refine ⟨b1, b2, b3, b4, bnd_n (by omega) (by omega) (by omega), fun x hx => ?_⟩
      obtain ⟨y1, y2, y3, y4⟩ := bw x hx
      by_cases hxw : x = w
      · subst hxw
        rw [upd_s, upd_s, upd_s, upd_s]
        exact ⟨hbp, hbl, ⟨by decide, by decide⟩, ⟨by decide, by decide⟩⟩
      · rw [upd_n hxw, upd_n hxw, upd_n hxw, upd_n hxw]
        exact ⟨y1, y2, y3, y4⟩
    · unfold OkL at *
      rw [n1 2 (by decide), n1 3 (by decide), r20, r22]
      exact hL
    · rw [r6, r1, upd_s]
    · intro x hx
      rw [r140, r3]
      by_cases hxw : x = w
      · subst hxw; rw [upd_s, upd_s]
      · rw [upd_n hxw, upd_n hxw]; exact dl x hx
  · unfold IvSh RSh at *
    rw [agr_row (LR := [25, 26, 27, 154]) (LC := [(136, 38)]) hA (p := 25) (by decide) (by decide), agr_row (LR := [25, 26, 27, 154]) (LC := [(136, 38)]) hA (p := 26) (by decide) (by decide), agr_row (LR := [25, 26, 27, 154]) (LC := [(136, 38)]) hA (p := 27) (by decide) (by decide), agr_row (LR := [25, 26, 27, 154]) (LC := [(136, 38)]) hA (p := 154) (by decide) (by decide), agr_cell (LR := [25, 26, 27, 154]) (LC := [(136, 38)]) hA (p := 136) (i := 38) (by decide) (by decide)]
    refine ⟨u6.1, u6.2.1, fun i hi => ?_⟩
    obtain ⟨z1, z2, z3, z4⟩ := u6.2.2 i hi
    refine ⟨z1, z2, ?_, z4⟩
    rw [r1, upd_s, nI_toInt (by omega)]
    rw [ew, nI_toInt (by omega)] at z3
    omega
