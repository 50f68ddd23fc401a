/-! what is told, in its parts -/
def IvT1 (M : IM) : Prop := M 136 8 = M 6 0 ∧ M 136 9 = M 6 1 ∧ M 136 10 = M 6 2 ∧ bnd (M 6 0) 0 10 ∧ bnd (M 6 1) 0 1000 ∧ bnd (M 6 2) 0 1000
def IvRoads (M : IM) : Prop := ∀ i : Nat, i < 64 → M 141 i = M 7 i ∧ bnd (M 7 i) 0 99
def IvL0 (M : IM) : Prop := RLw false (M 8) (M 9) (M 10) (M 11) (M 12) (M 13) (M 145 0) (M 146) (M 147) (M 148) (M 149) (M 150) (M 151)
def IvL1 (M : IM) : Prop := RLw true (M 14) (M 15) (M 16) (M 17) (M 18) (M 19) (M 145 1) (fun i => M 146 (16 + i)) (fun i => M 147 (16 + i)) (fun i => M 148 (16 + i)) (fun i => M 149 (16 + i)) (fun i => M 150 (400 + i)) (fun i => M 151 (400 + i))
def IvRd (M : IM) : Prop := RRd (M 20) (M 21) (M 22) (M 23) (M 24) (M 136 36) (M 153)
def IvSh (M : IM) : Prop := RSh (M 25) (M 26) (M 27) (M 136 38) (M 154) (M 1 10)
theorem told_of {M : IM} (h1 : IvT1 M) (h2 : IvRoads M) (h3 : IvL0 M) (h4 : IvL1 M) (h5 : IvRd M) (h6 : IvSh M) : IvTold M := ⟨h1.1, h1.2.1, h1.2.2.1, h1.2.2.2.1, h1.2.2.2.2.1, h1.2.2.2.2.2, h2, h3, h4, h5, h6⟩
theorem told_to {M : IM} (h : IvTold M) : IvT1 M ∧ IvRoads M ∧ IvL0 M ∧ IvL1 M ∧ IvRd M ∧ IvSh M := by
  obtain ⟨a1, a2, a3, a4, a5, a6, a7, a8, a9, a10, a11⟩ := h
  exact ⟨⟨a1, a2, a3, a4, a5, a6⟩, a7, a8, a9, a10, a11⟩
section AGT
variable {R : List Nat} {A : List (Nat × Nat)} {M M' : IM}
theorem ag_T1 (h : agr R A M M') (hc : chk R A [] [(6, 0), (6, 1), (6, 2), (136, 8), (136, 9), (136, 10)] = true) (hT : IvT1 M) : IvT1 M' := by
  unfold IvT1 at *
  rw [agr_cell h hc (p := 6) (i := 0) (by decide), agr_cell h hc (p := 6) (i := 1) (by decide), agr_cell h hc (p := 6) (i := 2) (by decide), agr_cell h hc (p := 136) (i := 8) (by decide), agr_cell h hc (p := 136) (i := 9) (by decide), agr_cell h hc (p := 136) (i := 10) (by decide)]
  exact hT
theorem ag_Roads (h : agr R A M M') (hc : chk R A [7, 141] [] = true) (hT : IvRoads M) : IvRoads M' := by
  unfold IvRoads at *
  rw [agr_row h hc (p := 7) (by decide), agr_row h hc (p := 141) (by decide)]
  exact hT
theorem ag_L0 (h : agr R A M M') (hc : chk R A [8, 9, 10, 11, 12, 13, 146, 147, 148, 149, 150, 151] [(145, 0)] = true) (hT : IvL0 M) : IvL0 M' := by
  unfold IvL0 at *
  rw [agr_row h hc (p := 8) (by decide), agr_row h hc (p := 9) (by decide), agr_row h hc (p := 10) (by decide), agr_row h hc (p := 11) (by decide), agr_row h hc (p := 12) (by decide), agr_row h hc (p := 13) (by decide), agr_row h hc (p := 146) (by decide), agr_row h hc (p := 147) (by decide), agr_row h hc (p := 148) (by decide), agr_row h hc (p := 149) (by decide), agr_row h hc (p := 150) (by decide), agr_row h hc (p := 151) (by decide), agr_cell h hc (p := 145) (i := 0) (by decide)]
  exact hT
theorem ag_L1 (h : agr R A M M') (hc : chk R A [14, 15, 16, 17, 18, 19, 146, 147, 148, 149, 150, 151] [(145, 1)] = true) (hT : IvL1 M) : IvL1 M' := by
  unfold IvL1 at *
  rw [agr_row h hc (p := 14) (by decide), agr_row h hc (p := 15) (by decide), agr_row h hc (p := 16) (by decide), agr_row h hc (p := 17) (by decide), agr_row h hc (p := 18) (by decide), agr_row h hc (p := 19) (by decide), agr_row h hc (p := 146) (by decide), agr_row h hc (p := 147) (by decide), agr_row h hc (p := 148) (by decide), agr_row h hc (p := 149) (by decide), agr_row h hc (p := 150) (by decide), agr_row h hc (p := 151) (by decide), agr_cell h hc (p := 145) (i := 1) (by decide)]
  exact hT
theorem ag_Rd (h : agr R A M M') (hc : chk R A [20, 21, 22, 23, 24, 153] [(136, 36)] = true) (hT : IvRd M) : IvRd M' := by
  unfold IvRd at *
  rw [agr_row h hc (p := 20) (by decide), agr_row h hc (p := 21) (by decide), agr_row h hc (p := 22) (by decide), agr_row h hc (p := 23) (by decide), agr_row h hc (p := 24) (by decide), agr_row h hc (p := 153) (by decide), agr_cell h hc (p := 136) (i := 36) (by decide)]
  exact hT
theorem ag_Sh (h : agr R A M M') (hc : chk R A [25, 26, 27, 154] [(136, 38), (1, 10)] = true) (hT : IvSh M) : IvSh M' := by
  unfold IvSh at *
  rw [agr_row h hc (p := 25) (by decide), agr_row h hc (p := 26) (by decide), agr_row h hc (p := 27) (by decide), agr_row h hc (p := 154) (by decide), agr_cell h hc (p := 136) (i := 38) (by decide), agr_cell h hc (p := 1) (i := 10) (by decide)]
  exact hT
end AGT
theorem upd_s {f : Nat → Int32} {k : Nat} {x : Int32} : upd f k x k = x := by unfold upd; rw [if_pos rfl]
theorem upd_n {f : Nat → Int32} {k j : Nat} {x : Int32} (h : ¬ j = k) : upd f k x j = f j := by unfold upd; rw [if_neg h]
theorem ms_ro {M : IM} {o i : Nat} {v : Int32} : ms M o i v o = upd (M o) i v := by rw [ms_row, if_pos rfl]
theorem in8 {p : Int32} (hp : ¬ (p < 0 ∨ 8 ≤ p)) : ∃ j : Nat, j < 8 ∧ p = nI j := by
  rcases pk_ix p (n := 8) (by decide) with h | h | h
  · exact absurd (Or.inl h) hp
  · exact absurd (Or.inr h) hp
  · exact h
theorem bnd_of {v : Int32} {a b : Int32} {lo hi : Int} (h : ¬ (v < a ∨ b < v)) (ha : a.toInt = lo) (hb : b.toInt = hi) : bnd v lo hi := by
  rw [not_or, Int32.not_lt, Int32.not_lt, Int32.le_iff_toInt_le, Int32.le_iff_toInt_le] at h
  exact ⟨by have := h.1; omega, by have := h.2; omega⟩
/-- road -/
theorem st_road (p q v : Int32) : Stp2 Inv (f_X11_road p q v) (f_X12_road p q v) := by
  intro M hI
  by_cases hp : p < 0 ∨ 8 ≤ p
  · exact ⟨0, M, ms M 136 0 0, by unfold f_X11_road; rw [cl_s (par_c p M), if_pos (i0 hp)], by simp only [f_X12_road, pt]; rw [cl_s (par_m p _), if_pos (i0 hp)], Inv_same same_told hI⟩
  · by_cases hq : q < 0 ∨ 8 ≤ q
    · exact ⟨0, M, ms M 136 0 0, by unfold f_X11_road; rw [cl_s (par_c p M), if_neg (i1 hp), cl_s (par_c q M), if_pos (i0 hq)], by simp only [f_X12_road, pt]; rw [cl_s (par_m p _), if_neg (i1 hp), cl_s (par_m q _), if_pos (i0 hq)], Inv_same same_told hI⟩
    · by_cases hpq : p = q
      · exact ⟨0, M, ms M 136 0 0, by unfold f_X11_road; rw [cl_s (par_c p M), if_neg (i1 hp), cl_s (par_c q M), if_neg (i1 hq), if_pos hpq], by simp only [f_X12_road, pt]; rw [cl_s (par_m p _), if_neg (i1 hp), cl_s (par_m q _), if_neg (i1 hq), if_pos hpq], Inv_same same_told hI⟩
      · by_cases hv : v < 0 ∨ 99 < v
        · exact ⟨0, M, ms M 136 0 0, by unfold f_X11_road; rw [cl_s (par_c p M), if_neg (i1 hp), cl_s (par_c q M), if_neg (i1 hq), if_neg hpq, cl_s (win_c _ _ _ M), if_pos (i0 hv)], by simp only [f_X12_road, pt]; rw [cl_s (par_m p _), if_neg (i1 hp), cl_s (par_m q _), if_neg (i1 hq), if_neg hpq, cl_s (win_m _ _ _ _), if_pos (i0 hv)], Inv_same same_told hI⟩
        · obtain ⟨j, hj, rfl⟩ := in8 hp
          obtain ⟨k, hk, rfl⟩ := in8 hq
          have e1 : ∀ a b : Nat, nI a * 8 + nI b = nI (8 * a + b) := fun a b => by rw [show (8 : Int32) = nI 8 from rfl, pk_mul, nI_add, Nat.mul_comm]
          have e2 : ∀ a b : Nat, (8 : Int32) * nI a + nI b = nI (8 * a + b) := fun a b => by rw [show (8 : Int32) = nI 8 from rfl, pk_mul, nI_add]
          refine ⟨1, ms (ms M 7 (8 * j + k) v) 7 (8 * k + j) v, ms (ms (ms (ms (ms M 7 (8 * j + k) v) 7 (8 * k + j) v) 136 0 0) 141 (8 * j + k) v) 141 (8 * k + j) v, ?_, ?_, ?_⟩
          · unfold f_X11_road
            rw [cl_s (par_c _ M), if_neg (i1 hp), cl_s (par_c _ M), if_neg (i1 hq), if_neg hpq, cl_s (win_c _ _ _ M), if_neg (i1 hv), wrK (j := 8 * j + k) (n := 64) (e1 j k) (by omega) (by decide), wrK (j := 8 * k + j) (n := 64) (e1 k j) (by omega) (by decide)]
          · simp only [f_X12_road, pt]
            rw [cl_s (par_m _ _), if_neg (i1 hp), cl_s (par_m _ _), if_neg (i1 hq), if_neg hpq, cl_s (win_m _ _ _ _), if_neg (i1 hv), wrK (j := 8 * j + k) (n := 64) (e2 j k) (by omega) (by decide), wrK (j := 8 * k + j) (n := 64) (e2 k j) (by omega) (by decide)]
          · obtain ⟨hN, hT, hB, hP, hTp, hF, hW, hG⟩ := hI
            obtain ⟨u1, u2, u3, u4, u5, u6⟩ := told_to hT
            have hA : agr [7, 141] [(136, 0)] M (ms (ms (ms (ms (ms M 7 (8 * j + k) v) 7 (8 * k + j) v) 136 0 0) 141 (8 * j + k) v) 141 (8 * k + j) v) := agr_c (agr_c (agr_c (agr_c (agr_c agr_rf (Or.inr (by decide))) (Or.inr (by decide))) (by decide)) (Or.inr (by decide))) (Or.inr (by decide))
            refine ⟨ag_Now hA (by decide) hN, told_of (ag_T1 hA (by decide) u1) ?_ (ag_L0 hA (by decide) u3) (ag_L1 hA (by decide) u4) (ag_Rd hA (by decide) u5) (ag_Sh hA (by decide) u6), ag_Book hA (by decide) hB, ag_Past hA (by decide +kernel) hP, ag_Tape hA (by decide) hTp, ag_Fault hA (by decide) hF, ag_Words hA (by decide) hW, ag_Img hA (by decide +kernel) hG⟩
            intro i hi
            rw [ms_ro, ms_ro, ms_ne (by decide), ms_ne (by decide), ms_ne (by decide), ms_ne (o := 141) (p := 7) (by decide), ms_ne (o := 141) (p := 7) (by decide), ms_ne (o := 136) (p := 7) (by decide), ms_ro, ms_ro]
            have hb : bnd v 0 99 := bnd_of hv (by decide) (by decide)
            obtain ⟨x1, x2⟩ := u2 i hi
            by_cases h1 : i = 8 * k + j
            · rw [h1, upd_s, upd_s]; exact ⟨rfl, hb⟩
            · rw [upd_n h1, upd_n h1]
              by_cases h2 : i = 8 * j + k
              · rw [h2, upd_s, upd_s]; exact ⟨rfl, hb⟩
              · rw [upd_n h2, upd_n h2]; exact ⟨x1, x2⟩
