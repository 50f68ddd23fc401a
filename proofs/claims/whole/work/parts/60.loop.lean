/-! the law's loop, out of one step for each call; Inv is any property of the memory -/
theorem cl_s {f : IR} {r : Int32} {M1 : IM} {k : Int32 → IM → IR} (h : f = some (r, M1)) : cl f k = k r M1 := by rw [h]; rfl
theorem rx_in {f : Nat → Int32} {n : Nat} {i : Int32} {k : Int32 → IR} (h : ¬ (i < 0 ∨ n ≤ i.toNatClampNeg)) : rx f n i k = k (f i.toNatClampNeg) := by unfold rx; rw [if_neg h]
/-- one call: class and model answer alike, and Inv holds again -/
def Stp2 (Inv : IM → Prop) (f g : IM → IR) : Prop := ∀ M, Inv M → ∃ (r : Int32) (M1 M2 : IM), f M = some (r, M1) ∧ g M1 = some (r, M2) ∧ Inv M2
theorem ix_ok {k nL j : Nat} (h : 6 * k + 6 ≤ nL) (hL : nL ≤ 3072) (hj : j < 6) : ¬ (nI (6 * k) + nI j < 0 ∨ nL ≤ (nI (6 * k) + nI j).toNatClampNeg) := by
  rw [nI_add]
  exact nI_in (by omega) (by omega)
theorem ix_0 {k nL : Nat} (h : 6 * k + 6 ≤ nL) (hL : nL ≤ 3072) : ¬ (nI (6 * k) < 0 ∨ nL ≤ (nI (6 * k)).toNatClampNeg) := nI_in (by omega) (by omega)
set_option maxRecDepth 100000 in
set_option maxHeartbeats 8000000 in
theorem law_iter {Inv : IM → Prop} (h0 : ∀ v0 : Int32, Stp2 Inv (f_X11_state v0) (f_X12_state v0)) (h1 : ∀ v0 v1 : Int32, Stp2 Inv (f_X11_walker v0 v1) (f_X12_walker v0 v1)) (h2 : ∀ v0 v1 v2 : Int32, Stp2 Inv (f_X11_set v0 v1 v2) (f_X12_set v0 v1 v2)) (h3 : ∀ v0 v1 v2 : Int32, Stp2 Inv (f_X11_road v0 v1 v2) (f_X12_road v0 v1 v2)) (h4 : ∀ v0 v1 v2 v3 v4 : Int32, Stp2 Inv (f_X11_feed v0 v1 v2 v3 v4) (f_X12_feed v0 v1 v2 v3 v4)) (h5 : ∀ v0 : Int32, Stp2 Inv (f_X11_end v0) (f_X12_end v0)) (h6 : ∀ v0 : Int32, Stp2 Inv (f_X11_text v0) (f_X12_text v0)) (h7 : ∀ v0 : Int32, Stp2 Inv (f_X11_fault v0) (f_X12_fault v0)) (h8 : ∀ v0 : Int32, Stp2 Inv (f_X11_hours v0) (f_X12_hours v0)) (h9 : ∀ v0 v1 : Int32, Stp2 Inv (f_X11_move v0 v1) (f_X12_move v0 v1)) (h10 : ∀ v0 : Int32, Stp2 Inv (f_X11_carry v0) (f_X12_carry v0)) (h11 : ∀ v0 v1 : Int32, Stp2 Inv (f_X11_of v0 v1) (f_X12_of v0 v1)) (h12 : ∀ v0 v1 : Int32, Stp2 Inv (f_X11_stone v0 v1) (f_X12_stone v0 v1)) (h13 : ∀ v0 v1 : Int32, Stp2 Inv (f_X11_roadOf v0 v1) (f_X12_roadOf v0 v1)) (h14 : ∀ v0 v1 : Int32, Stp2 Inv (f_X11_book v0 v1) (f_X12_book v0 v1)) (h15 : ∀ v0 v1 : Int32, Stp2 Inv (f_X11_goes v0 v1) (f_X12_goes v0 v1)) (h16 : ∀ v0 : Int32, Stp2 Inv (f_X11_cover v0) (f_X12_cover v0)) (h17 : ∀ v0 : Int32, Stp2 Inv (f_X11_watches v0) (f_X12_watches v0)) (h18 : ∀ v0 v1 : Int32, Stp2 Inv (f_X11_tour v0 v1) (f_X12_tour v0 v1)) (h19 : ∀ v0 v1 v2 : Int32, Stp2 Inv (f_X11_meets v0 v1 v2) (f_X12_meets v0 v1 v2)) (h20 : ∀ v0 v1 v2 : Int32, Stp2 Inv (f_X11_sees v0 v1 v2) (f_X12_sees v0 v1 v2)) (h21 : ∀ v0 v1 v2 v3 : Int32, Stp2 Inv (f_X11_fits v0 v1 v2 v3) (f_X12_fits v0 v1 v2 v3)) (h22 : ∀ v0 v1 : Int32, Stp2 Inv (f_X11_crossed v0 v1) (f_X12_crossed v0 v1)) (h23 : ∀ v0 : Int32, Stp2 Inv (f_X11_line v0) (f_X12_line v0)) (h24 : ∀ v0 v1 : Int32, Stp2 Inv (f_X11_owes v0 v1) (f_X12_owes v0 v1)) (h25 : ∀ v0 : Int32, Stp2 Inv (f_X11_asks v0) (f_X12_asks v0)) (h26 : Stp2 Inv (fun M => f_X11_undo M) (fun M => f_X12_undo M)) (h27 : ∀ v : Int32, v = 0 ∨ v = 1 → Stp2 Inv (f_X11_image v) (f_X12_image v)) (h28 : ∀ v0 : Int32, Stp2 Inv (f_X11_look v0) (f_X12_look v0)) (xs : Nat → Int32) {nL : Nat} (hL : nL ≤ 3072) (n : Nat) : ∀ (k : Nat) (M : IM), 6 * k ≤ nL + 5 → nL + 6 ≤ 6 * (k + n) → Inv M → ∃ M2, f_L_law_18 xs nL n (nI (6 * k)) M = some (1, M2) := by
  induction n with
  | zero => intro k M hk1 hk2 hI; omega
  | succ n ih =>
    intro k M hk1 hk2 hI
    show ∃ M2, f_L_law_18_b xs nL (f_L_law_18 xs nL n) (nI (6 * k)) M = some (1, M2)
    unfold f_L_law_18_b
    have e6 : nI (6 * k) + 6 = nI (6 * (k + 1)) := by rw [show 6 * (k + 1) = 6 * k + 6 by omega, ← nI_add]; rfl
    have hsub : (Int32.ofNat nL - 6 : Int32).toInt = (nL : Int) - 6 := pk_sub_toInt (a := nL) (b := 6) (by omega) (by omega)
    have hki : (nI (6 * k)).toInt = (6 * k : Nat) := nI_toInt (by omega)
    by_cases hend : Int32.ofNat nL - 6 < nI (6 * k)
    · exact ⟨M, by rw [if_pos hend]⟩
    · rw [if_neg hend]
      have hin : 6 * k + 6 ≤ nL := by
        rw [Int32.lt_iff_toInt_lt, hsub, hki] at hend
        omega
      have hb0 := ix_0 hin hL
      have hb1 : ¬ (nI (6 * k) + 1 < 0 ∨ nL ≤ (nI (6 * k) + 1).toNatClampNeg) := ix_ok (j := 1) hin hL (by decide)
      have hb2 : ¬ (nI (6 * k) + 2 < 0 ∨ nL ≤ (nI (6 * k) + 2).toNatClampNeg) := ix_ok (j := 2) hin hL (by decide)
      have hb3 : ¬ (nI (6 * k) + 3 < 0 ∨ nL ≤ (nI (6 * k) + 3).toNatClampNeg) := ix_ok (j := 3) hin hL (by decide)
      have hb4 : ¬ (nI (6 * k) + 4 < 0 ∨ nL ≤ (nI (6 * k) + 4).toNatClampNeg) := ix_ok (j := 4) hin hL (by decide)
      have hb5 : ¬ (nI (6 * k) + 5 < 0 ∨ nL ≤ (nI (6 * k) + 5).toNatClampNeg) := ix_ok (j := 5) hin hL (by decide)
      rw [rx_in hb0]
      generalize xs (nI (6 * k)).toNatClampNeg &&& 31 = z
      by_cases c0 : z = 0
      · rw [if_pos c0]
        obtain ⟨r, M1, M2, e1, e2, hI2⟩ := h0 (xs (nI (6 * k) + 1).toNatClampNeg) M hI
        rw [rx_in hb1, cl_s e1, rx_in hb1, cl_s e2, if_pos rfl]
        show ∃ M2_1, f_L_law_18 xs nL n (nI (6 * k) + 6) M2 = some (1, M2_1)
        rw [e6]; exact ih (k + 1) M2 (by omega) (by omega) hI2
      rw [if_neg c0]
      by_cases c1 : z = 1
      · rw [if_pos c1]
        obtain ⟨r, M1, M2, e1, e2, hI2⟩ := h1 (xs (nI (6 * k) + 1).toNatClampNeg) (xs (nI (6 * k) + 2).toNatClampNeg) M hI
        rw [rx_in hb1, rx_in hb2, cl_s e1, rx_in hb1, rx_in hb2, cl_s e2, if_pos rfl]
        show ∃ M2_1, f_L_law_18 xs nL n (nI (6 * k) + 6) M2 = some (1, M2_1)
        rw [e6]; exact ih (k + 1) M2 (by omega) (by omega) hI2
      rw [if_neg c1]
      by_cases c2 : z = 2
      · rw [if_pos c2]
        obtain ⟨r, M1, M2, e1, e2, hI2⟩ := h2 (xs (nI (6 * k) + 1).toNatClampNeg) (xs (nI (6 * k) + 2).toNatClampNeg) (xs (nI (6 * k) + 3).toNatClampNeg) M hI
        rw [rx_in hb1, rx_in hb2, rx_in hb3, cl_s e1, rx_in hb1, rx_in hb2, rx_in hb3, cl_s e2, if_pos rfl]
        show ∃ M2_1, f_L_law_18 xs nL n (nI (6 * k) + 6) M2 = some (1, M2_1)
        rw [e6]; exact ih (k + 1) M2 (by omega) (by omega) hI2
      rw [if_neg c2]
      by_cases c3 : z = 3
      · rw [if_pos c3]
        obtain ⟨r, M1, M2, e1, e2, hI2⟩ := h3 (xs (nI (6 * k) + 1).toNatClampNeg) (xs (nI (6 * k) + 2).toNatClampNeg) (xs (nI (6 * k) + 3).toNatClampNeg) M hI
        rw [rx_in hb1, rx_in hb2, rx_in hb3, cl_s e1, rx_in hb1, rx_in hb2, rx_in hb3, cl_s e2, if_pos rfl]
        show ∃ M2_1, f_L_law_18 xs nL n (nI (6 * k) + 6) M2 = some (1, M2_1)
        rw [e6]; exact ih (k + 1) M2 (by omega) (by omega) hI2
      rw [if_neg c3]
      by_cases c4 : z = 4
      · rw [if_pos c4]
        obtain ⟨r, M1, M2, e1, e2, hI2⟩ := h4 (xs (nI (6 * k) + 1).toNatClampNeg) (xs (nI (6 * k) + 2).toNatClampNeg) (xs (nI (6 * k) + 3).toNatClampNeg) (xs (nI (6 * k) + 4).toNatClampNeg) (xs (nI (6 * k) + 5).toNatClampNeg) M hI
        rw [rx_in hb1, rx_in hb2, rx_in hb3, rx_in hb4, rx_in hb5, cl_s e1, rx_in hb1, rx_in hb2, rx_in hb3, rx_in hb4, rx_in hb5, cl_s e2, if_pos rfl]
        show ∃ M2_1, f_L_law_18 xs nL n (nI (6 * k) + 6) M2 = some (1, M2_1)
        rw [e6]; exact ih (k + 1) M2 (by omega) (by omega) hI2
      rw [if_neg c4]
      by_cases c5 : z = 5
      · rw [if_pos c5]
        obtain ⟨r, M1, M2, e1, e2, hI2⟩ := h5 (xs (nI (6 * k) + 1).toNatClampNeg) M hI
        rw [rx_in hb1, cl_s e1, rx_in hb1, cl_s e2, if_pos rfl]
        show ∃ M2_1, f_L_law_18 xs nL n (nI (6 * k) + 6) M2 = some (1, M2_1)
        rw [e6]; exact ih (k + 1) M2 (by omega) (by omega) hI2
      rw [if_neg c5]
      by_cases c6 : z = 6
      · rw [if_pos c6]
        obtain ⟨r, M1, M2, e1, e2, hI2⟩ := h6 (xs (nI (6 * k) + 1).toNatClampNeg) M hI
        rw [rx_in hb1, cl_s e1, rx_in hb1, cl_s e2, if_pos rfl]
        show ∃ M2_1, f_L_law_18 xs nL n (nI (6 * k) + 6) M2 = some (1, M2_1)
        rw [e6]; exact ih (k + 1) M2 (by omega) (by omega) hI2
      rw [if_neg c6]
      by_cases c7 : z = 7
      · rw [if_pos c7]
        obtain ⟨r, M1, M2, e1, e2, hI2⟩ := h7 (xs (nI (6 * k) + 1).toNatClampNeg) M hI
        rw [rx_in hb1, cl_s e1, rx_in hb1, cl_s e2, if_pos rfl]
        show ∃ M2_1, f_L_law_18 xs nL n (nI (6 * k) + 6) M2 = some (1, M2_1)
        rw [e6]; exact ih (k + 1) M2 (by omega) (by omega) hI2
      rw [if_neg c7]
      by_cases c8 : z = 8
      · rw [if_pos c8]
        obtain ⟨r, M1, M2, e1, e2, hI2⟩ := h8 (xs (nI (6 * k) + 1).toNatClampNeg) M hI
        rw [rx_in hb1, cl_s e1, rx_in hb1, cl_s e2, if_pos rfl]
        show ∃ M2_1, f_L_law_18 xs nL n (nI (6 * k) + 6) M2 = some (1, M2_1)
        rw [e6]; exact ih (k + 1) M2 (by omega) (by omega) hI2
      rw [if_neg c8]
      by_cases c9 : z = 9
      · rw [if_pos c9]
        obtain ⟨r, M1, M2, e1, e2, hI2⟩ := h9 (xs (nI (6 * k) + 1).toNatClampNeg) (xs (nI (6 * k) + 2).toNatClampNeg) M hI
        rw [rx_in hb1, rx_in hb2, cl_s e1, rx_in hb1, rx_in hb2, cl_s e2, if_pos rfl]
        show ∃ M2_1, f_L_law_18 xs nL n (nI (6 * k) + 6) M2 = some (1, M2_1)
        rw [e6]; exact ih (k + 1) M2 (by omega) (by omega) hI2
      rw [if_neg c9]
      by_cases c10 : z = 10
      · rw [if_pos c10]
        obtain ⟨r, M1, M2, e1, e2, hI2⟩ := h10 (xs (nI (6 * k) + 1).toNatClampNeg) M hI
        rw [rx_in hb1, cl_s e1, rx_in hb1, cl_s e2, if_pos rfl]
        show ∃ M2_1, f_L_law_18 xs nL n (nI (6 * k) + 6) M2 = some (1, M2_1)
        rw [e6]; exact ih (k + 1) M2 (by omega) (by omega) hI2
      rw [if_neg c10]
      by_cases c11 : z = 11
      · rw [if_pos c11]
        obtain ⟨r, M1, M2, e1, e2, hI2⟩ := h11 (xs (nI (6 * k) + 1).toNatClampNeg) (xs (nI (6 * k) + 2).toNatClampNeg) M hI
        rw [rx_in hb1, rx_in hb2, cl_s e1, rx_in hb1, rx_in hb2, cl_s e2, if_pos rfl]
        show ∃ M2_1, f_L_law_18 xs nL n (nI (6 * k) + 6) M2 = some (1, M2_1)
        rw [e6]; exact ih (k + 1) M2 (by omega) (by omega) hI2
      rw [if_neg c11]
      by_cases c12 : z = 12
      · rw [if_pos c12]
        obtain ⟨r, M1, M2, e1, e2, hI2⟩ := h12 (xs (nI (6 * k) + 1).toNatClampNeg) (xs (nI (6 * k) + 2).toNatClampNeg) M hI
        rw [rx_in hb1, rx_in hb2, cl_s e1, rx_in hb1, rx_in hb2, cl_s e2, if_pos rfl]
        show ∃ M2_1, f_L_law_18 xs nL n (nI (6 * k) + 6) M2 = some (1, M2_1)
        rw [e6]; exact ih (k + 1) M2 (by omega) (by omega) hI2
      rw [if_neg c12]
      by_cases c13 : z = 13
      · rw [if_pos c13]
        obtain ⟨r, M1, M2, e1, e2, hI2⟩ := h13 (xs (nI (6 * k) + 1).toNatClampNeg) (xs (nI (6 * k) + 2).toNatClampNeg) M hI
        rw [rx_in hb1, rx_in hb2, cl_s e1, rx_in hb1, rx_in hb2, cl_s e2, if_pos rfl]
        show ∃ M2_1, f_L_law_18 xs nL n (nI (6 * k) + 6) M2 = some (1, M2_1)
        rw [e6]; exact ih (k + 1) M2 (by omega) (by omega) hI2
      rw [if_neg c13]
      by_cases c14 : z = 14
      · rw [if_pos c14]
        obtain ⟨r, M1, M2, e1, e2, hI2⟩ := h14 (xs (nI (6 * k) + 1).toNatClampNeg) (xs (nI (6 * k) + 2).toNatClampNeg) M hI
        rw [rx_in hb1, rx_in hb2, cl_s e1, rx_in hb1, rx_in hb2, cl_s e2, if_pos rfl]
        show ∃ M2_1, f_L_law_18 xs nL n (nI (6 * k) + 6) M2 = some (1, M2_1)
        rw [e6]; exact ih (k + 1) M2 (by omega) (by omega) hI2
      rw [if_neg c14]
      by_cases c15 : z = 15
      · rw [if_pos c15]
        obtain ⟨r, M1, M2, e1, e2, hI2⟩ := h15 (xs (nI (6 * k) + 1).toNatClampNeg) (xs (nI (6 * k) + 2).toNatClampNeg) M hI
        rw [rx_in hb1, rx_in hb2, cl_s e1, rx_in hb1, rx_in hb2, cl_s e2, if_pos rfl]
        show ∃ M2_1, f_L_law_18 xs nL n (nI (6 * k) + 6) M2 = some (1, M2_1)
        rw [e6]; exact ih (k + 1) M2 (by omega) (by omega) hI2
      rw [if_neg c15]
      by_cases c16 : z = 16
      · rw [if_pos c16]
        obtain ⟨r, M1, M2, e1, e2, hI2⟩ := h16 (xs (nI (6 * k) + 1).toNatClampNeg) M hI
        rw [rx_in hb1, cl_s e1, rx_in hb1, cl_s e2, if_pos rfl]
        show ∃ M2_1, f_L_law_18 xs nL n (nI (6 * k) + 6) M2 = some (1, M2_1)
        rw [e6]; exact ih (k + 1) M2 (by omega) (by omega) hI2
      rw [if_neg c16]
      by_cases c17 : z = 17
      · rw [if_pos c17]
        obtain ⟨r, M1, M2, e1, e2, hI2⟩ := h17 (xs (nI (6 * k) + 1).toNatClampNeg) M hI
        rw [rx_in hb1, cl_s e1, rx_in hb1, cl_s e2, if_pos rfl]
        show ∃ M2_1, f_L_law_18 xs nL n (nI (6 * k) + 6) M2 = some (1, M2_1)
        rw [e6]; exact ih (k + 1) M2 (by omega) (by omega) hI2
      rw [if_neg c17]
      by_cases c18 : z = 18
      · rw [if_pos c18]
        obtain ⟨r, M1, M2, e1, e2, hI2⟩ := h18 (xs (nI (6 * k) + 1).toNatClampNeg) (xs (nI (6 * k) + 2).toNatClampNeg) M hI
        rw [rx_in hb1, rx_in hb2, cl_s e1, rx_in hb1, rx_in hb2, cl_s e2, if_pos rfl]
        show ∃ M2_1, f_L_law_18 xs nL n (nI (6 * k) + 6) M2 = some (1, M2_1)
        rw [e6]; exact ih (k + 1) M2 (by omega) (by omega) hI2
      rw [if_neg c18]
      by_cases c19 : z = 19
      · rw [if_pos c19]
        obtain ⟨r, M1, M2, e1, e2, hI2⟩ := h19 (xs (nI (6 * k) + 1).toNatClampNeg) (xs (nI (6 * k) + 2).toNatClampNeg) (xs (nI (6 * k) + 3).toNatClampNeg) M hI
        rw [rx_in hb1, rx_in hb2, rx_in hb3, cl_s e1, rx_in hb1, rx_in hb2, rx_in hb3, cl_s e2, if_pos rfl]
        show ∃ M2_1, f_L_law_18 xs nL n (nI (6 * k) + 6) M2 = some (1, M2_1)
        rw [e6]; exact ih (k + 1) M2 (by omega) (by omega) hI2
      rw [if_neg c19]
      by_cases c20 : z = 20
      · rw [if_pos c20]
        obtain ⟨r, M1, M2, e1, e2, hI2⟩ := h20 (xs (nI (6 * k) + 1).toNatClampNeg) (xs (nI (6 * k) + 2).toNatClampNeg) (xs (nI (6 * k) + 3).toNatClampNeg) M hI
        rw [rx_in hb1, rx_in hb2, rx_in hb3, cl_s e1, rx_in hb1, rx_in hb2, rx_in hb3, cl_s e2, if_pos rfl]
        show ∃ M2_1, f_L_law_18 xs nL n (nI (6 * k) + 6) M2 = some (1, M2_1)
        rw [e6]; exact ih (k + 1) M2 (by omega) (by omega) hI2
      rw [if_neg c20]
      by_cases c21 : z = 21
      · rw [if_pos c21]
        obtain ⟨r, M1, M2, e1, e2, hI2⟩ := h21 (xs (nI (6 * k) + 1).toNatClampNeg) (xs (nI (6 * k) + 2).toNatClampNeg) (xs (nI (6 * k) + 3).toNatClampNeg) (xs (nI (6 * k) + 4).toNatClampNeg) M hI
        rw [rx_in hb1, rx_in hb2, rx_in hb3, rx_in hb4, cl_s e1, rx_in hb1, rx_in hb2, rx_in hb3, rx_in hb4, cl_s e2, if_pos rfl]
        show ∃ M2_1, f_L_law_18 xs nL n (nI (6 * k) + 6) M2 = some (1, M2_1)
        rw [e6]; exact ih (k + 1) M2 (by omega) (by omega) hI2
      rw [if_neg c21]
      by_cases c22 : z = 22
      · rw [if_pos c22]
        obtain ⟨r, M1, M2, e1, e2, hI2⟩ := h22 (xs (nI (6 * k) + 1).toNatClampNeg) (xs (nI (6 * k) + 2).toNatClampNeg) M hI
        rw [rx_in hb1, rx_in hb2, cl_s e1, rx_in hb1, rx_in hb2, cl_s e2, if_pos rfl]
        show ∃ M2_1, f_L_law_18 xs nL n (nI (6 * k) + 6) M2 = some (1, M2_1)
        rw [e6]; exact ih (k + 1) M2 (by omega) (by omega) hI2
      rw [if_neg c22]
      by_cases c23 : z = 23
      · rw [if_pos c23]
        obtain ⟨r, M1, M2, e1, e2, hI2⟩ := h23 (xs (nI (6 * k) + 1).toNatClampNeg) M hI
        rw [rx_in hb1, cl_s e1, rx_in hb1, cl_s e2, if_pos rfl]
        show ∃ M2_1, f_L_law_18 xs nL n (nI (6 * k) + 6) M2 = some (1, M2_1)
        rw [e6]; exact ih (k + 1) M2 (by omega) (by omega) hI2
      rw [if_neg c23]
      by_cases c24 : z = 24
      · rw [if_pos c24]
        obtain ⟨r, M1, M2, e1, e2, hI2⟩ := h24 (xs (nI (6 * k) + 1).toNatClampNeg) (xs (nI (6 * k) + 2).toNatClampNeg) M hI
        rw [rx_in hb1, rx_in hb2, cl_s e1, rx_in hb1, rx_in hb2, cl_s e2, if_pos rfl]
        show ∃ M2_1, f_L_law_18 xs nL n (nI (6 * k) + 6) M2 = some (1, M2_1)
        rw [e6]; exact ih (k + 1) M2 (by omega) (by omega) hI2
      rw [if_neg c24]
      by_cases c25 : z = 25
      · rw [if_pos c25]
        obtain ⟨r, M1, M2, e1, e2, hI2⟩ := h25 (xs (nI (6 * k) + 1).toNatClampNeg) M hI
        rw [rx_in hb1, cl_s e1, rx_in hb1, cl_s e2, if_pos rfl]
        show ∃ M2_1, f_L_law_18 xs nL n (nI (6 * k) + 6) M2 = some (1, M2_1)
        rw [e6]; exact ih (k + 1) M2 (by omega) (by omega) hI2
      rw [if_neg c25]
      by_cases c26 : z = 26
      · rw [if_pos c26]
        obtain ⟨r, M1, M2, e1, e2, hI2⟩ := h26  M hI
        rw [cl_s e1, cl_s e2, if_pos rfl]
        show ∃ M2_1, f_L_law_18 xs nL n (nI (6 * k) + 6) M2 = some (1, M2_1)
        rw [e6]; exact ih (k + 1) M2 (by omega) (by omega) hI2
      rw [if_neg c26]
      by_cases c27 : z = 27
      · rw [if_pos c27]
        rw [rx_in hb1]
        by_cases q : xs (nI (6 * k) + 1).toNatClampNeg = 0
        · rw [if_pos q]
          obtain ⟨r, M1, M2, e1, e2, hI2⟩ := h27 0 (Or.inl rfl) M hI
          unfold f_L_law_1039
          rw [cl_s e1, rx_in hb1, if_pos q]
          unfold f_L_law_1056
          rw [cl_s e2, if_pos rfl]
          show ∃ M2_1, f_L_law_18 xs nL n (nI (6 * k) + 6) M2 = some (1, M2_1)
          rw [e6]; exact ih (k + 1) M2 (by omega) (by omega) hI2
        · rw [if_neg q]
          obtain ⟨r, M1, M2, e1, e2, hI2⟩ := h27 1 (Or.inr rfl) M hI
          unfold f_L_law_1039
          rw [cl_s e1, rx_in hb1, if_neg q]
          unfold f_L_law_1056
          rw [cl_s e2, if_pos rfl]
          show ∃ M2_1, f_L_law_18 xs nL n (nI (6 * k) + 6) M2 = some (1, M2_1)
          rw [e6]; exact ih (k + 1) M2 (by omega) (by omega) hI2
      rw [if_neg c27]
      by_cases c28 : z = 28
      · rw [if_pos c28]
        obtain ⟨r, M1, M2, e1, e2, hI2⟩ := h28 (xs (nI (6 * k) + 1).toNatClampNeg) M hI
        rw [rx_in hb1, cl_s e1, rx_in hb1, cl_s e2, if_pos rfl]
        show ∃ M2_1, f_L_law_18 xs nL n (nI (6 * k) + 6) M2 = some (1, M2_1)
        rw [e6]; exact ih (k + 1) M2 (by omega) (by omega) hI2
      rw [if_neg c28]
      show ∃ M2_1, f_L_law_18 xs nL n (nI (6 * k) + 6) M = some (1, M2_1)
      rw [e6]; exact ih (k + 1) M (by omega) (by omega) hI
theorem law_runs {Inv : IM → Prop} (h0 : ∀ v0 : Int32, Stp2 Inv (f_X11_state v0) (f_X12_state v0)) (h1 : ∀ v0 v1 : Int32, Stp2 Inv (f_X11_walker v0 v1) (f_X12_walker v0 v1)) (h2 : ∀ v0 v1 v2 : Int32, Stp2 Inv (f_X11_set v0 v1 v2) (f_X12_set v0 v1 v2)) (h3 : ∀ v0 v1 v2 : Int32, Stp2 Inv (f_X11_road v0 v1 v2) (f_X12_road v0 v1 v2)) (h4 : ∀ v0 v1 v2 v3 v4 : Int32, Stp2 Inv (f_X11_feed v0 v1 v2 v3 v4) (f_X12_feed v0 v1 v2 v3 v4)) (h5 : ∀ v0 : Int32, Stp2 Inv (f_X11_end v0) (f_X12_end v0)) (h6 : ∀ v0 : Int32, Stp2 Inv (f_X11_text v0) (f_X12_text v0)) (h7 : ∀ v0 : Int32, Stp2 Inv (f_X11_fault v0) (f_X12_fault v0)) (h8 : ∀ v0 : Int32, Stp2 Inv (f_X11_hours v0) (f_X12_hours v0)) (h9 : ∀ v0 v1 : Int32, Stp2 Inv (f_X11_move v0 v1) (f_X12_move v0 v1)) (h10 : ∀ v0 : Int32, Stp2 Inv (f_X11_carry v0) (f_X12_carry v0)) (h11 : ∀ v0 v1 : Int32, Stp2 Inv (f_X11_of v0 v1) (f_X12_of v0 v1)) (h12 : ∀ v0 v1 : Int32, Stp2 Inv (f_X11_stone v0 v1) (f_X12_stone v0 v1)) (h13 : ∀ v0 v1 : Int32, Stp2 Inv (f_X11_roadOf v0 v1) (f_X12_roadOf v0 v1)) (h14 : ∀ v0 v1 : Int32, Stp2 Inv (f_X11_book v0 v1) (f_X12_book v0 v1)) (h15 : ∀ v0 v1 : Int32, Stp2 Inv (f_X11_goes v0 v1) (f_X12_goes v0 v1)) (h16 : ∀ v0 : Int32, Stp2 Inv (f_X11_cover v0) (f_X12_cover v0)) (h17 : ∀ v0 : Int32, Stp2 Inv (f_X11_watches v0) (f_X12_watches v0)) (h18 : ∀ v0 v1 : Int32, Stp2 Inv (f_X11_tour v0 v1) (f_X12_tour v0 v1)) (h19 : ∀ v0 v1 v2 : Int32, Stp2 Inv (f_X11_meets v0 v1 v2) (f_X12_meets v0 v1 v2)) (h20 : ∀ v0 v1 v2 : Int32, Stp2 Inv (f_X11_sees v0 v1 v2) (f_X12_sees v0 v1 v2)) (h21 : ∀ v0 v1 v2 v3 : Int32, Stp2 Inv (f_X11_fits v0 v1 v2 v3) (f_X12_fits v0 v1 v2 v3)) (h22 : ∀ v0 v1 : Int32, Stp2 Inv (f_X11_crossed v0 v1) (f_X12_crossed v0 v1)) (h23 : ∀ v0 : Int32, Stp2 Inv (f_X11_line v0) (f_X12_line v0)) (h24 : ∀ v0 v1 : Int32, Stp2 Inv (f_X11_owes v0 v1) (f_X12_owes v0 v1)) (h25 : ∀ v0 : Int32, Stp2 Inv (f_X11_asks v0) (f_X12_asks v0)) (h26 : Stp2 Inv (fun M => f_X11_undo M) (fun M => f_X12_undo M)) (h27 : ∀ v : Int32, v = 0 ∨ v = 1 → Stp2 Inv (f_X11_image v) (f_X12_image v)) (h28 : ∀ v0 : Int32, Stp2 Inv (f_X11_look v0) (f_X12_look v0)) (hI : Inv M0) (xs : Nat → Int32) {nL : Nat} (hL : nL ≤ 3072) : ∃ M, f_L_law xs nL M0 = some (1, M) := law_iter h0 h1 h2 h3 h4 h5 h6 h7 h8 h9 h10 h11 h12 h13 h14 h15 h16 h17 h18 h19 h20 h21 h22 h23 h24 h25 h26 h27 h28 xs hL BG 0 M0 (by omega) (by unfold BG; omega) hI
