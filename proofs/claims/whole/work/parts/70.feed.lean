/-! feed -/
def byt (x : Int32) (n : Nat) : Int32 := (x >>> (nI n &&& 31)) &&& 255
theorem byt_u (x : Int32) (n : Nat) (hn : n ≤ 24) : ((x.toUInt32 >>> ((nI n).toUInt32 &&& Int32.toUInt32 31)).toInt32) &&& 255 = byt x n := by
  refine b_ext fun i hi => ?_
  unfold byt
  rw [b_and, b_and, b_255, b_ushr n (by omega), b_sshr n (by omega) x hi]
  by_cases h : i < 8
  · rw [if_pos (by omega)]
  · simp [h]
theorem byt_b (x : Int32) (n : Nat) : bnd (byt x n) 0 255 := by
  obtain ⟨m, -, hm⟩ := wb_of32 (x >>> (nI n &&& 31))
  unfold byt
  rw [hm, show (255 : Int32) = nI 255 from rfl, nx_and]
  have h : m &&& 255 < 2 ^ 8 := Nat.and_lt_two_pow m (by decide)
  exact bnd_n (by omega) (by omega) (by omega)
def TW (f : Nat → Int32) (t : Nat) (x : Int32) : Nat → Int32 := upd (upd (upd (upd f t (byt x 24)) (t + 1) (byt x 16)) (t + 2) (byt x 8)) (t + 3) (byt x 0)
theorem TW_eq {f g : Nat → Int32} {i : Nat} (t : Nat) (x : Int32) (h : f i = g i) : TW f t x i = TW g t x i := by
  unfold TW upd
  split
  · rfl
  split
  · rfl
  split
  · rfl
  split
  · rfl
  exact h
theorem TW_b {f : Nat → Int32} {i : Nat} (t : Nat) (x : Int32) (h : bnd (f i) 0 255) : bnd (TW f t x i) 0 255 := by
  unfold TW upd
  split
  · exact byt_b _ _
  split
  · exact byt_b _ _
  split
  · exact byt_b _ _
  split
  · exact byt_b _ _
  exact h
/-- one number on a tape: array a, its length in the cell (l, c) -/
def T1 (a l c : Nat) (M : IM) (t : Nat) (b : Int32) : IM := ms (ms M a t b) l c (nI (t + 1))
def T4 (a l c : Nat) (M : IM) (t : Nat) (x : Int32) : IM := T1 a l c (T1 a l c (T1 a l c (T1 a l c M t (byt x 24)) (t + 1) (byt x 16)) (t + 2) (byt x 8)) (t + 3) (byt x 0)
theorem T1_len {a l c t : Nat} {M : IM} {b : Int32} : T1 a l c M t b l c = nI (t + 1) := ms_it
theorem T1_row {a l c t : Nat} {M : IM} {b : Int32} (h : ¬ a = l) : T1 a l c M t b a = upd (M a) t b := by
  unfold T1
  rw [ms_ne h, ms_ro]
theorem T4_len {a l c t : Nat} {M : IM} {x : Int32} : T4 a l c M t x l c = nI (t + 4) := ms_it
theorem T4_row {a l c t : Nat} {M : IM} {x : Int32} (h : ¬ a = l) : T4 a l c M t x a = TW (M a) t x := by
  unfold T4
  rw [T1_row h, T1_row h, T1_row h, T1_row h]
  rfl
theorem T4_agr {a l c t : Nat} {M M1 : IM} {x : Int32} {R : List Nat} {A : List (Nat × Nat)} (h : agr R A M M1) (ha : a ∈ R) (hl : (l, c) ∈ A) : agr R A M (T4 a l c M1 t x) := by
  unfold T4 T1
  exact agr_c (agr_c (agr_c (agr_c (agr_c (agr_c (agr_c (agr_c h (Or.inr ha)) (Or.inl hl)) (Or.inr ha)) (Or.inl hl)) (Or.inr ha)) (Or.inl hl)) (Or.inr ha)) (Or.inl hl)
theorem feed_c1 {n t s : Nat} {x : Int32} {M : IM} (hs : s ≤ 24) (ht : t < 400) (hM : M 0 9 = nI t) : f_X11_feedOne_3 (n + 1) x (nI s) M = f_X11_feedOne_3 n x (nI s + (-8)) (T1 99 0 9 M t (byt x s)) := by
  show f_X11_feedOne_3_b (f_X11_feedOne_3 n) x (nI s) M = _
  simp only [f_X11_feedOne_3_b, pt, lt]
  rw [if_neg (nI_pos (by omega)), hM, byt_u x s hs, wrK (j := t) rfl ht (by decide), ms_ne (by decide), hM, nI_1]
  rfl
theorem feed_m1 {n t s : Nat} {x : Int32} {M : IM} (ht : t < 400) (hs : s ≤ 24) (hM : M 136 14 = nI t) : f_X12_types_3 (n + 1) x (nI s) M = f_X12_types_3 n x (nI s + (-8)) (T1 143 136 14 M t (byt x s)) := by
  show f_X12_types_3_b (f_X12_types_3 n) x (nI s) M = _
  simp only [f_X12_types_3_b, pt, lt]
  rw [if_neg (nI_pos (by omega)), hM, wrK (j := t) rfl ht (by decide), ms_ne (by decide), hM, nI_1]
  rfl
theorem feed_c {t : Nat} {x : Int32} {M : IM} (ht : t + 4 ≤ 400) (hM : M 0 9 = nI t) : f_X11_feedOne x M = some (0, T4 99 0 9 M t x) := by
  show f_X11_feedOne_3 (999995 + 1 + 1 + 1 + 1 + 1) x (nI 24) M = _
  rw [feed_c1 (by decide) (by omega) hM, show nI 24 + (-8) = nI 16 by decide, feed_c1 (t := t + 1) (by decide) (by omega) T1_len, show nI 16 + (-8) = nI 8 by decide, feed_c1 (t := t + 2) (by decide) (by omega) T1_len, show nI 8 + (-8) = nI 0 by decide, feed_c1 (t := t + 3) (by decide) (by omega) T1_len]
  show f_X11_feedOne_3_b (f_X11_feedOne_3 999995) x (nI 0 + (-8)) _ = _
  unfold f_X11_feedOne_3_b
  rw [if_pos (by decide)]
  rfl
theorem feed_m {t : Nat} {x : Int32} {M : IM} (ht : t + 4 ≤ 400) (hM : M 136 14 = nI t) : f_X12_types x M = some (0, T4 143 136 14 M t x) := by
  show f_X12_types_3 (999995 + 1 + 1 + 1 + 1 + 1) x (nI 24) M = _
  rw [feed_m1 (by omega) (by decide) hM, show nI 24 + (-8) = nI 16 by decide, feed_m1 (t := t + 1) (by omega) (by decide) T1_len, show nI 16 + (-8) = nI 8 by decide, feed_m1 (t := t + 2) (by omega) (by decide) T1_len, show nI 8 + (-8) = nI 0 by decide, feed_m1 (t := t + 3) (by omega) (by decide) T1_len]
  show f_X12_types_3_b (f_X12_types_3 999995) x (nI 0 + (-8)) _ = _
  unfold f_X12_types_3_b
  rw [if_pos (by decide)]
  rfl
theorem st_feed (a b c d e : Int32) : Stp2 Inv (f_X11_feed a b c d e) (f_X12_feed a b c d e) := by
  intro M hI
  obtain ⟨hN, hT, hB, hP, ⟨t1, t2, t3⟩, hF, hW, hG⟩ := id hI
  obtain ⟨t, ht, et⟩ := bnd_nI (n := 400) t2 (by decide)
  have e14 : ∀ {v : Int32}, ms M 136 0 v 136 14 = nI t := fun {v} => by rw [ms_at (by decide), t1, et]
  have s20 : nI t + 20 = nI (t + 20) := nI_add t 20
  by_cases hfull : t + 20 ≤ 400
  · generalize hM1 : T4 99 0 9 (T4 99 0 9 (T4 99 0 9 (T4 99 0 9 (T4 99 0 9 M t a) (t + 4) b) (t + 8) c) (t + 12) d) (t + 16) e = M1
    have e1 : f_X11_feed a b c d e M = some (nI (t + 20), M1) := by
      unfold f_X11_feed
      rw [et, s20, if_pos (show nI (t + 20) ≤ 400 from nI_le (b := 400) hfull (by decide)), cl_s (feed_c (by omega) et), cl_s (feed_c (t := t + 4) (by omega) T4_len), cl_s (feed_c (t := t + 8) (by omega) T4_len), cl_s (feed_c (t := t + 12) (by omega) T4_len), cl_s (feed_c (t := t + 16) (by omega) T4_len), T4_len, hM1]
    have m99 : M1 99 = TW (TW (TW (TW (TW (M 99) t a) (t + 4) b) (t + 8) c) (t + 12) d) (t + 16) e := by
      rw [← hM1, T4_row (by decide), T4_row (by decide), T4_row (by decide), T4_row (by decide), T4_row (by decide)]
    have m09 : M1 0 9 = nI (t + 20) := by rw [← hM1]; exact T4_len
    have hA1 : agr [99, 143] [(0, 9), (136, 14), (136, 0)] M M1 := by
      rw [← hM1]
      exact T4_agr (T4_agr (T4_agr (T4_agr (T4_agr agr_rf (by decide) (by decide)) (by decide) (by decide)) (by decide) (by decide)) (by decide) (by decide)) (by decide) (by decide)
    have q143 : M1 143 = M 143 := by
      rw [← hM1]
      have : agr [99] [(0, 9)] M (T4 99 0 9 (T4 99 0 9 (T4 99 0 9 (T4 99 0 9 (T4 99 0 9 M t a) (t + 4) b) (t + 8) c) (t + 12) d) (t + 16) e) := T4_agr (T4_agr (T4_agr (T4_agr (T4_agr agr_rf (by decide) (by decide)) (by decide) (by decide)) (by decide) (by decide)) (by decide) (by decide)) (by decide) (by decide)
      exact agr_row (LR := [143]) (LC := []) this (by decide) (by decide)
    have q14 : M1 136 14 = nI t := by
      rw [← hM1]
      have : agr [99] [(0, 9)] M (T4 99 0 9 (T4 99 0 9 (T4 99 0 9 (T4 99 0 9 (T4 99 0 9 M t a) (t + 4) b) (t + 8) c) (t + 12) d) (t + 16) e) := T4_agr (T4_agr (T4_agr (T4_agr (T4_agr agr_rf (by decide) (by decide)) (by decide) (by decide)) (by decide) (by decide)) (by decide) (by decide)) (by decide) (by decide)
      rw [agr_cell (LR := []) (LC := [(136, 14)]) this (p := 136) (i := 14) (by decide) (by decide), t1, et]
    have p14 : ms M1 136 0 0 136 14 = nI t := by rw [ms_at (by decide), q14]
    generalize hM2 : T4 143 136 14 (T4 143 136 14 (T4 143 136 14 (T4 143 136 14 (T4 143 136 14 (ms M1 136 0 0) t a) (t + 4) b) (t + 8) c) (t + 12) d) (t + 16) e = M2
    have e2 : f_X12_feed a b c d e M1 = some (nI (t + 20), M2) := by
      simp only [f_X12_feed, pt]
      rw [p14, if_pos (show nI t ≤ 380 from nI_le (b := 380) (by omega) (by decide)), cl_s (feed_m (by omega) p14), cl_s (feed_m (t := t + 4) (by omega) T4_len), cl_s (feed_m (t := t + 8) (by omega) T4_len), cl_s (feed_m (t := t + 12) (by omega) T4_len), cl_s (feed_m (t := t + 16) (by omega) T4_len), T4_len, hM2]
    have hA : agr [99, 143] [(0, 9), (136, 14), (136, 0)] M M2 := by
      rw [← hM2]
      exact T4_agr (T4_agr (T4_agr (T4_agr (T4_agr (agr_c hA1 (by decide)) (by decide) (by decide)) (by decide) (by decide)) (by decide) (by decide)) (by decide) (by decide)) (by decide) (by decide)
    have hB2 : agr [143] [(136, 14), (136, 0)] M1 M2 := by
      rw [← hM2]
      exact T4_agr (T4_agr (T4_agr (T4_agr (T4_agr (agr_c agr_rf (by decide)) (by decide) (by decide)) (by decide) (by decide)) (by decide) (by decide)) (by decide) (by decide)) (by decide) (by decide)
    have m143 : M2 143 = TW (TW (TW (TW (TW (M 143) t a) (t + 4) b) (t + 8) c) (t + 12) d) (t + 16) e := by
      rw [← hM2, T4_row (by decide), T4_row (by decide), T4_row (by decide), T4_row (by decide), T4_row (by decide), ms_ne (by decide), q143]
    refine ⟨nI (t + 20), M1, M2, e1, e2, ag_Now hA (by decide) hN, ag_Told hA (by decide +kernel) hT, ag_Book hA (by decide) hB, ag_Past hA (by decide +kernel) hP, ⟨?_, ?_, fun i hi => ?_⟩, ag_Fault hA (by decide) hF, ag_Words hA (by decide) hW, ag_Img hA (by decide +kernel) hG⟩
    · rw [agr_cell (LR := []) (LC := [(0, 9)]) hB2 (p := 0) (i := 9) (by decide) (by decide), m09, ← hM2]
      exact T4_len
    · rw [agr_cell (LR := []) (LC := [(0, 9)]) hB2 (p := 0) (i := 9) (by decide) (by decide), m09]
      exact bnd_n (by omega) (by omega) (by omega)
    · obtain ⟨y1, y2⟩ := t3 i hi
      rw [agr_row (LR := [99]) (LC := []) hB2 (p := 99) (by decide) (by decide), m99, m143]
      exact ⟨TW_eq _ _ (TW_eq _ _ (TW_eq _ _ (TW_eq _ _ (TW_eq _ _ y1)))), TW_b _ _ (TW_b _ _ (TW_b _ _ (TW_b _ _ (TW_b _ _ y2))))⟩
  · refine ⟨-1, M, ms M 136 0 0, ?_, ?_, Inv_same same_told hI⟩
    · unfold f_X11_feed
      rw [et, s20, if_neg (show ¬ nI (t + 20) ≤ 400 from nI_ge (a := 400) (b := t + 20) (by omega) (by omega))]
    · simp only [f_X12_feed, pt]
      rw [e14, if_neg (show ¬ nI t ≤ 380 from nI_ge (a := 380) (b := t) (by omega) (by omega))]
