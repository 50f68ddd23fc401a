def SNX6_1 (S : List IK) (o : Nat) : List IK := S ++ [(5, 7, [none, some none, some none, some none, some none, none, some none])]
def SNX6_2 (S : List IK) (o : Nat) : List IK := (SNX3 (SNX6_1 S o) S.length)
def SNX6_3 (S : List IK) (o : Nat) : List IK := (SNX6_2 S o).set o (8, 8, [none, none, some (some S.length), some none, some none, some none, some none, none])
def SNX6_4 (S : List IK) (o : Nat) : List IK := (SNX6_3 S o) ++ [(9, 5, [none, some none, some none, some none, some none])]
def SNX6_5 (S : List IK) (o : Nat) : List IK := (SNX7 (SNX6_4 S o) (SNX6_3 S o).length)
def SNX6_6 (S : List IK) (o : Nat) : List IK := (SNX6_5 S o).set o (8, 8, [none, none, some (some S.length), some (some (SNX6_3 S o).length), some none, some none, some none, none])
def SNX6_7 (S : List IK) (o : Nat) : List IK := (SNX6_6 S o) ++ [(10, 5, [none, some none, some none, some none, some none])]
def SNX6_8 (S : List IK) (o : Nat) : List IK := (SNX8 (SNX6_7 S o) (SNX6_6 S o).length)
def SNX6_9 (S : List IK) (o : Nat) : List IK := (SNX6_8 S o).set o (8, 8, [none, none, some (some S.length), some (some (SNX6_3 S o).length), some (some (SNX6_6 S o).length), some none, some none, none])
def SNX6_10 (S : List IK) (o : Nat) : List IK := (SNX6_9 S o) ++ [(0, 401, [])]
def SNX6_11 (S : List IK) (o : Nat) : List IK := (SNX6_10 S o).set o (8, 8, [none, none, some (some S.length), some (some (SNX6_3 S o).length), some (some (SNX6_6 S o).length), some (some (SNX6_9 S o).length), some none, none])
def SNX6_12 (S : List IK) (o : Nat) : List IK := (SNX6_11 S o) ++ [(0, 401, [])]
def SNX6_13 (S : List IK) (o : Nat) : List IK := (SNX6_12 S o).set o (8, 8, [none, none, some (some S.length), some (some (SNX6_3 S o).length), some (some (SNX6_6 S o).length), some (some (SNX6_9 S o).length), some (some (SNX6_11 S o).length), none])
def SNX6 (S : List IK) (o : Nat) : List IK := (SNX6_13 S o)
def MNX6_1 (S : List IK) (M : IM) (o : Nat) : IM := ms M o 1 (-1)
def MNX6_2 (S : List IK) (M : IM) (o : Nat) : IM := (MNX3 (SNX6_1 S o) (MNX6_1 S M o) S.length)
def MNX6_3 (S : List IK) (M : IM) (o : Nat) : IM := (MNX7 (SNX6_4 S o) (MNX6_2 S M o) (SNX6_3 S o).length)
def MNX6_4 (S : List IK) (M : IM) (o : Nat) : IM := (MNX8 (SNX6_7 S o) (MNX6_3 S M o) (SNX6_6 S o).length)
def MNX6 (S : List IK) (M : IM) (o : Nat) : IM := (MNX6_4 S M o)
def RNX6_2 (S : List IK) (o : Nat) : Nat := S.length
def RNX6_3 (S : List IK) (o : Nat) : Nat := (SNX6_3 S o).length
def RNX6_4 (S : List IK) (o : Nat) : Nat := (SNX6_6 S o).length
def RNX6_5 (S : List IK) (o : Nat) : Nat := (SNX6_9 S o).length
def RNX6_6 (S : List IK) (o : Nat) : Nat := (SNX6_11 S o).length
def CBX6 (S : List IK) (M : IM) (o : Nat) : Prop := (SNX6 S o)[o]? = some (8, 8, [none, none, some (some (RNX6_2 S o)), some (some (RNX6_3 S o)), some (some (RNX6_4 S o)), some (some (RNX6_5 S o)), some (some (RNX6_6 S o)), none]) ∧ ie_wf (SNX6 S o) (MNX6 S M o) ∧ ie_zr (SNX6 S o) (MNX6 S M o) ∧ (SNX6 S o).length = S.length + 18 ∧ ∀ (p : Nat) (x : IK), ¬ p = o → S[p]? = some x → (SNX6 S o)[p]? = some x
set_option maxRecDepth 100000 in
set_option maxHeartbeats 4000000 in
theorem cb_X6 {S : List IK} {M : IM} {o : Nat} (ho : S[o]? = some (8, 8, [none, none, some none, some none, some none, some none, some none, none])) (hwf : ie_wf S M) (hz : ie_zr S M) : CBX6 S M o := by
  have len1 : (SNX6_1 S o).length = S.length + 1 := l_app rfl
  have hw1 : ie_wf S (MNX6_1 S M o) := wf_ms hwf ho (Or.inl (by decide))
  have hz2 : ie_zr S (MNX6_1 S M o) := zr_ms hz ((List.getElem?_eq_some_iff.mp ho).1)
  have hf3 : (SNX6_1 S o)[o]? = some (8, 8, [none, none, some none, some none, some none, some none, some none, none]) := ap_at ho
  have hf4 : (SNX6_1 S o)[S.length]? = some (5, 7, [none, some none, some none, some none, some none, none, some none]) := nw_at
  have hw5 : ie_wf (SNX6_1 S o) (MNX6_1 S M o) := wf_app hw1 (by simp) hz2
  have hz6 : ie_zr (SNX6_1 S o) (MNX6_1 S M o) := zr_app hz2
  have hb7 : CBX3 (SNX6_1 S o) (MNX6_1 S M o) S.length := cb_X3 hf4 hw5 hz6
  have len2 : (SNX6_2 S o).length = S.length + 6 := l_cal hb7.2.2.2.1 len1
  have len3 : (SNX6_3 S o).length = S.length + 6 := l_set len2
  have len4 : (SNX6_4 S o).length = S.length + 7 := l_app len3
  have hf8 : (SNX6_2 S o)[o]? = some (8, 8, [none, none, some none, some none, some none, some none, some none, none]) := hb7.2.2.2.2 _ _ (Nat.ne_of_lt (List.getElem?_eq_some_iff.mp ho).1) hf3
  have hf9 : (SNX6_2 S o)[S.length]? = some (5, 7, [none, some (some (RNX3_1 (SNX6_1 S o) S.length)), some (some (RNX3_2 (SNX6_1 S o) S.length)), some (some (RNX3_3 (SNX6_1 S o) S.length)), some (some (RNX3_4 (SNX6_1 S o) S.length)), none, some (some (RNX3_6 (SNX6_1 S o) S.length))]) := hb7.1
  have hw10 : ie_wf (SNX6_2 S o) (MNX6_2 S M o) := hb7.2.1
  have hz11 : ie_zr (SNX6_2 S o) (MNX6_2 S M o) := hb7.2.2.1
  have hf12 : (SNX6_3 S o)[o]? = some (8, 8, [none, none, some (some S.length), some none, some none, some none, some none, none]) := st_at hf8
  have hf13 : (SNX6_3 S o)[S.length]? = some (5, 7, [none, some (some (RNX3_1 (SNX6_1 S o) S.length)), some (some (RNX3_2 (SNX6_1 S o) S.length)), some (some (RNX3_3 (SNX6_1 S o) S.length)), some (some (RNX3_4 (SNX6_1 S o) S.length)), none, some (some (RNX3_6 (SNX6_1 S o) S.length))]) := st_at' hf9 (Nat.ne_of_lt (List.getElem?_eq_some_iff.mp ho).1)
  have hw14 : ie_wf (SNX6_3 S o) (MNX6_2 S M o) := by have zz := wf_set (i := 2) (r := S.length) hw10 hf8 ((List.getElem?_eq_some_iff.mp hf9).1); exact zz
  have hz15 : ie_zr (SNX6_3 S o) (MNX6_2 S M o) := zr_set hz11
  have hf16 : (SNX6_4 S o)[o]? = some (8, 8, [none, none, some (some S.length), some none, some none, some none, some none, none]) := ap_at hf12
  have hf17 : (SNX6_4 S o)[S.length]? = some (5, 7, [none, some (some (RNX3_1 (SNX6_1 S o) S.length)), some (some (RNX3_2 (SNX6_1 S o) S.length)), some (some (RNX3_3 (SNX6_1 S o) S.length)), some (some (RNX3_4 (SNX6_1 S o) S.length)), none, some (some (RNX3_6 (SNX6_1 S o) S.length))]) := ap_at hf13
  have hf18 : (SNX6_4 S o)[(SNX6_3 S o).length]? = some (9, 5, [none, some none, some none, some none, some none]) := nw_at
  have hw19 : ie_wf (SNX6_4 S o) (MNX6_2 S M o) := wf_app hw14 (by simp) hz15
  have hz20 : ie_zr (SNX6_4 S o) (MNX6_2 S M o) := zr_app hz15
  have hb21 : CBX7 (SNX6_4 S o) (MNX6_2 S M o) (SNX6_3 S o).length := cb_X7 hf18 hw19 hz20
  have len5 : (SNX6_5 S o).length = S.length + 11 := l_cal hb21.2.2.2.1 len4
  have len6 : (SNX6_6 S o).length = S.length + 11 := l_set len5
  have len7 : (SNX6_7 S o).length = S.length + 12 := l_app len6
  have hf22 : (SNX6_5 S o)[o]? = some (8, 8, [none, none, some (some S.length), some none, some none, some none, some none, none]) := hb21.2.2.2.2 _ _ (Nat.ne_of_lt (List.getElem?_eq_some_iff.mp hf12).1) hf16
  have hf23 : (SNX6_5 S o)[S.length]? = some (5, 7, [none, some (some (RNX3_1 (SNX6_1 S o) S.length)), some (some (RNX3_2 (SNX6_1 S o) S.length)), some (some (RNX3_3 (SNX6_1 S o) S.length)), some (some (RNX3_4 (SNX6_1 S o) S.length)), none, some (some (RNX3_6 (SNX6_1 S o) S.length))]) := hb21.2.2.2.2 _ _ (Nat.ne_of_lt (List.getElem?_eq_some_iff.mp hf13).1) hf17
  have hf24 : (SNX6_5 S o)[(SNX6_3 S o).length]? = some (9, 5, [none, some (some (RNX7_1 (SNX6_4 S o) (SNX6_3 S o).length)), some (some (RNX7_2 (SNX6_4 S o) (SNX6_3 S o).length)), some (some (RNX7_3 (SNX6_4 S o) (SNX6_3 S o).length)), some (some (RNX7_4 (SNX6_4 S o) (SNX6_3 S o).length))]) := hb21.1
  have hw25 : ie_wf (SNX6_5 S o) (MNX6_3 S M o) := hb21.2.1
  have hz26 : ie_zr (SNX6_5 S o) (MNX6_3 S M o) := hb21.2.2.1
  have hf27 : (SNX6_6 S o)[o]? = some (8, 8, [none, none, some (some S.length), some (some (SNX6_3 S o).length), some none, some none, some none, none]) := st_at hf22
  have hf28 : (SNX6_6 S o)[S.length]? = some (5, 7, [none, some (some (RNX3_1 (SNX6_1 S o) S.length)), some (some (RNX3_2 (SNX6_1 S o) S.length)), some (some (RNX3_3 (SNX6_1 S o) S.length)), some (some (RNX3_4 (SNX6_1 S o) S.length)), none, some (some (RNX3_6 (SNX6_1 S o) S.length))]) := st_at' hf23 (Nat.ne_of_lt (List.getElem?_eq_some_iff.mp ho).1)
  have hf29 : (SNX6_6 S o)[(SNX6_3 S o).length]? = some (9, 5, [none, some (some (RNX7_1 (SNX6_4 S o) (SNX6_3 S o).length)), some (some (RNX7_2 (SNX6_4 S o) (SNX6_3 S o).length)), some (some (RNX7_3 (SNX6_4 S o) (SNX6_3 S o).length)), some (some (RNX7_4 (SNX6_4 S o) (SNX6_3 S o).length))]) := st_at' hf24 (Nat.ne_of_lt (List.getElem?_eq_some_iff.mp hf12).1)
  have hw30 : ie_wf (SNX6_6 S o) (MNX6_3 S M o) := by have zz := wf_set (i := 3) (r := (SNX6_3 S o).length) hw25 hf22 ((List.getElem?_eq_some_iff.mp hf24).1); exact zz
  have hz31 : ie_zr (SNX6_6 S o) (MNX6_3 S M o) := zr_set hz26
  have hf32 : (SNX6_7 S o)[o]? = some (8, 8, [none, none, some (some S.length), some (some (SNX6_3 S o).length), some none, some none, some none, none]) := ap_at hf27
  have hf33 : (SNX6_7 S o)[S.length]? = some (5, 7, [none, some (some (RNX3_1 (SNX6_1 S o) S.length)), some (some (RNX3_2 (SNX6_1 S o) S.length)), some (some (RNX3_3 (SNX6_1 S o) S.length)), some (some (RNX3_4 (SNX6_1 S o) S.length)), none, some (some (RNX3_6 (SNX6_1 S o) S.length))]) := ap_at hf28
  have hf34 : (SNX6_7 S o)[(SNX6_3 S o).length]? = some (9, 5, [none, some (some (RNX7_1 (SNX6_4 S o) (SNX6_3 S o).length)), some (some (RNX7_2 (SNX6_4 S o) (SNX6_3 S o).length)), some (some (RNX7_3 (SNX6_4 S o) (SNX6_3 S o).length)), some (some (RNX7_4 (SNX6_4 S o) (SNX6_3 S o).length))]) := ap_at hf29
  have hf35 : (SNX6_7 S o)[(SNX6_6 S o).length]? = some (10, 5, [none, some none, some none, some none, some none]) := nw_at
  have hw36 : ie_wf (SNX6_7 S o) (MNX6_3 S M o) := wf_app hw30 (by simp) hz31
  have hz37 : ie_zr (SNX6_7 S o) (MNX6_3 S M o) := zr_app hz31
  have hb38 : CBX8 (SNX6_7 S o) (MNX6_3 S M o) (SNX6_6 S o).length := cb_X8 hf35 hw36 hz37
  have len8 : (SNX6_8 S o).length = S.length + 16 := l_cal hb38.2.2.2.1 len7
  have len9 : (SNX6_9 S o).length = S.length + 16 := l_set len8
  have len10 : (SNX6_10 S o).length = S.length + 17 := l_app len9
  have len11 : (SNX6_11 S o).length = S.length + 17 := l_set len10
  have len12 : (SNX6_12 S o).length = S.length + 18 := l_app len11
  have len13 : (SNX6_13 S o).length = S.length + 18 := l_set len12
  have hf39 : (SNX6_8 S o)[o]? = some (8, 8, [none, none, some (some S.length), some (some (SNX6_3 S o).length), some none, some none, some none, none]) := hb38.2.2.2.2 _ _ (Nat.ne_of_lt (List.getElem?_eq_some_iff.mp hf27).1) hf32
  have hf40 : (SNX6_8 S o)[S.length]? = some (5, 7, [none, some (some (RNX3_1 (SNX6_1 S o) S.length)), some (some (RNX3_2 (SNX6_1 S o) S.length)), some (some (RNX3_3 (SNX6_1 S o) S.length)), some (some (RNX3_4 (SNX6_1 S o) S.length)), none, some (some (RNX3_6 (SNX6_1 S o) S.length))]) := hb38.2.2.2.2 _ _ (Nat.ne_of_lt (List.getElem?_eq_some_iff.mp hf28).1) hf33
  have hf41 : (SNX6_8 S o)[(SNX6_3 S o).length]? = some (9, 5, [none, some (some (RNX7_1 (SNX6_4 S o) (SNX6_3 S o).length)), some (some (RNX7_2 (SNX6_4 S o) (SNX6_3 S o).length)), some (some (RNX7_3 (SNX6_4 S o) (SNX6_3 S o).length)), some (some (RNX7_4 (SNX6_4 S o) (SNX6_3 S o).length))]) := hb38.2.2.2.2 _ _ (Nat.ne_of_lt (List.getElem?_eq_some_iff.mp hf29).1) hf34
  have hf42 : (SNX6_8 S o)[(SNX6_6 S o).length]? = some (10, 5, [none, some (some (RNX8_1 (SNX6_7 S o) (SNX6_6 S o).length)), some (some (RNX8_2 (SNX6_7 S o) (SNX6_6 S o).length)), some (some (RNX8_3 (SNX6_7 S o) (SNX6_6 S o).length)), some (some (RNX8_4 (SNX6_7 S o) (SNX6_6 S o).length))]) := hb38.1
  have hw43 : ie_wf (SNX6_8 S o) (MNX6_4 S M o) := hb38.2.1
  have hz44 : ie_zr (SNX6_8 S o) (MNX6_4 S M o) := hb38.2.2.1
  have hf45 : (SNX6_9 S o)[o]? = some (8, 8, [none, none, some (some S.length), some (some (SNX6_3 S o).length), some (some (SNX6_6 S o).length), some none, some none, none]) := st_at hf39
  have hf46 : (SNX6_9 S o)[S.length]? = some (5, 7, [none, some (some (RNX3_1 (SNX6_1 S o) S.length)), some (some (RNX3_2 (SNX6_1 S o) S.length)), some (some (RNX3_3 (SNX6_1 S o) S.length)), some (some (RNX3_4 (SNX6_1 S o) S.length)), none, some (some (RNX3_6 (SNX6_1 S o) S.length))]) := st_at' hf40 (Nat.ne_of_lt (List.getElem?_eq_some_iff.mp ho).1)
  have hf47 : (SNX6_9 S o)[(SNX6_3 S o).length]? = some (9, 5, [none, some (some (RNX7_1 (SNX6_4 S o) (SNX6_3 S o).length)), some (some (RNX7_2 (SNX6_4 S o) (SNX6_3 S o).length)), some (some (RNX7_3 (SNX6_4 S o) (SNX6_3 S o).length)), some (some (RNX7_4 (SNX6_4 S o) (SNX6_3 S o).length))]) := st_at' hf41 (Nat.ne_of_lt (List.getElem?_eq_some_iff.mp hf12).1)
  have hf48 : (SNX6_9 S o)[(SNX6_6 S o).length]? = some (10, 5, [none, some (some (RNX8_1 (SNX6_7 S o) (SNX6_6 S o).length)), some (some (RNX8_2 (SNX6_7 S o) (SNX6_6 S o).length)), some (some (RNX8_3 (SNX6_7 S o) (SNX6_6 S o).length)), some (some (RNX8_4 (SNX6_7 S o) (SNX6_6 S o).length))]) := st_at' hf42 (Nat.ne_of_lt (List.getElem?_eq_some_iff.mp hf27).1)
  have hw49 : ie_wf (SNX6_9 S o) (MNX6_4 S M o) := by have zz := wf_set (i := 4) (r := (SNX6_6 S o).length) hw43 hf39 ((List.getElem?_eq_some_iff.mp hf42).1); exact zz
  have hz50 : ie_zr (SNX6_9 S o) (MNX6_4 S M o) := zr_set hz44
  have hf51 : (SNX6_10 S o)[o]? = some (8, 8, [none, none, some (some S.length), some (some (SNX6_3 S o).length), some (some (SNX6_6 S o).length), some none, some none, none]) := ap_at hf45
  have hf52 : (SNX6_10 S o)[S.length]? = some (5, 7, [none, some (some (RNX3_1 (SNX6_1 S o) S.length)), some (some (RNX3_2 (SNX6_1 S o) S.length)), some (some (RNX3_3 (SNX6_1 S o) S.length)), some (some (RNX3_4 (SNX6_1 S o) S.length)), none, some (some (RNX3_6 (SNX6_1 S o) S.length))]) := ap_at hf46
  have hf53 : (SNX6_10 S o)[(SNX6_3 S o).length]? = some (9, 5, [none, some (some (RNX7_1 (SNX6_4 S o) (SNX6_3 S o).length)), some (some (RNX7_2 (SNX6_4 S o) (SNX6_3 S o).length)), some (some (RNX7_3 (SNX6_4 S o) (SNX6_3 S o).length)), some (some (RNX7_4 (SNX6_4 S o) (SNX6_3 S o).length))]) := ap_at hf47
  have hf54 : (SNX6_10 S o)[(SNX6_6 S o).length]? = some (10, 5, [none, some (some (RNX8_1 (SNX6_7 S o) (SNX6_6 S o).length)), some (some (RNX8_2 (SNX6_7 S o) (SNX6_6 S o).length)), some (some (RNX8_3 (SNX6_7 S o) (SNX6_6 S o).length)), some (some (RNX8_4 (SNX6_7 S o) (SNX6_6 S o).length))]) := ap_at hf48
  have hf55 : (SNX6_10 S o)[(SNX6_9 S o).length]? = some (0, 401, []) := nw_at
  have hw56 : ie_wf (SNX6_10 S o) (MNX6_4 S M o) := wf_app hw49 (by simp) hz50
  have hz57 : ie_zr (SNX6_10 S o) (MNX6_4 S M o) := zr_app hz50
  have hf58 : (SNX6_11 S o)[o]? = some (8, 8, [none, none, some (some S.length), some (some (SNX6_3 S o).length), some (some (SNX6_6 S o).length), some (some (SNX6_9 S o).length), some none, none]) := st_at hf51
  have hf59 : (SNX6_11 S o)[S.length]? = some (5, 7, [none, some (some (RNX3_1 (SNX6_1 S o) S.length)), some (some (RNX3_2 (SNX6_1 S o) S.length)), some (some (RNX3_3 (SNX6_1 S o) S.length)), some (some (RNX3_4 (SNX6_1 S o) S.length)), none, some (some (RNX3_6 (SNX6_1 S o) S.length))]) := st_at' hf52 (Nat.ne_of_lt (List.getElem?_eq_some_iff.mp ho).1)
  have hf60 : (SNX6_11 S o)[(SNX6_3 S o).length]? = some (9, 5, [none, some (some (RNX7_1 (SNX6_4 S o) (SNX6_3 S o).length)), some (some (RNX7_2 (SNX6_4 S o) (SNX6_3 S o).length)), some (some (RNX7_3 (SNX6_4 S o) (SNX6_3 S o).length)), some (some (RNX7_4 (SNX6_4 S o) (SNX6_3 S o).length))]) := st_at' hf53 (Nat.ne_of_lt (List.getElem?_eq_some_iff.mp hf12).1)
  have hf61 : (SNX6_11 S o)[(SNX6_6 S o).length]? = some (10, 5, [none, some (some (RNX8_1 (SNX6_7 S o) (SNX6_6 S o).length)), some (some (RNX8_2 (SNX6_7 S o) (SNX6_6 S o).length)), some (some (RNX8_3 (SNX6_7 S o) (SNX6_6 S o).length)), some (some (RNX8_4 (SNX6_7 S o) (SNX6_6 S o).length))]) := st_at' hf54 (Nat.ne_of_lt (List.getElem?_eq_some_iff.mp hf27).1)
  have hf62 : (SNX6_11 S o)[(SNX6_9 S o).length]? = some (0, 401, []) := st_at' hf55 (Nat.ne_of_lt (List.getElem?_eq_some_iff.mp hf45).1)
  have hw63 : ie_wf (SNX6_11 S o) (MNX6_4 S M o) := by have zz := wf_set (i := 5) (r := (SNX6_9 S o).length) hw56 hf51 ((List.getElem?_eq_some_iff.mp hf55).1); exact zz
  have hz64 : ie_zr (SNX6_11 S o) (MNX6_4 S M o) := zr_set hz57
  have hf65 : (SNX6_12 S o)[o]? = some (8, 8, [none, none, some (some S.length), some (some (SNX6_3 S o).length), some (some (SNX6_6 S o).length), some (some (SNX6_9 S o).length), some none, none]) := ap_at hf58
  have hf66 : (SNX6_12 S o)[S.length]? = some (5, 7, [none, some (some (RNX3_1 (SNX6_1 S o) S.length)), some (some (RNX3_2 (SNX6_1 S o) S.length)), some (some (RNX3_3 (SNX6_1 S o) S.length)), some (some (RNX3_4 (SNX6_1 S o) S.length)), none, some (some (RNX3_6 (SNX6_1 S o) S.length))]) := ap_at hf59
  have hf67 : (SNX6_12 S o)[(SNX6_3 S o).length]? = some (9, 5, [none, some (some (RNX7_1 (SNX6_4 S o) (SNX6_3 S o).length)), some (some (RNX7_2 (SNX6_4 S o) (SNX6_3 S o).length)), some (some (RNX7_3 (SNX6_4 S o) (SNX6_3 S o).length)), some (some (RNX7_4 (SNX6_4 S o) (SNX6_3 S o).length))]) := ap_at hf60
  have hf68 : (SNX6_12 S o)[(SNX6_6 S o).length]? = some (10, 5, [none, some (some (RNX8_1 (SNX6_7 S o) (SNX6_6 S o).length)), some (some (RNX8_2 (SNX6_7 S o) (SNX6_6 S o).length)), some (some (RNX8_3 (SNX6_7 S o) (SNX6_6 S o).length)), some (some (RNX8_4 (SNX6_7 S o) (SNX6_6 S o).length))]) := ap_at hf61
  have hf69 : (SNX6_12 S o)[(SNX6_11 S o).length]? = some (0, 401, []) := nw_at
  have hw70 : ie_wf (SNX6_12 S o) (MNX6_4 S M o) := wf_app hw63 (by simp) hz64
  have hz71 : ie_zr (SNX6_12 S o) (MNX6_4 S M o) := zr_app hz64
  have hf72 : (SNX6_13 S o)[o]? = some (8, 8, [none, none, some (some S.length), some (some (SNX6_3 S o).length), some (some (SNX6_6 S o).length), some (some (SNX6_9 S o).length), some (some (SNX6_11 S o).length), none]) := st_at hf65
  have hf73 : (SNX6_13 S o)[S.length]? = some (5, 7, [none, some (some (RNX3_1 (SNX6_1 S o) S.length)), some (some (RNX3_2 (SNX6_1 S o) S.length)), some (some (RNX3_3 (SNX6_1 S o) S.length)), some (some (RNX3_4 (SNX6_1 S o) S.length)), none, some (some (RNX3_6 (SNX6_1 S o) S.length))]) := st_at' hf66 (Nat.ne_of_lt (List.getElem?_eq_some_iff.mp ho).1)
  have hf74 : (SNX6_13 S o)[(SNX6_3 S o).length]? = some (9, 5, [none, some (some (RNX7_1 (SNX6_4 S o) (SNX6_3 S o).length)), some (some (RNX7_2 (SNX6_4 S o) (SNX6_3 S o).length)), some (some (RNX7_3 (SNX6_4 S o) (SNX6_3 S o).length)), some (some (RNX7_4 (SNX6_4 S o) (SNX6_3 S o).length))]) := st_at' hf67 (Nat.ne_of_lt (List.getElem?_eq_some_iff.mp hf12).1)
  have hf75 : (SNX6_13 S o)[(SNX6_6 S o).length]? = some (10, 5, [none, some (some (RNX8_1 (SNX6_7 S o) (SNX6_6 S o).length)), some (some (RNX8_2 (SNX6_7 S o) (SNX6_6 S o).length)), some (some (RNX8_3 (SNX6_7 S o) (SNX6_6 S o).length)), some (some (RNX8_4 (SNX6_7 S o) (SNX6_6 S o).length))]) := st_at' hf68 (Nat.ne_of_lt (List.getElem?_eq_some_iff.mp hf27).1)
  have hf76 : (SNX6_13 S o)[(SNX6_11 S o).length]? = some (0, 401, []) := st_at' hf69 (Nat.ne_of_lt (List.getElem?_eq_some_iff.mp hf58).1)
  have hw77 : ie_wf (SNX6_13 S o) (MNX6_4 S M o) := by have zz := wf_set (i := 6) (r := (SNX6_11 S o).length) hw70 hf65 ((List.getElem?_eq_some_iff.mp hf69).1); exact zz
  have hz78 : ie_zr (SNX6_13 S o) (MNX6_4 S M o) := zr_set hz71
  exact ⟨hf72, hw77, hz78, len13, fun p x hp h => (st_at' (ap_at (st_at' (ap_at (st_at' (hb38.2.2.2.2 _ _ (fun e => absurd (List.getElem?_eq_some_iff.mp h).1 (nlt_len len6 e)) (ap_at (st_at' (hb21.2.2.2.2 _ _ (fun e => absurd (List.getElem?_eq_some_iff.mp h).1 (nlt_len len3 e)) (ap_at (st_at' (hb7.2.2.2.2 _ _ (fun e => absurd (List.getElem?_eq_some_iff.mp h).1 (nlt_len (Nat.add_zero _).symm e)) (ap_at h)) (fun e => hp e.symm)))) (fun e => hp e.symm)))) (fun e => hp e.symm))) (fun e => hp e.symm))) (fun e => hp e.symm))⟩
set_option maxRecDepth 100000 in
set_option maxHeartbeats 8000000 in
theorem tc_X6 {g : IG} {a : Nat → Nat} {S : List IK} {M : IM} {o : Nat} (ho : S[o]? = some (8, 8, [none, none, some none, some none, some none, some none, some none, none])) (hwf : ie_wf S M) (hz : ie_zr S M) : Cn g mX6_init 2 18 1367 (qC (SNX6 S o) (MNX6 S M o) S.length a) [.ref (a o)] a S M := by
  refine Cn_of (L := [some (.ref (a o))]) mf_X6_init (cat_r cat_0) (Nat.le_of_ble_eq_true rfl) rfl ?_
  have len1 : (SNX6_1 S o).length = S.length + 1 := l_app rfl
  refine V_aload_n rfl dX6_init_0 rfl rfl ?_
  refine V_obj rfl dX6_init_1 ⟨w_416, w_166, w_167⟩ rfl ?_
  refine V_aload_n rfl dX6_init_4 rfl rfl ?_
  refine V_iconst (v := (-1)) rfl dX6_init_5 kc_m1 ?_
  refine V_putf (k0 := 1) (ty := .int) rfl dX6_init_6 ho icX6 tyX6_ok nmX6 (by decide) rfl w_425 rfl (tyX6_ok _ (by decide)) rfl rfl ?_
  have hw1 : ie_wf S (MNX6_1 S M o) := wf_ms hwf ho (Or.inl (by decide))
  have hz2 : ie_zr S (MNX6_1 S M o) := zr_ms hz ((List.getElem?_eq_some_iff.mp ho).1)
  show V _ _ _ _ _ _ _ _ _ _ S (MNX6_1 S M o) _ _
  refine V_aload_n rfl dX6_init_9 rfl rfl ?_
  refine V_new (fun a => [some (.ref (a o))]) (fun a => [.ref (a o)]) rfl dX6_init_10 icX3 rfl tyX3_ok ⟨w_417, w_253, w_142⟩ (fs := [none, some none, some none, some none, some none, none, some none]) (by decide +kernel) (by simp) hw1 hz2 ⟨rfl, rfl⟩ (fun a' h => ⟨by first | rfl | simp only [h _ ((List.getElem?_eq_some_iff.mp ho).1)], by first | rfl | simp only [h _ ((List.getElem?_eq_some_iff.mp ho).1)]⟩) (fun a1 hg0 => ?_)
  have hf3 : (SNX6_1 S o)[o]? = some (8, 8, [none, none, some none, some none, some none, some none, some none, none]) := ap_at ho
  have hf4 : (SNX6_1 S o)[S.length]? = some (5, 7, [none, some none, some none, some none, some none, none, some none]) := nw_at
  have hw5 : ie_wf (SNX6_1 S o) (MNX6_1 S M o) := wf_app hw1 (by simp) hz2
  have hz6 : ie_zr (SNX6_1 S o) (MNX6_1 S M o) := zr_app hz2
  show V _ _ _ _ _ _ _ _ _ _ (SNX6_1 S o) (MNX6_1 S M o) _ _
  refine V_dup rfl dX6_init_13 rfl ?_
  refine V_inin (mc' := 5) (ns' := 464) (d' := 1) (As := []) (S' := (SNX3 (SNX6_1 S o) S.length)) (M' := (MNX3 (SNX6_1 S o) (MNX6_1 S M o) S.length)) (fun a => [some (.ref (a o))]) (fun a => [.ref (a S.length), .ref (a o)]) rfl dX6_init_14 mf_X3_init rfl rfl w_255 w_418 (by decide) ⟨rfl, rfl⟩ rfl rfl rfl (fun a' h => ⟨by first | rfl | simp only [h _ ((List.getElem?_eq_some_iff.mp hf4).1), h _ ((List.getElem?_eq_some_iff.mp hf3).1)], by first | rfl | simp only [h _ ((List.getElem?_eq_some_iff.mp hf4).1), h _ ((List.getElem?_eq_some_iff.mp hf3).1)]⟩) (tc_X3 hf4 hw5 hz6) (fun a11 hg1 => ?_)
  have hb7 : CBX3 (SNX6_1 S o) (MNX6_1 S M o) S.length := cb_X3 hf4 hw5 hz6
  have len2 : (SNX6_2 S o).length = S.length + 6 := l_cal hb7.2.2.2.1 len1
  have len3 : (SNX6_3 S o).length = S.length + 6 := l_set len2
  have len4 : (SNX6_4 S o).length = S.length + 7 := l_app len3
  have hf8 : (SNX6_2 S o)[o]? = some (8, 8, [none, none, some none, some none, some none, some none, some none, none]) := hb7.2.2.2.2 _ _ (Nat.ne_of_lt (List.getElem?_eq_some_iff.mp ho).1) hf3
  have hf9 : (SNX6_2 S o)[S.length]? = some (5, 7, [none, some (some (RNX3_1 (SNX6_1 S o) S.length)), some (some (RNX3_2 (SNX6_1 S o) S.length)), some (some (RNX3_3 (SNX6_1 S o) S.length)), some (some (RNX3_4 (SNX6_1 S o) S.length)), none, some (some (RNX3_6 (SNX6_1 S o) S.length))]) := hb7.1
  have hw10 : ie_wf (SNX6_2 S o) (MNX6_2 S M o) := hb7.2.1
  have hz11 : ie_zr (SNX6_2 S o) (MNX6_2 S M o) := hb7.2.2.1
  show V _ _ _ _ _ _ _ _ _ _ (SNX6_2 S o) (MNX6_2 S M o) _ _
  refine V_putr (k0 := 2) (ty := (.object "NeverHalted$Law")) (r := S.length) rfl dX6_init_17 hf8 icX6 tyX6_ok nmX6 (by decide) (Nat.le_of_ble_eq_true rfl) w_427 rfl rfl rfl (tyX6_ok _ (by decide)) rfl rfl ?_
  have hf12 : (SNX6_3 S o)[o]? = some (8, 8, [none, none, some (some S.length), some none, some none, some none, some none, none]) := st_at hf8
  have hf13 : (SNX6_3 S o)[S.length]? = some (5, 7, [none, some (some (RNX3_1 (SNX6_1 S o) S.length)), some (some (RNX3_2 (SNX6_1 S o) S.length)), some (some (RNX3_3 (SNX6_1 S o) S.length)), some (some (RNX3_4 (SNX6_1 S o) S.length)), none, some (some (RNX3_6 (SNX6_1 S o) S.length))]) := st_at' hf9 (Nat.ne_of_lt (List.getElem?_eq_some_iff.mp ho).1)
  have hw14 : ie_wf (SNX6_3 S o) (MNX6_2 S M o) := by have zz := wf_set (i := 2) (r := S.length) hw10 hf8 ((List.getElem?_eq_some_iff.mp hf9).1); exact zz
  have hz15 : ie_zr (SNX6_3 S o) (MNX6_2 S M o) := zr_set hz11
  show V _ _ _ _ _ _ _ _ _ _ (SNX6_3 S o) (MNX6_2 S M o) _ _
  refine V_aload_n rfl dX6_init_20 rfl rfl ?_
  refine V_new (fun a => [some (.ref (a o))]) (fun a => [.ref (a o)]) rfl dX6_init_21 icX7 rfl tyX7_ok ⟨w_419, w_289, w_143⟩ (fs := [none, some none, some none, some none, some none]) (by decide +kernel) (by simp) hw14 hz15 ⟨rfl, rfl⟩ (fun a' h => ⟨by first | rfl | simp only [h _ ((List.getElem?_eq_some_iff.mp hf12).1)], by first | rfl | simp only [h _ ((List.getElem?_eq_some_iff.mp hf12).1)]⟩) (fun a111 hg2 => ?_)
  have hf16 : (SNX6_4 S o)[o]? = some (8, 8, [none, none, some (some S.length), some none, some none, some none, some none, none]) := ap_at hf12
  have hf17 : (SNX6_4 S o)[S.length]? = some (5, 7, [none, some (some (RNX3_1 (SNX6_1 S o) S.length)), some (some (RNX3_2 (SNX6_1 S o) S.length)), some (some (RNX3_3 (SNX6_1 S o) S.length)), some (some (RNX3_4 (SNX6_1 S o) S.length)), none, some (some (RNX3_6 (SNX6_1 S o) S.length))]) := ap_at hf13
  have hf18 : (SNX6_4 S o)[(SNX6_3 S o).length]? = some (9, 5, [none, some none, some none, some none, some none]) := nw_at
  have hw19 : ie_wf (SNX6_4 S o) (MNX6_2 S M o) := wf_app hw14 (by simp) hz15
  have hz20 : ie_zr (SNX6_4 S o) (MNX6_2 S M o) := zr_app hz15
  show V _ _ _ _ _ _ _ _ _ _ (SNX6_4 S o) (MNX6_2 S M o) _ _
  refine V_dup rfl dX6_init_24 rfl ?_
  refine V_inin (mc' := 4) (ns' := 32) (d' := 1) (As := []) (S' := (SNX7 (SNX6_4 S o) (SNX6_3 S o).length)) (M' := (MNX7 (SNX6_4 S o) (MNX6_2 S M o) (SNX6_3 S o).length)) (fun a => [some (.ref (a o))]) (fun a => [.ref (a (SNX6_3 S o).length), .ref (a o)]) rfl dX6_init_25 mf_X7_init rfl rfl w_291 w_420 (by decide) ⟨rfl, rfl⟩ rfl rfl rfl (fun a' h => ⟨by first | rfl | simp only [h _ ((List.getElem?_eq_some_iff.mp hf18).1), h _ ((List.getElem?_eq_some_iff.mp hf16).1)], by first | rfl | simp only [h _ ((List.getElem?_eq_some_iff.mp hf18).1), h _ ((List.getElem?_eq_some_iff.mp hf16).1)]⟩) (tc_X7 hf18 hw19 hz20) (fun a1111 hg3 => ?_)
  have hb21 : CBX7 (SNX6_4 S o) (MNX6_2 S M o) (SNX6_3 S o).length := cb_X7 hf18 hw19 hz20
  have len5 : (SNX6_5 S o).length = S.length + 11 := l_cal hb21.2.2.2.1 len4
  have len6 : (SNX6_6 S o).length = S.length + 11 := l_set len5
  have len7 : (SNX6_7 S o).length = S.length + 12 := l_app len6
  have hf22 : (SNX6_5 S o)[o]? = some (8, 8, [none, none, some (some S.length), some none, some none, some none, some none, none]) := hb21.2.2.2.2 _ _ (Nat.ne_of_lt (List.getElem?_eq_some_iff.mp hf12).1) hf16
  have hf23 : (SNX6_5 S o)[S.length]? = some (5, 7, [none, some (some (RNX3_1 (SNX6_1 S o) S.length)), some (some (RNX3_2 (SNX6_1 S o) S.length)), some (some (RNX3_3 (SNX6_1 S o) S.length)), some (some (RNX3_4 (SNX6_1 S o) S.length)), none, some (some (RNX3_6 (SNX6_1 S o) S.length))]) := hb21.2.2.2.2 _ _ (Nat.ne_of_lt (List.getElem?_eq_some_iff.mp hf13).1) hf17
  have hf24 : (SNX6_5 S o)[(SNX6_3 S o).length]? = some (9, 5, [none, some (some (RNX7_1 (SNX6_4 S o) (SNX6_3 S o).length)), some (some (RNX7_2 (SNX6_4 S o) (SNX6_3 S o).length)), some (some (RNX7_3 (SNX6_4 S o) (SNX6_3 S o).length)), some (some (RNX7_4 (SNX6_4 S o) (SNX6_3 S o).length))]) := hb21.1
  have hw25 : ie_wf (SNX6_5 S o) (MNX6_3 S M o) := hb21.2.1
  have hz26 : ie_zr (SNX6_5 S o) (MNX6_3 S M o) := hb21.2.2.1
  show V _ _ _ _ _ _ _ _ _ _ (SNX6_5 S o) (MNX6_3 S M o) _ _
  refine V_putr (k0 := 3) (ty := (.object "NeverHalted$Round")) (r := (SNX6_3 S o).length) rfl dX6_init_28 hf22 icX6 tyX6_ok nmX6 (by decide) (Nat.le_of_ble_eq_true rfl) w_429 rfl rfl rfl (tyX6_ok _ (by decide)) rfl rfl ?_
  have hf27 : (SNX6_6 S o)[o]? = some (8, 8, [none, none, some (some S.length), some (some (SNX6_3 S o).length), some none, some none, some none, none]) := st_at hf22
  have hf28 : (SNX6_6 S o)[S.length]? = some (5, 7, [none, some (some (RNX3_1 (SNX6_1 S o) S.length)), some (some (RNX3_2 (SNX6_1 S o) S.length)), some (some (RNX3_3 (SNX6_1 S o) S.length)), some (some (RNX3_4 (SNX6_1 S o) S.length)), none, some (some (RNX3_6 (SNX6_1 S o) S.length))]) := st_at' hf23 (Nat.ne_of_lt (List.getElem?_eq_some_iff.mp ho).1)
  have hf29 : (SNX6_6 S o)[(SNX6_3 S o).length]? = some (9, 5, [none, some (some (RNX7_1 (SNX6_4 S o) (SNX6_3 S o).length)), some (some (RNX7_2 (SNX6_4 S o) (SNX6_3 S o).length)), some (some (RNX7_3 (SNX6_4 S o) (SNX6_3 S o).length)), some (some (RNX7_4 (SNX6_4 S o) (SNX6_3 S o).length))]) := st_at' hf24 (Nat.ne_of_lt (List.getElem?_eq_some_iff.mp hf12).1)
  have hw30 : ie_wf (SNX6_6 S o) (MNX6_3 S M o) := by have zz := wf_set (i := 3) (r := (SNX6_3 S o).length) hw25 hf22 ((List.getElem?_eq_some_iff.mp hf24).1); exact zz
  have hz31 : ie_zr (SNX6_6 S o) (MNX6_3 S M o) := zr_set hz26
  show V _ _ _ _ _ _ _ _ _ _ (SNX6_6 S o) (MNX6_3 S M o) _ _
  refine V_aload_n rfl dX6_init_31 rfl rfl ?_
  refine V_new (fun a => [some (.ref (a o))]) (fun a => [.ref (a o)]) rfl dX6_init_32 icX8 rfl tyX8_ok ⟨w_421, w_319, w_144⟩ (fs := [none, some none, some none, some none, some none]) (by decide +kernel) (by simp) hw30 hz31 ⟨rfl, rfl⟩ (fun a' h => ⟨by first | rfl | simp only [h _ ((List.getElem?_eq_some_iff.mp hf27).1)], by first | rfl | simp only [h _ ((List.getElem?_eq_some_iff.mp hf27).1)]⟩) (fun a11111 hg4 => ?_)
  have hf32 : (SNX6_7 S o)[o]? = some (8, 8, [none, none, some (some S.length), some (some (SNX6_3 S o).length), some none, some none, some none, none]) := ap_at hf27
  have hf33 : (SNX6_7 S o)[S.length]? = some (5, 7, [none, some (some (RNX3_1 (SNX6_1 S o) S.length)), some (some (RNX3_2 (SNX6_1 S o) S.length)), some (some (RNX3_3 (SNX6_1 S o) S.length)), some (some (RNX3_4 (SNX6_1 S o) S.length)), none, some (some (RNX3_6 (SNX6_1 S o) S.length))]) := ap_at hf28
  have hf34 : (SNX6_7 S o)[(SNX6_3 S o).length]? = some (9, 5, [none, some (some (RNX7_1 (SNX6_4 S o) (SNX6_3 S o).length)), some (some (RNX7_2 (SNX6_4 S o) (SNX6_3 S o).length)), some (some (RNX7_3 (SNX6_4 S o) (SNX6_3 S o).length)), some (some (RNX7_4 (SNX6_4 S o) (SNX6_3 S o).length))]) := ap_at hf29
  have hf35 : (SNX6_7 S o)[(SNX6_6 S o).length]? = some (10, 5, [none, some none, some none, some none, some none]) := nw_at
  have hw36 : ie_wf (SNX6_7 S o) (MNX6_3 S M o) := wf_app hw30 (by simp) hz31
  have hz37 : ie_zr (SNX6_7 S o) (MNX6_3 S M o) := zr_app hz31
  show V _ _ _ _ _ _ _ _ _ _ (SNX6_7 S o) (MNX6_3 S M o) _ _
  refine V_dup rfl dX6_init_35 rfl ?_
  refine V_inin (mc' := 4) (ns' := 52) (d' := 1) (As := []) (S' := (SNX8 (SNX6_7 S o) (SNX6_6 S o).length)) (M' := (MNX8 (SNX6_7 S o) (MNX6_3 S M o) (SNX6_6 S o).length)) (fun a => [some (.ref (a o))]) (fun a => [.ref (a (SNX6_6 S o).length), .ref (a o)]) rfl dX6_init_36 mf_X8_init rfl rfl w_321 w_422 (by decide) ⟨rfl, rfl⟩ rfl rfl rfl (fun a' h => ⟨by first | rfl | simp only [h _ ((List.getElem?_eq_some_iff.mp hf35).1), h _ ((List.getElem?_eq_some_iff.mp hf32).1)], by first | rfl | simp only [h _ ((List.getElem?_eq_some_iff.mp hf35).1), h _ ((List.getElem?_eq_some_iff.mp hf32).1)]⟩) (tc_X8 hf35 hw36 hz37) (fun a111111 hg5 => ?_)
  have hb38 : CBX8 (SNX6_7 S o) (MNX6_3 S M o) (SNX6_6 S o).length := cb_X8 hf35 hw36 hz37
  have len8 : (SNX6_8 S o).length = S.length + 16 := l_cal hb38.2.2.2.1 len7
  have len9 : (SNX6_9 S o).length = S.length + 16 := l_set len8
  have len10 : (SNX6_10 S o).length = S.length + 17 := l_app len9
  have len11 : (SNX6_11 S o).length = S.length + 17 := l_set len10
  have len12 : (SNX6_12 S o).length = S.length + 18 := l_app len11
  have len13 : (SNX6_13 S o).length = S.length + 18 := l_set len12
  have hf39 : (SNX6_8 S o)[o]? = some (8, 8, [none, none, some (some S.length), some (some (SNX6_3 S o).length), some none, some none, some none, none]) := hb38.2.2.2.2 _ _ (Nat.ne_of_lt (List.getElem?_eq_some_iff.mp hf27).1) hf32
  have hf40 : (SNX6_8 S o)[S.length]? = some (5, 7, [none, some (some (RNX3_1 (SNX6_1 S o) S.length)), some (some (RNX3_2 (SNX6_1 S o) S.length)), some (some (RNX3_3 (SNX6_1 S o) S.length)), some (some (RNX3_4 (SNX6_1 S o) S.length)), none, some (some (RNX3_6 (SNX6_1 S o) S.length))]) := hb38.2.2.2.2 _ _ (Nat.ne_of_lt (List.getElem?_eq_some_iff.mp hf28).1) hf33
  have hf41 : (SNX6_8 S o)[(SNX6_3 S o).length]? = some (9, 5, [none, some (some (RNX7_1 (SNX6_4 S o) (SNX6_3 S o).length)), some (some (RNX7_2 (SNX6_4 S o) (SNX6_3 S o).length)), some (some (RNX7_3 (SNX6_4 S o) (SNX6_3 S o).length)), some (some (RNX7_4 (SNX6_4 S o) (SNX6_3 S o).length))]) := hb38.2.2.2.2 _ _ (Nat.ne_of_lt (List.getElem?_eq_some_iff.mp hf29).1) hf34
  have hf42 : (SNX6_8 S o)[(SNX6_6 S o).length]? = some (10, 5, [none, some (some (RNX8_1 (SNX6_7 S o) (SNX6_6 S o).length)), some (some (RNX8_2 (SNX6_7 S o) (SNX6_6 S o).length)), some (some (RNX8_3 (SNX6_7 S o) (SNX6_6 S o).length)), some (some (RNX8_4 (SNX6_7 S o) (SNX6_6 S o).length))]) := hb38.1
  have hw43 : ie_wf (SNX6_8 S o) (MNX6_4 S M o) := hb38.2.1
  have hz44 : ie_zr (SNX6_8 S o) (MNX6_4 S M o) := hb38.2.2.1
  show V _ _ _ _ _ _ _ _ _ _ (SNX6_8 S o) (MNX6_4 S M o) _ _
  refine V_putr (k0 := 4) (ty := (.object "NeverHalted$Shifts")) (r := (SNX6_6 S o).length) rfl dX6_init_39 hf39 icX6 tyX6_ok nmX6 (by decide) (Nat.le_of_ble_eq_true rfl) w_431 rfl rfl rfl (tyX6_ok _ (by decide)) rfl rfl ?_
  have hf45 : (SNX6_9 S o)[o]? = some (8, 8, [none, none, some (some S.length), some (some (SNX6_3 S o).length), some (some (SNX6_6 S o).length), some none, some none, none]) := st_at hf39
  have hf46 : (SNX6_9 S o)[S.length]? = some (5, 7, [none, some (some (RNX3_1 (SNX6_1 S o) S.length)), some (some (RNX3_2 (SNX6_1 S o) S.length)), some (some (RNX3_3 (SNX6_1 S o) S.length)), some (some (RNX3_4 (SNX6_1 S o) S.length)), none, some (some (RNX3_6 (SNX6_1 S o) S.length))]) := st_at' hf40 (Nat.ne_of_lt (List.getElem?_eq_some_iff.mp ho).1)
  have hf47 : (SNX6_9 S o)[(SNX6_3 S o).length]? = some (9, 5, [none, some (some (RNX7_1 (SNX6_4 S o) (SNX6_3 S o).length)), some (some (RNX7_2 (SNX6_4 S o) (SNX6_3 S o).length)), some (some (RNX7_3 (SNX6_4 S o) (SNX6_3 S o).length)), some (some (RNX7_4 (SNX6_4 S o) (SNX6_3 S o).length))]) := st_at' hf41 (Nat.ne_of_lt (List.getElem?_eq_some_iff.mp hf12).1)
  have hf48 : (SNX6_9 S o)[(SNX6_6 S o).length]? = some (10, 5, [none, some (some (RNX8_1 (SNX6_7 S o) (SNX6_6 S o).length)), some (some (RNX8_2 (SNX6_7 S o) (SNX6_6 S o).length)), some (some (RNX8_3 (SNX6_7 S o) (SNX6_6 S o).length)), some (some (RNX8_4 (SNX6_7 S o) (SNX6_6 S o).length))]) := st_at' hf42 (Nat.ne_of_lt (List.getElem?_eq_some_iff.mp hf27).1)
  have hw49 : ie_wf (SNX6_9 S o) (MNX6_4 S M o) := by have zz := wf_set (i := 4) (r := (SNX6_6 S o).length) hw43 hf39 ((List.getElem?_eq_some_iff.mp hf42).1); exact zz
  have hz50 : ie_zr (SNX6_9 S o) (MNX6_4 S M o) := zr_set hz44
  show V _ _ _ _ _ _ _ _ _ _ (SNX6_9 S o) (MNX6_4 S M o) _ _
  refine V_aload_n rfl dX6_init_42 rfl rfl ?_
  refine V_sipush (v := 401) rfl dX6_init_43 ks_401 ?_
  refine V_newa (n := 401) (fun a => [some (.ref (a o))]) (fun a => [.ref (a o)]) rfl dX6_init_46 w_245 (by decide +kernel) hw49 hz50 ⟨rfl, rfl⟩ (fun a' h => ⟨by first | rfl | simp only [h _ ((List.getElem?_eq_some_iff.mp hf45).1)], by first | rfl | simp only [h _ ((List.getElem?_eq_some_iff.mp hf45).1)]⟩) (fun a1111111 hg6 => ?_)
  have hf51 : (SNX6_10 S o)[o]? = some (8, 8, [none, none, some (some S.length), some (some (SNX6_3 S o).length), some (some (SNX6_6 S o).length), some none, some none, none]) := ap_at hf45
  have hf52 : (SNX6_10 S o)[S.length]? = some (5, 7, [none, some (some (RNX3_1 (SNX6_1 S o) S.length)), some (some (RNX3_2 (SNX6_1 S o) S.length)), some (some (RNX3_3 (SNX6_1 S o) S.length)), some (some (RNX3_4 (SNX6_1 S o) S.length)), none, some (some (RNX3_6 (SNX6_1 S o) S.length))]) := ap_at hf46
  have hf53 : (SNX6_10 S o)[(SNX6_3 S o).length]? = some (9, 5, [none, some (some (RNX7_1 (SNX6_4 S o) (SNX6_3 S o).length)), some (some (RNX7_2 (SNX6_4 S o) (SNX6_3 S o).length)), some (some (RNX7_3 (SNX6_4 S o) (SNX6_3 S o).length)), some (some (RNX7_4 (SNX6_4 S o) (SNX6_3 S o).length))]) := ap_at hf47
  have hf54 : (SNX6_10 S o)[(SNX6_6 S o).length]? = some (10, 5, [none, some (some (RNX8_1 (SNX6_7 S o) (SNX6_6 S o).length)), some (some (RNX8_2 (SNX6_7 S o) (SNX6_6 S o).length)), some (some (RNX8_3 (SNX6_7 S o) (SNX6_6 S o).length)), some (some (RNX8_4 (SNX6_7 S o) (SNX6_6 S o).length))]) := ap_at hf48
  have hf55 : (SNX6_10 S o)[(SNX6_9 S o).length]? = some (0, 401, []) := nw_at
  have hw56 : ie_wf (SNX6_10 S o) (MNX6_4 S M o) := wf_app hw49 (by simp) hz50
  have hz57 : ie_zr (SNX6_10 S o) (MNX6_4 S M o) := zr_app hz50
  show V _ _ _ _ _ _ _ _ _ _ (SNX6_10 S o) (MNX6_4 S M o) _ _
  refine V_putr (k0 := 5) (ty := (.array .int)) (r := (SNX6_9 S o).length) rfl dX6_init_48 hf51 icX6 tyX6_ok nmX6 (by decide) (Nat.le_of_ble_eq_true rfl) w_433 rfl rfl rfl (tyX6_ok _ (by decide)) rfl rfl ?_
  have hf58 : (SNX6_11 S o)[o]? = some (8, 8, [none, none, some (some S.length), some (some (SNX6_3 S o).length), some (some (SNX6_6 S o).length), some (some (SNX6_9 S o).length), some none, none]) := st_at hf51
  have hf59 : (SNX6_11 S o)[S.length]? = some (5, 7, [none, some (some (RNX3_1 (SNX6_1 S o) S.length)), some (some (RNX3_2 (SNX6_1 S o) S.length)), some (some (RNX3_3 (SNX6_1 S o) S.length)), some (some (RNX3_4 (SNX6_1 S o) S.length)), none, some (some (RNX3_6 (SNX6_1 S o) S.length))]) := st_at' hf52 (Nat.ne_of_lt (List.getElem?_eq_some_iff.mp ho).1)
  have hf60 : (SNX6_11 S o)[(SNX6_3 S o).length]? = some (9, 5, [none, some (some (RNX7_1 (SNX6_4 S o) (SNX6_3 S o).length)), some (some (RNX7_2 (SNX6_4 S o) (SNX6_3 S o).length)), some (some (RNX7_3 (SNX6_4 S o) (SNX6_3 S o).length)), some (some (RNX7_4 (SNX6_4 S o) (SNX6_3 S o).length))]) := st_at' hf53 (Nat.ne_of_lt (List.getElem?_eq_some_iff.mp hf12).1)
  have hf61 : (SNX6_11 S o)[(SNX6_6 S o).length]? = some (10, 5, [none, some (some (RNX8_1 (SNX6_7 S o) (SNX6_6 S o).length)), some (some (RNX8_2 (SNX6_7 S o) (SNX6_6 S o).length)), some (some (RNX8_3 (SNX6_7 S o) (SNX6_6 S o).length)), some (some (RNX8_4 (SNX6_7 S o) (SNX6_6 S o).length))]) := st_at' hf54 (Nat.ne_of_lt (List.getElem?_eq_some_iff.mp hf27).1)
  have hf62 : (SNX6_11 S o)[(SNX6_9 S o).length]? = some (0, 401, []) := st_at' hf55 (Nat.ne_of_lt (List.getElem?_eq_some_iff.mp hf45).1)
  have hw63 : ie_wf (SNX6_11 S o) (MNX6_4 S M o) := by have zz := wf_set (i := 5) (r := (SNX6_9 S o).length) hw56 hf51 ((List.getElem?_eq_some_iff.mp hf55).1); exact zz
  have hz64 : ie_zr (SNX6_11 S o) (MNX6_4 S M o) := zr_set hz57
  show V _ _ _ _ _ _ _ _ _ _ (SNX6_11 S o) (MNX6_4 S M o) _ _
  refine V_aload_n rfl dX6_init_51 rfl rfl ?_
  refine V_sipush (v := 401) rfl dX6_init_52 ks_401 ?_
  refine V_newa (n := 401) (fun a => [some (.ref (a o))]) (fun a => [.ref (a o)]) rfl dX6_init_55 w_245 (by decide +kernel) hw63 hz64 ⟨rfl, rfl⟩ (fun a' h => ⟨by first | rfl | simp only [h _ ((List.getElem?_eq_some_iff.mp hf58).1)], by first | rfl | simp only [h _ ((List.getElem?_eq_some_iff.mp hf58).1)]⟩) (fun a11111111 hg7 => ?_)
  have hf65 : (SNX6_12 S o)[o]? = some (8, 8, [none, none, some (some S.length), some (some (SNX6_3 S o).length), some (some (SNX6_6 S o).length), some (some (SNX6_9 S o).length), some none, none]) := ap_at hf58
  have hf66 : (SNX6_12 S o)[S.length]? = some (5, 7, [none, some (some (RNX3_1 (SNX6_1 S o) S.length)), some (some (RNX3_2 (SNX6_1 S o) S.length)), some (some (RNX3_3 (SNX6_1 S o) S.length)), some (some (RNX3_4 (SNX6_1 S o) S.length)), none, some (some (RNX3_6 (SNX6_1 S o) S.length))]) := ap_at hf59
  have hf67 : (SNX6_12 S o)[(SNX6_3 S o).length]? = some (9, 5, [none, some (some (RNX7_1 (SNX6_4 S o) (SNX6_3 S o).length)), some (some (RNX7_2 (SNX6_4 S o) (SNX6_3 S o).length)), some (some (RNX7_3 (SNX6_4 S o) (SNX6_3 S o).length)), some (some (RNX7_4 (SNX6_4 S o) (SNX6_3 S o).length))]) := ap_at hf60
  have hf68 : (SNX6_12 S o)[(SNX6_6 S o).length]? = some (10, 5, [none, some (some (RNX8_1 (SNX6_7 S o) (SNX6_6 S o).length)), some (some (RNX8_2 (SNX6_7 S o) (SNX6_6 S o).length)), some (some (RNX8_3 (SNX6_7 S o) (SNX6_6 S o).length)), some (some (RNX8_4 (SNX6_7 S o) (SNX6_6 S o).length))]) := ap_at hf61
  have hf69 : (SNX6_12 S o)[(SNX6_11 S o).length]? = some (0, 401, []) := nw_at
  have hw70 : ie_wf (SNX6_12 S o) (MNX6_4 S M o) := wf_app hw63 (by simp) hz64
  have hz71 : ie_zr (SNX6_12 S o) (MNX6_4 S M o) := zr_app hz64
  show V _ _ _ _ _ _ _ _ _ _ (SNX6_12 S o) (MNX6_4 S M o) _ _
  refine V_putr (k0 := 6) (ty := (.array .int)) (r := (SNX6_11 S o).length) rfl dX6_init_57 hf65 icX6 tyX6_ok nmX6 (by decide) (Nat.le_of_ble_eq_true rfl) w_434 rfl rfl rfl (tyX6_ok _ (by decide)) rfl rfl ?_
  have hf72 : (SNX6_13 S o)[o]? = some (8, 8, [none, none, some (some S.length), some (some (SNX6_3 S o).length), some (some (SNX6_6 S o).length), some (some (SNX6_9 S o).length), some (some (SNX6_11 S o).length), none]) := st_at hf65
  have hf73 : (SNX6_13 S o)[S.length]? = some (5, 7, [none, some (some (RNX3_1 (SNX6_1 S o) S.length)), some (some (RNX3_2 (SNX6_1 S o) S.length)), some (some (RNX3_3 (SNX6_1 S o) S.length)), some (some (RNX3_4 (SNX6_1 S o) S.length)), none, some (some (RNX3_6 (SNX6_1 S o) S.length))]) := st_at' hf66 (Nat.ne_of_lt (List.getElem?_eq_some_iff.mp ho).1)
  have hf74 : (SNX6_13 S o)[(SNX6_3 S o).length]? = some (9, 5, [none, some (some (RNX7_1 (SNX6_4 S o) (SNX6_3 S o).length)), some (some (RNX7_2 (SNX6_4 S o) (SNX6_3 S o).length)), some (some (RNX7_3 (SNX6_4 S o) (SNX6_3 S o).length)), some (some (RNX7_4 (SNX6_4 S o) (SNX6_3 S o).length))]) := st_at' hf67 (Nat.ne_of_lt (List.getElem?_eq_some_iff.mp hf12).1)
  have hf75 : (SNX6_13 S o)[(SNX6_6 S o).length]? = some (10, 5, [none, some (some (RNX8_1 (SNX6_7 S o) (SNX6_6 S o).length)), some (some (RNX8_2 (SNX6_7 S o) (SNX6_6 S o).length)), some (some (RNX8_3 (SNX6_7 S o) (SNX6_6 S o).length)), some (some (RNX8_4 (SNX6_7 S o) (SNX6_6 S o).length))]) := st_at' hf68 (Nat.ne_of_lt (List.getElem?_eq_some_iff.mp hf27).1)
  have hf76 : (SNX6_13 S o)[(SNX6_11 S o).length]? = some (0, 401, []) := st_at' hf69 (Nat.ne_of_lt (List.getElem?_eq_some_iff.mp hf58).1)
  have hw77 : ie_wf (SNX6_13 S o) (MNX6_4 S M o) := by have zz := wf_set (i := 6) (r := (SNX6_11 S o).length) hw70 hf65 ((List.getElem?_eq_some_iff.mp hf69).1); exact zz
  have hz78 : ie_zr (SNX6_13 S o) (MNX6_4 S M o) := zr_set hz71
  show V _ _ _ _ _ _ _ _ _ _ (SNX6_13 S o) (MNX6_4 S M o) _ _
  exact V_vret dX6_init_60 rfl (by decide) (by decide) ⟨rfl, rfl, rfl, fun p hp => ((hg7 p (lt_len hp len11)).trans ((hg6 p (lt_len hp len9)).trans ((hg5 p (lt_len hp len7)).trans ((hg4 p (lt_len hp len6)).trans ((hg3 p (lt_len hp len4)).trans ((hg2 p (lt_len hp len3)).trans ((hg1 p (lt_len hp len1)).trans (hg0 p hp))))))))⟩
def SNX0_1 (S : List IK) (o : Nat) : List IK := S ++ [(0, 9, [])]
def SNX0_2 (S : List IK) (o : Nat) : List IK := (SNX0_1 S o).set o (2, 2, [some (some S.length), some none])
def SNX0_3 (S : List IK) (o : Nat) : List IK := (SNX0_2 S o) ++ [(0, 32, [])]
def SNX0_4 (S : List IK) (o : Nat) : List IK := (SNX0_3 S o).set o (2, 2, [some (some S.length), some (some (SNX0_2 S o).length)])
def SNX0 (S : List IK) (o : Nat) : List IK := (SNX0_4 S o)
def MNX0 (S : List IK) (M : IM) (o : Nat) : IM := M
def RNX0_0 (S : List IK) (o : Nat) : Nat := S.length
def RNX0_1 (S : List IK) (o : Nat) : Nat := (SNX0_2 S o).length
def CBX0 (S : List IK) (M : IM) (o : Nat) : Prop := (SNX0 S o)[o]? = some (2, 2, [some (some (RNX0_0 S o)), some (some (RNX0_1 S o))]) ∧ ie_wf (SNX0 S o) (MNX0 S M o) ∧ ie_zr (SNX0 S o) (MNX0 S M o) ∧ (SNX0 S o).length = S.length + 2 ∧ ∀ (p : Nat) (x : IK), ¬ p = o → S[p]? = some x → (SNX0 S o)[p]? = some x
set_option maxRecDepth 100000 in
set_option maxHeartbeats 4000000 in
theorem cb_X0 {S : List IK} {M : IM} {o : Nat} (ho : S[o]? = some (2, 2, [some none, some none])) (hwf : ie_wf S M) (hz : ie_zr S M) : CBX0 S M o := by
  have len1 : (SNX0_1 S o).length = S.length + 1 := l_app rfl
  have len2 : (SNX0_2 S o).length = S.length + 1 := l_set len1
  have len3 : (SNX0_3 S o).length = S.length + 2 := l_app len2
  have len4 : (SNX0_4 S o).length = S.length + 2 := l_set len3
  have hf1 : (SNX0_1 S o)[o]? = some (2, 2, [some none, some none]) := ap_at ho
  have hf2 : (SNX0_1 S o)[S.length]? = some (0, 9, []) := nw_at
  have hw3 : ie_wf (SNX0_1 S o) M := wf_app hwf (by simp) hz
  have hz4 : ie_zr (SNX0_1 S o) M := zr_app hz
  have hf5 : (SNX0_2 S o)[o]? = some (2, 2, [some (some S.length), some none]) := st_at hf1
  have hf6 : (SNX0_2 S o)[S.length]? = some (0, 9, []) := st_at' hf2 (Nat.ne_of_lt (List.getElem?_eq_some_iff.mp ho).1)
  have hw7 : ie_wf (SNX0_2 S o) M := by have zz := wf_set (i := 0) (r := S.length) hw3 hf1 ((List.getElem?_eq_some_iff.mp hf2).1); exact zz
  have hz8 : ie_zr (SNX0_2 S o) M := zr_set hz4
  have hf9 : (SNX0_3 S o)[o]? = some (2, 2, [some (some S.length), some none]) := ap_at hf5
  have hf10 : (SNX0_3 S o)[(SNX0_2 S o).length]? = some (0, 32, []) := nw_at
  have hw11 : ie_wf (SNX0_3 S o) M := wf_app hw7 (by simp) hz8
  have hz12 : ie_zr (SNX0_3 S o) M := zr_app hz8
  have hf13 : (SNX0_4 S o)[o]? = some (2, 2, [some (some S.length), some (some (SNX0_2 S o).length)]) := st_at hf9
  have hf14 : (SNX0_4 S o)[(SNX0_2 S o).length]? = some (0, 32, []) := st_at' hf10 (Nat.ne_of_lt (List.getElem?_eq_some_iff.mp hf5).1)
  have hw15 : ie_wf (SNX0_4 S o) M := by have zz := wf_set (i := 1) (r := (SNX0_2 S o).length) hw11 hf9 ((List.getElem?_eq_some_iff.mp hf10).1); exact zz
  have hz16 : ie_zr (SNX0_4 S o) M := zr_set hz12
  exact ⟨hf13, hw15, hz16, len4, fun p x hp h => (st_at' (ap_at (st_at' (ap_at h) (fun e => hp e.symm))) (fun e => hp e.symm))⟩
set_option maxRecDepth 100000 in
set_option maxHeartbeats 8000000 in
theorem tc_X0 {g : IG} {a : Nat → Nat} {S : List IK} {M : IM} {o : Nat} (ho : S[o]? = some (2, 2, [some none, some none])) (hwf : ie_wf S M) (hz : ie_zr S M) : Cn g mX0_init 1 2 41 (qC (SNX0 S o) (MNX0 S M o) S.length a) [.ref (a o)] a S M := by
  refine Cn_of (L := [some (.ref (a o))]) mf_X0_init (cat_r cat_0) (Nat.le_of_ble_eq_true rfl) rfl ?_
  have len1 : (SNX0_1 S o).length = S.length + 1 := l_app rfl
  have len2 : (SNX0_2 S o).length = S.length + 1 := l_set len1
  have len3 : (SNX0_3 S o).length = S.length + 2 := l_app len2
  have len4 : (SNX0_4 S o).length = S.length + 2 := l_set len3
  refine V_aload_n rfl dX0_init_0 rfl rfl ?_
  refine V_obj rfl dX0_init_1 ⟨w_458, w_166, w_167⟩ rfl ?_
  refine V_aload_n rfl dX0_init_4 rfl rfl ?_
  refine V_bipush (v := 9) rfl dX0_init_5 kb_9 ?_
  refine V_newa (n := 9) (fun a => [some (.ref (a o))]) (fun a => [.ref (a o)]) rfl dX0_init_7 w_245 (by decide +kernel) hwf hz ⟨rfl, rfl⟩ (fun a' h => ⟨by first | rfl | simp only [h _ ((List.getElem?_eq_some_iff.mp ho).1)], by first | rfl | simp only [h _ ((List.getElem?_eq_some_iff.mp ho).1)]⟩) (fun a1 hg0 => ?_)
  have hf1 : (SNX0_1 S o)[o]? = some (2, 2, [some none, some none]) := ap_at ho
  have hf2 : (SNX0_1 S o)[S.length]? = some (0, 9, []) := nw_at
  have hw3 : ie_wf (SNX0_1 S o) M := wf_app hwf (by simp) hz
  have hz4 : ie_zr (SNX0_1 S o) M := zr_app hz
  show V _ _ _ _ _ _ _ _ _ _ (SNX0_1 S o) M _ _
  refine V_putr (k0 := 0) (ty := (.array .int)) (r := S.length) rfl dX0_init_9 hf1 icX0 tyX0_ok nmX0 (by decide) (Nat.le_of_ble_eq_true rfl) w_459 rfl rfl rfl (tyX0_ok _ (by decide)) rfl rfl ?_
  have hf5 : (SNX0_2 S o)[o]? = some (2, 2, [some (some S.length), some none]) := st_at hf1
  have hf6 : (SNX0_2 S o)[S.length]? = some (0, 9, []) := st_at' hf2 (Nat.ne_of_lt (List.getElem?_eq_some_iff.mp ho).1)
  have hw7 : ie_wf (SNX0_2 S o) M := by have zz := wf_set (i := 0) (r := S.length) hw3 hf1 ((List.getElem?_eq_some_iff.mp hf2).1); exact zz
  have hz8 : ie_zr (SNX0_2 S o) M := zr_set hz4
  show V _ _ _ _ _ _ _ _ _ _ (SNX0_2 S o) M _ _
  refine V_aload_n rfl dX0_init_12 rfl rfl ?_
  refine V_bipush (v := 32) rfl dX0_init_13 kb_32 ?_
  refine V_newa (n := 32) (fun a => [some (.ref (a o))]) (fun a => [.ref (a o)]) rfl dX0_init_15 w_245 (by decide +kernel) hw7 hz8 ⟨rfl, rfl⟩ (fun a' h => ⟨by first | rfl | simp only [h _ ((List.getElem?_eq_some_iff.mp hf5).1)], by first | rfl | simp only [h _ ((List.getElem?_eq_some_iff.mp hf5).1)]⟩) (fun a11 hg1 => ?_)
  have hf9 : (SNX0_3 S o)[o]? = some (2, 2, [some (some S.length), some none]) := ap_at hf5
  have hf10 : (SNX0_3 S o)[(SNX0_2 S o).length]? = some (0, 32, []) := nw_at
  have hw11 : ie_wf (SNX0_3 S o) M := wf_app hw7 (by simp) hz8
  have hz12 : ie_zr (SNX0_3 S o) M := zr_app hz8
  show V _ _ _ _ _ _ _ _ _ _ (SNX0_3 S o) M _ _
  refine V_putr (k0 := 1) (ty := (.array .int)) (r := (SNX0_2 S o).length) rfl dX0_init_17 hf9 icX0 tyX0_ok nmX0 (by decide) (Nat.le_of_ble_eq_true rfl) w_460 rfl rfl rfl (tyX0_ok _ (by decide)) rfl rfl ?_
  have hf13 : (SNX0_4 S o)[o]? = some (2, 2, [some (some S.length), some (some (SNX0_2 S o).length)]) := st_at hf9
  have hf14 : (SNX0_4 S o)[(SNX0_2 S o).length]? = some (0, 32, []) := st_at' hf10 (Nat.ne_of_lt (List.getElem?_eq_some_iff.mp hf5).1)
  have hw15 : ie_wf (SNX0_4 S o) M := by have zz := wf_set (i := 1) (r := (SNX0_2 S o).length) hw11 hf9 ((List.getElem?_eq_some_iff.mp hf10).1); exact zz
  have hz16 : ie_zr (SNX0_4 S o) M := zr_set hz12
  show V _ _ _ _ _ _ _ _ _ _ (SNX0_4 S o) M _ _
  exact V_vret dX0_init_20 rfl (by decide) (by decide) ⟨rfl, rfl, rfl, fun p hp => ((hg1 p (lt_len hp len2)).trans (hg0 p hp))⟩
def SNX10_1 (S : List IK) (o : Nat) : List IK := S ++ [(0, 10, [])]
def SNX10_2 (S : List IK) (o : Nat) : List IK := (SNX10_1 S o).set o (12, 6, [none, some (some S.length), none, some none, some none, some none])
def SNX10_3 (S : List IK) (o : Nat) : List IK := (SNX10_2 S o) ++ [(0, 40, [])]
def SNX10_4 (S : List IK) (o : Nat) : List IK := (SNX10_3 S o).set o (12, 6, [none, some (some S.length), none, some (some (SNX10_2 S o).length), some none, some none])
def SNX10_5 (S : List IK) (o : Nat) : List IK := (SNX10_4 S o) ++ [(0, 40, [])]
def SNX10_6 (S : List IK) (o : Nat) : List IK := (SNX10_5 S o).set o (12, 6, [none, some (some S.length), none, some (some (SNX10_2 S o).length), some (some (SNX10_4 S o).length), some none])
def SNX10_7 (S : List IK) (o : Nat) : List IK := (SNX10_6 S o) ++ [(0, 4, [])]
def SNX10_8 (S : List IK) (o : Nat) : List IK := (SNX10_7 S o).set o (12, 6, [none, some (some S.length), none, some (some (SNX10_2 S o).length), some (some (SNX10_4 S o).length), some (some (SNX10_6 S o).length)])
def SNX10 (S : List IK) (o : Nat) : List IK := (SNX10_8 S o)
def MNX10 (S : List IK) (M : IM) (o : Nat) : IM := M
def RNX10_1 (S : List IK) (o : Nat) : Nat := S.length
def RNX10_3 (S : List IK) (o : Nat) : Nat := (SNX10_2 S o).length
def RNX10_4 (S : List IK) (o : Nat) : Nat := (SNX10_4 S o).length
def RNX10_5 (S : List IK) (o : Nat) : Nat := (SNX10_6 S o).length
def CBX10 (S : List IK) (M : IM) (o : Nat) : Prop := (SNX10 S o)[o]? = some (12, 6, [none, some (some (RNX10_1 S o)), none, some (some (RNX10_3 S o)), some (some (RNX10_4 S o)), some (some (RNX10_5 S o))]) ∧ ie_wf (SNX10 S o) (MNX10 S M o) ∧ ie_zr (SNX10 S o) (MNX10 S M o) ∧ (SNX10 S o).length = S.length + 4 ∧ ∀ (p : Nat) (x : IK), ¬ p = o → S[p]? = some x → (SNX10 S o)[p]? = some x
set_option maxRecDepth 100000 in
set_option maxHeartbeats 4000000 in
theorem cb_X10 {S : List IK} {M : IM} {o : Nat} (ho : S[o]? = some (12, 6, [none, some none, none, some none, some none, some none])) (hwf : ie_wf S M) (hz : ie_zr S M) : CBX10 S M o := by
  have len1 : (SNX10_1 S o).length = S.length + 1 := l_app rfl
  have len2 : (SNX10_2 S o).length = S.length + 1 := l_set len1
  have len3 : (SNX10_3 S o).length = S.length + 2 := l_app len2
  have len4 : (SNX10_4 S o).length = S.length + 2 := l_set len3
  have len5 : (SNX10_5 S o).length = S.length + 3 := l_app len4
  have len6 : (SNX10_6 S o).length = S.length + 3 := l_set len5
  have len7 : (SNX10_7 S o).length = S.length + 4 := l_app len6
  have len8 : (SNX10_8 S o).length = S.length + 4 := l_set len7
  have hf1 : (SNX10_1 S o)[o]? = some (12, 6, [none, some none, none, some none, some none, some none]) := ap_at ho
  have hf2 : (SNX10_1 S o)[S.length]? = some (0, 10, []) := nw_at
  have hw3 : ie_wf (SNX10_1 S o) M := wf_app hwf (by simp) hz
  have hz4 : ie_zr (SNX10_1 S o) M := zr_app hz
  have hf5 : (SNX10_2 S o)[o]? = some (12, 6, [none, some (some S.length), none, some none, some none, some none]) := st_at hf1
  have hf6 : (SNX10_2 S o)[S.length]? = some (0, 10, []) := st_at' hf2 (Nat.ne_of_lt (List.getElem?_eq_some_iff.mp ho).1)
  have hw7 : ie_wf (SNX10_2 S o) M := by have zz := wf_set (i := 1) (r := S.length) hw3 hf1 ((List.getElem?_eq_some_iff.mp hf2).1); exact zz
  have hz8 : ie_zr (SNX10_2 S o) M := zr_set hz4
  have hf9 : (SNX10_3 S o)[o]? = some (12, 6, [none, some (some S.length), none, some none, some none, some none]) := ap_at hf5
  have hf10 : (SNX10_3 S o)[(SNX10_2 S o).length]? = some (0, 40, []) := nw_at
  have hw11 : ie_wf (SNX10_3 S o) M := wf_app hw7 (by simp) hz8
  have hz12 : ie_zr (SNX10_3 S o) M := zr_app hz8
  have hf13 : (SNX10_4 S o)[o]? = some (12, 6, [none, some (some S.length), none, some (some (SNX10_2 S o).length), some none, some none]) := st_at hf9
  have hf14 : (SNX10_4 S o)[(SNX10_2 S o).length]? = some (0, 40, []) := st_at' hf10 (Nat.ne_of_lt (List.getElem?_eq_some_iff.mp hf5).1)
  have hw15 : ie_wf (SNX10_4 S o) M := by have zz := wf_set (i := 3) (r := (SNX10_2 S o).length) hw11 hf9 ((List.getElem?_eq_some_iff.mp hf10).1); exact zz
  have hz16 : ie_zr (SNX10_4 S o) M := zr_set hz12
  have hf17 : (SNX10_5 S o)[o]? = some (12, 6, [none, some (some S.length), none, some (some (SNX10_2 S o).length), some none, some none]) := ap_at hf13
  have hf18 : (SNX10_5 S o)[(SNX10_4 S o).length]? = some (0, 40, []) := nw_at
  have hw19 : ie_wf (SNX10_5 S o) M := wf_app hw15 (by simp) hz16
  have hz20 : ie_zr (SNX10_5 S o) M := zr_app hz16
  have hf21 : (SNX10_6 S o)[o]? = some (12, 6, [none, some (some S.length), none, some (some (SNX10_2 S o).length), some (some (SNX10_4 S o).length), some none]) := st_at hf17
  have hf22 : (SNX10_6 S o)[(SNX10_4 S o).length]? = some (0, 40, []) := st_at' hf18 (Nat.ne_of_lt (List.getElem?_eq_some_iff.mp hf13).1)
  have hw23 : ie_wf (SNX10_6 S o) M := by have zz := wf_set (i := 4) (r := (SNX10_4 S o).length) hw19 hf17 ((List.getElem?_eq_some_iff.mp hf18).1); exact zz
  have hz24 : ie_zr (SNX10_6 S o) M := zr_set hz20
  have hf25 : (SNX10_7 S o)[o]? = some (12, 6, [none, some (some S.length), none, some (some (SNX10_2 S o).length), some (some (SNX10_4 S o).length), some none]) := ap_at hf21
  have hf26 : (SNX10_7 S o)[(SNX10_6 S o).length]? = some (0, 4, []) := nw_at
  have hw27 : ie_wf (SNX10_7 S o) M := wf_app hw23 (by simp) hz24
  have hz28 : ie_zr (SNX10_7 S o) M := zr_app hz24
  have hf29 : (SNX10_8 S o)[o]? = some (12, 6, [none, some (some S.length), none, some (some (SNX10_2 S o).length), some (some (SNX10_4 S o).length), some (some (SNX10_6 S o).length)]) := st_at hf25
  have hf30 : (SNX10_8 S o)[(SNX10_6 S o).length]? = some (0, 4, []) := st_at' hf26 (Nat.ne_of_lt (List.getElem?_eq_some_iff.mp hf21).1)
  have hw31 : ie_wf (SNX10_8 S o) M := by have zz := wf_set (i := 5) (r := (SNX10_6 S o).length) hw27 hf25 ((List.getElem?_eq_some_iff.mp hf26).1); exact zz
  have hz32 : ie_zr (SNX10_8 S o) M := zr_set hz28
  exact ⟨hf29, hw31, hz32, len8, fun p x hp h => (st_at' (ap_at (st_at' (ap_at (st_at' (ap_at (st_at' (ap_at h) (fun e => hp e.symm))) (fun e => hp e.symm))) (fun e => hp e.symm))) (fun e => hp e.symm))⟩
set_option maxRecDepth 100000 in
set_option maxHeartbeats 8000000 in
theorem tc_X10 {g : IG} {a : Nat → Nat} {S : List IK} {M : IM} {o : Nat} (ho : S[o]? = some (12, 6, [none, some none, none, some none, some none, some none])) (hwf : ie_wf S M) (hz : ie_zr S M) : Cn g mX10_init 1 4 94 (qC (SNX10 S o) (MNX10 S M o) S.length a) [.ref (a o)] a S M := by
  refine Cn_of (L := [some (.ref (a o))]) mf_X10_init (cat_r cat_0) (Nat.le_of_ble_eq_true rfl) rfl ?_
  have len1 : (SNX10_1 S o).length = S.length + 1 := l_app rfl
  have len2 : (SNX10_2 S o).length = S.length + 1 := l_set len1
  have len3 : (SNX10_3 S o).length = S.length + 2 := l_app len2
  have len4 : (SNX10_4 S o).length = S.length + 2 := l_set len3
  have len5 : (SNX10_5 S o).length = S.length + 3 := l_app len4
  have len6 : (SNX10_6 S o).length = S.length + 3 := l_set len5
  have len7 : (SNX10_7 S o).length = S.length + 4 := l_app len6
  have len8 : (SNX10_8 S o).length = S.length + 4 := l_set len7
  refine V_aload_n rfl dX10_init_0 rfl rfl ?_
  refine V_obj rfl dX10_init_1 ⟨w_471, w_166, w_167⟩ rfl ?_
  refine V_aload_n rfl dX10_init_4 rfl rfl ?_
  refine V_bipush (v := 10) rfl dX10_init_5 kb_10 ?_
  refine V_newa (n := 10) (fun a => [some (.ref (a o))]) (fun a => [.ref (a o)]) rfl dX10_init_7 w_245 (by decide +kernel) hwf hz ⟨rfl, rfl⟩ (fun a' h => ⟨by first | rfl | simp only [h _ ((List.getElem?_eq_some_iff.mp ho).1)], by first | rfl | simp only [h _ ((List.getElem?_eq_some_iff.mp ho).1)]⟩) (fun a1 hg0 => ?_)
  have hf1 : (SNX10_1 S o)[o]? = some (12, 6, [none, some none, none, some none, some none, some none]) := ap_at ho
  have hf2 : (SNX10_1 S o)[S.length]? = some (0, 10, []) := nw_at
  have hw3 : ie_wf (SNX10_1 S o) M := wf_app hwf (by simp) hz
  have hz4 : ie_zr (SNX10_1 S o) M := zr_app hz
  show V _ _ _ _ _ _ _ _ _ _ (SNX10_1 S o) M _ _
  refine V_putr (k0 := 1) (ty := (.array .int)) (r := S.length) rfl dX10_init_9 hf1 icX10 tyX10_ok nmX10 (by decide) (Nat.le_of_ble_eq_true rfl) w_474 rfl rfl rfl (tyX10_ok _ (by decide)) rfl rfl ?_
  have hf5 : (SNX10_2 S o)[o]? = some (12, 6, [none, some (some S.length), none, some none, some none, some none]) := st_at hf1
  have hf6 : (SNX10_2 S o)[S.length]? = some (0, 10, []) := st_at' hf2 (Nat.ne_of_lt (List.getElem?_eq_some_iff.mp ho).1)
  have hw7 : ie_wf (SNX10_2 S o) M := by have zz := wf_set (i := 1) (r := S.length) hw3 hf1 ((List.getElem?_eq_some_iff.mp hf2).1); exact zz
  have hz8 : ie_zr (SNX10_2 S o) M := zr_set hz4
  show V _ _ _ _ _ _ _ _ _ _ (SNX10_2 S o) M _ _
  refine V_aload_n rfl dX10_init_12 rfl rfl ?_
  refine V_bipush (v := 40) rfl dX10_init_13 kb_40 ?_
  refine V_newa (n := 40) (fun a => [some (.ref (a o))]) (fun a => [.ref (a o)]) rfl dX10_init_15 w_245 (by decide +kernel) hw7 hz8 ⟨rfl, rfl⟩ (fun a' h => ⟨by first | rfl | simp only [h _ ((List.getElem?_eq_some_iff.mp hf5).1)], by first | rfl | simp only [h _ ((List.getElem?_eq_some_iff.mp hf5).1)]⟩) (fun a11 hg1 => ?_)
  have hf9 : (SNX10_3 S o)[o]? = some (12, 6, [none, some (some S.length), none, some none, some none, some none]) := ap_at hf5
  have hf10 : (SNX10_3 S o)[(SNX10_2 S o).length]? = some (0, 40, []) := nw_at
  have hw11 : ie_wf (SNX10_3 S o) M := wf_app hw7 (by simp) hz8
  have hz12 : ie_zr (SNX10_3 S o) M := zr_app hz8
  show V _ _ _ _ _ _ _ _ _ _ (SNX10_3 S o) M _ _
  refine V_putr (k0 := 3) (ty := (.array .int)) (r := (SNX10_2 S o).length) rfl dX10_init_17 hf9 icX10 tyX10_ok nmX10 (by decide) (Nat.le_of_ble_eq_true rfl) w_477 rfl rfl rfl (tyX10_ok _ (by decide)) rfl rfl ?_
  have hf13 : (SNX10_4 S o)[o]? = some (12, 6, [none, some (some S.length), none, some (some (SNX10_2 S o).length), some none, some none]) := st_at hf9
  have hf14 : (SNX10_4 S o)[(SNX10_2 S o).length]? = some (0, 40, []) := st_at' hf10 (Nat.ne_of_lt (List.getElem?_eq_some_iff.mp hf5).1)
  have hw15 : ie_wf (SNX10_4 S o) M := by have zz := wf_set (i := 3) (r := (SNX10_2 S o).length) hw11 hf9 ((List.getElem?_eq_some_iff.mp hf10).1); exact zz
  have hz16 : ie_zr (SNX10_4 S o) M := zr_set hz12
  show V _ _ _ _ _ _ _ _ _ _ (SNX10_4 S o) M _ _
  refine V_aload_n rfl dX10_init_20 rfl rfl ?_
  refine V_bipush (v := 40) rfl dX10_init_21 kb_40 ?_
  refine V_newa (n := 40) (fun a => [some (.ref (a o))]) (fun a => [.ref (a o)]) rfl dX10_init_23 w_245 (by decide +kernel) hw15 hz16 ⟨rfl, rfl⟩ (fun a' h => ⟨by first | rfl | simp only [h _ ((List.getElem?_eq_some_iff.mp hf13).1)], by first | rfl | simp only [h _ ((List.getElem?_eq_some_iff.mp hf13).1)]⟩) (fun a111 hg2 => ?_)
  have hf17 : (SNX10_5 S o)[o]? = some (12, 6, [none, some (some S.length), none, some (some (SNX10_2 S o).length), some none, some none]) := ap_at hf13
  have hf18 : (SNX10_5 S o)[(SNX10_4 S o).length]? = some (0, 40, []) := nw_at
  have hw19 : ie_wf (SNX10_5 S o) M := wf_app hw15 (by simp) hz16
  have hz20 : ie_zr (SNX10_5 S o) M := zr_app hz16
  show V _ _ _ _ _ _ _ _ _ _ (SNX10_5 S o) M _ _
  refine V_putr (k0 := 4) (ty := (.array .int)) (r := (SNX10_4 S o).length) rfl dX10_init_25 hf17 icX10 tyX10_ok nmX10 (by decide) (Nat.le_of_ble_eq_true rfl) w_478 rfl rfl rfl (tyX10_ok _ (by decide)) rfl rfl ?_
  have hf21 : (SNX10_6 S o)[o]? = some (12, 6, [none, some (some S.length), none, some (some (SNX10_2 S o).length), some (some (SNX10_4 S o).length), some none]) := st_at hf17
  have hf22 : (SNX10_6 S o)[(SNX10_4 S o).length]? = some (0, 40, []) := st_at' hf18 (Nat.ne_of_lt (List.getElem?_eq_some_iff.mp hf13).1)
  have hw23 : ie_wf (SNX10_6 S o) M := by have zz := wf_set (i := 4) (r := (SNX10_4 S o).length) hw19 hf17 ((List.getElem?_eq_some_iff.mp hf18).1); exact zz
  have hz24 : ie_zr (SNX10_6 S o) M := zr_set hz20
  show V _ _ _ _ _ _ _ _ _ _ (SNX10_6 S o) M _ _
  refine V_aload_n rfl dX10_init_28 rfl rfl ?_
  refine V_iconst (v := 4) rfl dX10_init_29 kc_4 ?_
  refine V_newa (n := 4) (fun a => [some (.ref (a o))]) (fun a => [.ref (a o)]) rfl dX10_init_30 w_245 (by decide +kernel) hw23 hz24 ⟨rfl, rfl⟩ (fun a' h => ⟨by first | rfl | simp only [h _ ((List.getElem?_eq_some_iff.mp hf21).1)], by first | rfl | simp only [h _ ((List.getElem?_eq_some_iff.mp hf21).1)]⟩) (fun a1111 hg3 => ?_)
  have hf25 : (SNX10_7 S o)[o]? = some (12, 6, [none, some (some S.length), none, some (some (SNX10_2 S o).length), some (some (SNX10_4 S o).length), some none]) := ap_at hf21
  have hf26 : (SNX10_7 S o)[(SNX10_6 S o).length]? = some (0, 4, []) := nw_at
  have hw27 : ie_wf (SNX10_7 S o) M := wf_app hw23 (by simp) hz24
  have hz28 : ie_zr (SNX10_7 S o) M := zr_app hz24
  show V _ _ _ _ _ _ _ _ _ _ (SNX10_7 S o) M _ _
  refine V_putr (k0 := 5) (ty := (.array .int)) (r := (SNX10_6 S o).length) rfl dX10_init_32 hf25 icX10 tyX10_ok nmX10 (by decide) (Nat.le_of_ble_eq_true rfl) w_479 rfl rfl rfl (tyX10_ok _ (by decide)) rfl rfl ?_
  have hf29 : (SNX10_8 S o)[o]? = some (12, 6, [none, some (some S.length), none, some (some (SNX10_2 S o).length), some (some (SNX10_4 S o).length), some (some (SNX10_6 S o).length)]) := st_at hf25
  have hf30 : (SNX10_8 S o)[(SNX10_6 S o).length]? = some (0, 4, []) := st_at' hf26 (Nat.ne_of_lt (List.getElem?_eq_some_iff.mp hf21).1)
  have hw31 : ie_wf (SNX10_8 S o) M := by have zz := wf_set (i := 5) (r := (SNX10_6 S o).length) hw27 hf25 ((List.getElem?_eq_some_iff.mp hf26).1); exact zz
  have hz32 : ie_zr (SNX10_8 S o) M := zr_set hz28
  show V _ _ _ _ _ _ _ _ _ _ (SNX10_8 S o) M _ _
  exact V_vret dX10_init_35 rfl (by decide) (by decide) ⟨rfl, rfl, rfl, fun p hp => ((hg3 p (lt_len hp len6)).trans ((hg2 p (lt_len hp len4)).trans ((hg1 p (lt_len hp len2)).trans (hg0 p hp))))⟩
def SNX2_1 (S : List IK) (o : Nat) (r1 : Nat) (r2 : Nat) : List IK := S.set o (4, 7, [none, none, some (some r1), some none, none, none, none])
def SNX2_2 (S : List IK) (o : Nat) (r1 : Nat) (r2 : Nat) : List IK := (SNX2_1 S o r1 r2).set o (4, 7, [none, none, some (some r1), some (some r2), none, none, none])
def SNX2 (S : List IK) (o : Nat) (r1 : Nat) (r2 : Nat) : List IK := (SNX2_2 S o r1 r2)
def MNX2 (S : List IK) (M : IM) (o : Nat) (r1 : Nat) (r2 : Nat) : IM := M
def RNX2_2 (S : List IK) (o : Nat) (r1 : Nat) (r2 : Nat) : Nat := r1
def RNX2_3 (S : List IK) (o : Nat) (r1 : Nat) (r2 : Nat) : Nat := r2
def CBX2 (S : List IK) (M : IM) (o : Nat) (r1 : Nat) (r2 : Nat) : Prop := (SNX2 S o r1 r2)[o]? = some (4, 7, [none, none, some (some (RNX2_2 S o r1 r2)), some (some (RNX2_3 S o r1 r2)), none, none, none]) ∧ ie_wf (SNX2 S o r1 r2) (MNX2 S M o r1 r2) ∧ ie_zr (SNX2 S o r1 r2) (MNX2 S M o r1 r2) ∧ (SNX2 S o r1 r2).length = S.length + 0 ∧ ∀ (p : Nat) (x : IK), ¬ p = o → S[p]? = some x → (SNX2 S o r1 r2)[p]? = some x
set_option maxRecDepth 100000 in
set_option maxHeartbeats 4000000 in
theorem cb_X2 {S : List IK} {M : IM} {o r1 r2 : Nat} (ho : S[o]? = some (4, 7, [none, none, some none, some none, none, none, none])) (hwf : ie_wf S M) (hz : ie_zr S M) (hr1 : r1 < S.length) (hr2 : r2 < S.length) : CBX2 S M o r1 r2 := by
  have len1 : (SNX2_1 S o r1 r2).length = S.length + 0 := l_set rfl
  have len2 : (SNX2_2 S o r1 r2).length = S.length + 0 := l_set len1
  have hf1 : (SNX2_1 S o r1 r2)[o]? = some (4, 7, [none, none, some (some r1), some none, none, none, none]) := st_at ho
  have hl2 : r1 < (SNX2_1 S o r1 r2).length := by show r1 < (S.set _ _).length; rw [List.length_set]; exact hr1
  have hl3 : r2 < (SNX2_1 S o r1 r2).length := by show r2 < (S.set _ _).length; rw [List.length_set]; exact hr2
  have hw4 : ie_wf (SNX2_1 S o r1 r2) M := by have zz := wf_set (i := 2) (r := r1) hwf ho (hr1); exact zz
  have hz5 : ie_zr (SNX2_1 S o r1 r2) M := zr_set hz
  have hf6 : (SNX2_2 S o r1 r2)[o]? = some (4, 7, [none, none, some (some r1), some (some r2), none, none, none]) := st_at hf1
  have hl7 : r1 < (SNX2_2 S o r1 r2).length := by show r1 < ((SNX2_1 S o r1 r2).set _ _).length; rw [List.length_set]; exact hl2
  have hl8 : r2 < (SNX2_2 S o r1 r2).length := by show r2 < ((SNX2_1 S o r1 r2).set _ _).length; rw [List.length_set]; exact hl3
  have hw9 : ie_wf (SNX2_2 S o r1 r2) M := by have zz := wf_set (i := 3) (r := r2) hw4 hf1 (hl3); exact zz
  have hz10 : ie_zr (SNX2_2 S o r1 r2) M := zr_set hz5
  exact ⟨hf6, hw9, hz10, len2, fun p x hp h => (st_at' (st_at' h (fun e => hp e.symm)) (fun e => hp e.symm))⟩
set_option maxRecDepth 100000 in
set_option maxHeartbeats 8000000 in
theorem tc_X2 {g : IG} {a : Nat → Nat} {S : List IK} {M : IM} {o r1 r2 : Nat} (ho : S[o]? = some (4, 7, [none, none, some none, some none, none, none, none])) (hwf : ie_wf S M) (hz : ie_zr S M) (hr1 : r1 < S.length) (hr2 : r2 < S.length) : Cn g mX2_init 1 0 0 (qC (SNX2 S o r1 r2) (MNX2 S M o r1 r2) S.length a) [.ref (a o), .ref (a r1), .ref (a r2)] a S M := by
  refine Cn_of (L := [some (.ref (a o)), some (.ref (a r1)), some (.ref (a r2))]) mf_X2_init (cat_r (cat_r (cat_r cat_0))) (Nat.le_of_ble_eq_true rfl) rfl ?_
  have len1 : (SNX2_1 S o r1 r2).length = S.length + 0 := l_set rfl
  have len2 : (SNX2_2 S o r1 r2).length = S.length + 0 := l_set len1
  refine V_aload_n rfl dX2_init_0 rfl rfl ?_
  refine V_obj rfl dX2_init_1 ⟨w_498, w_166, w_167⟩ rfl ?_
  refine V_aload_n rfl dX2_init_4 rfl rfl ?_
  refine V_aload_n rfl dX2_init_5 rfl rfl ?_
  refine V_putr (k0 := 2) (ty := (.object "NeverHalted$Asked")) (r := r1) rfl dX2_init_6 ho icX2 tyX2_ok nmX2 (by decide) (Nat.le_of_ble_eq_true rfl) w_503 rfl rfl rfl (tyX2_ok _ (by decide)) rfl rfl ?_
  have hf1 : (SNX2_1 S o r1 r2)[o]? = some (4, 7, [none, none, some (some r1), some none, none, none, none]) := st_at ho
  have hl2 : r1 < (SNX2_1 S o r1 r2).length := by show r1 < (S.set _ _).length; rw [List.length_set]; exact hr1
  have hl3 : r2 < (SNX2_1 S o r1 r2).length := by show r2 < (S.set _ _).length; rw [List.length_set]; exact hr2
  have hw4 : ie_wf (SNX2_1 S o r1 r2) M := by have zz := wf_set (i := 2) (r := r1) hwf ho (hr1); exact zz
  have hz5 : ie_zr (SNX2_1 S o r1 r2) M := zr_set hz
  show V _ _ _ _ _ _ _ _ _ _ (SNX2_1 S o r1 r2) M _ _
  refine V_aload_n rfl dX2_init_9 rfl rfl ?_
  refine V_aload_n rfl dX2_init_10 rfl rfl ?_
  refine V_putr (k0 := 3) (ty := (.object "NeverHalted$Law")) (r := r2) rfl dX2_init_11 hf1 icX2 tyX2_ok nmX2 (by decide) (Nat.le_of_ble_eq_true rfl) w_504 rfl rfl rfl (tyX2_ok _ (by decide)) rfl rfl ?_
  have hf6 : (SNX2_2 S o r1 r2)[o]? = some (4, 7, [none, none, some (some r1), some (some r2), none, none, none]) := st_at hf1
  have hl7 : r1 < (SNX2_2 S o r1 r2).length := by show r1 < ((SNX2_1 S o r1 r2).set _ _).length; rw [List.length_set]; exact hl2
  have hl8 : r2 < (SNX2_2 S o r1 r2).length := by show r2 < ((SNX2_1 S o r1 r2).set _ _).length; rw [List.length_set]; exact hl3
  have hw9 : ie_wf (SNX2_2 S o r1 r2) M := by have zz := wf_set (i := 3) (r := r2) hw4 hf1 (hl3); exact zz
  have hz10 : ie_zr (SNX2_2 S o r1 r2) M := zr_set hz5
  show V _ _ _ _ _ _ _ _ _ _ (SNX2_2 S o r1 r2) M _ _
  exact V_vret dX2_init_14 rfl (by decide) (by decide) ⟨rfl, rfl, rfl, fun p hp => rfl⟩
