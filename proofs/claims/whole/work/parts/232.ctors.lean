def SNX9_1 (S : List IK) (o : Nat) : List IK := S ++ [(0, 64, [])]
def SNX9_2 (S : List IK) (o : Nat) : List IK := (SNX9_1 S o).set o (11, 8, [none, none, none, some (some S.length), some none, some none, some none, some none])
def SNX9_3 (S : List IK) (o : Nat) : List IK := (SNX9_2 S o) ++ [(5, 7, [none, some none, some none, some none, some none, none, some none])]
def SNX9_4 (S : List IK) (o : Nat) : List IK := (SNX3 (SNX9_3 S o) (SNX9_2 S o).length)
def SNX9_5 (S : List IK) (o : Nat) : List IK := (SNX9_4 S o).set o (11, 8, [none, none, none, some (some S.length), some (some (SNX9_2 S o).length), some none, some none, some none])
def SNX9_6 (S : List IK) (o : Nat) : List IK := (SNX9_5 S o) ++ [(5, 7, [none, some none, some none, some none, some none, none, some none])]
def SNX9_7 (S : List IK) (o : Nat) : List IK := (SNX3 (SNX9_6 S o) (SNX9_5 S o).length)
def SNX9_8 (S : List IK) (o : Nat) : List IK := (SNX9_7 S o).set o (11, 8, [none, none, none, some (some S.length), some (some (SNX9_2 S o).length), some (some (SNX9_5 S o).length), some none, some none])
def SNX9_9 (S : List IK) (o : Nat) : List IK := (SNX9_8 S o) ++ [(9, 5, [none, some none, some none, some none, some none])]
def SNX9_10 (S : List IK) (o : Nat) : List IK := (SNX7 (SNX9_9 S o) (SNX9_8 S o).length)
def SNX9_11 (S : List IK) (o : Nat) : List IK := (SNX9_10 S o).set o (11, 8, [none, none, none, some (some S.length), some (some (SNX9_2 S o).length), some (some (SNX9_5 S o).length), some (some (SNX9_8 S o).length), some none])
def SNX9_12 (S : List IK) (o : Nat) : List IK := (SNX9_11 S o) ++ [(10, 5, [none, some none, some none, some none, some none])]
def SNX9_13 (S : List IK) (o : Nat) : List IK := (SNX8 (SNX9_12 S o) (SNX9_11 S o).length)
def SNX9_14 (S : List IK) (o : Nat) : List IK := (SNX9_13 S o).set o (11, 8, [none, none, none, some (some S.length), some (some (SNX9_2 S o).length), some (some (SNX9_5 S o).length), some (some (SNX9_8 S o).length), some (some (SNX9_11 S o).length)])
def SNX9 (S : List IK) (o : Nat) : List IK := (SNX9_14 S o)
def MNX9_1 (S : List IK) (M : IM) (o : Nat) : IM := (MNX3 (SNX9_3 S o) M (SNX9_2 S o).length)
def MNX9_2 (S : List IK) (M : IM) (o : Nat) : IM := (MNX3 (SNX9_6 S o) (MNX9_1 S M o) (SNX9_5 S o).length)
def MNX9_3 (S : List IK) (M : IM) (o : Nat) : IM := (MNX7 (SNX9_9 S o) (MNX9_2 S M o) (SNX9_8 S o).length)
def MNX9_4 (S : List IK) (M : IM) (o : Nat) : IM := (MNX8 (SNX9_12 S o) (MNX9_3 S M o) (SNX9_11 S o).length)
def MNX9 (S : List IK) (M : IM) (o : Nat) : IM := (MNX9_4 S M o)
def RNX9_3 (S : List IK) (o : Nat) : Nat := S.length
def RNX9_4 (S : List IK) (o : Nat) : Nat := (SNX9_2 S o).length
def RNX9_5 (S : List IK) (o : Nat) : Nat := (SNX9_5 S o).length
def RNX9_6 (S : List IK) (o : Nat) : Nat := (SNX9_8 S o).length
def RNX9_7 (S : List IK) (o : Nat) : Nat := (SNX9_11 S o).length
def CBX9 (S : List IK) (M : IM) (o : Nat) : Prop := (SNX9 S o)[o]? = some (11, 8, [none, none, none, some (some (RNX9_3 S o)), some (some (RNX9_4 S o)), some (some (RNX9_5 S o)), some (some (RNX9_6 S o)), some (some (RNX9_7 S o))]) ∧ ie_wf (SNX9 S o) (MNX9 S M o) ∧ ie_zr (SNX9 S o) (MNX9 S M o) ∧ (SNX9 S o).length = S.length + 23 ∧ ∀ (p : Nat) (x : IK), ¬ p = o → S[p]? = some x → (SNX9 S o)[p]? = some x
set_option maxRecDepth 100000 in
set_option maxHeartbeats 4000000 in
theorem cb_X9 {S : List IK} {M : IM} {o : Nat} (ho : S[o]? = some (11, 8, [none, none, none, some none, some none, some none, some none, some none])) (hwf : ie_wf S M) (hz : ie_zr S M) : CBX9 S M o := by
  have len1 : (SNX9_1 S o).length = S.length + 1 := by show (S ++ [_]).length = _; rw [List.length_append, List.length_singleton]
  have len2 : (SNX9_2 S o).length = S.length + 1 := by show ((SNX9_1 S o).set _ _).length = _; rw [List.length_set, len1]
  have len3 : (SNX9_3 S o).length = S.length + 2 := by show ((SNX9_2 S o) ++ [_]).length = _; rw [List.length_append, List.length_singleton, len2]
  have hf1 : (SNX9_1 S o)[o]? = some (11, 8, [none, none, none, some none, some none, some none, some none, some none]) := ap_at ho
  have hf2 : (SNX9_1 S o)[S.length]? = some (0, 64, []) := nw_at
  have hw3 : ie_wf (SNX9_1 S o) M := wf_app hwf (by simp) hz
  have hz4 : ie_zr (SNX9_1 S o) M := zr_app hz
  have hf5 : (SNX9_2 S o)[o]? = some (11, 8, [none, none, none, some (some S.length), some none, some none, some none, some none]) := st_at hf1
  have hf6 : (SNX9_2 S o)[S.length]? = some (0, 64, []) := st_at' hf2 (Nat.ne_of_lt (List.getElem?_eq_some_iff.mp ho).1)
  have hw7 : ie_wf (SNX9_2 S o) M := by have zz := wf_set (i := 3) (r := S.length) hw3 hf1 ((List.getElem?_eq_some_iff.mp hf2).1); exact zz
  have hz8 : ie_zr (SNX9_2 S o) M := zr_set hz4
  have hf9 : (SNX9_3 S o)[o]? = some (11, 8, [none, none, none, some (some S.length), some none, some none, some none, some none]) := ap_at hf5
  have hf10 : (SNX9_3 S o)[S.length]? = some (0, 64, []) := ap_at hf6
  have hf11 : (SNX9_3 S o)[(SNX9_2 S o).length]? = some (5, 7, [none, some none, some none, some none, some none, none, some none]) := nw_at
  have hw12 : ie_wf (SNX9_3 S o) M := wf_app hw7 (by simp) hz8
  have hz13 : ie_zr (SNX9_3 S o) M := zr_app hz8
  have hb14 : CBX3 (SNX9_3 S o) M (SNX9_2 S o).length := cb_X3 hf11 hw12 hz13
  have len4 : (SNX9_4 S o).length = S.length + 7 := by have e := hb14.2.2.2.1; rw [show (SNX9_4 S o).length = _ from e, len3]
  have len5 : (SNX9_5 S o).length = S.length + 7 := by show ((SNX9_4 S o).set _ _).length = _; rw [List.length_set, len4]
  have len6 : (SNX9_6 S o).length = S.length + 8 := by show ((SNX9_5 S o) ++ [_]).length = _; rw [List.length_append, List.length_singleton, len5]
  have hf15 : (SNX9_4 S o)[o]? = some (11, 8, [none, none, none, some (some S.length), some none, some none, some none, some none]) := hb14.2.2.2.2 _ _ (Nat.ne_of_lt (List.getElem?_eq_some_iff.mp hf5).1) hf9
  have hf16 : (SNX9_4 S o)[S.length]? = some (0, 64, []) := hb14.2.2.2.2 _ _ (Nat.ne_of_lt (List.getElem?_eq_some_iff.mp hf6).1) hf10
  have hf17 : (SNX9_4 S o)[(SNX9_2 S o).length]? = some (5, 7, [none, some (some (RNX3_1 (SNX9_3 S o) (SNX9_2 S o).length)), some (some (RNX3_2 (SNX9_3 S o) (SNX9_2 S o).length)), some (some (RNX3_3 (SNX9_3 S o) (SNX9_2 S o).length)), some (some (RNX3_4 (SNX9_3 S o) (SNX9_2 S o).length)), none, some (some (RNX3_6 (SNX9_3 S o) (SNX9_2 S o).length))]) := hb14.1
  have hw18 : ie_wf (SNX9_4 S o) (MNX9_1 S M o) := hb14.2.1
  have hz19 : ie_zr (SNX9_4 S o) (MNX9_1 S M o) := hb14.2.2.1
  have hf20 : (SNX9_5 S o)[o]? = some (11, 8, [none, none, none, some (some S.length), some (some (SNX9_2 S o).length), some none, some none, some none]) := st_at hf15
  have hf21 : (SNX9_5 S o)[S.length]? = some (0, 64, []) := st_at' hf16 (Nat.ne_of_lt (List.getElem?_eq_some_iff.mp ho).1)
  have hf22 : (SNX9_5 S o)[(SNX9_2 S o).length]? = some (5, 7, [none, some (some (RNX3_1 (SNX9_3 S o) (SNX9_2 S o).length)), some (some (RNX3_2 (SNX9_3 S o) (SNX9_2 S o).length)), some (some (RNX3_3 (SNX9_3 S o) (SNX9_2 S o).length)), some (some (RNX3_4 (SNX9_3 S o) (SNX9_2 S o).length)), none, some (some (RNX3_6 (SNX9_3 S o) (SNX9_2 S o).length))]) := st_at' hf17 (Nat.ne_of_lt (List.getElem?_eq_some_iff.mp hf5).1)
  have hw23 : ie_wf (SNX9_5 S o) (MNX9_1 S M o) := by have zz := wf_set (i := 4) (r := (SNX9_2 S o).length) hw18 hf15 ((List.getElem?_eq_some_iff.mp hf17).1); exact zz
  have hz24 : ie_zr (SNX9_5 S o) (MNX9_1 S M o) := zr_set hz19
  have hf25 : (SNX9_6 S o)[o]? = some (11, 8, [none, none, none, some (some S.length), some (some (SNX9_2 S o).length), some none, some none, some none]) := ap_at hf20
  have hf26 : (SNX9_6 S o)[S.length]? = some (0, 64, []) := ap_at hf21
  have hf27 : (SNX9_6 S o)[(SNX9_2 S o).length]? = some (5, 7, [none, some (some (RNX3_1 (SNX9_3 S o) (SNX9_2 S o).length)), some (some (RNX3_2 (SNX9_3 S o) (SNX9_2 S o).length)), some (some (RNX3_3 (SNX9_3 S o) (SNX9_2 S o).length)), some (some (RNX3_4 (SNX9_3 S o) (SNX9_2 S o).length)), none, some (some (RNX3_6 (SNX9_3 S o) (SNX9_2 S o).length))]) := ap_at hf22
  have hf28 : (SNX9_6 S o)[(SNX9_5 S o).length]? = some (5, 7, [none, some none, some none, some none, some none, none, some none]) := nw_at
  have hw29 : ie_wf (SNX9_6 S o) (MNX9_1 S M o) := wf_app hw23 (by simp) hz24
  have hz30 : ie_zr (SNX9_6 S o) (MNX9_1 S M o) := zr_app hz24
  have hb31 : CBX3 (SNX9_6 S o) (MNX9_1 S M o) (SNX9_5 S o).length := cb_X3 hf28 hw29 hz30
  have len7 : (SNX9_7 S o).length = S.length + 13 := by have e := hb31.2.2.2.1; rw [show (SNX9_7 S o).length = _ from e, len6]
  have len8 : (SNX9_8 S o).length = S.length + 13 := by show ((SNX9_7 S o).set _ _).length = _; rw [List.length_set, len7]
  have len9 : (SNX9_9 S o).length = S.length + 14 := by show ((SNX9_8 S o) ++ [_]).length = _; rw [List.length_append, List.length_singleton, len8]
  have hf32 : (SNX9_7 S o)[o]? = some (11, 8, [none, none, none, some (some S.length), some (some (SNX9_2 S o).length), some none, some none, some none]) := hb31.2.2.2.2 _ _ (Nat.ne_of_lt (List.getElem?_eq_some_iff.mp hf20).1) hf25
  have hf33 : (SNX9_7 S o)[S.length]? = some (0, 64, []) := hb31.2.2.2.2 _ _ (Nat.ne_of_lt (List.getElem?_eq_some_iff.mp hf21).1) hf26
  have hf34 : (SNX9_7 S o)[(SNX9_2 S o).length]? = some (5, 7, [none, some (some (RNX3_1 (SNX9_3 S o) (SNX9_2 S o).length)), some (some (RNX3_2 (SNX9_3 S o) (SNX9_2 S o).length)), some (some (RNX3_3 (SNX9_3 S o) (SNX9_2 S o).length)), some (some (RNX3_4 (SNX9_3 S o) (SNX9_2 S o).length)), none, some (some (RNX3_6 (SNX9_3 S o) (SNX9_2 S o).length))]) := hb31.2.2.2.2 _ _ (Nat.ne_of_lt (List.getElem?_eq_some_iff.mp hf22).1) hf27
  have hf35 : (SNX9_7 S o)[(SNX9_5 S o).length]? = some (5, 7, [none, some (some (RNX3_1 (SNX9_6 S o) (SNX9_5 S o).length)), some (some (RNX3_2 (SNX9_6 S o) (SNX9_5 S o).length)), some (some (RNX3_3 (SNX9_6 S o) (SNX9_5 S o).length)), some (some (RNX3_4 (SNX9_6 S o) (SNX9_5 S o).length)), none, some (some (RNX3_6 (SNX9_6 S o) (SNX9_5 S o).length))]) := hb31.1
  have hw36 : ie_wf (SNX9_7 S o) (MNX9_2 S M o) := hb31.2.1
  have hz37 : ie_zr (SNX9_7 S o) (MNX9_2 S M o) := hb31.2.2.1
  have hf38 : (SNX9_8 S o)[o]? = some (11, 8, [none, none, none, some (some S.length), some (some (SNX9_2 S o).length), some (some (SNX9_5 S o).length), some none, some none]) := st_at hf32
  have hf39 : (SNX9_8 S o)[S.length]? = some (0, 64, []) := st_at' hf33 (Nat.ne_of_lt (List.getElem?_eq_some_iff.mp ho).1)
  have hf40 : (SNX9_8 S o)[(SNX9_2 S o).length]? = some (5, 7, [none, some (some (RNX3_1 (SNX9_3 S o) (SNX9_2 S o).length)), some (some (RNX3_2 (SNX9_3 S o) (SNX9_2 S o).length)), some (some (RNX3_3 (SNX9_3 S o) (SNX9_2 S o).length)), some (some (RNX3_4 (SNX9_3 S o) (SNX9_2 S o).length)), none, some (some (RNX3_6 (SNX9_3 S o) (SNX9_2 S o).length))]) := st_at' hf34 (Nat.ne_of_lt (List.getElem?_eq_some_iff.mp hf5).1)
  have hf41 : (SNX9_8 S o)[(SNX9_5 S o).length]? = some (5, 7, [none, some (some (RNX3_1 (SNX9_6 S o) (SNX9_5 S o).length)), some (some (RNX3_2 (SNX9_6 S o) (SNX9_5 S o).length)), some (some (RNX3_3 (SNX9_6 S o) (SNX9_5 S o).length)), some (some (RNX3_4 (SNX9_6 S o) (SNX9_5 S o).length)), none, some (some (RNX3_6 (SNX9_6 S o) (SNX9_5 S o).length))]) := st_at' hf35 (Nat.ne_of_lt (List.getElem?_eq_some_iff.mp hf20).1)
  have hw42 : ie_wf (SNX9_8 S o) (MNX9_2 S M o) := by have zz := wf_set (i := 5) (r := (SNX9_5 S o).length) hw36 hf32 ((List.getElem?_eq_some_iff.mp hf35).1); exact zz
  have hz43 : ie_zr (SNX9_8 S o) (MNX9_2 S M o) := zr_set hz37
  have hf44 : (SNX9_9 S o)[o]? = some (11, 8, [none, none, none, some (some S.length), some (some (SNX9_2 S o).length), some (some (SNX9_5 S o).length), some none, some none]) := ap_at hf38
  have hf45 : (SNX9_9 S o)[S.length]? = some (0, 64, []) := ap_at hf39
  have hf46 : (SNX9_9 S o)[(SNX9_2 S o).length]? = some (5, 7, [none, some (some (RNX3_1 (SNX9_3 S o) (SNX9_2 S o).length)), some (some (RNX3_2 (SNX9_3 S o) (SNX9_2 S o).length)), some (some (RNX3_3 (SNX9_3 S o) (SNX9_2 S o).length)), some (some (RNX3_4 (SNX9_3 S o) (SNX9_2 S o).length)), none, some (some (RNX3_6 (SNX9_3 S o) (SNX9_2 S o).length))]) := ap_at hf40
  have hf47 : (SNX9_9 S o)[(SNX9_5 S o).length]? = some (5, 7, [none, some (some (RNX3_1 (SNX9_6 S o) (SNX9_5 S o).length)), some (some (RNX3_2 (SNX9_6 S o) (SNX9_5 S o).length)), some (some (RNX3_3 (SNX9_6 S o) (SNX9_5 S o).length)), some (some (RNX3_4 (SNX9_6 S o) (SNX9_5 S o).length)), none, some (some (RNX3_6 (SNX9_6 S o) (SNX9_5 S o).length))]) := ap_at hf41
  have hf48 : (SNX9_9 S o)[(SNX9_8 S o).length]? = some (9, 5, [none, some none, some none, some none, some none]) := nw_at
  have hw49 : ie_wf (SNX9_9 S o) (MNX9_2 S M o) := wf_app hw42 (by simp) hz43
  have hz50 : ie_zr (SNX9_9 S o) (MNX9_2 S M o) := zr_app hz43
  have hb51 : CBX7 (SNX9_9 S o) (MNX9_2 S M o) (SNX9_8 S o).length := cb_X7 hf48 hw49 hz50
  have len10 : (SNX9_10 S o).length = S.length + 18 := by have e := hb51.2.2.2.1; rw [show (SNX9_10 S o).length = _ from e, len9]
  have len11 : (SNX9_11 S o).length = S.length + 18 := by show ((SNX9_10 S o).set _ _).length = _; rw [List.length_set, len10]
  have len12 : (SNX9_12 S o).length = S.length + 19 := by show ((SNX9_11 S o) ++ [_]).length = _; rw [List.length_append, List.length_singleton, len11]
  have hf52 : (SNX9_10 S o)[o]? = some (11, 8, [none, none, none, some (some S.length), some (some (SNX9_2 S o).length), some (some (SNX9_5 S o).length), some none, some none]) := hb51.2.2.2.2 _ _ (Nat.ne_of_lt (List.getElem?_eq_some_iff.mp hf38).1) hf44
  have hf53 : (SNX9_10 S o)[S.length]? = some (0, 64, []) := hb51.2.2.2.2 _ _ (Nat.ne_of_lt (List.getElem?_eq_some_iff.mp hf39).1) hf45
  have hf54 : (SNX9_10 S o)[(SNX9_2 S o).length]? = some (5, 7, [none, some (some (RNX3_1 (SNX9_3 S o) (SNX9_2 S o).length)), some (some (RNX3_2 (SNX9_3 S o) (SNX9_2 S o).length)), some (some (RNX3_3 (SNX9_3 S o) (SNX9_2 S o).length)), some (some (RNX3_4 (SNX9_3 S o) (SNX9_2 S o).length)), none, some (some (RNX3_6 (SNX9_3 S o) (SNX9_2 S o).length))]) := hb51.2.2.2.2 _ _ (Nat.ne_of_lt (List.getElem?_eq_some_iff.mp hf40).1) hf46
  have hf55 : (SNX9_10 S o)[(SNX9_5 S o).length]? = some (5, 7, [none, some (some (RNX3_1 (SNX9_6 S o) (SNX9_5 S o).length)), some (some (RNX3_2 (SNX9_6 S o) (SNX9_5 S o).length)), some (some (RNX3_3 (SNX9_6 S o) (SNX9_5 S o).length)), some (some (RNX3_4 (SNX9_6 S o) (SNX9_5 S o).length)), none, some (some (RNX3_6 (SNX9_6 S o) (SNX9_5 S o).length))]) := hb51.2.2.2.2 _ _ (Nat.ne_of_lt (List.getElem?_eq_some_iff.mp hf41).1) hf47
  have hf56 : (SNX9_10 S o)[(SNX9_8 S o).length]? = some (9, 5, [none, some (some (RNX7_1 (SNX9_9 S o) (SNX9_8 S o).length)), some (some (RNX7_2 (SNX9_9 S o) (SNX9_8 S o).length)), some (some (RNX7_3 (SNX9_9 S o) (SNX9_8 S o).length)), some (some (RNX7_4 (SNX9_9 S o) (SNX9_8 S o).length))]) := hb51.1
  have hw57 : ie_wf (SNX9_10 S o) (MNX9_3 S M o) := hb51.2.1
  have hz58 : ie_zr (SNX9_10 S o) (MNX9_3 S M o) := hb51.2.2.1
  have hf59 : (SNX9_11 S o)[o]? = some (11, 8, [none, none, none, some (some S.length), some (some (SNX9_2 S o).length), some (some (SNX9_5 S o).length), some (some (SNX9_8 S o).length), some none]) := st_at hf52
  have hf60 : (SNX9_11 S o)[S.length]? = some (0, 64, []) := st_at' hf53 (Nat.ne_of_lt (List.getElem?_eq_some_iff.mp ho).1)
  have hf61 : (SNX9_11 S o)[(SNX9_2 S o).length]? = some (5, 7, [none, some (some (RNX3_1 (SNX9_3 S o) (SNX9_2 S o).length)), some (some (RNX3_2 (SNX9_3 S o) (SNX9_2 S o).length)), some (some (RNX3_3 (SNX9_3 S o) (SNX9_2 S o).length)), some (some (RNX3_4 (SNX9_3 S o) (SNX9_2 S o).length)), none, some (some (RNX3_6 (SNX9_3 S o) (SNX9_2 S o).length))]) := st_at' hf54 (Nat.ne_of_lt (List.getElem?_eq_some_iff.mp hf5).1)
  have hf62 : (SNX9_11 S o)[(SNX9_5 S o).length]? = some (5, 7, [none, some (some (RNX3_1 (SNX9_6 S o) (SNX9_5 S o).length)), some (some (RNX3_2 (SNX9_6 S o) (SNX9_5 S o).length)), some (some (RNX3_3 (SNX9_6 S o) (SNX9_5 S o).length)), some (some (RNX3_4 (SNX9_6 S o) (SNX9_5 S o).length)), none, some (some (RNX3_6 (SNX9_6 S o) (SNX9_5 S o).length))]) := st_at' hf55 (Nat.ne_of_lt (List.getElem?_eq_some_iff.mp hf20).1)
  have hf63 : (SNX9_11 S o)[(SNX9_8 S o).length]? = some (9, 5, [none, some (some (RNX7_1 (SNX9_9 S o) (SNX9_8 S o).length)), some (some (RNX7_2 (SNX9_9 S o) (SNX9_8 S o).length)), some (some (RNX7_3 (SNX9_9 S o) (SNX9_8 S o).length)), some (some (RNX7_4 (SNX9_9 S o) (SNX9_8 S o).length))]) := st_at' hf56 (Nat.ne_of_lt (List.getElem?_eq_some_iff.mp hf38).1)
  have hw64 : ie_wf (SNX9_11 S o) (MNX9_3 S M o) := by have zz := wf_set (i := 6) (r := (SNX9_8 S o).length) hw57 hf52 ((List.getElem?_eq_some_iff.mp hf56).1); exact zz
  have hz65 : ie_zr (SNX9_11 S o) (MNX9_3 S M o) := zr_set hz58
  have hf66 : (SNX9_12 S o)[o]? = some (11, 8, [none, none, none, some (some S.length), some (some (SNX9_2 S o).length), some (some (SNX9_5 S o).length), some (some (SNX9_8 S o).length), some none]) := ap_at hf59
  have hf67 : (SNX9_12 S o)[S.length]? = some (0, 64, []) := ap_at hf60
  have hf68 : (SNX9_12 S o)[(SNX9_2 S o).length]? = some (5, 7, [none, some (some (RNX3_1 (SNX9_3 S o) (SNX9_2 S o).length)), some (some (RNX3_2 (SNX9_3 S o) (SNX9_2 S o).length)), some (some (RNX3_3 (SNX9_3 S o) (SNX9_2 S o).length)), some (some (RNX3_4 (SNX9_3 S o) (SNX9_2 S o).length)), none, some (some (RNX3_6 (SNX9_3 S o) (SNX9_2 S o).length))]) := ap_at hf61
  have hf69 : (SNX9_12 S o)[(SNX9_5 S o).length]? = some (5, 7, [none, some (some (RNX3_1 (SNX9_6 S o) (SNX9_5 S o).length)), some (some (RNX3_2 (SNX9_6 S o) (SNX9_5 S o).length)), some (some (RNX3_3 (SNX9_6 S o) (SNX9_5 S o).length)), some (some (RNX3_4 (SNX9_6 S o) (SNX9_5 S o).length)), none, some (some (RNX3_6 (SNX9_6 S o) (SNX9_5 S o).length))]) := ap_at hf62
  have hf70 : (SNX9_12 S o)[(SNX9_8 S o).length]? = some (9, 5, [none, some (some (RNX7_1 (SNX9_9 S o) (SNX9_8 S o).length)), some (some (RNX7_2 (SNX9_9 S o) (SNX9_8 S o).length)), some (some (RNX7_3 (SNX9_9 S o) (SNX9_8 S o).length)), some (some (RNX7_4 (SNX9_9 S o) (SNX9_8 S o).length))]) := ap_at hf63
  have hf71 : (SNX9_12 S o)[(SNX9_11 S o).length]? = some (10, 5, [none, some none, some none, some none, some none]) := nw_at
  have hw72 : ie_wf (SNX9_12 S o) (MNX9_3 S M o) := wf_app hw64 (by simp) hz65
  have hz73 : ie_zr (SNX9_12 S o) (MNX9_3 S M o) := zr_app hz65
  have hb74 : CBX8 (SNX9_12 S o) (MNX9_3 S M o) (SNX9_11 S o).length := cb_X8 hf71 hw72 hz73
  have len13 : (SNX9_13 S o).length = S.length + 23 := by have e := hb74.2.2.2.1; rw [show (SNX9_13 S o).length = _ from e, len12]
  have len14 : (SNX9_14 S o).length = S.length + 23 := by show ((SNX9_13 S o).set _ _).length = _; rw [List.length_set, len13]
  have hf75 : (SNX9_13 S o)[o]? = some (11, 8, [none, none, none, some (some S.length), some (some (SNX9_2 S o).length), some (some (SNX9_5 S o).length), some (some (SNX9_8 S o).length), some none]) := hb74.2.2.2.2 _ _ (Nat.ne_of_lt (List.getElem?_eq_some_iff.mp hf59).1) hf66
  have hf76 : (SNX9_13 S o)[S.length]? = some (0, 64, []) := hb74.2.2.2.2 _ _ (Nat.ne_of_lt (List.getElem?_eq_some_iff.mp hf60).1) hf67
  have hf77 : (SNX9_13 S o)[(SNX9_2 S o).length]? = some (5, 7, [none, some (some (RNX3_1 (SNX9_3 S o) (SNX9_2 S o).length)), some (some (RNX3_2 (SNX9_3 S o) (SNX9_2 S o).length)), some (some (RNX3_3 (SNX9_3 S o) (SNX9_2 S o).length)), some (some (RNX3_4 (SNX9_3 S o) (SNX9_2 S o).length)), none, some (some (RNX3_6 (SNX9_3 S o) (SNX9_2 S o).length))]) := hb74.2.2.2.2 _ _ (Nat.ne_of_lt (List.getElem?_eq_some_iff.mp hf61).1) hf68
  have hf78 : (SNX9_13 S o)[(SNX9_5 S o).length]? = some (5, 7, [none, some (some (RNX3_1 (SNX9_6 S o) (SNX9_5 S o).length)), some (some (RNX3_2 (SNX9_6 S o) (SNX9_5 S o).length)), some (some (RNX3_3 (SNX9_6 S o) (SNX9_5 S o).length)), some (some (RNX3_4 (SNX9_6 S o) (SNX9_5 S o).length)), none, some (some (RNX3_6 (SNX9_6 S o) (SNX9_5 S o).length))]) := hb74.2.2.2.2 _ _ (Nat.ne_of_lt (List.getElem?_eq_some_iff.mp hf62).1) hf69
  have hf79 : (SNX9_13 S o)[(SNX9_8 S o).length]? = some (9, 5, [none, some (some (RNX7_1 (SNX9_9 S o) (SNX9_8 S o).length)), some (some (RNX7_2 (SNX9_9 S o) (SNX9_8 S o).length)), some (some (RNX7_3 (SNX9_9 S o) (SNX9_8 S o).length)), some (some (RNX7_4 (SNX9_9 S o) (SNX9_8 S o).length))]) := hb74.2.2.2.2 _ _ (Nat.ne_of_lt (List.getElem?_eq_some_iff.mp hf63).1) hf70
  have hf80 : (SNX9_13 S o)[(SNX9_11 S o).length]? = some (10, 5, [none, some (some (RNX8_1 (SNX9_12 S o) (SNX9_11 S o).length)), some (some (RNX8_2 (SNX9_12 S o) (SNX9_11 S o).length)), some (some (RNX8_3 (SNX9_12 S o) (SNX9_11 S o).length)), some (some (RNX8_4 (SNX9_12 S o) (SNX9_11 S o).length))]) := hb74.1
  have hw81 : ie_wf (SNX9_13 S o) (MNX9_4 S M o) := hb74.2.1
  have hz82 : ie_zr (SNX9_13 S o) (MNX9_4 S M o) := hb74.2.2.1
  have hf83 : (SNX9_14 S o)[o]? = some (11, 8, [none, none, none, some (some S.length), some (some (SNX9_2 S o).length), some (some (SNX9_5 S o).length), some (some (SNX9_8 S o).length), some (some (SNX9_11 S o).length)]) := st_at hf75
  have hf84 : (SNX9_14 S o)[S.length]? = some (0, 64, []) := st_at' hf76 (Nat.ne_of_lt (List.getElem?_eq_some_iff.mp ho).1)
  have hf85 : (SNX9_14 S o)[(SNX9_2 S o).length]? = some (5, 7, [none, some (some (RNX3_1 (SNX9_3 S o) (SNX9_2 S o).length)), some (some (RNX3_2 (SNX9_3 S o) (SNX9_2 S o).length)), some (some (RNX3_3 (SNX9_3 S o) (SNX9_2 S o).length)), some (some (RNX3_4 (SNX9_3 S o) (SNX9_2 S o).length)), none, some (some (RNX3_6 (SNX9_3 S o) (SNX9_2 S o).length))]) := st_at' hf77 (Nat.ne_of_lt (List.getElem?_eq_some_iff.mp hf5).1)
  have hf86 : (SNX9_14 S o)[(SNX9_5 S o).length]? = some (5, 7, [none, some (some (RNX3_1 (SNX9_6 S o) (SNX9_5 S o).length)), some (some (RNX3_2 (SNX9_6 S o) (SNX9_5 S o).length)), some (some (RNX3_3 (SNX9_6 S o) (SNX9_5 S o).length)), some (some (RNX3_4 (SNX9_6 S o) (SNX9_5 S o).length)), none, some (some (RNX3_6 (SNX9_6 S o) (SNX9_5 S o).length))]) := st_at' hf78 (Nat.ne_of_lt (List.getElem?_eq_some_iff.mp hf20).1)
  have hf87 : (SNX9_14 S o)[(SNX9_8 S o).length]? = some (9, 5, [none, some (some (RNX7_1 (SNX9_9 S o) (SNX9_8 S o).length)), some (some (RNX7_2 (SNX9_9 S o) (SNX9_8 S o).length)), some (some (RNX7_3 (SNX9_9 S o) (SNX9_8 S o).length)), some (some (RNX7_4 (SNX9_9 S o) (SNX9_8 S o).length))]) := st_at' hf79 (Nat.ne_of_lt (List.getElem?_eq_some_iff.mp hf38).1)
  have hf88 : (SNX9_14 S o)[(SNX9_11 S o).length]? = some (10, 5, [none, some (some (RNX8_1 (SNX9_12 S o) (SNX9_11 S o).length)), some (some (RNX8_2 (SNX9_12 S o) (SNX9_11 S o).length)), some (some (RNX8_3 (SNX9_12 S o) (SNX9_11 S o).length)), some (some (RNX8_4 (SNX9_12 S o) (SNX9_11 S o).length))]) := st_at' hf80 (Nat.ne_of_lt (List.getElem?_eq_some_iff.mp hf59).1)
  have hw89 : ie_wf (SNX9_14 S o) (MNX9_4 S M o) := by have zz := wf_set (i := 7) (r := (SNX9_11 S o).length) hw81 hf75 ((List.getElem?_eq_some_iff.mp hf80).1); exact zz
  have hz90 : ie_zr (SNX9_14 S o) (MNX9_4 S M o) := zr_set hz82
  exact ⟨hf83, hw89, hz90, len14, fun p x hp h => (st_at' (hb74.2.2.2.2 _ _ (fun e => absurd (List.getElem?_eq_some_iff.mp h).1 (by rw [e]; have := len11; omega)) (ap_at (st_at' (hb51.2.2.2.2 _ _ (fun e => absurd (List.getElem?_eq_some_iff.mp h).1 (by rw [e]; have := len8; omega)) (ap_at (st_at' (hb31.2.2.2.2 _ _ (fun e => absurd (List.getElem?_eq_some_iff.mp h).1 (by rw [e]; have := len5; omega)) (ap_at (st_at' (hb14.2.2.2.2 _ _ (fun e => absurd (List.getElem?_eq_some_iff.mp h).1 (by rw [e]; have := len2; omega)) (ap_at (st_at' (ap_at h) (fun e => hp e.symm)))) (fun e => hp e.symm)))) (fun e => hp e.symm)))) (fun e => hp e.symm)))) (fun e => hp e.symm))⟩
set_option maxRecDepth 100000 in
set_option maxHeartbeats 8000000 in
theorem tc_X9 {g : IG} {a : Nat → Nat} {S : List IK} {M : IM} {o : Nat} (ho : S[o]? = some (11, 8, [none, none, none, some none, some none, some none, some none, some none])) (hwf : ie_wf S M) (hz : ie_zr S M) : Cn g mX9_init 2 23 1100 (qC (SNX9 S o) (MNX9 S M o) S.length a) [.ref (a o)] a S M := by
  refine Cn_of (L := [some (.ref (a o))]) mf_X9_init (cat_r cat_0) (Nat.le_of_ble_eq_true rfl) rfl ?_
  have len1 : (SNX9_1 S o).length = S.length + 1 := by show (S ++ [_]).length = _; rw [List.length_append, List.length_singleton]
  have len2 : (SNX9_2 S o).length = S.length + 1 := by show ((SNX9_1 S o).set _ _).length = _; rw [List.length_set, len1]
  have len3 : (SNX9_3 S o).length = S.length + 2 := by show ((SNX9_2 S o) ++ [_]).length = _; rw [List.length_append, List.length_singleton, len2]
  refine V_aload_n rfl dX9_init_0 rfl rfl ?_
  refine V_obj rfl dX9_init_1 ⟨w_251, w_166, w_167⟩ rfl ?_
  refine V_aload_n rfl dX9_init_4 rfl rfl ?_
  refine V_bipush (v := 64) rfl dX9_init_5 kb_64 ?_
  refine V_newa (n := 64) (fun a => [some (.ref (a o))]) (fun a => [.ref (a o)]) rfl dX9_init_7 w_245 (by decide +kernel) hwf hz ⟨rfl, rfl⟩ (fun a' h => ⟨by first | rfl | simp only [h _ ((List.getElem?_eq_some_iff.mp ho).1)], by first | rfl | simp only [h _ ((List.getElem?_eq_some_iff.mp ho).1)]⟩) (fun a1 hg0 => ?_)
  have hf1 : (SNX9_1 S o)[o]? = some (11, 8, [none, none, none, some none, some none, some none, some none, some none]) := ap_at ho
  have hf2 : (SNX9_1 S o)[S.length]? = some (0, 64, []) := nw_at
  have hw3 : ie_wf (SNX9_1 S o) M := wf_app hwf (by simp) hz
  have hz4 : ie_zr (SNX9_1 S o) M := zr_app hz
  show V _ _ _ _ _ _ _ _ _ _ (SNX9_1 S o) M _ _
  refine V_putr (k0 := 3) (ty := (.array .int)) (r := S.length) rfl dX9_init_9 hf1 icX9 tyX9_ok nmX9 (by decide) (Nat.le_of_ble_eq_true rfl) w_348 rfl rfl rfl (tyX9_ok _ (by decide)) rfl rfl ?_
  have hf5 : (SNX9_2 S o)[o]? = some (11, 8, [none, none, none, some (some S.length), some none, some none, some none, some none]) := st_at hf1
  have hf6 : (SNX9_2 S o)[S.length]? = some (0, 64, []) := st_at' hf2 (Nat.ne_of_lt (List.getElem?_eq_some_iff.mp ho).1)
  have hw7 : ie_wf (SNX9_2 S o) M := by have zz := wf_set (i := 3) (r := S.length) hw3 hf1 ((List.getElem?_eq_some_iff.mp hf2).1); exact zz
  have hz8 : ie_zr (SNX9_2 S o) M := zr_set hz4
  show V _ _ _ _ _ _ _ _ _ _ (SNX9_2 S o) M _ _
  refine V_aload_n rfl dX9_init_12 rfl rfl ?_
  refine V_new (fun a => [some (.ref (a o))]) (fun a => [.ref (a o)]) rfl dX9_init_13 icX3 rfl tyX3_ok ⟨w_252, w_253, w_142⟩ (fs := [none, some none, some none, some none, some none, none, some none]) (by decide +kernel) (by simp) hw7 hz8 ⟨rfl, rfl⟩ (fun a' h => ⟨by first | rfl | simp only [h _ ((List.getElem?_eq_some_iff.mp hf5).1)], by first | rfl | simp only [h _ ((List.getElem?_eq_some_iff.mp hf5).1)]⟩) (fun a11 hg1 => ?_)
  have hf9 : (SNX9_3 S o)[o]? = some (11, 8, [none, none, none, some (some S.length), some none, some none, some none, some none]) := ap_at hf5
  have hf10 : (SNX9_3 S o)[S.length]? = some (0, 64, []) := ap_at hf6
  have hf11 : (SNX9_3 S o)[(SNX9_2 S o).length]? = some (5, 7, [none, some none, some none, some none, some none, none, some none]) := nw_at
  have hw12 : ie_wf (SNX9_3 S o) M := wf_app hw7 (by simp) hz8
  have hz13 : ie_zr (SNX9_3 S o) M := zr_app hz8
  show V _ _ _ _ _ _ _ _ _ _ (SNX9_3 S o) M _ _
  refine V_dup rfl dX9_init_16 rfl ?_
  refine V_inin (mc' := 5) (ns' := 464) (d' := 1) (As := []) (S' := (SNX3 (SNX9_3 S o) (SNX9_2 S o).length)) (M' := (MNX3 (SNX9_3 S o) M (SNX9_2 S o).length)) (fun a => [some (.ref (a o))]) (fun a => [.ref (a (SNX9_2 S o).length), .ref (a o)]) rfl dX9_init_17 mf_X3_init rfl rfl w_255 w_254 (by decide) ⟨rfl, rfl⟩ rfl rfl rfl (fun a' h => ⟨by first | rfl | simp only [h _ ((List.getElem?_eq_some_iff.mp hf11).1), h _ ((List.getElem?_eq_some_iff.mp hf9).1)], by first | rfl | simp only [h _ ((List.getElem?_eq_some_iff.mp hf11).1), h _ ((List.getElem?_eq_some_iff.mp hf9).1)]⟩) (tc_X3 hf11 hw12 hz13) (fun a111 hg2 => ?_)
  have hb14 : CBX3 (SNX9_3 S o) M (SNX9_2 S o).length := cb_X3 hf11 hw12 hz13
  have len4 : (SNX9_4 S o).length = S.length + 7 := by have e := hb14.2.2.2.1; rw [show (SNX9_4 S o).length = _ from e, len3]
  have len5 : (SNX9_5 S o).length = S.length + 7 := by show ((SNX9_4 S o).set _ _).length = _; rw [List.length_set, len4]
  have len6 : (SNX9_6 S o).length = S.length + 8 := by show ((SNX9_5 S o) ++ [_]).length = _; rw [List.length_append, List.length_singleton, len5]
  have hf15 : (SNX9_4 S o)[o]? = some (11, 8, [none, none, none, some (some S.length), some none, some none, some none, some none]) := hb14.2.2.2.2 _ _ (Nat.ne_of_lt (List.getElem?_eq_some_iff.mp hf5).1) hf9
  have hf16 : (SNX9_4 S o)[S.length]? = some (0, 64, []) := hb14.2.2.2.2 _ _ (Nat.ne_of_lt (List.getElem?_eq_some_iff.mp hf6).1) hf10
  have hf17 : (SNX9_4 S o)[(SNX9_2 S o).length]? = some (5, 7, [none, some (some (RNX3_1 (SNX9_3 S o) (SNX9_2 S o).length)), some (some (RNX3_2 (SNX9_3 S o) (SNX9_2 S o).length)), some (some (RNX3_3 (SNX9_3 S o) (SNX9_2 S o).length)), some (some (RNX3_4 (SNX9_3 S o) (SNX9_2 S o).length)), none, some (some (RNX3_6 (SNX9_3 S o) (SNX9_2 S o).length))]) := hb14.1
  have hw18 : ie_wf (SNX9_4 S o) (MNX9_1 S M o) := hb14.2.1
  have hz19 : ie_zr (SNX9_4 S o) (MNX9_1 S M o) := hb14.2.2.1
  show V _ _ _ _ _ _ _ _ _ _ (SNX9_4 S o) (MNX9_1 S M o) _ _
  refine V_putr (k0 := 4) (ty := (.object "NeverHalted$Law")) (r := (SNX9_2 S o).length) rfl dX9_init_20 hf15 icX9 tyX9_ok nmX9 (by decide) (Nat.le_of_ble_eq_true rfl) w_350 rfl rfl rfl (tyX9_ok _ (by decide)) rfl rfl ?_
  have hf20 : (SNX9_5 S o)[o]? = some (11, 8, [none, none, none, some (some S.length), some (some (SNX9_2 S o).length), some none, some none, some none]) := st_at hf15
  have hf21 : (SNX9_5 S o)[S.length]? = some (0, 64, []) := st_at' hf16 (Nat.ne_of_lt (List.getElem?_eq_some_iff.mp ho).1)
  have hf22 : (SNX9_5 S o)[(SNX9_2 S o).length]? = some (5, 7, [none, some (some (RNX3_1 (SNX9_3 S o) (SNX9_2 S o).length)), some (some (RNX3_2 (SNX9_3 S o) (SNX9_2 S o).length)), some (some (RNX3_3 (SNX9_3 S o) (SNX9_2 S o).length)), some (some (RNX3_4 (SNX9_3 S o) (SNX9_2 S o).length)), none, some (some (RNX3_6 (SNX9_3 S o) (SNX9_2 S o).length))]) := st_at' hf17 (Nat.ne_of_lt (List.getElem?_eq_some_iff.mp hf5).1)
  have hw23 : ie_wf (SNX9_5 S o) (MNX9_1 S M o) := by have zz := wf_set (i := 4) (r := (SNX9_2 S o).length) hw18 hf15 ((List.getElem?_eq_some_iff.mp hf17).1); exact zz
  have hz24 : ie_zr (SNX9_5 S o) (MNX9_1 S M o) := zr_set hz19
  show V _ _ _ _ _ _ _ _ _ _ (SNX9_5 S o) (MNX9_1 S M o) _ _
  refine V_aload_n rfl dX9_init_23 rfl rfl ?_
  refine V_new (fun a => [some (.ref (a o))]) (fun a => [.ref (a o)]) rfl dX9_init_24 icX3 rfl tyX3_ok ⟨w_252, w_253, w_142⟩ (fs := [none, some none, some none, some none, some none, none, some none]) (by decide +kernel) (by simp) hw23 hz24 ⟨rfl, rfl⟩ (fun a' h => ⟨by first | rfl | simp only [h _ ((List.getElem?_eq_some_iff.mp hf20).1)], by first | rfl | simp only [h _ ((List.getElem?_eq_some_iff.mp hf20).1)]⟩) (fun a1111 hg3 => ?_)
  have hf25 : (SNX9_6 S o)[o]? = some (11, 8, [none, none, none, some (some S.length), some (some (SNX9_2 S o).length), some none, some none, some none]) := ap_at hf20
  have hf26 : (SNX9_6 S o)[S.length]? = some (0, 64, []) := ap_at hf21
  have hf27 : (SNX9_6 S o)[(SNX9_2 S o).length]? = some (5, 7, [none, some (some (RNX3_1 (SNX9_3 S o) (SNX9_2 S o).length)), some (some (RNX3_2 (SNX9_3 S o) (SNX9_2 S o).length)), some (some (RNX3_3 (SNX9_3 S o) (SNX9_2 S o).length)), some (some (RNX3_4 (SNX9_3 S o) (SNX9_2 S o).length)), none, some (some (RNX3_6 (SNX9_3 S o) (SNX9_2 S o).length))]) := ap_at hf22
  have hf28 : (SNX9_6 S o)[(SNX9_5 S o).length]? = some (5, 7, [none, some none, some none, some none, some none, none, some none]) := nw_at
  have hw29 : ie_wf (SNX9_6 S o) (MNX9_1 S M o) := wf_app hw23 (by simp) hz24
  have hz30 : ie_zr (SNX9_6 S o) (MNX9_1 S M o) := zr_app hz24
  show V _ _ _ _ _ _ _ _ _ _ (SNX9_6 S o) (MNX9_1 S M o) _ _
  refine V_dup rfl dX9_init_27 rfl ?_
  refine V_inin (mc' := 5) (ns' := 464) (d' := 1) (As := []) (S' := (SNX3 (SNX9_6 S o) (SNX9_5 S o).length)) (M' := (MNX3 (SNX9_6 S o) (MNX9_1 S M o) (SNX9_5 S o).length)) (fun a => [some (.ref (a o))]) (fun a => [.ref (a (SNX9_5 S o).length), .ref (a o)]) rfl dX9_init_28 mf_X3_init rfl rfl w_255 w_254 (by decide) ⟨rfl, rfl⟩ rfl rfl rfl (fun a' h => ⟨by first | rfl | simp only [h _ ((List.getElem?_eq_some_iff.mp hf28).1), h _ ((List.getElem?_eq_some_iff.mp hf25).1)], by first | rfl | simp only [h _ ((List.getElem?_eq_some_iff.mp hf28).1), h _ ((List.getElem?_eq_some_iff.mp hf25).1)]⟩) (tc_X3 hf28 hw29 hz30) (fun a11111 hg4 => ?_)
  have hb31 : CBX3 (SNX9_6 S o) (MNX9_1 S M o) (SNX9_5 S o).length := cb_X3 hf28 hw29 hz30
  have len7 : (SNX9_7 S o).length = S.length + 13 := by have e := hb31.2.2.2.1; rw [show (SNX9_7 S o).length = _ from e, len6]
  have len8 : (SNX9_8 S o).length = S.length + 13 := by show ((SNX9_7 S o).set _ _).length = _; rw [List.length_set, len7]
  have len9 : (SNX9_9 S o).length = S.length + 14 := by show ((SNX9_8 S o) ++ [_]).length = _; rw [List.length_append, List.length_singleton, len8]
  have hf32 : (SNX9_7 S o)[o]? = some (11, 8, [none, none, none, some (some S.length), some (some (SNX9_2 S o).length), some none, some none, some none]) := hb31.2.2.2.2 _ _ (Nat.ne_of_lt (List.getElem?_eq_some_iff.mp hf20).1) hf25
  have hf33 : (SNX9_7 S o)[S.length]? = some (0, 64, []) := hb31.2.2.2.2 _ _ (Nat.ne_of_lt (List.getElem?_eq_some_iff.mp hf21).1) hf26
  have hf34 : (SNX9_7 S o)[(SNX9_2 S o).length]? = some (5, 7, [none, some (some (RNX3_1 (SNX9_3 S o) (SNX9_2 S o).length)), some (some (RNX3_2 (SNX9_3 S o) (SNX9_2 S o).length)), some (some (RNX3_3 (SNX9_3 S o) (SNX9_2 S o).length)), some (some (RNX3_4 (SNX9_3 S o) (SNX9_2 S o).length)), none, some (some (RNX3_6 (SNX9_3 S o) (SNX9_2 S o).length))]) := hb31.2.2.2.2 _ _ (Nat.ne_of_lt (List.getElem?_eq_some_iff.mp hf22).1) hf27
  have hf35 : (SNX9_7 S o)[(SNX9_5 S o).length]? = some (5, 7, [none, some (some (RNX3_1 (SNX9_6 S o) (SNX9_5 S o).length)), some (some (RNX3_2 (SNX9_6 S o) (SNX9_5 S o).length)), some (some (RNX3_3 (SNX9_6 S o) (SNX9_5 S o).length)), some (some (RNX3_4 (SNX9_6 S o) (SNX9_5 S o).length)), none, some (some (RNX3_6 (SNX9_6 S o) (SNX9_5 S o).length))]) := hb31.1
  have hw36 : ie_wf (SNX9_7 S o) (MNX9_2 S M o) := hb31.2.1
  have hz37 : ie_zr (SNX9_7 S o) (MNX9_2 S M o) := hb31.2.2.1
  show V _ _ _ _ _ _ _ _ _ _ (SNX9_7 S o) (MNX9_2 S M o) _ _
  refine V_putr (k0 := 5) (ty := (.object "NeverHalted$Law")) (r := (SNX9_5 S o).length) rfl dX9_init_31 hf32 icX9 tyX9_ok nmX9 (by decide) (Nat.le_of_ble_eq_true rfl) w_352 rfl rfl rfl (tyX9_ok _ (by decide)) rfl rfl ?_
  have hf38 : (SNX9_8 S o)[o]? = some (11, 8, [none, none, none, some (some S.length), some (some (SNX9_2 S o).length), some (some (SNX9_5 S o).length), some none, some none]) := st_at hf32
  have hf39 : (SNX9_8 S o)[S.length]? = some (0, 64, []) := st_at' hf33 (Nat.ne_of_lt (List.getElem?_eq_some_iff.mp ho).1)
  have hf40 : (SNX9_8 S o)[(SNX9_2 S o).length]? = some (5, 7, [none, some (some (RNX3_1 (SNX9_3 S o) (SNX9_2 S o).length)), some (some (RNX3_2 (SNX9_3 S o) (SNX9_2 S o).length)), some (some (RNX3_3 (SNX9_3 S o) (SNX9_2 S o).length)), some (some (RNX3_4 (SNX9_3 S o) (SNX9_2 S o).length)), none, some (some (RNX3_6 (SNX9_3 S o) (SNX9_2 S o).length))]) := st_at' hf34 (Nat.ne_of_lt (List.getElem?_eq_some_iff.mp hf5).1)
  have hf41 : (SNX9_8 S o)[(SNX9_5 S o).length]? = some (5, 7, [none, some (some (RNX3_1 (SNX9_6 S o) (SNX9_5 S o).length)), some (some (RNX3_2 (SNX9_6 S o) (SNX9_5 S o).length)), some (some (RNX3_3 (SNX9_6 S o) (SNX9_5 S o).length)), some (some (RNX3_4 (SNX9_6 S o) (SNX9_5 S o).length)), none, some (some (RNX3_6 (SNX9_6 S o) (SNX9_5 S o).length))]) := st_at' hf35 (Nat.ne_of_lt (List.getElem?_eq_some_iff.mp hf20).1)
  have hw42 : ie_wf (SNX9_8 S o) (MNX9_2 S M o) := by have zz := wf_set (i := 5) (r := (SNX9_5 S o).length) hw36 hf32 ((List.getElem?_eq_some_iff.mp hf35).1); exact zz
  have hz43 : ie_zr (SNX9_8 S o) (MNX9_2 S M o) := zr_set hz37
  show V _ _ _ _ _ _ _ _ _ _ (SNX9_8 S o) (MNX9_2 S M o) _ _
  refine V_aload_n rfl dX9_init_34 rfl rfl ?_
  refine V_new (fun a => [some (.ref (a o))]) (fun a => [.ref (a o)]) rfl dX9_init_35 icX7 rfl tyX7_ok ⟨w_288, w_289, w_143⟩ (fs := [none, some none, some none, some none, some none]) (by decide +kernel) (by simp) hw42 hz43 ⟨rfl, rfl⟩ (fun a' h => ⟨by first | rfl | simp only [h _ ((List.getElem?_eq_some_iff.mp hf38).1)], by first | rfl | simp only [h _ ((List.getElem?_eq_some_iff.mp hf38).1)]⟩) (fun a111111 hg5 => ?_)
  have hf44 : (SNX9_9 S o)[o]? = some (11, 8, [none, none, none, some (some S.length), some (some (SNX9_2 S o).length), some (some (SNX9_5 S o).length), some none, some none]) := ap_at hf38
  have hf45 : (SNX9_9 S o)[S.length]? = some (0, 64, []) := ap_at hf39
  have hf46 : (SNX9_9 S o)[(SNX9_2 S o).length]? = some (5, 7, [none, some (some (RNX3_1 (SNX9_3 S o) (SNX9_2 S o).length)), some (some (RNX3_2 (SNX9_3 S o) (SNX9_2 S o).length)), some (some (RNX3_3 (SNX9_3 S o) (SNX9_2 S o).length)), some (some (RNX3_4 (SNX9_3 S o) (SNX9_2 S o).length)), none, some (some (RNX3_6 (SNX9_3 S o) (SNX9_2 S o).length))]) := ap_at hf40
  have hf47 : (SNX9_9 S o)[(SNX9_5 S o).length]? = some (5, 7, [none, some (some (RNX3_1 (SNX9_6 S o) (SNX9_5 S o).length)), some (some (RNX3_2 (SNX9_6 S o) (SNX9_5 S o).length)), some (some (RNX3_3 (SNX9_6 S o) (SNX9_5 S o).length)), some (some (RNX3_4 (SNX9_6 S o) (SNX9_5 S o).length)), none, some (some (RNX3_6 (SNX9_6 S o) (SNX9_5 S o).length))]) := ap_at hf41
  have hf48 : (SNX9_9 S o)[(SNX9_8 S o).length]? = some (9, 5, [none, some none, some none, some none, some none]) := nw_at
  have hw49 : ie_wf (SNX9_9 S o) (MNX9_2 S M o) := wf_app hw42 (by simp) hz43
  have hz50 : ie_zr (SNX9_9 S o) (MNX9_2 S M o) := zr_app hz43
  show V _ _ _ _ _ _ _ _ _ _ (SNX9_9 S o) (MNX9_2 S M o) _ _
  refine V_dup rfl dX9_init_38 rfl ?_
  refine V_inin (mc' := 4) (ns' := 32) (d' := 1) (As := []) (S' := (SNX7 (SNX9_9 S o) (SNX9_8 S o).length)) (M' := (MNX7 (SNX9_9 S o) (MNX9_2 S M o) (SNX9_8 S o).length)) (fun a => [some (.ref (a o))]) (fun a => [.ref (a (SNX9_8 S o).length), .ref (a o)]) rfl dX9_init_39 mf_X7_init rfl rfl w_291 w_290 (by decide) ⟨rfl, rfl⟩ rfl rfl rfl (fun a' h => ⟨by first | rfl | simp only [h _ ((List.getElem?_eq_some_iff.mp hf48).1), h _ ((List.getElem?_eq_some_iff.mp hf44).1)], by first | rfl | simp only [h _ ((List.getElem?_eq_some_iff.mp hf48).1), h _ ((List.getElem?_eq_some_iff.mp hf44).1)]⟩) (tc_X7 hf48 hw49 hz50) (fun a1111111 hg6 => ?_)
  have hb51 : CBX7 (SNX9_9 S o) (MNX9_2 S M o) (SNX9_8 S o).length := cb_X7 hf48 hw49 hz50
  have len10 : (SNX9_10 S o).length = S.length + 18 := by have e := hb51.2.2.2.1; rw [show (SNX9_10 S o).length = _ from e, len9]
  have len11 : (SNX9_11 S o).length = S.length + 18 := by show ((SNX9_10 S o).set _ _).length = _; rw [List.length_set, len10]
  have len12 : (SNX9_12 S o).length = S.length + 19 := by show ((SNX9_11 S o) ++ [_]).length = _; rw [List.length_append, List.length_singleton, len11]
  have hf52 : (SNX9_10 S o)[o]? = some (11, 8, [none, none, none, some (some S.length), some (some (SNX9_2 S o).length), some (some (SNX9_5 S o).length), some none, some none]) := hb51.2.2.2.2 _ _ (Nat.ne_of_lt (List.getElem?_eq_some_iff.mp hf38).1) hf44
  have hf53 : (SNX9_10 S o)[S.length]? = some (0, 64, []) := hb51.2.2.2.2 _ _ (Nat.ne_of_lt (List.getElem?_eq_some_iff.mp hf39).1) hf45
  have hf54 : (SNX9_10 S o)[(SNX9_2 S o).length]? = some (5, 7, [none, some (some (RNX3_1 (SNX9_3 S o) (SNX9_2 S o).length)), some (some (RNX3_2 (SNX9_3 S o) (SNX9_2 S o).length)), some (some (RNX3_3 (SNX9_3 S o) (SNX9_2 S o).length)), some (some (RNX3_4 (SNX9_3 S o) (SNX9_2 S o).length)), none, some (some (RNX3_6 (SNX9_3 S o) (SNX9_2 S o).length))]) := hb51.2.2.2.2 _ _ (Nat.ne_of_lt (List.getElem?_eq_some_iff.mp hf40).1) hf46
  have hf55 : (SNX9_10 S o)[(SNX9_5 S o).length]? = some (5, 7, [none, some (some (RNX3_1 (SNX9_6 S o) (SNX9_5 S o).length)), some (some (RNX3_2 (SNX9_6 S o) (SNX9_5 S o).length)), some (some (RNX3_3 (SNX9_6 S o) (SNX9_5 S o).length)), some (some (RNX3_4 (SNX9_6 S o) (SNX9_5 S o).length)), none, some (some (RNX3_6 (SNX9_6 S o) (SNX9_5 S o).length))]) := hb51.2.2.2.2 _ _ (Nat.ne_of_lt (List.getElem?_eq_some_iff.mp hf41).1) hf47
  have hf56 : (SNX9_10 S o)[(SNX9_8 S o).length]? = some (9, 5, [none, some (some (RNX7_1 (SNX9_9 S o) (SNX9_8 S o).length)), some (some (RNX7_2 (SNX9_9 S o) (SNX9_8 S o).length)), some (some (RNX7_3 (SNX9_9 S o) (SNX9_8 S o).length)), some (some (RNX7_4 (SNX9_9 S o) (SNX9_8 S o).length))]) := hb51.1
  have hw57 : ie_wf (SNX9_10 S o) (MNX9_3 S M o) := hb51.2.1
  have hz58 : ie_zr (SNX9_10 S o) (MNX9_3 S M o) := hb51.2.2.1
  show V _ _ _ _ _ _ _ _ _ _ (SNX9_10 S o) (MNX9_3 S M o) _ _
  refine V_putr (k0 := 6) (ty := (.object "NeverHalted$Round")) (r := (SNX9_8 S o).length) rfl dX9_init_42 hf52 icX9 tyX9_ok nmX9 (by decide) (Nat.le_of_ble_eq_true rfl) w_354 rfl rfl rfl (tyX9_ok _ (by decide)) rfl rfl ?_
  have hf59 : (SNX9_11 S o)[o]? = some (11, 8, [none, none, none, some (some S.length), some (some (SNX9_2 S o).length), some (some (SNX9_5 S o).length), some (some (SNX9_8 S o).length), some none]) := st_at hf52
  have hf60 : (SNX9_11 S o)[S.length]? = some (0, 64, []) := st_at' hf53 (Nat.ne_of_lt (List.getElem?_eq_some_iff.mp ho).1)
  have hf61 : (SNX9_11 S o)[(SNX9_2 S o).length]? = some (5, 7, [none, some (some (RNX3_1 (SNX9_3 S o) (SNX9_2 S o).length)), some (some (RNX3_2 (SNX9_3 S o) (SNX9_2 S o).length)), some (some (RNX3_3 (SNX9_3 S o) (SNX9_2 S o).length)), some (some (RNX3_4 (SNX9_3 S o) (SNX9_2 S o).length)), none, some (some (RNX3_6 (SNX9_3 S o) (SNX9_2 S o).length))]) := st_at' hf54 (Nat.ne_of_lt (List.getElem?_eq_some_iff.mp hf5).1)
  have hf62 : (SNX9_11 S o)[(SNX9_5 S o).length]? = some (5, 7, [none, some (some (RNX3_1 (SNX9_6 S o) (SNX9_5 S o).length)), some (some (RNX3_2 (SNX9_6 S o) (SNX9_5 S o).length)), some (some (RNX3_3 (SNX9_6 S o) (SNX9_5 S o).length)), some (some (RNX3_4 (SNX9_6 S o) (SNX9_5 S o).length)), none, some (some (RNX3_6 (SNX9_6 S o) (SNX9_5 S o).length))]) := st_at' hf55 (Nat.ne_of_lt (List.getElem?_eq_some_iff.mp hf20).1)
  have hf63 : (SNX9_11 S o)[(SNX9_8 S o).length]? = some (9, 5, [none, some (some (RNX7_1 (SNX9_9 S o) (SNX9_8 S o).length)), some (some (RNX7_2 (SNX9_9 S o) (SNX9_8 S o).length)), some (some (RNX7_3 (SNX9_9 S o) (SNX9_8 S o).length)), some (some (RNX7_4 (SNX9_9 S o) (SNX9_8 S o).length))]) := st_at' hf56 (Nat.ne_of_lt (List.getElem?_eq_some_iff.mp hf38).1)
  have hw64 : ie_wf (SNX9_11 S o) (MNX9_3 S M o) := by have zz := wf_set (i := 6) (r := (SNX9_8 S o).length) hw57 hf52 ((List.getElem?_eq_some_iff.mp hf56).1); exact zz
  have hz65 : ie_zr (SNX9_11 S o) (MNX9_3 S M o) := zr_set hz58
  show V _ _ _ _ _ _ _ _ _ _ (SNX9_11 S o) (MNX9_3 S M o) _ _
  refine V_aload_n rfl dX9_init_45 rfl rfl ?_
  refine V_new (fun a => [some (.ref (a o))]) (fun a => [.ref (a o)]) rfl dX9_init_46 icX8 rfl tyX8_ok ⟨w_318, w_319, w_144⟩ (fs := [none, some none, some none, some none, some none]) (by decide +kernel) (by simp) hw64 hz65 ⟨rfl, rfl⟩ (fun a' h => ⟨by first | rfl | simp only [h _ ((List.getElem?_eq_some_iff.mp hf59).1)], by first | rfl | simp only [h _ ((List.getElem?_eq_some_iff.mp hf59).1)]⟩) (fun a11111111 hg7 => ?_)
  have hf66 : (SNX9_12 S o)[o]? = some (11, 8, [none, none, none, some (some S.length), some (some (SNX9_2 S o).length), some (some (SNX9_5 S o).length), some (some (SNX9_8 S o).length), some none]) := ap_at hf59
  have hf67 : (SNX9_12 S o)[S.length]? = some (0, 64, []) := ap_at hf60
  have hf68 : (SNX9_12 S o)[(SNX9_2 S o).length]? = some (5, 7, [none, some (some (RNX3_1 (SNX9_3 S o) (SNX9_2 S o).length)), some (some (RNX3_2 (SNX9_3 S o) (SNX9_2 S o).length)), some (some (RNX3_3 (SNX9_3 S o) (SNX9_2 S o).length)), some (some (RNX3_4 (SNX9_3 S o) (SNX9_2 S o).length)), none, some (some (RNX3_6 (SNX9_3 S o) (SNX9_2 S o).length))]) := ap_at hf61
  have hf69 : (SNX9_12 S o)[(SNX9_5 S o).length]? = some (5, 7, [none, some (some (RNX3_1 (SNX9_6 S o) (SNX9_5 S o).length)), some (some (RNX3_2 (SNX9_6 S o) (SNX9_5 S o).length)), some (some (RNX3_3 (SNX9_6 S o) (SNX9_5 S o).length)), some (some (RNX3_4 (SNX9_6 S o) (SNX9_5 S o).length)), none, some (some (RNX3_6 (SNX9_6 S o) (SNX9_5 S o).length))]) := ap_at hf62
  have hf70 : (SNX9_12 S o)[(SNX9_8 S o).length]? = some (9, 5, [none, some (some (RNX7_1 (SNX9_9 S o) (SNX9_8 S o).length)), some (some (RNX7_2 (SNX9_9 S o) (SNX9_8 S o).length)), some (some (RNX7_3 (SNX9_9 S o) (SNX9_8 S o).length)), some (some (RNX7_4 (SNX9_9 S o) (SNX9_8 S o).length))]) := ap_at hf63
  have hf71 : (SNX9_12 S o)[(SNX9_11 S o).length]? = some (10, 5, [none, some none, some none, some none, some none]) := nw_at
  have hw72 : ie_wf (SNX9_12 S o) (MNX9_3 S M o) := wf_app hw64 (by simp) hz65
  have hz73 : ie_zr (SNX9_12 S o) (MNX9_3 S M o) := zr_app hz65
  show V _ _ _ _ _ _ _ _ _ _ (SNX9_12 S o) (MNX9_3 S M o) _ _
  refine V_dup rfl dX9_init_49 rfl ?_
  refine V_inin (mc' := 4) (ns' := 52) (d' := 1) (As := []) (S' := (SNX8 (SNX9_12 S o) (SNX9_11 S o).length)) (M' := (MNX8 (SNX9_12 S o) (MNX9_3 S M o) (SNX9_11 S o).length)) (fun a => [some (.ref (a o))]) (fun a => [.ref (a (SNX9_11 S o).length), .ref (a o)]) rfl dX9_init_50 mf_X8_init rfl rfl w_321 w_320 (by decide) ⟨rfl, rfl⟩ rfl rfl rfl (fun a' h => ⟨by first | rfl | simp only [h _ ((List.getElem?_eq_some_iff.mp hf71).1), h _ ((List.getElem?_eq_some_iff.mp hf66).1)], by first | rfl | simp only [h _ ((List.getElem?_eq_some_iff.mp hf71).1), h _ ((List.getElem?_eq_some_iff.mp hf66).1)]⟩) (tc_X8 hf71 hw72 hz73) (fun a111111111 hg8 => ?_)
  have hb74 : CBX8 (SNX9_12 S o) (MNX9_3 S M o) (SNX9_11 S o).length := cb_X8 hf71 hw72 hz73
  have len13 : (SNX9_13 S o).length = S.length + 23 := by have e := hb74.2.2.2.1; rw [show (SNX9_13 S o).length = _ from e, len12]
  have len14 : (SNX9_14 S o).length = S.length + 23 := by show ((SNX9_13 S o).set _ _).length = _; rw [List.length_set, len13]
  have hf75 : (SNX9_13 S o)[o]? = some (11, 8, [none, none, none, some (some S.length), some (some (SNX9_2 S o).length), some (some (SNX9_5 S o).length), some (some (SNX9_8 S o).length), some none]) := hb74.2.2.2.2 _ _ (Nat.ne_of_lt (List.getElem?_eq_some_iff.mp hf59).1) hf66
  have hf76 : (SNX9_13 S o)[S.length]? = some (0, 64, []) := hb74.2.2.2.2 _ _ (Nat.ne_of_lt (List.getElem?_eq_some_iff.mp hf60).1) hf67
  have hf77 : (SNX9_13 S o)[(SNX9_2 S o).length]? = some (5, 7, [none, some (some (RNX3_1 (SNX9_3 S o) (SNX9_2 S o).length)), some (some (RNX3_2 (SNX9_3 S o) (SNX9_2 S o).length)), some (some (RNX3_3 (SNX9_3 S o) (SNX9_2 S o).length)), some (some (RNX3_4 (SNX9_3 S o) (SNX9_2 S o).length)), none, some (some (RNX3_6 (SNX9_3 S o) (SNX9_2 S o).length))]) := hb74.2.2.2.2 _ _ (Nat.ne_of_lt (List.getElem?_eq_some_iff.mp hf61).1) hf68
  have hf78 : (SNX9_13 S o)[(SNX9_5 S o).length]? = some (5, 7, [none, some (some (RNX3_1 (SNX9_6 S o) (SNX9_5 S o).length)), some (some (RNX3_2 (SNX9_6 S o) (SNX9_5 S o).length)), some (some (RNX3_3 (SNX9_6 S o) (SNX9_5 S o).length)), some (some (RNX3_4 (SNX9_6 S o) (SNX9_5 S o).length)), none, some (some (RNX3_6 (SNX9_6 S o) (SNX9_5 S o).length))]) := hb74.2.2.2.2 _ _ (Nat.ne_of_lt (List.getElem?_eq_some_iff.mp hf62).1) hf69
  have hf79 : (SNX9_13 S o)[(SNX9_8 S o).length]? = some (9, 5, [none, some (some (RNX7_1 (SNX9_9 S o) (SNX9_8 S o).length)), some (some (RNX7_2 (SNX9_9 S o) (SNX9_8 S o).length)), some (some (RNX7_3 (SNX9_9 S o) (SNX9_8 S o).length)), some (some (RNX7_4 (SNX9_9 S o) (SNX9_8 S o).length))]) := hb74.2.2.2.2 _ _ (Nat.ne_of_lt (List.getElem?_eq_some_iff.mp hf63).1) hf70
  have hf80 : (SNX9_13 S o)[(SNX9_11 S o).length]? = some (10, 5, [none, some (some (RNX8_1 (SNX9_12 S o) (SNX9_11 S o).length)), some (some (RNX8_2 (SNX9_12 S o) (SNX9_11 S o).length)), some (some (RNX8_3 (SNX9_12 S o) (SNX9_11 S o).length)), some (some (RNX8_4 (SNX9_12 S o) (SNX9_11 S o).length))]) := hb74.1
  have hw81 : ie_wf (SNX9_13 S o) (MNX9_4 S M o) := hb74.2.1
  have hz82 : ie_zr (SNX9_13 S o) (MNX9_4 S M o) := hb74.2.2.1
  show V _ _ _ _ _ _ _ _ _ _ (SNX9_13 S o) (MNX9_4 S M o) _ _
  refine V_putr (k0 := 7) (ty := (.object "NeverHalted$Shifts")) (r := (SNX9_11 S o).length) rfl dX9_init_53 hf75 icX9 tyX9_ok nmX9 (by decide) (Nat.le_of_ble_eq_true rfl) w_356 rfl rfl rfl (tyX9_ok _ (by decide)) rfl rfl ?_
  have hf83 : (SNX9_14 S o)[o]? = some (11, 8, [none, none, none, some (some S.length), some (some (SNX9_2 S o).length), some (some (SNX9_5 S o).length), some (some (SNX9_8 S o).length), some (some (SNX9_11 S o).length)]) := st_at hf75
  have hf84 : (SNX9_14 S o)[S.length]? = some (0, 64, []) := st_at' hf76 (Nat.ne_of_lt (List.getElem?_eq_some_iff.mp ho).1)
  have hf85 : (SNX9_14 S o)[(SNX9_2 S o).length]? = some (5, 7, [none, some (some (RNX3_1 (SNX9_3 S o) (SNX9_2 S o).length)), some (some (RNX3_2 (SNX9_3 S o) (SNX9_2 S o).length)), some (some (RNX3_3 (SNX9_3 S o) (SNX9_2 S o).length)), some (some (RNX3_4 (SNX9_3 S o) (SNX9_2 S o).length)), none, some (some (RNX3_6 (SNX9_3 S o) (SNX9_2 S o).length))]) := st_at' hf77 (Nat.ne_of_lt (List.getElem?_eq_some_iff.mp hf5).1)
  have hf86 : (SNX9_14 S o)[(SNX9_5 S o).length]? = some (5, 7, [none, some (some (RNX3_1 (SNX9_6 S o) (SNX9_5 S o).length)), some (some (RNX3_2 (SNX9_6 S o) (SNX9_5 S o).length)), some (some (RNX3_3 (SNX9_6 S o) (SNX9_5 S o).length)), some (some (RNX3_4 (SNX9_6 S o) (SNX9_5 S o).length)), none, some (some (RNX3_6 (SNX9_6 S o) (SNX9_5 S o).length))]) := st_at' hf78 (Nat.ne_of_lt (List.getElem?_eq_some_iff.mp hf20).1)
  have hf87 : (SNX9_14 S o)[(SNX9_8 S o).length]? = some (9, 5, [none, some (some (RNX7_1 (SNX9_9 S o) (SNX9_8 S o).length)), some (some (RNX7_2 (SNX9_9 S o) (SNX9_8 S o).length)), some (some (RNX7_3 (SNX9_9 S o) (SNX9_8 S o).length)), some (some (RNX7_4 (SNX9_9 S o) (SNX9_8 S o).length))]) := st_at' hf79 (Nat.ne_of_lt (List.getElem?_eq_some_iff.mp hf38).1)
  have hf88 : (SNX9_14 S o)[(SNX9_11 S o).length]? = some (10, 5, [none, some (some (RNX8_1 (SNX9_12 S o) (SNX9_11 S o).length)), some (some (RNX8_2 (SNX9_12 S o) (SNX9_11 S o).length)), some (some (RNX8_3 (SNX9_12 S o) (SNX9_11 S o).length)), some (some (RNX8_4 (SNX9_12 S o) (SNX9_11 S o).length))]) := st_at' hf80 (Nat.ne_of_lt (List.getElem?_eq_some_iff.mp hf59).1)
  have hw89 : ie_wf (SNX9_14 S o) (MNX9_4 S M o) := by have zz := wf_set (i := 7) (r := (SNX9_11 S o).length) hw81 hf75 ((List.getElem?_eq_some_iff.mp hf80).1); exact zz
  have hz90 : ie_zr (SNX9_14 S o) (MNX9_4 S M o) := zr_set hz82
  show V _ _ _ _ _ _ _ _ _ _ (SNX9_14 S o) (MNX9_4 S M o) _ _
  exact V_vret dX9_init_56 rfl (by decide) (by decide) ⟨rfl, rfl, rfl, fun p hp => by rw [hg8 p (by rw [len12]; omega), hg7 p (by rw [len11]; omega), hg6 p (by rw [len9]; omega), hg5 p (by rw [len8]; omega), hg4 p (by rw [len6]; omega), hg3 p (by rw [len5]; omega), hg2 p (by rw [len3]; omega), hg1 p (by rw [len2]; omega), hg0 p hp]⟩
def SNX1_1 (S : List IK) (o : Nat) : List IK := S ++ [(0, 150, [])]
def SNX1_2 (S : List IK) (o : Nat) : List IK := (SNX1_1 S o).set o (3, 3, [some (some S.length), some none, some none])
def SNX1_3 (S : List IK) (o : Nat) : List IK := (SNX1_2 S o) ++ [(0, 150, [])]
def SNX1_4 (S : List IK) (o : Nat) : List IK := (SNX1_3 S o).set o (3, 3, [some (some S.length), some (some (SNX1_2 S o).length), some none])
def SNX1_5 (S : List IK) (o : Nat) : List IK := (SNX1_4 S o) ++ [(0, 150, [])]
def SNX1_6 (S : List IK) (o : Nat) : List IK := (SNX1_5 S o).set o (3, 3, [some (some S.length), some (some (SNX1_2 S o).length), some (some (SNX1_4 S o).length)])
def SNX1 (S : List IK) (o : Nat) : List IK := (SNX1_6 S o)
def MNX1 (S : List IK) (M : IM) (o : Nat) : IM := M
def RNX1_0 (S : List IK) (o : Nat) : Nat := S.length
def RNX1_1 (S : List IK) (o : Nat) : Nat := (SNX1_2 S o).length
def RNX1_2 (S : List IK) (o : Nat) : Nat := (SNX1_4 S o).length
def CBX1 (S : List IK) (M : IM) (o : Nat) : Prop := (SNX1 S o)[o]? = some (3, 3, [some (some (RNX1_0 S o)), some (some (RNX1_1 S o)), some (some (RNX1_2 S o))]) ∧ ie_wf (SNX1 S o) (MNX1 S M o) ∧ ie_zr (SNX1 S o) (MNX1 S M o) ∧ (SNX1 S o).length = S.length + 3 ∧ ∀ (p : Nat) (x : IK), ¬ p = o → S[p]? = some x → (SNX1 S o)[p]? = some x
set_option maxRecDepth 100000 in
set_option maxHeartbeats 4000000 in
theorem cb_X1 {S : List IK} {M : IM} {o : Nat} (ho : S[o]? = some (3, 3, [some none, some none, some none])) (hwf : ie_wf S M) (hz : ie_zr S M) : CBX1 S M o := by
  have len1 : (SNX1_1 S o).length = S.length + 1 := by show (S ++ [_]).length = _; rw [List.length_append, List.length_singleton]
  have len2 : (SNX1_2 S o).length = S.length + 1 := by show ((SNX1_1 S o).set _ _).length = _; rw [List.length_set, len1]
  have len3 : (SNX1_3 S o).length = S.length + 2 := by show ((SNX1_2 S o) ++ [_]).length = _; rw [List.length_append, List.length_singleton, len2]
  have len4 : (SNX1_4 S o).length = S.length + 2 := by show ((SNX1_3 S o).set _ _).length = _; rw [List.length_set, len3]
  have len5 : (SNX1_5 S o).length = S.length + 3 := by show ((SNX1_4 S o) ++ [_]).length = _; rw [List.length_append, List.length_singleton, len4]
  have len6 : (SNX1_6 S o).length = S.length + 3 := by show ((SNX1_5 S o).set _ _).length = _; rw [List.length_set, len5]
  have hf1 : (SNX1_1 S o)[o]? = some (3, 3, [some none, some none, some none]) := ap_at ho
  have hf2 : (SNX1_1 S o)[S.length]? = some (0, 150, []) := nw_at
  have hw3 : ie_wf (SNX1_1 S o) M := wf_app hwf (by simp) hz
  have hz4 : ie_zr (SNX1_1 S o) M := zr_app hz
  have hf5 : (SNX1_2 S o)[o]? = some (3, 3, [some (some S.length), some none, some none]) := st_at hf1
  have hf6 : (SNX1_2 S o)[S.length]? = some (0, 150, []) := st_at' hf2 (Nat.ne_of_lt (List.getElem?_eq_some_iff.mp ho).1)
  have hw7 : ie_wf (SNX1_2 S o) M := by have zz := wf_set (i := 0) (r := S.length) hw3 hf1 ((List.getElem?_eq_some_iff.mp hf2).1); exact zz
  have hz8 : ie_zr (SNX1_2 S o) M := zr_set hz4
  have hf9 : (SNX1_3 S o)[o]? = some (3, 3, [some (some S.length), some none, some none]) := ap_at hf5
  have hf10 : (SNX1_3 S o)[S.length]? = some (0, 150, []) := ap_at hf6
  have hf11 : (SNX1_3 S o)[(SNX1_2 S o).length]? = some (0, 150, []) := nw_at
  have hw12 : ie_wf (SNX1_3 S o) M := wf_app hw7 (by simp) hz8
  have hz13 : ie_zr (SNX1_3 S o) M := zr_app hz8
  have hf14 : (SNX1_4 S o)[o]? = some (3, 3, [some (some S.length), some (some (SNX1_2 S o).length), some none]) := st_at hf9
  have hf15 : (SNX1_4 S o)[S.length]? = some (0, 150, []) := st_at' hf10 (Nat.ne_of_lt (List.getElem?_eq_some_iff.mp ho).1)
  have hf16 : (SNX1_4 S o)[(SNX1_2 S o).length]? = some (0, 150, []) := st_at' hf11 (Nat.ne_of_lt (List.getElem?_eq_some_iff.mp hf5).1)
  have hw17 : ie_wf (SNX1_4 S o) M := by have zz := wf_set (i := 1) (r := (SNX1_2 S o).length) hw12 hf9 ((List.getElem?_eq_some_iff.mp hf11).1); exact zz
  have hz18 : ie_zr (SNX1_4 S o) M := zr_set hz13
  have hf19 : (SNX1_5 S o)[o]? = some (3, 3, [some (some S.length), some (some (SNX1_2 S o).length), some none]) := ap_at hf14
  have hf20 : (SNX1_5 S o)[S.length]? = some (0, 150, []) := ap_at hf15
  have hf21 : (SNX1_5 S o)[(SNX1_2 S o).length]? = some (0, 150, []) := ap_at hf16
  have hf22 : (SNX1_5 S o)[(SNX1_4 S o).length]? = some (0, 150, []) := nw_at
  have hw23 : ie_wf (SNX1_5 S o) M := wf_app hw17 (by simp) hz18
  have hz24 : ie_zr (SNX1_5 S o) M := zr_app hz18
  have hf25 : (SNX1_6 S o)[o]? = some (3, 3, [some (some S.length), some (some (SNX1_2 S o).length), some (some (SNX1_4 S o).length)]) := st_at hf19
  have hf26 : (SNX1_6 S o)[S.length]? = some (0, 150, []) := st_at' hf20 (Nat.ne_of_lt (List.getElem?_eq_some_iff.mp ho).1)
  have hf27 : (SNX1_6 S o)[(SNX1_2 S o).length]? = some (0, 150, []) := st_at' hf21 (Nat.ne_of_lt (List.getElem?_eq_some_iff.mp hf5).1)
  have hf28 : (SNX1_6 S o)[(SNX1_4 S o).length]? = some (0, 150, []) := st_at' hf22 (Nat.ne_of_lt (List.getElem?_eq_some_iff.mp hf14).1)
  have hw29 : ie_wf (SNX1_6 S o) M := by have zz := wf_set (i := 2) (r := (SNX1_4 S o).length) hw23 hf19 ((List.getElem?_eq_some_iff.mp hf22).1); exact zz
  have hz30 : ie_zr (SNX1_6 S o) M := zr_set hz24
  exact ⟨hf25, hw29, hz30, len6, fun p x hp h => (st_at' (ap_at (st_at' (ap_at (st_at' (ap_at h) (fun e => hp e.symm))) (fun e => hp e.symm))) (fun e => hp e.symm))⟩
set_option maxRecDepth 100000 in
set_option maxHeartbeats 8000000 in
theorem tc_X1 {g : IG} {a : Nat → Nat} {S : List IK} {M : IM} {o : Nat} (ho : S[o]? = some (3, 3, [some none, some none, some none])) (hwf : ie_wf S M) (hz : ie_zr S M) : Cn g mX1_init 1 3 450 (qC (SNX1 S o) (MNX1 S M o) S.length a) [.ref (a o)] a S M := by
  refine Cn_of (L := [some (.ref (a o))]) mf_X1_init (cat_r cat_0) (Nat.le_of_ble_eq_true rfl) rfl ?_
  have len1 : (SNX1_1 S o).length = S.length + 1 := by show (S ++ [_]).length = _; rw [List.length_append, List.length_singleton]
  have len2 : (SNX1_2 S o).length = S.length + 1 := by show ((SNX1_1 S o).set _ _).length = _; rw [List.length_set, len1]
  have len3 : (SNX1_3 S o).length = S.length + 2 := by show ((SNX1_2 S o) ++ [_]).length = _; rw [List.length_append, List.length_singleton, len2]
  have len4 : (SNX1_4 S o).length = S.length + 2 := by show ((SNX1_3 S o).set _ _).length = _; rw [List.length_set, len3]
  have len5 : (SNX1_5 S o).length = S.length + 3 := by show ((SNX1_4 S o) ++ [_]).length = _; rw [List.length_append, List.length_singleton, len4]
  have len6 : (SNX1_6 S o).length = S.length + 3 := by show ((SNX1_5 S o).set _ _).length = _; rw [List.length_set, len5]
  refine V_aload_n rfl dX1_init_0 rfl rfl ?_
  refine V_obj rfl dX1_init_1 ⟨w_380, w_166, w_167⟩ rfl ?_
  refine V_aload_n rfl dX1_init_4 rfl rfl ?_
  refine V_sipush (v := 150) rfl dX1_init_5 ks_150 ?_
  refine V_newa (n := 150) (fun a => [some (.ref (a o))]) (fun a => [.ref (a o)]) rfl dX1_init_8 w_245 (by decide +kernel) hwf hz ⟨rfl, rfl⟩ (fun a' h => ⟨by first | rfl | simp only [h _ ((List.getElem?_eq_some_iff.mp ho).1)], by first | rfl | simp only [h _ ((List.getElem?_eq_some_iff.mp ho).1)]⟩) (fun a1 hg0 => ?_)
  have hf1 : (SNX1_1 S o)[o]? = some (3, 3, [some none, some none, some none]) := ap_at ho
  have hf2 : (SNX1_1 S o)[S.length]? = some (0, 150, []) := nw_at
  have hw3 : ie_wf (SNX1_1 S o) M := wf_app hwf (by simp) hz
  have hz4 : ie_zr (SNX1_1 S o) M := zr_app hz
  show V _ _ _ _ _ _ _ _ _ _ (SNX1_1 S o) M _ _
  refine V_putr (k0 := 0) (ty := (.array .int)) (r := S.length) rfl dX1_init_10 hf1 icX1 tyX1_ok nmX1 (by decide) (Nat.le_of_ble_eq_true rfl) w_381 rfl rfl rfl (tyX1_ok _ (by decide)) rfl rfl ?_
  have hf5 : (SNX1_2 S o)[o]? = some (3, 3, [some (some S.length), some none, some none]) := st_at hf1
  have hf6 : (SNX1_2 S o)[S.length]? = some (0, 150, []) := st_at' hf2 (Nat.ne_of_lt (List.getElem?_eq_some_iff.mp ho).1)
  have hw7 : ie_wf (SNX1_2 S o) M := by have zz := wf_set (i := 0) (r := S.length) hw3 hf1 ((List.getElem?_eq_some_iff.mp hf2).1); exact zz
  have hz8 : ie_zr (SNX1_2 S o) M := zr_set hz4
  show V _ _ _ _ _ _ _ _ _ _ (SNX1_2 S o) M _ _
  refine V_aload_n rfl dX1_init_13 rfl rfl ?_
  refine V_sipush (v := 150) rfl dX1_init_14 ks_150 ?_
  refine V_newa (n := 150) (fun a => [some (.ref (a o))]) (fun a => [.ref (a o)]) rfl dX1_init_17 w_245 (by decide +kernel) hw7 hz8 ⟨rfl, rfl⟩ (fun a' h => ⟨by first | rfl | simp only [h _ ((List.getElem?_eq_some_iff.mp hf5).1)], by first | rfl | simp only [h _ ((List.getElem?_eq_some_iff.mp hf5).1)]⟩) (fun a11 hg1 => ?_)
  have hf9 : (SNX1_3 S o)[o]? = some (3, 3, [some (some S.length), some none, some none]) := ap_at hf5
  have hf10 : (SNX1_3 S o)[S.length]? = some (0, 150, []) := ap_at hf6
  have hf11 : (SNX1_3 S o)[(SNX1_2 S o).length]? = some (0, 150, []) := nw_at
  have hw12 : ie_wf (SNX1_3 S o) M := wf_app hw7 (by simp) hz8
  have hz13 : ie_zr (SNX1_3 S o) M := zr_app hz8
  show V _ _ _ _ _ _ _ _ _ _ (SNX1_3 S o) M _ _
  refine V_putr (k0 := 1) (ty := (.array .int)) (r := (SNX1_2 S o).length) rfl dX1_init_19 hf9 icX1 tyX1_ok nmX1 (by decide) (Nat.le_of_ble_eq_true rfl) w_383 rfl rfl rfl (tyX1_ok _ (by decide)) rfl rfl ?_
  have hf14 : (SNX1_4 S o)[o]? = some (3, 3, [some (some S.length), some (some (SNX1_2 S o).length), some none]) := st_at hf9
  have hf15 : (SNX1_4 S o)[S.length]? = some (0, 150, []) := st_at' hf10 (Nat.ne_of_lt (List.getElem?_eq_some_iff.mp ho).1)
  have hf16 : (SNX1_4 S o)[(SNX1_2 S o).length]? = some (0, 150, []) := st_at' hf11 (Nat.ne_of_lt (List.getElem?_eq_some_iff.mp hf5).1)
  have hw17 : ie_wf (SNX1_4 S o) M := by have zz := wf_set (i := 1) (r := (SNX1_2 S o).length) hw12 hf9 ((List.getElem?_eq_some_iff.mp hf11).1); exact zz
  have hz18 : ie_zr (SNX1_4 S o) M := zr_set hz13
  show V _ _ _ _ _ _ _ _ _ _ (SNX1_4 S o) M _ _
  refine V_aload_n rfl dX1_init_22 rfl rfl ?_
  refine V_sipush (v := 150) rfl dX1_init_23 ks_150 ?_
  refine V_newa (n := 150) (fun a => [some (.ref (a o))]) (fun a => [.ref (a o)]) rfl dX1_init_26 w_245 (by decide +kernel) hw17 hz18 ⟨rfl, rfl⟩ (fun a' h => ⟨by first | rfl | simp only [h _ ((List.getElem?_eq_some_iff.mp hf14).1)], by first | rfl | simp only [h _ ((List.getElem?_eq_some_iff.mp hf14).1)]⟩) (fun a111 hg2 => ?_)
  have hf19 : (SNX1_5 S o)[o]? = some (3, 3, [some (some S.length), some (some (SNX1_2 S o).length), some none]) := ap_at hf14
  have hf20 : (SNX1_5 S o)[S.length]? = some (0, 150, []) := ap_at hf15
  have hf21 : (SNX1_5 S o)[(SNX1_2 S o).length]? = some (0, 150, []) := ap_at hf16
  have hf22 : (SNX1_5 S o)[(SNX1_4 S o).length]? = some (0, 150, []) := nw_at
  have hw23 : ie_wf (SNX1_5 S o) M := wf_app hw17 (by simp) hz18
  have hz24 : ie_zr (SNX1_5 S o) M := zr_app hz18
  show V _ _ _ _ _ _ _ _ _ _ (SNX1_5 S o) M _ _
  refine V_putr (k0 := 2) (ty := (.array .int)) (r := (SNX1_4 S o).length) rfl dX1_init_28 hf19 icX1 tyX1_ok nmX1 (by decide) (Nat.le_of_ble_eq_true rfl) w_385 rfl rfl rfl (tyX1_ok _ (by decide)) rfl rfl ?_
  have hf25 : (SNX1_6 S o)[o]? = some (3, 3, [some (some S.length), some (some (SNX1_2 S o).length), some (some (SNX1_4 S o).length)]) := st_at hf19
  have hf26 : (SNX1_6 S o)[S.length]? = some (0, 150, []) := st_at' hf20 (Nat.ne_of_lt (List.getElem?_eq_some_iff.mp ho).1)
  have hf27 : (SNX1_6 S o)[(SNX1_2 S o).length]? = some (0, 150, []) := st_at' hf21 (Nat.ne_of_lt (List.getElem?_eq_some_iff.mp hf5).1)
  have hf28 : (SNX1_6 S o)[(SNX1_4 S o).length]? = some (0, 150, []) := st_at' hf22 (Nat.ne_of_lt (List.getElem?_eq_some_iff.mp hf14).1)
  have hw29 : ie_wf (SNX1_6 S o) M := by have zz := wf_set (i := 2) (r := (SNX1_4 S o).length) hw23 hf19 ((List.getElem?_eq_some_iff.mp hf22).1); exact zz
  have hz30 : ie_zr (SNX1_6 S o) M := zr_set hz24
  show V _ _ _ _ _ _ _ _ _ _ (SNX1_6 S o) M _ _
  exact V_vret dX1_init_31 rfl (by decide) (by decide) ⟨rfl, rfl, rfl, fun p hp => by rw [hg2 p (by rw [len4]; omega), hg1 p (by rw [len2]; omega), hg0 p hp]⟩
def SNX5_1 (S : List IK) (o : Nat) : List IK := S ++ [(1, 6, [])]
def SNX5_2 (S : List IK) (o : Nat) : List IK := (SNX5_1 S o).set o (7, 2, [none, some (some S.length)])
def SNX5_3 (S : List IK) (o : Nat) : List IK := (SNX5_2 S o) ++ [(6, 15, [none, none, none, none, none, none, none, none, none, none, none, some none, some none, some none, some none])]
def SNX5_4 (S : List IK) (o : Nat) : List IK := (SNX4 (SNX5_3 S o) (SNX5_2 S o).length)
def SNX5_5 (S : List IK) (o : Nat) : List IK := (SNX5_4 S o) ++ [(6, 15, [none, none, none, none, none, none, none, none, none, none, none, some none, some none, some none, some none])]
def SNX5_6 (S : List IK) (o : Nat) : List IK := (SNX4 (SNX5_5 S o) (SNX5_4 S o).length)
def SNX5_7 (S : List IK) (o : Nat) : List IK := (SNX5_6 S o) ++ [(6, 15, [none, none, none, none, none, none, none, none, none, none, none, some none, some none, some none, some none])]
def SNX5_8 (S : List IK) (o : Nat) : List IK := (SNX4 (SNX5_7 S o) (SNX5_6 S o).length)
def SNX5_9 (S : List IK) (o : Nat) : List IK := (SNX5_8 S o) ++ [(6, 15, [none, none, none, none, none, none, none, none, none, none, none, some none, some none, some none, some none])]
def SNX5_10 (S : List IK) (o : Nat) : List IK := (SNX4 (SNX5_9 S o) (SNX5_8 S o).length)
def SNX5_11 (S : List IK) (o : Nat) : List IK := (SNX5_10 S o) ++ [(6, 15, [none, none, none, none, none, none, none, none, none, none, none, some none, some none, some none, some none])]
def SNX5_12 (S : List IK) (o : Nat) : List IK := (SNX4 (SNX5_11 S o) (SNX5_10 S o).length)
def SNX5_13 (S : List IK) (o : Nat) : List IK := (SNX5_12 S o) ++ [(6, 15, [none, none, none, none, none, none, none, none, none, none, none, some none, some none, some none, some none])]
def SNX5_14 (S : List IK) (o : Nat) : List IK := (SNX4 (SNX5_13 S o) (SNX5_12 S o).length)
def SNX5 (S : List IK) (o : Nat) : List IK := (SNX5_14 S o)
def MNX5_1 (S : List IK) (M : IM) (o : Nat) : IM := (MNX4 (SNX5_3 S o) M (SNX5_2 S o).length)
def MNX5_2 (S : List IK) (M : IM) (o : Nat) : IM := ms (MNX5_1 S M o) S.length 0 (Int32.ofNat ((SNX5_2 S o).length + 1))
def MNX5_3 (S : List IK) (M : IM) (o : Nat) : IM := (MNX4 (SNX5_5 S o) (MNX5_2 S M o) (SNX5_4 S o).length)
def MNX5_4 (S : List IK) (M : IM) (o : Nat) : IM := ms (MNX5_3 S M o) S.length 1 (Int32.ofNat ((SNX5_4 S o).length + 1))
def MNX5_5 (S : List IK) (M : IM) (o : Nat) : IM := (MNX4 (SNX5_7 S o) (MNX5_4 S M o) (SNX5_6 S o).length)
def MNX5_6 (S : List IK) (M : IM) (o : Nat) : IM := ms (MNX5_5 S M o) S.length 2 (Int32.ofNat ((SNX5_6 S o).length + 1))
def MNX5_7 (S : List IK) (M : IM) (o : Nat) : IM := (MNX4 (SNX5_9 S o) (MNX5_6 S M o) (SNX5_8 S o).length)
def MNX5_8 (S : List IK) (M : IM) (o : Nat) : IM := ms (MNX5_7 S M o) S.length 3 (Int32.ofNat ((SNX5_8 S o).length + 1))
def MNX5_9 (S : List IK) (M : IM) (o : Nat) : IM := (MNX4 (SNX5_11 S o) (MNX5_8 S M o) (SNX5_10 S o).length)
def MNX5_10 (S : List IK) (M : IM) (o : Nat) : IM := ms (MNX5_9 S M o) S.length 4 (Int32.ofNat ((SNX5_10 S o).length + 1))
def MNX5_11 (S : List IK) (M : IM) (o : Nat) : IM := (MNX4 (SNX5_13 S o) (MNX5_10 S M o) (SNX5_12 S o).length)
def MNX5_12 (S : List IK) (M : IM) (o : Nat) : IM := ms (MNX5_11 S M o) S.length 5 (Int32.ofNat ((SNX5_12 S o).length + 1))
def MNX5 (S : List IK) (M : IM) (o : Nat) : IM := (MNX5_12 S M o)
def RNX5_1 (S : List IK) (o : Nat) : Nat := S.length
def CBX5 (S : List IK) (M : IM) (o : Nat) : Prop := (SNX5 S o)[o]? = some (7, 2, [none, some (some (RNX5_1 S o))]) ∧ ie_wf (SNX5 S o) (MNX5 S M o) ∧ ie_zr (SNX5 S o) (MNX5 S M o) ∧ (SNX5 S o).length = S.length + 31 ∧ ∀ (p : Nat) (x : IK), ¬ p = o → S[p]? = some x → (SNX5 S o)[p]? = some x
set_option maxRecDepth 100000 in
set_option maxHeartbeats 4000000 in
theorem cb_X5 {S : List IK} {M : IM} {o : Nat} (ho : S[o]? = some (7, 2, [none, some none])) (hwf : ie_wf S M) (hz : ie_zr S M) (hB : S.length < 1000) : CBX5 S M o := by
  have len1 : (SNX5_1 S o).length = S.length + 1 := by show (S ++ [_]).length = _; rw [List.length_append, List.length_singleton]
  have len2 : (SNX5_2 S o).length = S.length + 1 := by show ((SNX5_1 S o).set _ _).length = _; rw [List.length_set, len1]
  have len3 : (SNX5_3 S o).length = S.length + 2 := by show ((SNX5_2 S o) ++ [_]).length = _; rw [List.length_append, List.length_singleton, len2]
  have hf1 : (SNX5_1 S o)[o]? = some (7, 2, [none, some none]) := ap_at ho
  have hf2 : (SNX5_1 S o)[S.length]? = some (1, 6, []) := nw_at
  have hw3 : ie_wf (SNX5_1 S o) M := wf_app hwf (by simp) hz
  have hz4 : ie_zr (SNX5_1 S o) M := zr_app hz
  have hf5 : (SNX5_2 S o)[o]? = some (7, 2, [none, some (some S.length)]) := st_at hf1
  have hf6 : (SNX5_2 S o)[S.length]? = some (1, 6, []) := st_at' hf2 (Nat.ne_of_lt (List.getElem?_eq_some_iff.mp ho).1)
  have hw7 : ie_wf (SNX5_2 S o) M := by have zz := wf_set (i := 1) (r := S.length) hw3 hf1 ((List.getElem?_eq_some_iff.mp hf2).1); exact zz
  have hz8 : ie_zr (SNX5_2 S o) M := zr_set hz4
  have hf9 : (SNX5_3 S o)[o]? = some (7, 2, [none, some (some S.length)]) := ap_at hf5
  have hf10 : (SNX5_3 S o)[S.length]? = some (1, 6, []) := ap_at hf6
  have hf11 : (SNX5_3 S o)[(SNX5_2 S o).length]? = some (6, 15, [none, none, none, none, none, none, none, none, none, none, none, some none, some none, some none, some none]) := nw_at
  have hw12 : ie_wf (SNX5_3 S o) M := wf_app hw7 (by simp) hz8
  have hz13 : ie_zr (SNX5_3 S o) M := zr_app hz8
  have hb14 : CBX4 (SNX5_3 S o) M (SNX5_2 S o).length := cb_X4 hf11 hw12 hz13
  have len4 : (SNX5_4 S o).length = S.length + 6 := by have e := hb14.2.2.2.1; rw [show (SNX5_4 S o).length = _ from e, len3]
  have len5 : (SNX5_5 S o).length = S.length + 7 := by show ((SNX5_4 S o) ++ [_]).length = _; rw [List.length_append, List.length_singleton, len4]
  have hf15 : (SNX5_4 S o)[o]? = some (7, 2, [none, some (some S.length)]) := hb14.2.2.2.2 _ _ (Nat.ne_of_lt (List.getElem?_eq_some_iff.mp hf5).1) hf9
  have hf16 : (SNX5_4 S o)[S.length]? = some (1, 6, []) := hb14.2.2.2.2 _ _ (Nat.ne_of_lt (List.getElem?_eq_some_iff.mp hf6).1) hf10
  have hf17 : (SNX5_4 S o)[(SNX5_2 S o).length]? = some (6, 15, [none, none, none, none, none, none, none, none, none, none, none, some (some (RNX4_11 (SNX5_3 S o) (SNX5_2 S o).length)), some (some (RNX4_12 (SNX5_3 S o) (SNX5_2 S o).length)), some (some (RNX4_13 (SNX5_3 S o) (SNX5_2 S o).length)), some (some (RNX4_14 (SNX5_3 S o) (SNX5_2 S o).length))]) := hb14.1
  have hw18 : ie_wf (SNX5_4 S o) (MNX5_1 S M o) := hb14.2.1
  have hz19 : ie_zr (SNX5_4 S o) (MNX5_1 S M o) := hb14.2.2.1
  have hB0 : (SNX5_4 S o).length ≤ 100000 := by rw [len4]; omega
  have hb20 : (SNX5_2 S o).length < 100000 := Nat.lt_of_lt_of_le ((List.getElem?_eq_some_iff.mp hf17).1) hB0
  have hw21 : ie_wf (SNX5_4 S o) (MNX5_2 S M o) := wf_ms hw18 hf16 (Or.inr (by have e1 := nI_clamp (n := (SNX5_2 S o).length + 1) (by omega); have e2 := (List.getElem?_eq_some_iff.mp hf17).1; show (nI ((SNX5_2 S o).length + 1)).toNatClampNeg ≤ _; rw [e1]; exact e2))
  have hz22 : ie_zr (SNX5_4 S o) (MNX5_2 S M o) := zr_ms hz19 ((List.getElem?_eq_some_iff.mp hf16).1)
  have hf23 : (SNX5_5 S o)[o]? = some (7, 2, [none, some (some S.length)]) := ap_at hf15
  have hf24 : (SNX5_5 S o)[S.length]? = some (1, 6, []) := ap_at hf16
  have hf25 : (SNX5_5 S o)[(SNX5_2 S o).length]? = some (6, 15, [none, none, none, none, none, none, none, none, none, none, none, some (some (RNX4_11 (SNX5_3 S o) (SNX5_2 S o).length)), some (some (RNX4_12 (SNX5_3 S o) (SNX5_2 S o).length)), some (some (RNX4_13 (SNX5_3 S o) (SNX5_2 S o).length)), some (some (RNX4_14 (SNX5_3 S o) (SNX5_2 S o).length))]) := ap_at hf17
  have hf26 : (SNX5_5 S o)[(SNX5_4 S o).length]? = some (6, 15, [none, none, none, none, none, none, none, none, none, none, none, some none, some none, some none, some none]) := nw_at
  have hw27 : ie_wf (SNX5_5 S o) (MNX5_2 S M o) := wf_app hw21 (by simp) hz22
  have hz28 : ie_zr (SNX5_5 S o) (MNX5_2 S M o) := zr_app hz22
  have hb29 : CBX4 (SNX5_5 S o) (MNX5_2 S M o) (SNX5_4 S o).length := cb_X4 hf26 hw27 hz28
  have len6 : (SNX5_6 S o).length = S.length + 11 := by have e := hb29.2.2.2.1; rw [show (SNX5_6 S o).length = _ from e, len5]
  have len7 : (SNX5_7 S o).length = S.length + 12 := by show ((SNX5_6 S o) ++ [_]).length = _; rw [List.length_append, List.length_singleton, len6]
  have hf30 : (SNX5_6 S o)[o]? = some (7, 2, [none, some (some S.length)]) := hb29.2.2.2.2 _ _ (Nat.ne_of_lt (List.getElem?_eq_some_iff.mp hf15).1) hf23
  have hf31 : (SNX5_6 S o)[S.length]? = some (1, 6, []) := hb29.2.2.2.2 _ _ (Nat.ne_of_lt (List.getElem?_eq_some_iff.mp hf16).1) hf24
  have hf32 : (SNX5_6 S o)[(SNX5_2 S o).length]? = some (6, 15, [none, none, none, none, none, none, none, none, none, none, none, some (some (RNX4_11 (SNX5_3 S o) (SNX5_2 S o).length)), some (some (RNX4_12 (SNX5_3 S o) (SNX5_2 S o).length)), some (some (RNX4_13 (SNX5_3 S o) (SNX5_2 S o).length)), some (some (RNX4_14 (SNX5_3 S o) (SNX5_2 S o).length))]) := hb29.2.2.2.2 _ _ (Nat.ne_of_lt (List.getElem?_eq_some_iff.mp hf17).1) hf25
  have hf33 : (SNX5_6 S o)[(SNX5_4 S o).length]? = some (6, 15, [none, none, none, none, none, none, none, none, none, none, none, some (some (RNX4_11 (SNX5_5 S o) (SNX5_4 S o).length)), some (some (RNX4_12 (SNX5_5 S o) (SNX5_4 S o).length)), some (some (RNX4_13 (SNX5_5 S o) (SNX5_4 S o).length)), some (some (RNX4_14 (SNX5_5 S o) (SNX5_4 S o).length))]) := hb29.1
  have hw34 : ie_wf (SNX5_6 S o) (MNX5_3 S M o) := hb29.2.1
  have hz35 : ie_zr (SNX5_6 S o) (MNX5_3 S M o) := hb29.2.2.1
  have hB1 : (SNX5_6 S o).length ≤ 100000 := by rw [len6]; omega
  have hb36 : (SNX5_4 S o).length < 100000 := Nat.lt_of_lt_of_le ((List.getElem?_eq_some_iff.mp hf33).1) hB1
  have hw37 : ie_wf (SNX5_6 S o) (MNX5_4 S M o) := wf_ms hw34 hf31 (Or.inr (by have e1 := nI_clamp (n := (SNX5_4 S o).length + 1) (by omega); have e2 := (List.getElem?_eq_some_iff.mp hf33).1; show (nI ((SNX5_4 S o).length + 1)).toNatClampNeg ≤ _; rw [e1]; exact e2))
  have hz38 : ie_zr (SNX5_6 S o) (MNX5_4 S M o) := zr_ms hz35 ((List.getElem?_eq_some_iff.mp hf31).1)
  have hf39 : (SNX5_7 S o)[o]? = some (7, 2, [none, some (some S.length)]) := ap_at hf30
  have hf40 : (SNX5_7 S o)[S.length]? = some (1, 6, []) := ap_at hf31
  have hf41 : (SNX5_7 S o)[(SNX5_2 S o).length]? = some (6, 15, [none, none, none, none, none, none, none, none, none, none, none, some (some (RNX4_11 (SNX5_3 S o) (SNX5_2 S o).length)), some (some (RNX4_12 (SNX5_3 S o) (SNX5_2 S o).length)), some (some (RNX4_13 (SNX5_3 S o) (SNX5_2 S o).length)), some (some (RNX4_14 (SNX5_3 S o) (SNX5_2 S o).length))]) := ap_at hf32
  have hf42 : (SNX5_7 S o)[(SNX5_4 S o).length]? = some (6, 15, [none, none, none, none, none, none, none, none, none, none, none, some (some (RNX4_11 (SNX5_5 S o) (SNX5_4 S o).length)), some (some (RNX4_12 (SNX5_5 S o) (SNX5_4 S o).length)), some (some (RNX4_13 (SNX5_5 S o) (SNX5_4 S o).length)), some (some (RNX4_14 (SNX5_5 S o) (SNX5_4 S o).length))]) := ap_at hf33
  have hf43 : (SNX5_7 S o)[(SNX5_6 S o).length]? = some (6, 15, [none, none, none, none, none, none, none, none, none, none, none, some none, some none, some none, some none]) := nw_at
  have hw44 : ie_wf (SNX5_7 S o) (MNX5_4 S M o) := wf_app hw37 (by simp) hz38
  have hz45 : ie_zr (SNX5_7 S o) (MNX5_4 S M o) := zr_app hz38
  have hb46 : CBX4 (SNX5_7 S o) (MNX5_4 S M o) (SNX5_6 S o).length := cb_X4 hf43 hw44 hz45
  have len8 : (SNX5_8 S o).length = S.length + 16 := by have e := hb46.2.2.2.1; rw [show (SNX5_8 S o).length = _ from e, len7]
  have len9 : (SNX5_9 S o).length = S.length + 17 := by show ((SNX5_8 S o) ++ [_]).length = _; rw [List.length_append, List.length_singleton, len8]
  have hf47 : (SNX5_8 S o)[o]? = some (7, 2, [none, some (some S.length)]) := hb46.2.2.2.2 _ _ (Nat.ne_of_lt (List.getElem?_eq_some_iff.mp hf30).1) hf39
  have hf48 : (SNX5_8 S o)[S.length]? = some (1, 6, []) := hb46.2.2.2.2 _ _ (Nat.ne_of_lt (List.getElem?_eq_some_iff.mp hf31).1) hf40
  have hf49 : (SNX5_8 S o)[(SNX5_2 S o).length]? = some (6, 15, [none, none, none, none, none, none, none, none, none, none, none, some (some (RNX4_11 (SNX5_3 S o) (SNX5_2 S o).length)), some (some (RNX4_12 (SNX5_3 S o) (SNX5_2 S o).length)), some (some (RNX4_13 (SNX5_3 S o) (SNX5_2 S o).length)), some (some (RNX4_14 (SNX5_3 S o) (SNX5_2 S o).length))]) := hb46.2.2.2.2 _ _ (Nat.ne_of_lt (List.getElem?_eq_some_iff.mp hf32).1) hf41
  have hf50 : (SNX5_8 S o)[(SNX5_4 S o).length]? = some (6, 15, [none, none, none, none, none, none, none, none, none, none, none, some (some (RNX4_11 (SNX5_5 S o) (SNX5_4 S o).length)), some (some (RNX4_12 (SNX5_5 S o) (SNX5_4 S o).length)), some (some (RNX4_13 (SNX5_5 S o) (SNX5_4 S o).length)), some (some (RNX4_14 (SNX5_5 S o) (SNX5_4 S o).length))]) := hb46.2.2.2.2 _ _ (Nat.ne_of_lt (List.getElem?_eq_some_iff.mp hf33).1) hf42
  have hf51 : (SNX5_8 S o)[(SNX5_6 S o).length]? = some (6, 15, [none, none, none, none, none, none, none, none, none, none, none, some (some (RNX4_11 (SNX5_7 S o) (SNX5_6 S o).length)), some (some (RNX4_12 (SNX5_7 S o) (SNX5_6 S o).length)), some (some (RNX4_13 (SNX5_7 S o) (SNX5_6 S o).length)), some (some (RNX4_14 (SNX5_7 S o) (SNX5_6 S o).length))]) := hb46.1
  have hw52 : ie_wf (SNX5_8 S o) (MNX5_5 S M o) := hb46.2.1
  have hz53 : ie_zr (SNX5_8 S o) (MNX5_5 S M o) := hb46.2.2.1
  have hB2 : (SNX5_8 S o).length ≤ 100000 := by rw [len8]; omega
  have hb54 : (SNX5_6 S o).length < 100000 := Nat.lt_of_lt_of_le ((List.getElem?_eq_some_iff.mp hf51).1) hB2
  have hw55 : ie_wf (SNX5_8 S o) (MNX5_6 S M o) := wf_ms hw52 hf48 (Or.inr (by have e1 := nI_clamp (n := (SNX5_6 S o).length + 1) (by omega); have e2 := (List.getElem?_eq_some_iff.mp hf51).1; show (nI ((SNX5_6 S o).length + 1)).toNatClampNeg ≤ _; rw [e1]; exact e2))
  have hz56 : ie_zr (SNX5_8 S o) (MNX5_6 S M o) := zr_ms hz53 ((List.getElem?_eq_some_iff.mp hf48).1)
  have hf57 : (SNX5_9 S o)[o]? = some (7, 2, [none, some (some S.length)]) := ap_at hf47
  have hf58 : (SNX5_9 S o)[S.length]? = some (1, 6, []) := ap_at hf48
  have hf59 : (SNX5_9 S o)[(SNX5_2 S o).length]? = some (6, 15, [none, none, none, none, none, none, none, none, none, none, none, some (some (RNX4_11 (SNX5_3 S o) (SNX5_2 S o).length)), some (some (RNX4_12 (SNX5_3 S o) (SNX5_2 S o).length)), some (some (RNX4_13 (SNX5_3 S o) (SNX5_2 S o).length)), some (some (RNX4_14 (SNX5_3 S o) (SNX5_2 S o).length))]) := ap_at hf49
  have hf60 : (SNX5_9 S o)[(SNX5_4 S o).length]? = some (6, 15, [none, none, none, none, none, none, none, none, none, none, none, some (some (RNX4_11 (SNX5_5 S o) (SNX5_4 S o).length)), some (some (RNX4_12 (SNX5_5 S o) (SNX5_4 S o).length)), some (some (RNX4_13 (SNX5_5 S o) (SNX5_4 S o).length)), some (some (RNX4_14 (SNX5_5 S o) (SNX5_4 S o).length))]) := ap_at hf50
  have hf61 : (SNX5_9 S o)[(SNX5_6 S o).length]? = some (6, 15, [none, none, none, none, none, none, none, none, none, none, none, some (some (RNX4_11 (SNX5_7 S o) (SNX5_6 S o).length)), some (some (RNX4_12 (SNX5_7 S o) (SNX5_6 S o).length)), some (some (RNX4_13 (SNX5_7 S o) (SNX5_6 S o).length)), some (some (RNX4_14 (SNX5_7 S o) (SNX5_6 S o).length))]) := ap_at hf51
  have hf62 : (SNX5_9 S o)[(SNX5_8 S o).length]? = some (6, 15, [none, none, none, none, none, none, none, none, none, none, none, some none, some none, some none, some none]) := nw_at
  have hw63 : ie_wf (SNX5_9 S o) (MNX5_6 S M o) := wf_app hw55 (by simp) hz56
  have hz64 : ie_zr (SNX5_9 S o) (MNX5_6 S M o) := zr_app hz56
  have hb65 : CBX4 (SNX5_9 S o) (MNX5_6 S M o) (SNX5_8 S o).length := cb_X4 hf62 hw63 hz64
  have len10 : (SNX5_10 S o).length = S.length + 21 := by have e := hb65.2.2.2.1; rw [show (SNX5_10 S o).length = _ from e, len9]
  have len11 : (SNX5_11 S o).length = S.length + 22 := by show ((SNX5_10 S o) ++ [_]).length = _; rw [List.length_append, List.length_singleton, len10]
  have hf66 : (SNX5_10 S o)[o]? = some (7, 2, [none, some (some S.length)]) := hb65.2.2.2.2 _ _ (Nat.ne_of_lt (List.getElem?_eq_some_iff.mp hf47).1) hf57
  have hf67 : (SNX5_10 S o)[S.length]? = some (1, 6, []) := hb65.2.2.2.2 _ _ (Nat.ne_of_lt (List.getElem?_eq_some_iff.mp hf48).1) hf58
  have hf68 : (SNX5_10 S o)[(SNX5_2 S o).length]? = some (6, 15, [none, none, none, none, none, none, none, none, none, none, none, some (some (RNX4_11 (SNX5_3 S o) (SNX5_2 S o).length)), some (some (RNX4_12 (SNX5_3 S o) (SNX5_2 S o).length)), some (some (RNX4_13 (SNX5_3 S o) (SNX5_2 S o).length)), some (some (RNX4_14 (SNX5_3 S o) (SNX5_2 S o).length))]) := hb65.2.2.2.2 _ _ (Nat.ne_of_lt (List.getElem?_eq_some_iff.mp hf49).1) hf59
  have hf69 : (SNX5_10 S o)[(SNX5_4 S o).length]? = some (6, 15, [none, none, none, none, none, none, none, none, none, none, none, some (some (RNX4_11 (SNX5_5 S o) (SNX5_4 S o).length)), some (some (RNX4_12 (SNX5_5 S o) (SNX5_4 S o).length)), some (some (RNX4_13 (SNX5_5 S o) (SNX5_4 S o).length)), some (some (RNX4_14 (SNX5_5 S o) (SNX5_4 S o).length))]) := hb65.2.2.2.2 _ _ (Nat.ne_of_lt (List.getElem?_eq_some_iff.mp hf50).1) hf60
  have hf70 : (SNX5_10 S o)[(SNX5_6 S o).length]? = some (6, 15, [none, none, none, none, none, none, none, none, none, none, none, some (some (RNX4_11 (SNX5_7 S o) (SNX5_6 S o).length)), some (some (RNX4_12 (SNX5_7 S o) (SNX5_6 S o).length)), some (some (RNX4_13 (SNX5_7 S o) (SNX5_6 S o).length)), some (some (RNX4_14 (SNX5_7 S o) (SNX5_6 S o).length))]) := hb65.2.2.2.2 _ _ (Nat.ne_of_lt (List.getElem?_eq_some_iff.mp hf51).1) hf61
  have hf71 : (SNX5_10 S o)[(SNX5_8 S o).length]? = some (6, 15, [none, none, none, none, none, none, none, none, none, none, none, some (some (RNX4_11 (SNX5_9 S o) (SNX5_8 S o).length)), some (some (RNX4_12 (SNX5_9 S o) (SNX5_8 S o).length)), some (some (RNX4_13 (SNX5_9 S o) (SNX5_8 S o).length)), some (some (RNX4_14 (SNX5_9 S o) (SNX5_8 S o).length))]) := hb65.1
  have hw72 : ie_wf (SNX5_10 S o) (MNX5_7 S M o) := hb65.2.1
  have hz73 : ie_zr (SNX5_10 S o) (MNX5_7 S M o) := hb65.2.2.1
  have hB3 : (SNX5_10 S o).length ≤ 100000 := by rw [len10]; omega
  have hb74 : (SNX5_8 S o).length < 100000 := Nat.lt_of_lt_of_le ((List.getElem?_eq_some_iff.mp hf71).1) hB3
  have hw75 : ie_wf (SNX5_10 S o) (MNX5_8 S M o) := wf_ms hw72 hf67 (Or.inr (by have e1 := nI_clamp (n := (SNX5_8 S o).length + 1) (by omega); have e2 := (List.getElem?_eq_some_iff.mp hf71).1; show (nI ((SNX5_8 S o).length + 1)).toNatClampNeg ≤ _; rw [e1]; exact e2))
  have hz76 : ie_zr (SNX5_10 S o) (MNX5_8 S M o) := zr_ms hz73 ((List.getElem?_eq_some_iff.mp hf67).1)
  have hf77 : (SNX5_11 S o)[o]? = some (7, 2, [none, some (some S.length)]) := ap_at hf66
  have hf78 : (SNX5_11 S o)[S.length]? = some (1, 6, []) := ap_at hf67
  have hf79 : (SNX5_11 S o)[(SNX5_2 S o).length]? = some (6, 15, [none, none, none, none, none, none, none, none, none, none, none, some (some (RNX4_11 (SNX5_3 S o) (SNX5_2 S o).length)), some (some (RNX4_12 (SNX5_3 S o) (SNX5_2 S o).length)), some (some (RNX4_13 (SNX5_3 S o) (SNX5_2 S o).length)), some (some (RNX4_14 (SNX5_3 S o) (SNX5_2 S o).length))]) := ap_at hf68
  have hf80 : (SNX5_11 S o)[(SNX5_4 S o).length]? = some (6, 15, [none, none, none, none, none, none, none, none, none, none, none, some (some (RNX4_11 (SNX5_5 S o) (SNX5_4 S o).length)), some (some (RNX4_12 (SNX5_5 S o) (SNX5_4 S o).length)), some (some (RNX4_13 (SNX5_5 S o) (SNX5_4 S o).length)), some (some (RNX4_14 (SNX5_5 S o) (SNX5_4 S o).length))]) := ap_at hf69
  have hf81 : (SNX5_11 S o)[(SNX5_6 S o).length]? = some (6, 15, [none, none, none, none, none, none, none, none, none, none, none, some (some (RNX4_11 (SNX5_7 S o) (SNX5_6 S o).length)), some (some (RNX4_12 (SNX5_7 S o) (SNX5_6 S o).length)), some (some (RNX4_13 (SNX5_7 S o) (SNX5_6 S o).length)), some (some (RNX4_14 (SNX5_7 S o) (SNX5_6 S o).length))]) := ap_at hf70
  have hf82 : (SNX5_11 S o)[(SNX5_8 S o).length]? = some (6, 15, [none, none, none, none, none, none, none, none, none, none, none, some (some (RNX4_11 (SNX5_9 S o) (SNX5_8 S o).length)), some (some (RNX4_12 (SNX5_9 S o) (SNX5_8 S o).length)), some (some (RNX4_13 (SNX5_9 S o) (SNX5_8 S o).length)), some (some (RNX4_14 (SNX5_9 S o) (SNX5_8 S o).length))]) := ap_at hf71
  have hf83 : (SNX5_11 S o)[(SNX5_10 S o).length]? = some (6, 15, [none, none, none, none, none, none, none, none, none, none, none, some none, some none, some none, some none]) := nw_at
  have hw84 : ie_wf (SNX5_11 S o) (MNX5_8 S M o) := wf_app hw75 (by simp) hz76
  have hz85 : ie_zr (SNX5_11 S o) (MNX5_8 S M o) := zr_app hz76
  have hb86 : CBX4 (SNX5_11 S o) (MNX5_8 S M o) (SNX5_10 S o).length := cb_X4 hf83 hw84 hz85
  have len12 : (SNX5_12 S o).length = S.length + 26 := by have e := hb86.2.2.2.1; rw [show (SNX5_12 S o).length = _ from e, len11]
  have len13 : (SNX5_13 S o).length = S.length + 27 := by show ((SNX5_12 S o) ++ [_]).length = _; rw [List.length_append, List.length_singleton, len12]
  have hf87 : (SNX5_12 S o)[o]? = some (7, 2, [none, some (some S.length)]) := hb86.2.2.2.2 _ _ (Nat.ne_of_lt (List.getElem?_eq_some_iff.mp hf66).1) hf77
  have hf88 : (SNX5_12 S o)[S.length]? = some (1, 6, []) := hb86.2.2.2.2 _ _ (Nat.ne_of_lt (List.getElem?_eq_some_iff.mp hf67).1) hf78
  have hf89 : (SNX5_12 S o)[(SNX5_2 S o).length]? = some (6, 15, [none, none, none, none, none, none, none, none, none, none, none, some (some (RNX4_11 (SNX5_3 S o) (SNX5_2 S o).length)), some (some (RNX4_12 (SNX5_3 S o) (SNX5_2 S o).length)), some (some (RNX4_13 (SNX5_3 S o) (SNX5_2 S o).length)), some (some (RNX4_14 (SNX5_3 S o) (SNX5_2 S o).length))]) := hb86.2.2.2.2 _ _ (Nat.ne_of_lt (List.getElem?_eq_some_iff.mp hf68).1) hf79
  have hf90 : (SNX5_12 S o)[(SNX5_4 S o).length]? = some (6, 15, [none, none, none, none, none, none, none, none, none, none, none, some (some (RNX4_11 (SNX5_5 S o) (SNX5_4 S o).length)), some (some (RNX4_12 (SNX5_5 S o) (SNX5_4 S o).length)), some (some (RNX4_13 (SNX5_5 S o) (SNX5_4 S o).length)), some (some (RNX4_14 (SNX5_5 S o) (SNX5_4 S o).length))]) := hb86.2.2.2.2 _ _ (Nat.ne_of_lt (List.getElem?_eq_some_iff.mp hf69).1) hf80
  have hf91 : (SNX5_12 S o)[(SNX5_6 S o).length]? = some (6, 15, [none, none, none, none, none, none, none, none, none, none, none, some (some (RNX4_11 (SNX5_7 S o) (SNX5_6 S o).length)), some (some (RNX4_12 (SNX5_7 S o) (SNX5_6 S o).length)), some (some (RNX4_13 (SNX5_7 S o) (SNX5_6 S o).length)), some (some (RNX4_14 (SNX5_7 S o) (SNX5_6 S o).length))]) := hb86.2.2.2.2 _ _ (Nat.ne_of_lt (List.getElem?_eq_some_iff.mp hf70).1) hf81
  have hf92 : (SNX5_12 S o)[(SNX5_8 S o).length]? = some (6, 15, [none, none, none, none, none, none, none, none, none, none, none, some (some (RNX4_11 (SNX5_9 S o) (SNX5_8 S o).length)), some (some (RNX4_12 (SNX5_9 S o) (SNX5_8 S o).length)), some (some (RNX4_13 (SNX5_9 S o) (SNX5_8 S o).length)), some (some (RNX4_14 (SNX5_9 S o) (SNX5_8 S o).length))]) := hb86.2.2.2.2 _ _ (Nat.ne_of_lt (List.getElem?_eq_some_iff.mp hf71).1) hf82
  have hf93 : (SNX5_12 S o)[(SNX5_10 S o).length]? = some (6, 15, [none, none, none, none, none, none, none, none, none, none, none, some (some (RNX4_11 (SNX5_11 S o) (SNX5_10 S o).length)), some (some (RNX4_12 (SNX5_11 S o) (SNX5_10 S o).length)), some (some (RNX4_13 (SNX5_11 S o) (SNX5_10 S o).length)), some (some (RNX4_14 (SNX5_11 S o) (SNX5_10 S o).length))]) := hb86.1
  have hw94 : ie_wf (SNX5_12 S o) (MNX5_9 S M o) := hb86.2.1
  have hz95 : ie_zr (SNX5_12 S o) (MNX5_9 S M o) := hb86.2.2.1
  have hB4 : (SNX5_12 S o).length ≤ 100000 := by rw [len12]; omega
  have hb96 : (SNX5_10 S o).length < 100000 := Nat.lt_of_lt_of_le ((List.getElem?_eq_some_iff.mp hf93).1) hB4
  have hw97 : ie_wf (SNX5_12 S o) (MNX5_10 S M o) := wf_ms hw94 hf88 (Or.inr (by have e1 := nI_clamp (n := (SNX5_10 S o).length + 1) (by omega); have e2 := (List.getElem?_eq_some_iff.mp hf93).1; show (nI ((SNX5_10 S o).length + 1)).toNatClampNeg ≤ _; rw [e1]; exact e2))
  have hz98 : ie_zr (SNX5_12 S o) (MNX5_10 S M o) := zr_ms hz95 ((List.getElem?_eq_some_iff.mp hf88).1)
  have hf99 : (SNX5_13 S o)[o]? = some (7, 2, [none, some (some S.length)]) := ap_at hf87
  have hf100 : (SNX5_13 S o)[S.length]? = some (1, 6, []) := ap_at hf88
  have hf101 : (SNX5_13 S o)[(SNX5_2 S o).length]? = some (6, 15, [none, none, none, none, none, none, none, none, none, none, none, some (some (RNX4_11 (SNX5_3 S o) (SNX5_2 S o).length)), some (some (RNX4_12 (SNX5_3 S o) (SNX5_2 S o).length)), some (some (RNX4_13 (SNX5_3 S o) (SNX5_2 S o).length)), some (some (RNX4_14 (SNX5_3 S o) (SNX5_2 S o).length))]) := ap_at hf89
  have hf102 : (SNX5_13 S o)[(SNX5_4 S o).length]? = some (6, 15, [none, none, none, none, none, none, none, none, none, none, none, some (some (RNX4_11 (SNX5_5 S o) (SNX5_4 S o).length)), some (some (RNX4_12 (SNX5_5 S o) (SNX5_4 S o).length)), some (some (RNX4_13 (SNX5_5 S o) (SNX5_4 S o).length)), some (some (RNX4_14 (SNX5_5 S o) (SNX5_4 S o).length))]) := ap_at hf90
  have hf103 : (SNX5_13 S o)[(SNX5_6 S o).length]? = some (6, 15, [none, none, none, none, none, none, none, none, none, none, none, some (some (RNX4_11 (SNX5_7 S o) (SNX5_6 S o).length)), some (some (RNX4_12 (SNX5_7 S o) (SNX5_6 S o).length)), some (some (RNX4_13 (SNX5_7 S o) (SNX5_6 S o).length)), some (some (RNX4_14 (SNX5_7 S o) (SNX5_6 S o).length))]) := ap_at hf91
  have hf104 : (SNX5_13 S o)[(SNX5_8 S o).length]? = some (6, 15, [none, none, none, none, none, none, none, none, none, none, none, some (some (RNX4_11 (SNX5_9 S o) (SNX5_8 S o).length)), some (some (RNX4_12 (SNX5_9 S o) (SNX5_8 S o).length)), some (some (RNX4_13 (SNX5_9 S o) (SNX5_8 S o).length)), some (some (RNX4_14 (SNX5_9 S o) (SNX5_8 S o).length))]) := ap_at hf92
  have hf105 : (SNX5_13 S o)[(SNX5_10 S o).length]? = some (6, 15, [none, none, none, none, none, none, none, none, none, none, none, some (some (RNX4_11 (SNX5_11 S o) (SNX5_10 S o).length)), some (some (RNX4_12 (SNX5_11 S o) (SNX5_10 S o).length)), some (some (RNX4_13 (SNX5_11 S o) (SNX5_10 S o).length)), some (some (RNX4_14 (SNX5_11 S o) (SNX5_10 S o).length))]) := ap_at hf93
  have hf106 : (SNX5_13 S o)[(SNX5_12 S o).length]? = some (6, 15, [none, none, none, none, none, none, none, none, none, none, none, some none, some none, some none, some none]) := nw_at
  have hw107 : ie_wf (SNX5_13 S o) (MNX5_10 S M o) := wf_app hw97 (by simp) hz98
  have hz108 : ie_zr (SNX5_13 S o) (MNX5_10 S M o) := zr_app hz98
  have hb109 : CBX4 (SNX5_13 S o) (MNX5_10 S M o) (SNX5_12 S o).length := cb_X4 hf106 hw107 hz108
  have len14 : (SNX5_14 S o).length = S.length + 31 := by have e := hb109.2.2.2.1; rw [show (SNX5_14 S o).length = _ from e, len13]
  have hf110 : (SNX5_14 S o)[o]? = some (7, 2, [none, some (some S.length)]) := hb109.2.2.2.2 _ _ (Nat.ne_of_lt (List.getElem?_eq_some_iff.mp hf87).1) hf99
  have hf111 : (SNX5_14 S o)[S.length]? = some (1, 6, []) := hb109.2.2.2.2 _ _ (Nat.ne_of_lt (List.getElem?_eq_some_iff.mp hf88).1) hf100
  have hf112 : (SNX5_14 S o)[(SNX5_2 S o).length]? = some (6, 15, [none, none, none, none, none, none, none, none, none, none, none, some (some (RNX4_11 (SNX5_3 S o) (SNX5_2 S o).length)), some (some (RNX4_12 (SNX5_3 S o) (SNX5_2 S o).length)), some (some (RNX4_13 (SNX5_3 S o) (SNX5_2 S o).length)), some (some (RNX4_14 (SNX5_3 S o) (SNX5_2 S o).length))]) := hb109.2.2.2.2 _ _ (Nat.ne_of_lt (List.getElem?_eq_some_iff.mp hf89).1) hf101
  have hf113 : (SNX5_14 S o)[(SNX5_4 S o).length]? = some (6, 15, [none, none, none, none, none, none, none, none, none, none, none, some (some (RNX4_11 (SNX5_5 S o) (SNX5_4 S o).length)), some (some (RNX4_12 (SNX5_5 S o) (SNX5_4 S o).length)), some (some (RNX4_13 (SNX5_5 S o) (SNX5_4 S o).length)), some (some (RNX4_14 (SNX5_5 S o) (SNX5_4 S o).length))]) := hb109.2.2.2.2 _ _ (Nat.ne_of_lt (List.getElem?_eq_some_iff.mp hf90).1) hf102
  have hf114 : (SNX5_14 S o)[(SNX5_6 S o).length]? = some (6, 15, [none, none, none, none, none, none, none, none, none, none, none, some (some (RNX4_11 (SNX5_7 S o) (SNX5_6 S o).length)), some (some (RNX4_12 (SNX5_7 S o) (SNX5_6 S o).length)), some (some (RNX4_13 (SNX5_7 S o) (SNX5_6 S o).length)), some (some (RNX4_14 (SNX5_7 S o) (SNX5_6 S o).length))]) := hb109.2.2.2.2 _ _ (Nat.ne_of_lt (List.getElem?_eq_some_iff.mp hf91).1) hf103
  have hf115 : (SNX5_14 S o)[(SNX5_8 S o).length]? = some (6, 15, [none, none, none, none, none, none, none, none, none, none, none, some (some (RNX4_11 (SNX5_9 S o) (SNX5_8 S o).length)), some (some (RNX4_12 (SNX5_9 S o) (SNX5_8 S o).length)), some (some (RNX4_13 (SNX5_9 S o) (SNX5_8 S o).length)), some (some (RNX4_14 (SNX5_9 S o) (SNX5_8 S o).length))]) := hb109.2.2.2.2 _ _ (Nat.ne_of_lt (List.getElem?_eq_some_iff.mp hf92).1) hf104
  have hf116 : (SNX5_14 S o)[(SNX5_10 S o).length]? = some (6, 15, [none, none, none, none, none, none, none, none, none, none, none, some (some (RNX4_11 (SNX5_11 S o) (SNX5_10 S o).length)), some (some (RNX4_12 (SNX5_11 S o) (SNX5_10 S o).length)), some (some (RNX4_13 (SNX5_11 S o) (SNX5_10 S o).length)), some (some (RNX4_14 (SNX5_11 S o) (SNX5_10 S o).length))]) := hb109.2.2.2.2 _ _ (Nat.ne_of_lt (List.getElem?_eq_some_iff.mp hf93).1) hf105
  have hf117 : (SNX5_14 S o)[(SNX5_12 S o).length]? = some (6, 15, [none, none, none, none, none, none, none, none, none, none, none, some (some (RNX4_11 (SNX5_13 S o) (SNX5_12 S o).length)), some (some (RNX4_12 (SNX5_13 S o) (SNX5_12 S o).length)), some (some (RNX4_13 (SNX5_13 S o) (SNX5_12 S o).length)), some (some (RNX4_14 (SNX5_13 S o) (SNX5_12 S o).length))]) := hb109.1
  have hw118 : ie_wf (SNX5_14 S o) (MNX5_11 S M o) := hb109.2.1
  have hz119 : ie_zr (SNX5_14 S o) (MNX5_11 S M o) := hb109.2.2.1
  have hB5 : (SNX5_14 S o).length ≤ 100000 := by rw [len14]; omega
  have hb120 : (SNX5_12 S o).length < 100000 := Nat.lt_of_lt_of_le ((List.getElem?_eq_some_iff.mp hf117).1) hB5
  have hw121 : ie_wf (SNX5_14 S o) (MNX5_12 S M o) := wf_ms hw118 hf111 (Or.inr (by have e1 := nI_clamp (n := (SNX5_12 S o).length + 1) (by omega); have e2 := (List.getElem?_eq_some_iff.mp hf117).1; show (nI ((SNX5_12 S o).length + 1)).toNatClampNeg ≤ _; rw [e1]; exact e2))
  have hz122 : ie_zr (SNX5_14 S o) (MNX5_12 S M o) := zr_ms hz119 ((List.getElem?_eq_some_iff.mp hf111).1)
  exact ⟨hf110, hw121, hz122, len14, fun p x hp h => (hb109.2.2.2.2 _ _ (fun e => absurd (List.getElem?_eq_some_iff.mp h).1 (by rw [e]; have := len12; omega)) (ap_at (hb86.2.2.2.2 _ _ (fun e => absurd (List.getElem?_eq_some_iff.mp h).1 (by rw [e]; have := len10; omega)) (ap_at (hb65.2.2.2.2 _ _ (fun e => absurd (List.getElem?_eq_some_iff.mp h).1 (by rw [e]; have := len8; omega)) (ap_at (hb46.2.2.2.2 _ _ (fun e => absurd (List.getElem?_eq_some_iff.mp h).1 (by rw [e]; have := len6; omega)) (ap_at (hb29.2.2.2.2 _ _ (fun e => absurd (List.getElem?_eq_some_iff.mp h).1 (by rw [e]; have := len4; omega)) (ap_at (hb14.2.2.2.2 _ _ (fun e => absurd (List.getElem?_eq_some_iff.mp h).1 (by rw [e]; have := len2; omega)) (ap_at (st_at' (ap_at h) (fun e => hp e.symm))))))))))))))⟩
set_option maxRecDepth 100000 in
set_option maxHeartbeats 8000000 in
theorem tc_X5 {g : IG} {a : Nat → Nat} {S : List IK} {M : IM} {o : Nat} (ho : S[o]? = some (7, 2, [none, some none])) (hwf : ie_wf S M) (hz : ie_zr S M) (hB : S.length < 1000) : Cn g mX5_init 2 31 336 (qC (SNX5 S o) (MNX5 S M o) S.length a) [.ref (a o)] a S M := by
  refine Cn_of (L := [some (.ref (a o)), none]) mf_X5_init (cat_r cat_0) (Nat.le_of_ble_eq_true rfl) rfl ?_
  have len1 : (SNX5_1 S o).length = S.length + 1 := by show (S ++ [_]).length = _; rw [List.length_append, List.length_singleton]
  have len2 : (SNX5_2 S o).length = S.length + 1 := by show ((SNX5_1 S o).set _ _).length = _; rw [List.length_set, len1]
  have len3 : (SNX5_3 S o).length = S.length + 2 := by show ((SNX5_2 S o) ++ [_]).length = _; rw [List.length_append, List.length_singleton, len2]
  refine V_aload_n rfl dX5_init_0 rfl rfl ?_
  refine V_obj rfl dX5_init_1 ⟨w_399, w_166, w_167⟩ rfl ?_
  refine V_aload_n rfl dX5_init_4 rfl rfl ?_
  refine V_bipush (v := 6) rfl dX5_init_5 kb_6 ?_
  refine V_newq (n := 6) (fun a => [some (.ref (a o)), none]) (fun a => [.ref (a o)]) rfl dX5_init_7 w_400 (by decide +kernel) hwf hz ⟨rfl, rfl⟩ (fun a' h => ⟨by first | rfl | simp only [h _ ((List.getElem?_eq_some_iff.mp ho).1)], by first | rfl | simp only [h _ ((List.getElem?_eq_some_iff.mp ho).1)]⟩) (fun a1 hg0 => ?_)
  have hf1 : (SNX5_1 S o)[o]? = some (7, 2, [none, some none]) := ap_at ho
  have hf2 : (SNX5_1 S o)[S.length]? = some (1, 6, []) := nw_at
  have hw3 : ie_wf (SNX5_1 S o) M := wf_app hwf (by simp) hz
  have hz4 : ie_zr (SNX5_1 S o) M := zr_app hz
  show V _ _ _ _ _ _ _ _ _ _ (SNX5_1 S o) M _ _
  refine V_putr (k0 := 1) (ty := (.array (.object "NeverHalted$Now"))) (r := S.length) rfl dX5_init_10 hf1 icX5 tyX5_ok nmX5 (by decide) (Nat.le_of_ble_eq_true rfl) w_405 rfl rfl rfl (tyX5_ok _ (by decide)) rfl rfl ?_
  have hf5 : (SNX5_2 S o)[o]? = some (7, 2, [none, some (some S.length)]) := st_at hf1
  have hf6 : (SNX5_2 S o)[S.length]? = some (1, 6, []) := st_at' hf2 (Nat.ne_of_lt (List.getElem?_eq_some_iff.mp ho).1)
  have hw7 : ie_wf (SNX5_2 S o) M := by have zz := wf_set (i := 1) (r := S.length) hw3 hf1 ((List.getElem?_eq_some_iff.mp hf2).1); exact zz
  have hz8 : ie_zr (SNX5_2 S o) M := zr_set hz4
  show V _ _ _ _ _ _ _ _ _ _ (SNX5_2 S o) M _ _
  refine V_iconst (v := 0) rfl dX5_init_13 kc_0 ?_
  refine V_istore_n (L' := [_, _]) rfl rfl dX5_init_14 (by decide) rfl ?_
  refine V_iload_n rfl dX5_init_15 rfl rfl ?_
  refine V_bipush (v := 6) rfl dX5_init_16 kb_6 ?_
  refine V_icmp_ge (t := 40) rfl rfl dX5_init_18 (fun hcc => absurd hcc (by decide)) (fun _ => ?_)
  refine V_aload_n rfl dX5_init_21 rfl rfl ?_
  refine V_getr (k0 := 1) rfl dX5_init_22 hf5 icX5 (by decide) rfl w_405 ?_
  refine V_iload_n rfl dX5_init_25 rfl rfl ?_
  refine V_new (fun a => [some (.ref (a o)), some (.int 0)]) (fun a => [.int 0, .ref (a S.length)]) rfl dX5_init_26 icX4 rfl tyX4_ok ⟨w_400, w_169, w_140⟩ (fs := [none, none, none, none, none, none, none, none, none, none, none, some none, some none, some none, some none]) (by decide +kernel) (by simp) hw7 hz8 ⟨rfl, rfl⟩ (fun a' h => ⟨by first | rfl | simp only [h _ ((List.getElem?_eq_some_iff.mp hf6).1), h _ ((List.getElem?_eq_some_iff.mp hf5).1)], by first | rfl | simp only [h _ ((List.getElem?_eq_some_iff.mp hf6).1), h _ ((List.getElem?_eq_some_iff.mp hf5).1)]⟩) (fun a11 hg1 => ?_)
  have hf9 : (SNX5_3 S o)[o]? = some (7, 2, [none, some (some S.length)]) := ap_at hf5
  have hf10 : (SNX5_3 S o)[S.length]? = some (1, 6, []) := ap_at hf6
  have hf11 : (SNX5_3 S o)[(SNX5_2 S o).length]? = some (6, 15, [none, none, none, none, none, none, none, none, none, none, none, some none, some none, some none, some none]) := nw_at
  have hw12 : ie_wf (SNX5_3 S o) M := wf_app hw7 (by simp) hz8
  have hz13 : ie_zr (SNX5_3 S o) M := zr_app hz8
  show V _ _ _ _ _ _ _ _ _ _ (SNX5_3 S o) M _ _
  refine V_dup rfl dX5_init_29 rfl ?_
  refine V_inin (mc' := 4) (ns' := 40) (d' := 1) (As := []) (S' := (SNX4 (SNX5_3 S o) (SNX5_2 S o).length)) (M' := (MNX4 (SNX5_3 S o) M (SNX5_2 S o).length)) (fun a => [some (.ref (a o)), some (.int 0)]) (fun a => [.ref (a (SNX5_2 S o).length), .int 0, .ref (a S.length)]) rfl dX5_init_30 mf_X4_init rfl rfl w_171 w_402 (by decide) ⟨rfl, rfl⟩ rfl rfl rfl (fun a' h => ⟨by first | rfl | simp only [h _ ((List.getElem?_eq_some_iff.mp hf11).1), h _ ((List.getElem?_eq_some_iff.mp hf10).1), h _ ((List.getElem?_eq_some_iff.mp hf9).1)], by first | rfl | simp only [h _ ((List.getElem?_eq_some_iff.mp hf11).1), h _ ((List.getElem?_eq_some_iff.mp hf10).1), h _ ((List.getElem?_eq_some_iff.mp hf9).1)]⟩) (tc_X4 hf11 hw12 hz13) (fun a111 hg2 => ?_)
  have hb14 : CBX4 (SNX5_3 S o) M (SNX5_2 S o).length := cb_X4 hf11 hw12 hz13
  have len4 : (SNX5_4 S o).length = S.length + 6 := by have e := hb14.2.2.2.1; rw [show (SNX5_4 S o).length = _ from e, len3]
  have len5 : (SNX5_5 S o).length = S.length + 7 := by show ((SNX5_4 S o) ++ [_]).length = _; rw [List.length_append, List.length_singleton, len4]
  have hf15 : (SNX5_4 S o)[o]? = some (7, 2, [none, some (some S.length)]) := hb14.2.2.2.2 _ _ (Nat.ne_of_lt (List.getElem?_eq_some_iff.mp hf5).1) hf9
  have hf16 : (SNX5_4 S o)[S.length]? = some (1, 6, []) := hb14.2.2.2.2 _ _ (Nat.ne_of_lt (List.getElem?_eq_some_iff.mp hf6).1) hf10
  have hf17 : (SNX5_4 S o)[(SNX5_2 S o).length]? = some (6, 15, [none, none, none, none, none, none, none, none, none, none, none, some (some (RNX4_11 (SNX5_3 S o) (SNX5_2 S o).length)), some (some (RNX4_12 (SNX5_3 S o) (SNX5_2 S o).length)), some (some (RNX4_13 (SNX5_3 S o) (SNX5_2 S o).length)), some (some (RNX4_14 (SNX5_3 S o) (SNX5_2 S o).length))]) := hb14.1
  have hw18 : ie_wf (SNX5_4 S o) (MNX5_1 S M o) := hb14.2.1
  have hz19 : ie_zr (SNX5_4 S o) (MNX5_1 S M o) := hb14.2.2.1
  show V _ _ _ _ _ _ _ _ _ _ (SNX5_4 S o) (MNX5_1 S M o) _ _
  have hB0 : (SNX5_4 S o).length ≤ 100000 := by rw [len4]; omega
  have hb20 : (SNX5_2 S o).length < 100000 := Nat.lt_of_lt_of_le ((List.getElem?_eq_some_iff.mp hf17).1) hB0
  refine V_aast (x := Int32.ofNat ((SNX5_2 S o).length + 1)) rfl dX5_init_33 hf16 hf17 rfl (ie_in_nw hb20).1 (ie_in_nw hb20).2 (by decide +kernel) ?_
  have hw21 : ie_wf (SNX5_4 S o) (MNX5_2 S M o) := wf_ms hw18 hf16 (Or.inr (by have e1 := nI_clamp (n := (SNX5_2 S o).length + 1) (by omega); have e2 := (List.getElem?_eq_some_iff.mp hf17).1; show (nI ((SNX5_2 S o).length + 1)).toNatClampNeg ≤ _; rw [e1]; exact e2))
  have hz22 : ie_zr (SNX5_4 S o) (MNX5_2 S M o) := zr_ms hz19 ((List.getElem?_eq_some_iff.mp hf16).1)
  show V _ _ _ _ _ _ _ _ _ _ (SNX5_4 S o) (MNX5_2 S M o) _ _
  refine V_iinc (v := 1) (L' := [_, _]) rfl dX5_init_34 rfl (by decide +kernel) (by decide) rfl ?_
  refine V_goto (t := 15) rfl dX5_init_37 ?_
  refine V_iload_n rfl dX5_init_15 rfl rfl ?_
  refine V_bipush (v := 6) rfl dX5_init_16 kb_6 ?_
  refine V_icmp_ge (t := 40) rfl rfl dX5_init_18 (fun hcc => absurd hcc (by decide)) (fun _ => ?_)
  refine V_aload_n rfl dX5_init_21 rfl rfl ?_
  refine V_getr (k0 := 1) rfl dX5_init_22 hf15 icX5 (by decide) rfl w_405 ?_
  refine V_iload_n rfl dX5_init_25 rfl rfl ?_
  refine V_new (fun a => [some (.ref (a o)), some (.int 1)]) (fun a => [.int 1, .ref (a S.length)]) rfl dX5_init_26 icX4 rfl tyX4_ok ⟨w_400, w_169, w_140⟩ (fs := [none, none, none, none, none, none, none, none, none, none, none, some none, some none, some none, some none]) (by decide +kernel) (by simp) hw21 hz22 ⟨rfl, rfl⟩ (fun a' h => ⟨by first | rfl | simp only [h _ ((List.getElem?_eq_some_iff.mp hf16).1), h _ ((List.getElem?_eq_some_iff.mp hf15).1)], by first | rfl | simp only [h _ ((List.getElem?_eq_some_iff.mp hf16).1), h _ ((List.getElem?_eq_some_iff.mp hf15).1)]⟩) (fun a1111 hg3 => ?_)
  have hf23 : (SNX5_5 S o)[o]? = some (7, 2, [none, some (some S.length)]) := ap_at hf15
  have hf24 : (SNX5_5 S o)[S.length]? = some (1, 6, []) := ap_at hf16
  have hf25 : (SNX5_5 S o)[(SNX5_2 S o).length]? = some (6, 15, [none, none, none, none, none, none, none, none, none, none, none, some (some (RNX4_11 (SNX5_3 S o) (SNX5_2 S o).length)), some (some (RNX4_12 (SNX5_3 S o) (SNX5_2 S o).length)), some (some (RNX4_13 (SNX5_3 S o) (SNX5_2 S o).length)), some (some (RNX4_14 (SNX5_3 S o) (SNX5_2 S o).length))]) := ap_at hf17
  have hf26 : (SNX5_5 S o)[(SNX5_4 S o).length]? = some (6, 15, [none, none, none, none, none, none, none, none, none, none, none, some none, some none, some none, some none]) := nw_at
  have hw27 : ie_wf (SNX5_5 S o) (MNX5_2 S M o) := wf_app hw21 (by simp) hz22
  have hz28 : ie_zr (SNX5_5 S o) (MNX5_2 S M o) := zr_app hz22
  show V _ _ _ _ _ _ _ _ _ _ (SNX5_5 S o) (MNX5_2 S M o) _ _
  refine V_dup rfl dX5_init_29 rfl ?_
  refine V_inin (mc' := 4) (ns' := 40) (d' := 1) (As := []) (S' := (SNX4 (SNX5_5 S o) (SNX5_4 S o).length)) (M' := (MNX4 (SNX5_5 S o) (MNX5_2 S M o) (SNX5_4 S o).length)) (fun a => [some (.ref (a o)), some (.int 1)]) (fun a => [.ref (a (SNX5_4 S o).length), .int 1, .ref (a S.length)]) rfl dX5_init_30 mf_X4_init rfl rfl w_171 w_402 (by decide) ⟨rfl, rfl⟩ rfl rfl rfl (fun a' h => ⟨by first | rfl | simp only [h _ ((List.getElem?_eq_some_iff.mp hf26).1), h _ ((List.getElem?_eq_some_iff.mp hf24).1), h _ ((List.getElem?_eq_some_iff.mp hf23).1)], by first | rfl | simp only [h _ ((List.getElem?_eq_some_iff.mp hf26).1), h _ ((List.getElem?_eq_some_iff.mp hf24).1), h _ ((List.getElem?_eq_some_iff.mp hf23).1)]⟩) (tc_X4 hf26 hw27 hz28) (fun a11111 hg4 => ?_)
  have hb29 : CBX4 (SNX5_5 S o) (MNX5_2 S M o) (SNX5_4 S o).length := cb_X4 hf26 hw27 hz28
  have len6 : (SNX5_6 S o).length = S.length + 11 := by have e := hb29.2.2.2.1; rw [show (SNX5_6 S o).length = _ from e, len5]
  have len7 : (SNX5_7 S o).length = S.length + 12 := by show ((SNX5_6 S o) ++ [_]).length = _; rw [List.length_append, List.length_singleton, len6]
  have hf30 : (SNX5_6 S o)[o]? = some (7, 2, [none, some (some S.length)]) := hb29.2.2.2.2 _ _ (Nat.ne_of_lt (List.getElem?_eq_some_iff.mp hf15).1) hf23
  have hf31 : (SNX5_6 S o)[S.length]? = some (1, 6, []) := hb29.2.2.2.2 _ _ (Nat.ne_of_lt (List.getElem?_eq_some_iff.mp hf16).1) hf24
  have hf32 : (SNX5_6 S o)[(SNX5_2 S o).length]? = some (6, 15, [none, none, none, none, none, none, none, none, none, none, none, some (some (RNX4_11 (SNX5_3 S o) (SNX5_2 S o).length)), some (some (RNX4_12 (SNX5_3 S o) (SNX5_2 S o).length)), some (some (RNX4_13 (SNX5_3 S o) (SNX5_2 S o).length)), some (some (RNX4_14 (SNX5_3 S o) (SNX5_2 S o).length))]) := hb29.2.2.2.2 _ _ (Nat.ne_of_lt (List.getElem?_eq_some_iff.mp hf17).1) hf25
  have hf33 : (SNX5_6 S o)[(SNX5_4 S o).length]? = some (6, 15, [none, none, none, none, none, none, none, none, none, none, none, some (some (RNX4_11 (SNX5_5 S o) (SNX5_4 S o).length)), some (some (RNX4_12 (SNX5_5 S o) (SNX5_4 S o).length)), some (some (RNX4_13 (SNX5_5 S o) (SNX5_4 S o).length)), some (some (RNX4_14 (SNX5_5 S o) (SNX5_4 S o).length))]) := hb29.1
  have hw34 : ie_wf (SNX5_6 S o) (MNX5_3 S M o) := hb29.2.1
  have hz35 : ie_zr (SNX5_6 S o) (MNX5_3 S M o) := hb29.2.2.1
  show V _ _ _ _ _ _ _ _ _ _ (SNX5_6 S o) (MNX5_3 S M o) _ _
  have hB1 : (SNX5_6 S o).length ≤ 100000 := by rw [len6]; omega
  have hb36 : (SNX5_4 S o).length < 100000 := Nat.lt_of_lt_of_le ((List.getElem?_eq_some_iff.mp hf33).1) hB1
  refine V_aast (x := Int32.ofNat ((SNX5_4 S o).length + 1)) rfl dX5_init_33 hf31 hf33 rfl (ie_in_nw hb36).1 (ie_in_nw hb36).2 (by decide +kernel) ?_
  have hw37 : ie_wf (SNX5_6 S o) (MNX5_4 S M o) := wf_ms hw34 hf31 (Or.inr (by have e1 := nI_clamp (n := (SNX5_4 S o).length + 1) (by omega); have e2 := (List.getElem?_eq_some_iff.mp hf33).1; show (nI ((SNX5_4 S o).length + 1)).toNatClampNeg ≤ _; rw [e1]; exact e2))
  have hz38 : ie_zr (SNX5_6 S o) (MNX5_4 S M o) := zr_ms hz35 ((List.getElem?_eq_some_iff.mp hf31).1)
  show V _ _ _ _ _ _ _ _ _ _ (SNX5_6 S o) (MNX5_4 S M o) _ _
  refine V_iinc (v := 2) (L' := [_, _]) rfl dX5_init_34 rfl (by decide +kernel) (by decide) rfl ?_
  refine V_goto (t := 15) rfl dX5_init_37 ?_
  refine V_iload_n rfl dX5_init_15 rfl rfl ?_
  refine V_bipush (v := 6) rfl dX5_init_16 kb_6 ?_
  refine V_icmp_ge (t := 40) rfl rfl dX5_init_18 (fun hcc => absurd hcc (by decide)) (fun _ => ?_)
  refine V_aload_n rfl dX5_init_21 rfl rfl ?_
  refine V_getr (k0 := 1) rfl dX5_init_22 hf30 icX5 (by decide) rfl w_405 ?_
  refine V_iload_n rfl dX5_init_25 rfl rfl ?_
  refine V_new (fun a => [some (.ref (a o)), some (.int 2)]) (fun a => [.int 2, .ref (a S.length)]) rfl dX5_init_26 icX4 rfl tyX4_ok ⟨w_400, w_169, w_140⟩ (fs := [none, none, none, none, none, none, none, none, none, none, none, some none, some none, some none, some none]) (by decide +kernel) (by simp) hw37 hz38 ⟨rfl, rfl⟩ (fun a' h => ⟨by first | rfl | simp only [h _ ((List.getElem?_eq_some_iff.mp hf31).1), h _ ((List.getElem?_eq_some_iff.mp hf30).1)], by first | rfl | simp only [h _ ((List.getElem?_eq_some_iff.mp hf31).1), h _ ((List.getElem?_eq_some_iff.mp hf30).1)]⟩) (fun a111111 hg5 => ?_)
  have hf39 : (SNX5_7 S o)[o]? = some (7, 2, [none, some (some S.length)]) := ap_at hf30
  have hf40 : (SNX5_7 S o)[S.length]? = some (1, 6, []) := ap_at hf31
  have hf41 : (SNX5_7 S o)[(SNX5_2 S o).length]? = some (6, 15, [none, none, none, none, none, none, none, none, none, none, none, some (some (RNX4_11 (SNX5_3 S o) (SNX5_2 S o).length)), some (some (RNX4_12 (SNX5_3 S o) (SNX5_2 S o).length)), some (some (RNX4_13 (SNX5_3 S o) (SNX5_2 S o).length)), some (some (RNX4_14 (SNX5_3 S o) (SNX5_2 S o).length))]) := ap_at hf32
  have hf42 : (SNX5_7 S o)[(SNX5_4 S o).length]? = some (6, 15, [none, none, none, none, none, none, none, none, none, none, none, some (some (RNX4_11 (SNX5_5 S o) (SNX5_4 S o).length)), some (some (RNX4_12 (SNX5_5 S o) (SNX5_4 S o).length)), some (some (RNX4_13 (SNX5_5 S o) (SNX5_4 S o).length)), some (some (RNX4_14 (SNX5_5 S o) (SNX5_4 S o).length))]) := ap_at hf33
  have hf43 : (SNX5_7 S o)[(SNX5_6 S o).length]? = some (6, 15, [none, none, none, none, none, none, none, none, none, none, none, some none, some none, some none, some none]) := nw_at
  have hw44 : ie_wf (SNX5_7 S o) (MNX5_4 S M o) := wf_app hw37 (by simp) hz38
  have hz45 : ie_zr (SNX5_7 S o) (MNX5_4 S M o) := zr_app hz38
  show V _ _ _ _ _ _ _ _ _ _ (SNX5_7 S o) (MNX5_4 S M o) _ _
  refine V_dup rfl dX5_init_29 rfl ?_
  refine V_inin (mc' := 4) (ns' := 40) (d' := 1) (As := []) (S' := (SNX4 (SNX5_7 S o) (SNX5_6 S o).length)) (M' := (MNX4 (SNX5_7 S o) (MNX5_4 S M o) (SNX5_6 S o).length)) (fun a => [some (.ref (a o)), some (.int 2)]) (fun a => [.ref (a (SNX5_6 S o).length), .int 2, .ref (a S.length)]) rfl dX5_init_30 mf_X4_init rfl rfl w_171 w_402 (by decide) ⟨rfl, rfl⟩ rfl rfl rfl (fun a' h => ⟨by first | rfl | simp only [h _ ((List.getElem?_eq_some_iff.mp hf43).1), h _ ((List.getElem?_eq_some_iff.mp hf40).1), h _ ((List.getElem?_eq_some_iff.mp hf39).1)], by first | rfl | simp only [h _ ((List.getElem?_eq_some_iff.mp hf43).1), h _ ((List.getElem?_eq_some_iff.mp hf40).1), h _ ((List.getElem?_eq_some_iff.mp hf39).1)]⟩) (tc_X4 hf43 hw44 hz45) (fun a1111111 hg6 => ?_)
  have hb46 : CBX4 (SNX5_7 S o) (MNX5_4 S M o) (SNX5_6 S o).length := cb_X4 hf43 hw44 hz45
  have len8 : (SNX5_8 S o).length = S.length + 16 := by have e := hb46.2.2.2.1; rw [show (SNX5_8 S o).length = _ from e, len7]
  have len9 : (SNX5_9 S o).length = S.length + 17 := by show ((SNX5_8 S o) ++ [_]).length = _; rw [List.length_append, List.length_singleton, len8]
  have hf47 : (SNX5_8 S o)[o]? = some (7, 2, [none, some (some S.length)]) := hb46.2.2.2.2 _ _ (Nat.ne_of_lt (List.getElem?_eq_some_iff.mp hf30).1) hf39
  have hf48 : (SNX5_8 S o)[S.length]? = some (1, 6, []) := hb46.2.2.2.2 _ _ (Nat.ne_of_lt (List.getElem?_eq_some_iff.mp hf31).1) hf40
  have hf49 : (SNX5_8 S o)[(SNX5_2 S o).length]? = some (6, 15, [none, none, none, none, none, none, none, none, none, none, none, some (some (RNX4_11 (SNX5_3 S o) (SNX5_2 S o).length)), some (some (RNX4_12 (SNX5_3 S o) (SNX5_2 S o).length)), some (some (RNX4_13 (SNX5_3 S o) (SNX5_2 S o).length)), some (some (RNX4_14 (SNX5_3 S o) (SNX5_2 S o).length))]) := hb46.2.2.2.2 _ _ (Nat.ne_of_lt (List.getElem?_eq_some_iff.mp hf32).1) hf41
  have hf50 : (SNX5_8 S o)[(SNX5_4 S o).length]? = some (6, 15, [none, none, none, none, none, none, none, none, none, none, none, some (some (RNX4_11 (SNX5_5 S o) (SNX5_4 S o).length)), some (some (RNX4_12 (SNX5_5 S o) (SNX5_4 S o).length)), some (some (RNX4_13 (SNX5_5 S o) (SNX5_4 S o).length)), some (some (RNX4_14 (SNX5_5 S o) (SNX5_4 S o).length))]) := hb46.2.2.2.2 _ _ (Nat.ne_of_lt (List.getElem?_eq_some_iff.mp hf33).1) hf42
  have hf51 : (SNX5_8 S o)[(SNX5_6 S o).length]? = some (6, 15, [none, none, none, none, none, none, none, none, none, none, none, some (some (RNX4_11 (SNX5_7 S o) (SNX5_6 S o).length)), some (some (RNX4_12 (SNX5_7 S o) (SNX5_6 S o).length)), some (some (RNX4_13 (SNX5_7 S o) (SNX5_6 S o).length)), some (some (RNX4_14 (SNX5_7 S o) (SNX5_6 S o).length))]) := hb46.1
  have hw52 : ie_wf (SNX5_8 S o) (MNX5_5 S M o) := hb46.2.1
  have hz53 : ie_zr (SNX5_8 S o) (MNX5_5 S M o) := hb46.2.2.1
  show V _ _ _ _ _ _ _ _ _ _ (SNX5_8 S o) (MNX5_5 S M o) _ _
  have hB2 : (SNX5_8 S o).length ≤ 100000 := by rw [len8]; omega
  have hb54 : (SNX5_6 S o).length < 100000 := Nat.lt_of_lt_of_le ((List.getElem?_eq_some_iff.mp hf51).1) hB2
  refine V_aast (x := Int32.ofNat ((SNX5_6 S o).length + 1)) rfl dX5_init_33 hf48 hf51 rfl (ie_in_nw hb54).1 (ie_in_nw hb54).2 (by decide +kernel) ?_
  have hw55 : ie_wf (SNX5_8 S o) (MNX5_6 S M o) := wf_ms hw52 hf48 (Or.inr (by have e1 := nI_clamp (n := (SNX5_6 S o).length + 1) (by omega); have e2 := (List.getElem?_eq_some_iff.mp hf51).1; show (nI ((SNX5_6 S o).length + 1)).toNatClampNeg ≤ _; rw [e1]; exact e2))
  have hz56 : ie_zr (SNX5_8 S o) (MNX5_6 S M o) := zr_ms hz53 ((List.getElem?_eq_some_iff.mp hf48).1)
  show V _ _ _ _ _ _ _ _ _ _ (SNX5_8 S o) (MNX5_6 S M o) _ _
  refine V_iinc (v := 3) (L' := [_, _]) rfl dX5_init_34 rfl (by decide +kernel) (by decide) rfl ?_
  refine V_goto (t := 15) rfl dX5_init_37 ?_
  refine V_iload_n rfl dX5_init_15 rfl rfl ?_
  refine V_bipush (v := 6) rfl dX5_init_16 kb_6 ?_
  refine V_icmp_ge (t := 40) rfl rfl dX5_init_18 (fun hcc => absurd hcc (by decide)) (fun _ => ?_)
  refine V_aload_n rfl dX5_init_21 rfl rfl ?_
  refine V_getr (k0 := 1) rfl dX5_init_22 hf47 icX5 (by decide) rfl w_405 ?_
  refine V_iload_n rfl dX5_init_25 rfl rfl ?_
  refine V_new (fun a => [some (.ref (a o)), some (.int 3)]) (fun a => [.int 3, .ref (a S.length)]) rfl dX5_init_26 icX4 rfl tyX4_ok ⟨w_400, w_169, w_140⟩ (fs := [none, none, none, none, none, none, none, none, none, none, none, some none, some none, some none, some none]) (by decide +kernel) (by simp) hw55 hz56 ⟨rfl, rfl⟩ (fun a' h => ⟨by first | rfl | simp only [h _ ((List.getElem?_eq_some_iff.mp hf48).1), h _ ((List.getElem?_eq_some_iff.mp hf47).1)], by first | rfl | simp only [h _ ((List.getElem?_eq_some_iff.mp hf48).1), h _ ((List.getElem?_eq_some_iff.mp hf47).1)]⟩) (fun a11111111 hg7 => ?_)
  have hf57 : (SNX5_9 S o)[o]? = some (7, 2, [none, some (some S.length)]) := ap_at hf47
  have hf58 : (SNX5_9 S o)[S.length]? = some (1, 6, []) := ap_at hf48
  have hf59 : (SNX5_9 S o)[(SNX5_2 S o).length]? = some (6, 15, [none, none, none, none, none, none, none, none, none, none, none, some (some (RNX4_11 (SNX5_3 S o) (SNX5_2 S o).length)), some (some (RNX4_12 (SNX5_3 S o) (SNX5_2 S o).length)), some (some (RNX4_13 (SNX5_3 S o) (SNX5_2 S o).length)), some (some (RNX4_14 (SNX5_3 S o) (SNX5_2 S o).length))]) := ap_at hf49
  have hf60 : (SNX5_9 S o)[(SNX5_4 S o).length]? = some (6, 15, [none, none, none, none, none, none, none, none, none, none, none, some (some (RNX4_11 (SNX5_5 S o) (SNX5_4 S o).length)), some (some (RNX4_12 (SNX5_5 S o) (SNX5_4 S o).length)), some (some (RNX4_13 (SNX5_5 S o) (SNX5_4 S o).length)), some (some (RNX4_14 (SNX5_5 S o) (SNX5_4 S o).length))]) := ap_at hf50
  have hf61 : (SNX5_9 S o)[(SNX5_6 S o).length]? = some (6, 15, [none, none, none, none, none, none, none, none, none, none, none, some (some (RNX4_11 (SNX5_7 S o) (SNX5_6 S o).length)), some (some (RNX4_12 (SNX5_7 S o) (SNX5_6 S o).length)), some (some (RNX4_13 (SNX5_7 S o) (SNX5_6 S o).length)), some (some (RNX4_14 (SNX5_7 S o) (SNX5_6 S o).length))]) := ap_at hf51
  have hf62 : (SNX5_9 S o)[(SNX5_8 S o).length]? = some (6, 15, [none, none, none, none, none, none, none, none, none, none, none, some none, some none, some none, some none]) := nw_at
  have hw63 : ie_wf (SNX5_9 S o) (MNX5_6 S M o) := wf_app hw55 (by simp) hz56
  have hz64 : ie_zr (SNX5_9 S o) (MNX5_6 S M o) := zr_app hz56
  show V _ _ _ _ _ _ _ _ _ _ (SNX5_9 S o) (MNX5_6 S M o) _ _
  refine V_dup rfl dX5_init_29 rfl ?_
  refine V_inin (mc' := 4) (ns' := 40) (d' := 1) (As := []) (S' := (SNX4 (SNX5_9 S o) (SNX5_8 S o).length)) (M' := (MNX4 (SNX5_9 S o) (MNX5_6 S M o) (SNX5_8 S o).length)) (fun a => [some (.ref (a o)), some (.int 3)]) (fun a => [.ref (a (SNX5_8 S o).length), .int 3, .ref (a S.length)]) rfl dX5_init_30 mf_X4_init rfl rfl w_171 w_402 (by decide) ⟨rfl, rfl⟩ rfl rfl rfl (fun a' h => ⟨by first | rfl | simp only [h _ ((List.getElem?_eq_some_iff.mp hf62).1), h _ ((List.getElem?_eq_some_iff.mp hf58).1), h _ ((List.getElem?_eq_some_iff.mp hf57).1)], by first | rfl | simp only [h _ ((List.getElem?_eq_some_iff.mp hf62).1), h _ ((List.getElem?_eq_some_iff.mp hf58).1), h _ ((List.getElem?_eq_some_iff.mp hf57).1)]⟩) (tc_X4 hf62 hw63 hz64) (fun a111111111 hg8 => ?_)
  have hb65 : CBX4 (SNX5_9 S o) (MNX5_6 S M o) (SNX5_8 S o).length := cb_X4 hf62 hw63 hz64
  have len10 : (SNX5_10 S o).length = S.length + 21 := by have e := hb65.2.2.2.1; rw [show (SNX5_10 S o).length = _ from e, len9]
  have len11 : (SNX5_11 S o).length = S.length + 22 := by show ((SNX5_10 S o) ++ [_]).length = _; rw [List.length_append, List.length_singleton, len10]
  have hf66 : (SNX5_10 S o)[o]? = some (7, 2, [none, some (some S.length)]) := hb65.2.2.2.2 _ _ (Nat.ne_of_lt (List.getElem?_eq_some_iff.mp hf47).1) hf57
  have hf67 : (SNX5_10 S o)[S.length]? = some (1, 6, []) := hb65.2.2.2.2 _ _ (Nat.ne_of_lt (List.getElem?_eq_some_iff.mp hf48).1) hf58
  have hf68 : (SNX5_10 S o)[(SNX5_2 S o).length]? = some (6, 15, [none, none, none, none, none, none, none, none, none, none, none, some (some (RNX4_11 (SNX5_3 S o) (SNX5_2 S o).length)), some (some (RNX4_12 (SNX5_3 S o) (SNX5_2 S o).length)), some (some (RNX4_13 (SNX5_3 S o) (SNX5_2 S o).length)), some (some (RNX4_14 (SNX5_3 S o) (SNX5_2 S o).length))]) := hb65.2.2.2.2 _ _ (Nat.ne_of_lt (List.getElem?_eq_some_iff.mp hf49).1) hf59
  have hf69 : (SNX5_10 S o)[(SNX5_4 S o).length]? = some (6, 15, [none, none, none, none, none, none, none, none, none, none, none, some (some (RNX4_11 (SNX5_5 S o) (SNX5_4 S o).length)), some (some (RNX4_12 (SNX5_5 S o) (SNX5_4 S o).length)), some (some (RNX4_13 (SNX5_5 S o) (SNX5_4 S o).length)), some (some (RNX4_14 (SNX5_5 S o) (SNX5_4 S o).length))]) := hb65.2.2.2.2 _ _ (Nat.ne_of_lt (List.getElem?_eq_some_iff.mp hf50).1) hf60
  have hf70 : (SNX5_10 S o)[(SNX5_6 S o).length]? = some (6, 15, [none, none, none, none, none, none, none, none, none, none, none, some (some (RNX4_11 (SNX5_7 S o) (SNX5_6 S o).length)), some (some (RNX4_12 (SNX5_7 S o) (SNX5_6 S o).length)), some (some (RNX4_13 (SNX5_7 S o) (SNX5_6 S o).length)), some (some (RNX4_14 (SNX5_7 S o) (SNX5_6 S o).length))]) := hb65.2.2.2.2 _ _ (Nat.ne_of_lt (List.getElem?_eq_some_iff.mp hf51).1) hf61
  have hf71 : (SNX5_10 S o)[(SNX5_8 S o).length]? = some (6, 15, [none, none, none, none, none, none, none, none, none, none, none, some (some (RNX4_11 (SNX5_9 S o) (SNX5_8 S o).length)), some (some (RNX4_12 (SNX5_9 S o) (SNX5_8 S o).length)), some (some (RNX4_13 (SNX5_9 S o) (SNX5_8 S o).length)), some (some (RNX4_14 (SNX5_9 S o) (SNX5_8 S o).length))]) := hb65.1
  have hw72 : ie_wf (SNX5_10 S o) (MNX5_7 S M o) := hb65.2.1
  have hz73 : ie_zr (SNX5_10 S o) (MNX5_7 S M o) := hb65.2.2.1
  show V _ _ _ _ _ _ _ _ _ _ (SNX5_10 S o) (MNX5_7 S M o) _ _
  have hB3 : (SNX5_10 S o).length ≤ 100000 := by rw [len10]; omega
  have hb74 : (SNX5_8 S o).length < 100000 := Nat.lt_of_lt_of_le ((List.getElem?_eq_some_iff.mp hf71).1) hB3
  refine V_aast (x := Int32.ofNat ((SNX5_8 S o).length + 1)) rfl dX5_init_33 hf67 hf71 rfl (ie_in_nw hb74).1 (ie_in_nw hb74).2 (by decide +kernel) ?_
  have hw75 : ie_wf (SNX5_10 S o) (MNX5_8 S M o) := wf_ms hw72 hf67 (Or.inr (by have e1 := nI_clamp (n := (SNX5_8 S o).length + 1) (by omega); have e2 := (List.getElem?_eq_some_iff.mp hf71).1; show (nI ((SNX5_8 S o).length + 1)).toNatClampNeg ≤ _; rw [e1]; exact e2))
  have hz76 : ie_zr (SNX5_10 S o) (MNX5_8 S M o) := zr_ms hz73 ((List.getElem?_eq_some_iff.mp hf67).1)
  show V _ _ _ _ _ _ _ _ _ _ (SNX5_10 S o) (MNX5_8 S M o) _ _
  refine V_iinc (v := 4) (L' := [_, _]) rfl dX5_init_34 rfl (by decide +kernel) (by decide) rfl ?_
  refine V_goto (t := 15) rfl dX5_init_37 ?_
  refine V_iload_n rfl dX5_init_15 rfl rfl ?_
  refine V_bipush (v := 6) rfl dX5_init_16 kb_6 ?_
  refine V_icmp_ge (t := 40) rfl rfl dX5_init_18 (fun hcc => absurd hcc (by decide)) (fun _ => ?_)
  refine V_aload_n rfl dX5_init_21 rfl rfl ?_
  refine V_getr (k0 := 1) rfl dX5_init_22 hf66 icX5 (by decide) rfl w_405 ?_
  refine V_iload_n rfl dX5_init_25 rfl rfl ?_
  refine V_new (fun a => [some (.ref (a o)), some (.int 4)]) (fun a => [.int 4, .ref (a S.length)]) rfl dX5_init_26 icX4 rfl tyX4_ok ⟨w_400, w_169, w_140⟩ (fs := [none, none, none, none, none, none, none, none, none, none, none, some none, some none, some none, some none]) (by decide +kernel) (by simp) hw75 hz76 ⟨rfl, rfl⟩ (fun a' h => ⟨by first | rfl | simp only [h _ ((List.getElem?_eq_some_iff.mp hf67).1), h _ ((List.getElem?_eq_some_iff.mp hf66).1)], by first | rfl | simp only [h _ ((List.getElem?_eq_some_iff.mp hf67).1), h _ ((List.getElem?_eq_some_iff.mp hf66).1)]⟩) (fun a1111111111 hg9 => ?_)
  have hf77 : (SNX5_11 S o)[o]? = some (7, 2, [none, some (some S.length)]) := ap_at hf66
  have hf78 : (SNX5_11 S o)[S.length]? = some (1, 6, []) := ap_at hf67
  have hf79 : (SNX5_11 S o)[(SNX5_2 S o).length]? = some (6, 15, [none, none, none, none, none, none, none, none, none, none, none, some (some (RNX4_11 (SNX5_3 S o) (SNX5_2 S o).length)), some (some (RNX4_12 (SNX5_3 S o) (SNX5_2 S o).length)), some (some (RNX4_13 (SNX5_3 S o) (SNX5_2 S o).length)), some (some (RNX4_14 (SNX5_3 S o) (SNX5_2 S o).length))]) := ap_at hf68
  have hf80 : (SNX5_11 S o)[(SNX5_4 S o).length]? = some (6, 15, [none, none, none, none, none, none, none, none, none, none, none, some (some (RNX4_11 (SNX5_5 S o) (SNX5_4 S o).length)), some (some (RNX4_12 (SNX5_5 S o) (SNX5_4 S o).length)), some (some (RNX4_13 (SNX5_5 S o) (SNX5_4 S o).length)), some (some (RNX4_14 (SNX5_5 S o) (SNX5_4 S o).length))]) := ap_at hf69
  have hf81 : (SNX5_11 S o)[(SNX5_6 S o).length]? = some (6, 15, [none, none, none, none, none, none, none, none, none, none, none, some (some (RNX4_11 (SNX5_7 S o) (SNX5_6 S o).length)), some (some (RNX4_12 (SNX5_7 S o) (SNX5_6 S o).length)), some (some (RNX4_13 (SNX5_7 S o) (SNX5_6 S o).length)), some (some (RNX4_14 (SNX5_7 S o) (SNX5_6 S o).length))]) := ap_at hf70
  have hf82 : (SNX5_11 S o)[(SNX5_8 S o).length]? = some (6, 15, [none, none, none, none, none, none, none, none, none, none, none, some (some (RNX4_11 (SNX5_9 S o) (SNX5_8 S o).length)), some (some (RNX4_12 (SNX5_9 S o) (SNX5_8 S o).length)), some (some (RNX4_13 (SNX5_9 S o) (SNX5_8 S o).length)), some (some (RNX4_14 (SNX5_9 S o) (SNX5_8 S o).length))]) := ap_at hf71
  have hf83 : (SNX5_11 S o)[(SNX5_10 S o).length]? = some (6, 15, [none, none, none, none, none, none, none, none, none, none, none, some none, some none, some none, some none]) := nw_at
  have hw84 : ie_wf (SNX5_11 S o) (MNX5_8 S M o) := wf_app hw75 (by simp) hz76
  have hz85 : ie_zr (SNX5_11 S o) (MNX5_8 S M o) := zr_app hz76
  show V _ _ _ _ _ _ _ _ _ _ (SNX5_11 S o) (MNX5_8 S M o) _ _
  refine V_dup rfl dX5_init_29 rfl ?_
  refine V_inin (mc' := 4) (ns' := 40) (d' := 1) (As := []) (S' := (SNX4 (SNX5_11 S o) (SNX5_10 S o).length)) (M' := (MNX4 (SNX5_11 S o) (MNX5_8 S M o) (SNX5_10 S o).length)) (fun a => [some (.ref (a o)), some (.int 4)]) (fun a => [.ref (a (SNX5_10 S o).length), .int 4, .ref (a S.length)]) rfl dX5_init_30 mf_X4_init rfl rfl w_171 w_402 (by decide) ⟨rfl, rfl⟩ rfl rfl rfl (fun a' h => ⟨by first | rfl | simp only [h _ ((List.getElem?_eq_some_iff.mp hf83).1), h _ ((List.getElem?_eq_some_iff.mp hf78).1), h _ ((List.getElem?_eq_some_iff.mp hf77).1)], by first | rfl | simp only [h _ ((List.getElem?_eq_some_iff.mp hf83).1), h _ ((List.getElem?_eq_some_iff.mp hf78).1), h _ ((List.getElem?_eq_some_iff.mp hf77).1)]⟩) (tc_X4 hf83 hw84 hz85) (fun a11111111111 hg10 => ?_)
  have hb86 : CBX4 (SNX5_11 S o) (MNX5_8 S M o) (SNX5_10 S o).length := cb_X4 hf83 hw84 hz85
  have len12 : (SNX5_12 S o).length = S.length + 26 := by have e := hb86.2.2.2.1; rw [show (SNX5_12 S o).length = _ from e, len11]
  have len13 : (SNX5_13 S o).length = S.length + 27 := by show ((SNX5_12 S o) ++ [_]).length = _; rw [List.length_append, List.length_singleton, len12]
  have hf87 : (SNX5_12 S o)[o]? = some (7, 2, [none, some (some S.length)]) := hb86.2.2.2.2 _ _ (Nat.ne_of_lt (List.getElem?_eq_some_iff.mp hf66).1) hf77
  have hf88 : (SNX5_12 S o)[S.length]? = some (1, 6, []) := hb86.2.2.2.2 _ _ (Nat.ne_of_lt (List.getElem?_eq_some_iff.mp hf67).1) hf78
  have hf89 : (SNX5_12 S o)[(SNX5_2 S o).length]? = some (6, 15, [none, none, none, none, none, none, none, none, none, none, none, some (some (RNX4_11 (SNX5_3 S o) (SNX5_2 S o).length)), some (some (RNX4_12 (SNX5_3 S o) (SNX5_2 S o).length)), some (some (RNX4_13 (SNX5_3 S o) (SNX5_2 S o).length)), some (some (RNX4_14 (SNX5_3 S o) (SNX5_2 S o).length))]) := hb86.2.2.2.2 _ _ (Nat.ne_of_lt (List.getElem?_eq_some_iff.mp hf68).1) hf79
  have hf90 : (SNX5_12 S o)[(SNX5_4 S o).length]? = some (6, 15, [none, none, none, none, none, none, none, none, none, none, none, some (some (RNX4_11 (SNX5_5 S o) (SNX5_4 S o).length)), some (some (RNX4_12 (SNX5_5 S o) (SNX5_4 S o).length)), some (some (RNX4_13 (SNX5_5 S o) (SNX5_4 S o).length)), some (some (RNX4_14 (SNX5_5 S o) (SNX5_4 S o).length))]) := hb86.2.2.2.2 _ _ (Nat.ne_of_lt (List.getElem?_eq_some_iff.mp hf69).1) hf80
  have hf91 : (SNX5_12 S o)[(SNX5_6 S o).length]? = some (6, 15, [none, none, none, none, none, none, none, none, none, none, none, some (some (RNX4_11 (SNX5_7 S o) (SNX5_6 S o).length)), some (some (RNX4_12 (SNX5_7 S o) (SNX5_6 S o).length)), some (some (RNX4_13 (SNX5_7 S o) (SNX5_6 S o).length)), some (some (RNX4_14 (SNX5_7 S o) (SNX5_6 S o).length))]) := hb86.2.2.2.2 _ _ (Nat.ne_of_lt (List.getElem?_eq_some_iff.mp hf70).1) hf81
  have hf92 : (SNX5_12 S o)[(SNX5_8 S o).length]? = some (6, 15, [none, none, none, none, none, none, none, none, none, none, none, some (some (RNX4_11 (SNX5_9 S o) (SNX5_8 S o).length)), some (some (RNX4_12 (SNX5_9 S o) (SNX5_8 S o).length)), some (some (RNX4_13 (SNX5_9 S o) (SNX5_8 S o).length)), some (some (RNX4_14 (SNX5_9 S o) (SNX5_8 S o).length))]) := hb86.2.2.2.2 _ _ (Nat.ne_of_lt (List.getElem?_eq_some_iff.mp hf71).1) hf82
  have hf93 : (SNX5_12 S o)[(SNX5_10 S o).length]? = some (6, 15, [none, none, none, none, none, none, none, none, none, none, none, some (some (RNX4_11 (SNX5_11 S o) (SNX5_10 S o).length)), some (some (RNX4_12 (SNX5_11 S o) (SNX5_10 S o).length)), some (some (RNX4_13 (SNX5_11 S o) (SNX5_10 S o).length)), some (some (RNX4_14 (SNX5_11 S o) (SNX5_10 S o).length))]) := hb86.1
  have hw94 : ie_wf (SNX5_12 S o) (MNX5_9 S M o) := hb86.2.1
  have hz95 : ie_zr (SNX5_12 S o) (MNX5_9 S M o) := hb86.2.2.1
  show V _ _ _ _ _ _ _ _ _ _ (SNX5_12 S o) (MNX5_9 S M o) _ _
  have hB4 : (SNX5_12 S o).length ≤ 100000 := by rw [len12]; omega
  have hb96 : (SNX5_10 S o).length < 100000 := Nat.lt_of_lt_of_le ((List.getElem?_eq_some_iff.mp hf93).1) hB4
  refine V_aast (x := Int32.ofNat ((SNX5_10 S o).length + 1)) rfl dX5_init_33 hf88 hf93 rfl (ie_in_nw hb96).1 (ie_in_nw hb96).2 (by decide +kernel) ?_
  have hw97 : ie_wf (SNX5_12 S o) (MNX5_10 S M o) := wf_ms hw94 hf88 (Or.inr (by have e1 := nI_clamp (n := (SNX5_10 S o).length + 1) (by omega); have e2 := (List.getElem?_eq_some_iff.mp hf93).1; show (nI ((SNX5_10 S o).length + 1)).toNatClampNeg ≤ _; rw [e1]; exact e2))
  have hz98 : ie_zr (SNX5_12 S o) (MNX5_10 S M o) := zr_ms hz95 ((List.getElem?_eq_some_iff.mp hf88).1)
  show V _ _ _ _ _ _ _ _ _ _ (SNX5_12 S o) (MNX5_10 S M o) _ _
  refine V_iinc (v := 5) (L' := [_, _]) rfl dX5_init_34 rfl (by decide +kernel) (by decide) rfl ?_
  refine V_goto (t := 15) rfl dX5_init_37 ?_
  refine V_iload_n rfl dX5_init_15 rfl rfl ?_
  refine V_bipush (v := 6) rfl dX5_init_16 kb_6 ?_
  refine V_icmp_ge (t := 40) rfl rfl dX5_init_18 (fun hcc => absurd hcc (by decide)) (fun _ => ?_)
  refine V_aload_n rfl dX5_init_21 rfl rfl ?_
  refine V_getr (k0 := 1) rfl dX5_init_22 hf87 icX5 (by decide) rfl w_405 ?_
  refine V_iload_n rfl dX5_init_25 rfl rfl ?_
  refine V_new (fun a => [some (.ref (a o)), some (.int 5)]) (fun a => [.int 5, .ref (a S.length)]) rfl dX5_init_26 icX4 rfl tyX4_ok ⟨w_400, w_169, w_140⟩ (fs := [none, none, none, none, none, none, none, none, none, none, none, some none, some none, some none, some none]) (by decide +kernel) (by simp) hw97 hz98 ⟨rfl, rfl⟩ (fun a' h => ⟨by first | rfl | simp only [h _ ((List.getElem?_eq_some_iff.mp hf88).1), h _ ((List.getElem?_eq_some_iff.mp hf87).1)], by first | rfl | simp only [h _ ((List.getElem?_eq_some_iff.mp hf88).1), h _ ((List.getElem?_eq_some_iff.mp hf87).1)]⟩) (fun a111111111111 hg11 => ?_)
  have hf99 : (SNX5_13 S o)[o]? = some (7, 2, [none, some (some S.length)]) := ap_at hf87
  have hf100 : (SNX5_13 S o)[S.length]? = some (1, 6, []) := ap_at hf88
  have hf101 : (SNX5_13 S o)[(SNX5_2 S o).length]? = some (6, 15, [none, none, none, none, none, none, none, none, none, none, none, some (some (RNX4_11 (SNX5_3 S o) (SNX5_2 S o).length)), some (some (RNX4_12 (SNX5_3 S o) (SNX5_2 S o).length)), some (some (RNX4_13 (SNX5_3 S o) (SNX5_2 S o).length)), some (some (RNX4_14 (SNX5_3 S o) (SNX5_2 S o).length))]) := ap_at hf89
  have hf102 : (SNX5_13 S o)[(SNX5_4 S o).length]? = some (6, 15, [none, none, none, none, none, none, none, none, none, none, none, some (some (RNX4_11 (SNX5_5 S o) (SNX5_4 S o).length)), some (some (RNX4_12 (SNX5_5 S o) (SNX5_4 S o).length)), some (some (RNX4_13 (SNX5_5 S o) (SNX5_4 S o).length)), some (some (RNX4_14 (SNX5_5 S o) (SNX5_4 S o).length))]) := ap_at hf90
  have hf103 : (SNX5_13 S o)[(SNX5_6 S o).length]? = some (6, 15, [none, none, none, none, none, none, none, none, none, none, none, some (some (RNX4_11 (SNX5_7 S o) (SNX5_6 S o).length)), some (some (RNX4_12 (SNX5_7 S o) (SNX5_6 S o).length)), some (some (RNX4_13 (SNX5_7 S o) (SNX5_6 S o).length)), some (some (RNX4_14 (SNX5_7 S o) (SNX5_6 S o).length))]) := ap_at hf91
  have hf104 : (SNX5_13 S o)[(SNX5_8 S o).length]? = some (6, 15, [none, none, none, none, none, none, none, none, none, none, none, some (some (RNX4_11 (SNX5_9 S o) (SNX5_8 S o).length)), some (some (RNX4_12 (SNX5_9 S o) (SNX5_8 S o).length)), some (some (RNX4_13 (SNX5_9 S o) (SNX5_8 S o).length)), some (some (RNX4_14 (SNX5_9 S o) (SNX5_8 S o).length))]) := ap_at hf92
  have hf105 : (SNX5_13 S o)[(SNX5_10 S o).length]? = some (6, 15, [none, none, none, none, none, none, none, none, none, none, none, some (some (RNX4_11 (SNX5_11 S o) (SNX5_10 S o).length)), some (some (RNX4_12 (SNX5_11 S o) (SNX5_10 S o).length)), some (some (RNX4_13 (SNX5_11 S o) (SNX5_10 S o).length)), some (some (RNX4_14 (SNX5_11 S o) (SNX5_10 S o).length))]) := ap_at hf93
  have hf106 : (SNX5_13 S o)[(SNX5_12 S o).length]? = some (6, 15, [none, none, none, none, none, none, none, none, none, none, none, some none, some none, some none, some none]) := nw_at
  have hw107 : ie_wf (SNX5_13 S o) (MNX5_10 S M o) := wf_app hw97 (by simp) hz98
  have hz108 : ie_zr (SNX5_13 S o) (MNX5_10 S M o) := zr_app hz98
  show V _ _ _ _ _ _ _ _ _ _ (SNX5_13 S o) (MNX5_10 S M o) _ _
  refine V_dup rfl dX5_init_29 rfl ?_
  refine V_inin (mc' := 4) (ns' := 40) (d' := 1) (As := []) (S' := (SNX4 (SNX5_13 S o) (SNX5_12 S o).length)) (M' := (MNX4 (SNX5_13 S o) (MNX5_10 S M o) (SNX5_12 S o).length)) (fun a => [some (.ref (a o)), some (.int 5)]) (fun a => [.ref (a (SNX5_12 S o).length), .int 5, .ref (a S.length)]) rfl dX5_init_30 mf_X4_init rfl rfl w_171 w_402 (by decide) ⟨rfl, rfl⟩ rfl rfl rfl (fun a' h => ⟨by first | rfl | simp only [h _ ((List.getElem?_eq_some_iff.mp hf106).1), h _ ((List.getElem?_eq_some_iff.mp hf100).1), h _ ((List.getElem?_eq_some_iff.mp hf99).1)], by first | rfl | simp only [h _ ((List.getElem?_eq_some_iff.mp hf106).1), h _ ((List.getElem?_eq_some_iff.mp hf100).1), h _ ((List.getElem?_eq_some_iff.mp hf99).1)]⟩) (tc_X4 hf106 hw107 hz108) (fun a1111111111111 hg12 => ?_)
  have hb109 : CBX4 (SNX5_13 S o) (MNX5_10 S M o) (SNX5_12 S o).length := cb_X4 hf106 hw107 hz108
  have len14 : (SNX5_14 S o).length = S.length + 31 := by have e := hb109.2.2.2.1; rw [show (SNX5_14 S o).length = _ from e, len13]
  have hf110 : (SNX5_14 S o)[o]? = some (7, 2, [none, some (some S.length)]) := hb109.2.2.2.2 _ _ (Nat.ne_of_lt (List.getElem?_eq_some_iff.mp hf87).1) hf99
  have hf111 : (SNX5_14 S o)[S.length]? = some (1, 6, []) := hb109.2.2.2.2 _ _ (Nat.ne_of_lt (List.getElem?_eq_some_iff.mp hf88).1) hf100
  have hf112 : (SNX5_14 S o)[(SNX5_2 S o).length]? = some (6, 15, [none, none, none, none, none, none, none, none, none, none, none, some (some (RNX4_11 (SNX5_3 S o) (SNX5_2 S o).length)), some (some (RNX4_12 (SNX5_3 S o) (SNX5_2 S o).length)), some (some (RNX4_13 (SNX5_3 S o) (SNX5_2 S o).length)), some (some (RNX4_14 (SNX5_3 S o) (SNX5_2 S o).length))]) := hb109.2.2.2.2 _ _ (Nat.ne_of_lt (List.getElem?_eq_some_iff.mp hf89).1) hf101
  have hf113 : (SNX5_14 S o)[(SNX5_4 S o).length]? = some (6, 15, [none, none, none, none, none, none, none, none, none, none, none, some (some (RNX4_11 (SNX5_5 S o) (SNX5_4 S o).length)), some (some (RNX4_12 (SNX5_5 S o) (SNX5_4 S o).length)), some (some (RNX4_13 (SNX5_5 S o) (SNX5_4 S o).length)), some (some (RNX4_14 (SNX5_5 S o) (SNX5_4 S o).length))]) := hb109.2.2.2.2 _ _ (Nat.ne_of_lt (List.getElem?_eq_some_iff.mp hf90).1) hf102
  have hf114 : (SNX5_14 S o)[(SNX5_6 S o).length]? = some (6, 15, [none, none, none, none, none, none, none, none, none, none, none, some (some (RNX4_11 (SNX5_7 S o) (SNX5_6 S o).length)), some (some (RNX4_12 (SNX5_7 S o) (SNX5_6 S o).length)), some (some (RNX4_13 (SNX5_7 S o) (SNX5_6 S o).length)), some (some (RNX4_14 (SNX5_7 S o) (SNX5_6 S o).length))]) := hb109.2.2.2.2 _ _ (Nat.ne_of_lt (List.getElem?_eq_some_iff.mp hf91).1) hf103
  have hf115 : (SNX5_14 S o)[(SNX5_8 S o).length]? = some (6, 15, [none, none, none, none, none, none, none, none, none, none, none, some (some (RNX4_11 (SNX5_9 S o) (SNX5_8 S o).length)), some (some (RNX4_12 (SNX5_9 S o) (SNX5_8 S o).length)), some (some (RNX4_13 (SNX5_9 S o) (SNX5_8 S o).length)), some (some (RNX4_14 (SNX5_9 S o) (SNX5_8 S o).length))]) := hb109.2.2.2.2 _ _ (Nat.ne_of_lt (List.getElem?_eq_some_iff.mp hf92).1) hf104
  have hf116 : (SNX5_14 S o)[(SNX5_10 S o).length]? = some (6, 15, [none, none, none, none, none, none, none, none, none, none, none, some (some (RNX4_11 (SNX5_11 S o) (SNX5_10 S o).length)), some (some (RNX4_12 (SNX5_11 S o) (SNX5_10 S o).length)), some (some (RNX4_13 (SNX5_11 S o) (SNX5_10 S o).length)), some (some (RNX4_14 (SNX5_11 S o) (SNX5_10 S o).length))]) := hb109.2.2.2.2 _ _ (Nat.ne_of_lt (List.getElem?_eq_some_iff.mp hf93).1) hf105
  have hf117 : (SNX5_14 S o)[(SNX5_12 S o).length]? = some (6, 15, [none, none, none, none, none, none, none, none, none, none, none, some (some (RNX4_11 (SNX5_13 S o) (SNX5_12 S o).length)), some (some (RNX4_12 (SNX5_13 S o) (SNX5_12 S o).length)), some (some (RNX4_13 (SNX5_13 S o) (SNX5_12 S o).length)), some (some (RNX4_14 (SNX5_13 S o) (SNX5_12 S o).length))]) := hb109.1
  have hw118 : ie_wf (SNX5_14 S o) (MNX5_11 S M o) := hb109.2.1
  have hz119 : ie_zr (SNX5_14 S o) (MNX5_11 S M o) := hb109.2.2.1
  show V _ _ _ _ _ _ _ _ _ _ (SNX5_14 S o) (MNX5_11 S M o) _ _
  have hB5 : (SNX5_14 S o).length ≤ 100000 := by rw [len14]; omega
  have hb120 : (SNX5_12 S o).length < 100000 := Nat.lt_of_lt_of_le ((List.getElem?_eq_some_iff.mp hf117).1) hB5
  refine V_aast (x := Int32.ofNat ((SNX5_12 S o).length + 1)) rfl dX5_init_33 hf111 hf117 rfl (ie_in_nw hb120).1 (ie_in_nw hb120).2 (by decide +kernel) ?_
  have hw121 : ie_wf (SNX5_14 S o) (MNX5_12 S M o) := wf_ms hw118 hf111 (Or.inr (by have e1 := nI_clamp (n := (SNX5_12 S o).length + 1) (by omega); have e2 := (List.getElem?_eq_some_iff.mp hf117).1; show (nI ((SNX5_12 S o).length + 1)).toNatClampNeg ≤ _; rw [e1]; exact e2))
  have hz122 : ie_zr (SNX5_14 S o) (MNX5_12 S M o) := zr_ms hz119 ((List.getElem?_eq_some_iff.mp hf111).1)
  show V _ _ _ _ _ _ _ _ _ _ (SNX5_14 S o) (MNX5_12 S M o) _ _
  refine V_iinc (v := 6) (L' := [_, _]) rfl dX5_init_34 rfl (by decide +kernel) (by decide) rfl ?_
  refine V_goto (t := 15) rfl dX5_init_37 ?_
  refine V_iload_n rfl dX5_init_15 rfl rfl ?_
  refine V_bipush (v := 6) rfl dX5_init_16 kb_6 ?_
  refine V_icmp_ge (t := 40) rfl rfl dX5_init_18 (fun _ => ?_) (fun hcc => absurd (by decide) hcc)
  exact V_vret dX5_init_40 rfl (by decide) (by decide) ⟨rfl, rfl, rfl, fun p hp => by rw [hg12 p (by rw [len13]; omega), hg11 p (by rw [len12]; omega), hg10 p (by rw [len11]; omega), hg9 p (by rw [len10]; omega), hg8 p (by rw [len9]; omega), hg7 p (by rw [len8]; omega), hg6 p (by rw [len7]; omega), hg5 p (by rw [len6]; omega), hg4 p (by rw [len5]; omega), hg3 p (by rw [len4]; omega), hg2 p (by rw [len3]; omega), hg1 p (by rw [len2]; omega), hg0 p hp]⟩
def SNX6_1 (S : List IK) (o : Nat) : List IK := S ++ [(5, 7, [none, some none, some none, some none, some none, none, some none])]
def SNX6_2 (S : List IK) (o : Nat) : List IK := (SNX3 (SNX6_1 S o) S.length)
def SNX6_3 (S : List IK) (o : Nat) : List IK := (SNX6_2 S o).set o (8, 8, [none, none, some (some S.length), some none, some none, some none, some none, none])
def SNX6_4 (S : List IK) (o : Nat) : List IK := (SNX6_3 S o) ++ [(9, 5, [none, some none, some none, some none, some none])]
def SNX6_5 (S : List IK) (o : Nat) : List IK := (SNX7 (SNX6_4 S o) (SNX6_3 S o).length)
def SNX6_6 (S : List IK) (o : Nat) : List IK := (SNX6_5 S o).set o (8, 8, [none, none, some (some S.length), some (some (SNX6_3 S o).length), some none, some none, some none, none])
def SNX6_7 (S : List IK) (o : Nat) : List IK := (SNX6_6 S o) ++ [(10, 5, [none, some none, some none, some none, some none])]
def SNX6_8 (S : List IK) (o : Nat) : List IK := (SNX8 (SNX6_7 S o) (SNX6_6 S o).length)
def SNX6_9 (S : List IK) (o : Nat) : List IK := (SNX6_8 S o).set o (8, 8, [none, none, some (some S.length), some (some (SNX6_3 S o).length), some (some (SNX6_6 S o).length), some none, some none, none])
def SNX6_10 (S : List IK) (o : Nat) : List IK := (SNX6_9 S o) ++ [(0, 401, [])]
def SNX6_11 (S : List IK) (o : Nat) : List IK := (SNX6_10 S o).set o (8, 8, [none, none, some (some S.length), some (some (SNX6_3 S o).length), some (some (SNX6_6 S o).length), some (some (SNX6_9 S o).length), some none, none])
def SNX6_12 (S : List IK) (o : Nat) : List IK := (SNX6_11 S o) ++ [(0, 401, [])]
def SNX6_13 (S : List IK) (o : Nat) : List IK := (SNX6_12 S o).set o (8, 8, [none, none, some (some S.length), some (some (SNX6_3 S o).length), some (some (SNX6_6 S o).length), some (some (SNX6_9 S o).length), some (some (SNX6_11 S o).length), none])
def SNX6 (S : List IK) (o : Nat) : List IK := (SNX6_13 S o)
def MNX6_1 (S : List IK) (M : IM) (o : Nat) : IM := ms M o 1 (-1)
def MNX6_2 (S : List IK) (M : IM) (o : Nat) : IM := (MNX3 (SNX6_1 S o) (MNX6_1 S M o) S.length)
def MNX6_3 (S : List IK) (M : IM) (o : Nat) : IM := (MNX7 (SNX6_4 S o) (MNX6_2 S M o) (SNX6_3 S o).length)
def MNX6_4 (S : List IK) (M : IM) (o : Nat) : IM := (MNX8 (SNX6_7 S o) (MNX6_3 S M o) (SNX6_6 S o).length)
def MNX6 (S : List IK) (M : IM) (o : Nat) : IM := (MNX6_4 S M o)
def RNX6_2 (S : List IK) (o : Nat) : Nat := S.length
def RNX6_3 (S : List IK) (o : Nat) : Nat := (SNX6_3 S o).length
def RNX6_4 (S : List IK) (o : Nat) : Nat := (SNX6_6 S o).length
def RNX6_5 (S : List IK) (o : Nat) : Nat := (SNX6_9 S o).length
def RNX6_6 (S : List IK) (o : Nat) : Nat := (SNX6_11 S o).length
def CBX6 (S : List IK) (M : IM) (o : Nat) : Prop := (SNX6 S o)[o]? = some (8, 8, [none, none, some (some (RNX6_2 S o)), some (some (RNX6_3 S o)), some (some (RNX6_4 S o)), some (some (RNX6_5 S o)), some (some (RNX6_6 S o)), none]) ∧ ie_wf (SNX6 S o) (MNX6 S M o) ∧ ie_zr (SNX6 S o) (MNX6 S M o) ∧ (SNX6 S o).length = S.length + 18 ∧ ∀ (p : Nat) (x : IK), ¬ p = o → S[p]? = some x → (SNX6 S o)[p]? = some x
set_option maxRecDepth 100000 in
set_option maxHeartbeats 4000000 in
theorem cb_X6 {S : List IK} {M : IM} {o : Nat} (ho : S[o]? = some (8, 8, [none, none, some none, some none, some none, some none, some none, none])) (hwf : ie_wf S M) (hz : ie_zr S M) : CBX6 S M o := by
  have len1 : (SNX6_1 S o).length = S.length + 1 := by show (S ++ [_]).length = _; rw [List.length_append, List.length_singleton]
  have hw1 : ie_wf S (MNX6_1 S M o) := wf_ms hwf ho (Or.inl (by decide))
  have hz2 : ie_zr S (MNX6_1 S M o) := zr_ms hz ((List.getElem?_eq_some_iff.mp ho).1)
  have hf3 : (SNX6_1 S o)[o]? = some (8, 8, [none, none, some none, some none, some none, some none, some none, none]) := ap_at ho
  have hf4 : (SNX6_1 S o)[S.length]? = some (5, 7, [none, some none, some none, some none, some none, none, some none]) := nw_at
  have hw5 : ie_wf (SNX6_1 S o) (MNX6_1 S M o) := wf_app hw1 (by simp) hz2
  have hz6 : ie_zr (SNX6_1 S o) (MNX6_1 S M o) := zr_app hz2
  have hb7 : CBX3 (SNX6_1 S o) (MNX6_1 S M o) S.length := cb_X3 hf4 hw5 hz6
  have len2 : (SNX6_2 S o).length = S.length + 6 := by have e := hb7.2.2.2.1; rw [show (SNX6_2 S o).length = _ from e, len1]
  have len3 : (SNX6_3 S o).length = S.length + 6 := by show ((SNX6_2 S o).set _ _).length = _; rw [List.length_set, len2]
  have len4 : (SNX6_4 S o).length = S.length + 7 := by show ((SNX6_3 S o) ++ [_]).length = _; rw [List.length_append, List.length_singleton, len3]
  have hf8 : (SNX6_2 S o)[o]? = some (8, 8, [none, none, some none, some none, some none, some none, some none, none]) := hb7.2.2.2.2 _ _ (Nat.ne_of_lt (List.getElem?_eq_some_iff.mp ho).1) hf3
  have hf9 : (SNX6_2 S o)[S.length]? = some (5, 7, [none, some (some (RNX3_1 (SNX6_1 S o) S.length)), some (some (RNX3_2 (SNX6_1 S o) S.length)), some (some (RNX3_3 (SNX6_1 S o) S.length)), some (some (RNX3_4 (SNX6_1 S o) S.length)), none, some (some (RNX3_6 (SNX6_1 S o) S.length))]) := hb7.1
  have hw10 : ie_wf (SNX6_2 S o) (MNX6_2 S M o) := hb7.2.1
  have hz11 : ie_zr (SNX6_2 S o) (MNX6_2 S M o) := hb7.2.2.1
  have hf12 : (SNX6_3 S o)[o]? = some (8, 8, [none, none, some (some S.length), some none, some none, some none, some none, none]) := st_at hf8
  have hf13 : (SNX6_3 S o)[S.length]? = some (5, 7, [none, some (some (RNX3_1 (SNX6_1 S o) S.length)), some (some (RNX3_2 (SNX6_1 S o) S.length)), some (some (RNX3_3 (SNX6_1 S o) S.length)), some (some (RNX3_4 (SNX6_1 S o) S.length)), none, some (some (RNX3_6 (SNX6_1 S o) S.length))]) := st_at' hf9 (Nat.ne_of_lt (List.getElem?_eq_some_iff.mp ho).1)
  have hw14 : ie_wf (SNX6_3 S o) (MNX6_2 S M o) := by have zz := wf_set (i := 2) (r := S.length) hw10 hf8 ((List.getElem?_eq_some_iff.mp hf9).1); exact zz
  have hz15 : ie_zr (SNX6_3 S o) (MNX6_2 S M o) := zr_set hz11
  have hf16 : (SNX6_4 S o)[o]? = some (8, 8, [none, none, some (some S.length), some none, some none, some none, some none, none]) := ap_at hf12
  have hf17 : (SNX6_4 S o)[S.length]? = some (5, 7, [none, some (some (RNX3_1 (SNX6_1 S o) S.length)), some (some (RNX3_2 (SNX6_1 S o) S.length)), some (some (RNX3_3 (SNX6_1 S o) S.length)), some (some (RNX3_4 (SNX6_1 S o) S.length)), none, some (some (RNX3_6 (SNX6_1 S o) S.length))]) := ap_at hf13
  have hf18 : (SNX6_4 S o)[(SNX6_3 S o).length]? = some (9, 5, [none, some none, some none, some none, some none]) := nw_at
  have hw19 : ie_wf (SNX6_4 S o) (MNX6_2 S M o) := wf_app hw14 (by simp) hz15
  have hz20 : ie_zr (SNX6_4 S o) (MNX6_2 S M o) := zr_app hz15
  have hb21 : CBX7 (SNX6_4 S o) (MNX6_2 S M o) (SNX6_3 S o).length := cb_X7 hf18 hw19 hz20
  have len5 : (SNX6_5 S o).length = S.length + 11 := by have e := hb21.2.2.2.1; rw [show (SNX6_5 S o).length = _ from e, len4]
  have len6 : (SNX6_6 S o).length = S.length + 11 := by show ((SNX6_5 S o).set _ _).length = _; rw [List.length_set, len5]
  have len7 : (SNX6_7 S o).length = S.length + 12 := by show ((SNX6_6 S o) ++ [_]).length = _; rw [List.length_append, List.length_singleton, len6]
  have hf22 : (SNX6_5 S o)[o]? = some (8, 8, [none, none, some (some S.length), some none, some none, some none, some none, none]) := hb21.2.2.2.2 _ _ (Nat.ne_of_lt (List.getElem?_eq_some_iff.mp hf12).1) hf16
  have hf23 : (SNX6_5 S o)[S.length]? = some (5, 7, [none, some (some (RNX3_1 (SNX6_1 S o) S.length)), some (some (RNX3_2 (SNX6_1 S o) S.length)), some (some (RNX3_3 (SNX6_1 S o) S.length)), some (some (RNX3_4 (SNX6_1 S o) S.length)), none, some (some (RNX3_6 (SNX6_1 S o) S.length))]) := hb21.2.2.2.2 _ _ (Nat.ne_of_lt (List.getElem?_eq_some_iff.mp hf13).1) hf17
  have hf24 : (SNX6_5 S o)[(SNX6_3 S o).length]? = some (9, 5, [none, some (some (RNX7_1 (SNX6_4 S o) (SNX6_3 S o).length)), some (some (RNX7_2 (SNX6_4 S o) (SNX6_3 S o).length)), some (some (RNX7_3 (SNX6_4 S o) (SNX6_3 S o).length)), some (some (RNX7_4 (SNX6_4 S o) (SNX6_3 S o).length))]) := hb21.1
  have hw25 : ie_wf (SNX6_5 S o) (MNX6_3 S M o) := hb21.2.1
  have hz26 : ie_zr (SNX6_5 S o) (MNX6_3 S M o) := hb21.2.2.1
  have hf27 : (SNX6_6 S o)[o]? = some (8, 8, [none, none, some (some S.length), some (some (SNX6_3 S o).length), some none, some none, some none, none]) := st_at hf22
  have hf28 : (SNX6_6 S o)[S.length]? = some (5, 7, [none, some (some (RNX3_1 (SNX6_1 S o) S.length)), some (some (RNX3_2 (SNX6_1 S o) S.length)), some (some (RNX3_3 (SNX6_1 S o) S.length)), some (some (RNX3_4 (SNX6_1 S o) S.length)), none, some (some (RNX3_6 (SNX6_1 S o) S.length))]) := st_at' hf23 (Nat.ne_of_lt (List.getElem?_eq_some_iff.mp ho).1)
  have hf29 : (SNX6_6 S o)[(SNX6_3 S o).length]? = some (9, 5, [none, some (some (RNX7_1 (SNX6_4 S o) (SNX6_3 S o).length)), some (some (RNX7_2 (SNX6_4 S o) (SNX6_3 S o).length)), some (some (RNX7_3 (SNX6_4 S o) (SNX6_3 S o).length)), some (some (RNX7_4 (SNX6_4 S o) (SNX6_3 S o).length))]) := st_at' hf24 (Nat.ne_of_lt (List.getElem?_eq_some_iff.mp hf12).1)
  have hw30 : ie_wf (SNX6_6 S o) (MNX6_3 S M o) := by have zz := wf_set (i := 3) (r := (SNX6_3 S o).length) hw25 hf22 ((List.getElem?_eq_some_iff.mp hf24).1); exact zz
  have hz31 : ie_zr (SNX6_6 S o) (MNX6_3 S M o) := zr_set hz26
  have hf32 : (SNX6_7 S o)[o]? = some (8, 8, [none, none, some (some S.length), some (some (SNX6_3 S o).length), some none, some none, some none, none]) := ap_at hf27
  have hf33 : (SNX6_7 S o)[S.length]? = some (5, 7, [none, some (some (RNX3_1 (SNX6_1 S o) S.length)), some (some (RNX3_2 (SNX6_1 S o) S.length)), some (some (RNX3_3 (SNX6_1 S o) S.length)), some (some (RNX3_4 (SNX6_1 S o) S.length)), none, some (some (RNX3_6 (SNX6_1 S o) S.length))]) := ap_at hf28
  have hf34 : (SNX6_7 S o)[(SNX6_3 S o).length]? = some (9, 5, [none, some (some (RNX7_1 (SNX6_4 S o) (SNX6_3 S o).length)), some (some (RNX7_2 (SNX6_4 S o) (SNX6_3 S o).length)), some (some (RNX7_3 (SNX6_4 S o) (SNX6_3 S o).length)), some (some (RNX7_4 (SNX6_4 S o) (SNX6_3 S o).length))]) := ap_at hf29
  have hf35 : (SNX6_7 S o)[(SNX6_6 S o).length]? = some (10, 5, [none, some none, some none, some none, some none]) := nw_at
  have hw36 : ie_wf (SNX6_7 S o) (MNX6_3 S M o) := wf_app hw30 (by simp) hz31
  have hz37 : ie_zr (SNX6_7 S o) (MNX6_3 S M o) := zr_app hz31
  have hb38 : CBX8 (SNX6_7 S o) (MNX6_3 S M o) (SNX6_6 S o).length := cb_X8 hf35 hw36 hz37
  have len8 : (SNX6_8 S o).length = S.length + 16 := by have e := hb38.2.2.2.1; rw [show (SNX6_8 S o).length = _ from e, len7]
  have len9 : (SNX6_9 S o).length = S.length + 16 := by show ((SNX6_8 S o).set _ _).length = _; rw [List.length_set, len8]
  have len10 : (SNX6_10 S o).length = S.length + 17 := by show ((SNX6_9 S o) ++ [_]).length = _; rw [List.length_append, List.length_singleton, len9]
  have len11 : (SNX6_11 S o).length = S.length + 17 := by show ((SNX6_10 S o).set _ _).length = _; rw [List.length_set, len10]
  have len12 : (SNX6_12 S o).length = S.length + 18 := by show ((SNX6_11 S o) ++ [_]).length = _; rw [List.length_append, List.length_singleton, len11]
  have len13 : (SNX6_13 S o).length = S.length + 18 := by show ((SNX6_12 S o).set _ _).length = _; rw [List.length_set, len12]
  have hf39 : (SNX6_8 S o)[o]? = some (8, 8, [none, none, some (some S.length), some (some (SNX6_3 S o).length), some none, some none, some none, none]) := hb38.2.2.2.2 _ _ (Nat.ne_of_lt (List.getElem?_eq_some_iff.mp hf27).1) hf32
  have hf40 : (SNX6_8 S o)[S.length]? = some (5, 7, [none, some (some (RNX3_1 (SNX6_1 S o) S.length)), some (some (RNX3_2 (SNX6_1 S o) S.length)), some (some (RNX3_3 (SNX6_1 S o) S.length)), some (some (RNX3_4 (SNX6_1 S o) S.length)), none, some (some (RNX3_6 (SNX6_1 S o) S.length))]) := hb38.2.2.2.2 _ _ (Nat.ne_of_lt (List.getElem?_eq_some_iff.mp hf28).1) hf33
  have hf41 : (SNX6_8 S o)[(SNX6_3 S o).length]? = some (9, 5, [none, some (some (RNX7_1 (SNX6_4 S o) (SNX6_3 S o).length)), some (some (RNX7_2 (SNX6_4 S o) (SNX6_3 S o).length)), some (some (RNX7_3 (SNX6_4 S o) (SNX6_3 S o).length)), some (some (RNX7_4 (SNX6_4 S o) (SNX6_3 S o).length))]) := hb38.2.2.2.2 _ _ (Nat.ne_of_lt (List.getElem?_eq_some_iff.mp hf29).1) hf34
  have hf42 : (SNX6_8 S o)[(SNX6_6 S o).length]? = some (10, 5, [none, some (some (RNX8_1 (SNX6_7 S o) (SNX6_6 S o).length)), some (some (RNX8_2 (SNX6_7 S o) (SNX6_6 S o).length)), some (some (RNX8_3 (SNX6_7 S o) (SNX6_6 S o).length)), some (some (RNX8_4 (SNX6_7 S o) (SNX6_6 S o).length))]) := hb38.1
  have hw43 : ie_wf (SNX6_8 S o) (MNX6_4 S M o) := hb38.2.1
  have hz44 : ie_zr (SNX6_8 S o) (MNX6_4 S M o) := hb38.2.2.1
  have hf45 : (SNX6_9 S o)[o]? = some (8, 8, [none, none, some (some S.length), some (some (SNX6_3 S o).length), some (some (SNX6_6 S o).length), some none, some none, none]) := st_at hf39
  have hf46 : (SNX6_9 S o)[S.length]? = some (5, 7, [none, some (some (RNX3_1 (SNX6_1 S o) S.length)), some (some (RNX3_2 (SNX6_1 S o) S.length)), some (some (RNX3_3 (SNX6_1 S o) S.length)), some (some (RNX3_4 (SNX6_1 S o) S.length)), none, some (some (RNX3_6 (SNX6_1 S o) S.length))]) := st_at' hf40 (Nat.ne_of_lt (List.getElem?_eq_some_iff.mp ho).1)
  have hf47 : (SNX6_9 S o)[(SNX6_3 S o).length]? = some (9, 5, [none, some (some (RNX7_1 (SNX6_4 S o) (SNX6_3 S o).length)), some (some (RNX7_2 (SNX6_4 S o) (SNX6_3 S o).length)), some (some (RNX7_3 (SNX6_4 S o) (SNX6_3 S o).length)), some (some (RNX7_4 (SNX6_4 S o) (SNX6_3 S o).length))]) := st_at' hf41 (Nat.ne_of_lt (List.getElem?_eq_some_iff.mp hf12).1)
  have hf48 : (SNX6_9 S o)[(SNX6_6 S o).length]? = some (10, 5, [none, some (some (RNX8_1 (SNX6_7 S o) (SNX6_6 S o).length)), some (some (RNX8_2 (SNX6_7 S o) (SNX6_6 S o).length)), some (some (RNX8_3 (SNX6_7 S o) (SNX6_6 S o).length)), some (some (RNX8_4 (SNX6_7 S o) (SNX6_6 S o).length))]) := st_at' hf42 (Nat.ne_of_lt (List.getElem?_eq_some_iff.mp hf27).1)
  have hw49 : ie_wf (SNX6_9 S o) (MNX6_4 S M o) := by have zz := wf_set (i := 4) (r := (SNX6_6 S o).length) hw43 hf39 ((List.getElem?_eq_some_iff.mp hf42).1); exact zz
  have hz50 : ie_zr (SNX6_9 S o) (MNX6_4 S M o) := zr_set hz44
  have hf51 : (SNX6_10 S o)[o]? = some (8, 8, [none, none, some (some S.length), some (some (SNX6_3 S o).length), some (some (SNX6_6 S o).length), some none, some none, none]) := ap_at hf45
  have hf52 : (SNX6_10 S o)[S.length]? = some (5, 7, [none, some (some (RNX3_1 (SNX6_1 S o) S.length)), some (some (RNX3_2 (SNX6_1 S o) S.length)), some (some (RNX3_3 (SNX6_1 S o) S.length)), some (some (RNX3_4 (SNX6_1 S o) S.length)), none, some (some (RNX3_6 (SNX6_1 S o) S.length))]) := ap_at hf46
  have hf53 : (SNX6_10 S o)[(SNX6_3 S o).length]? = some (9, 5, [none, some (some (RNX7_1 (SNX6_4 S o) (SNX6_3 S o).length)), some (some (RNX7_2 (SNX6_4 S o) (SNX6_3 S o).length)), some (some (RNX7_3 (SNX6_4 S o) (SNX6_3 S o).length)), some (some (RNX7_4 (SNX6_4 S o) (SNX6_3 S o).length))]) := ap_at hf47
  have hf54 : (SNX6_10 S o)[(SNX6_6 S o).length]? = some (10, 5, [none, some (some (RNX8_1 (SNX6_7 S o) (SNX6_6 S o).length)), some (some (RNX8_2 (SNX6_7 S o) (SNX6_6 S o).length)), some (some (RNX8_3 (SNX6_7 S o) (SNX6_6 S o).length)), some (some (RNX8_4 (SNX6_7 S o) (SNX6_6 S o).length))]) := ap_at hf48
  have hf55 : (SNX6_10 S o)[(SNX6_9 S o).length]? = some (0, 401, []) := nw_at
  have hw56 : ie_wf (SNX6_10 S o) (MNX6_4 S M o) := wf_app hw49 (by simp) hz50
  have hz57 : ie_zr (SNX6_10 S o) (MNX6_4 S M o) := zr_app hz50
  have hf58 : (SNX6_11 S o)[o]? = some (8, 8, [none, none, some (some S.length), some (some (SNX6_3 S o).length), some (some (SNX6_6 S o).length), some (some (SNX6_9 S o).length), some none, none]) := st_at hf51
  have hf59 : (SNX6_11 S o)[S.length]? = some (5, 7, [none, some (some (RNX3_1 (SNX6_1 S o) S.length)), some (some (RNX3_2 (SNX6_1 S o) S.length)), some (some (RNX3_3 (SNX6_1 S o) S.length)), some (some (RNX3_4 (SNX6_1 S o) S.length)), none, some (some (RNX3_6 (SNX6_1 S o) S.length))]) := st_at' hf52 (Nat.ne_of_lt (List.getElem?_eq_some_iff.mp ho).1)
  have hf60 : (SNX6_11 S o)[(SNX6_3 S o).length]? = some (9, 5, [none, some (some (RNX7_1 (SNX6_4 S o) (SNX6_3 S o).length)), some (some (RNX7_2 (SNX6_4 S o) (SNX6_3 S o).length)), some (some (RNX7_3 (SNX6_4 S o) (SNX6_3 S o).length)), some (some (RNX7_4 (SNX6_4 S o) (SNX6_3 S o).length))]) := st_at' hf53 (Nat.ne_of_lt (List.getElem?_eq_some_iff.mp hf12).1)
  have hf61 : (SNX6_11 S o)[(SNX6_6 S o).length]? = some (10, 5, [none, some (some (RNX8_1 (SNX6_7 S o) (SNX6_6 S o).length)), some (some (RNX8_2 (SNX6_7 S o) (SNX6_6 S o).length)), some (some (RNX8_3 (SNX6_7 S o) (SNX6_6 S o).length)), some (some (RNX8_4 (SNX6_7 S o) (SNX6_6 S o).length))]) := st_at' hf54 (Nat.ne_of_lt (List.getElem?_eq_some_iff.mp hf27).1)
  have hf62 : (SNX6_11 S o)[(SNX6_9 S o).length]? = some (0, 401, []) := st_at' hf55 (Nat.ne_of_lt (List.getElem?_eq_some_iff.mp hf45).1)
  have hw63 : ie_wf (SNX6_11 S o) (MNX6_4 S M o) := by have zz := wf_set (i := 5) (r := (SNX6_9 S o).length) hw56 hf51 ((List.getElem?_eq_some_iff.mp hf55).1); exact zz
  have hz64 : ie_zr (SNX6_11 S o) (MNX6_4 S M o) := zr_set hz57
  have hf65 : (SNX6_12 S o)[o]? = some (8, 8, [none, none, some (some S.length), some (some (SNX6_3 S o).length), some (some (SNX6_6 S o).length), some (some (SNX6_9 S o).length), some none, none]) := ap_at hf58
  have hf66 : (SNX6_12 S o)[S.length]? = some (5, 7, [none, some (some (RNX3_1 (SNX6_1 S o) S.length)), some (some (RNX3_2 (SNX6_1 S o) S.length)), some (some (RNX3_3 (SNX6_1 S o) S.length)), some (some (RNX3_4 (SNX6_1 S o) S.length)), none, some (some (RNX3_6 (SNX6_1 S o) S.length))]) := ap_at hf59
  have hf67 : (SNX6_12 S o)[(SNX6_3 S o).length]? = some (9, 5, [none, some (some (RNX7_1 (SNX6_4 S o) (SNX6_3 S o).length)), some (some (RNX7_2 (SNX6_4 S o) (SNX6_3 S o).length)), some (some (RNX7_3 (SNX6_4 S o) (SNX6_3 S o).length)), some (some (RNX7_4 (SNX6_4 S o) (SNX6_3 S o).length))]) := ap_at hf60
  have hf68 : (SNX6_12 S o)[(SNX6_6 S o).length]? = some (10, 5, [none, some (some (RNX8_1 (SNX6_7 S o) (SNX6_6 S o).length)), some (some (RNX8_2 (SNX6_7 S o) (SNX6_6 S o).length)), some (some (RNX8_3 (SNX6_7 S o) (SNX6_6 S o).length)), some (some (RNX8_4 (SNX6_7 S o) (SNX6_6 S o).length))]) := ap_at hf61
  have hf69 : (SNX6_12 S o)[(SNX6_9 S o).length]? = some (0, 401, []) := ap_at hf62
  have hf70 : (SNX6_12 S o)[(SNX6_11 S o).length]? = some (0, 401, []) := nw_at
  have hw71 : ie_wf (SNX6_12 S o) (MNX6_4 S M o) := wf_app hw63 (by simp) hz64
  have hz72 : ie_zr (SNX6_12 S o) (MNX6_4 S M o) := zr_app hz64
  have hf73 : (SNX6_13 S o)[o]? = some (8, 8, [none, none, some (some S.length), some (some (SNX6_3 S o).length), some (some (SNX6_6 S o).length), some (some (SNX6_9 S o).length), some (some (SNX6_11 S o).length), none]) := st_at hf65
  have hf74 : (SNX6_13 S o)[S.length]? = some (5, 7, [none, some (some (RNX3_1 (SNX6_1 S o) S.length)), some (some (RNX3_2 (SNX6_1 S o) S.length)), some (some (RNX3_3 (SNX6_1 S o) S.length)), some (some (RNX3_4 (SNX6_1 S o) S.length)), none, some (some (RNX3_6 (SNX6_1 S o) S.length))]) := st_at' hf66 (Nat.ne_of_lt (List.getElem?_eq_some_iff.mp ho).1)
  have hf75 : (SNX6_13 S o)[(SNX6_3 S o).length]? = some (9, 5, [none, some (some (RNX7_1 (SNX6_4 S o) (SNX6_3 S o).length)), some (some (RNX7_2 (SNX6_4 S o) (SNX6_3 S o).length)), some (some (RNX7_3 (SNX6_4 S o) (SNX6_3 S o).length)), some (some (RNX7_4 (SNX6_4 S o) (SNX6_3 S o).length))]) := st_at' hf67 (Nat.ne_of_lt (List.getElem?_eq_some_iff.mp hf12).1)
  have hf76 : (SNX6_13 S o)[(SNX6_6 S o).length]? = some (10, 5, [none, some (some (RNX8_1 (SNX6_7 S o) (SNX6_6 S o).length)), some (some (RNX8_2 (SNX6_7 S o) (SNX6_6 S o).length)), some (some (RNX8_3 (SNX6_7 S o) (SNX6_6 S o).length)), some (some (RNX8_4 (SNX6_7 S o) (SNX6_6 S o).length))]) := st_at' hf68 (Nat.ne_of_lt (List.getElem?_eq_some_iff.mp hf27).1)
  have hf77 : (SNX6_13 S o)[(SNX6_9 S o).length]? = some (0, 401, []) := st_at' hf69 (Nat.ne_of_lt (List.getElem?_eq_some_iff.mp hf45).1)
  have hf78 : (SNX6_13 S o)[(SNX6_11 S o).length]? = some (0, 401, []) := st_at' hf70 (Nat.ne_of_lt (List.getElem?_eq_some_iff.mp hf58).1)
  have hw79 : ie_wf (SNX6_13 S o) (MNX6_4 S M o) := by have zz := wf_set (i := 6) (r := (SNX6_11 S o).length) hw71 hf65 ((List.getElem?_eq_some_iff.mp hf70).1); exact zz
  have hz80 : ie_zr (SNX6_13 S o) (MNX6_4 S M o) := zr_set hz72
  exact ⟨hf73, hw79, hz80, len13, fun p x hp h => (st_at' (ap_at (st_at' (ap_at (st_at' (hb38.2.2.2.2 _ _ (fun e => absurd (List.getElem?_eq_some_iff.mp h).1 (by rw [e]; have := len6; omega)) (ap_at (st_at' (hb21.2.2.2.2 _ _ (fun e => absurd (List.getElem?_eq_some_iff.mp h).1 (by rw [e]; have := len3; omega)) (ap_at (st_at' (hb7.2.2.2.2 _ _ (fun e => absurd (List.getElem?_eq_some_iff.mp h).1 (by rw [e]; have := len0; omega)) (ap_at h)) (fun e => hp e.symm)))) (fun e => hp e.symm)))) (fun e => hp e.symm))) (fun e => hp e.symm))) (fun e => hp e.symm))⟩
set_option maxRecDepth 100000 in
set_option maxHeartbeats 8000000 in
theorem tc_X6 {g : IG} {a : Nat → Nat} {S : List IK} {M : IM} {o : Nat} (ho : S[o]? = some (8, 8, [none, none, some none, some none, some none, some none, some none, none])) (hwf : ie_wf S M) (hz : ie_zr S M) : Cn g mX6_init 2 18 1367 (qC (SNX6 S o) (MNX6 S M o) S.length a) [.ref (a o)] a S M := by
  refine Cn_of (L := [some (.ref (a o))]) mf_X6_init (cat_r cat_0) (Nat.le_of_ble_eq_true rfl) rfl ?_
  have len1 : (SNX6_1 S o).length = S.length + 1 := by show (S ++ [_]).length = _; rw [List.length_append, List.length_singleton]
  refine V_aload_n rfl dX6_init_0 rfl rfl ?_
  refine V_obj rfl dX6_init_1 ⟨w_416, w_166, w_167⟩ rfl ?_
  refine V_aload_n rfl dX6_init_4 rfl rfl ?_
  refine V_iconst (v := (-1)) rfl dX6_init_5 kc_m1 ?_
  refine V_putf (k0 := 1) (ty := .int) rfl dX6_init_6 ho icX6 tyX6_ok nmX6 (by decide) rfl w_425 rfl (tyX6_ok _ (by decide)) rfl rfl ?_
  have hw1 : ie_wf S (MNX6_1 S M o) := wf_ms hwf ho (Or.inl (by decide))
  have hz2 : ie_zr S (MNX6_1 S M o) := zr_ms hz ((List.getElem?_eq_some_iff.mp ho).1)
  show V _ _ _ _ _ _ _ _ _ _ S (MNX6_1 S M o) _ _
  refine V_aload_n rfl dX6_init_9 rfl rfl ?_
  refine V_new (fun a => [some (.ref (a o))]) (fun a => [.ref (a o)]) rfl dX6_init_10 icX3 rfl tyX3_ok ⟨w_417, w_253, w_142⟩ (fs := [none, some none, some none, some none, some none, none, some none]) (by decide +kernel) (by simp) hw1 hz2 ⟨rfl, rfl⟩ (fun a' h => ⟨by first | rfl | simp only [h _ ((List.getElem?_eq_some_iff.mp ho).1)], by first | rfl | simp only [h _ ((List.getElem?_eq_some_iff.mp ho).1)]⟩) (fun a1 hg0 => ?_)
  have hf3 : (SNX6_1 S o)[o]? = some (8, 8, [none, none, some none, some none, some none, some none, some none, none]) := ap_at ho
  have hf4 : (SNX6_1 S o)[S.length]? = some (5, 7, [none, some none, some none, some none, some none, none, some none]) := nw_at
  have hw5 : ie_wf (SNX6_1 S o) (MNX6_1 S M o) := wf_app hw1 (by simp) hz2
  have hz6 : ie_zr (SNX6_1 S o) (MNX6_1 S M o) := zr_app hz2
  show V _ _ _ _ _ _ _ _ _ _ (SNX6_1 S o) (MNX6_1 S M o) _ _
  refine V_dup rfl dX6_init_13 rfl ?_
  refine V_inin (mc' := 5) (ns' := 464) (d' := 1) (As := []) (S' := (SNX3 (SNX6_1 S o) S.length)) (M' := (MNX3 (SNX6_1 S o) (MNX6_1 S M o) S.length)) (fun a => [some (.ref (a o))]) (fun a => [.ref (a S.length), .ref (a o)]) rfl dX6_init_14 mf_X3_init rfl rfl w_255 w_418 (by decide) ⟨rfl, rfl⟩ rfl rfl rfl (fun a' h => ⟨by first | rfl | simp only [h _ ((List.getElem?_eq_some_iff.mp hf4).1), h _ ((List.getElem?_eq_some_iff.mp hf3).1)], by first | rfl | simp only [h _ ((List.getElem?_eq_some_iff.mp hf4).1), h _ ((List.getElem?_eq_some_iff.mp hf3).1)]⟩) (tc_X3 hf4 hw5 hz6) (fun a11 hg1 => ?_)
  have hb7 : CBX3 (SNX6_1 S o) (MNX6_1 S M o) S.length := cb_X3 hf4 hw5 hz6
  have len2 : (SNX6_2 S o).length = S.length + 6 := by have e := hb7.2.2.2.1; rw [show (SNX6_2 S o).length = _ from e, len1]
  have len3 : (SNX6_3 S o).length = S.length + 6 := by show ((SNX6_2 S o).set _ _).length = _; rw [List.length_set, len2]
  have len4 : (SNX6_4 S o).length = S.length + 7 := by show ((SNX6_3 S o) ++ [_]).length = _; rw [List.length_append, List.length_singleton, len3]
  have hf8 : (SNX6_2 S o)[o]? = some (8, 8, [none, none, some none, some none, some none, some none, some none, none]) := hb7.2.2.2.2 _ _ (Nat.ne_of_lt (List.getElem?_eq_some_iff.mp ho).1) hf3
  have hf9 : (SNX6_2 S o)[S.length]? = some (5, 7, [none, some (some (RNX3_1 (SNX6_1 S o) S.length)), some (some (RNX3_2 (SNX6_1 S o) S.length)), some (some (RNX3_3 (SNX6_1 S o) S.length)), some (some (RNX3_4 (SNX6_1 S o) S.length)), none, some (some (RNX3_6 (SNX6_1 S o) S.length))]) := hb7.1
  have hw10 : ie_wf (SNX6_2 S o) (MNX6_2 S M o) := hb7.2.1
  have hz11 : ie_zr (SNX6_2 S o) (MNX6_2 S M o) := hb7.2.2.1
  show V _ _ _ _ _ _ _ _ _ _ (SNX6_2 S o) (MNX6_2 S M o) _ _
  refine V_putr (k0 := 2) (ty := (.object "NeverHalted$Law")) (r := S.length) rfl dX6_init_17 hf8 icX6 tyX6_ok nmX6 (by decide) (Nat.le_of_ble_eq_true rfl) w_427 rfl rfl rfl (tyX6_ok _ (by decide)) rfl rfl ?_
  have hf12 : (SNX6_3 S o)[o]? = some (8, 8, [none, none, some (some S.length), some none, some none, some none, some none, none]) := st_at hf8
  have hf13 : (SNX6_3 S o)[S.length]? = some (5, 7, [none, some (some (RNX3_1 (SNX6_1 S o) S.length)), some (some (RNX3_2 (SNX6_1 S o) S.length)), some (some (RNX3_3 (SNX6_1 S o) S.length)), some (some (RNX3_4 (SNX6_1 S o) S.length)), none, some (some (RNX3_6 (SNX6_1 S o) S.length))]) := st_at' hf9 (Nat.ne_of_lt (List.getElem?_eq_some_iff.mp ho).1)
  have hw14 : ie_wf (SNX6_3 S o) (MNX6_2 S M o) := by have zz := wf_set (i := 2) (r := S.length) hw10 hf8 ((List.getElem?_eq_some_iff.mp hf9).1); exact zz
  have hz15 : ie_zr (SNX6_3 S o) (MNX6_2 S M o) := zr_set hz11
  show V _ _ _ _ _ _ _ _ _ _ (SNX6_3 S o) (MNX6_2 S M o) _ _
  refine V_aload_n rfl dX6_init_20 rfl rfl ?_
  refine V_new (fun a => [some (.ref (a o))]) (fun a => [.ref (a o)]) rfl dX6_init_21 icX7 rfl tyX7_ok ⟨w_419, w_289, w_143⟩ (fs := [none, some none, some none, some none, some none]) (by decide +kernel) (by simp) hw14 hz15 ⟨rfl, rfl⟩ (fun a' h => ⟨by first | rfl | simp only [h _ ((List.getElem?_eq_some_iff.mp hf12).1)], by first | rfl | simp only [h _ ((List.getElem?_eq_some_iff.mp hf12).1)]⟩) (fun a111 hg2 => ?_)
  have hf16 : (SNX6_4 S o)[o]? = some (8, 8, [none, none, some (some S.length), some none, some none, some none, some none, none]) := ap_at hf12
  have hf17 : (SNX6_4 S o)[S.length]? = some (5, 7, [none, some (some (RNX3_1 (SNX6_1 S o) S.length)), some (some (RNX3_2 (SNX6_1 S o) S.length)), some (some (RNX3_3 (SNX6_1 S o) S.length)), some (some (RNX3_4 (SNX6_1 S o) S.length)), none, some (some (RNX3_6 (SNX6_1 S o) S.length))]) := ap_at hf13
  have hf18 : (SNX6_4 S o)[(SNX6_3 S o).length]? = some (9, 5, [none, some none, some none, some none, some none]) := nw_at
  have hw19 : ie_wf (SNX6_4 S o) (MNX6_2 S M o) := wf_app hw14 (by simp) hz15
  have hz20 : ie_zr (SNX6_4 S o) (MNX6_2 S M o) := zr_app hz15
  show V _ _ _ _ _ _ _ _ _ _ (SNX6_4 S o) (MNX6_2 S M o) _ _
  refine V_dup rfl dX6_init_24 rfl ?_
  refine V_inin (mc' := 4) (ns' := 32) (d' := 1) (As := []) (S' := (SNX7 (SNX6_4 S o) (SNX6_3 S o).length)) (M' := (MNX7 (SNX6_4 S o) (MNX6_2 S M o) (SNX6_3 S o).length)) (fun a => [some (.ref (a o))]) (fun a => [.ref (a (SNX6_3 S o).length), .ref (a o)]) rfl dX6_init_25 mf_X7_init rfl rfl w_291 w_420 (by decide) ⟨rfl, rfl⟩ rfl rfl rfl (fun a' h => ⟨by first | rfl | simp only [h _ ((List.getElem?_eq_some_iff.mp hf18).1), h _ ((List.getElem?_eq_some_iff.mp hf16).1)], by first | rfl | simp only [h _ ((List.getElem?_eq_some_iff.mp hf18).1), h _ ((List.getElem?_eq_some_iff.mp hf16).1)]⟩) (tc_X7 hf18 hw19 hz20) (fun a1111 hg3 => ?_)
  have hb21 : CBX7 (SNX6_4 S o) (MNX6_2 S M o) (SNX6_3 S o).length := cb_X7 hf18 hw19 hz20
  have len5 : (SNX6_5 S o).length = S.length + 11 := by have e := hb21.2.2.2.1; rw [show (SNX6_5 S o).length = _ from e, len4]
  have len6 : (SNX6_6 S o).length = S.length + 11 := by show ((SNX6_5 S o).set _ _).length = _; rw [List.length_set, len5]
  have len7 : (SNX6_7 S o).length = S.length + 12 := by show ((SNX6_6 S o) ++ [_]).length = _; rw [List.length_append, List.length_singleton, len6]
  have hf22 : (SNX6_5 S o)[o]? = some (8, 8, [none, none, some (some S.length), some none, some none, some none, some none, none]) := hb21.2.2.2.2 _ _ (Nat.ne_of_lt (List.getElem?_eq_some_iff.mp hf12).1) hf16
  have hf23 : (SNX6_5 S o)[S.length]? = some (5, 7, [none, some (some (RNX3_1 (SNX6_1 S o) S.length)), some (some (RNX3_2 (SNX6_1 S o) S.length)), some (some (RNX3_3 (SNX6_1 S o) S.length)), some (some (RNX3_4 (SNX6_1 S o) S.length)), none, some (some (RNX3_6 (SNX6_1 S o) S.length))]) := hb21.2.2.2.2 _ _ (Nat.ne_of_lt (List.getElem?_eq_some_iff.mp hf13).1) hf17
  have hf24 : (SNX6_5 S o)[(SNX6_3 S o).length]? = some (9, 5, [none, some (some (RNX7_1 (SNX6_4 S o) (SNX6_3 S o).length)), some (some (RNX7_2 (SNX6_4 S o) (SNX6_3 S o).length)), some (some (RNX7_3 (SNX6_4 S o) (SNX6_3 S o).length)), some (some (RNX7_4 (SNX6_4 S o) (SNX6_3 S o).length))]) := hb21.1
  have hw25 : ie_wf (SNX6_5 S o) (MNX6_3 S M o) := hb21.2.1
  have hz26 : ie_zr (SNX6_5 S o) (MNX6_3 S M o) := hb21.2.2.1
  show V _ _ _ _ _ _ _ _ _ _ (SNX6_5 S o) (MNX6_3 S M o) _ _
  refine V_putr (k0 := 3) (ty := (.object "NeverHalted$Round")) (r := (SNX6_3 S o).length) rfl dX6_init_28 hf22 icX6 tyX6_ok nmX6 (by decide) (Nat.le_of_ble_eq_true rfl) w_429 rfl rfl rfl (tyX6_ok _ (by decide)) rfl rfl ?_
  have hf27 : (SNX6_6 S o)[o]? = some (8, 8, [none, none, some (some S.length), some (some (SNX6_3 S o).length), some none, some none, some none, none]) := st_at hf22
  have hf28 : (SNX6_6 S o)[S.length]? = some (5, 7, [none, some (some (RNX3_1 (SNX6_1 S o) S.length)), some (some (RNX3_2 (SNX6_1 S o) S.length)), some (some (RNX3_3 (SNX6_1 S o) S.length)), some (some (RNX3_4 (SNX6_1 S o) S.length)), none, some (some (RNX3_6 (SNX6_1 S o) S.length))]) := st_at' hf23 (Nat.ne_of_lt (List.getElem?_eq_some_iff.mp ho).1)
  have hf29 : (SNX6_6 S o)[(SNX6_3 S o).length]? = some (9, 5, [none, some (some (RNX7_1 (SNX6_4 S o) (SNX6_3 S o).length)), some (some (RNX7_2 (SNX6_4 S o) (SNX6_3 S o).length)), some (some (RNX7_3 (SNX6_4 S o) (SNX6_3 S o).length)), some (some (RNX7_4 (SNX6_4 S o) (SNX6_3 S o).length))]) := st_at' hf24 (Nat.ne_of_lt (List.getElem?_eq_some_iff.mp hf12).1)
  have hw30 : ie_wf (SNX6_6 S o) (MNX6_3 S M o) := by have zz := wf_set (i := 3) (r := (SNX6_3 S o).length) hw25 hf22 ((List.getElem?_eq_some_iff.mp hf24).1); exact zz
  have hz31 : ie_zr (SNX6_6 S o) (MNX6_3 S M o) := zr_set hz26
  show V _ _ _ _ _ _ _ _ _ _ (SNX6_6 S o) (MNX6_3 S M o) _ _
  refine V_aload_n rfl dX6_init_31 rfl rfl ?_
  refine V_new (fun a => [some (.ref (a o))]) (fun a => [.ref (a o)]) rfl dX6_init_32 icX8 rfl tyX8_ok ⟨w_421, w_319, w_144⟩ (fs := [none, some none, some none, some none, some none]) (by decide +kernel) (by simp) hw30 hz31 ⟨rfl, rfl⟩ (fun a' h => ⟨by first | rfl | simp only [h _ ((List.getElem?_eq_some_iff.mp hf27).1)], by first | rfl | simp only [h _ ((List.getElem?_eq_some_iff.mp hf27).1)]⟩) (fun a11111 hg4 => ?_)
  have hf32 : (SNX6_7 S o)[o]? = some (8, 8, [none, none, some (some S.length), some (some (SNX6_3 S o).length), some none, some none, some none, none]) := ap_at hf27
  have hf33 : (SNX6_7 S o)[S.length]? = some (5, 7, [none, some (some (RNX3_1 (SNX6_1 S o) S.length)), some (some (RNX3_2 (SNX6_1 S o) S.length)), some (some (RNX3_3 (SNX6_1 S o) S.length)), some (some (RNX3_4 (SNX6_1 S o) S.length)), none, some (some (RNX3_6 (SNX6_1 S o) S.length))]) := ap_at hf28
  have hf34 : (SNX6_7 S o)[(SNX6_3 S o).length]? = some (9, 5, [none, some (some (RNX7_1 (SNX6_4 S o) (SNX6_3 S o).length)), some (some (RNX7_2 (SNX6_4 S o) (SNX6_3 S o).length)), some (some (RNX7_3 (SNX6_4 S o) (SNX6_3 S o).length)), some (some (RNX7_4 (SNX6_4 S o) (SNX6_3 S o).length))]) := ap_at hf29
  have hf35 : (SNX6_7 S o)[(SNX6_6 S o).length]? = some (10, 5, [none, some none, some none, some none, some none]) := nw_at
  have hw36 : ie_wf (SNX6_7 S o) (MNX6_3 S M o) := wf_app hw30 (by simp) hz31
  have hz37 : ie_zr (SNX6_7 S o) (MNX6_3 S M o) := zr_app hz31
  show V _ _ _ _ _ _ _ _ _ _ (SNX6_7 S o) (MNX6_3 S M o) _ _
  refine V_dup rfl dX6_init_35 rfl ?_
  refine V_inin (mc' := 4) (ns' := 52) (d' := 1) (As := []) (S' := (SNX8 (SNX6_7 S o) (SNX6_6 S o).length)) (M' := (MNX8 (SNX6_7 S o) (MNX6_3 S M o) (SNX6_6 S o).length)) (fun a => [some (.ref (a o))]) (fun a => [.ref (a (SNX6_6 S o).length), .ref (a o)]) rfl dX6_init_36 mf_X8_init rfl rfl w_321 w_422 (by decide) ⟨rfl, rfl⟩ rfl rfl rfl (fun a' h => ⟨by first | rfl | simp only [h _ ((List.getElem?_eq_some_iff.mp hf35).1), h _ ((List.getElem?_eq_some_iff.mp hf32).1)], by first | rfl | simp only [h _ ((List.getElem?_eq_some_iff.mp hf35).1), h _ ((List.getElem?_eq_some_iff.mp hf32).1)]⟩) (tc_X8 hf35 hw36 hz37) (fun a111111 hg5 => ?_)
  have hb38 : CBX8 (SNX6_7 S o) (MNX6_3 S M o) (SNX6_6 S o).length := cb_X8 hf35 hw36 hz37
  have len8 : (SNX6_8 S o).length = S.length + 16 := by have e := hb38.2.2.2.1; rw [show (SNX6_8 S o).length = _ from e, len7]
  have len9 : (SNX6_9 S o).length = S.length + 16 := by show ((SNX6_8 S o).set _ _).length = _; rw [List.length_set, len8]
  have len10 : (SNX6_10 S o).length = S.length + 17 := by show ((SNX6_9 S o) ++ [_]).length = _; rw [List.length_append, List.length_singleton, len9]
  have len11 : (SNX6_11 S o).length = S.length + 17 := by show ((SNX6_10 S o).set _ _).length = _; rw [List.length_set, len10]
  have len12 : (SNX6_12 S o).length = S.length + 18 := by show ((SNX6_11 S o) ++ [_]).length = _; rw [List.length_append, List.length_singleton, len11]
  have len13 : (SNX6_13 S o).length = S.length + 18 := by show ((SNX6_12 S o).set _ _).length = _; rw [List.length_set, len12]
  have hf39 : (SNX6_8 S o)[o]? = some (8, 8, [none, none, some (some S.length), some (some (SNX6_3 S o).length), some none, some none, some none, none]) := hb38.2.2.2.2 _ _ (Nat.ne_of_lt (List.getElem?_eq_some_iff.mp hf27).1) hf32
  have hf40 : (SNX6_8 S o)[S.length]? = some (5, 7, [none, some (some (RNX3_1 (SNX6_1 S o) S.length)), some (some (RNX3_2 (SNX6_1 S o) S.length)), some (some (RNX3_3 (SNX6_1 S o) S.length)), some (some (RNX3_4 (SNX6_1 S o) S.length)), none, some (some (RNX3_6 (SNX6_1 S o) S.length))]) := hb38.2.2.2.2 _ _ (Nat.ne_of_lt (List.getElem?_eq_some_iff.mp hf28).1) hf33
  have hf41 : (SNX6_8 S o)[(SNX6_3 S o).length]? = some (9, 5, [none, some (some (RNX7_1 (SNX6_4 S o) (SNX6_3 S o).length)), some (some (RNX7_2 (SNX6_4 S o) (SNX6_3 S o).length)), some (some (RNX7_3 (SNX6_4 S o) (SNX6_3 S o).length)), some (some (RNX7_4 (SNX6_4 S o) (SNX6_3 S o).length))]) := hb38.2.2.2.2 _ _ (Nat.ne_of_lt (List.getElem?_eq_some_iff.mp hf29).1) hf34
  have hf42 : (SNX6_8 S o)[(SNX6_6 S o).length]? = some (10, 5, [none, some (some (RNX8_1 (SNX6_7 S o) (SNX6_6 S o).length)), some (some (RNX8_2 (SNX6_7 S o) (SNX6_6 S o).length)), some (some (RNX8_3 (SNX6_7 S o) (SNX6_6 S o).length)), some (some (RNX8_4 (SNX6_7 S o) (SNX6_6 S o).length))]) := hb38.1
  have hw43 : ie_wf (SNX6_8 S o) (MNX6_4 S M o) := hb38.2.1
  have hz44 : ie_zr (SNX6_8 S o) (MNX6_4 S M o) := hb38.2.2.1
  show V _ _ _ _ _ _ _ _ _ _ (SNX6_8 S o) (MNX6_4 S M o) _ _
  refine V_putr (k0 := 4) (ty := (.object "NeverHalted$Shifts")) (r := (SNX6_6 S o).length) rfl dX6_init_39 hf39 icX6 tyX6_ok nmX6 (by decide) (Nat.le_of_ble_eq_true rfl) w_431 rfl rfl rfl (tyX6_ok _ (by decide)) rfl rfl ?_
  have hf45 : (SNX6_9 S o)[o]? = some (8, 8, [none, none, some (some S.length), some (some (SNX6_3 S o).length), some (some (SNX6_6 S o).length), some none, some none, none]) := st_at hf39
  have hf46 : (SNX6_9 S o)[S.length]? = some (5, 7, [none, some (some (RNX3_1 (SNX6_1 S o) S.length)), some (some (RNX3_2 (SNX6_1 S o) S.length)), some (some (RNX3_3 (SNX6_1 S o) S.length)), some (some (RNX3_4 (SNX6_1 S o) S.length)), none, some (some (RNX3_6 (SNX6_1 S o) S.length))]) := st_at' hf40 (Nat.ne_of_lt (List.getElem?_eq_some_iff.mp ho).1)
  have hf47 : (SNX6_9 S o)[(SNX6_3 S o).length]? = some (9, 5, [none, some (some (RNX7_1 (SNX6_4 S o) (SNX6_3 S o).length)), some (some (RNX7_2 (SNX6_4 S o) (SNX6_3 S o).length)), some (some (RNX7_3 (SNX6_4 S o) (SNX6_3 S o).length)), some (some (RNX7_4 (SNX6_4 S o) (SNX6_3 S o).length))]) := st_at' hf41 (Nat.ne_of_lt (List.getElem?_eq_some_iff.mp hf12).1)
  have hf48 : (SNX6_9 S o)[(SNX6_6 S o).length]? = some (10, 5, [none, some (some (RNX8_1 (SNX6_7 S o) (SNX6_6 S o).length)), some (some (RNX8_2 (SNX6_7 S o) (SNX6_6 S o).length)), some (some (RNX8_3 (SNX6_7 S o) (SNX6_6 S o).length)), some (some (RNX8_4 (SNX6_7 S o) (SNX6_6 S o).length))]) := st_at' hf42 (Nat.ne_of_lt (List.getElem?_eq_some_iff.mp hf27).1)
  have hw49 : ie_wf (SNX6_9 S o) (MNX6_4 S M o) := by have zz := wf_set (i := 4) (r := (SNX6_6 S o).length) hw43 hf39 ((List.getElem?_eq_some_iff.mp hf42).1); exact zz
  have hz50 : ie_zr (SNX6_9 S o) (MNX6_4 S M o) := zr_set hz44
  show V _ _ _ _ _ _ _ _ _ _ (SNX6_9 S o) (MNX6_4 S M o) _ _
  refine V_aload_n rfl dX6_init_42 rfl rfl ?_
  refine V_sipush (v := 401) rfl dX6_init_43 ks_401 ?_
  refine V_newa (n := 401) (fun a => [some (.ref (a o))]) (fun a => [.ref (a o)]) rfl dX6_init_46 w_245 (by decide +kernel) hw49 hz50 ⟨rfl, rfl⟩ (fun a' h => ⟨by first | rfl | simp only [h _ ((List.getElem?_eq_some_iff.mp hf45).1)], by first | rfl | simp only [h _ ((List.getElem?_eq_some_iff.mp hf45).1)]⟩) (fun a1111111 hg6 => ?_)
  have hf51 : (SNX6_10 S o)[o]? = some (8, 8, [none, none, some (some S.length), some (some (SNX6_3 S o).length), some (some (SNX6_6 S o).length), some none, some none, none]) := ap_at hf45
  have hf52 : (SNX6_10 S o)[S.length]? = some (5, 7, [none, some (some (RNX3_1 (SNX6_1 S o) S.length)), some (some (RNX3_2 (SNX6_1 S o) S.length)), some (some (RNX3_3 (SNX6_1 S o) S.length)), some (some (RNX3_4 (SNX6_1 S o) S.length)), none, some (some (RNX3_6 (SNX6_1 S o) S.length))]) := ap_at hf46
  have hf53 : (SNX6_10 S o)[(SNX6_3 S o).length]? = some (9, 5, [none, some (some (RNX7_1 (SNX6_4 S o) (SNX6_3 S o).length)), some (some (RNX7_2 (SNX6_4 S o) (SNX6_3 S o).length)), some (some (RNX7_3 (SNX6_4 S o) (SNX6_3 S o).length)), some (some (RNX7_4 (SNX6_4 S o) (SNX6_3 S o).length))]) := ap_at hf47
  have hf54 : (SNX6_10 S o)[(SNX6_6 S o).length]? = some (10, 5, [none, some (some (RNX8_1 (SNX6_7 S o) (SNX6_6 S o).length)), some (some (RNX8_2 (SNX6_7 S o) (SNX6_6 S o).length)), some (some (RNX8_3 (SNX6_7 S o) (SNX6_6 S o).length)), some (some (RNX8_4 (SNX6_7 S o) (SNX6_6 S o).length))]) := ap_at hf48
  have hf55 : (SNX6_10 S o)[(SNX6_9 S o).length]? = some (0, 401, []) := nw_at
  have hw56 : ie_wf (SNX6_10 S o) (MNX6_4 S M o) := wf_app hw49 (by simp) hz50
  have hz57 : ie_zr (SNX6_10 S o) (MNX6_4 S M o) := zr_app hz50
  show V _ _ _ _ _ _ _ _ _ _ (SNX6_10 S o) (MNX6_4 S M o) _ _
  refine V_putr (k0 := 5) (ty := (.array .int)) (r := (SNX6_9 S o).length) rfl dX6_init_48 hf51 icX6 tyX6_ok nmX6 (by decide) (Nat.le_of_ble_eq_true rfl) w_433 rfl rfl rfl (tyX6_ok _ (by decide)) rfl rfl ?_
  have hf58 : (SNX6_11 S o)[o]? = some (8, 8, [none, none, some (some S.length), some (some (SNX6_3 S o).length), some (some (SNX6_6 S o).length), some (some (SNX6_9 S o).length), some none, none]) := st_at hf51
  have hf59 : (SNX6_11 S o)[S.length]? = some (5, 7, [none, some (some (RNX3_1 (SNX6_1 S o) S.length)), some (some (RNX3_2 (SNX6_1 S o) S.length)), some (some (RNX3_3 (SNX6_1 S o) S.length)), some (some (RNX3_4 (SNX6_1 S o) S.length)), none, some (some (RNX3_6 (SNX6_1 S o) S.length))]) := st_at' hf52 (Nat.ne_of_lt (List.getElem?_eq_some_iff.mp ho).1)
  have hf60 : (SNX6_11 S o)[(SNX6_3 S o).length]? = some (9, 5, [none, some (some (RNX7_1 (SNX6_4 S o) (SNX6_3 S o).length)), some (some (RNX7_2 (SNX6_4 S o) (SNX6_3 S o).length)), some (some (RNX7_3 (SNX6_4 S o) (SNX6_3 S o).length)), some (some (RNX7_4 (SNX6_4 S o) (SNX6_3 S o).length))]) := st_at' hf53 (Nat.ne_of_lt (List.getElem?_eq_some_iff.mp hf12).1)
  have hf61 : (SNX6_11 S o)[(SNX6_6 S o).length]? = some (10, 5, [none, some (some (RNX8_1 (SNX6_7 S o) (SNX6_6 S o).length)), some (some (RNX8_2 (SNX6_7 S o) (SNX6_6 S o).length)), some (some (RNX8_3 (SNX6_7 S o) (SNX6_6 S o).length)), some (some (RNX8_4 (SNX6_7 S o) (SNX6_6 S o).length))]) := st_at' hf54 (Nat.ne_of_lt (List.getElem?_eq_some_iff.mp hf27).1)
  have hf62 : (SNX6_11 S o)[(SNX6_9 S o).length]? = some (0, 401, []) := st_at' hf55 (Nat.ne_of_lt (List.getElem?_eq_some_iff.mp hf45).1)
  have hw63 : ie_wf (SNX6_11 S o) (MNX6_4 S M o) := by have zz := wf_set (i := 5) (r := (SNX6_9 S o).length) hw56 hf51 ((List.getElem?_eq_some_iff.mp hf55).1); exact zz
  have hz64 : ie_zr (SNX6_11 S o) (MNX6_4 S M o) := zr_set hz57
  show V _ _ _ _ _ _ _ _ _ _ (SNX6_11 S o) (MNX6_4 S M o) _ _
  refine V_aload_n rfl dX6_init_51 rfl rfl ?_
  refine V_sipush (v := 401) rfl dX6_init_52 ks_401 ?_
  refine V_newa (n := 401) (fun a => [some (.ref (a o))]) (fun a => [.ref (a o)]) rfl dX6_init_55 w_245 (by decide +kernel) hw63 hz64 ⟨rfl, rfl⟩ (fun a' h => ⟨by first | rfl | simp only [h _ ((List.getElem?_eq_some_iff.mp hf58).1)], by first | rfl | simp only [h _ ((List.getElem?_eq_some_iff.mp hf58).1)]⟩) (fun a11111111 hg7 => ?_)
  have hf65 : (SNX6_12 S o)[o]? = some (8, 8, [none, none, some (some S.length), some (some (SNX6_3 S o).length), some (some (SNX6_6 S o).length), some (some (SNX6_9 S o).length), some none, none]) := ap_at hf58
  have hf66 : (SNX6_12 S o)[S.length]? = some (5, 7, [none, some (some (RNX3_1 (SNX6_1 S o) S.length)), some (some (RNX3_2 (SNX6_1 S o) S.length)), some (some (RNX3_3 (SNX6_1 S o) S.length)), some (some (RNX3_4 (SNX6_1 S o) S.length)), none, some (some (RNX3_6 (SNX6_1 S o) S.length))]) := ap_at hf59
  have hf67 : (SNX6_12 S o)[(SNX6_3 S o).length]? = some (9, 5, [none, some (some (RNX7_1 (SNX6_4 S o) (SNX6_3 S o).length)), some (some (RNX7_2 (SNX6_4 S o) (SNX6_3 S o).length)), some (some (RNX7_3 (SNX6_4 S o) (SNX6_3 S o).length)), some (some (RNX7_4 (SNX6_4 S o) (SNX6_3 S o).length))]) := ap_at hf60
  have hf68 : (SNX6_12 S o)[(SNX6_6 S o).length]? = some (10, 5, [none, some (some (RNX8_1 (SNX6_7 S o) (SNX6_6 S o).length)), some (some (RNX8_2 (SNX6_7 S o) (SNX6_6 S o).length)), some (some (RNX8_3 (SNX6_7 S o) (SNX6_6 S o).length)), some (some (RNX8_4 (SNX6_7 S o) (SNX6_6 S o).length))]) := ap_at hf61
  have hf69 : (SNX6_12 S o)[(SNX6_9 S o).length]? = some (0, 401, []) := ap_at hf62
  have hf70 : (SNX6_12 S o)[(SNX6_11 S o).length]? = some (0, 401, []) := nw_at
  have hw71 : ie_wf (SNX6_12 S o) (MNX6_4 S M o) := wf_app hw63 (by simp) hz64
  have hz72 : ie_zr (SNX6_12 S o) (MNX6_4 S M o) := zr_app hz64
  show V _ _ _ _ _ _ _ _ _ _ (SNX6_12 S o) (MNX6_4 S M o) _ _
  refine V_putr (k0 := 6) (ty := (.array .int)) (r := (SNX6_11 S o).length) rfl dX6_init_57 hf65 icX6 tyX6_ok nmX6 (by decide) (Nat.le_of_ble_eq_true rfl) w_434 rfl rfl rfl (tyX6_ok _ (by decide)) rfl rfl ?_
  have hf73 : (SNX6_13 S o)[o]? = some (8, 8, [none, none, some (some S.length), some (some (SNX6_3 S o).length), some (some (SNX6_6 S o).length), some (some (SNX6_9 S o).length), some (some (SNX6_11 S o).length), none]) := st_at hf65
  have hf74 : (SNX6_13 S o)[S.length]? = some (5, 7, [none, some (some (RNX3_1 (SNX6_1 S o) S.length)), some (some (RNX3_2 (SNX6_1 S o) S.length)), some (some (RNX3_3 (SNX6_1 S o) S.length)), some (some (RNX3_4 (SNX6_1 S o) S.length)), none, some (some (RNX3_6 (SNX6_1 S o) S.length))]) := st_at' hf66 (Nat.ne_of_lt (List.getElem?_eq_some_iff.mp ho).1)
  have hf75 : (SNX6_13 S o)[(SNX6_3 S o).length]? = some (9, 5, [none, some (some (RNX7_1 (SNX6_4 S o) (SNX6_3 S o).length)), some (some (RNX7_2 (SNX6_4 S o) (SNX6_3 S o).length)), some (some (RNX7_3 (SNX6_4 S o) (SNX6_3 S o).length)), some (some (RNX7_4 (SNX6_4 S o) (SNX6_3 S o).length))]) := st_at' hf67 (Nat.ne_of_lt (List.getElem?_eq_some_iff.mp hf12).1)
  have hf76 : (SNX6_13 S o)[(SNX6_6 S o).length]? = some (10, 5, [none, some (some (RNX8_1 (SNX6_7 S o) (SNX6_6 S o).length)), some (some (RNX8_2 (SNX6_7 S o) (SNX6_6 S o).length)), some (some (RNX8_3 (SNX6_7 S o) (SNX6_6 S o).length)), some (some (RNX8_4 (SNX6_7 S o) (SNX6_6 S o).length))]) := st_at' hf68 (Nat.ne_of_lt (List.getElem?_eq_some_iff.mp hf27).1)
  have hf77 : (SNX6_13 S o)[(SNX6_9 S o).length]? = some (0, 401, []) := st_at' hf69 (Nat.ne_of_lt (List.getElem?_eq_some_iff.mp hf45).1)
  have hf78 : (SNX6_13 S o)[(SNX6_11 S o).length]? = some (0, 401, []) := st_at' hf70 (Nat.ne_of_lt (List.getElem?_eq_some_iff.mp hf58).1)
  have hw79 : ie_wf (SNX6_13 S o) (MNX6_4 S M o) := by have zz := wf_set (i := 6) (r := (SNX6_11 S o).length) hw71 hf65 ((List.getElem?_eq_some_iff.mp hf70).1); exact zz
  have hz80 : ie_zr (SNX6_13 S o) (MNX6_4 S M o) := zr_set hz72
  show V _ _ _ _ _ _ _ _ _ _ (SNX6_13 S o) (MNX6_4 S M o) _ _
  exact V_vret dX6_init_60 rfl (by decide) (by decide) ⟨rfl, rfl, rfl, fun p hp => by rw [hg7 p (by rw [len11]; omega), hg6 p (by rw [len9]; omega), hg5 p (by rw [len7]; omega), hg4 p (by rw [len6]; omega), hg3 p (by rw [len4]; omega), hg2 p (by rw [len3]; omega), hg1 p (by rw [len1]; omega), hg0 p hp]⟩
def SNX0_1 (S : List IK) (o : Nat) : List IK := S ++ [(0, 9, [])]
def SNX0_2 (S : List IK) (o : Nat) : List IK := (SNX0_1 S o).set o (2, 2, [some (some S.length), some none])
def SNX0_3 (S : List IK) (o : Nat) : List IK := (SNX0_2 S o) ++ [(0, 32, [])]
def SNX0_4 (S : List IK) (o : Nat) : List IK := (SNX0_3 S o).set o (2, 2, [some (some S.length), some (some (SNX0_2 S o).length)])
def SNX0 (S : List IK) (o : Nat) : List IK := (SNX0_4 S o)
def MNX0 (S : List IK) (M : IM) (o : Nat) : IM := M
def RNX0_0 (S : List IK) (o : Nat) : Nat := S.length
def RNX0_1 (S : List IK) (o : Nat) : Nat := (SNX0_2 S o).length
def CBX0 (S : List IK) (M : IM) (o : Nat) : Prop := (SNX0 S o)[o]? = some (2, 2, [some (some (RNX0_0 S o)), some (some (RNX0_1 S o))]) ∧ ie_wf (SNX0 S o) (MNX0 S M o) ∧ ie_zr (SNX0 S o) (MNX0 S M o) ∧ (SNX0 S o).length = S.length + 2 ∧ ∀ (p : Nat) (x : IK), ¬ p = o → S[p]? = some x → (SNX0 S o)[p]? = some x
set_option maxRecDepth 100000 in
set_option maxHeartbeats 4000000 in
theorem cb_X0 {S : List IK} {M : IM} {o : Nat} (ho : S[o]? = some (2, 2, [some none, some none])) (hwf : ie_wf S M) (hz : ie_zr S M) : CBX0 S M o := by
  have len1 : (SNX0_1 S o).length = S.length + 1 := by show (S ++ [_]).length = _; rw [List.length_append, List.length_singleton]
  have len2 : (SNX0_2 S o).length = S.length + 1 := by show ((SNX0_1 S o).set _ _).length = _; rw [List.length_set, len1]
  have len3 : (SNX0_3 S o).length = S.length + 2 := by show ((SNX0_2 S o) ++ [_]).length = _; rw [List.length_append, List.length_singleton, len2]
  have len4 : (SNX0_4 S o).length = S.length + 2 := by show ((SNX0_3 S o).set _ _).length = _; rw [List.length_set, len3]
  have hf1 : (SNX0_1 S o)[o]? = some (2, 2, [some none, some none]) := ap_at ho
  have hf2 : (SNX0_1 S o)[S.length]? = some (0, 9, []) := nw_at
  have hw3 : ie_wf (SNX0_1 S o) M := wf_app hwf (by simp) hz
  have hz4 : ie_zr (SNX0_1 S o) M := zr_app hz
  have hf5 : (SNX0_2 S o)[o]? = some (2, 2, [some (some S.length), some none]) := st_at hf1
  have hf6 : (SNX0_2 S o)[S.length]? = some (0, 9, []) := st_at' hf2 (Nat.ne_of_lt (List.getElem?_eq_some_iff.mp ho).1)
  have hw7 : ie_wf (SNX0_2 S o) M := by have zz := wf_set (i := 0) (r := S.length) hw3 hf1 ((List.getElem?_eq_some_iff.mp hf2).1); exact zz
  have hz8 : ie_zr (SNX0_2 S o) M := zr_set hz4
  have hf9 : (SNX0_3 S o)[o]? = some (2, 2, [some (some S.length), some none]) := ap_at hf5
  have hf10 : (SNX0_3 S o)[S.length]? = some (0, 9, []) := ap_at hf6
  have hf11 : (SNX0_3 S o)[(SNX0_2 S o).length]? = some (0, 32, []) := nw_at
  have hw12 : ie_wf (SNX0_3 S o) M := wf_app hw7 (by simp) hz8
  have hz13 : ie_zr (SNX0_3 S o) M := zr_app hz8
  have hf14 : (SNX0_4 S o)[o]? = some (2, 2, [some (some S.length), some (some (SNX0_2 S o).length)]) := st_at hf9
  have hf15 : (SNX0_4 S o)[S.length]? = some (0, 9, []) := st_at' hf10 (Nat.ne_of_lt (List.getElem?_eq_some_iff.mp ho).1)
  have hf16 : (SNX0_4 S o)[(SNX0_2 S o).length]? = some (0, 32, []) := st_at' hf11 (Nat.ne_of_lt (List.getElem?_eq_some_iff.mp hf5).1)
  have hw17 : ie_wf (SNX0_4 S o) M := by have zz := wf_set (i := 1) (r := (SNX0_2 S o).length) hw12 hf9 ((List.getElem?_eq_some_iff.mp hf11).1); exact zz
  have hz18 : ie_zr (SNX0_4 S o) M := zr_set hz13
  exact ⟨hf14, hw17, hz18, len4, fun p x hp h => (st_at' (ap_at (st_at' (ap_at h) (fun e => hp e.symm))) (fun e => hp e.symm))⟩
set_option maxRecDepth 100000 in
set_option maxHeartbeats 8000000 in
theorem tc_X0 {g : IG} {a : Nat → Nat} {S : List IK} {M : IM} {o : Nat} (ho : S[o]? = some (2, 2, [some none, some none])) (hwf : ie_wf S M) (hz : ie_zr S M) : Cn g mX0_init 1 2 41 (qC (SNX0 S o) (MNX0 S M o) S.length a) [.ref (a o)] a S M := by
  refine Cn_of (L := [some (.ref (a o))]) mf_X0_init (cat_r cat_0) (Nat.le_of_ble_eq_true rfl) rfl ?_
  have len1 : (SNX0_1 S o).length = S.length + 1 := by show (S ++ [_]).length = _; rw [List.length_append, List.length_singleton]
  have len2 : (SNX0_2 S o).length = S.length + 1 := by show ((SNX0_1 S o).set _ _).length = _; rw [List.length_set, len1]
  have len3 : (SNX0_3 S o).length = S.length + 2 := by show ((SNX0_2 S o) ++ [_]).length = _; rw [List.length_append, List.length_singleton, len2]
  have len4 : (SNX0_4 S o).length = S.length + 2 := by show ((SNX0_3 S o).set _ _).length = _; rw [List.length_set, len3]
  refine V_aload_n rfl dX0_init_0 rfl rfl ?_
  refine V_obj rfl dX0_init_1 ⟨w_458, w_166, w_167⟩ rfl ?_
  refine V_aload_n rfl dX0_init_4 rfl rfl ?_
  refine V_bipush (v := 9) rfl dX0_init_5 kb_9 ?_
  refine V_newa (n := 9) (fun a => [some (.ref (a o))]) (fun a => [.ref (a o)]) rfl dX0_init_7 w_245 (by decide +kernel) hwf hz ⟨rfl, rfl⟩ (fun a' h => ⟨by first | rfl | simp only [h _ ((List.getElem?_eq_some_iff.mp ho).1)], by first | rfl | simp only [h _ ((List.getElem?_eq_some_iff.mp ho).1)]⟩) (fun a1 hg0 => ?_)
  have hf1 : (SNX0_1 S o)[o]? = some (2, 2, [some none, some none]) := ap_at ho
  have hf2 : (SNX0_1 S o)[S.length]? = some (0, 9, []) := nw_at
  have hw3 : ie_wf (SNX0_1 S o) M := wf_app hwf (by simp) hz
  have hz4 : ie_zr (SNX0_1 S o) M := zr_app hz
  show V _ _ _ _ _ _ _ _ _ _ (SNX0_1 S o) M _ _
  refine V_putr (k0 := 0) (ty := (.array .int)) (r := S.length) rfl dX0_init_9 hf1 icX0 tyX0_ok nmX0 (by decide) (Nat.le_of_ble_eq_true rfl) w_459 rfl rfl rfl (tyX0_ok _ (by decide)) rfl rfl ?_
  have hf5 : (SNX0_2 S o)[o]? = some (2, 2, [some (some S.length), some none]) := st_at hf1
  have hf6 : (SNX0_2 S o)[S.length]? = some (0, 9, []) := st_at' hf2 (Nat.ne_of_lt (List.getElem?_eq_some_iff.mp ho).1)
  have hw7 : ie_wf (SNX0_2 S o) M := by have zz := wf_set (i := 0) (r := S.length) hw3 hf1 ((List.getElem?_eq_some_iff.mp hf2).1); exact zz
  have hz8 : ie_zr (SNX0_2 S o) M := zr_set hz4
  show V _ _ _ _ _ _ _ _ _ _ (SNX0_2 S o) M _ _
  refine V_aload_n rfl dX0_init_12 rfl rfl ?_
  refine V_bipush (v := 32) rfl dX0_init_13 kb_32 ?_
  refine V_newa (n := 32) (fun a => [some (.ref (a o))]) (fun a => [.ref (a o)]) rfl dX0_init_15 w_245 (by decide +kernel) hw7 hz8 ⟨rfl, rfl⟩ (fun a' h => ⟨by first | rfl | simp only [h _ ((List.getElem?_eq_some_iff.mp hf5).1)], by first | rfl | simp only [h _ ((List.getElem?_eq_some_iff.mp hf5).1)]⟩) (fun a11 hg1 => ?_)
  have hf9 : (SNX0_3 S o)[o]? = some (2, 2, [some (some S.length), some none]) := ap_at hf5
  have hf10 : (SNX0_3 S o)[S.length]? = some (0, 9, []) := ap_at hf6
  have hf11 : (SNX0_3 S o)[(SNX0_2 S o).length]? = some (0, 32, []) := nw_at
  have hw12 : ie_wf (SNX0_3 S o) M := wf_app hw7 (by simp) hz8
  have hz13 : ie_zr (SNX0_3 S o) M := zr_app hz8
  show V _ _ _ _ _ _ _ _ _ _ (SNX0_3 S o) M _ _
  refine V_putr (k0 := 1) (ty := (.array .int)) (r := (SNX0_2 S o).length) rfl dX0_init_17 hf9 icX0 tyX0_ok nmX0 (by decide) (Nat.le_of_ble_eq_true rfl) w_460 rfl rfl rfl (tyX0_ok _ (by decide)) rfl rfl ?_
  have hf14 : (SNX0_4 S o)[o]? = some (2, 2, [some (some S.length), some (some (SNX0_2 S o).length)]) := st_at hf9
  have hf15 : (SNX0_4 S o)[S.length]? = some (0, 9, []) := st_at' hf10 (Nat.ne_of_lt (List.getElem?_eq_some_iff.mp ho).1)
  have hf16 : (SNX0_4 S o)[(SNX0_2 S o).length]? = some (0, 32, []) := st_at' hf11 (Nat.ne_of_lt (List.getElem?_eq_some_iff.mp hf5).1)
  have hw17 : ie_wf (SNX0_4 S o) M := by have zz := wf_set (i := 1) (r := (SNX0_2 S o).length) hw12 hf9 ((List.getElem?_eq_some_iff.mp hf11).1); exact zz
  have hz18 : ie_zr (SNX0_4 S o) M := zr_set hz13
  show V _ _ _ _ _ _ _ _ _ _ (SNX0_4 S o) M _ _
  exact V_vret dX0_init_20 rfl (by decide) (by decide) ⟨rfl, rfl, rfl, fun p hp => by rw [hg1 p (by rw [len2]; omega), hg0 p hp]⟩
def SNX10_1 (S : List IK) (o : Nat) : List IK := S ++ [(0, 10, [])]
def SNX10_2 (S : List IK) (o : Nat) : List IK := (SNX10_1 S o).set o (12, 6, [none, some (some S.length), none, some none, some none, some none])
def SNX10_3 (S : List IK) (o : Nat) : List IK := (SNX10_2 S o) ++ [(0, 40, [])]
def SNX10_4 (S : List IK) (o : Nat) : List IK := (SNX10_3 S o).set o (12, 6, [none, some (some S.length), none, some (some (SNX10_2 S o).length), some none, some none])
def SNX10_5 (S : List IK) (o : Nat) : List IK := (SNX10_4 S o) ++ [(0, 40, [])]
def SNX10_6 (S : List IK) (o : Nat) : List IK := (SNX10_5 S o).set o (12, 6, [none, some (some S.length), none, some (some (SNX10_2 S o).length), some (some (SNX10_4 S o).length), some none])
def SNX10_7 (S : List IK) (o : Nat) : List IK := (SNX10_6 S o) ++ [(0, 4, [])]
def SNX10_8 (S : List IK) (o : Nat) : List IK := (SNX10_7 S o).set o (12, 6, [none, some (some S.length), none, some (some (SNX10_2 S o).length), some (some (SNX10_4 S o).length), some (some (SNX10_6 S o).length)])
def SNX10 (S : List IK) (o : Nat) : List IK := (SNX10_8 S o)
def MNX10 (S : List IK) (M : IM) (o : Nat) : IM := M
def RNX10_1 (S : List IK) (o : Nat) : Nat := S.length
def RNX10_3 (S : List IK) (o : Nat) : Nat := (SNX10_2 S o).length
def RNX10_4 (S : List IK) (o : Nat) : Nat := (SNX10_4 S o).length
def RNX10_5 (S : List IK) (o : Nat) : Nat := (SNX10_6 S o).length
def CBX10 (S : List IK) (M : IM) (o : Nat) : Prop := (SNX10 S o)[o]? = some (12, 6, [none, some (some (RNX10_1 S o)), none, some (some (RNX10_3 S o)), some (some (RNX10_4 S o)), some (some (RNX10_5 S o))]) ∧ ie_wf (SNX10 S o) (MNX10 S M o) ∧ ie_zr (SNX10 S o) (MNX10 S M o) ∧ (SNX10 S o).length = S.length + 4 ∧ ∀ (p : Nat) (x : IK), ¬ p = o → S[p]? = some x → (SNX10 S o)[p]? = some x
set_option maxRecDepth 100000 in
set_option maxHeartbeats 4000000 in
theorem cb_X10 {S : List IK} {M : IM} {o : Nat} (ho : S[o]? = some (12, 6, [none, some none, none, some none, some none, some none])) (hwf : ie_wf S M) (hz : ie_zr S M) : CBX10 S M o := by
  have len1 : (SNX10_1 S o).length = S.length + 1 := by show (S ++ [_]).length = _; rw [List.length_append, List.length_singleton]
  have len2 : (SNX10_2 S o).length = S.length + 1 := by show ((SNX10_1 S o).set _ _).length = _; rw [List.length_set, len1]
  have len3 : (SNX10_3 S o).length = S.length + 2 := by show ((SNX10_2 S o) ++ [_]).length = _; rw [List.length_append, List.length_singleton, len2]
  have len4 : (SNX10_4 S o).length = S.length + 2 := by show ((SNX10_3 S o).set _ _).length = _; rw [List.length_set, len3]
  have len5 : (SNX10_5 S o).length = S.length + 3 := by show ((SNX10_4 S o) ++ [_]).length = _; rw [List.length_append, List.length_singleton, len4]
  have len6 : (SNX10_6 S o).length = S.length + 3 := by show ((SNX10_5 S o).set _ _).length = _; rw [List.length_set, len5]
  have len7 : (SNX10_7 S o).length = S.length + 4 := by show ((SNX10_6 S o) ++ [_]).length = _; rw [List.length_append, List.length_singleton, len6]
  have len8 : (SNX10_8 S o).length = S.length + 4 := by show ((SNX10_7 S o).set _ _).length = _; rw [List.length_set, len7]
  have hf1 : (SNX10_1 S o)[o]? = some (12, 6, [none, some none, none, some none, some none, some none]) := ap_at ho
  have hf2 : (SNX10_1 S o)[S.length]? = some (0, 10, []) := nw_at
  have hw3 : ie_wf (SNX10_1 S o) M := wf_app hwf (by simp) hz
  have hz4 : ie_zr (SNX10_1 S o) M := zr_app hz
  have hf5 : (SNX10_2 S o)[o]? = some (12, 6, [none, some (some S.length), none, some none, some none, some none]) := st_at hf1
  have hf6 : (SNX10_2 S o)[S.length]? = some (0, 10, []) := st_at' hf2 (Nat.ne_of_lt (List.getElem?_eq_some_iff.mp ho).1)
  have hw7 : ie_wf (SNX10_2 S o) M := by have zz := wf_set (i := 1) (r := S.length) hw3 hf1 ((List.getElem?_eq_some_iff.mp hf2).1); exact zz
  have hz8 : ie_zr (SNX10_2 S o) M := zr_set hz4
  have hf9 : (SNX10_3 S o)[o]? = some (12, 6, [none, some (some S.length), none, some none, some none, some none]) := ap_at hf5
  have hf10 : (SNX10_3 S o)[S.length]? = some (0, 10, []) := ap_at hf6
  have hf11 : (SNX10_3 S o)[(SNX10_2 S o).length]? = some (0, 40, []) := nw_at
  have hw12 : ie_wf (SNX10_3 S o) M := wf_app hw7 (by simp) hz8
  have hz13 : ie_zr (SNX10_3 S o) M := zr_app hz8
  have hf14 : (SNX10_4 S o)[o]? = some (12, 6, [none, some (some S.length), none, some (some (SNX10_2 S o).length), some none, some none]) := st_at hf9
  have hf15 : (SNX10_4 S o)[S.length]? = some (0, 10, []) := st_at' hf10 (Nat.ne_of_lt (List.getElem?_eq_some_iff.mp ho).1)
  have hf16 : (SNX10_4 S o)[(SNX10_2 S o).length]? = some (0, 40, []) := st_at' hf11 (Nat.ne_of_lt (List.getElem?_eq_some_iff.mp hf5).1)
  have hw17 : ie_wf (SNX10_4 S o) M := by have zz := wf_set (i := 3) (r := (SNX10_2 S o).length) hw12 hf9 ((List.getElem?_eq_some_iff.mp hf11).1); exact zz
  have hz18 : ie_zr (SNX10_4 S o) M := zr_set hz13
  have hf19 : (SNX10_5 S o)[o]? = some (12, 6, [none, some (some S.length), none, some (some (SNX10_2 S o).length), some none, some none]) := ap_at hf14
  have hf20 : (SNX10_5 S o)[S.length]? = some (0, 10, []) := ap_at hf15
  have hf21 : (SNX10_5 S o)[(SNX10_2 S o).length]? = some (0, 40, []) := ap_at hf16
  have hf22 : (SNX10_5 S o)[(SNX10_4 S o).length]? = some (0, 40, []) := nw_at
  have hw23 : ie_wf (SNX10_5 S o) M := wf_app hw17 (by simp) hz18
  have hz24 : ie_zr (SNX10_5 S o) M := zr_app hz18
  have hf25 : (SNX10_6 S o)[o]? = some (12, 6, [none, some (some S.length), none, some (some (SNX10_2 S o).length), some (some (SNX10_4 S o).length), some none]) := st_at hf19
  have hf26 : (SNX10_6 S o)[S.length]? = some (0, 10, []) := st_at' hf20 (Nat.ne_of_lt (List.getElem?_eq_some_iff.mp ho).1)
  have hf27 : (SNX10_6 S o)[(SNX10_2 S o).length]? = some (0, 40, []) := st_at' hf21 (Nat.ne_of_lt (List.getElem?_eq_some_iff.mp hf5).1)
  have hf28 : (SNX10_6 S o)[(SNX10_4 S o).length]? = some (0, 40, []) := st_at' hf22 (Nat.ne_of_lt (List.getElem?_eq_some_iff.mp hf14).1)
  have hw29 : ie_wf (SNX10_6 S o) M := by have zz := wf_set (i := 4) (r := (SNX10_4 S o).length) hw23 hf19 ((List.getElem?_eq_some_iff.mp hf22).1); exact zz
  have hz30 : ie_zr (SNX10_6 S o) M := zr_set hz24
  have hf31 : (SNX10_7 S o)[o]? = some (12, 6, [none, some (some S.length), none, some (some (SNX10_2 S o).length), some (some (SNX10_4 S o).length), some none]) := ap_at hf25
  have hf32 : (SNX10_7 S o)[S.length]? = some (0, 10, []) := ap_at hf26
  have hf33 : (SNX10_7 S o)[(SNX10_2 S o).length]? = some (0, 40, []) := ap_at hf27
  have hf34 : (SNX10_7 S o)[(SNX10_4 S o).length]? = some (0, 40, []) := ap_at hf28
  have hf35 : (SNX10_7 S o)[(SNX10_6 S o).length]? = some (0, 4, []) := nw_at
  have hw36 : ie_wf (SNX10_7 S o) M := wf_app hw29 (by simp) hz30
  have hz37 : ie_zr (SNX10_7 S o) M := zr_app hz30
  have hf38 : (SNX10_8 S o)[o]? = some (12, 6, [none, some (some S.length), none, some (some (SNX10_2 S o).length), some (some (SNX10_4 S o).length), some (some (SNX10_6 S o).length)]) := st_at hf31
  have hf39 : (SNX10_8 S o)[S.length]? = some (0, 10, []) := st_at' hf32 (Nat.ne_of_lt (List.getElem?_eq_some_iff.mp ho).1)
  have hf40 : (SNX10_8 S o)[(SNX10_2 S o).length]? = some (0, 40, []) := st_at' hf33 (Nat.ne_of_lt (List.getElem?_eq_some_iff.mp hf5).1)
  have hf41 : (SNX10_8 S o)[(SNX10_4 S o).length]? = some (0, 40, []) := st_at' hf34 (Nat.ne_of_lt (List.getElem?_eq_some_iff.mp hf14).1)
  have hf42 : (SNX10_8 S o)[(SNX10_6 S o).length]? = some (0, 4, []) := st_at' hf35 (Nat.ne_of_lt (List.getElem?_eq_some_iff.mp hf25).1)
  have hw43 : ie_wf (SNX10_8 S o) M := by have zz := wf_set (i := 5) (r := (SNX10_6 S o).length) hw36 hf31 ((List.getElem?_eq_some_iff.mp hf35).1); exact zz
  have hz44 : ie_zr (SNX10_8 S o) M := zr_set hz37
  exact ⟨hf38, hw43, hz44, len8, fun p x hp h => (st_at' (ap_at (st_at' (ap_at (st_at' (ap_at (st_at' (ap_at h) (fun e => hp e.symm))) (fun e => hp e.symm))) (fun e => hp e.symm))) (fun e => hp e.symm))⟩
set_option maxRecDepth 100000 in
set_option maxHeartbeats 8000000 in
theorem tc_X10 {g : IG} {a : Nat → Nat} {S : List IK} {M : IM} {o : Nat} (ho : S[o]? = some (12, 6, [none, some none, none, some none, some none, some none])) (hwf : ie_wf S M) (hz : ie_zr S M) : Cn g mX10_init 1 4 94 (qC (SNX10 S o) (MNX10 S M o) S.length a) [.ref (a o)] a S M := by
  refine Cn_of (L := [some (.ref (a o))]) mf_X10_init (cat_r cat_0) (Nat.le_of_ble_eq_true rfl) rfl ?_
  have len1 : (SNX10_1 S o).length = S.length + 1 := by show (S ++ [_]).length = _; rw [List.length_append, List.length_singleton]
  have len2 : (SNX10_2 S o).length = S.length + 1 := by show ((SNX10_1 S o).set _ _).length = _; rw [List.length_set, len1]
  have len3 : (SNX10_3 S o).length = S.length + 2 := by show ((SNX10_2 S o) ++ [_]).length = _; rw [List.length_append, List.length_singleton, len2]
  have len4 : (SNX10_4 S o).length = S.length + 2 := by show ((SNX10_3 S o).set _ _).length = _; rw [List.length_set, len3]
  have len5 : (SNX10_5 S o).length = S.length + 3 := by show ((SNX10_4 S o) ++ [_]).length = _; rw [List.length_append, List.length_singleton, len4]
  have len6 : (SNX10_6 S o).length = S.length + 3 := by show ((SNX10_5 S o).set _ _).length = _; rw [List.length_set, len5]
  have len7 : (SNX10_7 S o).length = S.length + 4 := by show ((SNX10_6 S o) ++ [_]).length = _; rw [List.length_append, List.length_singleton, len6]
  have len8 : (SNX10_8 S o).length = S.length + 4 := by show ((SNX10_7 S o).set _ _).length = _; rw [List.length_set, len7]
  refine V_aload_n rfl dX10_init_0 rfl rfl ?_
  refine V_obj rfl dX10_init_1 ⟨w_471, w_166, w_167⟩ rfl ?_
  refine V_aload_n rfl dX10_init_4 rfl rfl ?_
  refine V_bipush (v := 10) rfl dX10_init_5 kb_10 ?_
  refine V_newa (n := 10) (fun a => [some (.ref (a o))]) (fun a => [.ref (a o)]) rfl dX10_init_7 w_245 (by decide +kernel) hwf hz ⟨rfl, rfl⟩ (fun a' h => ⟨by first | rfl | simp only [h _ ((List.getElem?_eq_some_iff.mp ho).1)], by first | rfl | simp only [h _ ((List.getElem?_eq_some_iff.mp ho).1)]⟩) (fun a1 hg0 => ?_)
  have hf1 : (SNX10_1 S o)[o]? = some (12, 6, [none, some none, none, some none, some none, some none]) := ap_at ho
  have hf2 : (SNX10_1 S o)[S.length]? = some (0, 10, []) := nw_at
  have hw3 : ie_wf (SNX10_1 S o) M := wf_app hwf (by simp) hz
  have hz4 : ie_zr (SNX10_1 S o) M := zr_app hz
  show V _ _ _ _ _ _ _ _ _ _ (SNX10_1 S o) M _ _
  refine V_putr (k0 := 1) (ty := (.array .int)) (r := S.length) rfl dX10_init_9 hf1 icX10 tyX10_ok nmX10 (by decide) (Nat.le_of_ble_eq_true rfl) w_474 rfl rfl rfl (tyX10_ok _ (by decide)) rfl rfl ?_
  have hf5 : (SNX10_2 S o)[o]? = some (12, 6, [none, some (some S.length), none, some none, some none, some none]) := st_at hf1
  have hf6 : (SNX10_2 S o)[S.length]? = some (0, 10, []) := st_at' hf2 (Nat.ne_of_lt (List.getElem?_eq_some_iff.mp ho).1)
  have hw7 : ie_wf (SNX10_2 S o) M := by have zz := wf_set (i := 1) (r := S.length) hw3 hf1 ((List.getElem?_eq_some_iff.mp hf2).1); exact zz
  have hz8 : ie_zr (SNX10_2 S o) M := zr_set hz4
  show V _ _ _ _ _ _ _ _ _ _ (SNX10_2 S o) M _ _
  refine V_aload_n rfl dX10_init_12 rfl rfl ?_
  refine V_bipush (v := 40) rfl dX10_init_13 kb_40 ?_
  refine V_newa (n := 40) (fun a => [some (.ref (a o))]) (fun a => [.ref (a o)]) rfl dX10_init_15 w_245 (by decide +kernel) hw7 hz8 ⟨rfl, rfl⟩ (fun a' h => ⟨by first | rfl | simp only [h _ ((List.getElem?_eq_some_iff.mp hf5).1)], by first | rfl | simp only [h _ ((List.getElem?_eq_some_iff.mp hf5).1)]⟩) (fun a11 hg1 => ?_)
  have hf9 : (SNX10_3 S o)[o]? = some (12, 6, [none, some (some S.length), none, some none, some none, some none]) := ap_at hf5
  have hf10 : (SNX10_3 S o)[S.length]? = some (0, 10, []) := ap_at hf6
  have hf11 : (SNX10_3 S o)[(SNX10_2 S o).length]? = some (0, 40, []) := nw_at
  have hw12 : ie_wf (SNX10_3 S o) M := wf_app hw7 (by simp) hz8
  have hz13 : ie_zr (SNX10_3 S o) M := zr_app hz8
  show V _ _ _ _ _ _ _ _ _ _ (SNX10_3 S o) M _ _
  refine V_putr (k0 := 3) (ty := (.array .int)) (r := (SNX10_2 S o).length) rfl dX10_init_17 hf9 icX10 tyX10_ok nmX10 (by decide) (Nat.le_of_ble_eq_true rfl) w_477 rfl rfl rfl (tyX10_ok _ (by decide)) rfl rfl ?_
  have hf14 : (SNX10_4 S o)[o]? = some (12, 6, [none, some (some S.length), none, some (some (SNX10_2 S o).length), some none, some none]) := st_at hf9
  have hf15 : (SNX10_4 S o)[S.length]? = some (0, 10, []) := st_at' hf10 (Nat.ne_of_lt (List.getElem?_eq_some_iff.mp ho).1)
  have hf16 : (SNX10_4 S o)[(SNX10_2 S o).length]? = some (0, 40, []) := st_at' hf11 (Nat.ne_of_lt (List.getElem?_eq_some_iff.mp hf5).1)
  have hw17 : ie_wf (SNX10_4 S o) M := by have zz := wf_set (i := 3) (r := (SNX10_2 S o).length) hw12 hf9 ((List.getElem?_eq_some_iff.mp hf11).1); exact zz
  have hz18 : ie_zr (SNX10_4 S o) M := zr_set hz13
  show V _ _ _ _ _ _ _ _ _ _ (SNX10_4 S o) M _ _
  refine V_aload_n rfl dX10_init_20 rfl rfl ?_
  refine V_bipush (v := 40) rfl dX10_init_21 kb_40 ?_
  refine V_newa (n := 40) (fun a => [some (.ref (a o))]) (fun a => [.ref (a o)]) rfl dX10_init_23 w_245 (by decide +kernel) hw17 hz18 ⟨rfl, rfl⟩ (fun a' h => ⟨by first | rfl | simp only [h _ ((List.getElem?_eq_some_iff.mp hf14).1)], by first | rfl | simp only [h _ ((List.getElem?_eq_some_iff.mp hf14).1)]⟩) (fun a111 hg2 => ?_)
  have hf19 : (SNX10_5 S o)[o]? = some (12, 6, [none, some (some S.length), none, some (some (SNX10_2 S o).length), some none, some none]) := ap_at hf14
  have hf20 : (SNX10_5 S o)[S.length]? = some (0, 10, []) := ap_at hf15
  have hf21 : (SNX10_5 S o)[(SNX10_2 S o).length]? = some (0, 40, []) := ap_at hf16
  have hf22 : (SNX10_5 S o)[(SNX10_4 S o).length]? = some (0, 40, []) := nw_at
  have hw23 : ie_wf (SNX10_5 S o) M := wf_app hw17 (by simp) hz18
  have hz24 : ie_zr (SNX10_5 S o) M := zr_app hz18
  show V _ _ _ _ _ _ _ _ _ _ (SNX10_5 S o) M _ _
  refine V_putr (k0 := 4) (ty := (.array .int)) (r := (SNX10_4 S o).length) rfl dX10_init_25 hf19 icX10 tyX10_ok nmX10 (by decide) (Nat.le_of_ble_eq_true rfl) w_478 rfl rfl rfl (tyX10_ok _ (by decide)) rfl rfl ?_
  have hf25 : (SNX10_6 S o)[o]? = some (12, 6, [none, some (some S.length), none, some (some (SNX10_2 S o).length), some (some (SNX10_4 S o).length), some none]) := st_at hf19
  have hf26 : (SNX10_6 S o)[S.length]? = some (0, 10, []) := st_at' hf20 (Nat.ne_of_lt (List.getElem?_eq_some_iff.mp ho).1)
  have hf27 : (SNX10_6 S o)[(SNX10_2 S o).length]? = some (0, 40, []) := st_at' hf21 (Nat.ne_of_lt (List.getElem?_eq_some_iff.mp hf5).1)
  have hf28 : (SNX10_6 S o)[(SNX10_4 S o).length]? = some (0, 40, []) := st_at' hf22 (Nat.ne_of_lt (List.getElem?_eq_some_iff.mp hf14).1)
  have hw29 : ie_wf (SNX10_6 S o) M := by have zz := wf_set (i := 4) (r := (SNX10_4 S o).length) hw23 hf19 ((List.getElem?_eq_some_iff.mp hf22).1); exact zz
  have hz30 : ie_zr (SNX10_6 S o) M := zr_set hz24
  show V _ _ _ _ _ _ _ _ _ _ (SNX10_6 S o) M _ _
  refine V_aload_n rfl dX10_init_28 rfl rfl ?_
  refine V_iconst (v := 4) rfl dX10_init_29 kc_4 ?_
  refine V_newa (n := 4) (fun a => [some (.ref (a o))]) (fun a => [.ref (a o)]) rfl dX10_init_30 w_245 (by decide +kernel) hw29 hz30 ⟨rfl, rfl⟩ (fun a' h => ⟨by first | rfl | simp only [h _ ((List.getElem?_eq_some_iff.mp hf25).1)], by first | rfl | simp only [h _ ((List.getElem?_eq_some_iff.mp hf25).1)]⟩) (fun a1111 hg3 => ?_)
  have hf31 : (SNX10_7 S o)[o]? = some (12, 6, [none, some (some S.length), none, some (some (SNX10_2 S o).length), some (some (SNX10_4 S o).length), some none]) := ap_at hf25
  have hf32 : (SNX10_7 S o)[S.length]? = some (0, 10, []) := ap_at hf26
  have hf33 : (SNX10_7 S o)[(SNX10_2 S o).length]? = some (0, 40, []) := ap_at hf27
  have hf34 : (SNX10_7 S o)[(SNX10_4 S o).length]? = some (0, 40, []) := ap_at hf28
  have hf35 : (SNX10_7 S o)[(SNX10_6 S o).length]? = some (0, 4, []) := nw_at
  have hw36 : ie_wf (SNX10_7 S o) M := wf_app hw29 (by simp) hz30
  have hz37 : ie_zr (SNX10_7 S o) M := zr_app hz30
  show V _ _ _ _ _ _ _ _ _ _ (SNX10_7 S o) M _ _
  refine V_putr (k0 := 5) (ty := (.array .int)) (r := (SNX10_6 S o).length) rfl dX10_init_32 hf31 icX10 tyX10_ok nmX10 (by decide) (Nat.le_of_ble_eq_true rfl) w_479 rfl rfl rfl (tyX10_ok _ (by decide)) rfl rfl ?_
  have hf38 : (SNX10_8 S o)[o]? = some (12, 6, [none, some (some S.length), none, some (some (SNX10_2 S o).length), some (some (SNX10_4 S o).length), some (some (SNX10_6 S o).length)]) := st_at hf31
  have hf39 : (SNX10_8 S o)[S.length]? = some (0, 10, []) := st_at' hf32 (Nat.ne_of_lt (List.getElem?_eq_some_iff.mp ho).1)
  have hf40 : (SNX10_8 S o)[(SNX10_2 S o).length]? = some (0, 40, []) := st_at' hf33 (Nat.ne_of_lt (List.getElem?_eq_some_iff.mp hf5).1)
  have hf41 : (SNX10_8 S o)[(SNX10_4 S o).length]? = some (0, 40, []) := st_at' hf34 (Nat.ne_of_lt (List.getElem?_eq_some_iff.mp hf14).1)
  have hf42 : (SNX10_8 S o)[(SNX10_6 S o).length]? = some (0, 4, []) := st_at' hf35 (Nat.ne_of_lt (List.getElem?_eq_some_iff.mp hf25).1)
  have hw43 : ie_wf (SNX10_8 S o) M := by have zz := wf_set (i := 5) (r := (SNX10_6 S o).length) hw36 hf31 ((List.getElem?_eq_some_iff.mp hf35).1); exact zz
  have hz44 : ie_zr (SNX10_8 S o) M := zr_set hz37
  show V _ _ _ _ _ _ _ _ _ _ (SNX10_8 S o) M _ _
  exact V_vret dX10_init_35 rfl (by decide) (by decide) ⟨rfl, rfl, rfl, fun p hp => by rw [hg3 p (by rw [len6]; omega), hg2 p (by rw [len4]; omega), hg1 p (by rw [len2]; omega), hg0 p hp]⟩
def SNX2_1 (S : List IK) (o : Nat) (r1 : Nat) (r2 : Nat) : List IK := S.set o (4, 7, [none, none, some (some r1), some none, none, none, none])
def SNX2_2 (S : List IK) (o : Nat) (r1 : Nat) (r2 : Nat) : List IK := (SNX2_1 S o r1 r2).set o (4, 7, [none, none, some (some r1), some (some r2), none, none, none])
def SNX2 (S : List IK) (o : Nat) (r1 : Nat) (r2 : Nat) : List IK := (SNX2_2 S o r1 r2)
def MNX2 (S : List IK) (M : IM) (o : Nat) (r1 : Nat) (r2 : Nat) : IM := M
def RNX2_2 (S : List IK) (o : Nat) (r1 : Nat) (r2 : Nat) : Nat := r1
def RNX2_3 (S : List IK) (o : Nat) (r1 : Nat) (r2 : Nat) : Nat := r2
def CBX2 (S : List IK) (M : IM) (o : Nat) (r1 : Nat) (r2 : Nat) : Prop := (SNX2 S o r1 r2)[o]? = some (4, 7, [none, none, some (some (RNX2_2 S o r1 r2)), some (some (RNX2_3 S o r1 r2)), none, none, none]) ∧ ie_wf (SNX2 S o r1 r2) (MNX2 S M o r1 r2) ∧ ie_zr (SNX2 S o r1 r2) (MNX2 S M o r1 r2) ∧ (SNX2 S o r1 r2).length = S.length + 0 ∧ ∀ (p : Nat) (x : IK), ¬ p = o → S[p]? = some x → (SNX2 S o r1 r2)[p]? = some x
set_option maxRecDepth 100000 in
set_option maxHeartbeats 4000000 in
theorem cb_X2 {S : List IK} {M : IM} {o r1 r2 : Nat} (ho : S[o]? = some (4, 7, [none, none, some none, some none, none, none, none])) (hwf : ie_wf S M) (hz : ie_zr S M) (hr1 : r1 < S.length) (hr2 : r2 < S.length) : CBX2 S M o r1 r2 := by
  have len1 : (SNX2_1 S o r1 r2).length = S.length + 0 := by show (S.set _ _).length = _; rw [List.length_set]
  have len2 : (SNX2_2 S o r1 r2).length = S.length + 0 := by show ((SNX2_1 S o r1 r2).set _ _).length = _; rw [List.length_set, len1]
  have hf1 : (SNX2_1 S o r1 r2)[o]? = some (4, 7, [none, none, some (some r1), some none, none, none, none]) := st_at ho
  have hl2 : r1 < (SNX2_1 S o r1 r2).length := by show r1 < (S.set _ _).length; rw [List.length_set]; exact hr1
  have hl3 : r2 < (SNX2_1 S o r1 r2).length := by show r2 < (S.set _ _).length; rw [List.length_set]; exact hr2
  have hw4 : ie_wf (SNX2_1 S o r1 r2) M := by have zz := wf_set (i := 2) (r := r1) hwf ho (hr1); exact zz
  have hz5 : ie_zr (SNX2_1 S o r1 r2) M := zr_set hz
  have hf6 : (SNX2_2 S o r1 r2)[o]? = some (4, 7, [none, none, some (some r1), some (some r2), none, none, none]) := st_at hf1
  have hl7 : r1 < (SNX2_2 S o r1 r2).length := by show r1 < ((SNX2_1 S o r1 r2).set _ _).length; rw [List.length_set]; exact hl2
  have hl8 : r2 < (SNX2_2 S o r1 r2).length := by show r2 < ((SNX2_1 S o r1 r2).set _ _).length; rw [List.length_set]; exact hl3
  have hw9 : ie_wf (SNX2_2 S o r1 r2) M := by have zz := wf_set (i := 3) (r := r2) hw4 hf1 (hl3); exact zz
  have hz10 : ie_zr (SNX2_2 S o r1 r2) M := zr_set hz5
  exact ⟨hf6, hw9, hz10, len2, fun p x hp h => (st_at' (st_at' h (fun e => hp e.symm)) (fun e => hp e.symm))⟩
set_option maxRecDepth 100000 in
set_option maxHeartbeats 8000000 in
theorem tc_X2 {g : IG} {a : Nat → Nat} {S : List IK} {M : IM} {o r1 r2 : Nat} (ho : S[o]? = some (4, 7, [none, none, some none, some none, none, none, none])) (hwf : ie_wf S M) (hz : ie_zr S M) (hr1 : r1 < S.length) (hr2 : r2 < S.length) : Cn g mX2_init 1 0 0 (qC (SNX2 S o r1 r2) (MNX2 S M o r1 r2) S.length a) [.ref (a o), .ref (a r1), .ref (a r2)] a S M := by
  refine Cn_of (L := [some (.ref (a o)), some (.ref (a r1)), some (.ref (a r2))]) mf_X2_init (cat_r (cat_r (cat_r cat_0))) (Nat.le_of_ble_eq_true rfl) rfl ?_
  have len1 : (SNX2_1 S o r1 r2).length = S.length + 0 := by show (S.set _ _).length = _; rw [List.length_set]
  have len2 : (SNX2_2 S o r1 r2).length = S.length + 0 := by show ((SNX2_1 S o r1 r2).set _ _).length = _; rw [List.length_set, len1]
  refine V_aload_n rfl dX2_init_0 rfl rfl ?_
  refine V_obj rfl dX2_init_1 ⟨w_498, w_166, w_167⟩ rfl ?_
  refine V_aload_n rfl dX2_init_4 rfl rfl ?_
  refine V_aload_n rfl dX2_init_5 rfl rfl ?_
  refine V_putr (k0 := 2) (ty := (.object "NeverHalted$Asked")) (r := r1) rfl dX2_init_6 ho icX2 tyX2_ok nmX2 (by decide) (Nat.le_of_ble_eq_true rfl) w_503 rfl rfl rfl (tyX2_ok _ (by decide)) rfl rfl ?_
  have hf1 : (SNX2_1 S o r1 r2)[o]? = some (4, 7, [none, none, some (some r1), some none, none, none, none]) := st_at ho
  have hl2 : r1 < (SNX2_1 S o r1 r2).length := by show r1 < (S.set _ _).length; rw [List.length_set]; exact hr1
  have hl3 : r2 < (SNX2_1 S o r1 r2).length := by show r2 < (S.set _ _).length; rw [List.length_set]; exact hr2
  have hw4 : ie_wf (SNX2_1 S o r1 r2) M := by have zz := wf_set (i := 2) (r := r1) hwf ho (hr1); exact zz
  have hz5 : ie_zr (SNX2_1 S o r1 r2) M := zr_set hz
  show V _ _ _ _ _ _ _ _ _ _ (SNX2_1 S o r1 r2) M _ _
  refine V_aload_n rfl dX2_init_9 rfl rfl ?_
  refine V_aload_n rfl dX2_init_10 rfl rfl ?_
  refine V_putr (k0 := 3) (ty := (.object "NeverHalted$Law")) (r := r2) rfl dX2_init_11 hf1 icX2 tyX2_ok nmX2 (by decide) (Nat.le_of_ble_eq_true rfl) w_504 rfl rfl rfl (tyX2_ok _ (by decide)) rfl rfl ?_
  have hf6 : (SNX2_2 S o r1 r2)[o]? = some (4, 7, [none, none, some (some r1), some (some r2), none, none, none]) := st_at hf1
  have hl7 : r1 < (SNX2_2 S o r1 r2).length := by show r1 < ((SNX2_1 S o r1 r2).set _ _).length; rw [List.length_set]; exact hl2
  have hl8 : r2 < (SNX2_2 S o r1 r2).length := by show r2 < ((SNX2_1 S o r1 r2).set _ _).length; rw [List.length_set]; exact hl3
  have hw9 : ie_wf (SNX2_2 S o r1 r2) M := by have zz := wf_set (i := 3) (r := r2) hw4 hf1 (hl3); exact zz
  have hz10 : ie_zr (SNX2_2 S o r1 r2) M := zr_set hz5
  show V _ _ _ _ _ _ _ _ _ _ (SNX2_2 S o r1 r2) M _ _
  exact V_vret dX2_init_14 rfl (by decide) (by decide) ⟨rfl, rfl, rfl, fun p hp => by rfl⟩
