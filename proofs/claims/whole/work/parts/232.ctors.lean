def SNX9_1 (S : List IK) (o : Nat) : List IK := S ++ [(0, 64, [])]
def SNX9_2 (S : List IK) (o : Nat) : List IK := (SNX9_1 S o).set o (11, 8, [none, none, none, some (some S.length), some none, some none, some none, some none])
def SNX9_3 (S : List IK) (o : Nat) : List IK := (SNX9_2 S o) ++ [(5, 7, [none, some none, some none, some none, some none, none, some none])]
def SNX9_4 (S : List IK) (o : Nat) : List IK := (SNX3 (SNX9_3 S o) (SNX9_2 S o).length)
def SNX9_5 (S : List IK) (o : Nat) : List IK := (SNX9_4 S o).set o (11, 8, [none, none, none, some (some S.length), some (some (SNX9_2 S o).length), some none, some none, some none])
def SNX9_6 (S : List IK) (o : Nat) : List IK := (SNX9_5 S o) ++ [(5, 7, [none, some none, some none, some none, some none, none, some none])]
def SNX9_7 (S : List IK) (o : Nat) : List IK := (SNX3 (SNX9_6 S o) (SNX9_5 S o).length)
def SNX9_8 (S : List IK) (o : Nat) : List IK := (SNX9_7 S o).set o (11, 8, [none, none, none, some (some S.length), some (some (SNX9_2 S o).length), some (some (SNX9_5 S o).length), some none, some none])
def SNX9_9 (S : List IK) (o : Nat) : List IK := (SNX9_8 S o) ++ [(9, 5, [none, some none, some none, some none, some none])]
def SNX9_10 (S : List IK) (o : Nat) : List IK := (SNX7 (SNX9_9 S o) (SNX9_8 S o).length)
def SNX9_11 (S : List IK) (o : Nat) : List IK := (SNX9_10 S o).set o (11, 8, [none, none, none, some (some S.length), some (some (SNX9_2 S o).length), some (some (SNX9_5 S o).length), some (some (SNX9_8 S o).length), some none])
def SNX9_12 (S : List IK) (o : Nat) : List IK := (SNX9_11 S o) ++ [(10, 5, [none, some none, some none, some none, some none])]
def SNX9_13 (S : List IK) (o : Nat) : List IK := (SNX8 (SNX9_12 S o) (SNX9_11 S o).length)
def SNX9_14 (S : List IK) (o : Nat) : List IK := (SNX9_13 S o).set o (11, 8, [none, none, none, some (some S.length), some (some (SNX9_2 S o).length), some (some (SNX9_5 S o).length), some (some (SNX9_8 S o).length), some (some (SNX9_11 S o).length)])
def SNX9 (S : List IK) (o : Nat) : List IK := (SNX9_14 S o)
def MNX9_1 (S : List IK) (M : IM) (o : Nat) : IM := (MNX3 (SNX9_3 S o) M (SNX9_2 S o).length)
def MNX9_2 (S : List IK) (M : IM) (o : Nat) : IM := (MNX3 (SNX9_6 S o) (MNX9_1 S M o) (SNX9_5 S o).length)
def MNX9_3 (S : List IK) (M : IM) (o : Nat) : IM := (MNX7 (SNX9_9 S o) (MNX9_2 S M o) (SNX9_8 S o).length)
def MNX9_4 (S : List IK) (M : IM) (o : Nat) : IM := (MNX8 (SNX9_12 S o) (MNX9_3 S M o) (SNX9_11 S o).length)
def MNX9 (S : List IK) (M : IM) (o : Nat) : IM := (MNX9_4 S M o)
def RNX9_3 (S : List IK) (o : Nat) : Nat := S.length
def RNX9_4 (S : List IK) (o : Nat) : Nat := (SNX9_2 S o).length
def RNX9_5 (S : List IK) (o : Nat) : Nat := (SNX9_5 S o).length
def RNX9_6 (S : List IK) (o : Nat) : Nat := (SNX9_8 S o).length
def RNX9_7 (S : List IK) (o : Nat) : Nat := (SNX9_11 S o).length
def CBX9 (S : List IK) (M : IM) (o : Nat) : Prop := (SNX9 S o)[o]? = some (11, 8, [none, none, none, some (some (RNX9_3 S o)), some (some (RNX9_4 S o)), some (some (RNX9_5 S o)), some (some (RNX9_6 S o)), some (some (RNX9_7 S o))]) ∧ ie_wf (SNX9 S o) (MNX9 S M o) ∧ ie_zr (SNX9 S o) (MNX9 S M o) ∧ (SNX9 S o).length = S.length + 23 ∧ ∀ (p : Nat) (x : IK), ¬ p = o → S[p]? = some x → (SNX9 S o)[p]? = some x
set_option maxRecDepth 100000 in
set_option maxHeartbeats 4000000 in
theorem cb_X9 {S : List IK} {M : IM} {o : Nat} (ho : S[o]? = some (11, 8, [none, none, none, some none, some none, some none, some none, some none])) (hwf : ie_wf S M) (hz : ie_zr S M) : CBX9 S M o := by
  have len1 : (SNX9_1 S o).length = S.length + 1 := l_app rfl
  have len2 : (SNX9_2 S o).length = S.length + 1 := l_set len1
  have len3 : (SNX9_3 S o).length = S.length + 2 := l_app len2
  have hf1 : (SNX9_1 S o)[o]? = some (11, 8, [none, none, none, some none, some none, some none, some none, some none]) := ap_at ho
  have hf2 : (SNX9_1 S o)[S.length]? = some (0, 64, []) := nw_at
  have hw3 : ie_wf (SNX9_1 S o) M := wf_app hwf (by simp) hz
  have hz4 : ie_zr (SNX9_1 S o) M := zr_app hz
  have hf5 : (SNX9_2 S o)[o]? = some (11, 8, [none, none, none, some (some S.length), some none, some none, some none, some none]) := st_at hf1
  have hf6 : (SNX9_2 S o)[S.length]? = some (0, 64, []) := st_at' hf2 (Nat.ne_of_lt (List.getElem?_eq_some_iff.mp ho).1)
  have hw7 : ie_wf (SNX9_2 S o) M := by have zz := wf_set (i := 3) (r := S.length) hw3 hf1 ((List.getElem?_eq_some_iff.mp hf2).1); exact zz
  have hz8 : ie_zr (SNX9_2 S o) M := zr_set hz4
  have hf9 : (SNX9_3 S o)[o]? = some (11, 8, [none, none, none, some (some S.length), some none, some none, some none, some none]) := ap_at hf5
  have hf10 : (SNX9_3 S o)[(SNX9_2 S o).length]? = some (5, 7, [none, some none, some none, some none, some none, none, some none]) := nw_at
  have hw11 : ie_wf (SNX9_3 S o) M := wf_app hw7 (by simp) hz8
  have hz12 : ie_zr (SNX9_3 S o) M := zr_app hz8
  have hb13 : CBX3 (SNX9_3 S o) M (SNX9_2 S o).length := cb_X3 hf10 hw11 hz12
  have len4 : (SNX9_4 S o).length = S.length + 7 := l_cal hb13.2.2.2.1 len3
  have len5 : (SNX9_5 S o).length = S.length + 7 := l_set len4
  have len6 : (SNX9_6 S o).length = S.length + 8 := l_app len5
  have hf14 : (SNX9_4 S o)[o]? = some (11, 8, [none, none, none, some (some S.length), some none, some none, some none, some none]) := hb13.2.2.2.2 _ _ (Nat.ne_of_lt (List.getElem?_eq_some_iff.mp hf5).1) hf9
  have hf15 : (SNX9_4 S o)[(SNX9_2 S o).length]? = some (5, 7, [none, some (some (RNX3_1 (SNX9_3 S o) (SNX9_2 S o).length)), some (some (RNX3_2 (SNX9_3 S o) (SNX9_2 S o).length)), some (some (RNX3_3 (SNX9_3 S o) (SNX9_2 S o).length)), some (some (RNX3_4 (SNX9_3 S o) (SNX9_2 S o).length)), none, some (some (RNX3_6 (SNX9_3 S o) (SNX9_2 S o).length))]) := hb13.1
  have hw16 : ie_wf (SNX9_4 S o) (MNX9_1 S M o) := hb13.2.1
  have hz17 : ie_zr (SNX9_4 S o) (MNX9_1 S M o) := hb13.2.2.1
  have hf18 : (SNX9_5 S o)[o]? = some (11, 8, [none, none, none, some (some S.length), some (some (SNX9_2 S o).length), some none, some none, some none]) := st_at hf14
  have hf19 : (SNX9_5 S o)[(SNX9_2 S o).length]? = some (5, 7, [none, some (some (RNX3_1 (SNX9_3 S o) (SNX9_2 S o).length)), some (some (RNX3_2 (SNX9_3 S o) (SNX9_2 S o).length)), some (some (RNX3_3 (SNX9_3 S o) (SNX9_2 S o).length)), some (some (RNX3_4 (SNX9_3 S o) (SNX9_2 S o).length)), none, some (some (RNX3_6 (SNX9_3 S o) (SNX9_2 S o).length))]) := st_at' hf15 (Nat.ne_of_lt (List.getElem?_eq_some_iff.mp hf5).1)
  have hw20 : ie_wf (SNX9_5 S o) (MNX9_1 S M o) := by have zz := wf_set (i := 4) (r := (SNX9_2 S o).length) hw16 hf14 ((List.getElem?_eq_some_iff.mp hf15).1); exact zz
  have hz21 : ie_zr (SNX9_5 S o) (MNX9_1 S M o) := zr_set hz17
  have hf22 : (SNX9_6 S o)[o]? = some (11, 8, [none, none, none, some (some S.length), some (some (SNX9_2 S o).length), some none, some none, some none]) := ap_at hf18
  have hf23 : (SNX9_6 S o)[(SNX9_2 S o).length]? = some (5, 7, [none, some (some (RNX3_1 (SNX9_3 S o) (SNX9_2 S o).length)), some (some (RNX3_2 (SNX9_3 S o) (SNX9_2 S o).length)), some (some (RNX3_3 (SNX9_3 S o) (SNX9_2 S o).length)), some (some (RNX3_4 (SNX9_3 S o) (SNX9_2 S o).length)), none, some (some (RNX3_6 (SNX9_3 S o) (SNX9_2 S o).length))]) := ap_at hf19
  have hf24 : (SNX9_6 S o)[(SNX9_5 S o).length]? = some (5, 7, [none, some none, some none, some none, some none, none, some none]) := nw_at
  have hw25 : ie_wf (SNX9_6 S o) (MNX9_1 S M o) := wf_app hw20 (by simp) hz21
  have hz26 : ie_zr (SNX9_6 S o) (MNX9_1 S M o) := zr_app hz21
  have hb27 : CBX3 (SNX9_6 S o) (MNX9_1 S M o) (SNX9_5 S o).length := cb_X3 hf24 hw25 hz26
  have len7 : (SNX9_7 S o).length = S.length + 13 := l_cal hb27.2.2.2.1 len6
  have len8 : (SNX9_8 S o).length = S.length + 13 := l_set len7
  have len9 : (SNX9_9 S o).length = S.length + 14 := l_app len8
  have hf28 : (SNX9_7 S o)[o]? = some (11, 8, [none, none, none, some (some S.length), some (some (SNX9_2 S o).length), some none, some none, some none]) := hb27.2.2.2.2 _ _ (Nat.ne_of_lt (List.getElem?_eq_some_iff.mp hf18).1) hf22
  have hf29 : (SNX9_7 S o)[(SNX9_2 S o).length]? = some (5, 7, [none, some (some (RNX3_1 (SNX9_3 S o) (SNX9_2 S o).length)), some (some (RNX3_2 (SNX9_3 S o) (SNX9_2 S o).length)), some (some (RNX3_3 (SNX9_3 S o) (SNX9_2 S o).length)), some (some (RNX3_4 (SNX9_3 S o) (SNX9_2 S o).length)), none, some (some (RNX3_6 (SNX9_3 S o) (SNX9_2 S o).length))]) := hb27.2.2.2.2 _ _ (Nat.ne_of_lt (List.getElem?_eq_some_iff.mp hf19).1) hf23
  have hf30 : (SNX9_7 S o)[(SNX9_5 S o).length]? = some (5, 7, [none, some (some (RNX3_1 (SNX9_6 S o) (SNX9_5 S o).length)), some (some (RNX3_2 (SNX9_6 S o) (SNX9_5 S o).length)), some (some (RNX3_3 (SNX9_6 S o) (SNX9_5 S o).length)), some (some (RNX3_4 (SNX9_6 S o) (SNX9_5 S o).length)), none, some (some (RNX3_6 (SNX9_6 S o) (SNX9_5 S o).length))]) := hb27.1
  have hw31 : ie_wf (SNX9_7 S o) (MNX9_2 S M o) := hb27.2.1
  have hz32 : ie_zr (SNX9_7 S o) (MNX9_2 S M o) := hb27.2.2.1
  have hf33 : (SNX9_8 S o)[o]? = some (11, 8, [none, none, none, some (some S.length), some (some (SNX9_2 S o).length), some (some (SNX9_5 S o).length), some none, some none]) := st_at hf28
  have hf34 : (SNX9_8 S o)[(SNX9_2 S o).length]? = some (5, 7, [none, some (some (RNX3_1 (SNX9_3 S o) (SNX9_2 S o).length)), some (some (RNX3_2 (SNX9_3 S o) (SNX9_2 S o).length)), some (some (RNX3_3 (SNX9_3 S o) (SNX9_2 S o).length)), some (some (RNX3_4 (SNX9_3 S o) (SNX9_2 S o).length)), none, some (some (RNX3_6 (SNX9_3 S o) (SNX9_2 S o).length))]) := st_at' hf29 (Nat.ne_of_lt (List.getElem?_eq_some_iff.mp hf5).1)
  have hf35 : (SNX9_8 S o)[(SNX9_5 S o).length]? = some (5, 7, [none, some (some (RNX3_1 (SNX9_6 S o) (SNX9_5 S o).length)), some (some (RNX3_2 (SNX9_6 S o) (SNX9_5 S o).length)), some (some (RNX3_3 (SNX9_6 S o) (SNX9_5 S o).length)), some (some (RNX3_4 (SNX9_6 S o) (SNX9_5 S o).length)), none, some (some (RNX3_6 (SNX9_6 S o) (SNX9_5 S o).length))]) := st_at' hf30 (Nat.ne_of_lt (List.getElem?_eq_some_iff.mp hf18).1)
  have hw36 : ie_wf (SNX9_8 S o) (MNX9_2 S M o) := by have zz := wf_set (i := 5) (r := (SNX9_5 S o).length) hw31 hf28 ((List.getElem?_eq_some_iff.mp hf30).1); exact zz
  have hz37 : ie_zr (SNX9_8 S o) (MNX9_2 S M o) := zr_set hz32
  have hf38 : (SNX9_9 S o)[o]? = some (11, 8, [none, none, none, some (some S.length), some (some (SNX9_2 S o).length), some (some (SNX9_5 S o).length), some none, some none]) := ap_at hf33
  have hf39 : (SNX9_9 S o)[(SNX9_2 S o).length]? = some (5, 7, [none, some (some (RNX3_1 (SNX9_3 S o) (SNX9_2 S o).length)), some (some (RNX3_2 (SNX9_3 S o) (SNX9_2 S o).length)), some (some (RNX3_3 (SNX9_3 S o) (SNX9_2 S o).length)), some (some (RNX3_4 (SNX9_3 S o) (SNX9_2 S o).length)), none, some (some (RNX3_6 (SNX9_3 S o) (SNX9_2 S o).length))]) := ap_at hf34
  have hf40 : (SNX9_9 S o)[(SNX9_5 S o).length]? = some (5, 7, [none, some (some (RNX3_1 (SNX9_6 S o) (SNX9_5 S o).length)), some (some (RNX3_2 (SNX9_6 S o) (SNX9_5 S o).length)), some (some (RNX3_3 (SNX9_6 S o) (SNX9_5 S o).length)), some (some (RNX3_4 (SNX9_6 S o) (SNX9_5 S o).length)), none, some (some (RNX3_6 (SNX9_6 S o) (SNX9_5 S o).length))]) := ap_at hf35
  have hf41 : (SNX9_9 S o)[(SNX9_8 S o).length]? = some (9, 5, [none, some none, some none, some none, some none]) := nw_at
  have hw42 : ie_wf (SNX9_9 S o) (MNX9_2 S M o) := wf_app hw36 (by simp) hz37
  have hz43 : ie_zr (SNX9_9 S o) (MNX9_2 S M o) := zr_app hz37
  have hb44 : CBX7 (SNX9_9 S o) (MNX9_2 S M o) (SNX9_8 S o).length := cb_X7 hf41 hw42 hz43
  have len10 : (SNX9_10 S o).length = S.length + 18 := l_cal hb44.2.2.2.1 len9
  have len11 : (SNX9_11 S o).length = S.length + 18 := l_set len10
  have len12 : (SNX9_12 S o).length = S.length + 19 := l_app len11
  have hf45 : (SNX9_10 S o)[o]? = some (11, 8, [none, none, none, some (some S.length), some (some (SNX9_2 S o).length), some (some (SNX9_5 S o).length), some none, some none]) := hb44.2.2.2.2 _ _ (Nat.ne_of_lt (List.getElem?_eq_some_iff.mp hf33).1) hf38
  have hf46 : (SNX9_10 S o)[(SNX9_2 S o).length]? = some (5, 7, [none, some (some (RNX3_1 (SNX9_3 S o) (SNX9_2 S o).length)), some (some (RNX3_2 (SNX9_3 S o) (SNX9_2 S o).length)), some (some (RNX3_3 (SNX9_3 S o) (SNX9_2 S o).length)), some (some (RNX3_4 (SNX9_3 S o) (SNX9_2 S o).length)), none, some (some (RNX3_6 (SNX9_3 S o) (SNX9_2 S o).length))]) := hb44.2.2.2.2 _ _ (Nat.ne_of_lt (List.getElem?_eq_some_iff.mp hf34).1) hf39
  have hf47 : (SNX9_10 S o)[(SNX9_5 S o).length]? = some (5, 7, [none, some (some (RNX3_1 (SNX9_6 S o) (SNX9_5 S o).length)), some (some (RNX3_2 (SNX9_6 S o) (SNX9_5 S o).length)), some (some (RNX3_3 (SNX9_6 S o) (SNX9_5 S o).length)), some (some (RNX3_4 (SNX9_6 S o) (SNX9_5 S o).length)), none, some (some (RNX3_6 (SNX9_6 S o) (SNX9_5 S o).length))]) := hb44.2.2.2.2 _ _ (Nat.ne_of_lt (List.getElem?_eq_some_iff.mp hf35).1) hf40
  have hf48 : (SNX9_10 S o)[(SNX9_8 S o).length]? = some (9, 5, [none, some (some (RNX7_1 (SNX9_9 S o) (SNX9_8 S o).length)), some (some (RNX7_2 (SNX9_9 S o) (SNX9_8 S o).length)), some (some (RNX7_3 (SNX9_9 S o) (SNX9_8 S o).length)), some (some (RNX7_4 (SNX9_9 S o) (SNX9_8 S o).length))]) := hb44.1
  have hw49 : ie_wf (SNX9_10 S o) (MNX9_3 S M o) := hb44.2.1
  have hz50 : ie_zr (SNX9_10 S o) (MNX9_3 S M o) := hb44.2.2.1
  have hf51 : (SNX9_11 S o)[o]? = some (11, 8, [none, none, none, some (some S.length), some (some (SNX9_2 S o).length), some (some (SNX9_5 S o).length), some (some (SNX9_8 S o).length), some none]) := st_at hf45
  have hf52 : (SNX9_11 S o)[(SNX9_2 S o).length]? = some (5, 7, [none, some (some (RNX3_1 (SNX9_3 S o) (SNX9_2 S o).length)), some (some (RNX3_2 (SNX9_3 S o) (SNX9_2 S o).length)), some (some (RNX3_3 (SNX9_3 S o) (SNX9_2 S o).length)), some (some (RNX3_4 (SNX9_3 S o) (SNX9_2 S o).length)), none, some (some (RNX3_6 (SNX9_3 S o) (SNX9_2 S o).length))]) := st_at' hf46 (Nat.ne_of_lt (List.getElem?_eq_some_iff.mp hf5).1)
  have hf53 : (SNX9_11 S o)[(SNX9_5 S o).length]? = some (5, 7, [none, some (some (RNX3_1 (SNX9_6 S o) (SNX9_5 S o).length)), some (some (RNX3_2 (SNX9_6 S o) (SNX9_5 S o).length)), some (some (RNX3_3 (SNX9_6 S o) (SNX9_5 S o).length)), some (some (RNX3_4 (SNX9_6 S o) (SNX9_5 S o).length)), none, some (some (RNX3_6 (SNX9_6 S o) (SNX9_5 S o).length))]) := st_at' hf47 (Nat.ne_of_lt (List.getElem?_eq_some_iff.mp hf18).1)
  have hf54 : (SNX9_11 S o)[(SNX9_8 S o).length]? = some (9, 5, [none, some (some (RNX7_1 (SNX9_9 S o) (SNX9_8 S o).length)), some (some (RNX7_2 (SNX9_9 S o) (SNX9_8 S o).length)), some (some (RNX7_3 (SNX9_9 S o) (SNX9_8 S o).length)), some (some (RNX7_4 (SNX9_9 S o) (SNX9_8 S o).length))]) := st_at' hf48 (Nat.ne_of_lt (List.getElem?_eq_some_iff.mp hf33).1)
  have hw55 : ie_wf (SNX9_11 S o) (MNX9_3 S M o) := by have zz := wf_set (i := 6) (r := (SNX9_8 S o).length) hw49 hf45 ((List.getElem?_eq_some_iff.mp hf48).1); exact zz
  have hz56 : ie_zr (SNX9_11 S o) (MNX9_3 S M o) := zr_set hz50
  have hf57 : (SNX9_12 S o)[o]? = some (11, 8, [none, none, none, some (some S.length), some (some (SNX9_2 S o).length), some (some (SNX9_5 S o).length), some (some (SNX9_8 S o).length), some none]) := ap_at hf51
  have hf58 : (SNX9_12 S o)[(SNX9_2 S o).length]? = some (5, 7, [none, some (some (RNX3_1 (SNX9_3 S o) (SNX9_2 S o).length)), some (some (RNX3_2 (SNX9_3 S o) (SNX9_2 S o).length)), some (some (RNX3_3 (SNX9_3 S o) (SNX9_2 S o).length)), some (some (RNX3_4 (SNX9_3 S o) (SNX9_2 S o).length)), none, some (some (RNX3_6 (SNX9_3 S o) (SNX9_2 S o).length))]) := ap_at hf52
  have hf59 : (SNX9_12 S o)[(SNX9_5 S o).length]? = some (5, 7, [none, some (some (RNX3_1 (SNX9_6 S o) (SNX9_5 S o).length)), some (some (RNX3_2 (SNX9_6 S o) (SNX9_5 S o).length)), some (some (RNX3_3 (SNX9_6 S o) (SNX9_5 S o).length)), some (some (RNX3_4 (SNX9_6 S o) (SNX9_5 S o).length)), none, some (some (RNX3_6 (SNX9_6 S o) (SNX9_5 S o).length))]) := ap_at hf53
  have hf60 : (SNX9_12 S o)[(SNX9_8 S o).length]? = some (9, 5, [none, some (some (RNX7_1 (SNX9_9 S o) (SNX9_8 S o).length)), some (some (RNX7_2 (SNX9_9 S o) (SNX9_8 S o).length)), some (some (RNX7_3 (SNX9_9 S o) (SNX9_8 S o).length)), some (some (RNX7_4 (SNX9_9 S o) (SNX9_8 S o).length))]) := ap_at hf54
  have hf61 : (SNX9_12 S o)[(SNX9_11 S o).length]? = some (10, 5, [none, some none, some none, some none, some none]) := nw_at
  have hw62 : ie_wf (SNX9_12 S o) (MNX9_3 S M o) := wf_app hw55 (by simp) hz56
  have hz63 : ie_zr (SNX9_12 S o) (MNX9_3 S M o) := zr_app hz56
  have hb64 : CBX8 (SNX9_12 S o) (MNX9_3 S M o) (SNX9_11 S o).length := cb_X8 hf61 hw62 hz63
  have len13 : (SNX9_13 S o).length = S.length + 23 := l_cal hb64.2.2.2.1 len12
  have len14 : (SNX9_14 S o).length = S.length + 23 := l_set len13
  have hf65 : (SNX9_13 S o)[o]? = some (11, 8, [none, none, none, some (some S.length), some (some (SNX9_2 S o).length), some (some (SNX9_5 S o).length), some (some (SNX9_8 S o).length), some none]) := hb64.2.2.2.2 _ _ (Nat.ne_of_lt (List.getElem?_eq_some_iff.mp hf51).1) hf57
  have hf66 : (SNX9_13 S o)[(SNX9_2 S o).length]? = some (5, 7, [none, some (some (RNX3_1 (SNX9_3 S o) (SNX9_2 S o).length)), some (some (RNX3_2 (SNX9_3 S o) (SNX9_2 S o).length)), some (some (RNX3_3 (SNX9_3 S o) (SNX9_2 S o).length)), some (some (RNX3_4 (SNX9_3 S o) (SNX9_2 S o).length)), none, some (some (RNX3_6 (SNX9_3 S o) (SNX9_2 S o).length))]) := hb64.2.2.2.2 _ _ (Nat.ne_of_lt (List.getElem?_eq_some_iff.mp hf52).1) hf58
  have hf67 : (SNX9_13 S o)[(SNX9_5 S o).length]? = some (5, 7, [none, some (some (RNX3_1 (SNX9_6 S o) (SNX9_5 S o).length)), some (some (RNX3_2 (SNX9_6 S o) (SNX9_5 S o).length)), some (some (RNX3_3 (SNX9_6 S o) (SNX9_5 S o).length)), some (some (RNX3_4 (SNX9_6 S o) (SNX9_5 S o).length)), none, some (some (RNX3_6 (SNX9_6 S o) (SNX9_5 S o).length))]) := hb64.2.2.2.2 _ _ (Nat.ne_of_lt (List.getElem?_eq_some_iff.mp hf53).1) hf59
  have hf68 : (SNX9_13 S o)[(SNX9_8 S o).length]? = some (9, 5, [none, some (some (RNX7_1 (SNX9_9 S o) (SNX9_8 S o).length)), some (some (RNX7_2 (SNX9_9 S o) (SNX9_8 S o).length)), some (some (RNX7_3 (SNX9_9 S o) (SNX9_8 S o).length)), some (some (RNX7_4 (SNX9_9 S o) (SNX9_8 S o).length))]) := hb64.2.2.2.2 _ _ (Nat.ne_of_lt (List.getElem?_eq_some_iff.mp hf54).1) hf60
  have hf69 : (SNX9_13 S o)[(SNX9_11 S o).length]? = some (10, 5, [none, some (some (RNX8_1 (SNX9_12 S o) (SNX9_11 S o).length)), some (some (RNX8_2 (SNX9_12 S o) (SNX9_11 S o).length)), some (some (RNX8_3 (SNX9_12 S o) (SNX9_11 S o).length)), some (some (RNX8_4 (SNX9_12 S o) (SNX9_11 S o).length))]) := hb64.1
  have hw70 : ie_wf (SNX9_13 S o) (MNX9_4 S M o) := hb64.2.1
  have hz71 : ie_zr (SNX9_13 S o) (MNX9_4 S M o) := hb64.2.2.1
  have hf72 : (SNX9_14 S o)[o]? = some (11, 8, [none, none, none, some (some S.length), some (some (SNX9_2 S o).length), some (some (SNX9_5 S o).length), some (some (SNX9_8 S o).length), some (some (SNX9_11 S o).length)]) := st_at hf65
  have hf73 : (SNX9_14 S o)[(SNX9_2 S o).length]? = some (5, 7, [none, some (some (RNX3_1 (SNX9_3 S o) (SNX9_2 S o).length)), some (some (RNX3_2 (SNX9_3 S o) (SNX9_2 S o).length)), some (some (RNX3_3 (SNX9_3 S o) (SNX9_2 S o).length)), some (some (RNX3_4 (SNX9_3 S o) (SNX9_2 S o).length)), none, some (some (RNX3_6 (SNX9_3 S o) (SNX9_2 S o).length))]) := st_at' hf66 (Nat.ne_of_lt (List.getElem?_eq_some_iff.mp hf5).1)
  have hf74 : (SNX9_14 S o)[(SNX9_5 S o).length]? = some (5, 7, [none, some (some (RNX3_1 (SNX9_6 S o) (SNX9_5 S o).length)), some (some (RNX3_2 (SNX9_6 S o) (SNX9_5 S o).length)), some (some (RNX3_3 (SNX9_6 S o) (SNX9_5 S o).length)), some (some (RNX3_4 (SNX9_6 S o) (SNX9_5 S o).length)), none, some (some (RNX3_6 (SNX9_6 S o) (SNX9_5 S o).length))]) := st_at' hf67 (Nat.ne_of_lt (List.getElem?_eq_some_iff.mp hf18).1)
  have hf75 : (SNX9_14 S o)[(SNX9_8 S o).length]? = some (9, 5, [none, some (some (RNX7_1 (SNX9_9 S o) (SNX9_8 S o).length)), some (some (RNX7_2 (SNX9_9 S o) (SNX9_8 S o).length)), some (some (RNX7_3 (SNX9_9 S o) (SNX9_8 S o).length)), some (some (RNX7_4 (SNX9_9 S o) (SNX9_8 S o).length))]) := st_at' hf68 (Nat.ne_of_lt (List.getElem?_eq_some_iff.mp hf33).1)
  have hf76 : (SNX9_14 S o)[(SNX9_11 S o).length]? = some (10, 5, [none, some (some (RNX8_1 (SNX9_12 S o) (SNX9_11 S o).length)), some (some (RNX8_2 (SNX9_12 S o) (SNX9_11 S o).length)), some (some (RNX8_3 (SNX9_12 S o) (SNX9_11 S o).length)), some (some (RNX8_4 (SNX9_12 S o) (SNX9_11 S o).length))]) := st_at' hf69 (Nat.ne_of_lt (List.getElem?_eq_some_iff.mp hf51).1)
  have hw77 : ie_wf (SNX9_14 S o) (MNX9_4 S M o) := by have zz := wf_set (i := 7) (r := (SNX9_11 S o).length) hw70 hf65 ((List.getElem?_eq_some_iff.mp hf69).1); exact zz
  have hz78 : ie_zr (SNX9_14 S o) (MNX9_4 S M o) := zr_set hz71
  exact ⟨hf72, hw77, hz78, len14, fun p x hp h => (st_at' (hb64.2.2.2.2 _ _ (fun e => absurd (List.getElem?_eq_some_iff.mp h).1 (nlt_len len11 e)) (ap_at (st_at' (hb44.2.2.2.2 _ _ (fun e => absurd (List.getElem?_eq_some_iff.mp h).1 (nlt_len len8 e)) (ap_at (st_at' (hb27.2.2.2.2 _ _ (fun e => absurd (List.getElem?_eq_some_iff.mp h).1 (nlt_len len5 e)) (ap_at (st_at' (hb13.2.2.2.2 _ _ (fun e => absurd (List.getElem?_eq_some_iff.mp h).1 (nlt_len len2 e)) (ap_at (st_at' (ap_at h) (fun e => hp e.symm)))) (fun e => hp e.symm)))) (fun e => hp e.symm)))) (fun e => hp e.symm)))) (fun e => hp e.symm))⟩
set_option maxRecDepth 100000 in
set_option maxHeartbeats 8000000 in
theorem tc_X9 {g : IG} {a : Nat → Nat} {S : List IK} {M : IM} {o : Nat} (ho : S[o]? = some (11, 8, [none, none, none, some none, some none, some none, some none, some none])) (hwf : ie_wf S M) (hz : ie_zr S M) : Cn g mX9_init 2 23 1100 (qC (SNX9 S o) (MNX9 S M o) S.length a) [.ref (a o)] a S M := by
  refine Cn_of (L := [some (.ref (a o))]) mf_X9_init (cat_r cat_0) (Nat.le_of_ble_eq_true rfl) rfl ?_
  have len1 : (SNX9_1 S o).length = S.length + 1 := l_app rfl
  have len2 : (SNX9_2 S o).length = S.length + 1 := l_set len1
  have len3 : (SNX9_3 S o).length = S.length + 2 := l_app len2
  refine V_aload_n rfl dX9_init_0 rfl rfl ?_
  refine V_obj rfl dX9_init_1 ⟨w_251, w_166, w_167⟩ rfl ?_
  refine V_aload_n rfl dX9_init_4 rfl rfl ?_
  refine V_bipush (v := 64) rfl dX9_init_5 kb_64 ?_
  refine V_newa (n := 64) (fun a => [some (.ref (a o))]) (fun a => [.ref (a o)]) rfl dX9_init_7 w_245 (by decide +kernel) hwf hz ⟨rfl, rfl⟩ (fun a' h => ⟨by first | rfl | simp only [h _ ((List.getElem?_eq_some_iff.mp ho).1)], by first | rfl | simp only [h _ ((List.getElem?_eq_some_iff.mp ho).1)]⟩) (fun a1 hg0 => ?_)
  have hf1 : (SNX9_1 S o)[o]? = some (11, 8, [none, none, none, some none, some none, some none, some none, some none]) := ap_at ho
  have hf2 : (SNX9_1 S o)[S.length]? = some (0, 64, []) := nw_at
  have hw3 : ie_wf (SNX9_1 S o) M := wf_app hwf (by simp) hz
  have hz4 : ie_zr (SNX9_1 S o) M := zr_app hz
  show V _ _ _ _ _ _ _ _ _ _ (SNX9_1 S o) M _ _
  refine V_putr (k0 := 3) (ty := (.array .int)) (r := S.length) rfl dX9_init_9 hf1 icX9 tyX9_ok nmX9 (by decide) (Nat.le_of_ble_eq_true rfl) w_348 rfl rfl rfl (tyX9_ok _ (by decide)) rfl rfl ?_
  have hf5 : (SNX9_2 S o)[o]? = some (11, 8, [none, none, none, some (some S.length), some none, some none, some none, some none]) := st_at hf1
  have hf6 : (SNX9_2 S o)[S.length]? = some (0, 64, []) := st_at' hf2 (Nat.ne_of_lt (List.getElem?_eq_some_iff.mp ho).1)
  have hw7 : ie_wf (SNX9_2 S o) M := by have zz := wf_set (i := 3) (r := S.length) hw3 hf1 ((List.getElem?_eq_some_iff.mp hf2).1); exact zz
  have hz8 : ie_zr (SNX9_2 S o) M := zr_set hz4
  show V _ _ _ _ _ _ _ _ _ _ (SNX9_2 S o) M _ _
  refine V_aload_n rfl dX9_init_12 rfl rfl ?_
  refine V_new (fun a => [some (.ref (a o))]) (fun a => [.ref (a o)]) rfl dX9_init_13 icX3 rfl tyX3_ok ⟨w_252, w_253, w_142⟩ (fs := [none, some none, some none, some none, some none, none, some none]) (by decide +kernel) (by simp) hw7 hz8 ⟨rfl, rfl⟩ (fun a' h => ⟨by first | rfl | simp only [h _ ((List.getElem?_eq_some_iff.mp hf5).1)], by first | rfl | simp only [h _ ((List.getElem?_eq_some_iff.mp hf5).1)]⟩) (fun a11 hg1 => ?_)
  have hf9 : (SNX9_3 S o)[o]? = some (11, 8, [none, none, none, some (some S.length), some none, some none, some none, some none]) := ap_at hf5
  have hf10 : (SNX9_3 S o)[(SNX9_2 S o).length]? = some (5, 7, [none, some none, some none, some none, some none, none, some none]) := nw_at
  have hw11 : ie_wf (SNX9_3 S o) M := wf_app hw7 (by simp) hz8
  have hz12 : ie_zr (SNX9_3 S o) M := zr_app hz8
  show V _ _ _ _ _ _ _ _ _ _ (SNX9_3 S o) M _ _
  refine V_dup rfl dX9_init_16 rfl ?_
  refine V_inin (mc' := 5) (ns' := 464) (d' := 1) (As := []) (S' := (SNX3 (SNX9_3 S o) (SNX9_2 S o).length)) (M' := (MNX3 (SNX9_3 S o) M (SNX9_2 S o).length)) (fun a => [some (.ref (a o))]) (fun a => [.ref (a (SNX9_2 S o).length), .ref (a o)]) rfl dX9_init_17 mf_X3_init rfl rfl w_255 w_254 (by decide) ⟨rfl, rfl⟩ rfl rfl rfl (fun a' h => ⟨by first | rfl | simp only [h _ ((List.getElem?_eq_some_iff.mp hf10).1), h _ ((List.getElem?_eq_some_iff.mp hf9).1)], by first | rfl | simp only [h _ ((List.getElem?_eq_some_iff.mp hf10).1), h _ ((List.getElem?_eq_some_iff.mp hf9).1)]⟩) (tc_X3 hf10 hw11 hz12) (fun a111 hg2 => ?_)
  have hb13 : CBX3 (SNX9_3 S o) M (SNX9_2 S o).length := cb_X3 hf10 hw11 hz12
  have len4 : (SNX9_4 S o).length = S.length + 7 := l_cal hb13.2.2.2.1 len3
  have len5 : (SNX9_5 S o).length = S.length + 7 := l_set len4
  have len6 : (SNX9_6 S o).length = S.length + 8 := l_app len5
  have hf14 : (SNX9_4 S o)[o]? = some (11, 8, [none, none, none, some (some S.length), some none, some none, some none, some none]) := hb13.2.2.2.2 _ _ (Nat.ne_of_lt (List.getElem?_eq_some_iff.mp hf5).1) hf9
  have hf15 : (SNX9_4 S o)[(SNX9_2 S o).length]? = some (5, 7, [none, some (some (RNX3_1 (SNX9_3 S o) (SNX9_2 S o).length)), some (some (RNX3_2 (SNX9_3 S o) (SNX9_2 S o).length)), some (some (RNX3_3 (SNX9_3 S o) (SNX9_2 S o).length)), some (some (RNX3_4 (SNX9_3 S o) (SNX9_2 S o).length)), none, some (some (RNX3_6 (SNX9_3 S o) (SNX9_2 S o).length))]) := hb13.1
  have hw16 : ie_wf (SNX9_4 S o) (MNX9_1 S M o) := hb13.2.1
  have hz17 : ie_zr (SNX9_4 S o) (MNX9_1 S M o) := hb13.2.2.1
  show V _ _ _ _ _ _ _ _ _ _ (SNX9_4 S o) (MNX9_1 S M o) _ _
  refine V_putr (k0 := 4) (ty := (.object "NeverHalted$Law")) (r := (SNX9_2 S o).length) rfl dX9_init_20 hf14 icX9 tyX9_ok nmX9 (by decide) (Nat.le_of_ble_eq_true rfl) w_350 rfl rfl rfl (tyX9_ok _ (by decide)) rfl rfl ?_
  have hf18 : (SNX9_5 S o)[o]? = some (11, 8, [none, none, none, some (some S.length), some (some (SNX9_2 S o).length), some none, some none, some none]) := st_at hf14
  have hf19 : (SNX9_5 S o)[(SNX9_2 S o).length]? = some (5, 7, [none, some (some (RNX3_1 (SNX9_3 S o) (SNX9_2 S o).length)), some (some (RNX3_2 (SNX9_3 S o) (SNX9_2 S o).length)), some (some (RNX3_3 (SNX9_3 S o) (SNX9_2 S o).length)), some (some (RNX3_4 (SNX9_3 S o) (SNX9_2 S o).length)), none, some (some (RNX3_6 (SNX9_3 S o) (SNX9_2 S o).length))]) := st_at' hf15 (Nat.ne_of_lt (List.getElem?_eq_some_iff.mp hf5).1)
  have hw20 : ie_wf (SNX9_5 S o) (MNX9_1 S M o) := by have zz := wf_set (i := 4) (r := (SNX9_2 S o).length) hw16 hf14 ((List.getElem?_eq_some_iff.mp hf15).1); exact zz
  have hz21 : ie_zr (SNX9_5 S o) (MNX9_1 S M o) := zr_set hz17
  show V _ _ _ _ _ _ _ _ _ _ (SNX9_5 S o) (MNX9_1 S M o) _ _
  refine V_aload_n rfl dX9_init_23 rfl rfl ?_
  refine V_new (fun a => [some (.ref (a o))]) (fun a => [.ref (a o)]) rfl dX9_init_24 icX3 rfl tyX3_ok ⟨w_252, w_253, w_142⟩ (fs := [none, some none, some none, some none, some none, none, some none]) (by decide +kernel) (by simp) hw20 hz21 ⟨rfl, rfl⟩ (fun a' h => ⟨by first | rfl | simp only [h _ ((List.getElem?_eq_some_iff.mp hf18).1)], by first | rfl | simp only [h _ ((List.getElem?_eq_some_iff.mp hf18).1)]⟩) (fun a1111 hg3 => ?_)
  have hf22 : (SNX9_6 S o)[o]? = some (11, 8, [none, none, none, some (some S.length), some (some (SNX9_2 S o).length), some none, some none, some none]) := ap_at hf18
  have hf23 : (SNX9_6 S o)[(SNX9_2 S o).length]? = some (5, 7, [none, some (some (RNX3_1 (SNX9_3 S o) (SNX9_2 S o).length)), some (some (RNX3_2 (SNX9_3 S o) (SNX9_2 S o).length)), some (some (RNX3_3 (SNX9_3 S o) (SNX9_2 S o).length)), some (some (RNX3_4 (SNX9_3 S o) (SNX9_2 S o).length)), none, some (some (RNX3_6 (SNX9_3 S o) (SNX9_2 S o).length))]) := ap_at hf19
  have hf24 : (SNX9_6 S o)[(SNX9_5 S o).length]? = some (5, 7, [none, some none, some none, some none, some none, none, some none]) := nw_at
  have hw25 : ie_wf (SNX9_6 S o) (MNX9_1 S M o) := wf_app hw20 (by simp) hz21
  have hz26 : ie_zr (SNX9_6 S o) (MNX9_1 S M o) := zr_app hz21
  show V _ _ _ _ _ _ _ _ _ _ (SNX9_6 S o) (MNX9_1 S M o) _ _
  refine V_dup rfl dX9_init_27 rfl ?_
  refine V_inin (mc' := 5) (ns' := 464) (d' := 1) (As := []) (S' := (SNX3 (SNX9_6 S o) (SNX9_5 S o).length)) (M' := (MNX3 (SNX9_6 S o) (MNX9_1 S M o) (SNX9_5 S o).length)) (fun a => [some (.ref (a o))]) (fun a => [.ref (a (SNX9_5 S o).length), .ref (a o)]) rfl dX9_init_28 mf_X3_init rfl rfl w_255 w_254 (by decide) ⟨rfl, rfl⟩ rfl rfl rfl (fun a' h => ⟨by first | rfl | simp only [h _ ((List.getElem?_eq_some_iff.mp hf24).1), h _ ((List.getElem?_eq_some_iff.mp hf22).1)], by first | rfl | simp only [h _ ((List.getElem?_eq_some_iff.mp hf24).1), h _ ((List.getElem?_eq_some_iff.mp hf22).1)]⟩) (tc_X3 hf24 hw25 hz26) (fun a11111 hg4 => ?_)
  have hb27 : CBX3 (SNX9_6 S o) (MNX9_1 S M o) (SNX9_5 S o).length := cb_X3 hf24 hw25 hz26
  have len7 : (SNX9_7 S o).length = S.length + 13 := l_cal hb27.2.2.2.1 len6
  have len8 : (SNX9_8 S o).length = S.length + 13 := l_set len7
  have len9 : (SNX9_9 S o).length = S.length + 14 := l_app len8
  have hf28 : (SNX9_7 S o)[o]? = some (11, 8, [none, none, none, some (some S.length), some (some (SNX9_2 S o).length), some none, some none, some none]) := hb27.2.2.2.2 _ _ (Nat.ne_of_lt (List.getElem?_eq_some_iff.mp hf18).1) hf22
  have hf29 : (SNX9_7 S o)[(SNX9_2 S o).length]? = some (5, 7, [none, some (some (RNX3_1 (SNX9_3 S o) (SNX9_2 S o).length)), some (some (RNX3_2 (SNX9_3 S o) (SNX9_2 S o).length)), some (some (RNX3_3 (SNX9_3 S o) (SNX9_2 S o).length)), some (some (RNX3_4 (SNX9_3 S o) (SNX9_2 S o).length)), none, some (some (RNX3_6 (SNX9_3 S o) (SNX9_2 S o).length))]) := hb27.2.2.2.2 _ _ (Nat.ne_of_lt (List.getElem?_eq_some_iff.mp hf19).1) hf23
  have hf30 : (SNX9_7 S o)[(SNX9_5 S o).length]? = some (5, 7, [none, some (some (RNX3_1 (SNX9_6 S o) (SNX9_5 S o).length)), some (some (RNX3_2 (SNX9_6 S o) (SNX9_5 S o).length)), some (some (RNX3_3 (SNX9_6 S o) (SNX9_5 S o).length)), some (some (RNX3_4 (SNX9_6 S o) (SNX9_5 S o).length)), none, some (some (RNX3_6 (SNX9_6 S o) (SNX9_5 S o).length))]) := hb27.1
  have hw31 : ie_wf (SNX9_7 S o) (MNX9_2 S M o) := hb27.2.1
  have hz32 : ie_zr (SNX9_7 S o) (MNX9_2 S M o) := hb27.2.2.1
  show V _ _ _ _ _ _ _ _ _ _ (SNX9_7 S o) (MNX9_2 S M o) _ _
  refine V_putr (k0 := 5) (ty := (.object "NeverHalted$Law")) (r := (SNX9_5 S o).length) rfl dX9_init_31 hf28 icX9 tyX9_ok nmX9 (by decide) (Nat.le_of_ble_eq_true rfl) w_352 rfl rfl rfl (tyX9_ok _ (by decide)) rfl rfl ?_
  have hf33 : (SNX9_8 S o)[o]? = some (11, 8, [none, none, none, some (some S.length), some (some (SNX9_2 S o).length), some (some (SNX9_5 S o).length), some none, some none]) := st_at hf28
  have hf34 : (SNX9_8 S o)[(SNX9_2 S o).length]? = some (5, 7, [none, some (some (RNX3_1 (SNX9_3 S o) (SNX9_2 S o).length)), some (some (RNX3_2 (SNX9_3 S o) (SNX9_2 S o).length)), some (some (RNX3_3 (SNX9_3 S o) (SNX9_2 S o).length)), some (some (RNX3_4 (SNX9_3 S o) (SNX9_2 S o).length)), none, some (some (RNX3_6 (SNX9_3 S o) (SNX9_2 S o).length))]) := st_at' hf29 (Nat.ne_of_lt (List.getElem?_eq_some_iff.mp hf5).1)
  have hf35 : (SNX9_8 S o)[(SNX9_5 S o).length]? = some (5, 7, [none, some (some (RNX3_1 (SNX9_6 S o) (SNX9_5 S o).length)), some (some (RNX3_2 (SNX9_6 S o) (SNX9_5 S o).length)), some (some (RNX3_3 (SNX9_6 S o) (SNX9_5 S o).length)), some (some (RNX3_4 (SNX9_6 S o) (SNX9_5 S o).length)), none, some (some (RNX3_6 (SNX9_6 S o) (SNX9_5 S o).length))]) := st_at' hf30 (Nat.ne_of_lt (List.getElem?_eq_some_iff.mp hf18).1)
  have hw36 : ie_wf (SNX9_8 S o) (MNX9_2 S M o) := by have zz := wf_set (i := 5) (r := (SNX9_5 S o).length) hw31 hf28 ((List.getElem?_eq_some_iff.mp hf30).1); exact zz
  have hz37 : ie_zr (SNX9_8 S o) (MNX9_2 S M o) := zr_set hz32
  show V _ _ _ _ _ _ _ _ _ _ (SNX9_8 S o) (MNX9_2 S M o) _ _
  refine V_aload_n rfl dX9_init_34 rfl rfl ?_
  refine V_new (fun a => [some (.ref (a o))]) (fun a => [.ref (a o)]) rfl dX9_init_35 icX7 rfl tyX7_ok ⟨w_288, w_289, w_143⟩ (fs := [none, some none, some none, some none, some none]) (by decide +kernel) (by simp) hw36 hz37 ⟨rfl, rfl⟩ (fun a' h => ⟨by first | rfl | simp only [h _ ((List.getElem?_eq_some_iff.mp hf33).1)], by first | rfl | simp only [h _ ((List.getElem?_eq_some_iff.mp hf33).1)]⟩) (fun a111111 hg5 => ?_)
  have hf38 : (SNX9_9 S o)[o]? = some (11, 8, [none, none, none, some (some S.length), some (some (SNX9_2 S o).length), some (some (SNX9_5 S o).length), some none, some none]) := ap_at hf33
  have hf39 : (SNX9_9 S o)[(SNX9_2 S o).length]? = some (5, 7, [none, some (some (RNX3_1 (SNX9_3 S o) (SNX9_2 S o).length)), some (some (RNX3_2 (SNX9_3 S o) (SNX9_2 S o).length)), some (some (RNX3_3 (SNX9_3 S o) (SNX9_2 S o).length)), some (some (RNX3_4 (SNX9_3 S o) (SNX9_2 S o).length)), none, some (some (RNX3_6 (SNX9_3 S o) (SNX9_2 S o).length))]) := ap_at hf34
  have hf40 : (SNX9_9 S o)[(SNX9_5 S o).length]? = some (5, 7, [none, some (some (RNX3_1 (SNX9_6 S o) (SNX9_5 S o).length)), some (some (RNX3_2 (SNX9_6 S o) (SNX9_5 S o).length)), some (some (RNX3_3 (SNX9_6 S o) (SNX9_5 S o).length)), some (some (RNX3_4 (SNX9_6 S o) (SNX9_5 S o).length)), none, some (some (RNX3_6 (SNX9_6 S o) (SNX9_5 S o).length))]) := ap_at hf35
  have hf41 : (SNX9_9 S o)[(SNX9_8 S o).length]? = some (9, 5, [none, some none, some none, some none, some none]) := nw_at
  have hw42 : ie_wf (SNX9_9 S o) (MNX9_2 S M o) := wf_app hw36 (by simp) hz37
  have hz43 : ie_zr (SNX9_9 S o) (MNX9_2 S M o) := zr_app hz37
  show V _ _ _ _ _ _ _ _ _ _ (SNX9_9 S o) (MNX9_2 S M o) _ _
  refine V_dup rfl dX9_init_38 rfl ?_
  refine V_inin (mc' := 4) (ns' := 32) (d' := 1) (As := []) (S' := (SNX7 (SNX9_9 S o) (SNX9_8 S o).length)) (M' := (MNX7 (SNX9_9 S o) (MNX9_2 S M o) (SNX9_8 S o).length)) (fun a => [some (.ref (a o))]) (fun a => [.ref (a (SNX9_8 S o).length), .ref (a o)]) rfl dX9_init_39 mf_X7_init rfl rfl w_291 w_290 (by decide) ⟨rfl, rfl⟩ rfl rfl rfl (fun a' h => ⟨by first | rfl | simp only [h _ ((List.getElem?_eq_some_iff.mp hf41).1), h _ ((List.getElem?_eq_some_iff.mp hf38).1)], by first | rfl | simp only [h _ ((List.getElem?_eq_some_iff.mp hf41).1), h _ ((List.getElem?_eq_some_iff.mp hf38).1)]⟩) (tc_X7 hf41 hw42 hz43) (fun a1111111 hg6 => ?_)
  have hb44 : CBX7 (SNX9_9 S o) (MNX9_2 S M o) (SNX9_8 S o).length := cb_X7 hf41 hw42 hz43
  have len10 : (SNX9_10 S o).length = S.length + 18 := l_cal hb44.2.2.2.1 len9
  have len11 : (SNX9_11 S o).length = S.length + 18 := l_set len10
  have len12 : (SNX9_12 S o).length = S.length + 19 := l_app len11
  have hf45 : (SNX9_10 S o)[o]? = some (11, 8, [none, none, none, some (some S.length), some (some (SNX9_2 S o).length), some (some (SNX9_5 S o).length), some none, some none]) := hb44.2.2.2.2 _ _ (Nat.ne_of_lt (List.getElem?_eq_some_iff.mp hf33).1) hf38
  have hf46 : (SNX9_10 S o)[(SNX9_2 S o).length]? = some (5, 7, [none, some (some (RNX3_1 (SNX9_3 S o) (SNX9_2 S o).length)), some (some (RNX3_2 (SNX9_3 S o) (SNX9_2 S o).length)), some (some (RNX3_3 (SNX9_3 S o) (SNX9_2 S o).length)), some (some (RNX3_4 (SNX9_3 S o) (SNX9_2 S o).length)), none, some (some (RNX3_6 (SNX9_3 S o) (SNX9_2 S o).length))]) := hb44.2.2.2.2 _ _ (Nat.ne_of_lt (List.getElem?_eq_some_iff.mp hf34).1) hf39
  have hf47 : (SNX9_10 S o)[(SNX9_5 S o).length]? = some (5, 7, [none, some (some (RNX3_1 (SNX9_6 S o) (SNX9_5 S o).length)), some (some (RNX3_2 (SNX9_6 S o) (SNX9_5 S o).length)), some (some (RNX3_3 (SNX9_6 S o) (SNX9_5 S o).length)), some (some (RNX3_4 (SNX9_6 S o) (SNX9_5 S o).length)), none, some (some (RNX3_6 (SNX9_6 S o) (SNX9_5 S o).length))]) := hb44.2.2.2.2 _ _ (Nat.ne_of_lt (List.getElem?_eq_some_iff.mp hf35).1) hf40
  have hf48 : (SNX9_10 S o)[(SNX9_8 S o).length]? = some (9, 5, [none, some (some (RNX7_1 (SNX9_9 S o) (SNX9_8 S o).length)), some (some (RNX7_2 (SNX9_9 S o) (SNX9_8 S o).length)), some (some (RNX7_3 (SNX9_9 S o) (SNX9_8 S o).length)), some (some (RNX7_4 (SNX9_9 S o) (SNX9_8 S o).length))]) := hb44.1
  have hw49 : ie_wf (SNX9_10 S o) (MNX9_3 S M o) := hb44.2.1
  have hz50 : ie_zr (SNX9_10 S o) (MNX9_3 S M o) := hb44.2.2.1
  show V _ _ _ _ _ _ _ _ _ _ (SNX9_10 S o) (MNX9_3 S M o) _ _
  refine V_putr (k0 := 6) (ty := (.object "NeverHalted$Round")) (r := (SNX9_8 S o).length) rfl dX9_init_42 hf45 icX9 tyX9_ok nmX9 (by decide) (Nat.le_of_ble_eq_true rfl) w_354 rfl rfl rfl (tyX9_ok _ (by decide)) rfl rfl ?_
  have hf51 : (SNX9_11 S o)[o]? = some (11, 8, [none, none, none, some (some S.length), some (some (SNX9_2 S o).length), some (some (SNX9_5 S o).length), some (some (SNX9_8 S o).length), some none]) := st_at hf45
  have hf52 : (SNX9_11 S o)[(SNX9_2 S o).length]? = some (5, 7, [none, some (some (RNX3_1 (SNX9_3 S o) (SNX9_2 S o).length)), some (some (RNX3_2 (SNX9_3 S o) (SNX9_2 S o).length)), some (some (RNX3_3 (SNX9_3 S o) (SNX9_2 S o).length)), some (some (RNX3_4 (SNX9_3 S o) (SNX9_2 S o).length)), none, some (some (RNX3_6 (SNX9_3 S o) (SNX9_2 S o).length))]) := st_at' hf46 (Nat.ne_of_lt (List.getElem?_eq_some_iff.mp hf5).1)
  have hf53 : (SNX9_11 S o)[(SNX9_5 S o).length]? = some (5, 7, [none, some (some (RNX3_1 (SNX9_6 S o) (SNX9_5 S o).length)), some (some (RNX3_2 (SNX9_6 S o) (SNX9_5 S o).length)), some (some (RNX3_3 (SNX9_6 S o) (SNX9_5 S o).length)), some (some (RNX3_4 (SNX9_6 S o) (SNX9_5 S o).length)), none, some (some (RNX3_6 (SNX9_6 S o) (SNX9_5 S o).length))]) := st_at' hf47 (Nat.ne_of_lt (List.getElem?_eq_some_iff.mp hf18).1)
  have hf54 : (SNX9_11 S o)[(SNX9_8 S o).length]? = some (9, 5, [none, some (some (RNX7_1 (SNX9_9 S o) (SNX9_8 S o).length)), some (some (RNX7_2 (SNX9_9 S o) (SNX9_8 S o).length)), some (some (RNX7_3 (SNX9_9 S o) (SNX9_8 S o).length)), some (some (RNX7_4 (SNX9_9 S o) (SNX9_8 S o).length))]) := st_at' hf48 (Nat.ne_of_lt (List.getElem?_eq_some_iff.mp hf33).1)
  have hw55 : ie_wf (SNX9_11 S o) (MNX9_3 S M o) := by have zz := wf_set (i := 6) (r := (SNX9_8 S o).length) hw49 hf45 ((List.getElem?_eq_some_iff.mp hf48).1); exact zz
  have hz56 : ie_zr (SNX9_11 S o) (MNX9_3 S M o) := zr_set hz50
  show V _ _ _ _ _ _ _ _ _ _ (SNX9_11 S o) (MNX9_3 S M o) _ _
  refine V_aload_n rfl dX9_init_45 rfl rfl ?_
  refine V_new (fun a => [some (.ref (a o))]) (fun a => [.ref (a o)]) rfl dX9_init_46 icX8 rfl tyX8_ok ⟨w_318, w_319, w_144⟩ (fs := [none, some none, some none, some none, some none]) (by decide +kernel) (by simp) hw55 hz56 ⟨rfl, rfl⟩ (fun a' h => ⟨by first | rfl | simp only [h _ ((List.getElem?_eq_some_iff.mp hf51).1)], by first | rfl | simp only [h _ ((List.getElem?_eq_some_iff.mp hf51).1)]⟩) (fun a11111111 hg7 => ?_)
  have hf57 : (SNX9_12 S o)[o]? = some (11, 8, [none, none, none, some (some S.length), some (some (SNX9_2 S o).length), some (some (SNX9_5 S o).length), some (some (SNX9_8 S o).length), some none]) := ap_at hf51
  have hf58 : (SNX9_12 S o)[(SNX9_2 S o).length]? = some (5, 7, [none, some (some (RNX3_1 (SNX9_3 S o) (SNX9_2 S o).length)), some (some (RNX3_2 (SNX9_3 S o) (SNX9_2 S o).length)), some (some (RNX3_3 (SNX9_3 S o) (SNX9_2 S o).length)), some (some (RNX3_4 (SNX9_3 S o) (SNX9_2 S o).length)), none, some (some (RNX3_6 (SNX9_3 S o) (SNX9_2 S o).length))]) := ap_at hf52
  have hf59 : (SNX9_12 S o)[(SNX9_5 S o).length]? = some (5, 7, [none, some (some (RNX3_1 (SNX9_6 S o) (SNX9_5 S o).length)), some (some (RNX3_2 (SNX9_6 S o) (SNX9_5 S o).length)), some (some (RNX3_3 (SNX9_6 S o) (SNX9_5 S o).length)), some (some (RNX3_4 (SNX9_6 S o) (SNX9_5 S o).length)), none, some (some (RNX3_6 (SNX9_6 S o) (SNX9_5 S o).length))]) := ap_at hf53
  have hf60 : (SNX9_12 S o)[(SNX9_8 S o).length]? = some (9, 5, [none, some (some (RNX7_1 (SNX9_9 S o) (SNX9_8 S o).length)), some (some (RNX7_2 (SNX9_9 S o) (SNX9_8 S o).length)), some (some (RNX7_3 (SNX9_9 S o) (SNX9_8 S o).length)), some (some (RNX7_4 (SNX9_9 S o) (SNX9_8 S o).length))]) := ap_at hf54
  have hf61 : (SNX9_12 S o)[(SNX9_11 S o).length]? = some (10, 5, [none, some none, some none, some none, some none]) := nw_at
  have hw62 : ie_wf (SNX9_12 S o) (MNX9_3 S M o) := wf_app hw55 (by simp) hz56
  have hz63 : ie_zr (SNX9_12 S o) (MNX9_3 S M o) := zr_app hz56
  show V _ _ _ _ _ _ _ _ _ _ (SNX9_12 S o) (MNX9_3 S M o) _ _
  refine V_dup rfl dX9_init_49 rfl ?_
  refine V_inin (mc' := 4) (ns' := 52) (d' := 1) (As := []) (S' := (SNX8 (SNX9_12 S o) (SNX9_11 S o).length)) (M' := (MNX8 (SNX9_12 S o) (MNX9_3 S M o) (SNX9_11 S o).length)) (fun a => [some (.ref (a o))]) (fun a => [.ref (a (SNX9_11 S o).length), .ref (a o)]) rfl dX9_init_50 mf_X8_init rfl rfl w_321 w_320 (by decide) ⟨rfl, rfl⟩ rfl rfl rfl (fun a' h => ⟨by first | rfl | simp only [h _ ((List.getElem?_eq_some_iff.mp hf61).1), h _ ((List.getElem?_eq_some_iff.mp hf57).1)], by first | rfl | simp only [h _ ((List.getElem?_eq_some_iff.mp hf61).1), h _ ((List.getElem?_eq_some_iff.mp hf57).1)]⟩) (tc_X8 hf61 hw62 hz63) (fun a111111111 hg8 => ?_)
  have hb64 : CBX8 (SNX9_12 S o) (MNX9_3 S M o) (SNX9_11 S o).length := cb_X8 hf61 hw62 hz63
  have len13 : (SNX9_13 S o).length = S.length + 23 := l_cal hb64.2.2.2.1 len12
  have len14 : (SNX9_14 S o).length = S.length + 23 := l_set len13
  have hf65 : (SNX9_13 S o)[o]? = some (11, 8, [none, none, none, some (some S.length), some (some (SNX9_2 S o).length), some (some (SNX9_5 S o).length), some (some (SNX9_8 S o).length), some none]) := hb64.2.2.2.2 _ _ (Nat.ne_of_lt (List.getElem?_eq_some_iff.mp hf51).1) hf57
  have hf66 : (SNX9_13 S o)[(SNX9_2 S o).length]? = some (5, 7, [none, some (some (RNX3_1 (SNX9_3 S o) (SNX9_2 S o).length)), some (some (RNX3_2 (SNX9_3 S o) (SNX9_2 S o).length)), some (some (RNX3_3 (SNX9_3 S o) (SNX9_2 S o).length)), some (some (RNX3_4 (SNX9_3 S o) (SNX9_2 S o).length)), none, some (some (RNX3_6 (SNX9_3 S o) (SNX9_2 S o).length))]) := hb64.2.2.2.2 _ _ (Nat.ne_of_lt (List.getElem?_eq_some_iff.mp hf52).1) hf58
  have hf67 : (SNX9_13 S o)[(SNX9_5 S o).length]? = some (5, 7, [none, some (some (RNX3_1 (SNX9_6 S o) (SNX9_5 S o).length)), some (some (RNX3_2 (SNX9_6 S o) (SNX9_5 S o).length)), some (some (RNX3_3 (SNX9_6 S o) (SNX9_5 S o).length)), some (some (RNX3_4 (SNX9_6 S o) (SNX9_5 S o).length)), none, some (some (RNX3_6 (SNX9_6 S o) (SNX9_5 S o).length))]) := hb64.2.2.2.2 _ _ (Nat.ne_of_lt (List.getElem?_eq_some_iff.mp hf53).1) hf59
  have hf68 : (SNX9_13 S o)[(SNX9_8 S o).length]? = some (9, 5, [none, some (some (RNX7_1 (SNX9_9 S o) (SNX9_8 S o).length)), some (some (RNX7_2 (SNX9_9 S o) (SNX9_8 S o).length)), some (some (RNX7_3 (SNX9_9 S o) (SNX9_8 S o).length)), some (some (RNX7_4 (SNX9_9 S o) (SNX9_8 S o).length))]) := hb64.2.2.2.2 _ _ (Nat.ne_of_lt (List.getElem?_eq_some_iff.mp hf54).1) hf60
  have hf69 : (SNX9_13 S o)[(SNX9_11 S o).length]? = some (10, 5, [none, some (some (RNX8_1 (SNX9_12 S o) (SNX9_11 S o).length)), some (some (RNX8_2 (SNX9_12 S o) (SNX9_11 S o).length)), some (some (RNX8_3 (SNX9_12 S o) (SNX9_11 S o).length)), some (some (RNX8_4 (SNX9_12 S o) (SNX9_11 S o).length))]) := hb64.1
  have hw70 : ie_wf (SNX9_13 S o) (MNX9_4 S M o) := hb64.2.1
  have hz71 : ie_zr (SNX9_13 S o) (MNX9_4 S M o) := hb64.2.2.1
  show V _ _ _ _ _ _ _ _ _ _ (SNX9_13 S o) (MNX9_4 S M o) _ _
  refine V_putr (k0 := 7) (ty := (.object "NeverHalted$Shifts")) (r := (SNX9_11 S o).length) rfl dX9_init_53 hf65 icX9 tyX9_ok nmX9 (by decide) (Nat.le_of_ble_eq_true rfl) w_356 rfl rfl rfl (tyX9_ok _ (by decide)) rfl rfl ?_
  have hf72 : (SNX9_14 S o)[o]? = some (11, 8, [none, none, none, some (some S.length), some (some (SNX9_2 S o).length), some (some (SNX9_5 S o).length), some (some (SNX9_8 S o).length), some (some (SNX9_11 S o).length)]) := st_at hf65
  have hf73 : (SNX9_14 S o)[(SNX9_2 S o).length]? = some (5, 7, [none, some (some (RNX3_1 (SNX9_3 S o) (SNX9_2 S o).length)), some (some (RNX3_2 (SNX9_3 S o) (SNX9_2 S o).length)), some (some (RNX3_3 (SNX9_3 S o) (SNX9_2 S o).length)), some (some (RNX3_4 (SNX9_3 S o) (SNX9_2 S o).length)), none, some (some (RNX3_6 (SNX9_3 S o) (SNX9_2 S o).length))]) := st_at' hf66 (Nat.ne_of_lt (List.getElem?_eq_some_iff.mp hf5).1)
  have hf74 : (SNX9_14 S o)[(SNX9_5 S o).length]? = some (5, 7, [none, some (some (RNX3_1 (SNX9_6 S o) (SNX9_5 S o).length)), some (some (RNX3_2 (SNX9_6 S o) (SNX9_5 S o).length)), some (some (RNX3_3 (SNX9_6 S o) (SNX9_5 S o).length)), some (some (RNX3_4 (SNX9_6 S o) (SNX9_5 S o).length)), none, some (some (RNX3_6 (SNX9_6 S o) (SNX9_5 S o).length))]) := st_at' hf67 (Nat.ne_of_lt (List.getElem?_eq_some_iff.mp hf18).1)
  have hf75 : (SNX9_14 S o)[(SNX9_8 S o).length]? = some (9, 5, [none, some (some (RNX7_1 (SNX9_9 S o) (SNX9_8 S o).length)), some (some (RNX7_2 (SNX9_9 S o) (SNX9_8 S o).length)), some (some (RNX7_3 (SNX9_9 S o) (SNX9_8 S o).length)), some (some (RNX7_4 (SNX9_9 S o) (SNX9_8 S o).length))]) := st_at' hf68 (Nat.ne_of_lt (List.getElem?_eq_some_iff.mp hf33).1)
  have hf76 : (SNX9_14 S o)[(SNX9_11 S o).length]? = some (10, 5, [none, some (some (RNX8_1 (SNX9_12 S o) (SNX9_11 S o).length)), some (some (RNX8_2 (SNX9_12 S o) (SNX9_11 S o).length)), some (some (RNX8_3 (SNX9_12 S o) (SNX9_11 S o).length)), some (some (RNX8_4 (SNX9_12 S o) (SNX9_11 S o).length))]) := st_at' hf69 (Nat.ne_of_lt (List.getElem?_eq_some_iff.mp hf51).1)
  have hw77 : ie_wf (SNX9_14 S o) (MNX9_4 S M o) := by have zz := wf_set (i := 7) (r := (SNX9_11 S o).length) hw70 hf65 ((List.getElem?_eq_some_iff.mp hf69).1); exact zz
  have hz78 : ie_zr (SNX9_14 S o) (MNX9_4 S M o) := zr_set hz71
  show V _ _ _ _ _ _ _ _ _ _ (SNX9_14 S o) (MNX9_4 S M o) _ _
  exact V_vret dX9_init_56 rfl (by decide) (by decide) ⟨rfl, rfl, rfl, fun p hp => ((hg8 p (lt_len hp len12)).trans ((hg7 p (lt_len hp len11)).trans ((hg6 p (lt_len hp len9)).trans ((hg5 p (lt_len hp len8)).trans ((hg4 p (lt_len hp len6)).trans ((hg3 p (lt_len hp len5)).trans ((hg2 p (lt_len hp len3)).trans ((hg1 p (lt_len hp len2)).trans (hg0 p hp)))))))))⟩
def SNX1_1 (S : List IK) (o : Nat) : List IK := S ++ [(0, 150, [])]
def SNX1_2 (S : List IK) (o : Nat) : List IK := (SNX1_1 S o).set o (3, 3, [some (some S.length), some none, some none])
def SNX1_3 (S : List IK) (o : Nat) : List IK := (SNX1_2 S o) ++ [(0, 150, [])]
def SNX1_4 (S : List IK) (o : Nat) : List IK := (SNX1_3 S o).set o (3, 3, [some (some S.length), some (some (SNX1_2 S o).length), some none])
def SNX1_5 (S : List IK) (o : Nat) : List IK := (SNX1_4 S o) ++ [(0, 150, [])]
def SNX1_6 (S : List IK) (o : Nat) : List IK := (SNX1_5 S o).set o (3, 3, [some (some S.length), some (some (SNX1_2 S o).length), some (some (SNX1_4 S o).length)])
def SNX1 (S : List IK) (o : Nat) : List IK := (SNX1_6 S o)
def MNX1 (S : List IK) (M : IM) (o : Nat) : IM := M
def RNX1_0 (S : List IK) (o : Nat) : Nat := S.length
def RNX1_1 (S : List IK) (o : Nat) : Nat := (SNX1_2 S o).length
def RNX1_2 (S : List IK) (o : Nat) : Nat := (SNX1_4 S o).length
def CBX1 (S : List IK) (M : IM) (o : Nat) : Prop := (SNX1 S o)[o]? = some (3, 3, [some (some (RNX1_0 S o)), some (some (RNX1_1 S o)), some (some (RNX1_2 S o))]) ∧ ie_wf (SNX1 S o) (MNX1 S M o) ∧ ie_zr (SNX1 S o) (MNX1 S M o) ∧ (SNX1 S o).length = S.length + 3 ∧ ∀ (p : Nat) (x : IK), ¬ p = o → S[p]? = some x → (SNX1 S o)[p]? = some x
set_option maxRecDepth 100000 in
set_option maxHeartbeats 4000000 in
theorem cb_X1 {S : List IK} {M : IM} {o : Nat} (ho : S[o]? = some (3, 3, [some none, some none, some none])) (hwf : ie_wf S M) (hz : ie_zr S M) : CBX1 S M o := by
  have len1 : (SNX1_1 S o).length = S.length + 1 := l_app rfl
  have len2 : (SNX1_2 S o).length = S.length + 1 := l_set len1
  have len3 : (SNX1_3 S o).length = S.length + 2 := l_app len2
  have len4 : (SNX1_4 S o).length = S.length + 2 := l_set len3
  have len5 : (SNX1_5 S o).length = S.length + 3 := l_app len4
  have len6 : (SNX1_6 S o).length = S.length + 3 := l_set len5
  have hf1 : (SNX1_1 S o)[o]? = some (3, 3, [some none, some none, some none]) := ap_at ho
  have hf2 : (SNX1_1 S o)[S.length]? = some (0, 150, []) := nw_at
  have hw3 : ie_wf (SNX1_1 S o) M := wf_app hwf (by simp) hz
  have hz4 : ie_zr (SNX1_1 S o) M := zr_app hz
  have hf5 : (SNX1_2 S o)[o]? = some (3, 3, [some (some S.length), some none, some none]) := st_at hf1
  have hf6 : (SNX1_2 S o)[S.length]? = some (0, 150, []) := st_at' hf2 (Nat.ne_of_lt (List.getElem?_eq_some_iff.mp ho).1)
  have hw7 : ie_wf (SNX1_2 S o) M := by have zz := wf_set (i := 0) (r := S.length) hw3 hf1 ((List.getElem?_eq_some_iff.mp hf2).1); exact zz
  have hz8 : ie_zr (SNX1_2 S o) M := zr_set hz4
  have hf9 : (SNX1_3 S o)[o]? = some (3, 3, [some (some S.length), some none, some none]) := ap_at hf5
  have hf10 : (SNX1_3 S o)[(SNX1_2 S o).length]? = some (0, 150, []) := nw_at
  have hw11 : ie_wf (SNX1_3 S o) M := wf_app hw7 (by simp) hz8
  have hz12 : ie_zr (SNX1_3 S o) M := zr_app hz8
  have hf13 : (SNX1_4 S o)[o]? = some (3, 3, [some (some S.length), some (some (SNX1_2 S o).length), some none]) := st_at hf9
  have hf14 : (SNX1_4 S o)[(SNX1_2 S o).length]? = some (0, 150, []) := st_at' hf10 (Nat.ne_of_lt (List.getElem?_eq_some_iff.mp hf5).1)
  have hw15 : ie_wf (SNX1_4 S o) M := by have zz := wf_set (i := 1) (r := (SNX1_2 S o).length) hw11 hf9 ((List.getElem?_eq_some_iff.mp hf10).1); exact zz
  have hz16 : ie_zr (SNX1_4 S o) M := zr_set hz12
  have hf17 : (SNX1_5 S o)[o]? = some (3, 3, [some (some S.length), some (some (SNX1_2 S o).length), some none]) := ap_at hf13
  have hf18 : (SNX1_5 S o)[(SNX1_4 S o).length]? = some (0, 150, []) := nw_at
  have hw19 : ie_wf (SNX1_5 S o) M := wf_app hw15 (by simp) hz16
  have hz20 : ie_zr (SNX1_5 S o) M := zr_app hz16
  have hf21 : (SNX1_6 S o)[o]? = some (3, 3, [some (some S.length), some (some (SNX1_2 S o).length), some (some (SNX1_4 S o).length)]) := st_at hf17
  have hf22 : (SNX1_6 S o)[(SNX1_4 S o).length]? = some (0, 150, []) := st_at' hf18 (Nat.ne_of_lt (List.getElem?_eq_some_iff.mp hf13).1)
  have hw23 : ie_wf (SNX1_6 S o) M := by have zz := wf_set (i := 2) (r := (SNX1_4 S o).length) hw19 hf17 ((List.getElem?_eq_some_iff.mp hf18).1); exact zz
  have hz24 : ie_zr (SNX1_6 S o) M := zr_set hz20
  exact ⟨hf21, hw23, hz24, len6, fun p x hp h => (st_at' (ap_at (st_at' (ap_at (st_at' (ap_at h) (fun e => hp e.symm))) (fun e => hp e.symm))) (fun e => hp e.symm))⟩
set_option maxRecDepth 100000 in
set_option maxHeartbeats 8000000 in
theorem tc_X1 {g : IG} {a : Nat → Nat} {S : List IK} {M : IM} {o : Nat} (ho : S[o]? = some (3, 3, [some none, some none, some none])) (hwf : ie_wf S M) (hz : ie_zr S M) : Cn g mX1_init 1 3 450 (qC (SNX1 S o) (MNX1 S M o) S.length a) [.ref (a o)] a S M := by
  refine Cn_of (L := [some (.ref (a o))]) mf_X1_init (cat_r cat_0) (Nat.le_of_ble_eq_true rfl) rfl ?_
  have len1 : (SNX1_1 S o).length = S.length + 1 := l_app rfl
  have len2 : (SNX1_2 S o).length = S.length + 1 := l_set len1
  have len3 : (SNX1_3 S o).length = S.length + 2 := l_app len2
  have len4 : (SNX1_4 S o).length = S.length + 2 := l_set len3
  have len5 : (SNX1_5 S o).length = S.length + 3 := l_app len4
  have len6 : (SNX1_6 S o).length = S.length + 3 := l_set len5
  refine V_aload_n rfl dX1_init_0 rfl rfl ?_
  refine V_obj rfl dX1_init_1 ⟨w_380, w_166, w_167⟩ rfl ?_
  refine V_aload_n rfl dX1_init_4 rfl rfl ?_
  refine V_sipush (v := 150) rfl dX1_init_5 ks_150 ?_
  refine V_newa (n := 150) (fun a => [some (.ref (a o))]) (fun a => [.ref (a o)]) rfl dX1_init_8 w_245 (by decide +kernel) hwf hz ⟨rfl, rfl⟩ (fun a' h => ⟨by first | rfl | simp only [h _ ((List.getElem?_eq_some_iff.mp ho).1)], by first | rfl | simp only [h _ ((List.getElem?_eq_some_iff.mp ho).1)]⟩) (fun a1 hg0 => ?_)
  have hf1 : (SNX1_1 S o)[o]? = some (3, 3, [some none, some none, some none]) := ap_at ho
  have hf2 : (SNX1_1 S o)[S.length]? = some (0, 150, []) := nw_at
  have hw3 : ie_wf (SNX1_1 S o) M := wf_app hwf (by simp) hz
  have hz4 : ie_zr (SNX1_1 S o) M := zr_app hz
  show V _ _ _ _ _ _ _ _ _ _ (SNX1_1 S o) M _ _
  refine V_putr (k0 := 0) (ty := (.array .int)) (r := S.length) rfl dX1_init_10 hf1 icX1 tyX1_ok nmX1 (by decide) (Nat.le_of_ble_eq_true rfl) w_381 rfl rfl rfl (tyX1_ok _ (by decide)) rfl rfl ?_
  have hf5 : (SNX1_2 S o)[o]? = some (3, 3, [some (some S.length), some none, some none]) := st_at hf1
  have hf6 : (SNX1_2 S o)[S.length]? = some (0, 150, []) := st_at' hf2 (Nat.ne_of_lt (List.getElem?_eq_some_iff.mp ho).1)
  have hw7 : ie_wf (SNX1_2 S o) M := by have zz := wf_set (i := 0) (r := S.length) hw3 hf1 ((List.getElem?_eq_some_iff.mp hf2).1); exact zz
  have hz8 : ie_zr (SNX1_2 S o) M := zr_set hz4
  show V _ _ _ _ _ _ _ _ _ _ (SNX1_2 S o) M _ _
  refine V_aload_n rfl dX1_init_13 rfl rfl ?_
  refine V_sipush (v := 150) rfl dX1_init_14 ks_150 ?_
  refine V_newa (n := 150) (fun a => [some (.ref (a o))]) (fun a => [.ref (a o)]) rfl dX1_init_17 w_245 (by decide +kernel) hw7 hz8 ⟨rfl, rfl⟩ (fun a' h => ⟨by first | rfl | simp only [h _ ((List.getElem?_eq_some_iff.mp hf5).1)], by first | rfl | simp only [h _ ((List.getElem?_eq_some_iff.mp hf5).1)]⟩) (fun a11 hg1 => ?_)
  have hf9 : (SNX1_3 S o)[o]? = some (3, 3, [some (some S.length), some none, some none]) := ap_at hf5
  have hf10 : (SNX1_3 S o)[(SNX1_2 S o).length]? = some (0, 150, []) := nw_at
  have hw11 : ie_wf (SNX1_3 S o) M := wf_app hw7 (by simp) hz8
  have hz12 : ie_zr (SNX1_3 S o) M := zr_app hz8
  show V _ _ _ _ _ _ _ _ _ _ (SNX1_3 S o) M _ _
  refine V_putr (k0 := 1) (ty := (.array .int)) (r := (SNX1_2 S o).length) rfl dX1_init_19 hf9 icX1 tyX1_ok nmX1 (by decide) (Nat.le_of_ble_eq_true rfl) w_383 rfl rfl rfl (tyX1_ok _ (by decide)) rfl rfl ?_
  have hf13 : (SNX1_4 S o)[o]? = some (3, 3, [some (some S.length), some (some (SNX1_2 S o).length), some none]) := st_at hf9
  have hf14 : (SNX1_4 S o)[(SNX1_2 S o).length]? = some (0, 150, []) := st_at' hf10 (Nat.ne_of_lt (List.getElem?_eq_some_iff.mp hf5).1)
  have hw15 : ie_wf (SNX1_4 S o) M := by have zz := wf_set (i := 1) (r := (SNX1_2 S o).length) hw11 hf9 ((List.getElem?_eq_some_iff.mp hf10).1); exact zz
  have hz16 : ie_zr (SNX1_4 S o) M := zr_set hz12
  show V _ _ _ _ _ _ _ _ _ _ (SNX1_4 S o) M _ _
  refine V_aload_n rfl dX1_init_22 rfl rfl ?_
  refine V_sipush (v := 150) rfl dX1_init_23 ks_150 ?_
  refine V_newa (n := 150) (fun a => [some (.ref (a o))]) (fun a => [.ref (a o)]) rfl dX1_init_26 w_245 (by decide +kernel) hw15 hz16 ⟨rfl, rfl⟩ (fun a' h => ⟨by first | rfl | simp only [h _ ((List.getElem?_eq_some_iff.mp hf13).1)], by first | rfl | simp only [h _ ((List.getElem?_eq_some_iff.mp hf13).1)]⟩) (fun a111 hg2 => ?_)
  have hf17 : (SNX1_5 S o)[o]? = some (3, 3, [some (some S.length), some (some (SNX1_2 S o).length), some none]) := ap_at hf13
  have hf18 : (SNX1_5 S o)[(SNX1_4 S o).length]? = some (0, 150, []) := nw_at
  have hw19 : ie_wf (SNX1_5 S o) M := wf_app hw15 (by simp) hz16
  have hz20 : ie_zr (SNX1_5 S o) M := zr_app hz16
  show V _ _ _ _ _ _ _ _ _ _ (SNX1_5 S o) M _ _
  refine V_putr (k0 := 2) (ty := (.array .int)) (r := (SNX1_4 S o).length) rfl dX1_init_28 hf17 icX1 tyX1_ok nmX1 (by decide) (Nat.le_of_ble_eq_true rfl) w_385 rfl rfl rfl (tyX1_ok _ (by decide)) rfl rfl ?_
  have hf21 : (SNX1_6 S o)[o]? = some (3, 3, [some (some S.length), some (some (SNX1_2 S o).length), some (some (SNX1_4 S o).length)]) := st_at hf17
  have hf22 : (SNX1_6 S o)[(SNX1_4 S o).length]? = some (0, 150, []) := st_at' hf18 (Nat.ne_of_lt (List.getElem?_eq_some_iff.mp hf13).1)
  have hw23 : ie_wf (SNX1_6 S o) M := by have zz := wf_set (i := 2) (r := (SNX1_4 S o).length) hw19 hf17 ((List.getElem?_eq_some_iff.mp hf18).1); exact zz
  have hz24 : ie_zr (SNX1_6 S o) M := zr_set hz20
  show V _ _ _ _ _ _ _ _ _ _ (SNX1_6 S o) M _ _
  exact V_vret dX1_init_31 rfl (by decide) (by decide) ⟨rfl, rfl, rfl, fun p hp => ((hg2 p (lt_len hp len4)).trans ((hg1 p (lt_len hp len2)).trans (hg0 p hp)))⟩
