def SNX5_1 (S : List IK) (o : Nat) : List IK := S ++ [(1, 6, [])]
def SNX5_2 (S : List IK) (o : Nat) : List IK := (SNX5_1 S o).set o (7, 2, [none, some (some S.length)])
def SNX5_3 (S : List IK) (o : Nat) : List IK := (SNX5_2 S o) ++ [(6, 15, [none, none, none, none, none, none, none, none, none, none, none, some none, some none, some none, some none])]
def SNX5_4 (S : List IK) (o : Nat) : List IK := (SNX4 (SNX5_3 S o) (SNX5_2 S o).length)
def SNX5_5 (S : List IK) (o : Nat) : List IK := (SNX5_4 S o) ++ [(6, 15, [none, none, none, none, none, none, none, none, none, none, none, some none, some none, some none, some none])]
def SNX5_6 (S : List IK) (o : Nat) : List IK := (SNX4 (SNX5_5 S o) (SNX5_4 S o).length)
def SNX5_7 (S : List IK) (o : Nat) : List IK := (SNX5_6 S o) ++ [(6, 15, [none, none, none, none, none, none, none, none, none, none, none, some none, some none, some none, some none])]
def SNX5_8 (S : List IK) (o : Nat) : List IK := (SNX4 (SNX5_7 S o) (SNX5_6 S o).length)
def SNX5_9 (S : List IK) (o : Nat) : List IK := (SNX5_8 S o) ++ [(6, 15, [none, none, none, none, none, none, none, none, none, none, none, some none, some none, some none, some none])]
def SNX5_10 (S : List IK) (o : Nat) : List IK := (SNX4 (SNX5_9 S o) (SNX5_8 S o).length)
def SNX5_11 (S : List IK) (o : Nat) : List IK := (SNX5_10 S o) ++ [(6, 15, [none, none, none, none, none, none, none, none, none, none, none, some none, some none, some none, some none])]
def SNX5_12 (S : List IK) (o : Nat) : List IK := (SNX4 (SNX5_11 S o) (SNX5_10 S o).length)
def SNX5_13 (S : List IK) (o : Nat) : List IK := (SNX5_12 S o) ++ [(6, 15, [none, none, none, none, none, none, none, none, none, none, none, some none, some none, some none, some none])]
def SNX5_14 (S : List IK) (o : Nat) : List IK := (SNX4 (SNX5_13 S o) (SNX5_12 S o).length)
def SNX5 (S : List IK) (o : Nat) : List IK := (SNX5_14 S o)
def MNX5_1 (S : List IK) (M : IM) (o : Nat) : IM := (MNX4 (SNX5_3 S o) M (SNX5_2 S o).length)
def MNX5_2 (S : List IK) (M : IM) (o : Nat) : IM := ms (MNX5_1 S M o) S.length 0 (Int32.ofNat ((SNX5_2 S o).length + 1))
def MNX5_3 (S : List IK) (M : IM) (o : Nat) : IM := (MNX4 (SNX5_5 S o) (MNX5_2 S M o) (SNX5_4 S o).length)
def MNX5_4 (S : List IK) (M : IM) (o : Nat) : IM := ms (MNX5_3 S M o) S.length 1 (Int32.ofNat ((SNX5_4 S o).length + 1))
def MNX5_5 (S : List IK) (M : IM) (o : Nat) : IM := (MNX4 (SNX5_7 S o) (MNX5_4 S M o) (SNX5_6 S o).length)
def MNX5_6 (S : List IK) (M : IM) (o : Nat) : IM := ms (MNX5_5 S M o) S.length 2 (Int32.ofNat ((SNX5_6 S o).length + 1))
def MNX5_7 (S : List IK) (M : IM) (o : Nat) : IM := (MNX4 (SNX5_9 S o) (MNX5_6 S M o) (SNX5_8 S o).length)
def MNX5_8 (S : List IK) (M : IM) (o : Nat) : IM := ms (MNX5_7 S M o) S.length 3 (Int32.ofNat ((SNX5_8 S o).length + 1))
def MNX5_9 (S : List IK) (M : IM) (o : Nat) : IM := (MNX4 (SNX5_11 S o) (MNX5_8 S M o) (SNX5_10 S o).length)
def MNX5_10 (S : List IK) (M : IM) (o : Nat) : IM := ms (MNX5_9 S M o) S.length 4 (Int32.ofNat ((SNX5_10 S o).length + 1))
def MNX5_11 (S : List IK) (M : IM) (o : Nat) : IM := (MNX4 (SNX5_13 S o) (MNX5_10 S M o) (SNX5_12 S o).length)
def MNX5_12 (S : List IK) (M : IM) (o : Nat) : IM := ms (MNX5_11 S M o) S.length 5 (Int32.ofNat ((SNX5_12 S o).length + 1))
def MNX5 (S : List IK) (M : IM) (o : Nat) : IM := (MNX5_12 S M o)
def RNX5_1 (S : List IK) (o : Nat) : Nat := S.length
def CBX5 (S : List IK) (M : IM) (o : Nat) : Prop := (SNX5 S o)[o]? = some (7, 2, [none, some (some (RNX5_1 S o))]) ∧ ie_wf (SNX5 S o) (MNX5 S M o) ∧ ie_zr (SNX5 S o) (MNX5 S M o) ∧ (SNX5 S o).length = S.length + 31 ∧ ∀ (p : Nat) (x : IK), ¬ p = o → S[p]? = some x → (SNX5 S o)[p]? = some x
set_option maxRecDepth 100000 in
set_option maxHeartbeats 4000000 in
theorem cb_X5 {S : List IK} {M : IM} {o : Nat} (ho : S[o]? = some (7, 2, [none, some none])) (hwf : ie_wf S M) (hz : ie_zr S M) (hB : S.length < 1000) : CBX5 S M o := by
  have len1 : (SNX5_1 S o).length = S.length + 1 := l_app rfl
  have len2 : (SNX5_2 S o).length = S.length + 1 := l_set len1
  have len3 : (SNX5_3 S o).length = S.length + 2 := l_app len2
  have hf1 : (SNX5_1 S o)[o]? = some (7, 2, [none, some none]) := ap_at ho
  have hf2 : (SNX5_1 S o)[S.length]? = some (1, 6, []) := nw_at
  have hw3 : ie_wf (SNX5_1 S o) M := wf_app hwf (by simp) hz
  have hz4 : ie_zr (SNX5_1 S o) M := zr_app hz
  have hf5 : (SNX5_2 S o)[o]? = some (7, 2, [none, some (some S.length)]) := st_at hf1
  have hf6 : (SNX5_2 S o)[S.length]? = some (1, 6, []) := st_at' hf2 (Nat.ne_of_lt (List.getElem?_eq_some_iff.mp ho).1)
  have hw7 : ie_wf (SNX5_2 S o) M := by have zz := wf_set (i := 1) (r := S.length) hw3 hf1 ((List.getElem?_eq_some_iff.mp hf2).1); exact zz
  have hz8 : ie_zr (SNX5_2 S o) M := zr_set hz4
  have hf9 : (SNX5_3 S o)[o]? = some (7, 2, [none, some (some S.length)]) := ap_at hf5
  have hf10 : (SNX5_3 S o)[S.length]? = some (1, 6, []) := ap_at hf6
  have hf11 : (SNX5_3 S o)[(SNX5_2 S o).length]? = some (6, 15, [none, none, none, none, none, none, none, none, none, none, none, some none, some none, some none, some none]) := nw_at
  have hw12 : ie_wf (SNX5_3 S o) M := wf_app hw7 (by simp) hz8
  have hz13 : ie_zr (SNX5_3 S o) M := zr_app hz8
  have hb14 : CBX4 (SNX5_3 S o) M (SNX5_2 S o).length := cb_X4 hf11 hw12 hz13
  have len4 : (SNX5_4 S o).length = S.length + 6 := l_cal hb14.2.2.2.1 len3
  have len5 : (SNX5_5 S o).length = S.length + 7 := l_app len4
  have hf15 : (SNX5_4 S o)[o]? = some (7, 2, [none, some (some S.length)]) := hb14.2.2.2.2 _ _ (Nat.ne_of_lt (List.getElem?_eq_some_iff.mp hf5).1) hf9
  have hf16 : (SNX5_4 S o)[S.length]? = some (1, 6, []) := hb14.2.2.2.2 _ _ (Nat.ne_of_lt (List.getElem?_eq_some_iff.mp hf6).1) hf10
  have hf17 : (SNX5_4 S o)[(SNX5_2 S o).length]? = some (6, 15, [none, none, none, none, none, none, none, none, none, none, none, some (some (RNX4_11 (SNX5_3 S o) (SNX5_2 S o).length)), some (some (RNX4_12 (SNX5_3 S o) (SNX5_2 S o).length)), some (some (RNX4_13 (SNX5_3 S o) (SNX5_2 S o).length)), some (some (RNX4_14 (SNX5_3 S o) (SNX5_2 S o).length))]) := hb14.1
  have hw18 : ie_wf (SNX5_4 S o) (MNX5_1 S M o) := hb14.2.1
  have hz19 : ie_zr (SNX5_4 S o) (MNX5_1 S M o) := hb14.2.2.1
  have hB0 : (SNX5_4 S o).length ≤ 100000 := le_len hB len4 (by decide)
  have hb20 : (SNX5_2 S o).length < 100000 := Nat.lt_of_lt_of_le ((List.getElem?_eq_some_iff.mp hf17).1) hB0
  have hw21 : ie_wf (SNX5_4 S o) (MNX5_2 S M o) := wf_ms hw18 hf16 (Or.inr (nw_le hb20 ((List.getElem?_eq_some_iff.mp hf17).1)))
  have hz22 : ie_zr (SNX5_4 S o) (MNX5_2 S M o) := zr_ms hz19 ((List.getElem?_eq_some_iff.mp hf16).1)
  have hf23 : (SNX5_5 S o)[o]? = some (7, 2, [none, some (some S.length)]) := ap_at hf15
  have hf24 : (SNX5_5 S o)[S.length]? = some (1, 6, []) := ap_at hf16
  have hf25 : (SNX5_5 S o)[(SNX5_2 S o).length]? = some (6, 15, [none, none, none, none, none, none, none, none, none, none, none, some (some (RNX4_11 (SNX5_3 S o) (SNX5_2 S o).length)), some (some (RNX4_12 (SNX5_3 S o) (SNX5_2 S o).length)), some (some (RNX4_13 (SNX5_3 S o) (SNX5_2 S o).length)), some (some (RNX4_14 (SNX5_3 S o) (SNX5_2 S o).length))]) := ap_at hf17
  have hf26 : (SNX5_5 S o)[(SNX5_4 S o).length]? = some (6, 15, [none, none, none, none, none, none, none, none, none, none, none, some none, some none, some none, some none]) := nw_at
  have hw27 : ie_wf (SNX5_5 S o) (MNX5_2 S M o) := wf_app hw21 (by simp) hz22
  have hz28 : ie_zr (SNX5_5 S o) (MNX5_2 S M o) := zr_app hz22
  have hb29 : CBX4 (SNX5_5 S o) (MNX5_2 S M o) (SNX5_4 S o).length := cb_X4 hf26 hw27 hz28
  have len6 : (SNX5_6 S o).length = S.length + 11 := l_cal hb29.2.2.2.1 len5
  have len7 : (SNX5_7 S o).length = S.length + 12 := l_app len6
  have hf30 : (SNX5_6 S o)[o]? = some (7, 2, [none, some (some S.length)]) := hb29.2.2.2.2 _ _ (Nat.ne_of_lt (List.getElem?_eq_some_iff.mp hf15).1) hf23
  have hf31 : (SNX5_6 S o)[S.length]? = some (1, 6, []) := hb29.2.2.2.2 _ _ (Nat.ne_of_lt (List.getElem?_eq_some_iff.mp hf16).1) hf24
  have hf32 : (SNX5_6 S o)[(SNX5_2 S o).length]? = some (6, 15, [none, none, none, none, none, none, none, none, none, none, none, some (some (RNX4_11 (SNX5_3 S o) (SNX5_2 S o).length)), some (some (RNX4_12 (SNX5_3 S o) (SNX5_2 S o).length)), some (some (RNX4_13 (SNX5_3 S o) (SNX5_2 S o).length)), some (some (RNX4_14 (SNX5_3 S o) (SNX5_2 S o).length))]) := hb29.2.2.2.2 _ _ (Nat.ne_of_lt (List.getElem?_eq_some_iff.mp hf17).1) hf25
  have hf33 : (SNX5_6 S o)[(SNX5_4 S o).length]? = some (6, 15, [none, none, none, none, none, none, none, none, none, none, none, some (some (RNX4_11 (SNX5_5 S o) (SNX5_4 S o).length)), some (some (RNX4_12 (SNX5_5 S o) (SNX5_4 S o).length)), some (some (RNX4_13 (SNX5_5 S o) (SNX5_4 S o).length)), some (some (RNX4_14 (SNX5_5 S o) (SNX5_4 S o).length))]) := hb29.1
  have hw34 : ie_wf (SNX5_6 S o) (MNX5_3 S M o) := hb29.2.1
  have hz35 : ie_zr (SNX5_6 S o) (MNX5_3 S M o) := hb29.2.2.1
  have hB1 : (SNX5_6 S o).length ≤ 100000 := le_len hB len6 (by decide)
  have hb36 : (SNX5_4 S o).length < 100000 := Nat.lt_of_lt_of_le ((List.getElem?_eq_some_iff.mp hf33).1) hB1
  have hw37 : ie_wf (SNX5_6 S o) (MNX5_4 S M o) := wf_ms hw34 hf31 (Or.inr (nw_le hb36 ((List.getElem?_eq_some_iff.mp hf33).1)))
  have hz38 : ie_zr (SNX5_6 S o) (MNX5_4 S M o) := zr_ms hz35 ((List.getElem?_eq_some_iff.mp hf31).1)
  have hf39 : (SNX5_7 S o)[o]? = some (7, 2, [none, some (some S.length)]) := ap_at hf30
  have hf40 : (SNX5_7 S o)[S.length]? = some (1, 6, []) := ap_at hf31
  have hf41 : (SNX5_7 S o)[(SNX5_2 S o).length]? = some (6, 15, [none, none, none, none, none, none, none, none, none, none, none, some (some (RNX4_11 (SNX5_3 S o) (SNX5_2 S o).length)), some (some (RNX4_12 (SNX5_3 S o) (SNX5_2 S o).length)), some (some (RNX4_13 (SNX5_3 S o) (SNX5_2 S o).length)), some (some (RNX4_14 (SNX5_3 S o) (SNX5_2 S o).length))]) := ap_at hf32
  have hf42 : (SNX5_7 S o)[(SNX5_4 S o).length]? = some (6, 15, [none, none, none, none, none, none, none, none, none, none, none, some (some (RNX4_11 (SNX5_5 S o) (SNX5_4 S o).length)), some (some (RNX4_12 (SNX5_5 S o) (SNX5_4 S o).length)), some (some (RNX4_13 (SNX5_5 S o) (SNX5_4 S o).length)), some (some (RNX4_14 (SNX5_5 S o) (SNX5_4 S o).length))]) := ap_at hf33
  have hf43 : (SNX5_7 S o)[(SNX5_6 S o).length]? = some (6, 15, [none, none, none, none, none, none, none, none, none, none, none, some none, some none, some none, some none]) := nw_at
  have hw44 : ie_wf (SNX5_7 S o) (MNX5_4 S M o) := wf_app hw37 (by simp) hz38
  have hz45 : ie_zr (SNX5_7 S o) (MNX5_4 S M o) := zr_app hz38
  have hb46 : CBX4 (SNX5_7 S o) (MNX5_4 S M o) (SNX5_6 S o).length := cb_X4 hf43 hw44 hz45
  have len8 : (SNX5_8 S o).length = S.length + 16 := l_cal hb46.2.2.2.1 len7
  have len9 : (SNX5_9 S o).length = S.length + 17 := l_app len8
  have hf47 : (SNX5_8 S o)[o]? = some (7, 2, [none, some (some S.length)]) := hb46.2.2.2.2 _ _ (Nat.ne_of_lt (List.getElem?_eq_some_iff.mp hf30).1) hf39
  have hf48 : (SNX5_8 S o)[S.length]? = some (1, 6, []) := hb46.2.2.2.2 _ _ (Nat.ne_of_lt (List.getElem?_eq_some_iff.mp hf31).1) hf40
  have hf49 : (SNX5_8 S o)[(SNX5_2 S o).length]? = some (6, 15, [none, none, none, none, none, none, none, none, none, none, none, some (some (RNX4_11 (SNX5_3 S o) (SNX5_2 S o).length)), some (some (RNX4_12 (SNX5_3 S o) (SNX5_2 S o).length)), some (some (RNX4_13 (SNX5_3 S o) (SNX5_2 S o).length)), some (some (RNX4_14 (SNX5_3 S o) (SNX5_2 S o).length))]) := hb46.2.2.2.2 _ _ (Nat.ne_of_lt (List.getElem?_eq_some_iff.mp hf32).1) hf41
  have hf50 : (SNX5_8 S o)[(SNX5_4 S o).length]? = some (6, 15, [none, none, none, none, none, none, none, none, none, none, none, some (some (RNX4_11 (SNX5_5 S o) (SNX5_4 S o).length)), some (some (RNX4_12 (SNX5_5 S o) (SNX5_4 S o).length)), some (some (RNX4_13 (SNX5_5 S o) (SNX5_4 S o).length)), some (some (RNX4_14 (SNX5_5 S o) (SNX5_4 S o).length))]) := hb46.2.2.2.2 _ _ (Nat.ne_of_lt (List.getElem?_eq_some_iff.mp hf33).1) hf42
  have hf51 : (SNX5_8 S o)[(SNX5_6 S o).length]? = some (6, 15, [none, none, none, none, none, none, none, none, none, none, none, some (some (RNX4_11 (SNX5_7 S o) (SNX5_6 S o).length)), some (some (RNX4_12 (SNX5_7 S o) (SNX5_6 S o).length)), some (some (RNX4_13 (SNX5_7 S o) (SNX5_6 S o).length)), some (some (RNX4_14 (SNX5_7 S o) (SNX5_6 S o).length))]) := hb46.1
  have hw52 : ie_wf (SNX5_8 S o) (MNX5_5 S M o) := hb46.2.1
  have hz53 : ie_zr (SNX5_8 S o) (MNX5_5 S M o) := hb46.2.2.1
  have hB2 : (SNX5_8 S o).length ≤ 100000 := le_len hB len8 (by decide)
  have hb54 : (SNX5_6 S o).length < 100000 := Nat.lt_of_lt_of_le ((List.getElem?_eq_some_iff.mp hf51).1) hB2
  have hw55 : ie_wf (SNX5_8 S o) (MNX5_6 S M o) := wf_ms hw52 hf48 (Or.inr (nw_le hb54 ((List.getElem?_eq_some_iff.mp hf51).1)))
  have hz56 : ie_zr (SNX5_8 S o) (MNX5_6 S M o) := zr_ms hz53 ((List.getElem?_eq_some_iff.mp hf48).1)
  have hf57 : (SNX5_9 S o)[o]? = some (7, 2, [none, some (some S.length)]) := ap_at hf47
  have hf58 : (SNX5_9 S o)[S.length]? = some (1, 6, []) := ap_at hf48
  have hf59 : (SNX5_9 S o)[(SNX5_2 S o).length]? = some (6, 15, [none, none, none, none, none, none, none, none, none, none, none, some (some (RNX4_11 (SNX5_3 S o) (SNX5_2 S o).length)), some (some (RNX4_12 (SNX5_3 S o) (SNX5_2 S o).length)), some (some (RNX4_13 (SNX5_3 S o) (SNX5_2 S o).length)), some (some (RNX4_14 (SNX5_3 S o) (SNX5_2 S o).length))]) := ap_at hf49
  have hf60 : (SNX5_9 S o)[(SNX5_4 S o).length]? = some (6, 15, [none, none, none, none, none, none, none, none, none, none, none, some (some (RNX4_11 (SNX5_5 S o) (SNX5_4 S o).length)), some (some (RNX4_12 (SNX5_5 S o) (SNX5_4 S o).length)), some (some (RNX4_13 (SNX5_5 S o) (SNX5_4 S o).length)), some (some (RNX4_14 (SNX5_5 S o) (SNX5_4 S o).length))]) := ap_at hf50
  have hf61 : (SNX5_9 S o)[(SNX5_6 S o).length]? = some (6, 15, [none, none, none, none, none, none, none, none, none, none, none, some (some (RNX4_11 (SNX5_7 S o) (SNX5_6 S o).length)), some (some (RNX4_12 (SNX5_7 S o) (SNX5_6 S o).length)), some (some (RNX4_13 (SNX5_7 S o) (SNX5_6 S o).length)), some (some (RNX4_14 (SNX5_7 S o) (SNX5_6 S o).length))]) := ap_at hf51
  have hf62 : (SNX5_9 S o)[(SNX5_8 S o).length]? = some (6, 15, [none, none, none, none, none, none, none, none, none, none, none, some none, some none, some none, some none]) := nw_at
  have hw63 : ie_wf (SNX5_9 S o) (MNX5_6 S M o) := wf_app hw55 (by simp) hz56
  have hz64 : ie_zr (SNX5_9 S o) (MNX5_6 S M o) := zr_app hz56
  have hb65 : CBX4 (SNX5_9 S o) (MNX5_6 S M o) (SNX5_8 S o).length := cb_X4 hf62 hw63 hz64
  have len10 : (SNX5_10 S o).length = S.length + 21 := l_cal hb65.2.2.2.1 len9
  have len11 : (SNX5_11 S o).length = S.length + 22 := l_app len10
  have hf66 : (SNX5_10 S o)[o]? = some (7, 2, [none, some (some S.length)]) := hb65.2.2.2.2 _ _ (Nat.ne_of_lt (List.getElem?_eq_some_iff.mp hf47).1) hf57
  have hf67 : (SNX5_10 S o)[S.length]? = some (1, 6, []) := hb65.2.2.2.2 _ _ (Nat.ne_of_lt (List.getElem?_eq_some_iff.mp hf48).1) hf58
  have hf68 : (SNX5_10 S o)[(SNX5_2 S o).length]? = some (6, 15, [none, none, none, none, none, none, none, none, none, none, none, some (some (RNX4_11 (SNX5_3 S o) (SNX5_2 S o).length)), some (some (RNX4_12 (SNX5_3 S o) (SNX5_2 S o).length)), some (some (RNX4_13 (SNX5_3 S o) (SNX5_2 S o).length)), some (some (RNX4_14 (SNX5_3 S o) (SNX5_2 S o).length))]) := hb65.2.2.2.2 _ _ (Nat.ne_of_lt (List.getElem?_eq_some_iff.mp hf49).1) hf59
  have hf69 : (SNX5_10 S o)[(SNX5_4 S o).length]? = some (6, 15, [none, none, none, none, none, none, none, none, none, none, none, some (some (RNX4_11 (SNX5_5 S o) (SNX5_4 S o).length)), some (some (RNX4_12 (SNX5_5 S o) (SNX5_4 S o).length)), some (some (RNX4_13 (SNX5_5 S o) (SNX5_4 S o).length)), some (some (RNX4_14 (SNX5_5 S o) (SNX5_4 S o).length))]) := hb65.2.2.2.2 _ _ (Nat.ne_of_lt (List.getElem?_eq_some_iff.mp hf50).1) hf60
  have hf70 : (SNX5_10 S o)[(SNX5_6 S o).length]? = some (6, 15, [none, none, none, none, none, none, none, none, none, none, none, some (some (RNX4_11 (SNX5_7 S o) (SNX5_6 S o).length)), some (some (RNX4_12 (SNX5_7 S o) (SNX5_6 S o).length)), some (some (RNX4_13 (SNX5_7 S o) (SNX5_6 S o).length)), some (some (RNX4_14 (SNX5_7 S o) (SNX5_6 S o).length))]) := hb65.2.2.2.2 _ _ (Nat.ne_of_lt (List.getElem?_eq_some_iff.mp hf51).1) hf61
  have hf71 : (SNX5_10 S o)[(SNX5_8 S o).length]? = some (6, 15, [none, none, none, none, none, none, none, none, none, none, none, some (some (RNX4_11 (SNX5_9 S o) (SNX5_8 S o).length)), some (some (RNX4_12 (SNX5_9 S o) (SNX5_8 S o).length)), some (some (RNX4_13 (SNX5_9 S o) (SNX5_8 S o).length)), some (some (RNX4_14 (SNX5_9 S o) (SNX5_8 S o).length))]) := hb65.1
  have hw72 : ie_wf (SNX5_10 S o) (MNX5_7 S M o) := hb65.2.1
  have hz73 : ie_zr (SNX5_10 S o) (MNX5_7 S M o) := hb65.2.2.1
  have hB3 : (SNX5_10 S o).length ≤ 100000 := le_len hB len10 (by decide)
  have hb74 : (SNX5_8 S o).length < 100000 := Nat.lt_of_lt_of_le ((List.getElem?_eq_some_iff.mp hf71).1) hB3
  have hw75 : ie_wf (SNX5_10 S o) (MNX5_8 S M o) := wf_ms hw72 hf67 (Or.inr (nw_le hb74 ((List.getElem?_eq_some_iff.mp hf71).1)))
  have hz76 : ie_zr (SNX5_10 S o) (MNX5_8 S M o) := zr_ms hz73 ((List.getElem?_eq_some_iff.mp hf67).1)
  have hf77 : (SNX5_11 S o)[o]? = some (7, 2, [none, some (some S.length)]) := ap_at hf66
  have hf78 : (SNX5_11 S o)[S.length]? = some (1, 6, []) := ap_at hf67
  have hf79 : (SNX5_11 S o)[(SNX5_2 S o).length]? = some (6, 15, [none, none, none, none, none, none, none, none, none, none, none, some (some (RNX4_11 (SNX5_3 S o) (SNX5_2 S o).length)), some (some (RNX4_12 (SNX5_3 S o) (SNX5_2 S o).length)), some (some (RNX4_13 (SNX5_3 S o) (SNX5_2 S o).length)), some (some (RNX4_14 (SNX5_3 S o) (SNX5_2 S o).length))]) := ap_at hf68
  have hf80 : (SNX5_11 S o)[(SNX5_4 S o).length]? = some (6, 15, [none, none, none, none, none, none, none, none, none, none, none, some (some (RNX4_11 (SNX5_5 S o) (SNX5_4 S o).length)), some (some (RNX4_12 (SNX5_5 S o) (SNX5_4 S o).length)), some (some (RNX4_13 (SNX5_5 S o) (SNX5_4 S o).length)), some (some (RNX4_14 (SNX5_5 S o) (SNX5_4 S o).length))]) := ap_at hf69
  have hf81 : (SNX5_11 S o)[(SNX5_6 S o).length]? = some (6, 15, [none, none, none, none, none, none, none, none, none, none, none, some (some (RNX4_11 (SNX5_7 S o) (SNX5_6 S o).length)), some (some (RNX4_12 (SNX5_7 S o) (SNX5_6 S o).length)), some (some (RNX4_13 (SNX5_7 S o) (SNX5_6 S o).length)), some (some (RNX4_14 (SNX5_7 S o) (SNX5_6 S o).length))]) := ap_at hf70
  have hf82 : (SNX5_11 S o)[(SNX5_8 S o).length]? = some (6, 15, [none, none, none, none, none, none, none, none, none, none, none, some (some (RNX4_11 (SNX5_9 S o) (SNX5_8 S o).length)), some (some (RNX4_12 (SNX5_9 S o) (SNX5_8 S o).length)), some (some (RNX4_13 (SNX5_9 S o) (SNX5_8 S o).length)), some (some (RNX4_14 (SNX5_9 S o) (SNX5_8 S o).length))]) := ap_at hf71
  have hf83 : (SNX5_11 S o)[(SNX5_10 S o).length]? = some (6, 15, [none, none, none, none, none, none, none, none, none, none, none, some none, some none, some none, some none]) := nw_at
  have hw84 : ie_wf (SNX5_11 S o) (MNX5_8 S M o) := wf_app hw75 (by simp) hz76
  have hz85 : ie_zr (SNX5_11 S o) (MNX5_8 S M o) := zr_app hz76
  have hb86 : CBX4 (SNX5_11 S o) (MNX5_8 S M o) (SNX5_10 S o).length := cb_X4 hf83 hw84 hz85
  have len12 : (SNX5_12 S o).length = S.length + 26 := l_cal hb86.2.2.2.1 len11
  have len13 : (SNX5_13 S o).length = S.length + 27 := l_app len12
  have hf87 : (SNX5_12 S o)[o]? = some (7, 2, [none, some (some S.length)]) := hb86.2.2.2.2 _ _ (Nat.ne_of_lt (List.getElem?_eq_some_iff.mp hf66).1) hf77
  have hf88 : (SNX5_12 S o)[S.length]? = some (1, 6, []) := hb86.2.2.2.2 _ _ (Nat.ne_of_lt (List.getElem?_eq_some_iff.mp hf67).1) hf78
  have hf89 : (SNX5_12 S o)[(SNX5_2 S o).length]? = some (6, 15, [none, none, none, none, none, none, none, none, none, none, none, some (some (RNX4_11 (SNX5_3 S o) (SNX5_2 S o).length)), some (some (RNX4_12 (SNX5_3 S o) (SNX5_2 S o).length)), some (some (RNX4_13 (SNX5_3 S o) (SNX5_2 S o).length)), some (some (RNX4_14 (SNX5_3 S o) (SNX5_2 S o).length))]) := hb86.2.2.2.2 _ _ (Nat.ne_of_lt (List.getElem?_eq_some_iff.mp hf68).1) hf79
  have hf90 : (SNX5_12 S o)[(SNX5_4 S o).length]? = some (6, 15, [none, none, none, none, none, none, none, none, none, none, none, some (some (RNX4_11 (SNX5_5 S o) (SNX5_4 S o).length)), some (some (RNX4_12 (SNX5_5 S o) (SNX5_4 S o).length)), some (some (RNX4_13 (SNX5_5 S o) (SNX5_4 S o).length)), some (some (RNX4_14 (SNX5_5 S o) (SNX5_4 S o).length))]) := hb86.2.2.2.2 _ _ (Nat.ne_of_lt (List.getElem?_eq_some_iff.mp hf69).1) hf80
  have hf91 : (SNX5_12 S o)[(SNX5_6 S o).length]? = some (6, 15, [none, none, none, none, none, none, none, none, none, none, none, some (some (RNX4_11 (SNX5_7 S o) (SNX5_6 S o).length)), some (some (RNX4_12 (SNX5_7 S o) (SNX5_6 S o).length)), some (some (RNX4_13 (SNX5_7 S o) (SNX5_6 S o).length)), some (some (RNX4_14 (SNX5_7 S o) (SNX5_6 S o).length))]) := hb86.2.2.2.2 _ _ (Nat.ne_of_lt (List.getElem?_eq_some_iff.mp hf70).1) hf81
  have hf92 : (SNX5_12 S o)[(SNX5_8 S o).length]? = some (6, 15, [none, none, none, none, none, none, none, none, none, none, none, some (some (RNX4_11 (SNX5_9 S o) (SNX5_8 S o).length)), some (some (RNX4_12 (SNX5_9 S o) (SNX5_8 S o).length)), some (some (RNX4_13 (SNX5_9 S o) (SNX5_8 S o).length)), some (some (RNX4_14 (SNX5_9 S o) (SNX5_8 S o).length))]) := hb86.2.2.2.2 _ _ (Nat.ne_of_lt (List.getElem?_eq_some_iff.mp hf71).1) hf82
  have hf93 : (SNX5_12 S o)[(SNX5_10 S o).length]? = some (6, 15, [none, none, none, none, none, none, none, none, none, none, none, some (some (RNX4_11 (SNX5_11 S o) (SNX5_10 S o).length)), some (some (RNX4_12 (SNX5_11 S o) (SNX5_10 S o).length)), some (some (RNX4_13 (SNX5_11 S o) (SNX5_10 S o).length)), some (some (RNX4_14 (SNX5_11 S o) (SNX5_10 S o).length))]) := hb86.1
  have hw94 : ie_wf (SNX5_12 S o) (MNX5_9 S M o) := hb86.2.1
  have hz95 : ie_zr (SNX5_12 S o) (MNX5_9 S M o) := hb86.2.2.1
  have hB4 : (SNX5_12 S o).length ≤ 100000 := le_len hB len12 (by decide)
  have hb96 : (SNX5_10 S o).length < 100000 := Nat.lt_of_lt_of_le ((List.getElem?_eq_some_iff.mp hf93).1) hB4
  have hw97 : ie_wf (SNX5_12 S o) (MNX5_10 S M o) := wf_ms hw94 hf88 (Or.inr (nw_le hb96 ((List.getElem?_eq_some_iff.mp hf93).1)))
  have hz98 : ie_zr (SNX5_12 S o) (MNX5_10 S M o) := zr_ms hz95 ((List.getElem?_eq_some_iff.mp hf88).1)
  have hf99 : (SNX5_13 S o)[o]? = some (7, 2, [none, some (some S.length)]) := ap_at hf87
  have hf100 : (SNX5_13 S o)[S.length]? = some (1, 6, []) := ap_at hf88
  have hf101 : (SNX5_13 S o)[(SNX5_2 S o).length]? = some (6, 15, [none, none, none, none, none, none, none, none, none, none, none, some (some (RNX4_11 (SNX5_3 S o) (SNX5_2 S o).length)), some (some (RNX4_12 (SNX5_3 S o) (SNX5_2 S o).length)), some (some (RNX4_13 (SNX5_3 S o) (SNX5_2 S o).length)), some (some (RNX4_14 (SNX5_3 S o) (SNX5_2 S o).length))]) := ap_at hf89
  have hf102 : (SNX5_13 S o)[(SNX5_4 S o).length]? = some (6, 15, [none, none, none, none, none, none, none, none, none, none, none, some (some (RNX4_11 (SNX5_5 S o) (SNX5_4 S o).length)), some (some (RNX4_12 (SNX5_5 S o) (SNX5_4 S o).length)), some (some (RNX4_13 (SNX5_5 S o) (SNX5_4 S o).length)), some (some (RNX4_14 (SNX5_5 S o) (SNX5_4 S o).length))]) := ap_at hf90
  have hf103 : (SNX5_13 S o)[(SNX5_6 S o).length]? = some (6, 15, [none, none, none, none, none, none, none, none, none, none, none, some (some (RNX4_11 (SNX5_7 S o) (SNX5_6 S o).length)), some (some (RNX4_12 (SNX5_7 S o) (SNX5_6 S o).length)), some (some (RNX4_13 (SNX5_7 S o) (SNX5_6 S o).length)), some (some (RNX4_14 (SNX5_7 S o) (SNX5_6 S o).length))]) := ap_at hf91
  have hf104 : (SNX5_13 S o)[(SNX5_8 S o).length]? = some (6, 15, [none, none, none, none, none, none, none, none, none, none, none, some (some (RNX4_11 (SNX5_9 S o) (SNX5_8 S o).length)), some (some (RNX4_12 (SNX5_9 S o) (SNX5_8 S o).length)), some (some (RNX4_13 (SNX5_9 S o) (SNX5_8 S o).length)), some (some (RNX4_14 (SNX5_9 S o) (SNX5_8 S o).length))]) := ap_at hf92
  have hf105 : (SNX5_13 S o)[(SNX5_10 S o).length]? = some (6, 15, [none, none, none, none, none, none, none, none, none, none, none, some (some (RNX4_11 (SNX5_11 S o) (SNX5_10 S o).length)), some (some (RNX4_12 (SNX5_11 S o) (SNX5_10 S o).length)), some (some (RNX4_13 (SNX5_11 S o) (SNX5_10 S o).length)), some (some (RNX4_14 (SNX5_11 S o) (SNX5_10 S o).length))]) := ap_at hf93
  have hf106 : (SNX5_13 S o)[(SNX5_12 S o).length]? = some (6, 15, [none, none, none, none, none, none, none, none, none, none, none, some none, some none, some none, some none]) := nw_at
  have hw107 : ie_wf (SNX5_13 S o) (MNX5_10 S M o) := wf_app hw97 (by simp) hz98
  have hz108 : ie_zr (SNX5_13 S o) (MNX5_10 S M o) := zr_app hz98
  have hb109 : CBX4 (SNX5_13 S o) (MNX5_10 S M o) (SNX5_12 S o).length := cb_X4 hf106 hw107 hz108
  have len14 : (SNX5_14 S o).length = S.length + 31 := l_cal hb109.2.2.2.1 len13
  have hf110 : (SNX5_14 S o)[o]? = some (7, 2, [none, some (some S.length)]) := hb109.2.2.2.2 _ _ (Nat.ne_of_lt (List.getElem?_eq_some_iff.mp hf87).1) hf99
  have hf111 : (SNX5_14 S o)[S.length]? = some (1, 6, []) := hb109.2.2.2.2 _ _ (Nat.ne_of_lt (List.getElem?_eq_some_iff.mp hf88).1) hf100
  have hf112 : (SNX5_14 S o)[(SNX5_2 S o).length]? = some (6, 15, [none, none, none, none, none, none, none, none, none, none, none, some (some (RNX4_11 (SNX5_3 S o) (SNX5_2 S o).length)), some (some (RNX4_12 (SNX5_3 S o) (SNX5_2 S o).length)), some (some (RNX4_13 (SNX5_3 S o) (SNX5_2 S o).length)), some (some (RNX4_14 (SNX5_3 S o) (SNX5_2 S o).length))]) := hb109.2.2.2.2 _ _ (Nat.ne_of_lt (List.getElem?_eq_some_iff.mp hf89).1) hf101
  have hf113 : (SNX5_14 S o)[(SNX5_4 S o).length]? = some (6, 15, [none, none, none, none, none, none, none, none, none, none, none, some (some (RNX4_11 (SNX5_5 S o) (SNX5_4 S o).length)), some (some (RNX4_12 (SNX5_5 S o) (SNX5_4 S o).length)), some (some (RNX4_13 (SNX5_5 S o) (SNX5_4 S o).length)), some (some (RNX4_14 (SNX5_5 S o) (SNX5_4 S o).length))]) := hb109.2.2.2.2 _ _ (Nat.ne_of_lt (List.getElem?_eq_some_iff.mp hf90).1) hf102
  have hf114 : (SNX5_14 S o)[(SNX5_6 S o).length]? = some (6, 15, [none, none, none, none, none, none, none, none, none, none, none, some (some (RNX4_11 (SNX5_7 S o) (SNX5_6 S o).length)), some (some (RNX4_12 (SNX5_7 S o) (SNX5_6 S o).length)), some (some (RNX4_13 (SNX5_7 S o) (SNX5_6 S o).length)), some (some (RNX4_14 (SNX5_7 S o) (SNX5_6 S o).length))]) := hb109.2.2.2.2 _ _ (Nat.ne_of_lt (List.getElem?_eq_some_iff.mp hf91).1) hf103
  have hf115 : (SNX5_14 S o)[(SNX5_8 S o).length]? = some (6, 15, [none, none, none, none, none, none, none, none, none, none, none, some (some (RNX4_11 (SNX5_9 S o) (SNX5_8 S o).length)), some (some (RNX4_12 (SNX5_9 S o) (SNX5_8 S o).length)), some (some (RNX4_13 (SNX5_9 S o) (SNX5_8 S o).length)), some (some (RNX4_14 (SNX5_9 S o) (SNX5_8 S o).length))]) := hb109.2.2.2.2 _ _ (Nat.ne_of_lt (List.getElem?_eq_some_iff.mp hf92).1) hf104
  have hf116 : (SNX5_14 S o)[(SNX5_10 S o).length]? = some (6, 15, [none, none, none, none, none, none, none, none, none, none, none, some (some (RNX4_11 (SNX5_11 S o) (SNX5_10 S o).length)), some (some (RNX4_12 (SNX5_11 S o) (SNX5_10 S o).length)), some (some (RNX4_13 (SNX5_11 S o) (SNX5_10 S o).length)), some (some (RNX4_14 (SNX5_11 S o) (SNX5_10 S o).length))]) := hb109.2.2.2.2 _ _ (Nat.ne_of_lt (List.getElem?_eq_some_iff.mp hf93).1) hf105
  have hf117 : (SNX5_14 S o)[(SNX5_12 S o).length]? = some (6, 15, [none, none, none, none, none, none, none, none, none, none, none, some (some (RNX4_11 (SNX5_13 S o) (SNX5_12 S o).length)), some (some (RNX4_12 (SNX5_13 S o) (SNX5_12 S o).length)), some (some (RNX4_13 (SNX5_13 S o) (SNX5_12 S o).length)), some (some (RNX4_14 (SNX5_13 S o) (SNX5_12 S o).length))]) := hb109.1
  have hw118 : ie_wf (SNX5_14 S o) (MNX5_11 S M o) := hb109.2.1
  have hz119 : ie_zr (SNX5_14 S o) (MNX5_11 S M o) := hb109.2.2.1
  have hB5 : (SNX5_14 S o).length ≤ 100000 := le_len hB len14 (by decide)
  have hb120 : (SNX5_12 S o).length < 100000 := Nat.lt_of_lt_of_le ((List.getElem?_eq_some_iff.mp hf117).1) hB5
  have hw121 : ie_wf (SNX5_14 S o) (MNX5_12 S M o) := wf_ms hw118 hf111 (Or.inr (nw_le hb120 ((List.getElem?_eq_some_iff.mp hf117).1)))
  have hz122 : ie_zr (SNX5_14 S o) (MNX5_12 S M o) := zr_ms hz119 ((List.getElem?_eq_some_iff.mp hf111).1)
  exact ⟨hf110, hw121, hz122, len14, fun p x hp h => (hb109.2.2.2.2 _ _ (fun e => absurd (List.getElem?_eq_some_iff.mp h).1 (nlt_len len12 e)) (ap_at (hb86.2.2.2.2 _ _ (fun e => absurd (List.getElem?_eq_some_iff.mp h).1 (nlt_len len10 e)) (ap_at (hb65.2.2.2.2 _ _ (fun e => absurd (List.getElem?_eq_some_iff.mp h).1 (nlt_len len8 e)) (ap_at (hb46.2.2.2.2 _ _ (fun e => absurd (List.getElem?_eq_some_iff.mp h).1 (nlt_len len6 e)) (ap_at (hb29.2.2.2.2 _ _ (fun e => absurd (List.getElem?_eq_some_iff.mp h).1 (nlt_len len4 e)) (ap_at (hb14.2.2.2.2 _ _ (fun e => absurd (List.getElem?_eq_some_iff.mp h).1 (nlt_len len2 e)) (ap_at (st_at' (ap_at h) (fun e => hp e.symm))))))))))))))⟩
set_option maxRecDepth 100000 in
set_option maxHeartbeats 8000000 in
theorem tc_X5 {g : IG} {a : Nat → Nat} {S : List IK} {M : IM} {o : Nat} (ho : S[o]? = some (7, 2, [none, some none])) (hwf : ie_wf S M) (hz : ie_zr S M) (hB : S.length < 1000) : Cn g mX5_init 2 31 336 (qC (SNX5 S o) (MNX5 S M o) S.length a) [.ref (a o)] a S M := by
  refine Cn_of (L := [some (.ref (a o)), none]) mf_X5_init (cat_r cat_0) (Nat.le_of_ble_eq_true rfl) rfl ?_
  have len1 : (SNX5_1 S o).length = S.length + 1 := l_app rfl
  have len2 : (SNX5_2 S o).length = S.length + 1 := l_set len1
  have len3 : (SNX5_3 S o).length = S.length + 2 := l_app len2
  refine V_aload_n rfl dX5_init_0 rfl rfl ?_
  refine V_obj rfl dX5_init_1 ⟨w_399, w_166, w_167⟩ rfl ?_
  refine V_aload_n rfl dX5_init_4 rfl rfl ?_
  refine V_bipush (v := 6) rfl dX5_init_5 kb_6 ?_
  refine V_newq (n := 6) (fun a => [some (.ref (a o)), none]) (fun a => [.ref (a o)]) rfl dX5_init_7 w_400 (by decide +kernel) hwf hz ⟨rfl, rfl⟩ (fun a' h => ⟨by first | rfl | simp only [h _ ((List.getElem?_eq_some_iff.mp ho).1)], by first | rfl | simp only [h _ ((List.getElem?_eq_some_iff.mp ho).1)]⟩) (fun a1 hg0 => ?_)
  have hf1 : (SNX5_1 S o)[o]? = some (7, 2, [none, some none]) := ap_at ho
  have hf2 : (SNX5_1 S o)[S.length]? = some (1, 6, []) := nw_at
  have hw3 : ie_wf (SNX5_1 S o) M := wf_app hwf (by simp) hz
  have hz4 : ie_zr (SNX5_1 S o) M := zr_app hz
  show V _ _ _ _ _ _ _ _ _ _ (SNX5_1 S o) M _ _
  refine V_putr (k0 := 1) (ty := (.array (.object "NeverHalted$Now"))) (r := S.length) rfl dX5_init_10 hf1 icX5 tyX5_ok nmX5 (by decide) (Nat.le_of_ble_eq_true rfl) w_405 rfl rfl rfl (tyX5_ok _ (by decide)) rfl rfl ?_
  have hf5 : (SNX5_2 S o)[o]? = some (7, 2, [none, some (some S.length)]) := st_at hf1
  have hf6 : (SNX5_2 S o)[S.length]? = some (1, 6, []) := st_at' hf2 (Nat.ne_of_lt (List.getElem?_eq_some_iff.mp ho).1)
  have hw7 : ie_wf (SNX5_2 S o) M := by have zz := wf_set (i := 1) (r := S.length) hw3 hf1 ((List.getElem?_eq_some_iff.mp hf2).1); exact zz
  have hz8 : ie_zr (SNX5_2 S o) M := zr_set hz4
  show V _ _ _ _ _ _ _ _ _ _ (SNX5_2 S o) M _ _
  refine V_iconst (v := 0) rfl dX5_init_13 kc_0 ?_
  refine V_istore_n (L' := [_, _]) rfl rfl dX5_init_14 (by decide) rfl ?_
  refine V_iload_n rfl dX5_init_15 rfl rfl ?_
  refine V_bipush (v := 6) rfl dX5_init_16 kb_6 ?_
  refine V_icmp_ge (t := 40) rfl rfl dX5_init_18 (fun hcc => absurd hcc (by decide)) (fun _ => ?_)
  refine V_aload_n rfl dX5_init_21 rfl rfl ?_
  refine V_getr (k0 := 1) rfl dX5_init_22 hf5 icX5 (by decide) rfl w_405 ?_
  refine V_iload_n rfl dX5_init_25 rfl rfl ?_
  refine V_new (fun a => [some (.ref (a o)), some (.int 0)]) (fun a => [.int 0, .ref (a S.length)]) rfl dX5_init_26 icX4 rfl tyX4_ok ⟨w_400, w_169, w_140⟩ (fs := [none, none, none, none, none, none, none, none, none, none, none, some none, some none, some none, some none]) (by decide +kernel) (by simp) hw7 hz8 ⟨rfl, rfl⟩ (fun a' h => ⟨by first | rfl | simp only [h _ ((List.getElem?_eq_some_iff.mp hf6).1), h _ ((List.getElem?_eq_some_iff.mp hf5).1)], by first | rfl | simp only [h _ ((List.getElem?_eq_some_iff.mp hf6).1), h _ ((List.getElem?_eq_some_iff.mp hf5).1)]⟩) (fun a11 hg1 => ?_)
  have hf9 : (SNX5_3 S o)[o]? = some (7, 2, [none, some (some S.length)]) := ap_at hf5
  have hf10 : (SNX5_3 S o)[S.length]? = some (1, 6, []) := ap_at hf6
  have hf11 : (SNX5_3 S o)[(SNX5_2 S o).length]? = some (6, 15, [none, none, none, none, none, none, none, none, none, none, none, some none, some none, some none, some none]) := nw_at
  have hw12 : ie_wf (SNX5_3 S o) M := wf_app hw7 (by simp) hz8
  have hz13 : ie_zr (SNX5_3 S o) M := zr_app hz8
  show V _ _ _ _ _ _ _ _ _ _ (SNX5_3 S o) M _ _
  refine V_dup rfl dX5_init_29 rfl ?_
  refine V_inin (mc' := 4) (ns' := 40) (d' := 1) (As := []) (S' := (SNX4 (SNX5_3 S o) (SNX5_2 S o).length)) (M' := (MNX4 (SNX5_3 S o) M (SNX5_2 S o).length)) (fun a => [some (.ref (a o)), some (.int 0)]) (fun a => [.ref (a (SNX5_2 S o).length), .int 0, .ref (a S.length)]) rfl dX5_init_30 mf_X4_init rfl rfl w_171 w_402 (by decide) ⟨rfl, rfl⟩ rfl rfl rfl (fun a' h => ⟨by first | rfl | simp only [h _ ((List.getElem?_eq_some_iff.mp hf11).1), h _ ((List.getElem?_eq_some_iff.mp hf10).1), h _ ((List.getElem?_eq_some_iff.mp hf9).1)], by first | rfl | simp only [h _ ((List.getElem?_eq_some_iff.mp hf11).1), h _ ((List.getElem?_eq_some_iff.mp hf10).1), h _ ((List.getElem?_eq_some_iff.mp hf9).1)]⟩) (tc_X4 hf11 hw12 hz13) (fun a111 hg2 => ?_)
  have hb14 : CBX4 (SNX5_3 S o) M (SNX5_2 S o).length := cb_X4 hf11 hw12 hz13
  have len4 : (SNX5_4 S o).length = S.length + 6 := l_cal hb14.2.2.2.1 len3
  have len5 : (SNX5_5 S o).length = S.length + 7 := l_app len4
  have hf15 : (SNX5_4 S o)[o]? = some (7, 2, [none, some (some S.length)]) := hb14.2.2.2.2 _ _ (Nat.ne_of_lt (List.getElem?_eq_some_iff.mp hf5).1) hf9
  have hf16 : (SNX5_4 S o)[S.length]? = some (1, 6, []) := hb14.2.2.2.2 _ _ (Nat.ne_of_lt (List.getElem?_eq_some_iff.mp hf6).1) hf10
  have hf17 : (SNX5_4 S o)[(SNX5_2 S o).length]? = some (6, 15, [none, none, none, none, none, none, none, none, none, none, none, some (some (RNX4_11 (SNX5_3 S o) (SNX5_2 S o).length)), some (some (RNX4_12 (SNX5_3 S o) (SNX5_2 S o).length)), some (some (RNX4_13 (SNX5_3 S o) (SNX5_2 S o).length)), some (some (RNX4_14 (SNX5_3 S o) (SNX5_2 S o).length))]) := hb14.1
  have hw18 : ie_wf (SNX5_4 S o) (MNX5_1 S M o) := hb14.2.1
  have hz19 : ie_zr (SNX5_4 S o) (MNX5_1 S M o) := hb14.2.2.1
  show V _ _ _ _ _ _ _ _ _ _ (SNX5_4 S o) (MNX5_1 S M o) _ _
  have hB0 : (SNX5_4 S o).length ≤ 100000 := le_len hB len4 (by decide)
  have hb20 : (SNX5_2 S o).length < 100000 := Nat.lt_of_lt_of_le ((List.getElem?_eq_some_iff.mp hf17).1) hB0
  refine V_aastK (k := 0) (x := Int32.ofNat ((SNX5_2 S o).length + 1)) rfl dX5_init_33 hf16 hf17 rfl (ie_in_nw hb20).1 (ie_in_nw hb20).2 (by decide +kernel) (by decide +kernel) ?_
  have hw21 : ie_wf (SNX5_4 S o) (MNX5_2 S M o) := wf_ms hw18 hf16 (Or.inr (nw_le hb20 ((List.getElem?_eq_some_iff.mp hf17).1)))
  have hz22 : ie_zr (SNX5_4 S o) (MNX5_2 S M o) := zr_ms hz19 ((List.getElem?_eq_some_iff.mp hf16).1)
  show V _ _ _ _ _ _ _ _ _ _ (SNX5_4 S o) (MNX5_2 S M o) _ _
  refine V_iinc (v := 1) (L' := [_, _]) rfl dX5_init_34 rfl (by decide +kernel) (by decide) rfl ?_
  refine V_goto (t := 15) rfl dX5_init_37 ?_
  refine V_iload_n rfl dX5_init_15 rfl rfl ?_
  refine V_bipush (v := 6) rfl dX5_init_16 kb_6 ?_
  refine V_icmp_ge (t := 40) rfl rfl dX5_init_18 (fun hcc => absurd hcc (by decide)) (fun _ => ?_)
  refine V_aload_n rfl dX5_init_21 rfl rfl ?_
  refine V_getr (k0 := 1) rfl dX5_init_22 hf15 icX5 (by decide) rfl w_405 ?_
  refine V_iload_n rfl dX5_init_25 rfl rfl ?_
  refine V_new (fun a => [some (.ref (a o)), some (.int 1)]) (fun a => [.int 1, .ref (a S.length)]) rfl dX5_init_26 icX4 rfl tyX4_ok ⟨w_400, w_169, w_140⟩ (fs := [none, none, none, none, none, none, none, none, none, none, none, some none, some none, some none, some none]) (by decide +kernel) (by simp) hw21 hz22 ⟨rfl, rfl⟩ (fun a' h => ⟨by first | rfl | simp only [h _ ((List.getElem?_eq_some_iff.mp hf16).1), h _ ((List.getElem?_eq_some_iff.mp hf15).1)], by first | rfl | simp only [h _ ((List.getElem?_eq_some_iff.mp hf16).1), h _ ((List.getElem?_eq_some_iff.mp hf15).1)]⟩) (fun a1111 hg3 => ?_)
  have hf23 : (SNX5_5 S o)[o]? = some (7, 2, [none, some (some S.length)]) := ap_at hf15
  have hf24 : (SNX5_5 S o)[S.length]? = some (1, 6, []) := ap_at hf16
  have hf25 : (SNX5_5 S o)[(SNX5_2 S o).length]? = some (6, 15, [none, none, none, none, none, none, none, none, none, none, none, some (some (RNX4_11 (SNX5_3 S o) (SNX5_2 S o).length)), some (some (RNX4_12 (SNX5_3 S o) (SNX5_2 S o).length)), some (some (RNX4_13 (SNX5_3 S o) (SNX5_2 S o).length)), some (some (RNX4_14 (SNX5_3 S o) (SNX5_2 S o).length))]) := ap_at hf17
  have hf26 : (SNX5_5 S o)[(SNX5_4 S o).length]? = some (6, 15, [none, none, none, none, none, none, none, none, none, none, none, some none, some none, some none, some none]) := nw_at
  have hw27 : ie_wf (SNX5_5 S o) (MNX5_2 S M o) := wf_app hw21 (by simp) hz22
  have hz28 : ie_zr (SNX5_5 S o) (MNX5_2 S M o) := zr_app hz22
  show V _ _ _ _ _ _ _ _ _ _ (SNX5_5 S o) (MNX5_2 S M o) _ _
  refine V_dup rfl dX5_init_29 rfl ?_
  refine V_inin (mc' := 4) (ns' := 40) (d' := 1) (As := []) (S' := (SNX4 (SNX5_5 S o) (SNX5_4 S o).length)) (M' := (MNX4 (SNX5_5 S o) (MNX5_2 S M o) (SNX5_4 S o).length)) (fun a => [some (.ref (a o)), some (.int 1)]) (fun a => [.ref (a (SNX5_4 S o).length), .int 1, .ref (a S.length)]) rfl dX5_init_30 mf_X4_init rfl rfl w_171 w_402 (by decide) ⟨rfl, rfl⟩ rfl rfl rfl (fun a' h => ⟨by first | rfl | simp only [h _ ((List.getElem?_eq_some_iff.mp hf26).1), h _ ((List.getElem?_eq_some_iff.mp hf24).1), h _ ((List.getElem?_eq_some_iff.mp hf23).1)], by first | rfl | simp only [h _ ((List.getElem?_eq_some_iff.mp hf26).1), h _ ((List.getElem?_eq_some_iff.mp hf24).1), h _ ((List.getElem?_eq_some_iff.mp hf23).1)]⟩) (tc_X4 hf26 hw27 hz28) (fun a11111 hg4 => ?_)
  have hb29 : CBX4 (SNX5_5 S o) (MNX5_2 S M o) (SNX5_4 S o).length := cb_X4 hf26 hw27 hz28
  have len6 : (SNX5_6 S o).length = S.length + 11 := l_cal hb29.2.2.2.1 len5
  have len7 : (SNX5_7 S o).length = S.length + 12 := l_app len6
  have hf30 : (SNX5_6 S o)[o]? = some (7, 2, [none, some (some S.length)]) := hb29.2.2.2.2 _ _ (Nat.ne_of_lt (List.getElem?_eq_some_iff.mp hf15).1) hf23
  have hf31 : (SNX5_6 S o)[S.length]? = some (1, 6, []) := hb29.2.2.2.2 _ _ (Nat.ne_of_lt (List.getElem?_eq_some_iff.mp hf16).1) hf24
  have hf32 : (SNX5_6 S o)[(SNX5_2 S o).length]? = some (6, 15, [none, none, none, none, none, none, none, none, none, none, none, some (some (RNX4_11 (SNX5_3 S o) (SNX5_2 S o).length)), some (some (RNX4_12 (SNX5_3 S o) (SNX5_2 S o).length)), some (some (RNX4_13 (SNX5_3 S o) (SNX5_2 S o).length)), some (some (RNX4_14 (SNX5_3 S o) (SNX5_2 S o).length))]) := hb29.2.2.2.2 _ _ (Nat.ne_of_lt (List.getElem?_eq_some_iff.mp hf17).1) hf25
  have hf33 : (SNX5_6 S o)[(SNX5_4 S o).length]? = some (6, 15, [none, none, none, none, none, none, none, none, none, none, none, some (some (RNX4_11 (SNX5_5 S o) (SNX5_4 S o).length)), some (some (RNX4_12 (SNX5_5 S o) (SNX5_4 S o).length)), some (some (RNX4_13 (SNX5_5 S o) (SNX5_4 S o).length)), some (some (RNX4_14 (SNX5_5 S o) (SNX5_4 S o).length))]) := hb29.1
  have hw34 : ie_wf (SNX5_6 S o) (MNX5_3 S M o) := hb29.2.1
  have hz35 : ie_zr (SNX5_6 S o) (MNX5_3 S M o) := hb29.2.2.1
  show V _ _ _ _ _ _ _ _ _ _ (SNX5_6 S o) (MNX5_3 S M o) _ _
  have hB1 : (SNX5_6 S o).length ≤ 100000 := le_len hB len6 (by decide)
  have hb36 : (SNX5_4 S o).length < 100000 := Nat.lt_of_lt_of_le ((List.getElem?_eq_some_iff.mp hf33).1) hB1
  refine V_aastK (k := 1) (x := Int32.ofNat ((SNX5_4 S o).length + 1)) rfl dX5_init_33 hf31 hf33 rfl (ie_in_nw hb36).1 (ie_in_nw hb36).2 (by decide +kernel) (by decide +kernel) ?_
  have hw37 : ie_wf (SNX5_6 S o) (MNX5_4 S M o) := wf_ms hw34 hf31 (Or.inr (nw_le hb36 ((List.getElem?_eq_some_iff.mp hf33).1)))
  have hz38 : ie_zr (SNX5_6 S o) (MNX5_4 S M o) := zr_ms hz35 ((List.getElem?_eq_some_iff.mp hf31).1)
  show V _ _ _ _ _ _ _ _ _ _ (SNX5_6 S o) (MNX5_4 S M o) _ _
  refine V_iinc (v := 2) (L' := [_, _]) rfl dX5_init_34 rfl (by decide +kernel) (by decide) rfl ?_
  refine V_goto (t := 15) rfl dX5_init_37 ?_
  refine V_iload_n rfl dX5_init_15 rfl rfl ?_
  refine V_bipush (v := 6) rfl dX5_init_16 kb_6 ?_
  refine V_icmp_ge (t := 40) rfl rfl dX5_init_18 (fun hcc => absurd hcc (by decide)) (fun _ => ?_)
  refine V_aload_n rfl dX5_init_21 rfl rfl ?_
  refine V_getr (k0 := 1) rfl dX5_init_22 hf30 icX5 (by decide) rfl w_405 ?_
  refine V_iload_n rfl dX5_init_25 rfl rfl ?_
  refine V_new (fun a => [some (.ref (a o)), some (.int 2)]) (fun a => [.int 2, .ref (a S.length)]) rfl dX5_init_26 icX4 rfl tyX4_ok ⟨w_400, w_169, w_140⟩ (fs := [none, none, none, none, none, none, none, none, none, none, none, some none, some none, some none, some none]) (by decide +kernel) (by simp) hw37 hz38 ⟨rfl, rfl⟩ (fun a' h => ⟨by first | rfl | simp only [h _ ((List.getElem?_eq_some_iff.mp hf31).1), h _ ((List.getElem?_eq_some_iff.mp hf30).1)], by first | rfl | simp only [h _ ((List.getElem?_eq_some_iff.mp hf31).1), h _ ((List.getElem?_eq_some_iff.mp hf30).1)]⟩) (fun a111111 hg5 => ?_)
  have hf39 : (SNX5_7 S o)[o]? = some (7, 2, [none, some (some S.length)]) := ap_at hf30
  have hf40 : (SNX5_7 S o)[S.length]? = some (1, 6, []) := ap_at hf31
  have hf41 : (SNX5_7 S o)[(SNX5_2 S o).length]? = some (6, 15, [none, none, none, none, none, none, none, none, none, none, none, some (some (RNX4_11 (SNX5_3 S o) (SNX5_2 S o).length)), some (some (RNX4_12 (SNX5_3 S o) (SNX5_2 S o).length)), some (some (RNX4_13 (SNX5_3 S o) (SNX5_2 S o).length)), some (some (RNX4_14 (SNX5_3 S o) (SNX5_2 S o).length))]) := ap_at hf32
  have hf42 : (SNX5_7 S o)[(SNX5_4 S o).length]? = some (6, 15, [none, none, none, none, none, none, none, none, none, none, none, some (some (RNX4_11 (SNX5_5 S o) (SNX5_4 S o).length)), some (some (RNX4_12 (SNX5_5 S o) (SNX5_4 S o).length)), some (some (RNX4_13 (SNX5_5 S o) (SNX5_4 S o).length)), some (some (RNX4_14 (SNX5_5 S o) (SNX5_4 S o).length))]) := ap_at hf33
  have hf43 : (SNX5_7 S o)[(SNX5_6 S o).length]? = some (6, 15, [none, none, none, none, none, none, none, none, none, none, none, some none, some none, some none, some none]) := nw_at
  have hw44 : ie_wf (SNX5_7 S o) (MNX5_4 S M o) := wf_app hw37 (by simp) hz38
  have hz45 : ie_zr (SNX5_7 S o) (MNX5_4 S M o) := zr_app hz38
  show V _ _ _ _ _ _ _ _ _ _ (SNX5_7 S o) (MNX5_4 S M o) _ _
  refine V_dup rfl dX5_init_29 rfl ?_
  refine V_inin (mc' := 4) (ns' := 40) (d' := 1) (As := []) (S' := (SNX4 (SNX5_7 S o) (SNX5_6 S o).length)) (M' := (MNX4 (SNX5_7 S o) (MNX5_4 S M o) (SNX5_6 S o).length)) (fun a => [some (.ref (a o)), some (.int 2)]) (fun a => [.ref (a (SNX5_6 S o).length), .int 2, .ref (a S.length)]) rfl dX5_init_30 mf_X4_init rfl rfl w_171 w_402 (by decide) ⟨rfl, rfl⟩ rfl rfl rfl (fun a' h => ⟨by first | rfl | simp only [h _ ((List.getElem?_eq_some_iff.mp hf43).1), h _ ((List.getElem?_eq_some_iff.mp hf40).1), h _ ((List.getElem?_eq_some_iff.mp hf39).1)], by first | rfl | simp only [h _ ((List.getElem?_eq_some_iff.mp hf43).1), h _ ((List.getElem?_eq_some_iff.mp hf40).1), h _ ((List.getElem?_eq_some_iff.mp hf39).1)]⟩) (tc_X4 hf43 hw44 hz45) (fun a1111111 hg6 => ?_)
  have hb46 : CBX4 (SNX5_7 S o) (MNX5_4 S M o) (SNX5_6 S o).length := cb_X4 hf43 hw44 hz45
  have len8 : (SNX5_8 S o).length = S.length + 16 := l_cal hb46.2.2.2.1 len7
  have len9 : (SNX5_9 S o).length = S.length + 17 := l_app len8
  have hf47 : (SNX5_8 S o)[o]? = some (7, 2, [none, some (some S.length)]) := hb46.2.2.2.2 _ _ (Nat.ne_of_lt (List.getElem?_eq_some_iff.mp hf30).1) hf39
  have hf48 : (SNX5_8 S o)[S.length]? = some (1, 6, []) := hb46.2.2.2.2 _ _ (Nat.ne_of_lt (List.getElem?_eq_some_iff.mp hf31).1) hf40
  have hf49 : (SNX5_8 S o)[(SNX5_2 S o).length]? = some (6, 15, [none, none, none, none, none, none, none, none, none, none, none, some (some (RNX4_11 (SNX5_3 S o) (SNX5_2 S o).length)), some (some (RNX4_12 (SNX5_3 S o) (SNX5_2 S o).length)), some (some (RNX4_13 (SNX5_3 S o) (SNX5_2 S o).length)), some (some (RNX4_14 (SNX5_3 S o) (SNX5_2 S o).length))]) := hb46.2.2.2.2 _ _ (Nat.ne_of_lt (List.getElem?_eq_some_iff.mp hf32).1) hf41
  have hf50 : (SNX5_8 S o)[(SNX5_4 S o).length]? = some (6, 15, [none, none, none, none, none, none, none, none, none, none, none, some (some (RNX4_11 (SNX5_5 S o) (SNX5_4 S o).length)), some (some (RNX4_12 (SNX5_5 S o) (SNX5_4 S o).length)), some (some (RNX4_13 (SNX5_5 S o) (SNX5_4 S o).length)), some (some (RNX4_14 (SNX5_5 S o) (SNX5_4 S o).length))]) := hb46.2.2.2.2 _ _ (Nat.ne_of_lt (List.getElem?_eq_some_iff.mp hf33).1) hf42
  have hf51 : (SNX5_8 S o)[(SNX5_6 S o).length]? = some (6, 15, [none, none, none, none, none, none, none, none, none, none, none, some (some (RNX4_11 (SNX5_7 S o) (SNX5_6 S o).length)), some (some (RNX4_12 (SNX5_7 S o) (SNX5_6 S o).length)), some (some (RNX4_13 (SNX5_7 S o) (SNX5_6 S o).length)), some (some (RNX4_14 (SNX5_7 S o) (SNX5_6 S o).length))]) := hb46.1
  have hw52 : ie_wf (SNX5_8 S o) (MNX5_5 S M o) := hb46.2.1
  have hz53 : ie_zr (SNX5_8 S o) (MNX5_5 S M o) := hb46.2.2.1
  show V _ _ _ _ _ _ _ _ _ _ (SNX5_8 S o) (MNX5_5 S M o) _ _
  have hB2 : (SNX5_8 S o).length ≤ 100000 := le_len hB len8 (by decide)
  have hb54 : (SNX5_6 S o).length < 100000 := Nat.lt_of_lt_of_le ((List.getElem?_eq_some_iff.mp hf51).1) hB2
  refine V_aastK (k := 2) (x := Int32.ofNat ((SNX5_6 S o).length + 1)) rfl dX5_init_33 hf48 hf51 rfl (ie_in_nw hb54).1 (ie_in_nw hb54).2 (by decide +kernel) (by decide +kernel) ?_
  have hw55 : ie_wf (SNX5_8 S o) (MNX5_6 S M o) := wf_ms hw52 hf48 (Or.inr (nw_le hb54 ((List.getElem?_eq_some_iff.mp hf51).1)))
  have hz56 : ie_zr (SNX5_8 S o) (MNX5_6 S M o) := zr_ms hz53 ((List.getElem?_eq_some_iff.mp hf48).1)
  show V _ _ _ _ _ _ _ _ _ _ (SNX5_8 S o) (MNX5_6 S M o) _ _
  refine V_iinc (v := 3) (L' := [_, _]) rfl dX5_init_34 rfl (by decide +kernel) (by decide) rfl ?_
  refine V_goto (t := 15) rfl dX5_init_37 ?_
  refine V_iload_n rfl dX5_init_15 rfl rfl ?_
  refine V_bipush (v := 6) rfl dX5_init_16 kb_6 ?_
  refine V_icmp_ge (t := 40) rfl rfl dX5_init_18 (fun hcc => absurd hcc (by decide)) (fun _ => ?_)
  refine V_aload_n rfl dX5_init_21 rfl rfl ?_
  refine V_getr (k0 := 1) rfl dX5_init_22 hf47 icX5 (by decide) rfl w_405 ?_
  refine V_iload_n rfl dX5_init_25 rfl rfl ?_
  refine V_new (fun a => [some (.ref (a o)), some (.int 3)]) (fun a => [.int 3, .ref (a S.length)]) rfl dX5_init_26 icX4 rfl tyX4_ok ⟨w_400, w_169, w_140⟩ (fs := [none, none, none, none, none, none, none, none, none, none, none, some none, some none, some none, some none]) (by decide +kernel) (by simp) hw55 hz56 ⟨rfl, rfl⟩ (fun a' h => ⟨by first | rfl | simp only [h _ ((List.getElem?_eq_some_iff.mp hf48).1), h _ ((List.getElem?_eq_some_iff.mp hf47).1)], by first | rfl | simp only [h _ ((List.getElem?_eq_some_iff.mp hf48).1), h _ ((List.getElem?_eq_some_iff.mp hf47).1)]⟩) (fun a11111111 hg7 => ?_)
  have hf57 : (SNX5_9 S o)[o]? = some (7, 2, [none, some (some S.length)]) := ap_at hf47
  have hf58 : (SNX5_9 S o)[S.length]? = some (1, 6, []) := ap_at hf48
  have hf59 : (SNX5_9 S o)[(SNX5_2 S o).length]? = some (6, 15, [none, none, none, none, none, none, none, none, none, none, none, some (some (RNX4_11 (SNX5_3 S o) (SNX5_2 S o).length)), some (some (RNX4_12 (SNX5_3 S o) (SNX5_2 S o).length)), some (some (RNX4_13 (SNX5_3 S o) (SNX5_2 S o).length)), some (some (RNX4_14 (SNX5_3 S o) (SNX5_2 S o).length))]) := ap_at hf49
  have hf60 : (SNX5_9 S o)[(SNX5_4 S o).length]? = some (6, 15, [none, none, none, none, none, none, none, none, none, none, none, some (some (RNX4_11 (SNX5_5 S o) (SNX5_4 S o).length)), some (some (RNX4_12 (SNX5_5 S o) (SNX5_4 S o).length)), some (some (RNX4_13 (SNX5_5 S o) (SNX5_4 S o).length)), some (some (RNX4_14 (SNX5_5 S o) (SNX5_4 S o).length))]) := ap_at hf50
  have hf61 : (SNX5_9 S o)[(SNX5_6 S o).length]? = some (6, 15, [none, none, none, none, none, none, none, none, none, none, none, some (some (RNX4_11 (SNX5_7 S o) (SNX5_6 S o).length)), some (some (RNX4_12 (SNX5_7 S o) (SNX5_6 S o).length)), some (some (RNX4_13 (SNX5_7 S o) (SNX5_6 S o).length)), some (some (RNX4_14 (SNX5_7 S o) (SNX5_6 S o).length))]) := ap_at hf51
  have hf62 : (SNX5_9 S o)[(SNX5_8 S o).length]? = some (6, 15, [none, none, none, none, none, none, none, none, none, none, none, some none, some none, some none, some none]) := nw_at
  have hw63 : ie_wf (SNX5_9 S o) (MNX5_6 S M o) := wf_app hw55 (by simp) hz56
  have hz64 : ie_zr (SNX5_9 S o) (MNX5_6 S M o) := zr_app hz56
  show V _ _ _ _ _ _ _ _ _ _ (SNX5_9 S o) (MNX5_6 S M o) _ _
  refine V_dup rfl dX5_init_29 rfl ?_
  refine V_inin (mc' := 4) (ns' := 40) (d' := 1) (As := []) (S' := (SNX4 (SNX5_9 S o) (SNX5_8 S o).length)) (M' := (MNX4 (SNX5_9 S o) (MNX5_6 S M o) (SNX5_8 S o).length)) (fun a => [some (.ref (a o)), some (.int 3)]) (fun a => [.ref (a (SNX5_8 S o).length), .int 3, .ref (a S.length)]) rfl dX5_init_30 mf_X4_init rfl rfl w_171 w_402 (by decide) ⟨rfl, rfl⟩ rfl rfl rfl (fun a' h => ⟨by first | rfl | simp only [h _ ((List.getElem?_eq_some_iff.mp hf62).1), h _ ((List.getElem?_eq_some_iff.mp hf58).1), h _ ((List.getElem?_eq_some_iff.mp hf57).1)], by first | rfl | simp only [h _ ((List.getElem?_eq_some_iff.mp hf62).1), h _ ((List.getElem?_eq_some_iff.mp hf58).1), h _ ((List.getElem?_eq_some_iff.mp hf57).1)]⟩) (tc_X4 hf62 hw63 hz64) (fun a111111111 hg8 => ?_)
  have hb65 : CBX4 (SNX5_9 S o) (MNX5_6 S M o) (SNX5_8 S o).length := cb_X4 hf62 hw63 hz64
  have len10 : (SNX5_10 S o).length = S.length + 21 := l_cal hb65.2.2.2.1 len9
  have len11 : (SNX5_11 S o).length = S.length + 22 := l_app len10
  have hf66 : (SNX5_10 S o)[o]? = some (7, 2, [none, some (some S.length)]) := hb65.2.2.2.2 _ _ (Nat.ne_of_lt (List.getElem?_eq_some_iff.mp hf47).1) hf57
  have hf67 : (SNX5_10 S o)[S.length]? = some (1, 6, []) := hb65.2.2.2.2 _ _ (Nat.ne_of_lt (List.getElem?_eq_some_iff.mp hf48).1) hf58
  have hf68 : (SNX5_10 S o)[(SNX5_2 S o).length]? = some (6, 15, [none, none, none, none, none, none, none, none, none, none, none, some (some (RNX4_11 (SNX5_3 S o) (SNX5_2 S o).length)), some (some (RNX4_12 (SNX5_3 S o) (SNX5_2 S o).length)), some (some (RNX4_13 (SNX5_3 S o) (SNX5_2 S o).length)), some (some (RNX4_14 (SNX5_3 S o) (SNX5_2 S o).length))]) := hb65.2.2.2.2 _ _ (Nat.ne_of_lt (List.getElem?_eq_some_iff.mp hf49).1) hf59
  have hf69 : (SNX5_10 S o)[(SNX5_4 S o).length]? = some (6, 15, [none, none, none, none, none, none, none, none, none, none, none, some (some (RNX4_11 (SNX5_5 S o) (SNX5_4 S o).length)), some (some (RNX4_12 (SNX5_5 S o) (SNX5_4 S o).length)), some (some (RNX4_13 (SNX5_5 S o) (SNX5_4 S o).length)), some (some (RNX4_14 (SNX5_5 S o) (SNX5_4 S o).length))]) := hb65.2.2.2.2 _ _ (Nat.ne_of_lt (List.getElem?_eq_some_iff.mp hf50).1) hf60
  have hf70 : (SNX5_10 S o)[(SNX5_6 S o).length]? = some (6, 15, [none, none, none, none, none, none, none, none, none, none, none, some (some (RNX4_11 (SNX5_7 S o) (SNX5_6 S o).length)), some (some (RNX4_12 (SNX5_7 S o) (SNX5_6 S o).length)), some (some (RNX4_13 (SNX5_7 S o) (SNX5_6 S o).length)), some (some (RNX4_14 (SNX5_7 S o) (SNX5_6 S o).length))]) := hb65.2.2.2.2 _ _ (Nat.ne_of_lt (List.getElem?_eq_some_iff.mp hf51).1) hf61
  have hf71 : (SNX5_10 S o)[(SNX5_8 S o).length]? = some (6, 15, [none, none, none, none, none, none, none, none, none, none, none, some (some (RNX4_11 (SNX5_9 S o) (SNX5_8 S o).length)), some (some (RNX4_12 (SNX5_9 S o) (SNX5_8 S o).length)), some (some (RNX4_13 (SNX5_9 S o) (SNX5_8 S o).length)), some (some (RNX4_14 (SNX5_9 S o) (SNX5_8 S o).length))]) := hb65.1
  have hw72 : ie_wf (SNX5_10 S o) (MNX5_7 S M o) := hb65.2.1
  have hz73 : ie_zr (SNX5_10 S o) (MNX5_7 S M o) := hb65.2.2.1
  show V _ _ _ _ _ _ _ _ _ _ (SNX5_10 S o) (MNX5_7 S M o) _ _
  have hB3 : (SNX5_10 S o).length ≤ 100000 := le_len hB len10 (by decide)
  have hb74 : (SNX5_8 S o).length < 100000 := Nat.lt_of_lt_of_le ((List.getElem?_eq_some_iff.mp hf71).1) hB3
  refine V_aastK (k := 3) (x := Int32.ofNat ((SNX5_8 S o).length + 1)) rfl dX5_init_33 hf67 hf71 rfl (ie_in_nw hb74).1 (ie_in_nw hb74).2 (by decide +kernel) (by decide +kernel) ?_
  have hw75 : ie_wf (SNX5_10 S o) (MNX5_8 S M o) := wf_ms hw72 hf67 (Or.inr (nw_le hb74 ((List.getElem?_eq_some_iff.mp hf71).1)))
  have hz76 : ie_zr (SNX5_10 S o) (MNX5_8 S M o) := zr_ms hz73 ((List.getElem?_eq_some_iff.mp hf67).1)
  show V _ _ _ _ _ _ _ _ _ _ (SNX5_10 S o) (MNX5_8 S M o) _ _
  refine V_iinc (v := 4) (L' := [_, _]) rfl dX5_init_34 rfl (by decide +kernel) (by decide) rfl ?_
  refine V_goto (t := 15) rfl dX5_init_37 ?_
  refine V_iload_n rfl dX5_init_15 rfl rfl ?_
  refine V_bipush (v := 6) rfl dX5_init_16 kb_6 ?_
  refine V_icmp_ge (t := 40) rfl rfl dX5_init_18 (fun hcc => absurd hcc (by decide)) (fun _ => ?_)
  refine V_aload_n rfl dX5_init_21 rfl rfl ?_
  refine V_getr (k0 := 1) rfl dX5_init_22 hf66 icX5 (by decide) rfl w_405 ?_
  refine V_iload_n rfl dX5_init_25 rfl rfl ?_
  refine V_new (fun a => [some (.ref (a o)), some (.int 4)]) (fun a => [.int 4, .ref (a S.length)]) rfl dX5_init_26 icX4 rfl tyX4_ok ⟨w_400, w_169, w_140⟩ (fs := [none, none, none, none, none, none, none, none, none, none, none, some none, some none, some none, some none]) (by decide +kernel) (by simp) hw75 hz76 ⟨rfl, rfl⟩ (fun a' h => ⟨by first | rfl | simp only [h _ ((List.getElem?_eq_some_iff.mp hf67).1), h _ ((List.getElem?_eq_some_iff.mp hf66).1)], by first | rfl | simp only [h _ ((List.getElem?_eq_some_iff.mp hf67).1), h _ ((List.getElem?_eq_some_iff.mp hf66).1)]⟩) (fun a1111111111 hg9 => ?_)
  have hf77 : (SNX5_11 S o)[o]? = some (7, 2, [none, some (some S.length)]) := ap_at hf66
  have hf78 : (SNX5_11 S o)[S.length]? = some (1, 6, []) := ap_at hf67
  have hf79 : (SNX5_11 S o)[(SNX5_2 S o).length]? = some (6, 15, [none, none, none, none, none, none, none, none, none, none, none, some (some (RNX4_11 (SNX5_3 S o) (SNX5_2 S o).length)), some (some (RNX4_12 (SNX5_3 S o) (SNX5_2 S o).length)), some (some (RNX4_13 (SNX5_3 S o) (SNX5_2 S o).length)), some (some (RNX4_14 (SNX5_3 S o) (SNX5_2 S o).length))]) := ap_at hf68
  have hf80 : (SNX5_11 S o)[(SNX5_4 S o).length]? = some (6, 15, [none, none, none, none, none, none, none, none, none, none, none, some (some (RNX4_11 (SNX5_5 S o) (SNX5_4 S o).length)), some (some (RNX4_12 (SNX5_5 S o) (SNX5_4 S o).length)), some (some (RNX4_13 (SNX5_5 S o) (SNX5_4 S o).length)), some (some (RNX4_14 (SNX5_5 S o) (SNX5_4 S o).length))]) := ap_at hf69
  have hf81 : (SNX5_11 S o)[(SNX5_6 S o).length]? = some (6, 15, [none, none, none, none, none, none, none, none, none, none, none, some (some (RNX4_11 (SNX5_7 S o) (SNX5_6 S o).length)), some (some (RNX4_12 (SNX5_7 S o) (SNX5_6 S o).length)), some (some (RNX4_13 (SNX5_7 S o) (SNX5_6 S o).length)), some (some (RNX4_14 (SNX5_7 S o) (SNX5_6 S o).length))]) := ap_at hf70
  have hf82 : (SNX5_11 S o)[(SNX5_8 S o).length]? = some (6, 15, [none, none, none, none, none, none, none, none, none, none, none, some (some (RNX4_11 (SNX5_9 S o) (SNX5_8 S o).length)), some (some (RNX4_12 (SNX5_9 S o) (SNX5_8 S o).length)), some (some (RNX4_13 (SNX5_9 S o) (SNX5_8 S o).length)), some (some (RNX4_14 (SNX5_9 S o) (SNX5_8 S o).length))]) := ap_at hf71
  have hf83 : (SNX5_11 S o)[(SNX5_10 S o).length]? = some (6, 15, [none, none, none, none, none, none, none, none, none, none, none, some none, some none, some none, some none]) := nw_at
  have hw84 : ie_wf (SNX5_11 S o) (MNX5_8 S M o) := wf_app hw75 (by simp) hz76
  have hz85 : ie_zr (SNX5_11 S o) (MNX5_8 S M o) := zr_app hz76
  show V _ _ _ _ _ _ _ _ _ _ (SNX5_11 S o) (MNX5_8 S M o) _ _
  refine V_dup rfl dX5_init_29 rfl ?_
  refine V_inin (mc' := 4) (ns' := 40) (d' := 1) (As := []) (S' := (SNX4 (SNX5_11 S o) (SNX5_10 S o).length)) (M' := (MNX4 (SNX5_11 S o) (MNX5_8 S M o) (SNX5_10 S o).length)) (fun a => [some (.ref (a o)), some (.int 4)]) (fun a => [.ref (a (SNX5_10 S o).length), .int 4, .ref (a S.length)]) rfl dX5_init_30 mf_X4_init rfl rfl w_171 w_402 (by decide) ⟨rfl, rfl⟩ rfl rfl rfl (fun a' h => ⟨by first | rfl | simp only [h _ ((List.getElem?_eq_some_iff.mp hf83).1), h _ ((List.getElem?_eq_some_iff.mp hf78).1), h _ ((List.getElem?_eq_some_iff.mp hf77).1)], by first | rfl | simp only [h _ ((List.getElem?_eq_some_iff.mp hf83).1), h _ ((List.getElem?_eq_some_iff.mp hf78).1), h _ ((List.getElem?_eq_some_iff.mp hf77).1)]⟩) (tc_X4 hf83 hw84 hz85) (fun a11111111111 hg10 => ?_)
  have hb86 : CBX4 (SNX5_11 S o) (MNX5_8 S M o) (SNX5_10 S o).length := cb_X4 hf83 hw84 hz85
  have len12 : (SNX5_12 S o).length = S.length + 26 := l_cal hb86.2.2.2.1 len11
  have len13 : (SNX5_13 S o).length = S.length + 27 := l_app len12
  have hf87 : (SNX5_12 S o)[o]? = some (7, 2, [none, some (some S.length)]) := hb86.2.2.2.2 _ _ (Nat.ne_of_lt (List.getElem?_eq_some_iff.mp hf66).1) hf77
  have hf88 : (SNX5_12 S o)[S.length]? = some (1, 6, []) := hb86.2.2.2.2 _ _ (Nat.ne_of_lt (List.getElem?_eq_some_iff.mp hf67).1) hf78
  have hf89 : (SNX5_12 S o)[(SNX5_2 S o).length]? = some (6, 15, [none, none, none, none, none, none, none, none, none, none, none, some (some (RNX4_11 (SNX5_3 S o) (SNX5_2 S o).length)), some (some (RNX4_12 (SNX5_3 S o) (SNX5_2 S o).length)), some (some (RNX4_13 (SNX5_3 S o) (SNX5_2 S o).length)), some (some (RNX4_14 (SNX5_3 S o) (SNX5_2 S o).length))]) := hb86.2.2.2.2 _ _ (Nat.ne_of_lt (List.getElem?_eq_some_iff.mp hf68).1) hf79
  have hf90 : (SNX5_12 S o)[(SNX5_4 S o).length]? = some (6, 15, [none, none, none, none, none, none, none, none, none, none, none, some (some (RNX4_11 (SNX5_5 S o) (SNX5_4 S o).length)), some (some (RNX4_12 (SNX5_5 S o) (SNX5_4 S o).length)), some (some (RNX4_13 (SNX5_5 S o) (SNX5_4 S o).length)), some (some (RNX4_14 (SNX5_5 S o) (SNX5_4 S o).length))]) := hb86.2.2.2.2 _ _ (Nat.ne_of_lt (List.getElem?_eq_some_iff.mp hf69).1) hf80
  have hf91 : (SNX5_12 S o)[(SNX5_6 S o).length]? = some (6, 15, [none, none, none, none, none, none, none, none, none, none, none, some (some (RNX4_11 (SNX5_7 S o) (SNX5_6 S o).length)), some (some (RNX4_12 (SNX5_7 S o) (SNX5_6 S o).length)), some (some (RNX4_13 (SNX5_7 S o) (SNX5_6 S o).length)), some (some (RNX4_14 (SNX5_7 S o) (SNX5_6 S o).length))]) := hb86.2.2.2.2 _ _ (Nat.ne_of_lt (List.getElem?_eq_some_iff.mp hf70).1) hf81
  have hf92 : (SNX5_12 S o)[(SNX5_8 S o).length]? = some (6, 15, [none, none, none, none, none, none, none, none, none, none, none, some (some (RNX4_11 (SNX5_9 S o) (SNX5_8 S o).length)), some (some (RNX4_12 (SNX5_9 S o) (SNX5_8 S o).length)), some (some (RNX4_13 (SNX5_9 S o) (SNX5_8 S o).length)), some (some (RNX4_14 (SNX5_9 S o) (SNX5_8 S o).length))]) := hb86.2.2.2.2 _ _ (Nat.ne_of_lt (List.getElem?_eq_some_iff.mp hf71).1) hf82
  have hf93 : (SNX5_12 S o)[(SNX5_10 S o).length]? = some (6, 15, [none, none, none, none, none, none, none, none, none, none, none, some (some (RNX4_11 (SNX5_11 S o) (SNX5_10 S o).length)), some (some (RNX4_12 (SNX5_11 S o) (SNX5_10 S o).length)), some (some (RNX4_13 (SNX5_11 S o) (SNX5_10 S o).length)), some (some (RNX4_14 (SNX5_11 S o) (SNX5_10 S o).length))]) := hb86.1
  have hw94 : ie_wf (SNX5_12 S o) (MNX5_9 S M o) := hb86.2.1
  have hz95 : ie_zr (SNX5_12 S o) (MNX5_9 S M o) := hb86.2.2.1
  show V _ _ _ _ _ _ _ _ _ _ (SNX5_12 S o) (MNX5_9 S M o) _ _
  have hB4 : (SNX5_12 S o).length ≤ 100000 := le_len hB len12 (by decide)
  have hb96 : (SNX5_10 S o).length < 100000 := Nat.lt_of_lt_of_le ((List.getElem?_eq_some_iff.mp hf93).1) hB4
  refine V_aastK (k := 4) (x := Int32.ofNat ((SNX5_10 S o).length + 1)) rfl dX5_init_33 hf88 hf93 rfl (ie_in_nw hb96).1 (ie_in_nw hb96).2 (by decide +kernel) (by decide +kernel) ?_
  have hw97 : ie_wf (SNX5_12 S o) (MNX5_10 S M o) := wf_ms hw94 hf88 (Or.inr (nw_le hb96 ((List.getElem?_eq_some_iff.mp hf93).1)))
  have hz98 : ie_zr (SNX5_12 S o) (MNX5_10 S M o) := zr_ms hz95 ((List.getElem?_eq_some_iff.mp hf88).1)
  show V _ _ _ _ _ _ _ _ _ _ (SNX5_12 S o) (MNX5_10 S M o) _ _
  refine V_iinc (v := 5) (L' := [_, _]) rfl dX5_init_34 rfl (by decide +kernel) (by decide) rfl ?_
  refine V_goto (t := 15) rfl dX5_init_37 ?_
  refine V_iload_n rfl dX5_init_15 rfl rfl ?_
  refine V_bipush (v := 6) rfl dX5_init_16 kb_6 ?_
  refine V_icmp_ge (t := 40) rfl rfl dX5_init_18 (fun hcc => absurd hcc (by decide)) (fun _ => ?_)
  refine V_aload_n rfl dX5_init_21 rfl rfl ?_
  refine V_getr (k0 := 1) rfl dX5_init_22 hf87 icX5 (by decide) rfl w_405 ?_
  refine V_iload_n rfl dX5_init_25 rfl rfl ?_
  refine V_new (fun a => [some (.ref (a o)), some (.int 5)]) (fun a => [.int 5, .ref (a S.length)]) rfl dX5_init_26 icX4 rfl tyX4_ok ⟨w_400, w_169, w_140⟩ (fs := [none, none, none, none, none, none, none, none, none, none, none, some none, some none, some none, some none]) (by decide +kernel) (by simp) hw97 hz98 ⟨rfl, rfl⟩ (fun a' h => ⟨by first | rfl | simp only [h _ ((List.getElem?_eq_some_iff.mp hf88).1), h _ ((List.getElem?_eq_some_iff.mp hf87).1)], by first | rfl | simp only [h _ ((List.getElem?_eq_some_iff.mp hf88).1), h _ ((List.getElem?_eq_some_iff.mp hf87).1)]⟩) (fun a111111111111 hg11 => ?_)
  have hf99 : (SNX5_13 S o)[o]? = some (7, 2, [none, some (some S.length)]) := ap_at hf87
  have hf100 : (SNX5_13 S o)[S.length]? = some (1, 6, []) := ap_at hf88
  have hf101 : (SNX5_13 S o)[(SNX5_2 S o).length]? = some (6, 15, [none, none, none, none, none, none, none, none, none, none, none, some (some (RNX4_11 (SNX5_3 S o) (SNX5_2 S o).length)), some (some (RNX4_12 (SNX5_3 S o) (SNX5_2 S o).length)), some (some (RNX4_13 (SNX5_3 S o) (SNX5_2 S o).length)), some (some (RNX4_14 (SNX5_3 S o) (SNX5_2 S o).length))]) := ap_at hf89
  have hf102 : (SNX5_13 S o)[(SNX5_4 S o).length]? = some (6, 15, [none, none, none, none, none, none, none, none, none, none, none, some (some (RNX4_11 (SNX5_5 S o) (SNX5_4 S o).length)), some (some (RNX4_12 (SNX5_5 S o) (SNX5_4 S o).length)), some (some (RNX4_13 (SNX5_5 S o) (SNX5_4 S o).length)), some (some (RNX4_14 (SNX5_5 S o) (SNX5_4 S o).length))]) := ap_at hf90
  have hf103 : (SNX5_13 S o)[(SNX5_6 S o).length]? = some (6, 15, [none, none, none, none, none, none, none, none, none, none, none, some (some (RNX4_11 (SNX5_7 S o) (SNX5_6 S o).length)), some (some (RNX4_12 (SNX5_7 S o) (SNX5_6 S o).length)), some (some (RNX4_13 (SNX5_7 S o) (SNX5_6 S o).length)), some (some (RNX4_14 (SNX5_7 S o) (SNX5_6 S o).length))]) := ap_at hf91
  have hf104 : (SNX5_13 S o)[(SNX5_8 S o).length]? = some (6, 15, [none, none, none, none, none, none, none, none, none, none, none, some (some (RNX4_11 (SNX5_9 S o) (SNX5_8 S o).length)), some (some (RNX4_12 (SNX5_9 S o) (SNX5_8 S o).length)), some (some (RNX4_13 (SNX5_9 S o) (SNX5_8 S o).length)), some (some (RNX4_14 (SNX5_9 S o) (SNX5_8 S o).length))]) := ap_at hf92
  have hf105 : (SNX5_13 S o)[(SNX5_10 S o).length]? = some (6, 15, [none, none, none, none, none, none, none, none, none, none, none, some (some (RNX4_11 (SNX5_11 S o) (SNX5_10 S o).length)), some (some (RNX4_12 (SNX5_11 S o) (SNX5_10 S o).length)), some (some (RNX4_13 (SNX5_11 S o) (SNX5_10 S o).length)), some (some (RNX4_14 (SNX5_11 S o) (SNX5_10 S o).length))]) := ap_at hf93
  have hf106 : (SNX5_13 S o)[(SNX5_12 S o).length]? = some (6, 15, [none, none, none, none, none, none, none, none, none, none, none, some none, some none, some none, some none]) := nw_at
  have hw107 : ie_wf (SNX5_13 S o) (MNX5_10 S M o) := wf_app hw97 (by simp) hz98
  have hz108 : ie_zr (SNX5_13 S o) (MNX5_10 S M o) := zr_app hz98
  show V _ _ _ _ _ _ _ _ _ _ (SNX5_13 S o) (MNX5_10 S M o) _ _
  refine V_dup rfl dX5_init_29 rfl ?_
  refine V_inin (mc' := 4) (ns' := 40) (d' := 1) (As := []) (S' := (SNX4 (SNX5_13 S o) (SNX5_12 S o).length)) (M' := (MNX4 (SNX5_13 S o) (MNX5_10 S M o) (SNX5_12 S o).length)) (fun a => [some (.ref (a o)), some (.int 5)]) (fun a => [.ref (a (SNX5_12 S o).length), .int 5, .ref (a S.length)]) rfl dX5_init_30 mf_X4_init rfl rfl w_171 w_402 (by decide) ⟨rfl, rfl⟩ rfl rfl rfl (fun a' h => ⟨by first | rfl | simp only [h _ ((List.getElem?_eq_some_iff.mp hf106).1), h _ ((List.getElem?_eq_some_iff.mp hf100).1), h _ ((List.getElem?_eq_some_iff.mp hf99).1)], by first | rfl | simp only [h _ ((List.getElem?_eq_some_iff.mp hf106).1), h _ ((List.getElem?_eq_some_iff.mp hf100).1), h _ ((List.getElem?_eq_some_iff.mp hf99).1)]⟩) (tc_X4 hf106 hw107 hz108) (fun a1111111111111 hg12 => ?_)
  have hb109 : CBX4 (SNX5_13 S o) (MNX5_10 S M o) (SNX5_12 S o).length := cb_X4 hf106 hw107 hz108
  have len14 : (SNX5_14 S o).length = S.length + 31 := l_cal hb109.2.2.2.1 len13
  have hf110 : (SNX5_14 S o)[o]? = some (7, 2, [none, some (some S.length)]) := hb109.2.2.2.2 _ _ (Nat.ne_of_lt (List.getElem?_eq_some_iff.mp hf87).1) hf99
  have hf111 : (SNX5_14 S o)[S.length]? = some (1, 6, []) := hb109.2.2.2.2 _ _ (Nat.ne_of_lt (List.getElem?_eq_some_iff.mp hf88).1) hf100
  have hf112 : (SNX5_14 S o)[(SNX5_2 S o).length]? = some (6, 15, [none, none, none, none, none, none, none, none, none, none, none, some (some (RNX4_11 (SNX5_3 S o) (SNX5_2 S o).length)), some (some (RNX4_12 (SNX5_3 S o) (SNX5_2 S o).length)), some (some (RNX4_13 (SNX5_3 S o) (SNX5_2 S o).length)), some (some (RNX4_14 (SNX5_3 S o) (SNX5_2 S o).length))]) := hb109.2.2.2.2 _ _ (Nat.ne_of_lt (List.getElem?_eq_some_iff.mp hf89).1) hf101
  have hf113 : (SNX5_14 S o)[(SNX5_4 S o).length]? = some (6, 15, [none, none, none, none, none, none, none, none, none, none, none, some (some (RNX4_11 (SNX5_5 S o) (SNX5_4 S o).length)), some (some (RNX4_12 (SNX5_5 S o) (SNX5_4 S o).length)), some (some (RNX4_13 (SNX5_5 S o) (SNX5_4 S o).length)), some (some (RNX4_14 (SNX5_5 S o) (SNX5_4 S o).length))]) := hb109.2.2.2.2 _ _ (Nat.ne_of_lt (List.getElem?_eq_some_iff.mp hf90).1) hf102
  have hf114 : (SNX5_14 S o)[(SNX5_6 S o).length]? = some (6, 15, [none, none, none, none, none, none, none, none, none, none, none, some (some (RNX4_11 (SNX5_7 S o) (SNX5_6 S o).length)), some (some (RNX4_12 (SNX5_7 S o) (SNX5_6 S o).length)), some (some (RNX4_13 (SNX5_7 S o) (SNX5_6 S o).length)), some (some (RNX4_14 (SNX5_7 S o) (SNX5_6 S o).length))]) := hb109.2.2.2.2 _ _ (Nat.ne_of_lt (List.getElem?_eq_some_iff.mp hf91).1) hf103
  have hf115 : (SNX5_14 S o)[(SNX5_8 S o).length]? = some (6, 15, [none, none, none, none, none, none, none, none, none, none, none, some (some (RNX4_11 (SNX5_9 S o) (SNX5_8 S o).length)), some (some (RNX4_12 (SNX5_9 S o) (SNX5_8 S o).length)), some (some (RNX4_13 (SNX5_9 S o) (SNX5_8 S o).length)), some (some (RNX4_14 (SNX5_9 S o) (SNX5_8 S o).length))]) := hb109.2.2.2.2 _ _ (Nat.ne_of_lt (List.getElem?_eq_some_iff.mp hf92).1) hf104
  have hf116 : (SNX5_14 S o)[(SNX5_10 S o).length]? = some (6, 15, [none, none, none, none, none, none, none, none, none, none, none, some (some (RNX4_11 (SNX5_11 S o) (SNX5_10 S o).length)), some (some (RNX4_12 (SNX5_11 S o) (SNX5_10 S o).length)), some (some (RNX4_13 (SNX5_11 S o) (SNX5_10 S o).length)), some (some (RNX4_14 (SNX5_11 S o) (SNX5_10 S o).length))]) := hb109.2.2.2.2 _ _ (Nat.ne_of_lt (List.getElem?_eq_some_iff.mp hf93).1) hf105
  have hf117 : (SNX5_14 S o)[(SNX5_12 S o).length]? = some (6, 15, [none, none, none, none, none, none, none, none, none, none, none, some (some (RNX4_11 (SNX5_13 S o) (SNX5_12 S o).length)), some (some (RNX4_12 (SNX5_13 S o) (SNX5_12 S o).length)), some (some (RNX4_13 (SNX5_13 S o) (SNX5_12 S o).length)), some (some (RNX4_14 (SNX5_13 S o) (SNX5_12 S o).length))]) := hb109.1
  have hw118 : ie_wf (SNX5_14 S o) (MNX5_11 S M o) := hb109.2.1
  have hz119 : ie_zr (SNX5_14 S o) (MNX5_11 S M o) := hb109.2.2.1
  show V _ _ _ _ _ _ _ _ _ _ (SNX5_14 S o) (MNX5_11 S M o) _ _
  have hB5 : (SNX5_14 S o).length ≤ 100000 := le_len hB len14 (by decide)
  have hb120 : (SNX5_12 S o).length < 100000 := Nat.lt_of_lt_of_le ((List.getElem?_eq_some_iff.mp hf117).1) hB5
  refine V_aastK (k := 5) (x := Int32.ofNat ((SNX5_12 S o).length + 1)) rfl dX5_init_33 hf111 hf117 rfl (ie_in_nw hb120).1 (ie_in_nw hb120).2 (by decide +kernel) (by decide +kernel) ?_
  have hw121 : ie_wf (SNX5_14 S o) (MNX5_12 S M o) := wf_ms hw118 hf111 (Or.inr (nw_le hb120 ((List.getElem?_eq_some_iff.mp hf117).1)))
  have hz122 : ie_zr (SNX5_14 S o) (MNX5_12 S M o) := zr_ms hz119 ((List.getElem?_eq_some_iff.mp hf111).1)
  show V _ _ _ _ _ _ _ _ _ _ (SNX5_14 S o) (MNX5_12 S M o) _ _
  refine V_iinc (v := 6) (L' := [_, _]) rfl dX5_init_34 rfl (by decide +kernel) (by decide) rfl ?_
  refine V_goto (t := 15) rfl dX5_init_37 ?_
  refine V_iload_n rfl dX5_init_15 rfl rfl ?_
  refine V_bipush (v := 6) rfl dX5_init_16 kb_6 ?_
  refine V_icmp_ge (t := 40) rfl rfl dX5_init_18 (fun _ => ?_) (fun hcc => absurd (by decide) hcc)
  exact V_vret dX5_init_40 rfl (by decide) (by decide) ⟨rfl, rfl, rfl, fun p hp => ((hg12 p (lt_len hp len13)).trans ((hg11 p (lt_len hp len12)).trans ((hg10 p (lt_len hp len11)).trans ((hg9 p (lt_len hp len10)).trans ((hg8 p (lt_len hp len9)).trans ((hg7 p (lt_len hp len8)).trans ((hg6 p (lt_len hp len7)).trans ((hg5 p (lt_len hp len6)).trans ((hg4 p (lt_len hp len5)).trans ((hg3 p (lt_len hp len4)).trans ((hg2 p (lt_len hp len3)).trans ((hg1 p (lt_len hp len2)).trans (hg0 p hp)))))))))))))⟩
