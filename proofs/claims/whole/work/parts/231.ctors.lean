def SNX4_1 (S : List IK) (o : Nat) : List IK := S ++ [(0, 10, [])]
def SNX4_2 (S : List IK) (o : Nat) : List IK := (SNX4_1 S o).set o (6, 15, [none, none, none, none, none, none, none, none, none, none, none, some (some S.length), some none, some none, some none])
def SNX4_3 (S : List IK) (o : Nat) : List IK := (SNX4_2 S o) ++ [(0, 10, [])]
def SNX4_4 (S : List IK) (o : Nat) : List IK := (SNX4_3 S o).set o (6, 15, [none, none, none, none, none, none, none, none, none, none, none, some (some S.length), some (some (SNX4_2 S o).length), some none, some none])
def SNX4_5 (S : List IK) (o : Nat) : List IK := (SNX4_4 S o) ++ [(0, 10, [])]
def SNX4_6 (S : List IK) (o : Nat) : List IK := (SNX4_5 S o).set o (6, 15, [none, none, none, none, none, none, none, none, none, none, none, some (some S.length), some (some (SNX4_2 S o).length), some (some (SNX4_4 S o).length), some none])
def SNX4_7 (S : List IK) (o : Nat) : List IK := (SNX4_6 S o) ++ [(0, 10, [])]
def SNX4_8 (S : List IK) (o : Nat) : List IK := (SNX4_7 S o).set o (6, 15, [none, none, none, none, none, none, none, none, none, none, none, some (some S.length), some (some (SNX4_2 S o).length), some (some (SNX4_4 S o).length), some (some (SNX4_6 S o).length)])
def SNX4 (S : List IK) (o : Nat) : List IK := (SNX4_8 S o)
def MNX4 (S : List IK) (M : IM) (o : Nat) : IM := M
def RNX4_11 (S : List IK) (o : Nat) : Nat := S.length
def RNX4_12 (S : List IK) (o : Nat) : Nat := (SNX4_2 S o).length
def RNX4_13 (S : List IK) (o : Nat) : Nat := (SNX4_4 S o).length
def RNX4_14 (S : List IK) (o : Nat) : Nat := (SNX4_6 S o).length
def CBX4 (S : List IK) (M : IM) (o : Nat) : Prop := (SNX4 S o)[o]? = some (6, 15, [none, none, none, none, none, none, none, none, none, none, none, some (some (RNX4_11 S o)), some (some (RNX4_12 S o)), some (some (RNX4_13 S o)), some (some (RNX4_14 S o))]) ∧ ie_wf (SNX4 S o) (MNX4 S M o) ∧ ie_zr (SNX4 S o) (MNX4 S M o) ∧ (SNX4 S o).length = S.length + 4 ∧ ∀ (p : Nat) (x : IK), ¬ p = o → S[p]? = some x → (SNX4 S o)[p]? = some x
set_option maxRecDepth 100000 in
set_option maxHeartbeats 4000000 in
theorem cb_X4 {S : List IK} {M : IM} {o : Nat} (ho : S[o]? = some (6, 15, [none, none, none, none, none, none, none, none, none, none, none, some none, some none, some none, some none])) (hwf : ie_wf S M) (hz : ie_zr S M) : CBX4 S M o := by
  have len1 : (SNX4_1 S o).length = S.length + 1 := l_app rfl
  have len2 : (SNX4_2 S o).length = S.length + 1 := l_set len1
  have len3 : (SNX4_3 S o).length = S.length + 2 := l_app len2
  have len4 : (SNX4_4 S o).length = S.length + 2 := l_set len3
  have len5 : (SNX4_5 S o).length = S.length + 3 := l_app len4
  have len6 : (SNX4_6 S o).length = S.length + 3 := l_set len5
  have len7 : (SNX4_7 S o).length = S.length + 4 := l_app len6
  have len8 : (SNX4_8 S o).length = S.length + 4 := l_set len7
  have hf1 : (SNX4_1 S o)[o]? = some (6, 15, [none, none, none, none, none, none, none, none, none, none, none, some none, some none, some none, some none]) := ap_at ho
  have hf2 : (SNX4_1 S o)[S.length]? = some (0, 10, []) := nw_at
  have hw3 : ie_wf (SNX4_1 S o) M := wf_app hwf (by simp) hz
  have hz4 : ie_zr (SNX4_1 S o) M := zr_app hz
  have hf5 : (SNX4_2 S o)[o]? = some (6, 15, [none, none, none, none, none, none, none, none, none, none, none, some (some S.length), some none, some none, some none]) := st_at hf1
  have hf6 : (SNX4_2 S o)[S.length]? = some (0, 10, []) := st_at' hf2 (Nat.ne_of_lt (List.getElem?_eq_some_iff.mp ho).1)
  have hw7 : ie_wf (SNX4_2 S o) M := by have zz := wf_set (i := 11) (r := S.length) hw3 hf1 ((List.getElem?_eq_some_iff.mp hf2).1); exact zz
  have hz8 : ie_zr (SNX4_2 S o) M := zr_set hz4
  have hf9 : (SNX4_3 S o)[o]? = some (6, 15, [none, none, none, none, none, none, none, none, none, none, none, some (some S.length), some none, some none, some none]) := ap_at hf5
  have hf10 : (SNX4_3 S o)[(SNX4_2 S o).length]? = some (0, 10, []) := nw_at
  have hw11 : ie_wf (SNX4_3 S o) M := wf_app hw7 (by simp) hz8
  have hz12 : ie_zr (SNX4_3 S o) M := zr_app hz8
  have hf13 : (SNX4_4 S o)[o]? = some (6, 15, [none, none, none, none, none, none, none, none, none, none, none, some (some S.length), some (some (SNX4_2 S o).length), some none, some none]) := st_at hf9
  have hf14 : (SNX4_4 S o)[(SNX4_2 S o).length]? = some (0, 10, []) := st_at' hf10 (Nat.ne_of_lt (List.getElem?_eq_some_iff.mp hf5).1)
  have hw15 : ie_wf (SNX4_4 S o) M := by have zz := wf_set (i := 12) (r := (SNX4_2 S o).length) hw11 hf9 ((List.getElem?_eq_some_iff.mp hf10).1); exact zz
  have hz16 : ie_zr (SNX4_4 S o) M := zr_set hz12
  have hf17 : (SNX4_5 S o)[o]? = some (6, 15, [none, none, none, none, none, none, none, none, none, none, none, some (some S.length), some (some (SNX4_2 S o).length), some none, some none]) := ap_at hf13
  have hf18 : (SNX4_5 S o)[(SNX4_4 S o).length]? = some (0, 10, []) := nw_at
  have hw19 : ie_wf (SNX4_5 S o) M := wf_app hw15 (by simp) hz16
  have hz20 : ie_zr (SNX4_5 S o) M := zr_app hz16
  have hf21 : (SNX4_6 S o)[o]? = some (6, 15, [none, none, none, none, none, none, none, none, none, none, none, some (some S.length), some (some (SNX4_2 S o).length), some (some (SNX4_4 S o).length), some none]) := st_at hf17
  have hf22 : (SNX4_6 S o)[(SNX4_4 S o).length]? = some (0, 10, []) := st_at' hf18 (Nat.ne_of_lt (List.getElem?_eq_some_iff.mp hf13).1)
  have hw23 : ie_wf (SNX4_6 S o) M := by have zz := wf_set (i := 13) (r := (SNX4_4 S o).length) hw19 hf17 ((List.getElem?_eq_some_iff.mp hf18).1); exact zz
  have hz24 : ie_zr (SNX4_6 S o) M := zr_set hz20
  have hf25 : (SNX4_7 S o)[o]? = some (6, 15, [none, none, none, none, none, none, none, none, none, none, none, some (some S.length), some (some (SNX4_2 S o).length), some (some (SNX4_4 S o).length), some none]) := ap_at hf21
  have hf26 : (SNX4_7 S o)[(SNX4_6 S o).length]? = some (0, 10, []) := nw_at
  have hw27 : ie_wf (SNX4_7 S o) M := wf_app hw23 (by simp) hz24
  have hz28 : ie_zr (SNX4_7 S o) M := zr_app hz24
  have hf29 : (SNX4_8 S o)[o]? = some (6, 15, [none, none, none, none, none, none, none, none, none, none, none, some (some S.length), some (some (SNX4_2 S o).length), some (some (SNX4_4 S o).length), some (some (SNX4_6 S o).length)]) := st_at hf25
  have hf30 : (SNX4_8 S o)[(SNX4_6 S o).length]? = some (0, 10, []) := st_at' hf26 (Nat.ne_of_lt (List.getElem?_eq_some_iff.mp hf21).1)
  have hw31 : ie_wf (SNX4_8 S o) M := by have zz := wf_set (i := 14) (r := (SNX4_6 S o).length) hw27 hf25 ((List.getElem?_eq_some_iff.mp hf26).1); exact zz
  have hz32 : ie_zr (SNX4_8 S o) M := zr_set hz28
  exact ⟨hf29, hw31, hz32, len8, fun p x hp h => (st_at' (ap_at (st_at' (ap_at (st_at' (ap_at (st_at' (ap_at h) (fun e => hp e.symm))) (fun e => hp e.symm))) (fun e => hp e.symm))) (fun e => hp e.symm))⟩
set_option maxRecDepth 100000 in
set_option maxHeartbeats 8000000 in
theorem tc_X4 {g : IG} {a : Nat → Nat} {S : List IK} {M : IM} {o : Nat} (ho : S[o]? = some (6, 15, [none, none, none, none, none, none, none, none, none, none, none, some none, some none, some none, some none])) (hwf : ie_wf S M) (hz : ie_zr S M) : Cn g mX4_init 1 4 40 (qC (SNX4 S o) (MNX4 S M o) S.length a) [.ref (a o)] a S M := by
  refine Cn_of (L := [some (.ref (a o))]) mf_X4_init (cat_r cat_0) (Nat.le_of_ble_eq_true rfl) rfl ?_
  have len1 : (SNX4_1 S o).length = S.length + 1 := l_app rfl
  have len2 : (SNX4_2 S o).length = S.length + 1 := l_set len1
  have len3 : (SNX4_3 S o).length = S.length + 2 := l_app len2
  have len4 : (SNX4_4 S o).length = S.length + 2 := l_set len3
  have len5 : (SNX4_5 S o).length = S.length + 3 := l_app len4
  have len6 : (SNX4_6 S o).length = S.length + 3 := l_set len5
  have len7 : (SNX4_7 S o).length = S.length + 4 := l_app len6
  have len8 : (SNX4_8 S o).length = S.length + 4 := l_set len7
  refine V_aload_n rfl dX4_init_0 rfl rfl ?_
  refine V_obj rfl dX4_init_1 ⟨w_173, w_166, w_167⟩ rfl ?_
  refine V_aload_n rfl dX4_init_4 rfl rfl ?_
  refine V_bipush (v := 10) rfl dX4_init_5 kb_10 ?_
  refine V_newa (n := 10) (fun a => [some (.ref (a o))]) (fun a => [.ref (a o)]) rfl dX4_init_7 w_245 (by decide +kernel) hwf hz ⟨rfl, rfl⟩ (fun a' h => ⟨by first | rfl | simp only [h _ ((List.getElem?_eq_some_iff.mp ho).1)], by first | rfl | simp only [h _ ((List.getElem?_eq_some_iff.mp ho).1)]⟩) (fun a1 hg0 => ?_)
  have hf1 : (SNX4_1 S o)[o]? = some (6, 15, [none, none, none, none, none, none, none, none, none, none, none, some none, some none, some none, some none]) := ap_at ho
  have hf2 : (SNX4_1 S o)[S.length]? = some (0, 10, []) := nw_at
  have hw3 : ie_wf (SNX4_1 S o) M := wf_app hwf (by simp) hz
  have hz4 : ie_zr (SNX4_1 S o) M := zr_app hz
  show V _ _ _ _ _ _ _ _ _ _ (SNX4_1 S o) M _ _
  refine V_putr (k0 := 11) (ty := (.array .int)) (r := S.length) rfl dX4_init_9 hf1 icX4 tyX4_ok nmX4 (by decide) (Nat.le_of_ble_eq_true rfl) w_202 rfl rfl rfl (tyX4_ok _ (by decide)) rfl rfl ?_
  have hf5 : (SNX4_2 S o)[o]? = some (6, 15, [none, none, none, none, none, none, none, none, none, none, none, some (some S.length), some none, some none, some none]) := st_at hf1
  have hf6 : (SNX4_2 S o)[S.length]? = some (0, 10, []) := st_at' hf2 (Nat.ne_of_lt (List.getElem?_eq_some_iff.mp ho).1)
  have hw7 : ie_wf (SNX4_2 S o) M := by have zz := wf_set (i := 11) (r := S.length) hw3 hf1 ((List.getElem?_eq_some_iff.mp hf2).1); exact zz
  have hz8 : ie_zr (SNX4_2 S o) M := zr_set hz4
  show V _ _ _ _ _ _ _ _ _ _ (SNX4_2 S o) M _ _
  refine V_aload_n rfl dX4_init_12 rfl rfl ?_
  refine V_bipush (v := 10) rfl dX4_init_13 kb_10 ?_
  refine V_newa (n := 10) (fun a => [some (.ref (a o))]) (fun a => [.ref (a o)]) rfl dX4_init_15 w_245 (by decide +kernel) hw7 hz8 ⟨rfl, rfl⟩ (fun a' h => ⟨by first | rfl | simp only [h _ ((List.getElem?_eq_some_iff.mp hf5).1)], by first | rfl | simp only [h _ ((List.getElem?_eq_some_iff.mp hf5).1)]⟩) (fun a11 hg1 => ?_)
  have hf9 : (SNX4_3 S o)[o]? = some (6, 15, [none, none, none, none, none, none, none, none, none, none, none, some (some S.length), some none, some none, some none]) := ap_at hf5
  have hf10 : (SNX4_3 S o)[(SNX4_2 S o).length]? = some (0, 10, []) := nw_at
  have hw11 : ie_wf (SNX4_3 S o) M := wf_app hw7 (by simp) hz8
  have hz12 : ie_zr (SNX4_3 S o) M := zr_app hz8
  show V _ _ _ _ _ _ _ _ _ _ (SNX4_3 S o) M _ _
  refine V_putr (k0 := 12) (ty := (.array .int)) (r := (SNX4_2 S o).length) rfl dX4_init_17 hf9 icX4 tyX4_ok nmX4 (by decide) (Nat.le_of_ble_eq_true rfl) w_205 rfl rfl rfl (tyX4_ok _ (by decide)) rfl rfl ?_
  have hf13 : (SNX4_4 S o)[o]? = some (6, 15, [none, none, none, none, none, none, none, none, none, none, none, some (some S.length), some (some (SNX4_2 S o).length), some none, some none]) := st_at hf9
  have hf14 : (SNX4_4 S o)[(SNX4_2 S o).length]? = some (0, 10, []) := st_at' hf10 (Nat.ne_of_lt (List.getElem?_eq_some_iff.mp hf5).1)
  have hw15 : ie_wf (SNX4_4 S o) M := by have zz := wf_set (i := 12) (r := (SNX4_2 S o).length) hw11 hf9 ((List.getElem?_eq_some_iff.mp hf10).1); exact zz
  have hz16 : ie_zr (SNX4_4 S o) M := zr_set hz12
  show V _ _ _ _ _ _ _ _ _ _ (SNX4_4 S o) M _ _
  refine V_aload_n rfl dX4_init_20 rfl rfl ?_
  refine V_bipush (v := 10) rfl dX4_init_21 kb_10 ?_
  refine V_newa (n := 10) (fun a => [some (.ref (a o))]) (fun a => [.ref (a o)]) rfl dX4_init_23 w_245 (by decide +kernel) hw15 hz16 ⟨rfl, rfl⟩ (fun a' h => ⟨by first | rfl | simp only [h _ ((List.getElem?_eq_some_iff.mp hf13).1)], by first | rfl | simp only [h _ ((List.getElem?_eq_some_iff.mp hf13).1)]⟩) (fun a111 hg2 => ?_)
  have hf17 : (SNX4_5 S o)[o]? = some (6, 15, [none, none, none, none, none, none, none, none, none, none, none, some (some S.length), some (some (SNX4_2 S o).length), some none, some none]) := ap_at hf13
  have hf18 : (SNX4_5 S o)[(SNX4_4 S o).length]? = some (0, 10, []) := nw_at
  have hw19 : ie_wf (SNX4_5 S o) M := wf_app hw15 (by simp) hz16
  have hz20 : ie_zr (SNX4_5 S o) M := zr_app hz16
  show V _ _ _ _ _ _ _ _ _ _ (SNX4_5 S o) M _ _
  refine V_putr (k0 := 13) (ty := (.array .int)) (r := (SNX4_4 S o).length) rfl dX4_init_25 hf17 icX4 tyX4_ok nmX4 (by decide) (Nat.le_of_ble_eq_true rfl) w_208 rfl rfl rfl (tyX4_ok _ (by decide)) rfl rfl ?_
  have hf21 : (SNX4_6 S o)[o]? = some (6, 15, [none, none, none, none, none, none, none, none, none, none, none, some (some S.length), some (some (SNX4_2 S o).length), some (some (SNX4_4 S o).length), some none]) := st_at hf17
  have hf22 : (SNX4_6 S o)[(SNX4_4 S o).length]? = some (0, 10, []) := st_at' hf18 (Nat.ne_of_lt (List.getElem?_eq_some_iff.mp hf13).1)
  have hw23 : ie_wf (SNX4_6 S o) M := by have zz := wf_set (i := 13) (r := (SNX4_4 S o).length) hw19 hf17 ((List.getElem?_eq_some_iff.mp hf18).1); exact zz
  have hz24 : ie_zr (SNX4_6 S o) M := zr_set hz20
  show V _ _ _ _ _ _ _ _ _ _ (SNX4_6 S o) M _ _
  refine V_aload_n rfl dX4_init_28 rfl rfl ?_
  refine V_bipush (v := 10) rfl dX4_init_29 kb_10 ?_
  refine V_newa (n := 10) (fun a => [some (.ref (a o))]) (fun a => [.ref (a o)]) rfl dX4_init_31 w_245 (by decide +kernel) hw23 hz24 ⟨rfl, rfl⟩ (fun a' h => ⟨by first | rfl | simp only [h _ ((List.getElem?_eq_some_iff.mp hf21).1)], by first | rfl | simp only [h _ ((List.getElem?_eq_some_iff.mp hf21).1)]⟩) (fun a1111 hg3 => ?_)
  have hf25 : (SNX4_7 S o)[o]? = some (6, 15, [none, none, none, none, none, none, none, none, none, none, none, some (some S.length), some (some (SNX4_2 S o).length), some (some (SNX4_4 S o).length), some none]) := ap_at hf21
  have hf26 : (SNX4_7 S o)[(SNX4_6 S o).length]? = some (0, 10, []) := nw_at
  have hw27 : ie_wf (SNX4_7 S o) M := wf_app hw23 (by simp) hz24
  have hz28 : ie_zr (SNX4_7 S o) M := zr_app hz24
  show V _ _ _ _ _ _ _ _ _ _ (SNX4_7 S o) M _ _
  refine V_putr (k0 := 14) (ty := (.array .int)) (r := (SNX4_6 S o).length) rfl dX4_init_33 hf25 icX4 tyX4_ok nmX4 (by decide) (Nat.le_of_ble_eq_true rfl) w_211 rfl rfl rfl (tyX4_ok _ (by decide)) rfl rfl ?_
  have hf29 : (SNX4_8 S o)[o]? = some (6, 15, [none, none, none, none, none, none, none, none, none, none, none, some (some S.length), some (some (SNX4_2 S o).length), some (some (SNX4_4 S o).length), some (some (SNX4_6 S o).length)]) := st_at hf25
  have hf30 : (SNX4_8 S o)[(SNX4_6 S o).length]? = some (0, 10, []) := st_at' hf26 (Nat.ne_of_lt (List.getElem?_eq_some_iff.mp hf21).1)
  have hw31 : ie_wf (SNX4_8 S o) M := by have zz := wf_set (i := 14) (r := (SNX4_6 S o).length) hw27 hf25 ((List.getElem?_eq_some_iff.mp hf26).1); exact zz
  have hz32 : ie_zr (SNX4_8 S o) M := zr_set hz28
  show V _ _ _ _ _ _ _ _ _ _ (SNX4_8 S o) M _ _
  exact V_vret dX4_init_36 rfl (by decide) (by decide) ⟨rfl, rfl, rfl, fun p hp => ((hg3 p (lt_len hp len6)).trans ((hg2 p (lt_len hp len4)).trans ((hg1 p (lt_len hp len2)).trans (hg0 p hp))))⟩
def SNX3_1 (S : List IK) (o : Nat) : List IK := S ++ [(0, 16, [])]
def SNX3_2 (S : List IK) (o : Nat) : List IK := (SNX3_1 S o).set o (5, 7, [none, some (some S.length), some none, some none, some none, none, some none])
def SNX3_3 (S : List IK) (o : Nat) : List IK := (SNX3_2 S o) ++ [(0, 16, [])]
def SNX3_4 (S : List IK) (o : Nat) : List IK := (SNX3_3 S o).set o (5, 7, [none, some (some S.length), some (some (SNX3_2 S o).length), some none, some none, none, some none])
def SNX3_5 (S : List IK) (o : Nat) : List IK := (SNX3_4 S o) ++ [(0, 16, [])]
def SNX3_6 (S : List IK) (o : Nat) : List IK := (SNX3_5 S o).set o (5, 7, [none, some (some S.length), some (some (SNX3_2 S o).length), some (some (SNX3_4 S o).length), some none, none, some none])
def SNX3_7 (S : List IK) (o : Nat) : List IK := (SNX3_6 S o) ++ [(0, 16, [])]
def SNX3_8 (S : List IK) (o : Nat) : List IK := (SNX3_7 S o).set o (5, 7, [none, some (some S.length), some (some (SNX3_2 S o).length), some (some (SNX3_4 S o).length), some (some (SNX3_6 S o).length), none, some none])
def SNX3_9 (S : List IK) (o : Nat) : List IK := (SNX3_8 S o) ++ [(0, 400, [])]
def SNX3_10 (S : List IK) (o : Nat) : List IK := (SNX3_9 S o).set o (5, 7, [none, some (some S.length), some (some (SNX3_2 S o).length), some (some (SNX3_4 S o).length), some (some (SNX3_6 S o).length), none, some (some (SNX3_8 S o).length)])
def SNX3 (S : List IK) (o : Nat) : List IK := (SNX3_10 S o)
def MNX3 (S : List IK) (M : IM) (o : Nat) : IM := M
def RNX3_1 (S : List IK) (o : Nat) : Nat := S.length
def RNX3_2 (S : List IK) (o : Nat) : Nat := (SNX3_2 S o).length
def RNX3_3 (S : List IK) (o : Nat) : Nat := (SNX3_4 S o).length
def RNX3_4 (S : List IK) (o : Nat) : Nat := (SNX3_6 S o).length
def RNX3_6 (S : List IK) (o : Nat) : Nat := (SNX3_8 S o).length
def CBX3 (S : List IK) (M : IM) (o : Nat) : Prop := (SNX3 S o)[o]? = some (5, 7, [none, some (some (RNX3_1 S o)), some (some (RNX3_2 S o)), some (some (RNX3_3 S o)), some (some (RNX3_4 S o)), none, some (some (RNX3_6 S o))]) ∧ ie_wf (SNX3 S o) (MNX3 S M o) ∧ ie_zr (SNX3 S o) (MNX3 S M o) ∧ (SNX3 S o).length = S.length + 5 ∧ ∀ (p : Nat) (x : IK), ¬ p = o → S[p]? = some x → (SNX3 S o)[p]? = some x
set_option maxRecDepth 100000 in
set_option maxHeartbeats 4000000 in
theorem cb_X3 {S : List IK} {M : IM} {o : Nat} (ho : S[o]? = some (5, 7, [none, some none, some none, some none, some none, none, some none])) (hwf : ie_wf S M) (hz : ie_zr S M) : CBX3 S M o := by
  have len1 : (SNX3_1 S o).length = S.length + 1 := l_app rfl
  have len2 : (SNX3_2 S o).length = S.length + 1 := l_set len1
  have len3 : (SNX3_3 S o).length = S.length + 2 := l_app len2
  have len4 : (SNX3_4 S o).length = S.length + 2 := l_set len3
  have len5 : (SNX3_5 S o).length = S.length + 3 := l_app len4
  have len6 : (SNX3_6 S o).length = S.length + 3 := l_set len5
  have len7 : (SNX3_7 S o).length = S.length + 4 := l_app len6
  have len8 : (SNX3_8 S o).length = S.length + 4 := l_set len7
  have len9 : (SNX3_9 S o).length = S.length + 5 := l_app len8
  have len10 : (SNX3_10 S o).length = S.length + 5 := l_set len9
  have hf1 : (SNX3_1 S o)[o]? = some (5, 7, [none, some none, some none, some none, some none, none, some none]) := ap_at ho
  have hf2 : (SNX3_1 S o)[S.length]? = some (0, 16, []) := nw_at
  have hw3 : ie_wf (SNX3_1 S o) M := wf_app hwf (by simp) hz
  have hz4 : ie_zr (SNX3_1 S o) M := zr_app hz
  have hf5 : (SNX3_2 S o)[o]? = some (5, 7, [none, some (some S.length), some none, some none, some none, none, some none]) := st_at hf1
  have hf6 : (SNX3_2 S o)[S.length]? = some (0, 16, []) := st_at' hf2 (Nat.ne_of_lt (List.getElem?_eq_some_iff.mp ho).1)
  have hw7 : ie_wf (SNX3_2 S o) M := by have zz := wf_set (i := 1) (r := S.length) hw3 hf1 ((List.getElem?_eq_some_iff.mp hf2).1); exact zz
  have hz8 : ie_zr (SNX3_2 S o) M := zr_set hz4
  have hf9 : (SNX3_3 S o)[o]? = some (5, 7, [none, some (some S.length), some none, some none, some none, none, some none]) := ap_at hf5
  have hf10 : (SNX3_3 S o)[(SNX3_2 S o).length]? = some (0, 16, []) := nw_at
  have hw11 : ie_wf (SNX3_3 S o) M := wf_app hw7 (by simp) hz8
  have hz12 : ie_zr (SNX3_3 S o) M := zr_app hz8
  have hf13 : (SNX3_4 S o)[o]? = some (5, 7, [none, some (some S.length), some (some (SNX3_2 S o).length), some none, some none, none, some none]) := st_at hf9
  have hf14 : (SNX3_4 S o)[(SNX3_2 S o).length]? = some (0, 16, []) := st_at' hf10 (Nat.ne_of_lt (List.getElem?_eq_some_iff.mp hf5).1)
  have hw15 : ie_wf (SNX3_4 S o) M := by have zz := wf_set (i := 2) (r := (SNX3_2 S o).length) hw11 hf9 ((List.getElem?_eq_some_iff.mp hf10).1); exact zz
  have hz16 : ie_zr (SNX3_4 S o) M := zr_set hz12
  have hf17 : (SNX3_5 S o)[o]? = some (5, 7, [none, some (some S.length), some (some (SNX3_2 S o).length), some none, some none, none, some none]) := ap_at hf13
  have hf18 : (SNX3_5 S o)[(SNX3_4 S o).length]? = some (0, 16, []) := nw_at
  have hw19 : ie_wf (SNX3_5 S o) M := wf_app hw15 (by simp) hz16
  have hz20 : ie_zr (SNX3_5 S o) M := zr_app hz16
  have hf21 : (SNX3_6 S o)[o]? = some (5, 7, [none, some (some S.length), some (some (SNX3_2 S o).length), some (some (SNX3_4 S o).length), some none, none, some none]) := st_at hf17
  have hf22 : (SNX3_6 S o)[(SNX3_4 S o).length]? = some (0, 16, []) := st_at' hf18 (Nat.ne_of_lt (List.getElem?_eq_some_iff.mp hf13).1)
  have hw23 : ie_wf (SNX3_6 S o) M := by have zz := wf_set (i := 3) (r := (SNX3_4 S o).length) hw19 hf17 ((List.getElem?_eq_some_iff.mp hf18).1); exact zz
  have hz24 : ie_zr (SNX3_6 S o) M := zr_set hz20
  have hf25 : (SNX3_7 S o)[o]? = some (5, 7, [none, some (some S.length), some (some (SNX3_2 S o).length), some (some (SNX3_4 S o).length), some none, none, some none]) := ap_at hf21
  have hf26 : (SNX3_7 S o)[(SNX3_6 S o).length]? = some (0, 16, []) := nw_at
  have hw27 : ie_wf (SNX3_7 S o) M := wf_app hw23 (by simp) hz24
  have hz28 : ie_zr (SNX3_7 S o) M := zr_app hz24
  have hf29 : (SNX3_8 S o)[o]? = some (5, 7, [none, some (some S.length), some (some (SNX3_2 S o).length), some (some (SNX3_4 S o).length), some (some (SNX3_6 S o).length), none, some none]) := st_at hf25
  have hf30 : (SNX3_8 S o)[(SNX3_6 S o).length]? = some (0, 16, []) := st_at' hf26 (Nat.ne_of_lt (List.getElem?_eq_some_iff.mp hf21).1)
  have hw31 : ie_wf (SNX3_8 S o) M := by have zz := wf_set (i := 4) (r := (SNX3_6 S o).length) hw27 hf25 ((List.getElem?_eq_some_iff.mp hf26).1); exact zz
  have hz32 : ie_zr (SNX3_8 S o) M := zr_set hz28
  have hf33 : (SNX3_9 S o)[o]? = some (5, 7, [none, some (some S.length), some (some (SNX3_2 S o).length), some (some (SNX3_4 S o).length), some (some (SNX3_6 S o).length), none, some none]) := ap_at hf29
  have hf34 : (SNX3_9 S o)[(SNX3_8 S o).length]? = some (0, 400, []) := nw_at
  have hw35 : ie_wf (SNX3_9 S o) M := wf_app hw31 (by simp) hz32
  have hz36 : ie_zr (SNX3_9 S o) M := zr_app hz32
  have hf37 : (SNX3_10 S o)[o]? = some (5, 7, [none, some (some S.length), some (some (SNX3_2 S o).length), some (some (SNX3_4 S o).length), some (some (SNX3_6 S o).length), none, some (some (SNX3_8 S o).length)]) := st_at hf33
  have hf38 : (SNX3_10 S o)[(SNX3_8 S o).length]? = some (0, 400, []) := st_at' hf34 (Nat.ne_of_lt (List.getElem?_eq_some_iff.mp hf29).1)
  have hw39 : ie_wf (SNX3_10 S o) M := by have zz := wf_set (i := 6) (r := (SNX3_8 S o).length) hw35 hf33 ((List.getElem?_eq_some_iff.mp hf34).1); exact zz
  have hz40 : ie_zr (SNX3_10 S o) M := zr_set hz36
  exact ⟨hf37, hw39, hz40, len10, fun p x hp h => (st_at' (ap_at (st_at' (ap_at (st_at' (ap_at (st_at' (ap_at (st_at' (ap_at h) (fun e => hp e.symm))) (fun e => hp e.symm))) (fun e => hp e.symm))) (fun e => hp e.symm))) (fun e => hp e.symm))⟩
set_option maxRecDepth 100000 in
set_option maxHeartbeats 8000000 in
theorem tc_X3 {g : IG} {a : Nat → Nat} {S : List IK} {M : IM} {o : Nat} (ho : S[o]? = some (5, 7, [none, some none, some none, some none, some none, none, some none])) (hwf : ie_wf S M) (hz : ie_zr S M) : Cn g mX3_init 1 5 464 (qC (SNX3 S o) (MNX3 S M o) S.length a) [.ref (a o)] a S M := by
  refine Cn_of (L := [some (.ref (a o))]) mf_X3_init (cat_r cat_0) (Nat.le_of_ble_eq_true rfl) rfl ?_
  have len1 : (SNX3_1 S o).length = S.length + 1 := l_app rfl
  have len2 : (SNX3_2 S o).length = S.length + 1 := l_set len1
  have len3 : (SNX3_3 S o).length = S.length + 2 := l_app len2
  have len4 : (SNX3_4 S o).length = S.length + 2 := l_set len3
  have len5 : (SNX3_5 S o).length = S.length + 3 := l_app len4
  have len6 : (SNX3_6 S o).length = S.length + 3 := l_set len5
  have len7 : (SNX3_7 S o).length = S.length + 4 := l_app len6
  have len8 : (SNX3_8 S o).length = S.length + 4 := l_set len7
  have len9 : (SNX3_9 S o).length = S.length + 5 := l_app len8
  have len10 : (SNX3_10 S o).length = S.length + 5 := l_set len9
  refine V_aload_n rfl dX3_init_0 rfl rfl ?_
  refine V_obj rfl dX3_init_1 ⟨w_257, w_166, w_167⟩ rfl ?_
  refine V_aload_n rfl dX3_init_4 rfl rfl ?_
  refine V_bipush (v := 16) rfl dX3_init_5 kb_16 ?_
  refine V_newa (n := 16) (fun a => [some (.ref (a o))]) (fun a => [.ref (a o)]) rfl dX3_init_7 w_245 (by decide +kernel) hwf hz ⟨rfl, rfl⟩ (fun a' h => ⟨by first | rfl | simp only [h _ ((List.getElem?_eq_some_iff.mp ho).1)], by first | rfl | simp only [h _ ((List.getElem?_eq_some_iff.mp ho).1)]⟩) (fun a1 hg0 => ?_)
  have hf1 : (SNX3_1 S o)[o]? = some (5, 7, [none, some none, some none, some none, some none, none, some none]) := ap_at ho
  have hf2 : (SNX3_1 S o)[S.length]? = some (0, 16, []) := nw_at
  have hw3 : ie_wf (SNX3_1 S o) M := wf_app hwf (by simp) hz
  have hz4 : ie_zr (SNX3_1 S o) M := zr_app hz
  show V _ _ _ _ _ _ _ _ _ _ (SNX3_1 S o) M _ _
  refine V_putr (k0 := 1) (ty := (.array .int)) (r := S.length) rfl dX3_init_9 hf1 icX3 tyX3_ok nmX3 (by decide) (Nat.le_of_ble_eq_true rfl) w_262 rfl rfl rfl (tyX3_ok _ (by decide)) rfl rfl ?_
  have hf5 : (SNX3_2 S o)[o]? = some (5, 7, [none, some (some S.length), some none, some none, some none, none, some none]) := st_at hf1
  have hf6 : (SNX3_2 S o)[S.length]? = some (0, 16, []) := st_at' hf2 (Nat.ne_of_lt (List.getElem?_eq_some_iff.mp ho).1)
  have hw7 : ie_wf (SNX3_2 S o) M := by have zz := wf_set (i := 1) (r := S.length) hw3 hf1 ((List.getElem?_eq_some_iff.mp hf2).1); exact zz
  have hz8 : ie_zr (SNX3_2 S o) M := zr_set hz4
  show V _ _ _ _ _ _ _ _ _ _ (SNX3_2 S o) M _ _
  refine V_aload_n rfl dX3_init_12 rfl rfl ?_
  refine V_bipush (v := 16) rfl dX3_init_13 kb_16 ?_
  refine V_newa (n := 16) (fun a => [some (.ref (a o))]) (fun a => [.ref (a o)]) rfl dX3_init_15 w_245 (by decide +kernel) hw7 hz8 ⟨rfl, rfl⟩ (fun a' h => ⟨by first | rfl | simp only [h _ ((List.getElem?_eq_some_iff.mp hf5).1)], by first | rfl | simp only [h _ ((List.getElem?_eq_some_iff.mp hf5).1)]⟩) (fun a11 hg1 => ?_)
  have hf9 : (SNX3_3 S o)[o]? = some (5, 7, [none, some (some S.length), some none, some none, some none, none, some none]) := ap_at hf5
  have hf10 : (SNX3_3 S o)[(SNX3_2 S o).length]? = some (0, 16, []) := nw_at
  have hw11 : ie_wf (SNX3_3 S o) M := wf_app hw7 (by simp) hz8
  have hz12 : ie_zr (SNX3_3 S o) M := zr_app hz8
  show V _ _ _ _ _ _ _ _ _ _ (SNX3_3 S o) M _ _
  refine V_putr (k0 := 2) (ty := (.array .int)) (r := (SNX3_2 S o).length) rfl dX3_init_17 hf9 icX3 tyX3_ok nmX3 (by decide) (Nat.le_of_ble_eq_true rfl) w_264 rfl rfl rfl (tyX3_ok _ (by decide)) rfl rfl ?_
  have hf13 : (SNX3_4 S o)[o]? = some (5, 7, [none, some (some S.length), some (some (SNX3_2 S o).length), some none, some none, none, some none]) := st_at hf9
  have hf14 : (SNX3_4 S o)[(SNX3_2 S o).length]? = some (0, 16, []) := st_at' hf10 (Nat.ne_of_lt (List.getElem?_eq_some_iff.mp hf5).1)
  have hw15 : ie_wf (SNX3_4 S o) M := by have zz := wf_set (i := 2) (r := (SNX3_2 S o).length) hw11 hf9 ((List.getElem?_eq_some_iff.mp hf10).1); exact zz
  have hz16 : ie_zr (SNX3_4 S o) M := zr_set hz12
  show V _ _ _ _ _ _ _ _ _ _ (SNX3_4 S o) M _ _
  refine V_aload_n rfl dX3_init_20 rfl rfl ?_
  refine V_bipush (v := 16) rfl dX3_init_21 kb_16 ?_
  refine V_newa (n := 16) (fun a => [some (.ref (a o))]) (fun a => [.ref (a o)]) rfl dX3_init_23 w_245 (by decide +kernel) hw15 hz16 ⟨rfl, rfl⟩ (fun a' h => ⟨by first | rfl | simp only [h _ ((List.getElem?_eq_some_iff.mp hf13).1)], by first | rfl | simp only [h _ ((List.getElem?_eq_some_iff.mp hf13).1)]⟩) (fun a111 hg2 => ?_)
  have hf17 : (SNX3_5 S o)[o]? = some (5, 7, [none, some (some S.length), some (some (SNX3_2 S o).length), some none, some none, none, some none]) := ap_at hf13
  have hf18 : (SNX3_5 S o)[(SNX3_4 S o).length]? = some (0, 16, []) := nw_at
  have hw19 : ie_wf (SNX3_5 S o) M := wf_app hw15 (by simp) hz16
  have hz20 : ie_zr (SNX3_5 S o) M := zr_app hz16
  show V _ _ _ _ _ _ _ _ _ _ (SNX3_5 S o) M _ _
  refine V_putr (k0 := 3) (ty := (.array .int)) (r := (SNX3_4 S o).length) rfl dX3_init_25 hf17 icX3 tyX3_ok nmX3 (by decide) (Nat.le_of_ble_eq_true rfl) w_266 rfl rfl rfl (tyX3_ok _ (by decide)) rfl rfl ?_
  have hf21 : (SNX3_6 S o)[o]? = some (5, 7, [none, some (some S.length), some (some (SNX3_2 S o).length), some (some (SNX3_4 S o).length), some none, none, some none]) := st_at hf17
  have hf22 : (SNX3_6 S o)[(SNX3_4 S o).length]? = some (0, 16, []) := st_at' hf18 (Nat.ne_of_lt (List.getElem?_eq_some_iff.mp hf13).1)
  have hw23 : ie_wf (SNX3_6 S o) M := by have zz := wf_set (i := 3) (r := (SNX3_4 S o).length) hw19 hf17 ((List.getElem?_eq_some_iff.mp hf18).1); exact zz
  have hz24 : ie_zr (SNX3_6 S o) M := zr_set hz20
  show V _ _ _ _ _ _ _ _ _ _ (SNX3_6 S o) M _ _
  refine V_aload_n rfl dX3_init_28 rfl rfl ?_
  refine V_bipush (v := 16) rfl dX3_init_29 kb_16 ?_
  refine V_newa (n := 16) (fun a => [some (.ref (a o))]) (fun a => [.ref (a o)]) rfl dX3_init_31 w_245 (by decide +kernel) hw23 hz24 ⟨rfl, rfl⟩ (fun a' h => ⟨by first | rfl | simp only [h _ ((List.getElem?_eq_some_iff.mp hf21).1)], by first | rfl | simp only [h _ ((List.getElem?_eq_some_iff.mp hf21).1)]⟩) (fun a1111 hg3 => ?_)
  have hf25 : (SNX3_7 S o)[o]? = some (5, 7, [none, some (some S.length), some (some (SNX3_2 S o).length), some (some (SNX3_4 S o).length), some none, none, some none]) := ap_at hf21
  have hf26 : (SNX3_7 S o)[(SNX3_6 S o).length]? = some (0, 16, []) := nw_at
  have hw27 : ie_wf (SNX3_7 S o) M := wf_app hw23 (by simp) hz24
  have hz28 : ie_zr (SNX3_7 S o) M := zr_app hz24
  show V _ _ _ _ _ _ _ _ _ _ (SNX3_7 S o) M _ _
  refine V_putr (k0 := 4) (ty := (.array .int)) (r := (SNX3_6 S o).length) rfl dX3_init_33 hf25 icX3 tyX3_ok nmX3 (by decide) (Nat.le_of_ble_eq_true rfl) w_268 rfl rfl rfl (tyX3_ok _ (by decide)) rfl rfl ?_
  have hf29 : (SNX3_8 S o)[o]? = some (5, 7, [none, some (some S.length), some (some (SNX3_2 S o).length), some (some (SNX3_4 S o).length), some (some (SNX3_6 S o).length), none, some none]) := st_at hf25
  have hf30 : (SNX3_8 S o)[(SNX3_6 S o).length]? = some (0, 16, []) := st_at' hf26 (Nat.ne_of_lt (List.getElem?_eq_some_iff.mp hf21).1)
  have hw31 : ie_wf (SNX3_8 S o) M := by have zz := wf_set (i := 4) (r := (SNX3_6 S o).length) hw27 hf25 ((List.getElem?_eq_some_iff.mp hf26).1); exact zz
  have hz32 : ie_zr (SNX3_8 S o) M := zr_set hz28
  show V _ _ _ _ _ _ _ _ _ _ (SNX3_8 S o) M _ _
  refine V_aload_n rfl dX3_init_36 rfl rfl ?_
  refine V_sipush (v := 400) rfl dX3_init_37 ks_400 ?_
  refine V_newa (n := 400) (fun a => [some (.ref (a o))]) (fun a => [.ref (a o)]) rfl dX3_init_40 w_245 (by decide +kernel) hw31 hz32 ⟨rfl, rfl⟩ (fun a' h => ⟨by first | rfl | simp only [h _ ((List.getElem?_eq_some_iff.mp hf29).1)], by first | rfl | simp only [h _ ((List.getElem?_eq_some_iff.mp hf29).1)]⟩) (fun a11111 hg4 => ?_)
  have hf33 : (SNX3_9 S o)[o]? = some (5, 7, [none, some (some S.length), some (some (SNX3_2 S o).length), some (some (SNX3_4 S o).length), some (some (SNX3_6 S o).length), none, some none]) := ap_at hf29
  have hf34 : (SNX3_9 S o)[(SNX3_8 S o).length]? = some (0, 400, []) := nw_at
  have hw35 : ie_wf (SNX3_9 S o) M := wf_app hw31 (by simp) hz32
  have hz36 : ie_zr (SNX3_9 S o) M := zr_app hz32
  show V _ _ _ _ _ _ _ _ _ _ (SNX3_9 S o) M _ _
  refine V_putr (k0 := 6) (ty := (.array .int)) (r := (SNX3_8 S o).length) rfl dX3_init_42 hf33 icX3 tyX3_ok nmX3 (by decide) (Nat.le_of_ble_eq_true rfl) w_271 rfl rfl rfl (tyX3_ok _ (by decide)) rfl rfl ?_
  have hf37 : (SNX3_10 S o)[o]? = some (5, 7, [none, some (some S.length), some (some (SNX3_2 S o).length), some (some (SNX3_4 S o).length), some (some (SNX3_6 S o).length), none, some (some (SNX3_8 S o).length)]) := st_at hf33
  have hf38 : (SNX3_10 S o)[(SNX3_8 S o).length]? = some (0, 400, []) := st_at' hf34 (Nat.ne_of_lt (List.getElem?_eq_some_iff.mp hf29).1)
  have hw39 : ie_wf (SNX3_10 S o) M := by have zz := wf_set (i := 6) (r := (SNX3_8 S o).length) hw35 hf33 ((List.getElem?_eq_some_iff.mp hf34).1); exact zz
  have hz40 : ie_zr (SNX3_10 S o) M := zr_set hz36
  show V _ _ _ _ _ _ _ _ _ _ (SNX3_10 S o) M _ _
  exact V_vret dX3_init_45 rfl (by decide) (by decide) ⟨rfl, rfl, rfl, fun p hp => ((hg4 p (lt_len hp len8)).trans ((hg3 p (lt_len hp len6)).trans ((hg2 p (lt_len hp len4)).trans ((hg1 p (lt_len hp len2)).trans (hg0 p hp)))))⟩
def SNX7_1 (S : List IK) (o : Nat) : List IK := S ++ [(0, 8, [])]
def SNX7_2 (S : List IK) (o : Nat) : List IK := (SNX7_1 S o).set o (9, 5, [none, some (some S.length), some none, some none, some none])
def SNX7_3 (S : List IK) (o : Nat) : List IK := (SNX7_2 S o) ++ [(0, 8, [])]
def SNX7_4 (S : List IK) (o : Nat) : List IK := (SNX7_3 S o).set o (9, 5, [none, some (some S.length), some (some (SNX7_2 S o).length), some none, some none])
def SNX7_5 (S : List IK) (o : Nat) : List IK := (SNX7_4 S o) ++ [(0, 8, [])]
def SNX7_6 (S : List IK) (o : Nat) : List IK := (SNX7_5 S o).set o (9, 5, [none, some (some S.length), some (some (SNX7_2 S o).length), some (some (SNX7_4 S o).length), some none])
def SNX7_7 (S : List IK) (o : Nat) : List IK := (SNX7_6 S o) ++ [(0, 8, [])]
def SNX7_8 (S : List IK) (o : Nat) : List IK := (SNX7_7 S o).set o (9, 5, [none, some (some S.length), some (some (SNX7_2 S o).length), some (some (SNX7_4 S o).length), some (some (SNX7_6 S o).length)])
def SNX7 (S : List IK) (o : Nat) : List IK := (SNX7_8 S o)
def MNX7 (S : List IK) (M : IM) (o : Nat) : IM := M
def RNX7_1 (S : List IK) (o : Nat) : Nat := S.length
def RNX7_2 (S : List IK) (o : Nat) : Nat := (SNX7_2 S o).length
def RNX7_3 (S : List IK) (o : Nat) : Nat := (SNX7_4 S o).length
def RNX7_4 (S : List IK) (o : Nat) : Nat := (SNX7_6 S o).length
def CBX7 (S : List IK) (M : IM) (o : Nat) : Prop := (SNX7 S o)[o]? = some (9, 5, [none, some (some (RNX7_1 S o)), some (some (RNX7_2 S o)), some (some (RNX7_3 S o)), some (some (RNX7_4 S o))]) ∧ ie_wf (SNX7 S o) (MNX7 S M o) ∧ ie_zr (SNX7 S o) (MNX7 S M o) ∧ (SNX7 S o).length = S.length + 4 ∧ ∀ (p : Nat) (x : IK), ¬ p = o → S[p]? = some x → (SNX7 S o)[p]? = some x
set_option maxRecDepth 100000 in
set_option maxHeartbeats 4000000 in
theorem cb_X7 {S : List IK} {M : IM} {o : Nat} (ho : S[o]? = some (9, 5, [none, some none, some none, some none, some none])) (hwf : ie_wf S M) (hz : ie_zr S M) : CBX7 S M o := by
  have len1 : (SNX7_1 S o).length = S.length + 1 := l_app rfl
  have len2 : (SNX7_2 S o).length = S.length + 1 := l_set len1
  have len3 : (SNX7_3 S o).length = S.length + 2 := l_app len2
  have len4 : (SNX7_4 S o).length = S.length + 2 := l_set len3
  have len5 : (SNX7_5 S o).length = S.length + 3 := l_app len4
  have len6 : (SNX7_6 S o).length = S.length + 3 := l_set len5
  have len7 : (SNX7_7 S o).length = S.length + 4 := l_app len6
  have len8 : (SNX7_8 S o).length = S.length + 4 := l_set len7
  have hf1 : (SNX7_1 S o)[o]? = some (9, 5, [none, some none, some none, some none, some none]) := ap_at ho
  have hf2 : (SNX7_1 S o)[S.length]? = some (0, 8, []) := nw_at
  have hw3 : ie_wf (SNX7_1 S o) M := wf_app hwf (by simp) hz
  have hz4 : ie_zr (SNX7_1 S o) M := zr_app hz
  have hf5 : (SNX7_2 S o)[o]? = some (9, 5, [none, some (some S.length), some none, some none, some none]) := st_at hf1
  have hf6 : (SNX7_2 S o)[S.length]? = some (0, 8, []) := st_at' hf2 (Nat.ne_of_lt (List.getElem?_eq_some_iff.mp ho).1)
  have hw7 : ie_wf (SNX7_2 S o) M := by have zz := wf_set (i := 1) (r := S.length) hw3 hf1 ((List.getElem?_eq_some_iff.mp hf2).1); exact zz
  have hz8 : ie_zr (SNX7_2 S o) M := zr_set hz4
  have hf9 : (SNX7_3 S o)[o]? = some (9, 5, [none, some (some S.length), some none, some none, some none]) := ap_at hf5
  have hf10 : (SNX7_3 S o)[(SNX7_2 S o).length]? = some (0, 8, []) := nw_at
  have hw11 : ie_wf (SNX7_3 S o) M := wf_app hw7 (by simp) hz8
  have hz12 : ie_zr (SNX7_3 S o) M := zr_app hz8
  have hf13 : (SNX7_4 S o)[o]? = some (9, 5, [none, some (some S.length), some (some (SNX7_2 S o).length), some none, some none]) := st_at hf9
  have hf14 : (SNX7_4 S o)[(SNX7_2 S o).length]? = some (0, 8, []) := st_at' hf10 (Nat.ne_of_lt (List.getElem?_eq_some_iff.mp hf5).1)
  have hw15 : ie_wf (SNX7_4 S o) M := by have zz := wf_set (i := 2) (r := (SNX7_2 S o).length) hw11 hf9 ((List.getElem?_eq_some_iff.mp hf10).1); exact zz
  have hz16 : ie_zr (SNX7_4 S o) M := zr_set hz12
  have hf17 : (SNX7_5 S o)[o]? = some (9, 5, [none, some (some S.length), some (some (SNX7_2 S o).length), some none, some none]) := ap_at hf13
  have hf18 : (SNX7_5 S o)[(SNX7_4 S o).length]? = some (0, 8, []) := nw_at
  have hw19 : ie_wf (SNX7_5 S o) M := wf_app hw15 (by simp) hz16
  have hz20 : ie_zr (SNX7_5 S o) M := zr_app hz16
  have hf21 : (SNX7_6 S o)[o]? = some (9, 5, [none, some (some S.length), some (some (SNX7_2 S o).length), some (some (SNX7_4 S o).length), some none]) := st_at hf17
  have hf22 : (SNX7_6 S o)[(SNX7_4 S o).length]? = some (0, 8, []) := st_at' hf18 (Nat.ne_of_lt (List.getElem?_eq_some_iff.mp hf13).1)
  have hw23 : ie_wf (SNX7_6 S o) M := by have zz := wf_set (i := 3) (r := (SNX7_4 S o).length) hw19 hf17 ((List.getElem?_eq_some_iff.mp hf18).1); exact zz
  have hz24 : ie_zr (SNX7_6 S o) M := zr_set hz20
  have hf25 : (SNX7_7 S o)[o]? = some (9, 5, [none, some (some S.length), some (some (SNX7_2 S o).length), some (some (SNX7_4 S o).length), some none]) := ap_at hf21
  have hf26 : (SNX7_7 S o)[(SNX7_6 S o).length]? = some (0, 8, []) := nw_at
  have hw27 : ie_wf (SNX7_7 S o) M := wf_app hw23 (by simp) hz24
  have hz28 : ie_zr (SNX7_7 S o) M := zr_app hz24
  have hf29 : (SNX7_8 S o)[o]? = some (9, 5, [none, some (some S.length), some (some (SNX7_2 S o).length), some (some (SNX7_4 S o).length), some (some (SNX7_6 S o).length)]) := st_at hf25
  have hf30 : (SNX7_8 S o)[(SNX7_6 S o).length]? = some (0, 8, []) := st_at' hf26 (Nat.ne_of_lt (List.getElem?_eq_some_iff.mp hf21).1)
  have hw31 : ie_wf (SNX7_8 S o) M := by have zz := wf_set (i := 4) (r := (SNX7_6 S o).length) hw27 hf25 ((List.getElem?_eq_some_iff.mp hf26).1); exact zz
  have hz32 : ie_zr (SNX7_8 S o) M := zr_set hz28
  exact ⟨hf29, hw31, hz32, len8, fun p x hp h => (st_at' (ap_at (st_at' (ap_at (st_at' (ap_at (st_at' (ap_at h) (fun e => hp e.symm))) (fun e => hp e.symm))) (fun e => hp e.symm))) (fun e => hp e.symm))⟩
set_option maxRecDepth 100000 in
set_option maxHeartbeats 8000000 in
theorem tc_X7 {g : IG} {a : Nat → Nat} {S : List IK} {M : IM} {o : Nat} (ho : S[o]? = some (9, 5, [none, some none, some none, some none, some none])) (hwf : ie_wf S M) (hz : ie_zr S M) : Cn g mX7_init 1 4 32 (qC (SNX7 S o) (MNX7 S M o) S.length a) [.ref (a o)] a S M := by
  refine Cn_of (L := [some (.ref (a o))]) mf_X7_init (cat_r cat_0) (Nat.le_of_ble_eq_true rfl) rfl ?_
  have len1 : (SNX7_1 S o).length = S.length + 1 := l_app rfl
  have len2 : (SNX7_2 S o).length = S.length + 1 := l_set len1
  have len3 : (SNX7_3 S o).length = S.length + 2 := l_app len2
  have len4 : (SNX7_4 S o).length = S.length + 2 := l_set len3
  have len5 : (SNX7_5 S o).length = S.length + 3 := l_app len4
  have len6 : (SNX7_6 S o).length = S.length + 3 := l_set len5
  have len7 : (SNX7_7 S o).length = S.length + 4 := l_app len6
  have len8 : (SNX7_8 S o).length = S.length + 4 := l_set len7
  refine V_aload_n rfl dX7_init_0 rfl rfl ?_
  refine V_obj rfl dX7_init_1 ⟨w_293, w_166, w_167⟩ rfl ?_
  refine V_aload_n rfl dX7_init_4 rfl rfl ?_
  refine V_bipush (v := 8) rfl dX7_init_5 kb_8 ?_
  refine V_newa (n := 8) (fun a => [some (.ref (a o))]) (fun a => [.ref (a o)]) rfl dX7_init_7 w_245 (by decide +kernel) hwf hz ⟨rfl, rfl⟩ (fun a' h => ⟨by first | rfl | simp only [h _ ((List.getElem?_eq_some_iff.mp ho).1)], by first | rfl | simp only [h _ ((List.getElem?_eq_some_iff.mp ho).1)]⟩) (fun a1 hg0 => ?_)
  have hf1 : (SNX7_1 S o)[o]? = some (9, 5, [none, some none, some none, some none, some none]) := ap_at ho
  have hf2 : (SNX7_1 S o)[S.length]? = some (0, 8, []) := nw_at
  have hw3 : ie_wf (SNX7_1 S o) M := wf_app hwf (by simp) hz
  have hz4 : ie_zr (SNX7_1 S o) M := zr_app hz
  show V _ _ _ _ _ _ _ _ _ _ (SNX7_1 S o) M _ _
  refine V_putr (k0 := 1) (ty := (.array .int)) (r := S.length) rfl dX7_init_9 hf1 icX7 tyX7_ok nmX7 (by decide) (Nat.le_of_ble_eq_true rfl) w_298 rfl rfl rfl (tyX7_ok _ (by decide)) rfl rfl ?_
  have hf5 : (SNX7_2 S o)[o]? = some (9, 5, [none, some (some S.length), some none, some none, some none]) := st_at hf1
  have hf6 : (SNX7_2 S o)[S.length]? = some (0, 8, []) := st_at' hf2 (Nat.ne_of_lt (List.getElem?_eq_some_iff.mp ho).1)
  have hw7 : ie_wf (SNX7_2 S o) M := by have zz := wf_set (i := 1) (r := S.length) hw3 hf1 ((List.getElem?_eq_some_iff.mp hf2).1); exact zz
  have hz8 : ie_zr (SNX7_2 S o) M := zr_set hz4
  show V _ _ _ _ _ _ _ _ _ _ (SNX7_2 S o) M _ _
  refine V_aload_n rfl dX7_init_12 rfl rfl ?_
  refine V_bipush (v := 8) rfl dX7_init_13 kb_8 ?_
  refine V_newa (n := 8) (fun a => [some (.ref (a o))]) (fun a => [.ref (a o)]) rfl dX7_init_15 w_245 (by decide +kernel) hw7 hz8 ⟨rfl, rfl⟩ (fun a' h => ⟨by first | rfl | simp only [h _ ((List.getElem?_eq_some_iff.mp hf5).1)], by first | rfl | simp only [h _ ((List.getElem?_eq_some_iff.mp hf5).1)]⟩) (fun a11 hg1 => ?_)
  have hf9 : (SNX7_3 S o)[o]? = some (9, 5, [none, some (some S.length), some none, some none, some none]) := ap_at hf5
  have hf10 : (SNX7_3 S o)[(SNX7_2 S o).length]? = some (0, 8, []) := nw_at
  have hw11 : ie_wf (SNX7_3 S o) M := wf_app hw7 (by simp) hz8
  have hz12 : ie_zr (SNX7_3 S o) M := zr_app hz8
  show V _ _ _ _ _ _ _ _ _ _ (SNX7_3 S o) M _ _
  refine V_putr (k0 := 2) (ty := (.array .int)) (r := (SNX7_2 S o).length) rfl dX7_init_17 hf9 icX7 tyX7_ok nmX7 (by decide) (Nat.le_of_ble_eq_true rfl) w_301 rfl rfl rfl (tyX7_ok _ (by decide)) rfl rfl ?_
  have hf13 : (SNX7_4 S o)[o]? = some (9, 5, [none, some (some S.length), some (some (SNX7_2 S o).length), some none, some none]) := st_at hf9
  have hf14 : (SNX7_4 S o)[(SNX7_2 S o).length]? = some (0, 8, []) := st_at' hf10 (Nat.ne_of_lt (List.getElem?_eq_some_iff.mp hf5).1)
  have hw15 : ie_wf (SNX7_4 S o) M := by have zz := wf_set (i := 2) (r := (SNX7_2 S o).length) hw11 hf9 ((List.getElem?_eq_some_iff.mp hf10).1); exact zz
  have hz16 : ie_zr (SNX7_4 S o) M := zr_set hz12
  show V _ _ _ _ _ _ _ _ _ _ (SNX7_4 S o) M _ _
  refine V_aload_n rfl dX7_init_20 rfl rfl ?_
  refine V_bipush (v := 8) rfl dX7_init_21 kb_8 ?_
  refine V_newa (n := 8) (fun a => [some (.ref (a o))]) (fun a => [.ref (a o)]) rfl dX7_init_23 w_245 (by decide +kernel) hw15 hz16 ⟨rfl, rfl⟩ (fun a' h => ⟨by first | rfl | simp only [h _ ((List.getElem?_eq_some_iff.mp hf13).1)], by first | rfl | simp only [h _ ((List.getElem?_eq_some_iff.mp hf13).1)]⟩) (fun a111 hg2 => ?_)
  have hf17 : (SNX7_5 S o)[o]? = some (9, 5, [none, some (some S.length), some (some (SNX7_2 S o).length), some none, some none]) := ap_at hf13
  have hf18 : (SNX7_5 S o)[(SNX7_4 S o).length]? = some (0, 8, []) := nw_at
  have hw19 : ie_wf (SNX7_5 S o) M := wf_app hw15 (by simp) hz16
  have hz20 : ie_zr (SNX7_5 S o) M := zr_app hz16
  show V _ _ _ _ _ _ _ _ _ _ (SNX7_5 S o) M _ _
  refine V_putr (k0 := 3) (ty := (.array .int)) (r := (SNX7_4 S o).length) rfl dX7_init_25 hf17 icX7 tyX7_ok nmX7 (by decide) (Nat.le_of_ble_eq_true rfl) w_303 rfl rfl rfl (tyX7_ok _ (by decide)) rfl rfl ?_
  have hf21 : (SNX7_6 S o)[o]? = some (9, 5, [none, some (some S.length), some (some (SNX7_2 S o).length), some (some (SNX7_4 S o).length), some none]) := st_at hf17
  have hf22 : (SNX7_6 S o)[(SNX7_4 S o).length]? = some (0, 8, []) := st_at' hf18 (Nat.ne_of_lt (List.getElem?_eq_some_iff.mp hf13).1)
  have hw23 : ie_wf (SNX7_6 S o) M := by have zz := wf_set (i := 3) (r := (SNX7_4 S o).length) hw19 hf17 ((List.getElem?_eq_some_iff.mp hf18).1); exact zz
  have hz24 : ie_zr (SNX7_6 S o) M := zr_set hz20
  show V _ _ _ _ _ _ _ _ _ _ (SNX7_6 S o) M _ _
  refine V_aload_n rfl dX7_init_28 rfl rfl ?_
  refine V_bipush (v := 8) rfl dX7_init_29 kb_8 ?_
  refine V_newa (n := 8) (fun a => [some (.ref (a o))]) (fun a => [.ref (a o)]) rfl dX7_init_31 w_245 (by decide +kernel) hw23 hz24 ⟨rfl, rfl⟩ (fun a' h => ⟨by first | rfl | simp only [h _ ((List.getElem?_eq_some_iff.mp hf21).1)], by first | rfl | simp only [h _ ((List.getElem?_eq_some_iff.mp hf21).1)]⟩) (fun a1111 hg3 => ?_)
  have hf25 : (SNX7_7 S o)[o]? = some (9, 5, [none, some (some S.length), some (some (SNX7_2 S o).length), some (some (SNX7_4 S o).length), some none]) := ap_at hf21
  have hf26 : (SNX7_7 S o)[(SNX7_6 S o).length]? = some (0, 8, []) := nw_at
  have hw27 : ie_wf (SNX7_7 S o) M := wf_app hw23 (by simp) hz24
  have hz28 : ie_zr (SNX7_7 S o) M := zr_app hz24
  show V _ _ _ _ _ _ _ _ _ _ (SNX7_7 S o) M _ _
  refine V_putr (k0 := 4) (ty := (.array .int)) (r := (SNX7_6 S o).length) rfl dX7_init_33 hf25 icX7 tyX7_ok nmX7 (by decide) (Nat.le_of_ble_eq_true rfl) w_305 rfl rfl rfl (tyX7_ok _ (by decide)) rfl rfl ?_
  have hf29 : (SNX7_8 S o)[o]? = some (9, 5, [none, some (some S.length), some (some (SNX7_2 S o).length), some (some (SNX7_4 S o).length), some (some (SNX7_6 S o).length)]) := st_at hf25
  have hf30 : (SNX7_8 S o)[(SNX7_6 S o).length]? = some (0, 8, []) := st_at' hf26 (Nat.ne_of_lt (List.getElem?_eq_some_iff.mp hf21).1)
  have hw31 : ie_wf (SNX7_8 S o) M := by have zz := wf_set (i := 4) (r := (SNX7_6 S o).length) hw27 hf25 ((List.getElem?_eq_some_iff.mp hf26).1); exact zz
  have hz32 : ie_zr (SNX7_8 S o) M := zr_set hz28
  show V _ _ _ _ _ _ _ _ _ _ (SNX7_8 S o) M _ _
  exact V_vret dX7_init_36 rfl (by decide) (by decide) ⟨rfl, rfl, rfl, fun p hp => ((hg3 p (lt_len hp len6)).trans ((hg2 p (lt_len hp len4)).trans ((hg1 p (lt_len hp len2)).trans (hg0 p hp))))⟩
def SNX8_1 (S : List IK) (o : Nat) : List IK := S ++ [(0, 16, [])]
def SNX8_2 (S : List IK) (o : Nat) : List IK := (SNX8_1 S o).set o (10, 5, [none, some (some S.length), some none, some none, some none])
def SNX8_3 (S : List IK) (o : Nat) : List IK := (SNX8_2 S o) ++ [(0, 16, [])]
def SNX8_4 (S : List IK) (o : Nat) : List IK := (SNX8_3 S o).set o (10, 5, [none, some (some S.length), some (some (SNX8_2 S o).length), some none, some none])
def SNX8_5 (S : List IK) (o : Nat) : List IK := (SNX8_4 S o) ++ [(0, 10, [])]
def SNX8_6 (S : List IK) (o : Nat) : List IK := (SNX8_5 S o).set o (10, 5, [none, some (some S.length), some (some (SNX8_2 S o).length), some (some (SNX8_4 S o).length), some none])
def SNX8_7 (S : List IK) (o : Nat) : List IK := (SNX8_6 S o) ++ [(0, 10, [])]
def SNX8_8 (S : List IK) (o : Nat) : List IK := (SNX8_7 S o).set o (10, 5, [none, some (some S.length), some (some (SNX8_2 S o).length), some (some (SNX8_4 S o).length), some (some (SNX8_6 S o).length)])
def SNX8 (S : List IK) (o : Nat) : List IK := (SNX8_8 S o)
def MNX8 (S : List IK) (M : IM) (o : Nat) : IM := M
def RNX8_1 (S : List IK) (o : Nat) : Nat := S.length
def RNX8_2 (S : List IK) (o : Nat) : Nat := (SNX8_2 S o).length
def RNX8_3 (S : List IK) (o : Nat) : Nat := (SNX8_4 S o).length
def RNX8_4 (S : List IK) (o : Nat) : Nat := (SNX8_6 S o).length
def CBX8 (S : List IK) (M : IM) (o : Nat) : Prop := (SNX8 S o)[o]? = some (10, 5, [none, some (some (RNX8_1 S o)), some (some (RNX8_2 S o)), some (some (RNX8_3 S o)), some (some (RNX8_4 S o))]) ∧ ie_wf (SNX8 S o) (MNX8 S M o) ∧ ie_zr (SNX8 S o) (MNX8 S M o) ∧ (SNX8 S o).length = S.length + 4 ∧ ∀ (p : Nat) (x : IK), ¬ p = o → S[p]? = some x → (SNX8 S o)[p]? = some x
set_option maxRecDepth 100000 in
set_option maxHeartbeats 4000000 in
theorem cb_X8 {S : List IK} {M : IM} {o : Nat} (ho : S[o]? = some (10, 5, [none, some none, some none, some none, some none])) (hwf : ie_wf S M) (hz : ie_zr S M) : CBX8 S M o := by
  have len1 : (SNX8_1 S o).length = S.length + 1 := l_app rfl
  have len2 : (SNX8_2 S o).length = S.length + 1 := l_set len1
  have len3 : (SNX8_3 S o).length = S.length + 2 := l_app len2
  have len4 : (SNX8_4 S o).length = S.length + 2 := l_set len3
  have len5 : (SNX8_5 S o).length = S.length + 3 := l_app len4
  have len6 : (SNX8_6 S o).length = S.length + 3 := l_set len5
  have len7 : (SNX8_7 S o).length = S.length + 4 := l_app len6
  have len8 : (SNX8_8 S o).length = S.length + 4 := l_set len7
  have hf1 : (SNX8_1 S o)[o]? = some (10, 5, [none, some none, some none, some none, some none]) := ap_at ho
  have hf2 : (SNX8_1 S o)[S.length]? = some (0, 16, []) := nw_at
  have hw3 : ie_wf (SNX8_1 S o) M := wf_app hwf (by simp) hz
  have hz4 : ie_zr (SNX8_1 S o) M := zr_app hz
  have hf5 : (SNX8_2 S o)[o]? = some (10, 5, [none, some (some S.length), some none, some none, some none]) := st_at hf1
  have hf6 : (SNX8_2 S o)[S.length]? = some (0, 16, []) := st_at' hf2 (Nat.ne_of_lt (List.getElem?_eq_some_iff.mp ho).1)
  have hw7 : ie_wf (SNX8_2 S o) M := by have zz := wf_set (i := 1) (r := S.length) hw3 hf1 ((List.getElem?_eq_some_iff.mp hf2).1); exact zz
  have hz8 : ie_zr (SNX8_2 S o) M := zr_set hz4
  have hf9 : (SNX8_3 S o)[o]? = some (10, 5, [none, some (some S.length), some none, some none, some none]) := ap_at hf5
  have hf10 : (SNX8_3 S o)[(SNX8_2 S o).length]? = some (0, 16, []) := nw_at
  have hw11 : ie_wf (SNX8_3 S o) M := wf_app hw7 (by simp) hz8
  have hz12 : ie_zr (SNX8_3 S o) M := zr_app hz8
  have hf13 : (SNX8_4 S o)[o]? = some (10, 5, [none, some (some S.length), some (some (SNX8_2 S o).length), some none, some none]) := st_at hf9
  have hf14 : (SNX8_4 S o)[(SNX8_2 S o).length]? = some (0, 16, []) := st_at' hf10 (Nat.ne_of_lt (List.getElem?_eq_some_iff.mp hf5).1)
  have hw15 : ie_wf (SNX8_4 S o) M := by have zz := wf_set (i := 2) (r := (SNX8_2 S o).length) hw11 hf9 ((List.getElem?_eq_some_iff.mp hf10).1); exact zz
  have hz16 : ie_zr (SNX8_4 S o) M := zr_set hz12
  have hf17 : (SNX8_5 S o)[o]? = some (10, 5, [none, some (some S.length), some (some (SNX8_2 S o).length), some none, some none]) := ap_at hf13
  have hf18 : (SNX8_5 S o)[(SNX8_4 S o).length]? = some (0, 10, []) := nw_at
  have hw19 : ie_wf (SNX8_5 S o) M := wf_app hw15 (by simp) hz16
  have hz20 : ie_zr (SNX8_5 S o) M := zr_app hz16
  have hf21 : (SNX8_6 S o)[o]? = some (10, 5, [none, some (some S.length), some (some (SNX8_2 S o).length), some (some (SNX8_4 S o).length), some none]) := st_at hf17
  have hf22 : (SNX8_6 S o)[(SNX8_4 S o).length]? = some (0, 10, []) := st_at' hf18 (Nat.ne_of_lt (List.getElem?_eq_some_iff.mp hf13).1)
  have hw23 : ie_wf (SNX8_6 S o) M := by have zz := wf_set (i := 3) (r := (SNX8_4 S o).length) hw19 hf17 ((List.getElem?_eq_some_iff.mp hf18).1); exact zz
  have hz24 : ie_zr (SNX8_6 S o) M := zr_set hz20
  have hf25 : (SNX8_7 S o)[o]? = some (10, 5, [none, some (some S.length), some (some (SNX8_2 S o).length), some (some (SNX8_4 S o).length), some none]) := ap_at hf21
  have hf26 : (SNX8_7 S o)[(SNX8_6 S o).length]? = some (0, 10, []) := nw_at
  have hw27 : ie_wf (SNX8_7 S o) M := wf_app hw23 (by simp) hz24
  have hz28 : ie_zr (SNX8_7 S o) M := zr_app hz24
  have hf29 : (SNX8_8 S o)[o]? = some (10, 5, [none, some (some S.length), some (some (SNX8_2 S o).length), some (some (SNX8_4 S o).length), some (some (SNX8_6 S o).length)]) := st_at hf25
  have hf30 : (SNX8_8 S o)[(SNX8_6 S o).length]? = some (0, 10, []) := st_at' hf26 (Nat.ne_of_lt (List.getElem?_eq_some_iff.mp hf21).1)
  have hw31 : ie_wf (SNX8_8 S o) M := by have zz := wf_set (i := 4) (r := (SNX8_6 S o).length) hw27 hf25 ((List.getElem?_eq_some_iff.mp hf26).1); exact zz
  have hz32 : ie_zr (SNX8_8 S o) M := zr_set hz28
  exact ⟨hf29, hw31, hz32, len8, fun p x hp h => (st_at' (ap_at (st_at' (ap_at (st_at' (ap_at (st_at' (ap_at h) (fun e => hp e.symm))) (fun e => hp e.symm))) (fun e => hp e.symm))) (fun e => hp e.symm))⟩
set_option maxRecDepth 100000 in
set_option maxHeartbeats 8000000 in
theorem tc_X8 {g : IG} {a : Nat → Nat} {S : List IK} {M : IM} {o : Nat} (ho : S[o]? = some (10, 5, [none, some none, some none, some none, some none])) (hwf : ie_wf S M) (hz : ie_zr S M) : Cn g mX8_init 1 4 52 (qC (SNX8 S o) (MNX8 S M o) S.length a) [.ref (a o)] a S M := by
  refine Cn_of (L := [some (.ref (a o))]) mf_X8_init (cat_r cat_0) (Nat.le_of_ble_eq_true rfl) rfl ?_
  have len1 : (SNX8_1 S o).length = S.length + 1 := l_app rfl
  have len2 : (SNX8_2 S o).length = S.length + 1 := l_set len1
  have len3 : (SNX8_3 S o).length = S.length + 2 := l_app len2
  have len4 : (SNX8_4 S o).length = S.length + 2 := l_set len3
  have len5 : (SNX8_5 S o).length = S.length + 3 := l_app len4
  have len6 : (SNX8_6 S o).length = S.length + 3 := l_set len5
  have len7 : (SNX8_7 S o).length = S.length + 4 := l_app len6
  have len8 : (SNX8_8 S o).length = S.length + 4 := l_set len7
  refine V_aload_n rfl dX8_init_0 rfl rfl ?_
  refine V_obj rfl dX8_init_1 ⟨w_323, w_166, w_167⟩ rfl ?_
  refine V_aload_n rfl dX8_init_4 rfl rfl ?_
  refine V_bipush (v := 16) rfl dX8_init_5 kb_16 ?_
  refine V_newa (n := 16) (fun a => [some (.ref (a o))]) (fun a => [.ref (a o)]) rfl dX8_init_7 w_245 (by decide +kernel) hwf hz ⟨rfl, rfl⟩ (fun a' h => ⟨by first | rfl | simp only [h _ ((List.getElem?_eq_some_iff.mp ho).1)], by first | rfl | simp only [h _ ((List.getElem?_eq_some_iff.mp ho).1)]⟩) (fun a1 hg0 => ?_)
  have hf1 : (SNX8_1 S o)[o]? = some (10, 5, [none, some none, some none, some none, some none]) := ap_at ho
  have hf2 : (SNX8_1 S o)[S.length]? = some (0, 16, []) := nw_at
  have hw3 : ie_wf (SNX8_1 S o) M := wf_app hwf (by simp) hz
  have hz4 : ie_zr (SNX8_1 S o) M := zr_app hz
  show V _ _ _ _ _ _ _ _ _ _ (SNX8_1 S o) M _ _
  refine V_putr (k0 := 1) (ty := (.array .int)) (r := S.length) rfl dX8_init_9 hf1 icX8 tyX8_ok nmX8 (by decide) (Nat.le_of_ble_eq_true rfl) w_327 rfl rfl rfl (tyX8_ok _ (by decide)) rfl rfl ?_
  have hf5 : (SNX8_2 S o)[o]? = some (10, 5, [none, some (some S.length), some none, some none, some none]) := st_at hf1
  have hf6 : (SNX8_2 S o)[S.length]? = some (0, 16, []) := st_at' hf2 (Nat.ne_of_lt (List.getElem?_eq_some_iff.mp ho).1)
  have hw7 : ie_wf (SNX8_2 S o) M := by have zz := wf_set (i := 1) (r := S.length) hw3 hf1 ((List.getElem?_eq_some_iff.mp hf2).1); exact zz
  have hz8 : ie_zr (SNX8_2 S o) M := zr_set hz4
  show V _ _ _ _ _ _ _ _ _ _ (SNX8_2 S o) M _ _
  refine V_aload_n rfl dX8_init_12 rfl rfl ?_
  refine V_bipush (v := 16) rfl dX8_init_13 kb_16 ?_
  refine V_newa (n := 16) (fun a => [some (.ref (a o))]) (fun a => [.ref (a o)]) rfl dX8_init_15 w_245 (by decide +kernel) hw7 hz8 ⟨rfl, rfl⟩ (fun a' h => ⟨by first | rfl | simp only [h _ ((List.getElem?_eq_some_iff.mp hf5).1)], by first | rfl | simp only [h _ ((List.getElem?_eq_some_iff.mp hf5).1)]⟩) (fun a11 hg1 => ?_)
  have hf9 : (SNX8_3 S o)[o]? = some (10, 5, [none, some (some S.length), some none, some none, some none]) := ap_at hf5
  have hf10 : (SNX8_3 S o)[(SNX8_2 S o).length]? = some (0, 16, []) := nw_at
  have hw11 : ie_wf (SNX8_3 S o) M := wf_app hw7 (by simp) hz8
  have hz12 : ie_zr (SNX8_3 S o) M := zr_app hz8
  show V _ _ _ _ _ _ _ _ _ _ (SNX8_3 S o) M _ _
  refine V_putr (k0 := 2) (ty := (.array .int)) (r := (SNX8_2 S o).length) rfl dX8_init_17 hf9 icX8 tyX8_ok nmX8 (by decide) (Nat.le_of_ble_eq_true rfl) w_328 rfl rfl rfl (tyX8_ok _ (by decide)) rfl rfl ?_
  have hf13 : (SNX8_4 S o)[o]? = some (10, 5, [none, some (some S.length), some (some (SNX8_2 S o).length), some none, some none]) := st_at hf9
  have hf14 : (SNX8_4 S o)[(SNX8_2 S o).length]? = some (0, 16, []) := st_at' hf10 (Nat.ne_of_lt (List.getElem?_eq_some_iff.mp hf5).1)
  have hw15 : ie_wf (SNX8_4 S o) M := by have zz := wf_set (i := 2) (r := (SNX8_2 S o).length) hw11 hf9 ((List.getElem?_eq_some_iff.mp hf10).1); exact zz
  have hz16 : ie_zr (SNX8_4 S o) M := zr_set hz12
  show V _ _ _ _ _ _ _ _ _ _ (SNX8_4 S o) M _ _
  refine V_aload_n rfl dX8_init_20 rfl rfl ?_
  refine V_bipush (v := 10) rfl dX8_init_21 kb_10 ?_
  refine V_newa (n := 10) (fun a => [some (.ref (a o))]) (fun a => [.ref (a o)]) rfl dX8_init_23 w_245 (by decide +kernel) hw15 hz16 ⟨rfl, rfl⟩ (fun a' h => ⟨by first | rfl | simp only [h _ ((List.getElem?_eq_some_iff.mp hf13).1)], by first | rfl | simp only [h _ ((List.getElem?_eq_some_iff.mp hf13).1)]⟩) (fun a111 hg2 => ?_)
  have hf17 : (SNX8_5 S o)[o]? = some (10, 5, [none, some (some S.length), some (some (SNX8_2 S o).length), some none, some none]) := ap_at hf13
  have hf18 : (SNX8_5 S o)[(SNX8_4 S o).length]? = some (0, 10, []) := nw_at
  have hw19 : ie_wf (SNX8_5 S o) M := wf_app hw15 (by simp) hz16
  have hz20 : ie_zr (SNX8_5 S o) M := zr_app hz16
  show V _ _ _ _ _ _ _ _ _ _ (SNX8_5 S o) M _ _
  refine V_putr (k0 := 3) (ty := (.array .int)) (r := (SNX8_4 S o).length) rfl dX8_init_25 hf17 icX8 tyX8_ok nmX8 (by decide) (Nat.le_of_ble_eq_true rfl) w_329 rfl rfl rfl (tyX8_ok _ (by decide)) rfl rfl ?_
  have hf21 : (SNX8_6 S o)[o]? = some (10, 5, [none, some (some S.length), some (some (SNX8_2 S o).length), some (some (SNX8_4 S o).length), some none]) := st_at hf17
  have hf22 : (SNX8_6 S o)[(SNX8_4 S o).length]? = some (0, 10, []) := st_at' hf18 (Nat.ne_of_lt (List.getElem?_eq_some_iff.mp hf13).1)
  have hw23 : ie_wf (SNX8_6 S o) M := by have zz := wf_set (i := 3) (r := (SNX8_4 S o).length) hw19 hf17 ((List.getElem?_eq_some_iff.mp hf18).1); exact zz
  have hz24 : ie_zr (SNX8_6 S o) M := zr_set hz20
  show V _ _ _ _ _ _ _ _ _ _ (SNX8_6 S o) M _ _
  refine V_aload_n rfl dX8_init_28 rfl rfl ?_
  refine V_bipush (v := 10) rfl dX8_init_29 kb_10 ?_
  refine V_newa (n := 10) (fun a => [some (.ref (a o))]) (fun a => [.ref (a o)]) rfl dX8_init_31 w_245 (by decide +kernel) hw23 hz24 ⟨rfl, rfl⟩ (fun a' h => ⟨by first | rfl | simp only [h _ ((List.getElem?_eq_some_iff.mp hf21).1)], by first | rfl | simp only [h _ ((List.getElem?_eq_some_iff.mp hf21).1)]⟩) (fun a1111 hg3 => ?_)
  have hf25 : (SNX8_7 S o)[o]? = some (10, 5, [none, some (some S.length), some (some (SNX8_2 S o).length), some (some (SNX8_4 S o).length), some none]) := ap_at hf21
  have hf26 : (SNX8_7 S o)[(SNX8_6 S o).length]? = some (0, 10, []) := nw_at
  have hw27 : ie_wf (SNX8_7 S o) M := wf_app hw23 (by simp) hz24
  have hz28 : ie_zr (SNX8_7 S o) M := zr_app hz24
  show V _ _ _ _ _ _ _ _ _ _ (SNX8_7 S o) M _ _
  refine V_putr (k0 := 4) (ty := (.array .int)) (r := (SNX8_6 S o).length) rfl dX8_init_33 hf25 icX8 tyX8_ok nmX8 (by decide) (Nat.le_of_ble_eq_true rfl) w_330 rfl rfl rfl (tyX8_ok _ (by decide)) rfl rfl ?_
  have hf29 : (SNX8_8 S o)[o]? = some (10, 5, [none, some (some S.length), some (some (SNX8_2 S o).length), some (some (SNX8_4 S o).length), some (some (SNX8_6 S o).length)]) := st_at hf25
  have hf30 : (SNX8_8 S o)[(SNX8_6 S o).length]? = some (0, 10, []) := st_at' hf26 (Nat.ne_of_lt (List.getElem?_eq_some_iff.mp hf21).1)
  have hw31 : ie_wf (SNX8_8 S o) M := by have zz := wf_set (i := 4) (r := (SNX8_6 S o).length) hw27 hf25 ((List.getElem?_eq_some_iff.mp hf26).1); exact zz
  have hz32 : ie_zr (SNX8_8 S o) M := zr_set hz28
  show V _ _ _ _ _ _ _ _ _ _ (SNX8_8 S o) M _ _
  exact V_vret dX8_init_36 rfl (by decide) (by decide) ⟨rfl, rfl, rfl, fun p hp => ((hg3 p (lt_len hp len6)).trans ((hg2 p (lt_len hp len4)).trans ((hg1 p (lt_len hp len2)).trans (hg0 p hp))))⟩
