-- X12_needOf: NeverHaltedModel.needOf(II)I
def f_X12_needOf_5_b (r5 : Int32 → Int32 → Int32 → IM → IR) (x2 : Int32) (x3 : Int32) (x4 : Int32) (M : IM) : IR := if x2 ≤ x4 then some ((x3 - x3 / 11 * 11), M) else lt (x3 / 11) fun v2 => lt (x4 + 1) fun v3 => r5 x2 v2 v3 M
def f_X12_needOf_5 (n : Nat) : Int32 → Int32 → Int32 → IM → IR := itr (fun _ _ _ _ => none) (f_X12_needOf_5_b) n
set_option maxRecDepth 100000 in
set_option maxHeartbeats 4000000 in
theorem t_X12_needOf_5 {g : IG} {a : Nat → Nat} {R : Int32 × IM} (n : Nat) : ∀ (x2 : Int32) (x3 : Int32) (x4 : Int32) (M : IM), f_X12_needOf_5 n x2 x3 x4 M = some R → V g mX12_needOf 1 0 0 (qI S0 a R) 5 [none, none, some (.int x2), some (.int x3), some (.int x4)] [] a S0 M 0 0 := by
  induction n with
  | zero => intro x2 x3 x4 M h; exact absurd h (fun z => by cases z)
  | succ n hr5 =>
    intro x2 x3 x4 M h
    replace h : f_X12_needOf_5_b (f_X12_needOf_5 n) x2 x3 x4 M = some R := h
    unfold f_X12_needOf_5_b at h
    refine V_iload rfl dX12_needOf_5 rfl ?_
    refine V_iload_n rfl dX12_needOf_7 rfl rfl ?_
    refine V_icmp_ge (t := 22) rfl rfl dX12_needOf_8 (fun hc1 => ?_) (fun hc1 => ?_)
    · replace h := ifp hc1 h
      refine V_iload_n rfl dX12_needOf_22 rfl rfl ?_
      refine V_bipush (v := 11) rfl dX12_needOf_23 kb_11 ?_
      refine V_irem rfl dX12_needOf_25 (by decide) ?_
      cases h
      exact V_iret dX12_needOf_26 rfl rfl (Nat.le_refl _) (Nat.le_refl _) qI_ok
    · replace h := ifn hc1 h
      refine V_iload_n rfl dX12_needOf_11 rfl rfl ?_
      refine V_bipush (v := 11) rfl dX12_needOf_12 kb_11 ?_
      refine V_idiv rfl dX12_needOf_14 (by decide) ?_
      replace h := lt_e h
      refine V_istore_n (L' := [_, _, _, _, _]) rfl rfl dX12_needOf_15 (by decide) rfl ?_
      replace h := lt_e h
      refine V_inc (L' := [_, _, _, _, _]) rfl dX12_needOf_16 rfl kc_1 (by decide) rfl ?_
      refine V_goto (t := 5) rfl dX12_needOf_19 ?_
      exact V_sub (le_n (le_n (le_s (le_s (le_s le_0))))) (hr5 _ _ _ _ h)
def f_X12_needOf (p1 : Int32) (p2 : Int32) (M : IM) : IR := f_X12_needOf_5 BG p2 p1 0 M
set_option maxRecDepth 100000 in
set_option maxHeartbeats 4000000 in
theorem t_X12_needOf {g : IG} {a : Nat → Nat} {R : Int32 × IM} {p1 : Int32} {p2 : Int32} {M : IM} (h : f_X12_needOf p1 p2 M = some R) : Cn g mX12_needOf 1 0 0 (qI S0 a R) [.ref (a 136), .int p1, .int p2] a S0 M := by
  refine Cn_of (L := [some (.ref (a 136)), some (.int p1), some (.int p2), none, none]) mf_X12_needOf (cat_r (cat_i (cat_i cat_0))) (Nat.le_of_ble_eq_true rfl) rfl ?_
  unfold f_X12_needOf at h
  refine V_iload_n rfl dX12_needOf_0 rfl rfl ?_
  refine V_istore_n (L' := [_, _, _, _, _]) rfl rfl dX12_needOf_1 (by decide) rfl ?_
  refine V_iconst (v := 0) rfl dX12_needOf_2 kc_0 ?_
  refine V_istore (L' := [_, _, _, _, _]) rfl dX12_needOf_3 (by decide) rfl ?_
  exact V_sub (le_n (le_n (le_s (le_s (le_s le_0))))) (t_X12_needOf_5 BG _ _ _ _ h)
-- X12_less: NeverHaltedModel.less(II)I
def f_X12_less_39 (r8 : Int32 → Int32 → Int32 → Int32 → Int32 → IM → IR) (x1 : Int32) (x2 : Int32) (x3 : Int32) (x4 : Int32) (x5 : Int32) (M : IM) : IR := lt (x4 * 11) fun v8 => lt (x5 + 1) fun v9 => r8 x1 x2 x3 v8 v9 M
set_option maxRecDepth 100000 in
set_option maxHeartbeats 4000000 in
theorem t_X12_less_39 {g : IG} {a : Nat → Nat} {R : Int32 × IM} {r8 : Int32 → Int32 → Int32 → Int32 → Int32 → IM → IR} {x1 : Int32} {x2 : Int32} {x3 : Int32} {x4 : Int32} {x5 : Int32} {M : IM} (hr8 : ∀ (x1 : Int32) (x2 : Int32) (x3 : Int32) (x4 : Int32) (x5 : Int32) (M : IM), r8 x1 x2 x3 x4 x5 M = some R → V g mX12_less 2 0 0 (qI S0 a R) 8 [some (.ref (a 136)), some (.int x1), some (.int x2), some (.int x3), some (.int x4), some (.int x5)] [] a S0 M 0 0) (h : f_X12_less_39 r8 x1 x2 x3 x4 x5 M = some R) : V g mX12_less 2 0 0 (qI S0 a R) 39 [some (.ref (a 136)), some (.int x1), some (.int x2), some (.int x3), some (.int x4), some (.int x5)] [] a S0 M 0 0 := by
  unfold f_X12_less_39 at h
  refine V_iload rfl dX12_less_39 rfl ?_
  refine V_bipush (v := 11) rfl dX12_less_41 kb_11 ?_
  refine V_imul rfl dX12_less_43 ?_
  replace h := lt_e h
  refine V_istore (L' := [_, _, _, _, _, _]) rfl dX12_less_44 (by decide) rfl ?_
  replace h := lt_e h
  refine V_inc (L' := [_, _, _, _, _, _]) rfl dX12_less_46 rfl kc_1 (by decide) rfl ?_
  refine V_goto (t := 8) rfl dX12_less_49 ?_
  exact V_sub (le_s (le_s (le_s (le_s (le_s (le_s le_0)))))) (hr8 _ _ _ _ _ _ h)
def f_X12_less_8_b (r8 : Int32 → Int32 → Int32 → Int32 → Int32 → IM → IR) (x1 : Int32) (x2 : Int32) (x3 : Int32) (x4 : Int32) (x5 : Int32) (M : IM) : IR := if 4 ≤ x5 then some (x3, M) else if ((x2 >>> (x5 &&& 31)) &&& 1) = 1 then cl (f_X12_needOf x1 x5 M) fun w3 M4 => if w3 ≤ 0 then f_X12_less_39 r8 x1 x2 x3 x4 x5 M4 else lt (x3 - x4) fun v7 => f_X12_less_39 r8 x1 x2 v7 x4 x5 M4 else f_X12_less_39 r8 x1 x2 x3 x4 x5 M
def f_X12_less_8 (n : Nat) : Int32 → Int32 → Int32 → Int32 → Int32 → IM → IR := itr (fun _ _ _ _ _ _ => none) (f_X12_less_8_b) n
set_option maxRecDepth 100000 in
set_option maxHeartbeats 4000000 in
theorem t_X12_less_8 {g : IG} {a : Nat → Nat} {R : Int32 × IM} (n : Nat) : ∀ (x1 : Int32) (x2 : Int32) (x3 : Int32) (x4 : Int32) (x5 : Int32) (M : IM), f_X12_less_8 n x1 x2 x3 x4 x5 M = some R → V g mX12_less 2 0 0 (qI S0 a R) 8 [some (.ref (a 136)), some (.int x1), some (.int x2), some (.int x3), some (.int x4), some (.int x5)] [] a S0 M 0 0 := by
  induction n with
  | zero => intro x1 x2 x3 x4 x5 M h; exact absurd h (fun z => by cases z)
  | succ n hr8 =>
    intro x1 x2 x3 x4 x5 M h
    replace h : f_X12_less_8_b (f_X12_less_8 n) x1 x2 x3 x4 x5 M = some R := h
    unfold f_X12_less_8_b at h
    refine V_iload rfl dX12_less_8 rfl ?_
    refine V_iconst (v := 4) rfl dX12_less_10 kc_4 ?_
    refine V_icmp_ge (t := 52) rfl rfl dX12_less_11 (fun hc1 => ?_) (fun hc1 => ?_)
    · replace h := ifp hc1 h
      refine V_iload_n rfl dX12_less_52 rfl rfl ?_
      cases h
      exact V_iret dX12_less_53 rfl rfl (Nat.le_refl _) (Nat.le_refl _) qI_ok
    · replace h := ifn hc1 h
      refine V_iload_n rfl dX12_less_14 rfl rfl ?_
      refine V_iload rfl dX12_less_15 rfl ?_
      refine V_ishr rfl dX12_less_17 ?_
      refine V_iconst (v := 1) rfl dX12_less_18 kc_1 ?_
      refine V_iand rfl dX12_less_19 ?_
      refine V_iconst (v := 1) rfl dX12_less_20 kc_1 ?_
      refine V_icmp_ne (t := 39) rfl rfl dX12_less_21 (fun hc2 => ?_) (fun hc2 => ?_)
      · replace h := ifn hc2 h
        exact V_sub (le_s (le_s (le_s (le_s (le_s (le_s le_0)))))) (t_X12_less_39 hr8 h)
      · replace h := ifp hc2 h
        refine V_aload_n rfl dX12_less_24 rfl rfl ?_
        refine V_iload_n rfl dX12_less_25 rfl rfl ?_
        refine V_iload rfl dX12_less_26 rfl ?_
        replace h := cl_e h
        obtain ⟨w3, M4, hc5, h⟩ := h
        refine V_ii (As := [.int _, .int _]) rfl dX12_less_28 mf_X12_needOf ⟨w_1730, w_121⟩ w_1728 (by decide) s0_136 rfl rfl rfl rfl ⟨rfl, rfl⟩ (t_X12_needOf hc5) ?_
        refine V_if_le (t := 39) rfl rfl dX12_less_31 (fun hc6 => ?_) (fun hc6 => ?_)
        · replace h := ifp hc6 h
          exact V_sub (le_s (le_s (le_s (le_s (le_s (le_s le_0)))))) (t_X12_less_39 hr8 h)
        · replace h := ifn hc6 h
          refine V_iload_n rfl dX12_less_34 rfl rfl ?_
          refine V_iload rfl dX12_less_35 rfl ?_
          refine V_isub rfl dX12_less_37 ?_
          replace h := lt_e h
          refine V_istore_n (L' := [_, _, _, _, _, _]) rfl rfl dX12_less_38 (by decide) rfl ?_
          exact V_sub (le_s (le_s (le_s (le_s (le_s (le_s le_0)))))) (t_X12_less_39 hr8 h)
def f_X12_less (p1 : Int32) (p2 : Int32) (M : IM) : IR := f_X12_less_8 BG p1 p2 p1 1 0 M
set_option maxRecDepth 100000 in
set_option maxHeartbeats 4000000 in
theorem t_X12_less {g : IG} {a : Nat → Nat} {R : Int32 × IM} {p1 : Int32} {p2 : Int32} {M : IM} (h : f_X12_less p1 p2 M = some R) : Cn g mX12_less 2 0 0 (qI S0 a R) [.ref (a 136), .int p1, .int p2] a S0 M := by
  refine Cn_of (L := [some (.ref (a 136)), some (.int p1), some (.int p2), none, none, none]) mf_X12_less (cat_r (cat_i (cat_i cat_0))) (Nat.le_of_ble_eq_true rfl) rfl ?_
  unfold f_X12_less at h
  refine V_iload_n rfl dX12_less_0 rfl rfl ?_
  refine V_istore_n (L' := [_, _, _, _, _, _]) rfl rfl dX12_less_1 (by decide) rfl ?_
  refine V_iconst (v := 1) rfl dX12_less_2 kc_1 ?_
  refine V_istore (L' := [_, _, _, _, _, _]) rfl dX12_less_3 (by decide) rfl ?_
  refine V_iconst (v := 0) rfl dX12_less_5 kc_0 ?_
  refine V_istore (L' := [_, _, _, _, _, _]) rfl dX12_less_6 (by decide) rfl ?_
  exact V_sub (le_s (le_s (le_s (le_s (le_s (le_s le_0)))))) (t_X12_less_8 BG _ _ _ _ _ _ h)
-- X12_byWay: NeverHaltedModel.byWay(III)I
def f_X12_byWay_32_b (r32 : Int32 → Int32 → Int32 → Int32 → IM → IR) (x1 : Int32) (x4 : Int32) (x5 : Int32) (x6 : Int32) (M : IM) : IR := if 4 ≤ x6 then some (x5, M) else if ((x4 >>> (x6 &&& 31)) &&& 1) = 1 then rd M 160 40 ((4 * x1) + x6) fun v12 => lt (x5 + v12) fun v14 => lt (x6 + 1) fun v15 => r32 x1 x4 v14 v15 M else lt (x6 + 1) fun v11 => r32 x1 x4 x5 v11 M
def f_X12_byWay_32 (n : Nat) : Int32 → Int32 → Int32 → Int32 → IM → IR := itr (fun _ _ _ _ _ => none) (f_X12_byWay_32_b) n
set_option maxRecDepth 100000 in
set_option maxHeartbeats 4000000 in
theorem t_X12_byWay_32 {g : IG} {a : Nat → Nat} {R : Int32 × IM} (n : Nat) : ∀ (x1 : Int32) (x4 : Int32) (x5 : Int32) (x6 : Int32) (M : IM), f_X12_byWay_32 n x1 x4 x5 x6 M = some R → V g mX12_byWay 3 0 0 (qI S0 a R) 32 [some (.ref (a 136)), some (.int x1), none, none, some (.int x4), some (.int x5), some (.int x6)] [] a S0 M 0 0 := by
  induction n with
  | zero => intro x1 x4 x5 x6 M h; exact absurd h (fun z => by cases z)
  | succ n hr32 =>
    intro x1 x4 x5 x6 M h
    replace h : f_X12_byWay_32_b (f_X12_byWay_32 n) x1 x4 x5 x6 M = some R := h
    unfold f_X12_byWay_32_b at h
    refine V_iload rfl dX12_byWay_32 rfl ?_
    refine V_iconst (v := 4) rfl dX12_byWay_34 kc_4 ?_
    refine V_icmp_ge (t := 71) rfl rfl dX12_byWay_35 (fun hc9 => ?_) (fun hc9 => ?_)
    · replace h := ifp hc9 h
      refine V_iload rfl dX12_byWay_71 rfl ?_
      cases h
      exact V_iret dX12_byWay_73 rfl rfl (Nat.le_refl _) (Nat.le_refl _) qI_ok
    · replace h := ifn hc9 h
      refine V_iload rfl dX12_byWay_38 rfl ?_
      refine V_iload rfl dX12_byWay_40 rfl ?_
      refine V_ishr rfl dX12_byWay_42 ?_
      refine V_iconst (v := 1) rfl dX12_byWay_43 kc_1 ?_
      refine V_iand rfl dX12_byWay_44 ?_
      refine V_iconst (v := 1) rfl dX12_byWay_45 kc_1 ?_
      refine V_icmp_ne (t := 65) rfl rfl dX12_byWay_46 (fun hc10 => ?_) (fun hc10 => ?_)
      · replace h := ifn hc10 h
        replace h := lt_e h
        refine V_inc (L' := [_, _, _, _, _, _, _]) rfl dX12_byWay_65 rfl kc_1 (by decide) rfl ?_
        refine V_goto (t := 32) rfl dX12_byWay_68 ?_
        exact V_sub (le_s (le_s (le_n (le_n (le_s (le_s (le_s le_0))))))) (hr32 _ _ _ _ _ h)
      · replace h := ifp hc10 h
        refine V_iload rfl dX12_byWay_49 rfl ?_
        refine V_aload_n rfl dX12_byWay_51 rfl rfl ?_
        refine V_getr (k0 := 45) rfl dX12_byWay_52 s0_136 icX12 (by decide) rfl w_1234 ?_
        refine V_iconst (v := 4) rfl dX12_byWay_55 kc_4 ?_
        refine V_iload_n rfl dX12_byWay_56 rfl rfl ?_
        refine V_imul rfl dX12_byWay_57 ?_
        refine V_iload rfl dX12_byWay_58 rfl ?_
        refine V_iadd rfl dX12_byWay_60 ?_
        replace h := rd_e h
        obtain ⟨hb13, h⟩ := h
        refine V_iald rfl dX12_byWay_61 s0_160 hb13 ?_
        refine V_iadd rfl dX12_byWay_62 ?_
        replace h := lt_e h
        refine V_istore (L' := [_, _, _, _, _, _, _]) rfl dX12_byWay_63 (by decide) rfl ?_
        replace h := lt_e h
        refine V_inc (L' := [_, _, _, _, _, _, _]) rfl dX12_byWay_65 rfl kc_1 (by decide) rfl ?_
        refine V_goto (t := 32) rfl dX12_byWay_68 ?_
        exact V_sub (le_s (le_s (le_n (le_n (le_s (le_s (le_s le_0))))))) (hr32 _ _ _ _ _ h)
def f_X12_byWay (p1 : Int32) (p2 : Int32) (p3 : Int32) (M : IM) : IR := cl (f_X12_takenBy p3 M) fun w1 M2 => cl (f_X12_less p2 w1 M2) fun w4 M5 => rd M5 159 161051 ((14641 * (p1 + 1)) + w4) fun v7 => f_X12_byWay_32 BG p1 w1 v7 0 M5
set_option maxRecDepth 100000 in
set_option maxHeartbeats 4000000 in
theorem t_X12_byWay {g : IG} {a : Nat → Nat} {R : Int32 × IM} {p1 : Int32} {p2 : Int32} {p3 : Int32} {M : IM} (h : f_X12_byWay p1 p2 p3 M = some R) : Cn g mX12_byWay 3 0 0 (qI S0 a R) [.ref (a 136), .int p1, .int p2, .int p3] a S0 M := by
  refine Cn_of (L := [some (.ref (a 136)), some (.int p1), some (.int p2), some (.int p3), none, none, none]) mf_X12_byWay (cat_r (cat_i (cat_i (cat_i cat_0)))) (Nat.le_of_ble_eq_true rfl) rfl ?_
  unfold f_X12_byWay at h
  refine V_aload_n rfl dX12_byWay_0 rfl rfl ?_
  refine V_iload_n rfl dX12_byWay_1 rfl rfl ?_
  replace h := cl_e h
  obtain ⟨w1, M2, hc3, h⟩ := h
  refine V_ii (As := [.int _]) rfl dX12_byWay_2 mf_X12_takenBy ⟨w_1722, w_119⟩ w_1720 (by decide) s0_136 rfl rfl rfl rfl ⟨rfl, rfl⟩ (t_X12_takenBy hc3) ?_
  refine V_istore (L' := [_, _, _, _, _, _, _]) rfl dX12_byWay_5 (by decide) rfl ?_
  refine V_aload_n rfl dX12_byWay_7 rfl rfl ?_
  refine V_getr (k0 := 44) rfl dX12_byWay_8 s0_136 icX12 (by decide) rfl w_1233 ?_
  refine V_sipush (v := 14641) rfl dX12_byWay_11 ks_14641 ?_
  refine V_iload_n rfl dX12_byWay_14 rfl rfl ?_
  refine V_iconst (v := 1) rfl dX12_byWay_15 kc_1 ?_
  refine V_iadd rfl dX12_byWay_16 ?_
  refine V_imul rfl dX12_byWay_17 ?_
  refine V_aload_n rfl dX12_byWay_18 rfl rfl ?_
  refine V_iload_n rfl dX12_byWay_19 rfl rfl ?_
  refine V_iload rfl dX12_byWay_20 rfl ?_
  replace h := cl_e h
  obtain ⟨w4, M5, hc6, h⟩ := h
  refine V_ii (As := [.int _, .int _]) rfl dX12_byWay_22 mf_X12_less ⟨w_1726, w_120⟩ w_1724 (by decide) s0_136 rfl rfl rfl rfl ⟨rfl, rfl⟩ (t_X12_less hc6) ?_
  refine V_iadd rfl dX12_byWay_25 ?_
  replace h := rd_e h
  obtain ⟨hb8, h⟩ := h
  refine V_iald rfl dX12_byWay_26 s0_159 hb8 ?_
  refine V_istore (L' := [_, _, _, _, _, _, _]) rfl dX12_byWay_27 (by decide) rfl ?_
  refine V_iconst (v := 0) rfl dX12_byWay_29 kc_0 ?_
  refine V_istore (L' := [_, _, _, _, _, _, _]) rfl dX12_byWay_30 (by decide) rfl ?_
  exact V_sub (le_s (le_s (le_n (le_n (le_s (le_s (le_s le_0))))))) (t_X12_byWay_32 BG _ _ _ _ _ h)
-- X12_bestWay: NeverHaltedModel.bestWay(II)I
def f_X12_bestWay_5_b (r5 : Int32 → Int32 → Int32 → Int32 → IM → IR) (x1 : Int32) (x2 : Int32) (x3 : Int32) (x4 : Int32) (M : IM) : IR := if 7 ≤ x4 then some (x3, M) else cl (f_X12_byWay x1 x2 x4 M) fun w2 M3 => cl (f_X12_byWay x1 x2 x3 M3) fun w5 M6 => if w5 ≤ w2 then lt (x4 + 1) fun v9 => r5 x1 x2 x3 v9 M6 else lt (x4 + 1) fun v10 => r5 x1 x2 x4 v10 M6
def f_X12_bestWay_5 (n : Nat) : Int32 → Int32 → Int32 → Int32 → IM → IR := itr (fun _ _ _ _ _ => none) (f_X12_bestWay_5_b) n
set_option maxRecDepth 100000 in
set_option maxHeartbeats 4000000 in
theorem t_X12_bestWay_5 {g : IG} {a : Nat → Nat} {R : Int32 × IM} (n : Nat) : ∀ (x1 : Int32) (x2 : Int32) (x3 : Int32) (x4 : Int32) (M : IM), f_X12_bestWay_5 n x1 x2 x3 x4 M = some R → V g mX12_bestWay 4 0 0 (qI S0 a R) 5 [some (.ref (a 136)), some (.int x1), some (.int x2), some (.int x3), some (.int x4)] [] a S0 M 0 0 := by
  induction n with
  | zero => intro x1 x2 x3 x4 M h; exact absurd h (fun z => by cases z)
  | succ n hr5 =>
    intro x1 x2 x3 x4 M h
    replace h : f_X12_bestWay_5_b (f_X12_bestWay_5 n) x1 x2 x3 x4 M = some R := h
    unfold f_X12_bestWay_5_b at h
    refine V_iload rfl dX12_bestWay_5 rfl ?_
    refine V_bipush (v := 7) rfl dX12_bestWay_7 kb_7 ?_
    refine V_icmp_ge (t := 39) rfl rfl dX12_bestWay_9 (fun hc1 => ?_) (fun hc1 => ?_)
    · replace h := ifp hc1 h
      refine V_iload_n rfl dX12_bestWay_39 rfl rfl ?_
      cases h
      exact V_iret dX12_bestWay_40 rfl rfl (Nat.le_refl _) (Nat.le_refl _) qI_ok
    · replace h := ifn hc1 h
      refine V_aload_n rfl dX12_bestWay_12 rfl rfl ?_
      refine V_iload_n rfl dX12_bestWay_13 rfl rfl ?_
      refine V_iload_n rfl dX12_bestWay_14 rfl rfl ?_
      refine V_iload rfl dX12_bestWay_15 rfl ?_
      replace h := cl_e h
      obtain ⟨w2, M3, hc4, h⟩ := h
      refine V_ii (As := [.int _, .int _, .int _]) rfl dX12_bestWay_17 mf_X12_byWay ⟨w_1718, w_118⟩ w_1716 (by decide) s0_136 rfl rfl rfl rfl ⟨rfl, rfl⟩ (t_X12_byWay hc4) ?_
      refine V_aload_n rfl dX12_bestWay_20 rfl rfl ?_
      refine V_iload_n rfl dX12_bestWay_21 rfl rfl ?_
      refine V_iload_n rfl dX12_bestWay_22 rfl rfl ?_
      refine V_iload_n rfl dX12_bestWay_23 rfl rfl ?_
      replace h := cl_e h
      obtain ⟨w5, M6, hc7, h⟩ := h
      refine V_ii (As := [.int _, .int _, .int _]) rfl dX12_bestWay_24 mf_X12_byWay ⟨w_1718, w_118⟩ w_1716 (by decide) s0_136 rfl rfl rfl rfl ⟨rfl, rfl⟩ (t_X12_byWay hc7) ?_
      refine V_icmp_ge (t := 33) rfl rfl dX12_bestWay_27 (fun hc8 => ?_) (fun hc8 => ?_)
      · replace h := ifp hc8 h
        replace h := lt_e h
        refine V_inc (L' := [_, _, _, _, _]) rfl dX12_bestWay_33 rfl kc_1 (by decide) rfl ?_
        refine V_goto (t := 5) rfl dX12_bestWay_36 ?_
        exact V_sub (le_s (le_s (le_s (le_s (le_s le_0))))) (hr5 _ _ _ _ _ h)
      · replace h := ifn hc8 h
        refine V_iload rfl dX12_bestWay_30 rfl ?_
        refine V_istore_n (L' := [_, _, _, _, _]) rfl rfl dX12_bestWay_32 (by decide) rfl ?_
        replace h := lt_e h
        refine V_inc (L' := [_, _, _, _, _]) rfl dX12_bestWay_33 rfl kc_1 (by decide) rfl ?_
        refine V_goto (t := 5) rfl dX12_bestWay_36 ?_
        exact V_sub (le_s (le_s (le_s (le_s (le_s le_0))))) (hr5 _ _ _ _ _ h)
def f_X12_bestWay (p1 : Int32) (p2 : Int32) (M : IM) : IR := f_X12_bestWay_5 BG p1 p2 0 1 M
set_option maxRecDepth 100000 in
set_option maxHeartbeats 4000000 in
theorem t_X12_bestWay {g : IG} {a : Nat → Nat} {R : Int32 × IM} {p1 : Int32} {p2 : Int32} {M : IM} (h : f_X12_bestWay p1 p2 M = some R) : Cn g mX12_bestWay 4 0 0 (qI S0 a R) [.ref (a 136), .int p1, .int p2] a S0 M := by
  refine Cn_of (L := [some (.ref (a 136)), some (.int p1), some (.int p2), none, none]) mf_X12_bestWay (cat_r (cat_i (cat_i cat_0))) (Nat.le_of_ble_eq_true rfl) rfl ?_
  unfold f_X12_bestWay at h
  refine V_iconst (v := 0) rfl dX12_bestWay_0 kc_0 ?_
  refine V_istore_n (L' := [_, _, _, _, _]) rfl rfl dX12_bestWay_1 (by decide) rfl ?_
  refine V_iconst (v := 1) rfl dX12_bestWay_2 kc_1 ?_
  refine V_istore (L' := [_, _, _, _, _]) rfl dX12_bestWay_3 (by decide) rfl ?_
  exact V_sub (le_s (le_s (le_s (le_s (le_s le_0))))) (t_X12_bestWay_5 BG _ _ _ _ _ h)
-- X12_firstState: NeverHaltedModel.firstState()I
def f_X12_firstState (M : IM) : IR := some (((M 136 8) * 1464), M)
set_option maxRecDepth 100000 in
set_option maxHeartbeats 4000000 in
theorem t_X12_firstState {g : IG} {a : Nat → Nat} {R : Int32 × IM} {M : IM} (h : f_X12_firstState M = some R) : Cn g mX12_firstState 1 0 0 (qI S0 a R) [.ref (a 136)] a S0 M := by
  refine Cn_of (L := [some (.ref (a 136))]) mf_X12_firstState (cat_r cat_0) (Nat.le_of_ble_eq_true rfl) rfl ?_
  unfold f_X12_firstState at h
  refine V_aload_n rfl dX12_firstState_0 rfl rfl ?_
  refine V_geti (k0 := 8) rfl dX12_firstState_1 s0_136 icX12 (by decide) rfl w_1197 ?_
  refine V_sipush (v := 1464) rfl dX12_firstState_4 ks_1464 ?_
  refine V_imul rfl dX12_firstState_7 ?_
  cases h
  exact V_iret dX12_firstState_8 rfl rfl (Nat.le_refl _) (Nat.le_refl _) qI_ok
-- X12_findsWatches: NeverHaltedModel.findsWatches()V
def f_X12_findsWatches_12_b (r2 : Int32 → IM → IR) (r12 : Int32 → Int32 → IM → IR) (x1 : Int32) (x2 : Int32) (M : IM) : IR := if 4 ≤ x2 then lt (x1 + 1) fun v15 => r2 v15 M else cl (f_X12_tireOf x1 (6 * x2) M) fun w16 M17 => wr M17 160 40 ((4 * x1) + x2) (6 * w16) fun M19 => lt (x2 + 1) fun v21 => r12 x1 v21 M19
def f_X12_findsWatches_12 (r2 : Int32 → IM → IR) (n : Nat) : Int32 → Int32 → IM → IR := itr (fun _ _ _ => none) (f_X12_findsWatches_12_b r2) n
set_option maxRecDepth 100000 in
set_option maxHeartbeats 4000000 in
theorem t_X12_findsWatches_12 {g : IG} {a : Nat → Nat} {R : Int32 × IM} {r2 : Int32 → IM → IR} (hr2 : ∀ (x1 : Int32) (M : IM), r2 x1 M = some R → V g mX12_findsWatches 7 0 0 (qV S0 a R) 2 [some (.ref (a 136)), some (.int x1), none] [] a S0 M 0 0) (n : Nat) : ∀ (x1 : Int32) (x2 : Int32) (M : IM), f_X12_findsWatches_12 r2 n x1 x2 M = some R → V g mX12_findsWatches 7 0 0 (qV S0 a R) 12 [some (.ref (a 136)), some (.int x1), some (.int x2)] [] a S0 M 0 0 := by
  induction n with
  | zero => intro x1 x2 M h; exact absurd h (fun z => by cases z)
  | succ n hr12 =>
    intro x1 x2 M h
    replace h : f_X12_findsWatches_12_b r2 (f_X12_findsWatches_12 r2 n) x1 x2 M = some R := h
    unfold f_X12_findsWatches_12_b at h
    refine V_iload_n rfl dX12_findsWatches_12 rfl rfl ?_
    refine V_iconst (v := 4) rfl dX12_findsWatches_13 kc_4 ?_
    refine V_icmp_ge (t := 45) rfl rfl dX12_findsWatches_14 (fun hc14 => ?_) (fun hc14 => ?_)
    · replace h := ifp hc14 h
      replace h := lt_e h
      refine V_inc (L' := [_, _, _]) rfl dX12_findsWatches_45 rfl kc_1 (by decide) rfl ?_
      refine V_goto (t := 2) rfl dX12_findsWatches_48 ?_
      exact V_sub (le_s (le_s (le_n le_0))) (hr2 _ _ h)
    · replace h := ifn hc14 h
      refine V_aload_n rfl dX12_findsWatches_17 rfl rfl ?_
      refine V_getr (k0 := 45) rfl dX12_findsWatches_18 s0_136 icX12 (by decide) rfl w_1234 ?_
      refine V_iconst (v := 4) rfl dX12_findsWatches_21 kc_4 ?_
      refine V_iload_n rfl dX12_findsWatches_22 rfl rfl ?_
      refine V_imul rfl dX12_findsWatches_23 ?_
      refine V_iload_n rfl dX12_findsWatches_24 rfl rfl ?_
      refine V_iadd rfl dX12_findsWatches_25 ?_
      refine V_bipush (v := 6) rfl dX12_findsWatches_26 kb_6 ?_
      refine V_aload_n rfl dX12_findsWatches_28 rfl rfl ?_
      refine V_iload_n rfl dX12_findsWatches_29 rfl rfl ?_
      refine V_bipush (v := 6) rfl dX12_findsWatches_30 kb_6 ?_
      refine V_iload_n rfl dX12_findsWatches_32 rfl rfl ?_
      refine V_imul rfl dX12_findsWatches_33 ?_
      replace h := cl_e h
      obtain ⟨w16, M17, hc18, h⟩ := h
      refine V_ii (As := [.int _, .int _]) rfl dX12_findsWatches_34 mf_X12_tireOf ⟨w_1617, w_101⟩ w_1615 (by decide) s0_136 rfl rfl rfl rfl ⟨rfl, rfl⟩ (t_X12_tireOf hc18) ?_
      refine V_imul rfl dX12_findsWatches_37 ?_
      replace h := wr_e h
      obtain ⟨hb20, h⟩ := h
      refine V_iast rfl dX12_findsWatches_38 s0_160 hb20 ?_
      replace h := lt_e h
      refine V_inc (L' := [_, _, _]) rfl dX12_findsWatches_39 rfl kc_1 (by decide) rfl ?_
      refine V_goto (t := 12) rfl dX12_findsWatches_42 ?_
      exact V_sub (le_s (le_s (le_s le_0))) (hr12 _ _ _ h)
def f_X12_findsWatches_106_b (r100 : Int32 → IM → IR) (r106 : Int32 → Int32 → IM → IR) (x1 : Int32) (x2 : Int32) (M : IM) : IR := cl (f_X12_firstState M) fun w23 M24 => if w23 < x2 then lt (x1 + (-1)) fun v27 => r100 v27 M24 else cl (f_X12_bestWay x1 x2 M24) fun w28 M29 => cl (f_X12_byWay x1 x2 w28 M29) fun w31 M32 => cl (f_X12_lesser 1000000 w31 M32) fun w34 M35 => wr M35 159 161051 ((14641 * x1) + x2) w34 fun M37 => lt (x2 + 1) fun v39 => r106 x1 v39 M37
def f_X12_findsWatches_106 (r100 : Int32 → IM → IR) (n : Nat) : Int32 → Int32 → IM → IR := itr (fun _ _ _ => none) (f_X12_findsWatches_106_b r100) n
set_option maxRecDepth 100000 in
set_option maxHeartbeats 4000000 in
theorem t_X12_findsWatches_106 {g : IG} {a : Nat → Nat} {R : Int32 × IM} {r100 : Int32 → IM → IR} (hr100 : ∀ (x1 : Int32) (M : IM), r100 x1 M = some R → V g mX12_findsWatches 7 0 0 (qV S0 a R) 100 [some (.ref (a 136)), some (.int x1), none] [] a S0 M 0 0) (n : Nat) : ∀ (x1 : Int32) (x2 : Int32) (M : IM), f_X12_findsWatches_106 r100 n x1 x2 M = some R → V g mX12_findsWatches 7 0 0 (qV S0 a R) 106 [some (.ref (a 136)), some (.int x1), some (.int x2)] [] a S0 M 0 0 := by
  induction n with
  | zero => intro x1 x2 M h; exact absurd h (fun z => by cases z)
  | succ n hr106 =>
    intro x1 x2 M h
    replace h : f_X12_findsWatches_106_b r100 (f_X12_findsWatches_106 r100 n) x1 x2 M = some R := h
    unfold f_X12_findsWatches_106_b at h
    refine V_iload_n rfl dX12_findsWatches_106 rfl rfl ?_
    refine V_aload_n rfl dX12_findsWatches_107 rfl rfl ?_
    replace h := cl_e h
    obtain ⟨w23, M24, hc25, h⟩ := h
    refine V_ii (As := []) rfl dX12_findsWatches_108 mf_X12_firstState ⟨w_1709, w_116⟩ w_1707 (by decide) s0_136 rfl rfl rfl rfl ⟨rfl, rfl⟩ (t_X12_firstState hc25) ?_
    refine V_icmp_gt (t := 151) rfl rfl dX12_findsWatches_111 (fun hc26 => ?_) (fun hc26 => ?_)
    · replace h := ifp hc26 h
      replace h := lt_e h
      refine V_inc (L' := [_, _, _]) rfl dX12_findsWatches_151 rfl kc_m1 (by decide) rfl ?_
      refine V_goto (t := 100) rfl dX12_findsWatches_154 ?_
      exact V_sub (le_s (le_s (le_n le_0))) (hr100 _ _ h)
    · replace h := ifn hc26 h
      refine V_aload_n rfl dX12_findsWatches_114 rfl rfl ?_
      refine V_getr (k0 := 44) rfl dX12_findsWatches_115 s0_136 icX12 (by decide) rfl w_1233 ?_
      refine V_sipush (v := 14641) rfl dX12_findsWatches_118 ks_14641 ?_
      refine V_iload_n rfl dX12_findsWatches_121 rfl rfl ?_
      refine V_imul rfl dX12_findsWatches_122 ?_
      refine V_iload_n rfl dX12_findsWatches_123 rfl rfl ?_
      refine V_iadd rfl dX12_findsWatches_124 ?_
      refine V_aload_n rfl dX12_findsWatches_125 rfl rfl ?_
      refine V_ldcw (v := 1000000) rfl dX12_findsWatches_126 w_1711 ?_
      refine V_aload_n rfl dX12_findsWatches_129 rfl rfl ?_
      refine V_iload_n rfl dX12_findsWatches_130 rfl rfl ?_
      refine V_iload_n rfl dX12_findsWatches_131 rfl rfl ?_
      refine V_aload_n rfl dX12_findsWatches_132 rfl rfl ?_
      refine V_iload_n rfl dX12_findsWatches_133 rfl rfl ?_
      refine V_iload_n rfl dX12_findsWatches_134 rfl rfl ?_
      replace h := cl_e h
      obtain ⟨w28, M29, hc30, h⟩ := h
      refine V_ii (As := [.int _, .int _]) rfl dX12_findsWatches_135 mf_X12_bestWay ⟨w_1714, w_117⟩ w_1712 (by decide) s0_136 rfl rfl rfl rfl ⟨rfl, rfl⟩ (t_X12_bestWay hc30) ?_
      replace h := cl_e h
      obtain ⟨w31, M32, hc33, h⟩ := h
      refine V_ii (As := [.int _, .int _, .int _]) rfl dX12_findsWatches_138 mf_X12_byWay ⟨w_1718, w_118⟩ w_1716 (by decide) s0_136 rfl rfl rfl rfl ⟨rfl, rfl⟩ (t_X12_byWay hc33) ?_
      replace h := cl_e h
      obtain ⟨w34, M35, hc36, h⟩ := h
      refine V_ii (As := [.int _, .int _]) rfl dX12_findsWatches_141 mf_X12_lesser ⟨w_1637, w_106⟩ w_1635 (by decide) s0_136 rfl rfl rfl rfl ⟨rfl, rfl⟩ (t_X12_lesser hc36) ?_
      replace h := wr_e h
      obtain ⟨hb38, h⟩ := h
      refine V_iast rfl dX12_findsWatches_144 s0_159 hb38 ?_
      replace h := lt_e h
      refine V_inc (L' := [_, _, _]) rfl dX12_findsWatches_145 rfl kc_1 (by decide) rfl ?_
      refine V_goto (t := 106) rfl dX12_findsWatches_148 ?_
      exact V_sub (le_s (le_s (le_s le_0))) (hr106 _ _ _ h)
def f_X12_findsWatches_100_b (r100 : Int32 → IM → IR) (x1 : Int32) (M : IM) : IR := if x1 < 0 then some (0, M) else f_X12_findsWatches_106 r100 BG x1 0 M
def f_X12_findsWatches_100 (n : Nat) : Int32 → IM → IR := itr (fun _ _ => none) (f_X12_findsWatches_100_b) n
set_option maxRecDepth 100000 in
set_option maxHeartbeats 4000000 in
theorem t_X12_findsWatches_100 {g : IG} {a : Nat → Nat} {R : Int32 × IM} (n : Nat) : ∀ (x1 : Int32) (M : IM), f_X12_findsWatches_100 n x1 M = some R → V g mX12_findsWatches 7 0 0 (qV S0 a R) 100 [some (.ref (a 136)), some (.int x1), none] [] a S0 M 0 0 := by
  induction n with
  | zero => intro x1 M h; exact absurd h (fun z => by cases z)
  | succ n hr100 =>
    intro x1 M h
    replace h : f_X12_findsWatches_100_b (f_X12_findsWatches_100 n) x1 M = some R := h
    unfold f_X12_findsWatches_100_b at h
    refine V_iload_n rfl dX12_findsWatches_100 rfl rfl ?_
    refine V_if_lt (t := 157) rfl rfl dX12_findsWatches_101 (fun hc22 => ?_) (fun hc22 => ?_)
    · replace h := ifp hc22 h
      cases h
      exact V_vret dX12_findsWatches_157 rfl (Nat.le_refl _) (Nat.le_refl _) qV_ok
    · replace h := ifn hc22 h
      refine V_iconst (v := 0) rfl dX12_findsWatches_104 kc_0 ?_
      refine V_istore_n (L' := [_, _, _]) rfl rfl dX12_findsWatches_105 (by decide) rfl ?_
      exact V_sub (le_s (le_s (le_s le_0))) (t_X12_findsWatches_106 hr100 BG _ _ _ h)
def f_X12_findsWatches_53_b (r53 : Int32 → IM → IR) (x1 : Int32) (M : IM) : IR := cl (f_X12_firstState M) fun w2 M3 => if w2 < x1 then lt ((M3 136 6) - 1) fun v6 => f_X12_findsWatches_100 BG v6 M3 else if x1 = 0 then wr M3 159 161051 ((14641 * (M3 136 6)) + x1) 0 fun M11 => lt (x1 + 1) fun v13 => r53 v13 M11 else wr M3 159 161051 ((14641 * (M3 136 6)) + x1) 1000000 fun M8 => lt (x1 + 1) fun v10 => r53 v10 M8
def f_X12_findsWatches_53 (n : Nat) : Int32 → IM → IR := itr (fun _ _ => none) (f_X12_findsWatches_53_b) n
set_option maxRecDepth 100000 in
set_option maxHeartbeats 4000000 in
theorem t_X12_findsWatches_53 {g : IG} {a : Nat → Nat} {R : Int32 × IM} (n : Nat) : ∀ (x1 : Int32) (M : IM), f_X12_findsWatches_53 n x1 M = some R → V g mX12_findsWatches 7 0 0 (qV S0 a R) 53 [some (.ref (a 136)), some (.int x1), none] [] a S0 M 0 0 := by
  induction n with
  | zero => intro x1 M h; exact absurd h (fun z => by cases z)
  | succ n hr53 =>
    intro x1 M h
    replace h : f_X12_findsWatches_53_b (f_X12_findsWatches_53 n) x1 M = some R := h
    unfold f_X12_findsWatches_53_b at h
    refine V_iload_n rfl dX12_findsWatches_53 rfl rfl ?_
    refine V_aload_n rfl dX12_findsWatches_54 rfl rfl ?_
    replace h := cl_e h
    obtain ⟨w2, M3, hc4, h⟩ := h
    refine V_ii (As := []) rfl dX12_findsWatches_55 mf_X12_firstState ⟨w_1709, w_116⟩ w_1707 (by decide) s0_136 rfl rfl rfl rfl ⟨rfl, rfl⟩ (t_X12_firstState hc4) ?_
    refine V_icmp_gt (t := 93) rfl rfl dX12_findsWatches_58 (fun hc5 => ?_) (fun hc5 => ?_)
    · replace h := ifp hc5 h
      refine V_aload_n rfl dX12_findsWatches_93 rfl rfl ?_
      refine V_geti (k0 := 6) rfl dX12_findsWatches_94 s0_136 icX12 (by decide) rfl w_1195 ?_
      refine V_iconst (v := 1) rfl dX12_findsWatches_97 kc_1 ?_
      refine V_isub rfl dX12_findsWatches_98 ?_
      replace h := lt_e h
      refine V_istore_n (L' := [_, _, _]) rfl rfl dX12_findsWatches_99 (by decide) rfl ?_
      exact V_sub (le_s (le_s (le_n le_0))) (t_X12_findsWatches_100 BG _ _ h)
    · replace h := ifn hc5 h
      refine V_aload_n rfl dX12_findsWatches_61 rfl rfl ?_
      refine V_getr (k0 := 44) rfl dX12_findsWatches_62 s0_136 icX12 (by decide) rfl w_1233 ?_
      refine V_sipush (v := 14641) rfl dX12_findsWatches_65 ks_14641 ?_
      refine V_aload_n rfl dX12_findsWatches_68 rfl rfl ?_
      refine V_geti (k0 := 6) rfl dX12_findsWatches_69 s0_136 icX12 (by decide) rfl w_1195 ?_
      refine V_imul rfl dX12_findsWatches_72 ?_
      refine V_iload_n rfl dX12_findsWatches_73 rfl rfl ?_
      refine V_iadd rfl dX12_findsWatches_74 ?_
      refine V_iload_n rfl dX12_findsWatches_75 rfl rfl ?_
      refine V_if_ne (t := 83) rfl rfl dX12_findsWatches_76 (fun hc7 => ?_) (fun hc7 => ?_)
      · replace h := ifn hc7 h
        refine V_ldcw (v := 1000000) rfl dX12_findsWatches_83 w_1711 ?_
        replace h := wr_e h
        obtain ⟨hb9, h⟩ := h
        refine V_iast rfl dX12_findsWatches_86 s0_159 hb9 ?_
        replace h := lt_e h
        refine V_inc (L' := [_, _, _]) rfl dX12_findsWatches_87 rfl kc_1 (by decide) rfl ?_
        refine V_goto (t := 53) rfl dX12_findsWatches_90 ?_
        exact V_sub (le_s (le_s (le_n le_0))) (hr53 _ _ h)
      · replace h := ifp hc7 h
        refine V_iconst (v := 0) rfl dX12_findsWatches_79 kc_0 ?_
        refine V_goto (t := 86) rfl dX12_findsWatches_80 ?_
        replace h := wr_e h
        obtain ⟨hb12, h⟩ := h
        refine V_iast rfl dX12_findsWatches_86 s0_159 hb12 ?_
        replace h := lt_e h
        refine V_inc (L' := [_, _, _]) rfl dX12_findsWatches_87 rfl kc_1 (by decide) rfl ?_
        refine V_goto (t := 53) rfl dX12_findsWatches_90 ?_
        exact V_sub (le_s (le_s (le_n le_0))) (hr53 _ _ h)
def f_X12_findsWatches_2_b (r2 : Int32 → IM → IR) (x1 : Int32) (M : IM) : IR := if (M 136 6) ≤ x1 then f_X12_findsWatches_53 BG 0 M else f_X12_findsWatches_12 r2 BG x1 0 M
def f_X12_findsWatches_2 (n : Nat) : Int32 → IM → IR := itr (fun _ _ => none) (f_X12_findsWatches_2_b) n
set_option maxRecDepth 100000 in
set_option maxHeartbeats 4000000 in
theorem t_X12_findsWatches_2 {g : IG} {a : Nat → Nat} {R : Int32 × IM} (n : Nat) : ∀ (x1 : Int32) (M : IM), f_X12_findsWatches_2 n x1 M = some R → V g mX12_findsWatches 7 0 0 (qV S0 a R) 2 [some (.ref (a 136)), some (.int x1), none] [] a S0 M 0 0 := by
  induction n with
  | zero => intro x1 M h; exact absurd h (fun z => by cases z)
  | succ n hr2 =>
    intro x1 M h
    replace h : f_X12_findsWatches_2_b (f_X12_findsWatches_2 n) x1 M = some R := h
    unfold f_X12_findsWatches_2_b at h
    refine V_iload_n rfl dX12_findsWatches_2 rfl rfl ?_
    refine V_aload_n rfl dX12_findsWatches_3 rfl rfl ?_
    refine V_geti (k0 := 6) rfl dX12_findsWatches_4 s0_136 icX12 (by decide) rfl w_1195 ?_
    refine V_icmp_ge (t := 51) rfl rfl dX12_findsWatches_7 (fun hc1 => ?_) (fun hc1 => ?_)
    · replace h := ifp hc1 h
      refine V_iconst (v := 0) rfl dX12_findsWatches_51 kc_0 ?_
      refine V_istore_n (L' := [_, _, _]) rfl rfl dX12_findsWatches_52 (by decide) rfl ?_
      exact V_sub (le_s (le_s (le_n le_0))) (t_X12_findsWatches_53 BG _ _ h)
    · replace h := ifn hc1 h
      refine V_iconst (v := 0) rfl dX12_findsWatches_10 kc_0 ?_
      refine V_istore_n (L' := [_, _, _]) rfl rfl dX12_findsWatches_11 (by decide) rfl ?_
      exact V_sub (le_s (le_s (le_s le_0))) (t_X12_findsWatches_12 hr2 BG _ _ _ h)
def f_X12_findsWatches (M : IM) : IR := f_X12_findsWatches_2 BG 0 M
set_option maxRecDepth 100000 in
set_option maxHeartbeats 4000000 in
theorem t_X12_findsWatches {g : IG} {a : Nat → Nat} {R : Int32 × IM} {M : IM} (h : f_X12_findsWatches M = some R) : Cn g mX12_findsWatches 7 0 0 (qV S0 a R) [.ref (a 136)] a S0 M := by
  refine Cn_of (L := [some (.ref (a 136)), none, none]) mf_X12_findsWatches (cat_r cat_0) (Nat.le_of_ble_eq_true rfl) rfl ?_
  unfold f_X12_findsWatches at h
  refine V_iconst (v := 0) rfl dX12_findsWatches_0 kc_0 ?_
  refine V_istore_n (L' := [_, _, _]) rfl rfl dX12_findsWatches_1 (by decide) rfl ?_
  exact V_sub (le_s (le_s (le_n le_0))) (t_X12_findsWatches_2 BG _ _ h)
-- X12_watches: NeverHaltedModel.watches(I)I
def f_X12_watches_53 (x2 : Int32) (M : IM) : IR := rd M 159 161051 x2 fun v17 => if v17 < 1000000 then rd M 159 161051 x2 fun v20 => some (v20, M) else some ((-1), M)
set_option maxRecDepth 100000 in
set_option maxHeartbeats 4000000 in
theorem t_X12_watches_53 {g : IG} {a : Nat → Nat} {R : Int32 × IM} {x2 : Int32} {M : IM} (h : f_X12_watches_53 x2 M = some R) : V g mX12_watches 8 0 0 (qI S0 a R) 53 [some (.ref (a 136)), none, some (.int x2), none, none] [] a S0 M 0 0 := by
  unfold f_X12_watches_53 at h
  refine V_aload_n rfl dX12_watches_53 rfl rfl ?_
  refine V_getr (k0 := 44) rfl dX12_watches_54 s0_136 icX12 (by decide) rfl w_1233 ?_
  refine V_iload_n rfl dX12_watches_57 rfl rfl ?_
  replace h := rd_e h
  obtain ⟨hb18, h⟩ := h
  refine V_iald rfl dX12_watches_58 s0_159 hb18 ?_
  refine V_ldcw (v := 1000000) rfl dX12_watches_59 w_1711 ?_
  refine V_icmp_lt (t := 69) rfl rfl dX12_watches_62 (fun hc19 => ?_) (fun hc19 => ?_)
  · replace h := ifp hc19 h
    refine V_aload_n rfl dX12_watches_69 rfl rfl ?_
    refine V_getr (k0 := 44) rfl dX12_watches_70 s0_136 icX12 (by decide) rfl w_1233 ?_
    refine V_iload_n rfl dX12_watches_73 rfl rfl ?_
    replace h := rd_e h
    obtain ⟨hb21, h⟩ := h
    refine V_iald rfl dX12_watches_74 s0_159 hb21 ?_
    cases h
    exact V_iret dX12_watches_75 rfl rfl (Nat.le_refl _) (Nat.le_refl _) qI_ok
  · replace h := ifn hc19 h
    refine V_iconst (v := (-1)) rfl dX12_watches_65 kc_m1 ?_
    refine V_goto (t := 75) rfl dX12_watches_66 ?_
    cases h
    exact V_iret dX12_watches_75 rfl rfl (Nat.le_refl _) (Nat.le_refl _) qI_ok
def f_X12_watches_81_b (r81 : Int32 → Int32 → Int32 → Int32 → IM → IR) (x1 : Int32) (x2 : Int32) (x3 : Int32) (x4 : Int32) (M : IM) : IR := if (x1 - 10) < x4 then some (x3, M) else cl (f_X12_bestWay x4 x2 M) fun w23 M24 => cl (f_X12_takenBy w23 M24) fun w26 M27 => cl (f_X12_less x2 w26 M27) fun w29 M30 => lt (x4 + 1) fun v32 => r81 x1 w29 w23 v32 M30
def f_X12_watches_81 (n : Nat) : Int32 → Int32 → Int32 → Int32 → IM → IR := itr (fun _ _ _ _ _ => none) (f_X12_watches_81_b) n
set_option maxRecDepth 100000 in
set_option maxHeartbeats 4000000 in
theorem t_X12_watches_81 {g : IG} {a : Nat → Nat} {R : Int32 × IM} (n : Nat) : ∀ (x1 : Int32) (x2 : Int32) (x3 : Int32) (x4 : Int32) (M : IM), f_X12_watches_81 n x1 x2 x3 x4 M = some R → V g mX12_watches 8 0 0 (qI S0 a R) 81 [some (.ref (a 136)), some (.int x1), some (.int x2), some (.int x3), some (.int x4)] [] a S0 M 0 0 := by
  induction n with
  | zero => intro x1 x2 x3 x4 M h; exact absurd h (fun z => by cases z)
  | succ n hr81 =>
    intro x1 x2 x3 x4 M h
    replace h : f_X12_watches_81_b (f_X12_watches_81 n) x1 x2 x3 x4 M = some R := h
    unfold f_X12_watches_81_b at h
    refine V_iload rfl dX12_watches_81 rfl ?_
    refine V_iload_n rfl dX12_watches_83 rfl rfl ?_
    refine V_bipush (v := 10) rfl dX12_watches_84 kb_10 ?_
    refine V_isub rfl dX12_watches_86 ?_
    refine V_icmp_gt (t := 115) rfl rfl dX12_watches_87 (fun hc22 => ?_) (fun hc22 => ?_)
    · replace h := ifp hc22 h
      refine V_iload_n rfl dX12_watches_115 rfl rfl ?_
      cases h
      exact V_iret dX12_watches_116 rfl rfl (Nat.le_refl _) (Nat.le_refl _) qI_ok
    · replace h := ifn hc22 h
      refine V_aload_n rfl dX12_watches_90 rfl rfl ?_
      refine V_iload rfl dX12_watches_91 rfl ?_
      refine V_iload_n rfl dX12_watches_93 rfl rfl ?_
      replace h := cl_e h
      obtain ⟨w23, M24, hc25, h⟩ := h
      refine V_ii (As := [.int _, .int _]) rfl dX12_watches_94 mf_X12_bestWay ⟨w_1714, w_117⟩ w_1712 (by decide) s0_136 rfl rfl rfl rfl ⟨rfl, rfl⟩ (t_X12_bestWay hc25) ?_
      refine V_istore_n (L' := [_, _, _, _, _]) rfl rfl dX12_watches_97 (by decide) rfl ?_
      refine V_aload_n rfl dX12_watches_98 rfl rfl ?_
      refine V_iload_n rfl dX12_watches_99 rfl rfl ?_
      refine V_aload_n rfl dX12_watches_100 rfl rfl ?_
      refine V_iload_n rfl dX12_watches_101 rfl rfl ?_
      replace h := cl_e h
      obtain ⟨w26, M27, hc28, h⟩ := h
      refine V_ii (As := [.int _]) rfl dX12_watches_102 mf_X12_takenBy ⟨w_1722, w_119⟩ w_1720 (by decide) s0_136 rfl rfl rfl rfl ⟨rfl, rfl⟩ (t_X12_takenBy hc28) ?_
      replace h := cl_e h
      obtain ⟨w29, M30, hc31, h⟩ := h
      refine V_ii (As := [.int _, .int _]) rfl dX12_watches_105 mf_X12_less ⟨w_1726, w_120⟩ w_1724 (by decide) s0_136 rfl rfl rfl rfl ⟨rfl, rfl⟩ (t_X12_less hc31) ?_
      refine V_istore_n (L' := [_, _, _, _, _]) rfl rfl dX12_watches_108 (by decide) rfl ?_
      replace h := lt_e h
      refine V_inc (L' := [_, _, _, _, _]) rfl dX12_watches_109 rfl kc_1 (by decide) rfl ?_
      refine V_goto (t := 81) rfl dX12_watches_112 ?_
      exact V_sub (le_s (le_s (le_s (le_s (le_s le_0))))) (hr81 _ _ _ _ _ h)
def f_X12_watches_28 (x1 : Int32) (M : IM) : IR := cl (f_X12_findsWatches M) fun _ M8 => cl (f_X12_firstState M8) fun w10 M11 => rd M11 159 161051 w10 fun v13 => if 1000000 ≤ v13 then f_X12_watches_53 w10 M11 else if x1 = 0 then f_X12_watches_53 w10 M11 else f_X12_watches_81 BG x1 w10 (-1) 0 M11
set_option maxRecDepth 100000 in
set_option maxHeartbeats 4000000 in
theorem t_X12_watches_28 {g : IG} {a : Nat → Nat} {R : Int32 × IM} {x1 : Int32} {M : IM} (h : f_X12_watches_28 x1 M = some R) : V g mX12_watches 8 0 0 (qI S0 a R) 28 [some (.ref (a 136)), some (.int x1), none, none, none] [] a S0 M 0 0 := by
  unfold f_X12_watches_28 at h
  refine V_aload_n rfl dX12_watches_28 rfl rfl ?_
  replace h := cl_e h
  obtain ⟨w7, M8, hc9, h⟩ := h
  refine V_iv (As := []) rfl dX12_watches_29 mf_X12_findsWatches ⟨w_1705, w_115⟩ w_1703 (by decide) s0_136 rfl rfl rfl rfl ⟨rfl, rfl⟩ (t_X12_findsWatches hc9) ?_
  refine V_aload_n rfl dX12_watches_32 rfl rfl ?_
  replace h := cl_e h
  obtain ⟨w10, M11, hc12, h⟩ := h
  refine V_ii (As := []) rfl dX12_watches_33 mf_X12_firstState ⟨w_1709, w_116⟩ w_1707 (by decide) s0_136 rfl rfl rfl rfl ⟨rfl, rfl⟩ (t_X12_firstState hc12) ?_
  refine V_istore_n (L' := [_, _, _, _, _]) rfl rfl dX12_watches_36 (by decide) rfl ?_
  refine V_aload_n rfl dX12_watches_37 rfl rfl ?_
  refine V_getr (k0 := 44) rfl dX12_watches_38 s0_136 icX12 (by decide) rfl w_1233 ?_
  refine V_iload_n rfl dX12_watches_41 rfl rfl ?_
  replace h := rd_e h
  obtain ⟨hb14, h⟩ := h
  refine V_iald rfl dX12_watches_42 s0_159 hb14 ?_
  refine V_ldcw (v := 1000000) rfl dX12_watches_43 w_1711 ?_
  refine V_icmp_ge (t := 53) rfl rfl dX12_watches_46 (fun hc15 => ?_) (fun hc15 => ?_)
  · replace h := ifp hc15 h
    exact V_sub (le_s (le_n (le_s (le_n (le_n le_0))))) (t_X12_watches_53 h)
  · replace h := ifn hc15 h
    refine V_iload_n rfl dX12_watches_49 rfl rfl ?_
    refine V_if_ne (t := 76) rfl rfl dX12_watches_50 (fun hc16 => ?_) (fun hc16 => ?_)
    · replace h := ifn hc16 h
      refine V_iconst (v := (-1)) rfl dX12_watches_76 kc_m1 ?_
      refine V_istore_n (L' := [_, _, _, _, _]) rfl rfl dX12_watches_77 (by decide) rfl ?_
      refine V_iconst (v := 0) rfl dX12_watches_78 kc_0 ?_
      refine V_istore (L' := [_, _, _, _, _]) rfl dX12_watches_79 (by decide) rfl ?_
      exact V_sub (le_s (le_s (le_s (le_s (le_s le_0))))) (t_X12_watches_81 BG _ _ _ _ _ h)
    · replace h := ifp hc16 h
      exact V_sub (le_s (le_n (le_s (le_n (le_n le_0))))) (t_X12_watches_53 h)
def f_X12_watches (p1 : Int32) (M : IM) : IR := pt M 136 0 0 fun M1 => if p1 = 0 then f_X12_watches_28 p1 M1 else cl (f_X12_isIn p1 10 (9 + (M1 136 6)) M1) fun w3 M4 => if w3 = 0 then some ((-1), M4) else f_X12_watches_28 p1 M4
set_option maxRecDepth 100000 in
set_option maxHeartbeats 4000000 in
theorem t_X12_watches {g : IG} {a : Nat → Nat} {R : Int32 × IM} {p1 : Int32} {M : IM} (h : f_X12_watches p1 M = some R) : Cn g mX12_watches 8 0 0 (qI S0 a R) [.ref (a 136), .int p1] a S0 M := by
  refine Cn_of (L := [some (.ref (a 136)), some (.int p1), none, none, none]) mf_X12_watches (cat_r (cat_i cat_0)) (Nat.le_of_ble_eq_true rfl) rfl ?_
  unfold f_X12_watches at h
  refine V_aload_n rfl dX12_watches_0 rfl rfl ?_
  refine V_iconst (v := 0) rfl dX12_watches_1 kc_0 ?_
  replace h := pt_e h
  refine V_putf (k0 := 0) (ty := .int) rfl dX12_watches_2 s0_136 icX12 tyX12_ok nmX12 (by decide) rfl w_1189 rfl (tyX12_ok _ (by decide)) rfl rfl ?_
  refine V_iload_n rfl dX12_watches_5 rfl rfl ?_
  refine V_if_eq (t := 28) rfl rfl dX12_watches_6 (fun hc2 => ?_) (fun hc2 => ?_)
  · replace h := ifp hc2 h
    exact V_sub (le_s (le_s (le_n (le_n (le_n le_0))))) (t_X12_watches_28 h)
  · replace h := ifn hc2 h
    refine V_aload_n rfl dX12_watches_9 rfl rfl ?_
    refine V_iload_n rfl dX12_watches_10 rfl rfl ?_
    refine V_bipush (v := 10) rfl dX12_watches_11 kb_10 ?_
    refine V_bipush (v := 9) rfl dX12_watches_13 kb_9 ?_
    refine V_aload_n rfl dX12_watches_15 rfl rfl ?_
    refine V_geti (k0 := 6) rfl dX12_watches_16 s0_136 icX12 (by decide) rfl w_1195 ?_
    refine V_iadd rfl dX12_watches_19 ?_
    replace h := cl_e h
    obtain ⟨w3, M4, hc5, h⟩ := h
    refine V_ii (As := [.int _, .int _, .int _]) rfl dX12_watches_20 mf_X12_isIn ⟨w_1367, w_47⟩ w_1365 (by decide) s0_136 rfl rfl rfl rfl ⟨rfl, rfl⟩ (t_X12_isIn hc5) ?_
    refine V_if_ne (t := 28) rfl rfl dX12_watches_23 (fun hc6 => ?_) (fun hc6 => ?_)
    · replace h := ifn hc6 h
      exact V_sub (le_s (le_s (le_n (le_n (le_n le_0))))) (t_X12_watches_28 h)
    · replace h := ifp hc6 h
      refine V_iconst (v := (-1)) rfl dX12_watches_26 kc_m1 ?_
      cases h
      exact V_iret dX12_watches_27 rfl rfl (Nat.le_refl _) (Nat.le_refl _) qI_ok
-- X12_roadTo: NeverHaltedModel.roadTo(II)I
def f_X12_roadTo (p1 : Int32) (p2 : Int32) (M : IM) : IR := rd M 141 64 ((8 * p1) + p2) fun v1 => if v1 = 0 then some (1000000, M) else rd M 141 64 ((8 * p1) + p2) fun v4 => some (v4, M)
set_option maxRecDepth 100000 in
set_option maxHeartbeats 4000000 in
theorem t_X12_roadTo {g : IG} {a : Nat → Nat} {R : Int32 × IM} {p1 : Int32} {p2 : Int32} {M : IM} (h : f_X12_roadTo p1 p2 M = some R) : Cn g mX12_roadTo 1 0 0 (qI S0 a R) [.ref (a 136), .int p1, .int p2] a S0 M := by
  refine Cn_of (L := [some (.ref (a 136)), some (.int p1), some (.int p2)]) mf_X12_roadTo (cat_r (cat_i (cat_i cat_0))) (Nat.le_of_ble_eq_true rfl) rfl ?_
  unfold f_X12_roadTo at h
  refine V_aload_n rfl dX12_roadTo_0 rfl rfl ?_
  refine V_getr (k0 := 11) rfl dX12_roadTo_1 s0_136 icX12 (by decide) rfl w_1200 ?_
  refine V_bipush (v := 8) rfl dX12_roadTo_4 kb_8 ?_
  refine V_iload_n rfl dX12_roadTo_6 rfl rfl ?_
  refine V_imul rfl dX12_roadTo_7 ?_
  refine V_iload_n rfl dX12_roadTo_8 rfl rfl ?_
  refine V_iadd rfl dX12_roadTo_9 ?_
  replace h := rd_e h
  obtain ⟨hb2, h⟩ := h
  refine V_iald rfl dX12_roadTo_10 s0_141 hb2 ?_
  refine V_if_ne (t := 20) rfl rfl dX12_roadTo_11 (fun hc3 => ?_) (fun hc3 => ?_)
  · replace h := ifn hc3 h
    refine V_aload_n rfl dX12_roadTo_20 rfl rfl ?_
    refine V_getr (k0 := 11) rfl dX12_roadTo_21 s0_136 icX12 (by decide) rfl w_1200 ?_
    refine V_bipush (v := 8) rfl dX12_roadTo_24 kb_8 ?_
    refine V_iload_n rfl dX12_roadTo_26 rfl rfl ?_
    refine V_imul rfl dX12_roadTo_27 ?_
    refine V_iload_n rfl dX12_roadTo_28 rfl rfl ?_
    refine V_iadd rfl dX12_roadTo_29 ?_
    replace h := rd_e h
    obtain ⟨hb5, h⟩ := h
    refine V_iald rfl dX12_roadTo_30 s0_141 hb5 ?_
    cases h
    exact V_iret dX12_roadTo_31 rfl rfl (Nat.le_refl _) (Nat.le_refl _) qI_ok
  · replace h := ifp hc3 h
    refine V_ldcw (v := 1000000) rfl dX12_roadTo_14 w_1711 ?_
    refine V_goto (t := 31) rfl dX12_roadTo_17 ?_
    cases h
    exact V_iret dX12_roadTo_31 rfl rfl (Nat.le_refl _) (Nat.le_refl _) qI_ok
-- X12_byParish: NeverHaltedModel.byParish(III)I
def f_X12_byParish (p1 : Int32) (p2 : Int32) (p3 : Int32) (M : IM) : IR := cl (f_X12_roadTo p2 p3 M) fun w1 M2 => rd M2 161 2048 ((8 * (p1 &&& (((1 : Int32) <<< (p3 &&& 31)) ^^^ (-1)))) + p3) fun v4 => cl (f_X12_lesser 1000000 (w1 + v4) M2) fun w6 M7 => some (w6, M7)
set_option maxRecDepth 100000 in
set_option maxHeartbeats 4000000 in
theorem t_X12_byParish {g : IG} {a : Nat → Nat} {R : Int32 × IM} {p1 : Int32} {p2 : Int32} {p3 : Int32} {M : IM} (h : f_X12_byParish p1 p2 p3 M = some R) : Cn g mX12_byParish 2 0 0 (qI S0 a R) [.ref (a 136), .int p1, .int p2, .int p3] a S0 M := by
  refine Cn_of (L := [some (.ref (a 136)), some (.int p1), some (.int p2), some (.int p3)]) mf_X12_byParish (cat_r (cat_i (cat_i (cat_i cat_0)))) (Nat.le_of_ble_eq_true rfl) rfl ?_
  unfold f_X12_byParish at h
  refine V_aload_n rfl dX12_byParish_0 rfl rfl ?_
  refine V_ldcw (v := 1000000) rfl dX12_byParish_1 w_1711 ?_
  refine V_aload_n rfl dX12_byParish_4 rfl rfl ?_
  refine V_iload_n rfl dX12_byParish_5 rfl rfl ?_
  refine V_iload_n rfl dX12_byParish_6 rfl rfl ?_
  replace h := cl_e h
  obtain ⟨w1, M2, hc3, h⟩ := h
  refine V_ii (As := [.int _, .int _]) rfl dX12_byParish_7 mf_X12_roadTo ⟨w_1742, w_123⟩ w_1740 (by decide) s0_136 rfl rfl rfl rfl ⟨rfl, rfl⟩ (t_X12_roadTo hc3) ?_
  refine V_aload_n rfl dX12_byParish_10 rfl rfl ?_
  refine V_getr (k0 := 46) rfl dX12_byParish_11 s0_136 icX12 (by decide) rfl w_1235 ?_
  refine V_bipush (v := 8) rfl dX12_byParish_14 kb_8 ?_
  refine V_iload_n rfl dX12_byParish_16 rfl rfl ?_
  refine V_iconst (v := 1) rfl dX12_byParish_17 kc_1 ?_
  refine V_iload_n rfl dX12_byParish_18 rfl rfl ?_
  refine V_ishl rfl dX12_byParish_19 ?_
  refine V_iconst (v := (-1)) rfl dX12_byParish_20 kc_m1 ?_
  refine V_ixor rfl dX12_byParish_21 ?_
  refine V_iand rfl dX12_byParish_22 ?_
  refine V_imul rfl dX12_byParish_23 ?_
  refine V_iload_n rfl dX12_byParish_24 rfl rfl ?_
  refine V_iadd rfl dX12_byParish_25 ?_
  replace h := rd_e h
  obtain ⟨hb5, h⟩ := h
  refine V_iald rfl dX12_byParish_26 s0_161 hb5 ?_
  refine V_iadd rfl dX12_byParish_27 ?_
  replace h := cl_e h
  obtain ⟨w6, M7, hc8, h⟩ := h
  refine V_ii (As := [.int _, .int _]) rfl dX12_byParish_28 mf_X12_lesser ⟨w_1637, w_106⟩ w_1635 (by decide) s0_136 rfl rfl rfl rfl ⟨rfl, rfl⟩ (t_X12_lesser hc8) ?_
  cases h
  exact V_iret dX12_byParish_31 rfl rfl (Nat.le_refl _) (Nat.le_refl _) qI_ok
-- X12_findsTours: NeverHaltedModel.findsTours(I)V
def f_X12_findsTours_47_b (r2 : Int32 → Int32 → IM → IR) (r21 : Int32 → Int32 → Int32 → IM → IR) (r47 : Int32 → Int32 → Int32 → Int32 → Int32 → IM → IR) (x1 : Int32) (x2 : Int32) (x3 : Int32) (x4 : Int32) (x5 : Int32) (M : IM) : IR := if x1 ≤ x5 then wr M 161 2048 ((8 * x2) + x3) x4 fun M11 => lt (x3 + 1) fun v13 => r21 x1 x2 v13 M11 else if ((x2 >>> (x5 &&& 31)) &&& 1) = 1 then cl (f_X12_byParish x2 x3 x5 M) fun w16 M17 => cl (f_X12_lesser x4 w16 M17) fun w19 M20 => lt (x5 + 1) fun v22 => r47 x1 x2 x3 w19 v22 M20 else lt (x5 + 1) fun v15 => r47 x1 x2 x3 x4 v15 M
def f_X12_findsTours_47 (r2 : Int32 → Int32 → IM → IR) (r21 : Int32 → Int32 → Int32 → IM → IR) (n : Nat) : Int32 → Int32 → Int32 → Int32 → Int32 → IM → IR := itr (fun _ _ _ _ _ _ => none) (f_X12_findsTours_47_b r2 r21) n
set_option maxRecDepth 100000 in
set_option maxHeartbeats 4000000 in
theorem t_X12_findsTours_47 {g : IG} {a : Nat → Nat} {R : Int32 × IM} {r2 : Int32 → Int32 → IM → IR} {r21 : Int32 → Int32 → Int32 → IM → IR} (hr2 : ∀ (x1 : Int32) (x2 : Int32) (M : IM), r2 x1 x2 M = some R → V g mX12_findsTours 3 0 0 (qV S0 a R) 2 [some (.ref (a 136)), some (.int x1), some (.int x2), none, none, none] [] a S0 M 0 0) (hr21 : ∀ (x1 : Int32) (x2 : Int32) (x3 : Int32) (M : IM), r21 x1 x2 x3 M = some R → V g mX12_findsTours 3 0 0 (qV S0 a R) 21 [some (.ref (a 136)), some (.int x1), some (.int x2), some (.int x3), none, none] [] a S0 M 0 0) (n : Nat) : ∀ (x1 : Int32) (x2 : Int32) (x3 : Int32) (x4 : Int32) (x5 : Int32) (M : IM), f_X12_findsTours_47 r2 r21 n x1 x2 x3 x4 x5 M = some R → V g mX12_findsTours 3 0 0 (qV S0 a R) 47 [some (.ref (a 136)), some (.int x1), some (.int x2), some (.int x3), some (.int x4), some (.int x5)] [] a S0 M 0 0 := by
  induction n with
  | zero => intro x1 x2 x3 x4 x5 M h; exact absurd h (fun z => by cases z)
  | succ n hr47 =>
    intro x1 x2 x3 x4 x5 M h
    replace h : f_X12_findsTours_47_b r2 r21 (f_X12_findsTours_47 r2 r21 n) x1 x2 x3 x4 x5 M = some R := h
    unfold f_X12_findsTours_47_b at h
    refine V_iload rfl dX12_findsTours_47 rfl ?_
    refine V_iload_n rfl dX12_findsTours_49 rfl rfl ?_
    refine V_icmp_ge (t := 85) rfl rfl dX12_findsTours_50 (fun hc10 => ?_) (fun hc10 => ?_)
    · replace h := ifp hc10 h
      refine V_aload_n rfl dX12_findsTours_85 rfl rfl ?_
      refine V_getr (k0 := 46) rfl dX12_findsTours_86 s0_136 icX12 (by decide) rfl w_1235 ?_
      refine V_bipush (v := 8) rfl dX12_findsTours_89 kb_8 ?_
      refine V_iload_n rfl dX12_findsTours_91 rfl rfl ?_
      refine V_imul rfl dX12_findsTours_92 ?_
      refine V_iload_n rfl dX12_findsTours_93 rfl rfl ?_
      refine V_iadd rfl dX12_findsTours_94 ?_
      refine V_iload rfl dX12_findsTours_95 rfl ?_
      replace h := wr_e h
      obtain ⟨hb12, h⟩ := h
      refine V_iast rfl dX12_findsTours_97 s0_161 hb12 ?_
      replace h := lt_e h
      refine V_inc (L' := [_, _, _, _, _, _]) rfl dX12_findsTours_98 rfl kc_1 (by decide) rfl ?_
      refine V_goto (t := 21) rfl dX12_findsTours_101 ?_
      exact V_sub (le_s (le_s (le_s (le_s (le_n (le_n le_0)))))) (hr21 _ _ _ _ h)
    · replace h := ifn hc10 h
      refine V_iload_n rfl dX12_findsTours_53 rfl rfl ?_
      refine V_iload rfl dX12_findsTours_54 rfl ?_
      refine V_ishr rfl dX12_findsTours_56 ?_
      refine V_iconst (v := 1) rfl dX12_findsTours_57 kc_1 ?_
      refine V_iand rfl dX12_findsTours_58 ?_
      refine V_iconst (v := 1) rfl dX12_findsTours_59 kc_1 ?_
      refine V_icmp_ne (t := 79) rfl rfl dX12_findsTours_60 (fun hc14 => ?_) (fun hc14 => ?_)
      · replace h := ifn hc14 h
        replace h := lt_e h
        refine V_inc (L' := [_, _, _, _, _, _]) rfl dX12_findsTours_79 rfl kc_1 (by decide) rfl ?_
        refine V_goto (t := 47) rfl dX12_findsTours_82 ?_
        exact V_sub (le_s (le_s (le_s (le_s (le_s (le_s le_0)))))) (hr47 _ _ _ _ _ _ h)
      · replace h := ifp hc14 h
        refine V_aload_n rfl dX12_findsTours_63 rfl rfl ?_
        refine V_iload rfl dX12_findsTours_64 rfl ?_
        refine V_aload_n rfl dX12_findsTours_66 rfl rfl ?_
        refine V_iload_n rfl dX12_findsTours_67 rfl rfl ?_
        refine V_iload_n rfl dX12_findsTours_68 rfl rfl ?_
        refine V_iload rfl dX12_findsTours_69 rfl ?_
        replace h := cl_e h
        obtain ⟨w16, M17, hc18, h⟩ := h
        refine V_ii (As := [.int _, .int _, .int _]) rfl dX12_findsTours_71 mf_X12_byParish ⟨w_1746, w_124⟩ w_1744 (by decide) s0_136 rfl rfl rfl rfl ⟨rfl, rfl⟩ (t_X12_byParish hc18) ?_
        replace h := cl_e h
        obtain ⟨w19, M20, hc21, h⟩ := h
        refine V_ii (As := [.int _, .int _]) rfl dX12_findsTours_74 mf_X12_lesser ⟨w_1637, w_106⟩ w_1635 (by decide) s0_136 rfl rfl rfl rfl ⟨rfl, rfl⟩ (t_X12_lesser hc21) ?_
        refine V_istore (L' := [_, _, _, _, _, _]) rfl dX12_findsTours_77 (by decide) rfl ?_
        replace h := lt_e h
        refine V_inc (L' := [_, _, _, _, _, _]) rfl dX12_findsTours_79 rfl kc_1 (by decide) rfl ?_
        refine V_goto (t := 47) rfl dX12_findsTours_82 ?_
        exact V_sub (le_s (le_s (le_s (le_s (le_s (le_s le_0)))))) (hr47 _ _ _ _ _ _ h)
def f_X12_findsTours_21_b (r2 : Int32 → Int32 → IM → IR) (r21 : Int32 → Int32 → Int32 → IM → IR) (x1 : Int32) (x2 : Int32) (x3 : Int32) (M : IM) : IR := if x1 ≤ x3 then lt (x2 + 1) fun v5 => r2 x1 v5 M else if x2 = 0 then cl (f_X12_roadTo x3 0 M) fun w7 M8 => f_X12_findsTours_47 r2 r21 BG x1 x2 x3 w7 1 M8 else f_X12_findsTours_47 r2 r21 BG x1 x2 x3 1000000 1 M
def f_X12_findsTours_21 (r2 : Int32 → Int32 → IM → IR) (n : Nat) : Int32 → Int32 → Int32 → IM → IR := itr (fun _ _ _ _ => none) (f_X12_findsTours_21_b r2) n
set_option maxRecDepth 100000 in
set_option maxHeartbeats 4000000 in
theorem t_X12_findsTours_21 {g : IG} {a : Nat → Nat} {R : Int32 × IM} {r2 : Int32 → Int32 → IM → IR} (hr2 : ∀ (x1 : Int32) (x2 : Int32) (M : IM), r2 x1 x2 M = some R → V g mX12_findsTours 3 0 0 (qV S0 a R) 2 [some (.ref (a 136)), some (.int x1), some (.int x2), none, none, none] [] a S0 M 0 0) (n : Nat) : ∀ (x1 : Int32) (x2 : Int32) (x3 : Int32) (M : IM), f_X12_findsTours_21 r2 n x1 x2 x3 M = some R → V g mX12_findsTours 3 0 0 (qV S0 a R) 21 [some (.ref (a 136)), some (.int x1), some (.int x2), some (.int x3), none, none] [] a S0 M 0 0 := by
  induction n with
  | zero => intro x1 x2 x3 M h; exact absurd h (fun z => by cases z)
  | succ n hr21 =>
    intro x1 x2 x3 M h
    replace h : f_X12_findsTours_21_b r2 (f_X12_findsTours_21 r2 n) x1 x2 x3 M = some R := h
    unfold f_X12_findsTours_21_b at h
    refine V_iload_n rfl dX12_findsTours_21 rfl rfl ?_
    refine V_iload_n rfl dX12_findsTours_22 rfl rfl ?_
    refine V_icmp_ge (t := 104) rfl rfl dX12_findsTours_23 (fun hc4 => ?_) (fun hc4 => ?_)
    · replace h := ifp hc4 h
      replace h := lt_e h
      refine V_inc (L' := [_, _, _, _, _, _]) rfl dX12_findsTours_104 rfl kc_1 (by decide) rfl ?_
      refine V_goto (t := 2) rfl dX12_findsTours_107 ?_
      exact V_sub (le_s (le_s (le_s (le_n (le_n (le_n le_0)))))) (hr2 _ _ _ h)
    · replace h := ifn hc4 h
      refine V_iload_n rfl dX12_findsTours_26 rfl rfl ?_
      refine V_if_ne (t := 39) rfl rfl dX12_findsTours_27 (fun hc6 => ?_) (fun hc6 => ?_)
      · replace h := ifn hc6 h
        refine V_ldcw (v := 1000000) rfl dX12_findsTours_39 w_1711 ?_
        refine V_istore (L' := [_, _, _, _, _, _]) rfl dX12_findsTours_42 (by decide) rfl ?_
        refine V_iconst (v := 1) rfl dX12_findsTours_44 kc_1 ?_
        refine V_istore (L' := [_, _, _, _, _, _]) rfl dX12_findsTours_45 (by decide) rfl ?_
        exact V_sub (le_s (le_s (le_s (le_s (le_s (le_s le_0)))))) (t_X12_findsTours_47 hr2 hr21 BG _ _ _ _ _ _ h)
      · replace h := ifp hc6 h
        refine V_aload_n rfl dX12_findsTours_30 rfl rfl ?_
        refine V_iload_n rfl dX12_findsTours_31 rfl rfl ?_
        refine V_iconst (v := 0) rfl dX12_findsTours_32 kc_0 ?_
        replace h := cl_e h
        obtain ⟨w7, M8, hc9, h⟩ := h
        refine V_ii (As := [.int _, .int _]) rfl dX12_findsTours_33 mf_X12_roadTo ⟨w_1742, w_123⟩ w_1740 (by decide) s0_136 rfl rfl rfl rfl ⟨rfl, rfl⟩ (t_X12_roadTo hc9) ?_
        refine V_goto (t := 42) rfl dX12_findsTours_36 ?_
        refine V_istore (L' := [_, _, _, _, _, _]) rfl dX12_findsTours_42 (by decide) rfl ?_
        refine V_iconst (v := 1) rfl dX12_findsTours_44 kc_1 ?_
        refine V_istore (L' := [_, _, _, _, _, _]) rfl dX12_findsTours_45 (by decide) rfl ?_
        exact V_sub (le_s (le_s (le_s (le_s (le_s (le_s le_0)))))) (t_X12_findsTours_47 hr2 hr21 BG _ _ _ _ _ _ h)
def f_X12_findsTours_2_b (r2 : Int32 → Int32 → IM → IR) (x1 : Int32) (x2 : Int32) (M : IM) : IR := if ((1 : Int32) <<< (x1 &&& 31)) ≤ x2 then some (0, M) else if (x2 &&& 1) = 1 then lt (x2 + 1) fun v3 => r2 x1 v3 M else f_X12_findsTours_21 r2 BG x1 x2 0 M
def f_X12_findsTours_2 (n : Nat) : Int32 → Int32 → IM → IR := itr (fun _ _ _ => none) (f_X12_findsTours_2_b) n
set_option maxRecDepth 100000 in
set_option maxHeartbeats 4000000 in
theorem t_X12_findsTours_2 {g : IG} {a : Nat → Nat} {R : Int32 × IM} (n : Nat) : ∀ (x1 : Int32) (x2 : Int32) (M : IM), f_X12_findsTours_2 n x1 x2 M = some R → V g mX12_findsTours 3 0 0 (qV S0 a R) 2 [some (.ref (a 136)), some (.int x1), some (.int x2), none, none, none] [] a S0 M 0 0 := by
  induction n with
  | zero => intro x1 x2 M h; exact absurd h (fun z => by cases z)
  | succ n hr2 =>
    intro x1 x2 M h
    replace h : f_X12_findsTours_2_b (f_X12_findsTours_2 n) x1 x2 M = some R := h
    unfold f_X12_findsTours_2_b at h
    refine V_iload_n rfl dX12_findsTours_2 rfl rfl ?_
    refine V_iconst (v := 1) rfl dX12_findsTours_3 kc_1 ?_
    refine V_iload_n rfl dX12_findsTours_4 rfl rfl ?_
    refine V_ishl rfl dX12_findsTours_5 ?_
    refine V_icmp_ge (t := 110) rfl rfl dX12_findsTours_6 (fun hc1 => ?_) (fun hc1 => ?_)
    · replace h := ifp hc1 h
      cases h
      exact V_vret dX12_findsTours_110 rfl (Nat.le_refl _) (Nat.le_refl _) qV_ok
    · replace h := ifn hc1 h
      refine V_iload_n rfl dX12_findsTours_9 rfl rfl ?_
      refine V_iconst (v := 1) rfl dX12_findsTours_10 kc_1 ?_
      refine V_iand rfl dX12_findsTours_11 ?_
      refine V_iconst (v := 1) rfl dX12_findsTours_12 kc_1 ?_
      refine V_icmp_ne (t := 19) rfl rfl dX12_findsTours_13 (fun hc2 => ?_) (fun hc2 => ?_)
      · replace h := ifn hc2 h
        refine V_iconst (v := 0) rfl dX12_findsTours_19 kc_0 ?_
        refine V_istore_n (L' := [_, _, _, _, _, _]) rfl rfl dX12_findsTours_20 (by decide) rfl ?_
        exact V_sub (le_s (le_s (le_s (le_s (le_n (le_n le_0)))))) (t_X12_findsTours_21 hr2 BG _ _ _ _ h)
      · replace h := ifp hc2 h
        refine V_goto (t := 104) rfl dX12_findsTours_16 ?_
        replace h := lt_e h
        refine V_inc (L' := [_, _, _, _, _, _]) rfl dX12_findsTours_104 rfl kc_1 (by decide) rfl ?_
        refine V_goto (t := 2) rfl dX12_findsTours_107 ?_
        exact V_sub (le_s (le_s (le_s (le_n (le_n (le_n le_0)))))) (hr2 _ _ _ h)
def f_X12_findsTours (p1 : Int32) (M : IM) : IR := f_X12_findsTours_2 BG p1 0 M
set_option maxRecDepth 100000 in
set_option maxHeartbeats 4000000 in
theorem t_X12_findsTours {g : IG} {a : Nat → Nat} {R : Int32 × IM} {p1 : Int32} {M : IM} (h : f_X12_findsTours p1 M = some R) : Cn g mX12_findsTours 3 0 0 (qV S0 a R) [.ref (a 136), .int p1] a S0 M := by
  refine Cn_of (L := [some (.ref (a 136)), some (.int p1), none, none, none, none]) mf_X12_findsTours (cat_r (cat_i cat_0)) (Nat.le_of_ble_eq_true rfl) rfl ?_
  unfold f_X12_findsTours at h
  refine V_iconst (v := 0) rfl dX12_findsTours_0 kc_0 ?_
  refine V_istore_n (L' := [_, _, _, _, _, _]) rfl rfl dX12_findsTours_1 (by decide) rfl ?_
  exact V_sub (le_s (le_s (le_s (le_n (le_n (le_n le_0)))))) (t_X12_findsTours_2 BG _ _ _ h)
-- X12_touredAt: NeverHaltedModel.touredAt(II)I
def f_X12_touredAt_21_b (r12 : Int32 → Int32 → Int32 → Int32 → IM → IR) (r21 : Int32 → Int32 → Int32 → Int32 → Int32 → IM → IR) (x2 : Int32) (x3 : Int32) (x4 : Int32) (x5 : Int32) (x6 : Int32) (M : IM) : IR := if ((x3 >>> (x6 &&& 31)) &&& 1) = 0 then lt (x6 + 1) fun v4 => r21 x2 x3 x4 x5 v4 M else cl (f_X12_byParish x3 x4 x6 M) fun w5 M6 => rd M6 161 2048 ((8 * x3) + x4) fun v8 => if w5 = v8 then lt (x3 &&& (((1 : Int32) <<< (x6 &&& 31)) ^^^ (-1))) fun v11 => lt (x5 + 1) fun v12 => r12 x2 v11 x6 v12 M6 else lt (x6 + 1) fun v13 => r21 x2 x3 x4 x5 v13 M6
def f_X12_touredAt_21 (r12 : Int32 → Int32 → Int32 → Int32 → IM → IR) (n : Nat) : Int32 → Int32 → Int32 → Int32 → Int32 → IM → IR := itr (fun _ _ _ _ _ _ => none) (f_X12_touredAt_21_b r12) n
set_option maxRecDepth 100000 in
set_option maxHeartbeats 4000000 in
theorem t_X12_touredAt_21 {g : IG} {a : Nat → Nat} {R : Int32 × IM} {r12 : Int32 → Int32 → Int32 → Int32 → IM → IR} (hr12 : ∀ (x2 : Int32) (x3 : Int32) (x4 : Int32) (x5 : Int32) (M : IM), r12 x2 x3 x4 x5 M = some R → V g mX12_touredAt 3 0 0 (qI S0 a R) 12 [some (.ref (a 136)), none, some (.int x2), some (.int x3), some (.int x4), some (.int x5), none] [] a S0 M 0 0) (n : Nat) : ∀ (x2 : Int32) (x3 : Int32) (x4 : Int32) (x5 : Int32) (x6 : Int32) (M : IM), f_X12_touredAt_21 r12 n x2 x3 x4 x5 x6 M = some R → V g mX12_touredAt 3 0 0 (qI S0 a R) 21 [some (.ref (a 136)), none, some (.int x2), some (.int x3), some (.int x4), some (.int x5), some (.int x6)] [] a S0 M 0 0 := by
  induction n with
  | zero => intro x2 x3 x4 x5 x6 M h; exact absurd h (fun z => by cases z)
  | succ n hr21 =>
    intro x2 x3 x4 x5 x6 M h
    replace h : f_X12_touredAt_21_b r12 (f_X12_touredAt_21 r12 n) x2 x3 x4 x5 x6 M = some R := h
    unfold f_X12_touredAt_21_b at h
    refine V_iload_n rfl dX12_touredAt_21 rfl rfl ?_
    refine V_iload rfl dX12_touredAt_22 rfl ?_
    refine V_ishr rfl dX12_touredAt_24 ?_
    refine V_iconst (v := 1) rfl dX12_touredAt_25 kc_1 ?_
    refine V_iand rfl dX12_touredAt_26 ?_
    refine V_if_eq (t := 54) rfl rfl dX12_touredAt_27 (fun hc3 => ?_) (fun hc3 => ?_)
    · replace h := ifp hc3 h
      refine V_iload rfl dX12_touredAt_54 rfl ?_
      refine V_iconst (v := 1) rfl dX12_touredAt_56 kc_1 ?_
      refine V_iadd rfl dX12_touredAt_57 ?_
      replace h := lt_e h
      refine V_istore (L' := [_, _, _, _, _, _, _]) rfl dX12_touredAt_58 (by decide) rfl ?_
      refine V_goto (t := 21) rfl dX12_touredAt_60 ?_
      exact V_sub (le_s (le_n (le_s (le_s (le_s (le_s (le_s le_0))))))) (hr21 _ _ _ _ _ _ h)
    · replace h := ifn hc3 h
      refine V_aload_n rfl dX12_touredAt_30 rfl rfl ?_
      refine V_iload_n rfl dX12_touredAt_31 rfl rfl ?_
      refine V_iload rfl dX12_touredAt_32 rfl ?_
      refine V_iload rfl dX12_touredAt_34 rfl ?_
      replace h := cl_e h
      obtain ⟨w5, M6, hc7, h⟩ := h
      refine V_ii (As := [.int _, .int _, .int _]) rfl dX12_touredAt_36 mf_X12_byParish ⟨w_1746, w_124⟩ w_1744 (by decide) s0_136 rfl rfl rfl rfl ⟨rfl, rfl⟩ (t_X12_byParish hc7) ?_
      refine V_aload_n rfl dX12_touredAt_39 rfl rfl ?_
      refine V_getr (k0 := 46) rfl dX12_touredAt_40 s0_136 icX12 (by decide) rfl w_1235 ?_
      refine V_bipush (v := 8) rfl dX12_touredAt_43 kb_8 ?_
      refine V_iload_n rfl dX12_touredAt_45 rfl rfl ?_
      refine V_imul rfl dX12_touredAt_46 ?_
      refine V_iload rfl dX12_touredAt_47 rfl ?_
      refine V_iadd rfl dX12_touredAt_49 ?_
      replace h := rd_e h
      obtain ⟨hb9, h⟩ := h
      refine V_iald rfl dX12_touredAt_50 s0_161 hb9 ?_
      refine V_icmp_eq (t := 63) rfl rfl dX12_touredAt_51 (fun hc10 => ?_) (fun hc10 => ?_)
      · replace h := ifp hc10 h
        refine V_iload_n rfl dX12_touredAt_63 rfl rfl ?_
        refine V_iconst (v := 1) rfl dX12_touredAt_64 kc_1 ?_
        refine V_iload rfl dX12_touredAt_65 rfl ?_
        refine V_ishl rfl dX12_touredAt_67 ?_
        refine V_iconst (v := (-1)) rfl dX12_touredAt_68 kc_m1 ?_
        refine V_ixor rfl dX12_touredAt_69 ?_
        refine V_iand rfl dX12_touredAt_70 ?_
        replace h := lt_e h
        refine V_istore_n (L' := [_, _, _, _, _, _, _]) rfl rfl dX12_touredAt_71 (by decide) rfl ?_
        refine V_iload rfl dX12_touredAt_72 rfl ?_
        refine V_istore (L' := [_, _, _, _, _, _, _]) rfl dX12_touredAt_74 (by decide) rfl ?_
        replace h := lt_e h
        refine V_inc (L' := [_, _, _, _, _, _, _]) rfl dX12_touredAt_76 rfl kc_1 (by decide) rfl ?_
        refine V_goto (t := 12) rfl dX12_touredAt_79 ?_
        exact V_sub (le_s (le_n (le_s (le_s (le_s (le_s (le_n le_0))))))) (hr12 _ _ _ _ _ h)
      · replace h := ifn hc10 h
        refine V_iload rfl dX12_touredAt_54 rfl ?_
        refine V_iconst (v := 1) rfl dX12_touredAt_56 kc_1 ?_
        refine V_iadd rfl dX12_touredAt_57 ?_
        replace h := lt_e h
        refine V_istore (L' := [_, _, _, _, _, _, _]) rfl dX12_touredAt_58 (by decide) rfl ?_
        refine V_goto (t := 21) rfl dX12_touredAt_60 ?_
        exact V_sub (le_s (le_n (le_s (le_s (le_s (le_s (le_s le_0))))))) (hr21 _ _ _ _ _ _ h)
def f_X12_touredAt_12_b (r12 : Int32 → Int32 → Int32 → Int32 → IM → IR) (x2 : Int32) (x3 : Int32) (x4 : Int32) (x5 : Int32) (M : IM) : IR := if x2 ≤ x5 then some (x4, M) else f_X12_touredAt_21 r12 BG x2 x3 x4 x5 1 M
def f_X12_touredAt_12 (n : Nat) : Int32 → Int32 → Int32 → Int32 → IM → IR := itr (fun _ _ _ _ _ => none) (f_X12_touredAt_12_b) n
set_option maxRecDepth 100000 in
set_option maxHeartbeats 4000000 in
theorem t_X12_touredAt_12 {g : IG} {a : Nat → Nat} {R : Int32 × IM} (n : Nat) : ∀ (x2 : Int32) (x3 : Int32) (x4 : Int32) (x5 : Int32) (M : IM), f_X12_touredAt_12 n x2 x3 x4 x5 M = some R → V g mX12_touredAt 3 0 0 (qI S0 a R) 12 [some (.ref (a 136)), none, some (.int x2), some (.int x3), some (.int x4), some (.int x5), none] [] a S0 M 0 0 := by
  induction n with
  | zero => intro x2 x3 x4 x5 M h; exact absurd h (fun z => by cases z)
  | succ n hr12 =>
    intro x2 x3 x4 x5 M h
    replace h : f_X12_touredAt_12_b (f_X12_touredAt_12 n) x2 x3 x4 x5 M = some R := h
    unfold f_X12_touredAt_12_b at h
    refine V_iload rfl dX12_touredAt_12 rfl ?_
    refine V_iload_n rfl dX12_touredAt_14 rfl rfl ?_
    refine V_icmp_ge (t := 82) rfl rfl dX12_touredAt_15 (fun hc2 => ?_) (fun hc2 => ?_)
    · replace h := ifp hc2 h
      refine V_iload rfl dX12_touredAt_82 rfl ?_
      cases h
      exact V_iret dX12_touredAt_84 rfl rfl (Nat.le_refl _) (Nat.le_refl _) qI_ok
    · replace h := ifn hc2 h
      refine V_iconst (v := 1) rfl dX12_touredAt_18 kc_1 ?_
      refine V_istore (L' := [_, _, _, _, _, _, _]) rfl dX12_touredAt_19 (by decide) rfl ?_
      exact V_sub (le_s (le_n (le_s (le_s (le_s (le_s (le_s le_0))))))) (t_X12_touredAt_21 hr12 BG _ _ _ _ _ _ h)
def f_X12_touredAt (p1 : Int32) (p2 : Int32) (M : IM) : IR := lt (((1 : Int32) <<< (p1 &&& 31)) - 2) fun v1 => f_X12_touredAt_12 BG p2 v1 0 0 M
set_option maxRecDepth 100000 in
set_option maxHeartbeats 4000000 in
theorem t_X12_touredAt {g : IG} {a : Nat → Nat} {R : Int32 × IM} {p1 : Int32} {p2 : Int32} {M : IM} (h : f_X12_touredAt p1 p2 M = some R) : Cn g mX12_touredAt 3 0 0 (qI S0 a R) [.ref (a 136), .int p1, .int p2] a S0 M := by
  refine Cn_of (L := [some (.ref (a 136)), some (.int p1), some (.int p2), none, none, none, none]) mf_X12_touredAt (cat_r (cat_i (cat_i cat_0))) (Nat.le_of_ble_eq_true rfl) rfl ?_
  unfold f_X12_touredAt at h
  refine V_iconst (v := 1) rfl dX12_touredAt_0 kc_1 ?_
  refine V_iload_n rfl dX12_touredAt_1 rfl rfl ?_
  refine V_ishl rfl dX12_touredAt_2 ?_
  refine V_iconst (v := 2) rfl dX12_touredAt_3 kc_2 ?_
  refine V_isub rfl dX12_touredAt_4 ?_
  replace h := lt_e h
  refine V_istore_n (L' := [_, _, _, _, _, _, _]) rfl rfl dX12_touredAt_5 (by decide) rfl ?_
  refine V_iconst (v := 0) rfl dX12_touredAt_6 kc_0 ?_
  refine V_istore (L' := [_, _, _, _, _, _, _]) rfl dX12_touredAt_7 (by decide) rfl ?_
  refine V_iconst (v := 0) rfl dX12_touredAt_9 kc_0 ?_
  refine V_istore (L' := [_, _, _, _, _, _, _]) rfl dX12_touredAt_10 (by decide) rfl ?_
  exact V_sub (le_s (le_n (le_s (le_s (le_s (le_s (le_n le_0))))))) (t_X12_touredAt_12 BG _ _ _ _ _ h)
-- X12_tour: NeverHaltedModel.tour(II)I
def f_X12_tour_36 (x1 : Int32) (x2 : Int32) (M : IM) : IR := cl (f_X12_findsTours x1 M) fun _ M12 => rd M12 161 2048 (8 * (((1 : Int32) <<< (x1 &&& 31)) - 2)) fun v14 => if v14 < 1000000 then if x2 = 0 then some (v14, M12) else cl (f_X12_touredAt x1 (x2 - 10) M12) fun w18 M19 => some (w18, M19) else some ((-1), M12)
set_option maxRecDepth 100000 in
set_option maxHeartbeats 4000000 in
theorem t_X12_tour_36 {g : IG} {a : Nat → Nat} {R : Int32 × IM} {x1 : Int32} {x2 : Int32} {M : IM} (h : f_X12_tour_36 x1 x2 M = some R) : V g mX12_tour 4 0 0 (qI S0 a R) 36 [some (.ref (a 136)), some (.int x1), some (.int x2), none] [] a S0 M 0 0 := by
  unfold f_X12_tour_36 at h
  refine V_aload_n rfl dX12_tour_36 rfl rfl ?_
  refine V_iload_n rfl dX12_tour_37 rfl rfl ?_
  replace h := cl_e h
  obtain ⟨w11, M12, hc13, h⟩ := h
  refine V_iv (As := [.int _]) rfl dX12_tour_38 mf_X12_findsTours ⟨w_1738, w_122⟩ w_1736 (by decide) s0_136 rfl rfl rfl rfl ⟨rfl, rfl⟩ (t_X12_findsTours hc13) ?_
  refine V_aload_n rfl dX12_tour_41 rfl rfl ?_
  refine V_getr (k0 := 46) rfl dX12_tour_42 s0_136 icX12 (by decide) rfl w_1235 ?_
  refine V_bipush (v := 8) rfl dX12_tour_45 kb_8 ?_
  refine V_iconst (v := 1) rfl dX12_tour_47 kc_1 ?_
  refine V_iload_n rfl dX12_tour_48 rfl rfl ?_
  refine V_ishl rfl dX12_tour_49 ?_
  refine V_iconst (v := 2) rfl dX12_tour_50 kc_2 ?_
  refine V_isub rfl dX12_tour_51 ?_
  refine V_imul rfl dX12_tour_52 ?_
  replace h := rd_e h
  obtain ⟨hb15, h⟩ := h
  refine V_iald rfl dX12_tour_53 s0_161 hb15 ?_
  refine V_istore_n (L' := [_, _, _, _]) rfl rfl dX12_tour_54 (by decide) rfl ?_
  refine V_iload_n rfl dX12_tour_55 rfl rfl ?_
  refine V_ldcw (v := 1000000) rfl dX12_tour_56 w_1711 ?_
  refine V_icmp_lt (t := 64) rfl rfl dX12_tour_59 (fun hc16 => ?_) (fun hc16 => ?_)
  · replace h := ifp hc16 h
    refine V_iload_n rfl dX12_tour_64 rfl rfl ?_
    refine V_if_ne (t := 72) rfl rfl dX12_tour_65 (fun hc17 => ?_) (fun hc17 => ?_)
    · replace h := ifn hc17 h
      refine V_aload_n rfl dX12_tour_72 rfl rfl ?_
      refine V_iload_n rfl dX12_tour_73 rfl rfl ?_
      refine V_iload_n rfl dX12_tour_74 rfl rfl ?_
      refine V_bipush (v := 10) rfl dX12_tour_75 kb_10 ?_
      refine V_isub rfl dX12_tour_77 ?_
      replace h := cl_e h
      obtain ⟨w18, M19, hc20, h⟩ := h
      refine V_ii (As := [.int _, .int _]) rfl dX12_tour_78 mf_X12_touredAt ⟨w_1750, w_125⟩ w_1748 (by decide) s0_136 rfl rfl rfl rfl ⟨rfl, rfl⟩ (t_X12_touredAt hc20) ?_
      cases h
      exact V_iret dX12_tour_81 rfl rfl (Nat.le_refl _) (Nat.le_refl _) qI_ok
    · replace h := ifp hc17 h
      refine V_iload_n rfl dX12_tour_68 rfl rfl ?_
      refine V_goto (t := 81) rfl dX12_tour_69 ?_
      cases h
      exact V_iret dX12_tour_81 rfl rfl (Nat.le_refl _) (Nat.le_refl _) qI_ok
  · replace h := ifn hc16 h
    refine V_iconst (v := (-1)) rfl dX12_tour_62 kc_m1 ?_
    cases h
    exact V_iret dX12_tour_63 rfl rfl (Nat.le_refl _) (Nat.le_refl _) qI_ok
def f_X12_tour (p1 : Int32) (p2 : Int32) (M : IM) : IR := pt M 136 0 0 fun M1 => cl (f_X12_isIn p1 2 8 M1) fun w2 M3 => if w2 = 0 then some ((-1), M3) else if p2 = 0 then f_X12_tour_36 p1 p2 M3 else cl (f_X12_isIn p2 10 (9 + p1) M3) fun w7 M8 => if w7 = 0 then some ((-1), M8) else f_X12_tour_36 p1 p2 M8
set_option maxRecDepth 100000 in
set_option maxHeartbeats 4000000 in
theorem t_X12_tour {g : IG} {a : Nat → Nat} {R : Int32 × IM} {p1 : Int32} {p2 : Int32} {M : IM} (h : f_X12_tour p1 p2 M = some R) : Cn g mX12_tour 4 0 0 (qI S0 a R) [.ref (a 136), .int p1, .int p2] a S0 M := by
  refine Cn_of (L := [some (.ref (a 136)), some (.int p1), some (.int p2), none]) mf_X12_tour (cat_r (cat_i (cat_i cat_0))) (Nat.le_of_ble_eq_true rfl) rfl ?_
  unfold f_X12_tour at h
  refine V_aload_n rfl dX12_tour_0 rfl rfl ?_
  refine V_iconst (v := 0) rfl dX12_tour_1 kc_0 ?_
  replace h := pt_e h
  refine V_putf (k0 := 0) (ty := .int) rfl dX12_tour_2 s0_136 icX12 tyX12_ok nmX12 (by decide) rfl w_1189 rfl (tyX12_ok _ (by decide)) rfl rfl ?_
  refine V_aload_n rfl dX12_tour_5 rfl rfl ?_
  refine V_iload_n rfl dX12_tour_6 rfl rfl ?_
  refine V_iconst (v := 2) rfl dX12_tour_7 kc_2 ?_
  refine V_bipush (v := 8) rfl dX12_tour_8 kb_8 ?_
  replace h := cl_e h
  obtain ⟨w2, M3, hc4, h⟩ := h
  refine V_ii (As := [.int _, .int _, .int _]) rfl dX12_tour_10 mf_X12_isIn ⟨w_1367, w_47⟩ w_1365 (by decide) s0_136 rfl rfl rfl rfl ⟨rfl, rfl⟩ (t_X12_isIn hc4) ?_
  refine V_if_eq (t := 34) rfl rfl dX12_tour_13 (fun hc5 => ?_) (fun hc5 => ?_)
  · replace h := ifp hc5 h
    refine V_iconst (v := (-1)) rfl dX12_tour_34 kc_m1 ?_
    cases h
    exact V_iret dX12_tour_35 rfl rfl (Nat.le_refl _) (Nat.le_refl _) qI_ok
  · replace h := ifn hc5 h
    refine V_iload_n rfl dX12_tour_16 rfl rfl ?_
    refine V_if_eq (t := 36) rfl rfl dX12_tour_17 (fun hc6 => ?_) (fun hc6 => ?_)
    · replace h := ifp hc6 h
      exact V_sub (le_s (le_s (le_s (le_n le_0)))) (t_X12_tour_36 h)
    · replace h := ifn hc6 h
      refine V_aload_n rfl dX12_tour_20 rfl rfl ?_
      refine V_iload_n rfl dX12_tour_21 rfl rfl ?_
      refine V_bipush (v := 10) rfl dX12_tour_22 kb_10 ?_
      refine V_bipush (v := 9) rfl dX12_tour_24 kb_9 ?_
      refine V_iload_n rfl dX12_tour_26 rfl rfl ?_
      refine V_iadd rfl dX12_tour_27 ?_
      replace h := cl_e h
      obtain ⟨w7, M8, hc9, h⟩ := h
      refine V_ii (As := [.int _, .int _, .int _]) rfl dX12_tour_28 mf_X12_isIn ⟨w_1367, w_47⟩ w_1365 (by decide) s0_136 rfl rfl rfl rfl ⟨rfl, rfl⟩ (t_X12_isIn hc9) ?_
      refine V_if_ne (t := 36) rfl rfl dX12_tour_31 (fun hc10 => ?_) (fun hc10 => ?_)
      · replace h := ifn hc10 h
        exact V_sub (le_s (le_s (le_s (le_n le_0)))) (t_X12_tour_36 h)
      · replace h := ifp hc10 h
        refine V_iconst (v := (-1)) rfl dX12_tour_34 kc_m1 ?_
        cases h
        exact V_iret dX12_tour_35 rfl rfl (Nat.le_refl _) (Nat.le_refl _) qI_ok
-- X12_hoursOfRound: NeverHaltedModel.hoursOfRound()I
def f_X12_hoursOfRound_4_b (r4 : Int32 → Int32 → IM → IR) (x1 : Int32) (x2 : Int32) (M : IM) : IR := if (M 136 36) ≤ x2 then some (x1, M) else cl (f_X12_ofStone x2 1 M) fun w2 M3 => lt (x1 + w2) fun v5 => lt (x2 + 1) fun v6 => r4 v5 v6 M3
def f_X12_hoursOfRound_4 (n : Nat) : Int32 → Int32 → IM → IR := itr (fun _ _ _ => none) (f_X12_hoursOfRound_4_b) n
set_option maxRecDepth 100000 in
set_option maxHeartbeats 4000000 in
theorem t_X12_hoursOfRound_4 {g : IG} {a : Nat → Nat} {R : Int32 × IM} (n : Nat) : ∀ (x1 : Int32) (x2 : Int32) (M : IM), f_X12_hoursOfRound_4 n x1 x2 M = some R → V g mX12_hoursOfRound 2 0 0 (qI S0 a R) 4 [some (.ref (a 136)), some (.int x1), some (.int x2)] [] a S0 M 0 0 := by
  induction n with
  | zero => intro x1 x2 M h; exact absurd h (fun z => by cases z)
  | succ n hr4 =>
    intro x1 x2 M h
    replace h : f_X12_hoursOfRound_4_b (f_X12_hoursOfRound_4 n) x1 x2 M = some R := h
    unfold f_X12_hoursOfRound_4_b at h
    refine V_iload_n rfl dX12_hoursOfRound_4 rfl rfl ?_
    refine V_aload_n rfl dX12_hoursOfRound_5 rfl rfl ?_
    refine V_geti (k0 := 36) rfl dX12_hoursOfRound_6 s0_136 icX12 (by decide) rfl w_1225 ?_
    refine V_icmp_ge (t := 27) rfl rfl dX12_hoursOfRound_9 (fun hc1 => ?_) (fun hc1 => ?_)
    · replace h := ifp hc1 h
      refine V_iload_n rfl dX12_hoursOfRound_27 rfl rfl ?_
      cases h
      exact V_iret dX12_hoursOfRound_28 rfl rfl (Nat.le_refl _) (Nat.le_refl _) qI_ok
    · replace h := ifn hc1 h
      refine V_iload_n rfl dX12_hoursOfRound_12 rfl rfl ?_
      refine V_aload_n rfl dX12_hoursOfRound_13 rfl rfl ?_
      refine V_iload_n rfl dX12_hoursOfRound_14 rfl rfl ?_
      refine V_iconst (v := 1) rfl dX12_hoursOfRound_15 kc_1 ?_
      replace h := cl_e h
      obtain ⟨w2, M3, hc4, h⟩ := h
      refine V_ii (As := [.int _, .int _]) rfl dX12_hoursOfRound_16 mf_X12_ofStone ⟨w_1571, w_90⟩ w_1569 (by decide) s0_136 rfl rfl rfl rfl ⟨rfl, rfl⟩ (t_X12_ofStone hc4) ?_
      refine V_iadd rfl dX12_hoursOfRound_19 ?_
      replace h := lt_e h
      refine V_istore_n (L' := [_, _, _]) rfl rfl dX12_hoursOfRound_20 (by decide) rfl ?_
      replace h := lt_e h
      refine V_inc (L' := [_, _, _]) rfl dX12_hoursOfRound_21 rfl kc_1 (by decide) rfl ?_
      refine V_goto (t := 4) rfl dX12_hoursOfRound_24 ?_
      exact V_sub (le_s (le_s (le_s le_0))) (hr4 _ _ _ h)
def f_X12_hoursOfRound (M : IM) : IR := f_X12_hoursOfRound_4 BG 0 0 M
set_option maxRecDepth 100000 in
set_option maxHeartbeats 4000000 in
theorem t_X12_hoursOfRound {g : IG} {a : Nat → Nat} {R : Int32 × IM} {M : IM} (h : f_X12_hoursOfRound M = some R) : Cn g mX12_hoursOfRound 2 0 0 (qI S0 a R) [.ref (a 136)] a S0 M := by
  refine Cn_of (L := [some (.ref (a 136)), none, none]) mf_X12_hoursOfRound (cat_r cat_0) (Nat.le_of_ble_eq_true rfl) rfl ?_
  unfold f_X12_hoursOfRound at h
  refine V_iconst (v := 0) rfl dX12_hoursOfRound_0 kc_0 ?_
  refine V_istore_n (L' := [_, _, _]) rfl rfl dX12_hoursOfRound_1 (by decide) rfl ?_
  refine V_iconst (v := 0) rfl dX12_hoursOfRound_2 kc_0 ?_
  refine V_istore_n (L' := [_, _, _]) rfl rfl dX12_hoursOfRound_3 (by decide) rfl ?_
  exact V_sub (le_s (le_s (le_s le_0))) (t_X12_hoursOfRound_4 BG _ _ _ h)
-- X12_placeOf: NeverHaltedModel.placeOf(I)I
def f_X12_placeOf_4_b (r4 : Int32 → Int32 → Int32 → IM → IR) (x1 : Int32) (x2 : Int32) (x3 : Int32) (M : IM) : IR := if x1 ≤ x3 then some (x2, M) else cl (f_X12_ofStone x3 1 M) fun w2 M3 => lt (x2 + w2) fun v5 => lt (x3 + 1) fun v6 => r4 x1 v5 v6 M3
def f_X12_placeOf_4 (n : Nat) : Int32 → Int32 → Int32 → IM → IR := itr (fun _ _ _ _ => none) (f_X12_placeOf_4_b) n
set_option maxRecDepth 100000 in
set_option maxHeartbeats 4000000 in
theorem t_X12_placeOf_4 {g : IG} {a : Nat → Nat} {R : Int32 × IM} (n : Nat) : ∀ (x1 : Int32) (x2 : Int32) (x3 : Int32) (M : IM), f_X12_placeOf_4 n x1 x2 x3 M = some R → V g mX12_placeOf 2 0 0 (qI S0 a R) 4 [some (.ref (a 136)), some (.int x1), some (.int x2), some (.int x3)] [] a S0 M 0 0 := by
  induction n with
  | zero => intro x1 x2 x3 M h; exact absurd h (fun z => by cases z)
  | succ n hr4 =>
    intro x1 x2 x3 M h
    replace h : f_X12_placeOf_4_b (f_X12_placeOf_4 n) x1 x2 x3 M = some R := h
    unfold f_X12_placeOf_4_b at h
    refine V_iload_n rfl dX12_placeOf_4 rfl rfl ?_
    refine V_iload_n rfl dX12_placeOf_5 rfl rfl ?_
    refine V_icmp_ge (t := 24) rfl rfl dX12_placeOf_6 (fun hc1 => ?_) (fun hc1 => ?_)
    · replace h := ifp hc1 h
      refine V_iload_n rfl dX12_placeOf_24 rfl rfl ?_
      cases h
      exact V_iret dX12_placeOf_25 rfl rfl (Nat.le_refl _) (Nat.le_refl _) qI_ok
    · replace h := ifn hc1 h
      refine V_iload_n rfl dX12_placeOf_9 rfl rfl ?_
      refine V_aload_n rfl dX12_placeOf_10 rfl rfl ?_
      refine V_iload_n rfl dX12_placeOf_11 rfl rfl ?_
      refine V_iconst (v := 1) rfl dX12_placeOf_12 kc_1 ?_
      replace h := cl_e h
      obtain ⟨w2, M3, hc4, h⟩ := h
      refine V_ii (As := [.int _, .int _]) rfl dX12_placeOf_13 mf_X12_ofStone ⟨w_1571, w_90⟩ w_1569 (by decide) s0_136 rfl rfl rfl rfl ⟨rfl, rfl⟩ (t_X12_ofStone hc4) ?_
      refine V_iadd rfl dX12_placeOf_16 ?_
      replace h := lt_e h
      refine V_istore_n (L' := [_, _, _, _]) rfl rfl dX12_placeOf_17 (by decide) rfl ?_
      replace h := lt_e h
      refine V_inc (L' := [_, _, _, _]) rfl dX12_placeOf_18 rfl kc_1 (by decide) rfl ?_
      refine V_goto (t := 4) rfl dX12_placeOf_21 ?_
      exact V_sub (le_s (le_s (le_s (le_s le_0)))) (hr4 _ _ _ _ h)
def f_X12_placeOf (p1 : Int32) (M : IM) : IR := f_X12_placeOf_4 BG p1 0 0 M
set_option maxRecDepth 100000 in
set_option maxHeartbeats 4000000 in
theorem t_X12_placeOf {g : IG} {a : Nat → Nat} {R : Int32 × IM} {p1 : Int32} {M : IM} (h : f_X12_placeOf p1 M = some R) : Cn g mX12_placeOf 2 0 0 (qI S0 a R) [.ref (a 136), .int p1] a S0 M := by
  refine Cn_of (L := [some (.ref (a 136)), some (.int p1), none, none]) mf_X12_placeOf (cat_r (cat_i cat_0)) (Nat.le_of_ble_eq_true rfl) rfl ?_
  unfold f_X12_placeOf at h
  refine V_iconst (v := 0) rfl dX12_placeOf_0 kc_0 ?_
  refine V_istore_n (L' := [_, _, _, _]) rfl rfl dX12_placeOf_1 (by decide) rfl ?_
  refine V_iconst (v := 0) rfl dX12_placeOf_2 kc_0 ?_
  refine V_istore_n (L' := [_, _, _, _]) rfl rfl dX12_placeOf_3 (by decide) rfl ?_
  exact V_sub (le_s (le_s (le_s (le_s le_0)))) (t_X12_placeOf_4 BG _ _ _ _ h)
-- X12_placeNow: NeverHaltedModel.placeNow()I
def f_X12_placeNow (M : IM) : IR := rd M 137 40 3 fun v1 => cl (f_X12_placeOf v1 M) fun w3 M4 => rd M4 137 40 4 fun v6 => some ((w3 + v6), M4)
set_option maxRecDepth 100000 in
set_option maxHeartbeats 4000000 in
theorem t_X12_placeNow {g : IG} {a : Nat → Nat} {R : Int32 × IM} {M : IM} (h : f_X12_placeNow M = some R) : Cn g mX12_placeNow 3 0 0 (qI S0 a R) [.ref (a 136)] a S0 M := by
  refine Cn_of (L := [some (.ref (a 136))]) mf_X12_placeNow (cat_r cat_0) (Nat.le_of_ble_eq_true rfl) rfl ?_
  unfold f_X12_placeNow at h
  refine V_aload_n rfl dX12_placeNow_0 rfl rfl ?_
  refine V_aload_n rfl dX12_placeNow_1 rfl rfl ?_
  refine V_getr (k0 := 1) rfl dX12_placeNow_2 s0_136 icX12 (by decide) rfl w_1190 ?_
  refine V_iconst (v := 3) rfl dX12_placeNow_5 kc_3 ?_
  replace h := rd_e h
  obtain ⟨hb2, h⟩ := h
  refine V_iald rfl dX12_placeNow_6 s0_137 hb2 ?_
  replace h := cl_e h
  obtain ⟨w3, M4, hc5, h⟩ := h
  refine V_ii (As := [.int _]) rfl dX12_placeNow_7 mf_X12_placeOf ⟨w_1766, w_128⟩ w_1764 (by decide) s0_136 rfl rfl rfl rfl ⟨rfl, rfl⟩ (t_X12_placeOf hc5) ?_
  refine V_aload_n rfl dX12_placeNow_10 rfl rfl ?_
  refine V_getr (k0 := 1) rfl dX12_placeNow_11 s0_136 icX12 (by decide) rfl w_1190 ?_
  refine V_iconst (v := 4) rfl dX12_placeNow_14 kc_4 ?_
  replace h := rd_e h
  obtain ⟨hb7, h⟩ := h
  refine V_iald rfl dX12_placeNow_15 s0_137 hb7 ?_
  refine V_iadd rfl dX12_placeNow_16 ?_
  cases h
  exact V_iret dX12_placeNow_17 rfl rfl (Nat.le_refl _) (Nat.le_refl _) qI_ok
-- X12_meets: NeverHaltedModel.meets(III)I
def f_X12_meets_67_b (r67 : Int32 → Int32 → Int32 → Int32 → Int32 → IM → IR) (x2 : Int32) (x3 : Int32) (x4 : Int32) (x5 : Int32) (x6 : Int32) (M : IM) : IR := if x2 ≤ x6 then some ((-1), M) else dv x2 <| if (x5 - x5 / x2 * x2) = x3 then some (x5, M) else lt (x5 + x4) fun v25 => lt (x6 + 1) fun v26 => r67 x2 x3 x4 v25 v26 M
def f_X12_meets_67 (n : Nat) : Int32 → Int32 → Int32 → Int32 → Int32 → IM → IR := itr (fun _ _ _ _ _ _ => none) (f_X12_meets_67_b) n
set_option maxRecDepth 100000 in
set_option maxHeartbeats 4000000 in
theorem t_X12_meets_67 {g : IG} {a : Nat → Nat} {R : Int32 × IM} (n : Nat) : ∀ (x2 : Int32) (x3 : Int32) (x4 : Int32) (x5 : Int32) (x6 : Int32) (M : IM), f_X12_meets_67 n x2 x3 x4 x5 x6 M = some R → V g mX12_meets 4 0 0 (qI S0 a R) 67 [none, none, some (.int x2), some (.int x3), some (.int x4), some (.int x5), some (.int x6)] [] a S0 M 0 0 := by
  induction n with
  | zero => intro x2 x3 x4 x5 x6 M h; exact absurd h (fun z => by cases z)
  | succ n hr67 =>
    intro x2 x3 x4 x5 x6 M h
    replace h : f_X12_meets_67_b (f_X12_meets_67 n) x2 x3 x4 x5 x6 M = some R := h
    unfold f_X12_meets_67_b at h
    refine V_iload rfl dX12_meets_67 rfl ?_
    refine V_iload_n rfl dX12_meets_69 rfl rfl ?_
    refine V_icmp_ge (t := 97) rfl rfl dX12_meets_70 (fun hc22 => ?_) (fun hc22 => ?_)
    · replace h := ifp hc22 h
      refine V_iconst (v := (-1)) rfl dX12_meets_97 kc_m1 ?_
      cases h
      exact V_iret dX12_meets_98 rfl rfl (Nat.le_refl _) (Nat.le_refl _) qI_ok
    · replace h := ifn hc22 h
      refine V_iload rfl dX12_meets_73 rfl ?_
      refine V_iload_n rfl dX12_meets_75 rfl rfl ?_
      replace h := dv_e h
      obtain ⟨hz23, h⟩ := h
      refine V_irem rfl dX12_meets_76 hz23 ?_
      refine V_iload_n rfl dX12_meets_77 rfl rfl ?_
      refine V_icmp_ne (t := 84) rfl rfl dX12_meets_78 (fun hc24 => ?_) (fun hc24 => ?_)
      · replace h := ifn hc24 h
        refine V_iload rfl dX12_meets_84 rfl ?_
        refine V_iload rfl dX12_meets_86 rfl ?_
        refine V_iadd rfl dX12_meets_88 ?_
        replace h := lt_e h
        refine V_istore (L' := [_, _, _, _, _, _, _]) rfl dX12_meets_89 (by decide) rfl ?_
        replace h := lt_e h
        refine V_inc (L' := [_, _, _, _, _, _, _]) rfl dX12_meets_91 rfl kc_1 (by decide) rfl ?_
        refine V_goto (t := 67) rfl dX12_meets_94 ?_
        exact V_sub (le_n (le_n (le_s (le_s (le_s (le_s (le_s le_0))))))) (hr67 _ _ _ _ _ _ h)
      · replace h := ifp hc24 h
        refine V_iload rfl dX12_meets_81 rfl ?_
        cases h
        exact V_iret dX12_meets_83 rfl rfl (Nat.le_refl _) (Nat.le_refl _) qI_ok
def f_X12_meets (p1 : Int32) (p2 : Int32) (p3 : Int32) (M : IM) : IR := pt M 136 0 0 fun M1 => cl (f_X12_hoursOfRound M1) fun w2 M3 => cl (f_X12_isIn p1 0 (w2 - 1) M3) fun w5 M6 => if w5 = 0 then some ((-1), M6) else cl (f_X12_isIn p2 1 999 M6) fun w9 M10 => if w9 = 0 then some ((-1), M10) else cl (f_X12_isIn p3 0 (p2 - 1) M10) fun w13 M14 => if w13 = 0 then some ((-1), M14) else cl (f_X12_placeNow M14) fun w17 M18 => dv w2 <| lt (((p1 - w17) + w2) - ((p1 - w17) + w2) / w2 * w2) fun v21 => f_X12_meets_67 BG p2 p3 w2 v21 0 M18
set_option maxRecDepth 100000 in
set_option maxHeartbeats 4000000 in
theorem t_X12_meets {g : IG} {a : Nat → Nat} {R : Int32 × IM} {p1 : Int32} {p2 : Int32} {p3 : Int32} {M : IM} (h : f_X12_meets p1 p2 p3 M = some R) : Cn g mX12_meets 4 0 0 (qI S0 a R) [.ref (a 136), .int p1, .int p2, .int p3] a S0 M := by
  refine Cn_of (L := [some (.ref (a 136)), some (.int p1), some (.int p2), some (.int p3), none, none, none]) mf_X12_meets (cat_r (cat_i (cat_i (cat_i cat_0)))) (Nat.le_of_ble_eq_true rfl) rfl ?_
  unfold f_X12_meets at h
  refine V_aload_n rfl dX12_meets_0 rfl rfl ?_
  refine V_iconst (v := 0) rfl dX12_meets_1 kc_0 ?_
  replace h := pt_e h
  refine V_putf (k0 := 0) (ty := .int) rfl dX12_meets_2 s0_136 icX12 tyX12_ok nmX12 (by decide) rfl w_1189 rfl (tyX12_ok _ (by decide)) rfl rfl ?_
  refine V_aload_n rfl dX12_meets_5 rfl rfl ?_
  replace h := cl_e h
  obtain ⟨w2, M3, hc4, h⟩ := h
  refine V_ii (As := []) rfl dX12_meets_6 mf_X12_hoursOfRound ⟨w_1758, w_126⟩ w_1756 (by decide) s0_136 rfl rfl rfl rfl ⟨rfl, rfl⟩ (t_X12_hoursOfRound hc4) ?_
  refine V_istore (L' := [_, _, _, _, _, _, _]) rfl dX12_meets_9 (by decide) rfl ?_
  refine V_aload_n rfl dX12_meets_11 rfl rfl ?_
  refine V_iload_n rfl dX12_meets_12 rfl rfl ?_
  refine V_iconst (v := 0) rfl dX12_meets_13 kc_0 ?_
  refine V_iload rfl dX12_meets_14 rfl ?_
  refine V_iconst (v := 1) rfl dX12_meets_16 kc_1 ?_
  refine V_isub rfl dX12_meets_17 ?_
  replace h := cl_e h
  obtain ⟨w5, M6, hc7, h⟩ := h
  refine V_ii (As := [.int _, .int _, .int _]) rfl dX12_meets_18 mf_X12_isIn ⟨w_1367, w_47⟩ w_1365 (by decide) s0_136 rfl rfl rfl rfl ⟨rfl, rfl⟩ (t_X12_isIn hc7) ?_
  refine V_if_eq (t := 48) rfl rfl dX12_meets_21 (fun hc8 => ?_) (fun hc8 => ?_)
  · replace h := ifp hc8 h
    refine V_iconst (v := (-1)) rfl dX12_meets_48 kc_m1 ?_
    cases h
    exact V_iret dX12_meets_49 rfl rfl (Nat.le_refl _) (Nat.le_refl _) qI_ok
  · replace h := ifn hc8 h
    refine V_aload_n rfl dX12_meets_24 rfl rfl ?_
    refine V_iload_n rfl dX12_meets_25 rfl rfl ?_
    refine V_iconst (v := 1) rfl dX12_meets_26 kc_1 ?_
    refine V_sipush (v := 999) rfl dX12_meets_27 ks_999 ?_
    replace h := cl_e h
    obtain ⟨w9, M10, hc11, h⟩ := h
    refine V_ii (As := [.int _, .int _, .int _]) rfl dX12_meets_30 mf_X12_isIn ⟨w_1367, w_47⟩ w_1365 (by decide) s0_136 rfl rfl rfl rfl ⟨rfl, rfl⟩ (t_X12_isIn hc11) ?_
    refine V_if_eq (t := 48) rfl rfl dX12_meets_33 (fun hc12 => ?_) (fun hc12 => ?_)
    · replace h := ifp hc12 h
      refine V_iconst (v := (-1)) rfl dX12_meets_48 kc_m1 ?_
      cases h
      exact V_iret dX12_meets_49 rfl rfl (Nat.le_refl _) (Nat.le_refl _) qI_ok
    · replace h := ifn hc12 h
      refine V_aload_n rfl dX12_meets_36 rfl rfl ?_
      refine V_iload_n rfl dX12_meets_37 rfl rfl ?_
      refine V_iconst (v := 0) rfl dX12_meets_38 kc_0 ?_
      refine V_iload_n rfl dX12_meets_39 rfl rfl ?_
      refine V_iconst (v := 1) rfl dX12_meets_40 kc_1 ?_
      refine V_isub rfl dX12_meets_41 ?_
      replace h := cl_e h
      obtain ⟨w13, M14, hc15, h⟩ := h
      refine V_ii (As := [.int _, .int _, .int _]) rfl dX12_meets_42 mf_X12_isIn ⟨w_1367, w_47⟩ w_1365 (by decide) s0_136 rfl rfl rfl rfl ⟨rfl, rfl⟩ (t_X12_isIn hc15) ?_
      refine V_if_ne (t := 50) rfl rfl dX12_meets_45 (fun hc16 => ?_) (fun hc16 => ?_)
      · replace h := ifn hc16 h
        refine V_iload_n rfl dX12_meets_50 rfl rfl ?_
        refine V_aload_n rfl dX12_meets_51 rfl rfl ?_
        replace h := cl_e h
        obtain ⟨w17, M18, hc19, h⟩ := h
        refine V_ii (As := []) rfl dX12_meets_52 mf_X12_placeNow ⟨w_1762, w_127⟩ w_1760 (by decide) s0_136 rfl rfl rfl rfl ⟨rfl, rfl⟩ (t_X12_placeNow hc19) ?_
        refine V_isub rfl dX12_meets_55 ?_
        refine V_iload rfl dX12_meets_56 rfl ?_
        refine V_iadd rfl dX12_meets_58 ?_
        refine V_iload rfl dX12_meets_59 rfl ?_
        replace h := dv_e h
        obtain ⟨hz20, h⟩ := h
        refine V_irem rfl dX12_meets_61 hz20 ?_
        replace h := lt_e h
        refine V_istore (L' := [_, _, _, _, _, _, _]) rfl dX12_meets_62 (by decide) rfl ?_
        refine V_iconst (v := 0) rfl dX12_meets_64 kc_0 ?_
        refine V_istore (L' := [_, _, _, _, _, _, _]) rfl dX12_meets_65 (by decide) rfl ?_
        exact V_sub (le_n (le_n (le_s (le_s (le_s (le_s (le_s le_0))))))) (t_X12_meets_67 BG _ _ _ _ _ _ h)
      · replace h := ifp hc16 h
        refine V_iconst (v := (-1)) rfl dX12_meets_48 kc_m1 ?_
        cases h
        exact V_iret dX12_meets_49 rfl rfl (Nat.le_refl _) (Nat.le_refl _) qI_ok
-- X12_sees: NeverHaltedModel.sees(III)I
def f_X12_sees_132 (r60 : Int32 → Int32 → Int32 → Int32 → Int32 → Int32 → Int32 → IM → IR) (x1 : Int32) (x2 : Int32) (x3 : Int32) (x4 : Int32) (x5 : Int32) (x6 : Int32) (x7 : Int32) (x8 : Int32) (M : IM) : IR := if x8 < x6 then lt (x7 + 1) fun v42 => r60 x1 x2 x3 x4 x7 x8 v42 M else lt (x7 + 1) fun v43 => r60 x1 x2 x3 x4 x5 x6 v43 M
set_option maxRecDepth 100000 in
set_option maxHeartbeats 4000000 in
theorem t_X12_sees_132 {g : IG} {a : Nat → Nat} {R : Int32 × IM} {r60 : Int32 → Int32 → Int32 → Int32 → Int32 → Int32 → Int32 → IM → IR} {x1 : Int32} {x2 : Int32} {x3 : Int32} {x4 : Int32} {x5 : Int32} {x6 : Int32} {x7 : Int32} {x8 : Int32} {M : IM} (hr60 : ∀ (x1 : Int32) (x2 : Int32) (x3 : Int32) (x4 : Int32) (x5 : Int32) (x6 : Int32) (x7 : Int32) (M : IM), r60 x1 x2 x3 x4 x5 x6 x7 M = some R → V g mX12_sees 4 0 0 (qI S0 a R) 60 [some (.ref (a 136)), some (.int x1), some (.int x2), some (.int x3), some (.int x4), some (.int x5), some (.int x6), some (.int x7), none, none] [] a S0 M 0 0) (h : f_X12_sees_132 r60 x1 x2 x3 x4 x5 x6 x7 x8 M = some R) : V g mX12_sees 4 0 0 (qI S0 a R) 132 [some (.ref (a 136)), some (.int x1), some (.int x2), some (.int x3), some (.int x4), some (.int x5), some (.int x6), some (.int x7), some (.int x8), none] [] a S0 M 0 0 := by
  unfold f_X12_sees_132 at h
  refine V_iload rfl dX12_sees_132 rfl ?_
  refine V_iload rfl dX12_sees_134 rfl ?_
  refine V_icmp_lt (t := 142) rfl rfl dX12_sees_136 (fun hc41 => ?_) (fun hc41 => ?_)
  · replace h := ifp hc41 h
    refine V_iload rfl dX12_sees_142 rfl ?_
    refine V_istore (L' := [_, _, _, _, _, _, _, _, _, _]) rfl dX12_sees_144 (by decide) rfl ?_
    refine V_iload rfl dX12_sees_146 rfl ?_
    refine V_istore (L' := [_, _, _, _, _, _, _, _, _, _]) rfl dX12_sees_148 (by decide) rfl ?_
    replace h := lt_e h
    refine V_inc (L' := [_, _, _, _, _, _, _, _, _, _]) rfl dX12_sees_150 rfl kc_1 (by decide) rfl ?_
    refine V_goto (t := 60) rfl dX12_sees_153 ?_
    exact V_sub (le_s (le_s (le_s (le_s (le_s (le_s (le_s (le_s (le_n (le_n le_0)))))))))) (hr60 _ _ _ _ _ _ _ _ h)
  · replace h := ifn hc41 h
    refine V_goto (t := 150) rfl dX12_sees_139 ?_
    replace h := lt_e h
    refine V_inc (L' := [_, _, _, _, _, _, _, _, _, _]) rfl dX12_sees_150 rfl kc_1 (by decide) rfl ?_
    refine V_goto (t := 60) rfl dX12_sees_153 ?_
    exact V_sub (le_s (le_s (le_s (le_s (le_s (le_s (le_s (le_s (le_n (le_n le_0)))))))))) (hr60 _ _ _ _ _ _ _ _ h)
def f_X12_sees_60_b (r60 : Int32 → Int32 → Int32 → Int32 → Int32 → Int32 → Int32 → IM → IR) (x1 : Int32) (x2 : Int32) (x3 : Int32) (x4 : Int32) (x5 : Int32) (x6 : Int32) (x7 : Int32) (M : IM) : IR := if (M 136 36) ≤ x7 then if x3 = 0 then some (x5, M) else some (x6, M) else cl (f_X12_placeOf x7 M) fun w19 M20 => cl (f_X12_placeNow M20) fun w22 M23 => dv x4 <| lt (((w19 - w22) + x4) - ((w19 - w22) + x4) / x4 * x4) fun v26 => cl (f_X12_placeOf x7 M23) fun w27 M28 => cl (f_X12_placeOf x1 M28) fun w30 M31 => dv x4 <| lt (((w27 - w30) + x4) - ((w27 - w30) + x4) / x4 * x4) fun v34 => cl (f_X12_lesser v34 (x4 - v34) M31) fun w35 M36 => if (x2 * w35) ≤ v26 then f_X12_sees_132 r60 x1 x2 x3 x4 x5 x6 x7 v26 M36 else if x7 = x1 then f_X12_sees_132 r60 x1 x2 x3 x4 x5 x6 x7 v26 M36 else lt (x7 + 1) fun v40 => r60 x1 x2 x3 x4 x5 x6 v40 M36
def f_X12_sees_60 (n : Nat) : Int32 → Int32 → Int32 → Int32 → Int32 → Int32 → Int32 → IM → IR := itr (fun _ _ _ _ _ _ _ _ => none) (f_X12_sees_60_b) n
set_option maxRecDepth 100000 in
set_option maxHeartbeats 4000000 in
theorem t_X12_sees_60 {g : IG} {a : Nat → Nat} {R : Int32 × IM} (n : Nat) : ∀ (x1 : Int32) (x2 : Int32) (x3 : Int32) (x4 : Int32) (x5 : Int32) (x6 : Int32) (x7 : Int32) (M : IM), f_X12_sees_60 n x1 x2 x3 x4 x5 x6 x7 M = some R → V g mX12_sees 4 0 0 (qI S0 a R) 60 [some (.ref (a 136)), some (.int x1), some (.int x2), some (.int x3), some (.int x4), some (.int x5), some (.int x6), some (.int x7), none, none] [] a S0 M 0 0 := by
  induction n with
  | zero => intro x1 x2 x3 x4 x5 x6 x7 M h; exact absurd h (fun z => by cases z)
  | succ n hr60 =>
    intro x1 x2 x3 x4 x5 x6 x7 M h
    replace h : f_X12_sees_60_b (f_X12_sees_60 n) x1 x2 x3 x4 x5 x6 x7 M = some R := h
    unfold f_X12_sees_60_b at h
    refine V_iload rfl dX12_sees_60 rfl ?_
    refine V_aload_n rfl dX12_sees_62 rfl rfl ?_
    refine V_geti (k0 := 36) rfl dX12_sees_63 s0_136 icX12 (by decide) rfl w_1225 ?_
    refine V_icmp_ge (t := 156) rfl rfl dX12_sees_66 (fun hc17 => ?_) (fun hc17 => ?_)
    · replace h := ifp hc17 h
      refine V_iload_n rfl dX12_sees_156 rfl rfl ?_
      refine V_if_ne (t := 165) rfl rfl dX12_sees_157 (fun hc18 => ?_) (fun hc18 => ?_)
      · replace h := ifn hc18 h
        refine V_iload rfl dX12_sees_165 rfl ?_
        cases h
        exact V_iret dX12_sees_167 rfl rfl (Nat.le_refl _) (Nat.le_refl _) qI_ok
      · replace h := ifp hc18 h
        refine V_iload rfl dX12_sees_160 rfl ?_
        refine V_goto (t := 167) rfl dX12_sees_162 ?_
        cases h
        exact V_iret dX12_sees_167 rfl rfl (Nat.le_refl _) (Nat.le_refl _) qI_ok
    · replace h := ifn hc17 h
      refine V_aload_n rfl dX12_sees_69 rfl rfl ?_
      refine V_iload rfl dX12_sees_70 rfl ?_
      replace h := cl_e h
      obtain ⟨w19, M20, hc21, h⟩ := h
      refine V_ii (As := [.int _]) rfl dX12_sees_72 mf_X12_placeOf ⟨w_1766, w_128⟩ w_1764 (by decide) s0_136 rfl rfl rfl rfl ⟨rfl, rfl⟩ (t_X12_placeOf hc21) ?_
      refine V_aload_n rfl dX12_sees_75 rfl rfl ?_
      replace h := cl_e h
      obtain ⟨w22, M23, hc24, h⟩ := h
      refine V_ii (As := []) rfl dX12_sees_76 mf_X12_placeNow ⟨w_1762, w_127⟩ w_1760 (by decide) s0_136 rfl rfl rfl rfl ⟨rfl, rfl⟩ (t_X12_placeNow hc24) ?_
      refine V_isub rfl dX12_sees_79 ?_
      refine V_iload rfl dX12_sees_80 rfl ?_
      refine V_iadd rfl dX12_sees_82 ?_
      refine V_iload rfl dX12_sees_83 rfl ?_
      replace h := dv_e h
      obtain ⟨hz25, h⟩ := h
      refine V_irem rfl dX12_sees_85 hz25 ?_
      replace h := lt_e h
      refine V_istore (L' := [_, _, _, _, _, _, _, _, _, _]) rfl dX12_sees_86 (by decide) rfl ?_
      refine V_aload_n rfl dX12_sees_88 rfl rfl ?_
      refine V_iload rfl dX12_sees_89 rfl ?_
      replace h := cl_e h
      obtain ⟨w27, M28, hc29, h⟩ := h
      refine V_ii (As := [.int _]) rfl dX12_sees_91 mf_X12_placeOf ⟨w_1766, w_128⟩ w_1764 (by decide) s0_136 rfl rfl rfl rfl ⟨rfl, rfl⟩ (t_X12_placeOf hc29) ?_
      refine V_aload_n rfl dX12_sees_94 rfl rfl ?_
      refine V_iload_n rfl dX12_sees_95 rfl rfl ?_
      replace h := cl_e h
      obtain ⟨w30, M31, hc32, h⟩ := h
      refine V_ii (As := [.int _]) rfl dX12_sees_96 mf_X12_placeOf ⟨w_1766, w_128⟩ w_1764 (by decide) s0_136 rfl rfl rfl rfl ⟨rfl, rfl⟩ (t_X12_placeOf hc32) ?_
      refine V_isub rfl dX12_sees_99 ?_
      refine V_iload rfl dX12_sees_100 rfl ?_
      refine V_iadd rfl dX12_sees_102 ?_
      refine V_iload rfl dX12_sees_103 rfl ?_
      replace h := dv_e h
      obtain ⟨hz33, h⟩ := h
      refine V_irem rfl dX12_sees_105 hz33 ?_
      replace h := lt_e h
      refine V_istore (L' := [_, _, _, _, _, _, _, _, _, _]) rfl dX12_sees_106 (by decide) rfl ?_
      refine V_iload_n rfl dX12_sees_108 rfl rfl ?_
      refine V_aload_n rfl dX12_sees_109 rfl rfl ?_
      refine V_iload rfl dX12_sees_110 rfl ?_
      refine V_iload rfl dX12_sees_112 rfl ?_
      refine V_iload rfl dX12_sees_114 rfl ?_
      refine V_isub rfl dX12_sees_116 ?_
      replace h := cl_e h
      obtain ⟨w35, M36, hc37, h⟩ := h
      refine V_ii (As := [.int _, .int _]) rfl dX12_sees_117 mf_X12_lesser ⟨w_1637, w_106⟩ w_1635 (by decide) s0_136 rfl rfl rfl rfl ⟨rfl, rfl⟩ (t_X12_lesser hc37) ?_
      refine V_imul rfl dX12_sees_120 ?_
      refine V_iload rfl dX12_sees_121 rfl ?_
      refine V_icmp_le (t := 132) rfl rfl dX12_sees_123 (fun hc38 => ?_) (fun hc38 => ?_)
      · replace h := ifp hc38 h
        exact V_sub (le_s (le_s (le_s (le_s (le_s (le_s (le_s (le_s (le_s (le_n le_0)))))))))) (t_X12_sees_132 hr60 h)
      · replace h := ifn hc38 h
        refine V_iload rfl dX12_sees_126 rfl ?_
        refine V_iload_n rfl dX12_sees_128 rfl rfl ?_
        refine V_icmp_ne (t := 150) rfl rfl dX12_sees_129 (fun hc39 => ?_) (fun hc39 => ?_)
        · replace h := ifn hc39 h
          replace h := lt_e h
          refine V_inc (L' := [_, _, _, _, _, _, _, _, _, _]) rfl dX12_sees_150 rfl kc_1 (by decide) rfl ?_
          refine V_goto (t := 60) rfl dX12_sees_153 ?_
          exact V_sub (le_s (le_s (le_s (le_s (le_s (le_s (le_s (le_s (le_n (le_n le_0)))))))))) (hr60 _ _ _ _ _ _ _ _ h)
        · replace h := ifp hc39 h
          exact V_sub (le_s (le_s (le_s (le_s (le_s (le_s (le_s (le_s (le_s (le_n le_0)))))))))) (t_X12_sees_132 hr60 h)
def f_X12_sees (p1 : Int32) (p2 : Int32) (p3 : Int32) (M : IM) : IR := pt M 136 0 0 fun M1 => cl (f_X12_isIn p1 0 ((M1 136 36) - 1) M1) fun w2 M3 => if w2 = 0 then some ((-1), M3) else cl (f_X12_isIn p2 1 9 M3) fun w6 M7 => if w6 = 0 then some ((-1), M7) else cl (f_X12_isIn p3 0 1 M7) fun w10 M11 => if w10 = 0 then some ((-1), M11) else cl (f_X12_hoursOfRound M11) fun w14 M15 => f_X12_sees_60 BG p1 p2 p3 w14 (-1) 1000000 0 M15
set_option maxRecDepth 100000 in
set_option maxHeartbeats 4000000 in
theorem t_X12_sees {g : IG} {a : Nat → Nat} {R : Int32 × IM} {p1 : Int32} {p2 : Int32} {p3 : Int32} {M : IM} (h : f_X12_sees p1 p2 p3 M = some R) : Cn g mX12_sees 4 0 0 (qI S0 a R) [.ref (a 136), .int p1, .int p2, .int p3] a S0 M := by
  refine Cn_of (L := [some (.ref (a 136)), some (.int p1), some (.int p2), some (.int p3), none, none, none, none, none, none]) mf_X12_sees (cat_r (cat_i (cat_i (cat_i cat_0)))) (Nat.le_of_ble_eq_true rfl) rfl ?_
  unfold f_X12_sees at h
  refine V_aload_n rfl dX12_sees_0 rfl rfl ?_
  refine V_iconst (v := 0) rfl dX12_sees_1 kc_0 ?_
  replace h := pt_e h
  refine V_putf (k0 := 0) (ty := .int) rfl dX12_sees_2 s0_136 icX12 tyX12_ok nmX12 (by decide) rfl w_1189 rfl (tyX12_ok _ (by decide)) rfl rfl ?_
  refine V_aload_n rfl dX12_sees_5 rfl rfl ?_
  refine V_iload_n rfl dX12_sees_6 rfl rfl ?_
  refine V_iconst (v := 0) rfl dX12_sees_7 kc_0 ?_
  refine V_aload_n rfl dX12_sees_8 rfl rfl ?_
  refine V_geti (k0 := 36) rfl dX12_sees_9 s0_136 icX12 (by decide) rfl w_1225 ?_
  refine V_iconst (v := 1) rfl dX12_sees_12 kc_1 ?_
  refine V_isub rfl dX12_sees_13 ?_
  replace h := cl_e h
  obtain ⟨w2, M3, hc4, h⟩ := h
  refine V_ii (As := [.int _, .int _, .int _]) rfl dX12_sees_14 mf_X12_isIn ⟨w_1367, w_47⟩ w_1365 (by decide) s0_136 rfl rfl rfl rfl ⟨rfl, rfl⟩ (t_X12_isIn hc4) ?_
  refine V_if_eq (t := 41) rfl rfl dX12_sees_17 (fun hc5 => ?_) (fun hc5 => ?_)
  · replace h := ifp hc5 h
    refine V_iconst (v := (-1)) rfl dX12_sees_41 kc_m1 ?_
    cases h
    exact V_iret dX12_sees_42 rfl rfl (Nat.le_refl _) (Nat.le_refl _) qI_ok
  · replace h := ifn hc5 h
    refine V_aload_n rfl dX12_sees_20 rfl rfl ?_
    refine V_iload_n rfl dX12_sees_21 rfl rfl ?_
    refine V_iconst (v := 1) rfl dX12_sees_22 kc_1 ?_
    refine V_bipush (v := 9) rfl dX12_sees_23 kb_9 ?_
    replace h := cl_e h
    obtain ⟨w6, M7, hc8, h⟩ := h
    refine V_ii (As := [.int _, .int _, .int _]) rfl dX12_sees_25 mf_X12_isIn ⟨w_1367, w_47⟩ w_1365 (by decide) s0_136 rfl rfl rfl rfl ⟨rfl, rfl⟩ (t_X12_isIn hc8) ?_
    refine V_if_eq (t := 41) rfl rfl dX12_sees_28 (fun hc9 => ?_) (fun hc9 => ?_)
    · replace h := ifp hc9 h
      refine V_iconst (v := (-1)) rfl dX12_sees_41 kc_m1 ?_
      cases h
      exact V_iret dX12_sees_42 rfl rfl (Nat.le_refl _) (Nat.le_refl _) qI_ok
    · replace h := ifn hc9 h
      refine V_aload_n rfl dX12_sees_31 rfl rfl ?_
      refine V_iload_n rfl dX12_sees_32 rfl rfl ?_
      refine V_iconst (v := 0) rfl dX12_sees_33 kc_0 ?_
      refine V_iconst (v := 1) rfl dX12_sees_34 kc_1 ?_
      replace h := cl_e h
      obtain ⟨w10, M11, hc12, h⟩ := h
      refine V_ii (As := [.int _, .int _, .int _]) rfl dX12_sees_35 mf_X12_isIn ⟨w_1367, w_47⟩ w_1365 (by decide) s0_136 rfl rfl rfl rfl ⟨rfl, rfl⟩ (t_X12_isIn hc12) ?_
      refine V_if_ne (t := 43) rfl rfl dX12_sees_38 (fun hc13 => ?_) (fun hc13 => ?_)
      · replace h := ifn hc13 h
        refine V_aload_n rfl dX12_sees_43 rfl rfl ?_
        replace h := cl_e h
        obtain ⟨w14, M15, hc16, h⟩ := h
        refine V_ii (As := []) rfl dX12_sees_44 mf_X12_hoursOfRound ⟨w_1758, w_126⟩ w_1756 (by decide) s0_136 rfl rfl rfl rfl ⟨rfl, rfl⟩ (t_X12_hoursOfRound hc16) ?_
        refine V_istore (L' := [_, _, _, _, _, _, _, _, _, _]) rfl dX12_sees_47 (by decide) rfl ?_
        refine V_iconst (v := (-1)) rfl dX12_sees_49 kc_m1 ?_
        refine V_istore (L' := [_, _, _, _, _, _, _, _, _, _]) rfl dX12_sees_50 (by decide) rfl ?_
        refine V_ldcw (v := 1000000) rfl dX12_sees_52 w_1711 ?_
        refine V_istore (L' := [_, _, _, _, _, _, _, _, _, _]) rfl dX12_sees_55 (by decide) rfl ?_
        refine V_iconst (v := 0) rfl dX12_sees_57 kc_0 ?_
        refine V_istore (L' := [_, _, _, _, _, _, _, _, _, _]) rfl dX12_sees_58 (by decide) rfl ?_
        exact V_sub (le_s (le_s (le_s (le_s (le_s (le_s (le_s (le_s (le_n (le_n le_0)))))))))) (t_X12_sees_60 BG _ _ _ _ _ _ _ _ h)
      · replace h := ifp hc13 h
        refine V_iconst (v := (-1)) rfl dX12_sees_41 kc_m1 ?_
        cases h
        exact V_iret dX12_sees_42 rfl rfl (Nat.le_refl _) (Nat.le_refl _) qI_ok
-- X12_feetBy: NeverHaltedModel.feetBy(III)I
def f_X12_feetBy_124 (r3 : Int32 → Int32 → Int32 → Int32 → IM → IR) (x1 : Int32) (x2 : Int32) (x3 : Int32) (x4 : Int32) (y1 : Int32) (y2 : Int32) (M : IM) : IR := wr M 137 40 y1 y2 fun M33 => rd M33 137 40 0 fun v35 => wr M33 137 40 0 (v35 + 1) fun M37 => lt (x4 + 1) fun v39 => r3 x1 x2 x3 v39 M37
set_option maxRecDepth 100000 in
set_option maxHeartbeats 4000000 in
theorem t_X12_feetBy_124 {g : IG} {a : Nat → Nat} {R : Int32 × IM} {r3 : Int32 → Int32 → Int32 → Int32 → IM → IR} {x1 : Int32} {x2 : Int32} {x3 : Int32} {x4 : Int32} {y1 : Int32} {y2 : Int32} {M : IM} (hr3 : ∀ (x1 : Int32) (x2 : Int32) (x3 : Int32) (x4 : Int32) (M : IM), r3 x1 x2 x3 x4 M = some R → V g mX12_feetBy 7 0 0 (qI S0 a R) 3 [some (.ref (a 136)), some (.int x1), some (.int x2), some (.int x3), some (.int x4), none, none] [] a S0 M 0 0) (h : f_X12_feetBy_124 r3 x1 x2 x3 x4 y1 y2 M = some R) : V g mX12_feetBy 7 0 0 (qI S0 a R) 124 [some (.ref (a 136)), some (.int x1), some (.int x2), some (.int x3), some (.int x4), none, none] [.int y2, .int y1, .ref (a 137)] a S0 M 0 0 := by
  unfold f_X12_feetBy_124 at h
  replace h := wr_e h
  obtain ⟨hb34, h⟩ := h
  refine V_iast rfl dX12_feetBy_124 s0_137 hb34 ?_
  refine V_aload_n rfl dX12_feetBy_125 rfl rfl ?_
  refine V_getr (k0 := 1) rfl dX12_feetBy_126 s0_136 icX12 (by decide) rfl w_1190 ?_
  refine V_iconst (v := 0) rfl dX12_feetBy_129 kc_0 ?_
  refine V_aload_n rfl dX12_feetBy_130 rfl rfl ?_
  refine V_getr (k0 := 1) rfl dX12_feetBy_131 s0_136 icX12 (by decide) rfl w_1190 ?_
  refine V_iconst (v := 0) rfl dX12_feetBy_134 kc_0 ?_
  replace h := rd_e h
  obtain ⟨hb36, h⟩ := h
  refine V_iald rfl dX12_feetBy_135 s0_137 hb36 ?_
  refine V_iconst (v := 1) rfl dX12_feetBy_136 kc_1 ?_
  refine V_iadd rfl dX12_feetBy_137 ?_
  replace h := wr_e h
  obtain ⟨hb38, h⟩ := h
  refine V_iast rfl dX12_feetBy_138 s0_137 hb38 ?_
  replace h := lt_e h
  refine V_inc (L' := [_, _, _, _, _, _, _]) rfl dX12_feetBy_139 rfl kc_1 (by decide) rfl ?_
  refine V_goto (t := 3) rfl dX12_feetBy_142 ?_
  exact V_sub (le_s (le_s (le_s (le_s (le_s (le_n (le_n le_0))))))) (hr3 _ _ _ _ _ h)
def f_X12_feetBy_68 (r3 : Int32 → Int32 → Int32 → Int32 → IM → IR) (x1 : Int32) (x2 : Int32) (x3 : Int32) (x4 : Int32) (x5 : Int32) (y0 : Int32) (M : IM) : IR := cl (f_X12_held y0 0 999 M) fun w22 M23 => wr M23 137 40 (10 + x1) w22 fun M25 => if x5 = 0 then f_X12_feetBy_124 r3 x1 x2 x3 x4 ((20 + x1)) 0 M25 else rd M25 137 40 (20 + x1) fun v28 => cl (f_X12_lesser 999 (v28 + 1) M25) fun w30 M31 => f_X12_feetBy_124 r3 x1 x2 x3 x4 ((20 + x1)) w30 M31
set_option maxRecDepth 100000 in
set_option maxHeartbeats 4000000 in
theorem t_X12_feetBy_68 {g : IG} {a : Nat → Nat} {R : Int32 × IM} {r3 : Int32 → Int32 → Int32 → Int32 → IM → IR} {x1 : Int32} {x2 : Int32} {x3 : Int32} {x4 : Int32} {x5 : Int32} {y0 : Int32} {M : IM} (hr3 : ∀ (x1 : Int32) (x2 : Int32) (x3 : Int32) (x4 : Int32) (M : IM), r3 x1 x2 x3 x4 M = some R → V g mX12_feetBy 7 0 0 (qI S0 a R) 3 [some (.ref (a 136)), some (.int x1), some (.int x2), some (.int x3), some (.int x4), none, none] [] a S0 M 0 0) (h : f_X12_feetBy_68 r3 x1 x2 x3 x4 x5 y0 M = some R) : V g mX12_feetBy 7 0 0 (qI S0 a R) 68 [some (.ref (a 136)), some (.int x1), some (.int x2), some (.int x3), some (.int x4), some (.int x5), none] [.int y0] a S0 M 0 0 := by
  unfold f_X12_feetBy_68 at h
  refine V_istore (L' := [_, _, _, _, _, _, _]) rfl dX12_feetBy_68 (by decide) rfl ?_
  refine V_aload_n rfl dX12_feetBy_70 rfl rfl ?_
  refine V_getr (k0 := 1) rfl dX12_feetBy_71 s0_136 icX12 (by decide) rfl w_1190 ?_
  refine V_bipush (v := 10) rfl dX12_feetBy_74 kb_10 ?_
  refine V_iload_n rfl dX12_feetBy_76 rfl rfl ?_
  refine V_iadd rfl dX12_feetBy_77 ?_
  refine V_aload_n rfl dX12_feetBy_78 rfl rfl ?_
  refine V_iload rfl dX12_feetBy_79 rfl ?_
  refine V_iconst (v := 0) rfl dX12_feetBy_81 kc_0 ?_
  refine V_sipush (v := 999) rfl dX12_feetBy_82 ks_999 ?_
  replace h := cl_e h
  obtain ⟨w22, M23, hc24, h⟩ := h
  refine V_ii (As := [.int _, .int _, .int _]) rfl dX12_feetBy_85 mf_X12_held ⟨w_1625, w_103⟩ w_1623 (by decide) s0_136 rfl rfl rfl rfl ⟨rfl, rfl⟩ (t_X12_held hc24) ?_
  replace h := wr_e h
  obtain ⟨hb26, h⟩ := h
  refine V_iast rfl dX12_feetBy_88 s0_137 hb26 ?_
  refine V_aload_n rfl dX12_feetBy_89 rfl rfl ?_
  refine V_getr (k0 := 1) rfl dX12_feetBy_90 s0_136 icX12 (by decide) rfl w_1190 ?_
  refine V_bipush (v := 20) rfl dX12_feetBy_93 kb_20 ?_
  refine V_iload_n rfl dX12_feetBy_95 rfl rfl ?_
  refine V_iadd rfl dX12_feetBy_96 ?_
  refine V_iload rfl dX12_feetBy_97 rfl ?_
  refine V_if_eq (t := 123) rfl rfl dX12_feetBy_99 (fun hc27 => ?_) (fun hc27 => ?_)
  · replace h := ifp hc27 h
    refine V_iconst (v := 0) rfl dX12_feetBy_123 kc_0 ?_
    exact V_sub (le_s (le_s (le_s (le_s (le_s (le_n (le_n le_0))))))) (t_X12_feetBy_124 hr3 h)
  · replace h := ifn hc27 h
    refine V_aload_n rfl dX12_feetBy_102 rfl rfl ?_
    refine V_sipush (v := 999) rfl dX12_feetBy_103 ks_999 ?_
    refine V_aload_n rfl dX12_feetBy_106 rfl rfl ?_
    refine V_getr (k0 := 1) rfl dX12_feetBy_107 s0_136 icX12 (by decide) rfl w_1190 ?_
    refine V_bipush (v := 20) rfl dX12_feetBy_110 kb_20 ?_
    refine V_iload_n rfl dX12_feetBy_112 rfl rfl ?_
    refine V_iadd rfl dX12_feetBy_113 ?_
    replace h := rd_e h
    obtain ⟨hb29, h⟩ := h
    refine V_iald rfl dX12_feetBy_114 s0_137 hb29 ?_
    refine V_iconst (v := 1) rfl dX12_feetBy_115 kc_1 ?_
    refine V_iadd rfl dX12_feetBy_116 ?_
    replace h := cl_e h
    obtain ⟨w30, M31, hc32, h⟩ := h
    refine V_ii (As := [.int _, .int _]) rfl dX12_feetBy_117 mf_X12_lesser ⟨w_1637, w_106⟩ w_1635 (by decide) s0_136 rfl rfl rfl rfl ⟨rfl, rfl⟩ (t_X12_lesser hc32) ?_
    refine V_goto (t := 124) rfl dX12_feetBy_120 ?_
    exact V_sub (le_s (le_s (le_s (le_s (le_s (le_n (le_n le_0))))))) (t_X12_feetBy_124 hr3 h)
def f_X12_feetBy_24 (r3 : Int32 → Int32 → Int32 → Int32 → IM → IR) (x1 : Int32) (x2 : Int32) (x3 : Int32) (x4 : Int32) (y0 : Int32) (M : IM) : IR := if y0 = 0 then rd M 137 40 (10 + x1) fun v9 => cl (f_X12_easeOf x1 M) fun w11 M12 => f_X12_feetBy_68 r3 x1 x2 x3 x4 y0 ((v9 - w11)) M12 else rd M 137 40 (10 + x1) fun v14 => cl (f_X12_clockNow M) fun w16 M17 => cl (f_X12_tireOf x1 w16 M17) fun w19 M20 => f_X12_feetBy_68 r3 x1 x2 x3 x4 y0 ((v14 + w19)) M20
set_option maxRecDepth 100000 in
set_option maxHeartbeats 4000000 in
theorem t_X12_feetBy_24 {g : IG} {a : Nat → Nat} {R : Int32 × IM} {r3 : Int32 → Int32 → Int32 → Int32 → IM → IR} {x1 : Int32} {x2 : Int32} {x3 : Int32} {x4 : Int32} {y0 : Int32} {M : IM} (hr3 : ∀ (x1 : Int32) (x2 : Int32) (x3 : Int32) (x4 : Int32) (M : IM), r3 x1 x2 x3 x4 M = some R → V g mX12_feetBy 7 0 0 (qI S0 a R) 3 [some (.ref (a 136)), some (.int x1), some (.int x2), some (.int x3), some (.int x4), none, none] [] a S0 M 0 0) (h : f_X12_feetBy_24 r3 x1 x2 x3 x4 y0 M = some R) : V g mX12_feetBy 7 0 0 (qI S0 a R) 24 [some (.ref (a 136)), some (.int x1), some (.int x2), some (.int x3), some (.int x4), none, none] [.int y0] a S0 M 0 0 := by
  unfold f_X12_feetBy_24 at h
  refine V_istore (L' := [_, _, _, _, _, _, _]) rfl dX12_feetBy_24 (by decide) rfl ?_
  refine V_iload rfl dX12_feetBy_26 rfl ?_
  refine V_if_eq (t := 53) rfl rfl dX12_feetBy_28 (fun hc8 => ?_) (fun hc8 => ?_)
  · replace h := ifp hc8 h
    refine V_aload_n rfl dX12_feetBy_53 rfl rfl ?_
    refine V_getr (k0 := 1) rfl dX12_feetBy_54 s0_136 icX12 (by decide) rfl w_1190 ?_
    refine V_bipush (v := 10) rfl dX12_feetBy_57 kb_10 ?_
    refine V_iload_n rfl dX12_feetBy_59 rfl rfl ?_
    refine V_iadd rfl dX12_feetBy_60 ?_
    replace h := rd_e h
    obtain ⟨hb10, h⟩ := h
    refine V_iald rfl dX12_feetBy_61 s0_137 hb10 ?_
    refine V_aload_n rfl dX12_feetBy_62 rfl rfl ?_
    refine V_iload_n rfl dX12_feetBy_63 rfl rfl ?_
    replace h := cl_e h
    obtain ⟨w11, M12, hc13, h⟩ := h
    refine V_ii (As := [.int _]) rfl dX12_feetBy_64 mf_X12_easeOf ⟨w_1629, w_104⟩ w_1627 (by decide) s0_136 rfl rfl rfl rfl ⟨rfl, rfl⟩ (t_X12_easeOf hc13) ?_
    refine V_isub rfl dX12_feetBy_67 ?_
    exact V_sub (le_s (le_s (le_s (le_s (le_s (le_s (le_n le_0))))))) (t_X12_feetBy_68 hr3 h)
  · replace h := ifn hc8 h
    refine V_aload_n rfl dX12_feetBy_31 rfl rfl ?_
    refine V_getr (k0 := 1) rfl dX12_feetBy_32 s0_136 icX12 (by decide) rfl w_1190 ?_
    refine V_bipush (v := 10) rfl dX12_feetBy_35 kb_10 ?_
    refine V_iload_n rfl dX12_feetBy_37 rfl rfl ?_
    refine V_iadd rfl dX12_feetBy_38 ?_
    replace h := rd_e h
    obtain ⟨hb15, h⟩ := h
    refine V_iald rfl dX12_feetBy_39 s0_137 hb15 ?_
    refine V_aload_n rfl dX12_feetBy_40 rfl rfl ?_
    refine V_iload_n rfl dX12_feetBy_41 rfl rfl ?_
    refine V_aload_n rfl dX12_feetBy_42 rfl rfl ?_
    replace h := cl_e h
    obtain ⟨w16, M17, hc18, h⟩ := h
    refine V_ii (As := []) rfl dX12_feetBy_43 mf_X12_clockNow ⟨w_1551, w_85⟩ w_1549 (by decide) s0_136 rfl rfl rfl rfl ⟨rfl, rfl⟩ (t_X12_clockNow hc18) ?_
    replace h := cl_e h
    obtain ⟨w19, M20, hc21, h⟩ := h
    refine V_ii (As := [.int _, .int _]) rfl dX12_feetBy_46 mf_X12_tireOf ⟨w_1617, w_101⟩ w_1615 (by decide) s0_136 rfl rfl rfl rfl ⟨rfl, rfl⟩ (t_X12_tireOf hc21) ?_
    refine V_iadd rfl dX12_feetBy_49 ?_
    refine V_goto (t := 68) rfl dX12_feetBy_50 ?_
    exact V_sub (le_s (le_s (le_s (le_s (le_s (le_s (le_n le_0))))))) (t_X12_feetBy_68 hr3 h)
def f_X12_feetBy_3_b (r3 : Int32 → Int32 → Int32 → Int32 → IM → IR) (x1 : Int32) (x2 : Int32) (x3 : Int32) (x4 : Int32) (M : IM) : IR := if x2 ≤ x4 then rd M 137 40 (10 + x1) fun v2 => cl (f_X12_thinksAnew M) fun _ M5 => some (v2, M5) else if ((x3 >>> (x4 &&& 31)) &&& 1) = 1 then f_X12_feetBy_24 r3 x1 x2 x3 x4 1 M else f_X12_feetBy_24 r3 x1 x2 x3 x4 0 M
def f_X12_feetBy_3 (n : Nat) : Int32 → Int32 → Int32 → Int32 → IM → IR := itr (fun _ _ _ _ _ => none) (f_X12_feetBy_3_b) n
set_option maxRecDepth 100000 in
set_option maxHeartbeats 4000000 in
theorem t_X12_feetBy_3 {g : IG} {a : Nat → Nat} {R : Int32 × IM} (n : Nat) : ∀ (x1 : Int32) (x2 : Int32) (x3 : Int32) (x4 : Int32) (M : IM), f_X12_feetBy_3 n x1 x2 x3 x4 M = some R → V g mX12_feetBy 7 0 0 (qI S0 a R) 3 [some (.ref (a 136)), some (.int x1), some (.int x2), some (.int x3), some (.int x4), none, none] [] a S0 M 0 0 := by
  induction n with
  | zero => intro x1 x2 x3 x4 M h; exact absurd h (fun z => by cases z)
  | succ n hr3 =>
    intro x1 x2 x3 x4 M h
    replace h : f_X12_feetBy_3_b (f_X12_feetBy_3 n) x1 x2 x3 x4 M = some R := h
    unfold f_X12_feetBy_3_b at h
    refine V_iload rfl dX12_feetBy_3 rfl ?_
    refine V_iload_n rfl dX12_feetBy_5 rfl rfl ?_
    refine V_icmp_ge (t := 145) rfl rfl dX12_feetBy_6 (fun hc1 => ?_) (fun hc1 => ?_)
    · replace h := ifp hc1 h
      refine V_aload_n rfl dX12_feetBy_145 rfl rfl ?_
      refine V_getr (k0 := 1) rfl dX12_feetBy_146 s0_136 icX12 (by decide) rfl w_1190 ?_
      refine V_bipush (v := 10) rfl dX12_feetBy_149 kb_10 ?_
      refine V_iload_n rfl dX12_feetBy_151 rfl rfl ?_
      refine V_iadd rfl dX12_feetBy_152 ?_
      replace h := rd_e h
      obtain ⟨hb3, h⟩ := h
      refine V_iald rfl dX12_feetBy_153 s0_137 hb3 ?_
      refine V_istore (L' := [_, _, _, _, _, _, _]) rfl dX12_feetBy_154 (by decide) rfl ?_
      refine V_aload_n rfl dX12_feetBy_156 rfl rfl ?_
      replace h := cl_e h
      obtain ⟨w4, M5, hc6, h⟩ := h
      refine V_iv (As := []) rfl dX12_feetBy_157 mf_X12_thinksAnew ⟨w_1685, w_112⟩ w_1683 (by decide) s0_136 rfl rfl rfl rfl ⟨rfl, rfl⟩ (t_X12_thinksAnew hc6) ?_
      refine V_iload rfl dX12_feetBy_160 rfl ?_
      cases h
      exact V_iret dX12_feetBy_162 rfl rfl (Nat.le_refl _) (Nat.le_refl _) qI_ok
    · replace h := ifn hc1 h
      refine V_iload_n rfl dX12_feetBy_9 rfl rfl ?_
      refine V_iload rfl dX12_feetBy_10 rfl ?_
      refine V_ishr rfl dX12_feetBy_12 ?_
      refine V_iconst (v := 1) rfl dX12_feetBy_13 kc_1 ?_
      refine V_iand rfl dX12_feetBy_14 ?_
      refine V_iconst (v := 1) rfl dX12_feetBy_15 kc_1 ?_
      refine V_icmp_ne (t := 23) rfl rfl dX12_feetBy_16 (fun hc7 => ?_) (fun hc7 => ?_)
      · replace h := ifn hc7 h
        refine V_iconst (v := 0) rfl dX12_feetBy_23 kc_0 ?_
        exact V_sub (le_s (le_s (le_s (le_s (le_s (le_n (le_n le_0))))))) (t_X12_feetBy_24 hr3 h)
      · replace h := ifp hc7 h
        refine V_iconst (v := 1) rfl dX12_feetBy_19 kc_1 ?_
        refine V_goto (t := 24) rfl dX12_feetBy_20 ?_
        exact V_sub (le_s (le_s (le_s (le_s (le_s (le_n (le_n le_0))))))) (t_X12_feetBy_24 hr3 h)
def f_X12_feetBy (p1 : Int32) (p2 : Int32) (p3 : Int32) (M : IM) : IR := f_X12_feetBy_3 BG p1 p2 p3 0 M
set_option maxRecDepth 100000 in
set_option maxHeartbeats 4000000 in
theorem t_X12_feetBy {g : IG} {a : Nat → Nat} {R : Int32 × IM} {p1 : Int32} {p2 : Int32} {p3 : Int32} {M : IM} (h : f_X12_feetBy p1 p2 p3 M = some R) : Cn g mX12_feetBy 7 0 0 (qI S0 a R) [.ref (a 136), .int p1, .int p2, .int p3] a S0 M := by
  refine Cn_of (L := [some (.ref (a 136)), some (.int p1), some (.int p2), some (.int p3), none, none, none]) mf_X12_feetBy (cat_r (cat_i (cat_i (cat_i cat_0)))) (Nat.le_of_ble_eq_true rfl) rfl ?_
  unfold f_X12_feetBy at h
  refine V_iconst (v := 0) rfl dX12_feetBy_0 kc_0 ?_
  refine V_istore (L' := [_, _, _, _, _, _, _]) rfl dX12_feetBy_1 (by decide) rfl ?_
  exact V_sub (le_s (le_s (le_s (le_s (le_s (le_n (le_n le_0))))))) (t_X12_feetBy_3 BG _ _ _ _ _ h)
-- X12_rowOf: NeverHaltedModel.rowOf(II)I
def f_X12_rowOf_5_b (r5 : Int32 → Int32 → Int32 → Int32 → IM → IR) (x1 : Int32) (x2 : Int32) (x3 : Int32) (x4 : Int32) (M : IM) : IR := if x2 ≤ x4 then some (x3, M) else if ((x1 >>> (((x2 - 1) - x4) &&& 31)) &&& 1) = 1 then lt (x3 ||| ((1 : Int32) <<< (x4 &&& 31))) fun v4 => lt (x4 + 1) fun v5 => r5 x1 x2 v4 v5 M else lt (x4 + 1) fun v3 => r5 x1 x2 x3 v3 M
def f_X12_rowOf_5 (n : Nat) : Int32 → Int32 → Int32 → Int32 → IM → IR := itr (fun _ _ _ _ _ => none) (f_X12_rowOf_5_b) n
set_option maxRecDepth 100000 in
set_option maxHeartbeats 4000000 in
theorem t_X12_rowOf_5 {g : IG} {a : Nat → Nat} {R : Int32 × IM} (n : Nat) : ∀ (x1 : Int32) (x2 : Int32) (x3 : Int32) (x4 : Int32) (M : IM), f_X12_rowOf_5 n x1 x2 x3 x4 M = some R → V g mX12_rowOf 1 0 0 (qI S0 a R) 5 [none, some (.int x1), some (.int x2), some (.int x3), some (.int x4)] [] a S0 M 0 0 := by
  induction n with
  | zero => intro x1 x2 x3 x4 M h; exact absurd h (fun z => by cases z)
  | succ n hr5 =>
    intro x1 x2 x3 x4 M h
    replace h : f_X12_rowOf_5_b (f_X12_rowOf_5 n) x1 x2 x3 x4 M = some R := h
    unfold f_X12_rowOf_5_b at h
    refine V_iload rfl dX12_rowOf_5 rfl ?_
    refine V_iload_n rfl dX12_rowOf_7 rfl rfl ?_
    refine V_icmp_ge (t := 38) rfl rfl dX12_rowOf_8 (fun hc1 => ?_) (fun hc1 => ?_)
    · replace h := ifp hc1 h
      refine V_iload_n rfl dX12_rowOf_38 rfl rfl ?_
      cases h
      exact V_iret dX12_rowOf_39 rfl rfl (Nat.le_refl _) (Nat.le_refl _) qI_ok
    · replace h := ifn hc1 h
      refine V_iload_n rfl dX12_rowOf_11 rfl rfl ?_
      refine V_iload_n rfl dX12_rowOf_12 rfl rfl ?_
      refine V_iconst (v := 1) rfl dX12_rowOf_13 kc_1 ?_
      refine V_isub rfl dX12_rowOf_14 ?_
      refine V_iload rfl dX12_rowOf_15 rfl ?_
      refine V_isub rfl dX12_rowOf_17 ?_
      refine V_ishr rfl dX12_rowOf_18 ?_
      refine V_iconst (v := 1) rfl dX12_rowOf_19 kc_1 ?_
      refine V_iand rfl dX12_rowOf_20 ?_
      refine V_iconst (v := 1) rfl dX12_rowOf_21 kc_1 ?_
      refine V_icmp_ne (t := 32) rfl rfl dX12_rowOf_22 (fun hc2 => ?_) (fun hc2 => ?_)
      · replace h := ifn hc2 h
        replace h := lt_e h
        refine V_inc (L' := [_, _, _, _, _]) rfl dX12_rowOf_32 rfl kc_1 (by decide) rfl ?_
        refine V_goto (t := 5) rfl dX12_rowOf_35 ?_
        exact V_sub (le_n (le_s (le_s (le_s (le_s le_0))))) (hr5 _ _ _ _ _ h)
      · replace h := ifp hc2 h
        refine V_iload_n rfl dX12_rowOf_25 rfl rfl ?_
        refine V_iconst (v := 1) rfl dX12_rowOf_26 kc_1 ?_
        refine V_iload rfl dX12_rowOf_27 rfl ?_
        refine V_ishl rfl dX12_rowOf_29 ?_
        refine V_ior rfl dX12_rowOf_30 ?_
        replace h := lt_e h
        refine V_istore_n (L' := [_, _, _, _, _]) rfl rfl dX12_rowOf_31 (by decide) rfl ?_
        replace h := lt_e h
        refine V_inc (L' := [_, _, _, _, _]) rfl dX12_rowOf_32 rfl kc_1 (by decide) rfl ?_
        refine V_goto (t := 5) rfl dX12_rowOf_35 ?_
        exact V_sub (le_n (le_s (le_s (le_s (le_s le_0))))) (hr5 _ _ _ _ _ h)
def f_X12_rowOf (p1 : Int32) (p2 : Int32) (M : IM) : IR := f_X12_rowOf_5 BG p1 p2 0 0 M
set_option maxRecDepth 100000 in
set_option maxHeartbeats 4000000 in
theorem t_X12_rowOf {g : IG} {a : Nat → Nat} {R : Int32 × IM} {p1 : Int32} {p2 : Int32} {M : IM} (h : f_X12_rowOf p1 p2 M = some R) : Cn g mX12_rowOf 1 0 0 (qI S0 a R) [.ref (a 136), .int p1, .int p2] a S0 M := by
  refine Cn_of (L := [some (.ref (a 136)), some (.int p1), some (.int p2), none, none]) mf_X12_rowOf (cat_r (cat_i (cat_i cat_0))) (Nat.le_of_ble_eq_true rfl) rfl ?_
  unfold f_X12_rowOf at h
  refine V_iconst (v := 0) rfl dX12_rowOf_0 kc_0 ?_
  refine V_istore_n (L' := [_, _, _, _, _]) rfl rfl dX12_rowOf_1 (by decide) rfl ?_
  refine V_iconst (v := 0) rfl dX12_rowOf_2 kc_0 ?_
  refine V_istore (L' := [_, _, _, _, _]) rfl dX12_rowOf_3 (by decide) rfl ?_
  exact V_sub (le_n (le_s (le_s (le_s (le_s le_0))))) (t_X12_rowOf_5 BG _ _ _ _ _ h)
-- X12_fits: NeverHaltedModel.fits(IIII)I
def f_X12_fits_104 (r62 : Int32 → Int32 → Int32 → Int32 → Int32 → Int32 → Int32 → IM → IR) (x1 : Int32) (x2 : Int32) (x3 : Int32) (x4 : Int32) (x5 : Int32) (x6 : Int32) (x7 : Int32) (M : IM) : IR := lt (x5 + 1) fun v38 => lt (x7 + 1) fun v39 => r62 x1 x2 x3 x4 v38 x6 v39 M
set_option maxRecDepth 100000 in
set_option maxHeartbeats 4000000 in
theorem t_X12_fits_104 {g : IG} {a : Nat → Nat} {R : Int32 × IM} {r62 : Int32 → Int32 → Int32 → Int32 → Int32 → Int32 → Int32 → IM → IR} {x1 : Int32} {x2 : Int32} {x3 : Int32} {x4 : Int32} {x5 : Int32} {x6 : Int32} {x7 : Int32} {M : IM} (hr62 : ∀ (x1 : Int32) (x2 : Int32) (x3 : Int32) (x4 : Int32) (x5 : Int32) (x6 : Int32) (x7 : Int32) (M : IM), r62 x1 x2 x3 x4 x5 x6 x7 M = some R → V g mX12_fits 8 0 0 (qI S0 a R) 62 [some (.ref (a 136)), some (.int x1), some (.int x2), some (.int x3), some (.int x4), some (.int x5), some (.int x6), some (.int x7)] [] a S0 M 0 0) (h : f_X12_fits_104 r62 x1 x2 x3 x4 x5 x6 x7 M = some R) : V g mX12_fits 8 0 0 (qI S0 a R) 104 [some (.ref (a 136)), some (.int x1), some (.int x2), some (.int x3), some (.int x4), some (.int x5), some (.int x6), some (.int x7)] [] a S0 M 0 0 := by
  unfold f_X12_fits_104 at h
  refine V_iload rfl dX12_fits_104 rfl ?_
  refine V_iconst (v := 1) rfl dX12_fits_106 kc_1 ?_
  refine V_iadd rfl dX12_fits_107 ?_
  replace h := lt_e h
  refine V_istore (L' := [_, _, _, _, _, _, _, _]) rfl dX12_fits_108 (by decide) rfl ?_
  replace h := lt_e h
  refine V_inc (L' := [_, _, _, _, _, _, _, _]) rfl dX12_fits_110 rfl kc_1 (by decide) rfl ?_
  refine V_goto (t := 62) rfl dX12_fits_113 ?_
  exact V_sub (le_s (le_s (le_s (le_s (le_s (le_s (le_s (le_s le_0)))))))) (hr62 _ _ _ _ _ _ _ _ h)
def f_X12_fits_62_b (r62 : Int32 → Int32 → Int32 → Int32 → Int32 → Int32 → Int32 → IM → IR) (x1 : Int32) (x2 : Int32) (x3 : Int32) (x4 : Int32) (x5 : Int32) (x6 : Int32) (x7 : Int32) (M : IM) : IR := if ((1 : Int32) <<< (x2 &&& 31)) ≤ x7 then cl (f_X12_endsThought M) fun _ M23 => if x4 = 0 then some (x5, M23) else some (x6, M23) else cl (f_X12_rowOf x7 x2 M) fun w26 M27 => cl (f_X12_feetBy x1 x2 w26 M27) fun w29 M30 => if w29 = x3 then if x5 = 0 then cl (f_X12_rowOf x7 x2 M30) fun w34 M35 => f_X12_fits_104 r62 x1 x2 x3 x4 x5 w34 x7 M35 else f_X12_fits_104 r62 x1 x2 x3 x4 x5 x6 x7 M30 else lt (x7 + 1) fun v37 => r62 x1 x2 x3 x4 x5 x6 v37 M30
def f_X12_fits_62 (n : Nat) : Int32 → Int32 → Int32 → Int32 → Int32 → Int32 → Int32 → IM → IR := itr (fun _ _ _ _ _ _ _ _ => none) (f_X12_fits_62_b) n
set_option maxRecDepth 100000 in
set_option maxHeartbeats 4000000 in
theorem t_X12_fits_62 {g : IG} {a : Nat → Nat} {R : Int32 × IM} (n : Nat) : ∀ (x1 : Int32) (x2 : Int32) (x3 : Int32) (x4 : Int32) (x5 : Int32) (x6 : Int32) (x7 : Int32) (M : IM), f_X12_fits_62 n x1 x2 x3 x4 x5 x6 x7 M = some R → V g mX12_fits 8 0 0 (qI S0 a R) 62 [some (.ref (a 136)), some (.int x1), some (.int x2), some (.int x3), some (.int x4), some (.int x5), some (.int x6), some (.int x7)] [] a S0 M 0 0 := by
  induction n with
  | zero => intro x1 x2 x3 x4 x5 x6 x7 M h; exact absurd h (fun z => by cases z)
  | succ n hr62 =>
    intro x1 x2 x3 x4 x5 x6 x7 M h
    replace h : f_X12_fits_62_b (f_X12_fits_62 n) x1 x2 x3 x4 x5 x6 x7 M = some R := h
    unfold f_X12_fits_62_b at h
    refine V_iload rfl dX12_fits_62 rfl ?_
    refine V_iconst (v := 1) rfl dX12_fits_64 kc_1 ?_
    refine V_iload_n rfl dX12_fits_65 rfl rfl ?_
    refine V_ishl rfl dX12_fits_66 ?_
    refine V_icmp_ge (t := 116) rfl rfl dX12_fits_67 (fun hc21 => ?_) (fun hc21 => ?_)
    · replace h := ifp hc21 h
      refine V_aload_n rfl dX12_fits_116 rfl rfl ?_
      replace h := cl_e h
      obtain ⟨w22, M23, hc24, h⟩ := h
      refine V_iv (As := []) rfl dX12_fits_117 mf_X12_endsThought ⟨w_1681, w_111⟩ w_1679 (by decide) s0_136 rfl rfl rfl rfl ⟨rfl, rfl⟩ (t_X12_endsThought hc24) ?_
      refine V_iload rfl dX12_fits_120 rfl ?_
      refine V_if_ne (t := 130) rfl rfl dX12_fits_122 (fun hc25 => ?_) (fun hc25 => ?_)
      · replace h := ifn hc25 h
        refine V_iload rfl dX12_fits_130 rfl ?_
        cases h
        exact V_iret dX12_fits_132 rfl rfl (Nat.le_refl _) (Nat.le_refl _) qI_ok
      · replace h := ifp hc25 h
        refine V_iload rfl dX12_fits_125 rfl ?_
        refine V_goto (t := 132) rfl dX12_fits_127 ?_
        cases h
        exact V_iret dX12_fits_132 rfl rfl (Nat.le_refl _) (Nat.le_refl _) qI_ok
    · replace h := ifn hc21 h
      refine V_aload_n rfl dX12_fits_70 rfl rfl ?_
      refine V_iload_n rfl dX12_fits_71 rfl rfl ?_
      refine V_iload_n rfl dX12_fits_72 rfl rfl ?_
      refine V_aload_n rfl dX12_fits_73 rfl rfl ?_
      refine V_iload rfl dX12_fits_74 rfl ?_
      refine V_iload_n rfl dX12_fits_76 rfl rfl ?_
      replace h := cl_e h
      obtain ⟨w26, M27, hc28, h⟩ := h
      refine V_ii (As := [.int _, .int _]) rfl dX12_fits_77 mf_X12_rowOf ⟨w_1778, w_129⟩ w_1776 (by decide) s0_136 rfl rfl rfl rfl ⟨rfl, rfl⟩ (t_X12_rowOf hc28) ?_
      replace h := cl_e h
      obtain ⟨w29, M30, hc31, h⟩ := h
      refine V_ii (As := [.int _, .int _, .int _]) rfl dX12_fits_80 mf_X12_feetBy ⟨w_1782, w_130⟩ w_1780 (by decide) s0_136 rfl rfl rfl rfl ⟨rfl, rfl⟩ (t_X12_feetBy hc31) ?_
      refine V_iload_n rfl dX12_fits_83 rfl rfl ?_
      refine V_icmp_eq (t := 90) rfl rfl dX12_fits_84 (fun hc32 => ?_) (fun hc32 => ?_)
      · replace h := ifp hc32 h
        refine V_iload rfl dX12_fits_90 rfl ?_
        refine V_if_ne (t := 104) rfl rfl dX12_fits_92 (fun hc33 => ?_) (fun hc33 => ?_)
        · replace h := ifn hc33 h
          exact V_sub (le_s (le_s (le_s (le_s (le_s (le_s (le_s (le_s le_0)))))))) (t_X12_fits_104 hr62 h)
        · replace h := ifp hc33 h
          refine V_aload_n rfl dX12_fits_95 rfl rfl ?_
          refine V_iload rfl dX12_fits_96 rfl ?_
          refine V_iload_n rfl dX12_fits_98 rfl rfl ?_
          replace h := cl_e h
          obtain ⟨w34, M35, hc36, h⟩ := h
          refine V_ii (As := [.int _, .int _]) rfl dX12_fits_99 mf_X12_rowOf ⟨w_1778, w_129⟩ w_1776 (by decide) s0_136 rfl rfl rfl rfl ⟨rfl, rfl⟩ (t_X12_rowOf hc36) ?_
          refine V_istore (L' := [_, _, _, _, _, _, _, _]) rfl dX12_fits_102 (by decide) rfl ?_
          exact V_sub (le_s (le_s (le_s (le_s (le_s (le_s (le_s (le_s le_0)))))))) (t_X12_fits_104 hr62 h)
      · replace h := ifn hc32 h
        refine V_goto (t := 110) rfl dX12_fits_87 ?_
        replace h := lt_e h
        refine V_inc (L' := [_, _, _, _, _, _, _, _]) rfl dX12_fits_110 rfl kc_1 (by decide) rfl ?_
        refine V_goto (t := 62) rfl dX12_fits_113 ?_
        exact V_sub (le_s (le_s (le_s (le_s (le_s (le_s (le_s (le_s le_0)))))))) (hr62 _ _ _ _ _ _ _ _ h)
def f_X12_fits (p1 : Int32) (p2 : Int32) (p3 : Int32) (p4 : Int32) (M : IM) : IR := pt M 136 0 0 fun M1 => cl (f_X12_isWalker p1 M1) fun w2 M3 => if w2 = 0 then some ((-1), M3) else cl (f_X12_isIn p2 1 10 M3) fun w6 M7 => if w6 = 0 then some ((-1), M7) else cl (f_X12_isIn p3 0 999 M7) fun w10 M11 => if w10 = 0 then some ((-1), M11) else cl (f_X12_isIn p4 0 1 M11) fun w14 M15 => if w14 = 0 then some ((-1), M15) else cl (f_X12_thinks M15) fun _ M19 => f_X12_fits_62 BG p1 p2 p3 p4 0 (-1) 0 M19
set_option maxRecDepth 100000 in
set_option maxHeartbeats 4000000 in
theorem t_X12_fits {g : IG} {a : Nat → Nat} {R : Int32 × IM} {p1 : Int32} {p2 : Int32} {p3 : Int32} {p4 : Int32} {M : IM} (h : f_X12_fits p1 p2 p3 p4 M = some R) : Cn g mX12_fits 8 0 0 (qI S0 a R) [.ref (a 136), .int p1, .int p2, .int p3, .int p4] a S0 M := by
  refine Cn_of (L := [some (.ref (a 136)), some (.int p1), some (.int p2), some (.int p3), some (.int p4), none, none, none]) mf_X12_fits (cat_r (cat_i (cat_i (cat_i (cat_i cat_0))))) (Nat.le_of_ble_eq_true rfl) rfl ?_
  unfold f_X12_fits at h
  refine V_aload_n rfl dX12_fits_0 rfl rfl ?_
  refine V_iconst (v := 0) rfl dX12_fits_1 kc_0 ?_
  replace h := pt_e h
  refine V_putf (k0 := 0) (ty := .int) rfl dX12_fits_2 s0_136 icX12 tyX12_ok nmX12 (by decide) rfl w_1189 rfl (tyX12_ok _ (by decide)) rfl rfl ?_
  refine V_aload_n rfl dX12_fits_5 rfl rfl ?_
  refine V_iload_n rfl dX12_fits_6 rfl rfl ?_
  replace h := cl_e h
  obtain ⟨w2, M3, hc4, h⟩ := h
  refine V_ii (As := [.int _]) rfl dX12_fits_7 mf_X12_isWalker ⟨w_1379, w_49⟩ w_1377 (by decide) s0_136 rfl rfl rfl rfl ⟨rfl, rfl⟩ (t_X12_isWalker hc4) ?_
  refine V_if_eq (t := 47) rfl rfl dX12_fits_10 (fun hc5 => ?_) (fun hc5 => ?_)
  · replace h := ifp hc5 h
    refine V_iconst (v := (-1)) rfl dX12_fits_47 kc_m1 ?_
    cases h
    exact V_iret dX12_fits_48 rfl rfl (Nat.le_refl _) (Nat.le_refl _) qI_ok
  · replace h := ifn hc5 h
    refine V_aload_n rfl dX12_fits_13 rfl rfl ?_
    refine V_iload_n rfl dX12_fits_14 rfl rfl ?_
    refine V_iconst (v := 1) rfl dX12_fits_15 kc_1 ?_
    refine V_bipush (v := 10) rfl dX12_fits_16 kb_10 ?_
    replace h := cl_e h
    obtain ⟨w6, M7, hc8, h⟩ := h
    refine V_ii (As := [.int _, .int _, .int _]) rfl dX12_fits_18 mf_X12_isIn ⟨w_1367, w_47⟩ w_1365 (by decide) s0_136 rfl rfl rfl rfl ⟨rfl, rfl⟩ (t_X12_isIn hc8) ?_
    refine V_if_eq (t := 47) rfl rfl dX12_fits_21 (fun hc9 => ?_) (fun hc9 => ?_)
    · replace h := ifp hc9 h
      refine V_iconst (v := (-1)) rfl dX12_fits_47 kc_m1 ?_
      cases h
      exact V_iret dX12_fits_48 rfl rfl (Nat.le_refl _) (Nat.le_refl _) qI_ok
    · replace h := ifn hc9 h
      refine V_aload_n rfl dX12_fits_24 rfl rfl ?_
      refine V_iload_n rfl dX12_fits_25 rfl rfl ?_
      refine V_iconst (v := 0) rfl dX12_fits_26 kc_0 ?_
      refine V_sipush (v := 999) rfl dX12_fits_27 ks_999 ?_
      replace h := cl_e h
      obtain ⟨w10, M11, hc12, h⟩ := h
      refine V_ii (As := [.int _, .int _, .int _]) rfl dX12_fits_30 mf_X12_isIn ⟨w_1367, w_47⟩ w_1365 (by decide) s0_136 rfl rfl rfl rfl ⟨rfl, rfl⟩ (t_X12_isIn hc12) ?_
      refine V_if_eq (t := 47) rfl rfl dX12_fits_33 (fun hc13 => ?_) (fun hc13 => ?_)
      · replace h := ifp hc13 h
        refine V_iconst (v := (-1)) rfl dX12_fits_47 kc_m1 ?_
        cases h
        exact V_iret dX12_fits_48 rfl rfl (Nat.le_refl _) (Nat.le_refl _) qI_ok
      · replace h := ifn hc13 h
        refine V_aload_n rfl dX12_fits_36 rfl rfl ?_
        refine V_iload rfl dX12_fits_37 rfl ?_
        refine V_iconst (v := 0) rfl dX12_fits_39 kc_0 ?_
        refine V_iconst (v := 1) rfl dX12_fits_40 kc_1 ?_
        replace h := cl_e h
        obtain ⟨w14, M15, hc16, h⟩ := h
        refine V_ii (As := [.int _, .int _, .int _]) rfl dX12_fits_41 mf_X12_isIn ⟨w_1367, w_47⟩ w_1365 (by decide) s0_136 rfl rfl rfl rfl ⟨rfl, rfl⟩ (t_X12_isIn hc16) ?_
        refine V_if_ne (t := 49) rfl rfl dX12_fits_44 (fun hc17 => ?_) (fun hc17 => ?_)
        · replace h := ifn hc17 h
          refine V_iconst (v := 0) rfl dX12_fits_49 kc_0 ?_
          refine V_istore (L' := [_, _, _, _, _, _, _, _]) rfl dX12_fits_50 (by decide) rfl ?_
          refine V_iconst (v := (-1)) rfl dX12_fits_52 kc_m1 ?_
          refine V_istore (L' := [_, _, _, _, _, _, _, _]) rfl dX12_fits_53 (by decide) rfl ?_
          refine V_aload_n rfl dX12_fits_55 rfl rfl ?_
          replace h := cl_e h
          obtain ⟨w18, M19, hc20, h⟩ := h
          refine V_iv (As := []) rfl dX12_fits_56 mf_X12_thinks ⟨w_1677, w_110⟩ w_1675 (by decide) s0_136 rfl rfl rfl rfl ⟨rfl, rfl⟩ (t_X12_thinks hc20) ?_
          refine V_iconst (v := 0) rfl dX12_fits_59 kc_0 ?_
          refine V_istore (L' := [_, _, _, _, _, _, _, _]) rfl dX12_fits_60 (by decide) rfl ?_
          exact V_sub (le_s (le_s (le_s (le_s (le_s (le_s (le_s (le_s le_0)))))))) (t_X12_fits_62 BG _ _ _ _ _ _ _ _ h)
        · replace h := ifp hc17 h
          refine V_iconst (v := (-1)) rfl dX12_fits_47 kc_m1 ?_
          cases h
          exact V_iret dX12_fits_48 rfl rfl (Nat.le_refl _) (Nat.le_refl _) qI_ok
