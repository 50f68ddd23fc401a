-- X12_eatOf: NeverHaltedModel.eatOf(I)I
def f_X12_eatOf (p1 : Int32) (M : IM) : IR := cl (f_X12_clockNow M) fun w1 M2 => cl (f_X12_tells p1 w1 4 1 M2) fun w4 M5 => some (w4, M5)
set_option maxRecDepth 100000 in
set_option maxHeartbeats 4000000 in
theorem t_X12_eatOf {g : IG} {a : Nat → Nat} {R : Int32 × IM} {p1 : Int32} {M : IM} (h : f_X12_eatOf p1 M = some R) : Cn g mX12_eatOf 6 0 0 (qI S0 a R) [.ref (a 136), .int p1] a S0 M := by
  refine Cn_of (L := [some (.ref (a 136)), some (.int p1)]) mf_X12_eatOf (cat_r (cat_i cat_0)) (Nat.le_of_ble_eq_true rfl) rfl ?_
  unfold f_X12_eatOf at h
  refine V_aload_n rfl dX12_eatOf_0 rfl rfl ?_
  refine V_iload_n rfl dX12_eatOf_1 rfl rfl ?_
  refine V_aload_n rfl dX12_eatOf_2 rfl rfl ?_
  replace h := cl_e h
  obtain ⟨w1, M2, hc3, h⟩ := h
  refine V_ii (As := []) rfl dX12_eatOf_3 mf_X12_clockNow ⟨w_1551, w_85⟩ w_1549 (by decide) s0_136 rfl rfl rfl rfl ⟨rfl, rfl⟩ (t_X12_clockNow hc3) ?_
  refine V_iconst (v := 4) rfl dX12_eatOf_6 kc_4 ?_
  refine V_iconst (v := 1) rfl dX12_eatOf_7 kc_1 ?_
  replace h := cl_e h
  obtain ⟨w4, M5, hc6, h⟩ := h
  refine V_ii (As := [.int _, .int _, .int _, .int _]) rfl dX12_eatOf_8 mf_X12_tells ⟨w_1621, w_102⟩ w_1619 (by decide) s0_136 rfl rfl rfl rfl ⟨rfl, rfl⟩ (t_X12_tells hc6) ?_
  cases h
  exact V_iret dX12_eatOf_11 rfl rfl (Nat.le_refl _) (Nat.le_refl _) qI_ok
-- X12_notes: NeverHaltedModel.notes(II)V
def f_X12_notes (p1 : Int32) (p2 : Int32) (M : IM) : IR := if (M 136 5) = 0 then rd M 137 40 2 fun v2 => if v2 = 150 then some (0, M) else rd M 137 40 2 fun v5 => lt (3 * v5) fun v7 => rd M 137 40 0 fun v8 => wr M 142 450 v7 v8 fun M10 => wr M10 142 450 (v7 + 1) p1 fun M12 => wr M12 142 450 (v7 + 2) p2 fun M14 => rd M14 137 40 2 fun v16 => wr M14 137 40 2 (v16 + 1) fun M18 => some (0, M18) else some (0, M)
set_option maxRecDepth 100000 in
set_option maxHeartbeats 4000000 in
theorem t_X12_notes {g : IG} {a : Nat → Nat} {R : Int32 × IM} {p1 : Int32} {p2 : Int32} {M : IM} (h : f_X12_notes p1 p2 M = some R) : Cn g mX12_notes 1 0 0 (qV S0 a R) [.ref (a 136), .int p1, .int p2] a S0 M := by
  refine Cn_of (L := [some (.ref (a 136)), some (.int p1), some (.int p2), none]) mf_X12_notes (cat_r (cat_i (cat_i cat_0))) (Nat.le_of_ble_eq_true rfl) rfl ?_
  unfold f_X12_notes at h
  refine V_aload_n rfl dX12_notes_0 rfl rfl ?_
  refine V_geti (k0 := 5) rfl dX12_notes_1 s0_136 icX12 (by decide) rfl w_1194 ?_
  refine V_if_ne (t := 19) rfl rfl dX12_notes_4 (fun hc1 => ?_) (fun hc1 => ?_)
  · replace h := ifn hc1 h
    cases h
    exact V_vret dX12_notes_19 rfl (Nat.le_refl _) (Nat.le_refl _) qV_ok
  · replace h := ifp hc1 h
    refine V_aload_n rfl dX12_notes_7 rfl rfl ?_
    refine V_getr (k0 := 1) rfl dX12_notes_8 s0_136 icX12 (by decide) rfl w_1190 ?_
    refine V_iconst (v := 2) rfl dX12_notes_11 kc_2 ?_
    replace h := rd_e h
    obtain ⟨hb3, h⟩ := h
    refine V_iald rfl dX12_notes_12 s0_137 hb3 ?_
    refine V_sipush (v := 150) rfl dX12_notes_13 ks_150 ?_
    refine V_icmp_ne (t := 20) rfl rfl dX12_notes_16 (fun hc4 => ?_) (fun hc4 => ?_)
    · replace h := ifn hc4 h
      refine V_iconst (v := 3) rfl dX12_notes_20 kc_3 ?_
      refine V_aload_n rfl dX12_notes_21 rfl rfl ?_
      refine V_getr (k0 := 1) rfl dX12_notes_22 s0_136 icX12 (by decide) rfl w_1190 ?_
      refine V_iconst (v := 2) rfl dX12_notes_25 kc_2 ?_
      replace h := rd_e h
      obtain ⟨hb6, h⟩ := h
      refine V_iald rfl dX12_notes_26 s0_137 hb6 ?_
      refine V_imul rfl dX12_notes_27 ?_
      replace h := lt_e h
      refine V_istore_n (L' := [_, _, _, _]) rfl rfl dX12_notes_28 (by decide) rfl ?_
      refine V_aload_n rfl dX12_notes_29 rfl rfl ?_
      refine V_getr (k0 := 12) rfl dX12_notes_30 s0_136 icX12 (by decide) rfl w_1201 ?_
      refine V_iload_n rfl dX12_notes_33 rfl rfl ?_
      refine V_aload_n rfl dX12_notes_34 rfl rfl ?_
      refine V_getr (k0 := 1) rfl dX12_notes_35 s0_136 icX12 (by decide) rfl w_1190 ?_
      refine V_iconst (v := 0) rfl dX12_notes_38 kc_0 ?_
      replace h := rd_e h
      obtain ⟨hb9, h⟩ := h
      refine V_iald rfl dX12_notes_39 s0_137 hb9 ?_
      replace h := wr_e h
      obtain ⟨hb11, h⟩ := h
      refine V_iast rfl dX12_notes_40 s0_142 hb11 ?_
      refine V_aload_n rfl dX12_notes_41 rfl rfl ?_
      refine V_getr (k0 := 12) rfl dX12_notes_42 s0_136 icX12 (by decide) rfl w_1201 ?_
      refine V_iload_n rfl dX12_notes_45 rfl rfl ?_
      refine V_iconst (v := 1) rfl dX12_notes_46 kc_1 ?_
      refine V_iadd rfl dX12_notes_47 ?_
      refine V_iload_n rfl dX12_notes_48 rfl rfl ?_
      replace h := wr_e h
      obtain ⟨hb13, h⟩ := h
      refine V_iast rfl dX12_notes_49 s0_142 hb13 ?_
      refine V_aload_n rfl dX12_notes_50 rfl rfl ?_
      refine V_getr (k0 := 12) rfl dX12_notes_51 s0_136 icX12 (by decide) rfl w_1201 ?_
      refine V_iload_n rfl dX12_notes_54 rfl rfl ?_
      refine V_iconst (v := 2) rfl dX12_notes_55 kc_2 ?_
      refine V_iadd rfl dX12_notes_56 ?_
      refine V_iload_n rfl dX12_notes_57 rfl rfl ?_
      replace h := wr_e h
      obtain ⟨hb15, h⟩ := h
      refine V_iast rfl dX12_notes_58 s0_142 hb15 ?_
      refine V_aload_n rfl dX12_notes_59 rfl rfl ?_
      refine V_getr (k0 := 1) rfl dX12_notes_60 s0_136 icX12 (by decide) rfl w_1190 ?_
      refine V_iconst (v := 2) rfl dX12_notes_63 kc_2 ?_
      refine V_aload_n rfl dX12_notes_64 rfl rfl ?_
      refine V_getr (k0 := 1) rfl dX12_notes_65 s0_136 icX12 (by decide) rfl w_1190 ?_
      refine V_iconst (v := 2) rfl dX12_notes_68 kc_2 ?_
      replace h := rd_e h
      obtain ⟨hb17, h⟩ := h
      refine V_iald rfl dX12_notes_69 s0_137 hb17 ?_
      refine V_iconst (v := 1) rfl dX12_notes_70 kc_1 ?_
      refine V_iadd rfl dX12_notes_71 ?_
      replace h := wr_e h
      obtain ⟨hb19, h⟩ := h
      refine V_iast rfl dX12_notes_72 s0_137 hb19 ?_
      cases h
      exact V_vret dX12_notes_73 rfl (Nat.le_refl _) (Nat.le_refl _) qV_ok
    · replace h := ifp hc4 h
      cases h
      exact V_vret dX12_notes_19 rfl (Nat.le_refl _) (Nat.le_refl _) qV_ok
-- X12_counts: NeverHaltedModel.counts(I)V
def f_X12_counts_59 (M : IM) : IR := if (M 136 5) = 0 then if (M 136 10) = 0 then some (0, M) else cl (f_X12_draw 1000 M) fun w20 M21 => if w20 < (M21 136 10) then rd M21 137 40 7 fun v24 => wr M21 137 40 7 (v24 + 1) fun M26 => cl (f_X12_notes 4 0 M26) fun _ M29 => some (0, M29) else some (0, M21) else some (0, M)
set_option maxRecDepth 100000 in
set_option maxHeartbeats 4000000 in
theorem t_X12_counts_59 {g : IG} {a : Nat → Nat} {R : Int32 × IM} {M : IM} (h : f_X12_counts_59 M = some R) : V g mX12_counts 2 0 0 (qV S0 a R) 59 [some (.ref (a 136)), none] [] a S0 M 0 0 := by
  unfold f_X12_counts_59 at h
  refine V_aload_n rfl dX12_counts_59 rfl rfl ?_
  refine V_geti (k0 := 5) rfl dX12_counts_60 s0_136 icX12 (by decide) rfl w_1194 ?_
  refine V_if_ne (t := 87) rfl rfl dX12_counts_63 (fun hc18 => ?_) (fun hc18 => ?_)
  · replace h := ifn hc18 h
    cases h
    exact V_vret dX12_counts_87 rfl (Nat.le_refl _) (Nat.le_refl _) qV_ok
  · replace h := ifp hc18 h
    refine V_aload_n rfl dX12_counts_66 rfl rfl ?_
    refine V_geti (k0 := 10) rfl dX12_counts_67 s0_136 icX12 (by decide) rfl w_1199 ?_
    refine V_if_eq (t := 87) rfl rfl dX12_counts_70 (fun hc19 => ?_) (fun hc19 => ?_)
    · replace h := ifp hc19 h
      cases h
      exact V_vret dX12_counts_87 rfl (Nat.le_refl _) (Nat.le_refl _) qV_ok
    · replace h := ifn hc19 h
      refine V_aload_n rfl dX12_counts_73 rfl rfl ?_
      refine V_sipush (v := 1000) rfl dX12_counts_74 ks_1000 ?_
      replace h := cl_e h
      obtain ⟨w20, M21, hc22, h⟩ := h
      refine V_ii (As := [.int _]) rfl dX12_counts_77 mf_X12_draw ⟨w_1607, w_99⟩ w_1605 (by decide) s0_136 rfl rfl rfl rfl ⟨rfl, rfl⟩ (t_X12_draw hc22) ?_
      refine V_aload_n rfl dX12_counts_80 rfl rfl ?_
      refine V_geti (k0 := 10) rfl dX12_counts_81 s0_136 icX12 (by decide) rfl w_1199 ?_
      refine V_icmp_lt (t := 88) rfl rfl dX12_counts_84 (fun hc23 => ?_) (fun hc23 => ?_)
      · replace h := ifp hc23 h
        refine V_aload_n rfl dX12_counts_88 rfl rfl ?_
        refine V_getr (k0 := 1) rfl dX12_counts_89 s0_136 icX12 (by decide) rfl w_1190 ?_
        refine V_bipush (v := 7) rfl dX12_counts_92 kb_7 ?_
        refine V_aload_n rfl dX12_counts_94 rfl rfl ?_
        refine V_getr (k0 := 1) rfl dX12_counts_95 s0_136 icX12 (by decide) rfl w_1190 ?_
        refine V_bipush (v := 7) rfl dX12_counts_98 kb_7 ?_
        replace h := rd_e h
        obtain ⟨hb25, h⟩ := h
        refine V_iald rfl dX12_counts_100 s0_137 hb25 ?_
        refine V_iconst (v := 1) rfl dX12_counts_101 kc_1 ?_
        refine V_iadd rfl dX12_counts_102 ?_
        replace h := wr_e h
        obtain ⟨hb27, h⟩ := h
        refine V_iast rfl dX12_counts_103 s0_137 hb27 ?_
        refine V_aload_n rfl dX12_counts_104 rfl rfl ?_
        refine V_iconst (v := 4) rfl dX12_counts_105 kc_4 ?_
        refine V_iconst (v := 0) rfl dX12_counts_106 kc_0 ?_
        replace h := cl_e h
        obtain ⟨w28, M29, hc30, h⟩ := h
        refine V_iv (As := [.int _, .int _]) rfl dX12_counts_107 mf_X12_notes ⟨w_1603, w_98⟩ w_1601 (by decide) s0_136 rfl rfl rfl rfl ⟨rfl, rfl⟩ (t_X12_notes hc30) ?_
        cases h
        exact V_vret dX12_counts_110 rfl (Nat.le_refl _) (Nat.le_refl _) qV_ok
      · replace h := ifn hc23 h
        cases h
        exact V_vret dX12_counts_87 rfl (Nat.le_refl _) (Nat.le_refl _) qV_ok
def f_X12_counts_26 (x1 : Int32) (M : IM) : IR := if x1 < (M 136 8) then rd M 137 40 5 fun v10 => wr M 137 40 5 (v10 + 1) fun M12 => if x1 ≤ 0 then f_X12_counts_59 M12 else cl (f_X12_notes 2 x1 M12) fun _ M16 => f_X12_counts_59 M16 else some (0, M)
set_option maxRecDepth 100000 in
set_option maxHeartbeats 4000000 in
theorem t_X12_counts_26 {g : IG} {a : Nat → Nat} {R : Int32 × IM} {x1 : Int32} {M : IM} (h : f_X12_counts_26 x1 M = some R) : V g mX12_counts 2 0 0 (qV S0 a R) 26 [some (.ref (a 136)), some (.int x1)] [] a S0 M 0 0 := by
  unfold f_X12_counts_26 at h
  refine V_iload_n rfl dX12_counts_26 rfl rfl ?_
  refine V_aload_n rfl dX12_counts_27 rfl rfl ?_
  refine V_geti (k0 := 8) rfl dX12_counts_28 s0_136 icX12 (by decide) rfl w_1197 ?_
  refine V_icmp_lt (t := 35) rfl rfl dX12_counts_31 (fun hc9 => ?_) (fun hc9 => ?_)
  · replace h := ifp hc9 h
    refine V_aload_n rfl dX12_counts_35 rfl rfl ?_
    refine V_getr (k0 := 1) rfl dX12_counts_36 s0_136 icX12 (by decide) rfl w_1190 ?_
    refine V_iconst (v := 5) rfl dX12_counts_39 kc_5 ?_
    refine V_aload_n rfl dX12_counts_40 rfl rfl ?_
    refine V_getr (k0 := 1) rfl dX12_counts_41 s0_136 icX12 (by decide) rfl w_1190 ?_
    refine V_iconst (v := 5) rfl dX12_counts_44 kc_5 ?_
    replace h := rd_e h
    obtain ⟨hb11, h⟩ := h
    refine V_iald rfl dX12_counts_45 s0_137 hb11 ?_
    refine V_iconst (v := 1) rfl dX12_counts_46 kc_1 ?_
    refine V_iadd rfl dX12_counts_47 ?_
    replace h := wr_e h
    obtain ⟨hb13, h⟩ := h
    refine V_iast rfl dX12_counts_48 s0_137 hb13 ?_
    refine V_iload_n rfl dX12_counts_49 rfl rfl ?_
    refine V_if_le (t := 59) rfl rfl dX12_counts_50 (fun hc14 => ?_) (fun hc14 => ?_)
    · replace h := ifp hc14 h
      exact V_sub (le_s (le_n le_0)) (t_X12_counts_59 h)
    · replace h := ifn hc14 h
      refine V_aload_n rfl dX12_counts_53 rfl rfl ?_
      refine V_iconst (v := 2) rfl dX12_counts_54 kc_2 ?_
      refine V_iload_n rfl dX12_counts_55 rfl rfl ?_
      replace h := cl_e h
      obtain ⟨w15, M16, hc17, h⟩ := h
      refine V_iv (As := [.int _, .int _]) rfl dX12_counts_56 mf_X12_notes ⟨w_1603, w_98⟩ w_1601 (by decide) s0_136 rfl rfl rfl rfl ⟨rfl, rfl⟩ (t_X12_notes hc17) ?_
      exact V_sub (le_s (le_n le_0)) (t_X12_counts_59 h)
  · replace h := ifn hc9 h
    cases h
    exact V_vret dX12_counts_34 rfl (Nat.le_refl _) (Nat.le_refl _) qV_ok
def f_X12_counts (p1 : Int32) (M : IM) : IR := if p1 = 0 then rd M 137 40 6 fun v2 => wr M 137 40 6 (v2 + 1) fun M4 => cl (f_X12_notes 1 0 M4) fun _ M7 => f_X12_counts_26 p1 M7 else f_X12_counts_26 p1 M
set_option maxRecDepth 100000 in
set_option maxHeartbeats 4000000 in
theorem t_X12_counts {g : IG} {a : Nat → Nat} {R : Int32 × IM} {p1 : Int32} {M : IM} (h : f_X12_counts p1 M = some R) : Cn g mX12_counts 2 0 0 (qV S0 a R) [.ref (a 136), .int p1] a S0 M := by
  refine Cn_of (L := [some (.ref (a 136)), some (.int p1)]) mf_X12_counts (cat_r (cat_i cat_0)) (Nat.le_of_ble_eq_true rfl) rfl ?_
  unfold f_X12_counts at h
  refine V_iload_n rfl dX12_counts_0 rfl rfl ?_
  refine V_if_ne (t := 26) rfl rfl dX12_counts_1 (fun hc1 => ?_) (fun hc1 => ?_)
  · replace h := ifn hc1 h
    exact V_sub (le_s (le_s le_0)) (t_X12_counts_26 h)
  · replace h := ifp hc1 h
    refine V_aload_n rfl dX12_counts_4 rfl rfl ?_
    refine V_getr (k0 := 1) rfl dX12_counts_5 s0_136 icX12 (by decide) rfl w_1190 ?_
    refine V_bipush (v := 6) rfl dX12_counts_8 kb_6 ?_
    refine V_aload_n rfl dX12_counts_10 rfl rfl ?_
    refine V_getr (k0 := 1) rfl dX12_counts_11 s0_136 icX12 (by decide) rfl w_1190 ?_
    refine V_bipush (v := 6) rfl dX12_counts_14 kb_6 ?_
    replace h := rd_e h
    obtain ⟨hb3, h⟩ := h
    refine V_iald rfl dX12_counts_16 s0_137 hb3 ?_
    refine V_iconst (v := 1) rfl dX12_counts_17 kc_1 ?_
    refine V_iadd rfl dX12_counts_18 ?_
    replace h := wr_e h
    obtain ⟨hb5, h⟩ := h
    refine V_iast rfl dX12_counts_19 s0_137 hb5 ?_
    refine V_aload_n rfl dX12_counts_20 rfl rfl ?_
    refine V_iconst (v := 1) rfl dX12_counts_21 kc_1 ?_
    refine V_iconst (v := 0) rfl dX12_counts_22 kc_0 ?_
    replace h := cl_e h
    obtain ⟨w6, M7, hc8, h⟩ := h
    refine V_iv (As := [.int _, .int _]) rfl dX12_counts_23 mf_X12_notes ⟨w_1603, w_98⟩ w_1601 (by decide) s0_136 rfl rfl rfl rfl ⟨rfl, rfl⟩ (t_X12_notes hc8) ?_
    exact V_sub (le_s (le_s le_0)) (t_X12_counts_26 h)
-- X12_walks: NeverHaltedModel.walks(I)V
def f_X12_walks_56 (r4 : Int32 → Int32 → Int32 → IM → IR) (x1 : Int32) (x2 : Int32) (x3 : Int32) (x4 : Int32) (y1 : Int32) (y2 : Int32) (M : IM) : IR := wr M 157 10 y1 y2 fun M42 => if x4 = 0 then lt (x2 + 0) fun v45 => lt (x3 + 1) fun v46 => r4 x1 v45 v46 M42 else cl (f_X12_eatOf x3 M42) fun w47 M48 => lt (x2 + w47) fun v50 => lt (x3 + 1) fun v51 => r4 x1 v50 v51 M48
set_option maxRecDepth 100000 in
set_option maxHeartbeats 4000000 in
theorem t_X12_walks_56 {g : IG} {a : Nat → Nat} {R : Int32 × IM} {r4 : Int32 → Int32 → Int32 → IM → IR} {x1 : Int32} {x2 : Int32} {x3 : Int32} {x4 : Int32} {y1 : Int32} {y2 : Int32} {M : IM} (hr4 : ∀ (x1 : Int32) (x2 : Int32) (x3 : Int32) (M : IM), r4 x1 x2 x3 M = some R → V g mX12_walks 7 0 0 (qV S0 a R) 4 [some (.ref (a 136)), some (.int x1), some (.int x2), some (.int x3), none] [] a S0 M 0 0) (h : f_X12_walks_56 r4 x1 x2 x3 x4 y1 y2 M = some R) : V g mX12_walks 7 0 0 (qV S0 a R) 56 [some (.ref (a 136)), some (.int x1), some (.int x2), some (.int x3), some (.int x4)] [.int y2, .int y1, .ref (a 157)] a S0 M 0 0 := by
  unfold f_X12_walks_56 at h
  replace h := wr_e h
  obtain ⟨hb43, h⟩ := h
  refine V_iast rfl dX12_walks_56 s0_157 hb43 ?_
  refine V_iload_n rfl dX12_walks_57 rfl rfl ?_
  refine V_iload rfl dX12_walks_58 rfl ?_
  refine V_if_eq (t := 71) rfl rfl dX12_walks_60 (fun hc44 => ?_) (fun hc44 => ?_)
  · replace h := ifp hc44 h
    refine V_iconst (v := 0) rfl dX12_walks_71 kc_0 ?_
    refine V_iadd rfl dX12_walks_72 ?_
    replace h := lt_e h
    refine V_istore_n (L' := [_, _, _, _, _]) rfl rfl dX12_walks_73 (by decide) rfl ?_
    replace h := lt_e h
    refine V_inc (L' := [_, _, _, _, _]) rfl dX12_walks_74 rfl kc_1 (by decide) rfl ?_
    refine V_goto (t := 4) rfl dX12_walks_77 ?_
    exact V_sub (le_s (le_s (le_s (le_s (le_n le_0))))) (hr4 _ _ _ _ h)
  · replace h := ifn hc44 h
    refine V_aload_n rfl dX12_walks_63 rfl rfl ?_
    refine V_iload_n rfl dX12_walks_64 rfl rfl ?_
    replace h := cl_e h
    obtain ⟨w47, M48, hc49, h⟩ := h
    refine V_ii (As := [.int _]) rfl dX12_walks_65 mf_X12_eatOf ⟨w_1633, w_105⟩ w_1631 (by decide) s0_136 rfl rfl rfl rfl ⟨rfl, rfl⟩ (t_X12_eatOf hc49) ?_
    refine V_goto (t := 72) rfl dX12_walks_68 ?_
    refine V_iadd rfl dX12_walks_72 ?_
    replace h := lt_e h
    refine V_istore_n (L' := [_, _, _, _, _]) rfl rfl dX12_walks_73 (by decide) rfl ?_
    replace h := lt_e h
    refine V_inc (L' := [_, _, _, _, _]) rfl dX12_walks_74 rfl kc_1 (by decide) rfl ?_
    refine V_goto (t := 4) rfl dX12_walks_77 ?_
    exact V_sub (le_s (le_s (le_s (le_s (le_n le_0))))) (hr4 _ _ _ _ h)
def f_X12_walks_26 (r4 : Int32 → Int32 → Int32 → IM → IR) (x1 : Int32) (x2 : Int32) (x3 : Int32) (y0 : Int32) (M : IM) : IR := if y0 = 0 then cl (f_X12_easeOf x3 M) fun w33 M34 => f_X12_walks_56 r4 x1 x2 x3 y0 x3 ((-w33)) M34 else cl (f_X12_clockNow M) fun w36 M37 => cl (f_X12_tireOf x3 w36 M37) fun w39 M40 => f_X12_walks_56 r4 x1 x2 x3 y0 x3 w39 M40
set_option maxRecDepth 100000 in
set_option maxHeartbeats 4000000 in
theorem t_X12_walks_26 {g : IG} {a : Nat → Nat} {R : Int32 × IM} {r4 : Int32 → Int32 → Int32 → IM → IR} {x1 : Int32} {x2 : Int32} {x3 : Int32} {y0 : Int32} {M : IM} (hr4 : ∀ (x1 : Int32) (x2 : Int32) (x3 : Int32) (M : IM), r4 x1 x2 x3 M = some R → V g mX12_walks 7 0 0 (qV S0 a R) 4 [some (.ref (a 136)), some (.int x1), some (.int x2), some (.int x3), none] [] a S0 M 0 0) (h : f_X12_walks_26 r4 x1 x2 x3 y0 M = some R) : V g mX12_walks 7 0 0 (qV S0 a R) 26 [some (.ref (a 136)), some (.int x1), some (.int x2), some (.int x3), none] [.int y0] a S0 M 0 0 := by
  unfold f_X12_walks_26 at h
  refine V_istore (L' := [_, _, _, _, _]) rfl dX12_walks_26 (by decide) rfl ?_
  refine V_aload_n rfl dX12_walks_28 rfl rfl ?_
  refine V_getr (k0 := 42) rfl dX12_walks_29 s0_136 icX12 (by decide) rfl w_1231 ?_
  refine V_iload_n rfl dX12_walks_32 rfl rfl ?_
  refine V_iload rfl dX12_walks_33 rfl ?_
  refine V_if_eq (t := 50) rfl rfl dX12_walks_35 (fun hc32 => ?_) (fun hc32 => ?_)
  · replace h := ifp hc32 h
    refine V_aload_n rfl dX12_walks_50 rfl rfl ?_
    refine V_iload_n rfl dX12_walks_51 rfl rfl ?_
    replace h := cl_e h
    obtain ⟨w33, M34, hc35, h⟩ := h
    refine V_ii (As := [.int _]) rfl dX12_walks_52 mf_X12_easeOf ⟨w_1629, w_104⟩ w_1627 (by decide) s0_136 rfl rfl rfl rfl ⟨rfl, rfl⟩ (t_X12_easeOf hc35) ?_
    refine V_ineg rfl dX12_walks_55 ?_
    exact V_sub (le_s (le_s (le_s (le_s (le_s le_0))))) (t_X12_walks_56 hr4 h)
  · replace h := ifn hc32 h
    refine V_aload_n rfl dX12_walks_38 rfl rfl ?_
    refine V_iload_n rfl dX12_walks_39 rfl rfl ?_
    refine V_aload_n rfl dX12_walks_40 rfl rfl ?_
    replace h := cl_e h
    obtain ⟨w36, M37, hc38, h⟩ := h
    refine V_ii (As := []) rfl dX12_walks_41 mf_X12_clockNow ⟨w_1551, w_85⟩ w_1549 (by decide) s0_136 rfl rfl rfl rfl ⟨rfl, rfl⟩ (t_X12_clockNow hc38) ?_
    replace h := cl_e h
    obtain ⟨w39, M40, hc41, h⟩ := h
    refine V_ii (As := [.int _, .int _]) rfl dX12_walks_44 mf_X12_tireOf ⟨w_1617, w_101⟩ w_1615 (by decide) s0_136 rfl rfl rfl rfl ⟨rfl, rfl⟩ (t_X12_tireOf hc41) ?_
    refine V_goto (t := 56) rfl dX12_walks_47 ?_
    exact V_sub (le_s (le_s (le_s (le_s (le_s le_0))))) (t_X12_walks_56 hr4 h)
def f_X12_walks_82_b (r82 : Int32 → Int32 → Int32 → IM → IR) (x1 : Int32) (x2 : Int32) (x3 : Int32) (M : IM) : IR := if (M 136 6) ≤ x3 then rd M 137 40 9 fun v4 => cl (f_X12_greater 0 (v4 - x2) M) fun w6 M7 => wr M7 137 40 9 w6 fun M9 => some (0, M9) else rd M 137 40 (10 + x3) fun v11 => rd M 157 10 x3 fun v13 => cl (f_X12_held (v11 + v13) 0 999 M) fun w15 M16 => wr M16 137 40 (10 + x3) w15 fun M18 => if ((x1 >>> (x3 &&& 31)) &&& 1) = 1 then rd M18 137 40 (20 + x3) fun v24 => cl (f_X12_lesser 999 (v24 + 1) M18) fun w26 M27 => wr M27 137 40 (20 + x3) w26 fun M29 => lt (x3 + 1) fun v31 => r82 x1 x2 v31 M29 else wr M18 137 40 (20 + x3) 0 fun M21 => lt (x3 + 1) fun v23 => r82 x1 x2 v23 M21
def f_X12_walks_82 (n : Nat) : Int32 → Int32 → Int32 → IM → IR := itr (fun _ _ _ _ => none) (f_X12_walks_82_b) n
set_option maxRecDepth 100000 in
set_option maxHeartbeats 4000000 in
theorem t_X12_walks_82 {g : IG} {a : Nat → Nat} {R : Int32 × IM} (n : Nat) : ∀ (x1 : Int32) (x2 : Int32) (x3 : Int32) (M : IM), f_X12_walks_82 n x1 x2 x3 M = some R → V g mX12_walks 7 0 0 (qV S0 a R) 82 [some (.ref (a 136)), some (.int x1), some (.int x2), some (.int x3), none] [] a S0 M 0 0 := by
  induction n with
  | zero => intro x1 x2 x3 M h; exact absurd h (fun z => by cases z)
  | succ n hr82 =>
    intro x1 x2 x3 M h
    replace h : f_X12_walks_82_b (f_X12_walks_82 n) x1 x2 x3 M = some R := h
    unfold f_X12_walks_82_b at h
    refine V_iload_n rfl dX12_walks_82 rfl rfl ?_
    refine V_aload_n rfl dX12_walks_83 rfl rfl ?_
    refine V_geti (k0 := 6) rfl dX12_walks_84 s0_136 icX12 (by decide) rfl w_1195 ?_
    refine V_icmp_ge (t := 169) rfl rfl dX12_walks_87 (fun hc3 => ?_) (fun hc3 => ?_)
    · replace h := ifp hc3 h
      refine V_aload_n rfl dX12_walks_169 rfl rfl ?_
      refine V_getr (k0 := 1) rfl dX12_walks_170 s0_136 icX12 (by decide) rfl w_1190 ?_
      refine V_bipush (v := 9) rfl dX12_walks_173 kb_9 ?_
      refine V_aload_n rfl dX12_walks_175 rfl rfl ?_
      refine V_iconst (v := 0) rfl dX12_walks_176 kc_0 ?_
      refine V_aload_n rfl dX12_walks_177 rfl rfl ?_
      refine V_getr (k0 := 1) rfl dX12_walks_178 s0_136 icX12 (by decide) rfl w_1190 ?_
      refine V_bipush (v := 9) rfl dX12_walks_181 kb_9 ?_
      replace h := rd_e h
      obtain ⟨hb5, h⟩ := h
      refine V_iald rfl dX12_walks_183 s0_137 hb5 ?_
      refine V_iload_n rfl dX12_walks_184 rfl rfl ?_
      refine V_isub rfl dX12_walks_185 ?_
      replace h := cl_e h
      obtain ⟨w6, M7, hc8, h⟩ := h
      refine V_ii (As := [.int _, .int _]) rfl dX12_walks_186 mf_X12_greater ⟨w_1641, w_107⟩ w_1639 (by decide) s0_136 rfl rfl rfl rfl ⟨rfl, rfl⟩ (t_X12_greater hc8) ?_
      replace h := wr_e h
      obtain ⟨hb10, h⟩ := h
      refine V_iast rfl dX12_walks_189 s0_137 hb10 ?_
      cases h
      exact V_vret dX12_walks_190 rfl (Nat.le_refl _) (Nat.le_refl _) qV_ok
    · replace h := ifn hc3 h
      refine V_aload_n rfl dX12_walks_90 rfl rfl ?_
      refine V_getr (k0 := 1) rfl dX12_walks_91 s0_136 icX12 (by decide) rfl w_1190 ?_
      refine V_bipush (v := 10) rfl dX12_walks_94 kb_10 ?_
      refine V_iload_n rfl dX12_walks_96 rfl rfl ?_
      refine V_iadd rfl dX12_walks_97 ?_
      refine V_aload_n rfl dX12_walks_98 rfl rfl ?_
      refine V_aload_n rfl dX12_walks_99 rfl rfl ?_
      refine V_getr (k0 := 1) rfl dX12_walks_100 s0_136 icX12 (by decide) rfl w_1190 ?_
      refine V_bipush (v := 10) rfl dX12_walks_103 kb_10 ?_
      refine V_iload_n rfl dX12_walks_105 rfl rfl ?_
      refine V_iadd rfl dX12_walks_106 ?_
      replace h := rd_e h
      obtain ⟨hb12, h⟩ := h
      refine V_iald rfl dX12_walks_107 s0_137 hb12 ?_
      refine V_aload_n rfl dX12_walks_108 rfl rfl ?_
      refine V_getr (k0 := 42) rfl dX12_walks_109 s0_136 icX12 (by decide) rfl w_1231 ?_
      refine V_iload_n rfl dX12_walks_112 rfl rfl ?_
      replace h := rd_e h
      obtain ⟨hb14, h⟩ := h
      refine V_iald rfl dX12_walks_113 s0_157 hb14 ?_
      refine V_iadd rfl dX12_walks_114 ?_
      refine V_iconst (v := 0) rfl dX12_walks_115 kc_0 ?_
      refine V_sipush (v := 999) rfl dX12_walks_116 ks_999 ?_
      replace h := cl_e h
      obtain ⟨w15, M16, hc17, h⟩ := h
      refine V_ii (As := [.int _, .int _, .int _]) rfl dX12_walks_119 mf_X12_held ⟨w_1625, w_103⟩ w_1623 (by decide) s0_136 rfl rfl rfl rfl ⟨rfl, rfl⟩ (t_X12_held hc17) ?_
      replace h := wr_e h
      obtain ⟨hb19, h⟩ := h
      refine V_iast rfl dX12_walks_122 s0_137 hb19 ?_
      refine V_aload_n rfl dX12_walks_123 rfl rfl ?_
      refine V_getr (k0 := 1) rfl dX12_walks_124 s0_136 icX12 (by decide) rfl w_1190 ?_
      refine V_bipush (v := 20) rfl dX12_walks_127 kb_20 ?_
      refine V_iload_n rfl dX12_walks_129 rfl rfl ?_
      refine V_iadd rfl dX12_walks_130 ?_
      refine V_iload_n rfl dX12_walks_131 rfl rfl ?_
      refine V_iload_n rfl dX12_walks_132 rfl rfl ?_
      refine V_ishr rfl dX12_walks_133 ?_
      refine V_iconst (v := 1) rfl dX12_walks_134 kc_1 ?_
      refine V_iand rfl dX12_walks_135 ?_
      refine V_iconst (v := 1) rfl dX12_walks_136 kc_1 ?_
      refine V_icmp_ne (t := 161) rfl rfl dX12_walks_137 (fun hc20 => ?_) (fun hc20 => ?_)
      · replace h := ifn hc20 h
        refine V_iconst (v := 0) rfl dX12_walks_161 kc_0 ?_
        replace h := wr_e h
        obtain ⟨hb22, h⟩ := h
        refine V_iast rfl dX12_walks_162 s0_137 hb22 ?_
        replace h := lt_e h
        refine V_inc (L' := [_, _, _, _, _]) rfl dX12_walks_163 rfl kc_1 (by decide) rfl ?_
        refine V_goto (t := 82) rfl dX12_walks_166 ?_
        exact V_sub (le_s (le_s (le_s (le_s (le_n le_0))))) (hr82 _ _ _ _ h)
      · replace h := ifp hc20 h
        refine V_aload_n rfl dX12_walks_140 rfl rfl ?_
        refine V_sipush (v := 999) rfl dX12_walks_141 ks_999 ?_
        refine V_aload_n rfl dX12_walks_144 rfl rfl ?_
        refine V_getr (k0 := 1) rfl dX12_walks_145 s0_136 icX12 (by decide) rfl w_1190 ?_
        refine V_bipush (v := 20) rfl dX12_walks_148 kb_20 ?_
        refine V_iload_n rfl dX12_walks_150 rfl rfl ?_
        refine V_iadd rfl dX12_walks_151 ?_
        replace h := rd_e h
        obtain ⟨hb25, h⟩ := h
        refine V_iald rfl dX12_walks_152 s0_137 hb25 ?_
        refine V_iconst (v := 1) rfl dX12_walks_153 kc_1 ?_
        refine V_iadd rfl dX12_walks_154 ?_
        replace h := cl_e h
        obtain ⟨w26, M27, hc28, h⟩ := h
        refine V_ii (As := [.int _, .int _]) rfl dX12_walks_155 mf_X12_lesser ⟨w_1637, w_106⟩ w_1635 (by decide) s0_136 rfl rfl rfl rfl ⟨rfl, rfl⟩ (t_X12_lesser hc28) ?_
        refine V_goto (t := 162) rfl dX12_walks_158 ?_
        replace h := wr_e h
        obtain ⟨hb30, h⟩ := h
        refine V_iast rfl dX12_walks_162 s0_137 hb30 ?_
        replace h := lt_e h
        refine V_inc (L' := [_, _, _, _, _]) rfl dX12_walks_163 rfl kc_1 (by decide) rfl ?_
        refine V_goto (t := 82) rfl dX12_walks_166 ?_
        exact V_sub (le_s (le_s (le_s (le_s (le_n le_0))))) (hr82 _ _ _ _ h)
def f_X12_walks_4_b (r4 : Int32 → Int32 → Int32 → IM → IR) (x1 : Int32) (x2 : Int32) (x3 : Int32) (M : IM) : IR := if (M 136 6) ≤ x3 then f_X12_walks_82 BG x1 x2 0 M else if ((x1 >>> (x3 &&& 31)) &&& 1) = 1 then f_X12_walks_26 r4 x1 x2 x3 1 M else f_X12_walks_26 r4 x1 x2 x3 0 M
def f_X12_walks_4 (n : Nat) : Int32 → Int32 → Int32 → IM → IR := itr (fun _ _ _ _ => none) (f_X12_walks_4_b) n
set_option maxRecDepth 100000 in
set_option maxHeartbeats 4000000 in
theorem t_X12_walks_4 {g : IG} {a : Nat → Nat} {R : Int32 × IM} (n : Nat) : ∀ (x1 : Int32) (x2 : Int32) (x3 : Int32) (M : IM), f_X12_walks_4 n x1 x2 x3 M = some R → V g mX12_walks 7 0 0 (qV S0 a R) 4 [some (.ref (a 136)), some (.int x1), some (.int x2), some (.int x3), none] [] a S0 M 0 0 := by
  induction n with
  | zero => intro x1 x2 x3 M h; exact absurd h (fun z => by cases z)
  | succ n hr4 =>
    intro x1 x2 x3 M h
    replace h : f_X12_walks_4_b (f_X12_walks_4 n) x1 x2 x3 M = some R := h
    unfold f_X12_walks_4_b at h
    refine V_iload_n rfl dX12_walks_4 rfl rfl ?_
    refine V_aload_n rfl dX12_walks_5 rfl rfl ?_
    refine V_geti (k0 := 6) rfl dX12_walks_6 s0_136 icX12 (by decide) rfl w_1195 ?_
    refine V_icmp_ge (t := 80) rfl rfl dX12_walks_9 (fun hc1 => ?_) (fun hc1 => ?_)
    · replace h := ifp hc1 h
      refine V_iconst (v := 0) rfl dX12_walks_80 kc_0 ?_
      refine V_istore_n (L' := [_, _, _, _, _]) rfl rfl dX12_walks_81 (by decide) rfl ?_
      exact V_sub (le_s (le_s (le_s (le_s (le_n le_0))))) (t_X12_walks_82 BG _ _ _ _ h)
    · replace h := ifn hc1 h
      refine V_iload_n rfl dX12_walks_12 rfl rfl ?_
      refine V_iload_n rfl dX12_walks_13 rfl rfl ?_
      refine V_ishr rfl dX12_walks_14 ?_
      refine V_iconst (v := 1) rfl dX12_walks_15 kc_1 ?_
      refine V_iand rfl dX12_walks_16 ?_
      refine V_iconst (v := 1) rfl dX12_walks_17 kc_1 ?_
      refine V_icmp_ne (t := 25) rfl rfl dX12_walks_18 (fun hc2 => ?_) (fun hc2 => ?_)
      · replace h := ifn hc2 h
        refine V_iconst (v := 0) rfl dX12_walks_25 kc_0 ?_
        exact V_sub (le_s (le_s (le_s (le_s (le_n le_0))))) (t_X12_walks_26 hr4 h)
      · replace h := ifp hc2 h
        refine V_iconst (v := 1) rfl dX12_walks_21 kc_1 ?_
        refine V_goto (t := 26) rfl dX12_walks_22 ?_
        exact V_sub (le_s (le_s (le_s (le_s (le_n le_0))))) (t_X12_walks_26 hr4 h)
def f_X12_walks (p1 : Int32) (M : IM) : IR := f_X12_walks_4 BG p1 0 0 M
set_option maxRecDepth 100000 in
set_option maxHeartbeats 4000000 in
theorem t_X12_walks {g : IG} {a : Nat → Nat} {R : Int32 × IM} {p1 : Int32} {M : IM} (h : f_X12_walks p1 M = some R) : Cn g mX12_walks 7 0 0 (qV S0 a R) [.ref (a 136), .int p1] a S0 M := by
  refine Cn_of (L := [some (.ref (a 136)), some (.int p1), none, none, none]) mf_X12_walks (cat_r (cat_i cat_0)) (Nat.le_of_ble_eq_true rfl) rfl ?_
  unfold f_X12_walks at h
  refine V_iconst (v := 0) rfl dX12_walks_0 kc_0 ?_
  refine V_istore_n (L' := [_, _, _, _, _]) rfl rfl dX12_walks_1 (by decide) rfl ?_
  refine V_iconst (v := 0) rfl dX12_walks_2 kc_0 ?_
  refine V_istore_n (L' := [_, _, _, _, _]) rfl rfl dX12_walks_3 (by decide) rfl ?_
  exact V_sub (le_s (le_s (le_s (le_s (le_n le_0))))) (t_X12_walks_4 BG _ _ _ _ h)
-- X12_moves: NeverHaltedModel.moves()V
def f_X12_moves_121 (M : IM) : IR := rd M 137 40 9 fun v38 => rd M 137 40 3 fun v40 => cl (f_X12_ofStone v40 3 M) fun w42 M43 => cl (f_X12_held (v38 + w42) 0 9999 M43) fun w45 M46 => wr M46 137 40 9 w45 fun M48 => rd M48 137 40 3 fun v50 => cl (f_X12_notes 0 v50 M48) fun _ M53 => some (0, M53)
set_option maxRecDepth 100000 in
set_option maxHeartbeats 4000000 in
theorem t_X12_moves_121 {g : IG} {a : Nat → Nat} {R : Int32 × IM} {M : IM} (h : f_X12_moves_121 M = some R) : V g mX12_moves 4 0 0 (qV S0 a R) 121 [some (.ref (a 136))] [] a S0 M 0 0 := by
  unfold f_X12_moves_121 at h
  refine V_aload_n rfl dX12_moves_121 rfl rfl ?_
  refine V_getr (k0 := 1) rfl dX12_moves_122 s0_136 icX12 (by decide) rfl w_1190 ?_
  refine V_bipush (v := 9) rfl dX12_moves_125 kb_9 ?_
  refine V_aload_n rfl dX12_moves_127 rfl rfl ?_
  refine V_aload_n rfl dX12_moves_128 rfl rfl ?_
  refine V_getr (k0 := 1) rfl dX12_moves_129 s0_136 icX12 (by decide) rfl w_1190 ?_
  refine V_bipush (v := 9) rfl dX12_moves_132 kb_9 ?_
  replace h := rd_e h
  obtain ⟨hb39, h⟩ := h
  refine V_iald rfl dX12_moves_134 s0_137 hb39 ?_
  refine V_aload_n rfl dX12_moves_135 rfl rfl ?_
  refine V_aload_n rfl dX12_moves_136 rfl rfl ?_
  refine V_getr (k0 := 1) rfl dX12_moves_137 s0_136 icX12 (by decide) rfl w_1190 ?_
  refine V_iconst (v := 3) rfl dX12_moves_140 kc_3 ?_
  replace h := rd_e h
  obtain ⟨hb41, h⟩ := h
  refine V_iald rfl dX12_moves_141 s0_137 hb41 ?_
  refine V_iconst (v := 3) rfl dX12_moves_142 kc_3 ?_
  replace h := cl_e h
  obtain ⟨w42, M43, hc44, h⟩ := h
  refine V_ii (As := [.int _, .int _]) rfl dX12_moves_143 mf_X12_ofStone ⟨w_1571, w_90⟩ w_1569 (by decide) s0_136 rfl rfl rfl rfl ⟨rfl, rfl⟩ (t_X12_ofStone hc44) ?_
  refine V_iadd rfl dX12_moves_146 ?_
  refine V_iconst (v := 0) rfl dX12_moves_147 kc_0 ?_
  refine V_sipush (v := 9999) rfl dX12_moves_148 ks_9999 ?_
  replace h := cl_e h
  obtain ⟨w45, M46, hc47, h⟩ := h
  refine V_ii (As := [.int _, .int _, .int _]) rfl dX12_moves_151 mf_X12_held ⟨w_1625, w_103⟩ w_1623 (by decide) s0_136 rfl rfl rfl rfl ⟨rfl, rfl⟩ (t_X12_held hc47) ?_
  replace h := wr_e h
  obtain ⟨hb49, h⟩ := h
  refine V_iast rfl dX12_moves_154 s0_137 hb49 ?_
  refine V_aload_n rfl dX12_moves_155 rfl rfl ?_
  refine V_iconst (v := 0) rfl dX12_moves_156 kc_0 ?_
  refine V_aload_n rfl dX12_moves_157 rfl rfl ?_
  refine V_getr (k0 := 1) rfl dX12_moves_158 s0_136 icX12 (by decide) rfl w_1190 ?_
  refine V_iconst (v := 3) rfl dX12_moves_161 kc_3 ?_
  replace h := rd_e h
  obtain ⟨hb51, h⟩ := h
  refine V_iald rfl dX12_moves_162 s0_137 hb51 ?_
  replace h := cl_e h
  obtain ⟨w52, M53, hc54, h⟩ := h
  refine V_iv (As := [.int _, .int _]) rfl dX12_moves_163 mf_X12_notes ⟨w_1603, w_98⟩ w_1601 (by decide) s0_136 rfl rfl rfl rfl ⟨rfl, rfl⟩ (t_X12_notes hc54) ?_
  cases h
  exact V_vret dX12_moves_166 rfl (Nat.le_refl _) (Nat.le_refl _) qV_ok
def f_X12_moves_42 (M : IM) : IR := rd M 137 40 4 fun v14 => wr M 137 40 4 (v14 + 1) fun M16 => rd M16 137 40 4 fun v18 => cl (f_X12_longHere M16) fun w20 M21 => if w20 ≤ v18 then wr M21 137 40 4 0 fun M24 => rd M24 137 40 3 fun v26 => dv (M24 136 36) <| wr M24 137 40 3 ((v26 + 1) - (v26 + 1) / (M24 136 36) * (M24 136 36)) fun M29 => rd M29 137 40 3 fun v31 => if v31 = 0 then rd M29 137 40 8 fun v34 => wr M29 137 40 8 (v34 + 1) fun M36 => f_X12_moves_121 M36 else f_X12_moves_121 M29 else some (0, M21)
set_option maxRecDepth 100000 in
set_option maxHeartbeats 4000000 in
theorem t_X12_moves_42 {g : IG} {a : Nat → Nat} {R : Int32 × IM} {M : IM} (h : f_X12_moves_42 M = some R) : V g mX12_moves 4 0 0 (qV S0 a R) 42 [some (.ref (a 136))] [] a S0 M 0 0 := by
  unfold f_X12_moves_42 at h
  refine V_aload_n rfl dX12_moves_42 rfl rfl ?_
  refine V_getr (k0 := 1) rfl dX12_moves_43 s0_136 icX12 (by decide) rfl w_1190 ?_
  refine V_iconst (v := 4) rfl dX12_moves_46 kc_4 ?_
  refine V_aload_n rfl dX12_moves_47 rfl rfl ?_
  refine V_getr (k0 := 1) rfl dX12_moves_48 s0_136 icX12 (by decide) rfl w_1190 ?_
  refine V_iconst (v := 4) rfl dX12_moves_51 kc_4 ?_
  replace h := rd_e h
  obtain ⟨hb15, h⟩ := h
  refine V_iald rfl dX12_moves_52 s0_137 hb15 ?_
  refine V_iconst (v := 1) rfl dX12_moves_53 kc_1 ?_
  refine V_iadd rfl dX12_moves_54 ?_
  replace h := wr_e h
  obtain ⟨hb17, h⟩ := h
  refine V_iast rfl dX12_moves_55 s0_137 hb17 ?_
  refine V_aload_n rfl dX12_moves_56 rfl rfl ?_
  refine V_getr (k0 := 1) rfl dX12_moves_57 s0_136 icX12 (by decide) rfl w_1190 ?_
  refine V_iconst (v := 4) rfl dX12_moves_60 kc_4 ?_
  replace h := rd_e h
  obtain ⟨hb19, h⟩ := h
  refine V_iald rfl dX12_moves_61 s0_137 hb19 ?_
  refine V_aload_n rfl dX12_moves_62 rfl rfl ?_
  replace h := cl_e h
  obtain ⟨w20, M21, hc22, h⟩ := h
  refine V_ii (As := []) rfl dX12_moves_63 mf_X12_longHere ⟨w_1579, w_92⟩ w_1577 (by decide) s0_136 rfl rfl rfl rfl ⟨rfl, rfl⟩ (t_X12_longHere hc22) ?_
  refine V_icmp_ge (t := 70) rfl rfl dX12_moves_66 (fun hc23 => ?_) (fun hc23 => ?_)
  · replace h := ifp hc23 h
    refine V_aload_n rfl dX12_moves_70 rfl rfl ?_
    refine V_getr (k0 := 1) rfl dX12_moves_71 s0_136 icX12 (by decide) rfl w_1190 ?_
    refine V_iconst (v := 4) rfl dX12_moves_74 kc_4 ?_
    refine V_iconst (v := 0) rfl dX12_moves_75 kc_0 ?_
    replace h := wr_e h
    obtain ⟨hb25, h⟩ := h
    refine V_iast rfl dX12_moves_76 s0_137 hb25 ?_
    refine V_aload_n rfl dX12_moves_77 rfl rfl ?_
    refine V_getr (k0 := 1) rfl dX12_moves_78 s0_136 icX12 (by decide) rfl w_1190 ?_
    refine V_iconst (v := 3) rfl dX12_moves_81 kc_3 ?_
    refine V_aload_n rfl dX12_moves_82 rfl rfl ?_
    refine V_getr (k0 := 1) rfl dX12_moves_83 s0_136 icX12 (by decide) rfl w_1190 ?_
    refine V_iconst (v := 3) rfl dX12_moves_86 kc_3 ?_
    replace h := rd_e h
    obtain ⟨hb27, h⟩ := h
    refine V_iald rfl dX12_moves_87 s0_137 hb27 ?_
    refine V_iconst (v := 1) rfl dX12_moves_88 kc_1 ?_
    refine V_iadd rfl dX12_moves_89 ?_
    refine V_aload_n rfl dX12_moves_90 rfl rfl ?_
    refine V_geti (k0 := 36) rfl dX12_moves_91 s0_136 icX12 (by decide) rfl w_1225 ?_
    replace h := dv_e h
    obtain ⟨hz28, h⟩ := h
    refine V_irem rfl dX12_moves_94 hz28 ?_
    replace h := wr_e h
    obtain ⟨hb30, h⟩ := h
    refine V_iast rfl dX12_moves_95 s0_137 hb30 ?_
    refine V_aload_n rfl dX12_moves_96 rfl rfl ?_
    refine V_getr (k0 := 1) rfl dX12_moves_97 s0_136 icX12 (by decide) rfl w_1190 ?_
    refine V_iconst (v := 3) rfl dX12_moves_100 kc_3 ?_
    replace h := rd_e h
    obtain ⟨hb32, h⟩ := h
    refine V_iald rfl dX12_moves_101 s0_137 hb32 ?_
    refine V_if_ne (t := 121) rfl rfl dX12_moves_102 (fun hc33 => ?_) (fun hc33 => ?_)
    · replace h := ifn hc33 h
      exact V_sub (le_s le_0) (t_X12_moves_121 h)
    · replace h := ifp hc33 h
      refine V_aload_n rfl dX12_moves_105 rfl rfl ?_
      refine V_getr (k0 := 1) rfl dX12_moves_106 s0_136 icX12 (by decide) rfl w_1190 ?_
      refine V_bipush (v := 8) rfl dX12_moves_109 kb_8 ?_
      refine V_aload_n rfl dX12_moves_111 rfl rfl ?_
      refine V_getr (k0 := 1) rfl dX12_moves_112 s0_136 icX12 (by decide) rfl w_1190 ?_
      refine V_bipush (v := 8) rfl dX12_moves_115 kb_8 ?_
      replace h := rd_e h
      obtain ⟨hb35, h⟩ := h
      refine V_iald rfl dX12_moves_117 s0_137 hb35 ?_
      refine V_iconst (v := 1) rfl dX12_moves_118 kc_1 ?_
      refine V_iadd rfl dX12_moves_119 ?_
      replace h := wr_e h
      obtain ⟨hb37, h⟩ := h
      refine V_iast rfl dX12_moves_120 s0_137 hb37 ?_
      exact V_sub (le_s le_0) (t_X12_moves_121 h)
  · replace h := ifn hc23 h
    cases h
    exact V_vret dX12_moves_69 rfl (Nat.le_refl _) (Nat.le_refl _) qV_ok
def f_X12_moves (M : IM) : IR := if (M 136 5) = 0 then if (M 136 9) ≤ 0 then f_X12_moves_42 M else cl (f_X12_isOnRiver M) fun w3 M4 => if w3 = 0 then f_X12_moves_42 M4 else cl (f_X12_draw 1000 M4) fun w7 M8 => if (M8 136 9) ≤ w7 then f_X12_moves_42 M8 else cl (f_X12_notes 3 0 M8) fun _ M12 => some (0, M12) else f_X12_moves_42 M
set_option maxRecDepth 100000 in
set_option maxHeartbeats 4000000 in
theorem t_X12_moves {g : IG} {a : Nat → Nat} {R : Int32 × IM} {M : IM} (h : f_X12_moves M = some R) : Cn g mX12_moves 4 0 0 (qV S0 a R) [.ref (a 136)] a S0 M := by
  refine Cn_of (L := [some (.ref (a 136))]) mf_X12_moves (cat_r cat_0) (Nat.le_of_ble_eq_true rfl) rfl ?_
  unfold f_X12_moves at h
  refine V_aload_n rfl dX12_moves_0 rfl rfl ?_
  refine V_geti (k0 := 5) rfl dX12_moves_1 s0_136 icX12 (by decide) rfl w_1194 ?_
  refine V_if_ne (t := 42) rfl rfl dX12_moves_4 (fun hc1 => ?_) (fun hc1 => ?_)
  · replace h := ifn hc1 h
    exact V_sub (le_s le_0) (t_X12_moves_42 h)
  · replace h := ifp hc1 h
    refine V_aload_n rfl dX12_moves_7 rfl rfl ?_
    refine V_geti (k0 := 9) rfl dX12_moves_8 s0_136 icX12 (by decide) rfl w_1198 ?_
    refine V_if_le (t := 42) rfl rfl dX12_moves_11 (fun hc2 => ?_) (fun hc2 => ?_)
    · replace h := ifp hc2 h
      exact V_sub (le_s le_0) (t_X12_moves_42 h)
    · replace h := ifn hc2 h
      refine V_aload_n rfl dX12_moves_14 rfl rfl ?_
      replace h := cl_e h
      obtain ⟨w3, M4, hc5, h⟩ := h
      refine V_ii (As := []) rfl dX12_moves_15 mf_X12_isOnRiver ⟨w_1575, w_91⟩ w_1573 (by decide) s0_136 rfl rfl rfl rfl ⟨rfl, rfl⟩ (t_X12_isOnRiver hc5) ?_
      refine V_if_eq (t := 42) rfl rfl dX12_moves_18 (fun hc6 => ?_) (fun hc6 => ?_)
      · replace h := ifp hc6 h
        exact V_sub (le_s le_0) (t_X12_moves_42 h)
      · replace h := ifn hc6 h
        refine V_aload_n rfl dX12_moves_21 rfl rfl ?_
        refine V_sipush (v := 1000) rfl dX12_moves_22 ks_1000 ?_
        replace h := cl_e h
        obtain ⟨w7, M8, hc9, h⟩ := h
        refine V_ii (As := [.int _]) rfl dX12_moves_25 mf_X12_draw ⟨w_1607, w_99⟩ w_1605 (by decide) s0_136 rfl rfl rfl rfl ⟨rfl, rfl⟩ (t_X12_draw hc9) ?_
        refine V_aload_n rfl dX12_moves_28 rfl rfl ?_
        refine V_geti (k0 := 9) rfl dX12_moves_29 s0_136 icX12 (by decide) rfl w_1198 ?_
        refine V_icmp_ge (t := 42) rfl rfl dX12_moves_32 (fun hc10 => ?_) (fun hc10 => ?_)
        · replace h := ifp hc10 h
          exact V_sub (le_s le_0) (t_X12_moves_42 h)
        · replace h := ifn hc10 h
          refine V_aload_n rfl dX12_moves_35 rfl rfl ?_
          refine V_iconst (v := 3) rfl dX12_moves_36 kc_3 ?_
          refine V_iconst (v := 0) rfl dX12_moves_37 kc_0 ?_
          replace h := cl_e h
          obtain ⟨w11, M12, hc13, h⟩ := h
          refine V_iv (As := [.int _, .int _]) rfl dX12_moves_38 mf_X12_notes ⟨w_1603, w_98⟩ w_1601 (by decide) s0_136 rfl rfl rfl rfl ⟨rfl, rfl⟩ (t_X12_notes hc13) ?_
          cases h
          exact V_vret dX12_moves_41 rfl (Nat.le_refl _) (Nat.le_refl _) qV_ok
-- X12_goesBy: NeverHaltedModel.goesBy()V
def f_X12_goesBy_34 (M : IM) : IR := rd M 137 40 0 fun v18 => wr M 137 40 0 (v18 + 1) fun M20 => some (0, M20)
set_option maxRecDepth 100000 in
set_option maxHeartbeats 4000000 in
theorem t_X12_goesBy_34 {g : IG} {a : Nat → Nat} {R : Int32 × IM} {M : IM} (h : f_X12_goesBy_34 M = some R) : V g mX12_goesBy 8 0 0 (qV S0 a R) 34 [some (.ref (a 136)), none] [] a S0 M 0 0 := by
  unfold f_X12_goesBy_34 at h
  refine V_aload_n rfl dX12_goesBy_34 rfl rfl ?_
  refine V_getr (k0 := 1) rfl dX12_goesBy_35 s0_136 icX12 (by decide) rfl w_1190 ?_
  refine V_iconst (v := 0) rfl dX12_goesBy_38 kc_0 ?_
  refine V_aload_n rfl dX12_goesBy_39 rfl rfl ?_
  refine V_getr (k0 := 1) rfl dX12_goesBy_40 s0_136 icX12 (by decide) rfl w_1190 ?_
  refine V_iconst (v := 0) rfl dX12_goesBy_43 kc_0 ?_
  replace h := rd_e h
  obtain ⟨hb19, h⟩ := h
  refine V_iald rfl dX12_goesBy_44 s0_137 hb19 ?_
  refine V_iconst (v := 1) rfl dX12_goesBy_45 kc_1 ?_
  refine V_iadd rfl dX12_goesBy_46 ?_
  replace h := wr_e h
  obtain ⟨hb21, h⟩ := h
  refine V_iast rfl dX12_goesBy_47 s0_137 hb21 ?_
  cases h
  exact V_vret dX12_goesBy_48 rfl (Nat.le_refl _) (Nat.le_refl _) qV_ok
def f_X12_goesBy (M : IM) : IR := cl (f_X12_goers M) fun w1 M2 => cl (f_X12_onesOf w1 M2) fun w4 M5 => cl (f_X12_counts w4 M5) fun _ M8 => cl (f_X12_walks w1 M8) fun _ M11 => if w1 = 0 then f_X12_goesBy_34 M11 else if (M11 136 36) ≤ 0 then f_X12_goesBy_34 M11 else cl (f_X12_moves M11) fun _ M16 => f_X12_goesBy_34 M16
set_option maxRecDepth 100000 in
set_option maxHeartbeats 4000000 in
theorem t_X12_goesBy {g : IG} {a : Nat → Nat} {R : Int32 × IM} {M : IM} (h : f_X12_goesBy M = some R) : Cn g mX12_goesBy 8 0 0 (qV S0 a R) [.ref (a 136)] a S0 M := by
  refine Cn_of (L := [some (.ref (a 136)), none]) mf_X12_goesBy (cat_r cat_0) (Nat.le_of_ble_eq_true rfl) rfl ?_
  unfold f_X12_goesBy at h
  refine V_aload_n rfl dX12_goesBy_0 rfl rfl ?_
  replace h := cl_e h
  obtain ⟨w1, M2, hc3, h⟩ := h
  refine V_ii (As := []) rfl dX12_goesBy_1 mf_X12_goers ⟨w_1547, w_84⟩ w_1545 (by decide) s0_136 rfl rfl rfl rfl ⟨rfl, rfl⟩ (t_X12_goers hc3) ?_
  refine V_istore_n (L' := [_, _]) rfl rfl dX12_goesBy_4 (by decide) rfl ?_
  refine V_aload_n rfl dX12_goesBy_5 rfl rfl ?_
  refine V_aload_n rfl dX12_goesBy_6 rfl rfl ?_
  refine V_iload_n rfl dX12_goesBy_7 rfl rfl ?_
  replace h := cl_e h
  obtain ⟨w4, M5, hc6, h⟩ := h
  refine V_ii (As := [.int _]) rfl dX12_goesBy_8 mf_X12_onesOf ⟨w_1595, w_96⟩ w_1593 (by decide) s0_136 rfl rfl rfl rfl ⟨rfl, rfl⟩ (t_X12_onesOf hc6) ?_
  replace h := cl_e h
  obtain ⟨w7, M8, hc9, h⟩ := h
  refine V_iv (As := [.int _]) rfl dX12_goesBy_11 mf_X12_counts ⟨w_1599, w_97⟩ w_1597 (by decide) s0_136 rfl rfl rfl rfl ⟨rfl, rfl⟩ (t_X12_counts hc9) ?_
  refine V_aload_n rfl dX12_goesBy_14 rfl rfl ?_
  refine V_iload_n rfl dX12_goesBy_15 rfl rfl ?_
  replace h := cl_e h
  obtain ⟨w10, M11, hc12, h⟩ := h
  refine V_iv (As := [.int _]) rfl dX12_goesBy_16 mf_X12_walks ⟨w_1613, w_100⟩ w_1611 (by decide) s0_136 rfl rfl rfl rfl ⟨rfl, rfl⟩ (t_X12_walks hc12) ?_
  refine V_iload_n rfl dX12_goesBy_19 rfl rfl ?_
  refine V_if_eq (t := 34) rfl rfl dX12_goesBy_20 (fun hc13 => ?_) (fun hc13 => ?_)
  · replace h := ifp hc13 h
    exact V_sub (le_s (le_n le_0)) (t_X12_goesBy_34 h)
  · replace h := ifn hc13 h
    refine V_aload_n rfl dX12_goesBy_23 rfl rfl ?_
    refine V_geti (k0 := 36) rfl dX12_goesBy_24 s0_136 icX12 (by decide) rfl w_1225 ?_
    refine V_if_le (t := 34) rfl rfl dX12_goesBy_27 (fun hc14 => ?_) (fun hc14 => ?_)
    · replace h := ifp hc14 h
      exact V_sub (le_s (le_n le_0)) (t_X12_goesBy_34 h)
    · replace h := ifn hc14 h
      refine V_aload_n rfl dX12_goesBy_30 rfl rfl ?_
      replace h := cl_e h
      obtain ⟨w15, M16, hc17, h⟩ := h
      refine V_iv (As := []) rfl dX12_goesBy_31 mf_X12_moves ⟨w_1645, w_108⟩ w_1643 (by decide) s0_136 rfl rfl rfl rfl ⟨rfl, rfl⟩ (t_X12_moves hc17) ?_
      exact V_sub (le_s (le_n le_0)) (t_X12_goesBy_34 h)
-- X12_hours: NeverHaltedModel.hours(I)I
def f_X12_hours_41_b (r41 : Int32 → Int32 → Int32 → IM → IR) (x1 : Int32) (x2 : Int32) (x3 : Int32) (M : IM) : IR := if x1 ≤ x3 then rd M 137 40 5 fun v12 => some ((v12 - x2), M) else cl (f_X12_keepsAhead M) fun _ M15 => cl (f_X12_goesBy M15) fun _ M18 => lt (x3 + 1) fun v20 => r41 x1 x2 v20 M18
def f_X12_hours_41 (n : Nat) : Int32 → Int32 → Int32 → IM → IR := itr (fun _ _ _ _ => none) (f_X12_hours_41_b) n
set_option maxRecDepth 100000 in
set_option maxHeartbeats 4000000 in
theorem t_X12_hours_41 {g : IG} {a : Nat → Nat} {R : Int32 × IM} (n : Nat) : ∀ (x1 : Int32) (x2 : Int32) (x3 : Int32) (M : IM), f_X12_hours_41 n x1 x2 x3 M = some R → V g mX12_hours 9 0 0 (qI S0 a R) 41 [some (.ref (a 136)), some (.int x1), some (.int x2), some (.int x3)] [] a S0 M 0 0 := by
  induction n with
  | zero => intro x1 x2 x3 M h; exact absurd h (fun z => by cases z)
  | succ n hr41 =>
    intro x1 x2 x3 M h
    replace h : f_X12_hours_41_b (f_X12_hours_41 n) x1 x2 x3 M = some R := h
    unfold f_X12_hours_41_b at h
    refine V_iload_n rfl dX12_hours_41 rfl rfl ?_
    refine V_iload_n rfl dX12_hours_42 rfl rfl ?_
    refine V_icmp_ge (t := 60) rfl rfl dX12_hours_43 (fun hc11 => ?_) (fun hc11 => ?_)
    · replace h := ifp hc11 h
      refine V_aload_n rfl dX12_hours_60 rfl rfl ?_
      refine V_getr (k0 := 1) rfl dX12_hours_61 s0_136 icX12 (by decide) rfl w_1190 ?_
      refine V_iconst (v := 5) rfl dX12_hours_64 kc_5 ?_
      replace h := rd_e h
      obtain ⟨hb13, h⟩ := h
      refine V_iald rfl dX12_hours_65 s0_137 hb13 ?_
      refine V_iload_n rfl dX12_hours_66 rfl rfl ?_
      refine V_isub rfl dX12_hours_67 ?_
      cases h
      exact V_iret dX12_hours_68 rfl rfl (Nat.le_refl _) (Nat.le_refl _) qI_ok
    · replace h := ifn hc11 h
      refine V_aload_n rfl dX12_hours_46 rfl rfl ?_
      replace h := cl_e h
      obtain ⟨w14, M15, hc16, h⟩ := h
      refine V_iv (As := []) rfl dX12_hours_47 mf_X12_keepsAhead ⟨w_1539, w_82⟩ w_1537 (by decide) s0_136 rfl rfl rfl rfl ⟨rfl, rfl⟩ (t_X12_keepsAhead hc16) ?_
      refine V_aload_n rfl dX12_hours_50 rfl rfl ?_
      replace h := cl_e h
      obtain ⟨w17, M18, hc19, h⟩ := h
      refine V_iv (As := []) rfl dX12_hours_51 mf_X12_goesBy ⟨w_1543, w_83⟩ w_1541 (by decide) s0_136 rfl rfl rfl rfl ⟨rfl, rfl⟩ (t_X12_goesBy hc19) ?_
      replace h := lt_e h
      refine V_inc (L' := [_, _, _, _]) rfl dX12_hours_54 rfl kc_1 (by decide) rfl ?_
      refine V_goto (t := 41) rfl dX12_hours_57 ?_
      exact V_sub (le_s (le_s (le_s (le_s le_0)))) (hr41 _ _ _ _ h)
def f_X12_hours (p1 : Int32) (M : IM) : IR := pt M 136 0 0 fun M1 => cl (f_X12_isIn p1 1 99 M1) fun w2 M3 => if w2 = 0 then some ((-1), M3) else rd M3 137 40 0 fun v6 => if (v6 + p1) ≤ 9999 then rd M3 137 40 5 fun v9 => f_X12_hours_41 BG p1 v9 0 M3 else some ((-1), M3)
set_option maxRecDepth 100000 in
set_option maxHeartbeats 4000000 in
theorem t_X12_hours {g : IG} {a : Nat → Nat} {R : Int32 × IM} {p1 : Int32} {M : IM} (h : f_X12_hours p1 M = some R) : Cn g mX12_hours 9 0 0 (qI S0 a R) [.ref (a 136), .int p1] a S0 M := by
  refine Cn_of (L := [some (.ref (a 136)), some (.int p1), none, none]) mf_X12_hours (cat_r (cat_i cat_0)) (Nat.le_of_ble_eq_true rfl) rfl ?_
  unfold f_X12_hours at h
  refine V_aload_n rfl dX12_hours_0 rfl rfl ?_
  refine V_iconst (v := 0) rfl dX12_hours_1 kc_0 ?_
  replace h := pt_e h
  refine V_putf (k0 := 0) (ty := .int) rfl dX12_hours_2 s0_136 icX12 tyX12_ok nmX12 (by decide) rfl w_1189 rfl (tyX12_ok _ (by decide)) rfl rfl ?_
  refine V_aload_n rfl dX12_hours_5 rfl rfl ?_
  refine V_iload_n rfl dX12_hours_6 rfl rfl ?_
  refine V_iconst (v := 1) rfl dX12_hours_7 kc_1 ?_
  refine V_bipush (v := 99) rfl dX12_hours_8 kb_99 ?_
  replace h := cl_e h
  obtain ⟨w2, M3, hc4, h⟩ := h
  refine V_ii (As := [.int _, .int _, .int _]) rfl dX12_hours_10 mf_X12_isIn ⟨w_1367, w_47⟩ w_1365 (by decide) s0_136 rfl rfl rfl rfl ⟨rfl, rfl⟩ (t_X12_isIn hc4) ?_
  refine V_if_eq (t := 30) rfl rfl dX12_hours_13 (fun hc5 => ?_) (fun hc5 => ?_)
  · replace h := ifp hc5 h
    refine V_iconst (v := (-1)) rfl dX12_hours_30 kc_m1 ?_
    cases h
    exact V_iret dX12_hours_31 rfl rfl (Nat.le_refl _) (Nat.le_refl _) qI_ok
  · replace h := ifn hc5 h
    refine V_aload_n rfl dX12_hours_16 rfl rfl ?_
    refine V_getr (k0 := 1) rfl dX12_hours_17 s0_136 icX12 (by decide) rfl w_1190 ?_
    refine V_iconst (v := 0) rfl dX12_hours_20 kc_0 ?_
    replace h := rd_e h
    obtain ⟨hb7, h⟩ := h
    refine V_iald rfl dX12_hours_21 s0_137 hb7 ?_
    refine V_iload_n rfl dX12_hours_22 rfl rfl ?_
    refine V_iadd rfl dX12_hours_23 ?_
    refine V_sipush (v := 9999) rfl dX12_hours_24 ks_9999 ?_
    refine V_icmp_le (t := 32) rfl rfl dX12_hours_27 (fun hc8 => ?_) (fun hc8 => ?_)
    · replace h := ifp hc8 h
      refine V_aload_n rfl dX12_hours_32 rfl rfl ?_
      refine V_getr (k0 := 1) rfl dX12_hours_33 s0_136 icX12 (by decide) rfl w_1190 ?_
      refine V_iconst (v := 5) rfl dX12_hours_36 kc_5 ?_
      replace h := rd_e h
      obtain ⟨hb10, h⟩ := h
      refine V_iald rfl dX12_hours_37 s0_137 hb10 ?_
      refine V_istore_n (L' := [_, _, _, _]) rfl rfl dX12_hours_38 (by decide) rfl ?_
      refine V_iconst (v := 0) rfl dX12_hours_39 kc_0 ?_
      refine V_istore_n (L' := [_, _, _, _]) rfl rfl dX12_hours_40 (by decide) rfl ?_
      exact V_sub (le_s (le_s (le_s (le_s le_0)))) (t_X12_hours_41 BG _ _ _ _ h)
    · replace h := ifn hc8 h
      refine V_iconst (v := (-1)) rfl dX12_hours_30 kc_m1 ?_
      cases h
      exact V_iret dX12_hours_31 rfl rfl (Nat.le_refl _) (Nat.le_refl _) qI_ok
-- X12_move: NeverHaltedModel.move(II)Z
def f_X12_move (p1 : Int32) (p2 : Int32) (M : IM) : IR := pt M 136 0 0 fun M1 => cl (f_X12_isWalker p1 M1) fun w2 M3 => if w2 = 0 then some (0, M3) else cl (f_X12_isParish p2 M3) fun w6 M7 => if w6 = 0 then some (0, M7) else rd M7 137 40 (30 + p1) fun v10 => if v10 = p2 then some (0, M7) else cl (f_X12_keepsAhead M7) fun _ M14 => wr M14 137 40 (30 + p1) p2 fun M16 => some (1, M16)
set_option maxRecDepth 100000 in
set_option maxHeartbeats 4000000 in
theorem t_X12_move {g : IG} {a : Nat → Nat} {R : Int32 × IM} {p1 : Int32} {p2 : Int32} {M : IM} (h : f_X12_move p1 p2 M = some R) : Cn g mX12_move 2 0 0 (qI S0 a R) [.ref (a 136), .int p1, .int p2] a S0 M := by
  refine Cn_of (L := [some (.ref (a 136)), some (.int p1), some (.int p2)]) mf_X12_move (cat_r (cat_i (cat_i cat_0))) (Nat.le_of_ble_eq_true rfl) rfl ?_
  unfold f_X12_move at h
  refine V_aload_n rfl dX12_move_0 rfl rfl ?_
  refine V_iconst (v := 0) rfl dX12_move_1 kc_0 ?_
  replace h := pt_e h
  refine V_putf (k0 := 0) (ty := .int) rfl dX12_move_2 s0_136 icX12 tyX12_ok nmX12 (by decide) rfl w_1189 rfl (tyX12_ok _ (by decide)) rfl rfl ?_
  refine V_aload_n rfl dX12_move_5 rfl rfl ?_
  refine V_iload_n rfl dX12_move_6 rfl rfl ?_
  replace h := cl_e h
  obtain ⟨w2, M3, hc4, h⟩ := h
  refine V_ii (As := [.int _]) rfl dX12_move_7 mf_X12_isWalker ⟨w_1379, w_49⟩ w_1377 (by decide) s0_136 rfl rfl rfl rfl ⟨rfl, rfl⟩ (t_X12_isWalker hc4) ?_
  refine V_if_eq (t := 34) rfl rfl dX12_move_10 (fun hc5 => ?_) (fun hc5 => ?_)
  · replace h := ifp hc5 h
    refine V_iconst (v := 0) rfl dX12_move_34 kc_0 ?_
    cases h
    exact V_iret dX12_move_35 rfl nz_0 (Nat.le_refl _) (Nat.le_refl _) qI_ok
  · replace h := ifn hc5 h
    refine V_aload_n rfl dX12_move_13 rfl rfl ?_
    refine V_iload_n rfl dX12_move_14 rfl rfl ?_
    replace h := cl_e h
    obtain ⟨w6, M7, hc8, h⟩ := h
    refine V_ii (As := [.int _]) rfl dX12_move_15 mf_X12_isParish ⟨w_1363, w_46⟩ w_1361 (by decide) s0_136 rfl rfl rfl rfl ⟨rfl, rfl⟩ (t_X12_isParish hc8) ?_
    refine V_if_eq (t := 34) rfl rfl dX12_move_18 (fun hc9 => ?_) (fun hc9 => ?_)
    · replace h := ifp hc9 h
      refine V_iconst (v := 0) rfl dX12_move_34 kc_0 ?_
      cases h
      exact V_iret dX12_move_35 rfl nz_0 (Nat.le_refl _) (Nat.le_refl _) qI_ok
    · replace h := ifn hc9 h
      refine V_aload_n rfl dX12_move_21 rfl rfl ?_
      refine V_getr (k0 := 1) rfl dX12_move_22 s0_136 icX12 (by decide) rfl w_1190 ?_
      refine V_bipush (v := 30) rfl dX12_move_25 kb_30 ?_
      refine V_iload_n rfl dX12_move_27 rfl rfl ?_
      refine V_iadd rfl dX12_move_28 ?_
      replace h := rd_e h
      obtain ⟨hb11, h⟩ := h
      refine V_iald rfl dX12_move_29 s0_137 hb11 ?_
      refine V_iload_n rfl dX12_move_30 rfl rfl ?_
      refine V_icmp_ne (t := 36) rfl rfl dX12_move_31 (fun hc12 => ?_) (fun hc12 => ?_)
      · replace h := ifn hc12 h
        refine V_aload_n rfl dX12_move_36 rfl rfl ?_
        replace h := cl_e h
        obtain ⟨w13, M14, hc15, h⟩ := h
        refine V_iv (As := []) rfl dX12_move_37 mf_X12_keepsAhead ⟨w_1539, w_82⟩ w_1537 (by decide) s0_136 rfl rfl rfl rfl ⟨rfl, rfl⟩ (t_X12_keepsAhead hc15) ?_
        refine V_aload_n rfl dX12_move_40 rfl rfl ?_
        refine V_getr (k0 := 1) rfl dX12_move_41 s0_136 icX12 (by decide) rfl w_1190 ?_
        refine V_bipush (v := 30) rfl dX12_move_44 kb_30 ?_
        refine V_iload_n rfl dX12_move_46 rfl rfl ?_
        refine V_iadd rfl dX12_move_47 ?_
        refine V_iload_n rfl dX12_move_48 rfl rfl ?_
        replace h := wr_e h
        obtain ⟨hb17, h⟩ := h
        refine V_iast rfl dX12_move_49 s0_137 hb17 ?_
        refine V_iconst (v := 1) rfl dX12_move_50 kc_1 ?_
        cases h
        exact V_iret dX12_move_51 rfl nz_1 (Nat.le_refl _) (Nat.le_refl _) qI_ok
      · replace h := ifp hc12 h
        refine V_iconst (v := 0) rfl dX12_move_34 kc_0 ?_
        cases h
        exact V_iret dX12_move_35 rfl nz_0 (Nat.le_refl _) (Nat.le_refl _) qI_ok
-- X12_carry: NeverHaltedModel.carry(I)I
def f_X12_carry (p1 : Int32) (M : IM) : IR := pt M 136 0 0 fun M1 => cl (f_X12_isIn p1 1 999 M1) fun w2 M3 => if w2 = 0 then some ((-1), M3) else rd M3 137 40 9 fun v6 => if (v6 + p1) ≤ 9999 then cl (f_X12_keepsAhead M3) fun _ M10 => rd M10 137 40 9 fun v12 => wr M10 137 40 9 (v12 + p1) fun M14 => rd M14 137 40 9 fun v16 => some (v16, M14) else some ((-1), M3)
set_option maxRecDepth 100000 in
set_option maxHeartbeats 4000000 in
theorem t_X12_carry {g : IG} {a : Nat → Nat} {R : Int32 × IM} {p1 : Int32} {M : IM} (h : f_X12_carry p1 M = some R) : Cn g mX12_carry 2 0 0 (qI S0 a R) [.ref (a 136), .int p1] a S0 M := by
  refine Cn_of (L := [some (.ref (a 136)), some (.int p1)]) mf_X12_carry (cat_r (cat_i cat_0)) (Nat.le_of_ble_eq_true rfl) rfl ?_
  unfold f_X12_carry at h
  refine V_aload_n rfl dX12_carry_0 rfl rfl ?_
  refine V_iconst (v := 0) rfl dX12_carry_1 kc_0 ?_
  replace h := pt_e h
  refine V_putf (k0 := 0) (ty := .int) rfl dX12_carry_2 s0_136 icX12 tyX12_ok nmX12 (by decide) rfl w_1189 rfl (tyX12_ok _ (by decide)) rfl rfl ?_
  refine V_aload_n rfl dX12_carry_5 rfl rfl ?_
  refine V_iload_n rfl dX12_carry_6 rfl rfl ?_
  refine V_iconst (v := 1) rfl dX12_carry_7 kc_1 ?_
  refine V_sipush (v := 999) rfl dX12_carry_8 ks_999 ?_
  replace h := cl_e h
  obtain ⟨w2, M3, hc4, h⟩ := h
  refine V_ii (As := [.int _, .int _, .int _]) rfl dX12_carry_11 mf_X12_isIn ⟨w_1367, w_47⟩ w_1365 (by decide) s0_136 rfl rfl rfl rfl ⟨rfl, rfl⟩ (t_X12_isIn hc4) ?_
  refine V_if_eq (t := 32) rfl rfl dX12_carry_14 (fun hc5 => ?_) (fun hc5 => ?_)
  · replace h := ifp hc5 h
    refine V_iconst (v := (-1)) rfl dX12_carry_32 kc_m1 ?_
    cases h
    exact V_iret dX12_carry_33 rfl rfl (Nat.le_refl _) (Nat.le_refl _) qI_ok
  · replace h := ifn hc5 h
    refine V_aload_n rfl dX12_carry_17 rfl rfl ?_
    refine V_getr (k0 := 1) rfl dX12_carry_18 s0_136 icX12 (by decide) rfl w_1190 ?_
    refine V_bipush (v := 9) rfl dX12_carry_21 kb_9 ?_
    replace h := rd_e h
    obtain ⟨hb7, h⟩ := h
    refine V_iald rfl dX12_carry_23 s0_137 hb7 ?_
    refine V_iload_n rfl dX12_carry_24 rfl rfl ?_
    refine V_iadd rfl dX12_carry_25 ?_
    refine V_sipush (v := 9999) rfl dX12_carry_26 ks_9999 ?_
    refine V_icmp_le (t := 34) rfl rfl dX12_carry_29 (fun hc8 => ?_) (fun hc8 => ?_)
    · replace h := ifp hc8 h
      refine V_aload_n rfl dX12_carry_34 rfl rfl ?_
      replace h := cl_e h
      obtain ⟨w9, M10, hc11, h⟩ := h
      refine V_iv (As := []) rfl dX12_carry_35 mf_X12_keepsAhead ⟨w_1539, w_82⟩ w_1537 (by decide) s0_136 rfl rfl rfl rfl ⟨rfl, rfl⟩ (t_X12_keepsAhead hc11) ?_
      refine V_aload_n rfl dX12_carry_38 rfl rfl ?_
      refine V_getr (k0 := 1) rfl dX12_carry_39 s0_136 icX12 (by decide) rfl w_1190 ?_
      refine V_bipush (v := 9) rfl dX12_carry_42 kb_9 ?_
      refine V_aload_n rfl dX12_carry_44 rfl rfl ?_
      refine V_getr (k0 := 1) rfl dX12_carry_45 s0_136 icX12 (by decide) rfl w_1190 ?_
      refine V_bipush (v := 9) rfl dX12_carry_48 kb_9 ?_
      replace h := rd_e h
      obtain ⟨hb13, h⟩ := h
      refine V_iald rfl dX12_carry_50 s0_137 hb13 ?_
      refine V_iload_n rfl dX12_carry_51 rfl rfl ?_
      refine V_iadd rfl dX12_carry_52 ?_
      replace h := wr_e h
      obtain ⟨hb15, h⟩ := h
      refine V_iast rfl dX12_carry_53 s0_137 hb15 ?_
      refine V_aload_n rfl dX12_carry_54 rfl rfl ?_
      refine V_getr (k0 := 1) rfl dX12_carry_55 s0_136 icX12 (by decide) rfl w_1190 ?_
      refine V_bipush (v := 9) rfl dX12_carry_58 kb_9 ?_
      replace h := rd_e h
      obtain ⟨hb17, h⟩ := h
      refine V_iald rfl dX12_carry_60 s0_137 hb17 ?_
      cases h
      exact V_iret dX12_carry_61 rfl rfl (Nat.le_refl _) (Nat.le_refl _) qI_ok
    · replace h := ifn hc8 h
      refine V_iconst (v := (-1)) rfl dX12_carry_32 kc_m1 ?_
      cases h
      exact V_iret dX12_carry_33 rfl rfl (Nat.le_refl _) (Nat.le_refl _) qI_ok
-- X12_clocksOf: NeverHaltedModel.clocksOf(I)I
def f_X12_clocksOf_4_b (r4 : Int32 → Int32 → Int32 → IM → IR) (x1 : Int32) (x2 : Int32) (x3 : Int32) (M : IM) : IR := if 24 ≤ x3 then some (x2, M) else cl (f_X12_shiftsAt x3 M) fun w2 M3 => if ((w2 >>> (x1 &&& 31)) &&& 1) = 1 then lt (x2 ||| ((1 : Int32) <<< (x3 &&& 31))) fun v7 => lt (x3 + 1) fun v8 => r4 x1 v7 v8 M3 else lt (x3 + 1) fun v6 => r4 x1 x2 v6 M3
def f_X12_clocksOf_4 (n : Nat) : Int32 → Int32 → Int32 → IM → IR := itr (fun _ _ _ _ => none) (f_X12_clocksOf_4_b) n
set_option maxRecDepth 100000 in
set_option maxHeartbeats 4000000 in
theorem t_X12_clocksOf_4 {g : IG} {a : Nat → Nat} {R : Int32 × IM} (n : Nat) : ∀ (x1 : Int32) (x2 : Int32) (x3 : Int32) (M : IM), f_X12_clocksOf_4 n x1 x2 x3 M = some R → V g mX12_clocksOf 3 0 0 (qI S0 a R) 4 [some (.ref (a 136)), some (.int x1), some (.int x2), some (.int x3)] [] a S0 M 0 0 := by
  induction n with
  | zero => intro x1 x2 x3 M h; exact absurd h (fun z => by cases z)
  | succ n hr4 =>
    intro x1 x2 x3 M h
    replace h : f_X12_clocksOf_4_b (f_X12_clocksOf_4 n) x1 x2 x3 M = some R := h
    unfold f_X12_clocksOf_4_b at h
    refine V_iload_n rfl dX12_clocksOf_4 rfl rfl ?_
    refine V_bipush (v := 24) rfl dX12_clocksOf_5 kb_24 ?_
    refine V_icmp_ge (t := 35) rfl rfl dX12_clocksOf_7 (fun hc1 => ?_) (fun hc1 => ?_)
    · replace h := ifp hc1 h
      refine V_iload_n rfl dX12_clocksOf_35 rfl rfl ?_
      cases h
      exact V_iret dX12_clocksOf_36 rfl rfl (Nat.le_refl _) (Nat.le_refl _) qI_ok
    · replace h := ifn hc1 h
      refine V_aload_n rfl dX12_clocksOf_10 rfl rfl ?_
      refine V_iload_n rfl dX12_clocksOf_11 rfl rfl ?_
      replace h := cl_e h
      obtain ⟨w2, M3, hc4, h⟩ := h
      refine V_ii (As := [.int _]) rfl dX12_clocksOf_12 mf_X12_shiftsAt ⟨w_1555, w_86⟩ w_1553 (by decide) s0_136 rfl rfl rfl rfl ⟨rfl, rfl⟩ (t_X12_shiftsAt hc4) ?_
      refine V_iload_n rfl dX12_clocksOf_15 rfl rfl ?_
      refine V_ishr rfl dX12_clocksOf_16 ?_
      refine V_iconst (v := 1) rfl dX12_clocksOf_17 kc_1 ?_
      refine V_iand rfl dX12_clocksOf_18 ?_
      refine V_iconst (v := 1) rfl dX12_clocksOf_19 kc_1 ?_
      refine V_icmp_ne (t := 29) rfl rfl dX12_clocksOf_20 (fun hc5 => ?_) (fun hc5 => ?_)
      · replace h := ifn hc5 h
        replace h := lt_e h
        refine V_inc (L' := [_, _, _, _]) rfl dX12_clocksOf_29 rfl kc_1 (by decide) rfl ?_
        refine V_goto (t := 4) rfl dX12_clocksOf_32 ?_
        exact V_sub (le_s (le_s (le_s (le_s le_0)))) (hr4 _ _ _ _ h)
      · replace h := ifp hc5 h
        refine V_iload_n rfl dX12_clocksOf_23 rfl rfl ?_
        refine V_iconst (v := 1) rfl dX12_clocksOf_24 kc_1 ?_
        refine V_iload_n rfl dX12_clocksOf_25 rfl rfl ?_
        refine V_ishl rfl dX12_clocksOf_26 ?_
        refine V_ior rfl dX12_clocksOf_27 ?_
        replace h := lt_e h
        refine V_istore_n (L' := [_, _, _, _]) rfl rfl dX12_clocksOf_28 (by decide) rfl ?_
        replace h := lt_e h
        refine V_inc (L' := [_, _, _, _]) rfl dX12_clocksOf_29 rfl kc_1 (by decide) rfl ?_
        refine V_goto (t := 4) rfl dX12_clocksOf_32 ?_
        exact V_sub (le_s (le_s (le_s (le_s le_0)))) (hr4 _ _ _ _ h)
def f_X12_clocksOf (p1 : Int32) (M : IM) : IR := f_X12_clocksOf_4 BG p1 0 0 M
set_option maxRecDepth 100000 in
set_option maxHeartbeats 4000000 in
theorem t_X12_clocksOf {g : IG} {a : Nat → Nat} {R : Int32 × IM} {p1 : Int32} {M : IM} (h : f_X12_clocksOf p1 M = some R) : Cn g mX12_clocksOf 3 0 0 (qI S0 a R) [.ref (a 136), .int p1] a S0 M := by
  refine Cn_of (L := [some (.ref (a 136)), some (.int p1), none, none]) mf_X12_clocksOf (cat_r (cat_i cat_0)) (Nat.le_of_ble_eq_true rfl) rfl ?_
  unfold f_X12_clocksOf at h
  refine V_iconst (v := 0) rfl dX12_clocksOf_0 kc_0 ?_
  refine V_istore_n (L' := [_, _, _, _]) rfl rfl dX12_clocksOf_1 (by decide) rfl ?_
  refine V_iconst (v := 0) rfl dX12_clocksOf_2 kc_0 ?_
  refine V_istore_n (L' := [_, _, _, _]) rfl rfl dX12_clocksOf_3 (by decide) rfl ?_
  exact V_sub (le_s (le_s (le_s (le_s le_0)))) (t_X12_clocksOf_4 BG _ _ _ _ h)
-- X12_of: NeverHaltedModel.of(II)I
def f_X12_of (p1 : Int32) (p2 : Int32) (M : IM) : IR := pt M 136 0 0 fun M1 => cl (f_X12_isWalker p1 M1) fun w2 M3 => if w2 = 0 then some ((-2), M3) else if p2 = 0 then rd M3 137 40 (30 + p1) fun v39 => some (v39, M3) else if p2 = 1 then rd M3 140 10 p1 fun v37 => some (v37, M3) else if p2 = 2 then rd M3 137 40 (10 + p1) fun v35 => some (v35, M3) else if p2 = 3 then rd M3 137 40 (20 + p1) fun v33 => some (v33, M3) else if p2 = 4 then cl (f_X12_goers M3) fun w30 M31 => some (((w30 >>> (p1 &&& 31)) &&& 1), M31) else if p2 = 5 then cl (f_X12_clockNow M3) fun w24 M25 => cl (f_X12_tireOf p1 w24 M25) fun w27 M28 => some (w27, M28) else if p2 = 6 then cl (f_X12_easeOf p1 M3) fun w21 M22 => some (w21, M22) else if p2 = 7 then cl (f_X12_eatOf p1 M3) fun w18 M19 => some (w18, M19) else if p2 = 8 then cl (f_X12_clocksOf p1 M3) fun w15 M16 => some (w15, M16) else some ((-2), M3)
set_option maxRecDepth 100000 in
set_option maxHeartbeats 4000000 in
theorem t_X12_of {g : IG} {a : Nat → Nat} {R : Int32 × IM} {p1 : Int32} {p2 : Int32} {M : IM} (h : f_X12_of p1 p2 M = some R) : Cn g mX12_of 7 0 0 (qI S0 a R) [.ref (a 136), .int p1, .int p2] a S0 M := by
  refine Cn_of (L := [some (.ref (a 136)), some (.int p1), some (.int p2)]) mf_X12_of (cat_r (cat_i (cat_i cat_0))) (Nat.le_of_ble_eq_true rfl) rfl ?_
  unfold f_X12_of at h
  refine V_aload_n rfl dX12_of_0 rfl rfl ?_
  refine V_iconst (v := 0) rfl dX12_of_1 kc_0 ?_
  replace h := pt_e h
  refine V_putf (k0 := 0) (ty := .int) rfl dX12_of_2 s0_136 icX12 tyX12_ok nmX12 (by decide) rfl w_1189 rfl (tyX12_ok _ (by decide)) rfl rfl ?_
  refine V_aload_n rfl dX12_of_5 rfl rfl ?_
  refine V_iload_n rfl dX12_of_6 rfl rfl ?_
  replace h := cl_e h
  obtain ⟨w2, M3, hc4, h⟩ := h
  refine V_ii (As := [.int _]) rfl dX12_of_7 mf_X12_isWalker ⟨w_1379, w_49⟩ w_1377 (by decide) s0_136 rfl rfl rfl rfl ⟨rfl, rfl⟩ (t_X12_isWalker hc4) ?_
  refine V_if_ne (t := 16) rfl rfl dX12_of_10 (fun hc5 => ?_) (fun hc5 => ?_)
  · replace h := ifn hc5 h
    refine V_iload_n rfl dX12_of_16 rfl rfl ?_
    refine V_if_ne (t := 30) rfl rfl dX12_of_17 (fun hc6 => ?_) (fun hc6 => ?_)
    · replace h := ifn hc6 h
      refine V_iload_n rfl dX12_of_30 rfl rfl ?_
      refine V_iconst (v := 1) rfl dX12_of_31 kc_1 ?_
      refine V_icmp_ne (t := 42) rfl rfl dX12_of_32 (fun hc7 => ?_) (fun hc7 => ?_)
      · replace h := ifn hc7 h
        refine V_iload_n rfl dX12_of_42 rfl rfl ?_
        refine V_iconst (v := 2) rfl dX12_of_43 kc_2 ?_
        refine V_icmp_ne (t := 57) rfl rfl dX12_of_44 (fun hc8 => ?_) (fun hc8 => ?_)
        · replace h := ifn hc8 h
          refine V_iload_n rfl dX12_of_57 rfl rfl ?_
          refine V_iconst (v := 3) rfl dX12_of_58 kc_3 ?_
          refine V_icmp_ne (t := 72) rfl rfl dX12_of_59 (fun hc9 => ?_) (fun hc9 => ?_)
          · replace h := ifn hc9 h
            refine V_iload_n rfl dX12_of_72 rfl rfl ?_
            refine V_iconst (v := 4) rfl dX12_of_73 kc_4 ?_
            refine V_icmp_ne (t := 86) rfl rfl dX12_of_74 (fun hc10 => ?_) (fun hc10 => ?_)
            · replace h := ifn hc10 h
              refine V_iload_n rfl dX12_of_86 rfl rfl ?_
              refine V_iconst (v := 5) rfl dX12_of_87 kc_5 ?_
              refine V_icmp_ne (t := 101) rfl rfl dX12_of_88 (fun hc11 => ?_) (fun hc11 => ?_)
              · replace h := ifn hc11 h
                refine V_iload_n rfl dX12_of_101 rfl rfl ?_
                refine V_bipush (v := 6) rfl dX12_of_102 kb_6 ?_
                refine V_icmp_ne (t := 113) rfl rfl dX12_of_104 (fun hc12 => ?_) (fun hc12 => ?_)
                · replace h := ifn hc12 h
                  refine V_iload_n rfl dX12_of_113 rfl rfl ?_
                  refine V_bipush (v := 7) rfl dX12_of_114 kb_7 ?_
                  refine V_icmp_ne (t := 127) rfl rfl dX12_of_116 (fun hc13 => ?_) (fun hc13 => ?_)
                  · replace h := ifn hc13 h
                    refine V_iload_n rfl dX12_of_127 rfl rfl ?_
                    refine V_bipush (v := 8) rfl dX12_of_128 kb_8 ?_
                    refine V_icmp_ne (t := 141) rfl rfl dX12_of_130 (fun hc14 => ?_) (fun hc14 => ?_)
                    · replace h := ifn hc14 h
                      refine V_bipush (v := (-2)) rfl dX12_of_141 kb_m2 ?_
                      cases h
                      exact V_iret dX12_of_143 rfl rfl (Nat.le_refl _) (Nat.le_refl _) qI_ok
                    · replace h := ifp hc14 h
                      refine V_aload_n rfl dX12_of_133 rfl rfl ?_
                      refine V_iload_n rfl dX12_of_134 rfl rfl ?_
                      replace h := cl_e h
                      obtain ⟨w15, M16, hc17, h⟩ := h
                      refine V_ii (As := [.int _]) rfl dX12_of_135 mf_X12_clocksOf ⟨w_1661, w_109⟩ w_1659 (by decide) s0_136 rfl rfl rfl rfl ⟨rfl, rfl⟩ (t_X12_clocksOf hc17) ?_
                      refine V_goto (t := 143) rfl dX12_of_138 ?_
                      cases h
                      exact V_iret dX12_of_143 rfl rfl (Nat.le_refl _) (Nat.le_refl _) qI_ok
                  · replace h := ifp hc13 h
                    refine V_aload_n rfl dX12_of_119 rfl rfl ?_
                    refine V_iload_n rfl dX12_of_120 rfl rfl ?_
                    replace h := cl_e h
                    obtain ⟨w18, M19, hc20, h⟩ := h
                    refine V_ii (As := [.int _]) rfl dX12_of_121 mf_X12_eatOf ⟨w_1633, w_105⟩ w_1631 (by decide) s0_136 rfl rfl rfl rfl ⟨rfl, rfl⟩ (t_X12_eatOf hc20) ?_
                    refine V_goto (t := 143) rfl dX12_of_124 ?_
                    cases h
                    exact V_iret dX12_of_143 rfl rfl (Nat.le_refl _) (Nat.le_refl _) qI_ok
                · replace h := ifp hc12 h
                  refine V_aload_n rfl dX12_of_107 rfl rfl ?_
                  refine V_iload_n rfl dX12_of_108 rfl rfl ?_
                  replace h := cl_e h
                  obtain ⟨w21, M22, hc23, h⟩ := h
                  refine V_ii (As := [.int _]) rfl dX12_of_109 mf_X12_easeOf ⟨w_1629, w_104⟩ w_1627 (by decide) s0_136 rfl rfl rfl rfl ⟨rfl, rfl⟩ (t_X12_easeOf hc23) ?_
                  cases h
                  exact V_iret dX12_of_112 rfl rfl (Nat.le_refl _) (Nat.le_refl _) qI_ok
              · replace h := ifp hc11 h
                refine V_aload_n rfl dX12_of_91 rfl rfl ?_
                refine V_iload_n rfl dX12_of_92 rfl rfl ?_
                refine V_aload_n rfl dX12_of_93 rfl rfl ?_
                replace h := cl_e h
                obtain ⟨w24, M25, hc26, h⟩ := h
                refine V_ii (As := []) rfl dX12_of_94 mf_X12_clockNow ⟨w_1551, w_85⟩ w_1549 (by decide) s0_136 rfl rfl rfl rfl ⟨rfl, rfl⟩ (t_X12_clockNow hc26) ?_
                replace h := cl_e h
                obtain ⟨w27, M28, hc29, h⟩ := h
                refine V_ii (As := [.int _, .int _]) rfl dX12_of_97 mf_X12_tireOf ⟨w_1617, w_101⟩ w_1615 (by decide) s0_136 rfl rfl rfl rfl ⟨rfl, rfl⟩ (t_X12_tireOf hc29) ?_
                cases h
                exact V_iret dX12_of_100 rfl rfl (Nat.le_refl _) (Nat.le_refl _) qI_ok
            · replace h := ifp hc10 h
              refine V_aload_n rfl dX12_of_77 rfl rfl ?_
              replace h := cl_e h
              obtain ⟨w30, M31, hc32, h⟩ := h
              refine V_ii (As := []) rfl dX12_of_78 mf_X12_goers ⟨w_1547, w_84⟩ w_1545 (by decide) s0_136 rfl rfl rfl rfl ⟨rfl, rfl⟩ (t_X12_goers hc32) ?_
              refine V_iload_n rfl dX12_of_81 rfl rfl ?_
              refine V_ishr rfl dX12_of_82 ?_
              refine V_iconst (v := 1) rfl dX12_of_83 kc_1 ?_
              refine V_iand rfl dX12_of_84 ?_
              cases h
              exact V_iret dX12_of_85 rfl rfl (Nat.le_refl _) (Nat.le_refl _) qI_ok
          · replace h := ifp hc9 h
            refine V_aload_n rfl dX12_of_62 rfl rfl ?_
            refine V_getr (k0 := 1) rfl dX12_of_63 s0_136 icX12 (by decide) rfl w_1190 ?_
            refine V_bipush (v := 20) rfl dX12_of_66 kb_20 ?_
            refine V_iload_n rfl dX12_of_68 rfl rfl ?_
            refine V_iadd rfl dX12_of_69 ?_
            replace h := rd_e h
            obtain ⟨hb34, h⟩ := h
            refine V_iald rfl dX12_of_70 s0_137 hb34 ?_
            cases h
            exact V_iret dX12_of_71 rfl rfl (Nat.le_refl _) (Nat.le_refl _) qI_ok
        · replace h := ifp hc8 h
          refine V_aload_n rfl dX12_of_47 rfl rfl ?_
          refine V_getr (k0 := 1) rfl dX12_of_48 s0_136 icX12 (by decide) rfl w_1190 ?_
          refine V_bipush (v := 10) rfl dX12_of_51 kb_10 ?_
          refine V_iload_n rfl dX12_of_53 rfl rfl ?_
          refine V_iadd rfl dX12_of_54 ?_
          replace h := rd_e h
          obtain ⟨hb36, h⟩ := h
          refine V_iald rfl dX12_of_55 s0_137 hb36 ?_
          cases h
          exact V_iret dX12_of_56 rfl rfl (Nat.le_refl _) (Nat.le_refl _) qI_ok
      · replace h := ifp hc7 h
        refine V_aload_n rfl dX12_of_35 rfl rfl ?_
        refine V_getr (k0 := 7) rfl dX12_of_36 s0_136 icX12 (by decide) rfl w_1196 ?_
        refine V_iload_n rfl dX12_of_39 rfl rfl ?_
        replace h := rd_e h
        obtain ⟨hb38, h⟩ := h
        refine V_iald rfl dX12_of_40 s0_140 hb38 ?_
        cases h
        exact V_iret dX12_of_41 rfl rfl (Nat.le_refl _) (Nat.le_refl _) qI_ok
    · replace h := ifp hc6 h
      refine V_aload_n rfl dX12_of_20 rfl rfl ?_
      refine V_getr (k0 := 1) rfl dX12_of_21 s0_136 icX12 (by decide) rfl w_1190 ?_
      refine V_bipush (v := 30) rfl dX12_of_24 kb_30 ?_
      refine V_iload_n rfl dX12_of_26 rfl rfl ?_
      refine V_iadd rfl dX12_of_27 ?_
      replace h := rd_e h
      obtain ⟨hb40, h⟩ := h
      refine V_iald rfl dX12_of_28 s0_137 hb40 ?_
      cases h
      exact V_iret dX12_of_29 rfl rfl (Nat.le_refl _) (Nat.le_refl _) qI_ok
  · replace h := ifp hc5 h
    refine V_bipush (v := (-2)) rfl dX12_of_13 kb_m2 ?_
    cases h
    exact V_iret dX12_of_15 rfl rfl (Nat.le_refl _) (Nat.le_refl _) qI_ok
-- X12_stone: NeverHaltedModel.stone(II)I
def f_X12_stone (p1 : Int32) (p2 : Int32) (M : IM) : IR := pt M 136 0 0 fun M1 => cl (f_X12_isIn p1 0 ((M1 136 36) - 1) M1) fun w2 M3 => if w2 = 0 then some ((-1), M3) else cl (f_X12_isIn p2 0 3 M3) fun w6 M7 => if w6 = 0 then some ((-1), M7) else cl (f_X12_ofStone p1 p2 M7) fun w10 M11 => some (w10, M11)
set_option maxRecDepth 100000 in
set_option maxHeartbeats 4000000 in
theorem t_X12_stone {g : IG} {a : Nat → Nat} {R : Int32 × IM} {p1 : Int32} {p2 : Int32} {M : IM} (h : f_X12_stone p1 p2 M = some R) : Cn g mX12_stone 2 0 0 (qI S0 a R) [.ref (a 136), .int p1, .int p2] a S0 M := by
  refine Cn_of (L := [some (.ref (a 136)), some (.int p1), some (.int p2)]) mf_X12_stone (cat_r (cat_i (cat_i cat_0))) (Nat.le_of_ble_eq_true rfl) rfl ?_
  unfold f_X12_stone at h
  refine V_aload_n rfl dX12_stone_0 rfl rfl ?_
  refine V_iconst (v := 0) rfl dX12_stone_1 kc_0 ?_
  replace h := pt_e h
  refine V_putf (k0 := 0) (ty := .int) rfl dX12_stone_2 s0_136 icX12 tyX12_ok nmX12 (by decide) rfl w_1189 rfl (tyX12_ok _ (by decide)) rfl rfl ?_
  refine V_aload_n rfl dX12_stone_5 rfl rfl ?_
  refine V_iload_n rfl dX12_stone_6 rfl rfl ?_
  refine V_iconst (v := 0) rfl dX12_stone_7 kc_0 ?_
  refine V_aload_n rfl dX12_stone_8 rfl rfl ?_
  refine V_geti (k0 := 36) rfl dX12_stone_9 s0_136 icX12 (by decide) rfl w_1225 ?_
  refine V_iconst (v := 1) rfl dX12_stone_12 kc_1 ?_
  refine V_isub rfl dX12_stone_13 ?_
  replace h := cl_e h
  obtain ⟨w2, M3, hc4, h⟩ := h
  refine V_ii (As := [.int _, .int _, .int _]) rfl dX12_stone_14 mf_X12_isIn ⟨w_1367, w_47⟩ w_1365 (by decide) s0_136 rfl rfl rfl rfl ⟨rfl, rfl⟩ (t_X12_isIn hc4) ?_
  refine V_if_eq (t := 39) rfl rfl dX12_stone_17 (fun hc5 => ?_) (fun hc5 => ?_)
  · replace h := ifp hc5 h
    refine V_iconst (v := (-1)) rfl dX12_stone_39 kc_m1 ?_
    cases h
    exact V_iret dX12_stone_40 rfl rfl (Nat.le_refl _) (Nat.le_refl _) qI_ok
  · replace h := ifn hc5 h
    refine V_aload_n rfl dX12_stone_20 rfl rfl ?_
    refine V_iload_n rfl dX12_stone_21 rfl rfl ?_
    refine V_iconst (v := 0) rfl dX12_stone_22 kc_0 ?_
    refine V_iconst (v := 3) rfl dX12_stone_23 kc_3 ?_
    replace h := cl_e h
    obtain ⟨w6, M7, hc8, h⟩ := h
    refine V_ii (As := [.int _, .int _, .int _]) rfl dX12_stone_24 mf_X12_isIn ⟨w_1367, w_47⟩ w_1365 (by decide) s0_136 rfl rfl rfl rfl ⟨rfl, rfl⟩ (t_X12_isIn hc8) ?_
    refine V_if_eq (t := 39) rfl rfl dX12_stone_27 (fun hc9 => ?_) (fun hc9 => ?_)
    · replace h := ifp hc9 h
      refine V_iconst (v := (-1)) rfl dX12_stone_39 kc_m1 ?_
      cases h
      exact V_iret dX12_stone_40 rfl rfl (Nat.le_refl _) (Nat.le_refl _) qI_ok
    · replace h := ifn hc9 h
      refine V_aload_n rfl dX12_stone_30 rfl rfl ?_
      refine V_iload_n rfl dX12_stone_31 rfl rfl ?_
      refine V_iload_n rfl dX12_stone_32 rfl rfl ?_
      replace h := cl_e h
      obtain ⟨w10, M11, hc12, h⟩ := h
      refine V_ii (As := [.int _, .int _]) rfl dX12_stone_33 mf_X12_ofStone ⟨w_1571, w_90⟩ w_1569 (by decide) s0_136 rfl rfl rfl rfl ⟨rfl, rfl⟩ (t_X12_ofStone hc12) ?_
      refine V_goto (t := 40) rfl dX12_stone_36 ?_
      cases h
      exact V_iret dX12_stone_40 rfl rfl (Nat.le_refl _) (Nat.le_refl _) qI_ok
-- X12_book: NeverHaltedModel.book(II)I
def f_X12_book (p1 : Int32) (p2 : Int32) (M : IM) : IR := pt M 136 0 0 fun M1 => rd M1 137 40 2 fun v2 => cl (f_X12_isIn p1 0 (v2 - 1) M1) fun w4 M5 => if w4 = 0 then some ((-1), M5) else cl (f_X12_isIn p2 0 2 M5) fun w8 M9 => if w8 = 0 then some ((-1), M9) else rd M9 142 450 ((3 * p1) + p2) fun v12 => some (v12, M9)
set_option maxRecDepth 100000 in
set_option maxHeartbeats 4000000 in
theorem t_X12_book {g : IG} {a : Nat → Nat} {R : Int32 × IM} {p1 : Int32} {p2 : Int32} {M : IM} (h : f_X12_book p1 p2 M = some R) : Cn g mX12_book 2 0 0 (qI S0 a R) [.ref (a 136), .int p1, .int p2] a S0 M := by
  refine Cn_of (L := [some (.ref (a 136)), some (.int p1), some (.int p2)]) mf_X12_book (cat_r (cat_i (cat_i cat_0))) (Nat.le_of_ble_eq_true rfl) rfl ?_
  unfold f_X12_book at h
  refine V_aload_n rfl dX12_book_0 rfl rfl ?_
  refine V_iconst (v := 0) rfl dX12_book_1 kc_0 ?_
  replace h := pt_e h
  refine V_putf (k0 := 0) (ty := .int) rfl dX12_book_2 s0_136 icX12 tyX12_ok nmX12 (by decide) rfl w_1189 rfl (tyX12_ok _ (by decide)) rfl rfl ?_
  refine V_aload_n rfl dX12_book_5 rfl rfl ?_
  refine V_iload_n rfl dX12_book_6 rfl rfl ?_
  refine V_iconst (v := 0) rfl dX12_book_7 kc_0 ?_
  refine V_aload_n rfl dX12_book_8 rfl rfl ?_
  refine V_getr (k0 := 1) rfl dX12_book_9 s0_136 icX12 (by decide) rfl w_1190 ?_
  refine V_iconst (v := 2) rfl dX12_book_12 kc_2 ?_
  replace h := rd_e h
  obtain ⟨hb3, h⟩ := h
  refine V_iald rfl dX12_book_13 s0_137 hb3 ?_
  refine V_iconst (v := 1) rfl dX12_book_14 kc_1 ?_
  refine V_isub rfl dX12_book_15 ?_
  replace h := cl_e h
  obtain ⟨w4, M5, hc6, h⟩ := h
  refine V_ii (As := [.int _, .int _, .int _]) rfl dX12_book_16 mf_X12_isIn ⟨w_1367, w_47⟩ w_1365 (by decide) s0_136 rfl rfl rfl rfl ⟨rfl, rfl⟩ (t_X12_isIn hc6) ?_
  refine V_if_eq (t := 45) rfl rfl dX12_book_19 (fun hc7 => ?_) (fun hc7 => ?_)
  · replace h := ifp hc7 h
    refine V_iconst (v := (-1)) rfl dX12_book_45 kc_m1 ?_
    cases h
    exact V_iret dX12_book_46 rfl rfl (Nat.le_refl _) (Nat.le_refl _) qI_ok
  · replace h := ifn hc7 h
    refine V_aload_n rfl dX12_book_22 rfl rfl ?_
    refine V_iload_n rfl dX12_book_23 rfl rfl ?_
    refine V_iconst (v := 0) rfl dX12_book_24 kc_0 ?_
    refine V_iconst (v := 2) rfl dX12_book_25 kc_2 ?_
    replace h := cl_e h
    obtain ⟨w8, M9, hc10, h⟩ := h
    refine V_ii (As := [.int _, .int _, .int _]) rfl dX12_book_26 mf_X12_isIn ⟨w_1367, w_47⟩ w_1365 (by decide) s0_136 rfl rfl rfl rfl ⟨rfl, rfl⟩ (t_X12_isIn hc10) ?_
    refine V_if_eq (t := 45) rfl rfl dX12_book_29 (fun hc11 => ?_) (fun hc11 => ?_)
    · replace h := ifp hc11 h
      refine V_iconst (v := (-1)) rfl dX12_book_45 kc_m1 ?_
      cases h
      exact V_iret dX12_book_46 rfl rfl (Nat.le_refl _) (Nat.le_refl _) qI_ok
    · replace h := ifn hc11 h
      refine V_aload_n rfl dX12_book_32 rfl rfl ?_
      refine V_getr (k0 := 12) rfl dX12_book_33 s0_136 icX12 (by decide) rfl w_1201 ?_
      refine V_iconst (v := 3) rfl dX12_book_36 kc_3 ?_
      refine V_iload_n rfl dX12_book_37 rfl rfl ?_
      refine V_imul rfl dX12_book_38 ?_
      refine V_iload_n rfl dX12_book_39 rfl rfl ?_
      refine V_iadd rfl dX12_book_40 ?_
      replace h := rd_e h
      obtain ⟨hb13, h⟩ := h
      refine V_iald rfl dX12_book_41 s0_142 hb13 ?_
      refine V_goto (t := 46) rfl dX12_book_42 ?_
      cases h
      exact V_iret dX12_book_46 rfl rfl (Nat.le_refl _) (Nat.le_refl _) qI_ok
-- X12_goes: NeverHaltedModel.goes(II)I
def f_X12_goes_92_b (r92 : Int32 → Int32 → Int32 → Int32 → IM → IR) (x2 : Int32) (x3 : Int32) (x4 : Int32) (x5 : Int32) (M : IM) : IR := if (M 136 6) ≤ x5 then if x2 = 0 then rd M 137 40 5 fun v50 => rd M 139 40 5 fun v52 => lt (v50 - v52) fun v54 => cl (f_X12_endsThought M) fun _ M56 => some (v54, M56) else if x2 = 1 then cl (f_X12_endsThought M) fun _ M48 => some (x3, M48) else if x2 = 2 then rd M 137 40 3 fun v42 => cl (f_X12_endsThought M) fun _ M45 => some (v42, M45) else if x2 = 3 then rd M 137 40 4 fun v37 => cl (f_X12_endsThought M) fun _ M40 => some (v37, M40) else cl (f_X12_endsThought M) fun _ M35 => some (x4, M35) else rd M 137 40 (10 + x5) fun v58 => cl (f_X12_greater x4 v58 M) fun w60 M61 => lt (x5 + 1) fun v63 => r92 x2 x3 w60 v63 M61
def f_X12_goes_92 (n : Nat) : Int32 → Int32 → Int32 → Int32 → IM → IR := itr (fun _ _ _ _ _ => none) (f_X12_goes_92_b) n
set_option maxRecDepth 100000 in
set_option maxHeartbeats 4000000 in
theorem t_X12_goes_92 {g : IG} {a : Nat → Nat} {R : Int32 × IM} (n : Nat) : ∀ (x2 : Int32) (x3 : Int32) (x4 : Int32) (x5 : Int32) (M : IM), f_X12_goes_92 n x2 x3 x4 x5 M = some R → V g mX12_goes 9 0 0 (qI S0 a R) 92 [some (.ref (a 136)), none, some (.int x2), some (.int x3), some (.int x4), some (.int x5), none] [] a S0 M 0 0 := by
  induction n with
  | zero => intro x2 x3 x4 x5 M h; exact absurd h (fun z => by cases z)
  | succ n hr92 =>
    intro x2 x3 x4 x5 M h
    replace h : f_X12_goes_92_b (f_X12_goes_92 n) x2 x3 x4 x5 M = some R := h
    unfold f_X12_goes_92_b at h
    refine V_iload rfl dX12_goes_92 rfl ?_
    refine V_aload_n rfl dX12_goes_94 rfl rfl ?_
    refine V_geti (k0 := 6) rfl dX12_goes_95 s0_136 icX12 (by decide) rfl w_1195 ?_
    refine V_icmp_ge (t := 125) rfl rfl dX12_goes_98 (fun hc29 => ?_) (fun hc29 => ?_)
    · replace h := ifp hc29 h
      refine V_iload_n rfl dX12_goes_125 rfl rfl ?_
      refine V_if_ne (t := 145) rfl rfl dX12_goes_126 (fun hc30 => ?_) (fun hc30 => ?_)
      · replace h := ifn hc30 h
        refine V_iload_n rfl dX12_goes_145 rfl rfl ?_
        refine V_iconst (v := 1) rfl dX12_goes_146 kc_1 ?_
        refine V_icmp_ne (t := 154) rfl rfl dX12_goes_147 (fun hc31 => ?_) (fun hc31 => ?_)
        · replace h := ifn hc31 h
          refine V_iload_n rfl dX12_goes_154 rfl rfl ?_
          refine V_iconst (v := 2) rfl dX12_goes_155 kc_2 ?_
          refine V_icmp_ne (t := 168) rfl rfl dX12_goes_156 (fun hc32 => ?_) (fun hc32 => ?_)
          · replace h := ifn hc32 h
            refine V_iload_n rfl dX12_goes_168 rfl rfl ?_
            refine V_iconst (v := 3) rfl dX12_goes_169 kc_3 ?_
            refine V_icmp_ne (t := 182) rfl rfl dX12_goes_170 (fun hc33 => ?_) (fun hc33 => ?_)
            · replace h := ifn hc33 h
              refine V_iload rfl dX12_goes_182 rfl ?_
              refine V_istore (L' := [_, _, _, _, _, _, _]) rfl dX12_goes_184 (by decide) rfl ?_
              refine V_aload_n rfl dX12_goes_186 rfl rfl ?_
              replace h := cl_e h
              obtain ⟨w34, M35, hc36, h⟩ := h
              refine V_iv (As := []) rfl dX12_goes_187 mf_X12_endsThought ⟨w_1681, w_111⟩ w_1679 (by decide) s0_136 rfl rfl rfl rfl ⟨rfl, rfl⟩ (t_X12_endsThought hc36) ?_
              refine V_iload rfl dX12_goes_190 rfl ?_
              cases h
              exact V_iret dX12_goes_192 rfl rfl (Nat.le_refl _) (Nat.le_refl _) qI_ok
            · replace h := ifp hc33 h
              refine V_aload_n rfl dX12_goes_173 rfl rfl ?_
              refine V_getr (k0 := 1) rfl dX12_goes_174 s0_136 icX12 (by decide) rfl w_1190 ?_
              refine V_iconst (v := 4) rfl dX12_goes_177 kc_4 ?_
              replace h := rd_e h
              obtain ⟨hb38, h⟩ := h
              refine V_iald rfl dX12_goes_178 s0_137 hb38 ?_
              refine V_goto (t := 184) rfl dX12_goes_179 ?_
              refine V_istore (L' := [_, _, _, _, _, _, _]) rfl dX12_goes_184 (by decide) rfl ?_
              refine V_aload_n rfl dX12_goes_186 rfl rfl ?_
              replace h := cl_e h
              obtain ⟨w39, M40, hc41, h⟩ := h
              refine V_iv (As := []) rfl dX12_goes_187 mf_X12_endsThought ⟨w_1681, w_111⟩ w_1679 (by decide) s0_136 rfl rfl rfl rfl ⟨rfl, rfl⟩ (t_X12_endsThought hc41) ?_
              refine V_iload rfl dX12_goes_190 rfl ?_
              cases h
              exact V_iret dX12_goes_192 rfl rfl (Nat.le_refl _) (Nat.le_refl _) qI_ok
          · replace h := ifp hc32 h
            refine V_aload_n rfl dX12_goes_159 rfl rfl ?_
            refine V_getr (k0 := 1) rfl dX12_goes_160 s0_136 icX12 (by decide) rfl w_1190 ?_
            refine V_iconst (v := 3) rfl dX12_goes_163 kc_3 ?_
            replace h := rd_e h
            obtain ⟨hb43, h⟩ := h
            refine V_iald rfl dX12_goes_164 s0_137 hb43 ?_
            refine V_goto (t := 184) rfl dX12_goes_165 ?_
            refine V_istore (L' := [_, _, _, _, _, _, _]) rfl dX12_goes_184 (by decide) rfl ?_
            refine V_aload_n rfl dX12_goes_186 rfl rfl ?_
            replace h := cl_e h
            obtain ⟨w44, M45, hc46, h⟩ := h
            refine V_iv (As := []) rfl dX12_goes_187 mf_X12_endsThought ⟨w_1681, w_111⟩ w_1679 (by decide) s0_136 rfl rfl rfl rfl ⟨rfl, rfl⟩ (t_X12_endsThought hc46) ?_
            refine V_iload rfl dX12_goes_190 rfl ?_
            cases h
            exact V_iret dX12_goes_192 rfl rfl (Nat.le_refl _) (Nat.le_refl _) qI_ok
        · replace h := ifp hc31 h
          refine V_iload_n rfl dX12_goes_150 rfl rfl ?_
          refine V_goto (t := 184) rfl dX12_goes_151 ?_
          refine V_istore (L' := [_, _, _, _, _, _, _]) rfl dX12_goes_184 (by decide) rfl ?_
          refine V_aload_n rfl dX12_goes_186 rfl rfl ?_
          replace h := cl_e h
          obtain ⟨w47, M48, hc49, h⟩ := h
          refine V_iv (As := []) rfl dX12_goes_187 mf_X12_endsThought ⟨w_1681, w_111⟩ w_1679 (by decide) s0_136 rfl rfl rfl rfl ⟨rfl, rfl⟩ (t_X12_endsThought hc49) ?_
          refine V_iload rfl dX12_goes_190 rfl ?_
          cases h
          exact V_iret dX12_goes_192 rfl rfl (Nat.le_refl _) (Nat.le_refl _) qI_ok
      · replace h := ifp hc30 h
        refine V_aload_n rfl dX12_goes_129 rfl rfl ?_
        refine V_getr (k0 := 1) rfl dX12_goes_130 s0_136 icX12 (by decide) rfl w_1190 ?_
        refine V_iconst (v := 5) rfl dX12_goes_133 kc_5 ?_
        replace h := rd_e h
        obtain ⟨hb51, h⟩ := h
        refine V_iald rfl dX12_goes_134 s0_137 hb51 ?_
        refine V_aload_n rfl dX12_goes_135 rfl rfl ?_
        refine V_getr (k0 := 4) rfl dX12_goes_136 s0_136 icX12 (by decide) rfl w_1193 ?_
        refine V_iconst (v := 5) rfl dX12_goes_139 kc_5 ?_
        replace h := rd_e h
        obtain ⟨hb53, h⟩ := h
        refine V_iald rfl dX12_goes_140 s0_139 hb53 ?_
        refine V_isub rfl dX12_goes_141 ?_
        refine V_goto (t := 184) rfl dX12_goes_142 ?_
        replace h := lt_e h
        refine V_istore (L' := [_, _, _, _, _, _, _]) rfl dX12_goes_184 (by decide) rfl ?_
        refine V_aload_n rfl dX12_goes_186 rfl rfl ?_
        replace h := cl_e h
        obtain ⟨w55, M56, hc57, h⟩ := h
        refine V_iv (As := []) rfl dX12_goes_187 mf_X12_endsThought ⟨w_1681, w_111⟩ w_1679 (by decide) s0_136 rfl rfl rfl rfl ⟨rfl, rfl⟩ (t_X12_endsThought hc57) ?_
        refine V_iload rfl dX12_goes_190 rfl ?_
        cases h
        exact V_iret dX12_goes_192 rfl rfl (Nat.le_refl _) (Nat.le_refl _) qI_ok
    · replace h := ifn hc29 h
      refine V_aload_n rfl dX12_goes_101 rfl rfl ?_
      refine V_iload rfl dX12_goes_102 rfl ?_
      refine V_aload_n rfl dX12_goes_104 rfl rfl ?_
      refine V_getr (k0 := 1) rfl dX12_goes_105 s0_136 icX12 (by decide) rfl w_1190 ?_
      refine V_bipush (v := 10) rfl dX12_goes_108 kb_10 ?_
      refine V_iload rfl dX12_goes_110 rfl ?_
      refine V_iadd rfl dX12_goes_112 ?_
      replace h := rd_e h
      obtain ⟨hb59, h⟩ := h
      refine V_iald rfl dX12_goes_113 s0_137 hb59 ?_
      replace h := cl_e h
      obtain ⟨w60, M61, hc62, h⟩ := h
      refine V_ii (As := [.int _, .int _]) rfl dX12_goes_114 mf_X12_greater ⟨w_1641, w_107⟩ w_1639 (by decide) s0_136 rfl rfl rfl rfl ⟨rfl, rfl⟩ (t_X12_greater hc62) ?_
      refine V_istore (L' := [_, _, _, _, _, _, _]) rfl dX12_goes_117 (by decide) rfl ?_
      replace h := lt_e h
      refine V_inc (L' := [_, _, _, _, _, _, _]) rfl dX12_goes_119 rfl kc_1 (by decide) rfl ?_
      refine V_goto (t := 92) rfl dX12_goes_122 ?_
      exact V_sub (le_s (le_n (le_s (le_s (le_s (le_s (le_n le_0))))))) (hr92 _ _ _ _ _ h)
def f_X12_goes_40_b (r40 : Int32 → Int32 → Int32 → Int32 → Int32 → IM → IR) (x1 : Int32) (x2 : Int32) (x3 : Int32) (x4 : Int32) (x5 : Int32) (M : IM) : IR := if x1 ≤ x5 then f_X12_goes_92 BG x2 x3 x4 0 M else rd M 137 40 5 fun v14 => cl (f_X12_goesBy M) fun _ M17 => rd M17 137 40 5 fun v19 => if v19 ≤ v14 then lt (x5 + 1) fun v22 => r40 x1 x2 x3 x4 v22 M17 else if x3 = (-1) then rd M17 137 40 0 fun v25 => lt (v25 - 1) fun v27 => lt (x5 + 1) fun v28 => r40 x1 x2 v27 x4 v28 M17 else lt (x5 + 1) fun v24 => r40 x1 x2 x3 x4 v24 M17
def f_X12_goes_40 (n : Nat) : Int32 → Int32 → Int32 → Int32 → Int32 → IM → IR := itr (fun _ _ _ _ _ _ => none) (f_X12_goes_40_b) n
set_option maxRecDepth 100000 in
set_option maxHeartbeats 4000000 in
theorem t_X12_goes_40 {g : IG} {a : Nat → Nat} {R : Int32 × IM} (n : Nat) : ∀ (x1 : Int32) (x2 : Int32) (x3 : Int32) (x4 : Int32) (x5 : Int32) (M : IM), f_X12_goes_40 n x1 x2 x3 x4 x5 M = some R → V g mX12_goes 9 0 0 (qI S0 a R) 40 [some (.ref (a 136)), some (.int x1), some (.int x2), some (.int x3), some (.int x4), some (.int x5), none] [] a S0 M 0 0 := by
  induction n with
  | zero => intro x1 x2 x3 x4 x5 M h; exact absurd h (fun z => by cases z)
  | succ n hr40 =>
    intro x1 x2 x3 x4 x5 M h
    replace h : f_X12_goes_40_b (f_X12_goes_40 n) x1 x2 x3 x4 x5 M = some R := h
    unfold f_X12_goes_40_b at h
    refine V_iload rfl dX12_goes_40 rfl ?_
    refine V_iload_n rfl dX12_goes_42 rfl rfl ?_
    refine V_icmp_ge (t := 89) rfl rfl dX12_goes_43 (fun hc13 => ?_) (fun hc13 => ?_)
    · replace h := ifp hc13 h
      refine V_iconst (v := 0) rfl dX12_goes_89 kc_0 ?_
      refine V_istore (L' := [_, _, _, _, _, _, _]) rfl dX12_goes_90 (by decide) rfl ?_
      exact V_sub (le_s (le_n (le_s (le_s (le_s (le_s (le_n le_0))))))) (t_X12_goes_92 BG _ _ _ _ _ h)
    · replace h := ifn hc13 h
      refine V_aload_n rfl dX12_goes_46 rfl rfl ?_
      refine V_getr (k0 := 1) rfl dX12_goes_47 s0_136 icX12 (by decide) rfl w_1190 ?_
      refine V_iconst (v := 5) rfl dX12_goes_50 kc_5 ?_
      replace h := rd_e h
      obtain ⟨hb15, h⟩ := h
      refine V_iald rfl dX12_goes_51 s0_137 hb15 ?_
      refine V_istore (L' := [_, _, _, _, _, _, _]) rfl dX12_goes_52 (by decide) rfl ?_
      refine V_aload_n rfl dX12_goes_54 rfl rfl ?_
      replace h := cl_e h
      obtain ⟨w16, M17, hc18, h⟩ := h
      refine V_iv (As := []) rfl dX12_goes_55 mf_X12_goesBy ⟨w_1543, w_83⟩ w_1541 (by decide) s0_136 rfl rfl rfl rfl ⟨rfl, rfl⟩ (t_X12_goesBy hc18) ?_
      refine V_aload_n rfl dX12_goes_58 rfl rfl ?_
      refine V_getr (k0 := 1) rfl dX12_goes_59 s0_136 icX12 (by decide) rfl w_1190 ?_
      refine V_iconst (v := 5) rfl dX12_goes_62 kc_5 ?_
      replace h := rd_e h
      obtain ⟨hb20, h⟩ := h
      refine V_iald rfl dX12_goes_63 s0_137 hb20 ?_
      refine V_iload rfl dX12_goes_64 rfl ?_
      refine V_icmp_le (t := 83) rfl rfl dX12_goes_66 (fun hc21 => ?_) (fun hc21 => ?_)
      · replace h := ifp hc21 h
        replace h := lt_e h
        refine V_inc (L' := [_, _, _, _, _, _, _]) rfl dX12_goes_83 rfl kc_1 (by decide) rfl ?_
        refine V_goto (t := 40) rfl dX12_goes_86 ?_
        exact V_sub (le_s (le_s (le_s (le_s (le_s (le_s (le_n le_0))))))) (hr40 _ _ _ _ _ _ h)
      · replace h := ifn hc21 h
        refine V_iload_n rfl dX12_goes_69 rfl rfl ?_
        refine V_iconst (v := (-1)) rfl dX12_goes_70 kc_m1 ?_
        refine V_icmp_ne (t := 83) rfl rfl dX12_goes_71 (fun hc23 => ?_) (fun hc23 => ?_)
        · replace h := ifn hc23 h
          replace h := lt_e h
          refine V_inc (L' := [_, _, _, _, _, _, _]) rfl dX12_goes_83 rfl kc_1 (by decide) rfl ?_
          refine V_goto (t := 40) rfl dX12_goes_86 ?_
          exact V_sub (le_s (le_s (le_s (le_s (le_s (le_s (le_n le_0))))))) (hr40 _ _ _ _ _ _ h)
        · replace h := ifp hc23 h
          refine V_aload_n rfl dX12_goes_74 rfl rfl ?_
          refine V_getr (k0 := 1) rfl dX12_goes_75 s0_136 icX12 (by decide) rfl w_1190 ?_
          refine V_iconst (v := 0) rfl dX12_goes_78 kc_0 ?_
          replace h := rd_e h
          obtain ⟨hb26, h⟩ := h
          refine V_iald rfl dX12_goes_79 s0_137 hb26 ?_
          refine V_iconst (v := 1) rfl dX12_goes_80 kc_1 ?_
          refine V_isub rfl dX12_goes_81 ?_
          replace h := lt_e h
          refine V_istore_n (L' := [_, _, _, _, _, _, _]) rfl rfl dX12_goes_82 (by decide) rfl ?_
          replace h := lt_e h
          refine V_inc (L' := [_, _, _, _, _, _, _]) rfl dX12_goes_83 rfl kc_1 (by decide) rfl ?_
          refine V_goto (t := 40) rfl dX12_goes_86 ?_
          exact V_sub (le_s (le_s (le_s (le_s (le_s (le_s (le_n le_0))))))) (hr40 _ _ _ _ _ _ h)
def f_X12_goes (p1 : Int32) (p2 : Int32) (M : IM) : IR := pt M 136 0 0 fun M1 => cl (f_X12_isIn p1 1 99 M1) fun w2 M3 => if w2 = 0 then some ((-1), M3) else cl (f_X12_isIn p2 0 4 M3) fun w6 M7 => if w6 = 0 then some ((-1), M7) else cl (f_X12_thinks M7) fun _ M11 => f_X12_goes_40 BG p1 p2 (-1) 0 0 M11
set_option maxRecDepth 100000 in
set_option maxHeartbeats 4000000 in
theorem t_X12_goes {g : IG} {a : Nat → Nat} {R : Int32 × IM} {p1 : Int32} {p2 : Int32} {M : IM} (h : f_X12_goes p1 p2 M = some R) : Cn g mX12_goes 9 0 0 (qI S0 a R) [.ref (a 136), .int p1, .int p2] a S0 M := by
  refine Cn_of (L := [some (.ref (a 136)), some (.int p1), some (.int p2), none, none, none, none]) mf_X12_goes (cat_r (cat_i (cat_i cat_0))) (Nat.le_of_ble_eq_true rfl) rfl ?_
  unfold f_X12_goes at h
  refine V_aload_n rfl dX12_goes_0 rfl rfl ?_
  refine V_iconst (v := 0) rfl dX12_goes_1 kc_0 ?_
  replace h := pt_e h
  refine V_putf (k0 := 0) (ty := .int) rfl dX12_goes_2 s0_136 icX12 tyX12_ok nmX12 (by decide) rfl w_1189 rfl (tyX12_ok _ (by decide)) rfl rfl ?_
  refine V_aload_n rfl dX12_goes_5 rfl rfl ?_
  refine V_iload_n rfl dX12_goes_6 rfl rfl ?_
  refine V_iconst (v := 1) rfl dX12_goes_7 kc_1 ?_
  refine V_bipush (v := 99) rfl dX12_goes_8 kb_99 ?_
  replace h := cl_e h
  obtain ⟨w2, M3, hc4, h⟩ := h
  refine V_ii (As := [.int _, .int _, .int _]) rfl dX12_goes_10 mf_X12_isIn ⟨w_1367, w_47⟩ w_1365 (by decide) s0_136 rfl rfl rfl rfl ⟨rfl, rfl⟩ (t_X12_isIn hc4) ?_
  refine V_if_eq (t := 26) rfl rfl dX12_goes_13 (fun hc5 => ?_) (fun hc5 => ?_)
  · replace h := ifp hc5 h
    refine V_iconst (v := (-1)) rfl dX12_goes_26 kc_m1 ?_
    cases h
    exact V_iret dX12_goes_27 rfl rfl (Nat.le_refl _) (Nat.le_refl _) qI_ok
  · replace h := ifn hc5 h
    refine V_aload_n rfl dX12_goes_16 rfl rfl ?_
    refine V_iload_n rfl dX12_goes_17 rfl rfl ?_
    refine V_iconst (v := 0) rfl dX12_goes_18 kc_0 ?_
    refine V_iconst (v := 4) rfl dX12_goes_19 kc_4 ?_
    replace h := cl_e h
    obtain ⟨w6, M7, hc8, h⟩ := h
    refine V_ii (As := [.int _, .int _, .int _]) rfl dX12_goes_20 mf_X12_isIn ⟨w_1367, w_47⟩ w_1365 (by decide) s0_136 rfl rfl rfl rfl ⟨rfl, rfl⟩ (t_X12_isIn hc8) ?_
    refine V_if_ne (t := 28) rfl rfl dX12_goes_23 (fun hc9 => ?_) (fun hc9 => ?_)
    · replace h := ifn hc9 h
      refine V_aload_n rfl dX12_goes_28 rfl rfl ?_
      replace h := cl_e h
      obtain ⟨w10, M11, hc12, h⟩ := h
      refine V_iv (As := []) rfl dX12_goes_29 mf_X12_thinks ⟨w_1677, w_110⟩ w_1675 (by decide) s0_136 rfl rfl rfl rfl ⟨rfl, rfl⟩ (t_X12_thinks hc12) ?_
      refine V_iconst (v := (-1)) rfl dX12_goes_32 kc_m1 ?_
      refine V_istore_n (L' := [_, _, _, _, _, _, _]) rfl rfl dX12_goes_33 (by decide) rfl ?_
      refine V_iconst (v := 0) rfl dX12_goes_34 kc_0 ?_
      refine V_istore (L' := [_, _, _, _, _, _, _]) rfl dX12_goes_35 (by decide) rfl ?_
      refine V_iconst (v := 0) rfl dX12_goes_37 kc_0 ?_
      refine V_istore (L' := [_, _, _, _, _, _, _]) rfl dX12_goes_38 (by decide) rfl ?_
      exact V_sub (le_s (le_s (le_s (le_s (le_s (le_s (le_n le_0))))))) (t_X12_goes_40 BG _ _ _ _ _ _ h)
    · replace h := ifp hc9 h
      refine V_iconst (v := (-1)) rfl dX12_goes_26 kc_m1 ?_
      cases h
      exact V_iret dX12_goes_27 rfl rfl (Nat.le_refl _) (Nat.le_refl _) qI_ok
-- X12_doesCover: NeverHaltedModel.doesCover(I)Z
def f_X12_doesCover_13_b (r2 : Int32 → Int32 → IM → IR) (r13 : Int32 → Int32 → Int32 → Int32 → IM → IR) (x1 : Int32) (x2 : Int32) (x3 : Int32) (x4 : Int32) (M : IM) : IR := if (M 136 38) ≤ x4 then cl (f_X12_onesOf x3 M) fun w3 M4 => if (M4 136 8) ≤ w3 then lt (x2 + 1) fun v7 => r2 x1 v7 M4 else some (0, M4) else if ((x1 >>> (x4 &&& 31)) &&& 1) = 1 then rd M 158 16 x4 fun v10 => if ((v10 >>> (x2 &&& 31)) &&& 1) = 1 then rd M 154 96 (3 * x4) fun v14 => lt (x3 ||| ((1 : Int32) <<< (v14 &&& 31))) fun v16 => lt (x4 + 1) fun v17 => r13 x1 x2 v16 v17 M else lt (x4 + 1) fun v13 => r13 x1 x2 x3 v13 M else lt (x4 + 1) fun v9 => r13 x1 x2 x3 v9 M
def f_X12_doesCover_13 (r2 : Int32 → Int32 → IM → IR) (n : Nat) : Int32 → Int32 → Int32 → Int32 → IM → IR := itr (fun _ _ _ _ _ => none) (f_X12_doesCover_13_b r2) n
set_option maxRecDepth 100000 in
set_option maxHeartbeats 4000000 in
theorem t_X12_doesCover_13 {g : IG} {a : Nat → Nat} {R : Int32 × IM} {r2 : Int32 → Int32 → IM → IR} (hr2 : ∀ (x1 : Int32) (x2 : Int32) (M : IM), r2 x1 x2 M = some R → V g mX12_doesCover 2 0 0 (qI S0 a R) 2 [some (.ref (a 136)), some (.int x1), some (.int x2), none, none] [] a S0 M 0 0) (n : Nat) : ∀ (x1 : Int32) (x2 : Int32) (x3 : Int32) (x4 : Int32) (M : IM), f_X12_doesCover_13 r2 n x1 x2 x3 x4 M = some R → V g mX12_doesCover 2 0 0 (qI S0 a R) 13 [some (.ref (a 136)), some (.int x1), some (.int x2), some (.int x3), some (.int x4)] [] a S0 M 0 0 := by
  induction n with
  | zero => intro x1 x2 x3 x4 M h; exact absurd h (fun z => by cases z)
  | succ n hr13 =>
    intro x1 x2 x3 x4 M h
    replace h : f_X12_doesCover_13_b r2 (f_X12_doesCover_13 r2 n) x1 x2 x3 x4 M = some R := h
    unfold f_X12_doesCover_13_b at h
    refine V_iload rfl dX12_doesCover_13 rfl ?_
    refine V_aload_n rfl dX12_doesCover_15 rfl rfl ?_
    refine V_geti (k0 := 38) rfl dX12_doesCover_16 s0_136 icX12 (by decide) rfl w_1227 ?_
    refine V_icmp_ge (t := 67) rfl rfl dX12_doesCover_19 (fun hc2 => ?_) (fun hc2 => ?_)
    · replace h := ifp hc2 h
      refine V_aload_n rfl dX12_doesCover_67 rfl rfl ?_
      refine V_iload_n rfl dX12_doesCover_68 rfl rfl ?_
      replace h := cl_e h
      obtain ⟨w3, M4, hc5, h⟩ := h
      refine V_ii (As := [.int _]) rfl dX12_doesCover_69 mf_X12_onesOf ⟨w_1595, w_96⟩ w_1593 (by decide) s0_136 rfl rfl rfl rfl ⟨rfl, rfl⟩ (t_X12_onesOf hc5) ?_
      refine V_aload_n rfl dX12_doesCover_72 rfl rfl ?_
      refine V_geti (k0 := 8) rfl dX12_doesCover_73 s0_136 icX12 (by decide) rfl w_1197 ?_
      refine V_icmp_ge (t := 81) rfl rfl dX12_doesCover_76 (fun hc6 => ?_) (fun hc6 => ?_)
      · replace h := ifp hc6 h
        replace h := lt_e h
        refine V_inc (L' := [_, _, _, _, _]) rfl dX12_doesCover_81 rfl kc_1 (by decide) rfl ?_
        refine V_goto (t := 2) rfl dX12_doesCover_84 ?_
        exact V_sub (le_s (le_s (le_s (le_n (le_n le_0))))) (hr2 _ _ _ h)
      · replace h := ifn hc6 h
        refine V_iconst (v := 0) rfl dX12_doesCover_79 kc_0 ?_
        cases h
        exact V_iret dX12_doesCover_80 rfl nz_0 (Nat.le_refl _) (Nat.le_refl _) qI_ok
    · replace h := ifn hc2 h
      refine V_iload_n rfl dX12_doesCover_22 rfl rfl ?_
      refine V_iload rfl dX12_doesCover_23 rfl ?_
      refine V_ishr rfl dX12_doesCover_25 ?_
      refine V_iconst (v := 1) rfl dX12_doesCover_26 kc_1 ?_
      refine V_iand rfl dX12_doesCover_27 ?_
      refine V_iconst (v := 1) rfl dX12_doesCover_28 kc_1 ?_
      refine V_icmp_ne (t := 61) rfl rfl dX12_doesCover_29 (fun hc8 => ?_) (fun hc8 => ?_)
      · replace h := ifn hc8 h
        replace h := lt_e h
        refine V_inc (L' := [_, _, _, _, _]) rfl dX12_doesCover_61 rfl kc_1 (by decide) rfl ?_
        refine V_goto (t := 13) rfl dX12_doesCover_64 ?_
        exact V_sub (le_s (le_s (le_s (le_s (le_s le_0))))) (hr13 _ _ _ _ _ h)
      · replace h := ifp hc8 h
        refine V_aload_n rfl dX12_doesCover_32 rfl rfl ?_
        refine V_getr (k0 := 43) rfl dX12_doesCover_33 s0_136 icX12 (by decide) rfl w_1232 ?_
        refine V_iload rfl dX12_doesCover_36 rfl ?_
        replace h := rd_e h
        obtain ⟨hb11, h⟩ := h
        refine V_iald rfl dX12_doesCover_38 s0_158 hb11 ?_
        refine V_iload_n rfl dX12_doesCover_39 rfl rfl ?_
        refine V_ishr rfl dX12_doesCover_40 ?_
        refine V_iconst (v := 1) rfl dX12_doesCover_41 kc_1 ?_
        refine V_iand rfl dX12_doesCover_42 ?_
        refine V_iconst (v := 1) rfl dX12_doesCover_43 kc_1 ?_
        refine V_icmp_ne (t := 61) rfl rfl dX12_doesCover_44 (fun hc12 => ?_) (fun hc12 => ?_)
        · replace h := ifn hc12 h
          replace h := lt_e h
          refine V_inc (L' := [_, _, _, _, _]) rfl dX12_doesCover_61 rfl kc_1 (by decide) rfl ?_
          refine V_goto (t := 13) rfl dX12_doesCover_64 ?_
          exact V_sub (le_s (le_s (le_s (le_s (le_s le_0))))) (hr13 _ _ _ _ _ h)
        · replace h := ifp hc12 h
          refine V_iload_n rfl dX12_doesCover_47 rfl rfl ?_
          refine V_iconst (v := 1) rfl dX12_doesCover_48 kc_1 ?_
          refine V_aload_n rfl dX12_doesCover_49 rfl rfl ?_
          refine V_getr (k0 := 39) rfl dX12_doesCover_50 s0_136 icX12 (by decide) rfl w_1228 ?_
          refine V_iconst (v := 3) rfl dX12_doesCover_53 kc_3 ?_
          refine V_iload rfl dX12_doesCover_54 rfl ?_
          refine V_imul rfl dX12_doesCover_56 ?_
          replace h := rd_e h
          obtain ⟨hb15, h⟩ := h
          refine V_iald rfl dX12_doesCover_57 s0_154 hb15 ?_
          refine V_ishl rfl dX12_doesCover_58 ?_
          refine V_ior rfl dX12_doesCover_59 ?_
          replace h := lt_e h
          refine V_istore_n (L' := [_, _, _, _, _]) rfl rfl dX12_doesCover_60 (by decide) rfl ?_
          replace h := lt_e h
          refine V_inc (L' := [_, _, _, _, _]) rfl dX12_doesCover_61 rfl kc_1 (by decide) rfl ?_
          refine V_goto (t := 13) rfl dX12_doesCover_64 ?_
          exact V_sub (le_s (le_s (le_s (le_s (le_s le_0))))) (hr13 _ _ _ _ _ h)
def f_X12_doesCover_2_b (r2 : Int32 → Int32 → IM → IR) (x1 : Int32) (x2 : Int32) (M : IM) : IR := if 24 ≤ x2 then some (1, M) else f_X12_doesCover_13 r2 BG x1 x2 0 0 M
def f_X12_doesCover_2 (n : Nat) : Int32 → Int32 → IM → IR := itr (fun _ _ _ => none) (f_X12_doesCover_2_b) n
set_option maxRecDepth 100000 in
set_option maxHeartbeats 4000000 in
theorem t_X12_doesCover_2 {g : IG} {a : Nat → Nat} {R : Int32 × IM} (n : Nat) : ∀ (x1 : Int32) (x2 : Int32) (M : IM), f_X12_doesCover_2 n x1 x2 M = some R → V g mX12_doesCover 2 0 0 (qI S0 a R) 2 [some (.ref (a 136)), some (.int x1), some (.int x2), none, none] [] a S0 M 0 0 := by
  induction n with
  | zero => intro x1 x2 M h; exact absurd h (fun z => by cases z)
  | succ n hr2 =>
    intro x1 x2 M h
    replace h : f_X12_doesCover_2_b (f_X12_doesCover_2 n) x1 x2 M = some R := h
    unfold f_X12_doesCover_2_b at h
    refine V_iload_n rfl dX12_doesCover_2 rfl rfl ?_
    refine V_bipush (v := 24) rfl dX12_doesCover_3 kb_24 ?_
    refine V_icmp_ge (t := 87) rfl rfl dX12_doesCover_5 (fun hc1 => ?_) (fun hc1 => ?_)
    · replace h := ifp hc1 h
      refine V_iconst (v := 1) rfl dX12_doesCover_87 kc_1 ?_
      cases h
      exact V_iret dX12_doesCover_88 rfl nz_1 (Nat.le_refl _) (Nat.le_refl _) qI_ok
    · replace h := ifn hc1 h
      refine V_iconst (v := 0) rfl dX12_doesCover_8 kc_0 ?_
      refine V_istore_n (L' := [_, _, _, _, _]) rfl rfl dX12_doesCover_9 (by decide) rfl ?_
      refine V_iconst (v := 0) rfl dX12_doesCover_10 kc_0 ?_
      refine V_istore (L' := [_, _, _, _, _]) rfl dX12_doesCover_11 (by decide) rfl ?_
      exact V_sub (le_s (le_s (le_s (le_s (le_s le_0))))) (t_X12_doesCover_13 hr2 BG _ _ _ _ _ h)
def f_X12_doesCover (p1 : Int32) (M : IM) : IR := f_X12_doesCover_2 BG p1 0 M
set_option maxRecDepth 100000 in
set_option maxHeartbeats 4000000 in
theorem t_X12_doesCover {g : IG} {a : Nat → Nat} {R : Int32 × IM} {p1 : Int32} {M : IM} (h : f_X12_doesCover p1 M = some R) : Cn g mX12_doesCover 2 0 0 (qI S0 a R) [.ref (a 136), .int p1] a S0 M := by
  refine Cn_of (L := [some (.ref (a 136)), some (.int p1), none, none, none]) mf_X12_doesCover (cat_r (cat_i cat_0)) (Nat.le_of_ble_eq_true rfl) rfl ?_
  unfold f_X12_doesCover at h
  refine V_iconst (v := 0) rfl dX12_doesCover_0 kc_0 ?_
  refine V_istore_n (L' := [_, _, _, _, _]) rfl rfl dX12_doesCover_1 (by decide) rfl ?_
  exact V_sub (le_s (le_s (le_s (le_n (le_n le_0))))) (t_X12_doesCover_2 BG _ _ _ h)
-- X12_coverSet: NeverHaltedModel.coverSet()I
def f_X12_coverSet_19_b (r2 : Int32 → IM → IR) (r19 : Int32 → Int32 → IM → IR) (x1 : Int32) (x2 : Int32) (M : IM) : IR := if 24 ≤ x2 then lt (x1 + 1) fun v15 => r2 v15 M else cl (f_X12_hasShift x1 x2 M) fun w16 M17 => if w16 = 0 then lt (x2 + 1) fun v20 => r19 x1 v20 M17 else rd M17 158 16 x1 fun v21 => wr M17 158 16 x1 (v21 ||| ((1 : Int32) <<< (x2 &&& 31))) fun M23 => lt (x2 + 1) fun v25 => r19 x1 v25 M23
def f_X12_coverSet_19 (r2 : Int32 → IM → IR) (n : Nat) : Int32 → Int32 → IM → IR := itr (fun _ _ _ => none) (f_X12_coverSet_19_b r2) n
set_option maxRecDepth 100000 in
set_option maxHeartbeats 4000000 in
theorem t_X12_coverSet_19 {g : IG} {a : Nat → Nat} {R : Int32 × IM} {r2 : Int32 → IM → IR} (hr2 : ∀ (x1 : Int32) (M : IM), r2 x1 M = some R → V g mX12_coverSet 3 0 0 (qI S0 a R) 2 [some (.ref (a 136)), some (.int x1), none] [] a S0 M 0 0) (n : Nat) : ∀ (x1 : Int32) (x2 : Int32) (M : IM), f_X12_coverSet_19 r2 n x1 x2 M = some R → V g mX12_coverSet 3 0 0 (qI S0 a R) 19 [some (.ref (a 136)), some (.int x1), some (.int x2)] [] a S0 M 0 0 := by
  induction n with
  | zero => intro x1 x2 M h; exact absurd h (fun z => by cases z)
  | succ n hr19 =>
    intro x1 x2 M h
    replace h : f_X12_coverSet_19_b r2 (f_X12_coverSet_19 r2 n) x1 x2 M = some R := h
    unfold f_X12_coverSet_19_b at h
    refine V_iload_n rfl dX12_coverSet_19 rfl rfl ?_
    refine V_bipush (v := 24) rfl dX12_coverSet_20 kb_24 ?_
    refine V_icmp_ge (t := 56) rfl rfl dX12_coverSet_22 (fun hc14 => ?_) (fun hc14 => ?_)
    · replace h := ifp hc14 h
      replace h := lt_e h
      refine V_inc (L' := [_, _, _]) rfl dX12_coverSet_56 rfl kc_1 (by decide) rfl ?_
      refine V_goto (t := 2) rfl dX12_coverSet_59 ?_
      exact V_sub (le_s (le_s (le_n le_0))) (hr2 _ _ h)
    · replace h := ifn hc14 h
      refine V_aload_n rfl dX12_coverSet_25 rfl rfl ?_
      refine V_iload_n rfl dX12_coverSet_26 rfl rfl ?_
      refine V_iload_n rfl dX12_coverSet_27 rfl rfl ?_
      replace h := cl_e h
      obtain ⟨w16, M17, hc18, h⟩ := h
      refine V_ii (As := [.int _, .int _]) rfl dX12_coverSet_28 mf_X12_hasShift ⟨w_1559, w_87⟩ w_1557 (by decide) s0_136 rfl rfl rfl rfl ⟨rfl, rfl⟩ (t_X12_hasShift hc18) ?_
      refine V_if_eq (t := 50) rfl rfl dX12_coverSet_31 (fun hc19 => ?_) (fun hc19 => ?_)
      · replace h := ifp hc19 h
        replace h := lt_e h
        refine V_inc (L' := [_, _, _]) rfl dX12_coverSet_50 rfl kc_1 (by decide) rfl ?_
        refine V_goto (t := 19) rfl dX12_coverSet_53 ?_
        exact V_sub (le_s (le_s (le_s le_0))) (hr19 _ _ _ h)
      · replace h := ifn hc19 h
        refine V_aload_n rfl dX12_coverSet_34 rfl rfl ?_
        refine V_getr (k0 := 43) rfl dX12_coverSet_35 s0_136 icX12 (by decide) rfl w_1232 ?_
        refine V_iload_n rfl dX12_coverSet_38 rfl rfl ?_
        refine V_aload_n rfl dX12_coverSet_39 rfl rfl ?_
        refine V_getr (k0 := 43) rfl dX12_coverSet_40 s0_136 icX12 (by decide) rfl w_1232 ?_
        refine V_iload_n rfl dX12_coverSet_43 rfl rfl ?_
        replace h := rd_e h
        obtain ⟨hb22, h⟩ := h
        refine V_iald rfl dX12_coverSet_44 s0_158 hb22 ?_
        refine V_iconst (v := 1) rfl dX12_coverSet_45 kc_1 ?_
        refine V_iload_n rfl dX12_coverSet_46 rfl rfl ?_
        refine V_ishl rfl dX12_coverSet_47 ?_
        refine V_ior rfl dX12_coverSet_48 ?_
        replace h := wr_e h
        obtain ⟨hb24, h⟩ := h
        refine V_iast rfl dX12_coverSet_49 s0_158 hb24 ?_
        replace h := lt_e h
        refine V_inc (L' := [_, _, _]) rfl dX12_coverSet_50 rfl kc_1 (by decide) rfl ?_
        refine V_goto (t := 19) rfl dX12_coverSet_53 ?_
        exact V_sub (le_s (le_s (le_s le_0))) (hr19 _ _ _ h)
def f_X12_coverSet_94 (r66 : Int32 → Int32 → IM → IR) (x1 : Int32) (x2 : Int32) (M : IM) : IR := cl (f_X12_doesCover x2 M) fun w26 M27 => if w26 = 0 then lt (x2 + 1) fun v30 => r66 x1 v30 M27 else lt (x2 + 1) fun v31 => r66 x2 v31 M27
set_option maxRecDepth 100000 in
set_option maxHeartbeats 4000000 in
theorem t_X12_coverSet_94 {g : IG} {a : Nat → Nat} {R : Int32 × IM} {r66 : Int32 → Int32 → IM → IR} {x1 : Int32} {x2 : Int32} {M : IM} (hr66 : ∀ (x1 : Int32) (x2 : Int32) (M : IM), r66 x1 x2 M = some R → V g mX12_coverSet 3 0 0 (qI S0 a R) 66 [some (.ref (a 136)), some (.int x1), some (.int x2)] [] a S0 M 0 0) (h : f_X12_coverSet_94 r66 x1 x2 M = some R) : V g mX12_coverSet 3 0 0 (qI S0 a R) 94 [some (.ref (a 136)), some (.int x1), some (.int x2)] [] a S0 M 0 0 := by
  unfold f_X12_coverSet_94 at h
  refine V_aload_n rfl dX12_coverSet_94 rfl rfl ?_
  refine V_iload_n rfl dX12_coverSet_95 rfl rfl ?_
  replace h := cl_e h
  obtain ⟨w26, M27, hc28, h⟩ := h
  refine V_ii (As := [.int _]) rfl dX12_coverSet_96 mf_X12_doesCover ⟨w_1697, w_114⟩ w_1695 (by decide) s0_136 rfl rfl rfl rfl ⟨rfl, rfl⟩ (t_X12_doesCover hc28) ?_
  refine V_if_eq (t := 104) rfl rfl dX12_coverSet_99 (fun hc29 => ?_) (fun hc29 => ?_)
  · replace h := ifp hc29 h
    replace h := lt_e h
    refine V_inc (L' := [_, _, _]) rfl dX12_coverSet_104 rfl kc_1 (by decide) rfl ?_
    refine V_goto (t := 66) rfl dX12_coverSet_107 ?_
    exact V_sub (le_s (le_s (le_s le_0))) (hr66 _ _ _ h)
  · replace h := ifn hc29 h
    refine V_iload_n rfl dX12_coverSet_102 rfl rfl ?_
    refine V_istore_n (L' := [_, _, _]) rfl rfl dX12_coverSet_103 (by decide) rfl ?_
    replace h := lt_e h
    refine V_inc (L' := [_, _, _]) rfl dX12_coverSet_104 rfl kc_1 (by decide) rfl ?_
    refine V_goto (t := 66) rfl dX12_coverSet_107 ?_
    exact V_sub (le_s (le_s (le_s le_0))) (hr66 _ _ _ h)
def f_X12_coverSet_66_b (r66 : Int32 → Int32 → IM → IR) (x1 : Int32) (x2 : Int32) (M : IM) : IR := if ((1 : Int32) <<< ((M 136 38) &&& 31)) ≤ x2 then some (x1, M) else if x1 = (-1) then f_X12_coverSet_94 r66 x1 x2 M else cl (f_X12_onesOf x2 M) fun w6 M7 => cl (f_X12_onesOf x1 M7) fun w9 M10 => if w9 ≤ w6 then lt (x2 + 1) fun v13 => r66 x1 v13 M10 else f_X12_coverSet_94 r66 x1 x2 M10
def f_X12_coverSet_66 (n : Nat) : Int32 → Int32 → IM → IR := itr (fun _ _ _ => none) (f_X12_coverSet_66_b) n
set_option maxRecDepth 100000 in
set_option maxHeartbeats 4000000 in
theorem t_X12_coverSet_66 {g : IG} {a : Nat → Nat} {R : Int32 × IM} (n : Nat) : ∀ (x1 : Int32) (x2 : Int32) (M : IM), f_X12_coverSet_66 n x1 x2 M = some R → V g mX12_coverSet 3 0 0 (qI S0 a R) 66 [some (.ref (a 136)), some (.int x1), some (.int x2)] [] a S0 M 0 0 := by
  induction n with
  | zero => intro x1 x2 M h; exact absurd h (fun z => by cases z)
  | succ n hr66 =>
    intro x1 x2 M h
    replace h : f_X12_coverSet_66_b (f_X12_coverSet_66 n) x1 x2 M = some R := h
    unfold f_X12_coverSet_66_b at h
    refine V_iload_n rfl dX12_coverSet_66 rfl rfl ?_
    refine V_iconst (v := 1) rfl dX12_coverSet_67 kc_1 ?_
    refine V_aload_n rfl dX12_coverSet_68 rfl rfl ?_
    refine V_geti (k0 := 38) rfl dX12_coverSet_69 s0_136 icX12 (by decide) rfl w_1227 ?_
    refine V_ishl rfl dX12_coverSet_72 ?_
    refine V_icmp_ge (t := 110) rfl rfl dX12_coverSet_73 (fun hc4 => ?_) (fun hc4 => ?_)
    · replace h := ifp hc4 h
      refine V_iload_n rfl dX12_coverSet_110 rfl rfl ?_
      cases h
      exact V_iret dX12_coverSet_111 rfl rfl (Nat.le_refl _) (Nat.le_refl _) qI_ok
    · replace h := ifn hc4 h
      refine V_iload_n rfl dX12_coverSet_76 rfl rfl ?_
      refine V_iconst (v := (-1)) rfl dX12_coverSet_77 kc_m1 ?_
      refine V_icmp_eq (t := 94) rfl rfl dX12_coverSet_78 (fun hc5 => ?_) (fun hc5 => ?_)
      · replace h := ifp hc5 h
        exact V_sub (le_s (le_s (le_s le_0))) (t_X12_coverSet_94 hr66 h)
      · replace h := ifn hc5 h
        refine V_aload_n rfl dX12_coverSet_81 rfl rfl ?_
        refine V_iload_n rfl dX12_coverSet_82 rfl rfl ?_
        replace h := cl_e h
        obtain ⟨w6, M7, hc8, h⟩ := h
        refine V_ii (As := [.int _]) rfl dX12_coverSet_83 mf_X12_onesOf ⟨w_1595, w_96⟩ w_1593 (by decide) s0_136 rfl rfl rfl rfl ⟨rfl, rfl⟩ (t_X12_onesOf hc8) ?_
        refine V_aload_n rfl dX12_coverSet_86 rfl rfl ?_
        refine V_iload_n rfl dX12_coverSet_87 rfl rfl ?_
        replace h := cl_e h
        obtain ⟨w9, M10, hc11, h⟩ := h
        refine V_ii (As := [.int _]) rfl dX12_coverSet_88 mf_X12_onesOf ⟨w_1595, w_96⟩ w_1593 (by decide) s0_136 rfl rfl rfl rfl ⟨rfl, rfl⟩ (t_X12_onesOf hc11) ?_
        refine V_icmp_ge (t := 104) rfl rfl dX12_coverSet_91 (fun hc12 => ?_) (fun hc12 => ?_)
        · replace h := ifp hc12 h
          replace h := lt_e h
          refine V_inc (L' := [_, _, _]) rfl dX12_coverSet_104 rfl kc_1 (by decide) rfl ?_
          refine V_goto (t := 66) rfl dX12_coverSet_107 ?_
          exact V_sub (le_s (le_s (le_s le_0))) (hr66 _ _ _ h)
        · replace h := ifn hc12 h
          exact V_sub (le_s (le_s (le_s le_0))) (t_X12_coverSet_94 hr66 h)
def f_X12_coverSet_2_b (r2 : Int32 → IM → IR) (x1 : Int32) (M : IM) : IR := if (M 136 38) ≤ x1 then f_X12_coverSet_66 BG (-1) 0 M else wr M 158 16 x1 0 fun M2 => f_X12_coverSet_19 r2 BG x1 0 M2
def f_X12_coverSet_2 (n : Nat) : Int32 → IM → IR := itr (fun _ _ => none) (f_X12_coverSet_2_b) n
set_option maxRecDepth 100000 in
set_option maxHeartbeats 4000000 in
theorem t_X12_coverSet_2 {g : IG} {a : Nat → Nat} {R : Int32 × IM} (n : Nat) : ∀ (x1 : Int32) (M : IM), f_X12_coverSet_2 n x1 M = some R → V g mX12_coverSet 3 0 0 (qI S0 a R) 2 [some (.ref (a 136)), some (.int x1), none] [] a S0 M 0 0 := by
  induction n with
  | zero => intro x1 M h; exact absurd h (fun z => by cases z)
  | succ n hr2 =>
    intro x1 M h
    replace h : f_X12_coverSet_2_b (f_X12_coverSet_2 n) x1 M = some R := h
    unfold f_X12_coverSet_2_b at h
    refine V_iload_n rfl dX12_coverSet_2 rfl rfl ?_
    refine V_aload_n rfl dX12_coverSet_3 rfl rfl ?_
    refine V_geti (k0 := 38) rfl dX12_coverSet_4 s0_136 icX12 (by decide) rfl w_1227 ?_
    refine V_icmp_ge (t := 62) rfl rfl dX12_coverSet_7 (fun hc1 => ?_) (fun hc1 => ?_)
    · replace h := ifp hc1 h
      refine V_iconst (v := (-1)) rfl dX12_coverSet_62 kc_m1 ?_
      refine V_istore_n (L' := [_, _, _]) rfl rfl dX12_coverSet_63 (by decide) rfl ?_
      refine V_iconst (v := 0) rfl dX12_coverSet_64 kc_0 ?_
      refine V_istore_n (L' := [_, _, _]) rfl rfl dX12_coverSet_65 (by decide) rfl ?_
      exact V_sub (le_s (le_s (le_s le_0))) (t_X12_coverSet_66 BG _ _ _ h)
    · replace h := ifn hc1 h
      refine V_aload_n rfl dX12_coverSet_10 rfl rfl ?_
      refine V_getr (k0 := 43) rfl dX12_coverSet_11 s0_136 icX12 (by decide) rfl w_1232 ?_
      refine V_iload_n rfl dX12_coverSet_14 rfl rfl ?_
      refine V_iconst (v := 0) rfl dX12_coverSet_15 kc_0 ?_
      replace h := wr_e h
      obtain ⟨hb3, h⟩ := h
      refine V_iast rfl dX12_coverSet_16 s0_158 hb3 ?_
      refine V_iconst (v := 0) rfl dX12_coverSet_17 kc_0 ?_
      refine V_istore_n (L' := [_, _, _]) rfl rfl dX12_coverSet_18 (by decide) rfl ?_
      exact V_sub (le_s (le_s (le_s le_0))) (t_X12_coverSet_19 hr2 BG _ _ _ h)
def f_X12_coverSet (M : IM) : IR := f_X12_coverSet_2 BG 0 M
set_option maxRecDepth 100000 in
set_option maxHeartbeats 4000000 in
theorem t_X12_coverSet {g : IG} {a : Nat → Nat} {R : Int32 × IM} {M : IM} (h : f_X12_coverSet M = some R) : Cn g mX12_coverSet 3 0 0 (qI S0 a R) [.ref (a 136)] a S0 M := by
  refine Cn_of (L := [some (.ref (a 136)), none, none]) mf_X12_coverSet (cat_r cat_0) (Nat.le_of_ble_eq_true rfl) rfl ?_
  unfold f_X12_coverSet at h
  refine V_iconst (v := 0) rfl dX12_coverSet_0 kc_0 ?_
  refine V_istore_n (L' := [_, _, _]) rfl rfl dX12_coverSet_1 (by decide) rfl ?_
  exact V_sub (le_s (le_s (le_n le_0))) (t_X12_coverSet_2 BG _ _ h)
-- X12_cover: NeverHaltedModel.cover(I)I
def f_X12_cover (p1 : Int32) (M : IM) : IR := pt M 136 0 0 fun M1 => cl (f_X12_isIn p1 0 1 M1) fun w2 M3 => if w2 = 0 then some ((-1), M3) else cl (f_X12_coverSet M3) fun w6 M7 => if w6 = (-1) then some (w6, M7) else if p1 = 1 then some (w6, M7) else cl (f_X12_onesOf w6 M7) fun w11 M12 => some (w11, M12)
set_option maxRecDepth 100000 in
set_option maxHeartbeats 4000000 in
theorem t_X12_cover {g : IG} {a : Nat → Nat} {R : Int32 × IM} {p1 : Int32} {M : IM} (h : f_X12_cover p1 M = some R) : Cn g mX12_cover 4 0 0 (qI S0 a R) [.ref (a 136), .int p1] a S0 M := by
  refine Cn_of (L := [some (.ref (a 136)), some (.int p1), none]) mf_X12_cover (cat_r (cat_i cat_0)) (Nat.le_of_ble_eq_true rfl) rfl ?_
  unfold f_X12_cover at h
  refine V_aload_n rfl dX12_cover_0 rfl rfl ?_
  refine V_iconst (v := 0) rfl dX12_cover_1 kc_0 ?_
  replace h := pt_e h
  refine V_putf (k0 := 0) (ty := .int) rfl dX12_cover_2 s0_136 icX12 tyX12_ok nmX12 (by decide) rfl w_1189 rfl (tyX12_ok _ (by decide)) rfl rfl ?_
  refine V_aload_n rfl dX12_cover_5 rfl rfl ?_
  refine V_iload_n rfl dX12_cover_6 rfl rfl ?_
  refine V_iconst (v := 0) rfl dX12_cover_7 kc_0 ?_
  refine V_iconst (v := 1) rfl dX12_cover_8 kc_1 ?_
  replace h := cl_e h
  obtain ⟨w2, M3, hc4, h⟩ := h
  refine V_ii (As := [.int _, .int _, .int _]) rfl dX12_cover_9 mf_X12_isIn ⟨w_1367, w_47⟩ w_1365 (by decide) s0_136 rfl rfl rfl rfl ⟨rfl, rfl⟩ (t_X12_isIn hc4) ?_
  refine V_if_ne (t := 17) rfl rfl dX12_cover_12 (fun hc5 => ?_) (fun hc5 => ?_)
  · replace h := ifn hc5 h
    refine V_aload_n rfl dX12_cover_17 rfl rfl ?_
    replace h := cl_e h
    obtain ⟨w6, M7, hc8, h⟩ := h
    refine V_ii (As := []) rfl dX12_cover_18 mf_X12_coverSet ⟨w_1693, w_113⟩ w_1691 (by decide) s0_136 rfl rfl rfl rfl ⟨rfl, rfl⟩ (t_X12_coverSet hc8) ?_
    refine V_istore_n (L' := [_, _, _]) rfl rfl dX12_cover_21 (by decide) rfl ?_
    refine V_iload_n rfl dX12_cover_22 rfl rfl ?_
    refine V_iconst (v := (-1)) rfl dX12_cover_23 kc_m1 ?_
    refine V_icmp_eq (t := 32) rfl rfl dX12_cover_24 (fun hc9 => ?_) (fun hc9 => ?_)
    · replace h := ifp hc9 h
      refine V_iload_n rfl dX12_cover_32 rfl rfl ?_
      refine V_goto (t := 41) rfl dX12_cover_33 ?_
      cases h
      exact V_iret dX12_cover_41 rfl rfl (Nat.le_refl _) (Nat.le_refl _) qI_ok
    · replace h := ifn hc9 h
      refine V_iload_n rfl dX12_cover_27 rfl rfl ?_
      refine V_iconst (v := 1) rfl dX12_cover_28 kc_1 ?_
      refine V_icmp_ne (t := 36) rfl rfl dX12_cover_29 (fun hc10 => ?_) (fun hc10 => ?_)
      · replace h := ifn hc10 h
        refine V_aload_n rfl dX12_cover_36 rfl rfl ?_
        refine V_iload_n rfl dX12_cover_37 rfl rfl ?_
        replace h := cl_e h
        obtain ⟨w11, M12, hc13, h⟩ := h
        refine V_ii (As := [.int _]) rfl dX12_cover_38 mf_X12_onesOf ⟨w_1595, w_96⟩ w_1593 (by decide) s0_136 rfl rfl rfl rfl ⟨rfl, rfl⟩ (t_X12_onesOf hc13) ?_
        cases h
        exact V_iret dX12_cover_41 rfl rfl (Nat.le_refl _) (Nat.le_refl _) qI_ok
      · replace h := ifp hc10 h
        refine V_iload_n rfl dX12_cover_32 rfl rfl ?_
        refine V_goto (t := 41) rfl dX12_cover_33 ?_
        cases h
        exact V_iret dX12_cover_41 rfl rfl (Nat.le_refl _) (Nat.le_refl _) qI_ok
  · replace h := ifp hc5 h
    refine V_iconst (v := (-1)) rfl dX12_cover_15 kc_m1 ?_
    cases h
    exact V_iret dX12_cover_16 rfl rfl (Nat.le_refl _) (Nat.le_refl _) qI_ok
-- X12_takenBy: NeverHaltedModel.takenBy(I)I
def f_X12_takenBy (p1 : Int32) (M : IM) : IR := if p1 = 0 then some (0, M) else if 5 ≤ p1 then if p1 = 5 then some (5, M) else some (10, M) else some (((1 : Int32) <<< ((p1 - 1) &&& 31)), M)
set_option maxRecDepth 100000 in
set_option maxHeartbeats 4000000 in
theorem t_X12_takenBy {g : IG} {a : Nat → Nat} {R : Int32 × IM} {p1 : Int32} {M : IM} (h : f_X12_takenBy p1 M = some R) : Cn g mX12_takenBy 1 0 0 (qI S0 a R) [.ref (a 136), .int p1] a S0 M := by
  refine Cn_of (L := [some (.ref (a 136)), some (.int p1)]) mf_X12_takenBy (cat_r (cat_i cat_0)) (Nat.le_of_ble_eq_true rfl) rfl ?_
  unfold f_X12_takenBy at h
  refine V_iload_n rfl dX12_takenBy_0 rfl rfl ?_
  refine V_if_ne (t := 8) rfl rfl dX12_takenBy_1 (fun hc1 => ?_) (fun hc1 => ?_)
  · replace h := ifn hc1 h
    refine V_iload_n rfl dX12_takenBy_8 rfl rfl ?_
    refine V_iconst (v := 5) rfl dX12_takenBy_9 kc_5 ?_
    refine V_icmp_ge (t := 21) rfl rfl dX12_takenBy_10 (fun hc2 => ?_) (fun hc2 => ?_)
    · replace h := ifp hc2 h
      refine V_iload_n rfl dX12_takenBy_21 rfl rfl ?_
      refine V_iconst (v := 5) rfl dX12_takenBy_22 kc_5 ?_
      refine V_icmp_ne (t := 30) rfl rfl dX12_takenBy_23 (fun hc3 => ?_) (fun hc3 => ?_)
      · replace h := ifn hc3 h
        refine V_bipush (v := 10) rfl dX12_takenBy_30 kb_10 ?_
        cases h
        exact V_iret dX12_takenBy_32 rfl rfl (Nat.le_refl _) (Nat.le_refl _) qI_ok
      · replace h := ifp hc3 h
        refine V_iconst (v := 5) rfl dX12_takenBy_26 kc_5 ?_
        refine V_goto (t := 32) rfl dX12_takenBy_27 ?_
        cases h
        exact V_iret dX12_takenBy_32 rfl rfl (Nat.le_refl _) (Nat.le_refl _) qI_ok
    · replace h := ifn hc2 h
      refine V_iconst (v := 1) rfl dX12_takenBy_13 kc_1 ?_
      refine V_iload_n rfl dX12_takenBy_14 rfl rfl ?_
      refine V_iconst (v := 1) rfl dX12_takenBy_15 kc_1 ?_
      refine V_isub rfl dX12_takenBy_16 ?_
      refine V_ishl rfl dX12_takenBy_17 ?_
      refine V_goto (t := 32) rfl dX12_takenBy_18 ?_
      cases h
      exact V_iret dX12_takenBy_32 rfl rfl (Nat.le_refl _) (Nat.le_refl _) qI_ok
  · replace h := ifp hc1 h
    refine V_iconst (v := 0) rfl dX12_takenBy_4 kc_0 ?_
    refine V_goto (t := 32) rfl dX12_takenBy_5 ?_
    cases h
    exact V_iret dX12_takenBy_32 rfl rfl (Nat.le_refl _) (Nat.le_refl _) qI_ok
