-- X12_crossed: NeverHaltedModel.crossed(II)I
def f_X12_crossed_71_b (r61 : Int32 → Int32 → Int32 → IM → IR) (r71 : Int32 → Int32 → Int32 → Int32 → IM → IR) (x1 : Int32) (x2 : Int32) (x3 : Int32) (x4 : Int32) (M : IM) : IR := if x4 < 0 then lt (x3 + 1) fun v23 => r61 x1 x2 v23 M else rd M 162 13 x4 fun v24 => lt (Int64.toInt32 (((Int32.toInt64 v24) * (Int32.toInt64 (1000 - (M 136 9)))) / 1000)) fun v26 => rd M 162 13 x4 fun v27 => wr M 162 13 x4 (v27 - v26) fun M29 => rd M29 162 13 (x4 + 1) fun v31 => wr M29 162 13 (x4 + 1) (v31 + v26) fun M33 => lt (x4 + (-1)) fun v35 => r71 x1 x2 x3 v35 M33
def f_X12_crossed_71 (r61 : Int32 → Int32 → Int32 → IM → IR) (n : Nat) : Int32 → Int32 → Int32 → Int32 → IM → IR := itr (fun _ _ _ _ _ => none) (f_X12_crossed_71_b r61) n
set_option maxRecDepth 100000 in
set_option maxHeartbeats 4000000 in
theorem t_X12_crossed_71 {g : IG} {a : Nat → Nat} {R : Int32 × IM} {r61 : Int32 → Int32 → Int32 → IM → IR} (hr61 : ∀ (x1 : Int32) (x2 : Int32) (x3 : Int32) (M : IM), r61 x1 x2 x3 M = some R → V g mX12_crossed 2 0 0 (qI S0 a R) 61 [some (.ref (a 136)), some (.int x1), some (.int x2), some (.int x3), none, none] [] a S0 M 0 0) (n : Nat) : ∀ (x1 : Int32) (x2 : Int32) (x3 : Int32) (x4 : Int32) (M : IM), f_X12_crossed_71 r61 n x1 x2 x3 x4 M = some R → V g mX12_crossed 2 0 0 (qI S0 a R) 71 [some (.ref (a 136)), some (.int x1), some (.int x2), some (.int x3), some (.int x4), none] [] a S0 M 0 0 := by
  induction n with
  | zero => intro x1 x2 x3 x4 M h; exact absurd h (fun z => by cases z)
  | succ n hr71 =>
    intro x1 x2 x3 x4 M h
    replace h : f_X12_crossed_71_b r61 (f_X12_crossed_71 r61 n) x1 x2 x3 x4 M = some R := h
    unfold f_X12_crossed_71_b at h
    refine V_iload rfl dX12_crossed_71 rfl ?_
    refine V_if_lt (t := 145) rfl rfl dX12_crossed_73 (fun hc22 => ?_) (fun hc22 => ?_)
    · replace h := ifp hc22 h
      replace h := lt_e h
      refine V_inc (L' := [_, _, _, _, _, _]) rfl dX12_crossed_145 rfl kc_1 (by decide) rfl ?_
      refine V_goto (t := 61) rfl dX12_crossed_148 ?_
      exact V_sub (le_s (le_s (le_s (le_s (le_n (le_n le_0)))))) (hr61 _ _ _ _ h)
    · replace h := ifn hc22 h
      refine V_aload_n rfl dX12_crossed_76 rfl rfl ?_
      refine V_getr (k0 := 47) rfl dX12_crossed_77 s0_136 icX12 (by decide) rfl w_1236 ?_
      refine V_iload rfl dX12_crossed_80 rfl ?_
      replace h := rd_e h
      obtain ⟨hb25, h⟩ := h
      refine V_iald rfl dX12_crossed_82 s0_162 hb25 ?_
      refine V_i2l rfl dX12_crossed_83 ?_
      refine V_sipush (v := 1000) rfl dX12_crossed_84 ks_1000 ?_
      refine V_aload_n rfl dX12_crossed_87 rfl rfl ?_
      refine V_geti (k0 := 9) rfl dX12_crossed_88 s0_136 icX12 (by decide) rfl w_1198 ?_
      refine V_isub rfl dX12_crossed_91 ?_
      refine V_i2l rfl dX12_crossed_92 ?_
      refine V_lmul rfl dX12_crossed_93 ?_
      refine V_ldc2 (v := 1000) rfl dX12_crossed_94 w_1788 ?_
      refine V_ldiv rfl dX12_crossed_97 (by decide) ?_
      refine V_l2i rfl dX12_crossed_98 ?_
      replace h := lt_e h
      refine V_istore (L' := [_, _, _, _, _, _]) rfl dX12_crossed_99 (by decide) rfl ?_
      refine V_aload_n rfl dX12_crossed_101 rfl rfl ?_
      refine V_getr (k0 := 47) rfl dX12_crossed_102 s0_136 icX12 (by decide) rfl w_1236 ?_
      refine V_iload rfl dX12_crossed_105 rfl ?_
      refine V_aload_n rfl dX12_crossed_107 rfl rfl ?_
      refine V_getr (k0 := 47) rfl dX12_crossed_108 s0_136 icX12 (by decide) rfl w_1236 ?_
      refine V_iload rfl dX12_crossed_111 rfl ?_
      replace h := rd_e h
      obtain ⟨hb28, h⟩ := h
      refine V_iald rfl dX12_crossed_113 s0_162 hb28 ?_
      refine V_iload rfl dX12_crossed_114 rfl ?_
      refine V_isub rfl dX12_crossed_116 ?_
      replace h := wr_e h
      obtain ⟨hb30, h⟩ := h
      refine V_iast rfl dX12_crossed_117 s0_162 hb30 ?_
      refine V_aload_n rfl dX12_crossed_118 rfl rfl ?_
      refine V_getr (k0 := 47) rfl dX12_crossed_119 s0_136 icX12 (by decide) rfl w_1236 ?_
      refine V_iload rfl dX12_crossed_122 rfl ?_
      refine V_iconst (v := 1) rfl dX12_crossed_124 kc_1 ?_
      refine V_iadd rfl dX12_crossed_125 ?_
      refine V_aload_n rfl dX12_crossed_126 rfl rfl ?_
      refine V_getr (k0 := 47) rfl dX12_crossed_127 s0_136 icX12 (by decide) rfl w_1236 ?_
      refine V_iload rfl dX12_crossed_130 rfl ?_
      refine V_iconst (v := 1) rfl dX12_crossed_132 kc_1 ?_
      refine V_iadd rfl dX12_crossed_133 ?_
      replace h := rd_e h
      obtain ⟨hb32, h⟩ := h
      refine V_iald rfl dX12_crossed_134 s0_162 hb32 ?_
      refine V_iload rfl dX12_crossed_135 rfl ?_
      refine V_iadd rfl dX12_crossed_137 ?_
      replace h := wr_e h
      obtain ⟨hb34, h⟩ := h
      refine V_iast rfl dX12_crossed_138 s0_162 hb34 ?_
      replace h := lt_e h
      refine V_inc (L' := [_, _, _, _, _, _]) rfl dX12_crossed_139 rfl kc_m1 (by decide) rfl ?_
      refine V_goto (t := 71) rfl dX12_crossed_142 ?_
      exact V_sub (le_s (le_s (le_s (le_s (le_s (le_n le_0)))))) (hr71 _ _ _ _ _ h)
def f_X12_crossed_61_b (r61 : Int32 → Int32 → Int32 → IM → IR) (x1 : Int32) (x2 : Int32) (x3 : Int32) (M : IM) : IR := if x2 ≤ x3 then rd M 162 13 x1 fun v19 => some (v19, M) else lt (x1 - 1) fun v21 => f_X12_crossed_71 r61 BG x1 x2 x3 v21 M
def f_X12_crossed_61 (n : Nat) : Int32 → Int32 → Int32 → IM → IR := itr (fun _ _ _ _ => none) (f_X12_crossed_61_b) n
set_option maxRecDepth 100000 in
set_option maxHeartbeats 4000000 in
theorem t_X12_crossed_61 {g : IG} {a : Nat → Nat} {R : Int32 × IM} (n : Nat) : ∀ (x1 : Int32) (x2 : Int32) (x3 : Int32) (M : IM), f_X12_crossed_61 n x1 x2 x3 M = some R → V g mX12_crossed 2 0 0 (qI S0 a R) 61 [some (.ref (a 136)), some (.int x1), some (.int x2), some (.int x3), none, none] [] a S0 M 0 0 := by
  induction n with
  | zero => intro x1 x2 x3 M h; exact absurd h (fun z => by cases z)
  | succ n hr61 =>
    intro x1 x2 x3 M h
    replace h : f_X12_crossed_61_b (f_X12_crossed_61 n) x1 x2 x3 M = some R := h
    unfold f_X12_crossed_61_b at h
    refine V_iload_n rfl dX12_crossed_61 rfl rfl ?_
    refine V_iload_n rfl dX12_crossed_62 rfl rfl ?_
    refine V_icmp_ge (t := 151) rfl rfl dX12_crossed_63 (fun hc18 => ?_) (fun hc18 => ?_)
    · replace h := ifp hc18 h
      refine V_aload_n rfl dX12_crossed_151 rfl rfl ?_
      refine V_getr (k0 := 47) rfl dX12_crossed_152 s0_136 icX12 (by decide) rfl w_1236 ?_
      refine V_iload_n rfl dX12_crossed_155 rfl rfl ?_
      replace h := rd_e h
      obtain ⟨hb20, h⟩ := h
      refine V_iald rfl dX12_crossed_156 s0_162 hb20 ?_
      cases h
      exact V_iret dX12_crossed_157 rfl rfl (Nat.le_refl _) (Nat.le_refl _) qI_ok
    · replace h := ifn hc18 h
      refine V_iload_n rfl dX12_crossed_66 rfl rfl ?_
      refine V_iconst (v := 1) rfl dX12_crossed_67 kc_1 ?_
      refine V_isub rfl dX12_crossed_68 ?_
      replace h := lt_e h
      refine V_istore (L' := [_, _, _, _, _, _]) rfl dX12_crossed_69 (by decide) rfl ?_
      exact V_sub (le_s (le_s (le_s (le_s (le_s (le_n le_0)))))) (t_X12_crossed_71 hr61 BG _ _ _ _ _ h)
def f_X12_crossed_31_b (r31 : Int32 → Int32 → Int32 → IM → IR) (x1 : Int32) (x2 : Int32) (x3 : Int32) (M : IM) : IR := if x1 < x3 then f_X12_crossed_61 BG x1 x2 0 M else if x3 = 0 then wr M 162 13 x3 1000000 fun M15 => lt (x3 + 1) fun v17 => r31 x1 x2 v17 M15 else wr M 162 13 x3 0 fun M12 => lt (x3 + 1) fun v14 => r31 x1 x2 v14 M12
def f_X12_crossed_31 (n : Nat) : Int32 → Int32 → Int32 → IM → IR := itr (fun _ _ _ _ => none) (f_X12_crossed_31_b) n
set_option maxRecDepth 100000 in
set_option maxHeartbeats 4000000 in
theorem t_X12_crossed_31 {g : IG} {a : Nat → Nat} {R : Int32 × IM} (n : Nat) : ∀ (x1 : Int32) (x2 : Int32) (x3 : Int32) (M : IM), f_X12_crossed_31 n x1 x2 x3 M = some R → V g mX12_crossed 2 0 0 (qI S0 a R) 31 [some (.ref (a 136)), some (.int x1), some (.int x2), some (.int x3), none, none] [] a S0 M 0 0 := by
  induction n with
  | zero => intro x1 x2 x3 M h; exact absurd h (fun z => by cases z)
  | succ n hr31 =>
    intro x1 x2 x3 M h
    replace h : f_X12_crossed_31_b (f_X12_crossed_31 n) x1 x2 x3 M = some R := h
    unfold f_X12_crossed_31_b at h
    refine V_iload_n rfl dX12_crossed_31 rfl rfl ?_
    refine V_iload_n rfl dX12_crossed_32 rfl rfl ?_
    refine V_icmp_gt (t := 59) rfl rfl dX12_crossed_33 (fun hc10 => ?_) (fun hc10 => ?_)
    · replace h := ifp hc10 h
      refine V_iconst (v := 0) rfl dX12_crossed_59 kc_0 ?_
      refine V_istore_n (L' := [_, _, _, _, _, _]) rfl rfl dX12_crossed_60 (by decide) rfl ?_
      exact V_sub (le_s (le_s (le_s (le_s (le_n (le_n le_0)))))) (t_X12_crossed_61 BG _ _ _ _ h)
    · replace h := ifn hc10 h
      refine V_aload_n rfl dX12_crossed_36 rfl rfl ?_
      refine V_getr (k0 := 47) rfl dX12_crossed_37 s0_136 icX12 (by decide) rfl w_1236 ?_
      refine V_iload_n rfl dX12_crossed_40 rfl rfl ?_
      refine V_iload_n rfl dX12_crossed_41 rfl rfl ?_
      refine V_if_ne (t := 51) rfl rfl dX12_crossed_42 (fun hc11 => ?_) (fun hc11 => ?_)
      · replace h := ifn hc11 h
        refine V_iconst (v := 0) rfl dX12_crossed_51 kc_0 ?_
        replace h := wr_e h
        obtain ⟨hb13, h⟩ := h
        refine V_iast rfl dX12_crossed_52 s0_162 hb13 ?_
        replace h := lt_e h
        refine V_inc (L' := [_, _, _, _, _, _]) rfl dX12_crossed_53 rfl kc_1 (by decide) rfl ?_
        refine V_goto (t := 31) rfl dX12_crossed_56 ?_
        exact V_sub (le_s (le_s (le_s (le_s (le_n (le_n le_0)))))) (hr31 _ _ _ _ h)
      · replace h := ifp hc11 h
        refine V_ldcw (v := 1000000) rfl dX12_crossed_45 w_1711 ?_
        refine V_goto (t := 52) rfl dX12_crossed_48 ?_
        replace h := wr_e h
        obtain ⟨hb16, h⟩ := h
        refine V_iast rfl dX12_crossed_52 s0_162 hb16 ?_
        replace h := lt_e h
        refine V_inc (L' := [_, _, _, _, _, _]) rfl dX12_crossed_53 rfl kc_1 (by decide) rfl ?_
        refine V_goto (t := 31) rfl dX12_crossed_56 ?_
        exact V_sub (le_s (le_s (le_s (le_s (le_n (le_n le_0)))))) (hr31 _ _ _ _ h)
def f_X12_crossed (p1 : Int32) (p2 : Int32) (M : IM) : IR := pt M 136 0 0 fun M1 => cl (f_X12_isIn p1 1 12 M1) fun w2 M3 => if w2 = 0 then some ((-1), M3) else cl (f_X12_isIn p2 0 30 M3) fun w6 M7 => if w6 = 0 then some ((-1), M7) else f_X12_crossed_31 BG p1 p2 0 M7
set_option maxRecDepth 100000 in
set_option maxHeartbeats 4000000 in
theorem t_X12_crossed {g : IG} {a : Nat → Nat} {R : Int32 × IM} {p1 : Int32} {p2 : Int32} {M : IM} (h : f_X12_crossed p1 p2 M = some R) : Cn g mX12_crossed 2 0 0 (qI S0 a R) [.ref (a 136), .int p1, .int p2] a S0 M := by
  refine Cn_of (L := [some (.ref (a 136)), some (.int p1), some (.int p2), none, none, none]) mf_X12_crossed (cat_r (cat_i (cat_i cat_0))) (Nat.le_of_ble_eq_true rfl) rfl ?_
  unfold f_X12_crossed at h
  refine V_aload_n rfl dX12_crossed_0 rfl rfl ?_
  refine V_iconst (v := 0) rfl dX12_crossed_1 kc_0 ?_
  replace h := pt_e h
  refine V_putf (k0 := 0) (ty := .int) rfl dX12_crossed_2 s0_136 icX12 tyX12_ok nmX12 (by decide) rfl w_1189 rfl (tyX12_ok _ (by decide)) rfl rfl ?_
  refine V_aload_n rfl dX12_crossed_5 rfl rfl ?_
  refine V_iload_n rfl dX12_crossed_6 rfl rfl ?_
  refine V_iconst (v := 1) rfl dX12_crossed_7 kc_1 ?_
  refine V_bipush (v := 12) rfl dX12_crossed_8 kb_12 ?_
  replace h := cl_e h
  obtain ⟨w2, M3, hc4, h⟩ := h
  refine V_ii (As := [.int _, .int _, .int _]) rfl dX12_crossed_10 mf_X12_isIn ⟨w_1367, w_47⟩ w_1365 (by decide) s0_136 rfl rfl rfl rfl ⟨rfl, rfl⟩ (t_X12_isIn hc4) ?_
  refine V_if_eq (t := 27) rfl rfl dX12_crossed_13 (fun hc5 => ?_) (fun hc5 => ?_)
  · replace h := ifp hc5 h
    refine V_iconst (v := (-1)) rfl dX12_crossed_27 kc_m1 ?_
    cases h
    exact V_iret dX12_crossed_28 rfl rfl (Nat.le_refl _) (Nat.le_refl _) qI_ok
  · replace h := ifn hc5 h
    refine V_aload_n rfl dX12_crossed_16 rfl rfl ?_
    refine V_iload_n rfl dX12_crossed_17 rfl rfl ?_
    refine V_iconst (v := 0) rfl dX12_crossed_18 kc_0 ?_
    refine V_bipush (v := 30) rfl dX12_crossed_19 kb_30 ?_
    replace h := cl_e h
    obtain ⟨w6, M7, hc8, h⟩ := h
    refine V_ii (As := [.int _, .int _, .int _]) rfl dX12_crossed_21 mf_X12_isIn ⟨w_1367, w_47⟩ w_1365 (by decide) s0_136 rfl rfl rfl rfl ⟨rfl, rfl⟩ (t_X12_isIn hc8) ?_
    refine V_if_ne (t := 29) rfl rfl dX12_crossed_24 (fun hc9 => ?_) (fun hc9 => ?_)
    · replace h := ifn hc9 h
      refine V_iconst (v := 0) rfl dX12_crossed_29 kc_0 ?_
      refine V_istore_n (L' := [_, _, _, _, _, _]) rfl rfl dX12_crossed_30 (by decide) rfl ?_
      exact V_sub (le_s (le_s (le_s (le_s (le_n (le_n le_0)))))) (t_X12_crossed_31 BG _ _ _ _ h)
    · replace h := ifp hc9 h
      refine V_iconst (v := (-1)) rfl dX12_crossed_27 kc_m1 ?_
      cases h
      exact V_iret dX12_crossed_28 rfl rfl (Nat.le_refl _) (Nat.le_refl _) qI_ok
-- X12_standsBefore: NeverHaltedModel.standsBefore(II)Z
def f_X12_standsBefore (p1 : Int32) (p2 : Int32) (M : IM) : IR := rd M 137 40 (10 + p1) fun v1 => rd M 137 40 (10 + p2) fun v3 => if v1 < v3 then some (1, M) else rd M 137 40 (10 + p1) fun v6 => rd M 137 40 (10 + p2) fun v8 => if v6 = v8 then if p2 ≤ p1 then some (0, M) else some (1, M) else some (0, M)
set_option maxRecDepth 100000 in
set_option maxHeartbeats 4000000 in
theorem t_X12_standsBefore {g : IG} {a : Nat → Nat} {R : Int32 × IM} {p1 : Int32} {p2 : Int32} {M : IM} (h : f_X12_standsBefore p1 p2 M = some R) : Cn g mX12_standsBefore 1 0 0 (qI S0 a R) [.ref (a 136), .int p1, .int p2] a S0 M := by
  refine Cn_of (L := [some (.ref (a 136)), some (.int p1), some (.int p2)]) mf_X12_standsBefore (cat_r (cat_i (cat_i cat_0))) (Nat.le_of_ble_eq_true rfl) rfl ?_
  unfold f_X12_standsBefore at h
  refine V_aload_n rfl dX12_standsBefore_0 rfl rfl ?_
  refine V_getr (k0 := 1) rfl dX12_standsBefore_1 s0_136 icX12 (by decide) rfl w_1190 ?_
  refine V_bipush (v := 10) rfl dX12_standsBefore_4 kb_10 ?_
  refine V_iload_n rfl dX12_standsBefore_6 rfl rfl ?_
  refine V_iadd rfl dX12_standsBefore_7 ?_
  replace h := rd_e h
  obtain ⟨hb2, h⟩ := h
  refine V_iald rfl dX12_standsBefore_8 s0_137 hb2 ?_
  refine V_aload_n rfl dX12_standsBefore_9 rfl rfl ?_
  refine V_getr (k0 := 1) rfl dX12_standsBefore_10 s0_136 icX12 (by decide) rfl w_1190 ?_
  refine V_bipush (v := 10) rfl dX12_standsBefore_13 kb_10 ?_
  refine V_iload_n rfl dX12_standsBefore_15 rfl rfl ?_
  refine V_iadd rfl dX12_standsBefore_16 ?_
  replace h := rd_e h
  obtain ⟨hb4, h⟩ := h
  refine V_iald rfl dX12_standsBefore_17 s0_137 hb4 ?_
  refine V_icmp_lt (t := 47) rfl rfl dX12_standsBefore_18 (fun hc5 => ?_) (fun hc5 => ?_)
  · replace h := ifp hc5 h
    refine V_iconst (v := 1) rfl dX12_standsBefore_47 kc_1 ?_
    refine V_goto (t := 52) rfl dX12_standsBefore_48 ?_
    cases h
    exact V_iret dX12_standsBefore_52 rfl nz_1 (Nat.le_refl _) (Nat.le_refl _) qI_ok
  · replace h := ifn hc5 h
    refine V_aload_n rfl dX12_standsBefore_21 rfl rfl ?_
    refine V_getr (k0 := 1) rfl dX12_standsBefore_22 s0_136 icX12 (by decide) rfl w_1190 ?_
    refine V_bipush (v := 10) rfl dX12_standsBefore_25 kb_10 ?_
    refine V_iload_n rfl dX12_standsBefore_27 rfl rfl ?_
    refine V_iadd rfl dX12_standsBefore_28 ?_
    replace h := rd_e h
    obtain ⟨hb7, h⟩ := h
    refine V_iald rfl dX12_standsBefore_29 s0_137 hb7 ?_
    refine V_aload_n rfl dX12_standsBefore_30 rfl rfl ?_
    refine V_getr (k0 := 1) rfl dX12_standsBefore_31 s0_136 icX12 (by decide) rfl w_1190 ?_
    refine V_bipush (v := 10) rfl dX12_standsBefore_34 kb_10 ?_
    refine V_iload_n rfl dX12_standsBefore_36 rfl rfl ?_
    refine V_iadd rfl dX12_standsBefore_37 ?_
    replace h := rd_e h
    obtain ⟨hb9, h⟩ := h
    refine V_iald rfl dX12_standsBefore_38 s0_137 hb9 ?_
    refine V_icmp_ne (t := 51) rfl rfl dX12_standsBefore_39 (fun hc10 => ?_) (fun hc10 => ?_)
    · replace h := ifn hc10 h
      refine V_iconst (v := 0) rfl dX12_standsBefore_51 kc_0 ?_
      cases h
      exact V_iret dX12_standsBefore_52 rfl nz_0 (Nat.le_refl _) (Nat.le_refl _) qI_ok
    · replace h := ifp hc10 h
      refine V_iload_n rfl dX12_standsBefore_42 rfl rfl ?_
      refine V_iload_n rfl dX12_standsBefore_43 rfl rfl ?_
      refine V_icmp_ge (t := 51) rfl rfl dX12_standsBefore_44 (fun hc11 => ?_) (fun hc11 => ?_)
      · replace h := ifp hc11 h
        refine V_iconst (v := 0) rfl dX12_standsBefore_51 kc_0 ?_
        cases h
        exact V_iret dX12_standsBefore_52 rfl nz_0 (Nat.le_refl _) (Nat.le_refl _) qI_ok
      · replace h := ifn hc11 h
        refine V_iconst (v := 1) rfl dX12_standsBefore_47 kc_1 ?_
        refine V_goto (t := 52) rfl dX12_standsBefore_48 ?_
        cases h
        exact V_iret dX12_standsBefore_52 rfl nz_1 (Nat.le_refl _) (Nat.le_refl _) qI_ok
-- X12_sorts: NeverHaltedModel.sorts(I)I
def f_X12_sorts_83 (r4 : Int32 → Int32 → Int32 → IM → IR) (x1 : Int32) (x2 : Int32) (x3 : Int32) (x4 : Int32) (M : IM) : IR := wr M 163 10 x4 x3 fun M20 => lt (x2 + 1) fun v22 => lt (x3 + 1) fun v23 => r4 x1 v22 v23 M20
set_option maxRecDepth 100000 in
set_option maxHeartbeats 4000000 in
theorem t_X12_sorts_83 {g : IG} {a : Nat → Nat} {R : Int32 × IM} {r4 : Int32 → Int32 → Int32 → IM → IR} {x1 : Int32} {x2 : Int32} {x3 : Int32} {x4 : Int32} {M : IM} (hr4 : ∀ (x1 : Int32) (x2 : Int32) (x3 : Int32) (M : IM), r4 x1 x2 x3 M = some R → V g mX12_sorts 2 0 0 (qI S0 a R) 4 [some (.ref (a 136)), some (.int x1), some (.int x2), some (.int x3), none] [] a S0 M 0 0) (h : f_X12_sorts_83 r4 x1 x2 x3 x4 M = some R) : V g mX12_sorts 2 0 0 (qI S0 a R) 83 [some (.ref (a 136)), some (.int x1), some (.int x2), some (.int x3), some (.int x4)] [] a S0 M 0 0 := by
  unfold f_X12_sorts_83 at h
  refine V_aload_n rfl dX12_sorts_83 rfl rfl ?_
  refine V_getr (k0 := 48) rfl dX12_sorts_84 s0_136 icX12 (by decide) rfl w_1237 ?_
  refine V_iload rfl dX12_sorts_87 rfl ?_
  refine V_iload_n rfl dX12_sorts_89 rfl rfl ?_
  replace h := wr_e h
  obtain ⟨hb21, h⟩ := h
  refine V_iast rfl dX12_sorts_90 s0_163 hb21 ?_
  refine V_iload_n rfl dX12_sorts_91 rfl rfl ?_
  refine V_iconst (v := 1) rfl dX12_sorts_92 kc_1 ?_
  refine V_iadd rfl dX12_sorts_93 ?_
  replace h := lt_e h
  refine V_istore_n (L' := [_, _, _, _, _]) rfl rfl dX12_sorts_94 (by decide) rfl ?_
  replace h := lt_e h
  refine V_inc (L' := [_, _, _, _, _]) rfl dX12_sorts_95 rfl kc_1 (by decide) rfl ?_
  refine V_goto (t := 4) rfl dX12_sorts_98 ?_
  exact V_sub (le_s (le_s (le_s (le_s (le_n le_0))))) (hr4 _ _ _ _ h)
def f_X12_sorts_36_b (r4 : Int32 → Int32 → Int32 → IM → IR) (r36 : Int32 → Int32 → Int32 → Int32 → IM → IR) (x1 : Int32) (x2 : Int32) (x3 : Int32) (x4 : Int32) (M : IM) : IR := if x4 ≤ 0 then f_X12_sorts_83 r4 x1 x2 x3 x4 M else rd M 163 10 (x4 - 1) fun v9 => cl (f_X12_standsBefore x3 v9 M) fun w11 M12 => if w11 = 0 then f_X12_sorts_83 r4 x1 x2 x3 x4 M12 else rd M12 163 10 (x4 - 1) fun v15 => wr M12 163 10 x4 v15 fun M17 => lt (x4 - 1) fun v19 => r36 x1 x2 x3 v19 M17
def f_X12_sorts_36 (r4 : Int32 → Int32 → Int32 → IM → IR) (n : Nat) : Int32 → Int32 → Int32 → Int32 → IM → IR := itr (fun _ _ _ _ _ => none) (f_X12_sorts_36_b r4) n
set_option maxRecDepth 100000 in
set_option maxHeartbeats 4000000 in
theorem t_X12_sorts_36 {g : IG} {a : Nat → Nat} {R : Int32 × IM} {r4 : Int32 → Int32 → Int32 → IM → IR} (hr4 : ∀ (x1 : Int32) (x2 : Int32) (x3 : Int32) (M : IM), r4 x1 x2 x3 M = some R → V g mX12_sorts 2 0 0 (qI S0 a R) 4 [some (.ref (a 136)), some (.int x1), some (.int x2), some (.int x3), none] [] a S0 M 0 0) (n : Nat) : ∀ (x1 : Int32) (x2 : Int32) (x3 : Int32) (x4 : Int32) (M : IM), f_X12_sorts_36 r4 n x1 x2 x3 x4 M = some R → V g mX12_sorts 2 0 0 (qI S0 a R) 36 [some (.ref (a 136)), some (.int x1), some (.int x2), some (.int x3), some (.int x4)] [] a S0 M 0 0 := by
  induction n with
  | zero => intro x1 x2 x3 x4 M h; exact absurd h (fun z => by cases z)
  | succ n hr36 =>
    intro x1 x2 x3 x4 M h
    replace h : f_X12_sorts_36_b r4 (f_X12_sorts_36 r4 n) x1 x2 x3 x4 M = some R := h
    unfold f_X12_sorts_36_b at h
    refine V_iload rfl dX12_sorts_36 rfl ?_
    refine V_if_le (t := 83) rfl rfl dX12_sorts_38 (fun hc8 => ?_) (fun hc8 => ?_)
    · replace h := ifp hc8 h
      exact V_sub (le_s (le_s (le_s (le_s (le_s le_0))))) (t_X12_sorts_83 hr4 h)
    · replace h := ifn hc8 h
      refine V_aload_n rfl dX12_sorts_41 rfl rfl ?_
      refine V_iload_n rfl dX12_sorts_42 rfl rfl ?_
      refine V_aload_n rfl dX12_sorts_43 rfl rfl ?_
      refine V_getr (k0 := 48) rfl dX12_sorts_44 s0_136 icX12 (by decide) rfl w_1237 ?_
      refine V_iload rfl dX12_sorts_47 rfl ?_
      refine V_iconst (v := 1) rfl dX12_sorts_49 kc_1 ?_
      refine V_isub rfl dX12_sorts_50 ?_
      replace h := rd_e h
      obtain ⟨hb10, h⟩ := h
      refine V_iald rfl dX12_sorts_51 s0_163 hb10 ?_
      replace h := cl_e h
      obtain ⟨w11, M12, hc13, h⟩ := h
      refine V_ii (As := [.int _, .int _]) rfl dX12_sorts_52 mf_X12_standsBefore ⟨w_1799, w_132⟩ w_1797 (by decide) s0_136 rfl rfl rfl rfl ⟨rfl, rfl⟩ (t_X12_standsBefore hc13) ?_
      refine V_if_eq (t := 83) rfl rfl dX12_sorts_55 (fun hc14 => ?_) (fun hc14 => ?_)
      · replace h := ifp hc14 h
        exact V_sub (le_s (le_s (le_s (le_s (le_s le_0))))) (t_X12_sorts_83 hr4 h)
      · replace h := ifn hc14 h
        refine V_aload_n rfl dX12_sorts_58 rfl rfl ?_
        refine V_getr (k0 := 48) rfl dX12_sorts_59 s0_136 icX12 (by decide) rfl w_1237 ?_
        refine V_iload rfl dX12_sorts_62 rfl ?_
        refine V_aload_n rfl dX12_sorts_64 rfl rfl ?_
        refine V_getr (k0 := 48) rfl dX12_sorts_65 s0_136 icX12 (by decide) rfl w_1237 ?_
        refine V_iload rfl dX12_sorts_68 rfl ?_
        refine V_iconst (v := 1) rfl dX12_sorts_70 kc_1 ?_
        refine V_isub rfl dX12_sorts_71 ?_
        replace h := rd_e h
        obtain ⟨hb16, h⟩ := h
        refine V_iald rfl dX12_sorts_72 s0_163 hb16 ?_
        replace h := wr_e h
        obtain ⟨hb18, h⟩ := h
        refine V_iast rfl dX12_sorts_73 s0_163 hb18 ?_
        refine V_iload rfl dX12_sorts_74 rfl ?_
        refine V_iconst (v := 1) rfl dX12_sorts_76 kc_1 ?_
        refine V_isub rfl dX12_sorts_77 ?_
        replace h := lt_e h
        refine V_istore (L' := [_, _, _, _, _]) rfl dX12_sorts_78 (by decide) rfl ?_
        refine V_goto (t := 36) rfl dX12_sorts_80 ?_
        exact V_sub (le_s (le_s (le_s (le_s (le_s le_0))))) (hr36 _ _ _ _ _ h)
def f_X12_sorts_4_b (r4 : Int32 → Int32 → Int32 → IM → IR) (x1 : Int32) (x2 : Int32) (x3 : Int32) (M : IM) : IR := if (M 136 6) ≤ x3 then some (x2, M) else if ((x1 >>> (x3 &&& 31)) &&& 1) = 0 then lt (x3 + 1) fun v3 => r4 x1 x2 v3 M else rd M 140 10 x3 fun v4 => if v4 = 1 then lt (x3 + 1) fun v7 => r4 x1 x2 v7 M else f_X12_sorts_36 r4 BG x1 x2 x3 x2 M
def f_X12_sorts_4 (n : Nat) : Int32 → Int32 → Int32 → IM → IR := itr (fun _ _ _ _ => none) (f_X12_sorts_4_b) n
set_option maxRecDepth 100000 in
set_option maxHeartbeats 4000000 in
theorem t_X12_sorts_4 {g : IG} {a : Nat → Nat} {R : Int32 × IM} (n : Nat) : ∀ (x1 : Int32) (x2 : Int32) (x3 : Int32) (M : IM), f_X12_sorts_4 n x1 x2 x3 M = some R → V g mX12_sorts 2 0 0 (qI S0 a R) 4 [some (.ref (a 136)), some (.int x1), some (.int x2), some (.int x3), none] [] a S0 M 0 0 := by
  induction n with
  | zero => intro x1 x2 x3 M h; exact absurd h (fun z => by cases z)
  | succ n hr4 =>
    intro x1 x2 x3 M h
    replace h : f_X12_sorts_4_b (f_X12_sorts_4 n) x1 x2 x3 M = some R := h
    unfold f_X12_sorts_4_b at h
    refine V_iload_n rfl dX12_sorts_4 rfl rfl ?_
    refine V_aload_n rfl dX12_sorts_5 rfl rfl ?_
    refine V_geti (k0 := 6) rfl dX12_sorts_6 s0_136 icX12 (by decide) rfl w_1195 ?_
    refine V_icmp_ge (t := 101) rfl rfl dX12_sorts_9 (fun hc1 => ?_) (fun hc1 => ?_)
    · replace h := ifp hc1 h
      refine V_iload_n rfl dX12_sorts_101 rfl rfl ?_
      cases h
      exact V_iret dX12_sorts_102 rfl rfl (Nat.le_refl _) (Nat.le_refl _) qI_ok
    · replace h := ifn hc1 h
      refine V_iload_n rfl dX12_sorts_12 rfl rfl ?_
      refine V_iload_n rfl dX12_sorts_13 rfl rfl ?_
      refine V_ishr rfl dX12_sorts_14 ?_
      refine V_iconst (v := 1) rfl dX12_sorts_15 kc_1 ?_
      refine V_iand rfl dX12_sorts_16 ?_
      refine V_if_eq (t := 95) rfl rfl dX12_sorts_17 (fun hc2 => ?_) (fun hc2 => ?_)
      · replace h := ifp hc2 h
        replace h := lt_e h
        refine V_inc (L' := [_, _, _, _, _]) rfl dX12_sorts_95 rfl kc_1 (by decide) rfl ?_
        refine V_goto (t := 4) rfl dX12_sorts_98 ?_
        exact V_sub (le_s (le_s (le_s (le_s (le_n le_0))))) (hr4 _ _ _ _ h)
      · replace h := ifn hc2 h
        refine V_aload_n rfl dX12_sorts_20 rfl rfl ?_
        refine V_getr (k0 := 7) rfl dX12_sorts_21 s0_136 icX12 (by decide) rfl w_1196 ?_
        refine V_iload_n rfl dX12_sorts_24 rfl rfl ?_
        replace h := rd_e h
        obtain ⟨hb5, h⟩ := h
        refine V_iald rfl dX12_sorts_25 s0_140 hb5 ?_
        refine V_iconst (v := 1) rfl dX12_sorts_26 kc_1 ?_
        refine V_icmp_ne (t := 33) rfl rfl dX12_sorts_27 (fun hc6 => ?_) (fun hc6 => ?_)
        · replace h := ifn hc6 h
          refine V_iload_n rfl dX12_sorts_33 rfl rfl ?_
          refine V_istore (L' := [_, _, _, _, _]) rfl dX12_sorts_34 (by decide) rfl ?_
          exact V_sub (le_s (le_s (le_s (le_s (le_s le_0))))) (t_X12_sorts_36 hr4 BG _ _ _ _ _ h)
        · replace h := ifp hc6 h
          refine V_goto (t := 95) rfl dX12_sorts_30 ?_
          replace h := lt_e h
          refine V_inc (L' := [_, _, _, _, _]) rfl dX12_sorts_95 rfl kc_1 (by decide) rfl ?_
          refine V_goto (t := 4) rfl dX12_sorts_98 ?_
          exact V_sub (le_s (le_s (le_s (le_s (le_n le_0))))) (hr4 _ _ _ _ h)
def f_X12_sorts (p1 : Int32) (M : IM) : IR := f_X12_sorts_4 BG p1 0 0 M
set_option maxRecDepth 100000 in
set_option maxHeartbeats 4000000 in
theorem t_X12_sorts {g : IG} {a : Nat → Nat} {R : Int32 × IM} {p1 : Int32} {M : IM} (h : f_X12_sorts p1 M = some R) : Cn g mX12_sorts 2 0 0 (qI S0 a R) [.ref (a 136), .int p1] a S0 M := by
  refine Cn_of (L := [some (.ref (a 136)), some (.int p1), none, none, none]) mf_X12_sorts (cat_r (cat_i cat_0)) (Nat.le_of_ble_eq_true rfl) rfl ?_
  unfold f_X12_sorts at h
  refine V_iconst (v := 0) rfl dX12_sorts_0 kc_0 ?_
  refine V_istore_n (L' := [_, _, _, _, _]) rfl rfl dX12_sorts_1 (by decide) rfl ?_
  refine V_iconst (v := 0) rfl dX12_sorts_2 kc_0 ?_
  refine V_istore_n (L' := [_, _, _, _, _]) rfl rfl dX12_sorts_3 (by decide) rfl ?_
  exact V_sub (le_s (le_s (le_s (le_s (le_n le_0))))) (t_X12_sorts_4 BG _ _ _ _ h)
-- X12_line: NeverHaltedModel.line(I)I
def f_X12_line_115 (r90 : Int32 → Int32 → Int32 → Int32 → IM → IR) (x1 : Int32) (x2 : Int32) (x7 : Int32) (x8 : Int32) (M : IM) : IR := if ((x2 >>> (x8 &&& 31)) &&& 1) = 1 then rd M 140 10 x8 fun v30 => if v30 = 1 then lt (x7 + 1) fun v34 => lt (x8 + 1) fun v35 => r90 x1 x2 v34 v35 M else lt (x8 + 1) fun v33 => r90 x1 x2 x7 v33 M else lt (x8 + 1) fun v29 => r90 x1 x2 x7 v29 M
set_option maxRecDepth 100000 in
set_option maxHeartbeats 4000000 in
theorem t_X12_line_115 {g : IG} {a : Nat → Nat} {R : Int32 × IM} {r90 : Int32 → Int32 → Int32 → Int32 → IM → IR} {x1 : Int32} {x2 : Int32} {x7 : Int32} {x8 : Int32} {M : IM} (hr90 : ∀ (x1 : Int32) (x2 : Int32) (x7 : Int32) (x8 : Int32) (M : IM), r90 x1 x2 x7 x8 M = some R → V g mX12_line 7 0 0 (qI S0 a R) 90 [some (.ref (a 136)), some (.int x1), some (.int x2), none, none, none, none, some (.int x7), some (.int x8)] [] a S0 M 0 0) (h : f_X12_line_115 r90 x1 x2 x7 x8 M = some R) : V g mX12_line 7 0 0 (qI S0 a R) 115 [some (.ref (a 136)), some (.int x1), some (.int x2), none, none, none, none, some (.int x7), some (.int x8)] [] a S0 M 0 0 := by
  unfold f_X12_line_115 at h
  refine V_iload_n rfl dX12_line_115 rfl rfl ?_
  refine V_iload rfl dX12_line_116 rfl ?_
  refine V_ishr rfl dX12_line_118 ?_
  refine V_iconst (v := 1) rfl dX12_line_119 kc_1 ?_
  refine V_iand rfl dX12_line_120 ?_
  refine V_iconst (v := 1) rfl dX12_line_121 kc_1 ?_
  refine V_icmp_ne (t := 142) rfl rfl dX12_line_122 (fun hc28 => ?_) (fun hc28 => ?_)
  · replace h := ifn hc28 h
    refine V_iload rfl dX12_line_142 rfl ?_
    refine V_iconst (v := 1) rfl dX12_line_144 kc_1 ?_
    refine V_iadd rfl dX12_line_145 ?_
    replace h := lt_e h
    refine V_istore (L' := [_, _, _, _, _, _, _, _, _]) rfl dX12_line_146 (by decide) rfl ?_
    refine V_goto (t := 90) rfl dX12_line_148 ?_
    exact V_sub (le_s (le_s (le_s (le_n (le_n (le_n (le_n (le_s (le_s le_0))))))))) (hr90 _ _ _ _ _ h)
  · replace h := ifp hc28 h
    refine V_aload_n rfl dX12_line_125 rfl rfl ?_
    refine V_getr (k0 := 7) rfl dX12_line_126 s0_136 icX12 (by decide) rfl w_1196 ?_
    refine V_iload rfl dX12_line_129 rfl ?_
    replace h := rd_e h
    obtain ⟨hb31, h⟩ := h
    refine V_iald rfl dX12_line_131 s0_140 hb31 ?_
    refine V_iconst (v := 1) rfl dX12_line_132 kc_1 ?_
    refine V_icmp_ne (t := 142) rfl rfl dX12_line_133 (fun hc32 => ?_) (fun hc32 => ?_)
    · replace h := ifn hc32 h
      refine V_iload rfl dX12_line_142 rfl ?_
      refine V_iconst (v := 1) rfl dX12_line_144 kc_1 ?_
      refine V_iadd rfl dX12_line_145 ?_
      replace h := lt_e h
      refine V_istore (L' := [_, _, _, _, _, _, _, _, _]) rfl dX12_line_146 (by decide) rfl ?_
      refine V_goto (t := 90) rfl dX12_line_148 ?_
      exact V_sub (le_s (le_s (le_s (le_n (le_n (le_n (le_n (le_s (le_s le_0))))))))) (hr90 _ _ _ _ _ h)
    · replace h := ifp hc32 h
      refine V_iload rfl dX12_line_136 rfl ?_
      refine V_iconst (v := 1) rfl dX12_line_138 kc_1 ?_
      refine V_iadd rfl dX12_line_139 ?_
      replace h := lt_e h
      refine V_istore (L' := [_, _, _, _, _, _, _, _, _]) rfl dX12_line_140 (by decide) rfl ?_
      refine V_iload rfl dX12_line_142 rfl ?_
      refine V_iconst (v := 1) rfl dX12_line_144 kc_1 ?_
      refine V_iadd rfl dX12_line_145 ?_
      replace h := lt_e h
      refine V_istore (L' := [_, _, _, _, _, _, _, _, _]) rfl dX12_line_146 (by decide) rfl ?_
      refine V_goto (t := 90) rfl dX12_line_148 ?_
      exact V_sub (le_s (le_s (le_s (le_n (le_n (le_n (le_n (le_s (le_s le_0))))))))) (hr90 _ _ _ _ _ h)
def f_X12_line_90_b (r90 : Int32 → Int32 → Int32 → Int32 → IM → IR) (x1 : Int32) (x2 : Int32) (x7 : Int32) (x8 : Int32) (M : IM) : IR := if ((x2 >>> (x8 &&& 31)) &&& 1) = 0 then f_X12_line_115 r90 x1 x2 x7 x8 M else rd M 140 10 x8 fun v24 => if v24 = 0 then f_X12_line_115 r90 x1 x2 x7 x8 M else if x1 ≤ x7 then some (x8, M) else f_X12_line_115 r90 x1 x2 x7 x8 M
def f_X12_line_90 (n : Nat) : Int32 → Int32 → Int32 → Int32 → IM → IR := itr (fun _ _ _ _ _ => none) (f_X12_line_90_b) n
set_option maxRecDepth 100000 in
set_option maxHeartbeats 4000000 in
theorem t_X12_line_90 {g : IG} {a : Nat → Nat} {R : Int32 × IM} (n : Nat) : ∀ (x1 : Int32) (x2 : Int32) (x7 : Int32) (x8 : Int32) (M : IM), f_X12_line_90 n x1 x2 x7 x8 M = some R → V g mX12_line 7 0 0 (qI S0 a R) 90 [some (.ref (a 136)), some (.int x1), some (.int x2), none, none, none, none, some (.int x7), some (.int x8)] [] a S0 M 0 0 := by
  induction n with
  | zero => intro x1 x2 x7 x8 M h; exact absurd h (fun z => by cases z)
  | succ n hr90 =>
    intro x1 x2 x7 x8 M h
    replace h : f_X12_line_90_b (f_X12_line_90 n) x1 x2 x7 x8 M = some R := h
    unfold f_X12_line_90_b at h
    refine V_iload_n rfl dX12_line_90 rfl rfl ?_
    refine V_iload rfl dX12_line_91 rfl ?_
    refine V_ishr rfl dX12_line_93 ?_
    refine V_iconst (v := 1) rfl dX12_line_94 kc_1 ?_
    refine V_iand rfl dX12_line_95 ?_
    refine V_if_eq (t := 115) rfl rfl dX12_line_96 (fun hc23 => ?_) (fun hc23 => ?_)
    · replace h := ifp hc23 h
      exact V_sub (le_s (le_s (le_s (le_n (le_n (le_n (le_n (le_s (le_s le_0))))))))) (t_X12_line_115 hr90 h)
    · replace h := ifn hc23 h
      refine V_aload_n rfl dX12_line_99 rfl rfl ?_
      refine V_getr (k0 := 7) rfl dX12_line_100 s0_136 icX12 (by decide) rfl w_1196 ?_
      refine V_iload rfl dX12_line_103 rfl ?_
      replace h := rd_e h
      obtain ⟨hb25, h⟩ := h
      refine V_iald rfl dX12_line_105 s0_140 hb25 ?_
      refine V_if_eq (t := 115) rfl rfl dX12_line_106 (fun hc26 => ?_) (fun hc26 => ?_)
      · replace h := ifp hc26 h
        exact V_sub (le_s (le_s (le_s (le_n (le_n (le_n (le_n (le_s (le_s le_0))))))))) (t_X12_line_115 hr90 h)
      · replace h := ifn hc26 h
        refine V_iload rfl dX12_line_109 rfl ?_
        refine V_iload_n rfl dX12_line_111 rfl rfl ?_
        refine V_icmp_ge (t := 151) rfl rfl dX12_line_112 (fun hc27 => ?_) (fun hc27 => ?_)
        · replace h := ifp hc27 h
          refine V_iload rfl dX12_line_151 rfl ?_
          cases h
          exact V_iret dX12_line_153 rfl rfl (Nat.le_refl _) (Nat.le_refl _) qI_ok
        · replace h := ifn hc27 h
          exact V_sub (le_s (le_s (le_s (le_n (le_n (le_n (le_n (le_s (le_s le_0))))))))) (t_X12_line_115 hr90 h)
def f_X12_line (p1 : Int32) (M : IM) : IR := pt M 136 0 0 fun M1 => cl (f_X12_goers M1) fun w2 M3 => cl (f_X12_onesOf w2 M3) fun w5 M6 => cl (f_X12_isIn p1 0 (w5 - 1) M6) fun w8 M9 => if w8 = 0 then some ((-1), M9) else cl (f_X12_sorts w2 M9) fun w12 M13 => lt ((w12 + 1) / 2) fun v15 => lt (w5 - w12) fun v16 => if v15 ≤ p1 then if p1 < (v15 + v16) then f_X12_line_90 BG p1 w2 v15 0 M13 else rd M13 163 10 (p1 - v16) fun v19 => some (v19, M13) else rd M13 163 10 p1 fun v21 => some (v21, M13)
set_option maxRecDepth 100000 in
set_option maxHeartbeats 4000000 in
theorem t_X12_line {g : IG} {a : Nat → Nat} {R : Int32 × IM} {p1 : Int32} {M : IM} (h : f_X12_line p1 M = some R) : Cn g mX12_line 7 0 0 (qI S0 a R) [.ref (a 136), .int p1] a S0 M := by
  refine Cn_of (L := [some (.ref (a 136)), some (.int p1), none, none, none, none, none, none, none]) mf_X12_line (cat_r (cat_i cat_0)) (Nat.le_of_ble_eq_true rfl) rfl ?_
  unfold f_X12_line at h
  refine V_aload_n rfl dX12_line_0 rfl rfl ?_
  refine V_iconst (v := 0) rfl dX12_line_1 kc_0 ?_
  replace h := pt_e h
  refine V_putf (k0 := 0) (ty := .int) rfl dX12_line_2 s0_136 icX12 tyX12_ok nmX12 (by decide) rfl w_1189 rfl (tyX12_ok _ (by decide)) rfl rfl ?_
  refine V_aload_n rfl dX12_line_5 rfl rfl ?_
  replace h := cl_e h
  obtain ⟨w2, M3, hc4, h⟩ := h
  refine V_ii (As := []) rfl dX12_line_6 mf_X12_goers ⟨w_1547, w_84⟩ w_1545 (by decide) s0_136 rfl rfl rfl rfl ⟨rfl, rfl⟩ (t_X12_goers hc4) ?_
  refine V_istore_n (L' := [_, _, _, _, _, _, _, _, _]) rfl rfl dX12_line_9 (by decide) rfl ?_
  refine V_aload_n rfl dX12_line_10 rfl rfl ?_
  refine V_iload_n rfl dX12_line_11 rfl rfl ?_
  replace h := cl_e h
  obtain ⟨w5, M6, hc7, h⟩ := h
  refine V_ii (As := [.int _]) rfl dX12_line_12 mf_X12_onesOf ⟨w_1595, w_96⟩ w_1593 (by decide) s0_136 rfl rfl rfl rfl ⟨rfl, rfl⟩ (t_X12_onesOf hc7) ?_
  refine V_istore_n (L' := [_, _, _, _, _, _, _, _, _]) rfl rfl dX12_line_15 (by decide) rfl ?_
  refine V_aload_n rfl dX12_line_16 rfl rfl ?_
  refine V_iload_n rfl dX12_line_17 rfl rfl ?_
  refine V_iconst (v := 0) rfl dX12_line_18 kc_0 ?_
  refine V_iload_n rfl dX12_line_19 rfl rfl ?_
  refine V_iconst (v := 1) rfl dX12_line_20 kc_1 ?_
  refine V_isub rfl dX12_line_21 ?_
  replace h := cl_e h
  obtain ⟨w8, M9, hc10, h⟩ := h
  refine V_ii (As := [.int _, .int _, .int _]) rfl dX12_line_22 mf_X12_isIn ⟨w_1367, w_47⟩ w_1365 (by decide) s0_136 rfl rfl rfl rfl ⟨rfl, rfl⟩ (t_X12_isIn hc10) ?_
  refine V_if_ne (t := 30) rfl rfl dX12_line_25 (fun hc11 => ?_) (fun hc11 => ?_)
  · replace h := ifn hc11 h
    refine V_aload_n rfl dX12_line_30 rfl rfl ?_
    refine V_iload_n rfl dX12_line_31 rfl rfl ?_
    replace h := cl_e h
    obtain ⟨w12, M13, hc14, h⟩ := h
    refine V_ii (As := [.int _]) rfl dX12_line_32 mf_X12_sorts ⟨w_1795, w_131⟩ w_1793 (by decide) s0_136 rfl rfl rfl rfl ⟨rfl, rfl⟩ (t_X12_sorts hc14) ?_
    refine V_istore (L' := [_, _, _, _, _, _, _, _, _]) rfl dX12_line_35 (by decide) rfl ?_
    refine V_iload rfl dX12_line_37 rfl ?_
    refine V_iconst (v := 1) rfl dX12_line_39 kc_1 ?_
    refine V_iadd rfl dX12_line_40 ?_
    refine V_iconst (v := 2) rfl dX12_line_41 kc_2 ?_
    refine V_idiv rfl dX12_line_42 (by decide) ?_
    replace h := lt_e h
    refine V_istore (L' := [_, _, _, _, _, _, _, _, _]) rfl dX12_line_43 (by decide) rfl ?_
    refine V_iload_n rfl dX12_line_45 rfl rfl ?_
    refine V_iload rfl dX12_line_46 rfl ?_
    refine V_isub rfl dX12_line_48 ?_
    replace h := lt_e h
    refine V_istore (L' := [_, _, _, _, _, _, _, _, _]) rfl dX12_line_49 (by decide) rfl ?_
    refine V_iload_n rfl dX12_line_51 rfl rfl ?_
    refine V_iload rfl dX12_line_52 rfl ?_
    refine V_icmp_ge (t := 64) rfl rfl dX12_line_54 (fun hc17 => ?_) (fun hc17 => ?_)
    · replace h := ifp hc17 h
      refine V_iload_n rfl dX12_line_64 rfl rfl ?_
      refine V_iload rfl dX12_line_65 rfl ?_
      refine V_iload rfl dX12_line_67 rfl ?_
      refine V_iadd rfl dX12_line_69 ?_
      refine V_icmp_lt (t := 83) rfl rfl dX12_line_70 (fun hc18 => ?_) (fun hc18 => ?_)
      · replace h := ifp hc18 h
        refine V_iload rfl dX12_line_83 rfl ?_
        refine V_istore (L' := [_, _, _, _, _, _, _, _, _]) rfl dX12_line_85 (by decide) rfl ?_
        refine V_iconst (v := 0) rfl dX12_line_87 kc_0 ?_
        refine V_istore (L' := [_, _, _, _, _, _, _, _, _]) rfl dX12_line_88 (by decide) rfl ?_
        exact V_sub (le_s (le_s (le_s (le_n (le_n (le_n (le_n (le_s (le_s le_0))))))))) (t_X12_line_90 BG _ _ _ _ _ h)
      · replace h := ifn hc18 h
        refine V_aload_n rfl dX12_line_73 rfl rfl ?_
        refine V_getr (k0 := 48) rfl dX12_line_74 s0_136 icX12 (by decide) rfl w_1237 ?_
        refine V_iload_n rfl dX12_line_77 rfl rfl ?_
        refine V_iload rfl dX12_line_78 rfl ?_
        refine V_isub rfl dX12_line_80 ?_
        replace h := rd_e h
        obtain ⟨hb20, h⟩ := h
        refine V_iald rfl dX12_line_81 s0_163 hb20 ?_
        cases h
        exact V_iret dX12_line_82 rfl rfl (Nat.le_refl _) (Nat.le_refl _) qI_ok
    · replace h := ifn hc17 h
      refine V_aload_n rfl dX12_line_57 rfl rfl ?_
      refine V_getr (k0 := 48) rfl dX12_line_58 s0_136 icX12 (by decide) rfl w_1237 ?_
      refine V_iload_n rfl dX12_line_61 rfl rfl ?_
      replace h := rd_e h
      obtain ⟨hb22, h⟩ := h
      refine V_iald rfl dX12_line_62 s0_163 hb22 ?_
      cases h
      exact V_iret dX12_line_63 rfl rfl (Nat.le_refl _) (Nat.le_refl _) qI_ok
  · replace h := ifp hc11 h
    refine V_iconst (v := (-1)) rfl dX12_line_28 kc_m1 ?_
    cases h
    exact V_iret dX12_line_29 rfl rfl (Nat.le_refl _) (Nat.le_refl _) qI_ok
-- X12_manyOf: NeverHaltedModel.manyOf(I)I
def f_X12_manyOf_4_b (r4 : Int32 → Int32 → Int32 → IM → IR) (x1 : Int32) (x2 : Int32) (x3 : Int32) (M : IM) : IR := if (M 136 6) ≤ x3 then some (x2, M) else rd M 137 40 (30 + x3) fun v2 => if v2 = x1 then lt (x2 + 1) fun v6 => lt (x3 + 1) fun v7 => r4 x1 v6 v7 M else lt (x3 + 1) fun v5 => r4 x1 x2 v5 M
def f_X12_manyOf_4 (n : Nat) : Int32 → Int32 → Int32 → IM → IR := itr (fun _ _ _ _ => none) (f_X12_manyOf_4_b) n
set_option maxRecDepth 100000 in
set_option maxHeartbeats 4000000 in
theorem t_X12_manyOf_4 {g : IG} {a : Nat → Nat} {R : Int32 × IM} (n : Nat) : ∀ (x1 : Int32) (x2 : Int32) (x3 : Int32) (M : IM), f_X12_manyOf_4 n x1 x2 x3 M = some R → V g mX12_manyOf 1 0 0 (qI S0 a R) 4 [some (.ref (a 136)), some (.int x1), some (.int x2), some (.int x3)] [] a S0 M 0 0 := by
  induction n with
  | zero => intro x1 x2 x3 M h; exact absurd h (fun z => by cases z)
  | succ n hr4 =>
    intro x1 x2 x3 M h
    replace h : f_X12_manyOf_4_b (f_X12_manyOf_4 n) x1 x2 x3 M = some R := h
    unfold f_X12_manyOf_4_b at h
    refine V_iload_n rfl dX12_manyOf_4 rfl rfl ?_
    refine V_aload_n rfl dX12_manyOf_5 rfl rfl ?_
    refine V_geti (k0 := 6) rfl dX12_manyOf_6 s0_136 icX12 (by decide) rfl w_1195 ?_
    refine V_icmp_ge (t := 35) rfl rfl dX12_manyOf_9 (fun hc1 => ?_) (fun hc1 => ?_)
    · replace h := ifp hc1 h
      refine V_iload_n rfl dX12_manyOf_35 rfl rfl ?_
      cases h
      exact V_iret dX12_manyOf_36 rfl rfl (Nat.le_refl _) (Nat.le_refl _) qI_ok
    · replace h := ifn hc1 h
      refine V_aload_n rfl dX12_manyOf_12 rfl rfl ?_
      refine V_getr (k0 := 1) rfl dX12_manyOf_13 s0_136 icX12 (by decide) rfl w_1190 ?_
      refine V_bipush (v := 30) rfl dX12_manyOf_16 kb_30 ?_
      refine V_iload_n rfl dX12_manyOf_18 rfl rfl ?_
      refine V_iadd rfl dX12_manyOf_19 ?_
      replace h := rd_e h
      obtain ⟨hb3, h⟩ := h
      refine V_iald rfl dX12_manyOf_20 s0_137 hb3 ?_
      refine V_iload_n rfl dX12_manyOf_21 rfl rfl ?_
      refine V_icmp_ne (t := 29) rfl rfl dX12_manyOf_22 (fun hc4 => ?_) (fun hc4 => ?_)
      · replace h := ifn hc4 h
        replace h := lt_e h
        refine V_inc (L' := [_, _, _, _]) rfl dX12_manyOf_29 rfl kc_1 (by decide) rfl ?_
        refine V_goto (t := 4) rfl dX12_manyOf_32 ?_
        exact V_sub (le_s (le_s (le_s (le_s le_0)))) (hr4 _ _ _ _ h)
      · replace h := ifp hc4 h
        refine V_iload_n rfl dX12_manyOf_25 rfl rfl ?_
        refine V_iconst (v := 1) rfl dX12_manyOf_26 kc_1 ?_
        refine V_iadd rfl dX12_manyOf_27 ?_
        replace h := lt_e h
        refine V_istore_n (L' := [_, _, _, _]) rfl rfl dX12_manyOf_28 (by decide) rfl ?_
        replace h := lt_e h
        refine V_inc (L' := [_, _, _, _]) rfl dX12_manyOf_29 rfl kc_1 (by decide) rfl ?_
        refine V_goto (t := 4) rfl dX12_manyOf_32 ?_
        exact V_sub (le_s (le_s (le_s (le_s le_0)))) (hr4 _ _ _ _ h)
def f_X12_manyOf (p1 : Int32) (M : IM) : IR := f_X12_manyOf_4 BG p1 0 0 M
set_option maxRecDepth 100000 in
set_option maxHeartbeats 4000000 in
theorem t_X12_manyOf {g : IG} {a : Nat → Nat} {R : Int32 × IM} {p1 : Int32} {M : IM} (h : f_X12_manyOf p1 M = some R) : Cn g mX12_manyOf 1 0 0 (qI S0 a R) [.ref (a 136), .int p1] a S0 M := by
  refine Cn_of (L := [some (.ref (a 136)), some (.int p1), none, none]) mf_X12_manyOf (cat_r (cat_i cat_0)) (Nat.le_of_ble_eq_true rfl) rfl ?_
  unfold f_X12_manyOf at h
  refine V_iconst (v := 0) rfl dX12_manyOf_0 kc_0 ?_
  refine V_istore_n (L' := [_, _, _, _]) rfl rfl dX12_manyOf_1 (by decide) rfl ?_
  refine V_iconst (v := 0) rfl dX12_manyOf_2 kc_0 ?_
  refine V_istore_n (L' := [_, _, _, _]) rfl rfl dX12_manyOf_3 (by decide) rfl ?_
  exact V_sub (le_s (le_s (le_s (le_s le_0)))) (t_X12_manyOf_4 BG _ _ _ _ h)
-- X12_isAhead: NeverHaltedModel.isAhead(III)Z
def f_X12_isAhead (p1 : Int32) (p2 : Int32) (p3 : Int32) (M : IM) : IR := cl (f_X12_manyOf p1 M) fun w1 M2 => dv (M2 136 6) <| lt ((p3 * w1) - (p3 * w1) / (M2 136 6) * (M2 136 6)) fun v5 => cl (f_X12_manyOf p2 M2) fun w6 M7 => dv (M7 136 6) <| lt ((p3 * w6) - (p3 * w6) / (M7 136 6) * (M7 136 6)) fun v10 => if v10 < v5 then some (1, M7) else if v5 = v10 then if p2 ≤ p1 then some (0, M7) else some (1, M7) else some (0, M7)
set_option maxRecDepth 100000 in
set_option maxHeartbeats 4000000 in
theorem t_X12_isAhead {g : IG} {a : Nat → Nat} {R : Int32 × IM} {p1 : Int32} {p2 : Int32} {p3 : Int32} {M : IM} (h : f_X12_isAhead p1 p2 p3 M = some R) : Cn g mX12_isAhead 2 0 0 (qI S0 a R) [.ref (a 136), .int p1, .int p2, .int p3] a S0 M := by
  refine Cn_of (L := [some (.ref (a 136)), some (.int p1), some (.int p2), some (.int p3), none, none]) mf_X12_isAhead (cat_r (cat_i (cat_i (cat_i cat_0)))) (Nat.le_of_ble_eq_true rfl) rfl ?_
  unfold f_X12_isAhead at h
  refine V_iload_n rfl dX12_isAhead_0 rfl rfl ?_
  refine V_aload_n rfl dX12_isAhead_1 rfl rfl ?_
  refine V_iload_n rfl dX12_isAhead_2 rfl rfl ?_
  replace h := cl_e h
  obtain ⟨w1, M2, hc3, h⟩ := h
  refine V_ii (As := [.int _]) rfl dX12_isAhead_3 mf_X12_manyOf ⟨w_1808, w_133⟩ w_1806 (by decide) s0_136 rfl rfl rfl rfl ⟨rfl, rfl⟩ (t_X12_manyOf hc3) ?_
  refine V_imul rfl dX12_isAhead_6 ?_
  refine V_aload_n rfl dX12_isAhead_7 rfl rfl ?_
  refine V_geti (k0 := 6) rfl dX12_isAhead_8 s0_136 icX12 (by decide) rfl w_1195 ?_
  replace h := dv_e h
  obtain ⟨hz4, h⟩ := h
  refine V_irem rfl dX12_isAhead_11 hz4 ?_
  replace h := lt_e h
  refine V_istore (L' := [_, _, _, _, _, _]) rfl dX12_isAhead_12 (by decide) rfl ?_
  refine V_iload_n rfl dX12_isAhead_14 rfl rfl ?_
  refine V_aload_n rfl dX12_isAhead_15 rfl rfl ?_
  refine V_iload_n rfl dX12_isAhead_16 rfl rfl ?_
  replace h := cl_e h
  obtain ⟨w6, M7, hc8, h⟩ := h
  refine V_ii (As := [.int _]) rfl dX12_isAhead_17 mf_X12_manyOf ⟨w_1808, w_133⟩ w_1806 (by decide) s0_136 rfl rfl rfl rfl ⟨rfl, rfl⟩ (t_X12_manyOf hc8) ?_
  refine V_imul rfl dX12_isAhead_20 ?_
  refine V_aload_n rfl dX12_isAhead_21 rfl rfl ?_
  refine V_geti (k0 := 6) rfl dX12_isAhead_22 s0_136 icX12 (by decide) rfl w_1195 ?_
  replace h := dv_e h
  obtain ⟨hz9, h⟩ := h
  refine V_irem rfl dX12_isAhead_25 hz9 ?_
  replace h := lt_e h
  refine V_istore (L' := [_, _, _, _, _, _]) rfl dX12_isAhead_26 (by decide) rfl ?_
  refine V_iload rfl dX12_isAhead_28 rfl ?_
  refine V_iload rfl dX12_isAhead_30 rfl ?_
  refine V_icmp_gt (t := 47) rfl rfl dX12_isAhead_32 (fun hc11 => ?_) (fun hc11 => ?_)
  · replace h := ifp hc11 h
    refine V_iconst (v := 1) rfl dX12_isAhead_47 kc_1 ?_
    refine V_goto (t := 52) rfl dX12_isAhead_48 ?_
    cases h
    exact V_iret dX12_isAhead_52 rfl nz_1 (Nat.le_refl _) (Nat.le_refl _) qI_ok
  · replace h := ifn hc11 h
    refine V_iload rfl dX12_isAhead_35 rfl ?_
    refine V_iload rfl dX12_isAhead_37 rfl ?_
    refine V_icmp_ne (t := 51) rfl rfl dX12_isAhead_39 (fun hc12 => ?_) (fun hc12 => ?_)
    · replace h := ifn hc12 h
      refine V_iconst (v := 0) rfl dX12_isAhead_51 kc_0 ?_
      cases h
      exact V_iret dX12_isAhead_52 rfl nz_0 (Nat.le_refl _) (Nat.le_refl _) qI_ok
    · replace h := ifp hc12 h
      refine V_iload_n rfl dX12_isAhead_42 rfl rfl ?_
      refine V_iload_n rfl dX12_isAhead_43 rfl rfl ?_
      refine V_icmp_ge (t := 51) rfl rfl dX12_isAhead_44 (fun hc13 => ?_) (fun hc13 => ?_)
      · replace h := ifp hc13 h
        refine V_iconst (v := 0) rfl dX12_isAhead_51 kc_0 ?_
        cases h
        exact V_iret dX12_isAhead_52 rfl nz_0 (Nat.le_refl _) (Nat.le_refl _) qI_ok
      · replace h := ifn hc13 h
        refine V_iconst (v := 1) rfl dX12_isAhead_47 kc_1 ?_
        refine V_goto (t := 52) rfl dX12_isAhead_48 ?_
        cases h
        exact V_iret dX12_isAhead_52 rfl nz_1 (Nat.le_refl _) (Nat.le_refl _) qI_ok
-- X12_owes: NeverHaltedModel.owes(II)I
def f_X12_owes_44_b (r44 : Int32 → Int32 → Int32 → Int32 → Int32 → IM → IR) (x1 : Int32) (x2 : Int32) (x3 : Int32) (x4 : Int32) (x5 : Int32) (M : IM) : IR := if 8 ≤ x5 then cl (f_X12_manyOf x1 M) fun w12 M13 => dv (M13 136 6) <| if x3 ≤ x4 then some ((((x2 * w12) / (M13 136 6)) + 0), M13) else some ((((x2 * w12) / (M13 136 6)) + 1), M13) else cl (f_X12_manyOf x5 M) fun w17 M18 => dv (M18 136 6) <| lt (x3 - ((x2 * w17) / (M18 136 6))) fun v21 => if x5 = x1 then lt (x5 + 1) fun v23 => r44 x1 x2 v21 x4 v23 M18 else cl (f_X12_isAhead x5 x1 x2 M18) fun w24 M25 => if w24 = 0 then lt (x5 + 1) fun v28 => r44 x1 x2 v21 x4 v28 M25 else lt (x4 + 1) fun v29 => lt (x5 + 1) fun v30 => r44 x1 x2 v21 v29 v30 M25
def f_X12_owes_44 (n : Nat) : Int32 → Int32 → Int32 → Int32 → Int32 → IM → IR := itr (fun _ _ _ _ _ _ => none) (f_X12_owes_44_b) n
set_option maxRecDepth 100000 in
set_option maxHeartbeats 4000000 in
theorem t_X12_owes_44 {g : IG} {a : Nat → Nat} {R : Int32 × IM} (n : Nat) : ∀ (x1 : Int32) (x2 : Int32) (x3 : Int32) (x4 : Int32) (x5 : Int32) (M : IM), f_X12_owes_44 n x1 x2 x3 x4 x5 M = some R → V g mX12_owes 3 0 0 (qI S0 a R) 44 [some (.ref (a 136)), some (.int x1), some (.int x2), some (.int x3), some (.int x4), some (.int x5)] [] a S0 M 0 0 := by
  induction n with
  | zero => intro x1 x2 x3 x4 x5 M h; exact absurd h (fun z => by cases z)
  | succ n hr44 =>
    intro x1 x2 x3 x4 x5 M h
    replace h : f_X12_owes_44_b (f_X12_owes_44 n) x1 x2 x3 x4 x5 M = some R := h
    unfold f_X12_owes_44_b at h
    refine V_iload rfl dX12_owes_44 rfl ?_
    refine V_bipush (v := 8) rfl dX12_owes_46 kb_8 ?_
    refine V_icmp_ge (t := 96) rfl rfl dX12_owes_48 (fun hc11 => ?_) (fun hc11 => ?_)
    · replace h := ifp hc11 h
      refine V_iload_n rfl dX12_owes_96 rfl rfl ?_
      refine V_aload_n rfl dX12_owes_97 rfl rfl ?_
      refine V_iload_n rfl dX12_owes_98 rfl rfl ?_
      replace h := cl_e h
      obtain ⟨w12, M13, hc14, h⟩ := h
      refine V_ii (As := [.int _]) rfl dX12_owes_99 mf_X12_manyOf ⟨w_1808, w_133⟩ w_1806 (by decide) s0_136 rfl rfl rfl rfl ⟨rfl, rfl⟩ (t_X12_manyOf hc14) ?_
      refine V_imul rfl dX12_owes_102 ?_
      refine V_aload_n rfl dX12_owes_103 rfl rfl ?_
      refine V_geti (k0 := 6) rfl dX12_owes_104 s0_136 icX12 (by decide) rfl w_1195 ?_
      replace h := dv_e h
      obtain ⟨hz15, h⟩ := h
      refine V_idiv rfl dX12_owes_107 hz15 ?_
      refine V_iload rfl dX12_owes_108 rfl ?_
      refine V_iload_n rfl dX12_owes_110 rfl rfl ?_
      refine V_icmp_ge (t := 118) rfl rfl dX12_owes_111 (fun hc16 => ?_) (fun hc16 => ?_)
      · replace h := ifp hc16 h
        refine V_iconst (v := 0) rfl dX12_owes_118 kc_0 ?_
        refine V_iadd rfl dX12_owes_119 ?_
        cases h
        exact V_iret dX12_owes_120 rfl rfl (Nat.le_refl _) (Nat.le_refl _) qI_ok
      · replace h := ifn hc16 h
        refine V_iconst (v := 1) rfl dX12_owes_114 kc_1 ?_
        refine V_goto (t := 119) rfl dX12_owes_115 ?_
        refine V_iadd rfl dX12_owes_119 ?_
        cases h
        exact V_iret dX12_owes_120 rfl rfl (Nat.le_refl _) (Nat.le_refl _) qI_ok
    · replace h := ifn hc11 h
      refine V_iload_n rfl dX12_owes_51 rfl rfl ?_
      refine V_iload_n rfl dX12_owes_52 rfl rfl ?_
      refine V_aload_n rfl dX12_owes_53 rfl rfl ?_
      refine V_iload rfl dX12_owes_54 rfl ?_
      replace h := cl_e h
      obtain ⟨w17, M18, hc19, h⟩ := h
      refine V_ii (As := [.int _]) rfl dX12_owes_56 mf_X12_manyOf ⟨w_1808, w_133⟩ w_1806 (by decide) s0_136 rfl rfl rfl rfl ⟨rfl, rfl⟩ (t_X12_manyOf hc19) ?_
      refine V_imul rfl dX12_owes_59 ?_
      refine V_aload_n rfl dX12_owes_60 rfl rfl ?_
      refine V_geti (k0 := 6) rfl dX12_owes_61 s0_136 icX12 (by decide) rfl w_1195 ?_
      replace h := dv_e h
      obtain ⟨hz20, h⟩ := h
      refine V_idiv rfl dX12_owes_64 hz20 ?_
      refine V_isub rfl dX12_owes_65 ?_
      replace h := lt_e h
      refine V_istore_n (L' := [_, _, _, _, _, _]) rfl rfl dX12_owes_66 (by decide) rfl ?_
      refine V_iload rfl dX12_owes_67 rfl ?_
      refine V_iload_n rfl dX12_owes_69 rfl rfl ?_
      refine V_icmp_eq (t := 90) rfl rfl dX12_owes_70 (fun hc22 => ?_) (fun hc22 => ?_)
      · replace h := ifp hc22 h
        replace h := lt_e h
        refine V_inc (L' := [_, _, _, _, _, _]) rfl dX12_owes_90 rfl kc_1 (by decide) rfl ?_
        refine V_goto (t := 44) rfl dX12_owes_93 ?_
        exact V_sub (le_s (le_s (le_s (le_s (le_s (le_s le_0)))))) (hr44 _ _ _ _ _ _ h)
      · replace h := ifn hc22 h
        refine V_aload_n rfl dX12_owes_73 rfl rfl ?_
        refine V_iload rfl dX12_owes_74 rfl ?_
        refine V_iload_n rfl dX12_owes_76 rfl rfl ?_
        refine V_iload_n rfl dX12_owes_77 rfl rfl ?_
        replace h := cl_e h
        obtain ⟨w24, M25, hc26, h⟩ := h
        refine V_ii (As := [.int _, .int _, .int _]) rfl dX12_owes_78 mf_X12_isAhead ⟨w_1812, w_134⟩ w_1810 (by decide) s0_136 rfl rfl rfl rfl ⟨rfl, rfl⟩ (t_X12_isAhead hc26) ?_
        refine V_if_eq (t := 90) rfl rfl dX12_owes_81 (fun hc27 => ?_) (fun hc27 => ?_)
        · replace h := ifp hc27 h
          replace h := lt_e h
          refine V_inc (L' := [_, _, _, _, _, _]) rfl dX12_owes_90 rfl kc_1 (by decide) rfl ?_
          refine V_goto (t := 44) rfl dX12_owes_93 ?_
          exact V_sub (le_s (le_s (le_s (le_s (le_s (le_s le_0)))))) (hr44 _ _ _ _ _ _ h)
        · replace h := ifn hc27 h
          refine V_iload rfl dX12_owes_84 rfl ?_
          refine V_iconst (v := 1) rfl dX12_owes_86 kc_1 ?_
          refine V_iadd rfl dX12_owes_87 ?_
          replace h := lt_e h
          refine V_istore (L' := [_, _, _, _, _, _]) rfl dX12_owes_88 (by decide) rfl ?_
          replace h := lt_e h
          refine V_inc (L' := [_, _, _, _, _, _]) rfl dX12_owes_90 rfl kc_1 (by decide) rfl ?_
          refine V_goto (t := 44) rfl dX12_owes_93 ?_
          exact V_sub (le_s (le_s (le_s (le_s (le_s (le_s le_0)))))) (hr44 _ _ _ _ _ _ h)
def f_X12_owes (p1 : Int32) (p2 : Int32) (M : IM) : IR := pt M 136 0 0 fun M1 => cl (f_X12_isParish p1 M1) fun w2 M3 => if w2 = 0 then some ((-1), M3) else cl (f_X12_isIn p2 0 99999 M3) fun w6 M7 => if w6 = 0 then some ((-1), M7) else if (M7 136 6) = 0 then some (0, M7) else f_X12_owes_44 BG p1 p2 p2 0 0 M7
set_option maxRecDepth 100000 in
set_option maxHeartbeats 4000000 in
theorem t_X12_owes {g : IG} {a : Nat → Nat} {R : Int32 × IM} {p1 : Int32} {p2 : Int32} {M : IM} (h : f_X12_owes p1 p2 M = some R) : Cn g mX12_owes 3 0 0 (qI S0 a R) [.ref (a 136), .int p1, .int p2] a S0 M := by
  refine Cn_of (L := [some (.ref (a 136)), some (.int p1), some (.int p2), none, none, none]) mf_X12_owes (cat_r (cat_i (cat_i cat_0))) (Nat.le_of_ble_eq_true rfl) rfl ?_
  unfold f_X12_owes at h
  refine V_aload_n rfl dX12_owes_0 rfl rfl ?_
  refine V_iconst (v := 0) rfl dX12_owes_1 kc_0 ?_
  replace h := pt_e h
  refine V_putf (k0 := 0) (ty := .int) rfl dX12_owes_2 s0_136 icX12 tyX12_ok nmX12 (by decide) rfl w_1189 rfl (tyX12_ok _ (by decide)) rfl rfl ?_
  refine V_aload_n rfl dX12_owes_5 rfl rfl ?_
  refine V_iload_n rfl dX12_owes_6 rfl rfl ?_
  replace h := cl_e h
  obtain ⟨w2, M3, hc4, h⟩ := h
  refine V_ii (As := [.int _]) rfl dX12_owes_7 mf_X12_isParish ⟨w_1363, w_46⟩ w_1361 (by decide) s0_136 rfl rfl rfl rfl ⟨rfl, rfl⟩ (t_X12_isParish hc4) ?_
  refine V_if_eq (t := 25) rfl rfl dX12_owes_10 (fun hc5 => ?_) (fun hc5 => ?_)
  · replace h := ifp hc5 h
    refine V_iconst (v := (-1)) rfl dX12_owes_25 kc_m1 ?_
    cases h
    exact V_iret dX12_owes_26 rfl rfl (Nat.le_refl _) (Nat.le_refl _) qI_ok
  · replace h := ifn hc5 h
    refine V_aload_n rfl dX12_owes_13 rfl rfl ?_
    refine V_iload_n rfl dX12_owes_14 rfl rfl ?_
    refine V_iconst (v := 0) rfl dX12_owes_15 kc_0 ?_
    refine V_ldcw (v := 99999) rfl dX12_owes_16 w_1805 ?_
    replace h := cl_e h
    obtain ⟨w6, M7, hc8, h⟩ := h
    refine V_ii (As := [.int _, .int _, .int _]) rfl dX12_owes_19 mf_X12_isIn ⟨w_1367, w_47⟩ w_1365 (by decide) s0_136 rfl rfl rfl rfl ⟨rfl, rfl⟩ (t_X12_isIn hc8) ?_
    refine V_if_ne (t := 27) rfl rfl dX12_owes_22 (fun hc9 => ?_) (fun hc9 => ?_)
    · replace h := ifn hc9 h
      refine V_aload_n rfl dX12_owes_27 rfl rfl ?_
      refine V_geti (k0 := 6) rfl dX12_owes_28 s0_136 icX12 (by decide) rfl w_1195 ?_
      refine V_if_ne (t := 36) rfl rfl dX12_owes_31 (fun hc10 => ?_) (fun hc10 => ?_)
      · replace h := ifn hc10 h
        refine V_iload_n rfl dX12_owes_36 rfl rfl ?_
        refine V_istore_n (L' := [_, _, _, _, _, _]) rfl rfl dX12_owes_37 (by decide) rfl ?_
        refine V_iconst (v := 0) rfl dX12_owes_38 kc_0 ?_
        refine V_istore (L' := [_, _, _, _, _, _]) rfl dX12_owes_39 (by decide) rfl ?_
        refine V_iconst (v := 0) rfl dX12_owes_41 kc_0 ?_
        refine V_istore (L' := [_, _, _, _, _, _]) rfl dX12_owes_42 (by decide) rfl ?_
        exact V_sub (le_s (le_s (le_s (le_s (le_s (le_s le_0)))))) (t_X12_owes_44 BG _ _ _ _ _ _ h)
      · replace h := ifp hc10 h
        refine V_iconst (v := 0) rfl dX12_owes_34 kc_0 ?_
        cases h
        exact V_iret dX12_owes_35 rfl rfl (Nat.le_refl _) (Nat.le_refl _) qI_ok
    · replace h := ifp hc9 h
      refine V_iconst (v := (-1)) rfl dX12_owes_25 kc_m1 ?_
      cases h
      exact V_iret dX12_owes_26 rfl rfl (Nat.le_refl _) (Nat.le_refl _) qI_ok
-- X12_asks: NeverHaltedModel.asks(I)I
def f_X12_asks_22_b (r22 : Int32 → Int32 → Int32 → IM → IR) (x1 : Int32) (x2 : Int32) (x3 : Int32) (M : IM) : IR := if (M 136 6) ≤ x3 then some (x2, M) else cl (f_X12_shiftsAt x1 M) fun w7 M8 => if ((w7 >>> (x3 &&& 31)) &&& 1) = 0 then if x2 = (-1) then lt (x3 + 1) fun v13 => r22 x1 x3 v13 M8 else cl (f_X12_tireOf x3 x1 M8) fun w14 M15 => cl (f_X12_tireOf x2 x1 M15) fun w17 M18 => if w17 ≤ w14 then lt (x3 + 1) fun v21 => r22 x1 x2 v21 M18 else lt (x3 + 1) fun v22 => r22 x1 x3 v22 M18 else lt (x3 + 1) fun v11 => r22 x1 x2 v11 M8
def f_X12_asks_22 (n : Nat) : Int32 → Int32 → Int32 → IM → IR := itr (fun _ _ _ _ => none) (f_X12_asks_22_b) n
set_option maxRecDepth 100000 in
set_option maxHeartbeats 4000000 in
theorem t_X12_asks_22 {g : IG} {a : Nat → Nat} {R : Int32 × IM} (n : Nat) : ∀ (x1 : Int32) (x2 : Int32) (x3 : Int32) (M : IM), f_X12_asks_22 n x1 x2 x3 M = some R → V g mX12_asks 7 0 0 (qI S0 a R) 22 [some (.ref (a 136)), some (.int x1), some (.int x2), some (.int x3)] [] a S0 M 0 0 := by
  induction n with
  | zero => intro x1 x2 x3 M h; exact absurd h (fun z => by cases z)
  | succ n hr22 =>
    intro x1 x2 x3 M h
    replace h : f_X12_asks_22_b (f_X12_asks_22 n) x1 x2 x3 M = some R := h
    unfold f_X12_asks_22_b at h
    refine V_iload_n rfl dX12_asks_22 rfl rfl ?_
    refine V_aload_n rfl dX12_asks_23 rfl rfl ?_
    refine V_geti (k0 := 6) rfl dX12_asks_24 s0_136 icX12 (by decide) rfl w_1195 ?_
    refine V_icmp_ge (t := 70) rfl rfl dX12_asks_27 (fun hc6 => ?_) (fun hc6 => ?_)
    · replace h := ifp hc6 h
      refine V_iload_n rfl dX12_asks_70 rfl rfl ?_
      cases h
      exact V_iret dX12_asks_71 rfl rfl (Nat.le_refl _) (Nat.le_refl _) qI_ok
    · replace h := ifn hc6 h
      refine V_aload_n rfl dX12_asks_30 rfl rfl ?_
      refine V_iload_n rfl dX12_asks_31 rfl rfl ?_
      replace h := cl_e h
      obtain ⟨w7, M8, hc9, h⟩ := h
      refine V_ii (As := [.int _]) rfl dX12_asks_32 mf_X12_shiftsAt ⟨w_1555, w_86⟩ w_1553 (by decide) s0_136 rfl rfl rfl rfl ⟨rfl, rfl⟩ (t_X12_shiftsAt hc9) ?_
      refine V_iload_n rfl dX12_asks_35 rfl rfl ?_
      refine V_ishr rfl dX12_asks_36 ?_
      refine V_iconst (v := 1) rfl dX12_asks_37 kc_1 ?_
      refine V_iand rfl dX12_asks_38 ?_
      refine V_if_ne (t := 64) rfl rfl dX12_asks_39 (fun hc10 => ?_) (fun hc10 => ?_)
      · replace h := ifn hc10 h
        replace h := lt_e h
        refine V_inc (L' := [_, _, _, _]) rfl dX12_asks_64 rfl kc_1 (by decide) rfl ?_
        refine V_goto (t := 22) rfl dX12_asks_67 ?_
        exact V_sub (le_s (le_s (le_s (le_s le_0)))) (hr22 _ _ _ _ h)
      · replace h := ifp hc10 h
        refine V_iload_n rfl dX12_asks_42 rfl rfl ?_
        refine V_iconst (v := (-1)) rfl dX12_asks_43 kc_m1 ?_
        refine V_icmp_eq (t := 62) rfl rfl dX12_asks_44 (fun hc12 => ?_) (fun hc12 => ?_)
        · replace h := ifp hc12 h
          refine V_iload_n rfl dX12_asks_62 rfl rfl ?_
          refine V_istore_n (L' := [_, _, _, _]) rfl rfl dX12_asks_63 (by decide) rfl ?_
          replace h := lt_e h
          refine V_inc (L' := [_, _, _, _]) rfl dX12_asks_64 rfl kc_1 (by decide) rfl ?_
          refine V_goto (t := 22) rfl dX12_asks_67 ?_
          exact V_sub (le_s (le_s (le_s (le_s le_0)))) (hr22 _ _ _ _ h)
        · replace h := ifn hc12 h
          refine V_aload_n rfl dX12_asks_47 rfl rfl ?_
          refine V_iload_n rfl dX12_asks_48 rfl rfl ?_
          refine V_iload_n rfl dX12_asks_49 rfl rfl ?_
          replace h := cl_e h
          obtain ⟨w14, M15, hc16, h⟩ := h
          refine V_ii (As := [.int _, .int _]) rfl dX12_asks_50 mf_X12_tireOf ⟨w_1617, w_101⟩ w_1615 (by decide) s0_136 rfl rfl rfl rfl ⟨rfl, rfl⟩ (t_X12_tireOf hc16) ?_
          refine V_aload_n rfl dX12_asks_53 rfl rfl ?_
          refine V_iload_n rfl dX12_asks_54 rfl rfl ?_
          refine V_iload_n rfl dX12_asks_55 rfl rfl ?_
          replace h := cl_e h
          obtain ⟨w17, M18, hc19, h⟩ := h
          refine V_ii (As := [.int _, .int _]) rfl dX12_asks_56 mf_X12_tireOf ⟨w_1617, w_101⟩ w_1615 (by decide) s0_136 rfl rfl rfl rfl ⟨rfl, rfl⟩ (t_X12_tireOf hc19) ?_
          refine V_icmp_ge (t := 64) rfl rfl dX12_asks_59 (fun hc20 => ?_) (fun hc20 => ?_)
          · replace h := ifp hc20 h
            replace h := lt_e h
            refine V_inc (L' := [_, _, _, _]) rfl dX12_asks_64 rfl kc_1 (by decide) rfl ?_
            refine V_goto (t := 22) rfl dX12_asks_67 ?_
            exact V_sub (le_s (le_s (le_s (le_s le_0)))) (hr22 _ _ _ _ h)
          · replace h := ifn hc20 h
            refine V_iload_n rfl dX12_asks_62 rfl rfl ?_
            refine V_istore_n (L' := [_, _, _, _]) rfl rfl dX12_asks_63 (by decide) rfl ?_
            replace h := lt_e h
            refine V_inc (L' := [_, _, _, _]) rfl dX12_asks_64 rfl kc_1 (by decide) rfl ?_
            refine V_goto (t := 22) rfl dX12_asks_67 ?_
            exact V_sub (le_s (le_s (le_s (le_s le_0)))) (hr22 _ _ _ _ h)
def f_X12_asks (p1 : Int32) (M : IM) : IR := pt M 136 0 0 fun M1 => cl (f_X12_isIn p1 0 23 M1) fun w2 M3 => if w2 = 0 then some ((-1), M3) else f_X12_asks_22 BG p1 (-1) 0 M3
set_option maxRecDepth 100000 in
set_option maxHeartbeats 4000000 in
theorem t_X12_asks {g : IG} {a : Nat → Nat} {R : Int32 × IM} {p1 : Int32} {M : IM} (h : f_X12_asks p1 M = some R) : Cn g mX12_asks 7 0 0 (qI S0 a R) [.ref (a 136), .int p1] a S0 M := by
  refine Cn_of (L := [some (.ref (a 136)), some (.int p1), none, none]) mf_X12_asks (cat_r (cat_i cat_0)) (Nat.le_of_ble_eq_true rfl) rfl ?_
  unfold f_X12_asks at h
  refine V_aload_n rfl dX12_asks_0 rfl rfl ?_
  refine V_iconst (v := 0) rfl dX12_asks_1 kc_0 ?_
  replace h := pt_e h
  refine V_putf (k0 := 0) (ty := .int) rfl dX12_asks_2 s0_136 icX12 tyX12_ok nmX12 (by decide) rfl w_1189 rfl (tyX12_ok _ (by decide)) rfl rfl ?_
  refine V_aload_n rfl dX12_asks_5 rfl rfl ?_
  refine V_iload_n rfl dX12_asks_6 rfl rfl ?_
  refine V_iconst (v := 0) rfl dX12_asks_7 kc_0 ?_
  refine V_bipush (v := 23) rfl dX12_asks_8 kb_23 ?_
  replace h := cl_e h
  obtain ⟨w2, M3, hc4, h⟩ := h
  refine V_ii (As := [.int _, .int _, .int _]) rfl dX12_asks_10 mf_X12_isIn ⟨w_1367, w_47⟩ w_1365 (by decide) s0_136 rfl rfl rfl rfl ⟨rfl, rfl⟩ (t_X12_isIn hc4) ?_
  refine V_if_ne (t := 18) rfl rfl dX12_asks_13 (fun hc5 => ?_) (fun hc5 => ?_)
  · replace h := ifn hc5 h
    refine V_iconst (v := (-1)) rfl dX12_asks_18 kc_m1 ?_
    refine V_istore_n (L' := [_, _, _, _]) rfl rfl dX12_asks_19 (by decide) rfl ?_
    refine V_iconst (v := 0) rfl dX12_asks_20 kc_0 ?_
    refine V_istore_n (L' := [_, _, _, _]) rfl rfl dX12_asks_21 (by decide) rfl ?_
    exact V_sub (le_s (le_s (le_s (le_s le_0)))) (t_X12_asks_22 BG _ _ _ _ h)
  · replace h := ifp hc5 h
    refine V_iconst (v := (-1)) rfl dX12_asks_16 kc_m1 ?_
    cases h
    exact V_iret dX12_asks_17 rfl rfl (Nat.le_refl _) (Nat.le_refl _) qI_ok
-- X12_keeps: NeverHaltedModel.keeps(I)I
def f_X12_keeps (p1 : Int32) (M : IM) : IR := pt M 136 51 ((M 136 51) + 1) fun M1 => if (M1 136 49) = 0 then rd M1 164 2500 ((M1 136 51) - 1) fun v5 => some (v5, M1) else wr M1 164 2500 ((M1 136 51) - 1) p1 fun M3 => some (p1, M3)
set_option maxRecDepth 100000 in
set_option maxHeartbeats 4000000 in
theorem t_X12_keeps {g : IG} {a : Nat → Nat} {R : Int32 × IM} {p1 : Int32} {M : IM} (h : f_X12_keeps p1 M = some R) : Cn g mX12_keeps 1 0 0 (qI S0 a R) [.ref (a 136), .int p1] a S0 M := by
  refine Cn_of (L := [some (.ref (a 136)), some (.int p1)]) mf_X12_keeps (cat_r (cat_i cat_0)) (Nat.le_of_ble_eq_true rfl) rfl ?_
  unfold f_X12_keeps at h
  refine V_aload_n rfl dX12_keeps_0 rfl rfl ?_
  refine V_aload_n rfl dX12_keeps_1 rfl rfl ?_
  refine V_geti (k0 := 51) rfl dX12_keeps_2 s0_136 icX12 (by decide) rfl w_1240 ?_
  refine V_iconst (v := 1) rfl dX12_keeps_5 kc_1 ?_
  refine V_iadd rfl dX12_keeps_6 ?_
  replace h := pt_e h
  refine V_putf (k0 := 51) (ty := .int) rfl dX12_keeps_7 s0_136 icX12 tyX12_ok nmX12 (by decide) rfl w_1240 rfl (tyX12_ok _ (by decide)) rfl rfl ?_
  refine V_aload_n rfl dX12_keeps_10 rfl rfl ?_
  refine V_geti (k0 := 49) rfl dX12_keeps_11 s0_136 icX12 (by decide) rfl w_1238 ?_
  refine V_if_ne (t := 29) rfl rfl dX12_keeps_14 (fun hc2 => ?_) (fun hc2 => ?_)
  · replace h := ifn hc2 h
    refine V_aload_n rfl dX12_keeps_29 rfl rfl ?_
    refine V_getr (k0 := 52) rfl dX12_keeps_30 s0_136 icX12 (by decide) rfl w_1241 ?_
    refine V_aload_n rfl dX12_keeps_33 rfl rfl ?_
    refine V_geti (k0 := 51) rfl dX12_keeps_34 s0_136 icX12 (by decide) rfl w_1240 ?_
    refine V_iconst (v := 1) rfl dX12_keeps_37 kc_1 ?_
    refine V_isub rfl dX12_keeps_38 ?_
    refine V_iload_n rfl dX12_keeps_39 rfl rfl ?_
    replace h := wr_e h
    obtain ⟨hb4, h⟩ := h
    refine V_iast rfl dX12_keeps_40 s0_164 hb4 ?_
    refine V_iload_n rfl dX12_keeps_41 rfl rfl ?_
    cases h
    exact V_iret dX12_keeps_42 rfl rfl (Nat.le_refl _) (Nat.le_refl _) qI_ok
  · replace h := ifp hc2 h
    refine V_aload_n rfl dX12_keeps_17 rfl rfl ?_
    refine V_getr (k0 := 52) rfl dX12_keeps_18 s0_136 icX12 (by decide) rfl w_1241 ?_
    refine V_aload_n rfl dX12_keeps_21 rfl rfl ?_
    refine V_geti (k0 := 51) rfl dX12_keeps_22 s0_136 icX12 (by decide) rfl w_1240 ?_
    refine V_iconst (v := 1) rfl dX12_keeps_25 kc_1 ?_
    refine V_isub rfl dX12_keeps_26 ?_
    replace h := rd_e h
    obtain ⟨hb6, h⟩ := h
    refine V_iald rfl dX12_keeps_27 s0_164 hb6 ?_
    cases h
    exact V_iret dX12_keeps_28 rfl rfl (Nat.le_refl _) (Nat.le_refl _) qI_ok
-- X12_keepsLaw: NeverHaltedModel.keepsLaw(I)V
def f_X12_keepsLaw_108_b (r108 : Int32 → Int32 → IM → IR) (x1 : Int32) (x2 : Int32) (M : IM) : IR := if ((400 * x1) + 400) ≤ x2 then some (0, M) else rd M 150 1200 x2 fun v41 => cl (f_X12_keeps v41 M) fun w43 M44 => wr M44 150 1200 x2 w43 fun M46 => rd M46 151 1200 x2 fun v48 => cl (f_X12_keeps v48 M46) fun w50 M51 => wr M51 151 1200 x2 w50 fun M53 => lt (x2 + 1) fun v55 => r108 x1 v55 M53
def f_X12_keepsLaw_108 (n : Nat) : Int32 → Int32 → IM → IR := itr (fun _ _ _ => none) (f_X12_keepsLaw_108_b) n
set_option maxRecDepth 100000 in
set_option maxHeartbeats 4000000 in
theorem t_X12_keepsLaw_108 {g : IG} {a : Nat → Nat} {R : Int32 × IM} (n : Nat) : ∀ (x1 : Int32) (x2 : Int32) (M : IM), f_X12_keepsLaw_108 n x1 x2 M = some R → V g mX12_keepsLaw 2 0 0 (qV S0 a R) 108 [some (.ref (a 136)), some (.int x1), some (.int x2)] [] a S0 M 0 0 := by
  induction n with
  | zero => intro x1 x2 M h; exact absurd h (fun z => by cases z)
  | succ n hr108 =>
    intro x1 x2 M h
    replace h : f_X12_keepsLaw_108_b (f_X12_keepsLaw_108 n) x1 x2 M = some R := h
    unfold f_X12_keepsLaw_108_b at h
    refine V_iload_n rfl dX12_keepsLaw_108 rfl rfl ?_
    refine V_sipush (v := 400) rfl dX12_keepsLaw_109 ks_400 ?_
    refine V_iload_n rfl dX12_keepsLaw_112 rfl rfl ?_
    refine V_imul rfl dX12_keepsLaw_113 ?_
    refine V_sipush (v := 400) rfl dX12_keepsLaw_114 ks_400 ?_
    refine V_iadd rfl dX12_keepsLaw_117 ?_
    refine V_icmp_ge (t := 159) rfl rfl dX12_keepsLaw_118 (fun hc40 => ?_) (fun hc40 => ?_)
    · replace h := ifp hc40 h
      cases h
      exact V_vret dX12_keepsLaw_159 rfl (Nat.le_refl _) (Nat.le_refl _) qV_ok
    · replace h := ifn hc40 h
      refine V_aload_n rfl dX12_keepsLaw_121 rfl rfl ?_
      refine V_getr (k0 := 25) rfl dX12_keepsLaw_122 s0_136 icX12 (by decide) rfl w_1214 ?_
      refine V_iload_n rfl dX12_keepsLaw_125 rfl rfl ?_
      refine V_aload_n rfl dX12_keepsLaw_126 rfl rfl ?_
      refine V_aload_n rfl dX12_keepsLaw_127 rfl rfl ?_
      refine V_getr (k0 := 25) rfl dX12_keepsLaw_128 s0_136 icX12 (by decide) rfl w_1214 ?_
      refine V_iload_n rfl dX12_keepsLaw_131 rfl rfl ?_
      replace h := rd_e h
      obtain ⟨hb42, h⟩ := h
      refine V_iald rfl dX12_keepsLaw_132 s0_150 hb42 ?_
      replace h := cl_e h
      obtain ⟨w43, M44, hc45, h⟩ := h
      refine V_ii (As := [.int _]) rfl dX12_keepsLaw_133 mf_X12_keeps ⟨w_1824, w_135⟩ w_1822 (by decide) s0_136 rfl rfl rfl rfl ⟨rfl, rfl⟩ (t_X12_keeps hc45) ?_
      replace h := wr_e h
      obtain ⟨hb47, h⟩ := h
      refine V_iast rfl dX12_keepsLaw_136 s0_150 hb47 ?_
      refine V_aload_n rfl dX12_keepsLaw_137 rfl rfl ?_
      refine V_getr (k0 := 26) rfl dX12_keepsLaw_138 s0_136 icX12 (by decide) rfl w_1215 ?_
      refine V_iload_n rfl dX12_keepsLaw_141 rfl rfl ?_
      refine V_aload_n rfl dX12_keepsLaw_142 rfl rfl ?_
      refine V_aload_n rfl dX12_keepsLaw_143 rfl rfl ?_
      refine V_getr (k0 := 26) rfl dX12_keepsLaw_144 s0_136 icX12 (by decide) rfl w_1215 ?_
      refine V_iload_n rfl dX12_keepsLaw_147 rfl rfl ?_
      replace h := rd_e h
      obtain ⟨hb49, h⟩ := h
      refine V_iald rfl dX12_keepsLaw_148 s0_151 hb49 ?_
      replace h := cl_e h
      obtain ⟨w50, M51, hc52, h⟩ := h
      refine V_ii (As := [.int _]) rfl dX12_keepsLaw_149 mf_X12_keeps ⟨w_1824, w_135⟩ w_1822 (by decide) s0_136 rfl rfl rfl rfl ⟨rfl, rfl⟩ (t_X12_keeps hc52) ?_
      replace h := wr_e h
      obtain ⟨hb54, h⟩ := h
      refine V_iast rfl dX12_keepsLaw_152 s0_151 hb54 ?_
      replace h := lt_e h
      refine V_inc (L' := [_, _, _]) rfl dX12_keepsLaw_153 rfl kc_1 (by decide) rfl ?_
      refine V_goto (t := 108) rfl dX12_keepsLaw_156 ?_
      exact V_sub (le_s (le_s (le_s le_0))) (hr108 _ _ _ h)
def f_X12_keepsLaw_21_b (r21 : Int32 → Int32 → IM → IR) (x1 : Int32) (x2 : Int32) (M : IM) : IR := if ((16 * x1) + 16) ≤ x2 then lt (400 * x1) fun v10 => f_X12_keepsLaw_108 BG x1 v10 M else rd M 146 48 x2 fun v11 => cl (f_X12_keeps v11 M) fun w13 M14 => wr M14 146 48 x2 w13 fun M16 => rd M16 147 48 x2 fun v18 => cl (f_X12_keeps v18 M16) fun w20 M21 => wr M21 147 48 x2 w20 fun M23 => rd M23 148 48 x2 fun v25 => cl (f_X12_keeps v25 M23) fun w27 M28 => wr M28 148 48 x2 w27 fun M30 => rd M30 149 48 x2 fun v32 => cl (f_X12_keeps v32 M30) fun w34 M35 => wr M35 149 48 x2 w34 fun M37 => lt (x2 + 1) fun v39 => r21 x1 v39 M37
def f_X12_keepsLaw_21 (n : Nat) : Int32 → Int32 → IM → IR := itr (fun _ _ _ => none) (f_X12_keepsLaw_21_b) n
set_option maxRecDepth 100000 in
set_option maxHeartbeats 4000000 in
theorem t_X12_keepsLaw_21 {g : IG} {a : Nat → Nat} {R : Int32 × IM} (n : Nat) : ∀ (x1 : Int32) (x2 : Int32) (M : IM), f_X12_keepsLaw_21 n x1 x2 M = some R → V g mX12_keepsLaw 2 0 0 (qV S0 a R) 21 [some (.ref (a 136)), some (.int x1), some (.int x2)] [] a S0 M 0 0 := by
  induction n with
  | zero => intro x1 x2 M h; exact absurd h (fun z => by cases z)
  | succ n hr21 =>
    intro x1 x2 M h
    replace h : f_X12_keepsLaw_21_b (f_X12_keepsLaw_21 n) x1 x2 M = some R := h
    unfold f_X12_keepsLaw_21_b at h
    refine V_iload_n rfl dX12_keepsLaw_21 rfl rfl ?_
    refine V_bipush (v := 16) rfl dX12_keepsLaw_22 kb_16 ?_
    refine V_iload_n rfl dX12_keepsLaw_24 rfl rfl ?_
    refine V_imul rfl dX12_keepsLaw_25 ?_
    refine V_bipush (v := 16) rfl dX12_keepsLaw_26 kb_16 ?_
    refine V_iadd rfl dX12_keepsLaw_28 ?_
    refine V_icmp_ge (t := 102) rfl rfl dX12_keepsLaw_29 (fun hc9 => ?_) (fun hc9 => ?_)
    · replace h := ifp hc9 h
      refine V_sipush (v := 400) rfl dX12_keepsLaw_102 ks_400 ?_
      refine V_iload_n rfl dX12_keepsLaw_105 rfl rfl ?_
      refine V_imul rfl dX12_keepsLaw_106 ?_
      replace h := lt_e h
      refine V_istore_n (L' := [_, _, _]) rfl rfl dX12_keepsLaw_107 (by decide) rfl ?_
      exact V_sub (le_s (le_s (le_s le_0))) (t_X12_keepsLaw_108 BG _ _ _ h)
    · replace h := ifn hc9 h
      refine V_aload_n rfl dX12_keepsLaw_32 rfl rfl ?_
      refine V_getr (k0 := 21) rfl dX12_keepsLaw_33 s0_136 icX12 (by decide) rfl w_1210 ?_
      refine V_iload_n rfl dX12_keepsLaw_36 rfl rfl ?_
      refine V_aload_n rfl dX12_keepsLaw_37 rfl rfl ?_
      refine V_aload_n rfl dX12_keepsLaw_38 rfl rfl ?_
      refine V_getr (k0 := 21) rfl dX12_keepsLaw_39 s0_136 icX12 (by decide) rfl w_1210 ?_
      refine V_iload_n rfl dX12_keepsLaw_42 rfl rfl ?_
      replace h := rd_e h
      obtain ⟨hb12, h⟩ := h
      refine V_iald rfl dX12_keepsLaw_43 s0_146 hb12 ?_
      replace h := cl_e h
      obtain ⟨w13, M14, hc15, h⟩ := h
      refine V_ii (As := [.int _]) rfl dX12_keepsLaw_44 mf_X12_keeps ⟨w_1824, w_135⟩ w_1822 (by decide) s0_136 rfl rfl rfl rfl ⟨rfl, rfl⟩ (t_X12_keeps hc15) ?_
      replace h := wr_e h
      obtain ⟨hb17, h⟩ := h
      refine V_iast rfl dX12_keepsLaw_47 s0_146 hb17 ?_
      refine V_aload_n rfl dX12_keepsLaw_48 rfl rfl ?_
      refine V_getr (k0 := 22) rfl dX12_keepsLaw_49 s0_136 icX12 (by decide) rfl w_1211 ?_
      refine V_iload_n rfl dX12_keepsLaw_52 rfl rfl ?_
      refine V_aload_n rfl dX12_keepsLaw_53 rfl rfl ?_
      refine V_aload_n rfl dX12_keepsLaw_54 rfl rfl ?_
      refine V_getr (k0 := 22) rfl dX12_keepsLaw_55 s0_136 icX12 (by decide) rfl w_1211 ?_
      refine V_iload_n rfl dX12_keepsLaw_58 rfl rfl ?_
      replace h := rd_e h
      obtain ⟨hb19, h⟩ := h
      refine V_iald rfl dX12_keepsLaw_59 s0_147 hb19 ?_
      replace h := cl_e h
      obtain ⟨w20, M21, hc22, h⟩ := h
      refine V_ii (As := [.int _]) rfl dX12_keepsLaw_60 mf_X12_keeps ⟨w_1824, w_135⟩ w_1822 (by decide) s0_136 rfl rfl rfl rfl ⟨rfl, rfl⟩ (t_X12_keeps hc22) ?_
      replace h := wr_e h
      obtain ⟨hb24, h⟩ := h
      refine V_iast rfl dX12_keepsLaw_63 s0_147 hb24 ?_
      refine V_aload_n rfl dX12_keepsLaw_64 rfl rfl ?_
      refine V_getr (k0 := 23) rfl dX12_keepsLaw_65 s0_136 icX12 (by decide) rfl w_1212 ?_
      refine V_iload_n rfl dX12_keepsLaw_68 rfl rfl ?_
      refine V_aload_n rfl dX12_keepsLaw_69 rfl rfl ?_
      refine V_aload_n rfl dX12_keepsLaw_70 rfl rfl ?_
      refine V_getr (k0 := 23) rfl dX12_keepsLaw_71 s0_136 icX12 (by decide) rfl w_1212 ?_
      refine V_iload_n rfl dX12_keepsLaw_74 rfl rfl ?_
      replace h := rd_e h
      obtain ⟨hb26, h⟩ := h
      refine V_iald rfl dX12_keepsLaw_75 s0_148 hb26 ?_
      replace h := cl_e h
      obtain ⟨w27, M28, hc29, h⟩ := h
      refine V_ii (As := [.int _]) rfl dX12_keepsLaw_76 mf_X12_keeps ⟨w_1824, w_135⟩ w_1822 (by decide) s0_136 rfl rfl rfl rfl ⟨rfl, rfl⟩ (t_X12_keeps hc29) ?_
      replace h := wr_e h
      obtain ⟨hb31, h⟩ := h
      refine V_iast rfl dX12_keepsLaw_79 s0_148 hb31 ?_
      refine V_aload_n rfl dX12_keepsLaw_80 rfl rfl ?_
      refine V_getr (k0 := 24) rfl dX12_keepsLaw_81 s0_136 icX12 (by decide) rfl w_1213 ?_
      refine V_iload_n rfl dX12_keepsLaw_84 rfl rfl ?_
      refine V_aload_n rfl dX12_keepsLaw_85 rfl rfl ?_
      refine V_aload_n rfl dX12_keepsLaw_86 rfl rfl ?_
      refine V_getr (k0 := 24) rfl dX12_keepsLaw_87 s0_136 icX12 (by decide) rfl w_1213 ?_
      refine V_iload_n rfl dX12_keepsLaw_90 rfl rfl ?_
      replace h := rd_e h
      obtain ⟨hb33, h⟩ := h
      refine V_iald rfl dX12_keepsLaw_91 s0_149 hb33 ?_
      replace h := cl_e h
      obtain ⟨w34, M35, hc36, h⟩ := h
      refine V_ii (As := [.int _]) rfl dX12_keepsLaw_92 mf_X12_keeps ⟨w_1824, w_135⟩ w_1822 (by decide) s0_136 rfl rfl rfl rfl ⟨rfl, rfl⟩ (t_X12_keeps hc36) ?_
      replace h := wr_e h
      obtain ⟨hb38, h⟩ := h
      refine V_iast rfl dX12_keepsLaw_95 s0_149 hb38 ?_
      replace h := lt_e h
      refine V_inc (L' := [_, _, _]) rfl dX12_keepsLaw_96 rfl kc_1 (by decide) rfl ?_
      refine V_goto (t := 21) rfl dX12_keepsLaw_99 ?_
      exact V_sub (le_s (le_s (le_s le_0))) (hr21 _ _ _ h)
def f_X12_keepsLaw (p1 : Int32) (M : IM) : IR := rd M 145 2 p1 fun v1 => cl (f_X12_keeps v1 M) fun w3 M4 => wr M4 145 2 p1 w3 fun M6 => lt (16 * p1) fun v8 => f_X12_keepsLaw_21 BG p1 v8 M6
set_option maxRecDepth 100000 in
set_option maxHeartbeats 4000000 in
theorem t_X12_keepsLaw {g : IG} {a : Nat → Nat} {R : Int32 × IM} {p1 : Int32} {M : IM} (h : f_X12_keepsLaw p1 M = some R) : Cn g mX12_keepsLaw 2 0 0 (qV S0 a R) [.ref (a 136), .int p1] a S0 M := by
  refine Cn_of (L := [some (.ref (a 136)), some (.int p1), none]) mf_X12_keepsLaw (cat_r (cat_i cat_0)) (Nat.le_of_ble_eq_true rfl) rfl ?_
  unfold f_X12_keepsLaw at h
  refine V_aload_n rfl dX12_keepsLaw_0 rfl rfl ?_
  refine V_getr (k0 := 20) rfl dX12_keepsLaw_1 s0_136 icX12 (by decide) rfl w_1209 ?_
  refine V_iload_n rfl dX12_keepsLaw_4 rfl rfl ?_
  refine V_aload_n rfl dX12_keepsLaw_5 rfl rfl ?_
  refine V_aload_n rfl dX12_keepsLaw_6 rfl rfl ?_
  refine V_getr (k0 := 20) rfl dX12_keepsLaw_7 s0_136 icX12 (by decide) rfl w_1209 ?_
  refine V_iload_n rfl dX12_keepsLaw_10 rfl rfl ?_
  replace h := rd_e h
  obtain ⟨hb2, h⟩ := h
  refine V_iald rfl dX12_keepsLaw_11 s0_145 hb2 ?_
  replace h := cl_e h
  obtain ⟨w3, M4, hc5, h⟩ := h
  refine V_ii (As := [.int _]) rfl dX12_keepsLaw_12 mf_X12_keeps ⟨w_1824, w_135⟩ w_1822 (by decide) s0_136 rfl rfl rfl rfl ⟨rfl, rfl⟩ (t_X12_keeps hc5) ?_
  replace h := wr_e h
  obtain ⟨hb7, h⟩ := h
  refine V_iast rfl dX12_keepsLaw_15 s0_145 hb7 ?_
  refine V_bipush (v := 16) rfl dX12_keepsLaw_16 kb_16 ?_
  refine V_iload_n rfl dX12_keepsLaw_18 rfl rfl ?_
  refine V_imul rfl dX12_keepsLaw_19 ?_
  replace h := lt_e h
  refine V_istore_n (L' := [_, _, _]) rfl rfl dX12_keepsLaw_20 (by decide) rfl ?_
  exact V_sub (le_s (le_s (le_s le_0))) (t_X12_keepsLaw_21 BG _ _ _ h)
-- X12_keepsTold: NeverHaltedModel.keepsTold()V
def f_X12_keepsTold_164_b (r164 : Int32 → IM → IR) (x1 : Int32) (M : IM) : IR := if 48 ≤ x1 then some (0, M) else rd M 154 96 x1 fun v53 => cl (f_X12_keeps v53 M) fun w55 M56 => wr M56 154 96 x1 w55 fun M58 => lt (x1 + 1) fun v60 => r164 v60 M58
def f_X12_keepsTold_164 (n : Nat) : Int32 → IM → IR := itr (fun _ _ => none) (f_X12_keepsTold_164_b) n
set_option maxRecDepth 100000 in
set_option maxHeartbeats 4000000 in
theorem t_X12_keepsTold_164 {g : IG} {a : Nat → Nat} {R : Int32 × IM} (n : Nat) : ∀ (x1 : Int32) (M : IM), f_X12_keepsTold_164 n x1 M = some R → V g mX12_keepsTold 2 0 0 (qV S0 a R) 164 [some (.ref (a 136)), some (.int x1)] [] a S0 M 0 0 := by
  induction n with
  | zero => intro x1 M h; exact absurd h (fun z => by cases z)
  | succ n hr164 =>
    intro x1 M h
    replace h : f_X12_keepsTold_164_b (f_X12_keepsTold_164 n) x1 M = some R := h
    unfold f_X12_keepsTold_164_b at h
    refine V_iload_n rfl dX12_keepsTold_164 rfl rfl ?_
    refine V_bipush (v := 48) rfl dX12_keepsTold_165 kb_48 ?_
    refine V_icmp_ge (t := 192) rfl rfl dX12_keepsTold_167 (fun hc52 => ?_) (fun hc52 => ?_)
    · replace h := ifp hc52 h
      cases h
      exact V_vret dX12_keepsTold_192 rfl (Nat.le_refl _) (Nat.le_refl _) qV_ok
    · replace h := ifn hc52 h
      refine V_aload_n rfl dX12_keepsTold_170 rfl rfl ?_
      refine V_getr (k0 := 39) rfl dX12_keepsTold_171 s0_136 icX12 (by decide) rfl w_1228 ?_
      refine V_iload_n rfl dX12_keepsTold_174 rfl rfl ?_
      refine V_aload_n rfl dX12_keepsTold_175 rfl rfl ?_
      refine V_aload_n rfl dX12_keepsTold_176 rfl rfl ?_
      refine V_getr (k0 := 39) rfl dX12_keepsTold_177 s0_136 icX12 (by decide) rfl w_1228 ?_
      refine V_iload_n rfl dX12_keepsTold_180 rfl rfl ?_
      replace h := rd_e h
      obtain ⟨hb54, h⟩ := h
      refine V_iald rfl dX12_keepsTold_181 s0_154 hb54 ?_
      replace h := cl_e h
      obtain ⟨w55, M56, hc57, h⟩ := h
      refine V_ii (As := [.int _]) rfl dX12_keepsTold_182 mf_X12_keeps ⟨w_1824, w_135⟩ w_1822 (by decide) s0_136 rfl rfl rfl rfl ⟨rfl, rfl⟩ (t_X12_keeps hc57) ?_
      replace h := wr_e h
      obtain ⟨hb59, h⟩ := h
      refine V_iast rfl dX12_keepsTold_185 s0_154 hb59 ?_
      replace h := lt_e h
      refine V_inc (L' := [_, _]) rfl dX12_keepsTold_186 rfl kc_1 (by decide) rfl ?_
      refine V_goto (t := 164) rfl dX12_keepsTold_189 ?_
      exact V_sub (le_s (le_s le_0)) (hr164 _ _ h)
def f_X12_keepsTold_134_b (r134 : Int32 → IM → IR) (x1 : Int32) (M : IM) : IR := if 32 ≤ x1 then f_X12_keepsTold_164 BG 0 M else rd M 153 64 x1 fun v44 => cl (f_X12_keeps v44 M) fun w46 M47 => wr M47 153 64 x1 w46 fun M49 => lt (x1 + 1) fun v51 => r134 v51 M49
def f_X12_keepsTold_134 (n : Nat) : Int32 → IM → IR := itr (fun _ _ => none) (f_X12_keepsTold_134_b) n
set_option maxRecDepth 100000 in
set_option maxHeartbeats 4000000 in
theorem t_X12_keepsTold_134 {g : IG} {a : Nat → Nat} {R : Int32 × IM} (n : Nat) : ∀ (x1 : Int32) (M : IM), f_X12_keepsTold_134 n x1 M = some R → V g mX12_keepsTold 2 0 0 (qV S0 a R) 134 [some (.ref (a 136)), some (.int x1)] [] a S0 M 0 0 := by
  induction n with
  | zero => intro x1 M h; exact absurd h (fun z => by cases z)
  | succ n hr134 =>
    intro x1 M h
    replace h : f_X12_keepsTold_134_b (f_X12_keepsTold_134 n) x1 M = some R := h
    unfold f_X12_keepsTold_134_b at h
    refine V_iload_n rfl dX12_keepsTold_134 rfl rfl ?_
    refine V_bipush (v := 32) rfl dX12_keepsTold_135 kb_32 ?_
    refine V_icmp_ge (t := 162) rfl rfl dX12_keepsTold_137 (fun hc43 => ?_) (fun hc43 => ?_)
    · replace h := ifp hc43 h
      refine V_iconst (v := 0) rfl dX12_keepsTold_162 kc_0 ?_
      refine V_istore_n (L' := [_, _]) rfl rfl dX12_keepsTold_163 (by decide) rfl ?_
      exact V_sub (le_s (le_s le_0)) (t_X12_keepsTold_164 BG _ _ h)
    · replace h := ifn hc43 h
      refine V_aload_n rfl dX12_keepsTold_140 rfl rfl ?_
      refine V_getr (k0 := 37) rfl dX12_keepsTold_141 s0_136 icX12 (by decide) rfl w_1226 ?_
      refine V_iload_n rfl dX12_keepsTold_144 rfl rfl ?_
      refine V_aload_n rfl dX12_keepsTold_145 rfl rfl ?_
      refine V_aload_n rfl dX12_keepsTold_146 rfl rfl ?_
      refine V_getr (k0 := 37) rfl dX12_keepsTold_147 s0_136 icX12 (by decide) rfl w_1226 ?_
      refine V_iload_n rfl dX12_keepsTold_150 rfl rfl ?_
      replace h := rd_e h
      obtain ⟨hb45, h⟩ := h
      refine V_iald rfl dX12_keepsTold_151 s0_153 hb45 ?_
      replace h := cl_e h
      obtain ⟨w46, M47, hc48, h⟩ := h
      refine V_ii (As := [.int _]) rfl dX12_keepsTold_152 mf_X12_keeps ⟨w_1824, w_135⟩ w_1822 (by decide) s0_136 rfl rfl rfl rfl ⟨rfl, rfl⟩ (t_X12_keeps hc48) ?_
      replace h := wr_e h
      obtain ⟨hb50, h⟩ := h
      refine V_iast rfl dX12_keepsTold_155 s0_153 hb50 ?_
      replace h := lt_e h
      refine V_inc (L' := [_, _]) rfl dX12_keepsTold_156 rfl kc_1 (by decide) rfl ?_
      refine V_goto (t := 134) rfl dX12_keepsTold_159 ?_
      exact V_sub (le_s (le_s le_0)) (hr134 _ _ h)
def f_X12_keepsTold_104_b (r104 : Int32 → IM → IR) (x1 : Int32) (M : IM) : IR := if 64 ≤ x1 then f_X12_keepsTold_134 BG 0 M else rd M 141 64 x1 fun v35 => cl (f_X12_keeps v35 M) fun w37 M38 => wr M38 141 64 x1 w37 fun M40 => lt (x1 + 1) fun v42 => r104 v42 M40
def f_X12_keepsTold_104 (n : Nat) : Int32 → IM → IR := itr (fun _ _ => none) (f_X12_keepsTold_104_b) n
set_option maxRecDepth 100000 in
set_option maxHeartbeats 4000000 in
theorem t_X12_keepsTold_104 {g : IG} {a : Nat → Nat} {R : Int32 × IM} (n : Nat) : ∀ (x1 : Int32) (M : IM), f_X12_keepsTold_104 n x1 M = some R → V g mX12_keepsTold 2 0 0 (qV S0 a R) 104 [some (.ref (a 136)), some (.int x1)] [] a S0 M 0 0 := by
  induction n with
  | zero => intro x1 M h; exact absurd h (fun z => by cases z)
  | succ n hr104 =>
    intro x1 M h
    replace h : f_X12_keepsTold_104_b (f_X12_keepsTold_104 n) x1 M = some R := h
    unfold f_X12_keepsTold_104_b at h
    refine V_iload_n rfl dX12_keepsTold_104 rfl rfl ?_
    refine V_bipush (v := 64) rfl dX12_keepsTold_105 kb_64 ?_
    refine V_icmp_ge (t := 132) rfl rfl dX12_keepsTold_107 (fun hc34 => ?_) (fun hc34 => ?_)
    · replace h := ifp hc34 h
      refine V_iconst (v := 0) rfl dX12_keepsTold_132 kc_0 ?_
      refine V_istore_n (L' := [_, _]) rfl rfl dX12_keepsTold_133 (by decide) rfl ?_
      exact V_sub (le_s (le_s le_0)) (t_X12_keepsTold_134 BG _ _ h)
    · replace h := ifn hc34 h
      refine V_aload_n rfl dX12_keepsTold_110 rfl rfl ?_
      refine V_getr (k0 := 11) rfl dX12_keepsTold_111 s0_136 icX12 (by decide) rfl w_1200 ?_
      refine V_iload_n rfl dX12_keepsTold_114 rfl rfl ?_
      refine V_aload_n rfl dX12_keepsTold_115 rfl rfl ?_
      refine V_aload_n rfl dX12_keepsTold_116 rfl rfl ?_
      refine V_getr (k0 := 11) rfl dX12_keepsTold_117 s0_136 icX12 (by decide) rfl w_1200 ?_
      refine V_iload_n rfl dX12_keepsTold_120 rfl rfl ?_
      replace h := rd_e h
      obtain ⟨hb36, h⟩ := h
      refine V_iald rfl dX12_keepsTold_121 s0_141 hb36 ?_
      replace h := cl_e h
      obtain ⟨w37, M38, hc39, h⟩ := h
      refine V_ii (As := [.int _]) rfl dX12_keepsTold_122 mf_X12_keeps ⟨w_1824, w_135⟩ w_1822 (by decide) s0_136 rfl rfl rfl rfl ⟨rfl, rfl⟩ (t_X12_keeps hc39) ?_
      replace h := wr_e h
      obtain ⟨hb41, h⟩ := h
      refine V_iast rfl dX12_keepsTold_125 s0_141 hb41 ?_
      replace h := lt_e h
      refine V_inc (L' := [_, _]) rfl dX12_keepsTold_126 rfl kc_1 (by decide) rfl ?_
      refine V_goto (t := 104) rfl dX12_keepsTold_129 ?_
      exact V_sub (le_s (le_s le_0)) (hr104 _ _ h)
def f_X12_keepsTold_74_b (r74 : Int32 → IM → IR) (x1 : Int32) (M : IM) : IR := if 10 ≤ x1 then f_X12_keepsTold_104 BG 0 M else rd M 140 10 x1 fun v26 => cl (f_X12_keeps v26 M) fun w28 M29 => wr M29 140 10 x1 w28 fun M31 => lt (x1 + 1) fun v33 => r74 v33 M31
def f_X12_keepsTold_74 (n : Nat) : Int32 → IM → IR := itr (fun _ _ => none) (f_X12_keepsTold_74_b) n
set_option maxRecDepth 100000 in
set_option maxHeartbeats 4000000 in
theorem t_X12_keepsTold_74 {g : IG} {a : Nat → Nat} {R : Int32 × IM} (n : Nat) : ∀ (x1 : Int32) (M : IM), f_X12_keepsTold_74 n x1 M = some R → V g mX12_keepsTold 2 0 0 (qV S0 a R) 74 [some (.ref (a 136)), some (.int x1)] [] a S0 M 0 0 := by
  induction n with
  | zero => intro x1 M h; exact absurd h (fun z => by cases z)
  | succ n hr74 =>
    intro x1 M h
    replace h : f_X12_keepsTold_74_b (f_X12_keepsTold_74 n) x1 M = some R := h
    unfold f_X12_keepsTold_74_b at h
    refine V_iload_n rfl dX12_keepsTold_74 rfl rfl ?_
    refine V_bipush (v := 10) rfl dX12_keepsTold_75 kb_10 ?_
    refine V_icmp_ge (t := 102) rfl rfl dX12_keepsTold_77 (fun hc25 => ?_) (fun hc25 => ?_)
    · replace h := ifp hc25 h
      refine V_iconst (v := 0) rfl dX12_keepsTold_102 kc_0 ?_
      refine V_istore_n (L' := [_, _]) rfl rfl dX12_keepsTold_103 (by decide) rfl ?_
      exact V_sub (le_s (le_s le_0)) (t_X12_keepsTold_104 BG _ _ h)
    · replace h := ifn hc25 h
      refine V_aload_n rfl dX12_keepsTold_80 rfl rfl ?_
      refine V_getr (k0 := 7) rfl dX12_keepsTold_81 s0_136 icX12 (by decide) rfl w_1196 ?_
      refine V_iload_n rfl dX12_keepsTold_84 rfl rfl ?_
      refine V_aload_n rfl dX12_keepsTold_85 rfl rfl ?_
      refine V_aload_n rfl dX12_keepsTold_86 rfl rfl ?_
      refine V_getr (k0 := 7) rfl dX12_keepsTold_87 s0_136 icX12 (by decide) rfl w_1196 ?_
      refine V_iload_n rfl dX12_keepsTold_90 rfl rfl ?_
      replace h := rd_e h
      obtain ⟨hb27, h⟩ := h
      refine V_iald rfl dX12_keepsTold_91 s0_140 hb27 ?_
      replace h := cl_e h
      obtain ⟨w28, M29, hc30, h⟩ := h
      refine V_ii (As := [.int _]) rfl dX12_keepsTold_92 mf_X12_keeps ⟨w_1824, w_135⟩ w_1822 (by decide) s0_136 rfl rfl rfl rfl ⟨rfl, rfl⟩ (t_X12_keeps hc30) ?_
      replace h := wr_e h
      obtain ⟨hb32, h⟩ := h
      refine V_iast rfl dX12_keepsTold_95 s0_140 hb32 ?_
      replace h := lt_e h
      refine V_inc (L' := [_, _]) rfl dX12_keepsTold_96 rfl kc_1 (by decide) rfl ?_
      refine V_goto (t := 74) rfl dX12_keepsTold_99 ?_
      exact V_sub (le_s (le_s le_0)) (hr74 _ _ h)
def f_X12_keepsTold (M : IM) : IR := cl (f_X12_keeps (M 136 6) M) fun w1 M2 => pt M2 136 6 w1 fun M4 => cl (f_X12_keeps (M4 136 8) M4) fun w5 M6 => pt M6 136 8 w5 fun M8 => cl (f_X12_keeps (M8 136 9) M8) fun w9 M10 => pt M10 136 9 w9 fun M12 => cl (f_X12_keeps (M12 136 10) M12) fun w13 M14 => pt M14 136 10 w13 fun M16 => cl (f_X12_keeps (M16 136 36) M16) fun w17 M18 => pt M18 136 36 w17 fun M20 => cl (f_X12_keeps (M20 136 38) M20) fun w21 M22 => pt M22 136 38 w21 fun M24 => f_X12_keepsTold_74 BG 0 M24
set_option maxRecDepth 100000 in
set_option maxHeartbeats 4000000 in
theorem t_X12_keepsTold {g : IG} {a : Nat → Nat} {R : Int32 × IM} {M : IM} (h : f_X12_keepsTold M = some R) : Cn g mX12_keepsTold 2 0 0 (qV S0 a R) [.ref (a 136)] a S0 M := by
  refine Cn_of (L := [some (.ref (a 136)), none]) mf_X12_keepsTold (cat_r cat_0) (Nat.le_of_ble_eq_true rfl) rfl ?_
  unfold f_X12_keepsTold at h
  refine V_aload_n rfl dX12_keepsTold_0 rfl rfl ?_
  refine V_aload_n rfl dX12_keepsTold_1 rfl rfl ?_
  refine V_aload_n rfl dX12_keepsTold_2 rfl rfl ?_
  refine V_geti (k0 := 6) rfl dX12_keepsTold_3 s0_136 icX12 (by decide) rfl w_1195 ?_
  replace h := cl_e h
  obtain ⟨w1, M2, hc3, h⟩ := h
  refine V_ii (As := [.int _]) rfl dX12_keepsTold_6 mf_X12_keeps ⟨w_1824, w_135⟩ w_1822 (by decide) s0_136 rfl rfl rfl rfl ⟨rfl, rfl⟩ (t_X12_keeps hc3) ?_
  replace h := pt_e h
  refine V_putf (k0 := 6) (ty := .int) rfl dX12_keepsTold_9 s0_136 icX12 tyX12_ok nmX12 (by decide) rfl w_1195 rfl (tyX12_ok _ (by decide)) rfl rfl ?_
  refine V_aload_n rfl dX12_keepsTold_12 rfl rfl ?_
  refine V_aload_n rfl dX12_keepsTold_13 rfl rfl ?_
  refine V_aload_n rfl dX12_keepsTold_14 rfl rfl ?_
  refine V_geti (k0 := 8) rfl dX12_keepsTold_15 s0_136 icX12 (by decide) rfl w_1197 ?_
  replace h := cl_e h
  obtain ⟨w5, M6, hc7, h⟩ := h
  refine V_ii (As := [.int _]) rfl dX12_keepsTold_18 mf_X12_keeps ⟨w_1824, w_135⟩ w_1822 (by decide) s0_136 rfl rfl rfl rfl ⟨rfl, rfl⟩ (t_X12_keeps hc7) ?_
  replace h := pt_e h
  refine V_putf (k0 := 8) (ty := .int) rfl dX12_keepsTold_21 s0_136 icX12 tyX12_ok nmX12 (by decide) rfl w_1197 rfl (tyX12_ok _ (by decide)) rfl rfl ?_
  refine V_aload_n rfl dX12_keepsTold_24 rfl rfl ?_
  refine V_aload_n rfl dX12_keepsTold_25 rfl rfl ?_
  refine V_aload_n rfl dX12_keepsTold_26 rfl rfl ?_
  refine V_geti (k0 := 9) rfl dX12_keepsTold_27 s0_136 icX12 (by decide) rfl w_1198 ?_
  replace h := cl_e h
  obtain ⟨w9, M10, hc11, h⟩ := h
  refine V_ii (As := [.int _]) rfl dX12_keepsTold_30 mf_X12_keeps ⟨w_1824, w_135⟩ w_1822 (by decide) s0_136 rfl rfl rfl rfl ⟨rfl, rfl⟩ (t_X12_keeps hc11) ?_
  replace h := pt_e h
  refine V_putf (k0 := 9) (ty := .int) rfl dX12_keepsTold_33 s0_136 icX12 tyX12_ok nmX12 (by decide) rfl w_1198 rfl (tyX12_ok _ (by decide)) rfl rfl ?_
  refine V_aload_n rfl dX12_keepsTold_36 rfl rfl ?_
  refine V_aload_n rfl dX12_keepsTold_37 rfl rfl ?_
  refine V_aload_n rfl dX12_keepsTold_38 rfl rfl ?_
  refine V_geti (k0 := 10) rfl dX12_keepsTold_39 s0_136 icX12 (by decide) rfl w_1199 ?_
  replace h := cl_e h
  obtain ⟨w13, M14, hc15, h⟩ := h
  refine V_ii (As := [.int _]) rfl dX12_keepsTold_42 mf_X12_keeps ⟨w_1824, w_135⟩ w_1822 (by decide) s0_136 rfl rfl rfl rfl ⟨rfl, rfl⟩ (t_X12_keeps hc15) ?_
  replace h := pt_e h
  refine V_putf (k0 := 10) (ty := .int) rfl dX12_keepsTold_45 s0_136 icX12 tyX12_ok nmX12 (by decide) rfl w_1199 rfl (tyX12_ok _ (by decide)) rfl rfl ?_
  refine V_aload_n rfl dX12_keepsTold_48 rfl rfl ?_
  refine V_aload_n rfl dX12_keepsTold_49 rfl rfl ?_
  refine V_aload_n rfl dX12_keepsTold_50 rfl rfl ?_
  refine V_geti (k0 := 36) rfl dX12_keepsTold_51 s0_136 icX12 (by decide) rfl w_1225 ?_
  replace h := cl_e h
  obtain ⟨w17, M18, hc19, h⟩ := h
  refine V_ii (As := [.int _]) rfl dX12_keepsTold_54 mf_X12_keeps ⟨w_1824, w_135⟩ w_1822 (by decide) s0_136 rfl rfl rfl rfl ⟨rfl, rfl⟩ (t_X12_keeps hc19) ?_
  replace h := pt_e h
  refine V_putf (k0 := 36) (ty := .int) rfl dX12_keepsTold_57 s0_136 icX12 tyX12_ok nmX12 (by decide) rfl w_1225 rfl (tyX12_ok _ (by decide)) rfl rfl ?_
  refine V_aload_n rfl dX12_keepsTold_60 rfl rfl ?_
  refine V_aload_n rfl dX12_keepsTold_61 rfl rfl ?_
  refine V_aload_n rfl dX12_keepsTold_62 rfl rfl ?_
  refine V_geti (k0 := 38) rfl dX12_keepsTold_63 s0_136 icX12 (by decide) rfl w_1227 ?_
  replace h := cl_e h
  obtain ⟨w21, M22, hc23, h⟩ := h
  refine V_ii (As := [.int _]) rfl dX12_keepsTold_66 mf_X12_keeps ⟨w_1824, w_135⟩ w_1822 (by decide) s0_136 rfl rfl rfl rfl ⟨rfl, rfl⟩ (t_X12_keeps hc23) ?_
  replace h := pt_e h
  refine V_putf (k0 := 38) (ty := .int) rfl dX12_keepsTold_69 s0_136 icX12 tyX12_ok nmX12 (by decide) rfl w_1227 rfl (tyX12_ok _ (by decide)) rfl rfl ?_
  refine V_iconst (v := 0) rfl dX12_keepsTold_72 kc_0 ?_
  refine V_istore_n (L' := [_, _]) rfl rfl dX12_keepsTold_73 (by decide) rfl ?_
  exact V_sub (le_s (le_s le_0)) (t_X12_keepsTold_74 BG _ _ h)
-- X12_image: NeverHaltedModel.image(Z)Z
def f_X12_image_69_b (r69 : Int32 → Int32 → IM → IR) (x1 : Int32) (x2 : Int32) (M : IM) : IR := if 450 ≤ x2 then cl (f_X12_keepsLaw 0 M) fun _ M23 => cl (f_X12_keepsLaw 1 M23) fun _ M26 => if x1 = 0 then pt M26 136 3 0 fun M29 => some (1, M29) else some (1, M26) else rd M 142 450 x2 fun v30 => cl (f_X12_keeps v30 M) fun w32 M33 => wr M33 142 450 x2 w32 fun M35 => lt (x2 + 1) fun v37 => r69 x1 v37 M35
def f_X12_image_69 (n : Nat) : Int32 → Int32 → IM → IR := itr (fun _ _ _ => none) (f_X12_image_69_b) n
set_option maxRecDepth 100000 in
set_option maxHeartbeats 4000000 in
theorem t_X12_image_69 {g : IG} {a : Nat → Nat} {R : Int32 × IM} (n : Nat) : ∀ (x1 : Int32) (x2 : Int32) (M : IM), f_X12_image_69 n x1 x2 M = some R → V g mX12_image 3 0 0 (qI S0 a R) 69 [some (.ref (a 136)), some (.int x1), some (.int x2)] [] a S0 M 0 0 := by
  induction n with
  | zero => intro x1 x2 M h; exact absurd h (fun z => by cases z)
  | succ n hr69 =>
    intro x1 x2 M h
    replace h : f_X12_image_69_b (f_X12_image_69 n) x1 x2 M = some R := h
    unfold f_X12_image_69_b at h
    refine V_iload_n rfl dX12_image_69 rfl rfl ?_
    refine V_sipush (v := 450) rfl dX12_image_70 ks_450 ?_
    refine V_icmp_ge (t := 98) rfl rfl dX12_image_73 (fun hc21 => ?_) (fun hc21 => ?_)
    · replace h := ifp hc21 h
      refine V_aload_n rfl dX12_image_98 rfl rfl ?_
      refine V_iconst (v := 0) rfl dX12_image_99 kc_0 ?_
      replace h := cl_e h
      obtain ⟨w22, M23, hc24, h⟩ := h
      refine V_iv (As := [.int _]) rfl dX12_image_100 mf_X12_keepsLaw ⟨w_1832, w_137⟩ w_1830 (by decide) s0_136 rfl rfl rfl rfl ⟨rfl, rfl⟩ (t_X12_keepsLaw hc24) ?_
      refine V_aload_n rfl dX12_image_103 rfl rfl ?_
      refine V_iconst (v := 1) rfl dX12_image_104 kc_1 ?_
      replace h := cl_e h
      obtain ⟨w25, M26, hc27, h⟩ := h
      refine V_iv (As := [.int _]) rfl dX12_image_105 mf_X12_keepsLaw ⟨w_1832, w_137⟩ w_1830 (by decide) s0_136 rfl rfl rfl rfl ⟨rfl, rfl⟩ (t_X12_keepsLaw hc27) ?_
      refine V_iload_n rfl dX12_image_108 rfl rfl ?_
      refine V_if_ne (t := 117) rfl rfl dX12_image_109 (fun hc28 => ?_) (fun hc28 => ?_)
      · replace h := ifn hc28 h
        refine V_iconst (v := 1) rfl dX12_image_117 kc_1 ?_
        cases h
        exact V_iret dX12_image_118 rfl nz_1 (Nat.le_refl _) (Nat.le_refl _) qI_ok
      · replace h := ifp hc28 h
        refine V_aload_n rfl dX12_image_112 rfl rfl ?_
        refine V_iconst (v := 0) rfl dX12_image_113 kc_0 ?_
        replace h := pt_e h
        refine V_putf (k0 := 3) (ty := .int) rfl dX12_image_114 s0_136 icX12 tyX12_ok nmX12 (by decide) rfl w_1192 rfl (tyX12_ok _ (by decide)) rfl rfl ?_
        refine V_iconst (v := 1) rfl dX12_image_117 kc_1 ?_
        cases h
        exact V_iret dX12_image_118 rfl nz_1 (Nat.le_refl _) (Nat.le_refl _) qI_ok
    · replace h := ifn hc21 h
      refine V_aload_n rfl dX12_image_76 rfl rfl ?_
      refine V_getr (k0 := 12) rfl dX12_image_77 s0_136 icX12 (by decide) rfl w_1201 ?_
      refine V_iload_n rfl dX12_image_80 rfl rfl ?_
      refine V_aload_n rfl dX12_image_81 rfl rfl ?_
      refine V_aload_n rfl dX12_image_82 rfl rfl ?_
      refine V_getr (k0 := 12) rfl dX12_image_83 s0_136 icX12 (by decide) rfl w_1201 ?_
      refine V_iload_n rfl dX12_image_86 rfl rfl ?_
      replace h := rd_e h
      obtain ⟨hb31, h⟩ := h
      refine V_iald rfl dX12_image_87 s0_142 hb31 ?_
      replace h := cl_e h
      obtain ⟨w32, M33, hc34, h⟩ := h
      refine V_ii (As := [.int _]) rfl dX12_image_88 mf_X12_keeps ⟨w_1824, w_135⟩ w_1822 (by decide) s0_136 rfl rfl rfl rfl ⟨rfl, rfl⟩ (t_X12_keeps hc34) ?_
      replace h := wr_e h
      obtain ⟨hb36, h⟩ := h
      refine V_iast rfl dX12_image_91 s0_142 hb36 ?_
      replace h := lt_e h
      refine V_inc (L' := [_, _, _]) rfl dX12_image_92 rfl kc_1 (by decide) rfl ?_
      refine V_goto (t := 69) rfl dX12_image_95 ?_
      exact V_sub (le_s (le_s (le_s le_0))) (hr69 _ _ _ h)
def f_X12_image_35_b (r35 : Int32 → Int32 → IM → IR) (x1 : Int32) (x2 : Int32) (M : IM) : IR := if 40 ≤ x2 then cl (f_X12_keepsTold M) fun _ M11 => f_X12_image_69 BG x1 0 M11 else rd M 137 40 x2 fun v13 => cl (f_X12_keeps v13 M) fun w15 M16 => wr M16 137 40 x2 w15 fun M18 => lt (x2 + 1) fun v20 => r35 x1 v20 M18
def f_X12_image_35 (n : Nat) : Int32 → Int32 → IM → IR := itr (fun _ _ _ => none) (f_X12_image_35_b) n
set_option maxRecDepth 100000 in
set_option maxHeartbeats 4000000 in
theorem t_X12_image_35 {g : IG} {a : Nat → Nat} {R : Int32 × IM} (n : Nat) : ∀ (x1 : Int32) (x2 : Int32) (M : IM), f_X12_image_35 n x1 x2 M = some R → V g mX12_image 3 0 0 (qI S0 a R) 35 [some (.ref (a 136)), some (.int x1), some (.int x2)] [] a S0 M 0 0 := by
  induction n with
  | zero => intro x1 x2 M h; exact absurd h (fun z => by cases z)
  | succ n hr35 =>
    intro x1 x2 M h
    replace h : f_X12_image_35_b (f_X12_image_35 n) x1 x2 M = some R := h
    unfold f_X12_image_35_b at h
    refine V_iload_n rfl dX12_image_35 rfl rfl ?_
    refine V_bipush (v := 40) rfl dX12_image_36 kb_40 ?_
    refine V_icmp_ge (t := 63) rfl rfl dX12_image_38 (fun hc9 => ?_) (fun hc9 => ?_)
    · replace h := ifp hc9 h
      refine V_aload_n rfl dX12_image_63 rfl rfl ?_
      replace h := cl_e h
      obtain ⟨w10, M11, hc12, h⟩ := h
      refine V_iv (As := []) rfl dX12_image_64 mf_X12_keepsTold ⟨w_1828, w_136⟩ w_1826 (by decide) s0_136 rfl rfl rfl rfl ⟨rfl, rfl⟩ (t_X12_keepsTold hc12) ?_
      refine V_iconst (v := 0) rfl dX12_image_67 kc_0 ?_
      refine V_istore_n (L' := [_, _, _]) rfl rfl dX12_image_68 (by decide) rfl ?_
      exact V_sub (le_s (le_s (le_s le_0))) (t_X12_image_69 BG _ _ _ h)
    · replace h := ifn hc9 h
      refine V_aload_n rfl dX12_image_41 rfl rfl ?_
      refine V_getr (k0 := 1) rfl dX12_image_42 s0_136 icX12 (by decide) rfl w_1190 ?_
      refine V_iload_n rfl dX12_image_45 rfl rfl ?_
      refine V_aload_n rfl dX12_image_46 rfl rfl ?_
      refine V_aload_n rfl dX12_image_47 rfl rfl ?_
      refine V_getr (k0 := 1) rfl dX12_image_48 s0_136 icX12 (by decide) rfl w_1190 ?_
      refine V_iload_n rfl dX12_image_51 rfl rfl ?_
      replace h := rd_e h
      obtain ⟨hb14, h⟩ := h
      refine V_iald rfl dX12_image_52 s0_137 hb14 ?_
      replace h := cl_e h
      obtain ⟨w15, M16, hc17, h⟩ := h
      refine V_ii (As := [.int _]) rfl dX12_image_53 mf_X12_keeps ⟨w_1824, w_135⟩ w_1822 (by decide) s0_136 rfl rfl rfl rfl ⟨rfl, rfl⟩ (t_X12_keeps hc17) ?_
      replace h := wr_e h
      obtain ⟨hb19, h⟩ := h
      refine V_iast rfl dX12_image_56 s0_137 hb19 ?_
      replace h := lt_e h
      refine V_inc (L' := [_, _, _]) rfl dX12_image_57 rfl kc_1 (by decide) rfl ?_
      refine V_goto (t := 35) rfl dX12_image_60 ?_
      exact V_sub (le_s (le_s (le_s le_0))) (hr35 _ _ _ h)
def f_X12_image_18 (x1 : Int32) (M : IM) : IR := pz M 136 49 x1 fun M4 => pz M4 136 50 1 fun M6 => pt M6 136 51 0 fun M8 => f_X12_image_35 BG x1 0 M8
set_option maxRecDepth 100000 in
set_option maxHeartbeats 4000000 in
theorem t_X12_image_18 {g : IG} {a : Nat → Nat} {R : Int32 × IM} {x1 : Int32} {M : IM} (h : f_X12_image_18 x1 M = some R) : V g mX12_image 3 0 0 (qI S0 a R) 18 [some (.ref (a 136)), some (.int x1), none] [] a S0 M 0 0 := by
  unfold f_X12_image_18 at h
  refine V_aload_n rfl dX12_image_18 rfl rfl ?_
  refine V_iload_n rfl dX12_image_19 rfl rfl ?_
  replace h := pz_e h
  obtain ⟨hz5, h⟩ := h
  refine V_putf (k0 := 49) (ty := .boolean) rfl dX12_image_20 s0_136 icX12 tyX12_ok nmX12 (by decide) rfl w_1238 rfl (tyX12_ok _ (by decide)) (nar_z hz5) (fit_z hz5) ?_
  refine V_aload_n rfl dX12_image_23 rfl rfl ?_
  refine V_iconst (v := 1) rfl dX12_image_24 kc_1 ?_
  replace h := pz_e h
  obtain ⟨hz7, h⟩ := h
  refine V_putf (k0 := 50) (ty := .boolean) rfl dX12_image_25 s0_136 icX12 tyX12_ok nmX12 (by decide) rfl w_1239 rfl (tyX12_ok _ (by decide)) (nar_z hz7) (fit_z hz7) ?_
  refine V_aload_n rfl dX12_image_28 rfl rfl ?_
  refine V_iconst (v := 0) rfl dX12_image_29 kc_0 ?_
  replace h := pt_e h
  refine V_putf (k0 := 51) (ty := .int) rfl dX12_image_30 s0_136 icX12 tyX12_ok nmX12 (by decide) rfl w_1240 rfl (tyX12_ok _ (by decide)) rfl rfl ?_
  refine V_iconst (v := 0) rfl dX12_image_33 kc_0 ?_
  refine V_istore_n (L' := [_, _, _]) rfl rfl dX12_image_34 (by decide) rfl ?_
  exact V_sub (le_s (le_s (le_s le_0))) (t_X12_image_35 BG _ _ _ h)
def f_X12_image (p1 : Int32) (M : IM) : IR := pt M 136 0 0 fun M1 => if p1 = 0 then if (M1 136 50) = 0 then some (0, M1) else f_X12_image_18 p1 M1 else f_X12_image_18 p1 M1
set_option maxRecDepth 100000 in
set_option maxHeartbeats 4000000 in
theorem t_X12_image {g : IG} {a : Nat → Nat} {R : Int32 × IM} {p1 : Int32} {M : IM} (h : f_X12_image p1 M = some R) : Cn g mX12_image 3 0 0 (qI S0 a R) [.ref (a 136), .int p1] a S0 M := by
  refine Cn_of (L := [some (.ref (a 136)), some (.int p1), none]) mf_X12_image (cat_r (cat_i cat_0)) (Nat.le_of_ble_eq_true rfl) rfl ?_
  unfold f_X12_image at h
  refine V_aload_n rfl dX12_image_0 rfl rfl ?_
  refine V_iconst (v := 0) rfl dX12_image_1 kc_0 ?_
  replace h := pt_e h
  refine V_putf (k0 := 0) (ty := .int) rfl dX12_image_2 s0_136 icX12 tyX12_ok nmX12 (by decide) rfl w_1189 rfl (tyX12_ok _ (by decide)) rfl rfl ?_
  refine V_iload_n rfl dX12_image_5 rfl rfl ?_
  refine V_if_ne (t := 18) rfl rfl dX12_image_6 (fun hc2 => ?_) (fun hc2 => ?_)
  · replace h := ifn hc2 h
    exact V_sub (le_s (le_s (le_n le_0))) (t_X12_image_18 h)
  · replace h := ifp hc2 h
    refine V_aload_n rfl dX12_image_9 rfl rfl ?_
    refine V_geti (k0 := 50) rfl dX12_image_10 s0_136 icX12 (by decide) rfl w_1239 ?_
    refine V_if_ne (t := 18) rfl rfl dX12_image_13 (fun hc3 => ?_) (fun hc3 => ?_)
    · replace h := ifn hc3 h
      exact V_sub (le_s (le_s (le_n le_0))) (t_X12_image_18 h)
    · replace h := ifp hc3 h
      refine V_iconst (v := 0) rfl dX12_image_16 kc_0 ?_
      cases h
      exact V_iret dX12_image_17 rfl nz_0 (Nat.le_refl _) (Nat.le_refl _) qI_ok
-- X12_look: NeverHaltedModel.look(I)I
def f_X12_look (p1 : Int32) (M : IM) : IR := pt M 136 0 0 fun M1 => if p1 = 0 then some ((M1 136 6), M1) else if p1 = 1 then rd M1 137 40 0 fun v51 => some (v51, M1) else if p1 = 2 then rd M1 137 40 3 fun v49 => some (v49, M1) else if p1 = 3 then rd M1 137 40 4 fun v47 => some (v47, M1) else if p1 = 4 then rd M1 137 40 5 fun v45 => some (v45, M1) else if p1 = 5 then rd M1 137 40 6 fun v43 => some (v43, M1) else if p1 = 6 then rd M1 137 40 7 fun v41 => some (v41, M1) else if p1 = 7 then rd M1 137 40 8 fun v39 => some (v39, M1) else if p1 = 8 then rd M1 137 40 9 fun v37 => some (v37, M1) else if p1 = 9 then cl (f_X12_goers M1) fun w34 M35 => some (w34, M35) else if p1 = 10 then rd M1 137 40 2 fun v32 => some (v32, M1) else if p1 = 11 then rd M1 137 40 1 fun v30 => some (v30, M1) else if p1 = 12 then rd M1 145 2 0 fun v28 => some (v28, M1) else if p1 = 13 then rd M1 145 2 1 fun v26 => some (v26, M1) else if p1 = 14 then some ((M1 136 36), M1) else if p1 = 15 then some ((M1 136 38), M1) else if p1 = 16 then some ((M1 136 3), M1) else if p1 = 17 then cl (f_X12_hoursOfRound M1) fun w23 M24 => some (w23, M24) else if p1 = 20 then some ((M1 136 8), M1) else if p1 = 21 then some ((M1 136 9), M1) else if p1 = 22 then some ((M1 136 10), M1) else some ((-1), M1)
set_option maxRecDepth 100000 in
set_option maxHeartbeats 4000000 in
theorem t_X12_look {g : IG} {a : Nat → Nat} {R : Int32 × IM} {p1 : Int32} {M : IM} (h : f_X12_look p1 M = some R) : Cn g mX12_look 7 0 0 (qI S0 a R) [.ref (a 136), .int p1] a S0 M := by
  refine Cn_of (L := [some (.ref (a 136)), some (.int p1)]) mf_X12_look (cat_r (cat_i cat_0)) (Nat.le_of_ble_eq_true rfl) rfl ?_
  unfold f_X12_look at h
  refine V_aload_n rfl dX12_look_0 rfl rfl ?_
  refine V_iconst (v := 0) rfl dX12_look_1 kc_0 ?_
  replace h := pt_e h
  refine V_putf (k0 := 0) (ty := .int) rfl dX12_look_2 s0_136 icX12 tyX12_ok nmX12 (by decide) rfl w_1189 rfl (tyX12_ok _ (by decide)) rfl rfl ?_
  refine V_iload_n rfl dX12_look_5 rfl rfl ?_
  refine V_if_ne (t := 14) rfl rfl dX12_look_6 (fun hc2 => ?_) (fun hc2 => ?_)
  · replace h := ifn hc2 h
    refine V_iload_n rfl dX12_look_14 rfl rfl ?_
    refine V_iconst (v := 1) rfl dX12_look_15 kc_1 ?_
    refine V_icmp_ne (t := 26) rfl rfl dX12_look_16 (fun hc3 => ?_) (fun hc3 => ?_)
    · replace h := ifn hc3 h
      refine V_iload_n rfl dX12_look_26 rfl rfl ?_
      refine V_iconst (v := 2) rfl dX12_look_27 kc_2 ?_
      refine V_icmp_ne (t := 38) rfl rfl dX12_look_28 (fun hc4 => ?_) (fun hc4 => ?_)
      · replace h := ifn hc4 h
        refine V_iload_n rfl dX12_look_38 rfl rfl ?_
        refine V_iconst (v := 3) rfl dX12_look_39 kc_3 ?_
        refine V_icmp_ne (t := 50) rfl rfl dX12_look_40 (fun hc5 => ?_) (fun hc5 => ?_)
        · replace h := ifn hc5 h
          refine V_iload_n rfl dX12_look_50 rfl rfl ?_
          refine V_iconst (v := 4) rfl dX12_look_51 kc_4 ?_
          refine V_icmp_ne (t := 62) rfl rfl dX12_look_52 (fun hc6 => ?_) (fun hc6 => ?_)
          · replace h := ifn hc6 h
            refine V_iload_n rfl dX12_look_62 rfl rfl ?_
            refine V_iconst (v := 5) rfl dX12_look_63 kc_5 ?_
            refine V_icmp_ne (t := 75) rfl rfl dX12_look_64 (fun hc7 => ?_) (fun hc7 => ?_)
            · replace h := ifn hc7 h
              refine V_iload_n rfl dX12_look_75 rfl rfl ?_
              refine V_bipush (v := 6) rfl dX12_look_76 kb_6 ?_
              refine V_icmp_ne (t := 89) rfl rfl dX12_look_78 (fun hc8 => ?_) (fun hc8 => ?_)
              · replace h := ifn hc8 h
                refine V_iload_n rfl dX12_look_89 rfl rfl ?_
                refine V_bipush (v := 7) rfl dX12_look_90 kb_7 ?_
                refine V_icmp_ne (t := 103) rfl rfl dX12_look_92 (fun hc9 => ?_) (fun hc9 => ?_)
                · replace h := ifn hc9 h
                  refine V_iload_n rfl dX12_look_103 rfl rfl ?_
                  refine V_bipush (v := 8) rfl dX12_look_104 kb_8 ?_
                  refine V_icmp_ne (t := 117) rfl rfl dX12_look_106 (fun hc10 => ?_) (fun hc10 => ?_)
                  · replace h := ifn hc10 h
                    refine V_iload_n rfl dX12_look_117 rfl rfl ?_
                    refine V_bipush (v := 9) rfl dX12_look_118 kb_9 ?_
                    refine V_icmp_ne (t := 128) rfl rfl dX12_look_120 (fun hc11 => ?_) (fun hc11 => ?_)
                    · replace h := ifn hc11 h
                      refine V_iload_n rfl dX12_look_128 rfl rfl ?_
                      refine V_bipush (v := 10) rfl dX12_look_129 kb_10 ?_
                      refine V_icmp_ne (t := 141) rfl rfl dX12_look_131 (fun hc12 => ?_) (fun hc12 => ?_)
                      · replace h := ifn hc12 h
                        refine V_iload_n rfl dX12_look_141 rfl rfl ?_
                        refine V_bipush (v := 11) rfl dX12_look_142 kb_11 ?_
                        refine V_icmp_ne (t := 154) rfl rfl dX12_look_144 (fun hc13 => ?_) (fun hc13 => ?_)
                        · replace h := ifn hc13 h
                          refine V_iload_n rfl dX12_look_154 rfl rfl ?_
                          refine V_bipush (v := 12) rfl dX12_look_155 kb_12 ?_
                          refine V_icmp_ne (t := 167) rfl rfl dX12_look_157 (fun hc14 => ?_) (fun hc14 => ?_)
                          · replace h := ifn hc14 h
                            refine V_iload_n rfl dX12_look_167 rfl rfl ?_
                            refine V_bipush (v := 13) rfl dX12_look_168 kb_13 ?_
                            refine V_icmp_ne (t := 180) rfl rfl dX12_look_170 (fun hc15 => ?_) (fun hc15 => ?_)
                            · replace h := ifn hc15 h
                              refine V_iload_n rfl dX12_look_180 rfl rfl ?_
                              refine V_bipush (v := 14) rfl dX12_look_181 kb_14 ?_
                              refine V_icmp_ne (t := 191) rfl rfl dX12_look_183 (fun hc16 => ?_) (fun hc16 => ?_)
                              · replace h := ifn hc16 h
                                refine V_iload_n rfl dX12_look_191 rfl rfl ?_
                                refine V_bipush (v := 15) rfl dX12_look_192 kb_15 ?_
                                refine V_icmp_ne (t := 202) rfl rfl dX12_look_194 (fun hc17 => ?_) (fun hc17 => ?_)
                                · replace h := ifn hc17 h
                                  refine V_iload_n rfl dX12_look_202 rfl rfl ?_
                                  refine V_bipush (v := 16) rfl dX12_look_203 kb_16 ?_
                                  refine V_icmp_ne (t := 213) rfl rfl dX12_look_205 (fun hc18 => ?_) (fun hc18 => ?_)
                                  · replace h := ifn hc18 h
                                    refine V_iload_n rfl dX12_look_213 rfl rfl ?_
                                    refine V_bipush (v := 17) rfl dX12_look_214 kb_17 ?_
                                    refine V_icmp_ne (t := 224) rfl rfl dX12_look_216 (fun hc19 => ?_) (fun hc19 => ?_)
                                    · replace h := ifn hc19 h
                                      refine V_iload_n rfl dX12_look_224 rfl rfl ?_
                                      refine V_bipush (v := 20) rfl dX12_look_225 kb_20 ?_
                                      refine V_icmp_ne (t := 235) rfl rfl dX12_look_227 (fun hc20 => ?_) (fun hc20 => ?_)
                                      · replace h := ifn hc20 h
                                        refine V_iload_n rfl dX12_look_235 rfl rfl ?_
                                        refine V_bipush (v := 21) rfl dX12_look_236 kb_21 ?_
                                        refine V_icmp_ne (t := 248) rfl rfl dX12_look_238 (fun hc21 => ?_) (fun hc21 => ?_)
                                        · replace h := ifn hc21 h
                                          refine V_iload_n rfl dX12_look_248 rfl rfl ?_
                                          refine V_bipush (v := 22) rfl dX12_look_249 kb_22 ?_
                                          refine V_icmp_ne (t := 261) rfl rfl dX12_look_251 (fun hc22 => ?_) (fun hc22 => ?_)
                                          · replace h := ifn hc22 h
                                            refine V_iconst (v := (-1)) rfl dX12_look_261 kc_m1 ?_
                                            cases h
                                            exact V_iret dX12_look_262 rfl rfl (Nat.le_refl _) (Nat.le_refl _) qI_ok
                                          · replace h := ifp hc22 h
                                            refine V_aload_n rfl dX12_look_254 rfl rfl ?_
                                            refine V_geti (k0 := 10) rfl dX12_look_255 s0_136 icX12 (by decide) rfl w_1199 ?_
                                            refine V_goto (t := 262) rfl dX12_look_258 ?_
                                            cases h
                                            exact V_iret dX12_look_262 rfl rfl (Nat.le_refl _) (Nat.le_refl _) qI_ok
                                        · replace h := ifp hc21 h
                                          refine V_aload_n rfl dX12_look_241 rfl rfl ?_
                                          refine V_geti (k0 := 9) rfl dX12_look_242 s0_136 icX12 (by decide) rfl w_1198 ?_
                                          refine V_goto (t := 262) rfl dX12_look_245 ?_
                                          cases h
                                          exact V_iret dX12_look_262 rfl rfl (Nat.le_refl _) (Nat.le_refl _) qI_ok
                                      · replace h := ifp hc20 h
                                        refine V_aload_n rfl dX12_look_230 rfl rfl ?_
                                        refine V_geti (k0 := 8) rfl dX12_look_231 s0_136 icX12 (by decide) rfl w_1197 ?_
                                        cases h
                                        exact V_iret dX12_look_234 rfl rfl (Nat.le_refl _) (Nat.le_refl _) qI_ok
                                    · replace h := ifp hc19 h
                                      refine V_aload_n rfl dX12_look_219 rfl rfl ?_
                                      replace h := cl_e h
                                      obtain ⟨w23, M24, hc25, h⟩ := h
                                      refine V_ii (As := []) rfl dX12_look_220 mf_X12_hoursOfRound ⟨w_1758, w_126⟩ w_1756 (by decide) s0_136 rfl rfl rfl rfl ⟨rfl, rfl⟩ (t_X12_hoursOfRound hc25) ?_
                                      cases h
                                      exact V_iret dX12_look_223 rfl rfl (Nat.le_refl _) (Nat.le_refl _) qI_ok
                                  · replace h := ifp hc18 h
                                    refine V_aload_n rfl dX12_look_208 rfl rfl ?_
                                    refine V_geti (k0 := 3) rfl dX12_look_209 s0_136 icX12 (by decide) rfl w_1192 ?_
                                    cases h
                                    exact V_iret dX12_look_212 rfl rfl (Nat.le_refl _) (Nat.le_refl _) qI_ok
                                · replace h := ifp hc17 h
                                  refine V_aload_n rfl dX12_look_197 rfl rfl ?_
                                  refine V_geti (k0 := 38) rfl dX12_look_198 s0_136 icX12 (by decide) rfl w_1227 ?_
                                  cases h
                                  exact V_iret dX12_look_201 rfl rfl (Nat.le_refl _) (Nat.le_refl _) qI_ok
                              · replace h := ifp hc16 h
                                refine V_aload_n rfl dX12_look_186 rfl rfl ?_
                                refine V_geti (k0 := 36) rfl dX12_look_187 s0_136 icX12 (by decide) rfl w_1225 ?_
                                cases h
                                exact V_iret dX12_look_190 rfl rfl (Nat.le_refl _) (Nat.le_refl _) qI_ok
                            · replace h := ifp hc15 h
                              refine V_aload_n rfl dX12_look_173 rfl rfl ?_
                              refine V_getr (k0 := 20) rfl dX12_look_174 s0_136 icX12 (by decide) rfl w_1209 ?_
                              refine V_iconst (v := 1) rfl dX12_look_177 kc_1 ?_
                              replace h := rd_e h
                              obtain ⟨hb27, h⟩ := h
                              refine V_iald rfl dX12_look_178 s0_145 hb27 ?_
                              cases h
                              exact V_iret dX12_look_179 rfl rfl (Nat.le_refl _) (Nat.le_refl _) qI_ok
                          · replace h := ifp hc14 h
                            refine V_aload_n rfl dX12_look_160 rfl rfl ?_
                            refine V_getr (k0 := 20) rfl dX12_look_161 s0_136 icX12 (by decide) rfl w_1209 ?_
                            refine V_iconst (v := 0) rfl dX12_look_164 kc_0 ?_
                            replace h := rd_e h
                            obtain ⟨hb29, h⟩ := h
                            refine V_iald rfl dX12_look_165 s0_145 hb29 ?_
                            cases h
                            exact V_iret dX12_look_166 rfl rfl (Nat.le_refl _) (Nat.le_refl _) qI_ok
                        · replace h := ifp hc13 h
                          refine V_aload_n rfl dX12_look_147 rfl rfl ?_
                          refine V_getr (k0 := 1) rfl dX12_look_148 s0_136 icX12 (by decide) rfl w_1190 ?_
                          refine V_iconst (v := 1) rfl dX12_look_151 kc_1 ?_
                          replace h := rd_e h
                          obtain ⟨hb31, h⟩ := h
                          refine V_iald rfl dX12_look_152 s0_137 hb31 ?_
                          cases h
                          exact V_iret dX12_look_153 rfl rfl (Nat.le_refl _) (Nat.le_refl _) qI_ok
                      · replace h := ifp hc12 h
                        refine V_aload_n rfl dX12_look_134 rfl rfl ?_
                        refine V_getr (k0 := 1) rfl dX12_look_135 s0_136 icX12 (by decide) rfl w_1190 ?_
                        refine V_iconst (v := 2) rfl dX12_look_138 kc_2 ?_
                        replace h := rd_e h
                        obtain ⟨hb33, h⟩ := h
                        refine V_iald rfl dX12_look_139 s0_137 hb33 ?_
                        cases h
                        exact V_iret dX12_look_140 rfl rfl (Nat.le_refl _) (Nat.le_refl _) qI_ok
                    · replace h := ifp hc11 h
                      refine V_aload_n rfl dX12_look_123 rfl rfl ?_
                      replace h := cl_e h
                      obtain ⟨w34, M35, hc36, h⟩ := h
                      refine V_ii (As := []) rfl dX12_look_124 mf_X12_goers ⟨w_1547, w_84⟩ w_1545 (by decide) s0_136 rfl rfl rfl rfl ⟨rfl, rfl⟩ (t_X12_goers hc36) ?_
                      cases h
                      exact V_iret dX12_look_127 rfl rfl (Nat.le_refl _) (Nat.le_refl _) qI_ok
                  · replace h := ifp hc10 h
                    refine V_aload_n rfl dX12_look_109 rfl rfl ?_
                    refine V_getr (k0 := 1) rfl dX12_look_110 s0_136 icX12 (by decide) rfl w_1190 ?_
                    refine V_bipush (v := 9) rfl dX12_look_113 kb_9 ?_
                    replace h := rd_e h
                    obtain ⟨hb38, h⟩ := h
                    refine V_iald rfl dX12_look_115 s0_137 hb38 ?_
                    cases h
                    exact V_iret dX12_look_116 rfl rfl (Nat.le_refl _) (Nat.le_refl _) qI_ok
                · replace h := ifp hc9 h
                  refine V_aload_n rfl dX12_look_95 rfl rfl ?_
                  refine V_getr (k0 := 1) rfl dX12_look_96 s0_136 icX12 (by decide) rfl w_1190 ?_
                  refine V_bipush (v := 8) rfl dX12_look_99 kb_8 ?_
                  replace h := rd_e h
                  obtain ⟨hb40, h⟩ := h
                  refine V_iald rfl dX12_look_101 s0_137 hb40 ?_
                  cases h
                  exact V_iret dX12_look_102 rfl rfl (Nat.le_refl _) (Nat.le_refl _) qI_ok
              · replace h := ifp hc8 h
                refine V_aload_n rfl dX12_look_81 rfl rfl ?_
                refine V_getr (k0 := 1) rfl dX12_look_82 s0_136 icX12 (by decide) rfl w_1190 ?_
                refine V_bipush (v := 7) rfl dX12_look_85 kb_7 ?_
                replace h := rd_e h
                obtain ⟨hb42, h⟩ := h
                refine V_iald rfl dX12_look_87 s0_137 hb42 ?_
                cases h
                exact V_iret dX12_look_88 rfl rfl (Nat.le_refl _) (Nat.le_refl _) qI_ok
            · replace h := ifp hc7 h
              refine V_aload_n rfl dX12_look_67 rfl rfl ?_
              refine V_getr (k0 := 1) rfl dX12_look_68 s0_136 icX12 (by decide) rfl w_1190 ?_
              refine V_bipush (v := 6) rfl dX12_look_71 kb_6 ?_
              replace h := rd_e h
              obtain ⟨hb44, h⟩ := h
              refine V_iald rfl dX12_look_73 s0_137 hb44 ?_
              cases h
              exact V_iret dX12_look_74 rfl rfl (Nat.le_refl _) (Nat.le_refl _) qI_ok
          · replace h := ifp hc6 h
            refine V_aload_n rfl dX12_look_55 rfl rfl ?_
            refine V_getr (k0 := 1) rfl dX12_look_56 s0_136 icX12 (by decide) rfl w_1190 ?_
            refine V_iconst (v := 5) rfl dX12_look_59 kc_5 ?_
            replace h := rd_e h
            obtain ⟨hb46, h⟩ := h
            refine V_iald rfl dX12_look_60 s0_137 hb46 ?_
            cases h
            exact V_iret dX12_look_61 rfl rfl (Nat.le_refl _) (Nat.le_refl _) qI_ok
        · replace h := ifp hc5 h
          refine V_aload_n rfl dX12_look_43 rfl rfl ?_
          refine V_getr (k0 := 1) rfl dX12_look_44 s0_136 icX12 (by decide) rfl w_1190 ?_
          refine V_iconst (v := 4) rfl dX12_look_47 kc_4 ?_
          replace h := rd_e h
          obtain ⟨hb48, h⟩ := h
          refine V_iald rfl dX12_look_48 s0_137 hb48 ?_
          cases h
          exact V_iret dX12_look_49 rfl rfl (Nat.le_refl _) (Nat.le_refl _) qI_ok
      · replace h := ifp hc4 h
        refine V_aload_n rfl dX12_look_31 rfl rfl ?_
        refine V_getr (k0 := 1) rfl dX12_look_32 s0_136 icX12 (by decide) rfl w_1190 ?_
        refine V_iconst (v := 3) rfl dX12_look_35 kc_3 ?_
        replace h := rd_e h
        obtain ⟨hb50, h⟩ := h
        refine V_iald rfl dX12_look_36 s0_137 hb50 ?_
        cases h
        exact V_iret dX12_look_37 rfl rfl (Nat.le_refl _) (Nat.le_refl _) qI_ok
    · replace h := ifp hc3 h
      refine V_aload_n rfl dX12_look_19 rfl rfl ?_
      refine V_getr (k0 := 1) rfl dX12_look_20 s0_136 icX12 (by decide) rfl w_1190 ?_
      refine V_iconst (v := 0) rfl dX12_look_23 kc_0 ?_
      replace h := rd_e h
      obtain ⟨hb52, h⟩ := h
      refine V_iald rfl dX12_look_24 s0_137 hb52 ?_
      cases h
      exact V_iret dX12_look_25 rfl rfl (Nat.le_refl _) (Nat.le_refl _) qI_ok
  · replace h := ifp hc2 h
    refine V_aload_n rfl dX12_look_9 rfl rfl ?_
    refine V_geti (k0 := 6) rfl dX12_look_10 s0_136 icX12 (by decide) rfl w_1195 ?_
    cases h
    exact V_iret dX12_look_13 rfl rfl (Nat.le_refl _) (Nat.le_refl _) qI_ok
