-- X11_lineUp: NeverHalted.lineUp(I)I
def f_X11_lineUp_115_b (r115 : Int32 → Int32 → Int32 → Int32 → Int32 → IM → IR) (x1 : Int32) (x2 : Int32) (x3 : Int32) (x5 : Int32) (x6 : Int32) (M : IM) : IR := if (M 1 10) ≤ x6 then some ((x3 + x2), M) else if ((x1 >>> (x6 &&& 31)) &&& 1) = 0 then lt (x6 + 1) fun v24 => r115 x1 x2 x3 x5 v24 M else rd M 3 10 x6 fun v25 => if v25 = 1 then wr M 135 10 x5 x6 fun M29 => lt (x5 + 1) fun v31 => lt (x6 + 1) fun v32 => r115 x1 x2 x3 v31 v32 M29 else lt (x6 + 1) fun v28 => r115 x1 x2 x3 x5 v28 M
def f_X11_lineUp_115 (n : Nat) : Int32 → Int32 → Int32 → Int32 → Int32 → IM → IR := itr (fun _ _ _ _ _ _ => none) (f_X11_lineUp_115_b) n
set_option maxRecDepth 100000 in
set_option maxHeartbeats 4000000 in
theorem t_X11_lineUp_115 {g : IG} {a : Nat → Nat} {R : Int32 × IM} (n : Nat) : ∀ (x1 : Int32) (x2 : Int32) (x3 : Int32) (x5 : Int32) (x6 : Int32) (M : IM), f_X11_lineUp_115 n x1 x2 x3 x5 x6 M = some R → V g mX11_lineUp 2 0 0 (qI S0 a R) 115 [some (.ref (a 0)), some (.int x1), some (.int x2), some (.int x3), none, some (.int x5), some (.int x6)] [] a S0 M 0 0 := by
  induction n with
  | zero => intro x1 x2 x3 x5 x6 M h; exact absurd h (fun z => by cases z)
  | succ n hr115 =>
    intro x1 x2 x3 x5 x6 M h
    replace h : f_X11_lineUp_115_b (f_X11_lineUp_115 n) x1 x2 x3 x5 x6 M = some R := h
    unfold f_X11_lineUp_115_b at h
    refine V_iload rfl dX11_lineUp_115 rfl ?_
    refine V_aload_n rfl dX11_lineUp_117 rfl rfl ?_
    refine V_getr (k0 := 0) rfl dX11_lineUp_118 s0_0 icX11 (by decide) rfl w_523 ?_
    refine V_geti (k0 := 10) rfl dX11_lineUp_121 s0_1 icX4 (by decide) rfl w_201 ?_
    refine V_icmp_ge (t := 168) rfl rfl dX11_lineUp_124 (fun hc22 => ?_) (fun hc22 => ?_)
    · replace h := ifp hc22 h
      refine V_iload_n rfl dX11_lineUp_168 rfl rfl ?_
      refine V_iload_n rfl dX11_lineUp_169 rfl rfl ?_
      refine V_iadd rfl dX11_lineUp_170 ?_
      cases h
      exact V_iret dX11_lineUp_171 rfl rfl (Nat.le_refl _) (Nat.le_refl _) qI_ok
    · replace h := ifn hc22 h
      refine V_iload_n rfl dX11_lineUp_127 rfl rfl ?_
      refine V_iload rfl dX11_lineUp_128 rfl ?_
      refine V_ishr rfl dX11_lineUp_130 ?_
      refine V_iconst (v := 1) rfl dX11_lineUp_131 kc_1 ?_
      refine V_iand rfl dX11_lineUp_132 ?_
      refine V_if_eq (t := 162) rfl rfl dX11_lineUp_133 (fun hc23 => ?_) (fun hc23 => ?_)
      · replace h := ifp hc23 h
        replace h := lt_e h
        refine V_inc (L' := [_, _, _, _, _, _, _]) rfl dX11_lineUp_162 rfl kc_1 (by decide) rfl ?_
        refine V_goto (t := 115) rfl dX11_lineUp_165 ?_
        exact V_sub (le_s (le_s (le_s (le_s (le_n (le_s (le_s le_0))))))) (hr115 _ _ _ _ _ _ h)
      · replace h := ifn hc23 h
        refine V_aload_n rfl dX11_lineUp_136 rfl rfl ?_
        refine V_getr (k0 := 0) rfl dX11_lineUp_137 s0_0 icX11 (by decide) rfl w_523 ?_
        refine V_getr (k0 := 12) rfl dX11_lineUp_140 s0_1 icX4 (by decide) rfl w_207 ?_
        refine V_iload rfl dX11_lineUp_143 rfl ?_
        replace h := rd_e h
        obtain ⟨hb26, h⟩ := h
        refine V_iald rfl dX11_lineUp_145 s0_3 hb26 ?_
        refine V_iconst (v := 1) rfl dX11_lineUp_146 kc_1 ?_
        refine V_icmp_ne (t := 162) rfl rfl dX11_lineUp_147 (fun hc27 => ?_) (fun hc27 => ?_)
        · replace h := ifn hc27 h
          replace h := lt_e h
          refine V_inc (L' := [_, _, _, _, _, _, _]) rfl dX11_lineUp_162 rfl kc_1 (by decide) rfl ?_
          refine V_goto (t := 115) rfl dX11_lineUp_165 ?_
          exact V_sub (le_s (le_s (le_s (le_s (le_n (le_s (le_s le_0))))))) (hr115 _ _ _ _ _ _ h)
        · replace h := ifp hc27 h
          refine V_aload_n rfl dX11_lineUp_150 rfl rfl ?_
          refine V_getr (k0 := 17) rfl dX11_lineUp_151 s0_0 icX11 (by decide) rfl w_540 ?_
          refine V_iload rfl dX11_lineUp_154 rfl ?_
          refine V_iload rfl dX11_lineUp_156 rfl ?_
          replace h := wr_e h
          obtain ⟨hb30, h⟩ := h
          refine V_iast rfl dX11_lineUp_158 s0_135 hb30 ?_
          replace h := lt_e h
          refine V_inc (L' := [_, _, _, _, _, _, _]) rfl dX11_lineUp_159 rfl kc_1 (by decide) rfl ?_
          replace h := lt_e h
          refine V_inc (L' := [_, _, _, _, _, _, _]) rfl dX11_lineUp_162 rfl kc_1 (by decide) rfl ?_
          refine V_goto (t := 115) rfl dX11_lineUp_165 ?_
          exact V_sub (le_s (le_s (le_s (le_s (le_n (le_s (le_s le_0))))))) (hr115 _ _ _ _ _ _ h)
def f_X11_lineUp_79_b (r79 : Int32 → Int32 → Int32 → Int32 → Int32 → IM → IR) (x1 : Int32) (x2 : Int32) (x3 : Int32) (x4 : Int32) (x5 : Int32) (M : IM) : IR := if x5 < x4 then f_X11_lineUp_115 BG x1 x2 x3 x4 0 M else rd M 135 10 x5 fun v17 => wr M 135 10 (x5 + x2) v17 fun M19 => lt (x5 + (-1)) fun v21 => r79 x1 x2 x3 x4 v21 M19
def f_X11_lineUp_79 (n : Nat) : Int32 → Int32 → Int32 → Int32 → Int32 → IM → IR := itr (fun _ _ _ _ _ _ => none) (f_X11_lineUp_79_b) n
set_option maxRecDepth 100000 in
set_option maxHeartbeats 4000000 in
theorem t_X11_lineUp_79 {g : IG} {a : Nat → Nat} {R : Int32 × IM} (n : Nat) : ∀ (x1 : Int32) (x2 : Int32) (x3 : Int32) (x4 : Int32) (x5 : Int32) (M : IM), f_X11_lineUp_79 n x1 x2 x3 x4 x5 M = some R → V g mX11_lineUp 2 0 0 (qI S0 a R) 79 [some (.ref (a 0)), some (.int x1), some (.int x2), some (.int x3), some (.int x4), some (.int x5), none] [] a S0 M 0 0 := by
  induction n with
  | zero => intro x1 x2 x3 x4 x5 M h; exact absurd h (fun z => by cases z)
  | succ n hr79 =>
    intro x1 x2 x3 x4 x5 M h
    replace h : f_X11_lineUp_79_b (f_X11_lineUp_79 n) x1 x2 x3 x4 x5 M = some R := h
    unfold f_X11_lineUp_79_b at h
    refine V_iload rfl dX11_lineUp_79 rfl ?_
    refine V_iload rfl dX11_lineUp_81 rfl ?_
    refine V_icmp_lt (t := 108) rfl rfl dX11_lineUp_83 (fun hc16 => ?_) (fun hc16 => ?_)
    · replace h := ifp hc16 h
      refine V_iload rfl dX11_lineUp_108 rfl ?_
      refine V_istore (L' := [_, _, _, _, _, _, _]) rfl dX11_lineUp_110 (by decide) rfl ?_
      refine V_iconst (v := 0) rfl dX11_lineUp_112 kc_0 ?_
      refine V_istore (L' := [_, _, _, _, _, _, _]) rfl dX11_lineUp_113 (by decide) rfl ?_
      exact V_sub (le_s (le_s (le_s (le_s (le_n (le_s (le_s le_0))))))) (t_X11_lineUp_115 BG _ _ _ _ _ _ h)
    · replace h := ifn hc16 h
      refine V_aload_n rfl dX11_lineUp_86 rfl rfl ?_
      refine V_getr (k0 := 17) rfl dX11_lineUp_87 s0_0 icX11 (by decide) rfl w_540 ?_
      refine V_iload rfl dX11_lineUp_90 rfl ?_
      refine V_iload_n rfl dX11_lineUp_92 rfl rfl ?_
      refine V_iadd rfl dX11_lineUp_93 ?_
      refine V_aload_n rfl dX11_lineUp_94 rfl rfl ?_
      refine V_getr (k0 := 17) rfl dX11_lineUp_95 s0_0 icX11 (by decide) rfl w_540 ?_
      refine V_iload rfl dX11_lineUp_98 rfl ?_
      replace h := rd_e h
      obtain ⟨hb18, h⟩ := h
      refine V_iald rfl dX11_lineUp_100 s0_135 hb18 ?_
      replace h := wr_e h
      obtain ⟨hb20, h⟩ := h
      refine V_iast rfl dX11_lineUp_101 s0_135 hb20 ?_
      replace h := lt_e h
      refine V_inc (L' := [_, _, _, _, _, _, _]) rfl dX11_lineUp_102 rfl kc_m1 (by decide) rfl ?_
      refine V_goto (t := 79) rfl dX11_lineUp_105 ?_
      exact V_sub (le_s (le_s (le_s (le_s (le_s (le_s (le_n le_0))))))) (hr79 _ _ _ _ _ _ h)
def f_X11_lineUp_7_b (r7 : Int32 → Int32 → Int32 → Int32 → IM → IR) (x1 : Int32) (x2 : Int32) (x3 : Int32) (x4 : Int32) (M : IM) : IR := if (M 1 10) ≤ x4 then lt ((x3 + 1) / 2) fun v2 => lt (x3 - 1) fun v3 => f_X11_lineUp_79 BG x1 x2 x3 v2 v3 M else if ((x1 >>> (x4 &&& 31)) &&& 1) = 0 then lt (x4 + 1) fun v15 => r7 x1 x2 x3 v15 M else rd M 3 10 x4 fun v5 => if v5 = 1 then lt (x2 + 1) fun v13 => lt (x4 + 1) fun v14 => r7 x1 v13 x3 v14 M else cl (f_X11_putByFeet x4 x3 M) fun _ M9 => lt (x3 + 1) fun v11 => lt (x4 + 1) fun v12 => r7 x1 x2 v11 v12 M9
def f_X11_lineUp_7 (n : Nat) : Int32 → Int32 → Int32 → Int32 → IM → IR := itr (fun _ _ _ _ _ => none) (f_X11_lineUp_7_b) n
set_option maxRecDepth 100000 in
set_option maxHeartbeats 4000000 in
theorem t_X11_lineUp_7 {g : IG} {a : Nat → Nat} {R : Int32 × IM} (n : Nat) : ∀ (x1 : Int32) (x2 : Int32) (x3 : Int32) (x4 : Int32) (M : IM), f_X11_lineUp_7 n x1 x2 x3 x4 M = some R → V g mX11_lineUp 2 0 0 (qI S0 a R) 7 [some (.ref (a 0)), some (.int x1), some (.int x2), some (.int x3), some (.int x4), none, none] [] a S0 M 0 0 := by
  induction n with
  | zero => intro x1 x2 x3 x4 M h; exact absurd h (fun z => by cases z)
  | succ n hr7 =>
    intro x1 x2 x3 x4 M h
    replace h : f_X11_lineUp_7_b (f_X11_lineUp_7 n) x1 x2 x3 x4 M = some R := h
    unfold f_X11_lineUp_7_b at h
    refine V_iload rfl dX11_lineUp_7 rfl ?_
    refine V_aload_n rfl dX11_lineUp_9 rfl rfl ?_
    refine V_getr (k0 := 0) rfl dX11_lineUp_10 s0_0 icX11 (by decide) rfl w_523 ?_
    refine V_geti (k0 := 10) rfl dX11_lineUp_13 s0_1 icX4 (by decide) rfl w_201 ?_
    refine V_icmp_ge (t := 67) rfl rfl dX11_lineUp_16 (fun hc1 => ?_) (fun hc1 => ?_)
    · replace h := ifp hc1 h
      refine V_iload_n rfl dX11_lineUp_67 rfl rfl ?_
      refine V_iconst (v := 1) rfl dX11_lineUp_68 kc_1 ?_
      refine V_iadd rfl dX11_lineUp_69 ?_
      refine V_iconst (v := 2) rfl dX11_lineUp_70 kc_2 ?_
      refine V_idiv rfl dX11_lineUp_71 (by decide) ?_
      replace h := lt_e h
      refine V_istore (L' := [_, _, _, _, _, _, _]) rfl dX11_lineUp_72 (by decide) rfl ?_
      refine V_iload_n rfl dX11_lineUp_74 rfl rfl ?_
      refine V_iconst (v := 1) rfl dX11_lineUp_75 kc_1 ?_
      refine V_isub rfl dX11_lineUp_76 ?_
      replace h := lt_e h
      refine V_istore (L' := [_, _, _, _, _, _, _]) rfl dX11_lineUp_77 (by decide) rfl ?_
      exact V_sub (le_s (le_s (le_s (le_s (le_s (le_s (le_n le_0))))))) (t_X11_lineUp_79 BG _ _ _ _ _ _ h)
    · replace h := ifn hc1 h
      refine V_iload_n rfl dX11_lineUp_19 rfl rfl ?_
      refine V_iload rfl dX11_lineUp_20 rfl ?_
      refine V_ishr rfl dX11_lineUp_22 ?_
      refine V_iconst (v := 1) rfl dX11_lineUp_23 kc_1 ?_
      refine V_iand rfl dX11_lineUp_24 ?_
      refine V_if_ne (t := 31) rfl rfl dX11_lineUp_25 (fun hc4 => ?_) (fun hc4 => ?_)
      · replace h := ifn hc4 h
        refine V_aload_n rfl dX11_lineUp_31 rfl rfl ?_
        refine V_getr (k0 := 0) rfl dX11_lineUp_32 s0_0 icX11 (by decide) rfl w_523 ?_
        refine V_getr (k0 := 12) rfl dX11_lineUp_35 s0_1 icX4 (by decide) rfl w_207 ?_
        refine V_iload rfl dX11_lineUp_38 rfl ?_
        replace h := rd_e h
        obtain ⟨hb6, h⟩ := h
        refine V_iald rfl dX11_lineUp_40 s0_3 hb6 ?_
        refine V_iconst (v := 1) rfl dX11_lineUp_41 kc_1 ?_
        refine V_icmp_ne (t := 51) rfl rfl dX11_lineUp_42 (fun hc7 => ?_) (fun hc7 => ?_)
        · replace h := ifn hc7 h
          refine V_aload_n rfl dX11_lineUp_51 rfl rfl ?_
          refine V_iload rfl dX11_lineUp_52 rfl ?_
          refine V_iload_n rfl dX11_lineUp_54 rfl rfl ?_
          replace h := cl_e h
          obtain ⟨w8, M9, hc10, h⟩ := h
          refine V_iv (As := [.int _, .int _]) rfl dX11_lineUp_55 mf_X11_putByFeet ⟨w_1167, w_45⟩ w_1165 (by decide) s0_0 rfl rfl rfl rfl ⟨rfl, rfl⟩ (t_X11_putByFeet hc10) ?_
          replace h := lt_e h
          refine V_inc (L' := [_, _, _, _, _, _, _]) rfl dX11_lineUp_58 rfl kc_1 (by decide) rfl ?_
          replace h := lt_e h
          refine V_inc (L' := [_, _, _, _, _, _, _]) rfl dX11_lineUp_61 rfl kc_1 (by decide) rfl ?_
          refine V_goto (t := 7) rfl dX11_lineUp_64 ?_
          exact V_sub (le_s (le_s (le_s (le_s (le_s (le_n (le_n le_0))))))) (hr7 _ _ _ _ _ h)
        · replace h := ifp hc7 h
          replace h := lt_e h
          refine V_inc (L' := [_, _, _, _, _, _, _]) rfl dX11_lineUp_45 rfl kc_1 (by decide) rfl ?_
          refine V_goto (t := 61) rfl dX11_lineUp_48 ?_
          replace h := lt_e h
          refine V_inc (L' := [_, _, _, _, _, _, _]) rfl dX11_lineUp_61 rfl kc_1 (by decide) rfl ?_
          refine V_goto (t := 7) rfl dX11_lineUp_64 ?_
          exact V_sub (le_s (le_s (le_s (le_s (le_s (le_n (le_n le_0))))))) (hr7 _ _ _ _ _ h)
      · replace h := ifp hc4 h
        refine V_goto (t := 61) rfl dX11_lineUp_28 ?_
        replace h := lt_e h
        refine V_inc (L' := [_, _, _, _, _, _, _]) rfl dX11_lineUp_61 rfl kc_1 (by decide) rfl ?_
        refine V_goto (t := 7) rfl dX11_lineUp_64 ?_
        exact V_sub (le_s (le_s (le_s (le_s (le_s (le_n (le_n le_0))))))) (hr7 _ _ _ _ _ h)
def f_X11_lineUp (p1 : Int32) (M : IM) : IR := f_X11_lineUp_7 BG p1 0 0 0 M
set_option maxRecDepth 100000 in
set_option maxHeartbeats 4000000 in
theorem t_X11_lineUp {g : IG} {a : Nat → Nat} {R : Int32 × IM} {p1 : Int32} {M : IM} (h : f_X11_lineUp p1 M = some R) : Cn g mX11_lineUp 2 0 0 (qI S0 a R) [.ref (a 0), .int p1] a S0 M := by
  refine Cn_of (L := [some (.ref (a 0)), some (.int p1), none, none, none, none, none]) mf_X11_lineUp (cat_r (cat_i cat_0)) (Nat.le_of_ble_eq_true rfl) rfl ?_
  unfold f_X11_lineUp at h
  refine V_iconst (v := 0) rfl dX11_lineUp_0 kc_0 ?_
  refine V_istore_n (L' := [_, _, _, _, _, _, _]) rfl rfl dX11_lineUp_1 (by decide) rfl ?_
  refine V_iconst (v := 0) rfl dX11_lineUp_2 kc_0 ?_
  refine V_istore_n (L' := [_, _, _, _, _, _, _]) rfl rfl dX11_lineUp_3 (by decide) rfl ?_
  refine V_iconst (v := 0) rfl dX11_lineUp_4 kc_0 ?_
  refine V_istore (L' := [_, _, _, _, _, _, _]) rfl dX11_lineUp_5 (by decide) rfl ?_
  exact V_sub (le_s (le_s (le_s (le_s (le_s (le_n (le_n le_0))))))) (t_X11_lineUp_7 BG _ _ _ _ _ h)
-- X11_line: NeverHalted.line(I)I
def f_X11_line (p1 : Int32) (M : IM) : IR := cl (f_X11_whoGo 1 M) fun w1 M2 => cl (f_X11_lineUp w1 M2) fun w4 M5 => cl (f_X11_within p1 0 (w4 - 1) M5) fun w7 M8 => if w7 = 0 then some ((-1), M8) else rd M8 135 10 p1 fun v11 => some (v11, M8)
set_option maxRecDepth 100000 in
set_option maxHeartbeats 4000000 in
theorem t_X11_line {g : IG} {a : Nat → Nat} {R : Int32 × IM} {p1 : Int32} {M : IM} (h : f_X11_line p1 M = some R) : Cn g mX11_line 7 0 0 (qI S0 a R) [.ref (a 0), .int p1] a S0 M := by
  refine Cn_of (L := [some (.ref (a 0)), some (.int p1), none]) mf_X11_line (cat_r (cat_i cat_0)) (Nat.le_of_ble_eq_true rfl) rfl ?_
  unfold f_X11_line at h
  refine V_aload_n rfl dX11_line_0 rfl rfl ?_
  refine V_aload_n rfl dX11_line_1 rfl rfl ?_
  refine V_aload_n rfl dX11_line_2 rfl rfl ?_
  refine V_getr (k0 := 0) rfl dX11_line_3 s0_0 icX11 (by decide) rfl w_523 ?_
  replace h := cl_e h
  obtain ⟨w1, M2, hc3, h⟩ := h
  refine V_ii (As := [.ref _]) rfl dX11_line_6 mf_X11_whoGo ⟨w_845, w_19⟩ w_843 (by decide) s0_0 rfl rfl rfl rfl ⟨rfl, rfl⟩ (t_X11_whoGo isNow_at1 hc3) ?_
  replace h := cl_e h
  obtain ⟨w4, M5, hc6, h⟩ := h
  refine V_ii (As := [.int _]) rfl dX11_line_9 mf_X11_lineUp ⟨w_1163, w_44⟩ w_1161 (by decide) s0_0 rfl rfl rfl rfl ⟨rfl, rfl⟩ (t_X11_lineUp hc6) ?_
  refine V_istore_n (L' := [_, _, _]) rfl rfl dX11_line_12 (by decide) rfl ?_
  refine V_iload_n rfl dX11_line_13 rfl rfl ?_
  refine V_iconst (v := 0) rfl dX11_line_14 kc_0 ?_
  refine V_iload_n rfl dX11_line_15 rfl rfl ?_
  refine V_iconst (v := 1) rfl dX11_line_16 kc_1 ?_
  refine V_isub rfl dX11_line_17 ?_
  replace h := cl_e h
  obtain ⟨w7, M8, hc9, h⟩ := h
  refine V_si (As := [.int _, .int _, .int _]) rfl dX11_line_18 mf_X11_within w_594 w_593 (by decide) rfl rfl rfl ⟨rfl, rfl⟩ (t_X11_within hc9) ?_
  refine V_if_eq (t := 33) rfl rfl dX11_line_21 (fun hc10 => ?_) (fun hc10 => ?_)
  · replace h := ifp hc10 h
    refine V_iconst (v := (-1)) rfl dX11_line_33 kc_m1 ?_
    cases h
    exact V_iret dX11_line_34 rfl rfl (Nat.le_refl _) (Nat.le_refl _) qI_ok
  · replace h := ifn hc10 h
    refine V_aload_n rfl dX11_line_24 rfl rfl ?_
    refine V_getr (k0 := 17) rfl dX11_line_25 s0_0 icX11 (by decide) rfl w_540 ?_
    refine V_iload_n rfl dX11_line_28 rfl rfl ?_
    replace h := rd_e h
    obtain ⟨hb12, h⟩ := h
    refine V_iald rfl dX11_line_29 s0_135 hb12 ?_
    refine V_goto (t := 34) rfl dX11_line_30 ?_
    cases h
    exact V_iret dX11_line_34 rfl rfl (Nat.le_refl _) (Nat.le_refl _) qI_ok
-- X4_walkersOf: NeverHalted$Now.walkersOf(I)I
def f_X4_walkersOf_4_b (o0 : Nat) (r4 : Int32 → Int32 → Int32 → IM → IR) (x1 : Int32) (x2 : Int32) (x3 : Int32) (M : IM) : IR := if (M o0 10) ≤ x3 then some (x2, M) else rd M (o0 + 1) 10 x3 fun v2 => if v2 = x1 then lt (x2 + 1) fun v6 => lt (x3 + 1) fun v7 => r4 x1 v6 v7 M else lt (x3 + 1) fun v5 => r4 x1 x2 v5 M
def f_X4_walkersOf_4 (o0 : Nat) (n : Nat) : Int32 → Int32 → Int32 → IM → IR := itr (fun _ _ _ _ => none) (f_X4_walkersOf_4_b o0) n
set_option maxRecDepth 100000 in
set_option maxHeartbeats 4000000 in
theorem t_X4_walkersOf_4 {g : IG} {a : Nat → Nat} {R : Int32 × IM} {o0 : Nat} (h0 : isNow o0) (n : Nat) : ∀ (x1 : Int32) (x2 : Int32) (x3 : Int32) (M : IM), f_X4_walkersOf_4 o0 n x1 x2 x3 M = some R → V g mX4_walkersOf 1 0 0 (qI S0 a R) 4 [some (.ref (a o0)), some (.int x1), some (.int x2), some (.int x3)] [] a S0 M 0 0 := by
  induction n with
  | zero => intro x1 x2 x3 M h; exact absurd h (fun z => by cases z)
  | succ n hr4 =>
    intro x1 x2 x3 M h
    replace h : f_X4_walkersOf_4_b o0 (f_X4_walkersOf_4 o0 n) x1 x2 x3 M = some R := h
    unfold f_X4_walkersOf_4_b at h
    refine V_iload_n rfl dX4_walkersOf_4 rfl rfl ?_
    refine V_aload_n rfl dX4_walkersOf_5 rfl rfl ?_
    refine V_geti (k0 := 10) rfl dX4_walkersOf_6 (isNow_0 h0) icX4 (by decide) rfl w_200 ?_
    refine V_icmp_ge (t := 31) rfl rfl dX4_walkersOf_9 (fun hc1 => ?_) (fun hc1 => ?_)
    · replace h := ifp hc1 h
      refine V_iload_n rfl dX4_walkersOf_31 rfl rfl ?_
      cases h
      exact V_iret dX4_walkersOf_32 rfl rfl (Nat.le_refl _) (Nat.le_refl _) qI_ok
    · replace h := ifn hc1 h
      refine V_aload_n rfl dX4_walkersOf_12 rfl rfl ?_
      refine V_getr (k0 := 11) rfl dX4_walkersOf_13 (isNow_0 h0) icX4 (by decide) rfl w_202 ?_
      refine V_iload_n rfl dX4_walkersOf_16 rfl rfl ?_
      replace h := rd_e h
      obtain ⟨hb3, h⟩ := h
      refine V_iald rfl dX4_walkersOf_17 (isNow_1 h0) hb3 ?_
      refine V_iload_n rfl dX4_walkersOf_18 rfl rfl ?_
      refine V_icmp_ne (t := 25) rfl rfl dX4_walkersOf_19 (fun hc4 => ?_) (fun hc4 => ?_)
      · replace h := ifn hc4 h
        replace h := lt_e h
        refine V_inc (L' := [_, _, _, _]) rfl dX4_walkersOf_25 rfl kc_1 (by decide) rfl ?_
        refine V_goto (t := 4) rfl dX4_walkersOf_28 ?_
        exact V_sub (le_s (le_s (le_s (le_s le_0)))) (hr4 _ _ _ _ h)
      · replace h := ifp hc4 h
        replace h := lt_e h
        refine V_inc (L' := [_, _, _, _]) rfl dX4_walkersOf_22 rfl kc_1 (by decide) rfl ?_
        replace h := lt_e h
        refine V_inc (L' := [_, _, _, _]) rfl dX4_walkersOf_25 rfl kc_1 (by decide) rfl ?_
        refine V_goto (t := 4) rfl dX4_walkersOf_28 ?_
        exact V_sub (le_s (le_s (le_s (le_s le_0)))) (hr4 _ _ _ _ h)
def f_X4_walkersOf (o0 : Nat) (p1 : Int32) (M : IM) : IR := f_X4_walkersOf_4 o0 BG p1 0 0 M
set_option maxRecDepth 100000 in
set_option maxHeartbeats 4000000 in
theorem t_X4_walkersOf {g : IG} {a : Nat → Nat} {R : Int32 × IM} {o0 : Nat} {p1 : Int32} {M : IM} (h0 : isNow o0) (h : f_X4_walkersOf o0 p1 M = some R) : Cn g mX4_walkersOf 1 0 0 (qI S0 a R) [.ref (a o0), .int p1] a S0 M := by
  refine Cn_of (L := [some (.ref (a o0)), some (.int p1), none, none]) mf_X4_walkersOf (cat_r (cat_i cat_0)) (Nat.le_of_ble_eq_true rfl) rfl ?_
  unfold f_X4_walkersOf at h
  refine V_iconst (v := 0) rfl dX4_walkersOf_0 kc_0 ?_
  refine V_istore_n (L' := [_, _, _, _]) rfl rfl dX4_walkersOf_1 (by decide) rfl ?_
  refine V_iconst (v := 0) rfl dX4_walkersOf_2 kc_0 ?_
  refine V_istore_n (L' := [_, _, _, _]) rfl rfl dX4_walkersOf_3 (by decide) rfl ?_
  exact V_sub (le_s (le_s (le_s (le_s le_0)))) (t_X4_walkersOf_4 h0 BG _ _ _ _ h)
-- X11_owes: NeverHalted.owes(II)I
def f_X11_owes_55_b (r55 : Int32 → Int32 → Int32 → Int32 → Int32 → Int32 → Int32 → IM → IR) (x1 : Int32) (x2 : Int32) (x3 : Int32) (x4 : Int32) (x5 : Int32) (x6 : Int32) (x7 : Int32) (M : IM) : IR := if 8 ≤ x7 then dv x3 <| if x5 ≤ x6 then some (((x4 / x3) + 0), M) else some (((x4 / x3) + 1), M) else cl (f_X4_walkersOf 1 x7 M) fun w18 M19 => lt (x2 * w18) fun v21 => dv x3 <| lt (x5 - (v21 / x3)) fun v23 => dv x3 <| dv x3 <| if (x4 - x4 / x3 * x3) < (v21 - v21 / x3 * x3) then lt (x6 + 1) fun v27 => lt (x7 + 1) fun v28 => r55 x1 x2 x3 x4 v23 v27 v28 M19 else dv x3 <| dv x3 <| if (v21 - v21 / x3 * x3) = (x4 - x4 / x3 * x3) then if x1 ≤ x7 then lt (x7 + 1) fun v34 => r55 x1 x2 x3 x4 v23 x6 v34 M19 else lt (x6 + 1) fun v35 => lt (x7 + 1) fun v36 => r55 x1 x2 x3 x4 v23 v35 v36 M19 else lt (x7 + 1) fun v32 => r55 x1 x2 x3 x4 v23 x6 v32 M19
def f_X11_owes_55 (n : Nat) : Int32 → Int32 → Int32 → Int32 → Int32 → Int32 → Int32 → IM → IR := itr (fun _ _ _ _ _ _ _ _ => none) (f_X11_owes_55_b) n
set_option maxRecDepth 100000 in
set_option maxHeartbeats 4000000 in
theorem t_X11_owes_55 {g : IG} {a : Nat → Nat} {R : Int32 × IM} (n : Nat) : ∀ (x1 : Int32) (x2 : Int32) (x3 : Int32) (x4 : Int32) (x5 : Int32) (x6 : Int32) (x7 : Int32) (M : IM), f_X11_owes_55 n x1 x2 x3 x4 x5 x6 x7 M = some R → V g mX11_owes 2 0 0 (qI S0 a R) 55 [some (.ref (a 0)), some (.int x1), some (.int x2), some (.int x3), some (.int x4), some (.int x5), some (.int x6), some (.int x7), none] [] a S0 M 0 0 := by
  induction n with
  | zero => intro x1 x2 x3 x4 x5 x6 x7 M h; exact absurd h (fun z => by cases z)
  | succ n hr55 =>
    intro x1 x2 x3 x4 x5 x6 x7 M h
    replace h : f_X11_owes_55_b (f_X11_owes_55 n) x1 x2 x3 x4 x5 x6 x7 M = some R := h
    unfold f_X11_owes_55_b at h
    refine V_iload rfl dX11_owes_55 rfl ?_
    refine V_bipush (v := 8) rfl dX11_owes_57 kb_8 ?_
    refine V_icmp_ge (t := 121) rfl rfl dX11_owes_59 (fun hc15 => ?_) (fun hc15 => ?_)
    · replace h := ifp hc15 h
      refine V_iload rfl dX11_owes_121 rfl ?_
      refine V_iload_n rfl dX11_owes_123 rfl rfl ?_
      replace h := dv_e h
      obtain ⟨hz16, h⟩ := h
      refine V_idiv rfl dX11_owes_124 hz16 ?_
      refine V_iload rfl dX11_owes_125 rfl ?_
      refine V_iload rfl dX11_owes_127 rfl ?_
      refine V_icmp_ge (t := 136) rfl rfl dX11_owes_129 (fun hc17 => ?_) (fun hc17 => ?_)
      · replace h := ifp hc17 h
        refine V_iconst (v := 0) rfl dX11_owes_136 kc_0 ?_
        refine V_iadd rfl dX11_owes_137 ?_
        cases h
        exact V_iret dX11_owes_138 rfl rfl (Nat.le_refl _) (Nat.le_refl _) qI_ok
      · replace h := ifn hc17 h
        refine V_iconst (v := 1) rfl dX11_owes_132 kc_1 ?_
        refine V_goto (t := 137) rfl dX11_owes_133 ?_
        refine V_iadd rfl dX11_owes_137 ?_
        cases h
        exact V_iret dX11_owes_138 rfl rfl (Nat.le_refl _) (Nat.le_refl _) qI_ok
    · replace h := ifn hc15 h
      refine V_iload_n rfl dX11_owes_62 rfl rfl ?_
      refine V_aload_n rfl dX11_owes_63 rfl rfl ?_
      refine V_getr (k0 := 0) rfl dX11_owes_64 s0_0 icX11 (by decide) rfl w_523 ?_
      refine V_iload rfl dX11_owes_67 rfl ?_
      replace h := cl_e h
      obtain ⟨w18, M19, hc20, h⟩ := h
      refine V_ii (As := [.int _]) rfl dX11_owes_69 mf_X4_walkersOf ⟨w_1175, w_1176⟩ w_1174 (by decide) s0_1 rfl rfl rfl rfl ⟨rfl, rfl⟩ (t_X4_walkersOf isNow_at1 hc20) ?_
      refine V_imul rfl dX11_owes_72 ?_
      replace h := lt_e h
      refine V_istore (L' := [_, _, _, _, _, _, _, _, _]) rfl dX11_owes_73 (by decide) rfl ?_
      refine V_iload rfl dX11_owes_75 rfl ?_
      refine V_iload rfl dX11_owes_77 rfl ?_
      refine V_iload_n rfl dX11_owes_79 rfl rfl ?_
      replace h := dv_e h
      obtain ⟨hz22, h⟩ := h
      refine V_idiv rfl dX11_owes_80 hz22 ?_
      refine V_isub rfl dX11_owes_81 ?_
      replace h := lt_e h
      refine V_istore (L' := [_, _, _, _, _, _, _, _, _]) rfl dX11_owes_82 (by decide) rfl ?_
      refine V_iload rfl dX11_owes_84 rfl ?_
      refine V_iload_n rfl dX11_owes_86 rfl rfl ?_
      replace h := dv_e h
      obtain ⟨hz24, h⟩ := h
      refine V_irem rfl dX11_owes_87 hz24 ?_
      refine V_iload rfl dX11_owes_88 rfl ?_
      refine V_iload_n rfl dX11_owes_90 rfl rfl ?_
      replace h := dv_e h
      obtain ⟨hz25, h⟩ := h
      refine V_irem rfl dX11_owes_91 hz25 ?_
      refine V_icmp_gt (t := 112) rfl rfl dX11_owes_92 (fun hc26 => ?_) (fun hc26 => ?_)
      · replace h := ifp hc26 h
        replace h := lt_e h
        refine V_inc (L' := [_, _, _, _, _, _, _, _, _]) rfl dX11_owes_112 rfl kc_1 (by decide) rfl ?_
        replace h := lt_e h
        refine V_inc (L' := [_, _, _, _, _, _, _, _, _]) rfl dX11_owes_115 rfl kc_1 (by decide) rfl ?_
        refine V_goto (t := 55) rfl dX11_owes_118 ?_
        exact V_sub (le_s (le_s (le_s (le_s (le_s (le_s (le_s (le_s (le_n le_0))))))))) (hr55 _ _ _ _ _ _ _ _ h)
      · replace h := ifn hc26 h
        refine V_iload rfl dX11_owes_95 rfl ?_
        refine V_iload_n rfl dX11_owes_97 rfl rfl ?_
        replace h := dv_e h
        obtain ⟨hz29, h⟩ := h
        refine V_irem rfl dX11_owes_98 hz29 ?_
        refine V_iload rfl dX11_owes_99 rfl ?_
        refine V_iload_n rfl dX11_owes_101 rfl rfl ?_
        replace h := dv_e h
        obtain ⟨hz30, h⟩ := h
        refine V_irem rfl dX11_owes_102 hz30 ?_
        refine V_icmp_ne (t := 115) rfl rfl dX11_owes_103 (fun hc31 => ?_) (fun hc31 => ?_)
        · replace h := ifn hc31 h
          replace h := lt_e h
          refine V_inc (L' := [_, _, _, _, _, _, _, _, _]) rfl dX11_owes_115 rfl kc_1 (by decide) rfl ?_
          refine V_goto (t := 55) rfl dX11_owes_118 ?_
          exact V_sub (le_s (le_s (le_s (le_s (le_s (le_s (le_s (le_s (le_n le_0))))))))) (hr55 _ _ _ _ _ _ _ _ h)
        · replace h := ifp hc31 h
          refine V_iload rfl dX11_owes_106 rfl ?_
          refine V_iload_n rfl dX11_owes_108 rfl rfl ?_
          refine V_icmp_ge (t := 115) rfl rfl dX11_owes_109 (fun hc33 => ?_) (fun hc33 => ?_)
          · replace h := ifp hc33 h
            replace h := lt_e h
            refine V_inc (L' := [_, _, _, _, _, _, _, _, _]) rfl dX11_owes_115 rfl kc_1 (by decide) rfl ?_
            refine V_goto (t := 55) rfl dX11_owes_118 ?_
            exact V_sub (le_s (le_s (le_s (le_s (le_s (le_s (le_s (le_s (le_n le_0))))))))) (hr55 _ _ _ _ _ _ _ _ h)
          · replace h := ifn hc33 h
            replace h := lt_e h
            refine V_inc (L' := [_, _, _, _, _, _, _, _, _]) rfl dX11_owes_112 rfl kc_1 (by decide) rfl ?_
            replace h := lt_e h
            refine V_inc (L' := [_, _, _, _, _, _, _, _, _]) rfl dX11_owes_115 rfl kc_1 (by decide) rfl ?_
            refine V_goto (t := 55) rfl dX11_owes_118 ?_
            exact V_sub (le_s (le_s (le_s (le_s (le_s (le_s (le_s (le_s (le_n le_0))))))))) (hr55 _ _ _ _ _ _ _ _ h)
def f_X11_owes (p1 : Int32) (p2 : Int32) (M : IM) : IR := cl (f_X11_isParish p1 M) fun w1 M2 => if w1 = 0 then some ((-1), M2) else cl (f_X11_within p2 0 99999 M2) fun w5 M6 => if w5 = 0 then some ((-1), M6) else lt (M6 1 10) fun v9 => if 0 < v9 then cl (f_X4_walkersOf 1 p1 M6) fun w11 M12 => lt (p2 * w11) fun v14 => f_X11_owes_55 BG p1 p2 v9 v14 p2 0 0 M12 else some (0, M6)
set_option maxRecDepth 100000 in
set_option maxHeartbeats 4000000 in
theorem t_X11_owes {g : IG} {a : Nat → Nat} {R : Int32 × IM} {p1 : Int32} {p2 : Int32} {M : IM} (h : f_X11_owes p1 p2 M = some R) : Cn g mX11_owes 2 0 0 (qI S0 a R) [.ref (a 0), .int p1, .int p2] a S0 M := by
  refine Cn_of (L := [some (.ref (a 0)), some (.int p1), some (.int p2), none, none, none, none, none, none]) mf_X11_owes (cat_r (cat_i (cat_i cat_0))) (Nat.le_of_ble_eq_true rfl) rfl ?_
  unfold f_X11_owes at h
  refine V_iload_n rfl dX11_owes_0 rfl rfl ?_
  replace h := cl_e h
  obtain ⟨w1, M2, hc3, h⟩ := h
  refine V_si (As := [.int _]) rfl dX11_owes_1 mf_X11_isParish w_591 w_590 (by decide) rfl rfl rfl ⟨rfl, rfl⟩ (t_X11_isParish hc3) ?_
  refine V_if_eq (t := 18) rfl rfl dX11_owes_4 (fun hc4 => ?_) (fun hc4 => ?_)
  · replace h := ifp hc4 h
    refine V_iconst (v := (-1)) rfl dX11_owes_18 kc_m1 ?_
    cases h
    exact V_iret dX11_owes_19 rfl rfl (Nat.le_refl _) (Nat.le_refl _) qI_ok
  · replace h := ifn hc4 h
    refine V_iload_n rfl dX11_owes_7 rfl rfl ?_
    refine V_iconst (v := 0) rfl dX11_owes_8 kc_0 ?_
    refine V_ldcw (v := 99999) rfl dX11_owes_9 w_1173 ?_
    replace h := cl_e h
    obtain ⟨w5, M6, hc7, h⟩ := h
    refine V_si (As := [.int _, .int _, .int _]) rfl dX11_owes_12 mf_X11_within w_594 w_593 (by decide) rfl rfl rfl ⟨rfl, rfl⟩ (t_X11_within hc7) ?_
    refine V_if_ne (t := 20) rfl rfl dX11_owes_15 (fun hc8 => ?_) (fun hc8 => ?_)
    · replace h := ifn hc8 h
      refine V_aload_n rfl dX11_owes_20 rfl rfl ?_
      refine V_getr (k0 := 0) rfl dX11_owes_21 s0_0 icX11 (by decide) rfl w_523 ?_
      refine V_geti (k0 := 10) rfl dX11_owes_24 s0_1 icX4 (by decide) rfl w_201 ?_
      replace h := lt_e h
      refine V_istore_n (L' := [_, _, _, _, _, _, _, _, _]) rfl rfl dX11_owes_27 (by decide) rfl ?_
      refine V_iload_n rfl dX11_owes_28 rfl rfl ?_
      refine V_if_gt (t := 34) rfl rfl dX11_owes_29 (fun hc10 => ?_) (fun hc10 => ?_)
      · replace h := ifp hc10 h
        refine V_iload_n rfl dX11_owes_34 rfl rfl ?_
        refine V_aload_n rfl dX11_owes_35 rfl rfl ?_
        refine V_getr (k0 := 0) rfl dX11_owes_36 s0_0 icX11 (by decide) rfl w_523 ?_
        refine V_iload_n rfl dX11_owes_39 rfl rfl ?_
        replace h := cl_e h
        obtain ⟨w11, M12, hc13, h⟩ := h
        refine V_ii (As := [.int _]) rfl dX11_owes_40 mf_X4_walkersOf ⟨w_1175, w_1176⟩ w_1174 (by decide) s0_1 rfl rfl rfl rfl ⟨rfl, rfl⟩ (t_X4_walkersOf isNow_at1 hc13) ?_
        refine V_imul rfl dX11_owes_43 ?_
        replace h := lt_e h
        refine V_istore (L' := [_, _, _, _, _, _, _, _, _]) rfl dX11_owes_44 (by decide) rfl ?_
        refine V_iload_n rfl dX11_owes_46 rfl rfl ?_
        refine V_istore (L' := [_, _, _, _, _, _, _, _, _]) rfl dX11_owes_47 (by decide) rfl ?_
        refine V_iconst (v := 0) rfl dX11_owes_49 kc_0 ?_
        refine V_istore (L' := [_, _, _, _, _, _, _, _, _]) rfl dX11_owes_50 (by decide) rfl ?_
        refine V_iconst (v := 0) rfl dX11_owes_52 kc_0 ?_
        refine V_istore (L' := [_, _, _, _, _, _, _, _, _]) rfl dX11_owes_53 (by decide) rfl ?_
        exact V_sub (le_s (le_s (le_s (le_s (le_s (le_s (le_s (le_s (le_n le_0))))))))) (t_X11_owes_55 BG _ _ _ _ _ _ _ _ h)
      · replace h := ifn hc10 h
        refine V_iconst (v := 0) rfl dX11_owes_32 kc_0 ?_
        cases h
        exact V_iret dX11_owes_33 rfl rfl (Nat.le_refl _) (Nat.le_refl _) qI_ok
    · replace h := ifp hc8 h
      refine V_iconst (v := (-1)) rfl dX11_owes_18 kc_m1 ?_
      cases h
      exact V_iret dX11_owes_19 rfl rfl (Nat.le_refl _) (Nat.le_refl _) qI_ok
-- X11_asks: NeverHalted.asks(I)I
def f_X11_asks_21_b (r21 : Int32 → Int32 → Int32 → Int32 → IM → IR) (x1 : Int32) (x2 : Int32) (x3 : Int32) (x4 : Int32) (M : IM) : IR := if (M 1 10) ≤ x4 then some (x2, M) else cl (f_X8_clocksOf 25 x4 M) fun w6 M7 => if ((w6 >>> (x1 &&& 31)) &&& 1) = 0 then cl (f_X11_tireAt x4 x1 M7) fun w10 M11 => if x3 ≤ w10 then lt (x4 + 1) fun v14 => r21 x1 x2 x3 v14 M11 else lt (x4 + 1) fun v15 => r21 x1 x4 w10 v15 M11 else lt (x4 + 1) fun v16 => r21 x1 x2 x3 v16 M7
def f_X11_asks_21 (n : Nat) : Int32 → Int32 → Int32 → Int32 → IM → IR := itr (fun _ _ _ _ _ => none) (f_X11_asks_21_b) n
set_option maxRecDepth 100000 in
set_option maxHeartbeats 4000000 in
theorem t_X11_asks_21 {g : IG} {a : Nat → Nat} {R : Int32 × IM} (n : Nat) : ∀ (x1 : Int32) (x2 : Int32) (x3 : Int32) (x4 : Int32) (M : IM), f_X11_asks_21 n x1 x2 x3 x4 M = some R → V g mX11_asks 7 0 0 (qI S0 a R) 21 [some (.ref (a 0)), some (.int x1), some (.int x2), some (.int x3), some (.int x4), none] [] a S0 M 0 0 := by
  induction n with
  | zero => intro x1 x2 x3 x4 M h; exact absurd h (fun z => by cases z)
  | succ n hr21 =>
    intro x1 x2 x3 x4 M h
    replace h : f_X11_asks_21_b (f_X11_asks_21 n) x1 x2 x3 x4 M = some R := h
    unfold f_X11_asks_21_b at h
    refine V_iload rfl dX11_asks_21 rfl ?_
    refine V_aload_n rfl dX11_asks_23 rfl rfl ?_
    refine V_getr (k0 := 0) rfl dX11_asks_24 s0_0 icX11 (by decide) rfl w_523 ?_
    refine V_geti (k0 := 10) rfl dX11_asks_27 s0_1 icX4 (by decide) rfl w_201 ?_
    refine V_icmp_ge (t := 82) rfl rfl dX11_asks_30 (fun hc5 => ?_) (fun hc5 => ?_)
    · replace h := ifp hc5 h
      refine V_iload_n rfl dX11_asks_82 rfl rfl ?_
      cases h
      exact V_iret dX11_asks_83 rfl rfl (Nat.le_refl _) (Nat.le_refl _) qI_ok
    · replace h := ifn hc5 h
      refine V_aload_n rfl dX11_asks_33 rfl rfl ?_
      refine V_getr (k0 := 1) rfl dX11_asks_34 s0_0 icX11 (by decide) rfl w_524 ?_
      refine V_getr (k0 := 7) rfl dX11_asks_37 s0_6 icX9 (by decide) rfl w_357 ?_
      refine V_iload rfl dX11_asks_40 rfl ?_
      replace h := cl_e h
      obtain ⟨w6, M7, hc8, h⟩ := h
      refine V_ii (As := [.int _]) rfl dX11_asks_42 mf_X8_clocksOf ⟨w_848, w_849⟩ w_847 (by decide) s0_25 rfl rfl rfl rfl ⟨rfl, rfl⟩ (t_X8_clocksOf isShifts_at25 hc8) ?_
      refine V_iload_n rfl dX11_asks_45 rfl rfl ?_
      refine V_ishr rfl dX11_asks_46 ?_
      refine V_iconst (v := 1) rfl dX11_asks_47 kc_1 ?_
      refine V_iand rfl dX11_asks_48 ?_
      refine V_if_eq (t := 55) rfl rfl dX11_asks_49 (fun hc9 => ?_) (fun hc9 => ?_)
      · replace h := ifp hc9 h
        refine V_aload_n rfl dX11_asks_55 rfl rfl ?_
        refine V_iload rfl dX11_asks_56 rfl ?_
        refine V_iload_n rfl dX11_asks_58 rfl rfl ?_
        replace h := cl_e h
        obtain ⟨w10, M11, hc12, h⟩ := h
        refine V_ii (As := [.int _, .int _]) rfl dX11_asks_59 mf_X11_tireAt ⟨w_1047, w_30⟩ w_1045 (by decide) s0_0 rfl rfl rfl rfl ⟨rfl, rfl⟩ (t_X11_tireAt hc12) ?_
        refine V_istore (L' := [_, _, _, _, _, _]) rfl dX11_asks_62 (by decide) rfl ?_
        refine V_iload rfl dX11_asks_64 rfl ?_
        refine V_iload_n rfl dX11_asks_66 rfl rfl ?_
        refine V_icmp_ge (t := 76) rfl rfl dX11_asks_67 (fun hc13 => ?_) (fun hc13 => ?_)
        · replace h := ifp hc13 h
          replace h := lt_e h
          refine V_inc (L' := [_, _, _, _, _, _]) rfl dX11_asks_76 rfl kc_1 (by decide) rfl ?_
          refine V_goto (t := 21) rfl dX11_asks_79 ?_
          exact V_sub (le_s (le_s (le_s (le_s (le_s (le_n le_0)))))) (hr21 _ _ _ _ _ h)
        · replace h := ifn hc13 h
          refine V_iload rfl dX11_asks_70 rfl ?_
          refine V_istore_n (L' := [_, _, _, _, _, _]) rfl rfl dX11_asks_72 (by decide) rfl ?_
          refine V_iload rfl dX11_asks_73 rfl ?_
          refine V_istore_n (L' := [_, _, _, _, _, _]) rfl rfl dX11_asks_75 (by decide) rfl ?_
          replace h := lt_e h
          refine V_inc (L' := [_, _, _, _, _, _]) rfl dX11_asks_76 rfl kc_1 (by decide) rfl ?_
          refine V_goto (t := 21) rfl dX11_asks_79 ?_
          exact V_sub (le_s (le_s (le_s (le_s (le_s (le_n le_0)))))) (hr21 _ _ _ _ _ h)
      · replace h := ifn hc9 h
        refine V_goto (t := 76) rfl dX11_asks_52 ?_
        replace h := lt_e h
        refine V_inc (L' := [_, _, _, _, _, _]) rfl dX11_asks_76 rfl kc_1 (by decide) rfl ?_
        refine V_goto (t := 21) rfl dX11_asks_79 ?_
        exact V_sub (le_s (le_s (le_s (le_s (le_s (le_n le_0)))))) (hr21 _ _ _ _ _ h)
def f_X11_asks (p1 : Int32) (M : IM) : IR := cl (f_X11_within p1 0 23 M) fun w1 M2 => if w1 = 0 then some ((-1), M2) else f_X11_asks_21 BG p1 (-1) 1000000 0 M2
set_option maxRecDepth 100000 in
set_option maxHeartbeats 4000000 in
theorem t_X11_asks {g : IG} {a : Nat → Nat} {R : Int32 × IM} {p1 : Int32} {M : IM} (h : f_X11_asks p1 M = some R) : Cn g mX11_asks 7 0 0 (qI S0 a R) [.ref (a 0), .int p1] a S0 M := by
  refine Cn_of (L := [some (.ref (a 0)), some (.int p1), none, none, none, none]) mf_X11_asks (cat_r (cat_i cat_0)) (Nat.le_of_ble_eq_true rfl) rfl ?_
  unfold f_X11_asks at h
  refine V_iload_n rfl dX11_asks_0 rfl rfl ?_
  refine V_iconst (v := 0) rfl dX11_asks_1 kc_0 ?_
  refine V_bipush (v := 23) rfl dX11_asks_2 kb_23 ?_
  replace h := cl_e h
  obtain ⟨w1, M2, hc3, h⟩ := h
  refine V_si (As := [.int _, .int _, .int _]) rfl dX11_asks_4 mf_X11_within w_594 w_593 (by decide) rfl rfl rfl ⟨rfl, rfl⟩ (t_X11_within hc3) ?_
  refine V_if_ne (t := 12) rfl rfl dX11_asks_7 (fun hc4 => ?_) (fun hc4 => ?_)
  · replace h := ifn hc4 h
    refine V_iconst (v := (-1)) rfl dX11_asks_12 kc_m1 ?_
    refine V_istore_n (L' := [_, _, _, _, _, _]) rfl rfl dX11_asks_13 (by decide) rfl ?_
    refine V_ldcw (v := 1000000) rfl dX11_asks_14 w_1106 ?_
    refine V_istore_n (L' := [_, _, _, _, _, _]) rfl rfl dX11_asks_17 (by decide) rfl ?_
    refine V_iconst (v := 0) rfl dX11_asks_18 kc_0 ?_
    refine V_istore (L' := [_, _, _, _, _, _]) rfl dX11_asks_19 (by decide) rfl ?_
    exact V_sub (le_s (le_s (le_s (le_s (le_s (le_n le_0)))))) (t_X11_asks_21 BG _ _ _ _ _ h)
  · replace h := ifp hc4 h
    refine V_iconst (v := (-1)) rfl dX11_asks_10 kc_m1 ?_
    cases h
    exact V_iret dX11_asks_11 rfl rfl (Nat.le_refl _) (Nat.le_refl _) qI_ok
-- X12_isIn: NeverHaltedModel.isIn(III)Z
def f_X12_isIn (p1 : Int32) (p2 : Int32) (p3 : Int32) (M : IM) : IR := if p1 < p2 then some (0, M) else if p3 < p1 then some (0, M) else some (1, M)
set_option maxRecDepth 100000 in
set_option maxHeartbeats 4000000 in
theorem t_X12_isIn {g : IG} {a : Nat → Nat} {R : Int32 × IM} {p1 : Int32} {p2 : Int32} {p3 : Int32} {M : IM} (h : f_X12_isIn p1 p2 p3 M = some R) : Cn g mX12_isIn 1 0 0 (qI S0 a R) [.ref (a 136), .int p1, .int p2, .int p3] a S0 M := by
  refine Cn_of (L := [some (.ref (a 136)), some (.int p1), some (.int p2), some (.int p3)]) mf_X12_isIn (cat_r (cat_i (cat_i (cat_i cat_0)))) (Nat.le_of_ble_eq_true rfl) rfl ?_
  unfold f_X12_isIn at h
  refine V_iload_n rfl dX12_isIn_0 rfl rfl ?_
  refine V_iload_n rfl dX12_isIn_1 rfl rfl ?_
  refine V_icmp_lt (t := 14) rfl rfl dX12_isIn_2 (fun hc1 => ?_) (fun hc1 => ?_)
  · replace h := ifp hc1 h
    refine V_iconst (v := 0) rfl dX12_isIn_14 kc_0 ?_
    cases h
    exact V_iret dX12_isIn_15 rfl nz_0 (Nat.le_refl _) (Nat.le_refl _) qI_ok
  · replace h := ifn hc1 h
    refine V_iload_n rfl dX12_isIn_5 rfl rfl ?_
    refine V_iload_n rfl dX12_isIn_6 rfl rfl ?_
    refine V_icmp_gt (t := 14) rfl rfl dX12_isIn_7 (fun hc2 => ?_) (fun hc2 => ?_)
    · replace h := ifp hc2 h
      refine V_iconst (v := 0) rfl dX12_isIn_14 kc_0 ?_
      cases h
      exact V_iret dX12_isIn_15 rfl nz_0 (Nat.le_refl _) (Nat.le_refl _) qI_ok
    · replace h := ifn hc2 h
      refine V_iconst (v := 1) rfl dX12_isIn_10 kc_1 ?_
      refine V_goto (t := 15) rfl dX12_isIn_11 ?_
      cases h
      exact V_iret dX12_isIn_15 rfl nz_1 (Nat.le_refl _) (Nat.le_refl _) qI_ok
-- X12_held: NeverHaltedModel.held(III)I
def f_X12_held (p1 : Int32) (p2 : Int32) (p3 : Int32) (M : IM) : IR := if p2 ≤ p1 then if p1 ≤ p3 then some (p1, M) else some (p3, M) else some (p2, M)
set_option maxRecDepth 100000 in
set_option maxHeartbeats 4000000 in
theorem t_X12_held {g : IG} {a : Nat → Nat} {R : Int32 × IM} {p1 : Int32} {p2 : Int32} {p3 : Int32} {M : IM} (h : f_X12_held p1 p2 p3 M = some R) : Cn g mX12_held 1 0 0 (qI S0 a R) [.ref (a 136), .int p1, .int p2, .int p3] a S0 M := by
  refine Cn_of (L := [some (.ref (a 136)), some (.int p1), some (.int p2), some (.int p3)]) mf_X12_held (cat_r (cat_i (cat_i (cat_i cat_0)))) (Nat.le_of_ble_eq_true rfl) rfl ?_
  unfold f_X12_held at h
  refine V_iload_n rfl dX12_held_0 rfl rfl ?_
  refine V_iload_n rfl dX12_held_1 rfl rfl ?_
  refine V_icmp_ge (t := 9) rfl rfl dX12_held_2 (fun hc1 => ?_) (fun hc1 => ?_)
  · replace h := ifp hc1 h
    refine V_iload_n rfl dX12_held_9 rfl rfl ?_
    refine V_iload_n rfl dX12_held_10 rfl rfl ?_
    refine V_icmp_le (t := 18) rfl rfl dX12_held_11 (fun hc2 => ?_) (fun hc2 => ?_)
    · replace h := ifp hc2 h
      refine V_iload_n rfl dX12_held_18 rfl rfl ?_
      cases h
      exact V_iret dX12_held_19 rfl rfl (Nat.le_refl _) (Nat.le_refl _) qI_ok
    · replace h := ifn hc2 h
      refine V_iload_n rfl dX12_held_14 rfl rfl ?_
      refine V_goto (t := 19) rfl dX12_held_15 ?_
      cases h
      exact V_iret dX12_held_19 rfl rfl (Nat.le_refl _) (Nat.le_refl _) qI_ok
  · replace h := ifn hc1 h
    refine V_iload_n rfl dX12_held_5 rfl rfl ?_
    refine V_goto (t := 19) rfl dX12_held_6 ?_
    cases h
    exact V_iret dX12_held_19 rfl rfl (Nat.le_refl _) (Nat.le_refl _) qI_ok
-- X12_greater: NeverHaltedModel.greater(II)I
def f_X12_greater (p1 : Int32) (p2 : Int32) (M : IM) : IR := if p1 ≤ p2 then some (p2, M) else some (p1, M)
set_option maxRecDepth 100000 in
set_option maxHeartbeats 4000000 in
theorem t_X12_greater {g : IG} {a : Nat → Nat} {R : Int32 × IM} {p1 : Int32} {p2 : Int32} {M : IM} (h : f_X12_greater p1 p2 M = some R) : Cn g mX12_greater 1 0 0 (qI S0 a R) [.ref (a 136), .int p1, .int p2] a S0 M := by
  refine Cn_of (L := [some (.ref (a 136)), some (.int p1), some (.int p2)]) mf_X12_greater (cat_r (cat_i (cat_i cat_0))) (Nat.le_of_ble_eq_true rfl) rfl ?_
  unfold f_X12_greater at h
  refine V_iload_n rfl dX12_greater_0 rfl rfl ?_
  refine V_iload_n rfl dX12_greater_1 rfl rfl ?_
  refine V_icmp_le (t := 9) rfl rfl dX12_greater_2 (fun hc1 => ?_) (fun hc1 => ?_)
  · replace h := ifp hc1 h
    refine V_iload_n rfl dX12_greater_9 rfl rfl ?_
    cases h
    exact V_iret dX12_greater_10 rfl rfl (Nat.le_refl _) (Nat.le_refl _) qI_ok
  · replace h := ifn hc1 h
    refine V_iload_n rfl dX12_greater_5 rfl rfl ?_
    refine V_goto (t := 10) rfl dX12_greater_6 ?_
    cases h
    exact V_iret dX12_greater_10 rfl rfl (Nat.le_refl _) (Nat.le_refl _) qI_ok
-- X12_lesser: NeverHaltedModel.lesser(II)I
def f_X12_lesser (p1 : Int32) (p2 : Int32) (M : IM) : IR := if p2 ≤ p1 then some (p2, M) else some (p1, M)
set_option maxRecDepth 100000 in
set_option maxHeartbeats 4000000 in
theorem t_X12_lesser {g : IG} {a : Nat → Nat} {R : Int32 × IM} {p1 : Int32} {p2 : Int32} {M : IM} (h : f_X12_lesser p1 p2 M = some R) : Cn g mX12_lesser 1 0 0 (qI S0 a R) [.ref (a 136), .int p1, .int p2] a S0 M := by
  refine Cn_of (L := [some (.ref (a 136)), some (.int p1), some (.int p2)]) mf_X12_lesser (cat_r (cat_i (cat_i cat_0))) (Nat.le_of_ble_eq_true rfl) rfl ?_
  unfold f_X12_lesser at h
  refine V_iload_n rfl dX12_lesser_0 rfl rfl ?_
  refine V_iload_n rfl dX12_lesser_1 rfl rfl ?_
  refine V_icmp_ge (t := 9) rfl rfl dX12_lesser_2 (fun hc1 => ?_) (fun hc1 => ?_)
  · replace h := ifp hc1 h
    refine V_iload_n rfl dX12_lesser_9 rfl rfl ?_
    cases h
    exact V_iret dX12_lesser_10 rfl rfl (Nat.le_refl _) (Nat.le_refl _) qI_ok
  · replace h := ifn hc1 h
    refine V_iload_n rfl dX12_lesser_5 rfl rfl ?_
    refine V_goto (t := 10) rfl dX12_lesser_6 ?_
    cases h
    exact V_iret dX12_lesser_10 rfl rfl (Nat.le_refl _) (Nat.le_refl _) qI_ok
-- X12_onesOf: NeverHaltedModel.onesOf(I)I
def f_X12_onesOf_4_b (r4 : Int32 → Int32 → IM → IR) (x2 : Int32) (x3 : Int32) (M : IM) : IR := if x3 = 0 then some (x2, M) else lt (x2 + 1) fun v2 => lt (x3 &&& (x3 - 1)) fun v3 => r4 v2 v3 M
def f_X12_onesOf_4 (n : Nat) : Int32 → Int32 → IM → IR := itr (fun _ _ _ => none) (f_X12_onesOf_4_b) n
set_option maxRecDepth 100000 in
set_option maxHeartbeats 4000000 in
theorem t_X12_onesOf_4 {g : IG} {a : Nat → Nat} {R : Int32 × IM} (n : Nat) : ∀ (x2 : Int32) (x3 : Int32) (M : IM), f_X12_onesOf_4 n x2 x3 M = some R → V g mX12_onesOf 1 0 0 (qI S0 a R) 4 [none, none, some (.int x2), some (.int x3)] [] a S0 M 0 0 := by
  induction n with
  | zero => intro x2 x3 M h; exact absurd h (fun z => by cases z)
  | succ n hr4 =>
    intro x2 x3 M h
    replace h : f_X12_onesOf_4_b (f_X12_onesOf_4 n) x2 x3 M = some R := h
    unfold f_X12_onesOf_4_b at h
    refine V_iload_n rfl dX12_onesOf_4 rfl rfl ?_
    refine V_if_eq (t := 21) rfl rfl dX12_onesOf_5 (fun hc1 => ?_) (fun hc1 => ?_)
    · replace h := ifp hc1 h
      refine V_iload_n rfl dX12_onesOf_21 rfl rfl ?_
      cases h
      exact V_iret dX12_onesOf_22 rfl rfl (Nat.le_refl _) (Nat.le_refl _) qI_ok
    · replace h := ifn hc1 h
      refine V_iload_n rfl dX12_onesOf_8 rfl rfl ?_
      refine V_iconst (v := 1) rfl dX12_onesOf_9 kc_1 ?_
      refine V_iadd rfl dX12_onesOf_10 ?_
      replace h := lt_e h
      refine V_istore_n (L' := [_, _, _, _]) rfl rfl dX12_onesOf_11 (by decide) rfl ?_
      refine V_iload_n rfl dX12_onesOf_12 rfl rfl ?_
      refine V_iload_n rfl dX12_onesOf_13 rfl rfl ?_
      refine V_iconst (v := 1) rfl dX12_onesOf_14 kc_1 ?_
      refine V_isub rfl dX12_onesOf_15 ?_
      refine V_iand rfl dX12_onesOf_16 ?_
      replace h := lt_e h
      refine V_istore_n (L' := [_, _, _, _]) rfl rfl dX12_onesOf_17 (by decide) rfl ?_
      refine V_goto (t := 4) rfl dX12_onesOf_18 ?_
      exact V_sub (le_n (le_n (le_s (le_s le_0)))) (hr4 _ _ _ h)
def f_X12_onesOf (p1 : Int32) (M : IM) : IR := f_X12_onesOf_4 BG 0 p1 M
set_option maxRecDepth 100000 in
set_option maxHeartbeats 4000000 in
theorem t_X12_onesOf {g : IG} {a : Nat → Nat} {R : Int32 × IM} {p1 : Int32} {M : IM} (h : f_X12_onesOf p1 M = some R) : Cn g mX12_onesOf 1 0 0 (qI S0 a R) [.ref (a 136), .int p1] a S0 M := by
  refine Cn_of (L := [some (.ref (a 136)), some (.int p1), none, none]) mf_X12_onesOf (cat_r (cat_i cat_0)) (Nat.le_of_ble_eq_true rfl) rfl ?_
  unfold f_X12_onesOf at h
  refine V_iconst (v := 0) rfl dX12_onesOf_0 kc_0 ?_
  refine V_istore_n (L' := [_, _, _, _]) rfl rfl dX12_onesOf_1 (by decide) rfl ?_
  refine V_iload_n rfl dX12_onesOf_2 rfl rfl ?_
  refine V_istore_n (L' := [_, _, _, _]) rfl rfl dX12_onesOf_3 (by decide) rfl ?_
  exact V_sub (le_n (le_n (le_s (le_s le_0)))) (t_X12_onesOf_4 BG _ _ _ h)
-- X12_keepsAhead: NeverHaltedModel.keepsAhead()V
def f_X12_keepsAhead_55_b (r55 : Int32 → IM → IR) (x1 : Int32) (M : IM) : IR := if 40 ≤ x1 then pt M 136 3 ((M 136 3) + 1) fun M4 => some (0, M4) else rd M 137 40 x1 fun v5 => wr M 138 240 ((40 * (M 136 3)) + x1) v5 fun M7 => lt (x1 + 1) fun v9 => r55 v9 M7
def f_X12_keepsAhead_55 (n : Nat) : Int32 → IM → IR := itr (fun _ _ => none) (f_X12_keepsAhead_55_b) n
set_option maxRecDepth 100000 in
set_option maxHeartbeats 4000000 in
theorem t_X12_keepsAhead_55 {g : IG} {a : Nat → Nat} {R : Int32 × IM} (n : Nat) : ∀ (x1 : Int32) (M : IM), f_X12_keepsAhead_55 n x1 M = some R → V g mX12_keepsAhead 1 0 0 (qV S0 a R) 55 [some (.ref (a 136)), some (.int x1)] [] a S0 M 0 0 := by
  induction n with
  | zero => intro x1 M h; exact absurd h (fun z => by cases z)
  | succ n hr55 =>
    intro x1 M h
    replace h : f_X12_keepsAhead_55_b (f_X12_keepsAhead_55 n) x1 M = some R := h
    unfold f_X12_keepsAhead_55_b at h
    refine V_iload_n rfl dX12_keepsAhead_55 rfl rfl ?_
    refine V_bipush (v := 40) rfl dX12_keepsAhead_56 kb_40 ?_
    refine V_icmp_ge (t := 87) rfl rfl dX12_keepsAhead_58 (fun hc3 => ?_) (fun hc3 => ?_)
    · replace h := ifp hc3 h
      refine V_aload_n rfl dX12_keepsAhead_87 rfl rfl ?_
      refine V_aload_n rfl dX12_keepsAhead_88 rfl rfl ?_
      refine V_geti (k0 := 3) rfl dX12_keepsAhead_89 s0_136 icX12 (by decide) rfl w_1192 ?_
      refine V_iconst (v := 1) rfl dX12_keepsAhead_92 kc_1 ?_
      refine V_iadd rfl dX12_keepsAhead_93 ?_
      replace h := pt_e h
      refine V_putf (k0 := 3) (ty := .int) rfl dX12_keepsAhead_94 s0_136 icX12 tyX12_ok nmX12 (by decide) rfl w_1192 rfl (tyX12_ok _ (by decide)) rfl rfl ?_
      cases h
      exact V_vret dX12_keepsAhead_97 rfl (Nat.le_refl _) (Nat.le_refl _) qV_ok
    · replace h := ifn hc3 h
      refine V_aload_n rfl dX12_keepsAhead_61 rfl rfl ?_
      refine V_getr (k0 := 2) rfl dX12_keepsAhead_62 s0_136 icX12 (by decide) rfl w_1191 ?_
      refine V_bipush (v := 40) rfl dX12_keepsAhead_65 kb_40 ?_
      refine V_aload_n rfl dX12_keepsAhead_67 rfl rfl ?_
      refine V_geti (k0 := 3) rfl dX12_keepsAhead_68 s0_136 icX12 (by decide) rfl w_1192 ?_
      refine V_imul rfl dX12_keepsAhead_71 ?_
      refine V_iload_n rfl dX12_keepsAhead_72 rfl rfl ?_
      refine V_iadd rfl dX12_keepsAhead_73 ?_
      refine V_aload_n rfl dX12_keepsAhead_74 rfl rfl ?_
      refine V_getr (k0 := 1) rfl dX12_keepsAhead_75 s0_136 icX12 (by decide) rfl w_1190 ?_
      refine V_iload_n rfl dX12_keepsAhead_78 rfl rfl ?_
      replace h := rd_e h
      obtain ⟨hb6, h⟩ := h
      refine V_iald rfl dX12_keepsAhead_79 s0_137 hb6 ?_
      replace h := wr_e h
      obtain ⟨hb8, h⟩ := h
      refine V_iast rfl dX12_keepsAhead_80 s0_138 hb8 ?_
      replace h := lt_e h
      refine V_inc (L' := [_, _]) rfl dX12_keepsAhead_81 rfl kc_1 (by decide) rfl ?_
      refine V_goto (t := 55) rfl dX12_keepsAhead_84 ?_
      exact V_sub (le_s (le_s le_0)) (hr55 _ _ h)
def f_X12_keepsAhead_21_b (r21 : Int32 → IM → IR) (x1 : Int32) (M : IM) : IR := if (40 * (M 136 3)) ≤ x1 then f_X12_keepsAhead_55 BG 0 M else rd M 138 240 (x1 + 40) fun v11 => wr M 138 240 x1 v11 fun M13 => lt (x1 + 1) fun v15 => r21 v15 M13
def f_X12_keepsAhead_21 (n : Nat) : Int32 → IM → IR := itr (fun _ _ => none) (f_X12_keepsAhead_21_b) n
set_option maxRecDepth 100000 in
set_option maxHeartbeats 4000000 in
theorem t_X12_keepsAhead_21 {g : IG} {a : Nat → Nat} {R : Int32 × IM} (n : Nat) : ∀ (x1 : Int32) (M : IM), f_X12_keepsAhead_21 n x1 M = some R → V g mX12_keepsAhead 1 0 0 (qV S0 a R) 21 [some (.ref (a 136)), some (.int x1)] [] a S0 M 0 0 := by
  induction n with
  | zero => intro x1 M h; exact absurd h (fun z => by cases z)
  | succ n hr21 =>
    intro x1 M h
    replace h : f_X12_keepsAhead_21_b (f_X12_keepsAhead_21 n) x1 M = some R := h
    unfold f_X12_keepsAhead_21_b at h
    refine V_iload_n rfl dX12_keepsAhead_21 rfl rfl ?_
    refine V_bipush (v := 40) rfl dX12_keepsAhead_22 kb_40 ?_
    refine V_aload_n rfl dX12_keepsAhead_24 rfl rfl ?_
    refine V_geti (k0 := 3) rfl dX12_keepsAhead_25 s0_136 icX12 (by decide) rfl w_1192 ?_
    refine V_imul rfl dX12_keepsAhead_28 ?_
    refine V_icmp_ge (t := 53) rfl rfl dX12_keepsAhead_29 (fun hc10 => ?_) (fun hc10 => ?_)
    · replace h := ifp hc10 h
      refine V_iconst (v := 0) rfl dX12_keepsAhead_53 kc_0 ?_
      refine V_istore_n (L' := [_, _]) rfl rfl dX12_keepsAhead_54 (by decide) rfl ?_
      exact V_sub (le_s (le_s le_0)) (t_X12_keepsAhead_55 BG _ _ h)
    · replace h := ifn hc10 h
      refine V_aload_n rfl dX12_keepsAhead_32 rfl rfl ?_
      refine V_getr (k0 := 2) rfl dX12_keepsAhead_33 s0_136 icX12 (by decide) rfl w_1191 ?_
      refine V_iload_n rfl dX12_keepsAhead_36 rfl rfl ?_
      refine V_aload_n rfl dX12_keepsAhead_37 rfl rfl ?_
      refine V_getr (k0 := 2) rfl dX12_keepsAhead_38 s0_136 icX12 (by decide) rfl w_1191 ?_
      refine V_iload_n rfl dX12_keepsAhead_41 rfl rfl ?_
      refine V_bipush (v := 40) rfl dX12_keepsAhead_42 kb_40 ?_
      refine V_iadd rfl dX12_keepsAhead_44 ?_
      replace h := rd_e h
      obtain ⟨hb12, h⟩ := h
      refine V_iald rfl dX12_keepsAhead_45 s0_138 hb12 ?_
      replace h := wr_e h
      obtain ⟨hb14, h⟩ := h
      refine V_iast rfl dX12_keepsAhead_46 s0_138 hb14 ?_
      replace h := lt_e h
      refine V_inc (L' := [_, _]) rfl dX12_keepsAhead_47 rfl kc_1 (by decide) rfl ?_
      refine V_goto (t := 21) rfl dX12_keepsAhead_50 ?_
      exact V_sub (le_s (le_s le_0)) (hr21 _ _ h)
def f_X12_keepsAhead (M : IM) : IR := if (M 136 3) = 6 then pt M 136 3 ((M 136 3) - 1) fun M2 => f_X12_keepsAhead_21 BG 0 M2 else f_X12_keepsAhead_55 BG 0 M
set_option maxRecDepth 100000 in
set_option maxHeartbeats 4000000 in
theorem t_X12_keepsAhead {g : IG} {a : Nat → Nat} {R : Int32 × IM} {M : IM} (h : f_X12_keepsAhead M = some R) : Cn g mX12_keepsAhead 1 0 0 (qV S0 a R) [.ref (a 136)] a S0 M := by
  refine Cn_of (L := [some (.ref (a 136)), none]) mf_X12_keepsAhead (cat_r cat_0) (Nat.le_of_ble_eq_true rfl) rfl ?_
  unfold f_X12_keepsAhead at h
  refine V_aload_n rfl dX12_keepsAhead_0 rfl rfl ?_
  refine V_geti (k0 := 3) rfl dX12_keepsAhead_1 s0_136 icX12 (by decide) rfl w_1192 ?_
  refine V_bipush (v := 6) rfl dX12_keepsAhead_4 kb_6 ?_
  refine V_icmp_ne (t := 53) rfl rfl dX12_keepsAhead_6 (fun hc1 => ?_) (fun hc1 => ?_)
  · replace h := ifn hc1 h
    refine V_iconst (v := 0) rfl dX12_keepsAhead_53 kc_0 ?_
    refine V_istore_n (L' := [_, _]) rfl rfl dX12_keepsAhead_54 (by decide) rfl ?_
    exact V_sub (le_s (le_s le_0)) (t_X12_keepsAhead_55 BG _ _ h)
  · replace h := ifp hc1 h
    refine V_aload_n rfl dX12_keepsAhead_9 rfl rfl ?_
    refine V_aload_n rfl dX12_keepsAhead_10 rfl rfl ?_
    refine V_geti (k0 := 3) rfl dX12_keepsAhead_11 s0_136 icX12 (by decide) rfl w_1192 ?_
    refine V_iconst (v := 1) rfl dX12_keepsAhead_14 kc_1 ?_
    refine V_isub rfl dX12_keepsAhead_15 ?_
    replace h := pt_e h
    refine V_putf (k0 := 3) (ty := .int) rfl dX12_keepsAhead_16 s0_136 icX12 tyX12_ok nmX12 (by decide) rfl w_1192 rfl (tyX12_ok _ (by decide)) rfl rfl ?_
    refine V_iconst (v := 0) rfl dX12_keepsAhead_19 kc_0 ?_
    refine V_istore_n (L' := [_, _]) rfl rfl dX12_keepsAhead_20 (by decide) rfl ?_
    exact V_sub (le_s (le_s le_0)) (t_X12_keepsAhead_21 BG _ _ h)
-- X12_undo: NeverHaltedModel.undo()Z
def f_X12_undo_26_b (r26 : Int32 → IM → IR) (x1 : Int32) (M : IM) : IR := if 40 ≤ x1 then some (1, M) else rd M 138 240 ((40 * (M 136 3)) + x1) fun v5 => wr M 137 40 x1 v5 fun M7 => lt (x1 + 1) fun v9 => r26 v9 M7
def f_X12_undo_26 (n : Nat) : Int32 → IM → IR := itr (fun _ _ => none) (f_X12_undo_26_b) n
set_option maxRecDepth 100000 in
set_option maxHeartbeats 4000000 in
theorem t_X12_undo_26 {g : IG} {a : Nat → Nat} {R : Int32 × IM} (n : Nat) : ∀ (x1 : Int32) (M : IM), f_X12_undo_26 n x1 M = some R → V g mX12_undo 1 0 0 (qI S0 a R) 26 [some (.ref (a 136)), some (.int x1)] [] a S0 M 0 0 := by
  induction n with
  | zero => intro x1 M h; exact absurd h (fun z => by cases z)
  | succ n hr26 =>
    intro x1 M h
    replace h : f_X12_undo_26_b (f_X12_undo_26 n) x1 M = some R := h
    unfold f_X12_undo_26_b at h
    refine V_iload_n rfl dX12_undo_26 rfl rfl ?_
    refine V_bipush (v := 40) rfl dX12_undo_27 kb_40 ?_
    refine V_icmp_ge (t := 58) rfl rfl dX12_undo_29 (fun hc4 => ?_) (fun hc4 => ?_)
    · replace h := ifp hc4 h
      refine V_iconst (v := 1) rfl dX12_undo_58 kc_1 ?_
      cases h
      exact V_iret dX12_undo_59 rfl nz_1 (Nat.le_refl _) (Nat.le_refl _) qI_ok
    · replace h := ifn hc4 h
      refine V_aload_n rfl dX12_undo_32 rfl rfl ?_
      refine V_getr (k0 := 1) rfl dX12_undo_33 s0_136 icX12 (by decide) rfl w_1190 ?_
      refine V_iload_n rfl dX12_undo_36 rfl rfl ?_
      refine V_aload_n rfl dX12_undo_37 rfl rfl ?_
      refine V_getr (k0 := 2) rfl dX12_undo_38 s0_136 icX12 (by decide) rfl w_1191 ?_
      refine V_bipush (v := 40) rfl dX12_undo_41 kb_40 ?_
      refine V_aload_n rfl dX12_undo_43 rfl rfl ?_
      refine V_geti (k0 := 3) rfl dX12_undo_44 s0_136 icX12 (by decide) rfl w_1192 ?_
      refine V_imul rfl dX12_undo_47 ?_
      refine V_iload_n rfl dX12_undo_48 rfl rfl ?_
      refine V_iadd rfl dX12_undo_49 ?_
      replace h := rd_e h
      obtain ⟨hb6, h⟩ := h
      refine V_iald rfl dX12_undo_50 s0_138 hb6 ?_
      replace h := wr_e h
      obtain ⟨hb8, h⟩ := h
      refine V_iast rfl dX12_undo_51 s0_137 hb8 ?_
      replace h := lt_e h
      refine V_inc (L' := [_, _]) rfl dX12_undo_52 rfl kc_1 (by decide) rfl ?_
      refine V_goto (t := 26) rfl dX12_undo_55 ?_
      exact V_sub (le_s (le_s le_0)) (hr26 _ _ h)
def f_X12_undo (M : IM) : IR := pt M 136 0 0 fun M1 => if (M1 136 3) = 0 then some (0, M1) else pt M1 136 3 ((M1 136 3) - 1) fun M3 => f_X12_undo_26 BG 0 M3
set_option maxRecDepth 100000 in
set_option maxHeartbeats 4000000 in
theorem t_X12_undo {g : IG} {a : Nat → Nat} {R : Int32 × IM} {M : IM} (h : f_X12_undo M = some R) : Cn g mX12_undo 1 0 0 (qI S0 a R) [.ref (a 136)] a S0 M := by
  refine Cn_of (L := [some (.ref (a 136)), none]) mf_X12_undo (cat_r cat_0) (Nat.le_of_ble_eq_true rfl) rfl ?_
  unfold f_X12_undo at h
  refine V_aload_n rfl dX12_undo_0 rfl rfl ?_
  refine V_iconst (v := 0) rfl dX12_undo_1 kc_0 ?_
  replace h := pt_e h
  refine V_putf (k0 := 0) (ty := .int) rfl dX12_undo_2 s0_136 icX12 tyX12_ok nmX12 (by decide) rfl w_1189 rfl (tyX12_ok _ (by decide)) rfl rfl ?_
  refine V_aload_n rfl dX12_undo_5 rfl rfl ?_
  refine V_geti (k0 := 3) rfl dX12_undo_6 s0_136 icX12 (by decide) rfl w_1192 ?_
  refine V_if_ne (t := 14) rfl rfl dX12_undo_9 (fun hc2 => ?_) (fun hc2 => ?_)
  · replace h := ifn hc2 h
    refine V_aload_n rfl dX12_undo_14 rfl rfl ?_
    refine V_aload_n rfl dX12_undo_15 rfl rfl ?_
    refine V_geti (k0 := 3) rfl dX12_undo_16 s0_136 icX12 (by decide) rfl w_1192 ?_
    refine V_iconst (v := 1) rfl dX12_undo_19 kc_1 ?_
    refine V_isub rfl dX12_undo_20 ?_
    replace h := pt_e h
    refine V_putf (k0 := 3) (ty := .int) rfl dX12_undo_21 s0_136 icX12 tyX12_ok nmX12 (by decide) rfl w_1192 rfl (tyX12_ok _ (by decide)) rfl rfl ?_
    refine V_iconst (v := 0) rfl dX12_undo_24 kc_0 ?_
    refine V_istore_n (L' := [_, _]) rfl rfl dX12_undo_25 (by decide) rfl ?_
    exact V_sub (le_s (le_s le_0)) (t_X12_undo_26 BG _ _ h)
  · replace h := ifp hc2 h
    refine V_iconst (v := 0) rfl dX12_undo_12 kc_0 ?_
    cases h
    exact V_iret dX12_undo_13 rfl nz_0 (Nat.le_refl _) (Nat.le_refl _) qI_ok
-- X12_thinks: NeverHaltedModel.thinks()V
def f_X12_thinks_2_b (r2 : Int32 → IM → IR) (x1 : Int32) (M : IM) : IR := if 40 ≤ x1 then pz M 136 5 1 fun M2 => some (0, M2) else rd M 137 40 x1 fun v4 => wr M 139 40 x1 v4 fun M6 => lt (x1 + 1) fun v8 => r2 v8 M6
def f_X12_thinks_2 (n : Nat) : Int32 → IM → IR := itr (fun _ _ => none) (f_X12_thinks_2_b) n
set_option maxRecDepth 100000 in
set_option maxHeartbeats 4000000 in
theorem t_X12_thinks_2 {g : IG} {a : Nat → Nat} {R : Int32 × IM} (n : Nat) : ∀ (x1 : Int32) (M : IM), f_X12_thinks_2 n x1 M = some R → V g mX12_thinks 1 0 0 (qV S0 a R) 2 [some (.ref (a 136)), some (.int x1)] [] a S0 M 0 0 := by
  induction n with
  | zero => intro x1 M h; exact absurd h (fun z => by cases z)
  | succ n hr2 =>
    intro x1 M h
    replace h : f_X12_thinks_2_b (f_X12_thinks_2 n) x1 M = some R := h
    unfold f_X12_thinks_2_b at h
    refine V_iload_n rfl dX12_thinks_2 rfl rfl ?_
    refine V_bipush (v := 40) rfl dX12_thinks_3 kb_40 ?_
    refine V_icmp_ge (t := 26) rfl rfl dX12_thinks_5 (fun hc1 => ?_) (fun hc1 => ?_)
    · replace h := ifp hc1 h
      refine V_aload_n rfl dX12_thinks_26 rfl rfl ?_
      refine V_iconst (v := 1) rfl dX12_thinks_27 kc_1 ?_
      replace h := pz_e h
      obtain ⟨hz3, h⟩ := h
      refine V_putf (k0 := 5) (ty := .boolean) rfl dX12_thinks_28 s0_136 icX12 tyX12_ok nmX12 (by decide) rfl w_1194 rfl (tyX12_ok _ (by decide)) (nar_z hz3) (fit_z hz3) ?_
      cases h
      exact V_vret dX12_thinks_31 rfl (Nat.le_refl _) (Nat.le_refl _) qV_ok
    · replace h := ifn hc1 h
      refine V_aload_n rfl dX12_thinks_8 rfl rfl ?_
      refine V_getr (k0 := 4) rfl dX12_thinks_9 s0_136 icX12 (by decide) rfl w_1193 ?_
      refine V_iload_n rfl dX12_thinks_12 rfl rfl ?_
      refine V_aload_n rfl dX12_thinks_13 rfl rfl ?_
      refine V_getr (k0 := 1) rfl dX12_thinks_14 s0_136 icX12 (by decide) rfl w_1190 ?_
      refine V_iload_n rfl dX12_thinks_17 rfl rfl ?_
      replace h := rd_e h
      obtain ⟨hb5, h⟩ := h
      refine V_iald rfl dX12_thinks_18 s0_137 hb5 ?_
      replace h := wr_e h
      obtain ⟨hb7, h⟩ := h
      refine V_iast rfl dX12_thinks_19 s0_139 hb7 ?_
      replace h := lt_e h
      refine V_inc (L' := [_, _]) rfl dX12_thinks_20 rfl kc_1 (by decide) rfl ?_
      refine V_goto (t := 2) rfl dX12_thinks_23 ?_
      exact V_sub (le_s (le_s le_0)) (hr2 _ _ h)
def f_X12_thinks (M : IM) : IR := f_X12_thinks_2 BG 0 M
set_option maxRecDepth 100000 in
set_option maxHeartbeats 4000000 in
theorem t_X12_thinks {g : IG} {a : Nat → Nat} {R : Int32 × IM} {M : IM} (h : f_X12_thinks M = some R) : Cn g mX12_thinks 1 0 0 (qV S0 a R) [.ref (a 136)] a S0 M := by
  refine Cn_of (L := [some (.ref (a 136)), none]) mf_X12_thinks (cat_r cat_0) (Nat.le_of_ble_eq_true rfl) rfl ?_
  unfold f_X12_thinks at h
  refine V_iconst (v := 0) rfl dX12_thinks_0 kc_0 ?_
  refine V_istore_n (L' := [_, _]) rfl rfl dX12_thinks_1 (by decide) rfl ?_
  exact V_sub (le_s (le_s le_0)) (t_X12_thinks_2 BG _ _ h)
-- X12_thinksAnew: NeverHaltedModel.thinksAnew()V
def f_X12_thinksAnew_2_b (r2 : Int32 → IM → IR) (x1 : Int32) (M : IM) : IR := if 40 ≤ x1 then some (0, M) else rd M 139 40 x1 fun v2 => wr M 137 40 x1 v2 fun M4 => lt (x1 + 1) fun v6 => r2 v6 M4
def f_X12_thinksAnew_2 (n : Nat) : Int32 → IM → IR := itr (fun _ _ => none) (f_X12_thinksAnew_2_b) n
set_option maxRecDepth 100000 in
set_option maxHeartbeats 4000000 in
theorem t_X12_thinksAnew_2 {g : IG} {a : Nat → Nat} {R : Int32 × IM} (n : Nat) : ∀ (x1 : Int32) (M : IM), f_X12_thinksAnew_2 n x1 M = some R → V g mX12_thinksAnew 1 0 0 (qV S0 a R) 2 [some (.ref (a 136)), some (.int x1)] [] a S0 M 0 0 := by
  induction n with
  | zero => intro x1 M h; exact absurd h (fun z => by cases z)
  | succ n hr2 =>
    intro x1 M h
    replace h : f_X12_thinksAnew_2_b (f_X12_thinksAnew_2 n) x1 M = some R := h
    unfold f_X12_thinksAnew_2_b at h
    refine V_iload_n rfl dX12_thinksAnew_2 rfl rfl ?_
    refine V_bipush (v := 40) rfl dX12_thinksAnew_3 kb_40 ?_
    refine V_icmp_ge (t := 26) rfl rfl dX12_thinksAnew_5 (fun hc1 => ?_) (fun hc1 => ?_)
    · replace h := ifp hc1 h
      cases h
      exact V_vret dX12_thinksAnew_26 rfl (Nat.le_refl _) (Nat.le_refl _) qV_ok
    · replace h := ifn hc1 h
      refine V_aload_n rfl dX12_thinksAnew_8 rfl rfl ?_
      refine V_getr (k0 := 1) rfl dX12_thinksAnew_9 s0_136 icX12 (by decide) rfl w_1190 ?_
      refine V_iload_n rfl dX12_thinksAnew_12 rfl rfl ?_
      refine V_aload_n rfl dX12_thinksAnew_13 rfl rfl ?_
      refine V_getr (k0 := 4) rfl dX12_thinksAnew_14 s0_136 icX12 (by decide) rfl w_1193 ?_
      refine V_iload_n rfl dX12_thinksAnew_17 rfl rfl ?_
      replace h := rd_e h
      obtain ⟨hb3, h⟩ := h
      refine V_iald rfl dX12_thinksAnew_18 s0_139 hb3 ?_
      replace h := wr_e h
      obtain ⟨hb5, h⟩ := h
      refine V_iast rfl dX12_thinksAnew_19 s0_137 hb5 ?_
      replace h := lt_e h
      refine V_inc (L' := [_, _]) rfl dX12_thinksAnew_20 rfl kc_1 (by decide) rfl ?_
      refine V_goto (t := 2) rfl dX12_thinksAnew_23 ?_
      exact V_sub (le_s (le_s le_0)) (hr2 _ _ h)
def f_X12_thinksAnew (M : IM) : IR := f_X12_thinksAnew_2 BG 0 M
set_option maxRecDepth 100000 in
set_option maxHeartbeats 4000000 in
theorem t_X12_thinksAnew {g : IG} {a : Nat → Nat} {R : Int32 × IM} {M : IM} (h : f_X12_thinksAnew M = some R) : Cn g mX12_thinksAnew 1 0 0 (qV S0 a R) [.ref (a 136)] a S0 M := by
  refine Cn_of (L := [some (.ref (a 136)), none]) mf_X12_thinksAnew (cat_r cat_0) (Nat.le_of_ble_eq_true rfl) rfl ?_
  unfold f_X12_thinksAnew at h
  refine V_iconst (v := 0) rfl dX12_thinksAnew_0 kc_0 ?_
  refine V_istore_n (L' := [_, _]) rfl rfl dX12_thinksAnew_1 (by decide) rfl ?_
  exact V_sub (le_s (le_s le_0)) (t_X12_thinksAnew_2 BG _ _ h)
-- X12_endsThought: NeverHaltedModel.endsThought()V
def f_X12_endsThought (M : IM) : IR := cl (f_X12_thinksAnew M) fun _ M2 => pz M2 136 5 0 fun M4 => some (0, M4)
set_option maxRecDepth 100000 in
set_option maxHeartbeats 4000000 in
theorem t_X12_endsThought {g : IG} {a : Nat → Nat} {R : Int32 × IM} {M : IM} (h : f_X12_endsThought M = some R) : Cn g mX12_endsThought 2 0 0 (qV S0 a R) [.ref (a 136)] a S0 M := by
  refine Cn_of (L := [some (.ref (a 136))]) mf_X12_endsThought (cat_r cat_0) (Nat.le_of_ble_eq_true rfl) rfl ?_
  unfold f_X12_endsThought at h
  refine V_aload_n rfl dX12_endsThought_0 rfl rfl ?_
  replace h := cl_e h
  obtain ⟨w1, M2, hc3, h⟩ := h
  refine V_iv (As := []) rfl dX12_endsThought_1 mf_X12_thinksAnew ⟨w_1685, w_112⟩ w_1683 (by decide) s0_136 rfl rfl rfl rfl ⟨rfl, rfl⟩ (t_X12_thinksAnew hc3) ?_
  refine V_aload_n rfl dX12_endsThought_4 rfl rfl ?_
  refine V_iconst (v := 0) rfl dX12_endsThought_5 kc_0 ?_
  replace h := pz_e h
  obtain ⟨hz5, h⟩ := h
  refine V_putf (k0 := 5) (ty := .boolean) rfl dX12_endsThought_6 s0_136 icX12 tyX12_ok nmX12 (by decide) rfl w_1194 rfl (tyX12_ok _ (by decide)) (nar_z hz5) (fit_z hz5) ?_
  cases h
  exact V_vret dX12_endsThought_9 rfl (Nat.le_refl _) (Nat.le_refl _) qV_ok
-- X12_state: NeverHaltedModel.state(I)I
def f_X12_state (p1 : Int32) (M : IM) : IR := pt M 136 0 0 fun M1 => rd M1 137 40 1 fun v2 => wr M1 137 40 1 p1 fun M4 => pt M4 136 3 0 fun M6 => some (v2, M6)
set_option maxRecDepth 100000 in
set_option maxHeartbeats 4000000 in
theorem t_X12_state {g : IG} {a : Nat → Nat} {R : Int32 × IM} {p1 : Int32} {M : IM} (h : f_X12_state p1 M = some R) : Cn g mX12_state 1 0 0 (qI S0 a R) [.ref (a 136), .int p1] a S0 M := by
  refine Cn_of (L := [some (.ref (a 136)), some (.int p1), none]) mf_X12_state (cat_r (cat_i cat_0)) (Nat.le_of_ble_eq_true rfl) rfl ?_
  unfold f_X12_state at h
  refine V_aload_n rfl dX12_state_0 rfl rfl ?_
  refine V_iconst (v := 0) rfl dX12_state_1 kc_0 ?_
  replace h := pt_e h
  refine V_putf (k0 := 0) (ty := .int) rfl dX12_state_2 s0_136 icX12 tyX12_ok nmX12 (by decide) rfl w_1189 rfl (tyX12_ok _ (by decide)) rfl rfl ?_
  refine V_aload_n rfl dX12_state_5 rfl rfl ?_
  refine V_getr (k0 := 1) rfl dX12_state_6 s0_136 icX12 (by decide) rfl w_1190 ?_
  refine V_iconst (v := 1) rfl dX12_state_9 kc_1 ?_
  replace h := rd_e h
  obtain ⟨hb3, h⟩ := h
  refine V_iald rfl dX12_state_10 s0_137 hb3 ?_
  refine V_istore_n (L' := [_, _, _]) rfl rfl dX12_state_11 (by decide) rfl ?_
  refine V_aload_n rfl dX12_state_12 rfl rfl ?_
  refine V_getr (k0 := 1) rfl dX12_state_13 s0_136 icX12 (by decide) rfl w_1190 ?_
  refine V_iconst (v := 1) rfl dX12_state_16 kc_1 ?_
  refine V_iload_n rfl dX12_state_17 rfl rfl ?_
  replace h := wr_e h
  obtain ⟨hb5, h⟩ := h
  refine V_iast rfl dX12_state_18 s0_137 hb5 ?_
  refine V_aload_n rfl dX12_state_19 rfl rfl ?_
  refine V_iconst (v := 0) rfl dX12_state_20 kc_0 ?_
  replace h := pt_e h
  refine V_putf (k0 := 3) (ty := .int) rfl dX12_state_21 s0_136 icX12 tyX12_ok nmX12 (by decide) rfl w_1192 rfl (tyX12_ok _ (by decide)) rfl rfl ?_
  refine V_iload_n rfl dX12_state_24 rfl rfl ?_
  cases h
  exact V_iret dX12_state_25 rfl rfl (Nat.le_refl _) (Nat.le_refl _) qI_ok
-- X12_draw: NeverHaltedModel.draw(I)I
def f_X12_draw (p1 : Int32) (M : IM) : IR := rd M 137 40 1 fun v1 => wr M 137 40 1 ((1664525 * v1) + 1013904223) fun M3 => rd M3 137 40 1 fun v5 => dv p1 <| some ((((Int32.toUInt32 v5 >>> (Int32.toUInt32 8 &&& Int32.toUInt32 31)).toInt32) - ((Int32.toUInt32 v5 >>> (Int32.toUInt32 8 &&& Int32.toUInt32 31)).toInt32) / p1 * p1), M3)
set_option maxRecDepth 100000 in
set_option maxHeartbeats 4000000 in
theorem t_X12_draw {g : IG} {a : Nat → Nat} {R : Int32 × IM} {p1 : Int32} {M : IM} (h : f_X12_draw p1 M = some R) : Cn g mX12_draw 1 0 0 (qI S0 a R) [.ref (a 136), .int p1] a S0 M := by
  refine Cn_of (L := [some (.ref (a 136)), some (.int p1)]) mf_X12_draw (cat_r (cat_i cat_0)) (Nat.le_of_ble_eq_true rfl) rfl ?_
  unfold f_X12_draw at h
  refine V_aload_n rfl dX12_draw_0 rfl rfl ?_
  refine V_getr (k0 := 1) rfl dX12_draw_1 s0_136 icX12 (by decide) rfl w_1190 ?_
  refine V_iconst (v := 1) rfl dX12_draw_4 kc_1 ?_
  refine V_ldc (v := 1664525) rfl dX12_draw_5 w_1609 ?_
  refine V_aload_n rfl dX12_draw_7 rfl rfl ?_
  refine V_getr (k0 := 1) rfl dX12_draw_8 s0_136 icX12 (by decide) rfl w_1190 ?_
  refine V_iconst (v := 1) rfl dX12_draw_11 kc_1 ?_
  replace h := rd_e h
  obtain ⟨hb2, h⟩ := h
  refine V_iald rfl dX12_draw_12 s0_137 hb2 ?_
  refine V_imul rfl dX12_draw_13 ?_
  refine V_ldc (v := 1013904223) rfl dX12_draw_14 w_1610 ?_
  refine V_iadd rfl dX12_draw_16 ?_
  replace h := wr_e h
  obtain ⟨hb4, h⟩ := h
  refine V_iast rfl dX12_draw_17 s0_137 hb4 ?_
  refine V_aload_n rfl dX12_draw_18 rfl rfl ?_
  refine V_getr (k0 := 1) rfl dX12_draw_19 s0_136 icX12 (by decide) rfl w_1190 ?_
  refine V_iconst (v := 1) rfl dX12_draw_22 kc_1 ?_
  replace h := rd_e h
  obtain ⟨hb6, h⟩ := h
  refine V_iald rfl dX12_draw_23 s0_137 hb6 ?_
  refine V_bipush (v := 8) rfl dX12_draw_24 kb_8 ?_
  refine V_iushr rfl dX12_draw_26 ?_
  refine V_iload_n rfl dX12_draw_27 rfl rfl ?_
  replace h := dv_e h
  obtain ⟨hz7, h⟩ := h
  refine V_irem rfl dX12_draw_28 hz7 ?_
  cases h
  exact V_iret dX12_draw_29 rfl rfl (Nat.le_refl _) (Nat.le_refl _) qI_ok
-- X12_isWalker: NeverHaltedModel.isWalker(I)Z
def f_X12_isWalker (p1 : Int32) (M : IM) : IR := if p1 < 0 then some (0, M) else if (M 136 6) ≤ p1 then some (0, M) else some (1, M)
set_option maxRecDepth 100000 in
set_option maxHeartbeats 4000000 in
theorem t_X12_isWalker {g : IG} {a : Nat → Nat} {R : Int32 × IM} {p1 : Int32} {M : IM} (h : f_X12_isWalker p1 M = some R) : Cn g mX12_isWalker 1 0 0 (qI S0 a R) [.ref (a 136), .int p1] a S0 M := by
  refine Cn_of (L := [some (.ref (a 136)), some (.int p1)]) mf_X12_isWalker (cat_r (cat_i cat_0)) (Nat.le_of_ble_eq_true rfl) rfl ?_
  unfold f_X12_isWalker at h
  refine V_iload_n rfl dX12_isWalker_0 rfl rfl ?_
  refine V_if_lt (t := 16) rfl rfl dX12_isWalker_1 (fun hc1 => ?_) (fun hc1 => ?_)
  · replace h := ifp hc1 h
    refine V_iconst (v := 0) rfl dX12_isWalker_16 kc_0 ?_
    cases h
    exact V_iret dX12_isWalker_17 rfl nz_0 (Nat.le_refl _) (Nat.le_refl _) qI_ok
  · replace h := ifn hc1 h
    refine V_iload_n rfl dX12_isWalker_4 rfl rfl ?_
    refine V_aload_n rfl dX12_isWalker_5 rfl rfl ?_
    refine V_geti (k0 := 6) rfl dX12_isWalker_6 s0_136 icX12 (by decide) rfl w_1195 ?_
    refine V_icmp_ge (t := 16) rfl rfl dX12_isWalker_9 (fun hc2 => ?_) (fun hc2 => ?_)
    · replace h := ifp hc2 h
      refine V_iconst (v := 0) rfl dX12_isWalker_16 kc_0 ?_
      cases h
      exact V_iret dX12_isWalker_17 rfl nz_0 (Nat.le_refl _) (Nat.le_refl _) qI_ok
    · replace h := ifn hc2 h
      refine V_iconst (v := 1) rfl dX12_isWalker_12 kc_1 ?_
      refine V_goto (t := 17) rfl dX12_isWalker_13 ?_
      cases h
      exact V_iret dX12_isWalker_17 rfl nz_1 (Nat.le_refl _) (Nat.le_refl _) qI_ok
-- X12_isParish: NeverHaltedModel.isParish(I)Z
def f_X12_isParish (p1 : Int32) (M : IM) : IR := if p1 < 0 then some (0, M) else if 8 ≤ p1 then some (0, M) else some (1, M)
set_option maxRecDepth 100000 in
set_option maxHeartbeats 4000000 in
theorem t_X12_isParish {g : IG} {a : Nat → Nat} {R : Int32 × IM} {p1 : Int32} {M : IM} (h : f_X12_isParish p1 M = some R) : Cn g mX12_isParish 1 0 0 (qI S0 a R) [.ref (a 136), .int p1] a S0 M := by
  refine Cn_of (L := [some (.ref (a 136)), some (.int p1)]) mf_X12_isParish (cat_r (cat_i cat_0)) (Nat.le_of_ble_eq_true rfl) rfl ?_
  unfold f_X12_isParish at h
  refine V_iload_n rfl dX12_isParish_0 rfl rfl ?_
  refine V_if_lt (t := 14) rfl rfl dX12_isParish_1 (fun hc1 => ?_) (fun hc1 => ?_)
  · replace h := ifp hc1 h
    refine V_iconst (v := 0) rfl dX12_isParish_14 kc_0 ?_
    cases h
    exact V_iret dX12_isParish_15 rfl nz_0 (Nat.le_refl _) (Nat.le_refl _) qI_ok
  · replace h := ifn hc1 h
    refine V_iload_n rfl dX12_isParish_4 rfl rfl ?_
    refine V_bipush (v := 8) rfl dX12_isParish_5 kb_8 ?_
    refine V_icmp_ge (t := 14) rfl rfl dX12_isParish_7 (fun hc2 => ?_) (fun hc2 => ?_)
    · replace h := ifp hc2 h
      refine V_iconst (v := 0) rfl dX12_isParish_14 kc_0 ?_
      cases h
      exact V_iret dX12_isParish_15 rfl nz_0 (Nat.le_refl _) (Nat.le_refl _) qI_ok
    · replace h := ifn hc2 h
      refine V_iconst (v := 1) rfl dX12_isParish_10 kc_1 ?_
      refine V_goto (t := 15) rfl dX12_isParish_11 ?_
      cases h
      exact V_iret dX12_isParish_15 rfl nz_1 (Nat.le_refl _) (Nat.le_refl _) qI_ok
-- X12_walker: NeverHaltedModel.walker(II)I
def f_X12_walker (p1 : Int32) (p2 : Int32) (M : IM) : IR := pt M 136 0 0 fun M1 => cl (f_X12_isParish p1 M1) fun w2 M3 => if w2 = 0 then some ((-1), M3) else cl (f_X12_isIn p2 0 1 M3) fun w6 M7 => if w6 = 0 then some ((-1), M7) else if (M7 136 6) = 10 then some ((-1), M7) else lt (M7 136 6) fun v11 => wr M7 140 10 v11 p2 fun M12 => wr M12 137 40 (30 + v11) p1 fun M14 => wr M14 137 40 (10 + v11) 0 fun M16 => wr M16 137 40 (20 + v11) 0 fun M18 => pt M18 136 6 ((M18 136 6) + 1) fun M20 => pt M20 136 3 0 fun M21 => some (v11, M21)
set_option maxRecDepth 100000 in
set_option maxHeartbeats 4000000 in
theorem t_X12_walker {g : IG} {a : Nat → Nat} {R : Int32 × IM} {p1 : Int32} {p2 : Int32} {M : IM} (h : f_X12_walker p1 p2 M = some R) : Cn g mX12_walker 2 0 0 (qI S0 a R) [.ref (a 136), .int p1, .int p2] a S0 M := by
  refine Cn_of (L := [some (.ref (a 136)), some (.int p1), some (.int p2), none]) mf_X12_walker (cat_r (cat_i (cat_i cat_0))) (Nat.le_of_ble_eq_true rfl) rfl ?_
  unfold f_X12_walker at h
  refine V_aload_n rfl dX12_walker_0 rfl rfl ?_
  refine V_iconst (v := 0) rfl dX12_walker_1 kc_0 ?_
  replace h := pt_e h
  refine V_putf (k0 := 0) (ty := .int) rfl dX12_walker_2 s0_136 icX12 tyX12_ok nmX12 (by decide) rfl w_1189 rfl (tyX12_ok _ (by decide)) rfl rfl ?_
  refine V_aload_n rfl dX12_walker_5 rfl rfl ?_
  refine V_iload_n rfl dX12_walker_6 rfl rfl ?_
  replace h := cl_e h
  obtain ⟨w2, M3, hc4, h⟩ := h
  refine V_ii (As := [.int _]) rfl dX12_walker_7 mf_X12_isParish ⟨w_1363, w_46⟩ w_1361 (by decide) s0_136 rfl rfl rfl rfl ⟨rfl, rfl⟩ (t_X12_isParish hc4) ?_
  refine V_if_eq (t := 32) rfl rfl dX12_walker_10 (fun hc5 => ?_) (fun hc5 => ?_)
  · replace h := ifp hc5 h
    refine V_iconst (v := (-1)) rfl dX12_walker_32 kc_m1 ?_
    cases h
    exact V_iret dX12_walker_33 rfl rfl (Nat.le_refl _) (Nat.le_refl _) qI_ok
  · replace h := ifn hc5 h
    refine V_aload_n rfl dX12_walker_13 rfl rfl ?_
    refine V_iload_n rfl dX12_walker_14 rfl rfl ?_
    refine V_iconst (v := 0) rfl dX12_walker_15 kc_0 ?_
    refine V_iconst (v := 1) rfl dX12_walker_16 kc_1 ?_
    replace h := cl_e h
    obtain ⟨w6, M7, hc8, h⟩ := h
    refine V_ii (As := [.int _, .int _, .int _]) rfl dX12_walker_17 mf_X12_isIn ⟨w_1367, w_47⟩ w_1365 (by decide) s0_136 rfl rfl rfl rfl ⟨rfl, rfl⟩ (t_X12_isIn hc8) ?_
    refine V_if_eq (t := 32) rfl rfl dX12_walker_20 (fun hc9 => ?_) (fun hc9 => ?_)
    · replace h := ifp hc9 h
      refine V_iconst (v := (-1)) rfl dX12_walker_32 kc_m1 ?_
      cases h
      exact V_iret dX12_walker_33 rfl rfl (Nat.le_refl _) (Nat.le_refl _) qI_ok
    · replace h := ifn hc9 h
      refine V_aload_n rfl dX12_walker_23 rfl rfl ?_
      refine V_geti (k0 := 6) rfl dX12_walker_24 s0_136 icX12 (by decide) rfl w_1195 ?_
      refine V_bipush (v := 10) rfl dX12_walker_27 kb_10 ?_
      refine V_icmp_ne (t := 34) rfl rfl dX12_walker_29 (fun hc10 => ?_) (fun hc10 => ?_)
      · replace h := ifn hc10 h
        refine V_aload_n rfl dX12_walker_34 rfl rfl ?_
        refine V_geti (k0 := 6) rfl dX12_walker_35 s0_136 icX12 (by decide) rfl w_1195 ?_
        replace h := lt_e h
        refine V_istore_n (L' := [_, _, _, _]) rfl rfl dX12_walker_38 (by decide) rfl ?_
        refine V_aload_n rfl dX12_walker_39 rfl rfl ?_
        refine V_getr (k0 := 7) rfl dX12_walker_40 s0_136 icX12 (by decide) rfl w_1196 ?_
        refine V_iload_n rfl dX12_walker_43 rfl rfl ?_
        refine V_iload_n rfl dX12_walker_44 rfl rfl ?_
        replace h := wr_e h
        obtain ⟨hb13, h⟩ := h
        refine V_iast rfl dX12_walker_45 s0_140 hb13 ?_
        refine V_aload_n rfl dX12_walker_46 rfl rfl ?_
        refine V_getr (k0 := 1) rfl dX12_walker_47 s0_136 icX12 (by decide) rfl w_1190 ?_
        refine V_bipush (v := 30) rfl dX12_walker_50 kb_30 ?_
        refine V_iload_n rfl dX12_walker_52 rfl rfl ?_
        refine V_iadd rfl dX12_walker_53 ?_
        refine V_iload_n rfl dX12_walker_54 rfl rfl ?_
        replace h := wr_e h
        obtain ⟨hb15, h⟩ := h
        refine V_iast rfl dX12_walker_55 s0_137 hb15 ?_
        refine V_aload_n rfl dX12_walker_56 rfl rfl ?_
        refine V_getr (k0 := 1) rfl dX12_walker_57 s0_136 icX12 (by decide) rfl w_1190 ?_
        refine V_bipush (v := 10) rfl dX12_walker_60 kb_10 ?_
        refine V_iload_n rfl dX12_walker_62 rfl rfl ?_
        refine V_iadd rfl dX12_walker_63 ?_
        refine V_iconst (v := 0) rfl dX12_walker_64 kc_0 ?_
        replace h := wr_e h
        obtain ⟨hb17, h⟩ := h
        refine V_iast rfl dX12_walker_65 s0_137 hb17 ?_
        refine V_aload_n rfl dX12_walker_66 rfl rfl ?_
        refine V_getr (k0 := 1) rfl dX12_walker_67 s0_136 icX12 (by decide) rfl w_1190 ?_
        refine V_bipush (v := 20) rfl dX12_walker_70 kb_20 ?_
        refine V_iload_n rfl dX12_walker_72 rfl rfl ?_
        refine V_iadd rfl dX12_walker_73 ?_
        refine V_iconst (v := 0) rfl dX12_walker_74 kc_0 ?_
        replace h := wr_e h
        obtain ⟨hb19, h⟩ := h
        refine V_iast rfl dX12_walker_75 s0_137 hb19 ?_
        refine V_aload_n rfl dX12_walker_76 rfl rfl ?_
        refine V_aload_n rfl dX12_walker_77 rfl rfl ?_
        refine V_geti (k0 := 6) rfl dX12_walker_78 s0_136 icX12 (by decide) rfl w_1195 ?_
        refine V_iconst (v := 1) rfl dX12_walker_81 kc_1 ?_
        refine V_iadd rfl dX12_walker_82 ?_
        replace h := pt_e h
        refine V_putf (k0 := 6) (ty := .int) rfl dX12_walker_83 s0_136 icX12 tyX12_ok nmX12 (by decide) rfl w_1195 rfl (tyX12_ok _ (by decide)) rfl rfl ?_
        refine V_aload_n rfl dX12_walker_86 rfl rfl ?_
        refine V_iconst (v := 0) rfl dX12_walker_87 kc_0 ?_
        replace h := pt_e h
        refine V_putf (k0 := 3) (ty := .int) rfl dX12_walker_88 s0_136 icX12 tyX12_ok nmX12 (by decide) rfl w_1192 rfl (tyX12_ok _ (by decide)) rfl rfl ?_
        refine V_iload_n rfl dX12_walker_91 rfl rfl ?_
        cases h
        exact V_iret dX12_walker_92 rfl rfl (Nat.le_refl _) (Nat.le_refl _) qI_ok
      · replace h := ifp hc10 h
        refine V_iconst (v := (-1)) rfl dX12_walker_32 kc_m1 ?_
        cases h
        exact V_iret dX12_walker_33 rfl rfl (Nat.le_refl _) (Nat.le_refl _) qI_ok
-- X12_mostOf: NeverHaltedModel.mostOf(I)I
def f_X12_mostOf (p1 : Int32) (M : IM) : IR := if p1 = 0 then some (10, M) else if p1 = 1 then some (9999, M) else if 4 ≤ p1 then if p1 = 4 then some (999, M) else some (1, M) else some (1000, M)
set_option maxRecDepth 100000 in
set_option maxHeartbeats 4000000 in
theorem t_X12_mostOf {g : IG} {a : Nat → Nat} {R : Int32 × IM} {p1 : Int32} {M : IM} (h : f_X12_mostOf p1 M = some R) : Cn g mX12_mostOf 1 0 0 (qI S0 a R) [.ref (a 136), .int p1] a S0 M := by
  refine Cn_of (L := [some (.ref (a 136)), some (.int p1)]) mf_X12_mostOf (cat_r (cat_i cat_0)) (Nat.le_of_ble_eq_true rfl) rfl ?_
  unfold f_X12_mostOf at h
  refine V_iload_n rfl dX12_mostOf_0 rfl rfl ?_
  refine V_if_ne (t := 7) rfl rfl dX12_mostOf_1 (fun hc1 => ?_) (fun hc1 => ?_)
  · replace h := ifn hc1 h
    refine V_iload_n rfl dX12_mostOf_7 rfl rfl ?_
    refine V_iconst (v := 1) rfl dX12_mostOf_8 kc_1 ?_
    refine V_icmp_ne (t := 16) rfl rfl dX12_mostOf_9 (fun hc2 => ?_) (fun hc2 => ?_)
    · replace h := ifn hc2 h
      refine V_iload_n rfl dX12_mostOf_16 rfl rfl ?_
      refine V_iconst (v := 4) rfl dX12_mostOf_17 kc_4 ?_
      refine V_icmp_ge (t := 27) rfl rfl dX12_mostOf_18 (fun hc3 => ?_) (fun hc3 => ?_)
      · replace h := ifp hc3 h
        refine V_iload_n rfl dX12_mostOf_27 rfl rfl ?_
        refine V_iconst (v := 4) rfl dX12_mostOf_28 kc_4 ?_
        refine V_icmp_ne (t := 38) rfl rfl dX12_mostOf_29 (fun hc4 => ?_) (fun hc4 => ?_)
        · replace h := ifn hc4 h
          refine V_iconst (v := 1) rfl dX12_mostOf_38 kc_1 ?_
          cases h
          exact V_iret dX12_mostOf_39 rfl rfl (Nat.le_refl _) (Nat.le_refl _) qI_ok
        · replace h := ifp hc4 h
          refine V_sipush (v := 999) rfl dX12_mostOf_32 ks_999 ?_
          refine V_goto (t := 39) rfl dX12_mostOf_35 ?_
          cases h
          exact V_iret dX12_mostOf_39 rfl rfl (Nat.le_refl _) (Nat.le_refl _) qI_ok
      · replace h := ifn hc3 h
        refine V_sipush (v := 1000) rfl dX12_mostOf_21 ks_1000 ?_
        refine V_goto (t := 39) rfl dX12_mostOf_24 ?_
        cases h
        exact V_iret dX12_mostOf_39 rfl rfl (Nat.le_refl _) (Nat.le_refl _) qI_ok
    · replace h := ifp hc2 h
      refine V_sipush (v := 9999) rfl dX12_mostOf_12 ks_9999 ?_
      cases h
      exact V_iret dX12_mostOf_15 rfl rfl (Nat.le_refl _) (Nat.le_refl _) qI_ok
  · replace h := ifp hc1 h
    refine V_bipush (v := 10) rfl dX12_mostOf_4 kb_10 ?_
    cases h
    exact V_iret dX12_mostOf_6 rfl rfl (Nat.le_refl _) (Nat.le_refl _) qI_ok
-- X12_set: NeverHaltedModel.set(III)Z
def f_X12_set_101 (x1 : Int32) (x2 : Int32) (x3 : Int32) (M : IM) : IR := if x1 = 5 then wr M 140 10 x2 x3 fun M32 => pt M32 136 3 0 fun M34 => some (1, M34) else pt M 136 3 0 fun M31 => some (1, M31)
set_option maxRecDepth 100000 in
set_option maxHeartbeats 4000000 in
theorem t_X12_set_101 {g : IG} {a : Nat → Nat} {R : Int32 × IM} {x1 : Int32} {x2 : Int32} {x3 : Int32} {M : IM} (h : f_X12_set_101 x1 x2 x3 M = some R) : V g mX12_set 2 0 0 (qI S0 a R) 101 [some (.ref (a 136)), some (.int x1), some (.int x2), some (.int x3)] [] a S0 M 0 0 := by
  unfold f_X12_set_101 at h
  refine V_iload_n rfl dX12_set_101 rfl rfl ?_
  refine V_iconst (v := 5) rfl dX12_set_102 kc_5 ?_
  refine V_icmp_ne (t := 113) rfl rfl dX12_set_103 (fun hc30 => ?_) (fun hc30 => ?_)
  · replace h := ifn hc30 h
    refine V_aload_n rfl dX12_set_113 rfl rfl ?_
    refine V_iconst (v := 0) rfl dX12_set_114 kc_0 ?_
    replace h := pt_e h
    refine V_putf (k0 := 3) (ty := .int) rfl dX12_set_115 s0_136 icX12 tyX12_ok nmX12 (by decide) rfl w_1192 rfl (tyX12_ok _ (by decide)) rfl rfl ?_
    refine V_iconst (v := 1) rfl dX12_set_118 kc_1 ?_
    cases h
    exact V_iret dX12_set_119 rfl nz_1 (Nat.le_refl _) (Nat.le_refl _) qI_ok
  · replace h := ifp hc30 h
    refine V_aload_n rfl dX12_set_106 rfl rfl ?_
    refine V_getr (k0 := 7) rfl dX12_set_107 s0_136 icX12 (by decide) rfl w_1196 ?_
    refine V_iload_n rfl dX12_set_110 rfl rfl ?_
    refine V_iload_n rfl dX12_set_111 rfl rfl ?_
    replace h := wr_e h
    obtain ⟨hb33, h⟩ := h
    refine V_iast rfl dX12_set_112 s0_140 hb33 ?_
    refine V_aload_n rfl dX12_set_113 rfl rfl ?_
    refine V_iconst (v := 0) rfl dX12_set_114 kc_0 ?_
    replace h := pt_e h
    refine V_putf (k0 := 3) (ty := .int) rfl dX12_set_115 s0_136 icX12 tyX12_ok nmX12 (by decide) rfl w_1192 rfl (tyX12_ok _ (by decide)) rfl rfl ?_
    refine V_iconst (v := 1) rfl dX12_set_118 kc_1 ?_
    cases h
    exact V_iret dX12_set_119 rfl nz_1 (Nat.le_refl _) (Nat.le_refl _) qI_ok
def f_X12_set_86 (x1 : Int32) (x2 : Int32) (x3 : Int32) (M : IM) : IR := if x1 = 4 then wr M 137 40 (10 + x2) x3 fun M28 => f_X12_set_101 x1 x2 x3 M28 else f_X12_set_101 x1 x2 x3 M
set_option maxRecDepth 100000 in
set_option maxHeartbeats 4000000 in
theorem t_X12_set_86 {g : IG} {a : Nat → Nat} {R : Int32 × IM} {x1 : Int32} {x2 : Int32} {x3 : Int32} {M : IM} (h : f_X12_set_86 x1 x2 x3 M = some R) : V g mX12_set 2 0 0 (qI S0 a R) 86 [some (.ref (a 136)), some (.int x1), some (.int x2), some (.int x3)] [] a S0 M 0 0 := by
  unfold f_X12_set_86 at h
  refine V_iload_n rfl dX12_set_86 rfl rfl ?_
  refine V_iconst (v := 4) rfl dX12_set_87 kc_4 ?_
  refine V_icmp_ne (t := 101) rfl rfl dX12_set_88 (fun hc27 => ?_) (fun hc27 => ?_)
  · replace h := ifn hc27 h
    exact V_sub (le_s (le_s (le_s (le_s le_0)))) (t_X12_set_101 h)
  · replace h := ifp hc27 h
    refine V_aload_n rfl dX12_set_91 rfl rfl ?_
    refine V_getr (k0 := 1) rfl dX12_set_92 s0_136 icX12 (by decide) rfl w_1190 ?_
    refine V_bipush (v := 10) rfl dX12_set_95 kb_10 ?_
    refine V_iload_n rfl dX12_set_97 rfl rfl ?_
    refine V_iadd rfl dX12_set_98 ?_
    refine V_iload_n rfl dX12_set_99 rfl rfl ?_
    replace h := wr_e h
    obtain ⟨hb29, h⟩ := h
    refine V_iast rfl dX12_set_100 s0_137 hb29 ?_
    exact V_sub (le_s (le_s (le_s (le_s le_0)))) (t_X12_set_101 h)
def f_X12_set_76 (x1 : Int32) (x2 : Int32) (x3 : Int32) (M : IM) : IR := if x1 = 3 then pt M 136 10 x3 fun M26 => f_X12_set_86 x1 x2 x3 M26 else f_X12_set_86 x1 x2 x3 M
set_option maxRecDepth 100000 in
set_option maxHeartbeats 4000000 in
theorem t_X12_set_76 {g : IG} {a : Nat → Nat} {R : Int32 × IM} {x1 : Int32} {x2 : Int32} {x3 : Int32} {M : IM} (h : f_X12_set_76 x1 x2 x3 M = some R) : V g mX12_set 2 0 0 (qI S0 a R) 76 [some (.ref (a 136)), some (.int x1), some (.int x2), some (.int x3)] [] a S0 M 0 0 := by
  unfold f_X12_set_76 at h
  refine V_iload_n rfl dX12_set_76 rfl rfl ?_
  refine V_iconst (v := 3) rfl dX12_set_77 kc_3 ?_
  refine V_icmp_ne (t := 86) rfl rfl dX12_set_78 (fun hc25 => ?_) (fun hc25 => ?_)
  · replace h := ifn hc25 h
    exact V_sub (le_s (le_s (le_s (le_s le_0)))) (t_X12_set_86 h)
  · replace h := ifp hc25 h
    refine V_aload_n rfl dX12_set_81 rfl rfl ?_
    refine V_iload_n rfl dX12_set_82 rfl rfl ?_
    replace h := pt_e h
    refine V_putf (k0 := 10) (ty := .int) rfl dX12_set_83 s0_136 icX12 tyX12_ok nmX12 (by decide) rfl w_1199 rfl (tyX12_ok _ (by decide)) rfl rfl ?_
    exact V_sub (le_s (le_s (le_s (le_s le_0)))) (t_X12_set_86 h)
def f_X12_set_66 (x1 : Int32) (x2 : Int32) (x3 : Int32) (M : IM) : IR := if x1 = 2 then pt M 136 9 x3 fun M24 => f_X12_set_76 x1 x2 x3 M24 else f_X12_set_76 x1 x2 x3 M
set_option maxRecDepth 100000 in
set_option maxHeartbeats 4000000 in
theorem t_X12_set_66 {g : IG} {a : Nat → Nat} {R : Int32 × IM} {x1 : Int32} {x2 : Int32} {x3 : Int32} {M : IM} (h : f_X12_set_66 x1 x2 x3 M = some R) : V g mX12_set 2 0 0 (qI S0 a R) 66 [some (.ref (a 136)), some (.int x1), some (.int x2), some (.int x3)] [] a S0 M 0 0 := by
  unfold f_X12_set_66 at h
  refine V_iload_n rfl dX12_set_66 rfl rfl ?_
  refine V_iconst (v := 2) rfl dX12_set_67 kc_2 ?_
  refine V_icmp_ne (t := 76) rfl rfl dX12_set_68 (fun hc23 => ?_) (fun hc23 => ?_)
  · replace h := ifn hc23 h
    exact V_sub (le_s (le_s (le_s (le_s le_0)))) (t_X12_set_76 h)
  · replace h := ifp hc23 h
    refine V_aload_n rfl dX12_set_71 rfl rfl ?_
    refine V_iload_n rfl dX12_set_72 rfl rfl ?_
    replace h := pt_e h
    refine V_putf (k0 := 9) (ty := .int) rfl dX12_set_73 s0_136 icX12 tyX12_ok nmX12 (by decide) rfl w_1198 rfl (tyX12_ok _ (by decide)) rfl rfl ?_
    exact V_sub (le_s (le_s (le_s (le_s le_0)))) (t_X12_set_76 h)
def f_X12_set_53 (x1 : Int32) (x2 : Int32) (x3 : Int32) (M : IM) : IR := if x1 = 1 then wr M 137 40 9 x3 fun M21 => f_X12_set_66 x1 x2 x3 M21 else f_X12_set_66 x1 x2 x3 M
set_option maxRecDepth 100000 in
set_option maxHeartbeats 4000000 in
theorem t_X12_set_53 {g : IG} {a : Nat → Nat} {R : Int32 × IM} {x1 : Int32} {x2 : Int32} {x3 : Int32} {M : IM} (h : f_X12_set_53 x1 x2 x3 M = some R) : V g mX12_set 2 0 0 (qI S0 a R) 53 [some (.ref (a 136)), some (.int x1), some (.int x2), some (.int x3)] [] a S0 M 0 0 := by
  unfold f_X12_set_53 at h
  refine V_iload_n rfl dX12_set_53 rfl rfl ?_
  refine V_iconst (v := 1) rfl dX12_set_54 kc_1 ?_
  refine V_icmp_ne (t := 66) rfl rfl dX12_set_55 (fun hc20 => ?_) (fun hc20 => ?_)
  · replace h := ifn hc20 h
    exact V_sub (le_s (le_s (le_s (le_s le_0)))) (t_X12_set_66 h)
  · replace h := ifp hc20 h
    refine V_aload_n rfl dX12_set_58 rfl rfl ?_
    refine V_getr (k0 := 1) rfl dX12_set_59 s0_136 icX12 (by decide) rfl w_1190 ?_
    refine V_bipush (v := 9) rfl dX12_set_62 kb_9 ?_
    refine V_iload_n rfl dX12_set_64 rfl rfl ?_
    replace h := wr_e h
    obtain ⟨hb22, h⟩ := h
    refine V_iast rfl dX12_set_65 s0_137 hb22 ?_
    exact V_sub (le_s (le_s (le_s (le_s le_0)))) (t_X12_set_66 h)
def f_X12_set_44 (x1 : Int32) (x2 : Int32) (x3 : Int32) (M : IM) : IR := if x1 = 0 then pt M 136 8 x3 fun M19 => f_X12_set_53 x1 x2 x3 M19 else f_X12_set_53 x1 x2 x3 M
set_option maxRecDepth 100000 in
set_option maxHeartbeats 4000000 in
theorem t_X12_set_44 {g : IG} {a : Nat → Nat} {R : Int32 × IM} {x1 : Int32} {x2 : Int32} {x3 : Int32} {M : IM} (h : f_X12_set_44 x1 x2 x3 M = some R) : V g mX12_set 2 0 0 (qI S0 a R) 44 [some (.ref (a 136)), some (.int x1), some (.int x2), some (.int x3)] [] a S0 M 0 0 := by
  unfold f_X12_set_44 at h
  refine V_iload_n rfl dX12_set_44 rfl rfl ?_
  refine V_if_ne (t := 53) rfl rfl dX12_set_45 (fun hc18 => ?_) (fun hc18 => ?_)
  · replace h := ifn hc18 h
    exact V_sub (le_s (le_s (le_s (le_s le_0)))) (t_X12_set_53 h)
  · replace h := ifp hc18 h
    refine V_aload_n rfl dX12_set_48 rfl rfl ?_
    refine V_iload_n rfl dX12_set_49 rfl rfl ?_
    replace h := pt_e h
    refine V_putf (k0 := 8) (ty := .int) rfl dX12_set_50 s0_136 icX12 tyX12_ok nmX12 (by decide) rfl w_1197 rfl (tyX12_ok _ (by decide)) rfl rfl ?_
    exact V_sub (le_s (le_s (le_s (le_s le_0)))) (t_X12_set_53 h)
def f_X12_set (p1 : Int32) (p2 : Int32) (p3 : Int32) (M : IM) : IR := pt M 136 0 0 fun M1 => cl (f_X12_isIn p1 0 5 M1) fun w2 M3 => if w2 = 0 then some (0, M3) else cl (f_X12_mostOf p1 M3) fun w6 M7 => cl (f_X12_isIn p3 0 w6 M7) fun w9 M10 => if w9 = 0 then some (0, M10) else if p1 ≤ 3 then f_X12_set_44 p1 p2 p3 M10 else cl (f_X12_isWalker p2 M10) fun w14 M15 => if w14 = 0 then some (0, M15) else f_X12_set_44 p1 p2 p3 M15
set_option maxRecDepth 100000 in
set_option maxHeartbeats 4000000 in
theorem t_X12_set {g : IG} {a : Nat → Nat} {R : Int32 × IM} {p1 : Int32} {p2 : Int32} {p3 : Int32} {M : IM} (h : f_X12_set p1 p2 p3 M = some R) : Cn g mX12_set 2 0 0 (qI S0 a R) [.ref (a 136), .int p1, .int p2, .int p3] a S0 M := by
  refine Cn_of (L := [some (.ref (a 136)), some (.int p1), some (.int p2), some (.int p3)]) mf_X12_set (cat_r (cat_i (cat_i (cat_i cat_0)))) (Nat.le_of_ble_eq_true rfl) rfl ?_
  unfold f_X12_set at h
  refine V_aload_n rfl dX12_set_0 rfl rfl ?_
  refine V_iconst (v := 0) rfl dX12_set_1 kc_0 ?_
  replace h := pt_e h
  refine V_putf (k0 := 0) (ty := .int) rfl dX12_set_2 s0_136 icX12 tyX12_ok nmX12 (by decide) rfl w_1189 rfl (tyX12_ok _ (by decide)) rfl rfl ?_
  refine V_aload_n rfl dX12_set_5 rfl rfl ?_
  refine V_iload_n rfl dX12_set_6 rfl rfl ?_
  refine V_iconst (v := 0) rfl dX12_set_7 kc_0 ?_
  refine V_iconst (v := 5) rfl dX12_set_8 kc_5 ?_
  replace h := cl_e h
  obtain ⟨w2, M3, hc4, h⟩ := h
  refine V_ii (As := [.int _, .int _, .int _]) rfl dX12_set_9 mf_X12_isIn ⟨w_1367, w_47⟩ w_1365 (by decide) s0_136 rfl rfl rfl rfl ⟨rfl, rfl⟩ (t_X12_isIn hc4) ?_
  refine V_if_eq (t := 42) rfl rfl dX12_set_12 (fun hc5 => ?_) (fun hc5 => ?_)
  · replace h := ifp hc5 h
    refine V_iconst (v := 0) rfl dX12_set_42 kc_0 ?_
    cases h
    exact V_iret dX12_set_43 rfl nz_0 (Nat.le_refl _) (Nat.le_refl _) qI_ok
  · replace h := ifn hc5 h
    refine V_aload_n rfl dX12_set_15 rfl rfl ?_
    refine V_iload_n rfl dX12_set_16 rfl rfl ?_
    refine V_iconst (v := 0) rfl dX12_set_17 kc_0 ?_
    refine V_aload_n rfl dX12_set_18 rfl rfl ?_
    refine V_iload_n rfl dX12_set_19 rfl rfl ?_
    replace h := cl_e h
    obtain ⟨w6, M7, hc8, h⟩ := h
    refine V_ii (As := [.int _]) rfl dX12_set_20 mf_X12_mostOf ⟨w_1375, w_48⟩ w_1373 (by decide) s0_136 rfl rfl rfl rfl ⟨rfl, rfl⟩ (t_X12_mostOf hc8) ?_
    replace h := cl_e h
    obtain ⟨w9, M10, hc11, h⟩ := h
    refine V_ii (As := [.int _, .int _, .int _]) rfl dX12_set_23 mf_X12_isIn ⟨w_1367, w_47⟩ w_1365 (by decide) s0_136 rfl rfl rfl rfl ⟨rfl, rfl⟩ (t_X12_isIn hc11) ?_
    refine V_if_eq (t := 42) rfl rfl dX12_set_26 (fun hc12 => ?_) (fun hc12 => ?_)
    · replace h := ifp hc12 h
      refine V_iconst (v := 0) rfl dX12_set_42 kc_0 ?_
      cases h
      exact V_iret dX12_set_43 rfl nz_0 (Nat.le_refl _) (Nat.le_refl _) qI_ok
    · replace h := ifn hc12 h
      refine V_iload_n rfl dX12_set_29 rfl rfl ?_
      refine V_iconst (v := 3) rfl dX12_set_30 kc_3 ?_
      refine V_icmp_le (t := 44) rfl rfl dX12_set_31 (fun hc13 => ?_) (fun hc13 => ?_)
      · replace h := ifp hc13 h
        exact V_sub (le_s (le_s (le_s (le_s le_0)))) (t_X12_set_44 h)
      · replace h := ifn hc13 h
        refine V_aload_n rfl dX12_set_34 rfl rfl ?_
        refine V_iload_n rfl dX12_set_35 rfl rfl ?_
        replace h := cl_e h
        obtain ⟨w14, M15, hc16, h⟩ := h
        refine V_ii (As := [.int _]) rfl dX12_set_36 mf_X12_isWalker ⟨w_1379, w_49⟩ w_1377 (by decide) s0_136 rfl rfl rfl rfl ⟨rfl, rfl⟩ (t_X12_isWalker hc16) ?_
        refine V_if_ne (t := 44) rfl rfl dX12_set_39 (fun hc17 => ?_) (fun hc17 => ?_)
        · replace h := ifn hc17 h
          exact V_sub (le_s (le_s (le_s (le_s le_0)))) (t_X12_set_44 h)
        · replace h := ifp hc17 h
          refine V_iconst (v := 0) rfl dX12_set_42 kc_0 ?_
          cases h
          exact V_iret dX12_set_43 rfl nz_0 (Nat.le_refl _) (Nat.le_refl _) qI_ok
-- X12_road: NeverHaltedModel.road(III)Z
def f_X12_road (p1 : Int32) (p2 : Int32) (p3 : Int32) (M : IM) : IR := pt M 136 0 0 fun M1 => cl (f_X12_isParish p1 M1) fun w2 M3 => if w2 = 0 then some (0, M3) else cl (f_X12_isParish p2 M3) fun w6 M7 => if w6 = 0 then some (0, M7) else if p1 = p2 then some (0, M7) else cl (f_X12_isIn p3 0 99 M7) fun w11 M12 => if w11 = 0 then some (0, M12) else wr M12 141 64 ((8 * p1) + p2) p3 fun M15 => wr M15 141 64 ((8 * p2) + p1) p3 fun M17 => some (1, M17)
set_option maxRecDepth 100000 in
set_option maxHeartbeats 4000000 in
theorem t_X12_road {g : IG} {a : Nat → Nat} {R : Int32 × IM} {p1 : Int32} {p2 : Int32} {p3 : Int32} {M : IM} (h : f_X12_road p1 p2 p3 M = some R) : Cn g mX12_road 2 0 0 (qI S0 a R) [.ref (a 136), .int p1, .int p2, .int p3] a S0 M := by
  refine Cn_of (L := [some (.ref (a 136)), some (.int p1), some (.int p2), some (.int p3)]) mf_X12_road (cat_r (cat_i (cat_i (cat_i cat_0)))) (Nat.le_of_ble_eq_true rfl) rfl ?_
  unfold f_X12_road at h
  refine V_aload_n rfl dX12_road_0 rfl rfl ?_
  refine V_iconst (v := 0) rfl dX12_road_1 kc_0 ?_
  replace h := pt_e h
  refine V_putf (k0 := 0) (ty := .int) rfl dX12_road_2 s0_136 icX12 tyX12_ok nmX12 (by decide) rfl w_1189 rfl (tyX12_ok _ (by decide)) rfl rfl ?_
  refine V_aload_n rfl dX12_road_5 rfl rfl ?_
  refine V_iload_n rfl dX12_road_6 rfl rfl ?_
  replace h := cl_e h
  obtain ⟨w2, M3, hc4, h⟩ := h
  refine V_ii (As := [.int _]) rfl dX12_road_7 mf_X12_isParish ⟨w_1363, w_46⟩ w_1361 (by decide) s0_136 rfl rfl rfl rfl ⟨rfl, rfl⟩ (t_X12_isParish hc4) ?_
  refine V_if_eq (t := 37) rfl rfl dX12_road_10 (fun hc5 => ?_) (fun hc5 => ?_)
  · replace h := ifp hc5 h
    refine V_iconst (v := 0) rfl dX12_road_37 kc_0 ?_
    cases h
    exact V_iret dX12_road_38 rfl nz_0 (Nat.le_refl _) (Nat.le_refl _) qI_ok
  · replace h := ifn hc5 h
    refine V_aload_n rfl dX12_road_13 rfl rfl ?_
    refine V_iload_n rfl dX12_road_14 rfl rfl ?_
    replace h := cl_e h
    obtain ⟨w6, M7, hc8, h⟩ := h
    refine V_ii (As := [.int _]) rfl dX12_road_15 mf_X12_isParish ⟨w_1363, w_46⟩ w_1361 (by decide) s0_136 rfl rfl rfl rfl ⟨rfl, rfl⟩ (t_X12_isParish hc8) ?_
    refine V_if_eq (t := 37) rfl rfl dX12_road_18 (fun hc9 => ?_) (fun hc9 => ?_)
    · replace h := ifp hc9 h
      refine V_iconst (v := 0) rfl dX12_road_37 kc_0 ?_
      cases h
      exact V_iret dX12_road_38 rfl nz_0 (Nat.le_refl _) (Nat.le_refl _) qI_ok
    · replace h := ifn hc9 h
      refine V_iload_n rfl dX12_road_21 rfl rfl ?_
      refine V_iload_n rfl dX12_road_22 rfl rfl ?_
      refine V_icmp_eq (t := 37) rfl rfl dX12_road_23 (fun hc10 => ?_) (fun hc10 => ?_)
      · replace h := ifp hc10 h
        refine V_iconst (v := 0) rfl dX12_road_37 kc_0 ?_
        cases h
        exact V_iret dX12_road_38 rfl nz_0 (Nat.le_refl _) (Nat.le_refl _) qI_ok
      · replace h := ifn hc10 h
        refine V_aload_n rfl dX12_road_26 rfl rfl ?_
        refine V_iload_n rfl dX12_road_27 rfl rfl ?_
        refine V_iconst (v := 0) rfl dX12_road_28 kc_0 ?_
        refine V_bipush (v := 99) rfl dX12_road_29 kb_99 ?_
        replace h := cl_e h
        obtain ⟨w11, M12, hc13, h⟩ := h
        refine V_ii (As := [.int _, .int _, .int _]) rfl dX12_road_31 mf_X12_isIn ⟨w_1367, w_47⟩ w_1365 (by decide) s0_136 rfl rfl rfl rfl ⟨rfl, rfl⟩ (t_X12_isIn hc13) ?_
        refine V_if_ne (t := 39) rfl rfl dX12_road_34 (fun hc14 => ?_) (fun hc14 => ?_)
        · replace h := ifn hc14 h
          refine V_aload_n rfl dX12_road_39 rfl rfl ?_
          refine V_getr (k0 := 11) rfl dX12_road_40 s0_136 icX12 (by decide) rfl w_1200 ?_
          refine V_bipush (v := 8) rfl dX12_road_43 kb_8 ?_
          refine V_iload_n rfl dX12_road_45 rfl rfl ?_
          refine V_imul rfl dX12_road_46 ?_
          refine V_iload_n rfl dX12_road_47 rfl rfl ?_
          refine V_iadd rfl dX12_road_48 ?_
          refine V_iload_n rfl dX12_road_49 rfl rfl ?_
          replace h := wr_e h
          obtain ⟨hb16, h⟩ := h
          refine V_iast rfl dX12_road_50 s0_141 hb16 ?_
          refine V_aload_n rfl dX12_road_51 rfl rfl ?_
          refine V_getr (k0 := 11) rfl dX12_road_52 s0_136 icX12 (by decide) rfl w_1200 ?_
          refine V_bipush (v := 8) rfl dX12_road_55 kb_8 ?_
          refine V_iload_n rfl dX12_road_57 rfl rfl ?_
          refine V_imul rfl dX12_road_58 ?_
          refine V_iload_n rfl dX12_road_59 rfl rfl ?_
          refine V_iadd rfl dX12_road_60 ?_
          refine V_iload_n rfl dX12_road_61 rfl rfl ?_
          replace h := wr_e h
          obtain ⟨hb18, h⟩ := h
          refine V_iast rfl dX12_road_62 s0_141 hb18 ?_
          refine V_iconst (v := 1) rfl dX12_road_63 kc_1 ?_
          cases h
          exact V_iret dX12_road_64 rfl nz_1 (Nat.le_refl _) (Nat.le_refl _) qI_ok
        · replace h := ifp hc14 h
          refine V_iconst (v := 0) rfl dX12_road_37 kc_0 ?_
          cases h
          exact V_iret dX12_road_38 rfl nz_0 (Nat.le_refl _) (Nat.le_refl _) qI_ok
-- X12_roadOf: NeverHaltedModel.roadOf(II)I
def f_X12_roadOf (p1 : Int32) (p2 : Int32) (M : IM) : IR := pt M 136 0 0 fun M1 => cl (f_X12_isParish p1 M1) fun w2 M3 => if w2 = 0 then some ((-1), M3) else cl (f_X12_isParish p2 M3) fun w6 M7 => if w6 = 0 then some ((-1), M7) else rd M7 141 64 ((8 * p1) + p2) fun v10 => if v10 = 0 then some ((-1), M7) else rd M7 141 64 ((8 * p1) + p2) fun v13 => some (v13, M7)
set_option maxRecDepth 100000 in
set_option maxHeartbeats 4000000 in
theorem t_X12_roadOf {g : IG} {a : Nat → Nat} {R : Int32 × IM} {p1 : Int32} {p2 : Int32} {M : IM} (h : f_X12_roadOf p1 p2 M = some R) : Cn g mX12_roadOf 2 0 0 (qI S0 a R) [.ref (a 136), .int p1, .int p2] a S0 M := by
  refine Cn_of (L := [some (.ref (a 136)), some (.int p1), some (.int p2)]) mf_X12_roadOf (cat_r (cat_i (cat_i cat_0))) (Nat.le_of_ble_eq_true rfl) rfl ?_
  unfold f_X12_roadOf at h
  refine V_aload_n rfl dX12_roadOf_0 rfl rfl ?_
  refine V_iconst (v := 0) rfl dX12_roadOf_1 kc_0 ?_
  replace h := pt_e h
  refine V_putf (k0 := 0) (ty := .int) rfl dX12_roadOf_2 s0_136 icX12 tyX12_ok nmX12 (by decide) rfl w_1189 rfl (tyX12_ok _ (by decide)) rfl rfl ?_
  refine V_aload_n rfl dX12_roadOf_5 rfl rfl ?_
  refine V_iload_n rfl dX12_roadOf_6 rfl rfl ?_
  replace h := cl_e h
  obtain ⟨w2, M3, hc4, h⟩ := h
  refine V_ii (As := [.int _]) rfl dX12_roadOf_7 mf_X12_isParish ⟨w_1363, w_46⟩ w_1361 (by decide) s0_136 rfl rfl rfl rfl ⟨rfl, rfl⟩ (t_X12_isParish hc4) ?_
  refine V_if_eq (t := 35) rfl rfl dX12_roadOf_10 (fun hc5 => ?_) (fun hc5 => ?_)
  · replace h := ifp hc5 h
    refine V_iconst (v := (-1)) rfl dX12_roadOf_35 kc_m1 ?_
    refine V_goto (t := 50) rfl dX12_roadOf_36 ?_
    cases h
    exact V_iret dX12_roadOf_50 rfl rfl (Nat.le_refl _) (Nat.le_refl _) qI_ok
  · replace h := ifn hc5 h
    refine V_aload_n rfl dX12_roadOf_13 rfl rfl ?_
    refine V_iload_n rfl dX12_roadOf_14 rfl rfl ?_
    replace h := cl_e h
    obtain ⟨w6, M7, hc8, h⟩ := h
    refine V_ii (As := [.int _]) rfl dX12_roadOf_15 mf_X12_isParish ⟨w_1363, w_46⟩ w_1361 (by decide) s0_136 rfl rfl rfl rfl ⟨rfl, rfl⟩ (t_X12_isParish hc8) ?_
    refine V_if_eq (t := 35) rfl rfl dX12_roadOf_18 (fun hc9 => ?_) (fun hc9 => ?_)
    · replace h := ifp hc9 h
      refine V_iconst (v := (-1)) rfl dX12_roadOf_35 kc_m1 ?_
      refine V_goto (t := 50) rfl dX12_roadOf_36 ?_
      cases h
      exact V_iret dX12_roadOf_50 rfl rfl (Nat.le_refl _) (Nat.le_refl _) qI_ok
    · replace h := ifn hc9 h
      refine V_aload_n rfl dX12_roadOf_21 rfl rfl ?_
      refine V_getr (k0 := 11) rfl dX12_roadOf_22 s0_136 icX12 (by decide) rfl w_1200 ?_
      refine V_bipush (v := 8) rfl dX12_roadOf_25 kb_8 ?_
      refine V_iload_n rfl dX12_roadOf_27 rfl rfl ?_
      refine V_imul rfl dX12_roadOf_28 ?_
      refine V_iload_n rfl dX12_roadOf_29 rfl rfl ?_
      refine V_iadd rfl dX12_roadOf_30 ?_
      replace h := rd_e h
      obtain ⟨hb11, h⟩ := h
      refine V_iald rfl dX12_roadOf_31 s0_141 hb11 ?_
      refine V_if_ne (t := 39) rfl rfl dX12_roadOf_32 (fun hc12 => ?_) (fun hc12 => ?_)
      · replace h := ifn hc12 h
        refine V_aload_n rfl dX12_roadOf_39 rfl rfl ?_
        refine V_getr (k0 := 11) rfl dX12_roadOf_40 s0_136 icX12 (by decide) rfl w_1200 ?_
        refine V_bipush (v := 8) rfl dX12_roadOf_43 kb_8 ?_
        refine V_iload_n rfl dX12_roadOf_45 rfl rfl ?_
        refine V_imul rfl dX12_roadOf_46 ?_
        refine V_iload_n rfl dX12_roadOf_47 rfl rfl ?_
        refine V_iadd rfl dX12_roadOf_48 ?_
        replace h := rd_e h
        obtain ⟨hb14, h⟩ := h
        refine V_iald rfl dX12_roadOf_49 s0_141 hb14 ?_
        cases h
        exact V_iret dX12_roadOf_50 rfl rfl (Nat.le_refl _) (Nat.le_refl _) qI_ok
      · replace h := ifp hc12 h
        refine V_iconst (v := (-1)) rfl dX12_roadOf_35 kc_m1 ?_
        refine V_goto (t := 50) rfl dX12_roadOf_36 ?_
        cases h
        exact V_iret dX12_roadOf_50 rfl rfl (Nat.le_refl _) (Nat.le_refl _) qI_ok
-- X12_types: NeverHaltedModel.types(I)V
def f_X12_types_3_b (r3 : Int32 → Int32 → IM → IR) (x1 : Int32) (x2 : Int32) (M : IM) : IR := if x2 < 0 then some (0, M) else wr M 143 400 (M 136 14) ((x1 >>> (x2 &&& 31)) &&& 255) fun M2 => pt M2 136 14 ((M2 136 14) + 1) fun M4 => lt (x2 + (-8)) fun v5 => r3 x1 v5 M4
def f_X12_types_3 (n : Nat) : Int32 → Int32 → IM → IR := itr (fun _ _ _ => none) (f_X12_types_3_b) n
set_option maxRecDepth 100000 in
set_option maxHeartbeats 4000000 in
theorem t_X12_types_3 {g : IG} {a : Nat → Nat} {R : Int32 × IM} (n : Nat) : ∀ (x1 : Int32) (x2 : Int32) (M : IM), f_X12_types_3 n x1 x2 M = some R → V g mX12_types 1 0 0 (qV S0 a R) 3 [some (.ref (a 136)), some (.int x1), some (.int x2)] [] a S0 M 0 0 := by
  induction n with
  | zero => intro x1 x2 M h; exact absurd h (fun z => by cases z)
  | succ n hr3 =>
    intro x1 x2 M h
    replace h : f_X12_types_3_b (f_X12_types_3 n) x1 x2 M = some R := h
    unfold f_X12_types_3_b at h
    refine V_iload_n rfl dX12_types_3 rfl rfl ?_
    refine V_if_lt (t := 39) rfl rfl dX12_types_4 (fun hc1 => ?_) (fun hc1 => ?_)
    · replace h := ifp hc1 h
      cases h
      exact V_vret dX12_types_39 rfl (Nat.le_refl _) (Nat.le_refl _) qV_ok
    · replace h := ifn hc1 h
      refine V_aload_n rfl dX12_types_7 rfl rfl ?_
      refine V_getr (k0 := 13) rfl dX12_types_8 s0_136 icX12 (by decide) rfl w_1202 ?_
      refine V_aload_n rfl dX12_types_11 rfl rfl ?_
      refine V_geti (k0 := 14) rfl dX12_types_12 s0_136 icX12 (by decide) rfl w_1203 ?_
      refine V_iload_n rfl dX12_types_15 rfl rfl ?_
      refine V_iload_n rfl dX12_types_16 rfl rfl ?_
      refine V_ishr rfl dX12_types_17 ?_
      refine V_sipush (v := 255) rfl dX12_types_18 ks_255 ?_
      refine V_iand rfl dX12_types_21 ?_
      replace h := wr_e h
      obtain ⟨hb3, h⟩ := h
      refine V_iast rfl dX12_types_22 s0_143 hb3 ?_
      refine V_aload_n rfl dX12_types_23 rfl rfl ?_
      refine V_aload_n rfl dX12_types_24 rfl rfl ?_
      refine V_geti (k0 := 14) rfl dX12_types_25 s0_136 icX12 (by decide) rfl w_1203 ?_
      refine V_iconst (v := 1) rfl dX12_types_28 kc_1 ?_
      refine V_iadd rfl dX12_types_29 ?_
      replace h := pt_e h
      refine V_putf (k0 := 14) (ty := .int) rfl dX12_types_30 s0_136 icX12 tyX12_ok nmX12 (by decide) rfl w_1203 rfl (tyX12_ok _ (by decide)) rfl rfl ?_
      replace h := lt_e h
      refine V_inc (L' := [_, _, _]) rfl dX12_types_33 rfl kc_m8 (by decide) rfl ?_
      refine V_goto (t := 3) rfl dX12_types_36 ?_
      exact V_sub (le_s (le_s (le_s le_0))) (hr3 _ _ _ h)
def f_X12_types (p1 : Int32) (M : IM) : IR := f_X12_types_3 BG p1 24 M
set_option maxRecDepth 100000 in
set_option maxHeartbeats 4000000 in
theorem t_X12_types {g : IG} {a : Nat → Nat} {R : Int32 × IM} {p1 : Int32} {M : IM} (h : f_X12_types p1 M = some R) : Cn g mX12_types 1 0 0 (qV S0 a R) [.ref (a 136), .int p1] a S0 M := by
  refine Cn_of (L := [some (.ref (a 136)), some (.int p1), none]) mf_X12_types (cat_r (cat_i cat_0)) (Nat.le_of_ble_eq_true rfl) rfl ?_
  unfold f_X12_types at h
  refine V_bipush (v := 24) rfl dX12_types_0 kb_24 ?_
  refine V_istore_n (L' := [_, _, _]) rfl rfl dX12_types_2 (by decide) rfl ?_
  exact V_sub (le_s (le_s (le_s le_0))) (t_X12_types_3 BG _ _ _ h)
-- X12_feed: NeverHaltedModel.feed(IIIII)I
def f_X12_feed (p1 : Int32) (p2 : Int32) (p3 : Int32) (p4 : Int32) (p5 : Int32) (M : IM) : IR := pt M 136 0 0 fun M1 => if (M1 136 14) ≤ 380 then cl (f_X12_types p1 M1) fun _ M4 => cl (f_X12_types p2 M4) fun _ M7 => cl (f_X12_types p3 M7) fun _ M10 => cl (f_X12_types p4 M10) fun _ M13 => cl (f_X12_types p5 M13) fun _ M16 => some ((M16 136 14), M16) else some ((-1), M1)
set_option maxRecDepth 100000 in
set_option maxHeartbeats 4000000 in
theorem t_X12_feed {g : IG} {a : Nat → Nat} {R : Int32 × IM} {p1 : Int32} {p2 : Int32} {p3 : Int32} {p4 : Int32} {p5 : Int32} {M : IM} (h : f_X12_feed p1 p2 p3 p4 p5 M = some R) : Cn g mX12_feed 2 0 0 (qI S0 a R) [.ref (a 136), .int p1, .int p2, .int p3, .int p4, .int p5] a S0 M := by
  refine Cn_of (L := [some (.ref (a 136)), some (.int p1), some (.int p2), some (.int p3), some (.int p4), some (.int p5)]) mf_X12_feed (cat_r (cat_i (cat_i (cat_i (cat_i (cat_i cat_0)))))) (Nat.le_of_ble_eq_true rfl) rfl ?_
  unfold f_X12_feed at h
  refine V_aload_n rfl dX12_feed_0 rfl rfl ?_
  refine V_iconst (v := 0) rfl dX12_feed_1 kc_0 ?_
  replace h := pt_e h
  refine V_putf (k0 := 0) (ty := .int) rfl dX12_feed_2 s0_136 icX12 tyX12_ok nmX12 (by decide) rfl w_1189 rfl (tyX12_ok _ (by decide)) rfl rfl ?_
  refine V_aload_n rfl dX12_feed_5 rfl rfl ?_
  refine V_geti (k0 := 14) rfl dX12_feed_6 s0_136 icX12 (by decide) rfl w_1203 ?_
  refine V_sipush (v := 380) rfl dX12_feed_9 ks_380 ?_
  refine V_icmp_le (t := 17) rfl rfl dX12_feed_12 (fun hc2 => ?_) (fun hc2 => ?_)
  · replace h := ifp hc2 h
    refine V_aload_n rfl dX12_feed_17 rfl rfl ?_
    refine V_iload_n rfl dX12_feed_18 rfl rfl ?_
    replace h := cl_e h
    obtain ⟨w3, M4, hc5, h⟩ := h
    refine V_iv (As := [.int _]) rfl dX12_feed_19 mf_X12_types ⟨w_1395, w_50⟩ w_1393 (by decide) s0_136 rfl rfl rfl rfl ⟨rfl, rfl⟩ (t_X12_types hc5) ?_
    refine V_aload_n rfl dX12_feed_22 rfl rfl ?_
    refine V_iload_n rfl dX12_feed_23 rfl rfl ?_
    replace h := cl_e h
    obtain ⟨w6, M7, hc8, h⟩ := h
    refine V_iv (As := [.int _]) rfl dX12_feed_24 mf_X12_types ⟨w_1395, w_50⟩ w_1393 (by decide) s0_136 rfl rfl rfl rfl ⟨rfl, rfl⟩ (t_X12_types hc8) ?_
    refine V_aload_n rfl dX12_feed_27 rfl rfl ?_
    refine V_iload_n rfl dX12_feed_28 rfl rfl ?_
    replace h := cl_e h
    obtain ⟨w9, M10, hc11, h⟩ := h
    refine V_iv (As := [.int _]) rfl dX12_feed_29 mf_X12_types ⟨w_1395, w_50⟩ w_1393 (by decide) s0_136 rfl rfl rfl rfl ⟨rfl, rfl⟩ (t_X12_types hc11) ?_
    refine V_aload_n rfl dX12_feed_32 rfl rfl ?_
    refine V_iload rfl dX12_feed_33 rfl ?_
    replace h := cl_e h
    obtain ⟨w12, M13, hc14, h⟩ := h
    refine V_iv (As := [.int _]) rfl dX12_feed_35 mf_X12_types ⟨w_1395, w_50⟩ w_1393 (by decide) s0_136 rfl rfl rfl rfl ⟨rfl, rfl⟩ (t_X12_types hc14) ?_
    refine V_aload_n rfl dX12_feed_38 rfl rfl ?_
    refine V_iload rfl dX12_feed_39 rfl ?_
    replace h := cl_e h
    obtain ⟨w15, M16, hc17, h⟩ := h
    refine V_iv (As := [.int _]) rfl dX12_feed_41 mf_X12_types ⟨w_1395, w_50⟩ w_1393 (by decide) s0_136 rfl rfl rfl rfl ⟨rfl, rfl⟩ (t_X12_types hc17) ?_
    refine V_aload_n rfl dX12_feed_44 rfl rfl ?_
    refine V_geti (k0 := 14) rfl dX12_feed_45 s0_136 icX12 (by decide) rfl w_1203 ?_
    cases h
    exact V_iret dX12_feed_48 rfl rfl (Nat.le_refl _) (Nat.le_refl _) qI_ok
  · replace h := ifn hc2 h
    refine V_iconst (v := (-1)) rfl dX12_feed_15 kc_m1 ?_
    cases h
    exact V_iret dX12_feed_16 rfl rfl (Nat.le_refl _) (Nat.le_refl _) qI_ok
-- X12_end: NeverHaltedModel.end(I)Z
def f_X12_end (p1 : Int32) (M : IM) : IR := pt M 136 0 0 fun M1 => cl (f_X12_isIn p1 0 (M1 136 14) M1) fun w2 M3 => if w2 = 0 then some (0, M3) else pt M3 136 14 p1 fun M6 => some (1, M6)
set_option maxRecDepth 100000 in
set_option maxHeartbeats 4000000 in
theorem t_X12_end {g : IG} {a : Nat → Nat} {R : Int32 × IM} {p1 : Int32} {M : IM} (h : f_X12_end p1 M = some R) : Cn g mX12_end 2 0 0 (qI S0 a R) [.ref (a 136), .int p1] a S0 M := by
  refine Cn_of (L := [some (.ref (a 136)), some (.int p1)]) mf_X12_end (cat_r (cat_i cat_0)) (Nat.le_of_ble_eq_true rfl) rfl ?_
  unfold f_X12_end at h
  refine V_aload_n rfl dX12_end_0 rfl rfl ?_
  refine V_iconst (v := 0) rfl dX12_end_1 kc_0 ?_
  replace h := pt_e h
  refine V_putf (k0 := 0) (ty := .int) rfl dX12_end_2 s0_136 icX12 tyX12_ok nmX12 (by decide) rfl w_1189 rfl (tyX12_ok _ (by decide)) rfl rfl ?_
  refine V_aload_n rfl dX12_end_5 rfl rfl ?_
  refine V_iload_n rfl dX12_end_6 rfl rfl ?_
  refine V_iconst (v := 0) rfl dX12_end_7 kc_0 ?_
  refine V_aload_n rfl dX12_end_8 rfl rfl ?_
  refine V_geti (k0 := 14) rfl dX12_end_9 s0_136 icX12 (by decide) rfl w_1203 ?_
  replace h := cl_e h
  obtain ⟨w2, M3, hc4, h⟩ := h
  refine V_ii (As := [.int _, .int _, .int _]) rfl dX12_end_12 mf_X12_isIn ⟨w_1367, w_47⟩ w_1365 (by decide) s0_136 rfl rfl rfl rfl ⟨rfl, rfl⟩ (t_X12_isIn hc4) ?_
  refine V_if_ne (t := 20) rfl rfl dX12_end_15 (fun hc5 => ?_) (fun hc5 => ?_)
  · replace h := ifn hc5 h
    refine V_aload_n rfl dX12_end_20 rfl rfl ?_
    refine V_iload_n rfl dX12_end_21 rfl rfl ?_
    replace h := pt_e h
    refine V_putf (k0 := 14) (ty := .int) rfl dX12_end_22 s0_136 icX12 tyX12_ok nmX12 (by decide) rfl w_1203 rfl (tyX12_ok _ (by decide)) rfl rfl ?_
    refine V_iconst (v := 1) rfl dX12_end_25 kc_1 ?_
    cases h
    exact V_iret dX12_end_26 rfl nz_1 (Nat.le_refl _) (Nat.le_refl _) qI_ok
  · replace h := ifp hc5 h
    refine V_iconst (v := 0) rfl dX12_end_18 kc_0 ?_
    cases h
    exact V_iret dX12_end_19 rfl nz_0 (Nat.le_refl _) (Nat.le_refl _) qI_ok
-- X12_raw: NeverHaltedModel.raw(I)I
def f_X12_raw (p1 : Int32) (M : IM) : IR := if (M 136 14) ≤ p1 then some ((-1), M) else rd M 143 400 p1 fun v2 => some (v2, M)
set_option maxRecDepth 100000 in
set_option maxHeartbeats 4000000 in
theorem t_X12_raw {g : IG} {a : Nat → Nat} {R : Int32 × IM} {p1 : Int32} {M : IM} (h : f_X12_raw p1 M = some R) : Cn g mX12_raw 1 0 0 (qI S0 a R) [.ref (a 136), .int p1] a S0 M := by
  refine Cn_of (L := [some (.ref (a 136)), some (.int p1)]) mf_X12_raw (cat_r (cat_i cat_0)) (Nat.le_of_ble_eq_true rfl) rfl ?_
  unfold f_X12_raw at h
  refine V_iload_n rfl dX12_raw_0 rfl rfl ?_
  refine V_aload_n rfl dX12_raw_1 rfl rfl ?_
  refine V_geti (k0 := 14) rfl dX12_raw_2 s0_136 icX12 (by decide) rfl w_1203 ?_
  refine V_icmp_ge (t := 17) rfl rfl dX12_raw_5 (fun hc1 => ?_) (fun hc1 => ?_)
  · replace h := ifp hc1 h
    refine V_iconst (v := (-1)) rfl dX12_raw_17 kc_m1 ?_
    cases h
    exact V_iret dX12_raw_18 rfl rfl (Nat.le_refl _) (Nat.le_refl _) qI_ok
  · replace h := ifn hc1 h
    refine V_aload_n rfl dX12_raw_8 rfl rfl ?_
    refine V_getr (k0 := 13) rfl dX12_raw_9 s0_136 icX12 (by decide) rfl w_1202 ?_
    refine V_iload_n rfl dX12_raw_12 rfl rfl ?_
    replace h := rd_e h
    obtain ⟨hb3, h⟩ := h
    refine V_iald rfl dX12_raw_13 s0_143 hb3 ?_
    refine V_goto (t := 18) rfl dX12_raw_14 ?_
    cases h
    exact V_iret dX12_raw_18 rfl rfl (Nat.le_refl _) (Nat.le_refl _) qI_ok
-- X12_isLetter: NeverHaltedModel.isLetter(I)Z
def f_X12_isLetter (p1 : Int32) (M : IM) : IR := cl (f_X12_isIn p1 97 122 M) fun w1 M2 => if w1 = 0 then cl (f_X12_isIn p1 65 90 M2) fun w5 M6 => if w5 = 0 then some (0, M6) else some (1, M6) else some (1, M2)
set_option maxRecDepth 100000 in
set_option maxHeartbeats 4000000 in
theorem t_X12_isLetter {g : IG} {a : Nat → Nat} {R : Int32 × IM} {p1 : Int32} {M : IM} (h : f_X12_isLetter p1 M = some R) : Cn g mX12_isLetter 2 0 0 (qI S0 a R) [.ref (a 136), .int p1] a S0 M := by
  refine Cn_of (L := [some (.ref (a 136)), some (.int p1)]) mf_X12_isLetter (cat_r (cat_i cat_0)) (Nat.le_of_ble_eq_true rfl) rfl ?_
  unfold f_X12_isLetter at h
  refine V_aload_n rfl dX12_isLetter_0 rfl rfl ?_
  refine V_iload_n rfl dX12_isLetter_1 rfl rfl ?_
  refine V_bipush (v := 97) rfl dX12_isLetter_2 kb_97 ?_
  refine V_bipush (v := 122) rfl dX12_isLetter_4 kb_122 ?_
  replace h := cl_e h
  obtain ⟨w1, M2, hc3, h⟩ := h
  refine V_ii (As := [.int _, .int _, .int _]) rfl dX12_isLetter_6 mf_X12_isIn ⟨w_1367, w_47⟩ w_1365 (by decide) s0_136 rfl rfl rfl rfl ⟨rfl, rfl⟩ (t_X12_isIn hc3) ?_
  refine V_if_ne (t := 24) rfl rfl dX12_isLetter_9 (fun hc4 => ?_) (fun hc4 => ?_)
  · replace h := ifn hc4 h
    refine V_iconst (v := 1) rfl dX12_isLetter_24 kc_1 ?_
    refine V_goto (t := 29) rfl dX12_isLetter_25 ?_
    cases h
    exact V_iret dX12_isLetter_29 rfl nz_1 (Nat.le_refl _) (Nat.le_refl _) qI_ok
  · replace h := ifp hc4 h
    refine V_aload_n rfl dX12_isLetter_12 rfl rfl ?_
    refine V_iload_n rfl dX12_isLetter_13 rfl rfl ?_
    refine V_bipush (v := 65) rfl dX12_isLetter_14 kb_65 ?_
    refine V_bipush (v := 90) rfl dX12_isLetter_16 kb_90 ?_
    replace h := cl_e h
    obtain ⟨w5, M6, hc7, h⟩ := h
    refine V_ii (As := [.int _, .int _, .int _]) rfl dX12_isLetter_18 mf_X12_isIn ⟨w_1367, w_47⟩ w_1365 (by decide) s0_136 rfl rfl rfl rfl ⟨rfl, rfl⟩ (t_X12_isIn hc7) ?_
    refine V_if_eq (t := 28) rfl rfl dX12_isLetter_21 (fun hc8 => ?_) (fun hc8 => ?_)
    · replace h := ifp hc8 h
      refine V_iconst (v := 0) rfl dX12_isLetter_28 kc_0 ?_
      cases h
      exact V_iret dX12_isLetter_29 rfl nz_0 (Nat.le_refl _) (Nat.le_refl _) qI_ok
    · replace h := ifn hc8 h
      refine V_iconst (v := 1) rfl dX12_isLetter_24 kc_1 ?_
      refine V_goto (t := 29) rfl dX12_isLetter_25 ?_
      cases h
      exact V_iret dX12_isLetter_29 rfl nz_1 (Nat.le_refl _) (Nat.le_refl _) qI_ok
-- X12_isDigit: NeverHaltedModel.isDigit(I)Z
def f_X12_isDigit (p1 : Int32) (M : IM) : IR := cl (f_X12_isIn p1 48 57 M) fun w1 M2 => rz w1 M2
set_option maxRecDepth 100000 in
set_option maxHeartbeats 4000000 in
theorem t_X12_isDigit {g : IG} {a : Nat → Nat} {R : Int32 × IM} {p1 : Int32} {M : IM} (h : f_X12_isDigit p1 M = some R) : Cn g mX12_isDigit 2 0 0 (qI S0 a R) [.ref (a 136), .int p1] a S0 M := by
  refine Cn_of (L := [some (.ref (a 136)), some (.int p1)]) mf_X12_isDigit (cat_r (cat_i cat_0)) (Nat.le_of_ble_eq_true rfl) rfl ?_
  unfold f_X12_isDigit at h
  refine V_aload_n rfl dX12_isDigit_0 rfl rfl ?_
  refine V_iload_n rfl dX12_isDigit_1 rfl rfl ?_
  refine V_bipush (v := 48) rfl dX12_isDigit_2 kb_48 ?_
  refine V_bipush (v := 57) rfl dX12_isDigit_4 kb_57 ?_
  replace h := cl_e h
  obtain ⟨w1, M2, hc3, h⟩ := h
  refine V_ii (As := [.int _, .int _, .int _]) rfl dX12_isDigit_6 mf_X12_isIn ⟨w_1367, w_47⟩ w_1365 (by decide) s0_136 rfl rfl rfl rfl ⟨rfl, rfl⟩ (t_X12_isIn hc3) ?_
  replace h := rz_e h
  obtain ⟨hz4, h⟩ := h
  cases h
  exact V_iret dX12_isDigit_9 rfl (nar_z hz4) (Nat.le_refl _) (Nat.le_refl _) qI_ok
-- X12_isMarkSign: NeverHaltedModel.isMarkSign(I)Z
def f_X12_isMarkSign (p1 : Int32) (M : IM) : IR := if p1 = 59 then some (1, M) else if p1 = 43 then some (1, M) else if p1 = 45 then some (1, M) else if p1 = 42 then some (1, M) else if p1 = 47 then some (1, M) else if p1 = 40 then some (1, M) else if p1 = 41 then some (1, M) else if p1 = 60 then some (1, M) else if p1 = 61 then some (1, M) else if p1 = 62 then some (1, M) else some (0, M)
set_option maxRecDepth 100000 in
set_option maxHeartbeats 4000000 in
theorem t_X12_isMarkSign {g : IG} {a : Nat → Nat} {R : Int32 × IM} {p1 : Int32} {M : IM} (h : f_X12_isMarkSign p1 M = some R) : Cn g mX12_isMarkSign 1 0 0 (qI S0 a R) [.ref (a 136), .int p1] a S0 M := by
  refine Cn_of (L := [some (.ref (a 136)), some (.int p1)]) mf_X12_isMarkSign (cat_r (cat_i cat_0)) (Nat.le_of_ble_eq_true rfl) rfl ?_
  unfold f_X12_isMarkSign at h
  refine V_iload_n rfl dX12_isMarkSign_0 rfl rfl ?_
  refine V_bipush (v := 59) rfl dX12_isMarkSign_1 kb_59 ?_
  refine V_icmp_eq (t := 60) rfl rfl dX12_isMarkSign_3 (fun hc1 => ?_) (fun hc1 => ?_)
  · replace h := ifp hc1 h
    refine V_iconst (v := 1) rfl dX12_isMarkSign_60 kc_1 ?_
    refine V_goto (t := 65) rfl dX12_isMarkSign_61 ?_
    cases h
    exact V_iret dX12_isMarkSign_65 rfl nz_1 (Nat.le_refl _) (Nat.le_refl _) qI_ok
  · replace h := ifn hc1 h
    refine V_iload_n rfl dX12_isMarkSign_6 rfl rfl ?_
    refine V_bipush (v := 43) rfl dX12_isMarkSign_7 kb_43 ?_
    refine V_icmp_eq (t := 60) rfl rfl dX12_isMarkSign_9 (fun hc2 => ?_) (fun hc2 => ?_)
    · replace h := ifp hc2 h
      refine V_iconst (v := 1) rfl dX12_isMarkSign_60 kc_1 ?_
      refine V_goto (t := 65) rfl dX12_isMarkSign_61 ?_
      cases h
      exact V_iret dX12_isMarkSign_65 rfl nz_1 (Nat.le_refl _) (Nat.le_refl _) qI_ok
    · replace h := ifn hc2 h
      refine V_iload_n rfl dX12_isMarkSign_12 rfl rfl ?_
      refine V_bipush (v := 45) rfl dX12_isMarkSign_13 kb_45 ?_
      refine V_icmp_eq (t := 60) rfl rfl dX12_isMarkSign_15 (fun hc3 => ?_) (fun hc3 => ?_)
      · replace h := ifp hc3 h
        refine V_iconst (v := 1) rfl dX12_isMarkSign_60 kc_1 ?_
        refine V_goto (t := 65) rfl dX12_isMarkSign_61 ?_
        cases h
        exact V_iret dX12_isMarkSign_65 rfl nz_1 (Nat.le_refl _) (Nat.le_refl _) qI_ok
      · replace h := ifn hc3 h
        refine V_iload_n rfl dX12_isMarkSign_18 rfl rfl ?_
        refine V_bipush (v := 42) rfl dX12_isMarkSign_19 kb_42 ?_
        refine V_icmp_eq (t := 60) rfl rfl dX12_isMarkSign_21 (fun hc4 => ?_) (fun hc4 => ?_)
        · replace h := ifp hc4 h
          refine V_iconst (v := 1) rfl dX12_isMarkSign_60 kc_1 ?_
          refine V_goto (t := 65) rfl dX12_isMarkSign_61 ?_
          cases h
          exact V_iret dX12_isMarkSign_65 rfl nz_1 (Nat.le_refl _) (Nat.le_refl _) qI_ok
        · replace h := ifn hc4 h
          refine V_iload_n rfl dX12_isMarkSign_24 rfl rfl ?_
          refine V_bipush (v := 47) rfl dX12_isMarkSign_25 kb_47 ?_
          refine V_icmp_eq (t := 60) rfl rfl dX12_isMarkSign_27 (fun hc5 => ?_) (fun hc5 => ?_)
          · replace h := ifp hc5 h
            refine V_iconst (v := 1) rfl dX12_isMarkSign_60 kc_1 ?_
            refine V_goto (t := 65) rfl dX12_isMarkSign_61 ?_
            cases h
            exact V_iret dX12_isMarkSign_65 rfl nz_1 (Nat.le_refl _) (Nat.le_refl _) qI_ok
          · replace h := ifn hc5 h
            refine V_iload_n rfl dX12_isMarkSign_30 rfl rfl ?_
            refine V_bipush (v := 40) rfl dX12_isMarkSign_31 kb_40 ?_
            refine V_icmp_eq (t := 60) rfl rfl dX12_isMarkSign_33 (fun hc6 => ?_) (fun hc6 => ?_)
            · replace h := ifp hc6 h
              refine V_iconst (v := 1) rfl dX12_isMarkSign_60 kc_1 ?_
              refine V_goto (t := 65) rfl dX12_isMarkSign_61 ?_
              cases h
              exact V_iret dX12_isMarkSign_65 rfl nz_1 (Nat.le_refl _) (Nat.le_refl _) qI_ok
            · replace h := ifn hc6 h
              refine V_iload_n rfl dX12_isMarkSign_36 rfl rfl ?_
              refine V_bipush (v := 41) rfl dX12_isMarkSign_37 kb_41 ?_
              refine V_icmp_eq (t := 60) rfl rfl dX12_isMarkSign_39 (fun hc7 => ?_) (fun hc7 => ?_)
              · replace h := ifp hc7 h
                refine V_iconst (v := 1) rfl dX12_isMarkSign_60 kc_1 ?_
                refine V_goto (t := 65) rfl dX12_isMarkSign_61 ?_
                cases h
                exact V_iret dX12_isMarkSign_65 rfl nz_1 (Nat.le_refl _) (Nat.le_refl _) qI_ok
              · replace h := ifn hc7 h
                refine V_iload_n rfl dX12_isMarkSign_42 rfl rfl ?_
                refine V_bipush (v := 60) rfl dX12_isMarkSign_43 kb_60 ?_
                refine V_icmp_eq (t := 60) rfl rfl dX12_isMarkSign_45 (fun hc8 => ?_) (fun hc8 => ?_)
                · replace h := ifp hc8 h
                  refine V_iconst (v := 1) rfl dX12_isMarkSign_60 kc_1 ?_
                  refine V_goto (t := 65) rfl dX12_isMarkSign_61 ?_
                  cases h
                  exact V_iret dX12_isMarkSign_65 rfl nz_1 (Nat.le_refl _) (Nat.le_refl _) qI_ok
                · replace h := ifn hc8 h
                  refine V_iload_n rfl dX12_isMarkSign_48 rfl rfl ?_
                  refine V_bipush (v := 61) rfl dX12_isMarkSign_49 kb_61 ?_
                  refine V_icmp_eq (t := 60) rfl rfl dX12_isMarkSign_51 (fun hc9 => ?_) (fun hc9 => ?_)
                  · replace h := ifp hc9 h
                    refine V_iconst (v := 1) rfl dX12_isMarkSign_60 kc_1 ?_
                    refine V_goto (t := 65) rfl dX12_isMarkSign_61 ?_
                    cases h
                    exact V_iret dX12_isMarkSign_65 rfl nz_1 (Nat.le_refl _) (Nat.le_refl _) qI_ok
                  · replace h := ifn hc9 h
                    refine V_iload_n rfl dX12_isMarkSign_54 rfl rfl ?_
                    refine V_bipush (v := 62) rfl dX12_isMarkSign_55 kb_62 ?_
                    refine V_icmp_ne (t := 64) rfl rfl dX12_isMarkSign_57 (fun hc10 => ?_) (fun hc10 => ?_)
                    · replace h := ifn hc10 h
                      refine V_iconst (v := 0) rfl dX12_isMarkSign_64 kc_0 ?_
                      cases h
                      exact V_iret dX12_isMarkSign_65 rfl nz_0 (Nat.le_refl _) (Nat.le_refl _) qI_ok
                    · replace h := ifp hc10 h
                      refine V_iconst (v := 1) rfl dX12_isMarkSign_60 kc_1 ?_
                      refine V_goto (t := 65) rfl dX12_isMarkSign_61 ?_
                      cases h
                      exact V_iret dX12_isMarkSign_65 rfl nz_1 (Nat.le_refl _) (Nat.le_refl _) qI_ok
