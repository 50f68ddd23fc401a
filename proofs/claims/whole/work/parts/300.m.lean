-- X5_forget: NeverHalted$Past.forget()V
def f_X5_forget (M : IM) : IR := pt M 34 0 0 fun M1 => some (0, M1)
set_option maxRecDepth 100000 in
set_option maxHeartbeats 4000000 in
theorem t_X5_forget {g : IG} {a : Nat → Nat} {R : Int32 × IM} {M : IM} (h : f_X5_forget M = some R) : Cn g mX5_forget 1 0 0 (qV S0 a R) [.ref (a 34)] a S0 M := by
  refine Cn_of (L := [some (.ref (a 34))]) mf_X5_forget (cat_r cat_0) (Nat.le_of_ble_eq_true rfl) rfl ?_
  unfold f_X5_forget at h
  refine V_aload_n rfl dX5_forget_0 rfl rfl ?_
  refine V_iconst (v := 0) rfl dX5_forget_1 kc_0 ?_
  replace h := pt_e h
  refine V_putf (k0 := 0) (ty := .int) rfl dX5_forget_2 s0_34 icX5 tyX5_ok nmX5 (by decide) rfl w_403 rfl (tyX5_ok _ (by decide)) rfl rfl ?_
  cases h
  exact V_vret dX5_forget_5 rfl (Nat.le_refl _) (Nat.le_refl _) qV_ok
-- X11_state: NeverHalted.state(I)I
def f_X11_state (p1 : Int32) (M : IM) : IR := lt (M 1 0) fun v1 => pt M 1 0 p1 fun M2 => cl (f_X5_forget M2) fun _ M4 => some (v1, M4)
set_option maxRecDepth 100000 in
set_option maxHeartbeats 4000000 in
theorem t_X11_state {g : IG} {a : Nat → Nat} {R : Int32 × IM} {p1 : Int32} {M : IM} (h : f_X11_state p1 M = some R) : Cn g mX11_state 2 0 0 (qI S0 a R) [.ref (a 0), .int p1] a S0 M := by
  refine Cn_of (L := [some (.ref (a 0)), some (.int p1), none]) mf_X11_state (cat_r (cat_i cat_0)) (Nat.le_of_ble_eq_true rfl) rfl ?_
  unfold f_X11_state at h
  refine V_aload_n rfl dX11_state_0 rfl rfl ?_
  refine V_getr (k0 := 0) rfl dX11_state_1 s0_0 icX11 (by decide) rfl w_523 ?_
  refine V_geti (k0 := 0) rfl dX11_state_4 s0_1 icX4 (by decide) rfl w_175 ?_
  replace h := lt_e h
  refine V_istore_n (L' := [_, _, _]) rfl rfl dX11_state_7 (by decide) rfl ?_
  refine V_aload_n rfl dX11_state_8 rfl rfl ?_
  refine V_getr (k0 := 0) rfl dX11_state_9 s0_0 icX11 (by decide) rfl w_523 ?_
  refine V_iload_n rfl dX11_state_12 rfl rfl ?_
  replace h := pt_e h
  refine V_putf (k0 := 0) (ty := .int) rfl dX11_state_13 s0_1 icX4 tyX4_ok nmX4 (by decide) rfl w_175 rfl (tyX4_ok _ (by decide)) rfl rfl ?_
  refine V_aload_n rfl dX11_state_16 rfl rfl ?_
  refine V_getr (k0 := 3) rfl dX11_state_17 s0_0 icX11 (by decide) rfl w_526 ?_
  replace h := cl_e h
  obtain ⟨w3, M4, hc5, h⟩ := h
  refine V_iv (As := []) rfl dX11_state_20 mf_X5_forget ⟨w_583, w_584⟩ w_582 (by decide) s0_34 rfl rfl rfl rfl ⟨rfl, rfl⟩ (t_X5_forget hc5) ?_
  refine V_iload_n rfl dX11_state_23 rfl rfl ?_
  cases h
  exact V_iret dX11_state_24 rfl rfl (Nat.le_refl _) (Nat.le_refl _) qI_ok
-- X11_isParish: NeverHalted.isParish(I)Z
def f_X11_isParish (p0 : Int32) (M : IM) : IR := if p0 < 0 then some (0, M) else if 8 ≤ p0 then some (0, M) else some (1, M)
set_option maxRecDepth 100000 in
set_option maxHeartbeats 4000000 in
theorem t_X11_isParish {g : IG} {a : Nat → Nat} {R : Int32 × IM} {p0 : Int32} {M : IM} (h : f_X11_isParish p0 M = some R) : Cn g mX11_isParish 1 0 0 (qI S0 a R) [.int p0] a S0 M := by
  refine Cn_of (L := [some (.int p0)]) mf_X11_isParish (cat_i cat_0) (Nat.le_of_ble_eq_true rfl) rfl ?_
  unfold f_X11_isParish at h
  refine V_iload_n rfl dX11_isParish_0 rfl rfl ?_
  refine V_if_lt (t := 14) rfl rfl dX11_isParish_1 (fun hc1 => ?_) (fun hc1 => ?_)
  · replace h := ifp hc1 h
    refine V_iconst (v := 0) rfl dX11_isParish_14 kc_0 ?_
    cases h
    exact V_iret dX11_isParish_15 rfl nz_0 (Nat.le_refl _) (Nat.le_refl _) qI_ok
  · replace h := ifn hc1 h
    refine V_iload_n rfl dX11_isParish_4 rfl rfl ?_
    refine V_bipush (v := 8) rfl dX11_isParish_5 kb_8 ?_
    refine V_icmp_ge (t := 14) rfl rfl dX11_isParish_7 (fun hc2 => ?_) (fun hc2 => ?_)
    · replace h := ifp hc2 h
      refine V_iconst (v := 0) rfl dX11_isParish_14 kc_0 ?_
      cases h
      exact V_iret dX11_isParish_15 rfl nz_0 (Nat.le_refl _) (Nat.le_refl _) qI_ok
    · replace h := ifn hc2 h
      refine V_iconst (v := 1) rfl dX11_isParish_10 kc_1 ?_
      refine V_goto (t := 15) rfl dX11_isParish_11 ?_
      cases h
      exact V_iret dX11_isParish_15 rfl nz_1 (Nat.le_refl _) (Nat.le_refl _) qI_ok
-- X11_within: NeverHalted.within(III)Z
def f_X11_within (p0 : Int32) (p1 : Int32) (p2 : Int32) (M : IM) : IR := if p0 < p1 then some (0, M) else if p2 < p0 then some (0, M) else some (1, M)
set_option maxRecDepth 100000 in
set_option maxHeartbeats 4000000 in
theorem t_X11_within {g : IG} {a : Nat → Nat} {R : Int32 × IM} {p0 : Int32} {p1 : Int32} {p2 : Int32} {M : IM} (h : f_X11_within p0 p1 p2 M = some R) : Cn g mX11_within 1 0 0 (qI S0 a R) [.int p0, .int p1, .int p2] a S0 M := by
  refine Cn_of (L := [some (.int p0), some (.int p1), some (.int p2)]) mf_X11_within (cat_i (cat_i (cat_i cat_0))) (Nat.le_of_ble_eq_true rfl) rfl ?_
  unfold f_X11_within at h
  refine V_iload_n rfl dX11_within_0 rfl rfl ?_
  refine V_iload_n rfl dX11_within_1 rfl rfl ?_
  refine V_icmp_lt (t := 14) rfl rfl dX11_within_2 (fun hc1 => ?_) (fun hc1 => ?_)
  · replace h := ifp hc1 h
    refine V_iconst (v := 0) rfl dX11_within_14 kc_0 ?_
    cases h
    exact V_iret dX11_within_15 rfl nz_0 (Nat.le_refl _) (Nat.le_refl _) qI_ok
  · replace h := ifn hc1 h
    refine V_iload_n rfl dX11_within_5 rfl rfl ?_
    refine V_iload_n rfl dX11_within_6 rfl rfl ?_
    refine V_icmp_gt (t := 14) rfl rfl dX11_within_7 (fun hc2 => ?_) (fun hc2 => ?_)
    · replace h := ifp hc2 h
      refine V_iconst (v := 0) rfl dX11_within_14 kc_0 ?_
      cases h
      exact V_iret dX11_within_15 rfl nz_0 (Nat.le_refl _) (Nat.le_refl _) qI_ok
    · replace h := ifn hc2 h
      refine V_iconst (v := 1) rfl dX11_within_10 kc_1 ?_
      refine V_goto (t := 15) rfl dX11_within_11 ?_
      cases h
      exact V_iret dX11_within_15 rfl nz_1 (Nat.le_refl _) (Nat.le_refl _) qI_ok
-- X11_walker: NeverHalted.walker(II)I
def f_X11_walker (p1 : Int32) (p2 : Int32) (M : IM) : IR := cl (f_X11_isParish p1 M) fun w1 M2 => if w1 = 0 then some ((-1), M2) else cl (f_X11_within p2 0 1 M2) fun w5 M6 => if w5 = 0 then some ((-1), M6) else if (M6 1 10) < 10 then lt (M6 1 10) fun v10 => wr M6 2 10 v10 p1 fun M11 => wr M11 3 10 v10 p2 fun M13 => wr M13 4 10 v10 0 fun M15 => wr M15 5 10 v10 0 fun M17 => pt M17 1 10 (v10 + 1) fun M19 => cl (f_X5_forget M19) fun _ M21 => some (v10, M21) else some ((-1), M6)
set_option maxRecDepth 100000 in
set_option maxHeartbeats 4000000 in
theorem t_X11_walker {g : IG} {a : Nat → Nat} {R : Int32 × IM} {p1 : Int32} {p2 : Int32} {M : IM} (h : f_X11_walker p1 p2 M = some R) : Cn g mX11_walker 2 0 0 (qI S0 a R) [.ref (a 0), .int p1, .int p2] a S0 M := by
  refine Cn_of (L := [some (.ref (a 0)), some (.int p1), some (.int p2), none]) mf_X11_walker (cat_r (cat_i (cat_i cat_0))) (Nat.le_of_ble_eq_true rfl) rfl ?_
  unfold f_X11_walker at h
  refine V_iload_n rfl dX11_walker_0 rfl rfl ?_
  replace h := cl_e h
  obtain ⟨w1, M2, hc3, h⟩ := h
  refine V_si (As := [.int _]) rfl dX11_walker_1 mf_X11_isParish w_591 w_590 (by decide) rfl rfl rfl ⟨rfl, rfl⟩ (t_X11_isParish hc3) ?_
  refine V_if_eq (t := 28) rfl rfl dX11_walker_4 (fun hc4 => ?_) (fun hc4 => ?_)
  · replace h := ifp hc4 h
    refine V_iconst (v := (-1)) rfl dX11_walker_28 kc_m1 ?_
    cases h
    exact V_iret dX11_walker_29 rfl rfl (Nat.le_refl _) (Nat.le_refl _) qI_ok
  · replace h := ifn hc4 h
    refine V_iload_n rfl dX11_walker_7 rfl rfl ?_
    refine V_iconst (v := 0) rfl dX11_walker_8 kc_0 ?_
    refine V_iconst (v := 1) rfl dX11_walker_9 kc_1 ?_
    replace h := cl_e h
    obtain ⟨w5, M6, hc7, h⟩ := h
    refine V_si (As := [.int _, .int _, .int _]) rfl dX11_walker_10 mf_X11_within w_594 w_593 (by decide) rfl rfl rfl ⟨rfl, rfl⟩ (t_X11_within hc7) ?_
    refine V_if_eq (t := 28) rfl rfl dX11_walker_13 (fun hc8 => ?_) (fun hc8 => ?_)
    · replace h := ifp hc8 h
      refine V_iconst (v := (-1)) rfl dX11_walker_28 kc_m1 ?_
      cases h
      exact V_iret dX11_walker_29 rfl rfl (Nat.le_refl _) (Nat.le_refl _) qI_ok
    · replace h := ifn hc8 h
      refine V_aload_n rfl dX11_walker_16 rfl rfl ?_
      refine V_getr (k0 := 0) rfl dX11_walker_17 s0_0 icX11 (by decide) rfl w_523 ?_
      refine V_geti (k0 := 10) rfl dX11_walker_20 s0_1 icX4 (by decide) rfl w_201 ?_
      refine V_bipush (v := 10) rfl dX11_walker_23 kb_10 ?_
      refine V_icmp_lt (t := 30) rfl rfl dX11_walker_25 (fun hc9 => ?_) (fun hc9 => ?_)
      · replace h := ifp hc9 h
        refine V_aload_n rfl dX11_walker_30 rfl rfl ?_
        refine V_getr (k0 := 0) rfl dX11_walker_31 s0_0 icX11 (by decide) rfl w_523 ?_
        refine V_geti (k0 := 10) rfl dX11_walker_34 s0_1 icX4 (by decide) rfl w_201 ?_
        replace h := lt_e h
        refine V_istore_n (L' := [_, _, _, _]) rfl rfl dX11_walker_37 (by decide) rfl ?_
        refine V_aload_n rfl dX11_walker_38 rfl rfl ?_
        refine V_getr (k0 := 0) rfl dX11_walker_39 s0_0 icX11 (by decide) rfl w_523 ?_
        refine V_getr (k0 := 11) rfl dX11_walker_42 s0_1 icX4 (by decide) rfl w_204 ?_
        refine V_iload_n rfl dX11_walker_45 rfl rfl ?_
        refine V_iload_n rfl dX11_walker_46 rfl rfl ?_
        replace h := wr_e h
        obtain ⟨hb12, h⟩ := h
        refine V_iast rfl dX11_walker_47 s0_2 hb12 ?_
        refine V_aload_n rfl dX11_walker_48 rfl rfl ?_
        refine V_getr (k0 := 0) rfl dX11_walker_49 s0_0 icX11 (by decide) rfl w_523 ?_
        refine V_getr (k0 := 12) rfl dX11_walker_52 s0_1 icX4 (by decide) rfl w_207 ?_
        refine V_iload_n rfl dX11_walker_55 rfl rfl ?_
        refine V_iload_n rfl dX11_walker_56 rfl rfl ?_
        replace h := wr_e h
        obtain ⟨hb14, h⟩ := h
        refine V_iast rfl dX11_walker_57 s0_3 hb14 ?_
        refine V_aload_n rfl dX11_walker_58 rfl rfl ?_
        refine V_getr (k0 := 0) rfl dX11_walker_59 s0_0 icX11 (by decide) rfl w_523 ?_
        refine V_getr (k0 := 13) rfl dX11_walker_62 s0_1 icX4 (by decide) rfl w_210 ?_
        refine V_iload_n rfl dX11_walker_65 rfl rfl ?_
        refine V_iconst (v := 0) rfl dX11_walker_66 kc_0 ?_
        replace h := wr_e h
        obtain ⟨hb16, h⟩ := h
        refine V_iast rfl dX11_walker_67 s0_4 hb16 ?_
        refine V_aload_n rfl dX11_walker_68 rfl rfl ?_
        refine V_getr (k0 := 0) rfl dX11_walker_69 s0_0 icX11 (by decide) rfl w_523 ?_
        refine V_getr (k0 := 14) rfl dX11_walker_72 s0_1 icX4 (by decide) rfl w_213 ?_
        refine V_iload_n rfl dX11_walker_75 rfl rfl ?_
        refine V_iconst (v := 0) rfl dX11_walker_76 kc_0 ?_
        replace h := wr_e h
        obtain ⟨hb18, h⟩ := h
        refine V_iast rfl dX11_walker_77 s0_5 hb18 ?_
        refine V_aload_n rfl dX11_walker_78 rfl rfl ?_
        refine V_getr (k0 := 0) rfl dX11_walker_79 s0_0 icX11 (by decide) rfl w_523 ?_
        refine V_iload_n rfl dX11_walker_82 rfl rfl ?_
        refine V_iconst (v := 1) rfl dX11_walker_83 kc_1 ?_
        refine V_iadd rfl dX11_walker_84 ?_
        replace h := pt_e h
        refine V_putf (k0 := 10) (ty := .int) rfl dX11_walker_85 s0_1 icX4 tyX4_ok nmX4 (by decide) rfl w_201 rfl (tyX4_ok _ (by decide)) rfl rfl ?_
        refine V_aload_n rfl dX11_walker_88 rfl rfl ?_
        refine V_getr (k0 := 3) rfl dX11_walker_89 s0_0 icX11 (by decide) rfl w_526 ?_
        replace h := cl_e h
        obtain ⟨w20, M21, hc22, h⟩ := h
        refine V_iv (As := []) rfl dX11_walker_92 mf_X5_forget ⟨w_583, w_584⟩ w_582 (by decide) s0_34 rfl rfl rfl rfl ⟨rfl, rfl⟩ (t_X5_forget hc22) ?_
        refine V_iload_n rfl dX11_walker_95 rfl rfl ?_
        cases h
        exact V_iret dX11_walker_96 rfl rfl (Nat.le_refl _) (Nat.le_refl _) qI_ok
      · replace h := ifn hc9 h
        refine V_iconst (v := (-1)) rfl dX11_walker_28 kc_m1 ?_
        cases h
        exact V_iret dX11_walker_29 rfl rfl (Nat.le_refl _) (Nat.le_refl _) qI_ok
-- X11_isWalker: NeverHalted.isWalker(I)Z
def f_X11_isWalker (p1 : Int32) (M : IM) : IR := if p1 < 0 then some (0, M) else if (M 1 10) ≤ p1 then some (0, M) else some (1, M)
set_option maxRecDepth 100000 in
set_option maxHeartbeats 4000000 in
theorem t_X11_isWalker {g : IG} {a : Nat → Nat} {R : Int32 × IM} {p1 : Int32} {M : IM} (h : f_X11_isWalker p1 M = some R) : Cn g mX11_isWalker 1 0 0 (qI S0 a R) [.ref (a 0), .int p1] a S0 M := by
  refine Cn_of (L := [some (.ref (a 0)), some (.int p1)]) mf_X11_isWalker (cat_r (cat_i cat_0)) (Nat.le_of_ble_eq_true rfl) rfl ?_
  unfold f_X11_isWalker at h
  refine V_iload_n rfl dX11_isWalker_0 rfl rfl ?_
  refine V_if_lt (t := 19) rfl rfl dX11_isWalker_1 (fun hc1 => ?_) (fun hc1 => ?_)
  · replace h := ifp hc1 h
    refine V_iconst (v := 0) rfl dX11_isWalker_19 kc_0 ?_
    cases h
    exact V_iret dX11_isWalker_20 rfl nz_0 (Nat.le_refl _) (Nat.le_refl _) qI_ok
  · replace h := ifn hc1 h
    refine V_iload_n rfl dX11_isWalker_4 rfl rfl ?_
    refine V_aload_n rfl dX11_isWalker_5 rfl rfl ?_
    refine V_getr (k0 := 0) rfl dX11_isWalker_6 s0_0 icX11 (by decide) rfl w_523 ?_
    refine V_geti (k0 := 10) rfl dX11_isWalker_9 s0_1 icX4 (by decide) rfl w_201 ?_
    refine V_icmp_ge (t := 19) rfl rfl dX11_isWalker_12 (fun hc2 => ?_) (fun hc2 => ?_)
    · replace h := ifp hc2 h
      refine V_iconst (v := 0) rfl dX11_isWalker_19 kc_0 ?_
      cases h
      exact V_iret dX11_isWalker_20 rfl nz_0 (Nat.le_refl _) (Nat.le_refl _) qI_ok
    · replace h := ifn hc2 h
      refine V_iconst (v := 1) rfl dX11_isWalker_15 kc_1 ?_
      refine V_goto (t := 20) rfl dX11_isWalker_16 ?_
      cases h
      exact V_iret dX11_isWalker_20 rfl nz_1 (Nat.le_refl _) (Nat.le_refl _) qI_ok
-- X11_canBeSet: NeverHalted.canBeSet(III)Z
def f_X11_canBeSet (p1 : Int32) (p2 : Int32) (p3 : Int32) (M : IM) : IR := if p1 = 0 then cl (f_X11_within p3 0 10 M) fun w2 M3 => rz w2 M3 else if p1 = 1 then cl (f_X11_within p3 0 9999 M) fun w7 M8 => rz w7 M8 else if p1 = 2 then cl (f_X11_within p3 0 1000 M) fun w12 M13 => rz w12 M13 else if p1 = 3 then cl (f_X11_within p3 0 1000 M) fun w17 M18 => rz w17 M18 else if p1 = 4 then cl (f_X11_isWalker p2 M) fun w22 M23 => if w22 = 0 then some (0, M23) else cl (f_X11_within p3 0 999 M23) fun w26 M27 => if w26 = 0 then some (0, M27) else some (1, M27) else if p1 = 5 then cl (f_X11_isWalker p2 M) fun w31 M32 => if w31 = 0 then some (0, M32) else cl (f_X11_within p3 0 1 M32) fun w35 M36 => if w35 = 0 then some (0, M36) else some (1, M36) else some (0, M)
set_option maxRecDepth 100000 in
set_option maxHeartbeats 4000000 in
theorem t_X11_canBeSet {g : IG} {a : Nat → Nat} {R : Int32 × IM} {p1 : Int32} {p2 : Int32} {p3 : Int32} {M : IM} (h : f_X11_canBeSet p1 p2 p3 M = some R) : Cn g mX11_canBeSet 2 0 0 (qI S0 a R) [.ref (a 0), .int p1, .int p2, .int p3] a S0 M := by
  refine Cn_of (L := [some (.ref (a 0)), some (.int p1), some (.int p2), some (.int p3)]) mf_X11_canBeSet (cat_r (cat_i (cat_i (cat_i cat_0)))) (Nat.le_of_ble_eq_true rfl) rfl ?_
  unfold f_X11_canBeSet at h
  refine V_iload_n rfl dX11_canBeSet_0 rfl rfl ?_
  replace h := ift h
  rcases h with ⟨hc1, h⟩ | ⟨hc1, h⟩
  · refine V_tabAt (off := 39) (t := 40) hc1 dX11_canBeSet_1 (by decide +kernel) rfl ?_
    refine V_iload_n rfl dX11_canBeSet_40 rfl rfl ?_
    refine V_iconst (v := 0) rfl dX11_canBeSet_41 kc_0 ?_
    refine V_bipush (v := 10) rfl dX11_canBeSet_42 kb_10 ?_
    replace h := cl_e h
    obtain ⟨w2, M3, hc4, h⟩ := h
    refine V_si (As := [.int _, .int _, .int _]) rfl dX11_canBeSet_44 mf_X11_within w_594 w_593 (by decide) rfl rfl rfl ⟨rfl, rfl⟩ (t_X11_within hc4) ?_
    replace h := rz_e h
    obtain ⟨hz5, h⟩ := h
    cases h
    exact V_iret dX11_canBeSet_47 rfl (nar_z hz5) (Nat.le_refl _) (Nat.le_refl _) qI_ok
  replace h := ift h
  rcases h with ⟨hc6, h⟩ | ⟨hc6, h⟩
  · refine V_tabAt (off := 47) (t := 48) hc6 dX11_canBeSet_1 (by decide +kernel) rfl ?_
    refine V_iload_n rfl dX11_canBeSet_48 rfl rfl ?_
    refine V_iconst (v := 0) rfl dX11_canBeSet_49 kc_0 ?_
    refine V_sipush (v := 9999) rfl dX11_canBeSet_50 ks_9999 ?_
    replace h := cl_e h
    obtain ⟨w7, M8, hc9, h⟩ := h
    refine V_si (As := [.int _, .int _, .int _]) rfl dX11_canBeSet_53 mf_X11_within w_594 w_593 (by decide) rfl rfl rfl ⟨rfl, rfl⟩ (t_X11_within hc9) ?_
    replace h := rz_e h
    obtain ⟨hz10, h⟩ := h
    cases h
    exact V_iret dX11_canBeSet_56 rfl (nar_z hz10) (Nat.le_refl _) (Nat.le_refl _) qI_ok
  replace h := ift h
  rcases h with ⟨hc11, h⟩ | ⟨hc11, h⟩
  · refine V_tabAt (off := 56) (t := 57) hc11 dX11_canBeSet_1 (by decide +kernel) rfl ?_
    refine V_iload_n rfl dX11_canBeSet_57 rfl rfl ?_
    refine V_iconst (v := 0) rfl dX11_canBeSet_58 kc_0 ?_
    refine V_sipush (v := 1000) rfl dX11_canBeSet_59 ks_1000 ?_
    replace h := cl_e h
    obtain ⟨w12, M13, hc14, h⟩ := h
    refine V_si (As := [.int _, .int _, .int _]) rfl dX11_canBeSet_62 mf_X11_within w_594 w_593 (by decide) rfl rfl rfl ⟨rfl, rfl⟩ (t_X11_within hc14) ?_
    replace h := rz_e h
    obtain ⟨hz15, h⟩ := h
    cases h
    exact V_iret dX11_canBeSet_65 rfl (nar_z hz15) (Nat.le_refl _) (Nat.le_refl _) qI_ok
  replace h := ift h
  rcases h with ⟨hc16, h⟩ | ⟨hc16, h⟩
  · refine V_tabAt (off := 65) (t := 66) hc16 dX11_canBeSet_1 (by decide +kernel) rfl ?_
    refine V_iload_n rfl dX11_canBeSet_66 rfl rfl ?_
    refine V_iconst (v := 0) rfl dX11_canBeSet_67 kc_0 ?_
    refine V_sipush (v := 1000) rfl dX11_canBeSet_68 ks_1000 ?_
    replace h := cl_e h
    obtain ⟨w17, M18, hc19, h⟩ := h
    refine V_si (As := [.int _, .int _, .int _]) rfl dX11_canBeSet_71 mf_X11_within w_594 w_593 (by decide) rfl rfl rfl ⟨rfl, rfl⟩ (t_X11_within hc19) ?_
    replace h := rz_e h
    obtain ⟨hz20, h⟩ := h
    cases h
    exact V_iret dX11_canBeSet_74 rfl (nar_z hz20) (Nat.le_refl _) (Nat.le_refl _) qI_ok
  replace h := ift h
  rcases h with ⟨hc21, h⟩ | ⟨hc21, h⟩
  · refine V_tabAt (off := 74) (t := 75) hc21 dX11_canBeSet_1 (by decide +kernel) rfl ?_
    refine V_aload_n rfl dX11_canBeSet_75 rfl rfl ?_
    refine V_iload_n rfl dX11_canBeSet_76 rfl rfl ?_
    replace h := cl_e h
    obtain ⟨w22, M23, hc24, h⟩ := h
    refine V_ii (As := [.int _]) rfl dX11_canBeSet_77 mf_X11_isWalker ⟨w_606, w_1⟩ w_604 (by decide) s0_0 rfl rfl rfl rfl ⟨rfl, rfl⟩ (t_X11_isWalker hc24) ?_
    refine V_if_eq (t := 98) rfl rfl dX11_canBeSet_80 (fun hc25 => ?_) (fun hc25 => ?_)
    · replace h := ifp hc25 h
      refine V_iconst (v := 0) rfl dX11_canBeSet_98 kc_0 ?_
      cases h
      exact V_iret dX11_canBeSet_99 rfl nz_0 (Nat.le_refl _) (Nat.le_refl _) qI_ok
    · replace h := ifn hc25 h
      refine V_iload_n rfl dX11_canBeSet_83 rfl rfl ?_
      refine V_iconst (v := 0) rfl dX11_canBeSet_84 kc_0 ?_
      refine V_sipush (v := 999) rfl dX11_canBeSet_85 ks_999 ?_
      replace h := cl_e h
      obtain ⟨w26, M27, hc28, h⟩ := h
      refine V_si (As := [.int _, .int _, .int _]) rfl dX11_canBeSet_88 mf_X11_within w_594 w_593 (by decide) rfl rfl rfl ⟨rfl, rfl⟩ (t_X11_within hc28) ?_
      refine V_if_eq (t := 98) rfl rfl dX11_canBeSet_91 (fun hc29 => ?_) (fun hc29 => ?_)
      · replace h := ifp hc29 h
        refine V_iconst (v := 0) rfl dX11_canBeSet_98 kc_0 ?_
        cases h
        exact V_iret dX11_canBeSet_99 rfl nz_0 (Nat.le_refl _) (Nat.le_refl _) qI_ok
      · replace h := ifn hc29 h
        refine V_iconst (v := 1) rfl dX11_canBeSet_94 kc_1 ?_
        refine V_goto (t := 99) rfl dX11_canBeSet_95 ?_
        cases h
        exact V_iret dX11_canBeSet_99 rfl nz_1 (Nat.le_refl _) (Nat.le_refl _) qI_ok
  replace h := ift h
  rcases h with ⟨hc30, h⟩ | ⟨hc30, h⟩
  · refine V_tabAt (off := 99) (t := 100) hc30 dX11_canBeSet_1 (by decide +kernel) rfl ?_
    refine V_aload_n rfl dX11_canBeSet_100 rfl rfl ?_
    refine V_iload_n rfl dX11_canBeSet_101 rfl rfl ?_
    replace h := cl_e h
    obtain ⟨w31, M32, hc33, h⟩ := h
    refine V_ii (As := [.int _]) rfl dX11_canBeSet_102 mf_X11_isWalker ⟨w_606, w_1⟩ w_604 (by decide) s0_0 rfl rfl rfl rfl ⟨rfl, rfl⟩ (t_X11_isWalker hc33) ?_
    refine V_if_eq (t := 121) rfl rfl dX11_canBeSet_105 (fun hc34 => ?_) (fun hc34 => ?_)
    · replace h := ifp hc34 h
      refine V_iconst (v := 0) rfl dX11_canBeSet_121 kc_0 ?_
      cases h
      exact V_iret dX11_canBeSet_122 rfl nz_0 (Nat.le_refl _) (Nat.le_refl _) qI_ok
    · replace h := ifn hc34 h
      refine V_iload_n rfl dX11_canBeSet_108 rfl rfl ?_
      refine V_iconst (v := 0) rfl dX11_canBeSet_109 kc_0 ?_
      refine V_iconst (v := 1) rfl dX11_canBeSet_110 kc_1 ?_
      replace h := cl_e h
      obtain ⟨w35, M36, hc37, h⟩ := h
      refine V_si (As := [.int _, .int _, .int _]) rfl dX11_canBeSet_111 mf_X11_within w_594 w_593 (by decide) rfl rfl rfl ⟨rfl, rfl⟩ (t_X11_within hc37) ?_
      refine V_if_eq (t := 121) rfl rfl dX11_canBeSet_114 (fun hc38 => ?_) (fun hc38 => ?_)
      · replace h := ifp hc38 h
        refine V_iconst (v := 0) rfl dX11_canBeSet_121 kc_0 ?_
        cases h
        exact V_iret dX11_canBeSet_122 rfl nz_0 (Nat.le_refl _) (Nat.le_refl _) qI_ok
      · replace h := ifn hc38 h
        refine V_iconst (v := 1) rfl dX11_canBeSet_117 kc_1 ?_
        refine V_goto (t := 122) rfl dX11_canBeSet_118 ?_
        cases h
        exact V_iret dX11_canBeSet_122 rfl nz_1 (Nat.le_refl _) (Nat.le_refl _) qI_ok
  refine V_tabOut (t := 123) dX11_canBeSet_1 (by have hc1i := ne_toInt (z := 0) (k := 0) hc1 (by decide +kernel); have hc6i := ne_toInt (z := 1) (k := 1) hc6 (by decide +kernel); have hc11i := ne_toInt (z := 2) (k := 2) hc11 (by decide +kernel); have hc16i := ne_toInt (z := 3) (k := 3) hc16 (by decide +kernel); have hc21i := ne_toInt (z := 4) (k := 4) hc21 (by decide +kernel); have hc30i := ne_toInt (z := 5) (k := 5) hc30 (by decide +kernel); omega) rfl ?_
  refine V_iconst (v := 0) rfl dX11_canBeSet_123 kc_0 ?_
  cases h
  exact V_iret dX11_canBeSet_124 rfl nz_0 (Nat.le_refl _) (Nat.le_refl _) qI_ok
-- X11_set: NeverHalted.set(III)Z
def f_X11_set (p1 : Int32) (p2 : Int32) (p3 : Int32) (M : IM) : IR := cl (f_X11_canBeSet p1 p2 p3 M) fun w1 M2 => if w1 = 0 then some (0, M2) else if p1 = 0 then pt M2 6 0 p3 fun M6 => cl (f_X5_forget M6) fun _ M8 => some (1, M8) else if p1 = 1 then pt M2 1 8 p3 fun M11 => cl (f_X5_forget M11) fun _ M13 => some (1, M13) else if p1 = 2 then pt M2 6 1 p3 fun M16 => cl (f_X5_forget M16) fun _ M18 => some (1, M18) else if p1 = 3 then pt M2 6 2 p3 fun M21 => cl (f_X5_forget M21) fun _ M23 => some (1, M23) else if p1 = 4 then wr M2 4 10 p2 p3 fun M26 => cl (f_X5_forget M26) fun _ M29 => some (1, M29) else wr M2 3 10 p2 p3 fun M31 => cl (f_X5_forget M31) fun _ M34 => some (1, M34)
set_option maxRecDepth 100000 in
set_option maxHeartbeats 4000000 in
theorem t_X11_set {g : IG} {a : Nat → Nat} {R : Int32 × IM} {p1 : Int32} {p2 : Int32} {p3 : Int32} {M : IM} (h : f_X11_set p1 p2 p3 M = some R) : Cn g mX11_set 3 0 0 (qI S0 a R) [.ref (a 0), .int p1, .int p2, .int p3] a S0 M := by
  refine Cn_of (L := [some (.ref (a 0)), some (.int p1), some (.int p2), some (.int p3)]) mf_X11_set (cat_r (cat_i (cat_i (cat_i cat_0)))) (Nat.le_of_ble_eq_true rfl) rfl ?_
  unfold f_X11_set at h
  refine V_aload_n rfl dX11_set_0 rfl rfl ?_
  refine V_iload_n rfl dX11_set_1 rfl rfl ?_
  refine V_iload_n rfl dX11_set_2 rfl rfl ?_
  refine V_iload_n rfl dX11_set_3 rfl rfl ?_
  replace h := cl_e h
  obtain ⟨w1, M2, hc3, h⟩ := h
  refine V_ii (As := [.int _, .int _, .int _]) rfl dX11_set_4 mf_X11_canBeSet ⟨w_602, w_0⟩ w_600 (by decide) s0_0 rfl rfl rfl rfl ⟨rfl, rfl⟩ (t_X11_canBeSet hc3) ?_
  refine V_if_ne (t := 12) rfl rfl dX11_set_7 (fun hc4 => ?_) (fun hc4 => ?_)
  · replace h := ifn hc4 h
    refine V_iload_n rfl dX11_set_12 rfl rfl ?_
    replace h := ift h
    rcases h with ⟨hc5, h⟩ | ⟨hc5, h⟩
    · refine V_tabAt (off := 35) (t := 48) hc5 dX11_set_13 (by decide +kernel) rfl ?_
      refine V_aload_n rfl dX11_set_48 rfl rfl ?_
      refine V_getr (k0 := 1) rfl dX11_set_49 s0_0 icX11 (by decide) rfl w_524 ?_
      refine V_iload_n rfl dX11_set_52 rfl rfl ?_
      replace h := pt_e h
      refine V_putf (k0 := 0) (ty := .int) rfl dX11_set_53 s0_6 icX9 tyX9_ok nmX9 (by decide) rfl w_343 rfl (tyX9_ok _ (by decide)) rfl rfl ?_
      refine V_goto (t := 115) rfl dX11_set_56 ?_
      refine V_aload_n rfl dX11_set_115 rfl rfl ?_
      refine V_getr (k0 := 3) rfl dX11_set_116 s0_0 icX11 (by decide) rfl w_526 ?_
      replace h := cl_e h
      obtain ⟨w7, M8, hc9, h⟩ := h
      refine V_iv (As := []) rfl dX11_set_119 mf_X5_forget ⟨w_583, w_584⟩ w_582 (by decide) s0_34 rfl rfl rfl rfl ⟨rfl, rfl⟩ (t_X5_forget hc9) ?_
      refine V_iconst (v := 1) rfl dX11_set_122 kc_1 ?_
      cases h
      exact V_iret dX11_set_123 rfl nz_1 (Nat.le_refl _) (Nat.le_refl _) qI_ok
    replace h := ift h
    rcases h with ⟨hc10, h⟩ | ⟨hc10, h⟩
    · refine V_tabAt (off := 46) (t := 59) hc10 dX11_set_13 (by decide +kernel) rfl ?_
      refine V_aload_n rfl dX11_set_59 rfl rfl ?_
      refine V_getr (k0 := 0) rfl dX11_set_60 s0_0 icX11 (by decide) rfl w_523 ?_
      refine V_iload_n rfl dX11_set_63 rfl rfl ?_
      replace h := pt_e h
      refine V_putf (k0 := 8) (ty := .int) rfl dX11_set_64 s0_1 icX4 tyX4_ok nmX4 (by decide) rfl w_196 rfl (tyX4_ok _ (by decide)) rfl rfl ?_
      refine V_goto (t := 115) rfl dX11_set_67 ?_
      refine V_aload_n rfl dX11_set_115 rfl rfl ?_
      refine V_getr (k0 := 3) rfl dX11_set_116 s0_0 icX11 (by decide) rfl w_526 ?_
      replace h := cl_e h
      obtain ⟨w12, M13, hc14, h⟩ := h
      refine V_iv (As := []) rfl dX11_set_119 mf_X5_forget ⟨w_583, w_584⟩ w_582 (by decide) s0_34 rfl rfl rfl rfl ⟨rfl, rfl⟩ (t_X5_forget hc14) ?_
      refine V_iconst (v := 1) rfl dX11_set_122 kc_1 ?_
      cases h
      exact V_iret dX11_set_123 rfl nz_1 (Nat.le_refl _) (Nat.le_refl _) qI_ok
    replace h := ift h
    rcases h with ⟨hc15, h⟩ | ⟨hc15, h⟩
    · refine V_tabAt (off := 57) (t := 70) hc15 dX11_set_13 (by decide +kernel) rfl ?_
      refine V_aload_n rfl dX11_set_70 rfl rfl ?_
      refine V_getr (k0 := 1) rfl dX11_set_71 s0_0 icX11 (by decide) rfl w_524 ?_
      refine V_iload_n rfl dX11_set_74 rfl rfl ?_
      replace h := pt_e h
      refine V_putf (k0 := 1) (ty := .int) rfl dX11_set_75 s0_6 icX9 tyX9_ok nmX9 (by decide) rfl w_345 rfl (tyX9_ok _ (by decide)) rfl rfl ?_
      refine V_goto (t := 115) rfl dX11_set_78 ?_
      refine V_aload_n rfl dX11_set_115 rfl rfl ?_
      refine V_getr (k0 := 3) rfl dX11_set_116 s0_0 icX11 (by decide) rfl w_526 ?_
      replace h := cl_e h
      obtain ⟨w17, M18, hc19, h⟩ := h
      refine V_iv (As := []) rfl dX11_set_119 mf_X5_forget ⟨w_583, w_584⟩ w_582 (by decide) s0_34 rfl rfl rfl rfl ⟨rfl, rfl⟩ (t_X5_forget hc19) ?_
      refine V_iconst (v := 1) rfl dX11_set_122 kc_1 ?_
      cases h
      exact V_iret dX11_set_123 rfl nz_1 (Nat.le_refl _) (Nat.le_refl _) qI_ok
    replace h := ift h
    rcases h with ⟨hc20, h⟩ | ⟨hc20, h⟩
    · refine V_tabAt (off := 68) (t := 81) hc20 dX11_set_13 (by decide +kernel) rfl ?_
      refine V_aload_n rfl dX11_set_81 rfl rfl ?_
      refine V_getr (k0 := 1) rfl dX11_set_82 s0_0 icX11 (by decide) rfl w_524 ?_
      refine V_iload_n rfl dX11_set_85 rfl rfl ?_
      replace h := pt_e h
      refine V_putf (k0 := 2) (ty := .int) rfl dX11_set_86 s0_6 icX9 tyX9_ok nmX9 (by decide) rfl w_347 rfl (tyX9_ok _ (by decide)) rfl rfl ?_
      refine V_goto (t := 115) rfl dX11_set_89 ?_
      refine V_aload_n rfl dX11_set_115 rfl rfl ?_
      refine V_getr (k0 := 3) rfl dX11_set_116 s0_0 icX11 (by decide) rfl w_526 ?_
      replace h := cl_e h
      obtain ⟨w22, M23, hc24, h⟩ := h
      refine V_iv (As := []) rfl dX11_set_119 mf_X5_forget ⟨w_583, w_584⟩ w_582 (by decide) s0_34 rfl rfl rfl rfl ⟨rfl, rfl⟩ (t_X5_forget hc24) ?_
      refine V_iconst (v := 1) rfl dX11_set_122 kc_1 ?_
      cases h
      exact V_iret dX11_set_123 rfl nz_1 (Nat.le_refl _) (Nat.le_refl _) qI_ok
    replace h := ift h
    rcases h with ⟨hc25, h⟩ | ⟨hc25, h⟩
    · refine V_tabAt (off := 79) (t := 92) hc25 dX11_set_13 (by decide +kernel) rfl ?_
      refine V_aload_n rfl dX11_set_92 rfl rfl ?_
      refine V_getr (k0 := 0) rfl dX11_set_93 s0_0 icX11 (by decide) rfl w_523 ?_
      refine V_getr (k0 := 13) rfl dX11_set_96 s0_1 icX4 (by decide) rfl w_210 ?_
      refine V_iload_n rfl dX11_set_99 rfl rfl ?_
      refine V_iload_n rfl dX11_set_100 rfl rfl ?_
      replace h := wr_e h
      obtain ⟨hb27, h⟩ := h
      refine V_iast rfl dX11_set_101 s0_4 hb27 ?_
      refine V_goto (t := 115) rfl dX11_set_102 ?_
      refine V_aload_n rfl dX11_set_115 rfl rfl ?_
      refine V_getr (k0 := 3) rfl dX11_set_116 s0_0 icX11 (by decide) rfl w_526 ?_
      replace h := cl_e h
      obtain ⟨w28, M29, hc30, h⟩ := h
      refine V_iv (As := []) rfl dX11_set_119 mf_X5_forget ⟨w_583, w_584⟩ w_582 (by decide) s0_34 rfl rfl rfl rfl ⟨rfl, rfl⟩ (t_X5_forget hc30) ?_
      refine V_iconst (v := 1) rfl dX11_set_122 kc_1 ?_
      cases h
      exact V_iret dX11_set_123 rfl nz_1 (Nat.le_refl _) (Nat.le_refl _) qI_ok
    refine V_tabOut (t := 105) dX11_set_13 (by have hc5i := ne_toInt (z := 0) (k := 0) hc5 (by decide +kernel); have hc10i := ne_toInt (z := 1) (k := 1) hc10 (by decide +kernel); have hc15i := ne_toInt (z := 2) (k := 2) hc15 (by decide +kernel); have hc20i := ne_toInt (z := 3) (k := 3) hc20 (by decide +kernel); have hc25i := ne_toInt (z := 4) (k := 4) hc25 (by decide +kernel); omega) rfl ?_
    refine V_aload_n rfl dX11_set_105 rfl rfl ?_
    refine V_getr (k0 := 0) rfl dX11_set_106 s0_0 icX11 (by decide) rfl w_523 ?_
    refine V_getr (k0 := 12) rfl dX11_set_109 s0_1 icX4 (by decide) rfl w_207 ?_
    refine V_iload_n rfl dX11_set_112 rfl rfl ?_
    refine V_iload_n rfl dX11_set_113 rfl rfl ?_
    replace h := wr_e h
    obtain ⟨hb32, h⟩ := h
    refine V_iast rfl dX11_set_114 s0_3 hb32 ?_
    refine V_aload_n rfl dX11_set_115 rfl rfl ?_
    refine V_getr (k0 := 3) rfl dX11_set_116 s0_0 icX11 (by decide) rfl w_526 ?_
    replace h := cl_e h
    obtain ⟨w33, M34, hc35, h⟩ := h
    refine V_iv (As := []) rfl dX11_set_119 mf_X5_forget ⟨w_583, w_584⟩ w_582 (by decide) s0_34 rfl rfl rfl rfl ⟨rfl, rfl⟩ (t_X5_forget hc35) ?_
    refine V_iconst (v := 1) rfl dX11_set_122 kc_1 ?_
    cases h
    exact V_iret dX11_set_123 rfl nz_1 (Nat.le_refl _) (Nat.le_refl _) qI_ok
  · replace h := ifp hc4 h
    refine V_iconst (v := 0) rfl dX11_set_10 kc_0 ?_
    cases h
    exact V_iret dX11_set_11 rfl nz_0 (Nat.le_refl _) (Nat.le_refl _) qI_ok
-- X11_road: NeverHalted.road(III)Z
def f_X11_road (p1 : Int32) (p2 : Int32) (p3 : Int32) (M : IM) : IR := cl (f_X11_isParish p1 M) fun w1 M2 => if w1 = 0 then some (0, M2) else cl (f_X11_isParish p2 M2) fun w5 M6 => if w5 = 0 then some (0, M6) else if p1 = p2 then some (0, M6) else cl (f_X11_within p3 0 99 M6) fun w10 M11 => if w10 = 0 then some (0, M11) else wr M11 7 64 ((p1 * 8) + p2) p3 fun M14 => wr M14 7 64 ((p2 * 8) + p1) p3 fun M16 => some (1, M16)
set_option maxRecDepth 100000 in
set_option maxHeartbeats 4000000 in
theorem t_X11_road {g : IG} {a : Nat → Nat} {R : Int32 × IM} {p1 : Int32} {p2 : Int32} {p3 : Int32} {M : IM} (h : f_X11_road p1 p2 p3 M = some R) : Cn g mX11_road 2 0 0 (qI S0 a R) [.ref (a 0), .int p1, .int p2, .int p3] a S0 M := by
  refine Cn_of (L := [some (.ref (a 0)), some (.int p1), some (.int p2), some (.int p3)]) mf_X11_road (cat_r (cat_i (cat_i (cat_i cat_0)))) (Nat.le_of_ble_eq_true rfl) rfl ?_
  unfold f_X11_road at h
  refine V_iload_n rfl dX11_road_0 rfl rfl ?_
  replace h := cl_e h
  obtain ⟨w1, M2, hc3, h⟩ := h
  refine V_si (As := [.int _]) rfl dX11_road_1 mf_X11_isParish w_591 w_590 (by decide) rfl rfl rfl ⟨rfl, rfl⟩ (t_X11_isParish hc3) ?_
  refine V_if_eq (t := 29) rfl rfl dX11_road_4 (fun hc4 => ?_) (fun hc4 => ?_)
  · replace h := ifp hc4 h
    refine V_iconst (v := 0) rfl dX11_road_29 kc_0 ?_
    cases h
    exact V_iret dX11_road_30 rfl nz_0 (Nat.le_refl _) (Nat.le_refl _) qI_ok
  · replace h := ifn hc4 h
    refine V_iload_n rfl dX11_road_7 rfl rfl ?_
    replace h := cl_e h
    obtain ⟨w5, M6, hc7, h⟩ := h
    refine V_si (As := [.int _]) rfl dX11_road_8 mf_X11_isParish w_591 w_590 (by decide) rfl rfl rfl ⟨rfl, rfl⟩ (t_X11_isParish hc7) ?_
    refine V_if_eq (t := 29) rfl rfl dX11_road_11 (fun hc8 => ?_) (fun hc8 => ?_)
    · replace h := ifp hc8 h
      refine V_iconst (v := 0) rfl dX11_road_29 kc_0 ?_
      cases h
      exact V_iret dX11_road_30 rfl nz_0 (Nat.le_refl _) (Nat.le_refl _) qI_ok
    · replace h := ifn hc8 h
      refine V_iload_n rfl dX11_road_14 rfl rfl ?_
      refine V_iload_n rfl dX11_road_15 rfl rfl ?_
      refine V_icmp_eq (t := 29) rfl rfl dX11_road_16 (fun hc9 => ?_) (fun hc9 => ?_)
      · replace h := ifp hc9 h
        refine V_iconst (v := 0) rfl dX11_road_29 kc_0 ?_
        cases h
        exact V_iret dX11_road_30 rfl nz_0 (Nat.le_refl _) (Nat.le_refl _) qI_ok
      · replace h := ifn hc9 h
        refine V_iload_n rfl dX11_road_19 rfl rfl ?_
        refine V_iconst (v := 0) rfl dX11_road_20 kc_0 ?_
        refine V_bipush (v := 99) rfl dX11_road_21 kb_99 ?_
        replace h := cl_e h
        obtain ⟨w10, M11, hc12, h⟩ := h
        refine V_si (As := [.int _, .int _, .int _]) rfl dX11_road_23 mf_X11_within w_594 w_593 (by decide) rfl rfl rfl ⟨rfl, rfl⟩ (t_X11_within hc12) ?_
        refine V_if_ne (t := 31) rfl rfl dX11_road_26 (fun hc13 => ?_) (fun hc13 => ?_)
        · replace h := ifn hc13 h
          refine V_aload_n rfl dX11_road_31 rfl rfl ?_
          refine V_getr (k0 := 1) rfl dX11_road_32 s0_0 icX11 (by decide) rfl w_524 ?_
          refine V_getr (k0 := 3) rfl dX11_road_35 s0_6 icX9 (by decide) rfl w_349 ?_
          refine V_iload_n rfl dX11_road_38 rfl rfl ?_
          refine V_bipush (v := 8) rfl dX11_road_39 kb_8 ?_
          refine V_imul rfl dX11_road_41 ?_
          refine V_iload_n rfl dX11_road_42 rfl rfl ?_
          refine V_iadd rfl dX11_road_43 ?_
          refine V_iload_n rfl dX11_road_44 rfl rfl ?_
          replace h := wr_e h
          obtain ⟨hb15, h⟩ := h
          refine V_iast rfl dX11_road_45 s0_7 hb15 ?_
          refine V_aload_n rfl dX11_road_46 rfl rfl ?_
          refine V_getr (k0 := 1) rfl dX11_road_47 s0_0 icX11 (by decide) rfl w_524 ?_
          refine V_getr (k0 := 3) rfl dX11_road_50 s0_6 icX9 (by decide) rfl w_349 ?_
          refine V_iload_n rfl dX11_road_53 rfl rfl ?_
          refine V_bipush (v := 8) rfl dX11_road_54 kb_8 ?_
          refine V_imul rfl dX11_road_56 ?_
          refine V_iload_n rfl dX11_road_57 rfl rfl ?_
          refine V_iadd rfl dX11_road_58 ?_
          refine V_iload_n rfl dX11_road_59 rfl rfl ?_
          replace h := wr_e h
          obtain ⟨hb17, h⟩ := h
          refine V_iast rfl dX11_road_60 s0_7 hb17 ?_
          refine V_iconst (v := 1) rfl dX11_road_61 kc_1 ?_
          cases h
          exact V_iret dX11_road_62 rfl nz_1 (Nat.le_refl _) (Nat.le_refl _) qI_ok
        · replace h := ifp hc13 h
          refine V_iconst (v := 0) rfl dX11_road_29 kc_0 ?_
          cases h
          exact V_iret dX11_road_30 rfl nz_0 (Nat.le_refl _) (Nat.le_refl _) qI_ok
-- X11_feedOne: NeverHalted.feedOne(I)V
def f_X11_feedOne_3_b (r3 : Int32 → Int32 → IM → IR) (x1 : Int32) (x2 : Int32) (M : IM) : IR := if x2 < 0 then some (0, M) else wr M 99 400 (M 0 9) (((Int32.toUInt32 x1 >>> (Int32.toUInt32 x2 &&& Int32.toUInt32 31)).toInt32) &&& 255) fun M2 => pt M2 0 9 ((M2 0 9) + 1) fun M4 => lt (x2 + (-8)) fun v5 => r3 x1 v5 M4
def f_X11_feedOne_3 (n : Nat) : Int32 → Int32 → IM → IR := itr (fun _ _ _ => none) (f_X11_feedOne_3_b) n
set_option maxRecDepth 100000 in
set_option maxHeartbeats 4000000 in
theorem t_X11_feedOne_3 {g : IG} {a : Nat → Nat} {R : Int32 × IM} (n : Nat) : ∀ (x1 : Int32) (x2 : Int32) (M : IM), f_X11_feedOne_3 n x1 x2 M = some R → V g mX11_feedOne 1 0 0 (qV S0 a R) 3 [some (.ref (a 0)), some (.int x1), some (.int x2)] [] a S0 M 0 0 := by
  induction n with
  | zero => intro x1 x2 M h; exact absurd h (fun z => by cases z)
  | succ n hr3 =>
    intro x1 x2 M h
    replace h : f_X11_feedOne_3_b (f_X11_feedOne_3 n) x1 x2 M = some R := h
    unfold f_X11_feedOne_3_b at h
    refine V_iload_n rfl dX11_feedOne_3 rfl rfl ?_
    refine V_if_lt (t := 39) rfl rfl dX11_feedOne_4 (fun hc1 => ?_) (fun hc1 => ?_)
    · replace h := ifp hc1 h
      cases h
      exact V_vret dX11_feedOne_39 rfl (Nat.le_refl _) (Nat.le_refl _) qV_ok
    · replace h := ifn hc1 h
      refine V_aload_n rfl dX11_feedOne_7 rfl rfl ?_
      refine V_getr (k0 := 8) rfl dX11_feedOne_8 s0_0 icX11 (by decide) rfl w_531 ?_
      refine V_aload_n rfl dX11_feedOne_11 rfl rfl ?_
      refine V_geti (k0 := 9) rfl dX11_feedOne_12 s0_0 icX11 (by decide) rfl w_532 ?_
      refine V_iload_n rfl dX11_feedOne_15 rfl rfl ?_
      refine V_iload_n rfl dX11_feedOne_16 rfl rfl ?_
      refine V_iushr rfl dX11_feedOne_17 ?_
      refine V_sipush (v := 255) rfl dX11_feedOne_18 ks_255 ?_
      refine V_iand rfl dX11_feedOne_21 ?_
      replace h := wr_e h
      obtain ⟨hb3, h⟩ := h
      refine V_iast rfl dX11_feedOne_22 s0_99 hb3 ?_
      refine V_aload_n rfl dX11_feedOne_23 rfl rfl ?_
      refine V_dup rfl dX11_feedOne_24 rfl ?_
      refine V_geti (k0 := 9) rfl dX11_feedOne_25 s0_0 icX11 (by decide) rfl w_532 ?_
      refine V_iconst (v := 1) rfl dX11_feedOne_28 kc_1 ?_
      refine V_iadd rfl dX11_feedOne_29 ?_
      replace h := pt_e h
      refine V_putf (k0 := 9) (ty := .int) rfl dX11_feedOne_30 s0_0 icX11 tyX11_ok nmX11 (by decide) rfl w_532 rfl (tyX11_ok _ (by decide)) rfl rfl ?_
      replace h := lt_e h
      refine V_inc (L' := [_, _, _]) rfl dX11_feedOne_33 rfl kc_m8 (by decide) rfl ?_
      refine V_goto (t := 3) rfl dX11_feedOne_36 ?_
      exact V_sub (le_s (le_s (le_s le_0))) (hr3 _ _ _ h)
def f_X11_feedOne (p1 : Int32) (M : IM) : IR := f_X11_feedOne_3 BG p1 24 M
set_option maxRecDepth 100000 in
set_option maxHeartbeats 4000000 in
theorem t_X11_feedOne {g : IG} {a : Nat → Nat} {R : Int32 × IM} {p1 : Int32} {M : IM} (h : f_X11_feedOne p1 M = some R) : Cn g mX11_feedOne 1 0 0 (qV S0 a R) [.ref (a 0), .int p1] a S0 M := by
  refine Cn_of (L := [some (.ref (a 0)), some (.int p1), none]) mf_X11_feedOne (cat_r (cat_i cat_0)) (Nat.le_of_ble_eq_true rfl) rfl ?_
  unfold f_X11_feedOne at h
  refine V_bipush (v := 24) rfl dX11_feedOne_0 kb_24 ?_
  refine V_istore_n (L' := [_, _, _]) rfl rfl dX11_feedOne_2 (by decide) rfl ?_
  exact V_sub (le_s (le_s (le_s le_0))) (t_X11_feedOne_3 BG _ _ _ h)
-- X11_feed: NeverHalted.feed(IIIII)I
def f_X11_feed (p1 : Int32) (p2 : Int32) (p3 : Int32) (p4 : Int32) (p5 : Int32) (M : IM) : IR := if ((M 0 9) + 20) ≤ 400 then cl (f_X11_feedOne p1 M) fun _ M3 => cl (f_X11_feedOne p2 M3) fun _ M6 => cl (f_X11_feedOne p3 M6) fun _ M9 => cl (f_X11_feedOne p4 M9) fun _ M12 => cl (f_X11_feedOne p5 M12) fun _ M15 => some ((M15 0 9), M15) else some ((-1), M)
set_option maxRecDepth 100000 in
set_option maxHeartbeats 4000000 in
theorem t_X11_feed {g : IG} {a : Nat → Nat} {R : Int32 × IM} {p1 : Int32} {p2 : Int32} {p3 : Int32} {p4 : Int32} {p5 : Int32} {M : IM} (h : f_X11_feed p1 p2 p3 p4 p5 M = some R) : Cn g mX11_feed 2 0 0 (qI S0 a R) [.ref (a 0), .int p1, .int p2, .int p3, .int p4, .int p5] a S0 M := by
  refine Cn_of (L := [some (.ref (a 0)), some (.int p1), some (.int p2), some (.int p3), some (.int p4), some (.int p5)]) mf_X11_feed (cat_r (cat_i (cat_i (cat_i (cat_i (cat_i cat_0)))))) (Nat.le_of_ble_eq_true rfl) rfl ?_
  unfold f_X11_feed at h
  refine V_aload_n rfl dX11_feed_0 rfl rfl ?_
  refine V_geti (k0 := 9) rfl dX11_feed_1 s0_0 icX11 (by decide) rfl w_532 ?_
  refine V_bipush (v := 20) rfl dX11_feed_4 kb_20 ?_
  refine V_iadd rfl dX11_feed_6 ?_
  refine V_sipush (v := 400) rfl dX11_feed_7 ks_400 ?_
  refine V_icmp_le (t := 15) rfl rfl dX11_feed_10 (fun hc1 => ?_) (fun hc1 => ?_)
  · replace h := ifp hc1 h
    refine V_aload_n rfl dX11_feed_15 rfl rfl ?_
    refine V_iload_n rfl dX11_feed_16 rfl rfl ?_
    replace h := cl_e h
    obtain ⟨w2, M3, hc4, h⟩ := h
    refine V_iv (As := [.int _]) rfl dX11_feed_17 mf_X11_feedOne ⟨w_618, w_2⟩ w_616 (by decide) s0_0 rfl rfl rfl rfl ⟨rfl, rfl⟩ (t_X11_feedOne hc4) ?_
    refine V_aload_n rfl dX11_feed_20 rfl rfl ?_
    refine V_iload_n rfl dX11_feed_21 rfl rfl ?_
    replace h := cl_e h
    obtain ⟨w5, M6, hc7, h⟩ := h
    refine V_iv (As := [.int _]) rfl dX11_feed_22 mf_X11_feedOne ⟨w_618, w_2⟩ w_616 (by decide) s0_0 rfl rfl rfl rfl ⟨rfl, rfl⟩ (t_X11_feedOne hc7) ?_
    refine V_aload_n rfl dX11_feed_25 rfl rfl ?_
    refine V_iload_n rfl dX11_feed_26 rfl rfl ?_
    replace h := cl_e h
    obtain ⟨w8, M9, hc10, h⟩ := h
    refine V_iv (As := [.int _]) rfl dX11_feed_27 mf_X11_feedOne ⟨w_618, w_2⟩ w_616 (by decide) s0_0 rfl rfl rfl rfl ⟨rfl, rfl⟩ (t_X11_feedOne hc10) ?_
    refine V_aload_n rfl dX11_feed_30 rfl rfl ?_
    refine V_iload rfl dX11_feed_31 rfl ?_
    replace h := cl_e h
    obtain ⟨w11, M12, hc13, h⟩ := h
    refine V_iv (As := [.int _]) rfl dX11_feed_33 mf_X11_feedOne ⟨w_618, w_2⟩ w_616 (by decide) s0_0 rfl rfl rfl rfl ⟨rfl, rfl⟩ (t_X11_feedOne hc13) ?_
    refine V_aload_n rfl dX11_feed_36 rfl rfl ?_
    refine V_iload rfl dX11_feed_37 rfl ?_
    replace h := cl_e h
    obtain ⟨w14, M15, hc16, h⟩ := h
    refine V_iv (As := [.int _]) rfl dX11_feed_39 mf_X11_feedOne ⟨w_618, w_2⟩ w_616 (by decide) s0_0 rfl rfl rfl rfl ⟨rfl, rfl⟩ (t_X11_feedOne hc16) ?_
    refine V_aload_n rfl dX11_feed_42 rfl rfl ?_
    refine V_geti (k0 := 9) rfl dX11_feed_43 s0_0 icX11 (by decide) rfl w_532 ?_
    cases h
    exact V_iret dX11_feed_46 rfl rfl (Nat.le_refl _) (Nat.le_refl _) qI_ok
  · replace h := ifn hc1 h
    refine V_iconst (v := (-1)) rfl dX11_feed_13 kc_m1 ?_
    cases h
    exact V_iret dX11_feed_14 rfl rfl (Nat.le_refl _) (Nat.le_refl _) qI_ok
-- X11_end: NeverHalted.end(I)Z
def f_X11_end (p1 : Int32) (M : IM) : IR := cl (f_X11_within p1 0 (M 0 9) M) fun w1 M2 => if w1 = 0 then some (0, M2) else pt M2 0 9 p1 fun M5 => some (1, M5)
set_option maxRecDepth 100000 in
set_option maxHeartbeats 4000000 in
theorem t_X11_end {g : IG} {a : Nat → Nat} {R : Int32 × IM} {p1 : Int32} {M : IM} (h : f_X11_end p1 M = some R) : Cn g mX11_end 2 0 0 (qI S0 a R) [.ref (a 0), .int p1] a S0 M := by
  refine Cn_of (L := [some (.ref (a 0)), some (.int p1)]) mf_X11_end (cat_r (cat_i cat_0)) (Nat.le_of_ble_eq_true rfl) rfl ?_
  unfold f_X11_end at h
  refine V_iload_n rfl dX11_end_0 rfl rfl ?_
  refine V_iconst (v := 0) rfl dX11_end_1 kc_0 ?_
  refine V_aload_n rfl dX11_end_2 rfl rfl ?_
  refine V_geti (k0 := 9) rfl dX11_end_3 s0_0 icX11 (by decide) rfl w_532 ?_
  replace h := cl_e h
  obtain ⟨w1, M2, hc3, h⟩ := h
  refine V_si (As := [.int _, .int _, .int _]) rfl dX11_end_6 mf_X11_within w_594 w_593 (by decide) rfl rfl rfl ⟨rfl, rfl⟩ (t_X11_within hc3) ?_
  refine V_if_ne (t := 14) rfl rfl dX11_end_9 (fun hc4 => ?_) (fun hc4 => ?_)
  · replace h := ifn hc4 h
    refine V_aload_n rfl dX11_end_14 rfl rfl ?_
    refine V_iload_n rfl dX11_end_15 rfl rfl ?_
    replace h := pt_e h
    refine V_putf (k0 := 9) (ty := .int) rfl dX11_end_16 s0_0 icX11 tyX11_ok nmX11 (by decide) rfl w_532 rfl (tyX11_ok _ (by decide)) rfl rfl ?_
    refine V_iconst (v := 1) rfl dX11_end_19 kc_1 ?_
    cases h
    exact V_iret dX11_end_20 rfl nz_1 (Nat.le_refl _) (Nat.le_refl _) qI_ok
  · replace h := ifp hc4 h
    refine V_iconst (v := 0) rfl dX11_end_12 kc_0 ?_
    cases h
    exact V_iret dX11_end_13 rfl nz_0 (Nat.le_refl _) (Nat.le_refl _) qI_ok
-- X6_sightOf: NeverHalted$Reader.sightOf(I)I
def f_X6_sightOf_40 (x0 : Int32) (M : IM) : IR := if x0 < 48 then some (3, M) else if 57 < x0 then some (3, M) else some (2, M)
set_option maxRecDepth 100000 in
set_option maxHeartbeats 4000000 in
theorem t_X6_sightOf_40 {g : IG} {a : Nat → Nat} {R : Int32 × IM} {x0 : Int32} {M : IM} (h : f_X6_sightOf_40 x0 M = some R) : V g mX6_sightOf 1 0 0 (qI S0 a R) 40 [some (.int x0)] [] a S0 M 0 0 := by
  unfold f_X6_sightOf_40 at h
  refine V_iload_n rfl dX6_sightOf_40 rfl rfl ?_
  refine V_bipush (v := 48) rfl dX6_sightOf_41 kb_48 ?_
  refine V_icmp_lt (t := 56) rfl rfl dX6_sightOf_43 (fun hc7 => ?_) (fun hc7 => ?_)
  · replace h := ifp hc7 h
    refine V_iconst (v := 3) rfl dX6_sightOf_56 kc_3 ?_
    cases h
    exact V_iret dX6_sightOf_57 rfl rfl (Nat.le_refl _) (Nat.le_refl _) qI_ok
  · replace h := ifn hc7 h
    refine V_iload_n rfl dX6_sightOf_46 rfl rfl ?_
    refine V_bipush (v := 57) rfl dX6_sightOf_47 kb_57 ?_
    refine V_icmp_gt (t := 56) rfl rfl dX6_sightOf_49 (fun hc8 => ?_) (fun hc8 => ?_)
    · replace h := ifp hc8 h
      refine V_iconst (v := 3) rfl dX6_sightOf_56 kc_3 ?_
      cases h
      exact V_iret dX6_sightOf_57 rfl rfl (Nat.le_refl _) (Nat.le_refl _) qI_ok
    · replace h := ifn hc8 h
      refine V_iconst (v := 2) rfl dX6_sightOf_52 kc_2 ?_
      refine V_goto (t := 57) rfl dX6_sightOf_53 ?_
      cases h
      exact V_iret dX6_sightOf_57 rfl rfl (Nat.le_refl _) (Nat.le_refl _) qI_ok
def f_X6_sightOf_26 (x0 : Int32) (M : IM) : IR := if x0 < 65 then f_X6_sightOf_40 x0 M else if 90 < x0 then f_X6_sightOf_40 x0 M else some (1, M)
set_option maxRecDepth 100000 in
set_option maxHeartbeats 4000000 in
theorem t_X6_sightOf_26 {g : IG} {a : Nat → Nat} {R : Int32 × IM} {x0 : Int32} {M : IM} (h : f_X6_sightOf_26 x0 M = some R) : V g mX6_sightOf 1 0 0 (qI S0 a R) 26 [some (.int x0)] [] a S0 M 0 0 := by
  unfold f_X6_sightOf_26 at h
  refine V_iload_n rfl dX6_sightOf_26 rfl rfl ?_
  refine V_bipush (v := 65) rfl dX6_sightOf_27 kb_65 ?_
  refine V_icmp_lt (t := 40) rfl rfl dX6_sightOf_29 (fun hc5 => ?_) (fun hc5 => ?_)
  · replace h := ifp hc5 h
    exact V_sub (le_s le_0) (t_X6_sightOf_40 h)
  · replace h := ifn hc5 h
    refine V_iload_n rfl dX6_sightOf_32 rfl rfl ?_
    refine V_bipush (v := 90) rfl dX6_sightOf_33 kb_90 ?_
    refine V_icmp_gt (t := 40) rfl rfl dX6_sightOf_35 (fun hc6 => ?_) (fun hc6 => ?_)
    · replace h := ifp hc6 h
      exact V_sub (le_s le_0) (t_X6_sightOf_40 h)
    · replace h := ifn hc6 h
      refine V_iconst (v := 1) rfl dX6_sightOf_38 kc_1 ?_
      cases h
      exact V_iret dX6_sightOf_39 rfl rfl (Nat.le_refl _) (Nat.le_refl _) qI_ok
def f_X6_sightOf (p0 : Int32) (M : IM) : IR := if p0 = 32 then some (0, M) else if p0 = 10 then some (0, M) else if p0 < 97 then f_X6_sightOf_26 p0 M else if p0 ≤ 122 then some (1, M) else f_X6_sightOf_26 p0 M
set_option maxRecDepth 100000 in
set_option maxHeartbeats 4000000 in
theorem t_X6_sightOf {g : IG} {a : Nat → Nat} {R : Int32 × IM} {p0 : Int32} {M : IM} (h : f_X6_sightOf p0 M = some R) : Cn g mX6_sightOf 1 0 0 (qI S0 a R) [.int p0] a S0 M := by
  refine Cn_of (L := [some (.int p0)]) mf_X6_sightOf (cat_i cat_0) (Nat.le_of_ble_eq_true rfl) rfl ?_
  unfold f_X6_sightOf at h
  refine V_iload_n rfl dX6_sightOf_0 rfl rfl ?_
  refine V_bipush (v := 32) rfl dX6_sightOf_1 kb_32 ?_
  refine V_icmp_eq (t := 12) rfl rfl dX6_sightOf_3 (fun hc1 => ?_) (fun hc1 => ?_)
  · replace h := ifp hc1 h
    refine V_iconst (v := 0) rfl dX6_sightOf_12 kc_0 ?_
    cases h
    exact V_iret dX6_sightOf_13 rfl rfl (Nat.le_refl _) (Nat.le_refl _) qI_ok
  · replace h := ifn hc1 h
    refine V_iload_n rfl dX6_sightOf_6 rfl rfl ?_
    refine V_bipush (v := 10) rfl dX6_sightOf_7 kb_10 ?_
    refine V_icmp_ne (t := 14) rfl rfl dX6_sightOf_9 (fun hc2 => ?_) (fun hc2 => ?_)
    · replace h := ifn hc2 h
      refine V_iload_n rfl dX6_sightOf_14 rfl rfl ?_
      refine V_bipush (v := 97) rfl dX6_sightOf_15 kb_97 ?_
      refine V_icmp_lt (t := 26) rfl rfl dX6_sightOf_17 (fun hc3 => ?_) (fun hc3 => ?_)
      · replace h := ifp hc3 h
        exact V_sub (le_s le_0) (t_X6_sightOf_26 h)
      · replace h := ifn hc3 h
        refine V_iload_n rfl dX6_sightOf_20 rfl rfl ?_
        refine V_bipush (v := 122) rfl dX6_sightOf_21 kb_122 ?_
        refine V_icmp_le (t := 38) rfl rfl dX6_sightOf_23 (fun hc4 => ?_) (fun hc4 => ?_)
        · replace h := ifp hc4 h
          refine V_iconst (v := 1) rfl dX6_sightOf_38 kc_1 ?_
          cases h
          exact V_iret dX6_sightOf_39 rfl rfl (Nat.le_refl _) (Nat.le_refl _) qI_ok
        · replace h := ifn hc4 h
          exact V_sub (le_s le_0) (t_X6_sightOf_26 h)
    · replace h := ifp hc2 h
      refine V_iconst (v := 0) rfl dX6_sightOf_12 kc_0 ?_
      cases h
      exact V_iret dX6_sightOf_13 rfl rfl (Nat.le_refl _) (Nat.le_refl _) qI_ok
-- X6_beginsToken: NeverHalted$Reader.beginsToken([II)Z
def f_X6_beginsToken_16 (o0 : Nat) (n0 : Nat) (x2 : Int32) (M : IM) : IR := if x2 = 3 then some (1, M) else some (0, M)
set_option maxRecDepth 100000 in
set_option maxHeartbeats 4000000 in
theorem t_X6_beginsToken_16 {g : IG} {a : Nat → Nat} {R : Int32 × IM} {o0 : Nat} {n0 : Nat} {x2 : Int32} {M : IM} (h0 : S0[o0]? = some (0, n0, [])) (h : f_X6_beginsToken_16 o0 n0 x2 M = some R) : V g mX6_beginsToken 2 0 0 (qI S0 a R) 16 [none, none, some (.int x2)] [] a S0 M 0 0 := by
  unfold f_X6_beginsToken_16 at h
  refine V_iload_n rfl dX6_beginsToken_16 rfl rfl ?_
  refine V_iconst (v := 3) rfl dX6_beginsToken_17 kc_3 ?_
  refine V_icmp_ne (t := 25) rfl rfl dX6_beginsToken_18 (fun hc15 => ?_) (fun hc15 => ?_)
  · replace h := ifn hc15 h
    refine V_iconst (v := 0) rfl dX6_beginsToken_25 kc_0 ?_
    cases h
    exact V_iret dX6_beginsToken_26 rfl nz_0 (Nat.le_refl _) (Nat.le_refl _) qI_ok
  · replace h := ifp hc15 h
    refine V_iconst (v := 1) rfl dX6_beginsToken_21 kc_1 ?_
    refine V_goto (t := 26) rfl dX6_beginsToken_22 ?_
    cases h
    exact V_iret dX6_beginsToken_26 rfl nz_1 (Nat.le_refl _) (Nat.le_refl _) qI_ok
def f_X6_beginsToken (o0 : Nat) (n0 : Nat) (p1 : Int32) (M : IM) : IR := rd M o0 n0 p1 fun v1 => cl (f_X6_sightOf v1 M) fun w3 M4 => if w3 = 0 then f_X6_beginsToken_16 o0 n0 w3 M4 else if w3 = 3 then f_X6_beginsToken_16 o0 n0 w3 M4 else if p1 = 0 then some (1, M4) else rd M4 o0 n0 (p1 - 1) fun v9 => cl (f_X6_sightOf v9 M4) fun w11 M12 => if w11 = w3 then some (0, M12) else some (1, M12)
set_option maxRecDepth 100000 in
set_option maxHeartbeats 4000000 in
theorem t_X6_beginsToken {g : IG} {a : Nat → Nat} {R : Int32 × IM} {o0 : Nat} {n0 : Nat} {p1 : Int32} {M : IM} (h0 : S0[o0]? = some (0, n0, [])) (h : f_X6_beginsToken o0 n0 p1 M = some R) : Cn g mX6_beginsToken 2 0 0 (qI S0 a R) [.ref (a o0), .int p1] a S0 M := by
  refine Cn_of (L := [some (.ref (a o0)), some (.int p1), none]) mf_X6_beginsToken (cat_r (cat_i cat_0)) (Nat.le_of_ble_eq_true rfl) rfl ?_
  unfold f_X6_beginsToken at h
  refine V_aload_n rfl dX6_beginsToken_0 rfl rfl ?_
  refine V_iload_n rfl dX6_beginsToken_1 rfl rfl ?_
  replace h := rd_e h
  obtain ⟨hb2, h⟩ := h
  refine V_iald rfl dX6_beginsToken_2 h0 hb2 ?_
  replace h := cl_e h
  obtain ⟨w3, M4, hc5, h⟩ := h
  refine V_si (As := [.int _]) rfl dX6_beginsToken_3 mf_X6_sightOf w_636 w_635 (by decide) rfl rfl rfl ⟨rfl, rfl⟩ (t_X6_sightOf hc5) ?_
  refine V_istore_n (L' := [_, _, _]) rfl rfl dX6_beginsToken_6 (by decide) rfl ?_
  refine V_iload_n rfl dX6_beginsToken_7 rfl rfl ?_
  refine V_if_eq (t := 16) rfl rfl dX6_beginsToken_8 (fun hc6 => ?_) (fun hc6 => ?_)
  · replace h := ifp hc6 h
    exact V_sub (le_n (le_n (le_s le_0))) (t_X6_beginsToken_16 h0 h)
  · replace h := ifn hc6 h
    refine V_iload_n rfl dX6_beginsToken_11 rfl rfl ?_
    refine V_iconst (v := 3) rfl dX6_beginsToken_12 kc_3 ?_
    refine V_icmp_ne (t := 27) rfl rfl dX6_beginsToken_13 (fun hc7 => ?_) (fun hc7 => ?_)
    · replace h := ifn hc7 h
      refine V_iload_n rfl dX6_beginsToken_27 rfl rfl ?_
      refine V_if_eq (t := 43) rfl rfl dX6_beginsToken_28 (fun hc8 => ?_) (fun hc8 => ?_)
      · replace h := ifp hc8 h
        refine V_iconst (v := 1) rfl dX6_beginsToken_43 kc_1 ?_
        refine V_goto (t := 48) rfl dX6_beginsToken_44 ?_
        cases h
        exact V_iret dX6_beginsToken_48 rfl nz_1 (Nat.le_refl _) (Nat.le_refl _) qI_ok
      · replace h := ifn hc8 h
        refine V_aload_n rfl dX6_beginsToken_31 rfl rfl ?_
        refine V_iload_n rfl dX6_beginsToken_32 rfl rfl ?_
        refine V_iconst (v := 1) rfl dX6_beginsToken_33 kc_1 ?_
        refine V_isub rfl dX6_beginsToken_34 ?_
        replace h := rd_e h
        obtain ⟨hb10, h⟩ := h
        refine V_iald rfl dX6_beginsToken_35 h0 hb10 ?_
        replace h := cl_e h
        obtain ⟨w11, M12, hc13, h⟩ := h
        refine V_si (As := [.int _]) rfl dX6_beginsToken_36 mf_X6_sightOf w_636 w_635 (by decide) rfl rfl rfl ⟨rfl, rfl⟩ (t_X6_sightOf hc13) ?_
        refine V_iload_n rfl dX6_beginsToken_39 rfl rfl ?_
        refine V_icmp_eq (t := 47) rfl rfl dX6_beginsToken_40 (fun hc14 => ?_) (fun hc14 => ?_)
        · replace h := ifp hc14 h
          refine V_iconst (v := 0) rfl dX6_beginsToken_47 kc_0 ?_
          cases h
          exact V_iret dX6_beginsToken_48 rfl nz_0 (Nat.le_refl _) (Nat.le_refl _) qI_ok
        · replace h := ifn hc14 h
          refine V_iconst (v := 1) rfl dX6_beginsToken_43 kc_1 ?_
          refine V_goto (t := 48) rfl dX6_beginsToken_44 ?_
          cases h
          exact V_iret dX6_beginsToken_48 rfl nz_1 (Nat.le_refl _) (Nat.le_refl _) qI_ok
    · replace h := ifp hc7 h
      exact V_sub (le_n (le_n (le_s le_0))) (t_X6_beginsToken_16 h0 h)
-- J0_coder_7d493: java/lang/String.coder()B
def f_J0_coder_7d493 (M : IM) : IR := if (1 : Int32) = 0 then some (1, M) else some (0, M)
set_option maxRecDepth 100000 in
set_option maxHeartbeats 4000000 in
theorem t_J0_coder_7d493 {g : IG} {a : Nat → Nat} {R : Int32 × IM} {M : IM} (h : f_J0_coder_7d493 M = some R) : Cn g mJ0_coder_7d493 1 0 0 (qI S0 a R) [.ref (gak g)] a S0 M := by
  refine Cn_of (L := [some (.ref (gak g))]) mf_J0_coder_7d493 (cat_r cat_0) (Nat.le_of_ble_eq_true rfl) rfl ?_
  unfold f_J0_coder_7d493 at h
  refine V_scmp rfl dJ0_coder_7d493_0 w_653 ?_
  refine V_if_eq (t := 13) rfl rfl dJ0_coder_7d493_3 (fun hc1 => ?_) (fun hc1 => ?_)
  · replace h := ifp hc1 h
    refine V_iconst (v := 1) rfl dJ0_coder_7d493_13 kc_1 ?_
    cases h
    exact V_iret dJ0_coder_7d493_14 rfl nb_1 (Nat.le_refl _) (Nat.le_refl _) qI_ok
  · replace h := ifn hc1 h
    refine V_aload_n rfl dJ0_coder_7d493_6 rfl rfl ?_
    refine V_scod rfl dJ0_coder_7d493_7 w_1839 ?_
    refine V_goto (t := 14) rfl dJ0_coder_7d493_10 ?_
    cases h
    exact V_iret dJ0_coder_7d493_14 rfl nb_0 (Nat.le_refl _) (Nat.le_refl _) qI_ok
-- J0_length_8abf5: java/lang/String.length()I
def f_J0_length_8abf5 (M : IM) : IR := cl (f_J0_coder_7d493 M) fun w1 M2 => some (((Int32.ofNat ie_wln) >>> (w1 &&& 31)), M2)
set_option maxRecDepth 100000 in
set_option maxHeartbeats 4000000 in
theorem t_J0_length_8abf5 {g : IG} {a : Nat → Nat} {R : Int32 × IM} {M : IM} (h : f_J0_length_8abf5 M = some R) : Cn g mJ0_length_8abf5 2 0 0 (qI S0 a R) [.ref (gak g)] a S0 M := by
  refine Cn_of (L := [some (.ref (gak g))]) mf_J0_length_8abf5 (cat_r cat_0) (Nat.le_of_ble_eq_true rfl) rfl ?_
  unfold f_J0_length_8abf5 at h
  refine V_aload_n rfl dJ0_length_8abf5_0 rfl rfl ?_
  refine V_sval rfl dJ0_length_8abf5_1 w_1838 ?_
  refine V_sbln rfl dJ0_length_8abf5_4 rfl ?_
  refine V_aload_n rfl dJ0_length_8abf5_5 rfl rfl ?_
  replace h := cl_e h
  obtain ⟨w1, M2, hc3, h⟩ := h
  refine V_iis (As := []) rfl dJ0_length_8abf5_6 mf_J0_coder_7d493 ⟨w_650, w_651⟩ w_649 (by decide) rfl rfl rfl ⟨rfl, rfl⟩ (t_J0_coder_7d493 hc3) ?_
  refine V_ishr rfl dJ0_length_8abf5_9 ?_
  cases h
  exact V_iret dJ0_length_8abf5_10 rfl rfl (Nat.le_refl _) (Nat.le_refl _) qI_ok
-- J0_isLatin1_aae02: java/lang/String.isLatin1()Z
def f_J0_isLatin1_aae02 (M : IM) : IR := if (1 : Int32) = 0 then some (0, M) else if (0 : Int32) = 0 then some (1, M) else some (0, M)
set_option maxRecDepth 100000 in
set_option maxHeartbeats 4000000 in
theorem t_J0_isLatin1_aae02 {g : IG} {a : Nat → Nat} {R : Int32 × IM} {M : IM} (h : f_J0_isLatin1_aae02 M = some R) : Cn g mJ0_isLatin1_aae02 1 0 0 (qI S0 a R) [.ref (gak g)] a S0 M := by
  refine Cn_of (L := [some (.ref (gak g))]) mf_J0_isLatin1_aae02 (cat_r cat_0) (Nat.le_of_ble_eq_true rfl) rfl ?_
  unfold f_J0_isLatin1_aae02 at h
  refine V_scmp rfl dJ0_isLatin1_aae02_0 w_653 ?_
  refine V_if_eq (t := 17) rfl rfl dJ0_isLatin1_aae02_3 (fun hc1 => ?_) (fun hc1 => ?_)
  · replace h := ifp hc1 h
    refine V_iconst (v := 0) rfl dJ0_isLatin1_aae02_17 kc_0 ?_
    cases h
    exact V_iret dJ0_isLatin1_aae02_18 rfl nz_0 (Nat.le_refl _) (Nat.le_refl _) qI_ok
  · replace h := ifn hc1 h
    refine V_aload_n rfl dJ0_isLatin1_aae02_6 rfl rfl ?_
    refine V_scod rfl dJ0_isLatin1_aae02_7 w_1839 ?_
    refine V_if_ne (t := 17) rfl rfl dJ0_isLatin1_aae02_10 (fun hc2 => ?_) (fun hc2 => ?_)
    · replace h := ifn hc2 h
      refine V_iconst (v := 0) rfl dJ0_isLatin1_aae02_17 kc_0 ?_
      cases h
      exact V_iret dJ0_isLatin1_aae02_18 rfl nz_0 (Nat.le_refl _) (Nat.le_refl _) qI_ok
    · replace h := ifp hc2 h
      refine V_iconst (v := 1) rfl dJ0_isLatin1_aae02_13 kc_1 ?_
      refine V_goto (t := 18) rfl dJ0_isLatin1_aae02_14 ?_
      cases h
      exact V_iret dJ0_isLatin1_aae02_18 rfl nz_1 (Nat.le_refl _) (Nat.le_refl _) qI_ok
-- J3_checkIndex_8e157: jdk/internal/util/Preconditions.checkIndex(IILjava/util/function/BiFunction;)I
def f_J3_checkIndex_8e157 (p0 : Int32) (p1 : Int32) (M : IM) : IR := if p0 < 0 then none else if p0 < p1 then some (p0, M) else none
set_option maxRecDepth 100000 in
set_option maxHeartbeats 4000000 in
theorem t_J3_checkIndex_8e157 {g : IG} {a : Nat → Nat} {R : Int32 × IM} {p0 : Int32} {p1 : Int32} {M : IM} (h : f_J3_checkIndex_8e157 p0 p1 M = some R) : Cn g mJ3_checkIndex_8e157 1 0 0 (qI S0 a R) [.int p0, .int p1, va_rf (gfm g)] a S0 M := by
  refine Cn_of (L := [some (.int p0), some (.int p1), some (va_rf (gfm g))]) mf_J3_checkIndex_8e157 (cat_i (cat_i (cat_q cat_0))) (Nat.le_of_ble_eq_true rfl) rfl ?_
  unfold f_J3_checkIndex_8e157 at h
  refine V_iload_n rfl dJ3_checkIndex_8e157_0 rfl rfl ?_
  refine V_if_lt (t := 9) rfl rfl dJ3_checkIndex_8e157_1 (fun hc1 => ?_) (fun hc1 => ?_)
  · replace h := ifp hc1 h
    cases h
  · replace h := ifn hc1 h
    refine V_iload_n rfl dJ3_checkIndex_8e157_4 rfl rfl ?_
    refine V_iload_n rfl dJ3_checkIndex_8e157_5 rfl rfl ?_
    refine V_icmp_lt (t := 16) rfl rfl dJ3_checkIndex_8e157_6 (fun hc2 => ?_) (fun hc2 => ?_)
    · replace h := ifp hc2 h
      refine V_iload_n rfl dJ3_checkIndex_8e157_16 rfl rfl ?_
      cases h
      exact V_iret dJ3_checkIndex_8e157_17 rfl rfl (Nat.le_refl _) (Nat.le_refl _) qI_ok
    · replace h := ifn hc2 h
      cases h
-- J0_checkIndex_df160: java/lang/String.checkIndex(II)V
def f_J0_checkIndex_df160 (p0 : Int32) (p1 : Int32) (M : IM) : IR := cl (f_J3_checkIndex_8e157 p0 p1 M) fun w1 M2 => some (0, M2)
set_option maxRecDepth 100000 in
set_option maxHeartbeats 4000000 in
theorem t_J0_checkIndex_df160 {g : IG} {a : Nat → Nat} {R : Int32 × IM} {p0 : Int32} {p1 : Int32} {M : IM} (h : f_J0_checkIndex_df160 p0 p1 M = some R) : Cn g mJ0_checkIndex_df160 2 0 0 (qV S0 a R) [.int p0, .int p1] a S0 M := by
  refine Cn_of (L := [some (.int p0), some (.int p1)]) mf_J0_checkIndex_df160 (cat_i (cat_i cat_0)) (Nat.le_of_ble_eq_true rfl) rfl ?_
  unfold f_J0_checkIndex_df160 at h
  refine V_iload_n rfl dJ0_checkIndex_df160_0 rfl rfl ?_
  refine V_iload_n rfl dJ0_checkIndex_df160_1 rfl rfl ?_
  refine V_gfm rfl dJ0_checkIndex_df160_2 w_669 ?_
  replace h := cl_e h
  obtain ⟨w1, M2, hc3, h⟩ := h
  refine V_si (As := [.int _, .int _, _]) rfl dJ0_checkIndex_df160_5 mf_J3_checkIndex_8e157 w_672 w_671 (by decide) rfl rfl rfl ⟨rfl, rfl⟩ (t_J3_checkIndex_8e157 hc3) ?_
  refine V_pop rfl dJ0_checkIndex_df160_8 rfl ?_
  cases h
  exact V_vret dJ0_checkIndex_df160_9 rfl (Nat.le_refl _) (Nat.le_refl _) qV_ok
-- J1_charAt_3b067: java/lang/StringLatin1.charAt([BI)C
def f_J1_charAt_3b067 (p1 : Int32) (M : IM) : IR := cl (f_J0_checkIndex_df160 p1 (Int32.ofNat ie_wln) M) fun _ M2 => rx (fun j => ie_wby.getD j 0) ie_wln p1 fun v4 => rc ((Int32.toUInt32 (v4 &&& 255)).toUInt16.toUInt32.toInt32) M2
set_option maxRecDepth 100000 in
set_option maxHeartbeats 4000000 in
theorem t_J1_charAt_3b067 {g : IG} {a : Nat → Nat} {R : Int32 × IM} {p1 : Int32} {M : IM} (h : f_J1_charAt_3b067 p1 M = some R) : Cn g mJ1_charAt_3b067 3 0 0 (qI S0 a R) [.ref (gav g), .int p1] a S0 M := by
  refine Cn_of (L := [some (.ref (gav g)), some (.int p1)]) mf_J1_charAt_3b067 (cat_r (cat_i cat_0)) (Nat.le_of_ble_eq_true rfl) rfl ?_
  unfold f_J1_charAt_3b067 at h
  refine V_iload_n rfl dJ1_charAt_3b067_0 rfl rfl ?_
  refine V_aload_n rfl dJ1_charAt_3b067_1 rfl rfl ?_
  refine V_sbln rfl dJ1_charAt_3b067_2 rfl ?_
  replace h := cl_e h
  obtain ⟨w1, M2, hc3, h⟩ := h
  refine V_sv (As := [.int _, .int _]) rfl dJ1_charAt_3b067_3 mf_J0_checkIndex_df160 w_667 w_666 (by decide) rfl rfl rfl ⟨rfl, rfl⟩ (t_J0_checkIndex_df160 hc3) ?_
  refine V_aload_n rfl dJ1_charAt_3b067_6 rfl rfl ?_
  refine V_iload_n rfl dJ1_charAt_3b067_7 rfl rfl ?_
  replace h := rx_e h
  obtain ⟨hb5, h⟩ := h
  refine V_sbld rfl dJ1_charAt_3b067_8 hb5 ?_
  refine V_sipush (v := 255) rfl dJ1_charAt_3b067_9 ks_255 ?_
  refine V_iand rfl dJ1_charAt_3b067_12 ?_
  refine V_i2c rfl dJ1_charAt_3b067_13 ?_
  replace h := rc_e h
  obtain ⟨hz6, h⟩ := h
  cases h
  exact V_iret dJ1_charAt_3b067_14 rfl (nar_c hz6) (Nat.le_refl _) (Nat.le_refl _) qI_ok
-- J0_charAt_5068e: java/lang/String.charAt(I)C
def f_J0_charAt_5068e (p1 : Int32) (M : IM) : IR := cl (f_J0_isLatin1_aae02 M) fun w1 M2 => if w1 = 0 then none else cl (f_J1_charAt_3b067 p1 M2) fun w5 M6 => rc w5 M6
set_option maxRecDepth 100000 in
set_option maxHeartbeats 4000000 in
theorem t_J0_charAt_5068e {g : IG} {a : Nat → Nat} {R : Int32 × IM} {p1 : Int32} {M : IM} (h : f_J0_charAt_5068e p1 M = some R) : Cn g mJ0_charAt_5068e 4 0 0 (qI S0 a R) [.ref (gak g), .int p1] a S0 M := by
  refine Cn_of (L := [some (.ref (gak g)), some (.int p1)]) mf_J0_charAt_5068e (cat_r (cat_i cat_0)) (Nat.le_of_ble_eq_true rfl) rfl ?_
  unfold f_J0_charAt_5068e at h
  refine V_aload_n rfl dJ0_charAt_5068e_0 rfl rfl ?_
  replace h := cl_e h
  obtain ⟨w1, M2, hc3, h⟩ := h
  refine V_iis (As := []) rfl dJ0_charAt_5068e_1 mf_J0_isLatin1_aae02 ⟨w_660, w_661⟩ w_659 (by decide) rfl rfl rfl ⟨rfl, rfl⟩ (t_J0_isLatin1_aae02 hc3) ?_
  refine V_if_eq (t := 16) rfl rfl dJ0_charAt_5068e_4 (fun hc4 => ?_) (fun hc4 => ?_)
  · replace h := ifp hc4 h
    refine V_aload_n rfl dJ0_charAt_5068e_16 rfl rfl ?_
    refine V_sval rfl dJ0_charAt_5068e_17 w_1838 ?_
    refine V_iload_n rfl dJ0_charAt_5068e_20 rfl rfl ?_
    cases h
  · replace h := ifn hc4 h
    refine V_aload_n rfl dJ0_charAt_5068e_7 rfl rfl ?_
    refine V_sval rfl dJ0_charAt_5068e_8 w_1838 ?_
    refine V_iload_n rfl dJ0_charAt_5068e_11 rfl rfl ?_
    replace h := cl_e h
    obtain ⟨w5, M6, hc7, h⟩ := h
    refine V_si (As := [.ref _, .int _]) rfl dJ0_charAt_5068e_12 mf_J1_charAt_3b067 w_664 w_663 (by decide) rfl rfl rfl ⟨rfl, rfl⟩ (t_J1_charAt_3b067 hc7) ?_
    replace h := rc_e h
    obtain ⟨hz8, h⟩ := h
    cases h
    exact V_iret dJ0_charAt_5068e_15 rfl (nar_c hz8) (Nat.le_refl _) (Nat.le_refl _) qI_ok
-- X6_isSame: NeverHalted$Reader.isSame([IIII)Z
def f_X6_isSame_3_b (o0 : Nat) (n0 : Nat) (r3 : Int32 → Int32 → Int32 → Int32 → IM → IR) (x1 : Int32) (x2 : Int32) (x3 : Int32) (x4 : Int32) (M : IM) : IR := if x3 ≤ x4 then some (1, M) else rd M o0 n0 (x1 + x4) fun v2 => cl (f_J0_charAt_5068e (x2 + x4) M) fun w4 M5 => if v2 = w4 then lt (x4 + 1) fun v8 => r3 x1 x2 x3 v8 M5 else some (0, M5)
def f_X6_isSame_3 (o0 : Nat) (n0 : Nat) (n : Nat) : Int32 → Int32 → Int32 → Int32 → IM → IR := itr (fun _ _ _ _ _ => none) (f_X6_isSame_3_b o0 n0) n
set_option maxRecDepth 100000 in
set_option maxHeartbeats 4000000 in
theorem t_X6_isSame_3 {g : IG} {a : Nat → Nat} {R : Int32 × IM} {o0 : Nat} {n0 : Nat} (h0 : S0[o0]? = some (0, n0, [])) (n : Nat) : ∀ (x1 : Int32) (x2 : Int32) (x3 : Int32) (x4 : Int32) (M : IM), f_X6_isSame_3 o0 n0 n x1 x2 x3 x4 M = some R → V g mX6_isSame 5 0 0 (qI S0 a R) 3 [some (.ref (a o0)), some (.int x1), some (.int x2), some (.int x3), some (.int x4)] [] a S0 M 0 0 := by
  induction n with
  | zero => intro x1 x2 x3 x4 M h; exact absurd h (fun z => by cases z)
  | succ n hr3 =>
    intro x1 x2 x3 x4 M h
    replace h : f_X6_isSame_3_b o0 n0 (f_X6_isSame_3 o0 n0 n) x1 x2 x3 x4 M = some R := h
    unfold f_X6_isSame_3_b at h
    refine V_iload rfl dX6_isSame_3 rfl ?_
    refine V_iload_n rfl dX6_isSame_5 rfl rfl ?_
    refine V_icmp_ge (t := 35) rfl rfl dX6_isSame_6 (fun hc1 => ?_) (fun hc1 => ?_)
    · replace h := ifp hc1 h
      refine V_iconst (v := 1) rfl dX6_isSame_35 kc_1 ?_
      cases h
      exact V_iret dX6_isSame_36 rfl nz_1 (Nat.le_refl _) (Nat.le_refl _) qI_ok
    · replace h := ifn hc1 h
      refine V_aload_n rfl dX6_isSame_9 rfl rfl ?_
      refine V_iload_n rfl dX6_isSame_10 rfl rfl ?_
      refine V_iload rfl dX6_isSame_11 rfl ?_
      refine V_iadd rfl dX6_isSame_13 ?_
      replace h := rd_e h
      obtain ⟨hb3, h⟩ := h
      refine V_iald rfl dX6_isSame_14 h0 hb3 ?_
      refine V_ldcS rfl rfl dX6_isSame_15 ?_
      refine V_iload_n rfl dX6_isSame_17 rfl rfl ?_
      refine V_iload rfl dX6_isSame_18 rfl ?_
      refine V_iadd rfl dX6_isSame_20 ?_
      replace h := cl_e h
      obtain ⟨w4, M5, hc6, h⟩ := h
      refine V_iis (As := [.int _]) rfl dX6_isSame_21 mf_J0_charAt_5068e ⟨w_656, w_657⟩ w_655 (by decide) rfl rfl rfl ⟨rfl, rfl⟩ (t_J0_charAt_5068e hc6) ?_
      refine V_icmp_eq (t := 29) rfl rfl dX6_isSame_24 (fun hc7 => ?_) (fun hc7 => ?_)
      · replace h := ifp hc7 h
        replace h := lt_e h
        refine V_inc (L' := [_, _, _, _, _]) rfl dX6_isSame_29 rfl kc_1 (by decide) rfl ?_
        refine V_goto (t := 3) rfl dX6_isSame_32 ?_
        exact V_sub (le_s (le_s (le_s (le_s (le_s le_0))))) (hr3 _ _ _ _ _ h)
      · replace h := ifn hc7 h
        refine V_iconst (v := 0) rfl dX6_isSame_27 kc_0 ?_
        cases h
        exact V_iret dX6_isSame_28 rfl nz_0 (Nat.le_refl _) (Nat.le_refl _) qI_ok
def f_X6_isSame (o0 : Nat) (n0 : Nat) (p1 : Int32) (p2 : Int32) (p3 : Int32) (M : IM) : IR := f_X6_isSame_3 o0 n0 BG p1 p2 p3 0 M
set_option maxRecDepth 100000 in
set_option maxHeartbeats 4000000 in
theorem t_X6_isSame {g : IG} {a : Nat → Nat} {R : Int32 × IM} {o0 : Nat} {n0 : Nat} {p1 : Int32} {p2 : Int32} {p3 : Int32} {M : IM} (h0 : S0[o0]? = some (0, n0, [])) (h : f_X6_isSame o0 n0 p1 p2 p3 M = some R) : Cn g mX6_isSame 5 0 0 (qI S0 a R) [.ref (a o0), .int p1, .int p2, .int p3] a S0 M := by
  refine Cn_of (L := [some (.ref (a o0)), some (.int p1), some (.int p2), some (.int p3), none]) mf_X6_isSame (cat_r (cat_i (cat_i (cat_i cat_0)))) (Nat.le_of_ble_eq_true rfl) rfl ?_
  unfold f_X6_isSame at h
  refine V_iconst (v := 0) rfl dX6_isSame_0 kc_0 ?_
  refine V_istore (L' := [_, _, _, _, _]) rfl dX6_isSame_1 (by decide) rfl ?_
  exact V_sub (le_s (le_s (le_s (le_s (le_s le_0))))) (t_X6_isSame_3 h0 BG _ _ _ _ _ h)
-- X6_wordFrom: NeverHalted$Reader.wordFrom([III)I
def f_X6_wordFrom_73 (o0 : Nat) (n0 : Nat) (r8 : Int32 → Int32 → Int32 → Int32 → Int32 → IM → IR) (x1 : Int32) (x2 : Int32) (x3 : Int32) (x5 : Int32) (M : IM) : IR := lt (x3 + 1) fun v19 => lt (x5 + 1) fun v20 => lt (x5 + 1) fun v21 => r8 x1 x2 v19 v20 v21 M
set_option maxRecDepth 100000 in
set_option maxHeartbeats 4000000 in
theorem t_X6_wordFrom_73 {g : IG} {a : Nat → Nat} {R : Int32 × IM} {o0 : Nat} {n0 : Nat} {r8 : Int32 → Int32 → Int32 → Int32 → Int32 → IM → IR} {x1 : Int32} {x2 : Int32} {x3 : Int32} {x5 : Int32} {M : IM} (h0 : S0[o0]? = some (0, n0, [])) (hr8 : ∀ (x1 : Int32) (x2 : Int32) (x3 : Int32) (x4 : Int32) (x5 : Int32) (M : IM), r8 x1 x2 x3 x4 x5 M = some R → V g mX6_wordFrom 6 0 0 (qI S0 a R) 8 [some (.ref (a o0)), some (.int x1), some (.int x2), some (.int x3), some (.int x4), some (.int x5)] [] a S0 M 0 0) (h : f_X6_wordFrom_73 o0 n0 r8 x1 x2 x3 x5 M = some R) : V g mX6_wordFrom 6 0 0 (qI S0 a R) 73 [some (.ref (a o0)), some (.int x1), some (.int x2), some (.int x3), none, some (.int x5)] [] a S0 M 0 0 := by
  unfold f_X6_wordFrom_73 at h
  replace h := lt_e h
  refine V_inc (L' := [_, _, _, _, _, _]) rfl dX6_wordFrom_73 rfl kc_1 (by decide) rfl ?_
  refine V_iload rfl dX6_wordFrom_76 rfl ?_
  refine V_iconst (v := 1) rfl dX6_wordFrom_78 kc_1 ?_
  refine V_iadd rfl dX6_wordFrom_79 ?_
  replace h := lt_e h
  refine V_istore (L' := [_, _, _, _, _, _]) rfl dX6_wordFrom_80 (by decide) rfl ?_
  replace h := lt_e h
  refine V_inc (L' := [_, _, _, _, _, _]) rfl dX6_wordFrom_82 rfl kc_1 (by decide) rfl ?_
  refine V_goto (t := 8) rfl dX6_wordFrom_85 ?_
  exact V_sub (le_s (le_s (le_s (le_s (le_s (le_s le_0)))))) (hr8 _ _ _ _ _ _ h)
def f_X6_wordFrom_43 (o0 : Nat) (n0 : Nat) (r8 : Int32 → Int32 → Int32 → Int32 → Int32 → IM → IR) (x1 : Int32) (x2 : Int32) (x3 : Int32) (x4 : Int32) (x5 : Int32) (M : IM) : IR := if (x5 - x4) = (x2 - x1) then cl (f_X6_isSame o0 n0 x1 x4 (x2 - x1) M) fun w15 M16 => if w15 = 0 then f_X6_wordFrom_73 o0 n0 r8 x1 x2 x3 x5 M16 else some ((10000 + x3), M16) else f_X6_wordFrom_73 o0 n0 r8 x1 x2 x3 x5 M
set_option maxRecDepth 100000 in
set_option maxHeartbeats 4000000 in
theorem t_X6_wordFrom_43 {g : IG} {a : Nat → Nat} {R : Int32 × IM} {o0 : Nat} {n0 : Nat} {r8 : Int32 → Int32 → Int32 → Int32 → Int32 → IM → IR} {x1 : Int32} {x2 : Int32} {x3 : Int32} {x4 : Int32} {x5 : Int32} {M : IM} (h0 : S0[o0]? = some (0, n0, [])) (hr8 : ∀ (x1 : Int32) (x2 : Int32) (x3 : Int32) (x4 : Int32) (x5 : Int32) (M : IM), r8 x1 x2 x3 x4 x5 M = some R → V g mX6_wordFrom 6 0 0 (qI S0 a R) 8 [some (.ref (a o0)), some (.int x1), some (.int x2), some (.int x3), some (.int x4), some (.int x5)] [] a S0 M 0 0) (h : f_X6_wordFrom_43 o0 n0 r8 x1 x2 x3 x4 x5 M = some R) : V g mX6_wordFrom 6 0 0 (qI S0 a R) 43 [some (.ref (a o0)), some (.int x1), some (.int x2), some (.int x3), some (.int x4), some (.int x5)] [] a S0 M 0 0 := by
  unfold f_X6_wordFrom_43 at h
  refine V_iload rfl dX6_wordFrom_43 rfl ?_
  refine V_iload rfl dX6_wordFrom_45 rfl ?_
  refine V_isub rfl dX6_wordFrom_47 ?_
  refine V_iload_n rfl dX6_wordFrom_48 rfl rfl ?_
  refine V_iload_n rfl dX6_wordFrom_49 rfl rfl ?_
  refine V_isub rfl dX6_wordFrom_50 ?_
  refine V_icmp_ne (t := 73) rfl rfl dX6_wordFrom_51 (fun hc14 => ?_) (fun hc14 => ?_)
  · replace h := ifn hc14 h
    exact V_sub (le_s (le_s (le_s (le_s (le_n (le_s le_0)))))) (t_X6_wordFrom_73 h0 hr8 h)
  · replace h := ifp hc14 h
    refine V_aload_n rfl dX6_wordFrom_54 rfl rfl ?_
    refine V_iload_n rfl dX6_wordFrom_55 rfl rfl ?_
    refine V_iload rfl dX6_wordFrom_56 rfl ?_
    refine V_iload_n rfl dX6_wordFrom_58 rfl rfl ?_
    refine V_iload_n rfl dX6_wordFrom_59 rfl rfl ?_
    refine V_isub rfl dX6_wordFrom_60 ?_
    replace h := cl_e h
    obtain ⟨w15, M16, hc17, h⟩ := h
    refine V_si (As := [.ref _, .int _, .int _, .int _]) rfl dX6_wordFrom_61 mf_X6_isSame w_694 w_693 (by decide) rfl rfl rfl ⟨rfl, rfl⟩ (t_X6_isSame h0 hc17) ?_
    refine V_if_eq (t := 73) rfl rfl dX6_wordFrom_64 (fun hc18 => ?_) (fun hc18 => ?_)
    · replace h := ifp hc18 h
      exact V_sub (le_s (le_s (le_s (le_s (le_n (le_s le_0)))))) (t_X6_wordFrom_73 h0 hr8 h)
    · replace h := ifn hc18 h
      refine V_sipush (v := 10000) rfl dX6_wordFrom_67 ks_10000 ?_
      refine V_iload_n rfl dX6_wordFrom_70 rfl rfl ?_
      refine V_iadd rfl dX6_wordFrom_71 ?_
      cases h
      exact V_iret dX6_wordFrom_72 rfl rfl (Nat.le_refl _) (Nat.le_refl _) qI_ok
def f_X6_wordFrom_8_b (o0 : Nat) (n0 : Nat) (r8 : Int32 → Int32 → Int32 → Int32 → Int32 → IM → IR) (x1 : Int32) (x2 : Int32) (x3 : Int32) (x4 : Int32) (x5 : Int32) (M : IM) : IR := cl (f_J0_length_8abf5 M) fun w1 M2 => if w1 < x5 then some (30001, M2) else cl (f_J0_length_8abf5 M2) fun w5 M6 => if w5 ≤ x5 then f_X6_wordFrom_43 o0 n0 r8 x1 x2 x3 x4 x5 M6 else cl (f_J0_charAt_5068e x5 M6) fun w9 M10 => if w9 = 32 then f_X6_wordFrom_43 o0 n0 r8 x1 x2 x3 x4 x5 M10 else lt (x5 + 1) fun v13 => r8 x1 x2 x3 x4 v13 M10
def f_X6_wordFrom_8 (o0 : Nat) (n0 : Nat) (n : Nat) : Int32 → Int32 → Int32 → Int32 → Int32 → IM → IR := itr (fun _ _ _ _ _ _ => none) (f_X6_wordFrom_8_b o0 n0) n
set_option maxRecDepth 100000 in
set_option maxHeartbeats 4000000 in
theorem t_X6_wordFrom_8 {g : IG} {a : Nat → Nat} {R : Int32 × IM} {o0 : Nat} {n0 : Nat} (h0 : S0[o0]? = some (0, n0, [])) (n : Nat) : ∀ (x1 : Int32) (x2 : Int32) (x3 : Int32) (x4 : Int32) (x5 : Int32) (M : IM), f_X6_wordFrom_8 o0 n0 n x1 x2 x3 x4 x5 M = some R → V g mX6_wordFrom 6 0 0 (qI S0 a R) 8 [some (.ref (a o0)), some (.int x1), some (.int x2), some (.int x3), some (.int x4), some (.int x5)] [] a S0 M 0 0 := by
  induction n with
  | zero => intro x1 x2 x3 x4 x5 M h; exact absurd h (fun z => by cases z)
  | succ n hr8 =>
    intro x1 x2 x3 x4 x5 M h
    replace h : f_X6_wordFrom_8_b o0 n0 (f_X6_wordFrom_8 o0 n0 n) x1 x2 x3 x4 x5 M = some R := h
    unfold f_X6_wordFrom_8_b at h
    refine V_iload rfl dX6_wordFrom_8 rfl ?_
    refine V_ldcS rfl rfl dX6_wordFrom_10 ?_
    replace h := cl_e h
    obtain ⟨w1, M2, hc3, h⟩ := h
    refine V_iis (As := []) rfl dX6_wordFrom_12 mf_J0_length_8abf5 ⟨w_646, w_647⟩ w_645 (by decide) rfl rfl rfl ⟨rfl, rfl⟩ (t_J0_length_8abf5 hc3) ?_
    refine V_icmp_gt (t := 88) rfl rfl dX6_wordFrom_15 (fun hc4 => ?_) (fun hc4 => ?_)
    · replace h := ifp hc4 h
      refine V_sipush (v := 30001) rfl dX6_wordFrom_88 ks_30001 ?_
      cases h
      exact V_iret dX6_wordFrom_91 rfl rfl (Nat.le_refl _) (Nat.le_refl _) qI_ok
    · replace h := ifn hc4 h
      refine V_iload rfl dX6_wordFrom_18 rfl ?_
      refine V_ldcS rfl rfl dX6_wordFrom_20 ?_
      replace h := cl_e h
      obtain ⟨w5, M6, hc7, h⟩ := h
      refine V_iis (As := []) rfl dX6_wordFrom_22 mf_J0_length_8abf5 ⟨w_646, w_647⟩ w_645 (by decide) rfl rfl rfl ⟨rfl, rfl⟩ (t_J0_length_8abf5 hc7) ?_
      refine V_icmp_ge (t := 43) rfl rfl dX6_wordFrom_25 (fun hc8 => ?_) (fun hc8 => ?_)
      · replace h := ifp hc8 h
        exact V_sub (le_s (le_s (le_s (le_s (le_s (le_s le_0)))))) (t_X6_wordFrom_43 h0 hr8 h)
      · replace h := ifn hc8 h
        refine V_ldcS rfl rfl dX6_wordFrom_28 ?_
        refine V_iload rfl dX6_wordFrom_30 rfl ?_
        replace h := cl_e h
        obtain ⟨w9, M10, hc11, h⟩ := h
        refine V_iis (As := [.int _]) rfl dX6_wordFrom_32 mf_J0_charAt_5068e ⟨w_656, w_657⟩ w_655 (by decide) rfl rfl rfl ⟨rfl, rfl⟩ (t_J0_charAt_5068e hc11) ?_
        refine V_bipush (v := 32) rfl dX6_wordFrom_35 kb_32 ?_
        refine V_icmp_eq (t := 43) rfl rfl dX6_wordFrom_37 (fun hc12 => ?_) (fun hc12 => ?_)
        · replace h := ifp hc12 h
          exact V_sub (le_s (le_s (le_s (le_s (le_s (le_s le_0)))))) (t_X6_wordFrom_43 h0 hr8 h)
        · replace h := ifn hc12 h
          refine V_goto (t := 82) rfl dX6_wordFrom_40 ?_
          replace h := lt_e h
          refine V_inc (L' := [_, _, _, _, _, _]) rfl dX6_wordFrom_82 rfl kc_1 (by decide) rfl ?_
          refine V_goto (t := 8) rfl dX6_wordFrom_85 ?_
          exact V_sub (le_s (le_s (le_s (le_s (le_s (le_s le_0)))))) (hr8 _ _ _ _ _ _ h)
def f_X6_wordFrom (o0 : Nat) (n0 : Nat) (p1 : Int32) (p2 : Int32) (M : IM) : IR := f_X6_wordFrom_8 o0 n0 BG p1 p2 0 0 0 M
set_option maxRecDepth 100000 in
set_option maxHeartbeats 4000000 in
theorem t_X6_wordFrom {g : IG} {a : Nat → Nat} {R : Int32 × IM} {o0 : Nat} {n0 : Nat} {p1 : Int32} {p2 : Int32} {M : IM} (h0 : S0[o0]? = some (0, n0, [])) (h : f_X6_wordFrom o0 n0 p1 p2 M = some R) : Cn g mX6_wordFrom 6 0 0 (qI S0 a R) [.ref (a o0), .int p1, .int p2] a S0 M := by
  refine Cn_of (L := [some (.ref (a o0)), some (.int p1), some (.int p2), none, none, none]) mf_X6_wordFrom (cat_r (cat_i (cat_i cat_0))) (Nat.le_of_ble_eq_true rfl) rfl ?_
  unfold f_X6_wordFrom at h
  refine V_iconst (v := 0) rfl dX6_wordFrom_0 kc_0 ?_
  refine V_istore_n (L' := [_, _, _, _, _, _]) rfl rfl dX6_wordFrom_1 (by decide) rfl ?_
  refine V_iconst (v := 0) rfl dX6_wordFrom_2 kc_0 ?_
  refine V_istore (L' := [_, _, _, _, _, _]) rfl dX6_wordFrom_3 (by decide) rfl ?_
  refine V_iconst (v := 0) rfl dX6_wordFrom_5 kc_0 ?_
  refine V_istore (L' := [_, _, _, _, _, _]) rfl dX6_wordFrom_6 (by decide) rfl ?_
  exact V_sub (le_s (le_s (le_s (le_s (le_s (le_s le_0)))))) (t_X6_wordFrom_8 h0 BG _ _ _ _ _ _ h)
-- X6_numberFrom: NeverHalted$Reader.numberFrom([III)I
def f_X6_numberFrom_16_b (o0 : Nat) (n0 : Nat) (r16 : Int32 → Int32 → Int32 → IM → IR) (x2 : Int32) (x3 : Int32) (x4 : Int32) (M : IM) : IR := if x2 ≤ x4 then some (x3, M) else rd M o0 n0 x4 fun v3 => lt (((x3 * 10) + v3) - 48) fun v5 => lt (x4 + 1) fun v6 => r16 x2 v5 v6 M
def f_X6_numberFrom_16 (o0 : Nat) (n0 : Nat) (n : Nat) : Int32 → Int32 → Int32 → IM → IR := itr (fun _ _ _ _ => none) (f_X6_numberFrom_16_b o0 n0) n
set_option maxRecDepth 100000 in
set_option maxHeartbeats 4000000 in
theorem t_X6_numberFrom_16 {g : IG} {a : Nat → Nat} {R : Int32 × IM} {o0 : Nat} {n0 : Nat} (h0 : S0[o0]? = some (0, n0, [])) (n : Nat) : ∀ (x2 : Int32) (x3 : Int32) (x4 : Int32) (M : IM), f_X6_numberFrom_16 o0 n0 n x2 x3 x4 M = some R → V g mX6_numberFrom 1 0 0 (qI S0 a R) 16 [some (.ref (a o0)), none, some (.int x2), some (.int x3), some (.int x4)] [] a S0 M 0 0 := by
  induction n with
  | zero => intro x2 x3 x4 M h; exact absurd h (fun z => by cases z)
  | succ n hr16 =>
    intro x2 x3 x4 M h
    replace h : f_X6_numberFrom_16_b o0 n0 (f_X6_numberFrom_16 o0 n0 n) x2 x3 x4 M = some R := h
    unfold f_X6_numberFrom_16_b at h
    refine V_iload rfl dX6_numberFrom_16 rfl ?_
    refine V_iload_n rfl dX6_numberFrom_18 rfl rfl ?_
    refine V_icmp_ge (t := 41) rfl rfl dX6_numberFrom_19 (fun hc2 => ?_) (fun hc2 => ?_)
    · replace h := ifp hc2 h
      refine V_iload_n rfl dX6_numberFrom_41 rfl rfl ?_
      cases h
      exact V_iret dX6_numberFrom_42 rfl rfl (Nat.le_refl _) (Nat.le_refl _) qI_ok
    · replace h := ifn hc2 h
      refine V_iload_n rfl dX6_numberFrom_22 rfl rfl ?_
      refine V_bipush (v := 10) rfl dX6_numberFrom_23 kb_10 ?_
      refine V_imul rfl dX6_numberFrom_25 ?_
      refine V_aload_n rfl dX6_numberFrom_26 rfl rfl ?_
      refine V_iload rfl dX6_numberFrom_27 rfl ?_
      replace h := rd_e h
      obtain ⟨hb4, h⟩ := h
      refine V_iald rfl dX6_numberFrom_29 h0 hb4 ?_
      refine V_iadd rfl dX6_numberFrom_30 ?_
      refine V_bipush (v := 48) rfl dX6_numberFrom_31 kb_48 ?_
      refine V_isub rfl dX6_numberFrom_33 ?_
      replace h := lt_e h
      refine V_istore_n (L' := [_, _, _, _, _]) rfl rfl dX6_numberFrom_34 (by decide) rfl ?_
      replace h := lt_e h
      refine V_inc (L' := [_, _, _, _, _]) rfl dX6_numberFrom_35 rfl kc_1 (by decide) rfl ?_
      refine V_goto (t := 16) rfl dX6_numberFrom_38 ?_
      exact V_sub (le_s (le_n (le_s (le_s (le_s le_0))))) (hr16 _ _ _ _ h)
def f_X6_numberFrom (o0 : Nat) (n0 : Nat) (p1 : Int32) (p2 : Int32) (M : IM) : IR := if (p2 - p1) ≤ 4 then f_X6_numberFrom_16 o0 n0 BG p2 0 p1 M else some (30001, M)
set_option maxRecDepth 100000 in
set_option maxHeartbeats 4000000 in
theorem t_X6_numberFrom {g : IG} {a : Nat → Nat} {R : Int32 × IM} {o0 : Nat} {n0 : Nat} {p1 : Int32} {p2 : Int32} {M : IM} (h0 : S0[o0]? = some (0, n0, [])) (h : f_X6_numberFrom o0 n0 p1 p2 M = some R) : Cn g mX6_numberFrom 1 0 0 (qI S0 a R) [.ref (a o0), .int p1, .int p2] a S0 M := by
  refine Cn_of (L := [some (.ref (a o0)), some (.int p1), some (.int p2), none, none]) mf_X6_numberFrom (cat_r (cat_i (cat_i cat_0))) (Nat.le_of_ble_eq_true rfl) rfl ?_
  unfold f_X6_numberFrom at h
  refine V_iload_n rfl dX6_numberFrom_0 rfl rfl ?_
  refine V_iload_n rfl dX6_numberFrom_1 rfl rfl ?_
  refine V_isub rfl dX6_numberFrom_2 ?_
  refine V_iconst (v := 4) rfl dX6_numberFrom_3 kc_4 ?_
  refine V_icmp_le (t := 11) rfl rfl dX6_numberFrom_4 (fun hc1 => ?_) (fun hc1 => ?_)
  · replace h := ifp hc1 h
    refine V_iconst (v := 0) rfl dX6_numberFrom_11 kc_0 ?_
    refine V_istore_n (L' := [_, _, _, _, _]) rfl rfl dX6_numberFrom_12 (by decide) rfl ?_
    refine V_iload_n rfl dX6_numberFrom_13 rfl rfl ?_
    refine V_istore (L' := [_, _, _, _, _]) rfl dX6_numberFrom_14 (by decide) rfl ?_
    exact V_sub (le_s (le_n (le_s (le_s (le_s le_0))))) (t_X6_numberFrom_16 h0 BG _ _ _ _ h)
  · replace h := ifn hc1 h
    refine V_sipush (v := 30001) rfl dX6_numberFrom_7 ks_30001 ?_
    cases h
    exact V_iret dX6_numberFrom_10 rfl rfl (Nat.le_refl _) (Nat.le_refl _) qI_ok
-- X6_signFrom: NeverHalted$Reader.signFrom(I)I
def f_X6_signFrom (p0 : Int32) (M : IM) : IR := if p0 = 40 then some ((20000 + p0), M) else if p0 = 41 then some ((20000 + p0), M) else if p0 = 42 then some ((20000 + p0), M) else if p0 = 43 then some ((20000 + p0), M) else if p0 = 44 then some (30001, M) else if p0 = 45 then some ((20000 + p0), M) else if p0 = 46 then some (30001, M) else if p0 = 47 then some ((20000 + p0), M) else if p0 = 48 then some (30001, M) else if p0 = 49 then some (30001, M) else if p0 = 50 then some (30001, M) else if p0 = 51 then some (30001, M) else if p0 = 52 then some (30001, M) else if p0 = 53 then some (30001, M) else if p0 = 54 then some (30001, M) else if p0 = 55 then some (30001, M) else if p0 = 56 then some (30001, M) else if p0 = 57 then some (30001, M) else if p0 = 58 then some (30001, M) else if p0 = 59 then some ((20000 + p0), M) else if p0 = 60 then some ((20000 + p0), M) else if p0 = 61 then some ((20000 + p0), M) else if p0 = 62 then some ((20000 + p0), M) else some (30001, M)
set_option maxRecDepth 100000 in
set_option maxHeartbeats 4000000 in
theorem t_X6_signFrom {g : IG} {a : Nat → Nat} {R : Int32 × IM} {p0 : Int32} {M : IM} (h : f_X6_signFrom p0 M = some R) : Cn g mX6_signFrom 1 0 0 (qI S0 a R) [.int p0] a S0 M := by
  refine Cn_of (L := [some (.int p0)]) mf_X6_signFrom (cat_i cat_0) (Nat.le_of_ble_eq_true rfl) rfl ?_
  unfold f_X6_signFrom at h
  refine V_iload_n rfl dX6_signFrom_0 rfl rfl ?_
  replace h := ift h
  rcases h with ⟨hc1, h⟩ | ⟨hc1, h⟩
  · refine V_tabAt (off := 107) (t := 108) hc1 dX6_signFrom_1 (by decide +kernel) rfl ?_
    refine V_sipush (v := 20000) rfl dX6_signFrom_108 ks_20000 ?_
    refine V_iload_n rfl dX6_signFrom_111 rfl rfl ?_
    refine V_iadd rfl dX6_signFrom_112 ?_
    cases h
    exact V_iret dX6_signFrom_113 rfl rfl (Nat.le_refl _) (Nat.le_refl _) qI_ok
  replace h := ift h
  rcases h with ⟨hc2, h⟩ | ⟨hc2, h⟩
  · refine V_tabAt (off := 107) (t := 108) hc2 dX6_signFrom_1 (by decide +kernel) rfl ?_
    refine V_sipush (v := 20000) rfl dX6_signFrom_108 ks_20000 ?_
    refine V_iload_n rfl dX6_signFrom_111 rfl rfl ?_
    refine V_iadd rfl dX6_signFrom_112 ?_
    cases h
    exact V_iret dX6_signFrom_113 rfl rfl (Nat.le_refl _) (Nat.le_refl _) qI_ok
  replace h := ift h
  rcases h with ⟨hc3, h⟩ | ⟨hc3, h⟩
  · refine V_tabAt (off := 107) (t := 108) hc3 dX6_signFrom_1 (by decide +kernel) rfl ?_
    refine V_sipush (v := 20000) rfl dX6_signFrom_108 ks_20000 ?_
    refine V_iload_n rfl dX6_signFrom_111 rfl rfl ?_
    refine V_iadd rfl dX6_signFrom_112 ?_
    cases h
    exact V_iret dX6_signFrom_113 rfl rfl (Nat.le_refl _) (Nat.le_refl _) qI_ok
  replace h := ift h
  rcases h with ⟨hc4, h⟩ | ⟨hc4, h⟩
  · refine V_tabAt (off := 107) (t := 108) hc4 dX6_signFrom_1 (by decide +kernel) rfl ?_
    refine V_sipush (v := 20000) rfl dX6_signFrom_108 ks_20000 ?_
    refine V_iload_n rfl dX6_signFrom_111 rfl rfl ?_
    refine V_iadd rfl dX6_signFrom_112 ?_
    cases h
    exact V_iret dX6_signFrom_113 rfl rfl (Nat.le_refl _) (Nat.le_refl _) qI_ok
  replace h := ift h
  rcases h with ⟨hc5, h⟩ | ⟨hc5, h⟩
  · refine V_tabAt (off := 113) (t := 114) hc5 dX6_signFrom_1 (by decide +kernel) rfl ?_
    refine V_sipush (v := 30001) rfl dX6_signFrom_114 ks_30001 ?_
    cases h
    exact V_iret dX6_signFrom_117 rfl rfl (Nat.le_refl _) (Nat.le_refl _) qI_ok
  replace h := ift h
  rcases h with ⟨hc6, h⟩ | ⟨hc6, h⟩
  · refine V_tabAt (off := 107) (t := 108) hc6 dX6_signFrom_1 (by decide +kernel) rfl ?_
    refine V_sipush (v := 20000) rfl dX6_signFrom_108 ks_20000 ?_
    refine V_iload_n rfl dX6_signFrom_111 rfl rfl ?_
    refine V_iadd rfl dX6_signFrom_112 ?_
    cases h
    exact V_iret dX6_signFrom_113 rfl rfl (Nat.le_refl _) (Nat.le_refl _) qI_ok
  replace h := ift h
  rcases h with ⟨hc7, h⟩ | ⟨hc7, h⟩
  · refine V_tabAt (off := 113) (t := 114) hc7 dX6_signFrom_1 (by decide +kernel) rfl ?_
    refine V_sipush (v := 30001) rfl dX6_signFrom_114 ks_30001 ?_
    cases h
    exact V_iret dX6_signFrom_117 rfl rfl (Nat.le_refl _) (Nat.le_refl _) qI_ok
  replace h := ift h
  rcases h with ⟨hc8, h⟩ | ⟨hc8, h⟩
  · refine V_tabAt (off := 107) (t := 108) hc8 dX6_signFrom_1 (by decide +kernel) rfl ?_
    refine V_sipush (v := 20000) rfl dX6_signFrom_108 ks_20000 ?_
    refine V_iload_n rfl dX6_signFrom_111 rfl rfl ?_
    refine V_iadd rfl dX6_signFrom_112 ?_
    cases h
    exact V_iret dX6_signFrom_113 rfl rfl (Nat.le_refl _) (Nat.le_refl _) qI_ok
  replace h := ift h
  rcases h with ⟨hc9, h⟩ | ⟨hc9, h⟩
  · refine V_tabAt (off := 113) (t := 114) hc9 dX6_signFrom_1 (by decide +kernel) rfl ?_
    refine V_sipush (v := 30001) rfl dX6_signFrom_114 ks_30001 ?_
    cases h
    exact V_iret dX6_signFrom_117 rfl rfl (Nat.le_refl _) (Nat.le_refl _) qI_ok
  replace h := ift h
  rcases h with ⟨hc10, h⟩ | ⟨hc10, h⟩
  · refine V_tabAt (off := 113) (t := 114) hc10 dX6_signFrom_1 (by decide +kernel) rfl ?_
    refine V_sipush (v := 30001) rfl dX6_signFrom_114 ks_30001 ?_
    cases h
    exact V_iret dX6_signFrom_117 rfl rfl (Nat.le_refl _) (Nat.le_refl _) qI_ok
  replace h := ift h
  rcases h with ⟨hc11, h⟩ | ⟨hc11, h⟩
  · refine V_tabAt (off := 113) (t := 114) hc11 dX6_signFrom_1 (by decide +kernel) rfl ?_
    refine V_sipush (v := 30001) rfl dX6_signFrom_114 ks_30001 ?_
    cases h
    exact V_iret dX6_signFrom_117 rfl rfl (Nat.le_refl _) (Nat.le_refl _) qI_ok
  replace h := ift h
  rcases h with ⟨hc12, h⟩ | ⟨hc12, h⟩
  · refine V_tabAt (off := 113) (t := 114) hc12 dX6_signFrom_1 (by decide +kernel) rfl ?_
    refine V_sipush (v := 30001) rfl dX6_signFrom_114 ks_30001 ?_
    cases h
    exact V_iret dX6_signFrom_117 rfl rfl (Nat.le_refl _) (Nat.le_refl _) qI_ok
  replace h := ift h
  rcases h with ⟨hc13, h⟩ | ⟨hc13, h⟩
  · refine V_tabAt (off := 113) (t := 114) hc13 dX6_signFrom_1 (by decide +kernel) rfl ?_
    refine V_sipush (v := 30001) rfl dX6_signFrom_114 ks_30001 ?_
    cases h
    exact V_iret dX6_signFrom_117 rfl rfl (Nat.le_refl _) (Nat.le_refl _) qI_ok
  replace h := ift h
  rcases h with ⟨hc14, h⟩ | ⟨hc14, h⟩
  · refine V_tabAt (off := 113) (t := 114) hc14 dX6_signFrom_1 (by decide +kernel) rfl ?_
    refine V_sipush (v := 30001) rfl dX6_signFrom_114 ks_30001 ?_
    cases h
    exact V_iret dX6_signFrom_117 rfl rfl (Nat.le_refl _) (Nat.le_refl _) qI_ok
  replace h := ift h
  rcases h with ⟨hc15, h⟩ | ⟨hc15, h⟩
  · refine V_tabAt (off := 113) (t := 114) hc15 dX6_signFrom_1 (by decide +kernel) rfl ?_
    refine V_sipush (v := 30001) rfl dX6_signFrom_114 ks_30001 ?_
    cases h
    exact V_iret dX6_signFrom_117 rfl rfl (Nat.le_refl _) (Nat.le_refl _) qI_ok
  replace h := ift h
  rcases h with ⟨hc16, h⟩ | ⟨hc16, h⟩
  · refine V_tabAt (off := 113) (t := 114) hc16 dX6_signFrom_1 (by decide +kernel) rfl ?_
    refine V_sipush (v := 30001) rfl dX6_signFrom_114 ks_30001 ?_
    cases h
    exact V_iret dX6_signFrom_117 rfl rfl (Nat.le_refl _) (Nat.le_refl _) qI_ok
  replace h := ift h
  rcases h with ⟨hc17, h⟩ | ⟨hc17, h⟩
  · refine V_tabAt (off := 113) (t := 114) hc17 dX6_signFrom_1 (by decide +kernel) rfl ?_
    refine V_sipush (v := 30001) rfl dX6_signFrom_114 ks_30001 ?_
    cases h
    exact V_iret dX6_signFrom_117 rfl rfl (Nat.le_refl _) (Nat.le_refl _) qI_ok
  replace h := ift h
  rcases h with ⟨hc18, h⟩ | ⟨hc18, h⟩
  · refine V_tabAt (off := 113) (t := 114) hc18 dX6_signFrom_1 (by decide +kernel) rfl ?_
    refine V_sipush (v := 30001) rfl dX6_signFrom_114 ks_30001 ?_
    cases h
    exact V_iret dX6_signFrom_117 rfl rfl (Nat.le_refl _) (Nat.le_refl _) qI_ok
  replace h := ift h
  rcases h with ⟨hc19, h⟩ | ⟨hc19, h⟩
  · refine V_tabAt (off := 113) (t := 114) hc19 dX6_signFrom_1 (by decide +kernel) rfl ?_
    refine V_sipush (v := 30001) rfl dX6_signFrom_114 ks_30001 ?_
    cases h
    exact V_iret dX6_signFrom_117 rfl rfl (Nat.le_refl _) (Nat.le_refl _) qI_ok
  replace h := ift h
  rcases h with ⟨hc20, h⟩ | ⟨hc20, h⟩
  · refine V_tabAt (off := 107) (t := 108) hc20 dX6_signFrom_1 (by decide +kernel) rfl ?_
    refine V_sipush (v := 20000) rfl dX6_signFrom_108 ks_20000 ?_
    refine V_iload_n rfl dX6_signFrom_111 rfl rfl ?_
    refine V_iadd rfl dX6_signFrom_112 ?_
    cases h
    exact V_iret dX6_signFrom_113 rfl rfl (Nat.le_refl _) (Nat.le_refl _) qI_ok
  replace h := ift h
  rcases h with ⟨hc21, h⟩ | ⟨hc21, h⟩
  · refine V_tabAt (off := 107) (t := 108) hc21 dX6_signFrom_1 (by decide +kernel) rfl ?_
    refine V_sipush (v := 20000) rfl dX6_signFrom_108 ks_20000 ?_
    refine V_iload_n rfl dX6_signFrom_111 rfl rfl ?_
    refine V_iadd rfl dX6_signFrom_112 ?_
    cases h
    exact V_iret dX6_signFrom_113 rfl rfl (Nat.le_refl _) (Nat.le_refl _) qI_ok
  replace h := ift h
  rcases h with ⟨hc22, h⟩ | ⟨hc22, h⟩
  · refine V_tabAt (off := 107) (t := 108) hc22 dX6_signFrom_1 (by decide +kernel) rfl ?_
    refine V_sipush (v := 20000) rfl dX6_signFrom_108 ks_20000 ?_
    refine V_iload_n rfl dX6_signFrom_111 rfl rfl ?_
    refine V_iadd rfl dX6_signFrom_112 ?_
    cases h
    exact V_iret dX6_signFrom_113 rfl rfl (Nat.le_refl _) (Nat.le_refl _) qI_ok
  replace h := ift h
  rcases h with ⟨hc23, h⟩ | ⟨hc23, h⟩
  · refine V_tabAt (off := 107) (t := 108) hc23 dX6_signFrom_1 (by decide +kernel) rfl ?_
    refine V_sipush (v := 20000) rfl dX6_signFrom_108 ks_20000 ?_
    refine V_iload_n rfl dX6_signFrom_111 rfl rfl ?_
    refine V_iadd rfl dX6_signFrom_112 ?_
    cases h
    exact V_iret dX6_signFrom_113 rfl rfl (Nat.le_refl _) (Nat.le_refl _) qI_ok
  refine V_tabOut (t := 114) dX6_signFrom_1 (by have hc1i := ne_toInt (z := 40) (k := 40) hc1 (by decide +kernel); have hc2i := ne_toInt (z := 41) (k := 41) hc2 (by decide +kernel); have hc3i := ne_toInt (z := 42) (k := 42) hc3 (by decide +kernel); have hc4i := ne_toInt (z := 43) (k := 43) hc4 (by decide +kernel); have hc5i := ne_toInt (z := 44) (k := 44) hc5 (by decide +kernel); have hc6i := ne_toInt (z := 45) (k := 45) hc6 (by decide +kernel); have hc7i := ne_toInt (z := 46) (k := 46) hc7 (by decide +kernel); have hc8i := ne_toInt (z := 47) (k := 47) hc8 (by decide +kernel); have hc9i := ne_toInt (z := 48) (k := 48) hc9 (by decide +kernel); have hc10i := ne_toInt (z := 49) (k := 49) hc10 (by decide +kernel); have hc11i := ne_toInt (z := 50) (k := 50) hc11 (by decide +kernel); have hc12i := ne_toInt (z := 51) (k := 51) hc12 (by decide +kernel); have hc13i := ne_toInt (z := 52) (k := 52) hc13 (by decide +kernel); have hc14i := ne_toInt (z := 53) (k := 53) hc14 (by decide +kernel); have hc15i := ne_toInt (z := 54) (k := 54) hc15 (by decide +kernel); have hc16i := ne_toInt (z := 55) (k := 55) hc16 (by decide +kernel); have hc17i := ne_toInt (z := 56) (k := 56) hc17 (by decide +kernel); have hc18i := ne_toInt (z := 57) (k := 57) hc18 (by decide +kernel); have hc19i := ne_toInt (z := 58) (k := 58) hc19 (by decide +kernel); have hc20i := ne_toInt (z := 59) (k := 59) hc20 (by decide +kernel); have hc21i := ne_toInt (z := 60) (k := 60) hc21 (by decide +kernel); have hc22i := ne_toInt (z := 61) (k := 61) hc22 (by decide +kernel); have hc23i := ne_toInt (z := 62) (k := 62) hc23 (by decide +kernel); omega) rfl ?_
  refine V_sipush (v := 30001) rfl dX6_signFrom_114 ks_30001 ?_
  cases h
  exact V_iret dX6_signFrom_117 rfl rfl (Nat.le_refl _) (Nat.le_refl _) qI_ok
-- X6_tokenFrom: NeverHalted$Reader.tokenFrom([III)I
def f_X6_tokenFrom_35 (o0 : Nat) (n0 : Nat) (x1 : Int32) (x3 : Int32) (x4 : Int32) (M : IM) : IR := if x3 = 1 then cl (f_X6_wordFrom o0 n0 x1 x4 M) fun w16 M17 => some (w16, M17) else if x3 = 2 then cl (f_X6_numberFrom o0 n0 x1 x4 M) fun w20 M21 => some (w20, M21) else rd M o0 n0 x1 fun v23 => cl (f_X6_signFrom v23 M) fun w25 M26 => some (w25, M26)
set_option maxRecDepth 100000 in
set_option maxHeartbeats 4000000 in
theorem t_X6_tokenFrom_35 {g : IG} {a : Nat → Nat} {R : Int32 × IM} {o0 : Nat} {n0 : Nat} {x1 : Int32} {x3 : Int32} {x4 : Int32} {M : IM} (h0 : S0[o0]? = some (0, n0, [])) (h : f_X6_tokenFrom_35 o0 n0 x1 x3 x4 M = some R) : V g mX6_tokenFrom 7 0 0 (qI S0 a R) 35 [some (.ref (a o0)), some (.int x1), none, some (.int x3), some (.int x4)] [] a S0 M 0 0 := by
  unfold f_X6_tokenFrom_35 at h
  refine V_iload_n rfl dX6_tokenFrom_35 rfl rfl ?_
  replace h := ift h
  rcases h with ⟨hc15, h⟩ | ⟨hc15, h⟩
  · refine V_lookAt (off := 28) (t := 64) hc15 dX6_tokenFrom_36 (by decide +kernel) (by decide +kernel) rfl ?_
    refine V_aload_n rfl dX6_tokenFrom_64 rfl rfl ?_
    refine V_iload_n rfl dX6_tokenFrom_65 rfl rfl ?_
    refine V_iload rfl dX6_tokenFrom_66 rfl ?_
    replace h := cl_e h
    obtain ⟨w16, M17, hc18, h⟩ := h
    refine V_si (As := [.ref _, .int _, .int _]) rfl dX6_tokenFrom_68 mf_X6_wordFrom w_642 w_641 (by decide) rfl rfl rfl ⟨rfl, rfl⟩ (t_X6_wordFrom h0 hc18) ?_
    cases h
    exact V_iret dX6_tokenFrom_71 rfl rfl (Nat.le_refl _) (Nat.le_refl _) qI_ok
  replace h := ift h
  rcases h with ⟨hc19, h⟩ | ⟨hc19, h⟩
  · refine V_lookAt (off := 36) (t := 72) hc19 dX6_tokenFrom_36 (by decide +kernel) (by decide +kernel) rfl ?_
    refine V_aload_n rfl dX6_tokenFrom_72 rfl rfl ?_
    refine V_iload_n rfl dX6_tokenFrom_73 rfl rfl ?_
    refine V_iload rfl dX6_tokenFrom_74 rfl ?_
    replace h := cl_e h
    obtain ⟨w20, M21, hc22, h⟩ := h
    refine V_si (As := [.ref _, .int _, .int _]) rfl dX6_tokenFrom_76 mf_X6_numberFrom w_697 w_696 (by decide) rfl rfl rfl ⟨rfl, rfl⟩ (t_X6_numberFrom h0 hc22) ?_
    cases h
    exact V_iret dX6_tokenFrom_79 rfl rfl (Nat.le_refl _) (Nat.le_refl _) qI_ok
  refine V_lookup (off := 44) (t := 80) dX6_tokenFrom_36 (by decide +kernel) (look_ne (fun e => ne_toInt (z := 1) (k := 1) hc15 (by decide +kernel) e.symm) (look_ne (fun e => ne_toInt (z := 2) (k := 2) hc19 (by decide +kernel) e.symm) rfl)) rfl ?_
  refine V_aload_n rfl dX6_tokenFrom_80 rfl rfl ?_
  refine V_iload_n rfl dX6_tokenFrom_81 rfl rfl ?_
  replace h := rd_e h
  obtain ⟨hb24, h⟩ := h
  refine V_iald rfl dX6_tokenFrom_82 h0 hb24 ?_
  replace h := cl_e h
  obtain ⟨w25, M26, hc27, h⟩ := h
  refine V_si (As := [.int _]) rfl dX6_tokenFrom_83 mf_X6_signFrom w_700 w_699 (by decide) rfl rfl rfl ⟨rfl, rfl⟩ (t_X6_signFrom hc27) ?_
  cases h
  exact V_iret dX6_tokenFrom_86 rfl rfl (Nat.le_refl _) (Nat.le_refl _) qI_ok
def f_X6_tokenFrom_12_b (o0 : Nat) (n0 : Nat) (r12 : Int32 → Int32 → Int32 → Int32 → IM → IR) (x1 : Int32) (x2 : Int32) (x3 : Int32) (x4 : Int32) (M : IM) : IR := if x2 ≤ x4 then f_X6_tokenFrom_35 o0 n0 x1 x3 x4 M else rd M o0 n0 x4 fun v8 => cl (f_X6_sightOf v8 M) fun w10 M11 => if w10 = x3 then lt (x4 + 1) fun v14 => r12 x1 x2 x3 v14 M11 else f_X6_tokenFrom_35 o0 n0 x1 x3 x4 M11
def f_X6_tokenFrom_12 (o0 : Nat) (n0 : Nat) (n : Nat) : Int32 → Int32 → Int32 → Int32 → IM → IR := itr (fun _ _ _ _ _ => none) (f_X6_tokenFrom_12_b o0 n0) n
set_option maxRecDepth 100000 in
set_option maxHeartbeats 4000000 in
theorem t_X6_tokenFrom_12 {g : IG} {a : Nat → Nat} {R : Int32 × IM} {o0 : Nat} {n0 : Nat} (h0 : S0[o0]? = some (0, n0, [])) (n : Nat) : ∀ (x1 : Int32) (x2 : Int32) (x3 : Int32) (x4 : Int32) (M : IM), f_X6_tokenFrom_12 o0 n0 n x1 x2 x3 x4 M = some R → V g mX6_tokenFrom 7 0 0 (qI S0 a R) 12 [some (.ref (a o0)), some (.int x1), some (.int x2), some (.int x3), some (.int x4)] [] a S0 M 0 0 := by
  induction n with
  | zero => intro x1 x2 x3 x4 M h; exact absurd h (fun z => by cases z)
  | succ n hr12 =>
    intro x1 x2 x3 x4 M h
    replace h : f_X6_tokenFrom_12_b o0 n0 (f_X6_tokenFrom_12 o0 n0 n) x1 x2 x3 x4 M = some R := h
    unfold f_X6_tokenFrom_12_b at h
    refine V_iload rfl dX6_tokenFrom_12 rfl ?_
    refine V_iload_n rfl dX6_tokenFrom_14 rfl rfl ?_
    refine V_icmp_ge (t := 35) rfl rfl dX6_tokenFrom_15 (fun hc7 => ?_) (fun hc7 => ?_)
    · replace h := ifp hc7 h
      exact V_sub (le_s (le_s (le_n (le_s (le_s le_0))))) (t_X6_tokenFrom_35 h0 h)
    · replace h := ifn hc7 h
      refine V_aload_n rfl dX6_tokenFrom_18 rfl rfl ?_
      refine V_iload rfl dX6_tokenFrom_19 rfl ?_
      replace h := rd_e h
      obtain ⟨hb9, h⟩ := h
      refine V_iald rfl dX6_tokenFrom_21 h0 hb9 ?_
      replace h := cl_e h
      obtain ⟨w10, M11, hc12, h⟩ := h
      refine V_si (As := [.int _]) rfl dX6_tokenFrom_22 mf_X6_sightOf w_636 w_635 (by decide) rfl rfl rfl ⟨rfl, rfl⟩ (t_X6_sightOf hc12) ?_
      refine V_iload_n rfl dX6_tokenFrom_25 rfl rfl ?_
      refine V_icmp_ne (t := 35) rfl rfl dX6_tokenFrom_26 (fun hc13 => ?_) (fun hc13 => ?_)
      · replace h := ifn hc13 h
        exact V_sub (le_s (le_s (le_n (le_s (le_s le_0))))) (t_X6_tokenFrom_35 h0 h)
      · replace h := ifp hc13 h
        replace h := lt_e h
        refine V_inc (L' := [_, _, _, _, _]) rfl dX6_tokenFrom_29 rfl kc_1 (by decide) rfl ?_
        refine V_goto (t := 12) rfl dX6_tokenFrom_32 ?_
        exact V_sub (le_s (le_s (le_s (le_s (le_s le_0))))) (hr12 _ _ _ _ _ h)
def f_X6_tokenFrom (o0 : Nat) (n0 : Nat) (p1 : Int32) (p2 : Int32) (M : IM) : IR := rd M o0 n0 p1 fun v1 => cl (f_X6_sightOf v1 M) fun w3 M4 => lt (p1 + 1) fun v6 => f_X6_tokenFrom_12 o0 n0 BG p1 p2 w3 v6 M4
set_option maxRecDepth 100000 in
set_option maxHeartbeats 4000000 in
theorem t_X6_tokenFrom {g : IG} {a : Nat → Nat} {R : Int32 × IM} {o0 : Nat} {n0 : Nat} {p1 : Int32} {p2 : Int32} {M : IM} (h0 : S0[o0]? = some (0, n0, [])) (h : f_X6_tokenFrom o0 n0 p1 p2 M = some R) : Cn g mX6_tokenFrom 7 0 0 (qI S0 a R) [.ref (a o0), .int p1, .int p2] a S0 M := by
  refine Cn_of (L := [some (.ref (a o0)), some (.int p1), some (.int p2), none, none]) mf_X6_tokenFrom (cat_r (cat_i (cat_i cat_0))) (Nat.le_of_ble_eq_true rfl) rfl ?_
  unfold f_X6_tokenFrom at h
  refine V_aload_n rfl dX6_tokenFrom_0 rfl rfl ?_
  refine V_iload_n rfl dX6_tokenFrom_1 rfl rfl ?_
  replace h := rd_e h
  obtain ⟨hb2, h⟩ := h
  refine V_iald rfl dX6_tokenFrom_2 h0 hb2 ?_
  replace h := cl_e h
  obtain ⟨w3, M4, hc5, h⟩ := h
  refine V_si (As := [.int _]) rfl dX6_tokenFrom_3 mf_X6_sightOf w_636 w_635 (by decide) rfl rfl rfl ⟨rfl, rfl⟩ (t_X6_sightOf hc5) ?_
  refine V_istore_n (L' := [_, _, _, _, _]) rfl rfl dX6_tokenFrom_6 (by decide) rfl ?_
  refine V_iload_n rfl dX6_tokenFrom_7 rfl rfl ?_
  refine V_iconst (v := 1) rfl dX6_tokenFrom_8 kc_1 ?_
  refine V_iadd rfl dX6_tokenFrom_9 ?_
  replace h := lt_e h
  refine V_istore (L' := [_, _, _, _, _]) rfl dX6_tokenFrom_10 (by decide) rfl ?_
  exact V_sub (le_s (le_s (le_s (le_s (le_s le_0))))) (t_X6_tokenFrom_12 h0 BG _ _ _ _ _ h)
-- X6_begin: NeverHalted$Reader.begin([II)V
def f_X6_begin_20_b (o1 : Nat) (n1 : Nat) (r20 : Int32 → Int32 → Int32 → IM → IR) (x2 : Int32) (x3 : Int32) (x4 : Int32) (M : IM) : IR := if x2 ≤ x4 then wr M 117 401 x3 30000 fun M5 => wr M5 118 401 x3 x2 fun M7 => some (0, M7) else cl (f_X6_beginsToken o1 n1 x4 M) fun w9 M10 => if w9 = 0 then lt (x4 + 1) fun v13 => r20 x2 x3 v13 M10 else cl (f_X6_tokenFrom o1 n1 x4 x2 M10) fun w14 M15 => wr M15 117 401 x3 w14 fun M17 => wr M17 118 401 x3 x4 fun M19 => lt (x3 + 1) fun v21 => lt (x4 + 1) fun v22 => r20 x2 v21 v22 M19
def f_X6_begin_20 (o1 : Nat) (n1 : Nat) (n : Nat) : Int32 → Int32 → Int32 → IM → IR := itr (fun _ _ _ _ => none) (f_X6_begin_20_b o1 n1) n
set_option maxRecDepth 100000 in
set_option maxHeartbeats 4000000 in
theorem t_X6_begin_20 {g : IG} {a : Nat → Nat} {R : Int32 × IM} {o1 : Nat} {n1 : Nat} (h1 : S0[o1]? = some (0, n1, [])) (n : Nat) : ∀ (x2 : Int32) (x3 : Int32) (x4 : Int32) (M : IM), f_X6_begin_20 o1 n1 n x2 x3 x4 M = some R → V g mX6_begin 8 0 0 (qV S0 a R) 20 [some (.ref (a 100)), some (.ref (a o1)), some (.int x2), some (.int x3), some (.int x4)] [] a S0 M 0 0 := by
  induction n with
  | zero => intro x2 x3 x4 M h; exact absurd h (fun z => by cases z)
  | succ n hr20 =>
    intro x2 x3 x4 M h
    replace h : f_X6_begin_20_b o1 n1 (f_X6_begin_20 o1 n1 n) x2 x3 x4 M = some R := h
    unfold f_X6_begin_20_b at h
    refine V_iload rfl dX6_begin_20 rfl ?_
    refine V_iload_n rfl dX6_begin_22 rfl rfl ?_
    refine V_icmp_ge (t := 65) rfl rfl dX6_begin_23 (fun hc4 => ?_) (fun hc4 => ?_)
    · replace h := ifp hc4 h
      refine V_aload_n rfl dX6_begin_65 rfl rfl ?_
      refine V_getr (k0 := 5) rfl dX6_begin_66 s0_100 icX6 (by decide) rfl w_433 ?_
      refine V_iload_n rfl dX6_begin_69 rfl rfl ?_
      refine V_sipush (v := 30000) rfl dX6_begin_70 ks_30000 ?_
      replace h := wr_e h
      obtain ⟨hb6, h⟩ := h
      refine V_iast rfl dX6_begin_73 s0_117 hb6 ?_
      refine V_aload_n rfl dX6_begin_74 rfl rfl ?_
      refine V_getr (k0 := 6) rfl dX6_begin_75 s0_100 icX6 (by decide) rfl w_434 ?_
      refine V_iload_n rfl dX6_begin_78 rfl rfl ?_
      refine V_iload_n rfl dX6_begin_79 rfl rfl ?_
      replace h := wr_e h
      obtain ⟨hb8, h⟩ := h
      refine V_iast rfl dX6_begin_80 s0_118 hb8 ?_
      cases h
      exact V_vret dX6_begin_81 rfl (Nat.le_refl _) (Nat.le_refl _) qV_ok
    · replace h := ifn hc4 h
      refine V_aload_n rfl dX6_begin_26 rfl rfl ?_
      refine V_iload rfl dX6_begin_27 rfl ?_
      replace h := cl_e h
      obtain ⟨w9, M10, hc11, h⟩ := h
      refine V_si (As := [.ref _, .int _]) rfl dX6_begin_29 mf_X6_beginsToken w_633 w_632 (by decide) rfl rfl rfl ⟨rfl, rfl⟩ (t_X6_beginsToken h1 hc11) ?_
      refine V_if_eq (t := 59) rfl rfl dX6_begin_32 (fun hc12 => ?_) (fun hc12 => ?_)
      · replace h := ifp hc12 h
        replace h := lt_e h
        refine V_inc (L' := [_, _, _, _, _]) rfl dX6_begin_59 rfl kc_1 (by decide) rfl ?_
        refine V_goto (t := 20) rfl dX6_begin_62 ?_
        exact V_sub (le_s (le_s (le_s (le_s (le_s le_0))))) (hr20 _ _ _ _ h)
      · replace h := ifn hc12 h
        refine V_aload_n rfl dX6_begin_35 rfl rfl ?_
        refine V_getr (k0 := 5) rfl dX6_begin_36 s0_100 icX6 (by decide) rfl w_433 ?_
        refine V_iload_n rfl dX6_begin_39 rfl rfl ?_
        refine V_aload_n rfl dX6_begin_40 rfl rfl ?_
        refine V_iload rfl dX6_begin_41 rfl ?_
        refine V_iload_n rfl dX6_begin_43 rfl rfl ?_
        replace h := cl_e h
        obtain ⟨w14, M15, hc16, h⟩ := h
        refine V_si (As := [.ref _, .int _, .int _]) rfl dX6_begin_44 mf_X6_tokenFrom w_639 w_638 (by decide) rfl rfl rfl ⟨rfl, rfl⟩ (t_X6_tokenFrom h1 hc16) ?_
        replace h := wr_e h
        obtain ⟨hb18, h⟩ := h
        refine V_iast rfl dX6_begin_47 s0_117 hb18 ?_
        refine V_aload_n rfl dX6_begin_48 rfl rfl ?_
        refine V_getr (k0 := 6) rfl dX6_begin_49 s0_100 icX6 (by decide) rfl w_434 ?_
        refine V_iload_n rfl dX6_begin_52 rfl rfl ?_
        refine V_iload rfl dX6_begin_53 rfl ?_
        replace h := wr_e h
        obtain ⟨hb20, h⟩ := h
        refine V_iast rfl dX6_begin_55 s0_118 hb20 ?_
        replace h := lt_e h
        refine V_inc (L' := [_, _, _, _, _]) rfl dX6_begin_56 rfl kc_1 (by decide) rfl ?_
        replace h := lt_e h
        refine V_inc (L' := [_, _, _, _, _]) rfl dX6_begin_59 rfl kc_1 (by decide) rfl ?_
        refine V_goto (t := 20) rfl dX6_begin_62 ?_
        exact V_sub (le_s (le_s (le_s (le_s (le_s le_0))))) (hr20 _ _ _ _ h)
def f_X6_begin (o1 : Nat) (n1 : Nat) (p2 : Int32) (M : IM) : IR := pt M 100 0 0 fun M1 => pt M1 100 1 (-1) fun M2 => pt M2 100 7 0 fun M3 => f_X6_begin_20 o1 n1 BG p2 0 0 M3
set_option maxRecDepth 100000 in
set_option maxHeartbeats 4000000 in
theorem t_X6_begin {g : IG} {a : Nat → Nat} {R : Int32 × IM} {o1 : Nat} {n1 : Nat} {p2 : Int32} {M : IM} (h1 : S0[o1]? = some (0, n1, [])) (h : f_X6_begin o1 n1 p2 M = some R) : Cn g mX6_begin 8 0 0 (qV S0 a R) [.ref (a 100), .ref (a o1), .int p2] a S0 M := by
  refine Cn_of (L := [some (.ref (a 100)), some (.ref (a o1)), some (.int p2), none, none]) mf_X6_begin (cat_r (cat_r (cat_i cat_0))) (Nat.le_of_ble_eq_true rfl) rfl ?_
  unfold f_X6_begin at h
  refine V_aload_n rfl dX6_begin_0 rfl rfl ?_
  refine V_iconst (v := 0) rfl dX6_begin_1 kc_0 ?_
  replace h := pt_e h
  refine V_putf (k0 := 0) (ty := .int) rfl dX6_begin_2 s0_100 icX6 tyX6_ok nmX6 (by decide) rfl w_423 rfl (tyX6_ok _ (by decide)) rfl rfl ?_
  refine V_aload_n rfl dX6_begin_5 rfl rfl ?_
  refine V_iconst (v := (-1)) rfl dX6_begin_6 kc_m1 ?_
  replace h := pt_e h
  refine V_putf (k0 := 1) (ty := .int) rfl dX6_begin_7 s0_100 icX6 tyX6_ok nmX6 (by decide) rfl w_425 rfl (tyX6_ok _ (by decide)) rfl rfl ?_
  refine V_aload_n rfl dX6_begin_10 rfl rfl ?_
  refine V_iconst (v := 0) rfl dX6_begin_11 kc_0 ?_
  replace h := pt_e h
  refine V_putf (k0 := 7) (ty := .int) rfl dX6_begin_12 s0_100 icX6 tyX6_ok nmX6 (by decide) rfl w_435 rfl (tyX6_ok _ (by decide)) rfl rfl ?_
  refine V_iconst (v := 0) rfl dX6_begin_15 kc_0 ?_
  refine V_istore_n (L' := [_, _, _, _, _]) rfl rfl dX6_begin_16 (by decide) rfl ?_
  refine V_iconst (v := 0) rfl dX6_begin_17 kc_0 ?_
  refine V_istore (L' := [_, _, _, _, _]) rfl dX6_begin_18 (by decide) rfl ?_
  exact V_sub (le_s (le_s (le_s (le_s (le_s le_0))))) (t_X6_begin_20 h1 BG _ _ _ _ h)
-- X3_clear: NeverHalted$Law.clear()V
def f_X3_clear (o0 : Nat) (M : IM) : IR := pt M o0 0 0 fun M1 => pt M1 o0 5 0 fun M2 => some (0, M2)
set_option maxRecDepth 100000 in
set_option maxHeartbeats 4000000 in
theorem t_X3_clear {g : IG} {a : Nat → Nat} {R : Int32 × IM} {o0 : Nat} {M : IM} (h0 : isLaw o0) (h : f_X3_clear o0 M = some R) : Cn g mX3_clear 1 0 0 (qV S0 a R) [.ref (a o0)] a S0 M := by
  refine Cn_of (L := [some (.ref (a o0))]) mf_X3_clear (cat_r cat_0) (Nat.le_of_ble_eq_true rfl) rfl ?_
  unfold f_X3_clear at h
  refine V_aload_n rfl dX3_clear_0 rfl rfl ?_
  refine V_iconst (v := 0) rfl dX3_clear_1 kc_0 ?_
  replace h := pt_e h
  refine V_putf (k0 := 0) (ty := .int) rfl dX3_clear_2 (isLaw_0 h0) icX3 tyX3_ok nmX3 (by decide) rfl w_258 rfl (tyX3_ok _ (by decide)) rfl rfl ?_
  refine V_aload_n rfl dX3_clear_5 rfl rfl ?_
  refine V_iconst (v := 0) rfl dX3_clear_6 kc_0 ?_
  replace h := pt_e h
  refine V_putf (k0 := 5) (ty := .int) rfl dX3_clear_7 (isLaw_0 h0) icX3 tyX3_ok nmX3 (by decide) rfl w_270 rfl (tyX3_ok _ (by decide)) rfl rfl ?_
  cases h
  exact V_vret dX3_clear_10 rfl (Nat.le_refl _) (Nat.le_refl _) qV_ok
-- X6_refuses: NeverHalted$Reader.refuses(I)Z
def f_X6_refuses (p1 : Int32) (M : IM) : IR := pt M 100 0 p1 fun M1 => rd M1 118 401 (M1 100 7) fun v2 => pt M1 100 1 v2 fun M4 => some (0, M4)
set_option maxRecDepth 100000 in
set_option maxHeartbeats 4000000 in
theorem t_X6_refuses {g : IG} {a : Nat → Nat} {R : Int32 × IM} {p1 : Int32} {M : IM} (h : f_X6_refuses p1 M = some R) : Cn g mX6_refuses 1 0 0 (qI S0 a R) [.ref (a 100), .int p1] a S0 M := by
  refine Cn_of (L := [some (.ref (a 100)), some (.int p1)]) mf_X6_refuses (cat_r (cat_i cat_0)) (Nat.le_of_ble_eq_true rfl) rfl ?_
  unfold f_X6_refuses at h
  refine V_aload_n rfl dX6_refuses_0 rfl rfl ?_
  refine V_iload_n rfl dX6_refuses_1 rfl rfl ?_
  replace h := pt_e h
  refine V_putf (k0 := 0) (ty := .int) rfl dX6_refuses_2 s0_100 icX6 tyX6_ok nmX6 (by decide) rfl w_423 rfl (tyX6_ok _ (by decide)) rfl rfl ?_
  refine V_aload_n rfl dX6_refuses_5 rfl rfl ?_
  refine V_aload_n rfl dX6_refuses_6 rfl rfl ?_
  refine V_getr (k0 := 6) rfl dX6_refuses_7 s0_100 icX6 (by decide) rfl w_434 ?_
  refine V_aload_n rfl dX6_refuses_10 rfl rfl ?_
  refine V_geti (k0 := 7) rfl dX6_refuses_11 s0_100 icX6 (by decide) rfl w_435 ?_
  replace h := rd_e h
  obtain ⟨hb3, h⟩ := h
  refine V_iald rfl dX6_refuses_14 s0_118 hb3 ?_
  replace h := pt_e h
  refine V_putf (k0 := 1) (ty := .int) rfl dX6_refuses_15 s0_100 icX6 tyX6_ok nmX6 (by decide) rfl w_425 rfl (tyX6_ok _ (by decide)) rfl rfl ?_
  refine V_iconst (v := 0) rfl dX6_refuses_18 kc_0 ?_
  cases h
  exact V_iret dX6_refuses_19 rfl nz_0 (Nat.le_refl _) (Nat.le_refl _) qI_ok
-- X6_takesToken: NeverHalted$Reader.takesToken()V
def f_X6_takesToken (M : IM) : IR := if 400 ≤ (M 100 7) then some (0, M) else pt M 100 7 ((M 100 7) + 1) fun M2 => some (0, M2)
set_option maxRecDepth 100000 in
set_option maxHeartbeats 4000000 in
theorem t_X6_takesToken {g : IG} {a : Nat → Nat} {R : Int32 × IM} {M : IM} (h : f_X6_takesToken M = some R) : Cn g mX6_takesToken 1 0 0 (qV S0 a R) [.ref (a 100)] a S0 M := by
  refine Cn_of (L := [some (.ref (a 100))]) mf_X6_takesToken (cat_r cat_0) (Nat.le_of_ble_eq_true rfl) rfl ?_
  unfold f_X6_takesToken at h
  refine V_aload_n rfl dX6_takesToken_0 rfl rfl ?_
  refine V_geti (k0 := 7) rfl dX6_takesToken_1 s0_100 icX6 (by decide) rfl w_435 ?_
  refine V_sipush (v := 400) rfl dX6_takesToken_4 ks_400 ?_
  refine V_icmp_ge (t := 20) rfl rfl dX6_takesToken_7 (fun hc1 => ?_) (fun hc1 => ?_)
  · replace h := ifp hc1 h
    cases h
    exact V_vret dX6_takesToken_20 rfl (Nat.le_refl _) (Nat.le_refl _) qV_ok
  · replace h := ifn hc1 h
    refine V_aload_n rfl dX6_takesToken_10 rfl rfl ?_
    refine V_dup rfl dX6_takesToken_11 rfl ?_
    refine V_geti (k0 := 7) rfl dX6_takesToken_12 s0_100 icX6 (by decide) rfl w_435 ?_
    refine V_iconst (v := 1) rfl dX6_takesToken_15 kc_1 ?_
    refine V_iadd rfl dX6_takesToken_16 ?_
    replace h := pt_e h
    refine V_putf (k0 := 7) (ty := .int) rfl dX6_takesToken_17 s0_100 icX6 tyX6_ok nmX6 (by decide) rfl w_435 rfl (tyX6_ok _ (by decide)) rfl rfl ?_
    cases h
    exact V_vret dX6_takesToken_20 rfl (Nat.le_refl _) (Nat.le_refl _) qV_ok
-- X3_beginLine: NeverHalted$Law.beginLine(I)V
def f_X3_beginLine (o0 : Nat) (p1 : Int32) (M : IM) : IR := wr M (o0 + 1) 16 (M o0 0) p1 fun M1 => wr M1 (o0 + 2) 16 (M1 o0 0) (M1 o0 5) fun M3 => some (0, M3)
set_option maxRecDepth 100000 in
set_option maxHeartbeats 4000000 in
theorem t_X3_beginLine {g : IG} {a : Nat → Nat} {R : Int32 × IM} {o0 : Nat} {p1 : Int32} {M : IM} (h0 : isLaw o0) (h : f_X3_beginLine o0 p1 M = some R) : Cn g mX3_beginLine 1 0 0 (qV S0 a R) [.ref (a o0), .int p1] a S0 M := by
  refine Cn_of (L := [some (.ref (a o0)), some (.int p1)]) mf_X3_beginLine (cat_r (cat_i cat_0)) (Nat.le_of_ble_eq_true rfl) rfl ?_
  unfold f_X3_beginLine at h
  refine V_aload_n rfl dX3_beginLine_0 rfl rfl ?_
  refine V_getr (k0 := 1) rfl dX3_beginLine_1 (isLaw_0 h0) icX3 (by decide) rfl w_262 ?_
  refine V_aload_n rfl dX3_beginLine_4 rfl rfl ?_
  refine V_geti (k0 := 0) rfl dX3_beginLine_5 (isLaw_0 h0) icX3 (by decide) rfl w_258 ?_
  refine V_iload_n rfl dX3_beginLine_8 rfl rfl ?_
  replace h := wr_e h
  obtain ⟨hb2, h⟩ := h
  refine V_iast rfl dX3_beginLine_9 (isLaw_1 h0) hb2 ?_
  refine V_aload_n rfl dX3_beginLine_10 rfl rfl ?_
  refine V_getr (k0 := 2) rfl dX3_beginLine_11 (isLaw_0 h0) icX3 (by decide) rfl w_264 ?_
  refine V_aload_n rfl dX3_beginLine_14 rfl rfl ?_
  refine V_geti (k0 := 0) rfl dX3_beginLine_15 (isLaw_0 h0) icX3 (by decide) rfl w_258 ?_
  refine V_aload_n rfl dX3_beginLine_18 rfl rfl ?_
  refine V_geti (k0 := 5) rfl dX3_beginLine_19 (isLaw_0 h0) icX3 (by decide) rfl w_270 ?_
  replace h := wr_e h
  obtain ⟨hb4, h⟩ := h
  refine V_iast rfl dX3_beginLine_22 (isLaw_2 h0) hb4 ?_
  cases h
  exact V_vret dX3_beginLine_23 rfl (Nat.le_refl _) (Nat.le_refl _) qV_ok
-- X6_takesNumber: NeverHalted$Reader.takesNumber(II)I
def f_X6_takesNumber (p1 : Int32) (p2 : Int32) (M : IM) : IR := rd M 117 401 (M 100 7) fun v1 => if v1 < 10000 then cl (f_X11_within v1 p1 p2 M) fun w4 M5 => if w4 = 0 then cl (f_X6_refuses 2 M5) fun w11 M12 => some ((-1), M12) else cl (f_X6_takesToken M5) fun _ M9 => some (v1, M9) else cl (f_X6_refuses 1 M) fun w14 M15 => some ((-1), M15)
set_option maxRecDepth 100000 in
set_option maxHeartbeats 4000000 in
theorem t_X6_takesNumber {g : IG} {a : Nat → Nat} {R : Int32 × IM} {p1 : Int32} {p2 : Int32} {M : IM} (h : f_X6_takesNumber p1 p2 M = some R) : Cn g mX6_takesNumber 2 0 0 (qI S0 a R) [.ref (a 100), .int p1, .int p2] a S0 M := by
  refine Cn_of (L := [some (.ref (a 100)), some (.int p1), some (.int p2), none]) mf_X6_takesNumber (cat_r (cat_i (cat_i cat_0))) (Nat.le_of_ble_eq_true rfl) rfl ?_
  unfold f_X6_takesNumber at h
  refine V_aload_n rfl dX6_takesNumber_0 rfl rfl ?_
  refine V_getr (k0 := 5) rfl dX6_takesNumber_1 s0_100 icX6 (by decide) rfl w_433 ?_
  refine V_aload_n rfl dX6_takesNumber_4 rfl rfl ?_
  refine V_geti (k0 := 7) rfl dX6_takesNumber_5 s0_100 icX6 (by decide) rfl w_435 ?_
  replace h := rd_e h
  obtain ⟨hb2, h⟩ := h
  refine V_iald rfl dX6_takesNumber_8 s0_117 hb2 ?_
  refine V_istore_n (L' := [_, _, _, _]) rfl rfl dX6_takesNumber_9 (by decide) rfl ?_
  refine V_iload_n rfl dX6_takesNumber_10 rfl rfl ?_
  refine V_sipush (v := 10000) rfl dX6_takesNumber_11 ks_10000 ?_
  refine V_icmp_lt (t := 25) rfl rfl dX6_takesNumber_14 (fun hc3 => ?_) (fun hc3 => ?_)
  · replace h := ifp hc3 h
    refine V_iload_n rfl dX6_takesNumber_25 rfl rfl ?_
    refine V_iload_n rfl dX6_takesNumber_26 rfl rfl ?_
    refine V_iload_n rfl dX6_takesNumber_27 rfl rfl ?_
    replace h := cl_e h
    obtain ⟨w4, M5, hc6, h⟩ := h
    refine V_ni (As := [.int _, .int _, .int _]) rfl dX6_takesNumber_28 mf_X11_within w_594 w_734 (by decide) rfl rfl rfl ⟨rfl, rfl⟩ (t_X11_within hc6) ?_
    refine V_if_ne (t := 42) rfl rfl dX6_takesNumber_31 (fun hc7 => ?_) (fun hc7 => ?_)
    · replace h := ifn hc7 h
      refine V_aload_n rfl dX6_takesNumber_42 rfl rfl ?_
      replace h := cl_e h
      obtain ⟨w8, M9, hc10, h⟩ := h
      refine V_iv (As := []) rfl dX6_takesNumber_43 mf_X6_takesToken ⟨w_720, w_5⟩ w_718 (by decide) s0_100 rfl rfl rfl rfl ⟨rfl, rfl⟩ (t_X6_takesToken hc10) ?_
      refine V_iload_n rfl dX6_takesNumber_46 rfl rfl ?_
      cases h
      exact V_iret dX6_takesNumber_47 rfl rfl (Nat.le_refl _) (Nat.le_refl _) qI_ok
    · replace h := ifp hc7 h
      refine V_aload_n rfl dX6_takesNumber_34 rfl rfl ?_
      refine V_iconst (v := 2) rfl dX6_takesNumber_35 kc_2 ?_
      replace h := cl_e h
      obtain ⟨w11, M12, hc13, h⟩ := h
      refine V_ii (As := [.int _]) rfl dX6_takesNumber_36 mf_X6_refuses ⟨w_716, w_4⟩ w_714 (by decide) s0_100 rfl rfl rfl rfl ⟨rfl, rfl⟩ (t_X6_refuses hc13) ?_
      refine V_pop rfl dX6_takesNumber_39 rfl ?_
      refine V_iconst (v := (-1)) rfl dX6_takesNumber_40 kc_m1 ?_
      cases h
      exact V_iret dX6_takesNumber_41 rfl rfl (Nat.le_refl _) (Nat.le_refl _) qI_ok
  · replace h := ifn hc3 h
    refine V_aload_n rfl dX6_takesNumber_17 rfl rfl ?_
    refine V_iconst (v := 1) rfl dX6_takesNumber_18 kc_1 ?_
    replace h := cl_e h
    obtain ⟨w14, M15, hc16, h⟩ := h
    refine V_ii (As := [.int _]) rfl dX6_takesNumber_19 mf_X6_refuses ⟨w_716, w_4⟩ w_714 (by decide) s0_100 rfl rfl rfl rfl ⟨rfl, rfl⟩ (t_X6_refuses hc16) ?_
    refine V_pop rfl dX6_takesNumber_22 rfl ?_
    refine V_iconst (v := (-1)) rfl dX6_takesNumber_23 kc_m1 ?_
    cases h
    exact V_iret dX6_takesNumber_24 rfl rfl (Nat.le_refl _) (Nat.le_refl _) qI_ok
-- X3_put: NeverHalted$Law.put(I)V
def f_X3_put (o0 : Nat) (p1 : Int32) (M : IM) : IR := if 400 ≤ (M o0 5) then some (0, M) else wr M (o0 + 5) 400 (M o0 5) p1 fun M2 => pt M2 o0 5 ((M2 o0 5) + 1) fun M4 => some (0, M4)
set_option maxRecDepth 100000 in
set_option maxHeartbeats 4000000 in
theorem t_X3_put {g : IG} {a : Nat → Nat} {R : Int32 × IM} {o0 : Nat} {p1 : Int32} {M : IM} (h0 : isLaw o0) (h : f_X3_put o0 p1 M = some R) : Cn g mX3_put 1 0 0 (qV S0 a R) [.ref (a o0), .int p1] a S0 M := by
  refine Cn_of (L := [some (.ref (a o0)), some (.int p1)]) mf_X3_put (cat_r (cat_i cat_0)) (Nat.le_of_ble_eq_true rfl) rfl ?_
  unfold f_X3_put at h
  refine V_aload_n rfl dX3_put_0 rfl rfl ?_
  refine V_geti (k0 := 5) rfl dX3_put_1 (isLaw_0 h0) icX3 (by decide) rfl w_270 ?_
  refine V_sipush (v := 400) rfl dX3_put_4 ks_400 ?_
  refine V_icmp_ge (t := 30) rfl rfl dX3_put_7 (fun hc1 => ?_) (fun hc1 => ?_)
  · replace h := ifp hc1 h
    cases h
    exact V_vret dX3_put_30 rfl (Nat.le_refl _) (Nat.le_refl _) qV_ok
  · replace h := ifn hc1 h
    refine V_aload_n rfl dX3_put_10 rfl rfl ?_
    refine V_getr (k0 := 6) rfl dX3_put_11 (isLaw_0 h0) icX3 (by decide) rfl w_271 ?_
    refine V_aload_n rfl dX3_put_14 rfl rfl ?_
    refine V_geti (k0 := 5) rfl dX3_put_15 (isLaw_0 h0) icX3 (by decide) rfl w_270 ?_
    refine V_iload_n rfl dX3_put_18 rfl rfl ?_
    replace h := wr_e h
    obtain ⟨hb3, h⟩ := h
    refine V_iast rfl dX3_put_19 (isLaw_5 h0) hb3 ?_
    refine V_aload_n rfl dX3_put_20 rfl rfl ?_
    refine V_dup rfl dX3_put_21 rfl ?_
    refine V_geti (k0 := 5) rfl dX3_put_22 (isLaw_0 h0) icX3 (by decide) rfl w_270 ?_
    refine V_iconst (v := 1) rfl dX3_put_25 kc_1 ?_
    refine V_iadd rfl dX3_put_26 ?_
    replace h := pt_e h
    refine V_putf (k0 := 5) (ty := .int) rfl dX3_put_27 (isLaw_0 h0) icX3 tyX3_ok nmX3 (by decide) rfl w_270 rfl (tyX3_ok _ (by decide)) rfl rfl ?_
    cases h
    exact V_vret dX3_put_30 rfl (Nat.le_refl _) (Nat.le_refl _) qV_ok
-- X6_readsUnit: NeverHalted$Reader.readsUnit()Z
def f_X6_readsUnit (M : IM) : IR := rd M 117 401 (M 100 7) fun v1 => if v1 < 10009 then rd M 117 401 (M 100 7) fun v4 => cl (f_X3_put 101 v4 M) fun _ M7 => cl (f_X6_takesToken M7) fun _ M10 => some (1, M10) else cl (f_X6_refuses 1 M) fun w12 M13 => rz w12 M13
set_option maxRecDepth 100000 in
set_option maxHeartbeats 4000000 in
theorem t_X6_readsUnit {g : IG} {a : Nat → Nat} {R : Int32 × IM} {M : IM} (h : f_X6_readsUnit M = some R) : Cn g mX6_readsUnit 2 0 0 (qI S0 a R) [.ref (a 100)] a S0 M := by
  refine Cn_of (L := [some (.ref (a 100))]) mf_X6_readsUnit (cat_r cat_0) (Nat.le_of_ble_eq_true rfl) rfl ?_
  unfold f_X6_readsUnit at h
  refine V_aload_n rfl dX6_readsUnit_0 rfl rfl ?_
  refine V_getr (k0 := 5) rfl dX6_readsUnit_1 s0_100 icX6 (by decide) rfl w_433 ?_
  refine V_aload_n rfl dX6_readsUnit_4 rfl rfl ?_
  refine V_geti (k0 := 7) rfl dX6_readsUnit_5 s0_100 icX6 (by decide) rfl w_435 ?_
  replace h := rd_e h
  obtain ⟨hb2, h⟩ := h
  refine V_iald rfl dX6_readsUnit_8 s0_117 hb2 ?_
  refine V_sipush (v := 10009) rfl dX6_readsUnit_9 ks_10009 ?_
  refine V_icmp_lt (t := 21) rfl rfl dX6_readsUnit_12 (fun hc3 => ?_) (fun hc3 => ?_)
  · replace h := ifp hc3 h
    refine V_aload_n rfl dX6_readsUnit_21 rfl rfl ?_
    refine V_getr (k0 := 2) rfl dX6_readsUnit_22 s0_100 icX6 (by decide) rfl w_427 ?_
    refine V_aload_n rfl dX6_readsUnit_25 rfl rfl ?_
    refine V_getr (k0 := 5) rfl dX6_readsUnit_26 s0_100 icX6 (by decide) rfl w_433 ?_
    refine V_aload_n rfl dX6_readsUnit_29 rfl rfl ?_
    refine V_geti (k0 := 7) rfl dX6_readsUnit_30 s0_100 icX6 (by decide) rfl w_435 ?_
    replace h := rd_e h
    obtain ⟨hb5, h⟩ := h
    refine V_iald rfl dX6_readsUnit_33 s0_117 hb5 ?_
    replace h := cl_e h
    obtain ⟨w6, M7, hc8, h⟩ := h
    refine V_iv (As := [.int _]) rfl dX6_readsUnit_34 mf_X3_put ⟨w_737, w_738⟩ w_736 (by decide) s0_101 rfl rfl rfl rfl ⟨rfl, rfl⟩ (t_X3_put isLaw_at101 hc8) ?_
    refine V_aload_n rfl dX6_readsUnit_37 rfl rfl ?_
    replace h := cl_e h
    obtain ⟨w9, M10, hc11, h⟩ := h
    refine V_iv (As := []) rfl dX6_readsUnit_38 mf_X6_takesToken ⟨w_720, w_5⟩ w_718 (by decide) s0_100 rfl rfl rfl rfl ⟨rfl, rfl⟩ (t_X6_takesToken hc11) ?_
    refine V_iconst (v := 1) rfl dX6_readsUnit_41 kc_1 ?_
    cases h
    exact V_iret dX6_readsUnit_42 rfl nz_1 (Nat.le_refl _) (Nat.le_refl _) qI_ok
  · replace h := ifn hc3 h
    refine V_aload_n rfl dX6_readsUnit_15 rfl rfl ?_
    refine V_iconst (v := 1) rfl dX6_readsUnit_16 kc_1 ?_
    replace h := cl_e h
    obtain ⟨w12, M13, hc14, h⟩ := h
    refine V_ii (As := [.int _]) rfl dX6_readsUnit_17 mf_X6_refuses ⟨w_716, w_4⟩ w_714 (by decide) s0_100 rfl rfl rfl rfl ⟨rfl, rfl⟩ (t_X6_refuses hc14) ?_
    replace h := rz_e h
    obtain ⟨hz15, h⟩ := h
    cases h
    exact V_iret dX6_readsUnit_20 rfl (nar_z hz15) (Nat.le_refl _) (Nat.le_refl _) qI_ok
-- X6_readsSum: NeverHalted$Reader.readsSum()Z
def f_X6_readsSum_138 (r10 : Int32 → Int32 → Int32 → IM → IR) (x2 : Int32) (x3 : Int32) (M : IM) : IR := cl (f_X6_takesToken M) fun _ M37 => lt (x3 + 1) fun v39 => r10 x2 x2 v39 M37
set_option maxRecDepth 100000 in
set_option maxHeartbeats 4000000 in
theorem t_X6_readsSum_138 {g : IG} {a : Nat → Nat} {R : Int32 × IM} {r10 : Int32 → Int32 → Int32 → IM → IR} {x2 : Int32} {x3 : Int32} {M : IM} (hr10 : ∀ (x1 : Int32) (x2 : Int32) (x3 : Int32) (M : IM), r10 x1 x2 x3 M = some R → V g mX6_readsSum 3 0 0 (qI S0 a R) 10 [some (.ref (a 100)), some (.int x1), some (.int x2), some (.int x3), none] [] a S0 M 0 0) (h : f_X6_readsSum_138 r10 x2 x3 M = some R) : V g mX6_readsSum 3 0 0 (qI S0 a R) 138 [some (.ref (a 100)), none, some (.int x2), some (.int x3), none] [] a S0 M 0 0 := by
  unfold f_X6_readsSum_138 at h
  refine V_iload_n rfl dX6_readsSum_138 rfl rfl ?_
  refine V_istore_n (L' := [_, _, _, _, _]) rfl rfl dX6_readsSum_139 (by decide) rfl ?_
  refine V_aload_n rfl dX6_readsSum_140 rfl rfl ?_
  replace h := cl_e h
  obtain ⟨w36, M37, hc38, h⟩ := h
  refine V_iv (As := []) rfl dX6_readsSum_141 mf_X6_takesToken ⟨w_720, w_5⟩ w_718 (by decide) s0_100 rfl rfl rfl rfl ⟨rfl, rfl⟩ (t_X6_takesToken hc38) ?_
  replace h := lt_e h
  refine V_inc (L' := [_, _, _, _, _]) rfl dX6_readsSum_144 rfl kc_1 (by decide) rfl ?_
  refine V_goto (t := 10) rfl dX6_readsSum_147 ?_
  exact V_sub (le_s (le_s (le_s (le_s (le_n le_0))))) (hr10 _ _ _ _ h)
def f_X6_readsSum_122 (r10 : Int32 → Int32 → Int32 → IM → IR) (x2 : Int32) (x3 : Int32) (M : IM) : IR := if x2 = 20043 then f_X6_readsSum_138 r10 x2 x3 M else if x2 = 20045 then f_X6_readsSum_138 r10 x2 x3 M else some (1, M)
set_option maxRecDepth 100000 in
set_option maxHeartbeats 4000000 in
theorem t_X6_readsSum_122 {g : IG} {a : Nat → Nat} {R : Int32 × IM} {r10 : Int32 → Int32 → Int32 → IM → IR} {x2 : Int32} {x3 : Int32} {M : IM} (hr10 : ∀ (x1 : Int32) (x2 : Int32) (x3 : Int32) (M : IM), r10 x1 x2 x3 M = some R → V g mX6_readsSum 3 0 0 (qI S0 a R) 10 [some (.ref (a 100)), some (.int x1), some (.int x2), some (.int x3), none] [] a S0 M 0 0) (h : f_X6_readsSum_122 r10 x2 x3 M = some R) : V g mX6_readsSum 3 0 0 (qI S0 a R) 122 [some (.ref (a 100)), none, some (.int x2), some (.int x3), none] [] a S0 M 0 0 := by
  unfold f_X6_readsSum_122 at h
  refine V_iload_n rfl dX6_readsSum_122 rfl rfl ?_
  refine V_sipush (v := 20043) rfl dX6_readsSum_123 ks_20043 ?_
  refine V_icmp_eq (t := 138) rfl rfl dX6_readsSum_126 (fun hc34 => ?_) (fun hc34 => ?_)
  · replace h := ifp hc34 h
    exact V_sub (le_s (le_n (le_s (le_s (le_n le_0))))) (t_X6_readsSum_138 hr10 h)
  · replace h := ifn hc34 h
    refine V_iload_n rfl dX6_readsSum_129 rfl rfl ?_
    refine V_sipush (v := 20045) rfl dX6_readsSum_130 ks_20045 ?_
    refine V_icmp_eq (t := 138) rfl rfl dX6_readsSum_133 (fun hc35 => ?_) (fun hc35 => ?_)
    · replace h := ifp hc35 h
      exact V_sub (le_s (le_n (le_s (le_s (le_n le_0))))) (t_X6_readsSum_138 hr10 h)
    · replace h := ifn hc35 h
      refine V_iconst (v := 1) rfl dX6_readsSum_136 kc_1 ?_
      cases h
      exact V_iret dX6_readsSum_137 rfl nz_1 (Nat.le_refl _) (Nat.le_refl _) qI_ok
def f_X6_readsSum_83 (r10 : Int32 → Int32 → Int32 → IM → IR) (x1 : Int32) (x3 : Int32) (M : IM) : IR := rd M 117 401 (M 100 7) fun v18 => if v18 = 20042 then cl (f_X6_takesToken M) fun _ M22 => lt (x3 + 1) fun v24 => r10 x1 v18 v24 M22 else if v18 = 20047 then cl (f_X6_takesToken M) fun _ M27 => lt (x3 + 1) fun v29 => r10 x1 v18 v29 M27 else if x1 = 30001 then f_X6_readsSum_122 r10 v18 x3 M else cl (f_X3_put 101 x1 M) fun _ M32 => f_X6_readsSum_122 r10 v18 x3 M32
set_option maxRecDepth 100000 in
set_option maxHeartbeats 4000000 in
theorem t_X6_readsSum_83 {g : IG} {a : Nat → Nat} {R : Int32 × IM} {r10 : Int32 → Int32 → Int32 → IM → IR} {x1 : Int32} {x3 : Int32} {M : IM} (hr10 : ∀ (x1 : Int32) (x2 : Int32) (x3 : Int32) (M : IM), r10 x1 x2 x3 M = some R → V g mX6_readsSum 3 0 0 (qI S0 a R) 10 [some (.ref (a 100)), some (.int x1), some (.int x2), some (.int x3), none] [] a S0 M 0 0) (h : f_X6_readsSum_83 r10 x1 x3 M = some R) : V g mX6_readsSum 3 0 0 (qI S0 a R) 83 [some (.ref (a 100)), some (.int x1), none, some (.int x3), none] [] a S0 M 0 0 := by
  unfold f_X6_readsSum_83 at h
  refine V_aload_n rfl dX6_readsSum_83 rfl rfl ?_
  refine V_getr (k0 := 5) rfl dX6_readsSum_84 s0_100 icX6 (by decide) rfl w_433 ?_
  refine V_aload_n rfl dX6_readsSum_87 rfl rfl ?_
  refine V_geti (k0 := 7) rfl dX6_readsSum_88 s0_100 icX6 (by decide) rfl w_435 ?_
  replace h := rd_e h
  obtain ⟨hb19, h⟩ := h
  refine V_iald rfl dX6_readsSum_91 s0_117 hb19 ?_
  refine V_istore_n (L' := [_, _, _, _, _]) rfl rfl dX6_readsSum_92 (by decide) rfl ?_
  refine V_iload_n rfl dX6_readsSum_93 rfl rfl ?_
  refine V_sipush (v := 20042) rfl dX6_readsSum_94 ks_20042 ?_
  refine V_icmp_eq (t := 140) rfl rfl dX6_readsSum_97 (fun hc20 => ?_) (fun hc20 => ?_)
  · replace h := ifp hc20 h
    refine V_aload_n rfl dX6_readsSum_140 rfl rfl ?_
    replace h := cl_e h
    obtain ⟨w21, M22, hc23, h⟩ := h
    refine V_iv (As := []) rfl dX6_readsSum_141 mf_X6_takesToken ⟨w_720, w_5⟩ w_718 (by decide) s0_100 rfl rfl rfl rfl ⟨rfl, rfl⟩ (t_X6_takesToken hc23) ?_
    replace h := lt_e h
    refine V_inc (L' := [_, _, _, _, _]) rfl dX6_readsSum_144 rfl kc_1 (by decide) rfl ?_
    refine V_goto (t := 10) rfl dX6_readsSum_147 ?_
    exact V_sub (le_s (le_s (le_s (le_s (le_n le_0))))) (hr10 _ _ _ _ h)
  · replace h := ifn hc20 h
    refine V_iload_n rfl dX6_readsSum_100 rfl rfl ?_
    refine V_sipush (v := 20047) rfl dX6_readsSum_101 ks_20047 ?_
    refine V_icmp_eq (t := 140) rfl rfl dX6_readsSum_104 (fun hc25 => ?_) (fun hc25 => ?_)
    · replace h := ifp hc25 h
      refine V_aload_n rfl dX6_readsSum_140 rfl rfl ?_
      replace h := cl_e h
      obtain ⟨w26, M27, hc28, h⟩ := h
      refine V_iv (As := []) rfl dX6_readsSum_141 mf_X6_takesToken ⟨w_720, w_5⟩ w_718 (by decide) s0_100 rfl rfl rfl rfl ⟨rfl, rfl⟩ (t_X6_takesToken hc28) ?_
      replace h := lt_e h
      refine V_inc (L' := [_, _, _, _, _]) rfl dX6_readsSum_144 rfl kc_1 (by decide) rfl ?_
      refine V_goto (t := 10) rfl dX6_readsSum_147 ?_
      exact V_sub (le_s (le_s (le_s (le_s (le_n le_0))))) (hr10 _ _ _ _ h)
    · replace h := ifn hc25 h
      refine V_iload_n rfl dX6_readsSum_107 rfl rfl ?_
      refine V_sipush (v := 30001) rfl dX6_readsSum_108 ks_30001 ?_
      refine V_icmp_eq (t := 122) rfl rfl dX6_readsSum_111 (fun hc30 => ?_) (fun hc30 => ?_)
      · replace h := ifp hc30 h
        exact V_sub (le_s (le_n (le_s (le_s (le_n le_0))))) (t_X6_readsSum_122 hr10 h)
      · replace h := ifn hc30 h
        refine V_aload_n rfl dX6_readsSum_114 rfl rfl ?_
        refine V_getr (k0 := 2) rfl dX6_readsSum_115 s0_100 icX6 (by decide) rfl w_427 ?_
        refine V_iload_n rfl dX6_readsSum_118 rfl rfl ?_
        replace h := cl_e h
        obtain ⟨w31, M32, hc33, h⟩ := h
        refine V_iv (As := [.int _]) rfl dX6_readsSum_119 mf_X3_put ⟨w_737, w_738⟩ w_736 (by decide) s0_101 rfl rfl rfl rfl ⟨rfl, rfl⟩ (t_X3_put isLaw_at101 hc33) ?_
        exact V_sub (le_s (le_n (le_s (le_s (le_n le_0))))) (t_X6_readsSum_122 hr10 h)
def f_X6_readsSum_66 (r10 : Int32 → Int32 → Int32 → IM → IR) (x1 : Int32) (x2 : Int32) (x3 : Int32) (M : IM) : IR := if x2 = 20042 then cl (f_X3_put 101 20042 M) fun _ M16 => f_X6_readsSum_83 r10 x1 x3 M16 else f_X6_readsSum_83 r10 x1 x3 M
set_option maxRecDepth 100000 in
set_option maxHeartbeats 4000000 in
theorem t_X6_readsSum_66 {g : IG} {a : Nat → Nat} {R : Int32 × IM} {r10 : Int32 → Int32 → Int32 → IM → IR} {x1 : Int32} {x2 : Int32} {x3 : Int32} {M : IM} (hr10 : ∀ (x1 : Int32) (x2 : Int32) (x3 : Int32) (M : IM), r10 x1 x2 x3 M = some R → V g mX6_readsSum 3 0 0 (qI S0 a R) 10 [some (.ref (a 100)), some (.int x1), some (.int x2), some (.int x3), none] [] a S0 M 0 0) (h : f_X6_readsSum_66 r10 x1 x2 x3 M = some R) : V g mX6_readsSum 3 0 0 (qI S0 a R) 66 [some (.ref (a 100)), some (.int x1), some (.int x2), some (.int x3), none] [] a S0 M 0 0 := by
  unfold f_X6_readsSum_66 at h
  refine V_iload_n rfl dX6_readsSum_66 rfl rfl ?_
  refine V_sipush (v := 20042) rfl dX6_readsSum_67 ks_20042 ?_
  refine V_icmp_ne (t := 83) rfl rfl dX6_readsSum_70 (fun hc14 => ?_) (fun hc14 => ?_)
  · replace h := ifn hc14 h
    exact V_sub (le_s (le_s (le_n (le_s (le_n le_0))))) (t_X6_readsSum_83 hr10 h)
  · replace h := ifp hc14 h
    refine V_aload_n rfl dX6_readsSum_73 rfl rfl ?_
    refine V_getr (k0 := 2) rfl dX6_readsSum_74 s0_100 icX6 (by decide) rfl w_427 ?_
    refine V_sipush (v := 20042) rfl dX6_readsSum_77 ks_20042 ?_
    replace h := cl_e h
    obtain ⟨w15, M16, hc17, h⟩ := h
    refine V_iv (As := [.int _]) rfl dX6_readsSum_80 mf_X3_put ⟨w_737, w_738⟩ w_736 (by decide) s0_101 rfl rfl rfl rfl ⟨rfl, rfl⟩ (t_X3_put isLaw_at101 hc17) ?_
    exact V_sub (le_s (le_s (le_n (le_s (le_n le_0))))) (t_X6_readsSum_83 hr10 h)
def f_X6_readsSum_10_b (r10 : Int32 → Int32 → Int32 → IM → IR) (x1 : Int32) (x2 : Int32) (x3 : Int32) (M : IM) : IR := if 400 ≤ x3 then some (0, M) else if x2 = 20047 then cl (f_X6_takesNumber 1 9999 M) fun w7 M8 => if w7 = (-1) then some (0, M8) else cl (f_X3_put 101 (40000 + w7) M8) fun _ M12 => f_X6_readsSum_66 r10 x1 x2 x3 M12 else cl (f_X6_readsUnit M) fun w3 M4 => if w3 = 0 then some (0, M4) else f_X6_readsSum_66 r10 x1 x2 x3 M4
def f_X6_readsSum_10 (n : Nat) : Int32 → Int32 → Int32 → IM → IR := itr (fun _ _ _ _ => none) (f_X6_readsSum_10_b) n
set_option maxRecDepth 100000 in
set_option maxHeartbeats 4000000 in
theorem t_X6_readsSum_10 {g : IG} {a : Nat → Nat} {R : Int32 × IM} (n : Nat) : ∀ (x1 : Int32) (x2 : Int32) (x3 : Int32) (M : IM), f_X6_readsSum_10 n x1 x2 x3 M = some R → V g mX6_readsSum 3 0 0 (qI S0 a R) 10 [some (.ref (a 100)), some (.int x1), some (.int x2), some (.int x3), none] [] a S0 M 0 0 := by
  induction n with
  | zero => intro x1 x2 x3 M h; exact absurd h (fun z => by cases z)
  | succ n hr10 =>
    intro x1 x2 x3 M h
    replace h : f_X6_readsSum_10_b (f_X6_readsSum_10 n) x1 x2 x3 M = some R := h
    unfold f_X6_readsSum_10_b at h
    refine V_iload_n rfl dX6_readsSum_10 rfl rfl ?_
    refine V_sipush (v := 400) rfl dX6_readsSum_11 ks_400 ?_
    refine V_icmp_ge (t := 150) rfl rfl dX6_readsSum_14 (fun hc1 => ?_) (fun hc1 => ?_)
    · replace h := ifp hc1 h
      refine V_iconst (v := 0) rfl dX6_readsSum_150 kc_0 ?_
      cases h
      exact V_iret dX6_readsSum_151 rfl nz_0 (Nat.le_refl _) (Nat.le_refl _) qI_ok
    · replace h := ifn hc1 h
      refine V_iload_n rfl dX6_readsSum_17 rfl rfl ?_
      refine V_sipush (v := 20047) rfl dX6_readsSum_18 ks_20047 ?_
      refine V_icmp_ne (t := 57) rfl rfl dX6_readsSum_21 (fun hc2 => ?_) (fun hc2 => ?_)
      · replace h := ifn hc2 h
        refine V_aload_n rfl dX6_readsSum_57 rfl rfl ?_
        replace h := cl_e h
        obtain ⟨w3, M4, hc5, h⟩ := h
        refine V_ii (As := []) rfl dX6_readsSum_58 mf_X6_readsUnit ⟨w_742, w_8⟩ w_740 (by decide) s0_100 rfl rfl rfl rfl ⟨rfl, rfl⟩ (t_X6_readsUnit hc5) ?_
        refine V_if_ne (t := 66) rfl rfl dX6_readsSum_61 (fun hc6 => ?_) (fun hc6 => ?_)
        · replace h := ifn hc6 h
          exact V_sub (le_s (le_s (le_s (le_s (le_n le_0))))) (t_X6_readsSum_66 hr10 h)
        · replace h := ifp hc6 h
          refine V_iconst (v := 0) rfl dX6_readsSum_64 kc_0 ?_
          cases h
          exact V_iret dX6_readsSum_65 rfl nz_0 (Nat.le_refl _) (Nat.le_refl _) qI_ok
      · replace h := ifp hc2 h
        refine V_aload_n rfl dX6_readsSum_24 rfl rfl ?_
        refine V_iconst (v := 1) rfl dX6_readsSum_25 kc_1 ?_
        refine V_sipush (v := 9999) rfl dX6_readsSum_26 ks_9999 ?_
        replace h := cl_e h
        obtain ⟨w7, M8, hc9, h⟩ := h
        refine V_ii (As := [.int _, .int _]) rfl dX6_readsSum_29 mf_X6_takesNumber ⟨w_732, w_7⟩ w_730 (by decide) s0_100 rfl rfl rfl rfl ⟨rfl, rfl⟩ (t_X6_takesNumber hc9) ?_
        refine V_istore (L' := [_, _, _, _, _]) rfl dX6_readsSum_32 (by decide) rfl ?_
        refine V_iload rfl dX6_readsSum_34 rfl ?_
        refine V_iconst (v := (-1)) rfl dX6_readsSum_36 kc_m1 ?_
        refine V_icmp_ne (t := 42) rfl rfl dX6_readsSum_37 (fun hc10 => ?_) (fun hc10 => ?_)
        · replace h := ifn hc10 h
          refine V_aload_n rfl dX6_readsSum_42 rfl rfl ?_
          refine V_getr (k0 := 2) rfl dX6_readsSum_43 s0_100 icX6 (by decide) rfl w_427 ?_
          refine V_ldc (v := 40000) rfl dX6_readsSum_46 w_735 ?_
          refine V_iload rfl dX6_readsSum_48 rfl ?_
          refine V_iadd rfl dX6_readsSum_50 ?_
          replace h := cl_e h
          obtain ⟨w11, M12, hc13, h⟩ := h
          refine V_iv (As := [.int _]) rfl dX6_readsSum_51 mf_X3_put ⟨w_737, w_738⟩ w_736 (by decide) s0_101 rfl rfl rfl rfl ⟨rfl, rfl⟩ (t_X3_put isLaw_at101 hc13) ?_
          refine V_goto (t := 66) rfl dX6_readsSum_54 ?_
          exact V_sub (le_s (le_s (le_s (le_s (le_n le_0))))) (t_X6_readsSum_66 hr10 h)
        · replace h := ifp hc10 h
          refine V_iconst (v := 0) rfl dX6_readsSum_40 kc_0 ?_
          cases h
          exact V_iret dX6_readsSum_41 rfl nz_0 (Nat.le_refl _) (Nat.le_refl _) qI_ok
def f_X6_readsSum (M : IM) : IR := f_X6_readsSum_10 BG 30001 30001 0 M
set_option maxRecDepth 100000 in
set_option maxHeartbeats 4000000 in
theorem t_X6_readsSum {g : IG} {a : Nat → Nat} {R : Int32 × IM} {M : IM} (h : f_X6_readsSum M = some R) : Cn g mX6_readsSum 3 0 0 (qI S0 a R) [.ref (a 100)] a S0 M := by
  refine Cn_of (L := [some (.ref (a 100)), none, none, none, none]) mf_X6_readsSum (cat_r cat_0) (Nat.le_of_ble_eq_true rfl) rfl ?_
  unfold f_X6_readsSum at h
  refine V_sipush (v := 30001) rfl dX6_readsSum_0 ks_30001 ?_
  refine V_istore_n (L' := [_, _, _, _, _]) rfl rfl dX6_readsSum_3 (by decide) rfl ?_
  refine V_sipush (v := 30001) rfl dX6_readsSum_4 ks_30001 ?_
  refine V_istore_n (L' := [_, _, _, _, _]) rfl rfl dX6_readsSum_7 (by decide) rfl ?_
  refine V_iconst (v := 0) rfl dX6_readsSum_8 kc_0 ?_
  refine V_istore_n (L' := [_, _, _, _, _]) rfl rfl dX6_readsSum_9 (by decide) rfl ?_
  exact V_sub (le_s (le_s (le_s (le_s (le_n le_0))))) (t_X6_readsSum_10 BG _ _ _ _ h)
