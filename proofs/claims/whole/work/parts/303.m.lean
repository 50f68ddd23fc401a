-- X5_goBack: NeverHalted$Past.goBack(LNeverHalted$Now;)Z
def f_X5_goBack (o1 : Nat) (M : IM) : IR := if 0 < (M 34 0) then pt M 34 0 ((M 34 0) - 1) fun M2 => ra nwL M2 35 6 (M2 34 0) fun j3 => cl (f_X4_become o1 j3 M2) fun _ M8 => some (1, M8) else some (0, M)
set_option maxRecDepth 100000 in
set_option maxHeartbeats 4000000 in
theorem t_X5_goBack {g : IG} {a : Nat → Nat} {R : Int32 × IM} {o1 : Nat} {M : IM} (h1 : isNow o1) (h : f_X5_goBack o1 M = some R) : Cn g mX5_goBack 2 0 0 (qI S0 a R) [.ref (a 34), .ref (a o1)] a S0 M := by
  refine Cn_of (L := [some (.ref (a 34)), some (.ref (a o1))]) mf_X5_goBack (cat_r (cat_r cat_0)) (Nat.le_of_ble_eq_true rfl) rfl ?_
  unfold f_X5_goBack at h
  refine V_aload_n rfl dX5_goBack_0 rfl rfl ?_
  refine V_geti (k0 := 0) rfl dX5_goBack_1 s0_34 icX5 (by decide) rfl w_403 ?_
  refine V_if_gt (t := 9) rfl rfl dX5_goBack_4 (fun hc1 => ?_) (fun hc1 => ?_)
  · replace h := ifp hc1 h
    refine V_aload_n rfl dX5_goBack_9 rfl rfl ?_
    refine V_dup rfl dX5_goBack_10 rfl ?_
    refine V_geti (k0 := 0) rfl dX5_goBack_11 s0_34 icX5 (by decide) rfl w_403 ?_
    refine V_iconst (v := 1) rfl dX5_goBack_14 kc_1 ?_
    refine V_isub rfl dX5_goBack_15 ?_
    replace h := pt_e h
    refine V_putf (k0 := 0) (ty := .int) rfl dX5_goBack_16 s0_34 icX5 tyX5_ok nmX5 (by decide) rfl w_403 rfl (tyX5_ok _ (by decide)) rfl rfl ?_
    refine V_aload_n rfl dX5_goBack_19 rfl rfl ?_
    refine V_aload_n rfl dX5_goBack_20 rfl rfl ?_
    refine V_getr (k0 := 1) rfl dX5_goBack_21 s0_34 icX5 (by decide) rfl w_405 ?_
    refine V_aload_n rfl dX5_goBack_24 rfl rfl ?_
    refine V_geti (k0 := 0) rfl dX5_goBack_25 s0_34 icX5 (by decide) rfl w_403 ?_
    replace h := ra_e h
    obtain ⟨hb4, hz5, hj6, h⟩ := h
    refine V_aald rfl dX5_goBack_28 s0_35 hb4 hz5 ?_
    replace h := cl_e h
    obtain ⟨w7, M8, hc9, h⟩ := h
    refine V_iv (As := [.ref _]) rfl dX5_goBack_29 mf_X4_become ⟨w_835, w_836⟩ w_834 (by decide) (isNow_0 h1) rfl rfl rfl rfl ⟨rfl, rfl⟩ (t_X4_become h1 (nwL_is hj6) hc9) ?_
    refine V_iconst (v := 1) rfl dX5_goBack_32 kc_1 ?_
    cases h
    exact V_iret dX5_goBack_33 rfl nz_1 (Nat.le_refl _) (Nat.le_refl _) qI_ok
  · replace h := ifn hc1 h
    refine V_iconst (v := 0) rfl dX5_goBack_7 kc_0 ?_
    cases h
    exact V_iret dX5_goBack_8 rfl nz_0 (Nat.le_refl _) (Nat.le_refl _) qI_ok
-- X11_undo: NeverHalted.undo()Z
def f_X11_undo (M : IM) : IR := cl (f_X5_goBack 1 M) fun w1 M2 => rz w1 M2
set_option maxRecDepth 100000 in
set_option maxHeartbeats 4000000 in
theorem t_X11_undo {g : IG} {a : Nat → Nat} {R : Int32 × IM} {M : IM} (h : f_X11_undo M = some R) : Cn g mX11_undo 3 0 0 (qI S0 a R) [.ref (a 0)] a S0 M := by
  refine Cn_of (L := [some (.ref (a 0))]) mf_X11_undo (cat_r cat_0) (Nat.le_of_ble_eq_true rfl) rfl ?_
  unfold f_X11_undo at h
  refine V_aload_n rfl dX11_undo_0 rfl rfl ?_
  refine V_getr (k0 := 3) rfl dX11_undo_1 s0_0 icX11 (by decide) rfl w_526 ?_
  refine V_aload_n rfl dX11_undo_4 rfl rfl ?_
  refine V_getr (k0 := 0) rfl dX11_undo_5 s0_0 icX11 (by decide) rfl w_523 ?_
  replace h := cl_e h
  obtain ⟨w1, M2, hc3, h⟩ := h
  refine V_ii (As := [.ref _]) rfl dX11_undo_8 mf_X5_goBack ⟨w_950, w_951⟩ w_949 (by decide) s0_34 rfl rfl rfl rfl ⟨rfl, rfl⟩ (t_X5_goBack isNow_at1 hc3) ?_
  replace h := rz_e h
  obtain ⟨hz4, h⟩ := h
  cases h
  exact V_iret dX11_undo_11 rfl (nar_z hz4) (Nat.le_refl _) (Nat.le_refl _) qI_ok
-- X9_become: NeverHalted$Told.become(LNeverHalted$Told;)V
def f_X9_become (o0 : Nat) (o1 : Nat) (M : IM) : IR := pt M o0 0 (M o1 0) fun M1 => pt M1 o0 1 (M1 o1 1) fun M2 => pt M2 o0 2 (M2 o1 2) fun M3 => cp M3 (o1 + 1) 64 0 (o0 + 1) 64 0 64 fun M4 => cl (f_X3_become (o0 + 2) (o1 + 2) M4) fun w6 M7 => cl (f_X3_become (o0 + 8) (o1 + 8) M7) fun w9 M10 => cl (f_X7_become (o0 + 14) (o1 + 14) M10) fun w12 M13 => cl (f_X8_become (o0 + 19) (o1 + 19) M13) fun w15 M16 => some (0, M16)
set_option maxRecDepth 100000 in
set_option maxHeartbeats 4000000 in
theorem t_X9_become {g : IG} {a : Nat → Nat} {R : Int32 × IM} {o0 : Nat} {o1 : Nat} {M : IM} (h0 : isTold o0) (h1 : isTold o1) (h : f_X9_become o0 o1 M = some R) : Cn g mX9_become 2 0 0 (qV S0 a R) [.ref (a o0), .ref (a o1)] a S0 M := by
  refine Cn_of (L := [some (.ref (a o0)), some (.ref (a o1))]) mf_X9_become (cat_r (cat_r cat_0)) (Nat.le_of_ble_eq_true rfl) rfl ?_
  unfold f_X9_become at h
  refine V_aload_n rfl dX9_become_0 rfl rfl ?_
  refine V_aload_n rfl dX9_become_1 rfl rfl ?_
  refine V_geti (k0 := 0) rfl dX9_become_2 (isTold_0 h1) icX9 (by decide) rfl w_342 ?_
  replace h := pt_e h
  refine V_putf (k0 := 0) (ty := .int) rfl dX9_become_5 (isTold_0 h0) icX9 tyX9_ok nmX9 (by decide) rfl w_342 rfl (tyX9_ok _ (by decide)) rfl rfl ?_
  refine V_aload_n rfl dX9_become_8 rfl rfl ?_
  refine V_aload_n rfl dX9_become_9 rfl rfl ?_
  refine V_geti (k0 := 1) rfl dX9_become_10 (isTold_0 h1) icX9 (by decide) rfl w_344 ?_
  replace h := pt_e h
  refine V_putf (k0 := 1) (ty := .int) rfl dX9_become_13 (isTold_0 h0) icX9 tyX9_ok nmX9 (by decide) rfl w_344 rfl (tyX9_ok _ (by decide)) rfl rfl ?_
  refine V_aload_n rfl dX9_become_16 rfl rfl ?_
  refine V_aload_n rfl dX9_become_17 rfl rfl ?_
  refine V_geti (k0 := 2) rfl dX9_become_18 (isTold_0 h1) icX9 (by decide) rfl w_346 ?_
  replace h := pt_e h
  refine V_putf (k0 := 2) (ty := .int) rfl dX9_become_21 (isTold_0 h0) icX9 tyX9_ok nmX9 (by decide) rfl w_346 rfl (tyX9_ok _ (by decide)) rfl rfl ?_
  refine V_aload_n rfl dX9_become_24 rfl rfl ?_
  refine V_getr (k0 := 3) rfl dX9_become_25 (isTold_0 h1) icX9 (by decide) rfl w_348 ?_
  refine V_iconst (v := 0) rfl dX9_become_28 kc_0 ?_
  refine V_aload_n rfl dX9_become_29 rfl rfl ?_
  refine V_getr (k0 := 3) rfl dX9_become_30 (isTold_0 h0) icX9 (by decide) rfl w_348 ?_
  refine V_iconst (v := 0) rfl dX9_become_33 kc_0 ?_
  refine V_bipush (v := 64) rfl dX9_become_34 kb_64 ?_
  replace h := cp_e h
  obtain ⟨hb5, h⟩ := h
  refine V_copy rfl dX9_become_36 w_962 ⟨w_770, w_769, w_156⟩ (isTold_1 h1) (isTold_1 h0) rfl hb5 ?_
  refine V_aload_n rfl dX9_become_39 rfl rfl ?_
  refine V_getr (k0 := 4) rfl dX9_become_40 (isTold_0 h0) icX9 (by decide) rfl w_350 ?_
  refine V_aload_n rfl dX9_become_43 rfl rfl ?_
  refine V_getr (k0 := 4) rfl dX9_become_44 (isTold_0 h1) icX9 (by decide) rfl w_350 ?_
  replace h := cl_e h
  obtain ⟨w6, M7, hc8, h⟩ := h
  refine V_ii (As := [.ref _]) rfl dX9_become_47 mf_X3_become ⟨w_765, w_766⟩ w_963 (by decide) (isTold_2 h0) rfl rfl rfl rfl ⟨rfl, rfl⟩ (t_X3_become (isTold_Law_2 h0) (isTold_Law_2 h1) hc8) ?_
  refine V_pop rfl dX9_become_50 rfl ?_
  refine V_aload_n rfl dX9_become_51 rfl rfl ?_
  refine V_getr (k0 := 5) rfl dX9_become_52 (isTold_0 h0) icX9 (by decide) rfl w_352 ?_
  refine V_aload_n rfl dX9_become_55 rfl rfl ?_
  refine V_getr (k0 := 5) rfl dX9_become_56 (isTold_0 h1) icX9 (by decide) rfl w_352 ?_
  replace h := cl_e h
  obtain ⟨w9, M10, hc11, h⟩ := h
  refine V_ii (As := [.ref _]) rfl dX9_become_59 mf_X3_become ⟨w_765, w_766⟩ w_963 (by decide) (isTold_8 h0) rfl rfl rfl rfl ⟨rfl, rfl⟩ (t_X3_become (isTold_Law_8 h0) (isTold_Law_8 h1) hc11) ?_
  refine V_pop rfl dX9_become_62 rfl ?_
  refine V_aload_n rfl dX9_become_63 rfl rfl ?_
  refine V_getr (k0 := 6) rfl dX9_become_64 (isTold_0 h0) icX9 (by decide) rfl w_354 ?_
  refine V_aload_n rfl dX9_become_67 rfl rfl ?_
  refine V_getr (k0 := 6) rfl dX9_become_68 (isTold_0 h1) icX9 (by decide) rfl w_354 ?_
  replace h := cl_e h
  obtain ⟨w12, M13, hc14, h⟩ := h
  refine V_ii (As := [.ref _]) rfl dX9_become_71 mf_X7_become ⟨w_792, w_793⟩ w_964 (by decide) (isTold_14 h0) rfl rfl rfl rfl ⟨rfl, rfl⟩ (t_X7_become (isTold_Round_14 h0) (isTold_Round_14 h1) hc14) ?_
  refine V_pop rfl dX9_become_74 rfl ?_
  refine V_aload_n rfl dX9_become_75 rfl rfl ?_
  refine V_getr (k0 := 7) rfl dX9_become_76 (isTold_0 h0) icX9 (by decide) rfl w_356 ?_
  refine V_aload_n rfl dX9_become_79 rfl rfl ?_
  refine V_getr (k0 := 7) rfl dX9_become_80 (isTold_0 h1) icX9 (by decide) rfl w_356 ?_
  replace h := cl_e h
  obtain ⟨w15, M16, hc17, h⟩ := h
  refine V_ii (As := [.ref _]) rfl dX9_become_83 mf_X8_become ⟨w_813, w_814⟩ w_965 (by decide) (isTold_19 h0) rfl rfl rfl rfl ⟨rfl, rfl⟩ (t_X8_become (isTold_Shifts_19 h0) (isTold_Shifts_19 h1) hc17) ?_
  refine V_pop rfl dX9_become_86 rfl ?_
  cases h
  exact V_vret dX9_become_87 rfl (Nat.le_refl _) (Nat.le_refl _) qV_ok
-- X1_become: NeverHalted$Book.become(LNeverHalted$Book;)V
def f_X1_become (o0 : Nat) (o1 : Nat) (M : IM) : IR := cp M (o1 + 1) 150 0 (o0 + 1) 150 0 150 fun M1 => cp M1 (o1 + 2) 150 0 (o0 + 2) 150 0 150 fun M3 => cp M3 (o1 + 3) 150 0 (o0 + 3) 150 0 150 fun M5 => some (0, M5)
set_option maxRecDepth 100000 in
set_option maxHeartbeats 4000000 in
theorem t_X1_become {g : IG} {a : Nat → Nat} {R : Int32 × IM} {o0 : Nat} {o1 : Nat} {M : IM} (h0 : isBook o0) (h1 : isBook o1) (h : f_X1_become o0 o1 M = some R) : Cn g mX1_become 1 0 0 (qV S0 a R) [.ref (a o0), .ref (a o1)] a S0 M := by
  refine Cn_of (L := [some (.ref (a o0)), some (.ref (a o1))]) mf_X1_become (cat_r (cat_r cat_0)) (Nat.le_of_ble_eq_true rfl) rfl ?_
  unfold f_X1_become at h
  refine V_aload_n rfl dX1_become_0 rfl rfl ?_
  refine V_getr (k0 := 0) rfl dX1_become_1 (isBook_0 h1) icX1 (by decide) rfl w_381 ?_
  refine V_iconst (v := 0) rfl dX1_become_4 kc_0 ?_
  refine V_aload_n rfl dX1_become_5 rfl rfl ?_
  refine V_getr (k0 := 0) rfl dX1_become_6 (isBook_0 h0) icX1 (by decide) rfl w_381 ?_
  refine V_iconst (v := 0) rfl dX1_become_9 kc_0 ?_
  refine V_sipush (v := 150) rfl dX1_become_10 ks_150 ?_
  replace h := cp_e h
  obtain ⟨hb2, h⟩ := h
  refine V_copy rfl dX1_become_13 w_970 ⟨w_770, w_769, w_156⟩ (isBook_1 h1) (isBook_1 h0) rfl hb2 ?_
  refine V_aload_n rfl dX1_become_16 rfl rfl ?_
  refine V_getr (k0 := 1) rfl dX1_become_17 (isBook_0 h1) icX1 (by decide) rfl w_383 ?_
  refine V_iconst (v := 0) rfl dX1_become_20 kc_0 ?_
  refine V_aload_n rfl dX1_become_21 rfl rfl ?_
  refine V_getr (k0 := 1) rfl dX1_become_22 (isBook_0 h0) icX1 (by decide) rfl w_383 ?_
  refine V_iconst (v := 0) rfl dX1_become_25 kc_0 ?_
  refine V_sipush (v := 150) rfl dX1_become_26 ks_150 ?_
  replace h := cp_e h
  obtain ⟨hb4, h⟩ := h
  refine V_copy rfl dX1_become_29 w_970 ⟨w_770, w_769, w_156⟩ (isBook_2 h1) (isBook_2 h0) rfl hb4 ?_
  refine V_aload_n rfl dX1_become_32 rfl rfl ?_
  refine V_getr (k0 := 2) rfl dX1_become_33 (isBook_0 h1) icX1 (by decide) rfl w_385 ?_
  refine V_iconst (v := 0) rfl dX1_become_36 kc_0 ?_
  refine V_aload_n rfl dX1_become_37 rfl rfl ?_
  refine V_getr (k0 := 2) rfl dX1_become_38 (isBook_0 h0) icX1 (by decide) rfl w_385 ?_
  refine V_iconst (v := 0) rfl dX1_become_41 kc_0 ?_
  refine V_sipush (v := 150) rfl dX1_become_42 ks_150 ?_
  replace h := cp_e h
  obtain ⟨hb6, h⟩ := h
  refine V_copy rfl dX1_become_45 w_970 ⟨w_770, w_769, w_156⟩ (isBook_3 h1) (isBook_3 h0) rfl hb6 ?_
  cases h
  exact V_vret dX1_become_48 rfl (Nat.le_refl _) (Nat.le_refl _) qV_ok
-- X11_image: NeverHalted.image(Z)Z
def f_X11_image (p1 : Int32) (M : IM) : IR := if p1 = 0 then if (M 0 7) = 0 then some (0, M) else cl (f_X4_become 1 66 M) fun _ M4 => cl (f_X9_become 6 71 M4) fun _ M7 => cl (f_X1_become 30 95 M7) fun _ M10 => cl (f_X5_forget M10) fun _ M13 => some (1, M13) else cl (f_X4_become 66 1 M) fun _ M16 => cl (f_X9_become 71 6 M16) fun _ M19 => cl (f_X1_become 95 30 M19) fun _ M22 => pz M22 0 7 1 fun M24 => some (1, M24)
set_option maxRecDepth 100000 in
set_option maxHeartbeats 4000000 in
theorem t_X11_image {g : IG} {a : Nat → Nat} {R : Int32 × IM} {p1 : Int32} {M : IM} (h : f_X11_image p1 M = some R) : Cn g mX11_image 3 0 0 (qI S0 a R) [.ref (a 0), .int p1] a S0 M := by
  refine Cn_of (L := [some (.ref (a 0)), some (.int p1)]) mf_X11_image (cat_r (cat_i cat_0)) (Nat.le_of_ble_eq_true rfl) rfl ?_
  unfold f_X11_image at h
  refine V_iload_n rfl dX11_image_0 rfl rfl ?_
  refine V_if_eq (t := 44) rfl rfl dX11_image_1 (fun hc1 => ?_) (fun hc1 => ?_)
  · replace h := ifp hc1 h
    refine V_aload_n rfl dX11_image_44 rfl rfl ?_
    refine V_geti (k0 := 7) rfl dX11_image_45 s0_0 icX11 (by decide) rfl w_530 ?_
    refine V_if_ne (t := 53) rfl rfl dX11_image_48 (fun hc2 => ?_) (fun hc2 => ?_)
    · replace h := ifn hc2 h
      refine V_aload_n rfl dX11_image_53 rfl rfl ?_
      refine V_getr (k0 := 0) rfl dX11_image_54 s0_0 icX11 (by decide) rfl w_523 ?_
      refine V_aload_n rfl dX11_image_57 rfl rfl ?_
      refine V_getr (k0 := 4) rfl dX11_image_58 s0_0 icX11 (by decide) rfl w_527 ?_
      replace h := cl_e h
      obtain ⟨w3, M4, hc5, h⟩ := h
      refine V_iv (As := [.ref _]) rfl dX11_image_61 mf_X4_become ⟨w_835, w_836⟩ w_957 (by decide) s0_1 rfl rfl rfl rfl ⟨rfl, rfl⟩ (t_X4_become isNow_at1 isNow_at66 hc5) ?_
      refine V_aload_n rfl dX11_image_64 rfl rfl ?_
      refine V_getr (k0 := 1) rfl dX11_image_65 s0_0 icX11 (by decide) rfl w_524 ?_
      refine V_aload_n rfl dX11_image_68 rfl rfl ?_
      refine V_getr (k0 := 5) rfl dX11_image_69 s0_0 icX11 (by decide) rfl w_528 ?_
      replace h := cl_e h
      obtain ⟨w6, M7, hc8, h⟩ := h
      refine V_iv (As := [.ref _]) rfl dX11_image_72 mf_X9_become ⟨w_959, w_960⟩ w_958 (by decide) s0_6 rfl rfl rfl rfl ⟨rfl, rfl⟩ (t_X9_become isTold_at6 isTold_at71 hc8) ?_
      refine V_aload_n rfl dX11_image_75 rfl rfl ?_
      refine V_getr (k0 := 2) rfl dX11_image_76 s0_0 icX11 (by decide) rfl w_525 ?_
      refine V_aload_n rfl dX11_image_79 rfl rfl ?_
      refine V_getr (k0 := 6) rfl dX11_image_80 s0_0 icX11 (by decide) rfl w_529 ?_
      replace h := cl_e h
      obtain ⟨w9, M10, hc11, h⟩ := h
      refine V_iv (As := [.ref _]) rfl dX11_image_83 mf_X1_become ⟨w_967, w_968⟩ w_966 (by decide) s0_30 rfl rfl rfl rfl ⟨rfl, rfl⟩ (t_X1_become isBook_at30 isBook_at95 hc11) ?_
      refine V_aload_n rfl dX11_image_86 rfl rfl ?_
      refine V_getr (k0 := 3) rfl dX11_image_87 s0_0 icX11 (by decide) rfl w_526 ?_
      replace h := cl_e h
      obtain ⟨w12, M13, hc14, h⟩ := h
      refine V_iv (As := []) rfl dX11_image_90 mf_X5_forget ⟨w_583, w_584⟩ w_582 (by decide) s0_34 rfl rfl rfl rfl ⟨rfl, rfl⟩ (t_X5_forget hc14) ?_
      refine V_iconst (v := 1) rfl dX11_image_93 kc_1 ?_
      cases h
      exact V_iret dX11_image_94 rfl nz_1 (Nat.le_refl _) (Nat.le_refl _) qI_ok
    · replace h := ifp hc2 h
      refine V_iconst (v := 0) rfl dX11_image_51 kc_0 ?_
      cases h
      exact V_iret dX11_image_52 rfl nz_0 (Nat.le_refl _) (Nat.le_refl _) qI_ok
  · replace h := ifn hc1 h
    refine V_aload_n rfl dX11_image_4 rfl rfl ?_
    refine V_getr (k0 := 4) rfl dX11_image_5 s0_0 icX11 (by decide) rfl w_527 ?_
    refine V_aload_n rfl dX11_image_8 rfl rfl ?_
    refine V_getr (k0 := 0) rfl dX11_image_9 s0_0 icX11 (by decide) rfl w_523 ?_
    replace h := cl_e h
    obtain ⟨w15, M16, hc17, h⟩ := h
    refine V_iv (As := [.ref _]) rfl dX11_image_12 mf_X4_become ⟨w_835, w_836⟩ w_957 (by decide) s0_66 rfl rfl rfl rfl ⟨rfl, rfl⟩ (t_X4_become isNow_at66 isNow_at1 hc17) ?_
    refine V_aload_n rfl dX11_image_15 rfl rfl ?_
    refine V_getr (k0 := 5) rfl dX11_image_16 s0_0 icX11 (by decide) rfl w_528 ?_
    refine V_aload_n rfl dX11_image_19 rfl rfl ?_
    refine V_getr (k0 := 1) rfl dX11_image_20 s0_0 icX11 (by decide) rfl w_524 ?_
    replace h := cl_e h
    obtain ⟨w18, M19, hc20, h⟩ := h
    refine V_iv (As := [.ref _]) rfl dX11_image_23 mf_X9_become ⟨w_959, w_960⟩ w_958 (by decide) s0_71 rfl rfl rfl rfl ⟨rfl, rfl⟩ (t_X9_become isTold_at71 isTold_at6 hc20) ?_
    refine V_aload_n rfl dX11_image_26 rfl rfl ?_
    refine V_getr (k0 := 6) rfl dX11_image_27 s0_0 icX11 (by decide) rfl w_529 ?_
    refine V_aload_n rfl dX11_image_30 rfl rfl ?_
    refine V_getr (k0 := 2) rfl dX11_image_31 s0_0 icX11 (by decide) rfl w_525 ?_
    replace h := cl_e h
    obtain ⟨w21, M22, hc23, h⟩ := h
    refine V_iv (As := [.ref _]) rfl dX11_image_34 mf_X1_become ⟨w_967, w_968⟩ w_966 (by decide) s0_95 rfl rfl rfl rfl ⟨rfl, rfl⟩ (t_X1_become isBook_at95 isBook_at30 hc23) ?_
    refine V_aload_n rfl dX11_image_37 rfl rfl ?_
    refine V_iconst (v := 1) rfl dX11_image_38 kc_1 ?_
    replace h := pz_e h
    obtain ⟨hz25, h⟩ := h
    refine V_putf (k0 := 7) (ty := .boolean) rfl dX11_image_39 s0_0 icX11 tyX11_ok nmX11 (by decide) rfl w_530 rfl (tyX11_ok _ (by decide)) (nar_z hz25) (fit_z hz25) ?_
    refine V_iconst (v := 1) rfl dX11_image_42 kc_1 ?_
    cases h
    exact V_iret dX11_image_43 rfl nz_1 (Nat.le_refl _) (Nat.le_refl _) qI_ok
-- X11_amountNow: NeverHalted.amountNow(II)I
def f_X11_amountNow (p1 : Int32) (p2 : Int32) (M : IM) : IR := cl (f_X0_meet 1 20 p1 M) fun _ M2 => cl (f_X0_amount 14 p2 M2) fun w4 M5 => some (w4, M5)
set_option maxRecDepth 100000 in
set_option maxHeartbeats 4000000 in
theorem t_X11_amountNow {g : IG} {a : Nat → Nat} {R : Int32 × IM} {p1 : Int32} {p2 : Int32} {M : IM} (h : f_X11_amountNow p1 p2 M = some R) : Cn g mX11_amountNow 6 0 0 (qI S0 a R) [.ref (a 0), .int p1, .int p2] a S0 M := by
  refine Cn_of (L := [some (.ref (a 0)), some (.int p1), some (.int p2)]) mf_X11_amountNow (cat_r (cat_i (cat_i cat_0))) (Nat.le_of_ble_eq_true rfl) rfl ?_
  unfold f_X11_amountNow at h
  refine V_aload_n rfl dX11_amountNow_0 rfl rfl ?_
  refine V_getr (k0 := 11) rfl dX11_amountNow_1 s0_0 icX11 (by decide) rfl w_534 ?_
  refine V_aload_n rfl dX11_amountNow_4 rfl rfl ?_
  refine V_getr (k0 := 0) rfl dX11_amountNow_5 s0_0 icX11 (by decide) rfl w_523 ?_
  refine V_aload_n rfl dX11_amountNow_8 rfl rfl ?_
  refine V_getr (k0 := 1) rfl dX11_amountNow_9 s0_0 icX11 (by decide) rfl w_524 ?_
  refine V_getr (k0 := 6) rfl dX11_amountNow_12 s0_6 icX9 (by decide) rfl w_355 ?_
  refine V_iload_n rfl dX11_amountNow_15 rfl rfl ?_
  replace h := cl_e h
  obtain ⟨w1, M2, hc3, h⟩ := h
  refine V_iv (As := [.ref _, .ref _, .int _]) rfl dX11_amountNow_16 mf_X0_meet ⟨w_852, w_853⟩ w_851 (by decide) s0_119 rfl rfl rfl rfl ⟨rfl, rfl⟩ (t_X0_meet isNow_at1 isRound_at20 hc3) ?_
  refine V_aload_n rfl dX11_amountNow_19 rfl rfl ?_
  refine V_getr (k0 := 11) rfl dX11_amountNow_20 s0_0 icX11 (by decide) rfl w_534 ?_
  refine V_aload_n rfl dX11_amountNow_23 rfl rfl ?_
  refine V_getr (k0 := 1) rfl dX11_amountNow_24 s0_0 icX11 (by decide) rfl w_524 ?_
  refine V_getr (k0 := 5) rfl dX11_amountNow_27 s0_6 icX9 (by decide) rfl w_353 ?_
  refine V_iload_n rfl dX11_amountNow_30 rfl rfl ?_
  replace h := cl_e h
  obtain ⟨w4, M5, hc6, h⟩ := h
  refine V_ii (As := [.ref _, .int _]) rfl dX11_amountNow_31 mf_X0_amount ⟨w_912, w_913⟩ w_911 (by decide) s0_119 rfl rfl rfl rfl ⟨rfl, rfl⟩ (t_X0_amount isLaw_at14 hc6) ?_
  cases h
  exact V_iret dX11_amountNow_34 rfl rfl (Nat.le_refl _) (Nat.le_refl _) qI_ok
-- X11_of: NeverHalted.of(II)I
def f_X11_of (p1 : Int32) (p2 : Int32) (M : IM) : IR := cl (f_X11_isWalker p1 M) fun w1 M2 => if w1 = 0 then some ((-2), M2) else if p2 = 0 then rd M2 2 10 p1 fun v6 => some (v6, M2) else if p2 = 1 then rd M2 3 10 p1 fun v9 => some (v9, M2) else if p2 = 2 then rd M2 4 10 p1 fun v12 => some (v12, M2) else if p2 = 3 then rd M2 5 10 p1 fun v15 => some (v15, M2) else if p2 = 4 then cl (f_X11_whoGo 1 M2) fun w18 M19 => some (((w18 >>> (p1 &&& 31)) &&& 1), M19) else if p2 = 5 then cl (f_X11_amountNow p1 10011 M2) fun w22 M23 => some (w22, M23) else if p2 = 6 then cl (f_X11_amountNow p1 10012 M2) fun w26 M27 => some (w26, M27) else if p2 = 7 then cl (f_X11_amountNow p1 10013 M2) fun w30 M31 => some (w30, M31) else if p2 = 8 then cl (f_X8_clocksOf 25 p1 M2) fun w34 M35 => some (w34, M35) else some ((-2), M2)
set_option maxRecDepth 100000 in
set_option maxHeartbeats 4000000 in
theorem t_X11_of {g : IG} {a : Nat → Nat} {R : Int32 × IM} {p1 : Int32} {p2 : Int32} {M : IM} (h : f_X11_of p1 p2 M = some R) : Cn g mX11_of 7 0 0 (qI S0 a R) [.ref (a 0), .int p1, .int p2] a S0 M := by
  refine Cn_of (L := [some (.ref (a 0)), some (.int p1), some (.int p2)]) mf_X11_of (cat_r (cat_i (cat_i cat_0))) (Nat.le_of_ble_eq_true rfl) rfl ?_
  unfold f_X11_of at h
  refine V_aload_n rfl dX11_of_0 rfl rfl ?_
  refine V_iload_n rfl dX11_of_1 rfl rfl ?_
  replace h := cl_e h
  obtain ⟨w1, M2, hc3, h⟩ := h
  refine V_ii (As := [.int _]) rfl dX11_of_2 mf_X11_isWalker ⟨w_606, w_1⟩ w_604 (by decide) s0_0 rfl rfl rfl rfl ⟨rfl, rfl⟩ (t_X11_isWalker hc3) ?_
  refine V_if_ne (t := 11) rfl rfl dX11_of_5 (fun hc4 => ?_) (fun hc4 => ?_)
  · replace h := ifn hc4 h
    refine V_iload_n rfl dX11_of_11 rfl rfl ?_
    replace h := ift h
    rcases h with ⟨hc5, h⟩ | ⟨hc5, h⟩
    · refine V_tabAt (off := 52) (t := 64) hc5 dX11_of_12 (by decide +kernel) rfl ?_
      refine V_aload_n rfl dX11_of_64 rfl rfl ?_
      refine V_getr (k0 := 0) rfl dX11_of_65 s0_0 icX11 (by decide) rfl w_523 ?_
      refine V_getr (k0 := 11) rfl dX11_of_68 s0_1 icX4 (by decide) rfl w_204 ?_
      refine V_iload_n rfl dX11_of_71 rfl rfl ?_
      replace h := rd_e h
      obtain ⟨hb7, h⟩ := h
      refine V_iald rfl dX11_of_72 s0_2 hb7 ?_
      cases h
      exact V_iret dX11_of_73 rfl rfl (Nat.le_refl _) (Nat.le_refl _) qI_ok
    replace h := ift h
    rcases h with ⟨hc8, h⟩ | ⟨hc8, h⟩
    · refine V_tabAt (off := 62) (t := 74) hc8 dX11_of_12 (by decide +kernel) rfl ?_
      refine V_aload_n rfl dX11_of_74 rfl rfl ?_
      refine V_getr (k0 := 0) rfl dX11_of_75 s0_0 icX11 (by decide) rfl w_523 ?_
      refine V_getr (k0 := 12) rfl dX11_of_78 s0_1 icX4 (by decide) rfl w_207 ?_
      refine V_iload_n rfl dX11_of_81 rfl rfl ?_
      replace h := rd_e h
      obtain ⟨hb10, h⟩ := h
      refine V_iald rfl dX11_of_82 s0_3 hb10 ?_
      cases h
      exact V_iret dX11_of_83 rfl rfl (Nat.le_refl _) (Nat.le_refl _) qI_ok
    replace h := ift h
    rcases h with ⟨hc11, h⟩ | ⟨hc11, h⟩
    · refine V_tabAt (off := 72) (t := 84) hc11 dX11_of_12 (by decide +kernel) rfl ?_
      refine V_aload_n rfl dX11_of_84 rfl rfl ?_
      refine V_getr (k0 := 0) rfl dX11_of_85 s0_0 icX11 (by decide) rfl w_523 ?_
      refine V_getr (k0 := 13) rfl dX11_of_88 s0_1 icX4 (by decide) rfl w_210 ?_
      refine V_iload_n rfl dX11_of_91 rfl rfl ?_
      replace h := rd_e h
      obtain ⟨hb13, h⟩ := h
      refine V_iald rfl dX11_of_92 s0_4 hb13 ?_
      cases h
      exact V_iret dX11_of_93 rfl rfl (Nat.le_refl _) (Nat.le_refl _) qI_ok
    replace h := ift h
    rcases h with ⟨hc14, h⟩ | ⟨hc14, h⟩
    · refine V_tabAt (off := 82) (t := 94) hc14 dX11_of_12 (by decide +kernel) rfl ?_
      refine V_aload_n rfl dX11_of_94 rfl rfl ?_
      refine V_getr (k0 := 0) rfl dX11_of_95 s0_0 icX11 (by decide) rfl w_523 ?_
      refine V_getr (k0 := 14) rfl dX11_of_98 s0_1 icX4 (by decide) rfl w_213 ?_
      refine V_iload_n rfl dX11_of_101 rfl rfl ?_
      replace h := rd_e h
      obtain ⟨hb16, h⟩ := h
      refine V_iald rfl dX11_of_102 s0_5 hb16 ?_
      cases h
      exact V_iret dX11_of_103 rfl rfl (Nat.le_refl _) (Nat.le_refl _) qI_ok
    replace h := ift h
    rcases h with ⟨hc17, h⟩ | ⟨hc17, h⟩
    · refine V_tabAt (off := 92) (t := 104) hc17 dX11_of_12 (by decide +kernel) rfl ?_
      refine V_aload_n rfl dX11_of_104 rfl rfl ?_
      refine V_aload_n rfl dX11_of_105 rfl rfl ?_
      refine V_getr (k0 := 0) rfl dX11_of_106 s0_0 icX11 (by decide) rfl w_523 ?_
      replace h := cl_e h
      obtain ⟨w18, M19, hc20, h⟩ := h
      refine V_ii (As := [.ref _]) rfl dX11_of_109 mf_X11_whoGo ⟨w_845, w_19⟩ w_843 (by decide) s0_0 rfl rfl rfl rfl ⟨rfl, rfl⟩ (t_X11_whoGo isNow_at1 hc20) ?_
      refine V_iload_n rfl dX11_of_112 rfl rfl ?_
      refine V_ishr rfl dX11_of_113 ?_
      refine V_iconst (v := 1) rfl dX11_of_114 kc_1 ?_
      refine V_iand rfl dX11_of_115 ?_
      cases h
      exact V_iret dX11_of_116 rfl rfl (Nat.le_refl _) (Nat.le_refl _) qI_ok
    replace h := ift h
    rcases h with ⟨hc21, h⟩ | ⟨hc21, h⟩
    · refine V_tabAt (off := 105) (t := 117) hc21 dX11_of_12 (by decide +kernel) rfl ?_
      refine V_aload_n rfl dX11_of_117 rfl rfl ?_
      refine V_iload_n rfl dX11_of_118 rfl rfl ?_
      refine V_sipush (v := 10011) rfl dX11_of_119 ks_10011 ?_
      replace h := cl_e h
      obtain ⟨w22, M23, hc24, h⟩ := h
      refine V_ii (As := [.int _, .int _]) rfl dX11_of_122 mf_X11_amountNow ⟨w_977, w_26⟩ w_975 (by decide) s0_0 rfl rfl rfl rfl ⟨rfl, rfl⟩ (t_X11_amountNow hc24) ?_
      cases h
      exact V_iret dX11_of_125 rfl rfl (Nat.le_refl _) (Nat.le_refl _) qI_ok
    replace h := ift h
    rcases h with ⟨hc25, h⟩ | ⟨hc25, h⟩
    · refine V_tabAt (off := 114) (t := 126) hc25 dX11_of_12 (by decide +kernel) rfl ?_
      refine V_aload_n rfl dX11_of_126 rfl rfl ?_
      refine V_iload_n rfl dX11_of_127 rfl rfl ?_
      refine V_sipush (v := 10012) rfl dX11_of_128 ks_10012 ?_
      replace h := cl_e h
      obtain ⟨w26, M27, hc28, h⟩ := h
      refine V_ii (As := [.int _, .int _]) rfl dX11_of_131 mf_X11_amountNow ⟨w_977, w_26⟩ w_975 (by decide) s0_0 rfl rfl rfl rfl ⟨rfl, rfl⟩ (t_X11_amountNow hc28) ?_
      cases h
      exact V_iret dX11_of_134 rfl rfl (Nat.le_refl _) (Nat.le_refl _) qI_ok
    replace h := ift h
    rcases h with ⟨hc29, h⟩ | ⟨hc29, h⟩
    · refine V_tabAt (off := 123) (t := 135) hc29 dX11_of_12 (by decide +kernel) rfl ?_
      refine V_aload_n rfl dX11_of_135 rfl rfl ?_
      refine V_iload_n rfl dX11_of_136 rfl rfl ?_
      refine V_sipush (v := 10013) rfl dX11_of_137 ks_10013 ?_
      replace h := cl_e h
      obtain ⟨w30, M31, hc32, h⟩ := h
      refine V_ii (As := [.int _, .int _]) rfl dX11_of_140 mf_X11_amountNow ⟨w_977, w_26⟩ w_975 (by decide) s0_0 rfl rfl rfl rfl ⟨rfl, rfl⟩ (t_X11_amountNow hc32) ?_
      cases h
      exact V_iret dX11_of_143 rfl rfl (Nat.le_refl _) (Nat.le_refl _) qI_ok
    replace h := ift h
    rcases h with ⟨hc33, h⟩ | ⟨hc33, h⟩
    · refine V_tabAt (off := 132) (t := 144) hc33 dX11_of_12 (by decide +kernel) rfl ?_
      refine V_aload_n rfl dX11_of_144 rfl rfl ?_
      refine V_getr (k0 := 1) rfl dX11_of_145 s0_0 icX11 (by decide) rfl w_524 ?_
      refine V_getr (k0 := 7) rfl dX11_of_148 s0_6 icX9 (by decide) rfl w_357 ?_
      refine V_iload_n rfl dX11_of_151 rfl rfl ?_
      replace h := cl_e h
      obtain ⟨w34, M35, hc36, h⟩ := h
      refine V_ii (As := [.int _]) rfl dX11_of_152 mf_X8_clocksOf ⟨w_848, w_849⟩ w_847 (by decide) s0_25 rfl rfl rfl rfl ⟨rfl, rfl⟩ (t_X8_clocksOf isShifts_at25 hc36) ?_
      cases h
      exact V_iret dX11_of_155 rfl rfl (Nat.le_refl _) (Nat.le_refl _) qI_ok
    refine V_tabOut (t := 156) dX11_of_12 (by have hc5i := ne_toInt (z := 0) (k := 0) hc5 (by decide +kernel); have hc8i := ne_toInt (z := 1) (k := 1) hc8 (by decide +kernel); have hc11i := ne_toInt (z := 2) (k := 2) hc11 (by decide +kernel); have hc14i := ne_toInt (z := 3) (k := 3) hc14 (by decide +kernel); have hc17i := ne_toInt (z := 4) (k := 4) hc17 (by decide +kernel); have hc21i := ne_toInt (z := 5) (k := 5) hc21 (by decide +kernel); have hc25i := ne_toInt (z := 6) (k := 6) hc25 (by decide +kernel); have hc29i := ne_toInt (z := 7) (k := 7) hc29 (by decide +kernel); have hc33i := ne_toInt (z := 8) (k := 8) hc33 (by decide +kernel); omega) rfl ?_
    refine V_bipush (v := (-2)) rfl dX11_of_156 kb_m2 ?_
    cases h
    exact V_iret dX11_of_158 rfl rfl (Nat.le_refl _) (Nat.le_refl _) qI_ok
  · replace h := ifp hc4 h
    refine V_bipush (v := (-2)) rfl dX11_of_8 kb_m2 ?_
    cases h
    exact V_iret dX11_of_10 rfl rfl (Nat.le_refl _) (Nat.le_refl _) qI_ok
-- X0_setClock: NeverHalted$Asked.setClock(I)V
def f_X0_setClock (p1 : Int32) (M : IM) : IR := wr M 120 9 3 p1 fun M1 => some (0, M1)
set_option maxRecDepth 100000 in
set_option maxHeartbeats 4000000 in
theorem t_X0_setClock {g : IG} {a : Nat → Nat} {R : Int32 × IM} {p1 : Int32} {M : IM} (h : f_X0_setClock p1 M = some R) : Cn g mX0_setClock 1 0 0 (qV S0 a R) [.ref (a 119), .int p1] a S0 M := by
  refine Cn_of (L := [some (.ref (a 119)), some (.int p1)]) mf_X0_setClock (cat_r (cat_i cat_0)) (Nat.le_of_ble_eq_true rfl) rfl ?_
  unfold f_X0_setClock at h
  refine V_aload_n rfl dX0_setClock_0 rfl rfl ?_
  refine V_getr (k0 := 0) rfl dX0_setClock_1 s0_119 icX0 (by decide) rfl w_459 ?_
  refine V_iconst (v := 3) rfl dX0_setClock_4 kc_3 ?_
  refine V_iload_n rfl dX0_setClock_5 rfl rfl ?_
  replace h := wr_e h
  obtain ⟨hb2, h⟩ := h
  refine V_iast rfl dX0_setClock_6 s0_120 hb2 ?_
  cases h
  exact V_vret dX0_setClock_7 rfl (Nat.le_refl _) (Nat.le_refl _) qV_ok
-- X11_tireAt: NeverHalted.tireAt(II)I
def f_X11_tireAt (p1 : Int32) (p2 : Int32) (M : IM) : IR := cl (f_X0_meet 1 20 p1 M) fun _ M2 => cl (f_X0_setClock p2 M2) fun _ M5 => cl (f_X0_amount 14 10011 M5) fun w7 M8 => some (w7, M8)
set_option maxRecDepth 100000 in
set_option maxHeartbeats 4000000 in
theorem t_X11_tireAt {g : IG} {a : Nat → Nat} {R : Int32 × IM} {p1 : Int32} {p2 : Int32} {M : IM} (h : f_X11_tireAt p1 p2 M = some R) : Cn g mX11_tireAt 6 0 0 (qI S0 a R) [.ref (a 0), .int p1, .int p2] a S0 M := by
  refine Cn_of (L := [some (.ref (a 0)), some (.int p1), some (.int p2)]) mf_X11_tireAt (cat_r (cat_i (cat_i cat_0))) (Nat.le_of_ble_eq_true rfl) rfl ?_
  unfold f_X11_tireAt at h
  refine V_aload_n rfl dX11_tireAt_0 rfl rfl ?_
  refine V_getr (k0 := 11) rfl dX11_tireAt_1 s0_0 icX11 (by decide) rfl w_534 ?_
  refine V_aload_n rfl dX11_tireAt_4 rfl rfl ?_
  refine V_getr (k0 := 0) rfl dX11_tireAt_5 s0_0 icX11 (by decide) rfl w_523 ?_
  refine V_aload_n rfl dX11_tireAt_8 rfl rfl ?_
  refine V_getr (k0 := 1) rfl dX11_tireAt_9 s0_0 icX11 (by decide) rfl w_524 ?_
  refine V_getr (k0 := 6) rfl dX11_tireAt_12 s0_6 icX9 (by decide) rfl w_355 ?_
  refine V_iload_n rfl dX11_tireAt_15 rfl rfl ?_
  replace h := cl_e h
  obtain ⟨w1, M2, hc3, h⟩ := h
  refine V_iv (As := [.ref _, .ref _, .int _]) rfl dX11_tireAt_16 mf_X0_meet ⟨w_852, w_853⟩ w_851 (by decide) s0_119 rfl rfl rfl rfl ⟨rfl, rfl⟩ (t_X0_meet isNow_at1 isRound_at20 hc3) ?_
  refine V_aload_n rfl dX11_tireAt_19 rfl rfl ?_
  refine V_getr (k0 := 11) rfl dX11_tireAt_20 s0_0 icX11 (by decide) rfl w_534 ?_
  refine V_iload_n rfl dX11_tireAt_23 rfl rfl ?_
  replace h := cl_e h
  obtain ⟨w4, M5, hc6, h⟩ := h
  refine V_iv (As := [.int _]) rfl dX11_tireAt_24 mf_X0_setClock ⟨w_1050, w_1051⟩ w_1049 (by decide) s0_119 rfl rfl rfl rfl ⟨rfl, rfl⟩ (t_X0_setClock hc6) ?_
  refine V_aload_n rfl dX11_tireAt_27 rfl rfl ?_
  refine V_getr (k0 := 11) rfl dX11_tireAt_28 s0_0 icX11 (by decide) rfl w_534 ?_
  refine V_aload_n rfl dX11_tireAt_31 rfl rfl ?_
  refine V_getr (k0 := 1) rfl dX11_tireAt_32 s0_0 icX11 (by decide) rfl w_524 ?_
  refine V_getr (k0 := 5) rfl dX11_tireAt_35 s0_6 icX9 (by decide) rfl w_353 ?_
  refine V_sipush (v := 10011) rfl dX11_tireAt_38 ks_10011 ?_
  replace h := cl_e h
  obtain ⟨w7, M8, hc9, h⟩ := h
  refine V_ii (As := [.ref _, .int _]) rfl dX11_tireAt_41 mf_X0_amount ⟨w_912, w_913⟩ w_911 (by decide) s0_119 rfl rfl rfl rfl ⟨rfl, rfl⟩ (t_X0_amount isLaw_at14 hc9) ?_
  cases h
  exact V_iret dX11_tireAt_44 rfl rfl (Nat.le_refl _) (Nat.le_refl _) qI_ok
-- X11_stone: NeverHalted.stone(II)I
def f_X11_stone (p1 : Int32) (p2 : Int32) (M : IM) : IR := cl (f_X11_within p1 0 ((M 20 0) - 1) M) fun w1 M2 => if w1 = 0 then some ((-1), M2) else if p2 = 0 then rd M2 21 8 p1 fun v6 => some (v6, M2) else if p2 = 1 then rd M2 22 8 p1 fun v9 => some (v9, M2) else if p2 = 2 then rd M2 23 8 p1 fun v12 => some (v12, M2) else if p2 = 3 then rd M2 24 8 p1 fun v15 => some (v15, M2) else some ((-1), M2)
set_option maxRecDepth 100000 in
set_option maxHeartbeats 4000000 in
theorem t_X11_stone {g : IG} {a : Nat → Nat} {R : Int32 × IM} {p1 : Int32} {p2 : Int32} {M : IM} (h : f_X11_stone p1 p2 M = some R) : Cn g mX11_stone 2 0 0 (qI S0 a R) [.ref (a 0), .int p1, .int p2] a S0 M := by
  refine Cn_of (L := [some (.ref (a 0)), some (.int p1), some (.int p2), none]) mf_X11_stone (cat_r (cat_i (cat_i cat_0))) (Nat.le_of_ble_eq_true rfl) rfl ?_
  unfold f_X11_stone at h
  refine V_aload_n rfl dX11_stone_0 rfl rfl ?_
  refine V_getr (k0 := 1) rfl dX11_stone_1 s0_0 icX11 (by decide) rfl w_524 ?_
  refine V_getr (k0 := 6) rfl dX11_stone_4 s0_6 icX9 (by decide) rfl w_355 ?_
  refine V_astore_n (L' := [_, _, _, _]) rfl rfl dX11_stone_7 (by decide) rfl ?_
  refine V_iload_n rfl dX11_stone_8 rfl rfl ?_
  refine V_iconst (v := 0) rfl dX11_stone_9 kc_0 ?_
  refine V_aload_n rfl dX11_stone_10 rfl rfl ?_
  refine V_geti (k0 := 0) rfl dX11_stone_11 s0_20 icX7 (by decide) rfl w_297 ?_
  refine V_iconst (v := 1) rfl dX11_stone_14 kc_1 ?_
  refine V_isub rfl dX11_stone_15 ?_
  replace h := cl_e h
  obtain ⟨w1, M2, hc3, h⟩ := h
  refine V_si (As := [.int _, .int _, .int _]) rfl dX11_stone_16 mf_X11_within w_594 w_593 (by decide) rfl rfl rfl ⟨rfl, rfl⟩ (t_X11_within hc3) ?_
  refine V_if_ne (t := 24) rfl rfl dX11_stone_19 (fun hc4 => ?_) (fun hc4 => ?_)
  · replace h := ifn hc4 h
    refine V_iload_n rfl dX11_stone_24 rfl rfl ?_
    replace h := ift h
    rcases h with ⟨hc5, h⟩ | ⟨hc5, h⟩
    · refine V_tabAt (off := 31) (t := 56) hc5 dX11_stone_25 (by decide +kernel) rfl ?_
      refine V_aload_n rfl dX11_stone_56 rfl rfl ?_
      refine V_getr (k0 := 1) rfl dX11_stone_57 s0_20 icX7 (by decide) rfl w_300 ?_
      refine V_iload_n rfl dX11_stone_60 rfl rfl ?_
      replace h := rd_e h
      obtain ⟨hb7, h⟩ := h
      refine V_iald rfl dX11_stone_61 s0_21 hb7 ?_
      cases h
      exact V_iret dX11_stone_62 rfl rfl (Nat.le_refl _) (Nat.le_refl _) qI_ok
    replace h := ift h
    rcases h with ⟨hc8, h⟩ | ⟨hc8, h⟩
    · refine V_tabAt (off := 38) (t := 63) hc8 dX11_stone_25 (by decide +kernel) rfl ?_
      refine V_aload_n rfl dX11_stone_63 rfl rfl ?_
      refine V_getr (k0 := 2) rfl dX11_stone_64 s0_20 icX7 (by decide) rfl w_302 ?_
      refine V_iload_n rfl dX11_stone_67 rfl rfl ?_
      replace h := rd_e h
      obtain ⟨hb10, h⟩ := h
      refine V_iald rfl dX11_stone_68 s0_22 hb10 ?_
      cases h
      exact V_iret dX11_stone_69 rfl rfl (Nat.le_refl _) (Nat.le_refl _) qI_ok
    replace h := ift h
    rcases h with ⟨hc11, h⟩ | ⟨hc11, h⟩
    · refine V_tabAt (off := 45) (t := 70) hc11 dX11_stone_25 (by decide +kernel) rfl ?_
      refine V_aload_n rfl dX11_stone_70 rfl rfl ?_
      refine V_getr (k0 := 3) rfl dX11_stone_71 s0_20 icX7 (by decide) rfl w_304 ?_
      refine V_iload_n rfl dX11_stone_74 rfl rfl ?_
      replace h := rd_e h
      obtain ⟨hb13, h⟩ := h
      refine V_iald rfl dX11_stone_75 s0_23 hb13 ?_
      cases h
      exact V_iret dX11_stone_76 rfl rfl (Nat.le_refl _) (Nat.le_refl _) qI_ok
    replace h := ift h
    rcases h with ⟨hc14, h⟩ | ⟨hc14, h⟩
    · refine V_tabAt (off := 52) (t := 77) hc14 dX11_stone_25 (by decide +kernel) rfl ?_
      refine V_aload_n rfl dX11_stone_77 rfl rfl ?_
      refine V_getr (k0 := 4) rfl dX11_stone_78 s0_20 icX7 (by decide) rfl w_306 ?_
      refine V_iload_n rfl dX11_stone_81 rfl rfl ?_
      replace h := rd_e h
      obtain ⟨hb16, h⟩ := h
      refine V_iald rfl dX11_stone_82 s0_24 hb16 ?_
      cases h
      exact V_iret dX11_stone_83 rfl rfl (Nat.le_refl _) (Nat.le_refl _) qI_ok
    refine V_tabOut (t := 84) dX11_stone_25 (by have hc5i := ne_toInt (z := 0) (k := 0) hc5 (by decide +kernel); have hc8i := ne_toInt (z := 1) (k := 1) hc8 (by decide +kernel); have hc11i := ne_toInt (z := 2) (k := 2) hc11 (by decide +kernel); have hc14i := ne_toInt (z := 3) (k := 3) hc14 (by decide +kernel); omega) rfl ?_
    refine V_iconst (v := (-1)) rfl dX11_stone_84 kc_m1 ?_
    cases h
    exact V_iret dX11_stone_85 rfl rfl (Nat.le_refl _) (Nat.le_refl _) qI_ok
  · replace h := ifp hc4 h
    refine V_iconst (v := (-1)) rfl dX11_stone_22 kc_m1 ?_
    cases h
    exact V_iret dX11_stone_23 rfl rfl (Nat.le_refl _) (Nat.le_refl _) qI_ok
-- X11_roadOf: NeverHalted.roadOf(II)I
def f_X11_roadOf (p1 : Int32) (p2 : Int32) (M : IM) : IR := cl (f_X11_isParish p1 M) fun w1 M2 => if w1 = 0 then some ((-1), M2) else cl (f_X11_isParish p2 M2) fun w5 M6 => if w5 = 0 then some ((-1), M6) else rd M6 7 64 ((p1 * 8) + p2) fun v9 => if v9 ≤ 0 then some ((-1), M6) else some (v9, M6)
set_option maxRecDepth 100000 in
set_option maxHeartbeats 4000000 in
theorem t_X11_roadOf {g : IG} {a : Nat → Nat} {R : Int32 × IM} {p1 : Int32} {p2 : Int32} {M : IM} (h : f_X11_roadOf p1 p2 M = some R) : Cn g mX11_roadOf 2 0 0 (qI S0 a R) [.ref (a 0), .int p1, .int p2] a S0 M := by
  refine Cn_of (L := [some (.ref (a 0)), some (.int p1), some (.int p2), none]) mf_X11_roadOf (cat_r (cat_i (cat_i cat_0))) (Nat.le_of_ble_eq_true rfl) rfl ?_
  unfold f_X11_roadOf at h
  refine V_iload_n rfl dX11_roadOf_0 rfl rfl ?_
  replace h := cl_e h
  obtain ⟨w1, M2, hc3, h⟩ := h
  refine V_si (As := [.int _]) rfl dX11_roadOf_1 mf_X11_isParish w_591 w_590 (by decide) rfl rfl rfl ⟨rfl, rfl⟩ (t_X11_isParish hc3) ?_
  refine V_if_eq (t := 14) rfl rfl dX11_roadOf_4 (fun hc4 => ?_) (fun hc4 => ?_)
  · replace h := ifp hc4 h
    refine V_iconst (v := (-1)) rfl dX11_roadOf_14 kc_m1 ?_
    cases h
    exact V_iret dX11_roadOf_15 rfl rfl (Nat.le_refl _) (Nat.le_refl _) qI_ok
  · replace h := ifn hc4 h
    refine V_iload_n rfl dX11_roadOf_7 rfl rfl ?_
    replace h := cl_e h
    obtain ⟨w5, M6, hc7, h⟩ := h
    refine V_si (As := [.int _]) rfl dX11_roadOf_8 mf_X11_isParish w_591 w_590 (by decide) rfl rfl rfl ⟨rfl, rfl⟩ (t_X11_isParish hc7) ?_
    refine V_if_ne (t := 16) rfl rfl dX11_roadOf_11 (fun hc8 => ?_) (fun hc8 => ?_)
    · replace h := ifn hc8 h
      refine V_aload_n rfl dX11_roadOf_16 rfl rfl ?_
      refine V_getr (k0 := 1) rfl dX11_roadOf_17 s0_0 icX11 (by decide) rfl w_524 ?_
      refine V_getr (k0 := 3) rfl dX11_roadOf_20 s0_6 icX9 (by decide) rfl w_349 ?_
      refine V_iload_n rfl dX11_roadOf_23 rfl rfl ?_
      refine V_bipush (v := 8) rfl dX11_roadOf_24 kb_8 ?_
      refine V_imul rfl dX11_roadOf_26 ?_
      refine V_iload_n rfl dX11_roadOf_27 rfl rfl ?_
      refine V_iadd rfl dX11_roadOf_28 ?_
      replace h := rd_e h
      obtain ⟨hb10, h⟩ := h
      refine V_iald rfl dX11_roadOf_29 s0_7 hb10 ?_
      refine V_istore_n (L' := [_, _, _, _]) rfl rfl dX11_roadOf_30 (by decide) rfl ?_
      refine V_iload_n rfl dX11_roadOf_31 rfl rfl ?_
      refine V_if_le (t := 39) rfl rfl dX11_roadOf_32 (fun hc11 => ?_) (fun hc11 => ?_)
      · replace h := ifp hc11 h
        refine V_iconst (v := (-1)) rfl dX11_roadOf_39 kc_m1 ?_
        cases h
        exact V_iret dX11_roadOf_40 rfl rfl (Nat.le_refl _) (Nat.le_refl _) qI_ok
      · replace h := ifn hc11 h
        refine V_iload_n rfl dX11_roadOf_35 rfl rfl ?_
        refine V_goto (t := 40) rfl dX11_roadOf_36 ?_
        cases h
        exact V_iret dX11_roadOf_40 rfl rfl (Nat.le_refl _) (Nat.le_refl _) qI_ok
    · replace h := ifp hc8 h
      refine V_iconst (v := (-1)) rfl dX11_roadOf_14 kc_m1 ?_
      cases h
      exact V_iret dX11_roadOf_15 rfl rfl (Nat.le_refl _) (Nat.le_refl _) qI_ok
-- X11_book: NeverHalted.book(II)I
def f_X11_book (p1 : Int32) (p2 : Int32) (M : IM) : IR := cl (f_X11_within p1 0 ((M 1 9) - 1) M) fun w1 M2 => if w1 = 0 then some ((-1), M2) else if p2 = 0 then rd M2 31 150 p1 fun v6 => some (v6, M2) else if p2 = 1 then rd M2 32 150 p1 fun v9 => some (v9, M2) else if p2 = 2 then rd M2 33 150 p1 fun v12 => some (v12, M2) else some ((-1), M2)
set_option maxRecDepth 100000 in
set_option maxHeartbeats 4000000 in
theorem t_X11_book {g : IG} {a : Nat → Nat} {R : Int32 × IM} {p1 : Int32} {p2 : Int32} {M : IM} (h : f_X11_book p1 p2 M = some R) : Cn g mX11_book 2 0 0 (qI S0 a R) [.ref (a 0), .int p1, .int p2] a S0 M := by
  refine Cn_of (L := [some (.ref (a 0)), some (.int p1), some (.int p2)]) mf_X11_book (cat_r (cat_i (cat_i cat_0))) (Nat.le_of_ble_eq_true rfl) rfl ?_
  unfold f_X11_book at h
  refine V_iload_n rfl dX11_book_0 rfl rfl ?_
  refine V_iconst (v := 0) rfl dX11_book_1 kc_0 ?_
  refine V_aload_n rfl dX11_book_2 rfl rfl ?_
  refine V_getr (k0 := 0) rfl dX11_book_3 s0_0 icX11 (by decide) rfl w_523 ?_
  refine V_geti (k0 := 9) rfl dX11_book_6 s0_1 icX4 (by decide) rfl w_199 ?_
  refine V_iconst (v := 1) rfl dX11_book_9 kc_1 ?_
  refine V_isub rfl dX11_book_10 ?_
  replace h := cl_e h
  obtain ⟨w1, M2, hc3, h⟩ := h
  refine V_si (As := [.int _, .int _, .int _]) rfl dX11_book_11 mf_X11_within w_594 w_593 (by decide) rfl rfl rfl ⟨rfl, rfl⟩ (t_X11_within hc3) ?_
  refine V_if_ne (t := 19) rfl rfl dX11_book_14 (fun hc4 => ?_) (fun hc4 => ?_)
  · replace h := ifn hc4 h
    refine V_iload_n rfl dX11_book_19 rfl rfl ?_
    replace h := ift h
    rcases h with ⟨hc5, h⟩ | ⟨hc5, h⟩
    · refine V_tabAt (off := 28) (t := 48) hc5 dX11_book_20 (by decide +kernel) rfl ?_
      refine V_aload_n rfl dX11_book_48 rfl rfl ?_
      refine V_getr (k0 := 2) rfl dX11_book_49 s0_0 icX11 (by decide) rfl w_525 ?_
      refine V_getr (k0 := 0) rfl dX11_book_52 s0_30 icX1 (by decide) rfl w_382 ?_
      refine V_iload_n rfl dX11_book_55 rfl rfl ?_
      replace h := rd_e h
      obtain ⟨hb7, h⟩ := h
      refine V_iald rfl dX11_book_56 s0_31 hb7 ?_
      cases h
      exact V_iret dX11_book_57 rfl rfl (Nat.le_refl _) (Nat.le_refl _) qI_ok
    replace h := ift h
    rcases h with ⟨hc8, h⟩ | ⟨hc8, h⟩
    · refine V_tabAt (off := 38) (t := 58) hc8 dX11_book_20 (by decide +kernel) rfl ?_
      refine V_aload_n rfl dX11_book_58 rfl rfl ?_
      refine V_getr (k0 := 2) rfl dX11_book_59 s0_0 icX11 (by decide) rfl w_525 ?_
      refine V_getr (k0 := 1) rfl dX11_book_62 s0_30 icX1 (by decide) rfl w_384 ?_
      refine V_iload_n rfl dX11_book_65 rfl rfl ?_
      replace h := rd_e h
      obtain ⟨hb10, h⟩ := h
      refine V_iald rfl dX11_book_66 s0_32 hb10 ?_
      cases h
      exact V_iret dX11_book_67 rfl rfl (Nat.le_refl _) (Nat.le_refl _) qI_ok
    replace h := ift h
    rcases h with ⟨hc11, h⟩ | ⟨hc11, h⟩
    · refine V_tabAt (off := 48) (t := 68) hc11 dX11_book_20 (by decide +kernel) rfl ?_
      refine V_aload_n rfl dX11_book_68 rfl rfl ?_
      refine V_getr (k0 := 2) rfl dX11_book_69 s0_0 icX11 (by decide) rfl w_525 ?_
      refine V_getr (k0 := 2) rfl dX11_book_72 s0_30 icX1 (by decide) rfl w_386 ?_
      refine V_iload_n rfl dX11_book_75 rfl rfl ?_
      replace h := rd_e h
      obtain ⟨hb13, h⟩ := h
      refine V_iald rfl dX11_book_76 s0_33 hb13 ?_
      cases h
      exact V_iret dX11_book_77 rfl rfl (Nat.le_refl _) (Nat.le_refl _) qI_ok
    refine V_tabOut (t := 78) dX11_book_20 (by have hc5i := ne_toInt (z := 0) (k := 0) hc5 (by decide +kernel); have hc8i := ne_toInt (z := 1) (k := 1) hc8 (by decide +kernel); have hc11i := ne_toInt (z := 2) (k := 2) hc11 (by decide +kernel); omega) rfl ?_
    refine V_iconst (v := (-1)) rfl dX11_book_78 kc_m1 ?_
    cases h
    exact V_iret dX11_book_79 rfl rfl (Nat.le_refl _) (Nat.le_refl _) qI_ok
  · replace h := ifp hc4 h
    refine V_iconst (v := (-1)) rfl dX11_book_17 kc_m1 ?_
    cases h
    exact V_iret dX11_book_18 rfl rfl (Nat.le_refl _) (Nat.le_refl _) qI_ok
-- X7_hoursTo: NeverHalted$Round.hoursTo(I)I
def f_X7_hoursTo_4_b (o0 : Nat) (r4 : Int32 → Int32 → Int32 → IM → IR) (x1 : Int32) (x2 : Int32) (x3 : Int32) (M : IM) : IR := if x1 ≤ x3 then some (x2, M) else rd M (o0 + 2) 8 x3 fun v2 => lt (x2 + v2) fun v4 => lt (x3 + 1) fun v5 => r4 x1 v4 v5 M
def f_X7_hoursTo_4 (o0 : Nat) (n : Nat) : Int32 → Int32 → Int32 → IM → IR := itr (fun _ _ _ _ => none) (f_X7_hoursTo_4_b o0) n
set_option maxRecDepth 100000 in
set_option maxHeartbeats 4000000 in
theorem t_X7_hoursTo_4 {g : IG} {a : Nat → Nat} {R : Int32 × IM} {o0 : Nat} (h0 : isRound o0) (n : Nat) : ∀ (x1 : Int32) (x2 : Int32) (x3 : Int32) (M : IM), f_X7_hoursTo_4 o0 n x1 x2 x3 M = some R → V g mX7_hoursTo 1 0 0 (qI S0 a R) 4 [some (.ref (a o0)), some (.int x1), some (.int x2), some (.int x3)] [] a S0 M 0 0 := by
  induction n with
  | zero => intro x1 x2 x3 M h; exact absurd h (fun z => by cases z)
  | succ n hr4 =>
    intro x1 x2 x3 M h
    replace h : f_X7_hoursTo_4_b o0 (f_X7_hoursTo_4 o0 n) x1 x2 x3 M = some R := h
    unfold f_X7_hoursTo_4_b at h
    refine V_iload_n rfl dX7_hoursTo_4 rfl rfl ?_
    refine V_iload_n rfl dX7_hoursTo_5 rfl rfl ?_
    refine V_icmp_ge (t := 24) rfl rfl dX7_hoursTo_6 (fun hc1 => ?_) (fun hc1 => ?_)
    · replace h := ifp hc1 h
      refine V_iload_n rfl dX7_hoursTo_24 rfl rfl ?_
      cases h
      exact V_iret dX7_hoursTo_25 rfl rfl (Nat.le_refl _) (Nat.le_refl _) qI_ok
    · replace h := ifn hc1 h
      refine V_iload_n rfl dX7_hoursTo_9 rfl rfl ?_
      refine V_aload_n rfl dX7_hoursTo_10 rfl rfl ?_
      refine V_getr (k0 := 2) rfl dX7_hoursTo_11 (isRound_0 h0) icX7 (by decide) rfl w_301 ?_
      refine V_iload_n rfl dX7_hoursTo_14 rfl rfl ?_
      replace h := rd_e h
      obtain ⟨hb3, h⟩ := h
      refine V_iald rfl dX7_hoursTo_15 (isRound_2 h0) hb3 ?_
      refine V_iadd rfl dX7_hoursTo_16 ?_
      replace h := lt_e h
      refine V_istore_n (L' := [_, _, _, _]) rfl rfl dX7_hoursTo_17 (by decide) rfl ?_
      replace h := lt_e h
      refine V_inc (L' := [_, _, _, _]) rfl dX7_hoursTo_18 rfl kc_1 (by decide) rfl ?_
      refine V_goto (t := 4) rfl dX7_hoursTo_21 ?_
      exact V_sub (le_s (le_s (le_s (le_s le_0)))) (hr4 _ _ _ _ h)
def f_X7_hoursTo (o0 : Nat) (p1 : Int32) (M : IM) : IR := f_X7_hoursTo_4 o0 BG p1 0 0 M
set_option maxRecDepth 100000 in
set_option maxHeartbeats 4000000 in
theorem t_X7_hoursTo {g : IG} {a : Nat → Nat} {R : Int32 × IM} {o0 : Nat} {p1 : Int32} {M : IM} (h0 : isRound o0) (h : f_X7_hoursTo o0 p1 M = some R) : Cn g mX7_hoursTo 1 0 0 (qI S0 a R) [.ref (a o0), .int p1] a S0 M := by
  refine Cn_of (L := [some (.ref (a o0)), some (.int p1), none, none]) mf_X7_hoursTo (cat_r (cat_i cat_0)) (Nat.le_of_ble_eq_true rfl) rfl ?_
  unfold f_X7_hoursTo at h
  refine V_iconst (v := 0) rfl dX7_hoursTo_0 kc_0 ?_
  refine V_istore_n (L' := [_, _, _, _]) rfl rfl dX7_hoursTo_1 (by decide) rfl ?_
  refine V_iconst (v := 0) rfl dX7_hoursTo_2 kc_0 ?_
  refine V_istore_n (L' := [_, _, _, _]) rfl rfl dX7_hoursTo_3 (by decide) rfl ?_
  exact V_sub (le_s (le_s (le_s (le_s le_0)))) (t_X7_hoursTo_4 h0 BG _ _ _ _ h)
-- X7_allHours: NeverHalted$Round.allHours()I
def f_X7_allHours (o0 : Nat) (M : IM) : IR := cl (f_X7_hoursTo o0 (M o0 0) M) fun w1 M2 => some (w1, M2)
set_option maxRecDepth 100000 in
set_option maxHeartbeats 4000000 in
theorem t_X7_allHours {g : IG} {a : Nat → Nat} {R : Int32 × IM} {o0 : Nat} {M : IM} (h0 : isRound o0) (h : f_X7_allHours o0 M = some R) : Cn g mX7_allHours 2 0 0 (qI S0 a R) [.ref (a o0)] a S0 M := by
  refine Cn_of (L := [some (.ref (a o0))]) mf_X7_allHours (cat_r cat_0) (Nat.le_of_ble_eq_true rfl) rfl ?_
  unfold f_X7_allHours at h
  refine V_aload_n rfl dX7_allHours_0 rfl rfl ?_
  refine V_aload_n rfl dX7_allHours_1 rfl rfl ?_
  refine V_geti (k0 := 0) rfl dX7_allHours_2 (isRound_0 h0) icX7 (by decide) rfl w_294 ?_
  replace h := cl_e h
  obtain ⟨w1, M2, hc3, h⟩ := h
  refine V_ii (As := [.int _]) rfl dX7_allHours_5 mf_X7_hoursTo ⟨w_1000, w_1001⟩ w_999 (by decide) (isRound_0 h0) rfl rfl rfl rfl ⟨rfl, rfl⟩ (t_X7_hoursTo h0 hc3) ?_
  cases h
  exact V_iret dX7_allHours_8 rfl rfl (Nat.le_refl _) (Nat.le_refl _) qI_ok
-- X11_look: NeverHalted.look(I)I
def f_X11_look (p1 : Int32) (M : IM) : IR := if p1 = 0 then some ((M 1 10), M) else if p1 = 1 then some ((M 1 1), M) else if p1 = 2 then some ((M 1 2), M) else if p1 = 3 then some ((M 1 3), M) else if p1 = 4 then some ((M 1 4), M) else if p1 = 5 then some ((M 1 5), M) else if p1 = 6 then some ((M 1 6), M) else if p1 = 7 then some ((M 1 7), M) else if p1 = 8 then some ((M 1 8), M) else if p1 = 9 then cl (f_X11_whoGo 1 M) fun w11 M12 => some (w11, M12) else if p1 = 10 then some ((M 1 9), M) else if p1 = 11 then some ((M 1 0), M) else if p1 = 12 then some ((M 8 0), M) else if p1 = 13 then some ((M 14 0), M) else if p1 = 14 then some ((M 20 0), M) else if p1 = 15 then some ((M 25 0), M) else if p1 = 16 then some ((M 34 0), M) else if p1 = 17 then cl (f_X7_allHours 20 M) fun w22 M23 => some (w22, M23) else if p1 = 18 then some ((-1), M) else if p1 = 19 then some ((-1), M) else if p1 = 20 then some ((M 6 0), M) else if p1 = 21 then some ((M 6 1), M) else if p1 = 22 then some ((M 6 2), M) else some ((-1), M)
set_option maxRecDepth 100000 in
set_option maxHeartbeats 4000000 in
theorem t_X11_look {g : IG} {a : Nat → Nat} {R : Int32 × IM} {p1 : Int32} {M : IM} (h : f_X11_look p1 M = some R) : Cn g mX11_look 7 0 0 (qI S0 a R) [.ref (a 0), .int p1] a S0 M := by
  refine Cn_of (L := [some (.ref (a 0)), some (.int p1)]) mf_X11_look (cat_r (cat_i cat_0)) (Nat.le_of_ble_eq_true rfl) rfl ?_
  unfold f_X11_look at h
  refine V_iload_n rfl dX11_look_0 rfl rfl ?_
  replace h := ift h
  rcases h with ⟨hc1, h⟩ | ⟨hc1, h⟩
  · refine V_tabAt (off := 107) (t := 108) hc1 dX11_look_1 (by decide +kernel) rfl ?_
    refine V_aload_n rfl dX11_look_108 rfl rfl ?_
    refine V_getr (k0 := 0) rfl dX11_look_109 s0_0 icX11 (by decide) rfl w_523 ?_
    refine V_geti (k0 := 10) rfl dX11_look_112 s0_1 icX4 (by decide) rfl w_201 ?_
    cases h
    exact V_iret dX11_look_115 rfl rfl (Nat.le_refl _) (Nat.le_refl _) qI_ok
  replace h := ift h
  rcases h with ⟨hc2, h⟩ | ⟨hc2, h⟩
  · refine V_tabAt (off := 115) (t := 116) hc2 dX11_look_1 (by decide +kernel) rfl ?_
    refine V_aload_n rfl dX11_look_116 rfl rfl ?_
    refine V_getr (k0 := 0) rfl dX11_look_117 s0_0 icX11 (by decide) rfl w_523 ?_
    refine V_geti (k0 := 1) rfl dX11_look_120 s0_1 icX4 (by decide) rfl w_179 ?_
    cases h
    exact V_iret dX11_look_123 rfl rfl (Nat.le_refl _) (Nat.le_refl _) qI_ok
  replace h := ift h
  rcases h with ⟨hc3, h⟩ | ⟨hc3, h⟩
  · refine V_tabAt (off := 123) (t := 124) hc3 dX11_look_1 (by decide +kernel) rfl ?_
    refine V_aload_n rfl dX11_look_124 rfl rfl ?_
    refine V_getr (k0 := 0) rfl dX11_look_125 s0_0 icX11 (by decide) rfl w_523 ?_
    refine V_geti (k0 := 2) rfl dX11_look_128 s0_1 icX4 (by decide) rfl w_182 ?_
    cases h
    exact V_iret dX11_look_131 rfl rfl (Nat.le_refl _) (Nat.le_refl _) qI_ok
  replace h := ift h
  rcases h with ⟨hc4, h⟩ | ⟨hc4, h⟩
  · refine V_tabAt (off := 131) (t := 132) hc4 dX11_look_1 (by decide +kernel) rfl ?_
    refine V_aload_n rfl dX11_look_132 rfl rfl ?_
    refine V_getr (k0 := 0) rfl dX11_look_133 s0_0 icX11 (by decide) rfl w_523 ?_
    refine V_geti (k0 := 3) rfl dX11_look_136 s0_1 icX4 (by decide) rfl w_185 ?_
    cases h
    exact V_iret dX11_look_139 rfl rfl (Nat.le_refl _) (Nat.le_refl _) qI_ok
  replace h := ift h
  rcases h with ⟨hc5, h⟩ | ⟨hc5, h⟩
  · refine V_tabAt (off := 139) (t := 140) hc5 dX11_look_1 (by decide +kernel) rfl ?_
    refine V_aload_n rfl dX11_look_140 rfl rfl ?_
    refine V_getr (k0 := 0) rfl dX11_look_141 s0_0 icX11 (by decide) rfl w_523 ?_
    refine V_geti (k0 := 4) rfl dX11_look_144 s0_1 icX4 (by decide) rfl w_187 ?_
    cases h
    exact V_iret dX11_look_147 rfl rfl (Nat.le_refl _) (Nat.le_refl _) qI_ok
  replace h := ift h
  rcases h with ⟨hc6, h⟩ | ⟨hc6, h⟩
  · refine V_tabAt (off := 147) (t := 148) hc6 dX11_look_1 (by decide +kernel) rfl ?_
    refine V_aload_n rfl dX11_look_148 rfl rfl ?_
    refine V_getr (k0 := 0) rfl dX11_look_149 s0_0 icX11 (by decide) rfl w_523 ?_
    refine V_geti (k0 := 5) rfl dX11_look_152 s0_1 icX4 (by decide) rfl w_189 ?_
    cases h
    exact V_iret dX11_look_155 rfl rfl (Nat.le_refl _) (Nat.le_refl _) qI_ok
  replace h := ift h
  rcases h with ⟨hc7, h⟩ | ⟨hc7, h⟩
  · refine V_tabAt (off := 155) (t := 156) hc7 dX11_look_1 (by decide +kernel) rfl ?_
    refine V_aload_n rfl dX11_look_156 rfl rfl ?_
    refine V_getr (k0 := 0) rfl dX11_look_157 s0_0 icX11 (by decide) rfl w_523 ?_
    refine V_geti (k0 := 6) rfl dX11_look_160 s0_1 icX4 (by decide) rfl w_191 ?_
    cases h
    exact V_iret dX11_look_163 rfl rfl (Nat.le_refl _) (Nat.le_refl _) qI_ok
  replace h := ift h
  rcases h with ⟨hc8, h⟩ | ⟨hc8, h⟩
  · refine V_tabAt (off := 163) (t := 164) hc8 dX11_look_1 (by decide +kernel) rfl ?_
    refine V_aload_n rfl dX11_look_164 rfl rfl ?_
    refine V_getr (k0 := 0) rfl dX11_look_165 s0_0 icX11 (by decide) rfl w_523 ?_
    refine V_geti (k0 := 7) rfl dX11_look_168 s0_1 icX4 (by decide) rfl w_193 ?_
    cases h
    exact V_iret dX11_look_171 rfl rfl (Nat.le_refl _) (Nat.le_refl _) qI_ok
  replace h := ift h
  rcases h with ⟨hc9, h⟩ | ⟨hc9, h⟩
  · refine V_tabAt (off := 171) (t := 172) hc9 dX11_look_1 (by decide +kernel) rfl ?_
    refine V_aload_n rfl dX11_look_172 rfl rfl ?_
    refine V_getr (k0 := 0) rfl dX11_look_173 s0_0 icX11 (by decide) rfl w_523 ?_
    refine V_geti (k0 := 8) rfl dX11_look_176 s0_1 icX4 (by decide) rfl w_196 ?_
    cases h
    exact V_iret dX11_look_179 rfl rfl (Nat.le_refl _) (Nat.le_refl _) qI_ok
  replace h := ift h
  rcases h with ⟨hc10, h⟩ | ⟨hc10, h⟩
  · refine V_tabAt (off := 179) (t := 180) hc10 dX11_look_1 (by decide +kernel) rfl ?_
    refine V_aload_n rfl dX11_look_180 rfl rfl ?_
    refine V_aload_n rfl dX11_look_181 rfl rfl ?_
    refine V_getr (k0 := 0) rfl dX11_look_182 s0_0 icX11 (by decide) rfl w_523 ?_
    replace h := cl_e h
    obtain ⟨w11, M12, hc13, h⟩ := h
    refine V_ii (As := [.ref _]) rfl dX11_look_185 mf_X11_whoGo ⟨w_845, w_19⟩ w_843 (by decide) s0_0 rfl rfl rfl rfl ⟨rfl, rfl⟩ (t_X11_whoGo isNow_at1 hc13) ?_
    cases h
    exact V_iret dX11_look_188 rfl rfl (Nat.le_refl _) (Nat.le_refl _) qI_ok
  replace h := ift h
  rcases h with ⟨hc14, h⟩ | ⟨hc14, h⟩
  · refine V_tabAt (off := 188) (t := 189) hc14 dX11_look_1 (by decide +kernel) rfl ?_
    refine V_aload_n rfl dX11_look_189 rfl rfl ?_
    refine V_getr (k0 := 0) rfl dX11_look_190 s0_0 icX11 (by decide) rfl w_523 ?_
    refine V_geti (k0 := 9) rfl dX11_look_193 s0_1 icX4 (by decide) rfl w_199 ?_
    cases h
    exact V_iret dX11_look_196 rfl rfl (Nat.le_refl _) (Nat.le_refl _) qI_ok
  replace h := ift h
  rcases h with ⟨hc15, h⟩ | ⟨hc15, h⟩
  · refine V_tabAt (off := 196) (t := 197) hc15 dX11_look_1 (by decide +kernel) rfl ?_
    refine V_aload_n rfl dX11_look_197 rfl rfl ?_
    refine V_getr (k0 := 0) rfl dX11_look_198 s0_0 icX11 (by decide) rfl w_523 ?_
    refine V_geti (k0 := 0) rfl dX11_look_201 s0_1 icX4 (by decide) rfl w_175 ?_
    cases h
    exact V_iret dX11_look_204 rfl rfl (Nat.le_refl _) (Nat.le_refl _) qI_ok
  replace h := ift h
  rcases h with ⟨hc16, h⟩ | ⟨hc16, h⟩
  · refine V_tabAt (off := 204) (t := 205) hc16 dX11_look_1 (by decide +kernel) rfl ?_
    refine V_aload_n rfl dX11_look_205 rfl rfl ?_
    refine V_getr (k0 := 1) rfl dX11_look_206 s0_0 icX11 (by decide) rfl w_524 ?_
    refine V_getr (k0 := 4) rfl dX11_look_209 s0_6 icX9 (by decide) rfl w_351 ?_
    refine V_geti (k0 := 0) rfl dX11_look_212 s0_8 icX3 (by decide) rfl w_261 ?_
    cases h
    exact V_iret dX11_look_215 rfl rfl (Nat.le_refl _) (Nat.le_refl _) qI_ok
  replace h := ift h
  rcases h with ⟨hc17, h⟩ | ⟨hc17, h⟩
  · refine V_tabAt (off := 215) (t := 216) hc17 dX11_look_1 (by decide +kernel) rfl ?_
    refine V_aload_n rfl dX11_look_216 rfl rfl ?_
    refine V_getr (k0 := 1) rfl dX11_look_217 s0_0 icX11 (by decide) rfl w_524 ?_
    refine V_getr (k0 := 5) rfl dX11_look_220 s0_6 icX9 (by decide) rfl w_353 ?_
    refine V_geti (k0 := 0) rfl dX11_look_223 s0_14 icX3 (by decide) rfl w_261 ?_
    cases h
    exact V_iret dX11_look_226 rfl rfl (Nat.le_refl _) (Nat.le_refl _) qI_ok
  replace h := ift h
  rcases h with ⟨hc18, h⟩ | ⟨hc18, h⟩
  · refine V_tabAt (off := 226) (t := 227) hc18 dX11_look_1 (by decide +kernel) rfl ?_
    refine V_aload_n rfl dX11_look_227 rfl rfl ?_
    refine V_getr (k0 := 1) rfl dX11_look_228 s0_0 icX11 (by decide) rfl w_524 ?_
    refine V_getr (k0 := 6) rfl dX11_look_231 s0_6 icX9 (by decide) rfl w_355 ?_
    refine V_geti (k0 := 0) rfl dX11_look_234 s0_20 icX7 (by decide) rfl w_297 ?_
    cases h
    exact V_iret dX11_look_237 rfl rfl (Nat.le_refl _) (Nat.le_refl _) qI_ok
  replace h := ift h
  rcases h with ⟨hc19, h⟩ | ⟨hc19, h⟩
  · refine V_tabAt (off := 237) (t := 238) hc19 dX11_look_1 (by decide +kernel) rfl ?_
    refine V_aload_n rfl dX11_look_238 rfl rfl ?_
    refine V_getr (k0 := 1) rfl dX11_look_239 s0_0 icX11 (by decide) rfl w_524 ?_
    refine V_getr (k0 := 7) rfl dX11_look_242 s0_6 icX9 (by decide) rfl w_357 ?_
    refine V_geti (k0 := 0) rfl dX11_look_245 s0_25 icX8 (by decide) rfl w_326 ?_
    cases h
    exact V_iret dX11_look_248 rfl rfl (Nat.le_refl _) (Nat.le_refl _) qI_ok
  replace h := ift h
  rcases h with ⟨hc20, h⟩ | ⟨hc20, h⟩
  · refine V_tabAt (off := 248) (t := 249) hc20 dX11_look_1 (by decide +kernel) rfl ?_
    refine V_aload_n rfl dX11_look_249 rfl rfl ?_
    refine V_getr (k0 := 3) rfl dX11_look_250 s0_0 icX11 (by decide) rfl w_526 ?_
    refine V_geti (k0 := 0) rfl dX11_look_253 s0_34 icX5 (by decide) rfl w_404 ?_
    cases h
    exact V_iret dX11_look_256 rfl rfl (Nat.le_refl _) (Nat.le_refl _) qI_ok
  replace h := ift h
  rcases h with ⟨hc21, h⟩ | ⟨hc21, h⟩
  · refine V_tabAt (off := 256) (t := 257) hc21 dX11_look_1 (by decide +kernel) rfl ?_
    refine V_aload_n rfl dX11_look_257 rfl rfl ?_
    refine V_getr (k0 := 1) rfl dX11_look_258 s0_0 icX11 (by decide) rfl w_524 ?_
    refine V_getr (k0 := 6) rfl dX11_look_261 s0_6 icX9 (by decide) rfl w_355 ?_
    replace h := cl_e h
    obtain ⟨w22, M23, hc24, h⟩ := h
    refine V_ii (As := []) rfl dX11_look_264 mf_X7_allHours ⟨w_996, w_997⟩ w_995 (by decide) s0_20 rfl rfl rfl rfl ⟨rfl, rfl⟩ (t_X7_allHours isRound_at20 hc24) ?_
    cases h
    exact V_iret dX11_look_267 rfl rfl (Nat.le_refl _) (Nat.le_refl _) qI_ok
  replace h := ift h
  rcases h with ⟨hc25, h⟩ | ⟨hc25, h⟩
  · refine V_tabAt (off := 291) (t := 292) hc25 dX11_look_1 (by decide +kernel) rfl ?_
    refine V_iconst (v := (-1)) rfl dX11_look_292 kc_m1 ?_
    cases h
    exact V_iret dX11_look_293 rfl rfl (Nat.le_refl _) (Nat.le_refl _) qI_ok
  replace h := ift h
  rcases h with ⟨hc26, h⟩ | ⟨hc26, h⟩
  · refine V_tabAt (off := 291) (t := 292) hc26 dX11_look_1 (by decide +kernel) rfl ?_
    refine V_iconst (v := (-1)) rfl dX11_look_292 kc_m1 ?_
    cases h
    exact V_iret dX11_look_293 rfl rfl (Nat.le_refl _) (Nat.le_refl _) qI_ok
  replace h := ift h
  rcases h with ⟨hc27, h⟩ | ⟨hc27, h⟩
  · refine V_tabAt (off := 267) (t := 268) hc27 dX11_look_1 (by decide +kernel) rfl ?_
    refine V_aload_n rfl dX11_look_268 rfl rfl ?_
    refine V_getr (k0 := 1) rfl dX11_look_269 s0_0 icX11 (by decide) rfl w_524 ?_
    refine V_geti (k0 := 0) rfl dX11_look_272 s0_6 icX9 (by decide) rfl w_343 ?_
    cases h
    exact V_iret dX11_look_275 rfl rfl (Nat.le_refl _) (Nat.le_refl _) qI_ok
  replace h := ift h
  rcases h with ⟨hc28, h⟩ | ⟨hc28, h⟩
  · refine V_tabAt (off := 275) (t := 276) hc28 dX11_look_1 (by decide +kernel) rfl ?_
    refine V_aload_n rfl dX11_look_276 rfl rfl ?_
    refine V_getr (k0 := 1) rfl dX11_look_277 s0_0 icX11 (by decide) rfl w_524 ?_
    refine V_geti (k0 := 1) rfl dX11_look_280 s0_6 icX9 (by decide) rfl w_345 ?_
    cases h
    exact V_iret dX11_look_283 rfl rfl (Nat.le_refl _) (Nat.le_refl _) qI_ok
  replace h := ift h
  rcases h with ⟨hc29, h⟩ | ⟨hc29, h⟩
  · refine V_tabAt (off := 283) (t := 284) hc29 dX11_look_1 (by decide +kernel) rfl ?_
    refine V_aload_n rfl dX11_look_284 rfl rfl ?_
    refine V_getr (k0 := 1) rfl dX11_look_285 s0_0 icX11 (by decide) rfl w_524 ?_
    refine V_geti (k0 := 2) rfl dX11_look_288 s0_6 icX9 (by decide) rfl w_347 ?_
    cases h
    exact V_iret dX11_look_291 rfl rfl (Nat.le_refl _) (Nat.le_refl _) qI_ok
  refine V_tabOut (t := 292) dX11_look_1 (by have hc1i := ne_toInt (z := 0) (k := 0) hc1 (by decide +kernel); have hc2i := ne_toInt (z := 1) (k := 1) hc2 (by decide +kernel); have hc3i := ne_toInt (z := 2) (k := 2) hc3 (by decide +kernel); have hc4i := ne_toInt (z := 3) (k := 3) hc4 (by decide +kernel); have hc5i := ne_toInt (z := 4) (k := 4) hc5 (by decide +kernel); have hc6i := ne_toInt (z := 5) (k := 5) hc6 (by decide +kernel); have hc7i := ne_toInt (z := 6) (k := 6) hc7 (by decide +kernel); have hc8i := ne_toInt (z := 7) (k := 7) hc8 (by decide +kernel); have hc9i := ne_toInt (z := 8) (k := 8) hc9 (by decide +kernel); have hc10i := ne_toInt (z := 9) (k := 9) hc10 (by decide +kernel); have hc14i := ne_toInt (z := 10) (k := 10) hc14 (by decide +kernel); have hc15i := ne_toInt (z := 11) (k := 11) hc15 (by decide +kernel); have hc16i := ne_toInt (z := 12) (k := 12) hc16 (by decide +kernel); have hc17i := ne_toInt (z := 13) (k := 13) hc17 (by decide +kernel); have hc18i := ne_toInt (z := 14) (k := 14) hc18 (by decide +kernel); have hc19i := ne_toInt (z := 15) (k := 15) hc19 (by decide +kernel); have hc20i := ne_toInt (z := 16) (k := 16) hc20 (by decide +kernel); have hc21i := ne_toInt (z := 17) (k := 17) hc21 (by decide +kernel); have hc25i := ne_toInt (z := 18) (k := 18) hc25 (by decide +kernel); have hc26i := ne_toInt (z := 19) (k := 19) hc26 (by decide +kernel); have hc27i := ne_toInt (z := 20) (k := 20) hc27 (by decide +kernel); have hc28i := ne_toInt (z := 21) (k := 21) hc28 (by decide +kernel); have hc29i := ne_toInt (z := 22) (k := 22) hc29 (by decide +kernel); omega) rfl ?_
  refine V_iconst (v := (-1)) rfl dX11_look_292 kc_m1 ?_
  cases h
  exact V_iret dX11_look_293 rfl rfl (Nat.le_refl _) (Nat.le_refl _) qI_ok
-- X4_greatestFeet: NeverHalted$Now.greatestFeet()I
def f_X4_greatestFeet_4_b (o0 : Nat) (r4 : Int32 → Int32 → IM → IR) (x1 : Int32) (x2 : Int32) (M : IM) : IR := if (M o0 10) ≤ x2 then some (x1, M) else rd M (o0 + 3) 10 x2 fun v2 => cl (f_J9_max_7cf53 x1 v2 M) fun w4 M5 => lt (x2 + 1) fun v7 => r4 w4 v7 M5
def f_X4_greatestFeet_4 (o0 : Nat) (n : Nat) : Int32 → Int32 → IM → IR := itr (fun _ _ _ => none) (f_X4_greatestFeet_4_b o0) n
set_option maxRecDepth 100000 in
set_option maxHeartbeats 4000000 in
theorem t_X4_greatestFeet_4 {g : IG} {a : Nat → Nat} {R : Int32 × IM} {o0 : Nat} (h0 : isNow o0) (n : Nat) : ∀ (x1 : Int32) (x2 : Int32) (M : IM), f_X4_greatestFeet_4 o0 n x1 x2 M = some R → V g mX4_greatestFeet 2 0 0 (qI S0 a R) 4 [some (.ref (a o0)), some (.int x1), some (.int x2)] [] a S0 M 0 0 := by
  induction n with
  | zero => intro x1 x2 M h; exact absurd h (fun z => by cases z)
  | succ n hr4 =>
    intro x1 x2 M h
    replace h : f_X4_greatestFeet_4_b o0 (f_X4_greatestFeet_4 o0 n) x1 x2 M = some R := h
    unfold f_X4_greatestFeet_4_b at h
    refine V_iload_n rfl dX4_greatestFeet_4 rfl rfl ?_
    refine V_aload_n rfl dX4_greatestFeet_5 rfl rfl ?_
    refine V_geti (k0 := 10) rfl dX4_greatestFeet_6 (isNow_0 h0) icX4 (by decide) rfl w_200 ?_
    refine V_icmp_ge (t := 29) rfl rfl dX4_greatestFeet_9 (fun hc1 => ?_) (fun hc1 => ?_)
    · replace h := ifp hc1 h
      refine V_iload_n rfl dX4_greatestFeet_29 rfl rfl ?_
      cases h
      exact V_iret dX4_greatestFeet_30 rfl rfl (Nat.le_refl _) (Nat.le_refl _) qI_ok
    · replace h := ifn hc1 h
      refine V_iload_n rfl dX4_greatestFeet_12 rfl rfl ?_
      refine V_aload_n rfl dX4_greatestFeet_13 rfl rfl ?_
      refine V_getr (k0 := 13) rfl dX4_greatestFeet_14 (isNow_0 h0) icX4 (by decide) rfl w_208 ?_
      refine V_iload_n rfl dX4_greatestFeet_17 rfl rfl ?_
      replace h := rd_e h
      obtain ⟨hb3, h⟩ := h
      refine V_iald rfl dX4_greatestFeet_18 (isNow_3 h0) hb3 ?_
      replace h := cl_e h
      obtain ⟨w4, M5, hc6, h⟩ := h
      refine V_si (As := [.int _, .int _]) rfl dX4_greatestFeet_19 mf_J9_max_7cf53 w_919 w_1011 (by decide) rfl rfl rfl ⟨rfl, rfl⟩ (t_J9_max_7cf53 hc6) ?_
      refine V_istore_n (L' := [_, _, _]) rfl rfl dX4_greatestFeet_22 (by decide) rfl ?_
      replace h := lt_e h
      refine V_inc (L' := [_, _, _]) rfl dX4_greatestFeet_23 rfl kc_1 (by decide) rfl ?_
      refine V_goto (t := 4) rfl dX4_greatestFeet_26 ?_
      exact V_sub (le_s (le_s (le_s le_0))) (hr4 _ _ _ h)
def f_X4_greatestFeet (o0 : Nat) (M : IM) : IR := f_X4_greatestFeet_4 o0 BG 0 0 M
set_option maxRecDepth 100000 in
set_option maxHeartbeats 4000000 in
theorem t_X4_greatestFeet {g : IG} {a : Nat → Nat} {R : Int32 × IM} {o0 : Nat} {M : IM} (h0 : isNow o0) (h : f_X4_greatestFeet o0 M = some R) : Cn g mX4_greatestFeet 2 0 0 (qI S0 a R) [.ref (a o0)] a S0 M := by
  refine Cn_of (L := [some (.ref (a o0)), none, none]) mf_X4_greatestFeet (cat_r cat_0) (Nat.le_of_ble_eq_true rfl) rfl ?_
  unfold f_X4_greatestFeet at h
  refine V_iconst (v := 0) rfl dX4_greatestFeet_0 kc_0 ?_
  refine V_istore_n (L' := [_, _, _]) rfl rfl dX4_greatestFeet_1 (by decide) rfl ?_
  refine V_iconst (v := 0) rfl dX4_greatestFeet_2 kc_0 ?_
  refine V_istore_n (L' := [_, _, _]) rfl rfl dX4_greatestFeet_3 (by decide) rfl ?_
  exact V_sub (le_s (le_s (le_s le_0))) (t_X4_greatestFeet_4 h0 BG _ _ _ h)
-- X11_goes: NeverHalted.goes(II)I
def f_X11_goes_31_b (r31 : Int32 → Int32 → Int32 → Int32 → Int32 → IM → IR) (x1 : Int32) (x2 : Int32) (x3 : Int32) (x4 : Int32) (x5 : Int32) (M : IM) : IR := if x1 ≤ x5 then if x2 = 0 then some (x3, M) else if x2 = 1 then some (x4, M) else if x2 = 2 then some ((M 122 2), M) else if x2 = 3 then some ((M 122 3), M) else if x2 = 4 then cl (f_X4_greatestFeet 122 M) fun w14 M15 => some (w14, M15) else some ((-1), M) else lt (M 122 1) fun v17 => cl (f_X11_passHour 122 1 M) fun w18 M19 => if w18 = 0 then lt (x5 + 1) fun v22 => r31 x1 x2 x3 x4 v22 M19 else lt (x3 + 1) fun v23 => if x4 = (-1) then lt (x5 + 1) fun v26 => r31 x1 x2 v23 v17 v26 M19 else lt (x5 + 1) fun v25 => r31 x1 x2 v23 x4 v25 M19
def f_X11_goes_31 (n : Nat) : Int32 → Int32 → Int32 → Int32 → Int32 → IM → IR := itr (fun _ _ _ _ _ _ => none) (f_X11_goes_31_b) n
set_option maxRecDepth 100000 in
set_option maxHeartbeats 4000000 in
theorem t_X11_goes_31 {g : IG} {a : Nat → Nat} {R : Int32 × IM} (n : Nat) : ∀ (x1 : Int32) (x2 : Int32) (x3 : Int32) (x4 : Int32) (x5 : Int32) (M : IM), f_X11_goes_31 n x1 x2 x3 x4 x5 M = some R → V g mX11_goes 8 0 0 (qI S0 a R) 31 [some (.ref (a 0)), some (.int x1), some (.int x2), some (.int x3), some (.int x4), some (.int x5), none] [] a S0 M 0 0 := by
  induction n with
  | zero => intro x1 x2 x3 x4 x5 M h; exact absurd h (fun z => by cases z)
  | succ n hr31 =>
    intro x1 x2 x3 x4 x5 M h
    replace h : f_X11_goes_31_b (f_X11_goes_31 n) x1 x2 x3 x4 x5 M = some R := h
    unfold f_X11_goes_31_b at h
    refine V_iload rfl dX11_goes_31 rfl ?_
    refine V_iload_n rfl dX11_goes_33 rfl rfl ?_
    refine V_icmp_ge (t := 82) rfl rfl dX11_goes_34 (fun hc8 => ?_) (fun hc8 => ?_)
    · replace h := ifp hc8 h
      refine V_iload_n rfl dX11_goes_82 rfl rfl ?_
      replace h := ift h
      rcases h with ⟨hc9, h⟩ | ⟨hc9, h⟩
      · refine V_tabAt (off := 33) (t := 116) hc9 dX11_goes_83 (by decide +kernel) rfl ?_
        refine V_iload_n rfl dX11_goes_116 rfl rfl ?_
        cases h
        exact V_iret dX11_goes_117 rfl rfl (Nat.le_refl _) (Nat.le_refl _) qI_ok
      replace h := ift h
      rcases h with ⟨hc10, h⟩ | ⟨hc10, h⟩
      · refine V_tabAt (off := 35) (t := 118) hc10 dX11_goes_83 (by decide +kernel) rfl ?_
        refine V_iload rfl dX11_goes_118 rfl ?_
        cases h
        exact V_iret dX11_goes_120 rfl rfl (Nat.le_refl _) (Nat.le_refl _) qI_ok
      replace h := ift h
      rcases h with ⟨hc11, h⟩ | ⟨hc11, h⟩
      · refine V_tabAt (off := 38) (t := 121) hc11 dX11_goes_83 (by decide +kernel) rfl ?_
        refine V_aload_n rfl dX11_goes_121 rfl rfl ?_
        refine V_getr (k0 := 12) rfl dX11_goes_122 s0_0 icX11 (by decide) rfl w_535 ?_
        refine V_geti (k0 := 2) rfl dX11_goes_125 s0_122 icX4 (by decide) rfl w_182 ?_
        cases h
        exact V_iret dX11_goes_128 rfl rfl (Nat.le_refl _) (Nat.le_refl _) qI_ok
      replace h := ift h
      rcases h with ⟨hc12, h⟩ | ⟨hc12, h⟩
      · refine V_tabAt (off := 46) (t := 129) hc12 dX11_goes_83 (by decide +kernel) rfl ?_
        refine V_aload_n rfl dX11_goes_129 rfl rfl ?_
        refine V_getr (k0 := 12) rfl dX11_goes_130 s0_0 icX11 (by decide) rfl w_535 ?_
        refine V_geti (k0 := 3) rfl dX11_goes_133 s0_122 icX4 (by decide) rfl w_185 ?_
        cases h
        exact V_iret dX11_goes_136 rfl rfl (Nat.le_refl _) (Nat.le_refl _) qI_ok
      replace h := ift h
      rcases h with ⟨hc13, h⟩ | ⟨hc13, h⟩
      · refine V_tabAt (off := 54) (t := 137) hc13 dX11_goes_83 (by decide +kernel) rfl ?_
        refine V_aload_n rfl dX11_goes_137 rfl rfl ?_
        refine V_getr (k0 := 12) rfl dX11_goes_138 s0_0 icX11 (by decide) rfl w_535 ?_
        replace h := cl_e h
        obtain ⟨w14, M15, hc16, h⟩ := h
        refine V_ii (As := []) rfl dX11_goes_141 mf_X4_greatestFeet ⟨w_1008, w_1009⟩ w_1007 (by decide) s0_122 rfl rfl rfl rfl ⟨rfl, rfl⟩ (t_X4_greatestFeet isNow_at122 hc16) ?_
        cases h
        exact V_iret dX11_goes_144 rfl rfl (Nat.le_refl _) (Nat.le_refl _) qI_ok
      refine V_tabOut (t := 145) dX11_goes_83 (by have hc9i := ne_toInt (z := 0) (k := 0) hc9 (by decide +kernel); have hc10i := ne_toInt (z := 1) (k := 1) hc10 (by decide +kernel); have hc11i := ne_toInt (z := 2) (k := 2) hc11 (by decide +kernel); have hc12i := ne_toInt (z := 3) (k := 3) hc12 (by decide +kernel); have hc13i := ne_toInt (z := 4) (k := 4) hc13 (by decide +kernel); omega) rfl ?_
      refine V_iconst (v := (-1)) rfl dX11_goes_145 kc_m1 ?_
      cases h
      exact V_iret dX11_goes_146 rfl rfl (Nat.le_refl _) (Nat.le_refl _) qI_ok
    · replace h := ifn hc8 h
      refine V_aload_n rfl dX11_goes_37 rfl rfl ?_
      refine V_getr (k0 := 12) rfl dX11_goes_38 s0_0 icX11 (by decide) rfl w_535 ?_
      refine V_geti (k0 := 1) rfl dX11_goes_41 s0_122 icX4 (by decide) rfl w_179 ?_
      replace h := lt_e h
      refine V_istore (L' := [_, _, _, _, _, _, _]) rfl dX11_goes_44 (by decide) rfl ?_
      refine V_aload_n rfl dX11_goes_46 rfl rfl ?_
      refine V_aload_n rfl dX11_goes_47 rfl rfl ?_
      refine V_getr (k0 := 12) rfl dX11_goes_48 s0_0 icX11 (by decide) rfl w_535 ?_
      refine V_iconst (v := 1) rfl dX11_goes_51 kc_1 ?_
      replace h := cl_e h
      obtain ⟨w18, M19, hc20, h⟩ := h
      refine V_ii (As := [.ref _, .int _]) rfl dX11_goes_52 mf_X11_passHour ⟨w_841, w_18⟩ w_839 (by decide) s0_0 rfl rfl rfl rfl ⟨rfl, rfl⟩ (t_X11_passHour isNow_at122 hc20) ?_
      refine V_if_eq (t := 76) rfl rfl dX11_goes_55 (fun hc21 => ?_) (fun hc21 => ?_)
      · replace h := ifp hc21 h
        replace h := lt_e h
        refine V_inc (L' := [_, _, _, _, _, _, _]) rfl dX11_goes_76 rfl kc_1 (by decide) rfl ?_
        refine V_goto (t := 31) rfl dX11_goes_79 ?_
        exact V_sub (le_s (le_s (le_s (le_s (le_s (le_s (le_n le_0))))))) (hr31 _ _ _ _ _ _ h)
      · replace h := ifn hc21 h
        replace h := lt_e h
        refine V_inc (L' := [_, _, _, _, _, _, _]) rfl dX11_goes_58 rfl kc_1 (by decide) rfl ?_
        refine V_iload rfl dX11_goes_61 rfl ?_
        refine V_iconst (v := (-1)) rfl dX11_goes_63 kc_m1 ?_
        refine V_icmp_ne (t := 72) rfl rfl dX11_goes_64 (fun hc24 => ?_) (fun hc24 => ?_)
        · replace h := ifn hc24 h
          refine V_iload rfl dX11_goes_72 rfl ?_
          refine V_istore (L' := [_, _, _, _, _, _, _]) rfl dX11_goes_74 (by decide) rfl ?_
          replace h := lt_e h
          refine V_inc (L' := [_, _, _, _, _, _, _]) rfl dX11_goes_76 rfl kc_1 (by decide) rfl ?_
          refine V_goto (t := 31) rfl dX11_goes_79 ?_
          exact V_sub (le_s (le_s (le_s (le_s (le_s (le_s (le_n le_0))))))) (hr31 _ _ _ _ _ _ h)
        · replace h := ifp hc24 h
          refine V_iload rfl dX11_goes_67 rfl ?_
          refine V_goto (t := 74) rfl dX11_goes_69 ?_
          refine V_istore (L' := [_, _, _, _, _, _, _]) rfl dX11_goes_74 (by decide) rfl ?_
          replace h := lt_e h
          refine V_inc (L' := [_, _, _, _, _, _, _]) rfl dX11_goes_76 rfl kc_1 (by decide) rfl ?_
          refine V_goto (t := 31) rfl dX11_goes_79 ?_
          exact V_sub (le_s (le_s (le_s (le_s (le_s (le_s (le_n le_0))))))) (hr31 _ _ _ _ _ _ h)
def f_X11_goes (p1 : Int32) (p2 : Int32) (M : IM) : IR := cl (f_X11_within p1 1 99 M) fun w1 M2 => if w1 = 0 then some ((-1), M2) else cl (f_X4_become 122 1 M2) fun _ M6 => f_X11_goes_31 BG p1 p2 0 (-1) 0 M6
set_option maxRecDepth 100000 in
set_option maxHeartbeats 4000000 in
theorem t_X11_goes {g : IG} {a : Nat → Nat} {R : Int32 × IM} {p1 : Int32} {p2 : Int32} {M : IM} (h : f_X11_goes p1 p2 M = some R) : Cn g mX11_goes 8 0 0 (qI S0 a R) [.ref (a 0), .int p1, .int p2] a S0 M := by
  refine Cn_of (L := [some (.ref (a 0)), some (.int p1), some (.int p2), none, none, none, none]) mf_X11_goes (cat_r (cat_i (cat_i cat_0))) (Nat.le_of_ble_eq_true rfl) rfl ?_
  unfold f_X11_goes at h
  refine V_iload_n rfl dX11_goes_0 rfl rfl ?_
  refine V_iconst (v := 1) rfl dX11_goes_1 kc_1 ?_
  refine V_bipush (v := 99) rfl dX11_goes_2 kb_99 ?_
  replace h := cl_e h
  obtain ⟨w1, M2, hc3, h⟩ := h
  refine V_si (As := [.int _, .int _, .int _]) rfl dX11_goes_4 mf_X11_within w_594 w_593 (by decide) rfl rfl rfl ⟨rfl, rfl⟩ (t_X11_within hc3) ?_
  refine V_if_ne (t := 12) rfl rfl dX11_goes_7 (fun hc4 => ?_) (fun hc4 => ?_)
  · replace h := ifn hc4 h
    refine V_aload_n rfl dX11_goes_12 rfl rfl ?_
    refine V_getr (k0 := 12) rfl dX11_goes_13 s0_0 icX11 (by decide) rfl w_535 ?_
    refine V_aload_n rfl dX11_goes_16 rfl rfl ?_
    refine V_getr (k0 := 0) rfl dX11_goes_17 s0_0 icX11 (by decide) rfl w_523 ?_
    replace h := cl_e h
    obtain ⟨w5, M6, hc7, h⟩ := h
    refine V_iv (As := [.ref _]) rfl dX11_goes_20 mf_X4_become ⟨w_835, w_836⟩ w_957 (by decide) s0_122 rfl rfl rfl rfl ⟨rfl, rfl⟩ (t_X4_become isNow_at122 isNow_at1 hc7) ?_
    refine V_iconst (v := 0) rfl dX11_goes_23 kc_0 ?_
    refine V_istore_n (L' := [_, _, _, _, _, _, _]) rfl rfl dX11_goes_24 (by decide) rfl ?_
    refine V_iconst (v := (-1)) rfl dX11_goes_25 kc_m1 ?_
    refine V_istore (L' := [_, _, _, _, _, _, _]) rfl dX11_goes_26 (by decide) rfl ?_
    refine V_iconst (v := 0) rfl dX11_goes_28 kc_0 ?_
    refine V_istore (L' := [_, _, _, _, _, _, _]) rfl dX11_goes_29 (by decide) rfl ?_
    exact V_sub (le_s (le_s (le_s (le_s (le_s (le_s (le_n le_0))))))) (t_X11_goes_31 BG _ _ _ _ _ _ h)
  · replace h := ifp hc4 h
    refine V_iconst (v := (-1)) rfl dX11_goes_10 kc_m1 ?_
    cases h
    exact V_iret dX11_goes_11 rfl rfl (Nat.le_refl _) (Nat.le_refl _) qI_ok
-- J7_fill_53178: java/util/Arrays.fill([II)V
def f_J7_fill_53178_5_b (o0 : Nat) (n0 : Nat) (r5 : Int32 → Int32 → Int32 → IM → IR) (x1 : Int32) (x2 : Int32) (x3 : Int32) (M : IM) : IR := if x3 ≤ x2 then some (0, M) else wr M o0 n0 x2 x1 fun M3 => lt (x2 + 1) fun v5 => r5 x1 v5 x3 M3
def f_J7_fill_53178_5 (o0 : Nat) (n0 : Nat) (n : Nat) : Int32 → Int32 → Int32 → IM → IR := itr (fun _ _ _ _ => none) (f_J7_fill_53178_5_b o0 n0) n
set_option maxRecDepth 100000 in
set_option maxHeartbeats 4000000 in
theorem t_J7_fill_53178_5 {g : IG} {a : Nat → Nat} {R : Int32 × IM} {o0 : Nat} {n0 : Nat} (h0 : S0[o0]? = some (0, n0, [])) (n : Nat) : ∀ (x1 : Int32) (x2 : Int32) (x3 : Int32) (M : IM), f_J7_fill_53178_5 o0 n0 n x1 x2 x3 M = some R → V g mJ7_fill_53178 1 0 0 (qV S0 a R) 5 [some (.ref (a o0)), some (.int x1), some (.int x2), some (.int x3)] [] a S0 M 0 0 := by
  induction n with
  | zero => intro x1 x2 x3 M h; exact absurd h (fun z => by cases z)
  | succ n hr5 =>
    intro x1 x2 x3 M h
    replace h : f_J7_fill_53178_5_b o0 n0 (f_J7_fill_53178_5 o0 n0 n) x1 x2 x3 M = some R := h
    unfold f_J7_fill_53178_5_b at h
    refine V_iload_n rfl dJ7_fill_53178_5 rfl rfl ?_
    refine V_iload_n rfl dJ7_fill_53178_6 rfl rfl ?_
    refine V_icmp_ge (t := 20) rfl rfl dJ7_fill_53178_7 (fun hc2 => ?_) (fun hc2 => ?_)
    · replace h := ifp hc2 h
      cases h
      exact V_vret dJ7_fill_53178_20 rfl (Nat.le_refl _) (Nat.le_refl _) qV_ok
    · replace h := ifn hc2 h
      refine V_aload_n rfl dJ7_fill_53178_10 rfl rfl ?_
      refine V_iload_n rfl dJ7_fill_53178_11 rfl rfl ?_
      refine V_iload_n rfl dJ7_fill_53178_12 rfl rfl ?_
      replace h := wr_e h
      obtain ⟨hb4, h⟩ := h
      refine V_iast rfl dJ7_fill_53178_13 h0 hb4 ?_
      replace h := lt_e h
      refine V_inc (L' := [_, _, _, _]) rfl dJ7_fill_53178_14 rfl kc_1 (by decide) rfl ?_
      refine V_goto (t := 5) rfl dJ7_fill_53178_17 ?_
      exact V_sub (le_s (le_s (le_s (le_s le_0)))) (hr5 _ _ _ _ h)
def f_J7_fill_53178 (o0 : Nat) (n0 : Nat) (p1 : Int32) (M : IM) : IR := lt (Int32.ofNat n0) fun v1 => f_J7_fill_53178_5 o0 n0 BG p1 0 v1 M
set_option maxRecDepth 100000 in
set_option maxHeartbeats 4000000 in
theorem t_J7_fill_53178 {g : IG} {a : Nat → Nat} {R : Int32 × IM} {o0 : Nat} {n0 : Nat} {p1 : Int32} {M : IM} (h0 : S0[o0]? = some (0, n0, [])) (h : f_J7_fill_53178 o0 n0 p1 M = some R) : Cn g mJ7_fill_53178 1 0 0 (qV S0 a R) [.ref (a o0), .int p1] a S0 M := by
  refine Cn_of (L := [some (.ref (a o0)), some (.int p1), none, none]) mf_J7_fill_53178 (cat_r (cat_i cat_0)) (Nat.le_of_ble_eq_true rfl) rfl ?_
  unfold f_J7_fill_53178 at h
  refine V_iconst (v := 0) rfl dJ7_fill_53178_0 kc_0 ?_
  refine V_istore_n (L' := [_, _, _, _]) rfl rfl dJ7_fill_53178_1 (by decide) rfl ?_
  refine V_aload_n rfl dJ7_fill_53178_2 rfl rfl ?_
  refine V_alen rfl dJ7_fill_53178_3 h0 rfl ?_
  replace h := lt_e h
  refine V_istore_n (L' := [_, _, _, _]) rfl rfl dJ7_fill_53178_4 (by decide) rfl ?_
  exact V_sub (le_s (le_s (le_s (le_s le_0)))) (t_J7_fill_53178_5 h0 BG _ _ _ _ h)
-- X8_lacking: NeverHalted$Shifts.lacking(II)I
def f_X8_lacking_79_b (o0 : Nat) (r62 : Int32 → Int32 → IM → IR) (r79 : Int32 → Int32 → Int32 → Int32 → IM → IR) (x2 : Int32) (x3 : Int32) (x4 : Int32) (x5 : Int32) (M : IM) : IR := if x2 ≤ x5 then lt (x3 + 1) fun v32 => r62 x2 v32 M else if x4 = 0 then lt (x3 + 1) fun v34 => r62 x2 v34 M else rd M (o0 + 4) 10 x5 fun v35 => lt (v35 &&& x4) fun v37 => rd M (o0 + 4) 10 x5 fun v38 => wr M (o0 + 4) 10 x5 (v38 ||| x4) fun M40 => lt (x5 + 1) fun v42 => r79 x2 x3 v37 v42 M40
def f_X8_lacking_79 (o0 : Nat) (r62 : Int32 → Int32 → IM → IR) (n : Nat) : Int32 → Int32 → Int32 → Int32 → IM → IR := itr (fun _ _ _ _ _ => none) (f_X8_lacking_79_b o0 r62) n
set_option maxRecDepth 100000 in
set_option maxHeartbeats 4000000 in
theorem t_X8_lacking_79 {g : IG} {a : Nat → Nat} {R : Int32 × IM} {o0 : Nat} {r62 : Int32 → Int32 → IM → IR} (h0 : isShifts o0) (hr62 : ∀ (x2 : Int32) (x3 : Int32) (M : IM), r62 x2 x3 M = some R → V g mX8_lacking 2 0 0 (qI S0 a R) 62 [some (.ref (a o0)), none, some (.int x2), some (.int x3), none, none, none] [] a S0 M 0 0) (n : Nat) : ∀ (x2 : Int32) (x3 : Int32) (x4 : Int32) (x5 : Int32) (M : IM), f_X8_lacking_79 o0 r62 n x2 x3 x4 x5 M = some R → V g mX8_lacking 2 0 0 (qI S0 a R) 79 [some (.ref (a o0)), none, some (.int x2), some (.int x3), some (.int x4), some (.int x5), none] [] a S0 M 0 0 := by
  induction n with
  | zero => intro x2 x3 x4 x5 M h; exact absurd h (fun z => by cases z)
  | succ n hr79 =>
    intro x2 x3 x4 x5 M h
    replace h : f_X8_lacking_79_b o0 r62 (f_X8_lacking_79 o0 r62 n) x2 x3 x4 x5 M = some R := h
    unfold f_X8_lacking_79_b at h
    refine V_iload rfl dX8_lacking_79 rfl ?_
    refine V_iload_n rfl dX8_lacking_81 rfl rfl ?_
    refine V_icmp_ge (t := 124) rfl rfl dX8_lacking_82 (fun hc31 => ?_) (fun hc31 => ?_)
    · replace h := ifp hc31 h
      replace h := lt_e h
      refine V_inc (L' := [_, _, _, _, _, _, _]) rfl dX8_lacking_124 rfl kc_1 (by decide) rfl ?_
      refine V_goto (t := 62) rfl dX8_lacking_127 ?_
      exact V_sub (le_s (le_n (le_s (le_s (le_n (le_n (le_n le_0))))))) (hr62 _ _ _ h)
    · replace h := ifn hc31 h
      refine V_iload rfl dX8_lacking_85 rfl ?_
      refine V_if_eq (t := 124) rfl rfl dX8_lacking_87 (fun hc33 => ?_) (fun hc33 => ?_)
      · replace h := ifp hc33 h
        replace h := lt_e h
        refine V_inc (L' := [_, _, _, _, _, _, _]) rfl dX8_lacking_124 rfl kc_1 (by decide) rfl ?_
        refine V_goto (t := 62) rfl dX8_lacking_127 ?_
        exact V_sub (le_s (le_n (le_s (le_s (le_n (le_n (le_n le_0))))))) (hr62 _ _ _ h)
      · replace h := ifn hc33 h
        refine V_aload_n rfl dX8_lacking_90 rfl rfl ?_
        refine V_getr (k0 := 4) rfl dX8_lacking_91 (isShifts_0 h0) icX8 (by decide) rfl w_330 ?_
        refine V_iload rfl dX8_lacking_94 rfl ?_
        replace h := rd_e h
        obtain ⟨hb36, h⟩ := h
        refine V_iald rfl dX8_lacking_96 (isShifts_4 h0) hb36 ?_
        refine V_iload rfl dX8_lacking_97 rfl ?_
        refine V_iand rfl dX8_lacking_99 ?_
        replace h := lt_e h
        refine V_istore (L' := [_, _, _, _, _, _, _]) rfl dX8_lacking_100 (by decide) rfl ?_
        refine V_aload_n rfl dX8_lacking_102 rfl rfl ?_
        refine V_getr (k0 := 4) rfl dX8_lacking_103 (isShifts_0 h0) icX8 (by decide) rfl w_330 ?_
        refine V_iload rfl dX8_lacking_106 rfl ?_
        refine V_dup2 rfl dX8_lacking_108 rfl rfl ?_
        replace h := rd_e h
        obtain ⟨hb39, h⟩ := h
        refine V_iald rfl dX8_lacking_109 (isShifts_4 h0) hb39 ?_
        refine V_iload rfl dX8_lacking_110 rfl ?_
        refine V_ior rfl dX8_lacking_112 ?_
        replace h := wr_e h
        obtain ⟨hb41, h⟩ := h
        refine V_iast rfl dX8_lacking_113 (isShifts_4 h0) hb41 ?_
        refine V_iload rfl dX8_lacking_114 rfl ?_
        refine V_istore (L' := [_, _, _, _, _, _, _]) rfl dX8_lacking_116 (by decide) rfl ?_
        replace h := lt_e h
        refine V_inc (L' := [_, _, _, _, _, _, _]) rfl dX8_lacking_118 rfl kc_1 (by decide) rfl ?_
        refine V_goto (t := 79) rfl dX8_lacking_121 ?_
        exact V_sub (le_s (le_n (le_s (le_s (le_s (le_s (le_n le_0))))))) (hr79 _ _ _ _ _ h)
def f_X8_lacking_138_b (o0 : Nat) (r138 : Int32 → Int32 → Int32 → IM → IR) (x2 : Int32) (x3 : Int32) (x4 : Int32) (M : IM) : IR := if x2 ≤ x4 then some (x3, M) else rd M (o0 + 4) 10 x4 fun v24 => cl (f_J6_bitCount_0f7a4 v24 M) fun w26 M27 => lt (x3 - w26) fun v29 => lt (x4 + 1) fun v30 => r138 x2 v29 v30 M27
def f_X8_lacking_138 (o0 : Nat) (n : Nat) : Int32 → Int32 → Int32 → IM → IR := itr (fun _ _ _ _ => none) (f_X8_lacking_138_b o0) n
set_option maxRecDepth 100000 in
set_option maxHeartbeats 4000000 in
theorem t_X8_lacking_138 {g : IG} {a : Nat → Nat} {R : Int32 × IM} {o0 : Nat} (h0 : isShifts o0) (n : Nat) : ∀ (x2 : Int32) (x3 : Int32) (x4 : Int32) (M : IM), f_X8_lacking_138 o0 n x2 x3 x4 M = some R → V g mX8_lacking 2 0 0 (qI S0 a R) 138 [some (.ref (a o0)), none, some (.int x2), some (.int x3), some (.int x4), none, none] [] a S0 M 0 0 := by
  induction n with
  | zero => intro x2 x3 x4 M h; exact absurd h (fun z => by cases z)
  | succ n hr138 =>
    intro x2 x3 x4 M h
    replace h : f_X8_lacking_138_b o0 (f_X8_lacking_138 o0 n) x2 x3 x4 M = some R := h
    unfold f_X8_lacking_138_b at h
    refine V_iload rfl dX8_lacking_138 rfl ?_
    refine V_iload_n rfl dX8_lacking_140 rfl rfl ?_
    refine V_icmp_ge (t := 163) rfl rfl dX8_lacking_141 (fun hc23 => ?_) (fun hc23 => ?_)
    · replace h := ifp hc23 h
      refine V_iload_n rfl dX8_lacking_163 rfl rfl ?_
      cases h
      exact V_iret dX8_lacking_164 rfl rfl (Nat.le_refl _) (Nat.le_refl _) qI_ok
    · replace h := ifn hc23 h
      refine V_iload_n rfl dX8_lacking_144 rfl rfl ?_
      refine V_aload_n rfl dX8_lacking_145 rfl rfl ?_
      refine V_getr (k0 := 4) rfl dX8_lacking_146 (isShifts_0 h0) icX8 (by decide) rfl w_330 ?_
      refine V_iload rfl dX8_lacking_149 rfl ?_
      replace h := rd_e h
      obtain ⟨hb25, h⟩ := h
      refine V_iald rfl dX8_lacking_151 (isShifts_4 h0) hb25 ?_
      replace h := cl_e h
      obtain ⟨w26, M27, hc28, h⟩ := h
      refine V_si (As := [.int _]) rfl dX8_lacking_152 mf_J6_bitCount_0f7a4 w_888 w_1027 (by decide) rfl rfl rfl ⟨rfl, rfl⟩ (t_J6_bitCount_0f7a4 hc28) ?_
      refine V_isub rfl dX8_lacking_155 ?_
      replace h := lt_e h
      refine V_istore_n (L' := [_, _, _, _, _, _, _]) rfl rfl dX8_lacking_156 (by decide) rfl ?_
      replace h := lt_e h
      refine V_inc (L' := [_, _, _, _, _, _, _]) rfl dX8_lacking_157 rfl kc_1 (by decide) rfl ?_
      refine V_goto (t := 138) rfl dX8_lacking_160 ?_
      exact V_sub (le_s (le_n (le_s (le_s (le_s (le_n (le_n le_0))))))) (hr138 _ _ _ _ h)
def f_X8_lacking_62_b (o0 : Nat) (r62 : Int32 → Int32 → IM → IR) (x2 : Int32) (x3 : Int32) (M : IM) : IR := if 10 ≤ x3 then lt (24 * x2) fun v20 => f_X8_lacking_138 o0 BG x2 v20 0 M else rd M (o0 + 3) 10 x3 fun v21 => f_X8_lacking_79 o0 r62 BG x2 x3 v21 0 M
def f_X8_lacking_62 (o0 : Nat) (n : Nat) : Int32 → Int32 → IM → IR := itr (fun _ _ _ => none) (f_X8_lacking_62_b o0) n
set_option maxRecDepth 100000 in
set_option maxHeartbeats 4000000 in
theorem t_X8_lacking_62 {g : IG} {a : Nat → Nat} {R : Int32 × IM} {o0 : Nat} (h0 : isShifts o0) (n : Nat) : ∀ (x2 : Int32) (x3 : Int32) (M : IM), f_X8_lacking_62 o0 n x2 x3 M = some R → V g mX8_lacking 2 0 0 (qI S0 a R) 62 [some (.ref (a o0)), none, some (.int x2), some (.int x3), none, none, none] [] a S0 M 0 0 := by
  induction n with
  | zero => intro x2 x3 M h; exact absurd h (fun z => by cases z)
  | succ n hr62 =>
    intro x2 x3 M h
    replace h : f_X8_lacking_62_b o0 (f_X8_lacking_62 o0 n) x2 x3 M = some R := h
    unfold f_X8_lacking_62_b at h
    refine V_iload_n rfl dX8_lacking_62 rfl rfl ?_
    refine V_bipush (v := 10) rfl dX8_lacking_63 kb_10 ?_
    refine V_icmp_ge (t := 130) rfl rfl dX8_lacking_65 (fun hc19 => ?_) (fun hc19 => ?_)
    · replace h := ifp hc19 h
      refine V_bipush (v := 24) rfl dX8_lacking_130 kb_24 ?_
      refine V_iload_n rfl dX8_lacking_132 rfl rfl ?_
      refine V_imul rfl dX8_lacking_133 ?_
      replace h := lt_e h
      refine V_istore_n (L' := [_, _, _, _, _, _, _]) rfl rfl dX8_lacking_134 (by decide) rfl ?_
      refine V_iconst (v := 0) rfl dX8_lacking_135 kc_0 ?_
      refine V_istore (L' := [_, _, _, _, _, _, _]) rfl dX8_lacking_136 (by decide) rfl ?_
      exact V_sub (le_s (le_n (le_s (le_s (le_s (le_n (le_n le_0))))))) (t_X8_lacking_138 h0 BG _ _ _ _ h)
    · replace h := ifn hc19 h
      refine V_aload_n rfl dX8_lacking_68 rfl rfl ?_
      refine V_getr (k0 := 3) rfl dX8_lacking_69 (isShifts_0 h0) icX8 (by decide) rfl w_329 ?_
      refine V_iload_n rfl dX8_lacking_72 rfl rfl ?_
      replace h := rd_e h
      obtain ⟨hb22, h⟩ := h
      refine V_iald rfl dX8_lacking_73 (isShifts_3 h0) hb22 ?_
      refine V_istore (L' := [_, _, _, _, _, _, _]) rfl dX8_lacking_74 (by decide) rfl ?_
      refine V_iconst (v := 0) rfl dX8_lacking_76 kc_0 ?_
      refine V_istore (L' := [_, _, _, _, _, _, _]) rfl dX8_lacking_77 (by decide) rfl ?_
      exact V_sub (le_s (le_n (le_s (le_s (le_s (le_s (le_n le_0))))))) (t_X8_lacking_79 h0 hr62 BG _ _ _ _ _ h)
def f_X8_lacking_10_b (o0 : Nat) (r10 : Int32 → Int32 → Int32 → IM → IR) (x1 : Int32) (x2 : Int32) (x3 : Int32) (M : IM) : IR := if (M o0 0) ≤ x3 then cl (f_J7_fill_53178 (o0 + 4) 10 0 M) fun _ M6 => f_X8_lacking_62 o0 BG x2 0 M6 else if ((x1 >>> (x3 &&& 31)) &&& 1) = 0 then lt (x3 + 1) fun v9 => r10 x1 x2 v9 M else rd M (o0 + 1) 16 x3 fun v10 => rd M (o0 + 3) 10 v10 fun v12 => rd M (o0 + 2) 16 x3 fun v14 => wr M (o0 + 3) 10 v10 (v12 ||| v14) fun M16 => lt (x3 + 1) fun v18 => r10 x1 x2 v18 M16
def f_X8_lacking_10 (o0 : Nat) (n : Nat) : Int32 → Int32 → Int32 → IM → IR := itr (fun _ _ _ _ => none) (f_X8_lacking_10_b o0) n
set_option maxRecDepth 100000 in
set_option maxHeartbeats 4000000 in
theorem t_X8_lacking_10 {g : IG} {a : Nat → Nat} {R : Int32 × IM} {o0 : Nat} (h0 : isShifts o0) (n : Nat) : ∀ (x1 : Int32) (x2 : Int32) (x3 : Int32) (M : IM), f_X8_lacking_10 o0 n x1 x2 x3 M = some R → V g mX8_lacking 2 0 0 (qI S0 a R) 10 [some (.ref (a o0)), some (.int x1), some (.int x2), some (.int x3), none, none, none] [] a S0 M 0 0 := by
  induction n with
  | zero => intro x1 x2 x3 M h; exact absurd h (fun z => by cases z)
  | succ n hr10 =>
    intro x1 x2 x3 M h
    replace h : f_X8_lacking_10_b o0 (f_X8_lacking_10 o0 n) x1 x2 x3 M = some R := h
    unfold f_X8_lacking_10_b at h
    refine V_iload_n rfl dX8_lacking_10 rfl rfl ?_
    refine V_aload_n rfl dX8_lacking_11 rfl rfl ?_
    refine V_geti (k0 := 0) rfl dX8_lacking_12 (isShifts_0 h0) icX8 (by decide) rfl w_324 ?_
    refine V_icmp_ge (t := 52) rfl rfl dX8_lacking_15 (fun hc4 => ?_) (fun hc4 => ?_)
    · replace h := ifp hc4 h
      refine V_aload_n rfl dX8_lacking_52 rfl rfl ?_
      refine V_getr (k0 := 4) rfl dX8_lacking_53 (isShifts_0 h0) icX8 (by decide) rfl w_330 ?_
      refine V_iconst (v := 0) rfl dX8_lacking_56 kc_0 ?_
      replace h := cl_e h
      obtain ⟨w5, M6, hc7, h⟩ := h
      refine V_sv (As := [.ref _, .int _]) rfl dX8_lacking_57 mf_J7_fill_53178 w_1025 w_1024 (by decide) rfl rfl rfl ⟨rfl, rfl⟩ (t_J7_fill_53178 (isShifts_4 h0) hc7) ?_
      refine V_iconst (v := 0) rfl dX8_lacking_60 kc_0 ?_
      refine V_istore_n (L' := [_, _, _, _, _, _, _]) rfl rfl dX8_lacking_61 (by decide) rfl ?_
      exact V_sub (le_s (le_n (le_s (le_s (le_n (le_n (le_n le_0))))))) (t_X8_lacking_62 h0 BG _ _ _ h)
    · replace h := ifn hc4 h
      refine V_iload_n rfl dX8_lacking_18 rfl rfl ?_
      refine V_iload_n rfl dX8_lacking_19 rfl rfl ?_
      refine V_ishr rfl dX8_lacking_20 ?_
      refine V_iconst (v := 1) rfl dX8_lacking_21 kc_1 ?_
      refine V_iand rfl dX8_lacking_22 ?_
      refine V_if_eq (t := 46) rfl rfl dX8_lacking_23 (fun hc8 => ?_) (fun hc8 => ?_)
      · replace h := ifp hc8 h
        replace h := lt_e h
        refine V_inc (L' := [_, _, _, _, _, _, _]) rfl dX8_lacking_46 rfl kc_1 (by decide) rfl ?_
        refine V_goto (t := 10) rfl dX8_lacking_49 ?_
        exact V_sub (le_s (le_s (le_s (le_s (le_n (le_n (le_n le_0))))))) (hr10 _ _ _ _ h)
      · replace h := ifn hc8 h
        refine V_aload_n rfl dX8_lacking_26 rfl rfl ?_
        refine V_getr (k0 := 3) rfl dX8_lacking_27 (isShifts_0 h0) icX8 (by decide) rfl w_329 ?_
        refine V_aload_n rfl dX8_lacking_30 rfl rfl ?_
        refine V_getr (k0 := 1) rfl dX8_lacking_31 (isShifts_0 h0) icX8 (by decide) rfl w_327 ?_
        refine V_iload_n rfl dX8_lacking_34 rfl rfl ?_
        replace h := rd_e h
        obtain ⟨hb11, h⟩ := h
        refine V_iald rfl dX8_lacking_35 (isShifts_1 h0) hb11 ?_
        refine V_dup2 rfl dX8_lacking_36 rfl rfl ?_
        replace h := rd_e h
        obtain ⟨hb13, h⟩ := h
        refine V_iald rfl dX8_lacking_37 (isShifts_3 h0) hb13 ?_
        refine V_aload_n rfl dX8_lacking_38 rfl rfl ?_
        refine V_getr (k0 := 2) rfl dX8_lacking_39 (isShifts_0 h0) icX8 (by decide) rfl w_328 ?_
        refine V_iload_n rfl dX8_lacking_42 rfl rfl ?_
        replace h := rd_e h
        obtain ⟨hb15, h⟩ := h
        refine V_iald rfl dX8_lacking_43 (isShifts_2 h0) hb15 ?_
        refine V_ior rfl dX8_lacking_44 ?_
        replace h := wr_e h
        obtain ⟨hb17, h⟩ := h
        refine V_iast rfl dX8_lacking_45 (isShifts_3 h0) hb17 ?_
        replace h := lt_e h
        refine V_inc (L' := [_, _, _, _, _, _, _]) rfl dX8_lacking_46 rfl kc_1 (by decide) rfl ?_
        refine V_goto (t := 10) rfl dX8_lacking_49 ?_
        exact V_sub (le_s (le_s (le_s (le_s (le_n (le_n (le_n le_0))))))) (hr10 _ _ _ _ h)
def f_X8_lacking (o0 : Nat) (p1 : Int32) (p2 : Int32) (M : IM) : IR := cl (f_J7_fill_53178 (o0 + 3) 10 0 M) fun _ M2 => f_X8_lacking_10 o0 BG p1 p2 0 M2
set_option maxRecDepth 100000 in
set_option maxHeartbeats 4000000 in
theorem t_X8_lacking {g : IG} {a : Nat → Nat} {R : Int32 × IM} {o0 : Nat} {p1 : Int32} {p2 : Int32} {M : IM} (h0 : isShifts o0) (h : f_X8_lacking o0 p1 p2 M = some R) : Cn g mX8_lacking 2 0 0 (qI S0 a R) [.ref (a o0), .int p1, .int p2] a S0 M := by
  refine Cn_of (L := [some (.ref (a o0)), some (.int p1), some (.int p2), none, none, none, none]) mf_X8_lacking (cat_r (cat_i (cat_i cat_0))) (Nat.le_of_ble_eq_true rfl) rfl ?_
  unfold f_X8_lacking at h
  refine V_aload_n rfl dX8_lacking_0 rfl rfl ?_
  refine V_getr (k0 := 3) rfl dX8_lacking_1 (isShifts_0 h0) icX8 (by decide) rfl w_329 ?_
  refine V_iconst (v := 0) rfl dX8_lacking_4 kc_0 ?_
  replace h := cl_e h
  obtain ⟨w1, M2, hc3, h⟩ := h
  refine V_sv (As := [.ref _, .int _]) rfl dX8_lacking_5 mf_J7_fill_53178 w_1025 w_1024 (by decide) rfl rfl rfl ⟨rfl, rfl⟩ (t_J7_fill_53178 (isShifts_3 h0) hc3) ?_
  refine V_iconst (v := 0) rfl dX8_lacking_8 kc_0 ?_
  refine V_istore_n (L' := [_, _, _, _, _, _, _]) rfl rfl dX8_lacking_9 (by decide) rfl ?_
  exact V_sub (le_s (le_s (le_s (le_s (le_n (le_n (le_n le_0))))))) (t_X8_lacking_10 h0 BG _ _ _ _ h)
-- X8_longest: NeverHalted$Shifts.longest(I)I
def f_X8_longest_4_b (o0 : Nat) (r4 : Int32 → Int32 → Int32 → IM → IR) (x1 : Int32) (x2 : Int32) (x3 : Int32) (M : IM) : IR := if x1 < x3 then some (x2, M) else rd M (o0 + 2) 16 x3 fun v2 => cl (f_J6_bitCount_0f7a4 v2 M) fun w4 M5 => cl (f_J9_max_7cf53 x2 w4 M5) fun w7 M8 => lt (x3 + 1) fun v10 => r4 x1 w7 v10 M8
def f_X8_longest_4 (o0 : Nat) (n : Nat) : Int32 → Int32 → Int32 → IM → IR := itr (fun _ _ _ _ => none) (f_X8_longest_4_b o0) n
set_option maxRecDepth 100000 in
set_option maxHeartbeats 4000000 in
theorem t_X8_longest_4 {g : IG} {a : Nat → Nat} {R : Int32 × IM} {o0 : Nat} (h0 : isShifts o0) (n : Nat) : ∀ (x1 : Int32) (x2 : Int32) (x3 : Int32) (M : IM), f_X8_longest_4 o0 n x1 x2 x3 M = some R → V g mX8_longest 2 0 0 (qI S0 a R) 4 [some (.ref (a o0)), some (.int x1), some (.int x2), some (.int x3)] [] a S0 M 0 0 := by
  induction n with
  | zero => intro x1 x2 x3 M h; exact absurd h (fun z => by cases z)
  | succ n hr4 =>
    intro x1 x2 x3 M h
    replace h : f_X8_longest_4_b o0 (f_X8_longest_4 o0 n) x1 x2 x3 M = some R := h
    unfold f_X8_longest_4_b at h
    refine V_iload_n rfl dX8_longest_4 rfl rfl ?_
    refine V_iload_n rfl dX8_longest_5 rfl rfl ?_
    refine V_icmp_gt (t := 29) rfl rfl dX8_longest_6 (fun hc1 => ?_) (fun hc1 => ?_)
    · replace h := ifp hc1 h
      refine V_iload_n rfl dX8_longest_29 rfl rfl ?_
      cases h
      exact V_iret dX8_longest_30 rfl rfl (Nat.le_refl _) (Nat.le_refl _) qI_ok
    · replace h := ifn hc1 h
      refine V_iload_n rfl dX8_longest_9 rfl rfl ?_
      refine V_aload_n rfl dX8_longest_10 rfl rfl ?_
      refine V_getr (k0 := 2) rfl dX8_longest_11 (isShifts_0 h0) icX8 (by decide) rfl w_328 ?_
      refine V_iload_n rfl dX8_longest_14 rfl rfl ?_
      replace h := rd_e h
      obtain ⟨hb3, h⟩ := h
      refine V_iald rfl dX8_longest_15 (isShifts_2 h0) hb3 ?_
      replace h := cl_e h
      obtain ⟨w4, M5, hc6, h⟩ := h
      refine V_si (As := [.int _]) rfl dX8_longest_16 mf_J6_bitCount_0f7a4 w_888 w_1027 (by decide) rfl rfl rfl ⟨rfl, rfl⟩ (t_J6_bitCount_0f7a4 hc6) ?_
      replace h := cl_e h
      obtain ⟨w7, M8, hc9, h⟩ := h
      refine V_si (As := [.int _, .int _]) rfl dX8_longest_19 mf_J9_max_7cf53 w_919 w_1036 (by decide) rfl rfl rfl ⟨rfl, rfl⟩ (t_J9_max_7cf53 hc9) ?_
      refine V_istore_n (L' := [_, _, _, _]) rfl rfl dX8_longest_22 (by decide) rfl ?_
      replace h := lt_e h
      refine V_inc (L' := [_, _, _, _]) rfl dX8_longest_23 rfl kc_1 (by decide) rfl ?_
      refine V_goto (t := 4) rfl dX8_longest_26 ?_
      exact V_sub (le_s (le_s (le_s (le_s le_0)))) (hr4 _ _ _ _ h)
def f_X8_longest (o0 : Nat) (p1 : Int32) (M : IM) : IR := f_X8_longest_4 o0 BG p1 0 0 M
set_option maxRecDepth 100000 in
set_option maxHeartbeats 4000000 in
theorem t_X8_longest {g : IG} {a : Nat → Nat} {R : Int32 × IM} {o0 : Nat} {p1 : Int32} {M : IM} (h0 : isShifts o0) (h : f_X8_longest o0 p1 M = some R) : Cn g mX8_longest 2 0 0 (qI S0 a R) [.ref (a o0), .int p1] a S0 M := by
  refine Cn_of (L := [some (.ref (a o0)), some (.int p1), none, none]) mf_X8_longest (cat_r (cat_i cat_0)) (Nat.le_of_ble_eq_true rfl) rfl ?_
  unfold f_X8_longest at h
  refine V_iconst (v := 0) rfl dX8_longest_0 kc_0 ?_
  refine V_istore_n (L' := [_, _, _, _]) rfl rfl dX8_longest_1 (by decide) rfl ?_
  refine V_iconst (v := 0) rfl dX8_longest_2 kc_0 ?_
  refine V_istore_n (L' := [_, _, _, _]) rfl rfl dX8_longest_3 (by decide) rfl ?_
  exact V_sub (le_s (le_s (le_s (le_s le_0)))) (t_X8_longest_4 h0 BG _ _ _ _ h)
-- X8_leastSet: NeverHalted$Shifts.leastSet(IIIII)I
def f_X8_leastSet_76 (o0 : Nat) (qX8_leastSet : Nat → Int32 → Int32 → Int32 → Int32 → Int32 → IM → IR) (x1 : Int32) (x2 : Int32) (x3 : Int32) (x4 : Int32) (M : IM) : IR := lt (x3 ||| ((1 : Int32) <<< (x1 &&& 31))) fun v17 => cl (f_X8_lacking o0 v17 x4 M) fun w18 M19 => cl (qX8_leastSet o0 (x1 - 1) (x2 - 1) v17 x4 w18 M19) fun w21 M22 => some (w21, M22)
set_option maxRecDepth 100000 in
set_option maxHeartbeats 4000000 in
theorem t_X8_leastSet_76 {g : IG} {a : Nat → Nat} {R : Int32 × IM} {o0 : Nat} {qX8_leastSet : Nat → Int32 → Int32 → Int32 → Int32 → Int32 → IM → IR} {x1 : Int32} {x2 : Int32} {x3 : Int32} {x4 : Int32} {M : IM} {d : Nat} (hD : 2 ≤ d) (h0 : isShifts o0) (hqX8_leastSet : ∀ {o0 : Nat} {p1 : Int32} {p2 : Int32} {p3 : Int32} {p4 : Int32} {p5 : Int32} {M : IM} {R : Int32 × IM}, isShifts o0 → qX8_leastSet o0 p1 p2 p3 p4 p5 M = some R → Cn g mX8_leastSet d 0 0 (qI S0 a R) [.ref (a o0), .int p1, .int p2, .int p3, .int p4, .int p5] a S0 M) (h : f_X8_leastSet_76 o0 qX8_leastSet x1 x2 x3 x4 M = some R) : V g mX8_leastSet (d + 1) 0 0 (qI S0 a R) 76 [some (.ref (a o0)), some (.int x1), some (.int x2), some (.int x3), some (.int x4), none, none, none] [] a S0 M 0 0 := by
  unfold f_X8_leastSet_76 at h
  refine V_iload_n rfl dX8_leastSet_76 rfl rfl ?_
  refine V_iconst (v := 1) rfl dX8_leastSet_77 kc_1 ?_
  refine V_iload_n rfl dX8_leastSet_78 rfl rfl ?_
  refine V_ishl rfl dX8_leastSet_79 ?_
  refine V_ior rfl dX8_leastSet_80 ?_
  replace h := lt_e h
  refine V_istore (L' := [_, _, _, _, _, _, _, _]) rfl dX8_leastSet_81 (by decide) rfl ?_
  refine V_aload_n rfl dX8_leastSet_83 rfl rfl ?_
  refine V_iload_n rfl dX8_leastSet_84 rfl rfl ?_
  refine V_iconst (v := 1) rfl dX8_leastSet_85 kc_1 ?_
  refine V_isub rfl dX8_leastSet_86 ?_
  refine V_iload_n rfl dX8_leastSet_87 rfl rfl ?_
  refine V_iconst (v := 1) rfl dX8_leastSet_88 kc_1 ?_
  refine V_isub rfl dX8_leastSet_89 ?_
  refine V_iload rfl dX8_leastSet_90 rfl ?_
  refine V_iload rfl dX8_leastSet_92 rfl ?_
  refine V_aload_n rfl dX8_leastSet_94 rfl rfl ?_
  refine V_iload rfl dX8_leastSet_95 rfl ?_
  refine V_iload rfl dX8_leastSet_97 rfl ?_
  replace h := cl_e h
  obtain ⟨w18, M19, hc20, h⟩ := h
  refine V_ii (As := [.int _, .int _]) rfl dX8_leastSet_99 mf_X8_lacking ⟨w_1022, w_27⟩ w_1020 (by omega) (isShifts_0 h0) rfl rfl rfl rfl ⟨rfl, rfl⟩ (t_X8_lacking h0 hc20) ?_
  replace h := cl_e h
  obtain ⟨w21, M22, hc23, h⟩ := h
  refine V_ii (As := [.int _, .int _, .int _, .int _, .int _]) rfl dX8_leastSet_102 mf_X8_leastSet ⟨w_1030, w_28⟩ w_1028 (Nat.lt_succ_self _) (isShifts_0 h0) rfl rfl rfl rfl ⟨rfl, rfl⟩ (hqX8_leastSet h0 hc23) ?_
  cases h
  exact V_iret dX8_leastSet_105 rfl rfl (Nat.le_refl _) (Nat.le_refl _) qI_ok
def f_X8_leastSet_e (o0 : Nat) (qX8_leastSet : Nat → Int32 → Int32 → Int32 → Int32 → Int32 → IM → IR) (p1 : Int32) (p2 : Int32) (p3 : Int32) (p4 : Int32) (p5 : Int32) (M : IM) : IR := if p5 = 0 then some (p3, M) else if p2 ≤ 0 then some ((-1), M) else if (p1 + 1) < p2 then some ((-1), M) else cl (f_X8_longest o0 p1 M) fun w4 M5 => if p5 ≤ (p2 * w4) then lt (((1 : Int32) <<< (p1 &&& 31)) - 1) fun v8 => cl (f_X8_lacking o0 (p3 ||| v8) p4 M5) fun w9 M10 => if w9 = 0 then cl (qX8_leastSet o0 (p1 - 1) p2 p3 p4 p5 M10) fun w13 M14 => if w13 = (-1) then f_X8_leastSet_76 o0 qX8_leastSet p1 p2 p3 p4 M14 else some (w13, M14) else f_X8_leastSet_76 o0 qX8_leastSet p1 p2 p3 p4 M10 else some ((-1), M5)
set_option maxRecDepth 100000 in
set_option maxHeartbeats 4000000 in
theorem t_X8_leastSet_e {g : IG} {a : Nat → Nat} {R : Int32 × IM} {o0 : Nat} {qX8_leastSet : Nat → Int32 → Int32 → Int32 → Int32 → Int32 → IM → IR} {p1 : Int32} {p2 : Int32} {p3 : Int32} {p4 : Int32} {p5 : Int32} {M : IM} {d : Nat} (hD : 2 ≤ d) (h0 : isShifts o0) (hqX8_leastSet : ∀ {o0 : Nat} {p1 : Int32} {p2 : Int32} {p3 : Int32} {p4 : Int32} {p5 : Int32} {M : IM} {R : Int32 × IM}, isShifts o0 → qX8_leastSet o0 p1 p2 p3 p4 p5 M = some R → Cn g mX8_leastSet d 0 0 (qI S0 a R) [.ref (a o0), .int p1, .int p2, .int p3, .int p4, .int p5] a S0 M) (h : f_X8_leastSet_e o0 qX8_leastSet p1 p2 p3 p4 p5 M = some R) : Cn g mX8_leastSet (d + 1) 0 0 (qI S0 a R) [.ref (a o0), .int p1, .int p2, .int p3, .int p4, .int p5] a S0 M := by
  refine Cn_of (L := [some (.ref (a o0)), some (.int p1), some (.int p2), some (.int p3), some (.int p4), some (.int p5), none, none]) mf_X8_leastSet (cat_r (cat_i (cat_i (cat_i (cat_i (cat_i cat_0)))))) (Nat.le_of_ble_eq_true rfl) rfl ?_
  unfold f_X8_leastSet_e at h
  refine V_iload rfl dX8_leastSet_0 rfl ?_
  refine V_if_ne (t := 7) rfl rfl dX8_leastSet_2 (fun hc1 => ?_) (fun hc1 => ?_)
  · replace h := ifn hc1 h
    refine V_iload_n rfl dX8_leastSet_7 rfl rfl ?_
    refine V_if_le (t := 30) rfl rfl dX8_leastSet_8 (fun hc2 => ?_) (fun hc2 => ?_)
    · replace h := ifp hc2 h
      refine V_iconst (v := (-1)) rfl dX8_leastSet_30 kc_m1 ?_
      cases h
      exact V_iret dX8_leastSet_31 rfl rfl (Nat.le_refl _) (Nat.le_refl _) qI_ok
    · replace h := ifn hc2 h
      refine V_iload_n rfl dX8_leastSet_11 rfl rfl ?_
      refine V_iconst (v := 1) rfl dX8_leastSet_12 kc_1 ?_
      refine V_iadd rfl dX8_leastSet_13 ?_
      refine V_iload_n rfl dX8_leastSet_14 rfl rfl ?_
      refine V_icmp_lt (t := 30) rfl rfl dX8_leastSet_15 (fun hc3 => ?_) (fun hc3 => ?_)
      · replace h := ifp hc3 h
        refine V_iconst (v := (-1)) rfl dX8_leastSet_30 kc_m1 ?_
        cases h
        exact V_iret dX8_leastSet_31 rfl rfl (Nat.le_refl _) (Nat.le_refl _) qI_ok
      · replace h := ifn hc3 h
        refine V_iload rfl dX8_leastSet_18 rfl ?_
        refine V_iload_n rfl dX8_leastSet_20 rfl rfl ?_
        refine V_aload_n rfl dX8_leastSet_21 rfl rfl ?_
        refine V_iload_n rfl dX8_leastSet_22 rfl rfl ?_
        replace h := cl_e h
        obtain ⟨w4, M5, hc6, h⟩ := h
        refine V_ii (As := [.int _]) rfl dX8_leastSet_23 mf_X8_longest ⟨w_1034, w_29⟩ w_1032 (by omega) (isShifts_0 h0) rfl rfl rfl rfl ⟨rfl, rfl⟩ (t_X8_longest h0 hc6) ?_
        refine V_imul rfl dX8_leastSet_26 ?_
        refine V_icmp_le (t := 32) rfl rfl dX8_leastSet_27 (fun hc7 => ?_) (fun hc7 => ?_)
        · replace h := ifp hc7 h
          refine V_iconst (v := 1) rfl dX8_leastSet_32 kc_1 ?_
          refine V_iload_n rfl dX8_leastSet_33 rfl rfl ?_
          refine V_ishl rfl dX8_leastSet_34 ?_
          refine V_iconst (v := 1) rfl dX8_leastSet_35 kc_1 ?_
          refine V_isub rfl dX8_leastSet_36 ?_
          replace h := lt_e h
          refine V_istore (L' := [_, _, _, _, _, _, _, _]) rfl dX8_leastSet_37 (by decide) rfl ?_
          refine V_aload_n rfl dX8_leastSet_39 rfl rfl ?_
          refine V_iload_n rfl dX8_leastSet_40 rfl rfl ?_
          refine V_iload rfl dX8_leastSet_41 rfl ?_
          refine V_ior rfl dX8_leastSet_43 ?_
          refine V_iload rfl dX8_leastSet_44 rfl ?_
          replace h := cl_e h
          obtain ⟨w9, M10, hc11, h⟩ := h
          refine V_ii (As := [.int _, .int _]) rfl dX8_leastSet_46 mf_X8_lacking ⟨w_1022, w_27⟩ w_1020 (by omega) (isShifts_0 h0) rfl rfl rfl rfl ⟨rfl, rfl⟩ (t_X8_lacking h0 hc11) ?_
          refine V_if_ne (t := 76) rfl rfl dX8_leastSet_49 (fun hc12 => ?_) (fun hc12 => ?_)
          · replace h := ifn hc12 h
            exact V_sub (le_s (le_s (le_s (le_s (le_s (le_n (le_n (le_n le_0)))))))) (t_X8_leastSet_76 hD h0 hqX8_leastSet h)
          · replace h := ifp hc12 h
            refine V_aload_n rfl dX8_leastSet_52 rfl rfl ?_
            refine V_iload_n rfl dX8_leastSet_53 rfl rfl ?_
            refine V_iconst (v := 1) rfl dX8_leastSet_54 kc_1 ?_
            refine V_isub rfl dX8_leastSet_55 ?_
            refine V_iload_n rfl dX8_leastSet_56 rfl rfl ?_
            refine V_iload_n rfl dX8_leastSet_57 rfl rfl ?_
            refine V_iload rfl dX8_leastSet_58 rfl ?_
            refine V_iload rfl dX8_leastSet_60 rfl ?_
            replace h := cl_e h
            obtain ⟨w13, M14, hc15, h⟩ := h
            refine V_ii (As := [.int _, .int _, .int _, .int _, .int _]) rfl dX8_leastSet_62 mf_X8_leastSet ⟨w_1030, w_28⟩ w_1028 (Nat.lt_succ_self _) (isShifts_0 h0) rfl rfl rfl rfl ⟨rfl, rfl⟩ (hqX8_leastSet h0 hc15) ?_
            refine V_istore (L' := [_, _, _, _, _, _, _, _]) rfl dX8_leastSet_65 (by decide) rfl ?_
            refine V_iload rfl dX8_leastSet_67 rfl ?_
            refine V_iconst (v := (-1)) rfl dX8_leastSet_69 kc_m1 ?_
            refine V_icmp_eq (t := 76) rfl rfl dX8_leastSet_70 (fun hc16 => ?_) (fun hc16 => ?_)
            · replace h := ifp hc16 h
              exact V_sub (le_s (le_s (le_s (le_s (le_s (le_n (le_n (le_n le_0)))))))) (t_X8_leastSet_76 hD h0 hqX8_leastSet h)
            · replace h := ifn hc16 h
              refine V_iload rfl dX8_leastSet_73 rfl ?_
              cases h
              exact V_iret dX8_leastSet_75 rfl rfl (Nat.le_refl _) (Nat.le_refl _) qI_ok
        · replace h := ifn hc7 h
          refine V_iconst (v := (-1)) rfl dX8_leastSet_30 kc_m1 ?_
          cases h
          exact V_iret dX8_leastSet_31 rfl rfl (Nat.le_refl _) (Nat.le_refl _) qI_ok
  · replace h := ifp hc1 h
    refine V_iload_n rfl dX8_leastSet_5 rfl rfl ?_
    cases h
    exact V_iret dX8_leastSet_6 rfl rfl (Nat.le_refl _) (Nat.le_refl _) qI_ok
def fr_X8_leastSet : Nat → Nat → Int32 → Int32 → Int32 → Int32 → Int32 → IM → IR := itr (fun _ _ _ _ _ _ _ => none) (fun qX8_leastSet o0 => f_X8_leastSet_e o0 qX8_leastSet)
def f_X8_leastSet (o0 : Nat) (p1 : Int32) (p2 : Int32) (p3 : Int32) (p4 : Int32) (p5 : Int32) (M : IM) : IR := fr_X8_leastSet 19 o0 p1 p2 p3 p4 p5 M
theorem tr_X8_leastSet {g : IG} {a : Nat → Nat} (n : Nat) : ∀ {o0 : Nat} {p1 : Int32} {p2 : Int32} {p3 : Int32} {p4 : Int32} {p5 : Int32} {M : IM} {R : Int32 × IM}, isShifts o0 → fr_X8_leastSet n o0 p1 p2 p3 p4 p5 M = some R → Cn g mX8_leastSet (2 + n) 0 0 (qI S0 a R) [.ref (a o0), .int p1, .int p2, .int p3, .int p4, .int p5] a S0 M := by
  induction n with
  | zero => intro o0 p1 p2 p3 p4 p5 M R h0 h; exact absurd h (fun z => by cases z)
  | succ n ih => intro o0 p1 p2 p3 p4 p5 M R h0 h; exact t_X8_leastSet_e (qX8_leastSet := fr_X8_leastSet n) (d := 2 + n) (by omega) h0 ih h
theorem t_X8_leastSet {g : IG} {a : Nat → Nat} {R : Int32 × IM} {o0 : Nat} {p1 : Int32} {p2 : Int32} {p3 : Int32} {p4 : Int32} {p5 : Int32} {M : IM} (h0 : isShifts o0) (h : f_X8_leastSet o0 p1 p2 p3 p4 p5 M = some R) : Cn g mX8_leastSet 21 0 0 (qI S0 a R) [.ref (a o0), .int p1, .int p2, .int p3, .int p4, .int p5] a S0 M := tr_X8_leastSet 19 h0 h
-- X8_fewestLines: NeverHalted$Shifts.fewestLines(I)I
def f_X8_fewestLines_20_b (o0 : Nat) (r20 : Int32 → Int32 → IM → IR) (x1 : Int32) (x2 : Int32) (M : IM) : IR := if (M o0 0) < x2 then some ((-1), M) else cl (f_X8_leastSet o0 ((M o0 0) - 1) x2 0 x1 (24 * x1) M) fun w6 M7 => if w6 = (-1) then lt (x2 + 1) fun v10 => r20 x1 v10 M7 else some (w6, M7)
def f_X8_fewestLines_20 (o0 : Nat) (n : Nat) : Int32 → Int32 → IM → IR := itr (fun _ _ _ => none) (f_X8_fewestLines_20_b o0) n
set_option maxRecDepth 100000 in
set_option maxHeartbeats 4000000 in
theorem t_X8_fewestLines_20 {g : IG} {a : Nat → Nat} {R : Int32 × IM} {o0 : Nat} (h0 : isShifts o0) (n : Nat) : ∀ (x1 : Int32) (x2 : Int32) (M : IM), f_X8_fewestLines_20 o0 n x1 x2 M = some R → V g mX8_fewestLines 22 0 0 (qI S0 a R) 20 [some (.ref (a o0)), some (.int x1), some (.int x2), none] [] a S0 M 0 0 := by
  induction n with
  | zero => intro x1 x2 M h; exact absurd h (fun z => by cases z)
  | succ n hr20 =>
    intro x1 x2 M h
    replace h : f_X8_fewestLines_20_b o0 (f_X8_fewestLines_20 o0 n) x1 x2 M = some R := h
    unfold f_X8_fewestLines_20_b at h
    refine V_iload_n rfl dX8_fewestLines_20 rfl rfl ?_
    refine V_aload_n rfl dX8_fewestLines_21 rfl rfl ?_
    refine V_geti (k0 := 0) rfl dX8_fewestLines_22 (isShifts_0 h0) icX8 (by decide) rfl w_324 ?_
    refine V_icmp_gt (t := 59) rfl rfl dX8_fewestLines_25 (fun hc5 => ?_) (fun hc5 => ?_)
    · replace h := ifp hc5 h
      refine V_iconst (v := (-1)) rfl dX8_fewestLines_59 kc_m1 ?_
      cases h
      exact V_iret dX8_fewestLines_60 rfl rfl (Nat.le_refl _) (Nat.le_refl _) qI_ok
    · replace h := ifn hc5 h
      refine V_aload_n rfl dX8_fewestLines_28 rfl rfl ?_
      refine V_aload_n rfl dX8_fewestLines_29 rfl rfl ?_
      refine V_geti (k0 := 0) rfl dX8_fewestLines_30 (isShifts_0 h0) icX8 (by decide) rfl w_324 ?_
      refine V_iconst (v := 1) rfl dX8_fewestLines_33 kc_1 ?_
      refine V_isub rfl dX8_fewestLines_34 ?_
      refine V_iload_n rfl dX8_fewestLines_35 rfl rfl ?_
      refine V_iconst (v := 0) rfl dX8_fewestLines_36 kc_0 ?_
      refine V_iload_n rfl dX8_fewestLines_37 rfl rfl ?_
      refine V_bipush (v := 24) rfl dX8_fewestLines_38 kb_24 ?_
      refine V_iload_n rfl dX8_fewestLines_40 rfl rfl ?_
      refine V_imul rfl dX8_fewestLines_41 ?_
      replace h := cl_e h
      obtain ⟨w6, M7, hc8, h⟩ := h
      refine V_ii (As := [.int _, .int _, .int _, .int _, .int _]) rfl dX8_fewestLines_42 mf_X8_leastSet ⟨w_1030, w_28⟩ w_1028 (by decide) (isShifts_0 h0) rfl rfl rfl rfl ⟨rfl, rfl⟩ (t_X8_leastSet h0 hc8) ?_
      refine V_istore_n (L' := [_, _, _, _]) rfl rfl dX8_fewestLines_45 (by decide) rfl ?_
      refine V_iload_n rfl dX8_fewestLines_46 rfl rfl ?_
      refine V_iconst (v := (-1)) rfl dX8_fewestLines_47 kc_m1 ?_
      refine V_icmp_eq (t := 53) rfl rfl dX8_fewestLines_48 (fun hc9 => ?_) (fun hc9 => ?_)
      · replace h := ifp hc9 h
        replace h := lt_e h
        refine V_inc (L' := [_, _, _, _]) rfl dX8_fewestLines_53 rfl kc_1 (by decide) rfl ?_
        refine V_goto (t := 20) rfl dX8_fewestLines_56 ?_
        exact V_sub (le_s (le_s (le_s (le_n le_0)))) (hr20 _ _ _ h)
      · replace h := ifn hc9 h
        refine V_iload_n rfl dX8_fewestLines_51 rfl rfl ?_
        cases h
        exact V_iret dX8_fewestLines_52 rfl rfl (Nat.le_refl _) (Nat.le_refl _) qI_ok
def f_X8_fewestLines (o0 : Nat) (p1 : Int32) (M : IM) : IR := cl (f_X8_lacking o0 (((1 : Int32) <<< ((M o0 0) &&& 31)) - 1) p1 M) fun w1 M2 => if w1 ≤ 0 then f_X8_fewestLines_20 o0 BG p1 0 M2 else some ((-1), M2)
set_option maxRecDepth 100000 in
set_option maxHeartbeats 4000000 in
theorem t_X8_fewestLines {g : IG} {a : Nat → Nat} {R : Int32 × IM} {o0 : Nat} {p1 : Int32} {M : IM} (h0 : isShifts o0) (h : f_X8_fewestLines o0 p1 M = some R) : Cn g mX8_fewestLines 22 0 0 (qI S0 a R) [.ref (a o0), .int p1] a S0 M := by
  refine Cn_of (L := [some (.ref (a o0)), some (.int p1), none, none]) mf_X8_fewestLines (cat_r (cat_i cat_0)) (Nat.le_of_ble_eq_true rfl) rfl ?_
  unfold f_X8_fewestLines at h
  refine V_aload_n rfl dX8_fewestLines_0 rfl rfl ?_
  refine V_iconst (v := 1) rfl dX8_fewestLines_1 kc_1 ?_
  refine V_aload_n rfl dX8_fewestLines_2 rfl rfl ?_
  refine V_geti (k0 := 0) rfl dX8_fewestLines_3 (isShifts_0 h0) icX8 (by decide) rfl w_324 ?_
  refine V_ishl rfl dX8_fewestLines_6 ?_
  refine V_iconst (v := 1) rfl dX8_fewestLines_7 kc_1 ?_
  refine V_isub rfl dX8_fewestLines_8 ?_
  refine V_iload_n rfl dX8_fewestLines_9 rfl rfl ?_
  replace h := cl_e h
  obtain ⟨w1, M2, hc3, h⟩ := h
  refine V_ii (As := [.int _, .int _]) rfl dX8_fewestLines_10 mf_X8_lacking ⟨w_1022, w_27⟩ w_1020 (by decide) (isShifts_0 h0) rfl rfl rfl rfl ⟨rfl, rfl⟩ (t_X8_lacking h0 hc3) ?_
  refine V_if_le (t := 18) rfl rfl dX8_fewestLines_13 (fun hc4 => ?_) (fun hc4 => ?_)
  · replace h := ifp hc4 h
    refine V_iconst (v := 0) rfl dX8_fewestLines_18 kc_0 ?_
    refine V_istore_n (L' := [_, _, _, _]) rfl rfl dX8_fewestLines_19 (by decide) rfl ?_
    exact V_sub (le_s (le_s (le_s (le_n le_0)))) (t_X8_fewestLines_20 h0 BG _ _ _ h)
  · replace h := ifn hc4 h
    refine V_iconst (v := (-1)) rfl dX8_fewestLines_16 kc_m1 ?_
    cases h
    exact V_iret dX8_fewestLines_17 rfl rfl (Nat.le_refl _) (Nat.le_refl _) qI_ok
-- X11_cover: NeverHalted.cover(I)I
def f_X11_cover (p1 : Int32) (M : IM) : IR := cl (f_X11_within p1 0 1 M) fun w1 M2 => if w1 = 0 then some ((-1), M2) else cl (f_X8_fewestLines 25 (M2 6 0) M2) fun w5 M6 => if p1 = 0 then if w5 = (-1) then some (w5, M6) else cl (f_J6_bitCount_0f7a4 w5 M6) fun w10 M11 => some (w10, M11) else some (w5, M6)
set_option maxRecDepth 100000 in
set_option maxHeartbeats 4000000 in
theorem t_X11_cover {g : IG} {a : Nat → Nat} {R : Int32 × IM} {p1 : Int32} {M : IM} (h : f_X11_cover p1 M = some R) : Cn g mX11_cover 23 0 0 (qI S0 a R) [.ref (a 0), .int p1] a S0 M := by
  refine Cn_of (L := [some (.ref (a 0)), some (.int p1), none]) mf_X11_cover (cat_r (cat_i cat_0)) (Nat.le_of_ble_eq_true rfl) rfl ?_
  unfold f_X11_cover at h
  refine V_iload_n rfl dX11_cover_0 rfl rfl ?_
  refine V_iconst (v := 0) rfl dX11_cover_1 kc_0 ?_
  refine V_iconst (v := 1) rfl dX11_cover_2 kc_1 ?_
  replace h := cl_e h
  obtain ⟨w1, M2, hc3, h⟩ := h
  refine V_si (As := [.int _, .int _, .int _]) rfl dX11_cover_3 mf_X11_within w_594 w_593 (by decide) rfl rfl rfl ⟨rfl, rfl⟩ (t_X11_within hc3) ?_
  refine V_if_ne (t := 11) rfl rfl dX11_cover_6 (fun hc4 => ?_) (fun hc4 => ?_)
  · replace h := ifn hc4 h
    refine V_aload_n rfl dX11_cover_11 rfl rfl ?_
    refine V_getr (k0 := 1) rfl dX11_cover_12 s0_0 icX11 (by decide) rfl w_524 ?_
    refine V_getr (k0 := 7) rfl dX11_cover_15 s0_6 icX9 (by decide) rfl w_357 ?_
    refine V_aload_n rfl dX11_cover_18 rfl rfl ?_
    refine V_getr (k0 := 1) rfl dX11_cover_19 s0_0 icX11 (by decide) rfl w_524 ?_
    refine V_geti (k0 := 0) rfl dX11_cover_22 s0_6 icX9 (by decide) rfl w_343 ?_
    replace h := cl_e h
    obtain ⟨w5, M6, hc7, h⟩ := h
    refine V_ii (As := [.int _]) rfl dX11_cover_25 mf_X8_fewestLines ⟨w_1017, w_1018⟩ w_1016 (by decide) s0_25 rfl rfl rfl rfl ⟨rfl, rfl⟩ (t_X8_fewestLines isShifts_at25 hc7) ?_
    refine V_istore_n (L' := [_, _, _]) rfl rfl dX11_cover_28 (by decide) rfl ?_
    refine V_iload_n rfl dX11_cover_29 rfl rfl ?_
    refine V_if_ne (t := 45) rfl rfl dX11_cover_30 (fun hc8 => ?_) (fun hc8 => ?_)
    · replace h := ifn hc8 h
      refine V_iload_n rfl dX11_cover_45 rfl rfl ?_
      cases h
      exact V_iret dX11_cover_46 rfl rfl (Nat.le_refl _) (Nat.le_refl _) qI_ok
    · replace h := ifp hc8 h
      refine V_iload_n rfl dX11_cover_33 rfl rfl ?_
      refine V_iconst (v := (-1)) rfl dX11_cover_34 kc_m1 ?_
      refine V_icmp_eq (t := 45) rfl rfl dX11_cover_35 (fun hc9 => ?_) (fun hc9 => ?_)
      · replace h := ifp hc9 h
        refine V_iload_n rfl dX11_cover_45 rfl rfl ?_
        cases h
        exact V_iret dX11_cover_46 rfl rfl (Nat.le_refl _) (Nat.le_refl _) qI_ok
      · replace h := ifn hc9 h
        refine V_iload_n rfl dX11_cover_38 rfl rfl ?_
        replace h := cl_e h
        obtain ⟨w10, M11, hc12, h⟩ := h
        refine V_si (As := [.int _]) rfl dX11_cover_39 mf_J6_bitCount_0f7a4 w_888 w_887 (by decide) rfl rfl rfl ⟨rfl, rfl⟩ (t_J6_bitCount_0f7a4 hc12) ?_
        refine V_goto (t := 46) rfl dX11_cover_42 ?_
        cases h
        exact V_iret dX11_cover_46 rfl rfl (Nat.le_refl _) (Nat.le_refl _) qI_ok
  · replace h := ifp hc4 h
    refine V_iconst (v := (-1)) rfl dX11_cover_9 kc_m1 ?_
    cases h
    exact V_iret dX11_cover_10 rfl rfl (Nat.le_refl _) (Nat.le_refl _) qI_ok
-- X10_begin: NeverHalted$WatchPlan.begin(I)V
def f_X10_begin (p1 : Int32) (M : IM) : IR := pt M 127 2 p1 fun M1 => some (0, M1)
set_option maxRecDepth 100000 in
set_option maxHeartbeats 4000000 in
theorem t_X10_begin {g : IG} {a : Nat → Nat} {R : Int32 × IM} {p1 : Int32} {M : IM} (h : f_X10_begin p1 M = some R) : Cn g mX10_begin 1 0 0 (qV S0 a R) [.ref (a 127), .int p1] a S0 M := by
  refine Cn_of (L := [some (.ref (a 127)), some (.int p1)]) mf_X10_begin (cat_r (cat_i cat_0)) (Nat.le_of_ble_eq_true rfl) rfl ?_
  unfold f_X10_begin at h
  refine V_aload_n rfl dX10_begin_0 rfl rfl ?_
  refine V_iload_n rfl dX10_begin_1 rfl rfl ?_
  replace h := pt_e h
  refine V_putf (k0 := 2) (ty := .int) rfl dX10_begin_2 s0_127 icX10 tyX10_ok nmX10 (by decide) rfl w_476 rfl (tyX10_ok _ (by decide)) rfl rfl ?_
  cases h
  exact V_vret dX10_begin_5 rfl (Nat.le_refl _) (Nat.le_refl _) qV_ok
-- X10_price: NeverHalted$WatchPlan.price(III)V
def f_X10_price_78 (x1 : Int32) (x4 : Int32) (x5 : Int32) (M : IM) : IR := wr M 130 40 (x4 + x5) x1 fun M15 => some (0, M15)
set_option maxRecDepth 100000 in
set_option maxHeartbeats 4000000 in
theorem t_X10_price_78 {g : IG} {a : Nat → Nat} {R : Int32 × IM} {x1 : Int32} {x4 : Int32} {x5 : Int32} {M : IM} (h : f_X10_price_78 x1 x4 x5 M = some R) : V g mX10_price 1 0 0 (qV S0 a R) 78 [some (.ref (a 127)), some (.int x1), none, none, some (.int x4), some (.int x5)] [] a S0 M 0 0 := by
  unfold f_X10_price_78 at h
  refine V_aload_n rfl dX10_price_78 rfl rfl ?_
  refine V_getr (k0 := 4) rfl dX10_price_79 s0_127 icX10 (by decide) rfl w_478 ?_
  refine V_iload rfl dX10_price_82 rfl ?_
  refine V_iload rfl dX10_price_84 rfl ?_
  refine V_iadd rfl dX10_price_86 ?_
  refine V_iload_n rfl dX10_price_87 rfl rfl ?_
  replace h := wr_e h
  obtain ⟨hb16, h⟩ := h
  refine V_iast rfl dX10_price_88 s0_130 hb16 ?_
  cases h
  exact V_vret dX10_price_89 rfl (Nat.le_refl _) (Nat.le_refl _) qV_ok
def f_X10_price_20_b (r20 : Int32 → Int32 → Int32 → Int32 → Int32 → IM → IR) (x1 : Int32) (x2 : Int32) (x3 : Int32) (x4 : Int32) (x5 : Int32) (M : IM) : IR := if x5 ≤ 0 then f_X10_price_78 x1 x4 x5 M else rd M 130 40 ((x4 + x5) - 1) fun v5 => rd M 129 40 ((v5 * 4) + x2) fun v7 => if v7 ≤ x3 then f_X10_price_78 x1 x4 x5 M else rd M 130 40 ((x4 + x5) - 1) fun v10 => wr M 130 40 (x4 + x5) v10 fun M12 => lt (x5 + (-1)) fun v14 => r20 x1 x2 x3 x4 v14 M12
def f_X10_price_20 (n : Nat) : Int32 → Int32 → Int32 → Int32 → Int32 → IM → IR := itr (fun _ _ _ _ _ _ => none) (f_X10_price_20_b) n
set_option maxRecDepth 100000 in
set_option maxHeartbeats 4000000 in
theorem t_X10_price_20 {g : IG} {a : Nat → Nat} {R : Int32 × IM} (n : Nat) : ∀ (x1 : Int32) (x2 : Int32) (x3 : Int32) (x4 : Int32) (x5 : Int32) (M : IM), f_X10_price_20 n x1 x2 x3 x4 x5 M = some R → V g mX10_price 1 0 0 (qV S0 a R) 20 [some (.ref (a 127)), some (.int x1), some (.int x2), some (.int x3), some (.int x4), some (.int x5)] [] a S0 M 0 0 := by
  induction n with
  | zero => intro x1 x2 x3 x4 x5 M h; exact absurd h (fun z => by cases z)
  | succ n hr20 =>
    intro x1 x2 x3 x4 x5 M h
    replace h : f_X10_price_20_b (f_X10_price_20 n) x1 x2 x3 x4 x5 M = some R := h
    unfold f_X10_price_20_b at h
    refine V_iload rfl dX10_price_20 rfl ?_
    refine V_if_le (t := 78) rfl rfl dX10_price_22 (fun hc4 => ?_) (fun hc4 => ?_)
    · replace h := ifp hc4 h
      exact V_sub (le_s (le_s (le_n (le_n (le_s (le_s le_0)))))) (t_X10_price_78 h)
    · replace h := ifn hc4 h
      refine V_aload_n rfl dX10_price_25 rfl rfl ?_
      refine V_getr (k0 := 3) rfl dX10_price_26 s0_127 icX10 (by decide) rfl w_477 ?_
      refine V_aload_n rfl dX10_price_29 rfl rfl ?_
      refine V_getr (k0 := 4) rfl dX10_price_30 s0_127 icX10 (by decide) rfl w_478 ?_
      refine V_iload rfl dX10_price_33 rfl ?_
      refine V_iload rfl dX10_price_35 rfl ?_
      refine V_iadd rfl dX10_price_37 ?_
      refine V_iconst (v := 1) rfl dX10_price_38 kc_1 ?_
      refine V_isub rfl dX10_price_39 ?_
      replace h := rd_e h
      obtain ⟨hb6, h⟩ := h
      refine V_iald rfl dX10_price_40 s0_130 hb6 ?_
      refine V_iconst (v := 4) rfl dX10_price_41 kc_4 ?_
      refine V_imul rfl dX10_price_42 ?_
      refine V_iload_n rfl dX10_price_43 rfl rfl ?_
      refine V_iadd rfl dX10_price_44 ?_
      replace h := rd_e h
      obtain ⟨hb8, h⟩ := h
      refine V_iald rfl dX10_price_45 s0_129 hb8 ?_
      refine V_iload_n rfl dX10_price_46 rfl rfl ?_
      refine V_icmp_le (t := 78) rfl rfl dX10_price_47 (fun hc9 => ?_) (fun hc9 => ?_)
      · replace h := ifp hc9 h
        exact V_sub (le_s (le_s (le_n (le_n (le_s (le_s le_0)))))) (t_X10_price_78 h)
      · replace h := ifn hc9 h
        refine V_aload_n rfl dX10_price_50 rfl rfl ?_
        refine V_getr (k0 := 4) rfl dX10_price_51 s0_127 icX10 (by decide) rfl w_478 ?_
        refine V_iload rfl dX10_price_54 rfl ?_
        refine V_iload rfl dX10_price_56 rfl ?_
        refine V_iadd rfl dX10_price_58 ?_
        refine V_aload_n rfl dX10_price_59 rfl rfl ?_
        refine V_getr (k0 := 4) rfl dX10_price_60 s0_127 icX10 (by decide) rfl w_478 ?_
        refine V_iload rfl dX10_price_63 rfl ?_
        refine V_iload rfl dX10_price_65 rfl ?_
        refine V_iadd rfl dX10_price_67 ?_
        refine V_iconst (v := 1) rfl dX10_price_68 kc_1 ?_
        refine V_isub rfl dX10_price_69 ?_
        replace h := rd_e h
        obtain ⟨hb11, h⟩ := h
        refine V_iald rfl dX10_price_70 s0_130 hb11 ?_
        replace h := wr_e h
        obtain ⟨hb13, h⟩ := h
        refine V_iast rfl dX10_price_71 s0_130 hb13 ?_
        replace h := lt_e h
        refine V_inc (L' := [_, _, _, _, _, _]) rfl dX10_price_72 rfl kc_m1 (by decide) rfl ?_
        refine V_goto (t := 20) rfl dX10_price_75 ?_
        exact V_sub (le_s (le_s (le_s (le_s (le_s (le_s le_0)))))) (hr20 _ _ _ _ _ _ h)
def f_X10_price (p1 : Int32) (p2 : Int32) (p3 : Int32) (M : IM) : IR := wr M 129 40 ((p1 * 4) + p2) p3 fun M1 => lt (p2 * 10) fun v3 => f_X10_price_20 BG p1 p2 p3 v3 p1 M1
set_option maxRecDepth 100000 in
set_option maxHeartbeats 4000000 in
theorem t_X10_price {g : IG} {a : Nat → Nat} {R : Int32 × IM} {p1 : Int32} {p2 : Int32} {p3 : Int32} {M : IM} (h : f_X10_price p1 p2 p3 M = some R) : Cn g mX10_price 1 0 0 (qV S0 a R) [.ref (a 127), .int p1, .int p2, .int p3] a S0 M := by
  refine Cn_of (L := [some (.ref (a 127)), some (.int p1), some (.int p2), some (.int p3), none, none]) mf_X10_price (cat_r (cat_i (cat_i (cat_i cat_0)))) (Nat.le_of_ble_eq_true rfl) rfl ?_
  unfold f_X10_price at h
  refine V_aload_n rfl dX10_price_0 rfl rfl ?_
  refine V_getr (k0 := 3) rfl dX10_price_1 s0_127 icX10 (by decide) rfl w_477 ?_
  refine V_iload_n rfl dX10_price_4 rfl rfl ?_
  refine V_iconst (v := 4) rfl dX10_price_5 kc_4 ?_
  refine V_imul rfl dX10_price_6 ?_
  refine V_iload_n rfl dX10_price_7 rfl rfl ?_
  refine V_iadd rfl dX10_price_8 ?_
  refine V_iload_n rfl dX10_price_9 rfl rfl ?_
  replace h := wr_e h
  obtain ⟨hb2, h⟩ := h
  refine V_iast rfl dX10_price_10 s0_129 hb2 ?_
  refine V_iload_n rfl dX10_price_11 rfl rfl ?_
  refine V_bipush (v := 10) rfl dX10_price_12 kb_10 ?_
  refine V_imul rfl dX10_price_14 ?_
  replace h := lt_e h
  refine V_istore (L' := [_, _, _, _, _, _]) rfl dX10_price_15 (by decide) rfl ?_
  refine V_iload_n rfl dX10_price_17 rfl rfl ?_
  refine V_istore (L' := [_, _, _, _, _, _]) rfl dX10_price_18 (by decide) rfl ?_
  exact V_sub (le_s (le_s (le_s (le_s (le_s (le_s le_0)))))) (t_X10_price_20 BG _ _ _ _ _ _ h)
-- X10_sumWith: NeverHalted$WatchPlan.sumWith(III)I
def f_X10_sumWith_111 (r6 : Int32 → Int32 → Int32 → Int32 → Int32 → IM → IR) (x1 : Int32) (x2 : Int32) (x3 : Int32) (x4 : Int32) (x5 : Int32) (x7 : Int32) (M : IM) : IR := if 0 < x7 then some (x3, M) else if x4 < x3 then lt (x5 + 1) fun v20 => r6 x1 x2 x3 x4 v20 M else some (x3, M)
set_option maxRecDepth 100000 in
set_option maxHeartbeats 4000000 in
theorem t_X10_sumWith_111 {g : IG} {a : Nat → Nat} {R : Int32 × IM} {r6 : Int32 → Int32 → Int32 → Int32 → Int32 → IM → IR} {x1 : Int32} {x2 : Int32} {x3 : Int32} {x4 : Int32} {x5 : Int32} {x7 : Int32} {M : IM} (hr6 : ∀ (x1 : Int32) (x2 : Int32) (x3 : Int32) (x4 : Int32) (x5 : Int32) (M : IM), r6 x1 x2 x3 x4 x5 M = some R → V g mX10_sumWith 1 0 0 (qI S0 a R) 6 [some (.ref (a 127)), some (.int x1), some (.int x2), some (.int x3), some (.int x4), some (.int x5), none, none, none, none] [] a S0 M 0 0) (h : f_X10_sumWith_111 r6 x1 x2 x3 x4 x5 x7 M = some R) : V g mX10_sumWith 1 0 0 (qI S0 a R) 111 [some (.ref (a 127)), some (.int x1), some (.int x2), some (.int x3), some (.int x4), some (.int x5), none, some (.int x7), none, none] [] a S0 M 0 0 := by
  unfold f_X10_sumWith_111 at h
  refine V_iload rfl dX10_sumWith_111 rfl ?_
  refine V_if_gt (t := 122) rfl rfl dX10_sumWith_113 (fun hc18 => ?_) (fun hc18 => ?_)
  · replace h := ifp hc18 h
    refine V_iload_n rfl dX10_sumWith_122 rfl rfl ?_
    cases h
    exact V_iret dX10_sumWith_123 rfl rfl (Nat.le_refl _) (Nat.le_refl _) qI_ok
  · replace h := ifn hc18 h
    refine V_iload rfl dX10_sumWith_116 rfl ?_
    refine V_iload_n rfl dX10_sumWith_118 rfl rfl ?_
    refine V_icmp_lt (t := 124) rfl rfl dX10_sumWith_119 (fun hc19 => ?_) (fun hc19 => ?_)
    · replace h := ifp hc19 h
      replace h := lt_e h
      refine V_inc (L' := [_, _, _, _, _, _, _, _, _, _]) rfl dX10_sumWith_124 rfl kc_1 (by decide) rfl ?_
      refine V_goto (t := 6) rfl dX10_sumWith_127 ?_
      exact V_sub (le_s (le_s (le_s (le_s (le_s (le_s (le_n (le_n (le_n (le_n le_0)))))))))) (hr6 _ _ _ _ _ _ h)
    · replace h := ifn hc19 h
      refine V_iload_n rfl dX10_sumWith_122 rfl rfl ?_
      cases h
      exact V_iret dX10_sumWith_123 rfl rfl (Nat.le_refl _) (Nat.le_refl _) qI_ok
def f_X10_sumWith_40_b (r6 : Int32 → Int32 → Int32 → Int32 → Int32 → IM → IR) (r40 : Int32 → Int32 → Int32 → Int32 → Int32 → Int32 → Int32 → Int32 → IM → IR) (x1 : Int32) (x2 : Int32) (x3 : Int32) (x4 : Int32) (x5 : Int32) (x6 : Int32) (x7 : Int32) (x8 : Int32) (M : IM) : IR := if (M 127 2) ≤ x8 then f_X10_sumWith_111 r6 x1 x2 x3 x4 x5 x7 M else if x7 ≤ 0 then f_X10_sumWith_111 r6 x1 x2 x3 x4 x5 x7 M else rd M 130 40 ((x5 * 10) + x8) fun v7 => if v7 < x1 then lt (x8 + 1) fun v10 => r40 x1 x2 x3 x4 x5 x6 x7 v10 M else if ((x6 >>> (v7 &&& 31)) &&& 1) = 0 then lt (x8 + 1) fun v12 => r40 x1 x2 x3 x4 x5 x6 x7 v12 M else rd M 129 40 ((v7 * 4) + x5) fun v13 => lt (x4 + v13) fun v15 => lt (x7 + (-1)) fun v16 => lt (x8 + 1) fun v17 => r40 x1 x2 x3 v15 x5 x6 v16 v17 M
def f_X10_sumWith_40 (r6 : Int32 → Int32 → Int32 → Int32 → Int32 → IM → IR) (n : Nat) : Int32 → Int32 → Int32 → Int32 → Int32 → Int32 → Int32 → Int32 → IM → IR := itr (fun _ _ _ _ _ _ _ _ _ => none) (f_X10_sumWith_40_b r6) n
set_option maxRecDepth 100000 in
set_option maxHeartbeats 4000000 in
theorem t_X10_sumWith_40 {g : IG} {a : Nat → Nat} {R : Int32 × IM} {r6 : Int32 → Int32 → Int32 → Int32 → Int32 → IM → IR} (hr6 : ∀ (x1 : Int32) (x2 : Int32) (x3 : Int32) (x4 : Int32) (x5 : Int32) (M : IM), r6 x1 x2 x3 x4 x5 M = some R → V g mX10_sumWith 1 0 0 (qI S0 a R) 6 [some (.ref (a 127)), some (.int x1), some (.int x2), some (.int x3), some (.int x4), some (.int x5), none, none, none, none] [] a S0 M 0 0) (n : Nat) : ∀ (x1 : Int32) (x2 : Int32) (x3 : Int32) (x4 : Int32) (x5 : Int32) (x6 : Int32) (x7 : Int32) (x8 : Int32) (M : IM), f_X10_sumWith_40 r6 n x1 x2 x3 x4 x5 x6 x7 x8 M = some R → V g mX10_sumWith 1 0 0 (qI S0 a R) 40 [some (.ref (a 127)), some (.int x1), some (.int x2), some (.int x3), some (.int x4), some (.int x5), some (.int x6), some (.int x7), some (.int x8), none] [] a S0 M 0 0 := by
  induction n with
  | zero => intro x1 x2 x3 x4 x5 x6 x7 x8 M h; exact absurd h (fun z => by cases z)
  | succ n hr40 =>
    intro x1 x2 x3 x4 x5 x6 x7 x8 M h
    replace h : f_X10_sumWith_40_b r6 (f_X10_sumWith_40 r6 n) x1 x2 x3 x4 x5 x6 x7 x8 M = some R := h
    unfold f_X10_sumWith_40_b at h
    refine V_iload rfl dX10_sumWith_40 rfl ?_
    refine V_aload_n rfl dX10_sumWith_42 rfl rfl ?_
    refine V_geti (k0 := 2) rfl dX10_sumWith_43 s0_127 icX10 (by decide) rfl w_476 ?_
    refine V_icmp_ge (t := 111) rfl rfl dX10_sumWith_46 (fun hc5 => ?_) (fun hc5 => ?_)
    · replace h := ifp hc5 h
      exact V_sub (le_s (le_s (le_s (le_s (le_s (le_s (le_n (le_s (le_n (le_n le_0)))))))))) (t_X10_sumWith_111 hr6 h)
    · replace h := ifn hc5 h
      refine V_iload rfl dX10_sumWith_49 rfl ?_
      refine V_if_le (t := 111) rfl rfl dX10_sumWith_51 (fun hc6 => ?_) (fun hc6 => ?_)
      · replace h := ifp hc6 h
        exact V_sub (le_s (le_s (le_s (le_s (le_s (le_s (le_n (le_s (le_n (le_n le_0)))))))))) (t_X10_sumWith_111 hr6 h)
      · replace h := ifn hc6 h
        refine V_aload_n rfl dX10_sumWith_54 rfl rfl ?_
        refine V_getr (k0 := 4) rfl dX10_sumWith_55 s0_127 icX10 (by decide) rfl w_478 ?_
        refine V_iload rfl dX10_sumWith_58 rfl ?_
        refine V_bipush (v := 10) rfl dX10_sumWith_60 kb_10 ?_
        refine V_imul rfl dX10_sumWith_62 ?_
        refine V_iload rfl dX10_sumWith_63 rfl ?_
        refine V_iadd rfl dX10_sumWith_65 ?_
        replace h := rd_e h
        obtain ⟨hb8, h⟩ := h
        refine V_iald rfl dX10_sumWith_66 s0_130 hb8 ?_
        refine V_istore (L' := [_, _, _, _, _, _, _, _, _, _]) rfl dX10_sumWith_67 (by decide) rfl ?_
        refine V_iload rfl dX10_sumWith_69 rfl ?_
        refine V_iload_n rfl dX10_sumWith_71 rfl rfl ?_
        refine V_icmp_lt (t := 105) rfl rfl dX10_sumWith_72 (fun hc9 => ?_) (fun hc9 => ?_)
        · replace h := ifp hc9 h
          replace h := lt_e h
          refine V_inc (L' := [_, _, _, _, _, _, _, _, _, _]) rfl dX10_sumWith_105 rfl kc_1 (by decide) rfl ?_
          refine V_goto (t := 40) rfl dX10_sumWith_108 ?_
          exact V_sub (le_s (le_s (le_s (le_s (le_s (le_s (le_s (le_s (le_s (le_n le_0)))))))))) (hr40 _ _ _ _ _ _ _ _ _ h)
        · replace h := ifn hc9 h
          refine V_iload rfl dX10_sumWith_75 rfl ?_
          refine V_iload rfl dX10_sumWith_77 rfl ?_
          refine V_ishr rfl dX10_sumWith_79 ?_
          refine V_iconst (v := 1) rfl dX10_sumWith_80 kc_1 ?_
          refine V_iand rfl dX10_sumWith_81 ?_
          refine V_if_eq (t := 105) rfl rfl dX10_sumWith_82 (fun hc11 => ?_) (fun hc11 => ?_)
          · replace h := ifp hc11 h
            replace h := lt_e h
            refine V_inc (L' := [_, _, _, _, _, _, _, _, _, _]) rfl dX10_sumWith_105 rfl kc_1 (by decide) rfl ?_
            refine V_goto (t := 40) rfl dX10_sumWith_108 ?_
            exact V_sub (le_s (le_s (le_s (le_s (le_s (le_s (le_s (le_s (le_s (le_n le_0)))))))))) (hr40 _ _ _ _ _ _ _ _ _ h)
          · replace h := ifn hc11 h
            refine V_iload rfl dX10_sumWith_85 rfl ?_
            refine V_aload_n rfl dX10_sumWith_87 rfl rfl ?_
            refine V_getr (k0 := 3) rfl dX10_sumWith_88 s0_127 icX10 (by decide) rfl w_477 ?_
            refine V_iload rfl dX10_sumWith_91 rfl ?_
            refine V_iconst (v := 4) rfl dX10_sumWith_93 kc_4 ?_
            refine V_imul rfl dX10_sumWith_94 ?_
            refine V_iload rfl dX10_sumWith_95 rfl ?_
            refine V_iadd rfl dX10_sumWith_97 ?_
            replace h := rd_e h
            obtain ⟨hb14, h⟩ := h
            refine V_iald rfl dX10_sumWith_98 s0_129 hb14 ?_
            refine V_iadd rfl dX10_sumWith_99 ?_
            replace h := lt_e h
            refine V_istore (L' := [_, _, _, _, _, _, _, _, _, _]) rfl dX10_sumWith_100 (by decide) rfl ?_
            replace h := lt_e h
            refine V_inc (L' := [_, _, _, _, _, _, _, _, _, _]) rfl dX10_sumWith_102 rfl kc_m1 (by decide) rfl ?_
            replace h := lt_e h
            refine V_inc (L' := [_, _, _, _, _, _, _, _, _, _]) rfl dX10_sumWith_105 rfl kc_1 (by decide) rfl ?_
            refine V_goto (t := 40) rfl dX10_sumWith_108 ?_
            exact V_sub (le_s (le_s (le_s (le_s (le_s (le_s (le_s (le_s (le_s (le_n le_0)))))))))) (hr40 _ _ _ _ _ _ _ _ _ h)
def f_X10_sumWith_26 (r6 : Int32 → Int32 → Int32 → Int32 → Int32 → IM → IR) (x1 : Int32) (x2 : Int32) (x3 : Int32) (x4 : Int32) (x5 : Int32) (y0 : Int32) (M : IM) : IR := rd M 131 4 x5 fun v3 => f_X10_sumWith_40 r6 BG x1 x2 x3 x4 x5 y0 v3 0 M
set_option maxRecDepth 100000 in
set_option maxHeartbeats 4000000 in
theorem t_X10_sumWith_26 {g : IG} {a : Nat → Nat} {R : Int32 × IM} {r6 : Int32 → Int32 → Int32 → Int32 → Int32 → IM → IR} {x1 : Int32} {x2 : Int32} {x3 : Int32} {x4 : Int32} {x5 : Int32} {y0 : Int32} {M : IM} (hr6 : ∀ (x1 : Int32) (x2 : Int32) (x3 : Int32) (x4 : Int32) (x5 : Int32) (M : IM), r6 x1 x2 x3 x4 x5 M = some R → V g mX10_sumWith 1 0 0 (qI S0 a R) 6 [some (.ref (a 127)), some (.int x1), some (.int x2), some (.int x3), some (.int x4), some (.int x5), none, none, none, none] [] a S0 M 0 0) (h : f_X10_sumWith_26 r6 x1 x2 x3 x4 x5 y0 M = some R) : V g mX10_sumWith 1 0 0 (qI S0 a R) 26 [some (.ref (a 127)), some (.int x1), some (.int x2), some (.int x3), some (.int x4), some (.int x5), none, none, none, none] [.int y0] a S0 M 0 0 := by
  unfold f_X10_sumWith_26 at h
  refine V_istore (L' := [_, _, _, _, _, _, _, _, _, _]) rfl dX10_sumWith_26 (by decide) rfl ?_
  refine V_aload_n rfl dX10_sumWith_28 rfl rfl ?_
  refine V_getr (k0 := 5) rfl dX10_sumWith_29 s0_127 icX10 (by decide) rfl w_479 ?_
  refine V_iload rfl dX10_sumWith_32 rfl ?_
  replace h := rd_e h
  obtain ⟨hb4, h⟩ := h
  refine V_iald rfl dX10_sumWith_34 s0_131 hb4 ?_
  refine V_istore (L' := [_, _, _, _, _, _, _, _, _, _]) rfl dX10_sumWith_35 (by decide) rfl ?_
  refine V_iconst (v := 0) rfl dX10_sumWith_37 kc_0 ?_
  refine V_istore (L' := [_, _, _, _, _, _, _, _, _, _]) rfl dX10_sumWith_38 (by decide) rfl ?_
  exact V_sub (le_s (le_s (le_s (le_s (le_s (le_s (le_s (le_s (le_s (le_n le_0)))))))))) (t_X10_sumWith_40 hr6 BG _ _ _ _ _ _ _ _ _ h)
def f_X10_sumWith_6_b (r6 : Int32 → Int32 → Int32 → Int32 → Int32 → IM → IR) (x1 : Int32) (x2 : Int32) (x3 : Int32) (x4 : Int32) (x5 : Int32) (M : IM) : IR := if 4 ≤ x5 then some (x4, M) else if (x5 &&& 1) = 0 then f_X10_sumWith_26 r6 x1 x2 x3 x4 x5 x2 M else f_X10_sumWith_26 r6 x1 x2 x3 x4 x5 ((x2 ^^^ (-1))) M
def f_X10_sumWith_6 (n : Nat) : Int32 → Int32 → Int32 → Int32 → Int32 → IM → IR := itr (fun _ _ _ _ _ _ => none) (f_X10_sumWith_6_b) n
set_option maxRecDepth 100000 in
set_option maxHeartbeats 4000000 in
theorem t_X10_sumWith_6 {g : IG} {a : Nat → Nat} {R : Int32 × IM} (n : Nat) : ∀ (x1 : Int32) (x2 : Int32) (x3 : Int32) (x4 : Int32) (x5 : Int32) (M : IM), f_X10_sumWith_6 n x1 x2 x3 x4 x5 M = some R → V g mX10_sumWith 1 0 0 (qI S0 a R) 6 [some (.ref (a 127)), some (.int x1), some (.int x2), some (.int x3), some (.int x4), some (.int x5), none, none, none, none] [] a S0 M 0 0 := by
  induction n with
  | zero => intro x1 x2 x3 x4 x5 M h; exact absurd h (fun z => by cases z)
  | succ n hr6 =>
    intro x1 x2 x3 x4 x5 M h
    replace h : f_X10_sumWith_6_b (f_X10_sumWith_6 n) x1 x2 x3 x4 x5 M = some R := h
    unfold f_X10_sumWith_6_b at h
    refine V_iload rfl dX10_sumWith_6 rfl ?_
    refine V_iconst (v := 4) rfl dX10_sumWith_8 kc_4 ?_
    refine V_icmp_ge (t := 130) rfl rfl dX10_sumWith_9 (fun hc1 => ?_) (fun hc1 => ?_)
    · replace h := ifp hc1 h
      refine V_iload rfl dX10_sumWith_130 rfl ?_
      cases h
      exact V_iret dX10_sumWith_132 rfl rfl (Nat.le_refl _) (Nat.le_refl _) qI_ok
    · replace h := ifn hc1 h
      refine V_iload rfl dX10_sumWith_12 rfl ?_
      refine V_iconst (v := 1) rfl dX10_sumWith_14 kc_1 ?_
      refine V_iand rfl dX10_sumWith_15 ?_
      refine V_if_ne (t := 23) rfl rfl dX10_sumWith_16 (fun hc2 => ?_) (fun hc2 => ?_)
      · replace h := ifn hc2 h
        refine V_iload_n rfl dX10_sumWith_23 rfl rfl ?_
        refine V_iconst (v := (-1)) rfl dX10_sumWith_24 kc_m1 ?_
        refine V_ixor rfl dX10_sumWith_25 ?_
        exact V_sub (le_s (le_s (le_s (le_s (le_s (le_s (le_n (le_n (le_n (le_n le_0)))))))))) (t_X10_sumWith_26 hr6 h)
      · replace h := ifp hc2 h
        refine V_iload_n rfl dX10_sumWith_19 rfl rfl ?_
        refine V_goto (t := 26) rfl dX10_sumWith_20 ?_
        exact V_sub (le_s (le_s (le_s (le_s (le_s (le_s (le_n (le_n (le_n (le_n le_0)))))))))) (t_X10_sumWith_26 hr6 h)
def f_X10_sumWith (p1 : Int32) (p2 : Int32) (p3 : Int32) (M : IM) : IR := f_X10_sumWith_6 BG p1 p2 p3 0 0 M
set_option maxRecDepth 100000 in
set_option maxHeartbeats 4000000 in
theorem t_X10_sumWith {g : IG} {a : Nat → Nat} {R : Int32 × IM} {p1 : Int32} {p2 : Int32} {p3 : Int32} {M : IM} (h : f_X10_sumWith p1 p2 p3 M = some R) : Cn g mX10_sumWith 1 0 0 (qI S0 a R) [.ref (a 127), .int p1, .int p2, .int p3] a S0 M := by
  refine Cn_of (L := [some (.ref (a 127)), some (.int p1), some (.int p2), some (.int p3), none, none, none, none, none, none]) mf_X10_sumWith (cat_r (cat_i (cat_i (cat_i cat_0)))) (Nat.le_of_ble_eq_true rfl) rfl ?_
  unfold f_X10_sumWith at h
  refine V_iconst (v := 0) rfl dX10_sumWith_0 kc_0 ?_
  refine V_istore (L' := [_, _, _, _, _, _, _, _, _, _]) rfl dX10_sumWith_1 (by decide) rfl ?_
  refine V_iconst (v := 0) rfl dX10_sumWith_3 kc_0 ?_
  refine V_istore (L' := [_, _, _, _, _, _, _, _, _, _]) rfl dX10_sumWith_4 (by decide) rfl ?_
  exact V_sub (le_s (le_s (le_s (le_s (le_s (le_s (le_n (le_n (le_n (le_n le_0)))))))))) (t_X10_sumWith_6 BG _ _ _ _ _ _ h)
