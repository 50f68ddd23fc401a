-- X3_beginCondition: NeverHalted$Law.beginCondition()V
def f_X3_beginCondition (o0 : Nat) (M : IM) : IR := wr M (o0 + 3) 16 (M o0 0) (M o0 5) fun M1 => some (0, M1)
set_option maxRecDepth 100000 in
set_option maxHeartbeats 4000000 in
theorem t_X3_beginCondition {g : IG} {a : Nat → Nat} {R : Int32 × IM} {o0 : Nat} {M : IM} (h0 : isLaw o0) (h : f_X3_beginCondition o0 M = some R) : Cn g mX3_beginCondition 1 0 0 (qV S0 a R) [.ref (a o0)] a S0 M := by
  refine Cn_of (L := [some (.ref (a o0))]) mf_X3_beginCondition (cat_r cat_0) (Nat.le_of_ble_eq_true rfl) rfl ?_
  unfold f_X3_beginCondition at h
  refine V_aload_n rfl dX3_beginCondition_0 rfl rfl ?_
  refine V_getr (k0 := 3) rfl dX3_beginCondition_1 (isLaw_0 h0) icX3 (by decide) rfl w_266 ?_
  refine V_aload_n rfl dX3_beginCondition_4 rfl rfl ?_
  refine V_geti (k0 := 0) rfl dX3_beginCondition_5 (isLaw_0 h0) icX3 (by decide) rfl w_258 ?_
  refine V_aload_n rfl dX3_beginCondition_8 rfl rfl ?_
  refine V_geti (k0 := 5) rfl dX3_beginCondition_9 (isLaw_0 h0) icX3 (by decide) rfl w_270 ?_
  replace h := wr_e h
  obtain ⟨hb2, h⟩ := h
  refine V_iast rfl dX3_beginCondition_12 (isLaw_3 h0) hb2 ?_
  cases h
  exact V_vret dX3_beginCondition_13 rfl (Nat.le_refl _) (Nat.le_refl _) qV_ok
-- X6_takes: NeverHalted$Reader.takes(I)Z
def f_X6_takes (p1 : Int32) (M : IM) : IR := rd M 117 401 (M 100 7) fun v1 => if v1 = p1 then cl (f_X6_takesToken M) fun _ M5 => some (1, M5) else cl (f_X6_refuses 1 M) fun w7 M8 => rz w7 M8
set_option maxRecDepth 100000 in
set_option maxHeartbeats 4000000 in
theorem t_X6_takes {g : IG} {a : Nat → Nat} {R : Int32 × IM} {p1 : Int32} {M : IM} (h : f_X6_takes p1 M = some R) : Cn g mX6_takes 2 0 0 (qI S0 a R) [.ref (a 100), .int p1] a S0 M := by
  refine Cn_of (L := [some (.ref (a 100)), some (.int p1)]) mf_X6_takes (cat_r (cat_i cat_0)) (Nat.le_of_ble_eq_true rfl) rfl ?_
  unfold f_X6_takes at h
  refine V_aload_n rfl dX6_takes_0 rfl rfl ?_
  refine V_getr (k0 := 5) rfl dX6_takes_1 s0_100 icX6 (by decide) rfl w_433 ?_
  refine V_aload_n rfl dX6_takes_4 rfl rfl ?_
  refine V_geti (k0 := 7) rfl dX6_takes_5 s0_100 icX6 (by decide) rfl w_435 ?_
  replace h := rd_e h
  obtain ⟨hb2, h⟩ := h
  refine V_iald rfl dX6_takes_8 s0_117 hb2 ?_
  refine V_iload_n rfl dX6_takes_9 rfl rfl ?_
  refine V_icmp_eq (t := 19) rfl rfl dX6_takes_10 (fun hc3 => ?_) (fun hc3 => ?_)
  · replace h := ifp hc3 h
    refine V_aload_n rfl dX6_takes_19 rfl rfl ?_
    replace h := cl_e h
    obtain ⟨w4, M5, hc6, h⟩ := h
    refine V_iv (As := []) rfl dX6_takes_20 mf_X6_takesToken ⟨w_720, w_5⟩ w_718 (by decide) s0_100 rfl rfl rfl rfl ⟨rfl, rfl⟩ (t_X6_takesToken hc6) ?_
    refine V_iconst (v := 1) rfl dX6_takes_23 kc_1 ?_
    cases h
    exact V_iret dX6_takes_24 rfl nz_1 (Nat.le_refl _) (Nat.le_refl _) qI_ok
  · replace h := ifn hc3 h
    refine V_aload_n rfl dX6_takes_13 rfl rfl ?_
    refine V_iconst (v := 1) rfl dX6_takes_14 kc_1 ?_
    replace h := cl_e h
    obtain ⟨w7, M8, hc9, h⟩ := h
    refine V_ii (As := [.int _]) rfl dX6_takes_15 mf_X6_refuses ⟨w_716, w_4⟩ w_714 (by decide) s0_100 rfl rfl rfl rfl ⟨rfl, rfl⟩ (t_X6_refuses hc9) ?_
    replace h := rz_e h
    obtain ⟨hz10, h⟩ := h
    cases h
    exact V_iret dX6_takes_18 rfl (nar_z hz10) (Nat.le_refl _) (Nat.le_refl _) qI_ok
-- X6_readsComparison: NeverHalted$Reader.readsComparison(I)Z, X6_readsCondition: NeverHalted$Reader.readsCondition(I)Z
def f_X6_readsComparison_24 (qX6_readsComparison : Int32 → IM → IR) (qX6_readsCondition : Int32 → IM → IR) (x1 : Int32) (x2 : Int32) (M : IM) : IR := if x1 < 8 then cl (f_X6_takesToken M) fun _ M20 => if x2 = 20040 then cl (qX6_readsCondition (x1 + 1) M20) fun w30 M31 => if w30 = 0 then some (0, M31) else cl (f_X6_takes 20041 M31) fun w34 M35 => if w34 = 0 then some (0, M35) else some (1, M35) else cl (qX6_readsComparison (x1 + 1) M20) fun w23 M24 => if w23 = 0 then some (0, M24) else cl (f_X3_put 101 10017 M24) fun _ M28 => some (1, M28) else cl (f_X6_refuses 3 M) fun w38 M39 => rz w38 M39
set_option maxRecDepth 100000 in
set_option maxHeartbeats 4000000 in
theorem t_X6_readsComparison_24 {g : IG} {a : Nat → Nat} {R : Int32 × IM} {qX6_readsComparison : Int32 → IM → IR} {qX6_readsCondition : Int32 → IM → IR} {x1 : Int32} {x2 : Int32} {M : IM} {d : Nat} (hD : 3 ≤ d) (hqX6_readsComparison : ∀ {p1 : Int32} {M : IM} {R : Int32 × IM}, qX6_readsComparison p1 M = some R → Cn g mX6_readsComparison d 0 0 (qI S0 a R) [.ref (a 100), .int p1] a S0 M) (hqX6_readsCondition : ∀ {p1 : Int32} {M : IM} {R : Int32 × IM}, qX6_readsCondition p1 M = some R → Cn g mX6_readsCondition d 0 0 (qI S0 a R) [.ref (a 100), .int p1] a S0 M) (h : f_X6_readsComparison_24 qX6_readsComparison qX6_readsCondition x1 x2 M = some R) : V g mX6_readsComparison (d + 1) 0 0 (qI S0 a R) 24 [some (.ref (a 100)), some (.int x1), some (.int x2), none] [] a S0 M 0 0 := by
  unfold f_X6_readsComparison_24 at h
  refine V_iload_n rfl dX6_readsComparison_24 rfl rfl ?_
  refine V_bipush (v := 8) rfl dX6_readsComparison_25 kb_8 ?_
  refine V_icmp_lt (t := 36) rfl rfl dX6_readsComparison_27 (fun hc18 => ?_) (fun hc18 => ?_)
  · replace h := ifp hc18 h
    refine V_aload_n rfl dX6_readsComparison_36 rfl rfl ?_
    replace h := cl_e h
    obtain ⟨w19, M20, hc21, h⟩ := h
    refine V_iv (As := []) rfl dX6_readsComparison_37 mf_X6_takesToken ⟨w_720, w_5⟩ w_718 (by omega) s0_100 rfl rfl rfl rfl ⟨rfl, rfl⟩ (t_X6_takesToken hc21) ?_
    refine V_iload_n rfl dX6_readsComparison_40 rfl rfl ?_
    refine V_sipush (v := 20040) rfl dX6_readsComparison_41 ks_20040 ?_
    refine V_icmp_ne (t := 73) rfl rfl dX6_readsComparison_44 (fun hc22 => ?_) (fun hc22 => ?_)
    · replace h := ifn hc22 h
      refine V_aload_n rfl dX6_readsComparison_73 rfl rfl ?_
      refine V_iload_n rfl dX6_readsComparison_74 rfl rfl ?_
      refine V_iconst (v := 1) rfl dX6_readsComparison_75 kc_1 ?_
      refine V_iadd rfl dX6_readsComparison_76 ?_
      replace h := cl_e h
      obtain ⟨w23, M24, hc25, h⟩ := h
      refine V_ii (As := [.int _]) rfl dX6_readsComparison_77 mf_X6_readsComparison ⟨w_754, w_10⟩ w_752 (Nat.lt_succ_self _) s0_100 rfl rfl rfl rfl ⟨rfl, rfl⟩ (hqX6_readsComparison hc25) ?_
      refine V_if_ne (t := 85) rfl rfl dX6_readsComparison_80 (fun hc26 => ?_) (fun hc26 => ?_)
      · replace h := ifn hc26 h
        refine V_aload_n rfl dX6_readsComparison_85 rfl rfl ?_
        refine V_getr (k0 := 2) rfl dX6_readsComparison_86 s0_100 icX6 (by decide) rfl w_427 ?_
        refine V_sipush (v := 10017) rfl dX6_readsComparison_89 ks_10017 ?_
        replace h := cl_e h
        obtain ⟨w27, M28, hc29, h⟩ := h
        refine V_iv (As := [.int _]) rfl dX6_readsComparison_92 mf_X3_put ⟨w_737, w_738⟩ w_736 (by omega) s0_101 rfl rfl rfl rfl ⟨rfl, rfl⟩ (t_X3_put isLaw_at101 hc29) ?_
        refine V_iconst (v := 1) rfl dX6_readsComparison_95 kc_1 ?_
        cases h
        exact V_iret dX6_readsComparison_96 rfl nz_1 (Nat.le_refl _) (Nat.le_refl _) qI_ok
      · replace h := ifp hc26 h
        refine V_iconst (v := 0) rfl dX6_readsComparison_83 kc_0 ?_
        cases h
        exact V_iret dX6_readsComparison_84 rfl nz_0 (Nat.le_refl _) (Nat.le_refl _) qI_ok
    · replace h := ifp hc22 h
      refine V_aload_n rfl dX6_readsComparison_47 rfl rfl ?_
      refine V_iload_n rfl dX6_readsComparison_48 rfl rfl ?_
      refine V_iconst (v := 1) rfl dX6_readsComparison_49 kc_1 ?_
      refine V_iadd rfl dX6_readsComparison_50 ?_
      replace h := cl_e h
      obtain ⟨w30, M31, hc32, h⟩ := h
      refine V_ii (As := [.int _]) rfl dX6_readsComparison_51 mf_X6_readsCondition ⟨w_750, w_9⟩ w_748 (Nat.lt_succ_self _) s0_100 rfl rfl rfl rfl ⟨rfl, rfl⟩ (hqX6_readsCondition hc32) ?_
      refine V_if_eq (t := 71) rfl rfl dX6_readsComparison_54 (fun hc33 => ?_) (fun hc33 => ?_)
      · replace h := ifp hc33 h
        refine V_iconst (v := 0) rfl dX6_readsComparison_71 kc_0 ?_
        cases h
        exact V_iret dX6_readsComparison_72 rfl nz_0 (Nat.le_refl _) (Nat.le_refl _) qI_ok
      · replace h := ifn hc33 h
        refine V_aload_n rfl dX6_readsComparison_57 rfl rfl ?_
        refine V_sipush (v := 20041) rfl dX6_readsComparison_58 ks_20041 ?_
        replace h := cl_e h
        obtain ⟨w34, M35, hc36, h⟩ := h
        refine V_ii (As := [.int _]) rfl dX6_readsComparison_61 mf_X6_takes ⟨w_758, w_11⟩ w_756 (by omega) s0_100 rfl rfl rfl rfl ⟨rfl, rfl⟩ (t_X6_takes hc36) ?_
        refine V_if_eq (t := 71) rfl rfl dX6_readsComparison_64 (fun hc37 => ?_) (fun hc37 => ?_)
        · replace h := ifp hc37 h
          refine V_iconst (v := 0) rfl dX6_readsComparison_71 kc_0 ?_
          cases h
          exact V_iret dX6_readsComparison_72 rfl nz_0 (Nat.le_refl _) (Nat.le_refl _) qI_ok
        · replace h := ifn hc37 h
          refine V_iconst (v := 1) rfl dX6_readsComparison_67 kc_1 ?_
          refine V_goto (t := 72) rfl dX6_readsComparison_68 ?_
          cases h
          exact V_iret dX6_readsComparison_72 rfl nz_1 (Nat.le_refl _) (Nat.le_refl _) qI_ok
  · replace h := ifn hc18 h
    refine V_aload_n rfl dX6_readsComparison_30 rfl rfl ?_
    refine V_iconst (v := 3) rfl dX6_readsComparison_31 kc_3 ?_
    replace h := cl_e h
    obtain ⟨w38, M39, hc40, h⟩ := h
    refine V_ii (As := [.int _]) rfl dX6_readsComparison_32 mf_X6_refuses ⟨w_716, w_4⟩ w_714 (by omega) s0_100 rfl rfl rfl rfl ⟨rfl, rfl⟩ (t_X6_refuses hc40) ?_
    replace h := rz_e h
    obtain ⟨hz41, h⟩ := h
    cases h
    exact V_iret dX6_readsComparison_35 rfl (nar_z hz41) (Nat.le_refl _) (Nat.le_refl _) qI_ok
def f_X6_readsComparison_143 (qX6_readsComparison : Int32 → IM → IR) (qX6_readsCondition : Int32 → IM → IR) (x3 : Int32) (M : IM) : IR := cl (f_X6_takesToken M) fun _ M43 => cl (f_X6_readsSum M43) fun w45 M46 => if w45 = 0 then some (0, M46) else cl (f_X3_put 101 x3 M46) fun _ M50 => some (1, M50)
set_option maxRecDepth 100000 in
set_option maxHeartbeats 4000000 in
theorem t_X6_readsComparison_143 {g : IG} {a : Nat → Nat} {R : Int32 × IM} {qX6_readsComparison : Int32 → IM → IR} {qX6_readsCondition : Int32 → IM → IR} {x3 : Int32} {M : IM} {d : Nat} (hD : 3 ≤ d) (hqX6_readsComparison : ∀ {p1 : Int32} {M : IM} {R : Int32 × IM}, qX6_readsComparison p1 M = some R → Cn g mX6_readsComparison d 0 0 (qI S0 a R) [.ref (a 100), .int p1] a S0 M) (hqX6_readsCondition : ∀ {p1 : Int32} {M : IM} {R : Int32 × IM}, qX6_readsCondition p1 M = some R → Cn g mX6_readsCondition d 0 0 (qI S0 a R) [.ref (a 100), .int p1] a S0 M) (h : f_X6_readsComparison_143 qX6_readsComparison qX6_readsCondition x3 M = some R) : V g mX6_readsComparison (d + 1) 0 0 (qI S0 a R) 143 [some (.ref (a 100)), none, none, some (.int x3)] [] a S0 M 0 0 := by
  unfold f_X6_readsComparison_143 at h
  refine V_aload_n rfl dX6_readsComparison_143 rfl rfl ?_
  replace h := cl_e h
  obtain ⟨w42, M43, hc44, h⟩ := h
  refine V_iv (As := []) rfl dX6_readsComparison_144 mf_X6_takesToken ⟨w_720, w_5⟩ w_718 (by omega) s0_100 rfl rfl rfl rfl ⟨rfl, rfl⟩ (t_X6_takesToken hc44) ?_
  refine V_aload_n rfl dX6_readsComparison_147 rfl rfl ?_
  replace h := cl_e h
  obtain ⟨w45, M46, hc47, h⟩ := h
  refine V_ii (As := []) rfl dX6_readsComparison_148 mf_X6_readsSum ⟨w_728, w_6⟩ w_726 (by omega) s0_100 rfl rfl rfl rfl ⟨rfl, rfl⟩ (t_X6_readsSum hc47) ?_
  refine V_if_ne (t := 156) rfl rfl dX6_readsComparison_151 (fun hc48 => ?_) (fun hc48 => ?_)
  · replace h := ifn hc48 h
    refine V_aload_n rfl dX6_readsComparison_156 rfl rfl ?_
    refine V_getr (k0 := 2) rfl dX6_readsComparison_157 s0_100 icX6 (by decide) rfl w_427 ?_
    refine V_iload_n rfl dX6_readsComparison_160 rfl rfl ?_
    replace h := cl_e h
    obtain ⟨w49, M50, hc51, h⟩ := h
    refine V_iv (As := [.int _]) rfl dX6_readsComparison_161 mf_X3_put ⟨w_737, w_738⟩ w_736 (by omega) s0_101 rfl rfl rfl rfl ⟨rfl, rfl⟩ (t_X3_put isLaw_at101 hc51) ?_
    refine V_iconst (v := 1) rfl dX6_readsComparison_164 kc_1 ?_
    cases h
    exact V_iret dX6_readsComparison_165 rfl nz_1 (Nat.le_refl _) (Nat.le_refl _) qI_ok
  · replace h := ifp hc48 h
    refine V_iconst (v := 0) rfl dX6_readsComparison_154 kc_0 ?_
    cases h
    exact V_iret dX6_readsComparison_155 rfl nz_0 (Nat.le_refl _) (Nat.le_refl _) qI_ok
def f_X6_readsComparison_e (qX6_readsComparison : Int32 → IM → IR) (qX6_readsCondition : Int32 → IM → IR) (p1 : Int32) (M : IM) : IR := rd M 117 401 (M 100 7) fun v1 => if v1 = 10017 then f_X6_readsComparison_24 qX6_readsComparison qX6_readsCondition p1 v1 M else if v1 = 20040 then f_X6_readsComparison_24 qX6_readsComparison qX6_readsCondition p1 v1 M else cl (f_X6_readsSum M) fun w5 M6 => if w5 = 0 then some (0, M6) else rd M6 117 401 (M6 100 7) fun v9 => if v9 = 20060 then f_X6_readsComparison_143 qX6_readsComparison qX6_readsCondition v9 M6 else if v9 = 20061 then f_X6_readsComparison_143 qX6_readsComparison qX6_readsCondition v9 M6 else if v9 = 20062 then f_X6_readsComparison_143 qX6_readsComparison qX6_readsCondition v9 M6 else cl (f_X6_refuses 1 M6) fun w14 M15 => rz w14 M15
set_option maxRecDepth 100000 in
set_option maxHeartbeats 4000000 in
theorem t_X6_readsComparison_e {g : IG} {a : Nat → Nat} {R : Int32 × IM} {qX6_readsComparison : Int32 → IM → IR} {qX6_readsCondition : Int32 → IM → IR} {p1 : Int32} {M : IM} {d : Nat} (hD : 3 ≤ d) (hqX6_readsComparison : ∀ {p1 : Int32} {M : IM} {R : Int32 × IM}, qX6_readsComparison p1 M = some R → Cn g mX6_readsComparison d 0 0 (qI S0 a R) [.ref (a 100), .int p1] a S0 M) (hqX6_readsCondition : ∀ {p1 : Int32} {M : IM} {R : Int32 × IM}, qX6_readsCondition p1 M = some R → Cn g mX6_readsCondition d 0 0 (qI S0 a R) [.ref (a 100), .int p1] a S0 M) (h : f_X6_readsComparison_e qX6_readsComparison qX6_readsCondition p1 M = some R) : Cn g mX6_readsComparison (d + 1) 0 0 (qI S0 a R) [.ref (a 100), .int p1] a S0 M := by
  refine Cn_of (L := [some (.ref (a 100)), some (.int p1), none, none]) mf_X6_readsComparison (cat_r (cat_i cat_0)) (Nat.le_of_ble_eq_true rfl) rfl ?_
  unfold f_X6_readsComparison_e at h
  refine V_aload_n rfl dX6_readsComparison_0 rfl rfl ?_
  refine V_getr (k0 := 5) rfl dX6_readsComparison_1 s0_100 icX6 (by decide) rfl w_433 ?_
  refine V_aload_n rfl dX6_readsComparison_4 rfl rfl ?_
  refine V_geti (k0 := 7) rfl dX6_readsComparison_5 s0_100 icX6 (by decide) rfl w_435 ?_
  replace h := rd_e h
  obtain ⟨hb2, h⟩ := h
  refine V_iald rfl dX6_readsComparison_8 s0_117 hb2 ?_
  refine V_istore_n (L' := [_, _, _, _]) rfl rfl dX6_readsComparison_9 (by decide) rfl ?_
  refine V_iload_n rfl dX6_readsComparison_10 rfl rfl ?_
  refine V_sipush (v := 10017) rfl dX6_readsComparison_11 ks_10017 ?_
  refine V_icmp_eq (t := 24) rfl rfl dX6_readsComparison_14 (fun hc3 => ?_) (fun hc3 => ?_)
  · replace h := ifp hc3 h
    exact V_sub (le_s (le_s (le_s (le_n le_0)))) (t_X6_readsComparison_24 hD hqX6_readsComparison hqX6_readsCondition h)
  · replace h := ifn hc3 h
    refine V_iload_n rfl dX6_readsComparison_17 rfl rfl ?_
    refine V_sipush (v := 20040) rfl dX6_readsComparison_18 ks_20040 ?_
    refine V_icmp_ne (t := 97) rfl rfl dX6_readsComparison_21 (fun hc4 => ?_) (fun hc4 => ?_)
    · replace h := ifn hc4 h
      refine V_aload_n rfl dX6_readsComparison_97 rfl rfl ?_
      replace h := cl_e h
      obtain ⟨w5, M6, hc7, h⟩ := h
      refine V_ii (As := []) rfl dX6_readsComparison_98 mf_X6_readsSum ⟨w_728, w_6⟩ w_726 (by omega) s0_100 rfl rfl rfl rfl ⟨rfl, rfl⟩ (t_X6_readsSum hc7) ?_
      refine V_if_ne (t := 106) rfl rfl dX6_readsComparison_101 (fun hc8 => ?_) (fun hc8 => ?_)
      · replace h := ifn hc8 h
        refine V_aload_n rfl dX6_readsComparison_106 rfl rfl ?_
        refine V_getr (k0 := 5) rfl dX6_readsComparison_107 s0_100 icX6 (by decide) rfl w_433 ?_
        refine V_aload_n rfl dX6_readsComparison_110 rfl rfl ?_
        refine V_geti (k0 := 7) rfl dX6_readsComparison_111 s0_100 icX6 (by decide) rfl w_435 ?_
        replace h := rd_e h
        obtain ⟨hb10, h⟩ := h
        refine V_iald rfl dX6_readsComparison_114 s0_117 hb10 ?_
        refine V_istore_n (L' := [_, _, _, _]) rfl rfl dX6_readsComparison_115 (by decide) rfl ?_
        refine V_iload_n rfl dX6_readsComparison_116 rfl rfl ?_
        refine V_sipush (v := 20060) rfl dX6_readsComparison_117 ks_20060 ?_
        refine V_icmp_eq (t := 143) rfl rfl dX6_readsComparison_120 (fun hc11 => ?_) (fun hc11 => ?_)
        · replace h := ifp hc11 h
          exact V_sub (le_s (le_n (le_n (le_s le_0)))) (t_X6_readsComparison_143 hD hqX6_readsComparison hqX6_readsCondition h)
        · replace h := ifn hc11 h
          refine V_iload_n rfl dX6_readsComparison_123 rfl rfl ?_
          refine V_sipush (v := 20061) rfl dX6_readsComparison_124 ks_20061 ?_
          refine V_icmp_eq (t := 143) rfl rfl dX6_readsComparison_127 (fun hc12 => ?_) (fun hc12 => ?_)
          · replace h := ifp hc12 h
            exact V_sub (le_s (le_n (le_n (le_s le_0)))) (t_X6_readsComparison_143 hD hqX6_readsComparison hqX6_readsCondition h)
          · replace h := ifn hc12 h
            refine V_iload_n rfl dX6_readsComparison_130 rfl rfl ?_
            refine V_sipush (v := 20062) rfl dX6_readsComparison_131 ks_20062 ?_
            refine V_icmp_eq (t := 143) rfl rfl dX6_readsComparison_134 (fun hc13 => ?_) (fun hc13 => ?_)
            · replace h := ifp hc13 h
              exact V_sub (le_s (le_n (le_n (le_s le_0)))) (t_X6_readsComparison_143 hD hqX6_readsComparison hqX6_readsCondition h)
            · replace h := ifn hc13 h
              refine V_aload_n rfl dX6_readsComparison_137 rfl rfl ?_
              refine V_iconst (v := 1) rfl dX6_readsComparison_138 kc_1 ?_
              replace h := cl_e h
              obtain ⟨w14, M15, hc16, h⟩ := h
              refine V_ii (As := [.int _]) rfl dX6_readsComparison_139 mf_X6_refuses ⟨w_716, w_4⟩ w_714 (by omega) s0_100 rfl rfl rfl rfl ⟨rfl, rfl⟩ (t_X6_refuses hc16) ?_
              replace h := rz_e h
              obtain ⟨hz17, h⟩ := h
              cases h
              exact V_iret dX6_readsComparison_142 rfl (nar_z hz17) (Nat.le_refl _) (Nat.le_refl _) qI_ok
      · replace h := ifp hc8 h
        refine V_iconst (v := 0) rfl dX6_readsComparison_104 kc_0 ?_
        cases h
        exact V_iret dX6_readsComparison_105 rfl nz_0 (Nat.le_refl _) (Nat.le_refl _) qI_ok
    · replace h := ifp hc4 h
      exact V_sub (le_s (le_s (le_s (le_n le_0)))) (t_X6_readsComparison_24 hD hqX6_readsComparison hqX6_readsCondition h)
def f_X6_readsCondition_98 (qX6_readsComparison : Int32 → IM → IR) (qX6_readsCondition : Int32 → IM → IR) (r7 : Int32 → Int32 → Int32 → Int32 → IM → IR) (x1 : Int32) (x3 : Int32) (x4 : Int32) (y0 : Int32) (M : IM) : IR := if y0 = 0 then some (1, M) else cl (f_X6_takesToken M) fun _ M27 => lt (x4 + 1) fun v29 => r7 x1 y0 x3 v29 M27
set_option maxRecDepth 100000 in
set_option maxHeartbeats 4000000 in
theorem t_X6_readsCondition_98 {g : IG} {a : Nat → Nat} {R : Int32 × IM} {qX6_readsComparison : Int32 → IM → IR} {qX6_readsCondition : Int32 → IM → IR} {r7 : Int32 → Int32 → Int32 → Int32 → IM → IR} {x1 : Int32} {x3 : Int32} {x4 : Int32} {y0 : Int32} {M : IM} {d : Nat} (hD : 3 ≤ d) (hqX6_readsComparison : ∀ {p1 : Int32} {M : IM} {R : Int32 × IM}, qX6_readsComparison p1 M = some R → Cn g mX6_readsComparison d 0 0 (qI S0 a R) [.ref (a 100), .int p1] a S0 M) (hqX6_readsCondition : ∀ {p1 : Int32} {M : IM} {R : Int32 × IM}, qX6_readsCondition p1 M = some R → Cn g mX6_readsCondition d 0 0 (qI S0 a R) [.ref (a 100), .int p1] a S0 M) (hr7 : ∀ (x1 : Int32) (x2 : Int32) (x3 : Int32) (x4 : Int32) (M : IM), r7 x1 x2 x3 x4 M = some R → V g mX6_readsCondition (d + 1) 0 0 (qI S0 a R) 7 [some (.ref (a 100)), some (.int x1), some (.int x2), some (.int x3), some (.int x4)] [] a S0 M 0 0) (h : f_X6_readsCondition_98 qX6_readsComparison qX6_readsCondition r7 x1 x3 x4 y0 M = some R) : V g mX6_readsCondition (d + 1) 0 0 (qI S0 a R) 98 [some (.ref (a 100)), some (.int x1), none, some (.int x3), some (.int x4)] [.int y0] a S0 M 0 0 := by
  unfold f_X6_readsCondition_98 at h
  refine V_istore_n (L' := [_, _, _, _, _]) rfl rfl dX6_readsCondition_98 (by decide) rfl ?_
  refine V_iload_n rfl dX6_readsCondition_99 rfl rfl ?_
  refine V_if_ne (t := 105) rfl rfl dX6_readsCondition_100 (fun hc25 => ?_) (fun hc25 => ?_)
  · replace h := ifn hc25 h
    refine V_aload_n rfl dX6_readsCondition_105 rfl rfl ?_
    replace h := cl_e h
    obtain ⟨w26, M27, hc28, h⟩ := h
    refine V_iv (As := []) rfl dX6_readsCondition_106 mf_X6_takesToken ⟨w_720, w_5⟩ w_718 (by omega) s0_100 rfl rfl rfl rfl ⟨rfl, rfl⟩ (t_X6_takesToken hc28) ?_
    replace h := lt_e h
    refine V_inc (L' := [_, _, _, _, _]) rfl dX6_readsCondition_109 rfl kc_1 (by decide) rfl ?_
    refine V_goto (t := 7) rfl dX6_readsCondition_112 ?_
    exact V_sub (le_s (le_s (le_s (le_s (le_s le_0))))) (hr7 _ _ _ _ _ h)
  · replace h := ifp hc25 h
    refine V_iconst (v := 1) rfl dX6_readsCondition_103 kc_1 ?_
    cases h
    exact V_iret dX6_readsCondition_104 rfl nz_1 (Nat.le_refl _) (Nat.le_refl _) qI_ok
def f_X6_readsCondition_78 (qX6_readsComparison : Int32 → IM → IR) (qX6_readsCondition : Int32 → IM → IR) (r7 : Int32 → Int32 → Int32 → Int32 → IM → IR) (x1 : Int32) (x3 : Int32) (x4 : Int32) (M : IM) : IR := rd M 117 401 (M 100 7) fun v22 => if v22 = 10015 then f_X6_readsCondition_98 qX6_readsComparison qX6_readsCondition r7 x1 x3 x4 1 M else f_X6_readsCondition_98 qX6_readsComparison qX6_readsCondition r7 x1 x3 x4 0 M
set_option maxRecDepth 100000 in
set_option maxHeartbeats 4000000 in
theorem t_X6_readsCondition_78 {g : IG} {a : Nat → Nat} {R : Int32 × IM} {qX6_readsComparison : Int32 → IM → IR} {qX6_readsCondition : Int32 → IM → IR} {r7 : Int32 → Int32 → Int32 → Int32 → IM → IR} {x1 : Int32} {x3 : Int32} {x4 : Int32} {M : IM} {d : Nat} (hD : 3 ≤ d) (hqX6_readsComparison : ∀ {p1 : Int32} {M : IM} {R : Int32 × IM}, qX6_readsComparison p1 M = some R → Cn g mX6_readsComparison d 0 0 (qI S0 a R) [.ref (a 100), .int p1] a S0 M) (hqX6_readsCondition : ∀ {p1 : Int32} {M : IM} {R : Int32 × IM}, qX6_readsCondition p1 M = some R → Cn g mX6_readsCondition d 0 0 (qI S0 a R) [.ref (a 100), .int p1] a S0 M) (hr7 : ∀ (x1 : Int32) (x2 : Int32) (x3 : Int32) (x4 : Int32) (M : IM), r7 x1 x2 x3 x4 M = some R → V g mX6_readsCondition (d + 1) 0 0 (qI S0 a R) 7 [some (.ref (a 100)), some (.int x1), some (.int x2), some (.int x3), some (.int x4)] [] a S0 M 0 0) (h : f_X6_readsCondition_78 qX6_readsComparison qX6_readsCondition r7 x1 x3 x4 M = some R) : V g mX6_readsCondition (d + 1) 0 0 (qI S0 a R) 78 [some (.ref (a 100)), some (.int x1), none, some (.int x3), some (.int x4)] [] a S0 M 0 0 := by
  unfold f_X6_readsCondition_78 at h
  refine V_aload_n rfl dX6_readsCondition_78 rfl rfl ?_
  refine V_getr (k0 := 5) rfl dX6_readsCondition_79 s0_100 icX6 (by decide) rfl w_433 ?_
  refine V_aload_n rfl dX6_readsCondition_82 rfl rfl ?_
  refine V_geti (k0 := 7) rfl dX6_readsCondition_83 s0_100 icX6 (by decide) rfl w_435 ?_
  replace h := rd_e h
  obtain ⟨hb23, h⟩ := h
  refine V_iald rfl dX6_readsCondition_86 s0_117 hb23 ?_
  refine V_sipush (v := 10015) rfl dX6_readsCondition_87 ks_10015 ?_
  refine V_icmp_ne (t := 97) rfl rfl dX6_readsCondition_90 (fun hc24 => ?_) (fun hc24 => ?_)
  · replace h := ifn hc24 h
    refine V_iconst (v := 0) rfl dX6_readsCondition_97 kc_0 ?_
    exact V_sub (le_s (le_s (le_n (le_s (le_s le_0))))) (t_X6_readsCondition_98 hD hqX6_readsComparison hqX6_readsCondition hr7 h)
  · replace h := ifp hc24 h
    refine V_iconst (v := 1) rfl dX6_readsCondition_93 kc_1 ?_
    refine V_goto (t := 98) rfl dX6_readsCondition_94 ?_
    exact V_sub (le_s (le_s (le_n (le_s (le_s le_0))))) (t_X6_readsCondition_98 hD hqX6_readsComparison hqX6_readsCondition hr7 h)
def f_X6_readsCondition_59 (qX6_readsComparison : Int32 → IM → IR) (qX6_readsCondition : Int32 → IM → IR) (r7 : Int32 → Int32 → Int32 → Int32 → IM → IR) (x1 : Int32) (x2 : Int32) (x4 : Int32) (y0 : Int32) (M : IM) : IR := if y0 = 0 then if x2 = 0 then f_X6_readsCondition_78 qX6_readsComparison qX6_readsCondition r7 x1 y0 x4 M else cl (f_X3_put 101 10015 M) fun _ M20 => f_X6_readsCondition_78 qX6_readsComparison qX6_readsCondition r7 x1 y0 x4 M20 else cl (f_X6_takesToken M) fun _ M15 => lt (x4 + 1) fun v17 => r7 x1 x2 y0 v17 M15
set_option maxRecDepth 100000 in
set_option maxHeartbeats 4000000 in
theorem t_X6_readsCondition_59 {g : IG} {a : Nat → Nat} {R : Int32 × IM} {qX6_readsComparison : Int32 → IM → IR} {qX6_readsCondition : Int32 → IM → IR} {r7 : Int32 → Int32 → Int32 → Int32 → IM → IR} {x1 : Int32} {x2 : Int32} {x4 : Int32} {y0 : Int32} {M : IM} {d : Nat} (hD : 3 ≤ d) (hqX6_readsComparison : ∀ {p1 : Int32} {M : IM} {R : Int32 × IM}, qX6_readsComparison p1 M = some R → Cn g mX6_readsComparison d 0 0 (qI S0 a R) [.ref (a 100), .int p1] a S0 M) (hqX6_readsCondition : ∀ {p1 : Int32} {M : IM} {R : Int32 × IM}, qX6_readsCondition p1 M = some R → Cn g mX6_readsCondition d 0 0 (qI S0 a R) [.ref (a 100), .int p1] a S0 M) (hr7 : ∀ (x1 : Int32) (x2 : Int32) (x3 : Int32) (x4 : Int32) (M : IM), r7 x1 x2 x3 x4 M = some R → V g mX6_readsCondition (d + 1) 0 0 (qI S0 a R) 7 [some (.ref (a 100)), some (.int x1), some (.int x2), some (.int x3), some (.int x4)] [] a S0 M 0 0) (h : f_X6_readsCondition_59 qX6_readsComparison qX6_readsCondition r7 x1 x2 x4 y0 M = some R) : V g mX6_readsCondition (d + 1) 0 0 (qI S0 a R) 59 [some (.ref (a 100)), some (.int x1), some (.int x2), none, some (.int x4)] [.int y0] a S0 M 0 0 := by
  unfold f_X6_readsCondition_59 at h
  refine V_istore_n (L' := [_, _, _, _, _]) rfl rfl dX6_readsCondition_59 (by decide) rfl ?_
  refine V_iload_n rfl dX6_readsCondition_60 rfl rfl ?_
  refine V_if_ne (t := 105) rfl rfl dX6_readsCondition_61 (fun hc13 => ?_) (fun hc13 => ?_)
  · replace h := ifn hc13 h
    refine V_aload_n rfl dX6_readsCondition_105 rfl rfl ?_
    replace h := cl_e h
    obtain ⟨w14, M15, hc16, h⟩ := h
    refine V_iv (As := []) rfl dX6_readsCondition_106 mf_X6_takesToken ⟨w_720, w_5⟩ w_718 (by omega) s0_100 rfl rfl rfl rfl ⟨rfl, rfl⟩ (t_X6_takesToken hc16) ?_
    replace h := lt_e h
    refine V_inc (L' := [_, _, _, _, _]) rfl dX6_readsCondition_109 rfl kc_1 (by decide) rfl ?_
    refine V_goto (t := 7) rfl dX6_readsCondition_112 ?_
    exact V_sub (le_s (le_s (le_s (le_s (le_s le_0))))) (hr7 _ _ _ _ _ h)
  · replace h := ifp hc13 h
    refine V_iload_n rfl dX6_readsCondition_64 rfl rfl ?_
    refine V_if_eq (t := 78) rfl rfl dX6_readsCondition_65 (fun hc18 => ?_) (fun hc18 => ?_)
    · replace h := ifp hc18 h
      exact V_sub (le_s (le_s (le_n (le_s (le_s le_0))))) (t_X6_readsCondition_78 hD hqX6_readsComparison hqX6_readsCondition hr7 h)
    · replace h := ifn hc18 h
      refine V_aload_n rfl dX6_readsCondition_68 rfl rfl ?_
      refine V_getr (k0 := 2) rfl dX6_readsCondition_69 s0_100 icX6 (by decide) rfl w_427 ?_
      refine V_sipush (v := 10015) rfl dX6_readsCondition_72 ks_10015 ?_
      replace h := cl_e h
      obtain ⟨w19, M20, hc21, h⟩ := h
      refine V_iv (As := [.int _]) rfl dX6_readsCondition_75 mf_X3_put ⟨w_737, w_738⟩ w_736 (by omega) s0_101 rfl rfl rfl rfl ⟨rfl, rfl⟩ (t_X3_put isLaw_at101 hc21) ?_
      exact V_sub (le_s (le_s (le_n (le_s (le_s le_0))))) (t_X6_readsCondition_78 hD hqX6_readsComparison hqX6_readsCondition hr7 h)
def f_X6_readsCondition_39 (qX6_readsComparison : Int32 → IM → IR) (qX6_readsCondition : Int32 → IM → IR) (r7 : Int32 → Int32 → Int32 → Int32 → IM → IR) (x1 : Int32) (x2 : Int32) (x4 : Int32) (M : IM) : IR := rd M 117 401 (M 100 7) fun v10 => if v10 = 10016 then f_X6_readsCondition_59 qX6_readsComparison qX6_readsCondition r7 x1 x2 x4 1 M else f_X6_readsCondition_59 qX6_readsComparison qX6_readsCondition r7 x1 x2 x4 0 M
set_option maxRecDepth 100000 in
set_option maxHeartbeats 4000000 in
theorem t_X6_readsCondition_39 {g : IG} {a : Nat → Nat} {R : Int32 × IM} {qX6_readsComparison : Int32 → IM → IR} {qX6_readsCondition : Int32 → IM → IR} {r7 : Int32 → Int32 → Int32 → Int32 → IM → IR} {x1 : Int32} {x2 : Int32} {x4 : Int32} {M : IM} {d : Nat} (hD : 3 ≤ d) (hqX6_readsComparison : ∀ {p1 : Int32} {M : IM} {R : Int32 × IM}, qX6_readsComparison p1 M = some R → Cn g mX6_readsComparison d 0 0 (qI S0 a R) [.ref (a 100), .int p1] a S0 M) (hqX6_readsCondition : ∀ {p1 : Int32} {M : IM} {R : Int32 × IM}, qX6_readsCondition p1 M = some R → Cn g mX6_readsCondition d 0 0 (qI S0 a R) [.ref (a 100), .int p1] a S0 M) (hr7 : ∀ (x1 : Int32) (x2 : Int32) (x3 : Int32) (x4 : Int32) (M : IM), r7 x1 x2 x3 x4 M = some R → V g mX6_readsCondition (d + 1) 0 0 (qI S0 a R) 7 [some (.ref (a 100)), some (.int x1), some (.int x2), some (.int x3), some (.int x4)] [] a S0 M 0 0) (h : f_X6_readsCondition_39 qX6_readsComparison qX6_readsCondition r7 x1 x2 x4 M = some R) : V g mX6_readsCondition (d + 1) 0 0 (qI S0 a R) 39 [some (.ref (a 100)), some (.int x1), some (.int x2), none, some (.int x4)] [] a S0 M 0 0 := by
  unfold f_X6_readsCondition_39 at h
  refine V_aload_n rfl dX6_readsCondition_39 rfl rfl ?_
  refine V_getr (k0 := 5) rfl dX6_readsCondition_40 s0_100 icX6 (by decide) rfl w_433 ?_
  refine V_aload_n rfl dX6_readsCondition_43 rfl rfl ?_
  refine V_geti (k0 := 7) rfl dX6_readsCondition_44 s0_100 icX6 (by decide) rfl w_435 ?_
  replace h := rd_e h
  obtain ⟨hb11, h⟩ := h
  refine V_iald rfl dX6_readsCondition_47 s0_117 hb11 ?_
  refine V_sipush (v := 10016) rfl dX6_readsCondition_48 ks_10016 ?_
  refine V_icmp_ne (t := 58) rfl rfl dX6_readsCondition_51 (fun hc12 => ?_) (fun hc12 => ?_)
  · replace h := ifn hc12 h
    refine V_iconst (v := 0) rfl dX6_readsCondition_58 kc_0 ?_
    exact V_sub (le_s (le_s (le_s (le_n (le_s le_0))))) (t_X6_readsCondition_59 hD hqX6_readsComparison hqX6_readsCondition hr7 h)
  · replace h := ifp hc12 h
    refine V_iconst (v := 1) rfl dX6_readsCondition_54 kc_1 ?_
    refine V_goto (t := 59) rfl dX6_readsCondition_55 ?_
    exact V_sub (le_s (le_s (le_s (le_n (le_s le_0))))) (t_X6_readsCondition_59 hD hqX6_readsComparison hqX6_readsCondition hr7 h)
def f_X6_readsCondition_7_b (qX6_readsComparison : Int32 → IM → IR) (qX6_readsCondition : Int32 → IM → IR) (r7 : Int32 → Int32 → Int32 → Int32 → IM → IR) (x1 : Int32) (x2 : Int32) (x3 : Int32) (x4 : Int32) (M : IM) : IR := if 400 ≤ x4 then some (0, M) else cl (qX6_readsComparison x1 M) fun w2 M3 => if w2 = 0 then some (0, M3) else if x3 = 0 then f_X6_readsCondition_39 qX6_readsComparison qX6_readsCondition r7 x1 x2 x4 M3 else cl (f_X3_put 101 10016 M3) fun _ M8 => f_X6_readsCondition_39 qX6_readsComparison qX6_readsCondition r7 x1 x2 x4 M8
def f_X6_readsCondition_7 (qX6_readsComparison : Int32 → IM → IR) (qX6_readsCondition : Int32 → IM → IR) (n : Nat) : Int32 → Int32 → Int32 → Int32 → IM → IR := itr (fun _ _ _ _ _ => none) (f_X6_readsCondition_7_b qX6_readsComparison qX6_readsCondition) n
set_option maxRecDepth 100000 in
set_option maxHeartbeats 4000000 in
theorem t_X6_readsCondition_7 {g : IG} {a : Nat → Nat} {R : Int32 × IM} {qX6_readsComparison : Int32 → IM → IR} {qX6_readsCondition : Int32 → IM → IR} {d : Nat} (hD : 3 ≤ d) (hqX6_readsComparison : ∀ {p1 : Int32} {M : IM} {R : Int32 × IM}, qX6_readsComparison p1 M = some R → Cn g mX6_readsComparison d 0 0 (qI S0 a R) [.ref (a 100), .int p1] a S0 M) (hqX6_readsCondition : ∀ {p1 : Int32} {M : IM} {R : Int32 × IM}, qX6_readsCondition p1 M = some R → Cn g mX6_readsCondition d 0 0 (qI S0 a R) [.ref (a 100), .int p1] a S0 M) (n : Nat) : ∀ (x1 : Int32) (x2 : Int32) (x3 : Int32) (x4 : Int32) (M : IM), f_X6_readsCondition_7 qX6_readsComparison qX6_readsCondition n x1 x2 x3 x4 M = some R → V g mX6_readsCondition (d + 1) 0 0 (qI S0 a R) 7 [some (.ref (a 100)), some (.int x1), some (.int x2), some (.int x3), some (.int x4)] [] a S0 M 0 0 := by
  induction n with
  | zero => intro x1 x2 x3 x4 M h; exact absurd h (fun z => by cases z)
  | succ n hr7 =>
    intro x1 x2 x3 x4 M h
    replace h : f_X6_readsCondition_7_b qX6_readsComparison qX6_readsCondition (f_X6_readsCondition_7 qX6_readsComparison qX6_readsCondition n) x1 x2 x3 x4 M = some R := h
    unfold f_X6_readsCondition_7_b at h
    refine V_iload rfl dX6_readsCondition_7 rfl ?_
    refine V_sipush (v := 400) rfl dX6_readsCondition_9 ks_400 ?_
    refine V_icmp_ge (t := 115) rfl rfl dX6_readsCondition_12 (fun hc1 => ?_) (fun hc1 => ?_)
    · replace h := ifp hc1 h
      refine V_iconst (v := 0) rfl dX6_readsCondition_115 kc_0 ?_
      cases h
      exact V_iret dX6_readsCondition_116 rfl nz_0 (Nat.le_refl _) (Nat.le_refl _) qI_ok
    · replace h := ifn hc1 h
      refine V_aload_n rfl dX6_readsCondition_15 rfl rfl ?_
      refine V_iload_n rfl dX6_readsCondition_16 rfl rfl ?_
      replace h := cl_e h
      obtain ⟨w2, M3, hc4, h⟩ := h
      refine V_ii (As := [.int _]) rfl dX6_readsCondition_17 mf_X6_readsComparison ⟨w_754, w_10⟩ w_752 (Nat.lt_succ_self _) s0_100 rfl rfl rfl rfl ⟨rfl, rfl⟩ (hqX6_readsComparison hc4) ?_
      refine V_if_ne (t := 25) rfl rfl dX6_readsCondition_20 (fun hc5 => ?_) (fun hc5 => ?_)
      · replace h := ifn hc5 h
        refine V_iload_n rfl dX6_readsCondition_25 rfl rfl ?_
        refine V_if_eq (t := 39) rfl rfl dX6_readsCondition_26 (fun hc6 => ?_) (fun hc6 => ?_)
        · replace h := ifp hc6 h
          exact V_sub (le_s (le_s (le_s (le_n (le_s le_0))))) (t_X6_readsCondition_39 hD hqX6_readsComparison hqX6_readsCondition hr7 h)
        · replace h := ifn hc6 h
          refine V_aload_n rfl dX6_readsCondition_29 rfl rfl ?_
          refine V_getr (k0 := 2) rfl dX6_readsCondition_30 s0_100 icX6 (by decide) rfl w_427 ?_
          refine V_sipush (v := 10016) rfl dX6_readsCondition_33 ks_10016 ?_
          replace h := cl_e h
          obtain ⟨w7, M8, hc9, h⟩ := h
          refine V_iv (As := [.int _]) rfl dX6_readsCondition_36 mf_X3_put ⟨w_737, w_738⟩ w_736 (by omega) s0_101 rfl rfl rfl rfl ⟨rfl, rfl⟩ (t_X3_put isLaw_at101 hc9) ?_
          exact V_sub (le_s (le_s (le_s (le_n (le_s le_0))))) (t_X6_readsCondition_39 hD hqX6_readsComparison hqX6_readsCondition hr7 h)
      · replace h := ifp hc5 h
        refine V_iconst (v := 0) rfl dX6_readsCondition_23 kc_0 ?_
        cases h
        exact V_iret dX6_readsCondition_24 rfl nz_0 (Nat.le_refl _) (Nat.le_refl _) qI_ok
def f_X6_readsCondition_e (qX6_readsComparison : Int32 → IM → IR) (qX6_readsCondition : Int32 → IM → IR) (p1 : Int32) (M : IM) : IR := f_X6_readsCondition_7 qX6_readsComparison qX6_readsCondition BG p1 0 0 0 M
set_option maxRecDepth 100000 in
set_option maxHeartbeats 4000000 in
theorem t_X6_readsCondition_e {g : IG} {a : Nat → Nat} {R : Int32 × IM} {qX6_readsComparison : Int32 → IM → IR} {qX6_readsCondition : Int32 → IM → IR} {p1 : Int32} {M : IM} {d : Nat} (hD : 3 ≤ d) (hqX6_readsComparison : ∀ {p1 : Int32} {M : IM} {R : Int32 × IM}, qX6_readsComparison p1 M = some R → Cn g mX6_readsComparison d 0 0 (qI S0 a R) [.ref (a 100), .int p1] a S0 M) (hqX6_readsCondition : ∀ {p1 : Int32} {M : IM} {R : Int32 × IM}, qX6_readsCondition p1 M = some R → Cn g mX6_readsCondition d 0 0 (qI S0 a R) [.ref (a 100), .int p1] a S0 M) (h : f_X6_readsCondition_e qX6_readsComparison qX6_readsCondition p1 M = some R) : Cn g mX6_readsCondition (d + 1) 0 0 (qI S0 a R) [.ref (a 100), .int p1] a S0 M := by
  refine Cn_of (L := [some (.ref (a 100)), some (.int p1), none, none, none]) mf_X6_readsCondition (cat_r (cat_i cat_0)) (Nat.le_of_ble_eq_true rfl) rfl ?_
  unfold f_X6_readsCondition_e at h
  refine V_iconst (v := 0) rfl dX6_readsCondition_0 kc_0 ?_
  refine V_istore_n (L' := [_, _, _, _, _]) rfl rfl dX6_readsCondition_1 (by decide) rfl ?_
  refine V_iconst (v := 0) rfl dX6_readsCondition_2 kc_0 ?_
  refine V_istore_n (L' := [_, _, _, _, _]) rfl rfl dX6_readsCondition_3 (by decide) rfl ?_
  refine V_iconst (v := 0) rfl dX6_readsCondition_4 kc_0 ?_
  refine V_istore (L' := [_, _, _, _, _]) rfl dX6_readsCondition_5 (by decide) rfl ?_
  exact V_sub (le_s (le_s (le_s (le_s (le_s le_0))))) (t_X6_readsCondition_7 hD hqX6_readsComparison hqX6_readsCondition BG _ _ _ _ _ h)
def fr_X6_readsComparison : Nat → (Int32 → IM → IR) × (Int32 → IM → IR) := itr ((fun _ _ => none), (fun _ _ => none)) (fun q => (f_X6_readsComparison_e q.1 q.2, f_X6_readsCondition_e q.1 q.2))
theorem tr_X6_readsComparison {g : IG} {a : Nat → Nat} (n : Nat) : (∀ {p1 : Int32} {M : IM} {R : Int32 × IM}, (fr_X6_readsComparison n).1 p1 M = some R → Cn g mX6_readsComparison (3 + n) 0 0 (qI S0 a R) [.ref (a 100), .int p1] a S0 M) ∧ (∀ {p1 : Int32} {M : IM} {R : Int32 × IM}, (fr_X6_readsComparison n).2 p1 M = some R → Cn g mX6_readsCondition (3 + n) 0 0 (qI S0 a R) [.ref (a 100), .int p1] a S0 M) := by
  induction n with
  | zero => exact ⟨fun {p1 M R} h => absurd h (fun z => by cases z), fun {p1 M R} h => absurd h (fun z => by cases z)⟩
  | succ n ih => exact ⟨fun {p1 M R} h => t_X6_readsComparison_e (qX6_readsComparison := (fr_X6_readsComparison n).1) (qX6_readsCondition := (fr_X6_readsComparison n).2) (d := 3 + n) (by omega) ih.1 ih.2 h, fun {p1 M R} h => t_X6_readsCondition_e (qX6_readsComparison := (fr_X6_readsComparison n).1) (qX6_readsCondition := (fr_X6_readsComparison n).2) (d := 3 + n) (by omega) ih.1 ih.2 h⟩
def f_X6_readsComparison (p1 : Int32) (M : IM) : IR := (fr_X6_readsComparison 24).1 p1 M
theorem t_X6_readsComparison {g : IG} {a : Nat → Nat} {R : Int32 × IM} {p1 : Int32} {M : IM} (h : f_X6_readsComparison p1 M = some R) : Cn g mX6_readsComparison 27 0 0 (qI S0 a R) [.ref (a 100), .int p1] a S0 M := (tr_X6_readsComparison 24).1 h
def f_X6_readsCondition (p1 : Int32) (M : IM) : IR := (fr_X6_readsComparison 24).2 p1 M
theorem t_X6_readsCondition {g : IG} {a : Nat → Nat} {R : Int32 × IM} {p1 : Int32} {M : IM} (h : f_X6_readsCondition p1 M = some R) : Cn g mX6_readsCondition 27 0 0 (qI S0 a R) [.ref (a 100), .int p1] a S0 M := (tr_X6_readsComparison 24).2 h
-- X3_endLine: NeverHalted$Law.endLine()V
def f_X3_endLine (o0 : Nat) (M : IM) : IR := wr M (o0 + 4) 16 (M o0 0) (M o0 5) fun M1 => pt M1 o0 0 ((M1 o0 0) + 1) fun M3 => some (0, M3)
set_option maxRecDepth 100000 in
set_option maxHeartbeats 4000000 in
theorem t_X3_endLine {g : IG} {a : Nat → Nat} {R : Int32 × IM} {o0 : Nat} {M : IM} (h0 : isLaw o0) (h : f_X3_endLine o0 M = some R) : Cn g mX3_endLine 1 0 0 (qV S0 a R) [.ref (a o0)] a S0 M := by
  refine Cn_of (L := [some (.ref (a o0))]) mf_X3_endLine (cat_r cat_0) (Nat.le_of_ble_eq_true rfl) rfl ?_
  unfold f_X3_endLine at h
  refine V_aload_n rfl dX3_endLine_0 rfl rfl ?_
  refine V_getr (k0 := 4) rfl dX3_endLine_1 (isLaw_0 h0) icX3 (by decide) rfl w_268 ?_
  refine V_aload_n rfl dX3_endLine_4 rfl rfl ?_
  refine V_geti (k0 := 0) rfl dX3_endLine_5 (isLaw_0 h0) icX3 (by decide) rfl w_258 ?_
  refine V_aload_n rfl dX3_endLine_8 rfl rfl ?_
  refine V_geti (k0 := 5) rfl dX3_endLine_9 (isLaw_0 h0) icX3 (by decide) rfl w_270 ?_
  replace h := wr_e h
  obtain ⟨hb2, h⟩ := h
  refine V_iast rfl dX3_endLine_12 (isLaw_4 h0) hb2 ?_
  refine V_aload_n rfl dX3_endLine_13 rfl rfl ?_
  refine V_dup rfl dX3_endLine_14 rfl ?_
  refine V_geti (k0 := 0) rfl dX3_endLine_15 (isLaw_0 h0) icX3 (by decide) rfl w_258 ?_
  refine V_iconst (v := 1) rfl dX3_endLine_18 kc_1 ?_
  refine V_iadd rfl dX3_endLine_19 ?_
  replace h := pt_e h
  refine V_putf (k0 := 0) (ty := .int) rfl dX3_endLine_20 (isLaw_0 h0) icX3 tyX3_ok nmX3 (by decide) rfl w_258 rfl (tyX3_ok _ (by decide)) rfl rfl ?_
  cases h
  exact V_vret dX3_endLine_23 rfl (Nat.le_refl _) (Nat.le_refl _) qV_ok
-- X6_readsLawLine: NeverHalted$Reader.readsLawLine(Z)Z
def f_X6_readsLawLine_159 (M : IM) : IR := cl (f_X6_takes 20059 M) fun w48 M49 => if w48 = 0 then some (0, M49) else cl (f_X3_endLine 101 M49) fun _ M53 => some (1, M53)
set_option maxRecDepth 100000 in
set_option maxHeartbeats 4000000 in
theorem t_X6_readsLawLine_159 {g : IG} {a : Nat → Nat} {R : Int32 × IM} {M : IM} (h : f_X6_readsLawLine_159 M = some R) : V g mX6_readsLawLine 28 0 0 (qI S0 a R) 159 [some (.ref (a 100)), none, none, none, none] [] a S0 M 0 0 := by
  unfold f_X6_readsLawLine_159 at h
  refine V_aload_n rfl dX6_readsLawLine_159 rfl rfl ?_
  refine V_sipush (v := 20059) rfl dX6_readsLawLine_160 ks_20059 ?_
  replace h := cl_e h
  obtain ⟨w48, M49, hc50, h⟩ := h
  refine V_ii (As := [.int _]) rfl dX6_readsLawLine_163 mf_X6_takes ⟨w_758, w_11⟩ w_756 (by decide) s0_100 rfl rfl rfl rfl ⟨rfl, rfl⟩ (t_X6_takes hc50) ?_
  refine V_if_ne (t := 171) rfl rfl dX6_readsLawLine_166 (fun hc51 => ?_) (fun hc51 => ?_)
  · replace h := ifn hc51 h
    refine V_aload_n rfl dX6_readsLawLine_171 rfl rfl ?_
    refine V_getr (k0 := 2) rfl dX6_readsLawLine_172 s0_100 icX6 (by decide) rfl w_427 ?_
    replace h := cl_e h
    obtain ⟨w52, M53, hc54, h⟩ := h
    refine V_iv (As := []) rfl dX6_readsLawLine_175 mf_X3_endLine ⟨w_761, w_762⟩ w_760 (by decide) s0_101 rfl rfl rfl rfl ⟨rfl, rfl⟩ (t_X3_endLine isLaw_at101 hc54) ?_
    refine V_iconst (v := 1) rfl dX6_readsLawLine_178 kc_1 ?_
    cases h
    exact V_iret dX6_readsLawLine_179 rfl nz_1 (Nat.le_refl _) (Nat.le_refl _) qI_ok
  · replace h := ifp hc51 h
    refine V_iconst (v := 0) rfl dX6_readsLawLine_169 kc_0 ?_
    cases h
    exact V_iret dX6_readsLawLine_170 rfl nz_0 (Nat.le_refl _) (Nat.le_refl _) qI_ok
def f_X6_readsLawLine_123 (M : IM) : IR := cl (f_X3_beginCondition 101 M) fun _ M36 => rd M36 117 401 (M36 100 7) fun v38 => if v38 = 10014 then cl (f_X6_takesToken M36) fun _ M42 => cl (f_X6_readsCondition 0 M42) fun w44 M45 => if w44 = 0 then some (0, M45) else f_X6_readsLawLine_159 M45 else f_X6_readsLawLine_159 M36
set_option maxRecDepth 100000 in
set_option maxHeartbeats 4000000 in
theorem t_X6_readsLawLine_123 {g : IG} {a : Nat → Nat} {R : Int32 × IM} {M : IM} (h : f_X6_readsLawLine_123 M = some R) : V g mX6_readsLawLine 28 0 0 (qI S0 a R) 123 [some (.ref (a 100)), none, none, none, none] [] a S0 M 0 0 := by
  unfold f_X6_readsLawLine_123 at h
  refine V_aload_n rfl dX6_readsLawLine_123 rfl rfl ?_
  refine V_getr (k0 := 2) rfl dX6_readsLawLine_124 s0_100 icX6 (by decide) rfl w_427 ?_
  replace h := cl_e h
  obtain ⟨w35, M36, hc37, h⟩ := h
  refine V_iv (As := []) rfl dX6_readsLawLine_127 mf_X3_beginCondition ⟨w_745, w_746⟩ w_744 (by decide) s0_101 rfl rfl rfl rfl ⟨rfl, rfl⟩ (t_X3_beginCondition isLaw_at101 hc37) ?_
  refine V_aload_n rfl dX6_readsLawLine_130 rfl rfl ?_
  refine V_getr (k0 := 5) rfl dX6_readsLawLine_131 s0_100 icX6 (by decide) rfl w_433 ?_
  refine V_aload_n rfl dX6_readsLawLine_134 rfl rfl ?_
  refine V_geti (k0 := 7) rfl dX6_readsLawLine_135 s0_100 icX6 (by decide) rfl w_435 ?_
  replace h := rd_e h
  obtain ⟨hb39, h⟩ := h
  refine V_iald rfl dX6_readsLawLine_138 s0_117 hb39 ?_
  refine V_sipush (v := 10014) rfl dX6_readsLawLine_139 ks_10014 ?_
  refine V_icmp_ne (t := 159) rfl rfl dX6_readsLawLine_142 (fun hc40 => ?_) (fun hc40 => ?_)
  · replace h := ifn hc40 h
    exact V_sub (le_s (le_n (le_n (le_n (le_n le_0))))) (t_X6_readsLawLine_159 h)
  · replace h := ifp hc40 h
    refine V_aload_n rfl dX6_readsLawLine_145 rfl rfl ?_
    replace h := cl_e h
    obtain ⟨w41, M42, hc43, h⟩ := h
    refine V_iv (As := []) rfl dX6_readsLawLine_146 mf_X6_takesToken ⟨w_720, w_5⟩ w_718 (by decide) s0_100 rfl rfl rfl rfl ⟨rfl, rfl⟩ (t_X6_takesToken hc43) ?_
    refine V_aload_n rfl dX6_readsLawLine_149 rfl rfl ?_
    refine V_iconst (v := 0) rfl dX6_readsLawLine_150 kc_0 ?_
    replace h := cl_e h
    obtain ⟨w44, M45, hc46, h⟩ := h
    refine V_ii (As := [.int _]) rfl dX6_readsLawLine_151 mf_X6_readsCondition ⟨w_750, w_9⟩ w_748 (by decide) s0_100 rfl rfl rfl rfl ⟨rfl, rfl⟩ (t_X6_readsCondition hc46) ?_
    refine V_if_ne (t := 159) rfl rfl dX6_readsLawLine_154 (fun hc47 => ?_) (fun hc47 => ?_)
    · replace h := ifn hc47 h
      exact V_sub (le_s (le_n (le_n (le_n (le_n le_0))))) (t_X6_readsLawLine_159 h)
    · replace h := ifp hc47 h
      refine V_iconst (v := 0) rfl dX6_readsLawLine_157 kc_0 ?_
      cases h
      exact V_iret dX6_readsLawLine_158 rfl nz_0 (Nat.le_refl _) (Nat.le_refl _) qI_ok
def f_X6_readsLawLine_80 (x1 : Int32) (x2 : Int32) (M : IM) : IR := if (M 101 0) < 16 then cl (f_X6_takesToken M) fun _ M21 => cl (f_X3_beginLine 101 x2 M21) fun _ M24 => if x1 = 0 then f_X6_readsLawLine_123 M24 else cl (f_X6_readsSum M24) fun w27 M28 => if w27 = 0 then some (0, M28) else f_X6_readsLawLine_123 M28 else cl (f_X6_refuses 3 M) fun w31 M32 => rz w31 M32
set_option maxRecDepth 100000 in
set_option maxHeartbeats 4000000 in
theorem t_X6_readsLawLine_80 {g : IG} {a : Nat → Nat} {R : Int32 × IM} {x1 : Int32} {x2 : Int32} {M : IM} (h : f_X6_readsLawLine_80 x1 x2 M = some R) : V g mX6_readsLawLine 28 0 0 (qI S0 a R) 80 [some (.ref (a 100)), some (.int x1), some (.int x2), none, none] [] a S0 M 0 0 := by
  unfold f_X6_readsLawLine_80 at h
  refine V_aload_n rfl dX6_readsLawLine_80 rfl rfl ?_
  refine V_getr (k0 := 2) rfl dX6_readsLawLine_81 s0_100 icX6 (by decide) rfl w_427 ?_
  refine V_geti (k0 := 0) rfl dX6_readsLawLine_84 s0_101 icX3 (by decide) rfl w_260 ?_
  refine V_bipush (v := 16) rfl dX6_readsLawLine_87 kb_16 ?_
  refine V_icmp_lt (t := 98) rfl rfl dX6_readsLawLine_89 (fun hc19 => ?_) (fun hc19 => ?_)
  · replace h := ifp hc19 h
    refine V_aload_n rfl dX6_readsLawLine_98 rfl rfl ?_
    replace h := cl_e h
    obtain ⟨w20, M21, hc22, h⟩ := h
    refine V_iv (As := []) rfl dX6_readsLawLine_99 mf_X6_takesToken ⟨w_720, w_5⟩ w_718 (by decide) s0_100 rfl rfl rfl rfl ⟨rfl, rfl⟩ (t_X6_takesToken hc22) ?_
    refine V_aload_n rfl dX6_readsLawLine_102 rfl rfl ?_
    refine V_getr (k0 := 2) rfl dX6_readsLawLine_103 s0_100 icX6 (by decide) rfl w_427 ?_
    refine V_iload_n rfl dX6_readsLawLine_106 rfl rfl ?_
    replace h := cl_e h
    obtain ⟨w23, M24, hc25, h⟩ := h
    refine V_iv (As := [.int _]) rfl dX6_readsLawLine_107 mf_X3_beginLine ⟨w_723, w_724⟩ w_722 (by decide) s0_101 rfl rfl rfl rfl ⟨rfl, rfl⟩ (t_X3_beginLine isLaw_at101 hc25) ?_
    refine V_iload_n rfl dX6_readsLawLine_110 rfl rfl ?_
    refine V_if_eq (t := 123) rfl rfl dX6_readsLawLine_111 (fun hc26 => ?_) (fun hc26 => ?_)
    · replace h := ifp hc26 h
      exact V_sub (le_s (le_n (le_n (le_n (le_n le_0))))) (t_X6_readsLawLine_123 h)
    · replace h := ifn hc26 h
      refine V_aload_n rfl dX6_readsLawLine_114 rfl rfl ?_
      replace h := cl_e h
      obtain ⟨w27, M28, hc29, h⟩ := h
      refine V_ii (As := []) rfl dX6_readsLawLine_115 mf_X6_readsSum ⟨w_728, w_6⟩ w_726 (by decide) s0_100 rfl rfl rfl rfl ⟨rfl, rfl⟩ (t_X6_readsSum hc29) ?_
      refine V_if_ne (t := 123) rfl rfl dX6_readsLawLine_118 (fun hc30 => ?_) (fun hc30 => ?_)
      · replace h := ifn hc30 h
        exact V_sub (le_s (le_n (le_n (le_n (le_n le_0))))) (t_X6_readsLawLine_123 h)
      · replace h := ifp hc30 h
        refine V_iconst (v := 0) rfl dX6_readsLawLine_121 kc_0 ?_
        cases h
        exact V_iret dX6_readsLawLine_122 rfl nz_0 (Nat.le_refl _) (Nat.le_refl _) qI_ok
  · replace h := ifn hc19 h
    refine V_aload_n rfl dX6_readsLawLine_92 rfl rfl ?_
    refine V_iconst (v := 3) rfl dX6_readsLawLine_93 kc_3 ?_
    replace h := cl_e h
    obtain ⟨w31, M32, hc33, h⟩ := h
    refine V_ii (As := [.int _]) rfl dX6_readsLawLine_94 mf_X6_refuses ⟨w_716, w_4⟩ w_714 (by decide) s0_100 rfl rfl rfl rfl ⟨rfl, rfl⟩ (t_X6_refuses hc33) ?_
    replace h := rz_e h
    obtain ⟨hz34, h⟩ := h
    cases h
    exact V_iret dX6_readsLawLine_97 rfl (nar_z hz34) (Nat.le_refl _) (Nat.le_refl _) qI_ok
def f_X6_readsLawLine_56 (x1 : Int32) (x2 : Int32) (x3 : Int32) (y0 : Int32) (M : IM) : IR := if x1 = 0 then if y0 = 0 then cl (f_X6_refuses 1 M) fun w10 M11 => rz w10 M11 else f_X6_readsLawLine_80 x1 x2 M else if x3 = 0 then cl (f_X6_refuses 1 M) fun w15 M16 => rz w15 M16 else f_X6_readsLawLine_80 x1 x2 M
set_option maxRecDepth 100000 in
set_option maxHeartbeats 4000000 in
theorem t_X6_readsLawLine_56 {g : IG} {a : Nat → Nat} {R : Int32 × IM} {x1 : Int32} {x2 : Int32} {x3 : Int32} {y0 : Int32} {M : IM} (h : f_X6_readsLawLine_56 x1 x2 x3 y0 M = some R) : V g mX6_readsLawLine 28 0 0 (qI S0 a R) 56 [some (.ref (a 100)), some (.int x1), some (.int x2), some (.int x3), none] [.int y0] a S0 M 0 0 := by
  unfold f_X6_readsLawLine_56 at h
  refine V_istore (L' := [_, _, _, _, _]) rfl dX6_readsLawLine_56 (by decide) rfl ?_
  refine V_iload_n rfl dX6_readsLawLine_58 rfl rfl ?_
  refine V_if_eq (t := 69) rfl rfl dX6_readsLawLine_59 (fun hc8 => ?_) (fun hc8 => ?_)
  · replace h := ifp hc8 h
    refine V_iload rfl dX6_readsLawLine_69 rfl ?_
    refine V_if_ne (t := 80) rfl rfl dX6_readsLawLine_71 (fun hc9 => ?_) (fun hc9 => ?_)
    · replace h := ifn hc9 h
      exact V_sub (le_s (le_s (le_s (le_n (le_n le_0))))) (t_X6_readsLawLine_80 h)
    · replace h := ifp hc9 h
      refine V_aload_n rfl dX6_readsLawLine_74 rfl rfl ?_
      refine V_iconst (v := 1) rfl dX6_readsLawLine_75 kc_1 ?_
      replace h := cl_e h
      obtain ⟨w10, M11, hc12, h⟩ := h
      refine V_ii (As := [.int _]) rfl dX6_readsLawLine_76 mf_X6_refuses ⟨w_716, w_4⟩ w_714 (by decide) s0_100 rfl rfl rfl rfl ⟨rfl, rfl⟩ (t_X6_refuses hc12) ?_
      replace h := rz_e h
      obtain ⟨hz13, h⟩ := h
      cases h
      exact V_iret dX6_readsLawLine_79 rfl (nar_z hz13) (Nat.le_refl _) (Nat.le_refl _) qI_ok
  · replace h := ifn hc8 h
    refine V_iload_n rfl dX6_readsLawLine_62 rfl rfl ?_
    refine V_if_eq (t := 74) rfl rfl dX6_readsLawLine_63 (fun hc14 => ?_) (fun hc14 => ?_)
    · replace h := ifp hc14 h
      refine V_aload_n rfl dX6_readsLawLine_74 rfl rfl ?_
      refine V_iconst (v := 1) rfl dX6_readsLawLine_75 kc_1 ?_
      replace h := cl_e h
      obtain ⟨w15, M16, hc17, h⟩ := h
      refine V_ii (As := [.int _]) rfl dX6_readsLawLine_76 mf_X6_refuses ⟨w_716, w_4⟩ w_714 (by decide) s0_100 rfl rfl rfl rfl ⟨rfl, rfl⟩ (t_X6_refuses hc17) ?_
      replace h := rz_e h
      obtain ⟨hz18, h⟩ := h
      cases h
      exact V_iret dX6_readsLawLine_79 rfl (nar_z hz18) (Nat.le_refl _) (Nat.le_refl _) qI_ok
    · replace h := ifn hc14 h
      refine V_goto (t := 80) rfl dX6_readsLawLine_66 ?_
      exact V_sub (le_s (le_s (le_s (le_n (le_n le_0))))) (t_X6_readsLawLine_80 h)
def f_X6_readsLawLine_36 (x1 : Int32) (x2 : Int32) (y0 : Int32) (M : IM) : IR := if x2 = 10009 then f_X6_readsLawLine_56 x1 x2 y0 1 M else if x2 = 10010 then f_X6_readsLawLine_56 x1 x2 y0 1 M else f_X6_readsLawLine_56 x1 x2 y0 0 M
set_option maxRecDepth 100000 in
set_option maxHeartbeats 4000000 in
theorem t_X6_readsLawLine_36 {g : IG} {a : Nat → Nat} {R : Int32 × IM} {x1 : Int32} {x2 : Int32} {y0 : Int32} {M : IM} (h : f_X6_readsLawLine_36 x1 x2 y0 M = some R) : V g mX6_readsLawLine 28 0 0 (qI S0 a R) 36 [some (.ref (a 100)), some (.int x1), some (.int x2), none, none] [.int y0] a S0 M 0 0 := by
  unfold f_X6_readsLawLine_36 at h
  refine V_istore_n (L' := [_, _, _, _, _]) rfl rfl dX6_readsLawLine_36 (by decide) rfl ?_
  refine V_iload_n rfl dX6_readsLawLine_37 rfl rfl ?_
  refine V_sipush (v := 10009) rfl dX6_readsLawLine_38 ks_10009 ?_
  refine V_icmp_eq (t := 51) rfl rfl dX6_readsLawLine_41 (fun hc6 => ?_) (fun hc6 => ?_)
  · replace h := ifp hc6 h
    refine V_iconst (v := 1) rfl dX6_readsLawLine_51 kc_1 ?_
    refine V_goto (t := 56) rfl dX6_readsLawLine_52 ?_
    exact V_sub (le_s (le_s (le_s (le_s (le_n le_0))))) (t_X6_readsLawLine_56 h)
  · replace h := ifn hc6 h
    refine V_iload_n rfl dX6_readsLawLine_44 rfl rfl ?_
    refine V_sipush (v := 10010) rfl dX6_readsLawLine_45 ks_10010 ?_
    refine V_icmp_ne (t := 55) rfl rfl dX6_readsLawLine_48 (fun hc7 => ?_) (fun hc7 => ?_)
    · replace h := ifn hc7 h
      refine V_iconst (v := 0) rfl dX6_readsLawLine_55 kc_0 ?_
      exact V_sub (le_s (le_s (le_s (le_s (le_n le_0))))) (t_X6_readsLawLine_56 h)
    · replace h := ifp hc7 h
      refine V_iconst (v := 1) rfl dX6_readsLawLine_51 kc_1 ?_
      refine V_goto (t := 56) rfl dX6_readsLawLine_52 ?_
      exact V_sub (le_s (le_s (le_s (le_s (le_n le_0))))) (t_X6_readsLawLine_56 h)
def f_X6_readsLawLine (p1 : Int32) (M : IM) : IR := rd M 117 401 (M 100 7) fun v1 => if v1 = 10011 then f_X6_readsLawLine_36 p1 v1 1 M else if v1 = 10012 then f_X6_readsLawLine_36 p1 v1 1 M else if v1 = 10013 then f_X6_readsLawLine_36 p1 v1 1 M else f_X6_readsLawLine_36 p1 v1 0 M
set_option maxRecDepth 100000 in
set_option maxHeartbeats 4000000 in
theorem t_X6_readsLawLine {g : IG} {a : Nat → Nat} {R : Int32 × IM} {p1 : Int32} {M : IM} (h : f_X6_readsLawLine p1 M = some R) : Cn g mX6_readsLawLine 28 0 0 (qI S0 a R) [.ref (a 100), .int p1] a S0 M := by
  refine Cn_of (L := [some (.ref (a 100)), some (.int p1), none, none, none]) mf_X6_readsLawLine (cat_r (cat_i cat_0)) (Nat.le_of_ble_eq_true rfl) rfl ?_
  unfold f_X6_readsLawLine at h
  refine V_aload_n rfl dX6_readsLawLine_0 rfl rfl ?_
  refine V_getr (k0 := 5) rfl dX6_readsLawLine_1 s0_100 icX6 (by decide) rfl w_433 ?_
  refine V_aload_n rfl dX6_readsLawLine_4 rfl rfl ?_
  refine V_geti (k0 := 7) rfl dX6_readsLawLine_5 s0_100 icX6 (by decide) rfl w_435 ?_
  replace h := rd_e h
  obtain ⟨hb2, h⟩ := h
  refine V_iald rfl dX6_readsLawLine_8 s0_117 hb2 ?_
  refine V_istore_n (L' := [_, _, _, _, _]) rfl rfl dX6_readsLawLine_9 (by decide) rfl ?_
  refine V_iload_n rfl dX6_readsLawLine_10 rfl rfl ?_
  refine V_sipush (v := 10011) rfl dX6_readsLawLine_11 ks_10011 ?_
  refine V_icmp_eq (t := 31) rfl rfl dX6_readsLawLine_14 (fun hc3 => ?_) (fun hc3 => ?_)
  · replace h := ifp hc3 h
    refine V_iconst (v := 1) rfl dX6_readsLawLine_31 kc_1 ?_
    refine V_goto (t := 36) rfl dX6_readsLawLine_32 ?_
    exact V_sub (le_s (le_s (le_s (le_n (le_n le_0))))) (t_X6_readsLawLine_36 h)
  · replace h := ifn hc3 h
    refine V_iload_n rfl dX6_readsLawLine_17 rfl rfl ?_
    refine V_sipush (v := 10012) rfl dX6_readsLawLine_18 ks_10012 ?_
    refine V_icmp_eq (t := 31) rfl rfl dX6_readsLawLine_21 (fun hc4 => ?_) (fun hc4 => ?_)
    · replace h := ifp hc4 h
      refine V_iconst (v := 1) rfl dX6_readsLawLine_31 kc_1 ?_
      refine V_goto (t := 36) rfl dX6_readsLawLine_32 ?_
      exact V_sub (le_s (le_s (le_s (le_n (le_n le_0))))) (t_X6_readsLawLine_36 h)
    · replace h := ifn hc4 h
      refine V_iload_n rfl dX6_readsLawLine_24 rfl rfl ?_
      refine V_sipush (v := 10013) rfl dX6_readsLawLine_25 ks_10013 ?_
      refine V_icmp_ne (t := 35) rfl rfl dX6_readsLawLine_28 (fun hc5 => ?_) (fun hc5 => ?_)
      · replace h := ifn hc5 h
        refine V_iconst (v := 0) rfl dX6_readsLawLine_35 kc_0 ?_
        exact V_sub (le_s (le_s (le_s (le_n (le_n le_0))))) (t_X6_readsLawLine_36 h)
      · replace h := ifp hc5 h
        refine V_iconst (v := 1) rfl dX6_readsLawLine_31 kc_1 ?_
        refine V_goto (t := 36) rfl dX6_readsLawLine_32 ?_
        exact V_sub (le_s (le_s (le_s (le_n (le_n le_0))))) (t_X6_readsLawLine_36 h)
-- X6_readsLaw: NeverHalted$Reader.readsLaw(Z)Z
def f_X6_readsLaw_9_b (r9 : Int32 → Int32 → IM → IR) (x1 : Int32) (x2 : Int32) (M : IM) : IR := if 16 < x2 then some (0, M) else rd M 117 401 (M 100 7) fun v5 => if v5 = 30000 then some (1, M) else cl (f_X6_readsLawLine x1 M) fun w8 M9 => if w8 = 0 then some (0, M9) else lt (x2 + 1) fun v12 => r9 x1 v12 M9
def f_X6_readsLaw_9 (n : Nat) : Int32 → Int32 → IM → IR := itr (fun _ _ _ => none) (f_X6_readsLaw_9_b) n
set_option maxRecDepth 100000 in
set_option maxHeartbeats 4000000 in
theorem t_X6_readsLaw_9 {g : IG} {a : Nat → Nat} {R : Int32 × IM} (n : Nat) : ∀ (x1 : Int32) (x2 : Int32) (M : IM), f_X6_readsLaw_9 n x1 x2 M = some R → V g mX6_readsLaw 29 0 0 (qI S0 a R) 9 [some (.ref (a 100)), some (.int x1), some (.int x2)] [] a S0 M 0 0 := by
  induction n with
  | zero => intro x1 x2 M h; exact absurd h (fun z => by cases z)
  | succ n hr9 =>
    intro x1 x2 M h
    replace h : f_X6_readsLaw_9_b (f_X6_readsLaw_9 n) x1 x2 M = some R := h
    unfold f_X6_readsLaw_9_b at h
    refine V_iload_n rfl dX6_readsLaw_9 rfl rfl ?_
    refine V_bipush (v := 16) rfl dX6_readsLaw_10 kb_16 ?_
    refine V_icmp_gt (t := 48) rfl rfl dX6_readsLaw_12 (fun hc4 => ?_) (fun hc4 => ?_)
    · replace h := ifp hc4 h
      refine V_iconst (v := 0) rfl dX6_readsLaw_48 kc_0 ?_
      cases h
      exact V_iret dX6_readsLaw_49 rfl nz_0 (Nat.le_refl _) (Nat.le_refl _) qI_ok
    · replace h := ifn hc4 h
      refine V_aload_n rfl dX6_readsLaw_15 rfl rfl ?_
      refine V_getr (k0 := 5) rfl dX6_readsLaw_16 s0_100 icX6 (by decide) rfl w_433 ?_
      refine V_aload_n rfl dX6_readsLaw_19 rfl rfl ?_
      refine V_geti (k0 := 7) rfl dX6_readsLaw_20 s0_100 icX6 (by decide) rfl w_435 ?_
      replace h := rd_e h
      obtain ⟨hb6, h⟩ := h
      refine V_iald rfl dX6_readsLaw_23 s0_117 hb6 ?_
      refine V_sipush (v := 30000) rfl dX6_readsLaw_24 ks_30000 ?_
      refine V_icmp_ne (t := 32) rfl rfl dX6_readsLaw_27 (fun hc7 => ?_) (fun hc7 => ?_)
      · replace h := ifn hc7 h
        refine V_aload_n rfl dX6_readsLaw_32 rfl rfl ?_
        refine V_iload_n rfl dX6_readsLaw_33 rfl rfl ?_
        replace h := cl_e h
        obtain ⟨w8, M9, hc10, h⟩ := h
        refine V_ii (As := [.int _]) rfl dX6_readsLaw_34 mf_X6_readsLawLine ⟨w_712, w_3⟩ w_710 (by decide) s0_100 rfl rfl rfl rfl ⟨rfl, rfl⟩ (t_X6_readsLawLine hc10) ?_
        refine V_if_ne (t := 42) rfl rfl dX6_readsLaw_37 (fun hc11 => ?_) (fun hc11 => ?_)
        · replace h := ifn hc11 h
          replace h := lt_e h
          refine V_inc (L' := [_, _, _]) rfl dX6_readsLaw_42 rfl kc_1 (by decide) rfl ?_
          refine V_goto (t := 9) rfl dX6_readsLaw_45 ?_
          exact V_sub (le_s (le_s (le_s le_0))) (hr9 _ _ _ h)
        · replace h := ifp hc11 h
          refine V_iconst (v := 0) rfl dX6_readsLaw_40 kc_0 ?_
          cases h
          exact V_iret dX6_readsLaw_41 rfl nz_0 (Nat.le_refl _) (Nat.le_refl _) qI_ok
      · replace h := ifp hc7 h
        refine V_iconst (v := 1) rfl dX6_readsLaw_30 kc_1 ?_
        cases h
        exact V_iret dX6_readsLaw_31 rfl nz_1 (Nat.le_refl _) (Nat.le_refl _) qI_ok
def f_X6_readsLaw (p1 : Int32) (M : IM) : IR := cl (f_X3_clear 101 M) fun _ M2 => f_X6_readsLaw_9 BG p1 0 M2
set_option maxRecDepth 100000 in
set_option maxHeartbeats 4000000 in
theorem t_X6_readsLaw {g : IG} {a : Nat → Nat} {R : Int32 × IM} {p1 : Int32} {M : IM} (h : f_X6_readsLaw p1 M = some R) : Cn g mX6_readsLaw 29 0 0 (qI S0 a R) [.ref (a 100), .int p1] a S0 M := by
  refine Cn_of (L := [some (.ref (a 100)), some (.int p1), none]) mf_X6_readsLaw (cat_r (cat_i cat_0)) (Nat.le_of_ble_eq_true rfl) rfl ?_
  unfold f_X6_readsLaw at h
  refine V_aload_n rfl dX6_readsLaw_0 rfl rfl ?_
  refine V_getr (k0 := 2) rfl dX6_readsLaw_1 s0_100 icX6 (by decide) rfl w_427 ?_
  replace h := cl_e h
  obtain ⟨w1, M2, hc3, h⟩ := h
  refine V_iv (As := []) rfl dX6_readsLaw_4 mf_X3_clear ⟨w_707, w_708⟩ w_706 (by decide) s0_101 rfl rfl rfl rfl ⟨rfl, rfl⟩ (t_X3_clear isLaw_at101 hc3) ?_
  refine V_iconst (v := 0) rfl dX6_readsLaw_7 kc_0 ?_
  refine V_istore_n (L' := [_, _, _]) rfl rfl dX6_readsLaw_8 (by decide) rfl ?_
  exact V_sub (le_s (le_s (le_s le_0))) (t_X6_readsLaw_9 BG _ _ _ h)
-- X3_become: NeverHalted$Law.become(LNeverHalted$Law;)I
def f_X3_become (o0 : Nat) (o1 : Nat) (M : IM) : IR := pt M o0 0 (M o1 0) fun M1 => pt M1 o0 5 (M1 o1 5) fun M2 => cp M2 (o1 + 1) 16 0 (o0 + 1) 16 0 16 fun M3 => cp M3 (o1 + 2) 16 0 (o0 + 2) 16 0 16 fun M5 => cp M5 (o1 + 3) 16 0 (o0 + 3) 16 0 16 fun M7 => cp M7 (o1 + 4) 16 0 (o0 + 4) 16 0 16 fun M9 => cp M9 (o1 + 5) 400 0 (o0 + 5) 400 0 (M9 o0 5) fun M11 => some ((M11 o0 0), M11)
set_option maxRecDepth 100000 in
set_option maxHeartbeats 4000000 in
theorem t_X3_become {g : IG} {a : Nat → Nat} {R : Int32 × IM} {o0 : Nat} {o1 : Nat} {M : IM} (h0 : isLaw o0) (h1 : isLaw o1) (h : f_X3_become o0 o1 M = some R) : Cn g mX3_become 1 0 0 (qI S0 a R) [.ref (a o0), .ref (a o1)] a S0 M := by
  refine Cn_of (L := [some (.ref (a o0)), some (.ref (a o1))]) mf_X3_become (cat_r (cat_r cat_0)) (Nat.le_of_ble_eq_true rfl) rfl ?_
  unfold f_X3_become at h
  refine V_aload_n rfl dX3_become_0 rfl rfl ?_
  refine V_aload_n rfl dX3_become_1 rfl rfl ?_
  refine V_geti (k0 := 0) rfl dX3_become_2 (isLaw_0 h1) icX3 (by decide) rfl w_258 ?_
  replace h := pt_e h
  refine V_putf (k0 := 0) (ty := .int) rfl dX3_become_5 (isLaw_0 h0) icX3 tyX3_ok nmX3 (by decide) rfl w_258 rfl (tyX3_ok _ (by decide)) rfl rfl ?_
  refine V_aload_n rfl dX3_become_8 rfl rfl ?_
  refine V_aload_n rfl dX3_become_9 rfl rfl ?_
  refine V_geti (k0 := 5) rfl dX3_become_10 (isLaw_0 h1) icX3 (by decide) rfl w_270 ?_
  replace h := pt_e h
  refine V_putf (k0 := 5) (ty := .int) rfl dX3_become_13 (isLaw_0 h0) icX3 tyX3_ok nmX3 (by decide) rfl w_270 rfl (tyX3_ok _ (by decide)) rfl rfl ?_
  refine V_aload_n rfl dX3_become_16 rfl rfl ?_
  refine V_getr (k0 := 1) rfl dX3_become_17 (isLaw_0 h1) icX3 (by decide) rfl w_262 ?_
  refine V_iconst (v := 0) rfl dX3_become_20 kc_0 ?_
  refine V_aload_n rfl dX3_become_21 rfl rfl ?_
  refine V_getr (k0 := 1) rfl dX3_become_22 (isLaw_0 h0) icX3 (by decide) rfl w_262 ?_
  refine V_iconst (v := 0) rfl dX3_become_25 kc_0 ?_
  refine V_bipush (v := 16) rfl dX3_become_26 kb_16 ?_
  replace h := cp_e h
  obtain ⟨hb4, h⟩ := h
  refine V_copy rfl dX3_become_28 w_768 ⟨w_770, w_769, w_156⟩ (isLaw_1 h1) (isLaw_1 h0) rfl hb4 ?_
  refine V_aload_n rfl dX3_become_31 rfl rfl ?_
  refine V_getr (k0 := 2) rfl dX3_become_32 (isLaw_0 h1) icX3 (by decide) rfl w_264 ?_
  refine V_iconst (v := 0) rfl dX3_become_35 kc_0 ?_
  refine V_aload_n rfl dX3_become_36 rfl rfl ?_
  refine V_getr (k0 := 2) rfl dX3_become_37 (isLaw_0 h0) icX3 (by decide) rfl w_264 ?_
  refine V_iconst (v := 0) rfl dX3_become_40 kc_0 ?_
  refine V_bipush (v := 16) rfl dX3_become_41 kb_16 ?_
  replace h := cp_e h
  obtain ⟨hb6, h⟩ := h
  refine V_copy rfl dX3_become_43 w_768 ⟨w_770, w_769, w_156⟩ (isLaw_2 h1) (isLaw_2 h0) rfl hb6 ?_
  refine V_aload_n rfl dX3_become_46 rfl rfl ?_
  refine V_getr (k0 := 3) rfl dX3_become_47 (isLaw_0 h1) icX3 (by decide) rfl w_266 ?_
  refine V_iconst (v := 0) rfl dX3_become_50 kc_0 ?_
  refine V_aload_n rfl dX3_become_51 rfl rfl ?_
  refine V_getr (k0 := 3) rfl dX3_become_52 (isLaw_0 h0) icX3 (by decide) rfl w_266 ?_
  refine V_iconst (v := 0) rfl dX3_become_55 kc_0 ?_
  refine V_bipush (v := 16) rfl dX3_become_56 kb_16 ?_
  replace h := cp_e h
  obtain ⟨hb8, h⟩ := h
  refine V_copy rfl dX3_become_58 w_768 ⟨w_770, w_769, w_156⟩ (isLaw_3 h1) (isLaw_3 h0) rfl hb8 ?_
  refine V_aload_n rfl dX3_become_61 rfl rfl ?_
  refine V_getr (k0 := 4) rfl dX3_become_62 (isLaw_0 h1) icX3 (by decide) rfl w_268 ?_
  refine V_iconst (v := 0) rfl dX3_become_65 kc_0 ?_
  refine V_aload_n rfl dX3_become_66 rfl rfl ?_
  refine V_getr (k0 := 4) rfl dX3_become_67 (isLaw_0 h0) icX3 (by decide) rfl w_268 ?_
  refine V_iconst (v := 0) rfl dX3_become_70 kc_0 ?_
  refine V_bipush (v := 16) rfl dX3_become_71 kb_16 ?_
  replace h := cp_e h
  obtain ⟨hb10, h⟩ := h
  refine V_copy rfl dX3_become_73 w_768 ⟨w_770, w_769, w_156⟩ (isLaw_4 h1) (isLaw_4 h0) rfl hb10 ?_
  refine V_aload_n rfl dX3_become_76 rfl rfl ?_
  refine V_getr (k0 := 6) rfl dX3_become_77 (isLaw_0 h1) icX3 (by decide) rfl w_271 ?_
  refine V_iconst (v := 0) rfl dX3_become_80 kc_0 ?_
  refine V_aload_n rfl dX3_become_81 rfl rfl ?_
  refine V_getr (k0 := 6) rfl dX3_become_82 (isLaw_0 h0) icX3 (by decide) rfl w_271 ?_
  refine V_iconst (v := 0) rfl dX3_become_85 kc_0 ?_
  refine V_aload_n rfl dX3_become_86 rfl rfl ?_
  refine V_geti (k0 := 5) rfl dX3_become_87 (isLaw_0 h0) icX3 (by decide) rfl w_270 ?_
  replace h := cp_e h
  obtain ⟨hb12, h⟩ := h
  refine V_copy rfl dX3_become_90 w_768 ⟨w_770, w_769, w_156⟩ (isLaw_5 h1) (isLaw_5 h0) rfl hb12 ?_
  refine V_aload_n rfl dX3_become_93 rfl rfl ?_
  refine V_geti (k0 := 0) rfl dX3_become_94 (isLaw_0 h0) icX3 (by decide) rfl w_258 ?_
  cases h
  exact V_iret dX3_become_97 rfl rfl (Nat.le_refl _) (Nat.le_refl _) qI_ok
-- X6_opensLine: NeverHalted$Reader.opensLine(IZ)Z
def f_X6_opensLine (p1 : Int32) (p2 : Int32) (M : IM) : IR := rd M 117 401 (M 100 7) fun v1 => if v1 = p1 then if p2 = 0 then cl (f_X6_refuses 3 M) fun w13 M14 => rz w13 M14 else cl (f_X6_takes p1 M) fun w9 M10 => rz w9 M10 else cl (f_X6_takes p1 M) fun w4 M5 => rz w4 M5
set_option maxRecDepth 100000 in
set_option maxHeartbeats 4000000 in
theorem t_X6_opensLine {g : IG} {a : Nat → Nat} {R : Int32 × IM} {p1 : Int32} {p2 : Int32} {M : IM} (h : f_X6_opensLine p1 p2 M = some R) : Cn g mX6_opensLine 3 0 0 (qI S0 a R) [.ref (a 100), .int p1, .int p2] a S0 M := by
  refine Cn_of (L := [some (.ref (a 100)), some (.int p1), some (.int p2)]) mf_X6_opensLine (cat_r (cat_i (cat_i cat_0))) (Nat.le_of_ble_eq_true rfl) rfl ?_
  unfold f_X6_opensLine at h
  refine V_aload_n rfl dX6_opensLine_0 rfl rfl ?_
  refine V_getr (k0 := 5) rfl dX6_opensLine_1 s0_100 icX6 (by decide) rfl w_433 ?_
  refine V_aload_n rfl dX6_opensLine_4 rfl rfl ?_
  refine V_geti (k0 := 7) rfl dX6_opensLine_5 s0_100 icX6 (by decide) rfl w_435 ?_
  replace h := rd_e h
  obtain ⟨hb2, h⟩ := h
  refine V_iald rfl dX6_opensLine_8 s0_117 hb2 ?_
  refine V_iload_n rfl dX6_opensLine_9 rfl rfl ?_
  refine V_icmp_ne (t := 23) rfl rfl dX6_opensLine_10 (fun hc3 => ?_) (fun hc3 => ?_)
  · replace h := ifn hc3 h
    refine V_aload_n rfl dX6_opensLine_23 rfl rfl ?_
    refine V_iload_n rfl dX6_opensLine_24 rfl rfl ?_
    replace h := cl_e h
    obtain ⟨w4, M5, hc6, h⟩ := h
    refine V_ii (As := [.int _]) rfl dX6_opensLine_25 mf_X6_takes ⟨w_758, w_11⟩ w_756 (by decide) s0_100 rfl rfl rfl rfl ⟨rfl, rfl⟩ (t_X6_takes hc6) ?_
    replace h := rz_e h
    obtain ⟨hz7, h⟩ := h
    cases h
    exact V_iret dX6_opensLine_28 rfl (nar_z hz7) (Nat.le_refl _) (Nat.le_refl _) qI_ok
  · replace h := ifp hc3 h
    refine V_iload_n rfl dX6_opensLine_13 rfl rfl ?_
    refine V_if_ne (t := 23) rfl rfl dX6_opensLine_14 (fun hc8 => ?_) (fun hc8 => ?_)
    · replace h := ifn hc8 h
      refine V_aload_n rfl dX6_opensLine_23 rfl rfl ?_
      refine V_iload_n rfl dX6_opensLine_24 rfl rfl ?_
      replace h := cl_e h
      obtain ⟨w9, M10, hc11, h⟩ := h
      refine V_ii (As := [.int _]) rfl dX6_opensLine_25 mf_X6_takes ⟨w_758, w_11⟩ w_756 (by decide) s0_100 rfl rfl rfl rfl ⟨rfl, rfl⟩ (t_X6_takes hc11) ?_
      replace h := rz_e h
      obtain ⟨hz12, h⟩ := h
      cases h
      exact V_iret dX6_opensLine_28 rfl (nar_z hz12) (Nat.le_refl _) (Nat.le_refl _) qI_ok
    · replace h := ifp hc8 h
      refine V_aload_n rfl dX6_opensLine_17 rfl rfl ?_
      refine V_iconst (v := 3) rfl dX6_opensLine_18 kc_3 ?_
      replace h := cl_e h
      obtain ⟨w13, M14, hc15, h⟩ := h
      refine V_ii (As := [.int _]) rfl dX6_opensLine_19 mf_X6_refuses ⟨w_716, w_4⟩ w_714 (by decide) s0_100 rfl rfl rfl rfl ⟨rfl, rfl⟩ (t_X6_refuses hc15) ?_
      replace h := rz_e h
      obtain ⟨hz16, h⟩ := h
      cases h
      exact V_iret dX6_opensLine_22 rfl (nar_z hz16) (Nat.le_refl _) (Nat.le_refl _) qI_ok
-- X7_put: NeverHalted$Round.put(IIII)V
def f_X7_put (o0 : Nat) (p1 : Int32) (p2 : Int32) (p3 : Int32) (p4 : Int32) (M : IM) : IR := wr M (o0 + 1) 8 (M o0 0) p1 fun M1 => wr M1 (o0 + 2) 8 (M1 o0 0) p2 fun M3 => wr M3 (o0 + 3) 8 (M3 o0 0) p3 fun M5 => wr M5 (o0 + 4) 8 (M5 o0 0) p4 fun M7 => pt M7 o0 0 ((M7 o0 0) + 1) fun M9 => some (0, M9)
set_option maxRecDepth 100000 in
set_option maxHeartbeats 4000000 in
theorem t_X7_put {g : IG} {a : Nat → Nat} {R : Int32 × IM} {o0 : Nat} {p1 : Int32} {p2 : Int32} {p3 : Int32} {p4 : Int32} {M : IM} (h0 : isRound o0) (h : f_X7_put o0 p1 p2 p3 p4 M = some R) : Cn g mX7_put 1 0 0 (qV S0 a R) [.ref (a o0), .int p1, .int p2, .int p3, .int p4] a S0 M := by
  refine Cn_of (L := [some (.ref (a o0)), some (.int p1), some (.int p2), some (.int p3), some (.int p4)]) mf_X7_put (cat_r (cat_i (cat_i (cat_i (cat_i cat_0))))) (Nat.le_of_ble_eq_true rfl) rfl ?_
  unfold f_X7_put at h
  refine V_aload_n rfl dX7_put_0 rfl rfl ?_
  refine V_getr (k0 := 1) rfl dX7_put_1 (isRound_0 h0) icX7 (by decide) rfl w_298 ?_
  refine V_aload_n rfl dX7_put_4 rfl rfl ?_
  refine V_geti (k0 := 0) rfl dX7_put_5 (isRound_0 h0) icX7 (by decide) rfl w_294 ?_
  refine V_iload_n rfl dX7_put_8 rfl rfl ?_
  replace h := wr_e h
  obtain ⟨hb2, h⟩ := h
  refine V_iast rfl dX7_put_9 (isRound_1 h0) hb2 ?_
  refine V_aload_n rfl dX7_put_10 rfl rfl ?_
  refine V_getr (k0 := 2) rfl dX7_put_11 (isRound_0 h0) icX7 (by decide) rfl w_301 ?_
  refine V_aload_n rfl dX7_put_14 rfl rfl ?_
  refine V_geti (k0 := 0) rfl dX7_put_15 (isRound_0 h0) icX7 (by decide) rfl w_294 ?_
  refine V_iload_n rfl dX7_put_18 rfl rfl ?_
  replace h := wr_e h
  obtain ⟨hb4, h⟩ := h
  refine V_iast rfl dX7_put_19 (isRound_2 h0) hb4 ?_
  refine V_aload_n rfl dX7_put_20 rfl rfl ?_
  refine V_getr (k0 := 3) rfl dX7_put_21 (isRound_0 h0) icX7 (by decide) rfl w_303 ?_
  refine V_aload_n rfl dX7_put_24 rfl rfl ?_
  refine V_geti (k0 := 0) rfl dX7_put_25 (isRound_0 h0) icX7 (by decide) rfl w_294 ?_
  refine V_iload_n rfl dX7_put_28 rfl rfl ?_
  replace h := wr_e h
  obtain ⟨hb6, h⟩ := h
  refine V_iast rfl dX7_put_29 (isRound_3 h0) hb6 ?_
  refine V_aload_n rfl dX7_put_30 rfl rfl ?_
  refine V_getr (k0 := 4) rfl dX7_put_31 (isRound_0 h0) icX7 (by decide) rfl w_305 ?_
  refine V_aload_n rfl dX7_put_34 rfl rfl ?_
  refine V_geti (k0 := 0) rfl dX7_put_35 (isRound_0 h0) icX7 (by decide) rfl w_294 ?_
  refine V_iload rfl dX7_put_38 rfl ?_
  replace h := wr_e h
  obtain ⟨hb8, h⟩ := h
  refine V_iast rfl dX7_put_40 (isRound_4 h0) hb8 ?_
  refine V_aload_n rfl dX7_put_41 rfl rfl ?_
  refine V_dup rfl dX7_put_42 rfl ?_
  refine V_geti (k0 := 0) rfl dX7_put_43 (isRound_0 h0) icX7 (by decide) rfl w_294 ?_
  refine V_iconst (v := 1) rfl dX7_put_46 kc_1 ?_
  refine V_iadd rfl dX7_put_47 ?_
  replace h := pt_e h
  refine V_putf (k0 := 0) (ty := .int) rfl dX7_put_48 (isRound_0 h0) icX7 tyX7_ok nmX7 (by decide) rfl w_294 rfl (tyX7_ok _ (by decide)) rfl rfl ?_
  cases h
  exact V_vret dX7_put_51 rfl (Nat.le_refl _) (Nat.le_refl _) qV_ok
-- X6_readsStone: NeverHalted$Reader.readsStone()Z
def f_X6_readsStone_68 (x1 : Int32) (x2 : Int32) (x3 : Int32) (M : IM) : IR := if x3 = (-1) then some (0, M) else cl (f_X6_takes 10008 M) fun w23 M24 => if w23 = 0 then some (0, M24) else cl (f_X6_takesNumber 0 99 M24) fun w27 M28 => if w27 = (-1) then some (0, M28) else cl (f_X6_takes 20059 M28) fun w31 M32 => if w31 = 0 then some (0, M32) else cl (f_X7_put 107 x1 x2 x3 w27 M32) fun _ M36 => some (1, M36)
set_option maxRecDepth 100000 in
set_option maxHeartbeats 4000000 in
theorem t_X6_readsStone_68 {g : IG} {a : Nat → Nat} {R : Int32 × IM} {x1 : Int32} {x2 : Int32} {x3 : Int32} {M : IM} (h : f_X6_readsStone_68 x1 x2 x3 M = some R) : V g mX6_readsStone 3 0 0 (qI S0 a R) 68 [some (.ref (a 100)), some (.int x1), some (.int x2), some (.int x3), none] [] a S0 M 0 0 := by
  unfold f_X6_readsStone_68 at h
  refine V_iload_n rfl dX6_readsStone_68 rfl rfl ?_
  refine V_iconst (v := (-1)) rfl dX6_readsStone_69 kc_m1 ?_
  refine V_icmp_eq (t := 83) rfl rfl dX6_readsStone_70 (fun hc22 => ?_) (fun hc22 => ?_)
  · replace h := ifp hc22 h
    refine V_iconst (v := 0) rfl dX6_readsStone_83 kc_0 ?_
    cases h
    exact V_iret dX6_readsStone_84 rfl nz_0 (Nat.le_refl _) (Nat.le_refl _) qI_ok
  · replace h := ifn hc22 h
    refine V_aload_n rfl dX6_readsStone_73 rfl rfl ?_
    refine V_sipush (v := 10008) rfl dX6_readsStone_74 ks_10008 ?_
    replace h := cl_e h
    obtain ⟨w23, M24, hc25, h⟩ := h
    refine V_ii (As := [.int _]) rfl dX6_readsStone_77 mf_X6_takes ⟨w_758, w_11⟩ w_756 (by decide) s0_100 rfl rfl rfl rfl ⟨rfl, rfl⟩ (t_X6_takes hc25) ?_
    refine V_if_ne (t := 85) rfl rfl dX6_readsStone_80 (fun hc26 => ?_) (fun hc26 => ?_)
    · replace h := ifn hc26 h
      refine V_aload_n rfl dX6_readsStone_85 rfl rfl ?_
      refine V_iconst (v := 0) rfl dX6_readsStone_86 kc_0 ?_
      refine V_bipush (v := 99) rfl dX6_readsStone_87 kb_99 ?_
      replace h := cl_e h
      obtain ⟨w27, M28, hc29, h⟩ := h
      refine V_ii (As := [.int _, .int _]) rfl dX6_readsStone_89 mf_X6_takesNumber ⟨w_732, w_7⟩ w_730 (by decide) s0_100 rfl rfl rfl rfl ⟨rfl, rfl⟩ (t_X6_takesNumber hc29) ?_
      refine V_istore (L' := [_, _, _, _, _]) rfl dX6_readsStone_92 (by decide) rfl ?_
      refine V_iload rfl dX6_readsStone_94 rfl ?_
      refine V_iconst (v := (-1)) rfl dX6_readsStone_96 kc_m1 ?_
      refine V_icmp_eq (t := 110) rfl rfl dX6_readsStone_97 (fun hc30 => ?_) (fun hc30 => ?_)
      · replace h := ifp hc30 h
        refine V_iconst (v := 0) rfl dX6_readsStone_110 kc_0 ?_
        cases h
        exact V_iret dX6_readsStone_111 rfl nz_0 (Nat.le_refl _) (Nat.le_refl _) qI_ok
      · replace h := ifn hc30 h
        refine V_aload_n rfl dX6_readsStone_100 rfl rfl ?_
        refine V_sipush (v := 20059) rfl dX6_readsStone_101 ks_20059 ?_
        replace h := cl_e h
        obtain ⟨w31, M32, hc33, h⟩ := h
        refine V_ii (As := [.int _]) rfl dX6_readsStone_104 mf_X6_takes ⟨w_758, w_11⟩ w_756 (by decide) s0_100 rfl rfl rfl rfl ⟨rfl, rfl⟩ (t_X6_takes hc33) ?_
        refine V_if_ne (t := 112) rfl rfl dX6_readsStone_107 (fun hc34 => ?_) (fun hc34 => ?_)
        · replace h := ifn hc34 h
          refine V_aload_n rfl dX6_readsStone_112 rfl rfl ?_
          refine V_getr (k0 := 3) rfl dX6_readsStone_113 s0_100 icX6 (by decide) rfl w_429 ?_
          refine V_iload_n rfl dX6_readsStone_116 rfl rfl ?_
          refine V_iload_n rfl dX6_readsStone_117 rfl rfl ?_
          refine V_iload_n rfl dX6_readsStone_118 rfl rfl ?_
          refine V_iload rfl dX6_readsStone_119 rfl ?_
          replace h := cl_e h
          obtain ⟨w35, M36, hc37, h⟩ := h
          refine V_iv (As := [.int _, .int _, .int _, .int _]) rfl dX6_readsStone_121 mf_X7_put ⟨w_784, w_785⟩ w_783 (by decide) s0_107 rfl rfl rfl rfl ⟨rfl, rfl⟩ (t_X7_put isRound_at107 hc37) ?_
          refine V_iconst (v := 1) rfl dX6_readsStone_124 kc_1 ?_
          cases h
          exact V_iret dX6_readsStone_125 rfl nz_1 (Nat.le_refl _) (Nat.le_refl _) qI_ok
        · replace h := ifp hc34 h
          refine V_iconst (v := 0) rfl dX6_readsStone_110 kc_0 ?_
          cases h
          exact V_iret dX6_readsStone_111 rfl nz_0 (Nat.le_refl _) (Nat.le_refl _) qI_ok
    · replace h := ifp hc26 h
      refine V_iconst (v := 0) rfl dX6_readsStone_83 kc_0 ?_
      cases h
      exact V_iret dX6_readsStone_84 rfl nz_0 (Nat.le_refl _) (Nat.le_refl _) qI_ok
def f_X6_readsStone (M : IM) : IR := cl (f_X6_takesNumber 0 7 M) fun w1 M2 => if w1 = (-1) then some (0, M2) else cl (f_X6_takes 10019 M2) fun w5 M6 => if w5 = 0 then some (0, M6) else cl (f_X6_takesNumber 1 24 M6) fun w9 M10 => if w9 = (-1) then some (0, M10) else rd M10 117 401 (M10 100 7) fun v13 => if v13 = 10007 then cl (f_X6_takesToken M10) fun _ M17 => cl (f_X6_takesNumber 1 w9 M17) fun w19 M20 => f_X6_readsStone_68 w1 w9 w19 M20 else f_X6_readsStone_68 w1 w9 0 M10
set_option maxRecDepth 100000 in
set_option maxHeartbeats 4000000 in
theorem t_X6_readsStone {g : IG} {a : Nat → Nat} {R : Int32 × IM} {M : IM} (h : f_X6_readsStone M = some R) : Cn g mX6_readsStone 3 0 0 (qI S0 a R) [.ref (a 100)] a S0 M := by
  refine Cn_of (L := [some (.ref (a 100)), none, none, none, none]) mf_X6_readsStone (cat_r cat_0) (Nat.le_of_ble_eq_true rfl) rfl ?_
  unfold f_X6_readsStone at h
  refine V_aload_n rfl dX6_readsStone_0 rfl rfl ?_
  refine V_iconst (v := 0) rfl dX6_readsStone_1 kc_0 ?_
  refine V_bipush (v := 7) rfl dX6_readsStone_2 kb_7 ?_
  replace h := cl_e h
  obtain ⟨w1, M2, hc3, h⟩ := h
  refine V_ii (As := [.int _, .int _]) rfl dX6_readsStone_4 mf_X6_takesNumber ⟨w_732, w_7⟩ w_730 (by decide) s0_100 rfl rfl rfl rfl ⟨rfl, rfl⟩ (t_X6_takesNumber hc3) ?_
  refine V_istore_n (L' := [_, _, _, _, _]) rfl rfl dX6_readsStone_7 (by decide) rfl ?_
  refine V_iload_n rfl dX6_readsStone_8 rfl rfl ?_
  refine V_iconst (v := (-1)) rfl dX6_readsStone_9 kc_m1 ?_
  refine V_icmp_eq (t := 23) rfl rfl dX6_readsStone_10 (fun hc4 => ?_) (fun hc4 => ?_)
  · replace h := ifp hc4 h
    refine V_iconst (v := 0) rfl dX6_readsStone_23 kc_0 ?_
    cases h
    exact V_iret dX6_readsStone_24 rfl nz_0 (Nat.le_refl _) (Nat.le_refl _) qI_ok
  · replace h := ifn hc4 h
    refine V_aload_n rfl dX6_readsStone_13 rfl rfl ?_
    refine V_sipush (v := 10019) rfl dX6_readsStone_14 ks_10019 ?_
    replace h := cl_e h
    obtain ⟨w5, M6, hc7, h⟩ := h
    refine V_ii (As := [.int _]) rfl dX6_readsStone_17 mf_X6_takes ⟨w_758, w_11⟩ w_756 (by decide) s0_100 rfl rfl rfl rfl ⟨rfl, rfl⟩ (t_X6_takes hc7) ?_
    refine V_if_ne (t := 25) rfl rfl dX6_readsStone_20 (fun hc8 => ?_) (fun hc8 => ?_)
    · replace h := ifn hc8 h
      refine V_aload_n rfl dX6_readsStone_25 rfl rfl ?_
      refine V_iconst (v := 1) rfl dX6_readsStone_26 kc_1 ?_
      refine V_bipush (v := 24) rfl dX6_readsStone_27 kb_24 ?_
      replace h := cl_e h
      obtain ⟨w9, M10, hc11, h⟩ := h
      refine V_ii (As := [.int _, .int _]) rfl dX6_readsStone_29 mf_X6_takesNumber ⟨w_732, w_7⟩ w_730 (by decide) s0_100 rfl rfl rfl rfl ⟨rfl, rfl⟩ (t_X6_takesNumber hc11) ?_
      refine V_istore_n (L' := [_, _, _, _, _]) rfl rfl dX6_readsStone_32 (by decide) rfl ?_
      refine V_iload_n rfl dX6_readsStone_33 rfl rfl ?_
      refine V_iconst (v := (-1)) rfl dX6_readsStone_34 kc_m1 ?_
      refine V_icmp_ne (t := 40) rfl rfl dX6_readsStone_35 (fun hc12 => ?_) (fun hc12 => ?_)
      · replace h := ifn hc12 h
        refine V_iconst (v := 0) rfl dX6_readsStone_40 kc_0 ?_
        refine V_istore_n (L' := [_, _, _, _, _]) rfl rfl dX6_readsStone_41 (by decide) rfl ?_
        refine V_aload_n rfl dX6_readsStone_42 rfl rfl ?_
        refine V_getr (k0 := 5) rfl dX6_readsStone_43 s0_100 icX6 (by decide) rfl w_433 ?_
        refine V_aload_n rfl dX6_readsStone_46 rfl rfl ?_
        refine V_geti (k0 := 7) rfl dX6_readsStone_47 s0_100 icX6 (by decide) rfl w_435 ?_
        replace h := rd_e h
        obtain ⟨hb14, h⟩ := h
        refine V_iald rfl dX6_readsStone_50 s0_117 hb14 ?_
        refine V_sipush (v := 10007) rfl dX6_readsStone_51 ks_10007 ?_
        refine V_icmp_ne (t := 68) rfl rfl dX6_readsStone_54 (fun hc15 => ?_) (fun hc15 => ?_)
        · replace h := ifn hc15 h
          exact V_sub (le_s (le_s (le_s (le_s (le_n le_0))))) (t_X6_readsStone_68 h)
        · replace h := ifp hc15 h
          refine V_aload_n rfl dX6_readsStone_57 rfl rfl ?_
          replace h := cl_e h
          obtain ⟨w16, M17, hc18, h⟩ := h
          refine V_iv (As := []) rfl dX6_readsStone_58 mf_X6_takesToken ⟨w_720, w_5⟩ w_718 (by decide) s0_100 rfl rfl rfl rfl ⟨rfl, rfl⟩ (t_X6_takesToken hc18) ?_
          refine V_aload_n rfl dX6_readsStone_61 rfl rfl ?_
          refine V_iconst (v := 1) rfl dX6_readsStone_62 kc_1 ?_
          refine V_iload_n rfl dX6_readsStone_63 rfl rfl ?_
          replace h := cl_e h
          obtain ⟨w19, M20, hc21, h⟩ := h
          refine V_ii (As := [.int _, .int _]) rfl dX6_readsStone_64 mf_X6_takesNumber ⟨w_732, w_7⟩ w_730 (by decide) s0_100 rfl rfl rfl rfl ⟨rfl, rfl⟩ (t_X6_takesNumber hc21) ?_
          refine V_istore_n (L' := [_, _, _, _, _]) rfl rfl dX6_readsStone_67 (by decide) rfl ?_
          exact V_sub (le_s (le_s (le_s (le_s (le_n le_0))))) (t_X6_readsStone_68 h)
      · replace h := ifp hc12 h
        refine V_iconst (v := 0) rfl dX6_readsStone_38 kc_0 ?_
        cases h
        exact V_iret dX6_readsStone_39 rfl nz_0 (Nat.le_refl _) (Nat.le_refl _) qI_ok
    · replace h := ifp hc8 h
      refine V_iconst (v := 0) rfl dX6_readsStone_23 kc_0 ?_
      cases h
      exact V_iret dX6_readsStone_24 rfl nz_0 (Nat.le_refl _) (Nat.le_refl _) qI_ok
-- X6_readsRound: NeverHalted$Reader.readsRound()Z
def f_X6_readsRound_54 (r10 : Int32 → IM → IR) (x1 : Int32) (y1 : Int32) (y2 : Int32) (M : IM) : IR := cl (f_X6_opensLine y1 y2 M) fun w7 M8 => if w7 = 0 then some (0, M8) else cl (f_X6_readsStone M8) fun w11 M12 => if w11 = 0 then some (0, M12) else lt (x1 + 1) fun v15 => r10 v15 M12
set_option maxRecDepth 100000 in
set_option maxHeartbeats 4000000 in
theorem t_X6_readsRound_54 {g : IG} {a : Nat → Nat} {R : Int32 × IM} {r10 : Int32 → IM → IR} {x1 : Int32} {y1 : Int32} {y2 : Int32} {M : IM} (hr10 : ∀ (x1 : Int32) (M : IM), r10 x1 M = some R → V g mX6_readsRound 4 0 0 (qI S0 a R) 10 [some (.ref (a 100)), some (.int x1)] [] a S0 M 0 0) (h : f_X6_readsRound_54 r10 x1 y1 y2 M = some R) : V g mX6_readsRound 4 0 0 (qI S0 a R) 54 [some (.ref (a 100)), some (.int x1)] [.int y2, .int y1, .ref (a 100)] a S0 M 0 0 := by
  unfold f_X6_readsRound_54 at h
  replace h := cl_e h
  obtain ⟨w7, M8, hc9, h⟩ := h
  refine V_ii (As := [.int _, .int _]) rfl dX6_readsRound_54 mf_X6_opensLine ⟨w_777, w_12⟩ w_775 (by decide) s0_100 rfl rfl rfl rfl ⟨rfl, rfl⟩ (t_X6_opensLine hc9) ?_
  refine V_if_eq (t := 67) rfl rfl dX6_readsRound_57 (fun hc10 => ?_) (fun hc10 => ?_)
  · replace h := ifp hc10 h
    refine V_iconst (v := 0) rfl dX6_readsRound_67 kc_0 ?_
    cases h
    exact V_iret dX6_readsRound_68 rfl nz_0 (Nat.le_refl _) (Nat.le_refl _) qI_ok
  · replace h := ifn hc10 h
    refine V_aload_n rfl dX6_readsRound_60 rfl rfl ?_
    replace h := cl_e h
    obtain ⟨w11, M12, hc13, h⟩ := h
    refine V_ii (As := []) rfl dX6_readsRound_61 mf_X6_readsStone ⟨w_781, w_13⟩ w_779 (by decide) s0_100 rfl rfl rfl rfl ⟨rfl, rfl⟩ (t_X6_readsStone hc13) ?_
    refine V_if_ne (t := 69) rfl rfl dX6_readsRound_64 (fun hc14 => ?_) (fun hc14 => ?_)
    · replace h := ifn hc14 h
      replace h := lt_e h
      refine V_inc (L' := [_, _]) rfl dX6_readsRound_69 rfl kc_1 (by decide) rfl ?_
      refine V_goto (t := 10) rfl dX6_readsRound_72 ?_
      exact V_sub (le_s (le_s le_0)) (hr10 _ _ h)
    · replace h := ifp hc14 h
      refine V_iconst (v := 0) rfl dX6_readsRound_67 kc_0 ?_
      cases h
      exact V_iret dX6_readsRound_68 rfl nz_0 (Nat.le_refl _) (Nat.le_refl _) qI_ok
def f_X6_readsRound_10_b (r10 : Int32 → IM → IR) (x1 : Int32) (M : IM) : IR := if 8 < x1 then some (0, M) else rd M 117 401 (M 100 7) fun v3 => if v3 = 30000 then some (1, M) else if 8 ≤ (M 107 0) then f_X6_readsRound_54 r10 x1 10018 0 M else f_X6_readsRound_54 r10 x1 10018 1 M
def f_X6_readsRound_10 (n : Nat) : Int32 → IM → IR := itr (fun _ _ => none) (f_X6_readsRound_10_b) n
set_option maxRecDepth 100000 in
set_option maxHeartbeats 4000000 in
theorem t_X6_readsRound_10 {g : IG} {a : Nat → Nat} {R : Int32 × IM} (n : Nat) : ∀ (x1 : Int32) (M : IM), f_X6_readsRound_10 n x1 M = some R → V g mX6_readsRound 4 0 0 (qI S0 a R) 10 [some (.ref (a 100)), some (.int x1)] [] a S0 M 0 0 := by
  induction n with
  | zero => intro x1 M h; exact absurd h (fun z => by cases z)
  | succ n hr10 =>
    intro x1 M h
    replace h : f_X6_readsRound_10_b (f_X6_readsRound_10 n) x1 M = some R := h
    unfold f_X6_readsRound_10_b at h
    refine V_iload_n rfl dX6_readsRound_10 rfl rfl ?_
    refine V_bipush (v := 8) rfl dX6_readsRound_11 kb_8 ?_
    refine V_icmp_gt (t := 75) rfl rfl dX6_readsRound_13 (fun hc2 => ?_) (fun hc2 => ?_)
    · replace h := ifp hc2 h
      refine V_iconst (v := 0) rfl dX6_readsRound_75 kc_0 ?_
      cases h
      exact V_iret dX6_readsRound_76 rfl nz_0 (Nat.le_refl _) (Nat.le_refl _) qI_ok
    · replace h := ifn hc2 h
      refine V_aload_n rfl dX6_readsRound_16 rfl rfl ?_
      refine V_getr (k0 := 5) rfl dX6_readsRound_17 s0_100 icX6 (by decide) rfl w_433 ?_
      refine V_aload_n rfl dX6_readsRound_20 rfl rfl ?_
      refine V_geti (k0 := 7) rfl dX6_readsRound_21 s0_100 icX6 (by decide) rfl w_435 ?_
      replace h := rd_e h
      obtain ⟨hb4, h⟩ := h
      refine V_iald rfl dX6_readsRound_24 s0_117 hb4 ?_
      refine V_sipush (v := 30000) rfl dX6_readsRound_25 ks_30000 ?_
      refine V_icmp_ne (t := 33) rfl rfl dX6_readsRound_28 (fun hc5 => ?_) (fun hc5 => ?_)
      · replace h := ifn hc5 h
        refine V_aload_n rfl dX6_readsRound_33 rfl rfl ?_
        refine V_sipush (v := 10018) rfl dX6_readsRound_34 ks_10018 ?_
        refine V_aload_n rfl dX6_readsRound_37 rfl rfl ?_
        refine V_getr (k0 := 3) rfl dX6_readsRound_38 s0_100 icX6 (by decide) rfl w_429 ?_
        refine V_geti (k0 := 0) rfl dX6_readsRound_41 s0_107 icX7 (by decide) rfl w_296 ?_
        refine V_bipush (v := 8) rfl dX6_readsRound_44 kb_8 ?_
        refine V_icmp_ge (t := 53) rfl rfl dX6_readsRound_46 (fun hc6 => ?_) (fun hc6 => ?_)
        · replace h := ifp hc6 h
          refine V_iconst (v := 0) rfl dX6_readsRound_53 kc_0 ?_
          exact V_sub (le_s (le_s le_0)) (t_X6_readsRound_54 hr10 h)
        · replace h := ifn hc6 h
          refine V_iconst (v := 1) rfl dX6_readsRound_49 kc_1 ?_
          refine V_goto (t := 54) rfl dX6_readsRound_50 ?_
          exact V_sub (le_s (le_s le_0)) (t_X6_readsRound_54 hr10 h)
      · replace h := ifp hc5 h
        refine V_iconst (v := 1) rfl dX6_readsRound_31 kc_1 ?_
        cases h
        exact V_iret dX6_readsRound_32 rfl nz_1 (Nat.le_refl _) (Nat.le_refl _) qI_ok
def f_X6_readsRound (M : IM) : IR := pt M 107 0 0 fun M1 => f_X6_readsRound_10 BG 0 M1
set_option maxRecDepth 100000 in
set_option maxHeartbeats 4000000 in
theorem t_X6_readsRound {g : IG} {a : Nat → Nat} {R : Int32 × IM} {M : IM} (h : f_X6_readsRound M = some R) : Cn g mX6_readsRound 4 0 0 (qI S0 a R) [.ref (a 100)] a S0 M := by
  refine Cn_of (L := [some (.ref (a 100)), none]) mf_X6_readsRound (cat_r cat_0) (Nat.le_of_ble_eq_true rfl) rfl ?_
  unfold f_X6_readsRound at h
  refine V_aload_n rfl dX6_readsRound_0 rfl rfl ?_
  refine V_getr (k0 := 3) rfl dX6_readsRound_1 s0_100 icX6 (by decide) rfl w_429 ?_
  refine V_iconst (v := 0) rfl dX6_readsRound_4 kc_0 ?_
  replace h := pt_e h
  refine V_putf (k0 := 0) (ty := .int) rfl dX6_readsRound_5 s0_107 icX7 tyX7_ok nmX7 (by decide) rfl w_296 rfl (tyX7_ok _ (by decide)) rfl rfl ?_
  refine V_iconst (v := 0) rfl dX6_readsRound_8 kc_0 ?_
  refine V_istore_n (L' := [_, _]) rfl rfl dX6_readsRound_9 (by decide) rfl ?_
  exact V_sub (le_s (le_s le_0)) (t_X6_readsRound_10 BG _ _ h)
-- X7_become: NeverHalted$Round.become(LNeverHalted$Round;)I
def f_X7_become (o0 : Nat) (o1 : Nat) (M : IM) : IR := pt M o0 0 (M o1 0) fun M1 => cp M1 (o1 + 1) 8 0 (o0 + 1) 8 0 8 fun M2 => cp M2 (o1 + 2) 8 0 (o0 + 2) 8 0 8 fun M4 => cp M4 (o1 + 3) 8 0 (o0 + 3) 8 0 8 fun M6 => cp M6 (o1 + 4) 8 0 (o0 + 4) 8 0 8 fun M8 => some ((M8 o0 0), M8)
set_option maxRecDepth 100000 in
set_option maxHeartbeats 4000000 in
theorem t_X7_become {g : IG} {a : Nat → Nat} {R : Int32 × IM} {o0 : Nat} {o1 : Nat} {M : IM} (h0 : isRound o0) (h1 : isRound o1) (h : f_X7_become o0 o1 M = some R) : Cn g mX7_become 1 0 0 (qI S0 a R) [.ref (a o0), .ref (a o1)] a S0 M := by
  refine Cn_of (L := [some (.ref (a o0)), some (.ref (a o1))]) mf_X7_become (cat_r (cat_r cat_0)) (Nat.le_of_ble_eq_true rfl) rfl ?_
  unfold f_X7_become at h
  refine V_aload_n rfl dX7_become_0 rfl rfl ?_
  refine V_aload_n rfl dX7_become_1 rfl rfl ?_
  refine V_geti (k0 := 0) rfl dX7_become_2 (isRound_0 h1) icX7 (by decide) rfl w_294 ?_
  replace h := pt_e h
  refine V_putf (k0 := 0) (ty := .int) rfl dX7_become_5 (isRound_0 h0) icX7 tyX7_ok nmX7 (by decide) rfl w_294 rfl (tyX7_ok _ (by decide)) rfl rfl ?_
  refine V_aload_n rfl dX7_become_8 rfl rfl ?_
  refine V_getr (k0 := 1) rfl dX7_become_9 (isRound_0 h1) icX7 (by decide) rfl w_298 ?_
  refine V_iconst (v := 0) rfl dX7_become_12 kc_0 ?_
  refine V_aload_n rfl dX7_become_13 rfl rfl ?_
  refine V_getr (k0 := 1) rfl dX7_become_14 (isRound_0 h0) icX7 (by decide) rfl w_298 ?_
  refine V_iconst (v := 0) rfl dX7_become_17 kc_0 ?_
  refine V_bipush (v := 8) rfl dX7_become_18 kb_8 ?_
  replace h := cp_e h
  obtain ⟨hb3, h⟩ := h
  refine V_copy rfl dX7_become_20 w_795 ⟨w_770, w_769, w_156⟩ (isRound_1 h1) (isRound_1 h0) rfl hb3 ?_
  refine V_aload_n rfl dX7_become_23 rfl rfl ?_
  refine V_getr (k0 := 2) rfl dX7_become_24 (isRound_0 h1) icX7 (by decide) rfl w_301 ?_
  refine V_iconst (v := 0) rfl dX7_become_27 kc_0 ?_
  refine V_aload_n rfl dX7_become_28 rfl rfl ?_
  refine V_getr (k0 := 2) rfl dX7_become_29 (isRound_0 h0) icX7 (by decide) rfl w_301 ?_
  refine V_iconst (v := 0) rfl dX7_become_32 kc_0 ?_
  refine V_bipush (v := 8) rfl dX7_become_33 kb_8 ?_
  replace h := cp_e h
  obtain ⟨hb5, h⟩ := h
  refine V_copy rfl dX7_become_35 w_795 ⟨w_770, w_769, w_156⟩ (isRound_2 h1) (isRound_2 h0) rfl hb5 ?_
  refine V_aload_n rfl dX7_become_38 rfl rfl ?_
  refine V_getr (k0 := 3) rfl dX7_become_39 (isRound_0 h1) icX7 (by decide) rfl w_303 ?_
  refine V_iconst (v := 0) rfl dX7_become_42 kc_0 ?_
  refine V_aload_n rfl dX7_become_43 rfl rfl ?_
  refine V_getr (k0 := 3) rfl dX7_become_44 (isRound_0 h0) icX7 (by decide) rfl w_303 ?_
  refine V_iconst (v := 0) rfl dX7_become_47 kc_0 ?_
  refine V_bipush (v := 8) rfl dX7_become_48 kb_8 ?_
  replace h := cp_e h
  obtain ⟨hb7, h⟩ := h
  refine V_copy rfl dX7_become_50 w_795 ⟨w_770, w_769, w_156⟩ (isRound_3 h1) (isRound_3 h0) rfl hb7 ?_
  refine V_aload_n rfl dX7_become_53 rfl rfl ?_
  refine V_getr (k0 := 4) rfl dX7_become_54 (isRound_0 h1) icX7 (by decide) rfl w_305 ?_
  refine V_iconst (v := 0) rfl dX7_become_57 kc_0 ?_
  refine V_aload_n rfl dX7_become_58 rfl rfl ?_
  refine V_getr (k0 := 4) rfl dX7_become_59 (isRound_0 h0) icX7 (by decide) rfl w_305 ?_
  refine V_iconst (v := 0) rfl dX7_become_62 kc_0 ?_
  refine V_bipush (v := 8) rfl dX7_become_63 kb_8 ?_
  replace h := cp_e h
  obtain ⟨hb9, h⟩ := h
  refine V_copy rfl dX7_become_65 w_795 ⟨w_770, w_769, w_156⟩ (isRound_4 h1) (isRound_4 h0) rfl hb9 ?_
  refine V_aload_n rfl dX7_become_68 rfl rfl ?_
  refine V_geti (k0 := 0) rfl dX7_become_69 (isRound_0 h0) icX7 (by decide) rfl w_294 ?_
  cases h
  exact V_iret dX7_become_72 rfl rfl (Nat.le_refl _) (Nat.le_refl _) qI_ok
-- X11_tellRound: NeverHalted.tellRound()I
def f_X11_tellRound (M : IM) : IR := pt M 1 2 0 fun M1 => pt M1 1 3 0 fun M2 => cl (f_X5_forget M2) fun _ M4 => cl (f_X7_become 20 107 M4) fun w6 M7 => some (w6, M7)
set_option maxRecDepth 100000 in
set_option maxHeartbeats 4000000 in
theorem t_X11_tellRound {g : IG} {a : Nat → Nat} {R : Int32 × IM} {M : IM} (h : f_X11_tellRound M = some R) : Cn g mX11_tellRound 2 0 0 (qI S0 a R) [.ref (a 0)] a S0 M := by
  refine Cn_of (L := [some (.ref (a 0))]) mf_X11_tellRound (cat_r cat_0) (Nat.le_of_ble_eq_true rfl) rfl ?_
  unfold f_X11_tellRound at h
  refine V_aload_n rfl dX11_tellRound_0 rfl rfl ?_
  refine V_getr (k0 := 0) rfl dX11_tellRound_1 s0_0 icX11 (by decide) rfl w_523 ?_
  refine V_iconst (v := 0) rfl dX11_tellRound_4 kc_0 ?_
  replace h := pt_e h
  refine V_putf (k0 := 2) (ty := .int) rfl dX11_tellRound_5 s0_1 icX4 tyX4_ok nmX4 (by decide) rfl w_182 rfl (tyX4_ok _ (by decide)) rfl rfl ?_
  refine V_aload_n rfl dX11_tellRound_8 rfl rfl ?_
  refine V_getr (k0 := 0) rfl dX11_tellRound_9 s0_0 icX11 (by decide) rfl w_523 ?_
  refine V_iconst (v := 0) rfl dX11_tellRound_12 kc_0 ?_
  replace h := pt_e h
  refine V_putf (k0 := 3) (ty := .int) rfl dX11_tellRound_13 s0_1 icX4 tyX4_ok nmX4 (by decide) rfl w_185 rfl (tyX4_ok _ (by decide)) rfl rfl ?_
  refine V_aload_n rfl dX11_tellRound_16 rfl rfl ?_
  refine V_getr (k0 := 3) rfl dX11_tellRound_17 s0_0 icX11 (by decide) rfl w_526 ?_
  replace h := cl_e h
  obtain ⟨w3, M4, hc5, h⟩ := h
  refine V_iv (As := []) rfl dX11_tellRound_20 mf_X5_forget ⟨w_583, w_584⟩ w_582 (by decide) s0_34 rfl rfl rfl rfl ⟨rfl, rfl⟩ (t_X5_forget hc5) ?_
  refine V_aload_n rfl dX11_tellRound_23 rfl rfl ?_
  refine V_getr (k0 := 1) rfl dX11_tellRound_24 s0_0 icX11 (by decide) rfl w_524 ?_
  refine V_getr (k0 := 6) rfl dX11_tellRound_27 s0_6 icX9 (by decide) rfl w_355 ?_
  refine V_aload_n rfl dX11_tellRound_30 rfl rfl ?_
  refine V_getr (k0 := 10) rfl dX11_tellRound_31 s0_0 icX11 (by decide) rfl w_533 ?_
  refine V_getr (k0 := 3) rfl dX11_tellRound_34 s0_100 icX6 (by decide) rfl w_430 ?_
  replace h := cl_e h
  obtain ⟨w6, M7, hc8, h⟩ := h
  refine V_ii (As := [.ref _]) rfl dX11_tellRound_37 mf_X7_become ⟨w_792, w_793⟩ w_791 (by decide) s0_20 rfl rfl rfl rfl ⟨rfl, rfl⟩ (t_X7_become isRound_at20 isRound_at107 hc8) ?_
  cases h
  exact V_iret dX11_tellRound_40 rfl rfl (Nat.le_refl _) (Nat.le_refl _) qI_ok
-- X8_put: NeverHalted$Shifts.put(III)V
def f_X8_put_23_b (o0 : Nat) (r23 : Int32 → Int32 → Int32 → IM → IR) (x2 : Int32) (x3 : Int32) (x4 : Int32) (M : IM) : IR := if x3 ≤ x4 then pt M o0 0 ((M o0 0) + 1) fun M6 => some (0, M6) else rd M (o0 + 2) 16 (M o0 0) fun v7 => wr M (o0 + 2) 16 (M o0 0) (v7 ||| ((1 : Int32) <<< (((x2 + x4) - (x2 + x4) / 24 * 24) &&& 31))) fun M9 => lt (x4 + 1) fun v11 => r23 x2 x3 v11 M9
def f_X8_put_23 (o0 : Nat) (n : Nat) : Int32 → Int32 → Int32 → IM → IR := itr (fun _ _ _ _ => none) (f_X8_put_23_b o0) n
set_option maxRecDepth 100000 in
set_option maxHeartbeats 4000000 in
theorem t_X8_put_23 {g : IG} {a : Nat → Nat} {R : Int32 × IM} {o0 : Nat} (h0 : isShifts o0) (n : Nat) : ∀ (x2 : Int32) (x3 : Int32) (x4 : Int32) (M : IM), f_X8_put_23 o0 n x2 x3 x4 M = some R → V g mX8_put 1 0 0 (qV S0 a R) 23 [some (.ref (a o0)), none, some (.int x2), some (.int x3), some (.int x4)] [] a S0 M 0 0 := by
  induction n with
  | zero => intro x2 x3 x4 M h; exact absurd h (fun z => by cases z)
  | succ n hr23 =>
    intro x2 x3 x4 M h
    replace h : f_X8_put_23_b o0 (f_X8_put_23 o0 n) x2 x3 x4 M = some R := h
    unfold f_X8_put_23_b at h
    refine V_iload rfl dX8_put_23 rfl ?_
    refine V_iload_n rfl dX8_put_25 rfl rfl ?_
    refine V_icmp_ge (t := 56) rfl rfl dX8_put_26 (fun hc5 => ?_) (fun hc5 => ?_)
    · replace h := ifp hc5 h
      refine V_aload_n rfl dX8_put_56 rfl rfl ?_
      refine V_dup rfl dX8_put_57 rfl ?_
      refine V_geti (k0 := 0) rfl dX8_put_58 (isShifts_0 h0) icX8 (by decide) rfl w_324 ?_
      refine V_iconst (v := 1) rfl dX8_put_61 kc_1 ?_
      refine V_iadd rfl dX8_put_62 ?_
      replace h := pt_e h
      refine V_putf (k0 := 0) (ty := .int) rfl dX8_put_63 (isShifts_0 h0) icX8 tyX8_ok nmX8 (by decide) rfl w_324 rfl (tyX8_ok _ (by decide)) rfl rfl ?_
      cases h
      exact V_vret dX8_put_66 rfl (Nat.le_refl _) (Nat.le_refl _) qV_ok
    · replace h := ifn hc5 h
      refine V_aload_n rfl dX8_put_29 rfl rfl ?_
      refine V_getr (k0 := 2) rfl dX8_put_30 (isShifts_0 h0) icX8 (by decide) rfl w_328 ?_
      refine V_aload_n rfl dX8_put_33 rfl rfl ?_
      refine V_geti (k0 := 0) rfl dX8_put_34 (isShifts_0 h0) icX8 (by decide) rfl w_324 ?_
      refine V_dup2 rfl dX8_put_37 rfl rfl ?_
      replace h := rd_e h
      obtain ⟨hb8, h⟩ := h
      refine V_iald rfl dX8_put_38 (isShifts_2 h0) hb8 ?_
      refine V_iconst (v := 1) rfl dX8_put_39 kc_1 ?_
      refine V_iload_n rfl dX8_put_40 rfl rfl ?_
      refine V_iload rfl dX8_put_41 rfl ?_
      refine V_iadd rfl dX8_put_43 ?_
      refine V_bipush (v := 24) rfl dX8_put_44 kb_24 ?_
      refine V_irem rfl dX8_put_46 (by decide) ?_
      refine V_ishl rfl dX8_put_47 ?_
      refine V_ior rfl dX8_put_48 ?_
      replace h := wr_e h
      obtain ⟨hb10, h⟩ := h
      refine V_iast rfl dX8_put_49 (isShifts_2 h0) hb10 ?_
      replace h := lt_e h
      refine V_inc (L' := [_, _, _, _, _]) rfl dX8_put_50 rfl kc_1 (by decide) rfl ?_
      refine V_goto (t := 23) rfl dX8_put_53 ?_
      exact V_sub (le_s (le_n (le_s (le_s (le_s le_0))))) (hr23 _ _ _ _ h)
def f_X8_put (o0 : Nat) (p1 : Int32) (p2 : Int32) (p3 : Int32) (M : IM) : IR := wr M (o0 + 1) 16 (M o0 0) p1 fun M1 => wr M1 (o0 + 2) 16 (M1 o0 0) 0 fun M3 => f_X8_put_23 o0 BG p2 p3 0 M3
set_option maxRecDepth 100000 in
set_option maxHeartbeats 4000000 in
theorem t_X8_put {g : IG} {a : Nat → Nat} {R : Int32 × IM} {o0 : Nat} {p1 : Int32} {p2 : Int32} {p3 : Int32} {M : IM} (h0 : isShifts o0) (h : f_X8_put o0 p1 p2 p3 M = some R) : Cn g mX8_put 1 0 0 (qV S0 a R) [.ref (a o0), .int p1, .int p2, .int p3] a S0 M := by
  refine Cn_of (L := [some (.ref (a o0)), some (.int p1), some (.int p2), some (.int p3), none]) mf_X8_put (cat_r (cat_i (cat_i (cat_i cat_0)))) (Nat.le_of_ble_eq_true rfl) rfl ?_
  unfold f_X8_put at h
  refine V_aload_n rfl dX8_put_0 rfl rfl ?_
  refine V_getr (k0 := 1) rfl dX8_put_1 (isShifts_0 h0) icX8 (by decide) rfl w_327 ?_
  refine V_aload_n rfl dX8_put_4 rfl rfl ?_
  refine V_geti (k0 := 0) rfl dX8_put_5 (isShifts_0 h0) icX8 (by decide) rfl w_324 ?_
  refine V_iload_n rfl dX8_put_8 rfl rfl ?_
  replace h := wr_e h
  obtain ⟨hb2, h⟩ := h
  refine V_iast rfl dX8_put_9 (isShifts_1 h0) hb2 ?_
  refine V_aload_n rfl dX8_put_10 rfl rfl ?_
  refine V_getr (k0 := 2) rfl dX8_put_11 (isShifts_0 h0) icX8 (by decide) rfl w_328 ?_
  refine V_aload_n rfl dX8_put_14 rfl rfl ?_
  refine V_geti (k0 := 0) rfl dX8_put_15 (isShifts_0 h0) icX8 (by decide) rfl w_324 ?_
  refine V_iconst (v := 0) rfl dX8_put_18 kc_0 ?_
  replace h := wr_e h
  obtain ⟨hb4, h⟩ := h
  refine V_iast rfl dX8_put_19 (isShifts_2 h0) hb4 ?_
  refine V_iconst (v := 0) rfl dX8_put_20 kc_0 ?_
  refine V_istore (L' := [_, _, _, _, _]) rfl dX8_put_21 (by decide) rfl ?_
  exact V_sub (le_s (le_n (le_s (le_s (le_s le_0))))) (t_X8_put_23 h0 BG _ _ _ _ h)
-- X6_readsShift: NeverHalted$Reader.readsShift(I)Z
def f_X6_readsShift (p1 : Int32) (M : IM) : IR := cl (f_X6_takesNumber 0 (p1 - 1) M) fun w1 M2 => if w1 = (-1) then some (0, M2) else cl (f_X6_takes 10021 M2) fun w5 M6 => if w5 = 0 then some (0, M6) else cl (f_X6_takesNumber 0 23 M6) fun w9 M10 => if w9 = (-1) then some (0, M10) else cl (f_X6_takes 10019 M10) fun w13 M14 => if w13 = 0 then some (0, M14) else cl (f_X6_takesNumber 1 24 M14) fun w17 M18 => if w17 = (-1) then some (0, M18) else cl (f_X6_takes 20059 M18) fun w21 M22 => if w21 = 0 then some (0, M22) else cl (f_X8_put 112 w1 w9 w17 M22) fun _ M26 => some (1, M26)
set_option maxRecDepth 100000 in
set_option maxHeartbeats 4000000 in
theorem t_X6_readsShift {g : IG} {a : Nat → Nat} {R : Int32 × IM} {p1 : Int32} {M : IM} (h : f_X6_readsShift p1 M = some R) : Cn g mX6_readsShift 3 0 0 (qI S0 a R) [.ref (a 100), .int p1] a S0 M := by
  refine Cn_of (L := [some (.ref (a 100)), some (.int p1), none, none, none]) mf_X6_readsShift (cat_r (cat_i cat_0)) (Nat.le_of_ble_eq_true rfl) rfl ?_
  unfold f_X6_readsShift at h
  refine V_aload_n rfl dX6_readsShift_0 rfl rfl ?_
  refine V_iconst (v := 0) rfl dX6_readsShift_1 kc_0 ?_
  refine V_iload_n rfl dX6_readsShift_2 rfl rfl ?_
  refine V_iconst (v := 1) rfl dX6_readsShift_3 kc_1 ?_
  refine V_isub rfl dX6_readsShift_4 ?_
  replace h := cl_e h
  obtain ⟨w1, M2, hc3, h⟩ := h
  refine V_ii (As := [.int _, .int _]) rfl dX6_readsShift_5 mf_X6_takesNumber ⟨w_732, w_7⟩ w_730 (by decide) s0_100 rfl rfl rfl rfl ⟨rfl, rfl⟩ (t_X6_takesNumber hc3) ?_
  refine V_istore_n (L' := [_, _, _, _, _]) rfl rfl dX6_readsShift_8 (by decide) rfl ?_
  refine V_iload_n rfl dX6_readsShift_9 rfl rfl ?_
  refine V_iconst (v := (-1)) rfl dX6_readsShift_10 kc_m1 ?_
  refine V_icmp_eq (t := 24) rfl rfl dX6_readsShift_11 (fun hc4 => ?_) (fun hc4 => ?_)
  · replace h := ifp hc4 h
    refine V_iconst (v := 0) rfl dX6_readsShift_24 kc_0 ?_
    cases h
    exact V_iret dX6_readsShift_25 rfl nz_0 (Nat.le_refl _) (Nat.le_refl _) qI_ok
  · replace h := ifn hc4 h
    refine V_aload_n rfl dX6_readsShift_14 rfl rfl ?_
    refine V_sipush (v := 10021) rfl dX6_readsShift_15 ks_10021 ?_
    replace h := cl_e h
    obtain ⟨w5, M6, hc7, h⟩ := h
    refine V_ii (As := [.int _]) rfl dX6_readsShift_18 mf_X6_takes ⟨w_758, w_11⟩ w_756 (by decide) s0_100 rfl rfl rfl rfl ⟨rfl, rfl⟩ (t_X6_takes hc7) ?_
    refine V_if_ne (t := 26) rfl rfl dX6_readsShift_21 (fun hc8 => ?_) (fun hc8 => ?_)
    · replace h := ifn hc8 h
      refine V_aload_n rfl dX6_readsShift_26 rfl rfl ?_
      refine V_iconst (v := 0) rfl dX6_readsShift_27 kc_0 ?_
      refine V_bipush (v := 23) rfl dX6_readsShift_28 kb_23 ?_
      replace h := cl_e h
      obtain ⟨w9, M10, hc11, h⟩ := h
      refine V_ii (As := [.int _, .int _]) rfl dX6_readsShift_30 mf_X6_takesNumber ⟨w_732, w_7⟩ w_730 (by decide) s0_100 rfl rfl rfl rfl ⟨rfl, rfl⟩ (t_X6_takesNumber hc11) ?_
      refine V_istore_n (L' := [_, _, _, _, _]) rfl rfl dX6_readsShift_33 (by decide) rfl ?_
      refine V_iload_n rfl dX6_readsShift_34 rfl rfl ?_
      refine V_iconst (v := (-1)) rfl dX6_readsShift_35 kc_m1 ?_
      refine V_icmp_eq (t := 49) rfl rfl dX6_readsShift_36 (fun hc12 => ?_) (fun hc12 => ?_)
      · replace h := ifp hc12 h
        refine V_iconst (v := 0) rfl dX6_readsShift_49 kc_0 ?_
        cases h
        exact V_iret dX6_readsShift_50 rfl nz_0 (Nat.le_refl _) (Nat.le_refl _) qI_ok
      · replace h := ifn hc12 h
        refine V_aload_n rfl dX6_readsShift_39 rfl rfl ?_
        refine V_sipush (v := 10019) rfl dX6_readsShift_40 ks_10019 ?_
        replace h := cl_e h
        obtain ⟨w13, M14, hc15, h⟩ := h
        refine V_ii (As := [.int _]) rfl dX6_readsShift_43 mf_X6_takes ⟨w_758, w_11⟩ w_756 (by decide) s0_100 rfl rfl rfl rfl ⟨rfl, rfl⟩ (t_X6_takes hc15) ?_
        refine V_if_ne (t := 51) rfl rfl dX6_readsShift_46 (fun hc16 => ?_) (fun hc16 => ?_)
        · replace h := ifn hc16 h
          refine V_aload_n rfl dX6_readsShift_51 rfl rfl ?_
          refine V_iconst (v := 1) rfl dX6_readsShift_52 kc_1 ?_
          refine V_bipush (v := 24) rfl dX6_readsShift_53 kb_24 ?_
          replace h := cl_e h
          obtain ⟨w17, M18, hc19, h⟩ := h
          refine V_ii (As := [.int _, .int _]) rfl dX6_readsShift_55 mf_X6_takesNumber ⟨w_732, w_7⟩ w_730 (by decide) s0_100 rfl rfl rfl rfl ⟨rfl, rfl⟩ (t_X6_takesNumber hc19) ?_
          refine V_istore (L' := [_, _, _, _, _]) rfl dX6_readsShift_58 (by decide) rfl ?_
          refine V_iload rfl dX6_readsShift_60 rfl ?_
          refine V_iconst (v := (-1)) rfl dX6_readsShift_62 kc_m1 ?_
          refine V_icmp_eq (t := 76) rfl rfl dX6_readsShift_63 (fun hc20 => ?_) (fun hc20 => ?_)
          · replace h := ifp hc20 h
            refine V_iconst (v := 0) rfl dX6_readsShift_76 kc_0 ?_
            cases h
            exact V_iret dX6_readsShift_77 rfl nz_0 (Nat.le_refl _) (Nat.le_refl _) qI_ok
          · replace h := ifn hc20 h
            refine V_aload_n rfl dX6_readsShift_66 rfl rfl ?_
            refine V_sipush (v := 20059) rfl dX6_readsShift_67 ks_20059 ?_
            replace h := cl_e h
            obtain ⟨w21, M22, hc23, h⟩ := h
            refine V_ii (As := [.int _]) rfl dX6_readsShift_70 mf_X6_takes ⟨w_758, w_11⟩ w_756 (by decide) s0_100 rfl rfl rfl rfl ⟨rfl, rfl⟩ (t_X6_takes hc23) ?_
            refine V_if_ne (t := 78) rfl rfl dX6_readsShift_73 (fun hc24 => ?_) (fun hc24 => ?_)
            · replace h := ifn hc24 h
              refine V_aload_n rfl dX6_readsShift_78 rfl rfl ?_
              refine V_getr (k0 := 4) rfl dX6_readsShift_79 s0_100 icX6 (by decide) rfl w_431 ?_
              refine V_iload_n rfl dX6_readsShift_82 rfl rfl ?_
              refine V_iload_n rfl dX6_readsShift_83 rfl rfl ?_
              refine V_iload rfl dX6_readsShift_84 rfl ?_
              replace h := cl_e h
              obtain ⟨w25, M26, hc27, h⟩ := h
              refine V_iv (As := [.int _, .int _, .int _]) rfl dX6_readsShift_86 mf_X8_put ⟨w_805, w_806⟩ w_804 (by decide) s0_112 rfl rfl rfl rfl ⟨rfl, rfl⟩ (t_X8_put isShifts_at112 hc27) ?_
              refine V_iconst (v := 1) rfl dX6_readsShift_89 kc_1 ?_
              cases h
              exact V_iret dX6_readsShift_90 rfl nz_1 (Nat.le_refl _) (Nat.le_refl _) qI_ok
            · replace h := ifp hc24 h
              refine V_iconst (v := 0) rfl dX6_readsShift_76 kc_0 ?_
              cases h
              exact V_iret dX6_readsShift_77 rfl nz_0 (Nat.le_refl _) (Nat.le_refl _) qI_ok
        · replace h := ifp hc16 h
          refine V_iconst (v := 0) rfl dX6_readsShift_49 kc_0 ?_
          cases h
          exact V_iret dX6_readsShift_50 rfl nz_0 (Nat.le_refl _) (Nat.le_refl _) qI_ok
    · replace h := ifp hc8 h
      refine V_iconst (v := 0) rfl dX6_readsShift_24 kc_0 ?_
      cases h
      exact V_iret dX6_readsShift_25 rfl nz_0 (Nat.le_refl _) (Nat.le_refl _) qI_ok
-- X6_readsShifts: NeverHalted$Reader.readsShifts(I)Z
def f_X6_readsShifts_54 (r10 : Int32 → Int32 → IM → IR) (x1 : Int32) (x2 : Int32) (y1 : Int32) (y2 : Int32) (M : IM) : IR := cl (f_X6_opensLine y1 y2 M) fun w7 M8 => if w7 = 0 then some (0, M8) else cl (f_X6_readsShift x1 M8) fun w11 M12 => if w11 = 0 then some (0, M12) else lt (x2 + 1) fun v15 => r10 x1 v15 M12
set_option maxRecDepth 100000 in
set_option maxHeartbeats 4000000 in
theorem t_X6_readsShifts_54 {g : IG} {a : Nat → Nat} {R : Int32 × IM} {r10 : Int32 → Int32 → IM → IR} {x1 : Int32} {x2 : Int32} {y1 : Int32} {y2 : Int32} {M : IM} (hr10 : ∀ (x1 : Int32) (x2 : Int32) (M : IM), r10 x1 x2 M = some R → V g mX6_readsShifts 4 0 0 (qI S0 a R) 10 [some (.ref (a 100)), some (.int x1), some (.int x2)] [] a S0 M 0 0) (h : f_X6_readsShifts_54 r10 x1 x2 y1 y2 M = some R) : V g mX6_readsShifts 4 0 0 (qI S0 a R) 54 [some (.ref (a 100)), some (.int x1), some (.int x2)] [.int y2, .int y1, .ref (a 100)] a S0 M 0 0 := by
  unfold f_X6_readsShifts_54 at h
  replace h := cl_e h
  obtain ⟨w7, M8, hc9, h⟩ := h
  refine V_ii (As := [.int _, .int _]) rfl dX6_readsShifts_54 mf_X6_opensLine ⟨w_777, w_12⟩ w_775 (by decide) s0_100 rfl rfl rfl rfl ⟨rfl, rfl⟩ (t_X6_opensLine hc9) ?_
  refine V_if_eq (t := 68) rfl rfl dX6_readsShifts_57 (fun hc10 => ?_) (fun hc10 => ?_)
  · replace h := ifp hc10 h
    refine V_iconst (v := 0) rfl dX6_readsShifts_68 kc_0 ?_
    cases h
    exact V_iret dX6_readsShifts_69 rfl nz_0 (Nat.le_refl _) (Nat.le_refl _) qI_ok
  · replace h := ifn hc10 h
    refine V_aload_n rfl dX6_readsShifts_60 rfl rfl ?_
    refine V_iload_n rfl dX6_readsShifts_61 rfl rfl ?_
    replace h := cl_e h
    obtain ⟨w11, M12, hc13, h⟩ := h
    refine V_ii (As := [.int _]) rfl dX6_readsShifts_62 mf_X6_readsShift ⟨w_802, w_15⟩ w_800 (by decide) s0_100 rfl rfl rfl rfl ⟨rfl, rfl⟩ (t_X6_readsShift hc13) ?_
    refine V_if_ne (t := 70) rfl rfl dX6_readsShifts_65 (fun hc14 => ?_) (fun hc14 => ?_)
    · replace h := ifn hc14 h
      replace h := lt_e h
      refine V_inc (L' := [_, _, _]) rfl dX6_readsShifts_70 rfl kc_1 (by decide) rfl ?_
      refine V_goto (t := 10) rfl dX6_readsShifts_73 ?_
      exact V_sub (le_s (le_s (le_s le_0))) (hr10 _ _ _ h)
    · replace h := ifp hc14 h
      refine V_iconst (v := 0) rfl dX6_readsShifts_68 kc_0 ?_
      cases h
      exact V_iret dX6_readsShifts_69 rfl nz_0 (Nat.le_refl _) (Nat.le_refl _) qI_ok
def f_X6_readsShifts_10_b (r10 : Int32 → Int32 → IM → IR) (x1 : Int32) (x2 : Int32) (M : IM) : IR := if 16 < x2 then some (0, M) else rd M 117 401 (M 100 7) fun v3 => if v3 = 30000 then some (1, M) else if 16 ≤ (M 112 0) then f_X6_readsShifts_54 r10 x1 x2 10020 0 M else f_X6_readsShifts_54 r10 x1 x2 10020 1 M
def f_X6_readsShifts_10 (n : Nat) : Int32 → Int32 → IM → IR := itr (fun _ _ _ => none) (f_X6_readsShifts_10_b) n
set_option maxRecDepth 100000 in
set_option maxHeartbeats 4000000 in
theorem t_X6_readsShifts_10 {g : IG} {a : Nat → Nat} {R : Int32 × IM} (n : Nat) : ∀ (x1 : Int32) (x2 : Int32) (M : IM), f_X6_readsShifts_10 n x1 x2 M = some R → V g mX6_readsShifts 4 0 0 (qI S0 a R) 10 [some (.ref (a 100)), some (.int x1), some (.int x2)] [] a S0 M 0 0 := by
  induction n with
  | zero => intro x1 x2 M h; exact absurd h (fun z => by cases z)
  | succ n hr10 =>
    intro x1 x2 M h
    replace h : f_X6_readsShifts_10_b (f_X6_readsShifts_10 n) x1 x2 M = some R := h
    unfold f_X6_readsShifts_10_b at h
    refine V_iload_n rfl dX6_readsShifts_10 rfl rfl ?_
    refine V_bipush (v := 16) rfl dX6_readsShifts_11 kb_16 ?_
    refine V_icmp_gt (t := 76) rfl rfl dX6_readsShifts_13 (fun hc2 => ?_) (fun hc2 => ?_)
    · replace h := ifp hc2 h
      refine V_iconst (v := 0) rfl dX6_readsShifts_76 kc_0 ?_
      cases h
      exact V_iret dX6_readsShifts_77 rfl nz_0 (Nat.le_refl _) (Nat.le_refl _) qI_ok
    · replace h := ifn hc2 h
      refine V_aload_n rfl dX6_readsShifts_16 rfl rfl ?_
      refine V_getr (k0 := 5) rfl dX6_readsShifts_17 s0_100 icX6 (by decide) rfl w_433 ?_
      refine V_aload_n rfl dX6_readsShifts_20 rfl rfl ?_
      refine V_geti (k0 := 7) rfl dX6_readsShifts_21 s0_100 icX6 (by decide) rfl w_435 ?_
      replace h := rd_e h
      obtain ⟨hb4, h⟩ := h
      refine V_iald rfl dX6_readsShifts_24 s0_117 hb4 ?_
      refine V_sipush (v := 30000) rfl dX6_readsShifts_25 ks_30000 ?_
      refine V_icmp_ne (t := 33) rfl rfl dX6_readsShifts_28 (fun hc5 => ?_) (fun hc5 => ?_)
      · replace h := ifn hc5 h
        refine V_aload_n rfl dX6_readsShifts_33 rfl rfl ?_
        refine V_sipush (v := 10020) rfl dX6_readsShifts_34 ks_10020 ?_
        refine V_aload_n rfl dX6_readsShifts_37 rfl rfl ?_
        refine V_getr (k0 := 4) rfl dX6_readsShifts_38 s0_100 icX6 (by decide) rfl w_431 ?_
        refine V_geti (k0 := 0) rfl dX6_readsShifts_41 s0_112 icX8 (by decide) rfl w_325 ?_
        refine V_bipush (v := 16) rfl dX6_readsShifts_44 kb_16 ?_
        refine V_icmp_ge (t := 53) rfl rfl dX6_readsShifts_46 (fun hc6 => ?_) (fun hc6 => ?_)
        · replace h := ifp hc6 h
          refine V_iconst (v := 0) rfl dX6_readsShifts_53 kc_0 ?_
          exact V_sub (le_s (le_s (le_s le_0))) (t_X6_readsShifts_54 hr10 h)
        · replace h := ifn hc6 h
          refine V_iconst (v := 1) rfl dX6_readsShifts_49 kc_1 ?_
          refine V_goto (t := 54) rfl dX6_readsShifts_50 ?_
          exact V_sub (le_s (le_s (le_s le_0))) (t_X6_readsShifts_54 hr10 h)
      · replace h := ifp hc5 h
        refine V_iconst (v := 1) rfl dX6_readsShifts_31 kc_1 ?_
        cases h
        exact V_iret dX6_readsShifts_32 rfl nz_1 (Nat.le_refl _) (Nat.le_refl _) qI_ok
def f_X6_readsShifts (p1 : Int32) (M : IM) : IR := pt M 112 0 0 fun M1 => f_X6_readsShifts_10 BG p1 0 M1
set_option maxRecDepth 100000 in
set_option maxHeartbeats 4000000 in
theorem t_X6_readsShifts {g : IG} {a : Nat → Nat} {R : Int32 × IM} {p1 : Int32} {M : IM} (h : f_X6_readsShifts p1 M = some R) : Cn g mX6_readsShifts 4 0 0 (qI S0 a R) [.ref (a 100), .int p1] a S0 M := by
  refine Cn_of (L := [some (.ref (a 100)), some (.int p1), none]) mf_X6_readsShifts (cat_r (cat_i cat_0)) (Nat.le_of_ble_eq_true rfl) rfl ?_
  unfold f_X6_readsShifts at h
  refine V_aload_n rfl dX6_readsShifts_0 rfl rfl ?_
  refine V_getr (k0 := 4) rfl dX6_readsShifts_1 s0_100 icX6 (by decide) rfl w_431 ?_
  refine V_iconst (v := 0) rfl dX6_readsShifts_4 kc_0 ?_
  replace h := pt_e h
  refine V_putf (k0 := 0) (ty := .int) rfl dX6_readsShifts_5 s0_112 icX8 tyX8_ok nmX8 (by decide) rfl w_325 rfl (tyX8_ok _ (by decide)) rfl rfl ?_
  refine V_iconst (v := 0) rfl dX6_readsShifts_8 kc_0 ?_
  refine V_istore_n (L' := [_, _, _]) rfl rfl dX6_readsShifts_9 (by decide) rfl ?_
  exact V_sub (le_s (le_s (le_s le_0))) (t_X6_readsShifts_10 BG _ _ _ h)
-- X8_become: NeverHalted$Shifts.become(LNeverHalted$Shifts;)I
def f_X8_become (o0 : Nat) (o1 : Nat) (M : IM) : IR := pt M o0 0 (M o1 0) fun M1 => cp M1 (o1 + 1) 16 0 (o0 + 1) 16 0 16 fun M2 => cp M2 (o1 + 2) 16 0 (o0 + 2) 16 0 16 fun M4 => some ((M4 o0 0), M4)
set_option maxRecDepth 100000 in
set_option maxHeartbeats 4000000 in
theorem t_X8_become {g : IG} {a : Nat → Nat} {R : Int32 × IM} {o0 : Nat} {o1 : Nat} {M : IM} (h0 : isShifts o0) (h1 : isShifts o1) (h : f_X8_become o0 o1 M = some R) : Cn g mX8_become 1 0 0 (qI S0 a R) [.ref (a o0), .ref (a o1)] a S0 M := by
  refine Cn_of (L := [some (.ref (a o0)), some (.ref (a o1))]) mf_X8_become (cat_r (cat_r cat_0)) (Nat.le_of_ble_eq_true rfl) rfl ?_
  unfold f_X8_become at h
  refine V_aload_n rfl dX8_become_0 rfl rfl ?_
  refine V_aload_n rfl dX8_become_1 rfl rfl ?_
  refine V_geti (k0 := 0) rfl dX8_become_2 (isShifts_0 h1) icX8 (by decide) rfl w_324 ?_
  replace h := pt_e h
  refine V_putf (k0 := 0) (ty := .int) rfl dX8_become_5 (isShifts_0 h0) icX8 tyX8_ok nmX8 (by decide) rfl w_324 rfl (tyX8_ok _ (by decide)) rfl rfl ?_
  refine V_aload_n rfl dX8_become_8 rfl rfl ?_
  refine V_getr (k0 := 1) rfl dX8_become_9 (isShifts_0 h1) icX8 (by decide) rfl w_327 ?_
  refine V_iconst (v := 0) rfl dX8_become_12 kc_0 ?_
  refine V_aload_n rfl dX8_become_13 rfl rfl ?_
  refine V_getr (k0 := 1) rfl dX8_become_14 (isShifts_0 h0) icX8 (by decide) rfl w_327 ?_
  refine V_iconst (v := 0) rfl dX8_become_17 kc_0 ?_
  refine V_bipush (v := 16) rfl dX8_become_18 kb_16 ?_
  replace h := cp_e h
  obtain ⟨hb3, h⟩ := h
  refine V_copy rfl dX8_become_20 w_816 ⟨w_770, w_769, w_156⟩ (isShifts_1 h1) (isShifts_1 h0) rfl hb3 ?_
  refine V_aload_n rfl dX8_become_23 rfl rfl ?_
  refine V_getr (k0 := 2) rfl dX8_become_24 (isShifts_0 h1) icX8 (by decide) rfl w_328 ?_
  refine V_iconst (v := 0) rfl dX8_become_27 kc_0 ?_
  refine V_aload_n rfl dX8_become_28 rfl rfl ?_
  refine V_getr (k0 := 2) rfl dX8_become_29 (isShifts_0 h0) icX8 (by decide) rfl w_328 ?_
  refine V_iconst (v := 0) rfl dX8_become_32 kc_0 ?_
  refine V_bipush (v := 16) rfl dX8_become_33 kb_16 ?_
  replace h := cp_e h
  obtain ⟨hb5, h⟩ := h
  refine V_copy rfl dX8_become_35 w_816 ⟨w_770, w_769, w_156⟩ (isShifts_2 h1) (isShifts_2 h0) rfl hb5 ?_
  refine V_aload_n rfl dX8_become_38 rfl rfl ?_
  refine V_geti (k0 := 0) rfl dX8_become_39 (isShifts_0 h0) icX8 (by decide) rfl w_324 ?_
  cases h
  exact V_iret dX8_become_42 rfl rfl (Nat.le_refl _) (Nat.le_refl _) qI_ok
-- X11_tellShifts: NeverHalted.tellShifts()I
def f_X11_tellShifts (M : IM) : IR := cl (f_X5_forget M) fun _ M2 => cl (f_X8_become 25 112 M2) fun w4 M5 => some (w4, M5)
set_option maxRecDepth 100000 in
set_option maxHeartbeats 4000000 in
theorem t_X11_tellShifts {g : IG} {a : Nat → Nat} {R : Int32 × IM} {M : IM} (h : f_X11_tellShifts M = some R) : Cn g mX11_tellShifts 2 0 0 (qI S0 a R) [.ref (a 0)] a S0 M := by
  refine Cn_of (L := [some (.ref (a 0))]) mf_X11_tellShifts (cat_r cat_0) (Nat.le_of_ble_eq_true rfl) rfl ?_
  unfold f_X11_tellShifts at h
  refine V_aload_n rfl dX11_tellShifts_0 rfl rfl ?_
  refine V_getr (k0 := 3) rfl dX11_tellShifts_1 s0_0 icX11 (by decide) rfl w_526 ?_
  replace h := cl_e h
  obtain ⟨w1, M2, hc3, h⟩ := h
  refine V_iv (As := []) rfl dX11_tellShifts_4 mf_X5_forget ⟨w_583, w_584⟩ w_582 (by decide) s0_34 rfl rfl rfl rfl ⟨rfl, rfl⟩ (t_X5_forget hc3) ?_
  refine V_aload_n rfl dX11_tellShifts_7 rfl rfl ?_
  refine V_getr (k0 := 1) rfl dX11_tellShifts_8 s0_0 icX11 (by decide) rfl w_524 ?_
  refine V_getr (k0 := 7) rfl dX11_tellShifts_11 s0_6 icX9 (by decide) rfl w_357 ?_
  refine V_aload_n rfl dX11_tellShifts_14 rfl rfl ?_
  refine V_getr (k0 := 10) rfl dX11_tellShifts_15 s0_0 icX11 (by decide) rfl w_533 ?_
  refine V_getr (k0 := 4) rfl dX11_tellShifts_18 s0_100 icX6 (by decide) rfl w_432 ?_
  replace h := cl_e h
  obtain ⟨w4, M5, hc6, h⟩ := h
  refine V_ii (As := [.ref _]) rfl dX11_tellShifts_21 mf_X8_become ⟨w_813, w_814⟩ w_812 (by decide) s0_25 rfl rfl rfl rfl ⟨rfl, rfl⟩ (t_X8_become isShifts_at25 isShifts_at112 hc6) ?_
  cases h
  exact V_iret dX11_tellShifts_24 rfl rfl (Nat.le_refl _) (Nat.le_refl _) qI_ok
-- X11_text: NeverHalted.text(I)I
def f_X11_text (p1 : Int32) (M : IM) : IR := lt (M 0 9) fun v1 => pt M 0 9 0 fun M2 => cl (f_X6_begin 99 400 v1 M2) fun _ M4 => if p1 = 0 then cl (f_X6_readsLaw 0 M4) fun w7 M8 => if w7 = 0 then some ((-1), M8) else cl (f_X3_become 8 101 M8) fun w11 M12 => some (w11, M12) else if p1 = 1 then cl (f_X6_readsLaw 1 M4) fun w15 M16 => if w15 = 0 then some ((-1), M16) else cl (f_X3_become 14 101 M16) fun w19 M20 => some (w19, M20) else if p1 = 2 then cl (f_X6_readsRound M4) fun w23 M24 => if w23 = 0 then some ((-1), M24) else cl (f_X11_tellRound M24) fun w27 M28 => some (w27, M28) else if p1 = 3 then cl (f_X6_readsShifts (M4 1 10) M4) fun w31 M32 => if w31 = 0 then some ((-1), M32) else cl (f_X11_tellShifts M32) fun w35 M36 => some (w35, M36) else some ((-1), M4)
set_option maxRecDepth 100000 in
set_option maxHeartbeats 4000000 in
theorem t_X11_text {g : IG} {a : Nat → Nat} {R : Int32 × IM} {p1 : Int32} {M : IM} (h : f_X11_text p1 M = some R) : Cn g mX11_text 30 0 0 (qI S0 a R) [.ref (a 0), .int p1] a S0 M := by
  refine Cn_of (L := [some (.ref (a 0)), some (.int p1), none]) mf_X11_text (cat_r (cat_i cat_0)) (Nat.le_of_ble_eq_true rfl) rfl ?_
  unfold f_X11_text at h
  refine V_aload_n rfl dX11_text_0 rfl rfl ?_
  refine V_geti (k0 := 9) rfl dX11_text_1 s0_0 icX11 (by decide) rfl w_532 ?_
  replace h := lt_e h
  refine V_istore_n (L' := [_, _, _]) rfl rfl dX11_text_4 (by decide) rfl ?_
  refine V_aload_n rfl dX11_text_5 rfl rfl ?_
  refine V_iconst (v := 0) rfl dX11_text_6 kc_0 ?_
  replace h := pt_e h
  refine V_putf (k0 := 9) (ty := .int) rfl dX11_text_7 s0_0 icX11 tyX11_ok nmX11 (by decide) rfl w_532 rfl (tyX11_ok _ (by decide)) rfl rfl ?_
  refine V_aload_n rfl dX11_text_10 rfl rfl ?_
  refine V_getr (k0 := 10) rfl dX11_text_11 s0_0 icX11 (by decide) rfl w_533 ?_
  refine V_aload_n rfl dX11_text_14 rfl rfl ?_
  refine V_getr (k0 := 8) rfl dX11_text_15 s0_0 icX11 (by decide) rfl w_531 ?_
  refine V_iload_n rfl dX11_text_18 rfl rfl ?_
  replace h := cl_e h
  obtain ⟨w3, M4, hc5, h⟩ := h
  refine V_iv (As := [.ref _, .int _]) rfl dX11_text_19 mf_X6_begin ⟨w_629, w_630⟩ w_628 (by decide) s0_100 rfl rfl rfl rfl ⟨rfl, rfl⟩ (t_X6_begin s0_99 hc5) ?_
  refine V_iload_n rfl dX11_text_22 rfl rfl ?_
  replace h := ift h
  rcases h with ⟨hc6, h⟩ | ⟨hc6, h⟩
  · refine V_tabAt (off := 29) (t := 52) hc6 dX11_text_23 (by decide +kernel) rfl ?_
    refine V_aload_n rfl dX11_text_52 rfl rfl ?_
    refine V_getr (k0 := 10) rfl dX11_text_53 s0_0 icX11 (by decide) rfl w_533 ?_
    refine V_iconst (v := 0) rfl dX11_text_56 kc_0 ?_
    replace h := cl_e h
    obtain ⟨w7, M8, hc9, h⟩ := h
    refine V_ii (As := [.int _]) rfl dX11_text_57 mf_X6_readsLaw ⟨w_703, w_704⟩ w_702 (by decide) s0_100 rfl rfl rfl rfl ⟨rfl, rfl⟩ (t_X6_readsLaw hc9) ?_
    refine V_if_eq (t := 83) rfl rfl dX11_text_60 (fun hc10 => ?_) (fun hc10 => ?_)
    · replace h := ifp hc10 h
      refine V_iconst (v := (-1)) rfl dX11_text_83 kc_m1 ?_
      cases h
      exact V_iret dX11_text_84 rfl rfl (Nat.le_refl _) (Nat.le_refl _) qI_ok
    · replace h := ifn hc10 h
      refine V_aload_n rfl dX11_text_63 rfl rfl ?_
      refine V_getr (k0 := 1) rfl dX11_text_64 s0_0 icX11 (by decide) rfl w_524 ?_
      refine V_getr (k0 := 4) rfl dX11_text_67 s0_6 icX9 (by decide) rfl w_351 ?_
      refine V_aload_n rfl dX11_text_70 rfl rfl ?_
      refine V_getr (k0 := 10) rfl dX11_text_71 s0_0 icX11 (by decide) rfl w_533 ?_
      refine V_getr (k0 := 2) rfl dX11_text_74 s0_100 icX6 (by decide) rfl w_428 ?_
      replace h := cl_e h
      obtain ⟨w11, M12, hc13, h⟩ := h
      refine V_ii (As := [.ref _]) rfl dX11_text_77 mf_X3_become ⟨w_765, w_766⟩ w_764 (by decide) s0_8 rfl rfl rfl rfl ⟨rfl, rfl⟩ (t_X3_become isLaw_at8 isLaw_at101 hc13) ?_
      refine V_goto (t := 84) rfl dX11_text_80 ?_
      cases h
      exact V_iret dX11_text_84 rfl rfl (Nat.le_refl _) (Nat.le_refl _) qI_ok
  replace h := ift h
  rcases h with ⟨hc14, h⟩ | ⟨hc14, h⟩
  · refine V_tabAt (off := 62) (t := 85) hc14 dX11_text_23 (by decide +kernel) rfl ?_
    refine V_aload_n rfl dX11_text_85 rfl rfl ?_
    refine V_getr (k0 := 10) rfl dX11_text_86 s0_0 icX11 (by decide) rfl w_533 ?_
    refine V_iconst (v := 1) rfl dX11_text_89 kc_1 ?_
    replace h := cl_e h
    obtain ⟨w15, M16, hc17, h⟩ := h
    refine V_ii (As := [.int _]) rfl dX11_text_90 mf_X6_readsLaw ⟨w_703, w_704⟩ w_702 (by decide) s0_100 rfl rfl rfl rfl ⟨rfl, rfl⟩ (t_X6_readsLaw hc17) ?_
    refine V_if_eq (t := 116) rfl rfl dX11_text_93 (fun hc18 => ?_) (fun hc18 => ?_)
    · replace h := ifp hc18 h
      refine V_iconst (v := (-1)) rfl dX11_text_116 kc_m1 ?_
      cases h
      exact V_iret dX11_text_117 rfl rfl (Nat.le_refl _) (Nat.le_refl _) qI_ok
    · replace h := ifn hc18 h
      refine V_aload_n rfl dX11_text_96 rfl rfl ?_
      refine V_getr (k0 := 1) rfl dX11_text_97 s0_0 icX11 (by decide) rfl w_524 ?_
      refine V_getr (k0 := 5) rfl dX11_text_100 s0_6 icX9 (by decide) rfl w_353 ?_
      refine V_aload_n rfl dX11_text_103 rfl rfl ?_
      refine V_getr (k0 := 10) rfl dX11_text_104 s0_0 icX11 (by decide) rfl w_533 ?_
      refine V_getr (k0 := 2) rfl dX11_text_107 s0_100 icX6 (by decide) rfl w_428 ?_
      replace h := cl_e h
      obtain ⟨w19, M20, hc21, h⟩ := h
      refine V_ii (As := [.ref _]) rfl dX11_text_110 mf_X3_become ⟨w_765, w_766⟩ w_764 (by decide) s0_14 rfl rfl rfl rfl ⟨rfl, rfl⟩ (t_X3_become isLaw_at14 isLaw_at101 hc21) ?_
      refine V_goto (t := 117) rfl dX11_text_113 ?_
      cases h
      exact V_iret dX11_text_117 rfl rfl (Nat.le_refl _) (Nat.le_refl _) qI_ok
  replace h := ift h
  rcases h with ⟨hc22, h⟩ | ⟨hc22, h⟩
  · refine V_tabAt (off := 95) (t := 118) hc22 dX11_text_23 (by decide +kernel) rfl ?_
    refine V_aload_n rfl dX11_text_118 rfl rfl ?_
    refine V_getr (k0 := 10) rfl dX11_text_119 s0_0 icX11 (by decide) rfl w_533 ?_
    replace h := cl_e h
    obtain ⟨w23, M24, hc25, h⟩ := h
    refine V_ii (As := []) rfl dX11_text_122 mf_X6_readsRound ⟨w_772, w_773⟩ w_771 (by decide) s0_100 rfl rfl rfl rfl ⟨rfl, rfl⟩ (t_X6_readsRound hc25) ?_
    refine V_if_eq (t := 135) rfl rfl dX11_text_125 (fun hc26 => ?_) (fun hc26 => ?_)
    · replace h := ifp hc26 h
      refine V_iconst (v := (-1)) rfl dX11_text_135 kc_m1 ?_
      cases h
      exact V_iret dX11_text_136 rfl rfl (Nat.le_refl _) (Nat.le_refl _) qI_ok
    · replace h := ifn hc26 h
      refine V_aload_n rfl dX11_text_128 rfl rfl ?_
      replace h := cl_e h
      obtain ⟨w27, M28, hc29, h⟩ := h
      refine V_ii (As := []) rfl dX11_text_129 mf_X11_tellRound ⟨w_789, w_14⟩ w_787 (by decide) s0_0 rfl rfl rfl rfl ⟨rfl, rfl⟩ (t_X11_tellRound hc29) ?_
      refine V_goto (t := 136) rfl dX11_text_132 ?_
      cases h
      exact V_iret dX11_text_136 rfl rfl (Nat.le_refl _) (Nat.le_refl _) qI_ok
  replace h := ift h
  rcases h with ⟨hc30, h⟩ | ⟨hc30, h⟩
  · refine V_tabAt (off := 114) (t := 137) hc30 dX11_text_23 (by decide +kernel) rfl ?_
    refine V_aload_n rfl dX11_text_137 rfl rfl ?_
    refine V_getr (k0 := 10) rfl dX11_text_138 s0_0 icX11 (by decide) rfl w_533 ?_
    refine V_aload_n rfl dX11_text_141 rfl rfl ?_
    refine V_getr (k0 := 0) rfl dX11_text_142 s0_0 icX11 (by decide) rfl w_523 ?_
    refine V_geti (k0 := 10) rfl dX11_text_145 s0_1 icX4 (by decide) rfl w_201 ?_
    replace h := cl_e h
    obtain ⟨w31, M32, hc33, h⟩ := h
    refine V_ii (As := [.int _]) rfl dX11_text_148 mf_X6_readsShifts ⟨w_797, w_798⟩ w_796 (by decide) s0_100 rfl rfl rfl rfl ⟨rfl, rfl⟩ (t_X6_readsShifts hc33) ?_
    refine V_if_eq (t := 161) rfl rfl dX11_text_151 (fun hc34 => ?_) (fun hc34 => ?_)
    · replace h := ifp hc34 h
      refine V_iconst (v := (-1)) rfl dX11_text_161 kc_m1 ?_
      cases h
      exact V_iret dX11_text_162 rfl rfl (Nat.le_refl _) (Nat.le_refl _) qI_ok
    · replace h := ifn hc34 h
      refine V_aload_n rfl dX11_text_154 rfl rfl ?_
      replace h := cl_e h
      obtain ⟨w35, M36, hc37, h⟩ := h
      refine V_ii (As := []) rfl dX11_text_155 mf_X11_tellShifts ⟨w_810, w_16⟩ w_808 (by decide) s0_0 rfl rfl rfl rfl ⟨rfl, rfl⟩ (t_X11_tellShifts hc37) ?_
      refine V_goto (t := 162) rfl dX11_text_158 ?_
      cases h
      exact V_iret dX11_text_162 rfl rfl (Nat.le_refl _) (Nat.le_refl _) qI_ok
  refine V_tabOut (t := 163) dX11_text_23 (by have hc6i := ne_toInt (z := 0) (k := 0) hc6 (by decide +kernel); have hc14i := ne_toInt (z := 1) (k := 1) hc14 (by decide +kernel); have hc22i := ne_toInt (z := 2) (k := 2) hc22 (by decide +kernel); have hc30i := ne_toInt (z := 3) (k := 3) hc30 (by decide +kernel); omega) rfl ?_
  refine V_iconst (v := (-1)) rfl dX11_text_163 kc_m1 ?_
  cases h
  exact V_iret dX11_text_164 rfl rfl (Nat.le_refl _) (Nat.le_refl _) qI_ok
-- X11_fault: NeverHalted.fault(I)I
def f_X11_fault (p1 : Int32) (M : IM) : IR := if p1 = 0 then some ((M 100 0), M) else if p1 = 1 then some ((M 100 1), M) else some ((-1), M)
set_option maxRecDepth 100000 in
set_option maxHeartbeats 4000000 in
theorem t_X11_fault {g : IG} {a : Nat → Nat} {R : Int32 × IM} {p1 : Int32} {M : IM} (h : f_X11_fault p1 M = some R) : Cn g mX11_fault 1 0 0 (qI S0 a R) [.ref (a 0), .int p1] a S0 M := by
  refine Cn_of (L := [some (.ref (a 0)), some (.int p1)]) mf_X11_fault (cat_r (cat_i cat_0)) (Nat.le_of_ble_eq_true rfl) rfl ?_
  unfold f_X11_fault at h
  refine V_iload_n rfl dX11_fault_0 rfl rfl ?_
  replace h := ift h
  rcases h with ⟨hc1, h⟩ | ⟨hc1, h⟩
  · refine V_lookAt (off := 27) (t := 28) hc1 dX11_fault_1 (by decide +kernel) (by decide +kernel) rfl ?_
    refine V_aload_n rfl dX11_fault_28 rfl rfl ?_
    refine V_getr (k0 := 10) rfl dX11_fault_29 s0_0 icX11 (by decide) rfl w_533 ?_
    refine V_geti (k0 := 0) rfl dX11_fault_32 s0_100 icX6 (by decide) rfl w_424 ?_
    cases h
    exact V_iret dX11_fault_35 rfl rfl (Nat.le_refl _) (Nat.le_refl _) qI_ok
  replace h := ift h
  rcases h with ⟨hc2, h⟩ | ⟨hc2, h⟩
  · refine V_lookAt (off := 35) (t := 36) hc2 dX11_fault_1 (by decide +kernel) (by decide +kernel) rfl ?_
    refine V_aload_n rfl dX11_fault_36 rfl rfl ?_
    refine V_getr (k0 := 10) rfl dX11_fault_37 s0_0 icX11 (by decide) rfl w_533 ?_
    refine V_geti (k0 := 1) rfl dX11_fault_40 s0_100 icX6 (by decide) rfl w_426 ?_
    cases h
    exact V_iret dX11_fault_43 rfl rfl (Nat.le_refl _) (Nat.le_refl _) qI_ok
  refine V_lookup (off := 43) (t := 44) dX11_fault_1 (by decide +kernel) (look_ne (fun e => ne_toInt (z := 0) (k := 0) hc1 (by decide +kernel) e.symm) (look_ne (fun e => ne_toInt (z := 1) (k := 1) hc2 (by decide +kernel) e.symm) rfl)) rfl ?_
  refine V_iconst (v := (-1)) rfl dX11_fault_44 kc_m1 ?_
  cases h
  exact V_iret dX11_fault_45 rfl rfl (Nat.le_refl _) (Nat.le_refl _) qI_ok
-- X5_dropOldest: NeverHalted$Past.dropOldest()V
def f_X5_dropOldest_9_b (r9 : Nat → Int32 → IM → IR) (j1 : Nat) (x2 : Int32) (M : IM) : IR := if 6 ≤ x2 then wa M 35 6 5 j1 fun M6 => pt M6 34 0 ((M6 34 0) - 1) fun M8 => some (0, M8) else ra nwL M 35 6 x2 fun j9 => wa M 35 6 (x2 - 1) j9 fun M13 => lt (x2 + 1) fun v15 => r9 j1 v15 M13
def f_X5_dropOldest_9 (n : Nat) : Nat → Int32 → IM → IR := itr (fun _ _ _ => none) (f_X5_dropOldest_9_b) n
set_option maxRecDepth 100000 in
set_option maxHeartbeats 4000000 in
theorem t_X5_dropOldest_9 {g : IG} {a : Nat → Nat} {R : Int32 × IM} (n : Nat) : ∀ (j1 : Nat) (x2 : Int32) (M : IM), j1 ∈ nwL → f_X5_dropOldest_9 n j1 x2 M = some R → V g mX5_dropOldest 1 0 0 (qV S0 a R) 9 [some (.ref (a 34)), some (.ref (a j1)), some (.int x2)] [] a S0 M 0 0 := by
  induction n with
  | zero => intro j1 x2 M hj1 h; exact absurd h (fun z => by cases z)
  | succ n hr9 =>
    intro j1 x2 M hj1 h
    replace h : f_X5_dropOldest_9_b (f_X5_dropOldest_9 n) j1 x2 M = some R := h
    unfold f_X5_dropOldest_9_b at h
    refine V_iload_n rfl dX5_dropOldest_9 rfl rfl ?_
    refine V_bipush (v := 6) rfl dX5_dropOldest_10 kb_6 ?_
    refine V_icmp_ge (t := 35) rfl rfl dX5_dropOldest_12 (fun hc5 => ?_) (fun hc5 => ?_)
    · replace h := ifp hc5 h
      refine V_aload_n rfl dX5_dropOldest_35 rfl rfl ?_
      refine V_getr (k0 := 1) rfl dX5_dropOldest_36 s0_34 icX5 (by decide) rfl w_405 ?_
      refine V_iconst (v := 5) rfl dX5_dropOldest_39 kc_5 ?_
      refine V_aload_n rfl dX5_dropOldest_40 rfl rfl ?_
      replace h := wa_e h
      obtain ⟨hb7, h⟩ := h
      refine V_aast rfl dX5_dropOldest_41 s0_35 (isNow_0 (nwL_is hj1)) rfl (ie_in_nw (nwL_lt hj1)).1 (ie_in_nw (nwL_lt hj1)).2 hb7 ?_
      refine V_aload_n rfl dX5_dropOldest_42 rfl rfl ?_
      refine V_dup rfl dX5_dropOldest_43 rfl ?_
      refine V_geti (k0 := 0) rfl dX5_dropOldest_44 s0_34 icX5 (by decide) rfl w_403 ?_
      refine V_iconst (v := 1) rfl dX5_dropOldest_47 kc_1 ?_
      refine V_isub rfl dX5_dropOldest_48 ?_
      replace h := pt_e h
      refine V_putf (k0 := 0) (ty := .int) rfl dX5_dropOldest_49 s0_34 icX5 tyX5_ok nmX5 (by decide) rfl w_403 rfl (tyX5_ok _ (by decide)) rfl rfl ?_
      cases h
      exact V_vret dX5_dropOldest_52 rfl (Nat.le_refl _) (Nat.le_refl _) qV_ok
    · replace h := ifn hc5 h
      refine V_aload_n rfl dX5_dropOldest_15 rfl rfl ?_
      refine V_getr (k0 := 1) rfl dX5_dropOldest_16 s0_34 icX5 (by decide) rfl w_405 ?_
      refine V_iload_n rfl dX5_dropOldest_19 rfl rfl ?_
      refine V_iconst (v := 1) rfl dX5_dropOldest_20 kc_1 ?_
      refine V_isub rfl dX5_dropOldest_21 ?_
      refine V_aload_n rfl dX5_dropOldest_22 rfl rfl ?_
      refine V_getr (k0 := 1) rfl dX5_dropOldest_23 s0_34 icX5 (by decide) rfl w_405 ?_
      refine V_iload_n rfl dX5_dropOldest_26 rfl rfl ?_
      replace h := ra_e h
      obtain ⟨hb10, hz11, hj12, h⟩ := h
      refine V_aald rfl dX5_dropOldest_27 s0_35 hb10 hz11 ?_
      replace h := wa_e h
      obtain ⟨hb14, h⟩ := h
      refine V_aast rfl dX5_dropOldest_28 s0_35 (isNow_0 (nwL_is hj12)) rfl (ie_in_nw (nwL_lt hj12)).1 (ie_in_nw (nwL_lt hj12)).2 hb14 ?_
      replace h := lt_e h
      refine V_inc (L' := [_, _, _]) rfl dX5_dropOldest_29 rfl kc_1 (by decide) rfl ?_
      refine V_goto (t := 9) rfl dX5_dropOldest_32 ?_
      exact V_sub (le_s (le_s (le_s le_0))) (hr9 _ _ _ hj1 h)
def f_X5_dropOldest (M : IM) : IR := ra nwL M 35 6 0 fun j1 => f_X5_dropOldest_9 BG j1 1 M
set_option maxRecDepth 100000 in
set_option maxHeartbeats 4000000 in
theorem t_X5_dropOldest {g : IG} {a : Nat → Nat} {R : Int32 × IM} {M : IM} (h : f_X5_dropOldest M = some R) : Cn g mX5_dropOldest 1 0 0 (qV S0 a R) [.ref (a 34)] a S0 M := by
  refine Cn_of (L := [some (.ref (a 34)), none, none]) mf_X5_dropOldest (cat_r cat_0) (Nat.le_of_ble_eq_true rfl) rfl ?_
  unfold f_X5_dropOldest at h
  refine V_aload_n rfl dX5_dropOldest_0 rfl rfl ?_
  refine V_getr (k0 := 1) rfl dX5_dropOldest_1 s0_34 icX5 (by decide) rfl w_405 ?_
  refine V_iconst (v := 0) rfl dX5_dropOldest_4 kc_0 ?_
  replace h := ra_e h
  obtain ⟨hb2, hz3, hj4, h⟩ := h
  refine V_aald rfl dX5_dropOldest_5 s0_35 hb2 hz3 ?_
  refine V_astore_n (L' := [_, _, _]) rfl rfl dX5_dropOldest_6 (by decide) rfl ?_
  refine V_iconst (v := 1) rfl dX5_dropOldest_7 kc_1 ?_
  refine V_istore_n (L' := [_, _, _]) rfl rfl dX5_dropOldest_8 (by decide) rfl ?_
  exact V_sub (le_s (le_s (le_s le_0))) (t_X5_dropOldest_9 BG _ _ _ hj4 h)
-- X4_become: NeverHalted$Now.become(LNeverHalted$Now;)V
def f_X4_become (o0 : Nat) (o1 : Nat) (M : IM) : IR := pt M o0 0 (M o1 0) fun M1 => pt M1 o0 1 (M1 o1 1) fun M2 => pt M2 o0 2 (M2 o1 2) fun M3 => pt M3 o0 3 (M3 o1 3) fun M4 => pt M4 o0 4 (M4 o1 4) fun M5 => pt M5 o0 5 (M5 o1 5) fun M6 => pt M6 o0 6 (M6 o1 6) fun M7 => pt M7 o0 7 (M7 o1 7) fun M8 => pt M8 o0 8 (M8 o1 8) fun M9 => pt M9 o0 9 (M9 o1 9) fun M10 => pt M10 o0 10 (M10 o1 10) fun M11 => cp M11 (o1 + 1) 10 0 (o0 + 1) 10 0 10 fun M12 => cp M12 (o1 + 2) 10 0 (o0 + 2) 10 0 10 fun M14 => cp M14 (o1 + 3) 10 0 (o0 + 3) 10 0 10 fun M16 => cp M16 (o1 + 4) 10 0 (o0 + 4) 10 0 10 fun M18 => some (0, M18)
set_option maxRecDepth 100000 in
set_option maxHeartbeats 4000000 in
theorem t_X4_become {g : IG} {a : Nat → Nat} {R : Int32 × IM} {o0 : Nat} {o1 : Nat} {M : IM} (h0 : isNow o0) (h1 : isNow o1) (h : f_X4_become o0 o1 M = some R) : Cn g mX4_become 1 0 0 (qV S0 a R) [.ref (a o0), .ref (a o1)] a S0 M := by
  refine Cn_of (L := [some (.ref (a o0)), some (.ref (a o1))]) mf_X4_become (cat_r (cat_r cat_0)) (Nat.le_of_ble_eq_true rfl) rfl ?_
  unfold f_X4_become at h
  refine V_aload_n rfl dX4_become_0 rfl rfl ?_
  refine V_aload_n rfl dX4_become_1 rfl rfl ?_
  refine V_geti (k0 := 0) rfl dX4_become_2 (isNow_0 h1) icX4 (by decide) rfl w_174 ?_
  replace h := pt_e h
  refine V_putf (k0 := 0) (ty := .int) rfl dX4_become_5 (isNow_0 h0) icX4 tyX4_ok nmX4 (by decide) rfl w_174 rfl (tyX4_ok _ (by decide)) rfl rfl ?_
  refine V_aload_n rfl dX4_become_8 rfl rfl ?_
  refine V_aload_n rfl dX4_become_9 rfl rfl ?_
  refine V_geti (k0 := 1) rfl dX4_become_10 (isNow_0 h1) icX4 (by decide) rfl w_176 ?_
  replace h := pt_e h
  refine V_putf (k0 := 1) (ty := .int) rfl dX4_become_13 (isNow_0 h0) icX4 tyX4_ok nmX4 (by decide) rfl w_176 rfl (tyX4_ok _ (by decide)) rfl rfl ?_
  refine V_aload_n rfl dX4_become_16 rfl rfl ?_
  refine V_aload_n rfl dX4_become_17 rfl rfl ?_
  refine V_geti (k0 := 2) rfl dX4_become_18 (isNow_0 h1) icX4 (by decide) rfl w_180 ?_
  replace h := pt_e h
  refine V_putf (k0 := 2) (ty := .int) rfl dX4_become_21 (isNow_0 h0) icX4 tyX4_ok nmX4 (by decide) rfl w_180 rfl (tyX4_ok _ (by decide)) rfl rfl ?_
  refine V_aload_n rfl dX4_become_24 rfl rfl ?_
  refine V_aload_n rfl dX4_become_25 rfl rfl ?_
  refine V_geti (k0 := 3) rfl dX4_become_26 (isNow_0 h1) icX4 (by decide) rfl w_183 ?_
  replace h := pt_e h
  refine V_putf (k0 := 3) (ty := .int) rfl dX4_become_29 (isNow_0 h0) icX4 tyX4_ok nmX4 (by decide) rfl w_183 rfl (tyX4_ok _ (by decide)) rfl rfl ?_
  refine V_aload_n rfl dX4_become_32 rfl rfl ?_
  refine V_aload_n rfl dX4_become_33 rfl rfl ?_
  refine V_geti (k0 := 4) rfl dX4_become_34 (isNow_0 h1) icX4 (by decide) rfl w_186 ?_
  replace h := pt_e h
  refine V_putf (k0 := 4) (ty := .int) rfl dX4_become_37 (isNow_0 h0) icX4 tyX4_ok nmX4 (by decide) rfl w_186 rfl (tyX4_ok _ (by decide)) rfl rfl ?_
  refine V_aload_n rfl dX4_become_40 rfl rfl ?_
  refine V_aload_n rfl dX4_become_41 rfl rfl ?_
  refine V_geti (k0 := 5) rfl dX4_become_42 (isNow_0 h1) icX4 (by decide) rfl w_188 ?_
  replace h := pt_e h
  refine V_putf (k0 := 5) (ty := .int) rfl dX4_become_45 (isNow_0 h0) icX4 tyX4_ok nmX4 (by decide) rfl w_188 rfl (tyX4_ok _ (by decide)) rfl rfl ?_
  refine V_aload_n rfl dX4_become_48 rfl rfl ?_
  refine V_aload_n rfl dX4_become_49 rfl rfl ?_
  refine V_geti (k0 := 6) rfl dX4_become_50 (isNow_0 h1) icX4 (by decide) rfl w_190 ?_
  replace h := pt_e h
  refine V_putf (k0 := 6) (ty := .int) rfl dX4_become_53 (isNow_0 h0) icX4 tyX4_ok nmX4 (by decide) rfl w_190 rfl (tyX4_ok _ (by decide)) rfl rfl ?_
  refine V_aload_n rfl dX4_become_56 rfl rfl ?_
  refine V_aload_n rfl dX4_become_57 rfl rfl ?_
  refine V_geti (k0 := 7) rfl dX4_become_58 (isNow_0 h1) icX4 (by decide) rfl w_192 ?_
  replace h := pt_e h
  refine V_putf (k0 := 7) (ty := .int) rfl dX4_become_61 (isNow_0 h0) icX4 tyX4_ok nmX4 (by decide) rfl w_192 rfl (tyX4_ok _ (by decide)) rfl rfl ?_
  refine V_aload_n rfl dX4_become_64 rfl rfl ?_
  refine V_aload_n rfl dX4_become_65 rfl rfl ?_
  refine V_geti (k0 := 8) rfl dX4_become_66 (isNow_0 h1) icX4 (by decide) rfl w_194 ?_
  replace h := pt_e h
  refine V_putf (k0 := 8) (ty := .int) rfl dX4_become_69 (isNow_0 h0) icX4 tyX4_ok nmX4 (by decide) rfl w_194 rfl (tyX4_ok _ (by decide)) rfl rfl ?_
  refine V_aload_n rfl dX4_become_72 rfl rfl ?_
  refine V_aload_n rfl dX4_become_73 rfl rfl ?_
  refine V_geti (k0 := 9) rfl dX4_become_74 (isNow_0 h1) icX4 (by decide) rfl w_198 ?_
  replace h := pt_e h
  refine V_putf (k0 := 9) (ty := .int) rfl dX4_become_77 (isNow_0 h0) icX4 tyX4_ok nmX4 (by decide) rfl w_198 rfl (tyX4_ok _ (by decide)) rfl rfl ?_
  refine V_aload_n rfl dX4_become_80 rfl rfl ?_
  refine V_aload_n rfl dX4_become_81 rfl rfl ?_
  refine V_geti (k0 := 10) rfl dX4_become_82 (isNow_0 h1) icX4 (by decide) rfl w_200 ?_
  replace h := pt_e h
  refine V_putf (k0 := 10) (ty := .int) rfl dX4_become_85 (isNow_0 h0) icX4 tyX4_ok nmX4 (by decide) rfl w_200 rfl (tyX4_ok _ (by decide)) rfl rfl ?_
  refine V_aload_n rfl dX4_become_88 rfl rfl ?_
  refine V_getr (k0 := 11) rfl dX4_become_89 (isNow_0 h1) icX4 (by decide) rfl w_202 ?_
  refine V_iconst (v := 0) rfl dX4_become_92 kc_0 ?_
  refine V_aload_n rfl dX4_become_93 rfl rfl ?_
  refine V_getr (k0 := 11) rfl dX4_become_94 (isNow_0 h0) icX4 (by decide) rfl w_202 ?_
  refine V_iconst (v := 0) rfl dX4_become_97 kc_0 ?_
  refine V_bipush (v := 10) rfl dX4_become_98 kb_10 ?_
  replace h := cp_e h
  obtain ⟨hb13, h⟩ := h
  refine V_copy rfl dX4_become_100 w_838 ⟨w_770, w_769, w_156⟩ (isNow_1 h1) (isNow_1 h0) rfl hb13 ?_
  refine V_aload_n rfl dX4_become_103 rfl rfl ?_
  refine V_getr (k0 := 12) rfl dX4_become_104 (isNow_0 h1) icX4 (by decide) rfl w_205 ?_
  refine V_iconst (v := 0) rfl dX4_become_107 kc_0 ?_
  refine V_aload_n rfl dX4_become_108 rfl rfl ?_
  refine V_getr (k0 := 12) rfl dX4_become_109 (isNow_0 h0) icX4 (by decide) rfl w_205 ?_
  refine V_iconst (v := 0) rfl dX4_become_112 kc_0 ?_
  refine V_bipush (v := 10) rfl dX4_become_113 kb_10 ?_
  replace h := cp_e h
  obtain ⟨hb15, h⟩ := h
  refine V_copy rfl dX4_become_115 w_838 ⟨w_770, w_769, w_156⟩ (isNow_2 h1) (isNow_2 h0) rfl hb15 ?_
  refine V_aload_n rfl dX4_become_118 rfl rfl ?_
  refine V_getr (k0 := 13) rfl dX4_become_119 (isNow_0 h1) icX4 (by decide) rfl w_208 ?_
  refine V_iconst (v := 0) rfl dX4_become_122 kc_0 ?_
  refine V_aload_n rfl dX4_become_123 rfl rfl ?_
  refine V_getr (k0 := 13) rfl dX4_become_124 (isNow_0 h0) icX4 (by decide) rfl w_208 ?_
  refine V_iconst (v := 0) rfl dX4_become_127 kc_0 ?_
  refine V_bipush (v := 10) rfl dX4_become_128 kb_10 ?_
  replace h := cp_e h
  obtain ⟨hb17, h⟩ := h
  refine V_copy rfl dX4_become_130 w_838 ⟨w_770, w_769, w_156⟩ (isNow_3 h1) (isNow_3 h0) rfl hb17 ?_
  refine V_aload_n rfl dX4_become_133 rfl rfl ?_
  refine V_getr (k0 := 14) rfl dX4_become_134 (isNow_0 h1) icX4 (by decide) rfl w_211 ?_
  refine V_iconst (v := 0) rfl dX4_become_137 kc_0 ?_
  refine V_aload_n rfl dX4_become_138 rfl rfl ?_
  refine V_getr (k0 := 14) rfl dX4_become_139 (isNow_0 h0) icX4 (by decide) rfl w_211 ?_
  refine V_iconst (v := 0) rfl dX4_become_142 kc_0 ?_
  refine V_bipush (v := 10) rfl dX4_become_143 kb_10 ?_
  replace h := cp_e h
  obtain ⟨hb19, h⟩ := h
  refine V_copy rfl dX4_become_145 w_838 ⟨w_770, w_769, w_156⟩ (isNow_4 h1) (isNow_4 h0) rfl hb19 ?_
  cases h
  exact V_vret dX4_become_148 rfl (Nat.le_refl _) (Nat.le_refl _) qV_ok
-- X5_keep: NeverHalted$Past.keep(LNeverHalted$Now;)V
def f_X5_keep_13 (o1 : Nat) (M : IM) : IR := ra nwL M 35 6 (M 34 0) fun j5 => cl (f_X4_become j5 o1 M) fun _ M10 => pt M10 34 0 ((M10 34 0) + 1) fun M12 => some (0, M12)
set_option maxRecDepth 100000 in
set_option maxHeartbeats 4000000 in
theorem t_X5_keep_13 {g : IG} {a : Nat → Nat} {R : Int32 × IM} {o1 : Nat} {M : IM} (h1 : isNow o1) (h : f_X5_keep_13 o1 M = some R) : V g mX5_keep 2 0 0 (qV S0 a R) 13 [some (.ref (a 34)), some (.ref (a o1))] [] a S0 M 0 0 := by
  unfold f_X5_keep_13 at h
  refine V_aload_n rfl dX5_keep_13 rfl rfl ?_
  refine V_getr (k0 := 1) rfl dX5_keep_14 s0_34 icX5 (by decide) rfl w_405 ?_
  refine V_aload_n rfl dX5_keep_17 rfl rfl ?_
  refine V_geti (k0 := 0) rfl dX5_keep_18 s0_34 icX5 (by decide) rfl w_403 ?_
  replace h := ra_e h
  obtain ⟨hb6, hz7, hj8, h⟩ := h
  refine V_aald rfl dX5_keep_21 s0_35 hb6 hz7 ?_
  refine V_aload_n rfl dX5_keep_22 rfl rfl ?_
  replace h := cl_e h
  obtain ⟨w9, M10, hc11, h⟩ := h
  refine V_iv (As := [.ref _]) rfl dX5_keep_23 mf_X4_become ⟨w_835, w_836⟩ w_834 (by decide) (isNow_0 (nwL_is hj8)) rfl rfl rfl rfl ⟨rfl, rfl⟩ (t_X4_become (nwL_is hj8) h1 hc11) ?_
  refine V_aload_n rfl dX5_keep_26 rfl rfl ?_
  refine V_dup rfl dX5_keep_27 rfl ?_
  refine V_geti (k0 := 0) rfl dX5_keep_28 s0_34 icX5 (by decide) rfl w_403 ?_
  refine V_iconst (v := 1) rfl dX5_keep_31 kc_1 ?_
  refine V_iadd rfl dX5_keep_32 ?_
  replace h := pt_e h
  refine V_putf (k0 := 0) (ty := .int) rfl dX5_keep_33 s0_34 icX5 tyX5_ok nmX5 (by decide) rfl w_403 rfl (tyX5_ok _ (by decide)) rfl rfl ?_
  cases h
  exact V_vret dX5_keep_36 rfl (Nat.le_refl _) (Nat.le_refl _) qV_ok
def f_X5_keep (o1 : Nat) (M : IM) : IR := if (M 34 0) = 6 then cl (f_X5_dropOldest M) fun _ M3 => f_X5_keep_13 o1 M3 else f_X5_keep_13 o1 M
set_option maxRecDepth 100000 in
set_option maxHeartbeats 4000000 in
theorem t_X5_keep {g : IG} {a : Nat → Nat} {R : Int32 × IM} {o1 : Nat} {M : IM} (h1 : isNow o1) (h : f_X5_keep o1 M = some R) : Cn g mX5_keep 2 0 0 (qV S0 a R) [.ref (a 34), .ref (a o1)] a S0 M := by
  refine Cn_of (L := [some (.ref (a 34)), some (.ref (a o1))]) mf_X5_keep (cat_r (cat_r cat_0)) (Nat.le_of_ble_eq_true rfl) rfl ?_
  unfold f_X5_keep at h
  refine V_aload_n rfl dX5_keep_0 rfl rfl ?_
  refine V_geti (k0 := 0) rfl dX5_keep_1 s0_34 icX5 (by decide) rfl w_403 ?_
  refine V_bipush (v := 6) rfl dX5_keep_4 kb_6 ?_
  refine V_icmp_ne (t := 13) rfl rfl dX5_keep_6 (fun hc1 => ?_) (fun hc1 => ?_)
  · replace h := ifn hc1 h
    exact V_sub (le_s (le_s le_0)) (t_X5_keep_13 h1 h)
  · replace h := ifp hc1 h
    refine V_aload_n rfl dX5_keep_9 rfl rfl ?_
    replace h := cl_e h
    obtain ⟨w2, M3, hc4, h⟩ := h
    refine V_iv (As := []) rfl dX5_keep_10 mf_X5_dropOldest ⟨w_832, w_17⟩ w_830 (by decide) s0_34 rfl rfl rfl rfl ⟨rfl, rfl⟩ (t_X5_dropOldest hc4) ?_
    exact V_sub (le_s (le_s le_0)) (t_X5_keep_13 h1 h)
