-- X12_readWord: NeverHaltedModel.readWord(I)I
def f_X12_readWord (p1 : Int32) (M : IM) : IR := cl (f_X12_isWord p1 M) fun w1 M2 => if w1 = 0 then cl (f_X12_errs 1 M2) fun w8 M9 => some (w8, M9) else cl (f_X12_reads M2) fun _ M6 => some (0, M6)
set_option maxRecDepth 100000 in
set_option maxHeartbeats 4000000 in
theorem t_X12_readWord {g : IG} {a : Nat → Nat} {R : Int32 × IM} {p1 : Int32} {M : IM} (h : f_X12_readWord p1 M = some R) : Cn g mX12_readWord 4 0 0 (qI S0 a R) [.ref (a 136), .int p1] a S0 M := by
  refine Cn_of (L := [some (.ref (a 136)), some (.int p1)]) mf_X12_readWord (cat_r (cat_i cat_0)) (Nat.le_of_ble_eq_true rfl) rfl ?_
  unfold f_X12_readWord at h
  refine V_aload_n rfl dX12_readWord_0 rfl rfl ?_
  refine V_iload_n rfl dX12_readWord_1 rfl rfl ?_
  replace h := cl_e h
  obtain ⟨w1, M2, hc3, h⟩ := h
  refine V_ii (As := [.int _]) rfl dX12_readWord_2 mf_X12_isWord ⟨w_1439, w_59⟩ w_1437 (by decide) s0_136 rfl rfl rfl rfl ⟨rfl, rfl⟩ (t_X12_isWord hc3) ?_
  refine V_if_ne (t := 14) rfl rfl dX12_readWord_5 (fun hc4 => ?_) (fun hc4 => ?_)
  · replace h := ifn hc4 h
    refine V_aload_n rfl dX12_readWord_14 rfl rfl ?_
    replace h := cl_e h
    obtain ⟨w5, M6, hc7, h⟩ := h
    refine V_iv (As := []) rfl dX12_readWord_15 mf_X12_reads ⟨w_1411, w_52⟩ w_1409 (by decide) s0_136 rfl rfl rfl rfl ⟨rfl, rfl⟩ (t_X12_reads hc7) ?_
    refine V_iconst (v := 0) rfl dX12_readWord_18 kc_0 ?_
    cases h
    exact V_iret dX12_readWord_19 rfl rfl (Nat.le_refl _) (Nat.le_refl _) qI_ok
  · replace h := ifp hc4 h
    refine V_aload_n rfl dX12_readWord_8 rfl rfl ?_
    refine V_iconst (v := 1) rfl dX12_readWord_9 kc_1 ?_
    replace h := cl_e h
    obtain ⟨w8, M9, hc10, h⟩ := h
    refine V_ii (As := [.int _]) rfl dX12_readWord_10 mf_X12_errs ⟨w_1443, w_60⟩ w_1441 (by decide) s0_136 rfl rfl rfl rfl ⟨rfl, rfl⟩ (t_X12_errs hc10) ?_
    cases h
    exact V_iret dX12_readWord_13 rfl rfl (Nat.le_refl _) (Nat.le_refl _) qI_ok
-- X12_readMark: NeverHaltedModel.readMark(I)I
def f_X12_readMark (p1 : Int32) (M : IM) : IR := cl (f_X12_isSign p1 M) fun w1 M2 => if w1 = 0 then cl (f_X12_errs 1 M2) fun w8 M9 => some (w8, M9) else cl (f_X12_reads M2) fun _ M6 => some (0, M6)
set_option maxRecDepth 100000 in
set_option maxHeartbeats 4000000 in
theorem t_X12_readMark {g : IG} {a : Nat → Nat} {R : Int32 × IM} {p1 : Int32} {M : IM} (h : f_X12_readMark p1 M = some R) : Cn g mX12_readMark 4 0 0 (qI S0 a R) [.ref (a 136), .int p1] a S0 M := by
  refine Cn_of (L := [some (.ref (a 136)), some (.int p1)]) mf_X12_readMark (cat_r (cat_i cat_0)) (Nat.le_of_ble_eq_true rfl) rfl ?_
  unfold f_X12_readMark at h
  refine V_aload_n rfl dX12_readMark_0 rfl rfl ?_
  refine V_iload_n rfl dX12_readMark_1 rfl rfl ?_
  replace h := cl_e h
  obtain ⟨w1, M2, hc3, h⟩ := h
  refine V_ii (As := [.int _]) rfl dX12_readMark_2 mf_X12_isSign ⟨w_1467, w_66⟩ w_1465 (by decide) s0_136 rfl rfl rfl rfl ⟨rfl, rfl⟩ (t_X12_isSign hc3) ?_
  refine V_if_ne (t := 14) rfl rfl dX12_readMark_5 (fun hc4 => ?_) (fun hc4 => ?_)
  · replace h := ifn hc4 h
    refine V_aload_n rfl dX12_readMark_14 rfl rfl ?_
    replace h := cl_e h
    obtain ⟨w5, M6, hc7, h⟩ := h
    refine V_iv (As := []) rfl dX12_readMark_15 mf_X12_reads ⟨w_1411, w_52⟩ w_1409 (by decide) s0_136 rfl rfl rfl rfl ⟨rfl, rfl⟩ (t_X12_reads hc7) ?_
    refine V_iconst (v := 0) rfl dX12_readMark_18 kc_0 ?_
    cases h
    exact V_iret dX12_readMark_19 rfl rfl (Nat.le_refl _) (Nat.le_refl _) qI_ok
  · replace h := ifp hc4 h
    refine V_aload_n rfl dX12_readMark_8 rfl rfl ?_
    refine V_iconst (v := 1) rfl dX12_readMark_9 kc_1 ?_
    replace h := cl_e h
    obtain ⟨w8, M9, hc10, h⟩ := h
    refine V_ii (As := [.int _]) rfl dX12_readMark_10 mf_X12_errs ⟨w_1443, w_60⟩ w_1441 (by decide) s0_136 rfl rfl rfl rfl ⟨rfl, rfl⟩ (t_X12_errs hc10) ?_
    cases h
    exact V_iret dX12_readMark_13 rfl rfl (Nat.le_refl _) (Nat.le_refl _) qI_ok
-- X12_readTold: NeverHaltedModel.readTold(III)I
def f_X12_readTold (p1 : Int32) (p2 : Int32) (p3 : Int32) (M : IM) : IR := cl (f_X12_readWord p1 M) fun w1 M2 => if w1 = (-1) then some ((-1), M2) else cl (f_X12_readNumber p2 p3 M2) fun w5 M6 => some (w5, M6)
set_option maxRecDepth 100000 in
set_option maxHeartbeats 4000000 in
theorem t_X12_readTold {g : IG} {a : Nat → Nat} {R : Int32 × IM} {p1 : Int32} {p2 : Int32} {p3 : Int32} {M : IM} (h : f_X12_readTold p1 p2 p3 M = some R) : Cn g mX12_readTold 5 0 0 (qI S0 a R) [.ref (a 136), .int p1, .int p2, .int p3] a S0 M := by
  refine Cn_of (L := [some (.ref (a 136)), some (.int p1), some (.int p2), some (.int p3)]) mf_X12_readTold (cat_r (cat_i (cat_i (cat_i cat_0)))) (Nat.le_of_ble_eq_true rfl) rfl ?_
  unfold f_X12_readTold at h
  refine V_aload_n rfl dX12_readTold_0 rfl rfl ?_
  refine V_iload_n rfl dX12_readTold_1 rfl rfl ?_
  replace h := cl_e h
  obtain ⟨w1, M2, hc3, h⟩ := h
  refine V_ii (As := [.int _]) rfl dX12_readTold_2 mf_X12_readWord ⟨w_1455, w_63⟩ w_1453 (by decide) s0_136 rfl rfl rfl rfl ⟨rfl, rfl⟩ (t_X12_readWord hc3) ?_
  refine V_iconst (v := (-1)) rfl dX12_readTold_5 kc_m1 ?_
  refine V_icmp_ne (t := 13) rfl rfl dX12_readTold_6 (fun hc4 => ?_) (fun hc4 => ?_)
  · replace h := ifn hc4 h
    refine V_aload_n rfl dX12_readTold_13 rfl rfl ?_
    refine V_iload_n rfl dX12_readTold_14 rfl rfl ?_
    refine V_iload_n rfl dX12_readTold_15 rfl rfl ?_
    replace h := cl_e h
    obtain ⟨w5, M6, hc7, h⟩ := h
    refine V_ii (As := [.int _, .int _]) rfl dX12_readTold_16 mf_X12_readNumber ⟨w_1459, w_64⟩ w_1457 (by decide) s0_136 rfl rfl rfl rfl ⟨rfl, rfl⟩ (t_X12_readNumber hc7) ?_
    cases h
    exact V_iret dX12_readTold_19 rfl rfl (Nat.le_refl _) (Nat.le_refl _) qI_ok
  · replace h := ifp hc4 h
    refine V_iconst (v := (-1)) rfl dX12_readTold_9 kc_m1 ?_
    refine V_goto (t := 19) rfl dX12_readTold_10 ?_
    cases h
    exact V_iret dX12_readTold_19 rfl rfl (Nat.le_refl _) (Nat.le_refl _) qI_ok
-- X12_readStone: NeverHaltedModel.readStone(I)I
def f_X12_readStone_97 (x1 : Int32) (y1 : Int32) (y2 : Int32) (M : IM) : IR := wr M 153 64 y1 y2 fun M26 => rd M26 153 64 (x1 + 2) fun v28 => if v28 = (-1) then some ((-1), M26) else cl (f_X12_readTold 17 0 99 M26) fun w31 M32 => wr M32 153 64 (x1 + 3) w31 fun M34 => rd M34 153 64 (x1 + 3) fun v36 => if v36 = (-1) then some ((-1), M34) else cl (f_X12_readMark 59 M34) fun w39 M40 => some (w39, M40)
set_option maxRecDepth 100000 in
set_option maxHeartbeats 4000000 in
theorem t_X12_readStone_97 {g : IG} {a : Nat → Nat} {R : Int32 × IM} {x1 : Int32} {y1 : Int32} {y2 : Int32} {M : IM} (h : f_X12_readStone_97 x1 y1 y2 M = some R) : V g mX12_readStone 6 0 0 (qI S0 a R) 97 [some (.ref (a 136)), some (.int x1)] [.int y2, .int y1, .ref (a 153)] a S0 M 0 0 := by
  unfold f_X12_readStone_97 at h
  replace h := wr_e h
  obtain ⟨hb27, h⟩ := h
  refine V_iast rfl dX12_readStone_97 s0_153 hb27 ?_
  refine V_aload_n rfl dX12_readStone_98 rfl rfl ?_
  refine V_getr (k0 := 37) rfl dX12_readStone_99 s0_136 icX12 (by decide) rfl w_1226 ?_
  refine V_iload_n rfl dX12_readStone_102 rfl rfl ?_
  refine V_iconst (v := 2) rfl dX12_readStone_103 kc_2 ?_
  refine V_iadd rfl dX12_readStone_104 ?_
  replace h := rd_e h
  obtain ⟨hb29, h⟩ := h
  refine V_iald rfl dX12_readStone_105 s0_153 hb29 ?_
  refine V_iconst (v := (-1)) rfl dX12_readStone_106 kc_m1 ?_
  refine V_icmp_ne (t := 112) rfl rfl dX12_readStone_107 (fun hc30 => ?_) (fun hc30 => ?_)
  · replace h := ifn hc30 h
    refine V_aload_n rfl dX12_readStone_112 rfl rfl ?_
    refine V_getr (k0 := 37) rfl dX12_readStone_113 s0_136 icX12 (by decide) rfl w_1226 ?_
    refine V_iload_n rfl dX12_readStone_116 rfl rfl ?_
    refine V_iconst (v := 3) rfl dX12_readStone_117 kc_3 ?_
    refine V_iadd rfl dX12_readStone_118 ?_
    refine V_aload_n rfl dX12_readStone_119 rfl rfl ?_
    refine V_bipush (v := 17) rfl dX12_readStone_120 kb_17 ?_
    refine V_iconst (v := 0) rfl dX12_readStone_122 kc_0 ?_
    refine V_bipush (v := 99) rfl dX12_readStone_123 kb_99 ?_
    replace h := cl_e h
    obtain ⟨w31, M32, hc33, h⟩ := h
    refine V_ii (As := [.int _, .int _, .int _]) rfl dX12_readStone_125 mf_X12_readTold ⟨w_1451, w_62⟩ w_1449 (by decide) s0_136 rfl rfl rfl rfl ⟨rfl, rfl⟩ (t_X12_readTold hc33) ?_
    replace h := wr_e h
    obtain ⟨hb35, h⟩ := h
    refine V_iast rfl dX12_readStone_128 s0_153 hb35 ?_
    refine V_aload_n rfl dX12_readStone_129 rfl rfl ?_
    refine V_getr (k0 := 37) rfl dX12_readStone_130 s0_136 icX12 (by decide) rfl w_1226 ?_
    refine V_iload_n rfl dX12_readStone_133 rfl rfl ?_
    refine V_iconst (v := 3) rfl dX12_readStone_134 kc_3 ?_
    refine V_iadd rfl dX12_readStone_135 ?_
    replace h := rd_e h
    obtain ⟨hb37, h⟩ := h
    refine V_iald rfl dX12_readStone_136 s0_153 hb37 ?_
    refine V_iconst (v := (-1)) rfl dX12_readStone_137 kc_m1 ?_
    refine V_icmp_ne (t := 145) rfl rfl dX12_readStone_138 (fun hc38 => ?_) (fun hc38 => ?_)
    · replace h := ifn hc38 h
      refine V_aload_n rfl dX12_readStone_145 rfl rfl ?_
      refine V_bipush (v := 59) rfl dX12_readStone_146 kb_59 ?_
      replace h := cl_e h
      obtain ⟨w39, M40, hc41, h⟩ := h
      refine V_ii (As := [.int _]) rfl dX12_readStone_148 mf_X12_readMark ⟨w_1463, w_65⟩ w_1461 (by decide) s0_136 rfl rfl rfl rfl ⟨rfl, rfl⟩ (t_X12_readMark hc41) ?_
      cases h
      exact V_iret dX12_readStone_151 rfl rfl (Nat.le_refl _) (Nat.le_refl _) qI_ok
    · replace h := ifp hc38 h
      refine V_iconst (v := (-1)) rfl dX12_readStone_141 kc_m1 ?_
      refine V_goto (t := 151) rfl dX12_readStone_142 ?_
      cases h
      exact V_iret dX12_readStone_151 rfl rfl (Nat.le_refl _) (Nat.le_refl _) qI_ok
  · replace h := ifp hc30 h
    refine V_iconst (v := (-1)) rfl dX12_readStone_110 kc_m1 ?_
    cases h
    exact V_iret dX12_readStone_111 rfl rfl (Nat.le_refl _) (Nat.le_refl _) qI_ok
def f_X12_readStone (p1 : Int32) (M : IM) : IR := cl (f_X12_readTold 18 0 7 M) fun w1 M2 => wr M2 153 64 (p1 + 0) w1 fun M4 => rd M4 153 64 (p1 + 0) fun v6 => if v6 = (-1) then some ((-1), M4) else cl (f_X12_readTold 19 1 24 M4) fun w9 M10 => wr M10 153 64 (p1 + 1) w9 fun M12 => rd M12 153 64 (p1 + 1) fun v14 => if v14 = (-1) then some ((-1), M12) else cl (f_X12_isWord 16 M12) fun w17 M18 => if w17 = 0 then f_X12_readStone_97 p1 ((p1 + 2)) 0 M18 else rd M18 153 64 (p1 + 1) fun v21 => cl (f_X12_readTold 16 1 v21 M18) fun w23 M24 => f_X12_readStone_97 p1 ((p1 + 2)) w23 M24
set_option maxRecDepth 100000 in
set_option maxHeartbeats 4000000 in
theorem t_X12_readStone {g : IG} {a : Nat → Nat} {R : Int32 × IM} {p1 : Int32} {M : IM} (h : f_X12_readStone p1 M = some R) : Cn g mX12_readStone 6 0 0 (qI S0 a R) [.ref (a 136), .int p1] a S0 M := by
  refine Cn_of (L := [some (.ref (a 136)), some (.int p1)]) mf_X12_readStone (cat_r (cat_i cat_0)) (Nat.le_of_ble_eq_true rfl) rfl ?_
  unfold f_X12_readStone at h
  refine V_aload_n rfl dX12_readStone_0 rfl rfl ?_
  refine V_getr (k0 := 37) rfl dX12_readStone_1 s0_136 icX12 (by decide) rfl w_1226 ?_
  refine V_iload_n rfl dX12_readStone_4 rfl rfl ?_
  refine V_iconst (v := 0) rfl dX12_readStone_5 kc_0 ?_
  refine V_iadd rfl dX12_readStone_6 ?_
  refine V_aload_n rfl dX12_readStone_7 rfl rfl ?_
  refine V_bipush (v := 18) rfl dX12_readStone_8 kb_18 ?_
  refine V_iconst (v := 0) rfl dX12_readStone_10 kc_0 ?_
  refine V_bipush (v := 7) rfl dX12_readStone_11 kb_7 ?_
  replace h := cl_e h
  obtain ⟨w1, M2, hc3, h⟩ := h
  refine V_ii (As := [.int _, .int _, .int _]) rfl dX12_readStone_13 mf_X12_readTold ⟨w_1451, w_62⟩ w_1449 (by decide) s0_136 rfl rfl rfl rfl ⟨rfl, rfl⟩ (t_X12_readTold hc3) ?_
  replace h := wr_e h
  obtain ⟨hb5, h⟩ := h
  refine V_iast rfl dX12_readStone_16 s0_153 hb5 ?_
  refine V_aload_n rfl dX12_readStone_17 rfl rfl ?_
  refine V_getr (k0 := 37) rfl dX12_readStone_18 s0_136 icX12 (by decide) rfl w_1226 ?_
  refine V_iload_n rfl dX12_readStone_21 rfl rfl ?_
  refine V_iconst (v := 0) rfl dX12_readStone_22 kc_0 ?_
  refine V_iadd rfl dX12_readStone_23 ?_
  replace h := rd_e h
  obtain ⟨hb7, h⟩ := h
  refine V_iald rfl dX12_readStone_24 s0_153 hb7 ?_
  refine V_iconst (v := (-1)) rfl dX12_readStone_25 kc_m1 ?_
  refine V_icmp_ne (t := 31) rfl rfl dX12_readStone_26 (fun hc8 => ?_) (fun hc8 => ?_)
  · replace h := ifn hc8 h
    refine V_aload_n rfl dX12_readStone_31 rfl rfl ?_
    refine V_getr (k0 := 37) rfl dX12_readStone_32 s0_136 icX12 (by decide) rfl w_1226 ?_
    refine V_iload_n rfl dX12_readStone_35 rfl rfl ?_
    refine V_iconst (v := 1) rfl dX12_readStone_36 kc_1 ?_
    refine V_iadd rfl dX12_readStone_37 ?_
    refine V_aload_n rfl dX12_readStone_38 rfl rfl ?_
    refine V_bipush (v := 19) rfl dX12_readStone_39 kb_19 ?_
    refine V_iconst (v := 1) rfl dX12_readStone_41 kc_1 ?_
    refine V_bipush (v := 24) rfl dX12_readStone_42 kb_24 ?_
    replace h := cl_e h
    obtain ⟨w9, M10, hc11, h⟩ := h
    refine V_ii (As := [.int _, .int _, .int _]) rfl dX12_readStone_44 mf_X12_readTold ⟨w_1451, w_62⟩ w_1449 (by decide) s0_136 rfl rfl rfl rfl ⟨rfl, rfl⟩ (t_X12_readTold hc11) ?_
    replace h := wr_e h
    obtain ⟨hb13, h⟩ := h
    refine V_iast rfl dX12_readStone_47 s0_153 hb13 ?_
    refine V_aload_n rfl dX12_readStone_48 rfl rfl ?_
    refine V_getr (k0 := 37) rfl dX12_readStone_49 s0_136 icX12 (by decide) rfl w_1226 ?_
    refine V_iload_n rfl dX12_readStone_52 rfl rfl ?_
    refine V_iconst (v := 1) rfl dX12_readStone_53 kc_1 ?_
    refine V_iadd rfl dX12_readStone_54 ?_
    replace h := rd_e h
    obtain ⟨hb15, h⟩ := h
    refine V_iald rfl dX12_readStone_55 s0_153 hb15 ?_
    refine V_iconst (v := (-1)) rfl dX12_readStone_56 kc_m1 ?_
    refine V_icmp_ne (t := 62) rfl rfl dX12_readStone_57 (fun hc16 => ?_) (fun hc16 => ?_)
    · replace h := ifn hc16 h
      refine V_aload_n rfl dX12_readStone_62 rfl rfl ?_
      refine V_getr (k0 := 37) rfl dX12_readStone_63 s0_136 icX12 (by decide) rfl w_1226 ?_
      refine V_iload_n rfl dX12_readStone_66 rfl rfl ?_
      refine V_iconst (v := 2) rfl dX12_readStone_67 kc_2 ?_
      refine V_iadd rfl dX12_readStone_68 ?_
      refine V_aload_n rfl dX12_readStone_69 rfl rfl ?_
      refine V_bipush (v := 16) rfl dX12_readStone_70 kb_16 ?_
      replace h := cl_e h
      obtain ⟨w17, M18, hc19, h⟩ := h
      refine V_ii (As := [.int _]) rfl dX12_readStone_72 mf_X12_isWord ⟨w_1439, w_59⟩ w_1437 (by decide) s0_136 rfl rfl rfl rfl ⟨rfl, rfl⟩ (t_X12_isWord hc19) ?_
      refine V_if_eq (t := 96) rfl rfl dX12_readStone_75 (fun hc20 => ?_) (fun hc20 => ?_)
      · replace h := ifp hc20 h
        refine V_iconst (v := 0) rfl dX12_readStone_96 kc_0 ?_
        exact V_sub (le_s (le_s le_0)) (t_X12_readStone_97 h)
      · replace h := ifn hc20 h
        refine V_aload_n rfl dX12_readStone_78 rfl rfl ?_
        refine V_bipush (v := 16) rfl dX12_readStone_79 kb_16 ?_
        refine V_iconst (v := 1) rfl dX12_readStone_81 kc_1 ?_
        refine V_aload_n rfl dX12_readStone_82 rfl rfl ?_
        refine V_getr (k0 := 37) rfl dX12_readStone_83 s0_136 icX12 (by decide) rfl w_1226 ?_
        refine V_iload_n rfl dX12_readStone_86 rfl rfl ?_
        refine V_iconst (v := 1) rfl dX12_readStone_87 kc_1 ?_
        refine V_iadd rfl dX12_readStone_88 ?_
        replace h := rd_e h
        obtain ⟨hb22, h⟩ := h
        refine V_iald rfl dX12_readStone_89 s0_153 hb22 ?_
        replace h := cl_e h
        obtain ⟨w23, M24, hc25, h⟩ := h
        refine V_ii (As := [.int _, .int _, .int _]) rfl dX12_readStone_90 mf_X12_readTold ⟨w_1451, w_62⟩ w_1449 (by decide) s0_136 rfl rfl rfl rfl ⟨rfl, rfl⟩ (t_X12_readTold hc25) ?_
        refine V_goto (t := 97) rfl dX12_readStone_93 ?_
        exact V_sub (le_s (le_s le_0)) (t_X12_readStone_97 h)
    · replace h := ifp hc16 h
      refine V_iconst (v := (-1)) rfl dX12_readStone_60 kc_m1 ?_
      cases h
      exact V_iret dX12_readStone_61 rfl rfl (Nat.le_refl _) (Nat.le_refl _) qI_ok
  · replace h := ifp hc8 h
    refine V_iconst (v := (-1)) rfl dX12_readStone_29 kc_m1 ?_
    cases h
    exact V_iret dX12_readStone_30 rfl rfl (Nat.le_refl _) (Nat.le_refl _) qI_ok
-- X12_readStones: NeverHaltedModel.readStones()I
def f_X12_readStones_2_b (r2 : Int32 → IM → IR) (x1 : Int32) (M : IM) : IR := cl (f_X12_isWord 18 M) fun w1 M2 => if w1 = 0 then if (M2 136 17) = 0 then some (x1, M2) else cl (f_X12_errs 1 M2) fun w6 M7 => some (w6, M7) else if x1 = 8 then cl (f_X12_errs 3 M2) fun w15 M16 => some (w15, M16) else cl (f_X12_readStone (32 + (4 * x1)) M2) fun w10 M11 => if w10 = (-1) then some ((-1), M11) else lt (x1 + 1) fun v14 => r2 v14 M11
def f_X12_readStones_2 (n : Nat) : Int32 → IM → IR := itr (fun _ _ => none) (f_X12_readStones_2_b) n
set_option maxRecDepth 100000 in
set_option maxHeartbeats 4000000 in
theorem t_X12_readStones_2 {g : IG} {a : Nat → Nat} {R : Int32 × IM} (n : Nat) : ∀ (x1 : Int32) (M : IM), f_X12_readStones_2 n x1 M = some R → V g mX12_readStones 7 0 0 (qI S0 a R) 2 [some (.ref (a 136)), some (.int x1)] [] a S0 M 0 0 := by
  induction n with
  | zero => intro x1 M h; exact absurd h (fun z => by cases z)
  | succ n hr2 =>
    intro x1 M h
    replace h : f_X12_readStones_2_b (f_X12_readStones_2 n) x1 M = some R := h
    unfold f_X12_readStones_2_b at h
    refine V_aload_n rfl dX12_readStones_2 rfl rfl ?_
    refine V_bipush (v := 18) rfl dX12_readStones_3 kb_18 ?_
    replace h := cl_e h
    obtain ⟨w1, M2, hc3, h⟩ := h
    refine V_ii (As := [.int _]) rfl dX12_readStones_5 mf_X12_isWord ⟨w_1439, w_59⟩ w_1437 (by decide) s0_136 rfl rfl rfl rfl ⟨rfl, rfl⟩ (t_X12_isWord hc3) ?_
    refine V_if_eq (t := 46) rfl rfl dX12_readStones_8 (fun hc4 => ?_) (fun hc4 => ?_)
    · replace h := ifp hc4 h
      refine V_aload_n rfl dX12_readStones_46 rfl rfl ?_
      refine V_geti (k0 := 17) rfl dX12_readStones_47 s0_136 icX12 (by decide) rfl w_1206 ?_
      refine V_if_ne (t := 57) rfl rfl dX12_readStones_50 (fun hc5 => ?_) (fun hc5 => ?_)
      · replace h := ifn hc5 h
        refine V_aload_n rfl dX12_readStones_57 rfl rfl ?_
        refine V_iconst (v := 1) rfl dX12_readStones_58 kc_1 ?_
        replace h := cl_e h
        obtain ⟨w6, M7, hc8, h⟩ := h
        refine V_ii (As := [.int _]) rfl dX12_readStones_59 mf_X12_errs ⟨w_1443, w_60⟩ w_1441 (by decide) s0_136 rfl rfl rfl rfl ⟨rfl, rfl⟩ (t_X12_errs hc8) ?_
        cases h
        exact V_iret dX12_readStones_62 rfl rfl (Nat.le_refl _) (Nat.le_refl _) qI_ok
      · replace h := ifp hc5 h
        refine V_iload_n rfl dX12_readStones_53 rfl rfl ?_
        refine V_goto (t := 62) rfl dX12_readStones_54 ?_
        cases h
        exact V_iret dX12_readStones_62 rfl rfl (Nat.le_refl _) (Nat.le_refl _) qI_ok
    · replace h := ifn hc4 h
      refine V_iload_n rfl dX12_readStones_11 rfl rfl ?_
      refine V_bipush (v := 8) rfl dX12_readStones_12 kb_8 ?_
      refine V_icmp_ne (t := 23) rfl rfl dX12_readStones_14 (fun hc9 => ?_) (fun hc9 => ?_)
      · replace h := ifn hc9 h
        refine V_aload_n rfl dX12_readStones_23 rfl rfl ?_
        refine V_bipush (v := 32) rfl dX12_readStones_24 kb_32 ?_
        refine V_iconst (v := 4) rfl dX12_readStones_26 kc_4 ?_
        refine V_iload_n rfl dX12_readStones_27 rfl rfl ?_
        refine V_imul rfl dX12_readStones_28 ?_
        refine V_iadd rfl dX12_readStones_29 ?_
        replace h := cl_e h
        obtain ⟨w10, M11, hc12, h⟩ := h
        refine V_ii (As := [.int _]) rfl dX12_readStones_30 mf_X12_readStone ⟨w_1447, w_61⟩ w_1445 (by decide) s0_136 rfl rfl rfl rfl ⟨rfl, rfl⟩ (t_X12_readStone hc12) ?_
        refine V_iconst (v := (-1)) rfl dX12_readStones_33 kc_m1 ?_
        refine V_icmp_ne (t := 39) rfl rfl dX12_readStones_34 (fun hc13 => ?_) (fun hc13 => ?_)
        · replace h := ifn hc13 h
          refine V_iload_n rfl dX12_readStones_39 rfl rfl ?_
          refine V_iconst (v := 1) rfl dX12_readStones_40 kc_1 ?_
          refine V_iadd rfl dX12_readStones_41 ?_
          replace h := lt_e h
          refine V_istore_n (L' := [_, _]) rfl rfl dX12_readStones_42 (by decide) rfl ?_
          refine V_goto (t := 2) rfl dX12_readStones_43 ?_
          exact V_sub (le_s (le_s le_0)) (hr2 _ _ h)
        · replace h := ifp hc13 h
          refine V_iconst (v := (-1)) rfl dX12_readStones_37 kc_m1 ?_
          cases h
          exact V_iret dX12_readStones_38 rfl rfl (Nat.le_refl _) (Nat.le_refl _) qI_ok
      · replace h := ifp hc9 h
        refine V_aload_n rfl dX12_readStones_17 rfl rfl ?_
        refine V_iconst (v := 3) rfl dX12_readStones_18 kc_3 ?_
        replace h := cl_e h
        obtain ⟨w15, M16, hc17, h⟩ := h
        refine V_ii (As := [.int _]) rfl dX12_readStones_19 mf_X12_errs ⟨w_1443, w_60⟩ w_1441 (by decide) s0_136 rfl rfl rfl rfl ⟨rfl, rfl⟩ (t_X12_errs hc17) ?_
        cases h
        exact V_iret dX12_readStones_22 rfl rfl (Nat.le_refl _) (Nat.le_refl _) qI_ok
def f_X12_readStones (M : IM) : IR := f_X12_readStones_2 BG 0 M
set_option maxRecDepth 100000 in
set_option maxHeartbeats 4000000 in
theorem t_X12_readStones {g : IG} {a : Nat → Nat} {R : Int32 × IM} {M : IM} (h : f_X12_readStones M = some R) : Cn g mX12_readStones 7 0 0 (qI S0 a R) [.ref (a 136)] a S0 M := by
  refine Cn_of (L := [some (.ref (a 136)), none]) mf_X12_readStones (cat_r cat_0) (Nat.le_of_ble_eq_true rfl) rfl ?_
  unfold f_X12_readStones at h
  refine V_iconst (v := 0) rfl dX12_readStones_0 kc_0 ?_
  refine V_istore_n (L' := [_, _]) rfl rfl dX12_readStones_1 (by decide) rfl ?_
  exact V_sub (le_s (le_s le_0)) (t_X12_readStones_2 BG _ _ h)
-- X12_readShift: NeverHaltedModel.readShift(I)I
def f_X12_readShift (p1 : Int32) (M : IM) : IR := cl (f_X12_readTold 20 0 ((M 136 6) - 1) M) fun w1 M2 => wr M2 154 96 p1 w1 fun M4 => rd M4 154 96 p1 fun v6 => if v6 = (-1) then some ((-1), M4) else cl (f_X12_readTold 21 0 23 M4) fun w9 M10 => wr M10 154 96 (p1 + 1) w9 fun M12 => rd M12 154 96 (p1 + 1) fun v14 => if v14 = (-1) then some ((-1), M12) else cl (f_X12_readTold 19 1 24 M12) fun w17 M18 => wr M18 154 96 (p1 + 2) w17 fun M20 => rd M20 154 96 (p1 + 2) fun v22 => if v22 = (-1) then some ((-1), M20) else cl (f_X12_readMark 59 M20) fun w25 M26 => some (w25, M26)
set_option maxRecDepth 100000 in
set_option maxHeartbeats 4000000 in
theorem t_X12_readShift {g : IG} {a : Nat → Nat} {R : Int32 × IM} {p1 : Int32} {M : IM} (h : f_X12_readShift p1 M = some R) : Cn g mX12_readShift 6 0 0 (qI S0 a R) [.ref (a 136), .int p1] a S0 M := by
  refine Cn_of (L := [some (.ref (a 136)), some (.int p1)]) mf_X12_readShift (cat_r (cat_i cat_0)) (Nat.le_of_ble_eq_true rfl) rfl ?_
  unfold f_X12_readShift at h
  refine V_aload_n rfl dX12_readShift_0 rfl rfl ?_
  refine V_getr (k0 := 39) rfl dX12_readShift_1 s0_136 icX12 (by decide) rfl w_1228 ?_
  refine V_iload_n rfl dX12_readShift_4 rfl rfl ?_
  refine V_aload_n rfl dX12_readShift_5 rfl rfl ?_
  refine V_bipush (v := 20) rfl dX12_readShift_6 kb_20 ?_
  refine V_iconst (v := 0) rfl dX12_readShift_8 kc_0 ?_
  refine V_aload_n rfl dX12_readShift_9 rfl rfl ?_
  refine V_geti (k0 := 6) rfl dX12_readShift_10 s0_136 icX12 (by decide) rfl w_1195 ?_
  refine V_iconst (v := 1) rfl dX12_readShift_13 kc_1 ?_
  refine V_isub rfl dX12_readShift_14 ?_
  replace h := cl_e h
  obtain ⟨w1, M2, hc3, h⟩ := h
  refine V_ii (As := [.int _, .int _, .int _]) rfl dX12_readShift_15 mf_X12_readTold ⟨w_1451, w_62⟩ w_1449 (by decide) s0_136 rfl rfl rfl rfl ⟨rfl, rfl⟩ (t_X12_readTold hc3) ?_
  replace h := wr_e h
  obtain ⟨hb5, h⟩ := h
  refine V_iast rfl dX12_readShift_18 s0_154 hb5 ?_
  refine V_aload_n rfl dX12_readShift_19 rfl rfl ?_
  refine V_getr (k0 := 39) rfl dX12_readShift_20 s0_136 icX12 (by decide) rfl w_1228 ?_
  refine V_iload_n rfl dX12_readShift_23 rfl rfl ?_
  replace h := rd_e h
  obtain ⟨hb7, h⟩ := h
  refine V_iald rfl dX12_readShift_24 s0_154 hb7 ?_
  refine V_iconst (v := (-1)) rfl dX12_readShift_25 kc_m1 ?_
  refine V_icmp_ne (t := 31) rfl rfl dX12_readShift_26 (fun hc8 => ?_) (fun hc8 => ?_)
  · replace h := ifn hc8 h
    refine V_aload_n rfl dX12_readShift_31 rfl rfl ?_
    refine V_getr (k0 := 39) rfl dX12_readShift_32 s0_136 icX12 (by decide) rfl w_1228 ?_
    refine V_iload_n rfl dX12_readShift_35 rfl rfl ?_
    refine V_iconst (v := 1) rfl dX12_readShift_36 kc_1 ?_
    refine V_iadd rfl dX12_readShift_37 ?_
    refine V_aload_n rfl dX12_readShift_38 rfl rfl ?_
    refine V_bipush (v := 21) rfl dX12_readShift_39 kb_21 ?_
    refine V_iconst (v := 0) rfl dX12_readShift_41 kc_0 ?_
    refine V_bipush (v := 23) rfl dX12_readShift_42 kb_23 ?_
    replace h := cl_e h
    obtain ⟨w9, M10, hc11, h⟩ := h
    refine V_ii (As := [.int _, .int _, .int _]) rfl dX12_readShift_44 mf_X12_readTold ⟨w_1451, w_62⟩ w_1449 (by decide) s0_136 rfl rfl rfl rfl ⟨rfl, rfl⟩ (t_X12_readTold hc11) ?_
    replace h := wr_e h
    obtain ⟨hb13, h⟩ := h
    refine V_iast rfl dX12_readShift_47 s0_154 hb13 ?_
    refine V_aload_n rfl dX12_readShift_48 rfl rfl ?_
    refine V_getr (k0 := 39) rfl dX12_readShift_49 s0_136 icX12 (by decide) rfl w_1228 ?_
    refine V_iload_n rfl dX12_readShift_52 rfl rfl ?_
    refine V_iconst (v := 1) rfl dX12_readShift_53 kc_1 ?_
    refine V_iadd rfl dX12_readShift_54 ?_
    replace h := rd_e h
    obtain ⟨hb15, h⟩ := h
    refine V_iald rfl dX12_readShift_55 s0_154 hb15 ?_
    refine V_iconst (v := (-1)) rfl dX12_readShift_56 kc_m1 ?_
    refine V_icmp_ne (t := 62) rfl rfl dX12_readShift_57 (fun hc16 => ?_) (fun hc16 => ?_)
    · replace h := ifn hc16 h
      refine V_aload_n rfl dX12_readShift_62 rfl rfl ?_
      refine V_getr (k0 := 39) rfl dX12_readShift_63 s0_136 icX12 (by decide) rfl w_1228 ?_
      refine V_iload_n rfl dX12_readShift_66 rfl rfl ?_
      refine V_iconst (v := 2) rfl dX12_readShift_67 kc_2 ?_
      refine V_iadd rfl dX12_readShift_68 ?_
      refine V_aload_n rfl dX12_readShift_69 rfl rfl ?_
      refine V_bipush (v := 19) rfl dX12_readShift_70 kb_19 ?_
      refine V_iconst (v := 1) rfl dX12_readShift_72 kc_1 ?_
      refine V_bipush (v := 24) rfl dX12_readShift_73 kb_24 ?_
      replace h := cl_e h
      obtain ⟨w17, M18, hc19, h⟩ := h
      refine V_ii (As := [.int _, .int _, .int _]) rfl dX12_readShift_75 mf_X12_readTold ⟨w_1451, w_62⟩ w_1449 (by decide) s0_136 rfl rfl rfl rfl ⟨rfl, rfl⟩ (t_X12_readTold hc19) ?_
      replace h := wr_e h
      obtain ⟨hb21, h⟩ := h
      refine V_iast rfl dX12_readShift_78 s0_154 hb21 ?_
      refine V_aload_n rfl dX12_readShift_79 rfl rfl ?_
      refine V_getr (k0 := 39) rfl dX12_readShift_80 s0_136 icX12 (by decide) rfl w_1228 ?_
      refine V_iload_n rfl dX12_readShift_83 rfl rfl ?_
      refine V_iconst (v := 2) rfl dX12_readShift_84 kc_2 ?_
      refine V_iadd rfl dX12_readShift_85 ?_
      replace h := rd_e h
      obtain ⟨hb23, h⟩ := h
      refine V_iald rfl dX12_readShift_86 s0_154 hb23 ?_
      refine V_iconst (v := (-1)) rfl dX12_readShift_87 kc_m1 ?_
      refine V_icmp_ne (t := 95) rfl rfl dX12_readShift_88 (fun hc24 => ?_) (fun hc24 => ?_)
      · replace h := ifn hc24 h
        refine V_aload_n rfl dX12_readShift_95 rfl rfl ?_
        refine V_bipush (v := 59) rfl dX12_readShift_96 kb_59 ?_
        replace h := cl_e h
        obtain ⟨w25, M26, hc27, h⟩ := h
        refine V_ii (As := [.int _]) rfl dX12_readShift_98 mf_X12_readMark ⟨w_1463, w_65⟩ w_1461 (by decide) s0_136 rfl rfl rfl rfl ⟨rfl, rfl⟩ (t_X12_readMark hc27) ?_
        cases h
        exact V_iret dX12_readShift_101 rfl rfl (Nat.le_refl _) (Nat.le_refl _) qI_ok
      · replace h := ifp hc24 h
        refine V_iconst (v := (-1)) rfl dX12_readShift_91 kc_m1 ?_
        refine V_goto (t := 101) rfl dX12_readShift_92 ?_
        cases h
        exact V_iret dX12_readShift_101 rfl rfl (Nat.le_refl _) (Nat.le_refl _) qI_ok
    · replace h := ifp hc16 h
      refine V_iconst (v := (-1)) rfl dX12_readShift_60 kc_m1 ?_
      cases h
      exact V_iret dX12_readShift_61 rfl rfl (Nat.le_refl _) (Nat.le_refl _) qI_ok
  · replace h := ifp hc8 h
    refine V_iconst (v := (-1)) rfl dX12_readShift_29 kc_m1 ?_
    cases h
    exact V_iret dX12_readShift_30 rfl rfl (Nat.le_refl _) (Nat.le_refl _) qI_ok
-- X12_readShifts: NeverHaltedModel.readShifts()I
def f_X12_readShifts_2_b (r2 : Int32 → IM → IR) (x1 : Int32) (M : IM) : IR := cl (f_X12_isWord 20 M) fun w1 M2 => if w1 = 0 then if (M2 136 17) = 0 then some (x1, M2) else cl (f_X12_errs 1 M2) fun w6 M7 => some (w6, M7) else if x1 = 16 then cl (f_X12_errs 3 M2) fun w15 M16 => some (w15, M16) else cl (f_X12_readShift (48 + (3 * x1)) M2) fun w10 M11 => if w10 = (-1) then some ((-1), M11) else lt (x1 + 1) fun v14 => r2 v14 M11
def f_X12_readShifts_2 (n : Nat) : Int32 → IM → IR := itr (fun _ _ => none) (f_X12_readShifts_2_b) n
set_option maxRecDepth 100000 in
set_option maxHeartbeats 4000000 in
theorem t_X12_readShifts_2 {g : IG} {a : Nat → Nat} {R : Int32 × IM} (n : Nat) : ∀ (x1 : Int32) (M : IM), f_X12_readShifts_2 n x1 M = some R → V g mX12_readShifts 7 0 0 (qI S0 a R) 2 [some (.ref (a 136)), some (.int x1)] [] a S0 M 0 0 := by
  induction n with
  | zero => intro x1 M h; exact absurd h (fun z => by cases z)
  | succ n hr2 =>
    intro x1 M h
    replace h : f_X12_readShifts_2_b (f_X12_readShifts_2 n) x1 M = some R := h
    unfold f_X12_readShifts_2_b at h
    refine V_aload_n rfl dX12_readShifts_2 rfl rfl ?_
    refine V_bipush (v := 20) rfl dX12_readShifts_3 kb_20 ?_
    replace h := cl_e h
    obtain ⟨w1, M2, hc3, h⟩ := h
    refine V_ii (As := [.int _]) rfl dX12_readShifts_5 mf_X12_isWord ⟨w_1439, w_59⟩ w_1437 (by decide) s0_136 rfl rfl rfl rfl ⟨rfl, rfl⟩ (t_X12_isWord hc3) ?_
    refine V_if_eq (t := 46) rfl rfl dX12_readShifts_8 (fun hc4 => ?_) (fun hc4 => ?_)
    · replace h := ifp hc4 h
      refine V_aload_n rfl dX12_readShifts_46 rfl rfl ?_
      refine V_geti (k0 := 17) rfl dX12_readShifts_47 s0_136 icX12 (by decide) rfl w_1206 ?_
      refine V_if_ne (t := 57) rfl rfl dX12_readShifts_50 (fun hc5 => ?_) (fun hc5 => ?_)
      · replace h := ifn hc5 h
        refine V_aload_n rfl dX12_readShifts_57 rfl rfl ?_
        refine V_iconst (v := 1) rfl dX12_readShifts_58 kc_1 ?_
        replace h := cl_e h
        obtain ⟨w6, M7, hc8, h⟩ := h
        refine V_ii (As := [.int _]) rfl dX12_readShifts_59 mf_X12_errs ⟨w_1443, w_60⟩ w_1441 (by decide) s0_136 rfl rfl rfl rfl ⟨rfl, rfl⟩ (t_X12_errs hc8) ?_
        cases h
        exact V_iret dX12_readShifts_62 rfl rfl (Nat.le_refl _) (Nat.le_refl _) qI_ok
      · replace h := ifp hc5 h
        refine V_iload_n rfl dX12_readShifts_53 rfl rfl ?_
        refine V_goto (t := 62) rfl dX12_readShifts_54 ?_
        cases h
        exact V_iret dX12_readShifts_62 rfl rfl (Nat.le_refl _) (Nat.le_refl _) qI_ok
    · replace h := ifn hc4 h
      refine V_iload_n rfl dX12_readShifts_11 rfl rfl ?_
      refine V_bipush (v := 16) rfl dX12_readShifts_12 kb_16 ?_
      refine V_icmp_ne (t := 23) rfl rfl dX12_readShifts_14 (fun hc9 => ?_) (fun hc9 => ?_)
      · replace h := ifn hc9 h
        refine V_aload_n rfl dX12_readShifts_23 rfl rfl ?_
        refine V_bipush (v := 48) rfl dX12_readShifts_24 kb_48 ?_
        refine V_iconst (v := 3) rfl dX12_readShifts_26 kc_3 ?_
        refine V_iload_n rfl dX12_readShifts_27 rfl rfl ?_
        refine V_imul rfl dX12_readShifts_28 ?_
        refine V_iadd rfl dX12_readShifts_29 ?_
        replace h := cl_e h
        obtain ⟨w10, M11, hc12, h⟩ := h
        refine V_ii (As := [.int _]) rfl dX12_readShifts_30 mf_X12_readShift ⟨w_1475, w_68⟩ w_1473 (by decide) s0_136 rfl rfl rfl rfl ⟨rfl, rfl⟩ (t_X12_readShift hc12) ?_
        refine V_iconst (v := (-1)) rfl dX12_readShifts_33 kc_m1 ?_
        refine V_icmp_ne (t := 39) rfl rfl dX12_readShifts_34 (fun hc13 => ?_) (fun hc13 => ?_)
        · replace h := ifn hc13 h
          refine V_iload_n rfl dX12_readShifts_39 rfl rfl ?_
          refine V_iconst (v := 1) rfl dX12_readShifts_40 kc_1 ?_
          refine V_iadd rfl dX12_readShifts_41 ?_
          replace h := lt_e h
          refine V_istore_n (L' := [_, _]) rfl rfl dX12_readShifts_42 (by decide) rfl ?_
          refine V_goto (t := 2) rfl dX12_readShifts_43 ?_
          exact V_sub (le_s (le_s le_0)) (hr2 _ _ h)
        · replace h := ifp hc13 h
          refine V_iconst (v := (-1)) rfl dX12_readShifts_37 kc_m1 ?_
          cases h
          exact V_iret dX12_readShifts_38 rfl rfl (Nat.le_refl _) (Nat.le_refl _) qI_ok
      · replace h := ifp hc9 h
        refine V_aload_n rfl dX12_readShifts_17 rfl rfl ?_
        refine V_iconst (v := 3) rfl dX12_readShifts_18 kc_3 ?_
        replace h := cl_e h
        obtain ⟨w15, M16, hc17, h⟩ := h
        refine V_ii (As := [.int _]) rfl dX12_readShifts_19 mf_X12_errs ⟨w_1443, w_60⟩ w_1441 (by decide) s0_136 rfl rfl rfl rfl ⟨rfl, rfl⟩ (t_X12_errs hc17) ?_
        cases h
        exact V_iret dX12_readShifts_22 rfl rfl (Nat.le_refl _) (Nat.le_refl _) qI_ok
def f_X12_readShifts (M : IM) : IR := f_X12_readShifts_2 BG 0 M
set_option maxRecDepth 100000 in
set_option maxHeartbeats 4000000 in
theorem t_X12_readShifts {g : IG} {a : Nat → Nat} {R : Int32 × IM} {M : IM} (h : f_X12_readShifts M = some R) : Cn g mX12_readShifts 7 0 0 (qI S0 a R) [.ref (a 136)] a S0 M := by
  refine Cn_of (L := [some (.ref (a 136)), none]) mf_X12_readShifts (cat_r cat_0) (Nat.le_of_ble_eq_true rfl) rfl ?_
  unfold f_X12_readShifts at h
  refine V_iconst (v := 0) rfl dX12_readShifts_0 kc_0 ?_
  refine V_istore_n (L' := [_, _]) rfl rfl dX12_readShifts_1 (by decide) rfl ?_
  exact V_sub (le_s (le_s le_0)) (t_X12_readShifts_2 BG _ _ h)
-- X12_readsText: NeverHaltedModel.readsText(I)I
def f_X12_readsText (p1 : Int32) (M : IM) : IR := pt M 136 27 p1 fun M1 => cl (f_X12_reads M1) fun _ M3 => if p1 = 2 then cl (f_X12_readStones M3) fun w13 M14 => some (w13, M14) else if p1 = 3 then cl (f_X12_readShifts M3) fun w10 M11 => some (w10, M11) else cl (f_X12_readLaw M3) fun w7 M8 => some (w7, M8)
set_option maxRecDepth 100000 in
set_option maxHeartbeats 4000000 in
theorem t_X12_readsText {g : IG} {a : Nat → Nat} {R : Int32 × IM} {p1 : Int32} {M : IM} (h : f_X12_readsText p1 M = some R) : Cn g mX12_readsText 10 0 0 (qI S0 a R) [.ref (a 136), .int p1] a S0 M := by
  refine Cn_of (L := [some (.ref (a 136)), some (.int p1)]) mf_X12_readsText (cat_r (cat_i cat_0)) (Nat.le_of_ble_eq_true rfl) rfl ?_
  unfold f_X12_readsText at h
  refine V_aload_n rfl dX12_readsText_0 rfl rfl ?_
  refine V_iload_n rfl dX12_readsText_1 rfl rfl ?_
  replace h := pt_e h
  refine V_putf (k0 := 27) (ty := .int) rfl dX12_readsText_2 s0_136 icX12 tyX12_ok nmX12 (by decide) rfl w_1216 rfl (tyX12_ok _ (by decide)) rfl rfl ?_
  refine V_aload_n rfl dX12_readsText_5 rfl rfl ?_
  replace h := cl_e h
  obtain ⟨w2, M3, hc4, h⟩ := h
  refine V_iv (As := []) rfl dX12_readsText_6 mf_X12_reads ⟨w_1411, w_52⟩ w_1409 (by decide) s0_136 rfl rfl rfl rfl ⟨rfl, rfl⟩ (t_X12_reads hc4) ?_
  refine V_iload_n rfl dX12_readsText_9 rfl rfl ?_
  refine V_iconst (v := 2) rfl dX12_readsText_10 kc_2 ?_
  refine V_icmp_ne (t := 21) rfl rfl dX12_readsText_11 (fun hc5 => ?_) (fun hc5 => ?_)
  · replace h := ifn hc5 h
    refine V_iload_n rfl dX12_readsText_21 rfl rfl ?_
    refine V_iconst (v := 3) rfl dX12_readsText_22 kc_3 ?_
    refine V_icmp_ne (t := 33) rfl rfl dX12_readsText_23 (fun hc6 => ?_) (fun hc6 => ?_)
    · replace h := ifn hc6 h
      refine V_aload_n rfl dX12_readsText_33 rfl rfl ?_
      replace h := cl_e h
      obtain ⟨w7, M8, hc9, h⟩ := h
      refine V_ii (As := []) rfl dX12_readsText_34 mf_X12_readLaw ⟨w_1479, w_69⟩ w_1477 (by decide) s0_136 rfl rfl rfl rfl ⟨rfl, rfl⟩ (t_X12_readLaw hc9) ?_
      cases h
      exact V_iret dX12_readsText_37 rfl rfl (Nat.le_refl _) (Nat.le_refl _) qI_ok
    · replace h := ifp hc6 h
      refine V_aload_n rfl dX12_readsText_26 rfl rfl ?_
      replace h := cl_e h
      obtain ⟨w10, M11, hc12, h⟩ := h
      refine V_ii (As := []) rfl dX12_readsText_27 mf_X12_readShifts ⟨w_1471, w_67⟩ w_1469 (by decide) s0_136 rfl rfl rfl rfl ⟨rfl, rfl⟩ (t_X12_readShifts hc12) ?_
      refine V_goto (t := 37) rfl dX12_readsText_30 ?_
      cases h
      exact V_iret dX12_readsText_37 rfl rfl (Nat.le_refl _) (Nat.le_refl _) qI_ok
  · replace h := ifp hc5 h
    refine V_aload_n rfl dX12_readsText_14 rfl rfl ?_
    replace h := cl_e h
    obtain ⟨w13, M14, hc15, h⟩ := h
    refine V_ii (As := []) rfl dX12_readsText_15 mf_X12_readStones ⟨w_1435, w_58⟩ w_1433 (by decide) s0_136 rfl rfl rfl rfl ⟨rfl, rfl⟩ (t_X12_readStones hc15) ?_
    refine V_goto (t := 37) rfl dX12_readsText_18 ?_
    cases h
    exact V_iret dX12_readsText_37 rfl rfl (Nat.le_refl _) (Nat.le_refl _) qI_ok
-- X12_takesOther: NeverHaltedModel.takesOther(II)V
def f_X12_takesOther_7_b (r7 : Int32 → Int32 → IM → IR) (x2 : Int32) (x3 : Int32) (M : IM) : IR := if (4 * x2) ≤ x3 then pt M 136 36 x2 fun M11 => wr M11 137 40 3 0 fun M12 => wr M12 137 40 4 0 fun M14 => pt M14 136 3 0 fun M16 => some (0, M16) else rd M 153 64 (32 + x3) fun v17 => wr M 153 64 x3 v17 fun M19 => lt (x3 + 1) fun v21 => r7 x2 v21 M19
def f_X12_takesOther_7 (n : Nat) : Int32 → Int32 → IM → IR := itr (fun _ _ _ => none) (f_X12_takesOther_7_b) n
set_option maxRecDepth 100000 in
set_option maxHeartbeats 4000000 in
theorem t_X12_takesOther_7 {g : IG} {a : Nat → Nat} {R : Int32 × IM} (n : Nat) : ∀ (x2 : Int32) (x3 : Int32) (M : IM), f_X12_takesOther_7 n x2 x3 M = some R → V g mX12_takesOther 1 0 0 (qV S0 a R) 7 [some (.ref (a 136)), none, some (.int x2), some (.int x3)] [] a S0 M 0 0 := by
  induction n with
  | zero => intro x2 x3 M h; exact absurd h (fun z => by cases z)
  | succ n hr7 =>
    intro x2 x3 M h
    replace h : f_X12_takesOther_7_b (f_X12_takesOther_7 n) x2 x3 M = some R := h
    unfold f_X12_takesOther_7_b at h
    refine V_iload_n rfl dX12_takesOther_7 rfl rfl ?_
    refine V_iconst (v := 4) rfl dX12_takesOther_8 kc_4 ?_
    refine V_iload_n rfl dX12_takesOther_9 rfl rfl ?_
    refine V_imul rfl dX12_takesOther_10 ?_
    refine V_icmp_ge (t := 35) rfl rfl dX12_takesOther_11 (fun hc10 => ?_) (fun hc10 => ?_)
    · replace h := ifp hc10 h
      refine V_aload_n rfl dX12_takesOther_35 rfl rfl ?_
      refine V_iload_n rfl dX12_takesOther_36 rfl rfl ?_
      replace h := pt_e h
      refine V_putf (k0 := 36) (ty := .int) rfl dX12_takesOther_37 s0_136 icX12 tyX12_ok nmX12 (by decide) rfl w_1225 rfl (tyX12_ok _ (by decide)) rfl rfl ?_
      refine V_aload_n rfl dX12_takesOther_40 rfl rfl ?_
      refine V_getr (k0 := 1) rfl dX12_takesOther_41 s0_136 icX12 (by decide) rfl w_1190 ?_
      refine V_iconst (v := 3) rfl dX12_takesOther_44 kc_3 ?_
      refine V_iconst (v := 0) rfl dX12_takesOther_45 kc_0 ?_
      replace h := wr_e h
      obtain ⟨hb13, h⟩ := h
      refine V_iast rfl dX12_takesOther_46 s0_137 hb13 ?_
      refine V_aload_n rfl dX12_takesOther_47 rfl rfl ?_
      refine V_getr (k0 := 1) rfl dX12_takesOther_48 s0_136 icX12 (by decide) rfl w_1190 ?_
      refine V_iconst (v := 4) rfl dX12_takesOther_51 kc_4 ?_
      refine V_iconst (v := 0) rfl dX12_takesOther_52 kc_0 ?_
      replace h := wr_e h
      obtain ⟨hb15, h⟩ := h
      refine V_iast rfl dX12_takesOther_53 s0_137 hb15 ?_
      refine V_goto (t := 92) rfl dX12_takesOther_54 ?_
      refine V_aload_n rfl dX12_takesOther_92 rfl rfl ?_
      refine V_iconst (v := 0) rfl dX12_takesOther_93 kc_0 ?_
      replace h := pt_e h
      refine V_putf (k0 := 3) (ty := .int) rfl dX12_takesOther_94 s0_136 icX12 tyX12_ok nmX12 (by decide) rfl w_1192 rfl (tyX12_ok _ (by decide)) rfl rfl ?_
      cases h
      exact V_vret dX12_takesOther_97 rfl (Nat.le_refl _) (Nat.le_refl _) qV_ok
    · replace h := ifn hc10 h
      refine V_aload_n rfl dX12_takesOther_14 rfl rfl ?_
      refine V_getr (k0 := 37) rfl dX12_takesOther_15 s0_136 icX12 (by decide) rfl w_1226 ?_
      refine V_iload_n rfl dX12_takesOther_18 rfl rfl ?_
      refine V_aload_n rfl dX12_takesOther_19 rfl rfl ?_
      refine V_getr (k0 := 37) rfl dX12_takesOther_20 s0_136 icX12 (by decide) rfl w_1226 ?_
      refine V_bipush (v := 32) rfl dX12_takesOther_23 kb_32 ?_
      refine V_iload_n rfl dX12_takesOther_25 rfl rfl ?_
      refine V_iadd rfl dX12_takesOther_26 ?_
      replace h := rd_e h
      obtain ⟨hb18, h⟩ := h
      refine V_iald rfl dX12_takesOther_27 s0_153 hb18 ?_
      replace h := wr_e h
      obtain ⟨hb20, h⟩ := h
      refine V_iast rfl dX12_takesOther_28 s0_153 hb20 ?_
      replace h := lt_e h
      refine V_inc (L' := [_, _, _, _]) rfl dX12_takesOther_29 rfl kc_1 (by decide) rfl ?_
      refine V_goto (t := 7) rfl dX12_takesOther_32 ?_
      exact V_sub (le_s (le_n (le_s (le_s le_0)))) (hr7 _ _ _ h)
def f_X12_takesOther_59_b (r59 : Int32 → Int32 → IM → IR) (x2 : Int32) (x3 : Int32) (M : IM) : IR := if (3 * x2) ≤ x3 then pt M 136 38 x2 fun M3 => pt M3 136 3 0 fun M4 => some (0, M4) else rd M 154 96 (48 + x3) fun v5 => wr M 154 96 x3 v5 fun M7 => lt (x3 + 1) fun v9 => r59 x2 v9 M7
def f_X12_takesOther_59 (n : Nat) : Int32 → Int32 → IM → IR := itr (fun _ _ _ => none) (f_X12_takesOther_59_b) n
set_option maxRecDepth 100000 in
set_option maxHeartbeats 4000000 in
theorem t_X12_takesOther_59 {g : IG} {a : Nat → Nat} {R : Int32 × IM} (n : Nat) : ∀ (x2 : Int32) (x3 : Int32) (M : IM), f_X12_takesOther_59 n x2 x3 M = some R → V g mX12_takesOther 1 0 0 (qV S0 a R) 59 [some (.ref (a 136)), none, some (.int x2), some (.int x3)] [] a S0 M 0 0 := by
  induction n with
  | zero => intro x2 x3 M h; exact absurd h (fun z => by cases z)
  | succ n hr59 =>
    intro x2 x3 M h
    replace h : f_X12_takesOther_59_b (f_X12_takesOther_59 n) x2 x3 M = some R := h
    unfold f_X12_takesOther_59_b at h
    refine V_iload_n rfl dX12_takesOther_59 rfl rfl ?_
    refine V_iconst (v := 3) rfl dX12_takesOther_60 kc_3 ?_
    refine V_iload_n rfl dX12_takesOther_61 rfl rfl ?_
    refine V_imul rfl dX12_takesOther_62 ?_
    refine V_icmp_ge (t := 87) rfl rfl dX12_takesOther_63 (fun hc2 => ?_) (fun hc2 => ?_)
    · replace h := ifp hc2 h
      refine V_aload_n rfl dX12_takesOther_87 rfl rfl ?_
      refine V_iload_n rfl dX12_takesOther_88 rfl rfl ?_
      replace h := pt_e h
      refine V_putf (k0 := 38) (ty := .int) rfl dX12_takesOther_89 s0_136 icX12 tyX12_ok nmX12 (by decide) rfl w_1227 rfl (tyX12_ok _ (by decide)) rfl rfl ?_
      refine V_aload_n rfl dX12_takesOther_92 rfl rfl ?_
      refine V_iconst (v := 0) rfl dX12_takesOther_93 kc_0 ?_
      replace h := pt_e h
      refine V_putf (k0 := 3) (ty := .int) rfl dX12_takesOther_94 s0_136 icX12 tyX12_ok nmX12 (by decide) rfl w_1192 rfl (tyX12_ok _ (by decide)) rfl rfl ?_
      cases h
      exact V_vret dX12_takesOther_97 rfl (Nat.le_refl _) (Nat.le_refl _) qV_ok
    · replace h := ifn hc2 h
      refine V_aload_n rfl dX12_takesOther_66 rfl rfl ?_
      refine V_getr (k0 := 39) rfl dX12_takesOther_67 s0_136 icX12 (by decide) rfl w_1228 ?_
      refine V_iload_n rfl dX12_takesOther_70 rfl rfl ?_
      refine V_aload_n rfl dX12_takesOther_71 rfl rfl ?_
      refine V_getr (k0 := 39) rfl dX12_takesOther_72 s0_136 icX12 (by decide) rfl w_1228 ?_
      refine V_bipush (v := 48) rfl dX12_takesOther_75 kb_48 ?_
      refine V_iload_n rfl dX12_takesOther_77 rfl rfl ?_
      refine V_iadd rfl dX12_takesOther_78 ?_
      replace h := rd_e h
      obtain ⟨hb6, h⟩ := h
      refine V_iald rfl dX12_takesOther_79 s0_154 hb6 ?_
      replace h := wr_e h
      obtain ⟨hb8, h⟩ := h
      refine V_iast rfl dX12_takesOther_80 s0_154 hb8 ?_
      replace h := lt_e h
      refine V_inc (L' := [_, _, _, _]) rfl dX12_takesOther_81 rfl kc_1 (by decide) rfl ?_
      refine V_goto (t := 59) rfl dX12_takesOther_84 ?_
      exact V_sub (le_s (le_n (le_s (le_s le_0)))) (hr59 _ _ _ h)
def f_X12_takesOther (p1 : Int32) (p2 : Int32) (M : IM) : IR := if p1 = 2 then f_X12_takesOther_7 BG p2 0 M else f_X12_takesOther_59 BG p2 0 M
set_option maxRecDepth 100000 in
set_option maxHeartbeats 4000000 in
theorem t_X12_takesOther {g : IG} {a : Nat → Nat} {R : Int32 × IM} {p1 : Int32} {p2 : Int32} {M : IM} (h : f_X12_takesOther p1 p2 M = some R) : Cn g mX12_takesOther 1 0 0 (qV S0 a R) [.ref (a 136), .int p1, .int p2] a S0 M := by
  refine Cn_of (L := [some (.ref (a 136)), some (.int p1), some (.int p2), none]) mf_X12_takesOther (cat_r (cat_i (cat_i cat_0))) (Nat.le_of_ble_eq_true rfl) rfl ?_
  unfold f_X12_takesOther at h
  refine V_iload_n rfl dX12_takesOther_0 rfl rfl ?_
  refine V_iconst (v := 2) rfl dX12_takesOther_1 kc_2 ?_
  refine V_icmp_ne (t := 57) rfl rfl dX12_takesOther_2 (fun hc1 => ?_) (fun hc1 => ?_)
  · replace h := ifn hc1 h
    refine V_iconst (v := 0) rfl dX12_takesOther_57 kc_0 ?_
    refine V_istore_n (L' := [_, _, _, _]) rfl rfl dX12_takesOther_58 (by decide) rfl ?_
    exact V_sub (le_s (le_n (le_s (le_s le_0)))) (t_X12_takesOther_59 BG _ _ _ h)
  · replace h := ifp hc1 h
    refine V_iconst (v := 0) rfl dX12_takesOther_5 kc_0 ?_
    refine V_istore_n (L' := [_, _, _, _]) rfl rfl dX12_takesOther_6 (by decide) rfl ?_
    exact V_sub (le_s (le_n (le_s (le_s le_0)))) (t_X12_takesOther_7 BG _ _ _ h)
-- X12_text: NeverHaltedModel.text(I)I
def f_X12_text_69 (x1 : Int32) (x2 : Int32) (M : IM) : IR := pt M 136 14 0 fun M17 => if x2 = (-1) then some ((-1), M17) else if 1 < x1 then cl (f_X12_takesOther x1 x2 M17) fun _ M21 => some (x2, M21) else cl (f_X12_takesLaw x2 M17) fun _ M24 => some (x2, M24)
set_option maxRecDepth 100000 in
set_option maxHeartbeats 4000000 in
theorem t_X12_text_69 {g : IG} {a : Nat → Nat} {R : Int32 × IM} {x1 : Int32} {x2 : Int32} {M : IM} (h : f_X12_text_69 x1 x2 M = some R) : V g mX12_text 11 0 0 (qI S0 a R) 69 [some (.ref (a 136)), some (.int x1), some (.int x2)] [] a S0 M 0 0 := by
  unfold f_X12_text_69 at h
  refine V_aload_n rfl dX12_text_69 rfl rfl ?_
  refine V_iconst (v := 0) rfl dX12_text_70 kc_0 ?_
  replace h := pt_e h
  refine V_putf (k0 := 14) (ty := .int) rfl dX12_text_71 s0_136 icX12 tyX12_ok nmX12 (by decide) rfl w_1203 rfl (tyX12_ok _ (by decide)) rfl rfl ?_
  refine V_iload_n rfl dX12_text_74 rfl rfl ?_
  refine V_iconst (v := (-1)) rfl dX12_text_75 kc_m1 ?_
  refine V_icmp_ne (t := 81) rfl rfl dX12_text_76 (fun hc18 => ?_) (fun hc18 => ?_)
  · replace h := ifn hc18 h
    refine V_iload_n rfl dX12_text_81 rfl rfl ?_
    refine V_iconst (v := 1) rfl dX12_text_82 kc_1 ?_
    refine V_icmp_gt (t := 94) rfl rfl dX12_text_83 (fun hc19 => ?_) (fun hc19 => ?_)
    · replace h := ifp hc19 h
      refine V_aload_n rfl dX12_text_94 rfl rfl ?_
      refine V_iload_n rfl dX12_text_95 rfl rfl ?_
      refine V_iload_n rfl dX12_text_96 rfl rfl ?_
      replace h := cl_e h
      obtain ⟨w20, M21, hc22, h⟩ := h
      refine V_iv (As := [.int _, .int _]) rfl dX12_text_97 mf_X12_takesOther ⟨w_1527, w_81⟩ w_1525 (by decide) s0_136 rfl rfl rfl rfl ⟨rfl, rfl⟩ (t_X12_takesOther hc22) ?_
      refine V_iload_n rfl dX12_text_100 rfl rfl ?_
      cases h
      exact V_iret dX12_text_101 rfl rfl (Nat.le_refl _) (Nat.le_refl _) qI_ok
    · replace h := ifn hc19 h
      refine V_aload_n rfl dX12_text_86 rfl rfl ?_
      refine V_iload_n rfl dX12_text_87 rfl rfl ?_
      replace h := cl_e h
      obtain ⟨w23, M24, hc25, h⟩ := h
      refine V_iv (As := [.int _]) rfl dX12_text_88 mf_X12_takesLaw ⟨w_1523, w_80⟩ w_1521 (by decide) s0_136 rfl rfl rfl rfl ⟨rfl, rfl⟩ (t_X12_takesLaw hc25) ?_
      refine V_goto (t := 100) rfl dX12_text_91 ?_
      refine V_iload_n rfl dX12_text_100 rfl rfl ?_
      cases h
      exact V_iret dX12_text_101 rfl rfl (Nat.le_refl _) (Nat.le_refl _) qI_ok
  · replace h := ifp hc18 h
    refine V_iconst (v := (-1)) rfl dX12_text_79 kc_m1 ?_
    cases h
    exact V_iret dX12_text_80 rfl rfl (Nat.le_refl _) (Nat.le_refl _) qI_ok
def f_X12_text (p1 : Int32) (M : IM) : IR := pt M 136 0 0 fun M1 => pt M1 136 34 0 fun M2 => pt M2 136 35 (-1) fun M3 => pt M3 136 15 0 fun M4 => pt M4 136 28 0 fun M5 => pt M5 136 29 0 fun M6 => cl (f_X12_isIn p1 0 3 M6) fun w7 M8 => if w7 = 0 then f_X12_text_69 p1 (-1) M8 else cl (f_X12_readsText p1 M8) fun w11 M12 => if w11 = (-1) then pt M12 136 34 (M12 136 32) fun M15 => pt M15 136 35 (M15 136 33) fun M16 => f_X12_text_69 p1 w11 M16 else f_X12_text_69 p1 w11 M12
set_option maxRecDepth 100000 in
set_option maxHeartbeats 4000000 in
theorem t_X12_text {g : IG} {a : Nat → Nat} {R : Int32 × IM} {p1 : Int32} {M : IM} (h : f_X12_text p1 M = some R) : Cn g mX12_text 11 0 0 (qI S0 a R) [.ref (a 136), .int p1] a S0 M := by
  refine Cn_of (L := [some (.ref (a 136)), some (.int p1), none]) mf_X12_text (cat_r (cat_i cat_0)) (Nat.le_of_ble_eq_true rfl) rfl ?_
  unfold f_X12_text at h
  refine V_aload_n rfl dX12_text_0 rfl rfl ?_
  refine V_iconst (v := 0) rfl dX12_text_1 kc_0 ?_
  replace h := pt_e h
  refine V_putf (k0 := 0) (ty := .int) rfl dX12_text_2 s0_136 icX12 tyX12_ok nmX12 (by decide) rfl w_1189 rfl (tyX12_ok _ (by decide)) rfl rfl ?_
  refine V_aload_n rfl dX12_text_5 rfl rfl ?_
  refine V_iconst (v := 0) rfl dX12_text_6 kc_0 ?_
  replace h := pt_e h
  refine V_putf (k0 := 34) (ty := .int) rfl dX12_text_7 s0_136 icX12 tyX12_ok nmX12 (by decide) rfl w_1223 rfl (tyX12_ok _ (by decide)) rfl rfl ?_
  refine V_aload_n rfl dX12_text_10 rfl rfl ?_
  refine V_iconst (v := (-1)) rfl dX12_text_11 kc_m1 ?_
  replace h := pt_e h
  refine V_putf (k0 := 35) (ty := .int) rfl dX12_text_12 s0_136 icX12 tyX12_ok nmX12 (by decide) rfl w_1224 rfl (tyX12_ok _ (by decide)) rfl rfl ?_
  refine V_aload_n rfl dX12_text_15 rfl rfl ?_
  refine V_iconst (v := 0) rfl dX12_text_16 kc_0 ?_
  replace h := pt_e h
  refine V_putf (k0 := 15) (ty := .int) rfl dX12_text_17 s0_136 icX12 tyX12_ok nmX12 (by decide) rfl w_1204 rfl (tyX12_ok _ (by decide)) rfl rfl ?_
  refine V_aload_n rfl dX12_text_20 rfl rfl ?_
  refine V_iconst (v := 0) rfl dX12_text_21 kc_0 ?_
  replace h := pt_e h
  refine V_putf (k0 := 28) (ty := .int) rfl dX12_text_22 s0_136 icX12 tyX12_ok nmX12 (by decide) rfl w_1217 rfl (tyX12_ok _ (by decide)) rfl rfl ?_
  refine V_aload_n rfl dX12_text_25 rfl rfl ?_
  refine V_iconst (v := 0) rfl dX12_text_26 kc_0 ?_
  replace h := pt_e h
  refine V_putf (k0 := 29) (ty := .int) rfl dX12_text_27 s0_136 icX12 tyX12_ok nmX12 (by decide) rfl w_1218 rfl (tyX12_ok _ (by decide)) rfl rfl ?_
  refine V_iconst (v := (-1)) rfl dX12_text_30 kc_m1 ?_
  refine V_istore_n (L' := [_, _, _]) rfl rfl dX12_text_31 (by decide) rfl ?_
  refine V_aload_n rfl dX12_text_32 rfl rfl ?_
  refine V_iload_n rfl dX12_text_33 rfl rfl ?_
  refine V_iconst (v := 0) rfl dX12_text_34 kc_0 ?_
  refine V_iconst (v := 3) rfl dX12_text_35 kc_3 ?_
  replace h := cl_e h
  obtain ⟨w7, M8, hc9, h⟩ := h
  refine V_ii (As := [.int _, .int _, .int _]) rfl dX12_text_36 mf_X12_isIn ⟨w_1367, w_47⟩ w_1365 (by decide) s0_136 rfl rfl rfl rfl ⟨rfl, rfl⟩ (t_X12_isIn hc9) ?_
  refine V_if_eq (t := 69) rfl rfl dX12_text_39 (fun hc10 => ?_) (fun hc10 => ?_)
  · replace h := ifp hc10 h
    exact V_sub (le_s (le_s (le_s le_0))) (t_X12_text_69 h)
  · replace h := ifn hc10 h
    refine V_aload_n rfl dX12_text_42 rfl rfl ?_
    refine V_iload_n rfl dX12_text_43 rfl rfl ?_
    replace h := cl_e h
    obtain ⟨w11, M12, hc13, h⟩ := h
    refine V_ii (As := [.int _]) rfl dX12_text_44 mf_X12_readsText ⟨w_1407, w_51⟩ w_1405 (by decide) s0_136 rfl rfl rfl rfl ⟨rfl, rfl⟩ (t_X12_readsText hc13) ?_
    refine V_istore_n (L' := [_, _, _]) rfl rfl dX12_text_47 (by decide) rfl ?_
    refine V_iload_n rfl dX12_text_48 rfl rfl ?_
    refine V_iconst (v := (-1)) rfl dX12_text_49 kc_m1 ?_
    refine V_icmp_ne (t := 69) rfl rfl dX12_text_50 (fun hc14 => ?_) (fun hc14 => ?_)
    · replace h := ifn hc14 h
      exact V_sub (le_s (le_s (le_s le_0))) (t_X12_text_69 h)
    · replace h := ifp hc14 h
      refine V_aload_n rfl dX12_text_53 rfl rfl ?_
      refine V_aload_n rfl dX12_text_54 rfl rfl ?_
      refine V_geti (k0 := 32) rfl dX12_text_55 s0_136 icX12 (by decide) rfl w_1221 ?_
      replace h := pt_e h
      refine V_putf (k0 := 34) (ty := .int) rfl dX12_text_58 s0_136 icX12 tyX12_ok nmX12 (by decide) rfl w_1223 rfl (tyX12_ok _ (by decide)) rfl rfl ?_
      refine V_aload_n rfl dX12_text_61 rfl rfl ?_
      refine V_aload_n rfl dX12_text_62 rfl rfl ?_
      refine V_geti (k0 := 33) rfl dX12_text_63 s0_136 icX12 (by decide) rfl w_1222 ?_
      replace h := pt_e h
      refine V_putf (k0 := 35) (ty := .int) rfl dX12_text_66 s0_136 icX12 tyX12_ok nmX12 (by decide) rfl w_1224 rfl (tyX12_ok _ (by decide)) rfl rfl ?_
      exact V_sub (le_s (le_s (le_s le_0))) (t_X12_text_69 h)
-- X12_fault: NeverHaltedModel.fault(I)I
def f_X12_fault (p1 : Int32) (M : IM) : IR := pt M 136 0 0 fun M1 => if p1 = 0 then some ((M1 136 34), M1) else if p1 = 1 then some ((M1 136 35), M1) else some ((-1), M1)
set_option maxRecDepth 100000 in
set_option maxHeartbeats 4000000 in
theorem t_X12_fault {g : IG} {a : Nat → Nat} {R : Int32 × IM} {p1 : Int32} {M : IM} (h : f_X12_fault p1 M = some R) : Cn g mX12_fault 1 0 0 (qI S0 a R) [.ref (a 136), .int p1] a S0 M := by
  refine Cn_of (L := [some (.ref (a 136)), some (.int p1)]) mf_X12_fault (cat_r (cat_i cat_0)) (Nat.le_of_ble_eq_true rfl) rfl ?_
  unfold f_X12_fault at h
  refine V_aload_n rfl dX12_fault_0 rfl rfl ?_
  refine V_iconst (v := 0) rfl dX12_fault_1 kc_0 ?_
  replace h := pt_e h
  refine V_putf (k0 := 0) (ty := .int) rfl dX12_fault_2 s0_136 icX12 tyX12_ok nmX12 (by decide) rfl w_1189 rfl (tyX12_ok _ (by decide)) rfl rfl ?_
  refine V_iload_n rfl dX12_fault_5 rfl rfl ?_
  refine V_if_ne (t := 16) rfl rfl dX12_fault_6 (fun hc2 => ?_) (fun hc2 => ?_)
  · replace h := ifn hc2 h
    refine V_iload_n rfl dX12_fault_16 rfl rfl ?_
    refine V_iconst (v := 1) rfl dX12_fault_17 kc_1 ?_
    refine V_icmp_ne (t := 28) rfl rfl dX12_fault_18 (fun hc3 => ?_) (fun hc3 => ?_)
    · replace h := ifn hc3 h
      refine V_iconst (v := (-1)) rfl dX12_fault_28 kc_m1 ?_
      cases h
      exact V_iret dX12_fault_29 rfl rfl (Nat.le_refl _) (Nat.le_refl _) qI_ok
    · replace h := ifp hc3 h
      refine V_aload_n rfl dX12_fault_21 rfl rfl ?_
      refine V_geti (k0 := 35) rfl dX12_fault_22 s0_136 icX12 (by decide) rfl w_1224 ?_
      refine V_goto (t := 29) rfl dX12_fault_25 ?_
      cases h
      exact V_iret dX12_fault_29 rfl rfl (Nat.le_refl _) (Nat.le_refl _) qI_ok
  · replace h := ifp hc2 h
    refine V_aload_n rfl dX12_fault_9 rfl rfl ?_
    refine V_geti (k0 := 34) rfl dX12_fault_10 s0_136 icX12 (by decide) rfl w_1223 ?_
    refine V_goto (t := 29) rfl dX12_fault_13 ?_
    cases h
    exact V_iret dX12_fault_29 rfl rfl (Nat.le_refl _) (Nat.le_refl _) qI_ok
-- X12_twoOf: NeverHaltedModel.twoOf(III)I
def f_X12_twoOf (p1 : Int32) (p2 : Int32) (p3 : Int32) (M : IM) : IR := if p1 = 2 then some ((p2 + p3), M) else if p1 = 3 then some ((p2 - p3), M) else if p1 = 4 then some ((p2 * p3), M) else if p1 = 5 then dv p3 <| some ((p2 / p3), M) else if p1 = 6 then if p3 ≤ p2 then some (0, M) else some (1, M) else if p1 = 7 then if p2 = p3 then some (1, M) else some (0, M) else if p1 = 8 then if p2 ≤ p3 then some (0, M) else some (1, M) else if p1 = 10 then some ((p2 * p3), M) else if (p2 + p3) ≤ 0 then some (0, M) else some (1, M)
set_option maxRecDepth 100000 in
set_option maxHeartbeats 4000000 in
theorem t_X12_twoOf {g : IG} {a : Nat → Nat} {R : Int32 × IM} {p1 : Int32} {p2 : Int32} {p3 : Int32} {M : IM} (h : f_X12_twoOf p1 p2 p3 M = some R) : Cn g mX12_twoOf 1 0 0 (qI S0 a R) [.ref (a 136), .int p1, .int p2, .int p3] a S0 M := by
  refine Cn_of (L := [some (.ref (a 136)), some (.int p1), some (.int p2), some (.int p3)]) mf_X12_twoOf (cat_r (cat_i (cat_i (cat_i cat_0)))) (Nat.le_of_ble_eq_true rfl) rfl ?_
  unfold f_X12_twoOf at h
  refine V_iload_n rfl dX12_twoOf_0 rfl rfl ?_
  refine V_iconst (v := 2) rfl dX12_twoOf_1 kc_2 ?_
  refine V_icmp_ne (t := 9) rfl rfl dX12_twoOf_2 (fun hc1 => ?_) (fun hc1 => ?_)
  · replace h := ifn hc1 h
    refine V_iload_n rfl dX12_twoOf_9 rfl rfl ?_
    refine V_iconst (v := 3) rfl dX12_twoOf_10 kc_3 ?_
    refine V_icmp_ne (t := 18) rfl rfl dX12_twoOf_11 (fun hc2 => ?_) (fun hc2 => ?_)
    · replace h := ifn hc2 h
      refine V_iload_n rfl dX12_twoOf_18 rfl rfl ?_
      refine V_iconst (v := 4) rfl dX12_twoOf_19 kc_4 ?_
      refine V_icmp_ne (t := 27) rfl rfl dX12_twoOf_20 (fun hc3 => ?_) (fun hc3 => ?_)
      · replace h := ifn hc3 h
        refine V_iload_n rfl dX12_twoOf_27 rfl rfl ?_
        refine V_iconst (v := 5) rfl dX12_twoOf_28 kc_5 ?_
        refine V_icmp_ne (t := 36) rfl rfl dX12_twoOf_29 (fun hc4 => ?_) (fun hc4 => ?_)
        · replace h := ifn hc4 h
          refine V_iload_n rfl dX12_twoOf_36 rfl rfl ?_
          refine V_bipush (v := 6) rfl dX12_twoOf_37 kb_6 ?_
          refine V_icmp_ne (t := 53) rfl rfl dX12_twoOf_39 (fun hc5 => ?_) (fun hc5 => ?_)
          · replace h := ifn hc5 h
            refine V_iload_n rfl dX12_twoOf_53 rfl rfl ?_
            refine V_bipush (v := 7) rfl dX12_twoOf_54 kb_7 ?_
            refine V_icmp_ne (t := 70) rfl rfl dX12_twoOf_56 (fun hc6 => ?_) (fun hc6 => ?_)
            · replace h := ifn hc6 h
              refine V_iload_n rfl dX12_twoOf_70 rfl rfl ?_
              refine V_bipush (v := 8) rfl dX12_twoOf_71 kb_8 ?_
              refine V_icmp_ne (t := 87) rfl rfl dX12_twoOf_73 (fun hc7 => ?_) (fun hc7 => ?_)
              · replace h := ifn hc7 h
                refine V_iload_n rfl dX12_twoOf_87 rfl rfl ?_
                refine V_bipush (v := 10) rfl dX12_twoOf_88 kb_10 ?_
                refine V_icmp_ne (t := 99) rfl rfl dX12_twoOf_90 (fun hc8 => ?_) (fun hc8 => ?_)
                · replace h := ifn hc8 h
                  refine V_iload_n rfl dX12_twoOf_99 rfl rfl ?_
                  refine V_iload_n rfl dX12_twoOf_100 rfl rfl ?_
                  refine V_iadd rfl dX12_twoOf_101 ?_
                  refine V_if_le (t := 109) rfl rfl dX12_twoOf_102 (fun hc9 => ?_) (fun hc9 => ?_)
                  · replace h := ifp hc9 h
                    refine V_iconst (v := 0) rfl dX12_twoOf_109 kc_0 ?_
                    cases h
                    exact V_iret dX12_twoOf_110 rfl rfl (Nat.le_refl _) (Nat.le_refl _) qI_ok
                  · replace h := ifn hc9 h
                    refine V_iconst (v := 1) rfl dX12_twoOf_105 kc_1 ?_
                    refine V_goto (t := 110) rfl dX12_twoOf_106 ?_
                    cases h
                    exact V_iret dX12_twoOf_110 rfl rfl (Nat.le_refl _) (Nat.le_refl _) qI_ok
                · replace h := ifp hc8 h
                  refine V_iload_n rfl dX12_twoOf_93 rfl rfl ?_
                  refine V_iload_n rfl dX12_twoOf_94 rfl rfl ?_
                  refine V_imul rfl dX12_twoOf_95 ?_
                  refine V_goto (t := 110) rfl dX12_twoOf_96 ?_
                  cases h
                  exact V_iret dX12_twoOf_110 rfl rfl (Nat.le_refl _) (Nat.le_refl _) qI_ok
              · replace h := ifp hc7 h
                refine V_iload_n rfl dX12_twoOf_76 rfl rfl ?_
                refine V_iload_n rfl dX12_twoOf_77 rfl rfl ?_
                refine V_icmp_le (t := 85) rfl rfl dX12_twoOf_78 (fun hc10 => ?_) (fun hc10 => ?_)
                · replace h := ifp hc10 h
                  refine V_iconst (v := 0) rfl dX12_twoOf_85 kc_0 ?_
                  cases h
                  exact V_iret dX12_twoOf_86 rfl rfl (Nat.le_refl _) (Nat.le_refl _) qI_ok
                · replace h := ifn hc10 h
                  refine V_iconst (v := 1) rfl dX12_twoOf_81 kc_1 ?_
                  refine V_goto (t := 86) rfl dX12_twoOf_82 ?_
                  cases h
                  exact V_iret dX12_twoOf_86 rfl rfl (Nat.le_refl _) (Nat.le_refl _) qI_ok
            · replace h := ifp hc6 h
              refine V_iload_n rfl dX12_twoOf_59 rfl rfl ?_
              refine V_iload_n rfl dX12_twoOf_60 rfl rfl ?_
              refine V_icmp_ne (t := 68) rfl rfl dX12_twoOf_61 (fun hc11 => ?_) (fun hc11 => ?_)
              · replace h := ifn hc11 h
                refine V_iconst (v := 0) rfl dX12_twoOf_68 kc_0 ?_
                cases h
                exact V_iret dX12_twoOf_69 rfl rfl (Nat.le_refl _) (Nat.le_refl _) qI_ok
              · replace h := ifp hc11 h
                refine V_iconst (v := 1) rfl dX12_twoOf_64 kc_1 ?_
                refine V_goto (t := 69) rfl dX12_twoOf_65 ?_
                cases h
                exact V_iret dX12_twoOf_69 rfl rfl (Nat.le_refl _) (Nat.le_refl _) qI_ok
          · replace h := ifp hc5 h
            refine V_iload_n rfl dX12_twoOf_42 rfl rfl ?_
            refine V_iload_n rfl dX12_twoOf_43 rfl rfl ?_
            refine V_icmp_ge (t := 51) rfl rfl dX12_twoOf_44 (fun hc12 => ?_) (fun hc12 => ?_)
            · replace h := ifp hc12 h
              refine V_iconst (v := 0) rfl dX12_twoOf_51 kc_0 ?_
              cases h
              exact V_iret dX12_twoOf_52 rfl rfl (Nat.le_refl _) (Nat.le_refl _) qI_ok
            · replace h := ifn hc12 h
              refine V_iconst (v := 1) rfl dX12_twoOf_47 kc_1 ?_
              refine V_goto (t := 52) rfl dX12_twoOf_48 ?_
              cases h
              exact V_iret dX12_twoOf_52 rfl rfl (Nat.le_refl _) (Nat.le_refl _) qI_ok
        · replace h := ifp hc4 h
          refine V_iload_n rfl dX12_twoOf_32 rfl rfl ?_
          refine V_iload_n rfl dX12_twoOf_33 rfl rfl ?_
          replace h := dv_e h
          obtain ⟨hz13, h⟩ := h
          refine V_idiv rfl dX12_twoOf_34 hz13 ?_
          cases h
          exact V_iret dX12_twoOf_35 rfl rfl (Nat.le_refl _) (Nat.le_refl _) qI_ok
      · replace h := ifp hc3 h
        refine V_iload_n rfl dX12_twoOf_23 rfl rfl ?_
        refine V_iload_n rfl dX12_twoOf_24 rfl rfl ?_
        refine V_imul rfl dX12_twoOf_25 ?_
        cases h
        exact V_iret dX12_twoOf_26 rfl rfl (Nat.le_refl _) (Nat.le_refl _) qI_ok
    · replace h := ifp hc2 h
      refine V_iload_n rfl dX12_twoOf_14 rfl rfl ?_
      refine V_iload_n rfl dX12_twoOf_15 rfl rfl ?_
      refine V_isub rfl dX12_twoOf_16 ?_
      cases h
      exact V_iret dX12_twoOf_17 rfl rfl (Nat.le_refl _) (Nat.le_refl _) qI_ok
  · replace h := ifp hc1 h
    refine V_iload_n rfl dX12_twoOf_5 rfl rfl ?_
    refine V_iload_n rfl dX12_twoOf_6 rfl rfl ?_
    refine V_iadd rfl dX12_twoOf_7 ?_
    cases h
    exact V_iret dX12_twoOf_8 rfl rfl (Nat.le_refl _) (Nat.le_refl _) qI_ok
-- X12_runs: NeverHaltedModel.runs(III)I
def f_X12_runs_83 (r12 : Int32 → Int32 → Int32 → Int32 → IM → IR) (x1 : Int32) (x3 : Int32) (x4 : Int32) (x5 : Int32) (y1 : Int32) (y2 : Int32) (M : IM) : IR := wr M 156 420 y1 y2 fun M41 => lt (x4 + 1) fun v43 => lt (x5 + 1) fun v44 => r12 x1 x3 v43 v44 M41
set_option maxRecDepth 100000 in
set_option maxHeartbeats 4000000 in
theorem t_X12_runs_83 {g : IG} {a : Nat → Nat} {R : Int32 × IM} {r12 : Int32 → Int32 → Int32 → Int32 → IM → IR} {x1 : Int32} {x3 : Int32} {x4 : Int32} {x5 : Int32} {y1 : Int32} {y2 : Int32} {M : IM} (hr12 : ∀ (x1 : Int32) (x3 : Int32) (x4 : Int32) (x5 : Int32) (M : IM), r12 x1 x3 x4 x5 M = some R → V g mX12_runs 2 0 0 (qI S0 a R) 12 [some (.ref (a 136)), some (.int x1), none, some (.int x3), some (.int x4), some (.int x5)] [] a S0 M 0 0) (h : f_X12_runs_83 r12 x1 x3 x4 x5 y1 y2 M = some R) : V g mX12_runs 2 0 0 (qI S0 a R) 83 [some (.ref (a 136)), some (.int x1), none, some (.int x3), some (.int x4), some (.int x5)] [.int y2, .int y1, .ref (a 156)] a S0 M 0 0 := by
  unfold f_X12_runs_83 at h
  replace h := wr_e h
  obtain ⟨hb42, h⟩ := h
  refine V_iast rfl dX12_runs_83 s0_156 hb42 ?_
  refine V_iload rfl dX12_runs_84 rfl ?_
  refine V_iconst (v := 1) rfl dX12_runs_86 kc_1 ?_
  refine V_iadd rfl dX12_runs_87 ?_
  replace h := lt_e h
  refine V_istore (L' := [_, _, _, _, _, _]) rfl dX12_runs_88 (by decide) rfl ?_
  refine V_goto (t := 170) rfl dX12_runs_90 ?_
  replace h := lt_e h
  refine V_inc (L' := [_, _, _, _, _, _]) rfl dX12_runs_170 rfl kc_1 (by decide) rfl ?_
  refine V_goto (t := 12) rfl dX12_runs_173 ?_
  exact V_sub (le_s (le_s (le_n (le_s (le_s (le_s le_0)))))) (hr12 _ _ _ _ _ h)
def f_X12_runs_45 (r12 : Int32 → Int32 → Int32 → Int32 → IM → IR) (x1 : Int32) (x3 : Int32) (x4 : Int32) (x5 : Int32) (M : IM) : IR := rd M 150 1200 x5 fun v32 => if v32 = 0 then rd M 151 1200 x5 fun v39 => f_X12_runs_83 r12 x1 x3 x4 x5 x4 v39 M else rd M 151 1200 x5 fun v35 => rd M 155 9 v35 fun v37 => f_X12_runs_83 r12 x1 x3 x4 x5 x4 v37 M
set_option maxRecDepth 100000 in
set_option maxHeartbeats 4000000 in
theorem t_X12_runs_45 {g : IG} {a : Nat → Nat} {R : Int32 × IM} {r12 : Int32 → Int32 → Int32 → Int32 → IM → IR} {x1 : Int32} {x3 : Int32} {x4 : Int32} {x5 : Int32} {M : IM} (hr12 : ∀ (x1 : Int32) (x3 : Int32) (x4 : Int32) (x5 : Int32) (M : IM), r12 x1 x3 x4 x5 M = some R → V g mX12_runs 2 0 0 (qI S0 a R) 12 [some (.ref (a 136)), some (.int x1), none, some (.int x3), some (.int x4), some (.int x5)] [] a S0 M 0 0) (h : f_X12_runs_45 r12 x1 x3 x4 x5 M = some R) : V g mX12_runs 2 0 0 (qI S0 a R) 45 [some (.ref (a 136)), some (.int x1), none, some (.int x3), some (.int x4), some (.int x5)] [] a S0 M 0 0 := by
  unfold f_X12_runs_45 at h
  refine V_aload_n rfl dX12_runs_45 rfl rfl ?_
  refine V_getr (k0 := 41) rfl dX12_runs_46 s0_136 icX12 (by decide) rfl w_1230 ?_
  refine V_iload rfl dX12_runs_49 rfl ?_
  refine V_aload_n rfl dX12_runs_51 rfl rfl ?_
  refine V_getr (k0 := 25) rfl dX12_runs_52 s0_136 icX12 (by decide) rfl w_1214 ?_
  refine V_iload rfl dX12_runs_55 rfl ?_
  replace h := rd_e h
  obtain ⟨hb33, h⟩ := h
  refine V_iald rfl dX12_runs_57 s0_150 hb33 ?_
  refine V_if_ne (t := 71) rfl rfl dX12_runs_58 (fun hc34 => ?_) (fun hc34 => ?_)
  · replace h := ifn hc34 h
    refine V_aload_n rfl dX12_runs_71 rfl rfl ?_
    refine V_getr (k0 := 40) rfl dX12_runs_72 s0_136 icX12 (by decide) rfl w_1229 ?_
    refine V_aload_n rfl dX12_runs_75 rfl rfl ?_
    refine V_getr (k0 := 26) rfl dX12_runs_76 s0_136 icX12 (by decide) rfl w_1215 ?_
    refine V_iload rfl dX12_runs_79 rfl ?_
    replace h := rd_e h
    obtain ⟨hb36, h⟩ := h
    refine V_iald rfl dX12_runs_81 s0_151 hb36 ?_
    replace h := rd_e h
    obtain ⟨hb38, h⟩ := h
    refine V_iald rfl dX12_runs_82 s0_155 hb38 ?_
    exact V_sub (le_s (le_s (le_n (le_s (le_s (le_s le_0)))))) (t_X12_runs_83 hr12 h)
  · replace h := ifp hc34 h
    refine V_aload_n rfl dX12_runs_61 rfl rfl ?_
    refine V_getr (k0 := 26) rfl dX12_runs_62 s0_136 icX12 (by decide) rfl w_1215 ?_
    refine V_iload rfl dX12_runs_65 rfl ?_
    replace h := rd_e h
    obtain ⟨hb40, h⟩ := h
    refine V_iald rfl dX12_runs_67 s0_151 hb40 ?_
    refine V_goto (t := 83) rfl dX12_runs_68 ?_
    exact V_sub (le_s (le_s (le_n (le_s (le_s (le_s le_0)))))) (t_X12_runs_83 hr12 h)
def f_X12_runs_12_b (r12 : Int32 → Int32 → Int32 → Int32 → IM → IR) (x1 : Int32) (x3 : Int32) (x4 : Int32) (x5 : Int32) (M : IM) : IR := if ((400 * x1) + x3) ≤ x5 then rd M 156 420 0 fun v3 => some (v3, M) else rd M 150 1200 x5 fun v5 => if v5 = 0 then f_X12_runs_45 r12 x1 x3 x4 x5 M else rd M 150 1200 x5 fun v8 => if v8 = 1 then f_X12_runs_45 r12 x1 x3 x4 x5 M else rd M 150 1200 x5 fun v11 => if v11 = 9 then rd M 156 420 (x4 - 1) fun v27 => wr M 156 420 (x4 - 1) (1 - v27) fun M29 => lt (x5 + 1) fun v31 => r12 x1 x3 x4 v31 M29 else lt (x4 - 1) fun v14 => rd M 150 1200 x5 fun v15 => rd M 156 420 (v14 - 1) fun v17 => rd M 156 420 v14 fun v19 => cl (f_X12_twoOf v15 v17 v19 M) fun w21 M22 => wr M22 156 420 (v14 - 1) w21 fun M24 => lt (x5 + 1) fun v26 => r12 x1 x3 v14 v26 M24
def f_X12_runs_12 (n : Nat) : Int32 → Int32 → Int32 → Int32 → IM → IR := itr (fun _ _ _ _ _ => none) (f_X12_runs_12_b) n
set_option maxRecDepth 100000 in
set_option maxHeartbeats 4000000 in
theorem t_X12_runs_12 {g : IG} {a : Nat → Nat} {R : Int32 × IM} (n : Nat) : ∀ (x1 : Int32) (x3 : Int32) (x4 : Int32) (x5 : Int32) (M : IM), f_X12_runs_12 n x1 x3 x4 x5 M = some R → V g mX12_runs 2 0 0 (qI S0 a R) 12 [some (.ref (a 136)), some (.int x1), none, some (.int x3), some (.int x4), some (.int x5)] [] a S0 M 0 0 := by
  induction n with
  | zero => intro x1 x3 x4 x5 M h; exact absurd h (fun z => by cases z)
  | succ n hr12 =>
    intro x1 x3 x4 x5 M h
    replace h : f_X12_runs_12_b (f_X12_runs_12 n) x1 x3 x4 x5 M = some R := h
    unfold f_X12_runs_12_b at h
    refine V_iload rfl dX12_runs_12 rfl ?_
    refine V_sipush (v := 400) rfl dX12_runs_14 ks_400 ?_
    refine V_iload_n rfl dX12_runs_17 rfl rfl ?_
    refine V_imul rfl dX12_runs_18 ?_
    refine V_iload_n rfl dX12_runs_19 rfl rfl ?_
    refine V_iadd rfl dX12_runs_20 ?_
    refine V_icmp_ge (t := 176) rfl rfl dX12_runs_21 (fun hc2 => ?_) (fun hc2 => ?_)
    · replace h := ifp hc2 h
      refine V_aload_n rfl dX12_runs_176 rfl rfl ?_
      refine V_getr (k0 := 41) rfl dX12_runs_177 s0_136 icX12 (by decide) rfl w_1230 ?_
      refine V_iconst (v := 0) rfl dX12_runs_180 kc_0 ?_
      replace h := rd_e h
      obtain ⟨hb4, h⟩ := h
      refine V_iald rfl dX12_runs_181 s0_156 hb4 ?_
      cases h
      exact V_iret dX12_runs_182 rfl rfl (Nat.le_refl _) (Nat.le_refl _) qI_ok
    · replace h := ifn hc2 h
      refine V_aload_n rfl dX12_runs_24 rfl rfl ?_
      refine V_getr (k0 := 25) rfl dX12_runs_25 s0_136 icX12 (by decide) rfl w_1214 ?_
      refine V_iload rfl dX12_runs_28 rfl ?_
      replace h := rd_e h
      obtain ⟨hb6, h⟩ := h
      refine V_iald rfl dX12_runs_30 s0_150 hb6 ?_
      refine V_if_eq (t := 45) rfl rfl dX12_runs_31 (fun hc7 => ?_) (fun hc7 => ?_)
      · replace h := ifp hc7 h
        exact V_sub (le_s (le_s (le_n (le_s (le_s (le_s le_0)))))) (t_X12_runs_45 hr12 h)
      · replace h := ifn hc7 h
        refine V_aload_n rfl dX12_runs_34 rfl rfl ?_
        refine V_getr (k0 := 25) rfl dX12_runs_35 s0_136 icX12 (by decide) rfl w_1214 ?_
        refine V_iload rfl dX12_runs_38 rfl ?_
        replace h := rd_e h
        obtain ⟨hb9, h⟩ := h
        refine V_iald rfl dX12_runs_40 s0_150 hb9 ?_
        refine V_iconst (v := 1) rfl dX12_runs_41 kc_1 ?_
        refine V_icmp_ne (t := 93) rfl rfl dX12_runs_42 (fun hc10 => ?_) (fun hc10 => ?_)
        · replace h := ifn hc10 h
          refine V_aload_n rfl dX12_runs_93 rfl rfl ?_
          refine V_getr (k0 := 25) rfl dX12_runs_94 s0_136 icX12 (by decide) rfl w_1214 ?_
          refine V_iload rfl dX12_runs_97 rfl ?_
          replace h := rd_e h
          obtain ⟨hb12, h⟩ := h
          refine V_iald rfl dX12_runs_99 s0_150 hb12 ?_
          refine V_bipush (v := 9) rfl dX12_runs_100 kb_9 ?_
          refine V_icmp_ne (t := 128) rfl rfl dX12_runs_102 (fun hc13 => ?_) (fun hc13 => ?_)
          · replace h := ifn hc13 h
            refine V_iload rfl dX12_runs_128 rfl ?_
            refine V_iconst (v := 1) rfl dX12_runs_130 kc_1 ?_
            refine V_isub rfl dX12_runs_131 ?_
            replace h := lt_e h
            refine V_istore (L' := [_, _, _, _, _, _]) rfl dX12_runs_132 (by decide) rfl ?_
            refine V_aload_n rfl dX12_runs_134 rfl rfl ?_
            refine V_getr (k0 := 41) rfl dX12_runs_135 s0_136 icX12 (by decide) rfl w_1230 ?_
            refine V_iload rfl dX12_runs_138 rfl ?_
            refine V_iconst (v := 1) rfl dX12_runs_140 kc_1 ?_
            refine V_isub rfl dX12_runs_141 ?_
            refine V_aload_n rfl dX12_runs_142 rfl rfl ?_
            refine V_aload_n rfl dX12_runs_143 rfl rfl ?_
            refine V_getr (k0 := 25) rfl dX12_runs_144 s0_136 icX12 (by decide) rfl w_1214 ?_
            refine V_iload rfl dX12_runs_147 rfl ?_
            replace h := rd_e h
            obtain ⟨hb16, h⟩ := h
            refine V_iald rfl dX12_runs_149 s0_150 hb16 ?_
            refine V_aload_n rfl dX12_runs_150 rfl rfl ?_
            refine V_getr (k0 := 41) rfl dX12_runs_151 s0_136 icX12 (by decide) rfl w_1230 ?_
            refine V_iload rfl dX12_runs_154 rfl ?_
            refine V_iconst (v := 1) rfl dX12_runs_156 kc_1 ?_
            refine V_isub rfl dX12_runs_157 ?_
            replace h := rd_e h
            obtain ⟨hb18, h⟩ := h
            refine V_iald rfl dX12_runs_158 s0_156 hb18 ?_
            refine V_aload_n rfl dX12_runs_159 rfl rfl ?_
            refine V_getr (k0 := 41) rfl dX12_runs_160 s0_136 icX12 (by decide) rfl w_1230 ?_
            refine V_iload rfl dX12_runs_163 rfl ?_
            replace h := rd_e h
            obtain ⟨hb20, h⟩ := h
            refine V_iald rfl dX12_runs_165 s0_156 hb20 ?_
            replace h := cl_e h
            obtain ⟨w21, M22, hc23, h⟩ := h
            refine V_ii (As := [.int _, .int _, .int _]) rfl dX12_runs_166 mf_X12_twoOf ⟨w_1591, w_95⟩ w_1589 (by decide) s0_136 rfl rfl rfl rfl ⟨rfl, rfl⟩ (t_X12_twoOf hc23) ?_
            replace h := wr_e h
            obtain ⟨hb25, h⟩ := h
            refine V_iast rfl dX12_runs_169 s0_156 hb25 ?_
            replace h := lt_e h
            refine V_inc (L' := [_, _, _, _, _, _]) rfl dX12_runs_170 rfl kc_1 (by decide) rfl ?_
            refine V_goto (t := 12) rfl dX12_runs_173 ?_
            exact V_sub (le_s (le_s (le_n (le_s (le_s (le_s le_0)))))) (hr12 _ _ _ _ _ h)
          · replace h := ifp hc13 h
            refine V_aload_n rfl dX12_runs_105 rfl rfl ?_
            refine V_getr (k0 := 41) rfl dX12_runs_106 s0_136 icX12 (by decide) rfl w_1230 ?_
            refine V_iload rfl dX12_runs_109 rfl ?_
            refine V_iconst (v := 1) rfl dX12_runs_111 kc_1 ?_
            refine V_isub rfl dX12_runs_112 ?_
            refine V_iconst (v := 1) rfl dX12_runs_113 kc_1 ?_
            refine V_aload_n rfl dX12_runs_114 rfl rfl ?_
            refine V_getr (k0 := 41) rfl dX12_runs_115 s0_136 icX12 (by decide) rfl w_1230 ?_
            refine V_iload rfl dX12_runs_118 rfl ?_
            refine V_iconst (v := 1) rfl dX12_runs_120 kc_1 ?_
            refine V_isub rfl dX12_runs_121 ?_
            replace h := rd_e h
            obtain ⟨hb28, h⟩ := h
            refine V_iald rfl dX12_runs_122 s0_156 hb28 ?_
            refine V_isub rfl dX12_runs_123 ?_
            replace h := wr_e h
            obtain ⟨hb30, h⟩ := h
            refine V_iast rfl dX12_runs_124 s0_156 hb30 ?_
            refine V_goto (t := 170) rfl dX12_runs_125 ?_
            replace h := lt_e h
            refine V_inc (L' := [_, _, _, _, _, _]) rfl dX12_runs_170 rfl kc_1 (by decide) rfl ?_
            refine V_goto (t := 12) rfl dX12_runs_173 ?_
            exact V_sub (le_s (le_s (le_n (le_s (le_s (le_s le_0)))))) (hr12 _ _ _ _ _ h)
        · replace h := ifp hc10 h
          exact V_sub (le_s (le_s (le_n (le_s (le_s (le_s le_0)))))) (t_X12_runs_45 hr12 h)
def f_X12_runs (p1 : Int32) (p2 : Int32) (p3 : Int32) (M : IM) : IR := lt ((400 * p1) + p2) fun v1 => f_X12_runs_12 BG p1 p3 0 v1 M
set_option maxRecDepth 100000 in
set_option maxHeartbeats 4000000 in
theorem t_X12_runs {g : IG} {a : Nat → Nat} {R : Int32 × IM} {p1 : Int32} {p2 : Int32} {p3 : Int32} {M : IM} (h : f_X12_runs p1 p2 p3 M = some R) : Cn g mX12_runs 2 0 0 (qI S0 a R) [.ref (a 136), .int p1, .int p2, .int p3] a S0 M := by
  refine Cn_of (L := [some (.ref (a 136)), some (.int p1), some (.int p2), some (.int p3), none, none]) mf_X12_runs (cat_r (cat_i (cat_i (cat_i cat_0)))) (Nat.le_of_ble_eq_true rfl) rfl ?_
  unfold f_X12_runs at h
  refine V_iconst (v := 0) rfl dX12_runs_0 kc_0 ?_
  refine V_istore (L' := [_, _, _, _, _, _]) rfl dX12_runs_1 (by decide) rfl ?_
  refine V_sipush (v := 400) rfl dX12_runs_3 ks_400 ?_
  refine V_iload_n rfl dX12_runs_6 rfl rfl ?_
  refine V_imul rfl dX12_runs_7 ?_
  refine V_iload_n rfl dX12_runs_8 rfl rfl ?_
  refine V_iadd rfl dX12_runs_9 ?_
  replace h := lt_e h
  refine V_istore (L' := [_, _, _, _, _, _]) rfl dX12_runs_10 (by decide) rfl ?_
  exact V_sub (le_s (le_s (le_n (le_s (le_s (le_s le_0)))))) (t_X12_runs_12 BG _ _ _ _ _ h)
-- X12_lineOf: NeverHaltedModel.lineOf(II)I
def f_X12_lineOf_36 (r2 : Int32 → Int32 → Int32 → IM → IR) (x1 : Int32) (x2 : Int32) (x3 : Int32) (x4 : Int32) (M : IM) : IR := rd M 148 48 x4 fun v10 => rd M 149 48 x4 fun v12 => if v10 = v12 then some (x4, M) else rd M 148 48 x4 fun v15 => rd M 149 48 x4 fun v17 => cl (f_X12_runs x1 v15 v17 M) fun w19 M20 => if w19 = 0 then lt (x3 + 1) fun v23 => r2 x1 x2 v23 M20 else some (x4, M20)
set_option maxRecDepth 100000 in
set_option maxHeartbeats 4000000 in
theorem t_X12_lineOf_36 {g : IG} {a : Nat → Nat} {R : Int32 × IM} {r2 : Int32 → Int32 → Int32 → IM → IR} {x1 : Int32} {x2 : Int32} {x3 : Int32} {x4 : Int32} {M : IM} (hr2 : ∀ (x1 : Int32) (x2 : Int32) (x3 : Int32) (M : IM), r2 x1 x2 x3 M = some R → V g mX12_lineOf 3 0 0 (qI S0 a R) 2 [some (.ref (a 136)), some (.int x1), some (.int x2), some (.int x3), none] [] a S0 M 0 0) (h : f_X12_lineOf_36 r2 x1 x2 x3 x4 M = some R) : V g mX12_lineOf 3 0 0 (qI S0 a R) 36 [some (.ref (a 136)), some (.int x1), some (.int x2), some (.int x3), some (.int x4)] [] a S0 M 0 0 := by
  unfold f_X12_lineOf_36 at h
  refine V_aload_n rfl dX12_lineOf_36 rfl rfl ?_
  refine V_getr (k0 := 23) rfl dX12_lineOf_37 s0_136 icX12 (by decide) rfl w_1212 ?_
  refine V_iload rfl dX12_lineOf_40 rfl ?_
  replace h := rd_e h
  obtain ⟨hb11, h⟩ := h
  refine V_iald rfl dX12_lineOf_42 s0_148 hb11 ?_
  refine V_aload_n rfl dX12_lineOf_43 rfl rfl ?_
  refine V_getr (k0 := 24) rfl dX12_lineOf_44 s0_136 icX12 (by decide) rfl w_1213 ?_
  refine V_iload rfl dX12_lineOf_47 rfl ?_
  replace h := rd_e h
  obtain ⟨hb13, h⟩ := h
  refine V_iald rfl dX12_lineOf_49 s0_149 hb13 ?_
  refine V_icmp_eq (t := 75) rfl rfl dX12_lineOf_50 (fun hc14 => ?_) (fun hc14 => ?_)
  · replace h := ifp hc14 h
    refine V_iload rfl dX12_lineOf_75 rfl ?_
    cases h
    exact V_iret dX12_lineOf_77 rfl rfl (Nat.le_refl _) (Nat.le_refl _) qI_ok
  · replace h := ifn hc14 h
    refine V_aload_n rfl dX12_lineOf_53 rfl rfl ?_
    refine V_iload_n rfl dX12_lineOf_54 rfl rfl ?_
    refine V_aload_n rfl dX12_lineOf_55 rfl rfl ?_
    refine V_getr (k0 := 23) rfl dX12_lineOf_56 s0_136 icX12 (by decide) rfl w_1212 ?_
    refine V_iload rfl dX12_lineOf_59 rfl ?_
    replace h := rd_e h
    obtain ⟨hb16, h⟩ := h
    refine V_iald rfl dX12_lineOf_61 s0_148 hb16 ?_
    refine V_aload_n rfl dX12_lineOf_62 rfl rfl ?_
    refine V_getr (k0 := 24) rfl dX12_lineOf_63 s0_136 icX12 (by decide) rfl w_1213 ?_
    refine V_iload rfl dX12_lineOf_66 rfl ?_
    replace h := rd_e h
    obtain ⟨hb18, h⟩ := h
    refine V_iald rfl dX12_lineOf_68 s0_149 hb18 ?_
    replace h := cl_e h
    obtain ⟨w19, M20, hc21, h⟩ := h
    refine V_ii (As := [.int _, .int _, .int _]) rfl dX12_lineOf_69 mf_X12_runs ⟨w_1587, w_94⟩ w_1585 (by decide) s0_136 rfl rfl rfl rfl ⟨rfl, rfl⟩ (t_X12_runs hc21) ?_
    refine V_if_eq (t := 78) rfl rfl dX12_lineOf_72 (fun hc22 => ?_) (fun hc22 => ?_)
    · replace h := ifp hc22 h
      replace h := lt_e h
      refine V_inc (L' := [_, _, _, _, _]) rfl dX12_lineOf_78 rfl kc_1 (by decide) rfl ?_
      refine V_goto (t := 2) rfl dX12_lineOf_81 ?_
      exact V_sub (le_s (le_s (le_s (le_s (le_n le_0))))) (hr2 _ _ _ _ h)
    · replace h := ifn hc22 h
      refine V_iload rfl dX12_lineOf_75 rfl ?_
      cases h
      exact V_iret dX12_lineOf_77 rfl rfl (Nat.le_refl _) (Nat.le_refl _) qI_ok
def f_X12_lineOf_2_b (r2 : Int32 → Int32 → Int32 → IM → IR) (x1 : Int32) (x2 : Int32) (x3 : Int32) (M : IM) : IR := rd M 145 2 x1 fun v1 => if v1 ≤ x3 then some ((-1), M) else lt ((16 * x1) + x3) fun v4 => if x2 = (-1) then f_X12_lineOf_36 r2 x1 x2 x3 v4 M else rd M 146 48 v4 fun v6 => if v6 = x2 then f_X12_lineOf_36 r2 x1 x2 x3 v4 M else lt (x3 + 1) fun v9 => r2 x1 x2 v9 M
def f_X12_lineOf_2 (n : Nat) : Int32 → Int32 → Int32 → IM → IR := itr (fun _ _ _ _ => none) (f_X12_lineOf_2_b) n
set_option maxRecDepth 100000 in
set_option maxHeartbeats 4000000 in
theorem t_X12_lineOf_2 {g : IG} {a : Nat → Nat} {R : Int32 × IM} (n : Nat) : ∀ (x1 : Int32) (x2 : Int32) (x3 : Int32) (M : IM), f_X12_lineOf_2 n x1 x2 x3 M = some R → V g mX12_lineOf 3 0 0 (qI S0 a R) 2 [some (.ref (a 136)), some (.int x1), some (.int x2), some (.int x3), none] [] a S0 M 0 0 := by
  induction n with
  | zero => intro x1 x2 x3 M h; exact absurd h (fun z => by cases z)
  | succ n hr2 =>
    intro x1 x2 x3 M h
    replace h : f_X12_lineOf_2_b (f_X12_lineOf_2 n) x1 x2 x3 M = some R := h
    unfold f_X12_lineOf_2_b at h
    refine V_iload_n rfl dX12_lineOf_2 rfl rfl ?_
    refine V_aload_n rfl dX12_lineOf_3 rfl rfl ?_
    refine V_getr (k0 := 20) rfl dX12_lineOf_4 s0_136 icX12 (by decide) rfl w_1209 ?_
    refine V_iload_n rfl dX12_lineOf_7 rfl rfl ?_
    replace h := rd_e h
    obtain ⟨hb2, h⟩ := h
    refine V_iald rfl dX12_lineOf_8 s0_145 hb2 ?_
    refine V_icmp_ge (t := 84) rfl rfl dX12_lineOf_9 (fun hc3 => ?_) (fun hc3 => ?_)
    · replace h := ifp hc3 h
      refine V_iconst (v := (-1)) rfl dX12_lineOf_84 kc_m1 ?_
      cases h
      exact V_iret dX12_lineOf_85 rfl rfl (Nat.le_refl _) (Nat.le_refl _) qI_ok
    · replace h := ifn hc3 h
      refine V_bipush (v := 16) rfl dX12_lineOf_12 kb_16 ?_
      refine V_iload_n rfl dX12_lineOf_14 rfl rfl ?_
      refine V_imul rfl dX12_lineOf_15 ?_
      refine V_iload_n rfl dX12_lineOf_16 rfl rfl ?_
      refine V_iadd rfl dX12_lineOf_17 ?_
      replace h := lt_e h
      refine V_istore (L' := [_, _, _, _, _]) rfl dX12_lineOf_18 (by decide) rfl ?_
      refine V_iload_n rfl dX12_lineOf_20 rfl rfl ?_
      refine V_iconst (v := (-1)) rfl dX12_lineOf_21 kc_m1 ?_
      refine V_icmp_eq (t := 36) rfl rfl dX12_lineOf_22 (fun hc5 => ?_) (fun hc5 => ?_)
      · replace h := ifp hc5 h
        exact V_sub (le_s (le_s (le_s (le_s (le_s le_0))))) (t_X12_lineOf_36 hr2 h)
      · replace h := ifn hc5 h
        refine V_aload_n rfl dX12_lineOf_25 rfl rfl ?_
        refine V_getr (k0 := 21) rfl dX12_lineOf_26 s0_136 icX12 (by decide) rfl w_1210 ?_
        refine V_iload rfl dX12_lineOf_29 rfl ?_
        replace h := rd_e h
        obtain ⟨hb7, h⟩ := h
        refine V_iald rfl dX12_lineOf_31 s0_146 hb7 ?_
        refine V_iload_n rfl dX12_lineOf_32 rfl rfl ?_
        refine V_icmp_ne (t := 78) rfl rfl dX12_lineOf_33 (fun hc8 => ?_) (fun hc8 => ?_)
        · replace h := ifn hc8 h
          replace h := lt_e h
          refine V_inc (L' := [_, _, _, _, _]) rfl dX12_lineOf_78 rfl kc_1 (by decide) rfl ?_
          refine V_goto (t := 2) rfl dX12_lineOf_81 ?_
          exact V_sub (le_s (le_s (le_s (le_s (le_n le_0))))) (hr2 _ _ _ _ h)
        · replace h := ifp hc8 h
          exact V_sub (le_s (le_s (le_s (le_s (le_s le_0))))) (t_X12_lineOf_36 hr2 h)
def f_X12_lineOf (p1 : Int32) (p2 : Int32) (M : IM) : IR := f_X12_lineOf_2 BG p1 p2 0 M
set_option maxRecDepth 100000 in
set_option maxHeartbeats 4000000 in
theorem t_X12_lineOf {g : IG} {a : Nat → Nat} {R : Int32 × IM} {p1 : Int32} {p2 : Int32} {M : IM} (h : f_X12_lineOf p1 p2 M = some R) : Cn g mX12_lineOf 3 0 0 (qI S0 a R) [.ref (a 136), .int p1, .int p2] a S0 M := by
  refine Cn_of (L := [some (.ref (a 136)), some (.int p1), some (.int p2), none, none]) mf_X12_lineOf (cat_r (cat_i (cat_i cat_0))) (Nat.le_of_ble_eq_true rfl) rfl ?_
  unfold f_X12_lineOf at h
  refine V_iconst (v := 0) rfl dX12_lineOf_0 kc_0 ?_
  refine V_istore_n (L' := [_, _, _, _, _]) rfl rfl dX12_lineOf_1 (by decide) rfl ?_
  exact V_sub (le_s (le_s (le_s (le_s (le_n le_0))))) (t_X12_lineOf_2 BG _ _ _ _ h)
-- X12_ofStone: NeverHaltedModel.ofStone(II)I
def f_X12_ofStone (p1 : Int32) (p2 : Int32) (M : IM) : IR := rd M 153 64 ((4 * p1) + p2) fun v1 => some (v1, M)
set_option maxRecDepth 100000 in
set_option maxHeartbeats 4000000 in
theorem t_X12_ofStone {g : IG} {a : Nat → Nat} {R : Int32 × IM} {p1 : Int32} {p2 : Int32} {M : IM} (h : f_X12_ofStone p1 p2 M = some R) : Cn g mX12_ofStone 1 0 0 (qI S0 a R) [.ref (a 136), .int p1, .int p2] a S0 M := by
  refine Cn_of (L := [some (.ref (a 136)), some (.int p1), some (.int p2)]) mf_X12_ofStone (cat_r (cat_i (cat_i cat_0))) (Nat.le_of_ble_eq_true rfl) rfl ?_
  unfold f_X12_ofStone at h
  refine V_aload_n rfl dX12_ofStone_0 rfl rfl ?_
  refine V_getr (k0 := 37) rfl dX12_ofStone_1 s0_136 icX12 (by decide) rfl w_1226 ?_
  refine V_iconst (v := 4) rfl dX12_ofStone_4 kc_4 ?_
  refine V_iload_n rfl dX12_ofStone_5 rfl rfl ?_
  refine V_imul rfl dX12_ofStone_6 ?_
  refine V_iload_n rfl dX12_ofStone_7 rfl rfl ?_
  refine V_iadd rfl dX12_ofStone_8 ?_
  replace h := rd_e h
  obtain ⟨hb2, h⟩ := h
  refine V_iald rfl dX12_ofStone_9 s0_153 hb2 ?_
  cases h
  exact V_iret dX12_ofStone_10 rfl rfl (Nat.le_refl _) (Nat.le_refl _) qI_ok
-- X12_longHere: NeverHaltedModel.longHere()I
def f_X12_longHere (M : IM) : IR := rd M 137 40 3 fun v1 => cl (f_X12_ofStone v1 1 M) fun w3 M4 => some (w3, M4)
set_option maxRecDepth 100000 in
set_option maxHeartbeats 4000000 in
theorem t_X12_longHere {g : IG} {a : Nat → Nat} {R : Int32 × IM} {M : IM} (h : f_X12_longHere M = some R) : Cn g mX12_longHere 2 0 0 (qI S0 a R) [.ref (a 136)] a S0 M := by
  refine Cn_of (L := [some (.ref (a 136))]) mf_X12_longHere (cat_r cat_0) (Nat.le_of_ble_eq_true rfl) rfl ?_
  unfold f_X12_longHere at h
  refine V_aload_n rfl dX12_longHere_0 rfl rfl ?_
  refine V_aload_n rfl dX12_longHere_1 rfl rfl ?_
  refine V_getr (k0 := 1) rfl dX12_longHere_2 s0_136 icX12 (by decide) rfl w_1190 ?_
  refine V_iconst (v := 3) rfl dX12_longHere_5 kc_3 ?_
  replace h := rd_e h
  obtain ⟨hb2, h⟩ := h
  refine V_iald rfl dX12_longHere_6 s0_137 hb2 ?_
  refine V_iconst (v := 1) rfl dX12_longHere_7 kc_1 ?_
  replace h := cl_e h
  obtain ⟨w3, M4, hc5, h⟩ := h
  refine V_ii (As := [.int _, .int _]) rfl dX12_longHere_8 mf_X12_ofStone ⟨w_1571, w_90⟩ w_1569 (by decide) s0_136 rfl rfl rfl rfl ⟨rfl, rfl⟩ (t_X12_ofStone hc5) ?_
  cases h
  exact V_iret dX12_longHere_11 rfl rfl (Nat.le_refl _) (Nat.le_refl _) qI_ok
-- X12_isOnRiver: NeverHaltedModel.isOnRiver()Z
def f_X12_isOnRiver (M : IM) : IR := if (M 136 36) ≤ 0 then some (0, M) else rd M 137 40 4 fun v2 => cl (f_X12_longHere M) fun w4 M5 => rd M5 137 40 3 fun v7 => cl (f_X12_ofStone v7 2 M5) fun w9 M10 => if v2 < (w4 - w9) then some (0, M10) else some (1, M10)
set_option maxRecDepth 100000 in
set_option maxHeartbeats 4000000 in
theorem t_X12_isOnRiver {g : IG} {a : Nat → Nat} {R : Int32 × IM} {M : IM} (h : f_X12_isOnRiver M = some R) : Cn g mX12_isOnRiver 3 0 0 (qI S0 a R) [.ref (a 136)] a S0 M := by
  refine Cn_of (L := [some (.ref (a 136))]) mf_X12_isOnRiver (cat_r cat_0) (Nat.le_of_ble_eq_true rfl) rfl ?_
  unfold f_X12_isOnRiver at h
  refine V_aload_n rfl dX12_isOnRiver_0 rfl rfl ?_
  refine V_geti (k0 := 36) rfl dX12_isOnRiver_1 s0_136 icX12 (by decide) rfl w_1225 ?_
  refine V_if_le (t := 36) rfl rfl dX12_isOnRiver_4 (fun hc1 => ?_) (fun hc1 => ?_)
  · replace h := ifp hc1 h
    refine V_iconst (v := 0) rfl dX12_isOnRiver_36 kc_0 ?_
    cases h
    exact V_iret dX12_isOnRiver_37 rfl nz_0 (Nat.le_refl _) (Nat.le_refl _) qI_ok
  · replace h := ifn hc1 h
    refine V_aload_n rfl dX12_isOnRiver_7 rfl rfl ?_
    refine V_getr (k0 := 1) rfl dX12_isOnRiver_8 s0_136 icX12 (by decide) rfl w_1190 ?_
    refine V_iconst (v := 4) rfl dX12_isOnRiver_11 kc_4 ?_
    replace h := rd_e h
    obtain ⟨hb3, h⟩ := h
    refine V_iald rfl dX12_isOnRiver_12 s0_137 hb3 ?_
    refine V_aload_n rfl dX12_isOnRiver_13 rfl rfl ?_
    replace h := cl_e h
    obtain ⟨w4, M5, hc6, h⟩ := h
    refine V_ii (As := []) rfl dX12_isOnRiver_14 mf_X12_longHere ⟨w_1579, w_92⟩ w_1577 (by decide) s0_136 rfl rfl rfl rfl ⟨rfl, rfl⟩ (t_X12_longHere hc6) ?_
    refine V_aload_n rfl dX12_isOnRiver_17 rfl rfl ?_
    refine V_aload_n rfl dX12_isOnRiver_18 rfl rfl ?_
    refine V_getr (k0 := 1) rfl dX12_isOnRiver_19 s0_136 icX12 (by decide) rfl w_1190 ?_
    refine V_iconst (v := 3) rfl dX12_isOnRiver_22 kc_3 ?_
    replace h := rd_e h
    obtain ⟨hb8, h⟩ := h
    refine V_iald rfl dX12_isOnRiver_23 s0_137 hb8 ?_
    refine V_iconst (v := 2) rfl dX12_isOnRiver_24 kc_2 ?_
    replace h := cl_e h
    obtain ⟨w9, M10, hc11, h⟩ := h
    refine V_ii (As := [.int _, .int _]) rfl dX12_isOnRiver_25 mf_X12_ofStone ⟨w_1571, w_90⟩ w_1569 (by decide) s0_136 rfl rfl rfl rfl ⟨rfl, rfl⟩ (t_X12_ofStone hc11) ?_
    refine V_isub rfl dX12_isOnRiver_28 ?_
    refine V_icmp_lt (t := 36) rfl rfl dX12_isOnRiver_29 (fun hc12 => ?_) (fun hc12 => ?_)
    · replace h := ifp hc12 h
      refine V_iconst (v := 0) rfl dX12_isOnRiver_36 kc_0 ?_
      cases h
      exact V_iret dX12_isOnRiver_37 rfl nz_0 (Nat.le_refl _) (Nat.le_refl _) qI_ok
    · replace h := ifn hc12 h
      refine V_iconst (v := 1) rfl dX12_isOnRiver_32 kc_1 ?_
      refine V_goto (t := 37) rfl dX12_isOnRiver_33 ?_
      cases h
      exact V_iret dX12_isOnRiver_37 rfl nz_1 (Nat.le_refl _) (Nat.le_refl _) qI_ok
-- X12_asksOf: NeverHaltedModel.asksOf(II)V
def f_X12_asksOf_136 (y1 : Int32) (y2 : Int32) (M : IM) : IR := wr M 155 9 y1 y2 fun M38 => rd M38 137 40 9 fun v40 => wr M38 155 9 8 v40 fun M42 => some (0, M42)
set_option maxRecDepth 100000 in
set_option maxHeartbeats 4000000 in
theorem t_X12_asksOf_136 {g : IG} {a : Nat → Nat} {R : Int32 × IM} {y1 : Int32} {y2 : Int32} {M : IM} (h : f_X12_asksOf_136 y1 y2 M = some R) : V g mX12_asksOf 4 0 0 (qV S0 a R) 136 [some (.ref (a 136)), none, none] [.int y2, .int y1, .ref (a 155)] a S0 M 0 0 := by
  unfold f_X12_asksOf_136 at h
  replace h := wr_e h
  obtain ⟨hb39, h⟩ := h
  refine V_iast rfl dX12_asksOf_136 s0_155 hb39 ?_
  refine V_aload_n rfl dX12_asksOf_137 rfl rfl ?_
  refine V_getr (k0 := 40) rfl dX12_asksOf_138 s0_136 icX12 (by decide) rfl w_1229 ?_
  refine V_bipush (v := 8) rfl dX12_asksOf_141 kb_8 ?_
  refine V_aload_n rfl dX12_asksOf_143 rfl rfl ?_
  refine V_getr (k0 := 1) rfl dX12_asksOf_144 s0_136 icX12 (by decide) rfl w_1190 ?_
  refine V_bipush (v := 9) rfl dX12_asksOf_147 kb_9 ?_
  replace h := rd_e h
  obtain ⟨hb41, h⟩ := h
  refine V_iald rfl dX12_asksOf_149 s0_137 hb41 ?_
  replace h := wr_e h
  obtain ⟨hb43, h⟩ := h
  refine V_iast rfl dX12_asksOf_150 s0_155 hb43 ?_
  cases h
  exact V_vret dX12_asksOf_151 rfl (Nat.le_refl _) (Nat.le_refl _) qV_ok
def f_X12_asksOf_104 (y1 : Int32) (y2 : Int32) (M : IM) : IR := wr M 155 9 y1 y2 fun M28 => rd M28 137 40 3 fun v30 => wr M28 155 9 6 v30 fun M32 => cl (f_X12_isOnRiver M32) fun w34 M35 => if w34 = 0 then f_X12_asksOf_136 7 0 M35 else f_X12_asksOf_136 7 1 M35
set_option maxRecDepth 100000 in
set_option maxHeartbeats 4000000 in
theorem t_X12_asksOf_104 {g : IG} {a : Nat → Nat} {R : Int32 × IM} {y1 : Int32} {y2 : Int32} {M : IM} (h : f_X12_asksOf_104 y1 y2 M = some R) : V g mX12_asksOf 4 0 0 (qV S0 a R) 104 [some (.ref (a 136)), none, none] [.int y2, .int y1, .ref (a 155)] a S0 M 0 0 := by
  unfold f_X12_asksOf_104 at h
  replace h := wr_e h
  obtain ⟨hb29, h⟩ := h
  refine V_iast rfl dX12_asksOf_104 s0_155 hb29 ?_
  refine V_aload_n rfl dX12_asksOf_105 rfl rfl ?_
  refine V_getr (k0 := 40) rfl dX12_asksOf_106 s0_136 icX12 (by decide) rfl w_1229 ?_
  refine V_bipush (v := 6) rfl dX12_asksOf_109 kb_6 ?_
  refine V_aload_n rfl dX12_asksOf_111 rfl rfl ?_
  refine V_getr (k0 := 1) rfl dX12_asksOf_112 s0_136 icX12 (by decide) rfl w_1190 ?_
  refine V_iconst (v := 3) rfl dX12_asksOf_115 kc_3 ?_
  replace h := rd_e h
  obtain ⟨hb31, h⟩ := h
  refine V_iald rfl dX12_asksOf_116 s0_137 hb31 ?_
  replace h := wr_e h
  obtain ⟨hb33, h⟩ := h
  refine V_iast rfl dX12_asksOf_117 s0_155 hb33 ?_
  refine V_aload_n rfl dX12_asksOf_118 rfl rfl ?_
  refine V_getr (k0 := 40) rfl dX12_asksOf_119 s0_136 icX12 (by decide) rfl w_1229 ?_
  refine V_bipush (v := 7) rfl dX12_asksOf_122 kb_7 ?_
  refine V_aload_n rfl dX12_asksOf_124 rfl rfl ?_
  replace h := cl_e h
  obtain ⟨w34, M35, hc36, h⟩ := h
  refine V_ii (As := []) rfl dX12_asksOf_125 mf_X12_isOnRiver ⟨w_1575, w_91⟩ w_1573 (by decide) s0_136 rfl rfl rfl rfl ⟨rfl, rfl⟩ (t_X12_isOnRiver hc36) ?_
  refine V_if_eq (t := 135) rfl rfl dX12_asksOf_128 (fun hc37 => ?_) (fun hc37 => ?_)
  · replace h := ifp hc37 h
    refine V_iconst (v := 0) rfl dX12_asksOf_135 kc_0 ?_
    exact V_sub (le_s (le_n (le_n le_0))) (t_X12_asksOf_136 h)
  · replace h := ifn hc37 h
    refine V_iconst (v := 1) rfl dX12_asksOf_131 kc_1 ?_
    refine V_goto (t := 136) rfl dX12_asksOf_132 ?_
    exact V_sub (le_s (le_n (le_n le_0))) (t_X12_asksOf_136 h)
def f_X12_asksOf (p1 : Int32) (p2 : Int32) (M : IM) : IR := rd M 137 40 (10 + p1) fun v1 => wr M 155 9 0 v1 fun M3 => rd M3 137 40 (20 + p1) fun v5 => wr M3 155 9 1 v5 fun M7 => rd M7 140 10 p1 fun v9 => wr M7 155 9 2 v9 fun M11 => wr M11 155 9 3 p2 fun M13 => rd M13 137 40 0 fun v15 => wr M13 155 9 4 (v15 / 24) fun M17 => if (M17 136 36) ≤ 0 then f_X12_asksOf_104 5 0 M17 else rd M17 137 40 3 fun v20 => cl (f_X12_ofStone v20 0 M17) fun w22 M23 => rd M23 137 40 (30 + p1) fun v25 => if w22 = v25 then f_X12_asksOf_104 5 1 M23 else f_X12_asksOf_104 5 0 M23
set_option maxRecDepth 100000 in
set_option maxHeartbeats 4000000 in
theorem t_X12_asksOf {g : IG} {a : Nat → Nat} {R : Int32 × IM} {p1 : Int32} {p2 : Int32} {M : IM} (h : f_X12_asksOf p1 p2 M = some R) : Cn g mX12_asksOf 4 0 0 (qV S0 a R) [.ref (a 136), .int p1, .int p2] a S0 M := by
  refine Cn_of (L := [some (.ref (a 136)), some (.int p1), some (.int p2)]) mf_X12_asksOf (cat_r (cat_i (cat_i cat_0))) (Nat.le_of_ble_eq_true rfl) rfl ?_
  unfold f_X12_asksOf at h
  refine V_aload_n rfl dX12_asksOf_0 rfl rfl ?_
  refine V_getr (k0 := 40) rfl dX12_asksOf_1 s0_136 icX12 (by decide) rfl w_1229 ?_
  refine V_iconst (v := 0) rfl dX12_asksOf_4 kc_0 ?_
  refine V_aload_n rfl dX12_asksOf_5 rfl rfl ?_
  refine V_getr (k0 := 1) rfl dX12_asksOf_6 s0_136 icX12 (by decide) rfl w_1190 ?_
  refine V_bipush (v := 10) rfl dX12_asksOf_9 kb_10 ?_
  refine V_iload_n rfl dX12_asksOf_11 rfl rfl ?_
  refine V_iadd rfl dX12_asksOf_12 ?_
  replace h := rd_e h
  obtain ⟨hb2, h⟩ := h
  refine V_iald rfl dX12_asksOf_13 s0_137 hb2 ?_
  replace h := wr_e h
  obtain ⟨hb4, h⟩ := h
  refine V_iast rfl dX12_asksOf_14 s0_155 hb4 ?_
  refine V_aload_n rfl dX12_asksOf_15 rfl rfl ?_
  refine V_getr (k0 := 40) rfl dX12_asksOf_16 s0_136 icX12 (by decide) rfl w_1229 ?_
  refine V_iconst (v := 1) rfl dX12_asksOf_19 kc_1 ?_
  refine V_aload_n rfl dX12_asksOf_20 rfl rfl ?_
  refine V_getr (k0 := 1) rfl dX12_asksOf_21 s0_136 icX12 (by decide) rfl w_1190 ?_
  refine V_bipush (v := 20) rfl dX12_asksOf_24 kb_20 ?_
  refine V_iload_n rfl dX12_asksOf_26 rfl rfl ?_
  refine V_iadd rfl dX12_asksOf_27 ?_
  replace h := rd_e h
  obtain ⟨hb6, h⟩ := h
  refine V_iald rfl dX12_asksOf_28 s0_137 hb6 ?_
  replace h := wr_e h
  obtain ⟨hb8, h⟩ := h
  refine V_iast rfl dX12_asksOf_29 s0_155 hb8 ?_
  refine V_aload_n rfl dX12_asksOf_30 rfl rfl ?_
  refine V_getr (k0 := 40) rfl dX12_asksOf_31 s0_136 icX12 (by decide) rfl w_1229 ?_
  refine V_iconst (v := 2) rfl dX12_asksOf_34 kc_2 ?_
  refine V_aload_n rfl dX12_asksOf_35 rfl rfl ?_
  refine V_getr (k0 := 7) rfl dX12_asksOf_36 s0_136 icX12 (by decide) rfl w_1196 ?_
  refine V_iload_n rfl dX12_asksOf_39 rfl rfl ?_
  replace h := rd_e h
  obtain ⟨hb10, h⟩ := h
  refine V_iald rfl dX12_asksOf_40 s0_140 hb10 ?_
  replace h := wr_e h
  obtain ⟨hb12, h⟩ := h
  refine V_iast rfl dX12_asksOf_41 s0_155 hb12 ?_
  refine V_aload_n rfl dX12_asksOf_42 rfl rfl ?_
  refine V_getr (k0 := 40) rfl dX12_asksOf_43 s0_136 icX12 (by decide) rfl w_1229 ?_
  refine V_iconst (v := 3) rfl dX12_asksOf_46 kc_3 ?_
  refine V_iload_n rfl dX12_asksOf_47 rfl rfl ?_
  replace h := wr_e h
  obtain ⟨hb14, h⟩ := h
  refine V_iast rfl dX12_asksOf_48 s0_155 hb14 ?_
  refine V_aload_n rfl dX12_asksOf_49 rfl rfl ?_
  refine V_getr (k0 := 40) rfl dX12_asksOf_50 s0_136 icX12 (by decide) rfl w_1229 ?_
  refine V_iconst (v := 4) rfl dX12_asksOf_53 kc_4 ?_
  refine V_aload_n rfl dX12_asksOf_54 rfl rfl ?_
  refine V_getr (k0 := 1) rfl dX12_asksOf_55 s0_136 icX12 (by decide) rfl w_1190 ?_
  refine V_iconst (v := 0) rfl dX12_asksOf_58 kc_0 ?_
  replace h := rd_e h
  obtain ⟨hb16, h⟩ := h
  refine V_iald rfl dX12_asksOf_59 s0_137 hb16 ?_
  refine V_bipush (v := 24) rfl dX12_asksOf_60 kb_24 ?_
  refine V_idiv rfl dX12_asksOf_62 (by decide) ?_
  replace h := wr_e h
  obtain ⟨hb18, h⟩ := h
  refine V_iast rfl dX12_asksOf_63 s0_155 hb18 ?_
  refine V_aload_n rfl dX12_asksOf_64 rfl rfl ?_
  refine V_getr (k0 := 40) rfl dX12_asksOf_65 s0_136 icX12 (by decide) rfl w_1229 ?_
  refine V_iconst (v := 5) rfl dX12_asksOf_68 kc_5 ?_
  refine V_aload_n rfl dX12_asksOf_69 rfl rfl ?_
  refine V_geti (k0 := 36) rfl dX12_asksOf_70 s0_136 icX12 (by decide) rfl w_1225 ?_
  refine V_if_le (t := 103) rfl rfl dX12_asksOf_73 (fun hc19 => ?_) (fun hc19 => ?_)
  · replace h := ifp hc19 h
    refine V_iconst (v := 0) rfl dX12_asksOf_103 kc_0 ?_
    exact V_sub (le_s (le_n (le_n le_0))) (t_X12_asksOf_104 h)
  · replace h := ifn hc19 h
    refine V_aload_n rfl dX12_asksOf_76 rfl rfl ?_
    refine V_aload_n rfl dX12_asksOf_77 rfl rfl ?_
    refine V_getr (k0 := 1) rfl dX12_asksOf_78 s0_136 icX12 (by decide) rfl w_1190 ?_
    refine V_iconst (v := 3) rfl dX12_asksOf_81 kc_3 ?_
    replace h := rd_e h
    obtain ⟨hb21, h⟩ := h
    refine V_iald rfl dX12_asksOf_82 s0_137 hb21 ?_
    refine V_iconst (v := 0) rfl dX12_asksOf_83 kc_0 ?_
    replace h := cl_e h
    obtain ⟨w22, M23, hc24, h⟩ := h
    refine V_ii (As := [.int _, .int _]) rfl dX12_asksOf_84 mf_X12_ofStone ⟨w_1571, w_90⟩ w_1569 (by decide) s0_136 rfl rfl rfl rfl ⟨rfl, rfl⟩ (t_X12_ofStone hc24) ?_
    refine V_aload_n rfl dX12_asksOf_87 rfl rfl ?_
    refine V_getr (k0 := 1) rfl dX12_asksOf_88 s0_136 icX12 (by decide) rfl w_1190 ?_
    refine V_bipush (v := 30) rfl dX12_asksOf_91 kb_30 ?_
    refine V_iload_n rfl dX12_asksOf_93 rfl rfl ?_
    refine V_iadd rfl dX12_asksOf_94 ?_
    replace h := rd_e h
    obtain ⟨hb26, h⟩ := h
    refine V_iald rfl dX12_asksOf_95 s0_137 hb26 ?_
    refine V_icmp_ne (t := 103) rfl rfl dX12_asksOf_96 (fun hc27 => ?_) (fun hc27 => ?_)
    · replace h := ifn hc27 h
      refine V_iconst (v := 0) rfl dX12_asksOf_103 kc_0 ?_
      exact V_sub (le_s (le_n (le_n le_0))) (t_X12_asksOf_104 h)
    · replace h := ifp hc27 h
      refine V_iconst (v := 1) rfl dX12_asksOf_99 kc_1 ?_
      refine V_goto (t := 104) rfl dX12_asksOf_100 ?_
      exact V_sub (le_s (le_n (le_n le_0))) (t_X12_asksOf_104 h)
-- X12_clockNow: NeverHaltedModel.clockNow()I
def f_X12_clockNow (M : IM) : IR := rd M 137 40 0 fun v1 => some ((v1 - v1 / 24 * 24), M)
set_option maxRecDepth 100000 in
set_option maxHeartbeats 4000000 in
theorem t_X12_clockNow {g : IG} {a : Nat → Nat} {R : Int32 × IM} {M : IM} (h : f_X12_clockNow M = some R) : Cn g mX12_clockNow 1 0 0 (qI S0 a R) [.ref (a 136)] a S0 M := by
  refine Cn_of (L := [some (.ref (a 136))]) mf_X12_clockNow (cat_r cat_0) (Nat.le_of_ble_eq_true rfl) rfl ?_
  unfold f_X12_clockNow at h
  refine V_aload_n rfl dX12_clockNow_0 rfl rfl ?_
  refine V_getr (k0 := 1) rfl dX12_clockNow_1 s0_136 icX12 (by decide) rfl w_1190 ?_
  refine V_iconst (v := 0) rfl dX12_clockNow_4 kc_0 ?_
  replace h := rd_e h
  obtain ⟨hb2, h⟩ := h
  refine V_iald rfl dX12_clockNow_5 s0_137 hb2 ?_
  refine V_bipush (v := 24) rfl dX12_clockNow_6 kb_24 ?_
  refine V_irem rfl dX12_clockNow_8 (by decide) ?_
  cases h
  exact V_iret dX12_clockNow_9 rfl rfl (Nat.le_refl _) (Nat.le_refl _) qI_ok
-- X12_hasShift: NeverHaltedModel.hasShift(II)Z
def f_X12_hasShift (p1 : Int32) (p2 : Int32) (M : IM) : IR := rd M 154 96 ((3 * p1) + 1) fun v1 => rd M 154 96 ((3 * p1) + 2) fun v3 => if v3 ≤ (((p2 - v1) + 24) - ((p2 - v1) + 24) / 24 * 24) then some (0, M) else some (1, M)
set_option maxRecDepth 100000 in
set_option maxHeartbeats 4000000 in
theorem t_X12_hasShift {g : IG} {a : Nat → Nat} {R : Int32 × IM} {p1 : Int32} {p2 : Int32} {M : IM} (h : f_X12_hasShift p1 p2 M = some R) : Cn g mX12_hasShift 1 0 0 (qI S0 a R) [.ref (a 136), .int p1, .int p2] a S0 M := by
  refine Cn_of (L := [some (.ref (a 136)), some (.int p1), some (.int p2)]) mf_X12_hasShift (cat_r (cat_i (cat_i cat_0))) (Nat.le_of_ble_eq_true rfl) rfl ?_
  unfold f_X12_hasShift at h
  refine V_iload_n rfl dX12_hasShift_0 rfl rfl ?_
  refine V_aload_n rfl dX12_hasShift_1 rfl rfl ?_
  refine V_getr (k0 := 39) rfl dX12_hasShift_2 s0_136 icX12 (by decide) rfl w_1228 ?_
  refine V_iconst (v := 3) rfl dX12_hasShift_5 kc_3 ?_
  refine V_iload_n rfl dX12_hasShift_6 rfl rfl ?_
  refine V_imul rfl dX12_hasShift_7 ?_
  refine V_iconst (v := 1) rfl dX12_hasShift_8 kc_1 ?_
  refine V_iadd rfl dX12_hasShift_9 ?_
  replace h := rd_e h
  obtain ⟨hb2, h⟩ := h
  refine V_iald rfl dX12_hasShift_10 s0_154 hb2 ?_
  refine V_isub rfl dX12_hasShift_11 ?_
  refine V_bipush (v := 24) rfl dX12_hasShift_12 kb_24 ?_
  refine V_iadd rfl dX12_hasShift_14 ?_
  refine V_bipush (v := 24) rfl dX12_hasShift_15 kb_24 ?_
  refine V_irem rfl dX12_hasShift_17 (by decide) ?_
  refine V_aload_n rfl dX12_hasShift_18 rfl rfl ?_
  refine V_getr (k0 := 39) rfl dX12_hasShift_19 s0_136 icX12 (by decide) rfl w_1228 ?_
  refine V_iconst (v := 3) rfl dX12_hasShift_22 kc_3 ?_
  refine V_iload_n rfl dX12_hasShift_23 rfl rfl ?_
  refine V_imul rfl dX12_hasShift_24 ?_
  refine V_iconst (v := 2) rfl dX12_hasShift_25 kc_2 ?_
  refine V_iadd rfl dX12_hasShift_26 ?_
  replace h := rd_e h
  obtain ⟨hb4, h⟩ := h
  refine V_iald rfl dX12_hasShift_27 s0_154 hb4 ?_
  refine V_icmp_ge (t := 35) rfl rfl dX12_hasShift_28 (fun hc5 => ?_) (fun hc5 => ?_)
  · replace h := ifp hc5 h
    refine V_iconst (v := 0) rfl dX12_hasShift_35 kc_0 ?_
    cases h
    exact V_iret dX12_hasShift_36 rfl nz_0 (Nat.le_refl _) (Nat.le_refl _) qI_ok
  · replace h := ifn hc5 h
    refine V_iconst (v := 1) rfl dX12_hasShift_31 kc_1 ?_
    refine V_goto (t := 36) rfl dX12_hasShift_32 ?_
    cases h
    exact V_iret dX12_hasShift_36 rfl nz_1 (Nat.le_refl _) (Nat.le_refl _) qI_ok
-- X12_shiftsAt: NeverHaltedModel.shiftsAt(I)I
def f_X12_shiftsAt_4_b (r4 : Int32 → Int32 → Int32 → IM → IR) (x1 : Int32) (x2 : Int32) (x3 : Int32) (M : IM) : IR := if (M 136 38) ≤ x3 then some (x2, M) else cl (f_X12_hasShift x3 x1 M) fun w2 M3 => if w2 = 0 then lt (x3 + 1) fun v6 => r4 x1 x2 v6 M3 else rd M3 154 96 (3 * x3) fun v7 => lt (x2 ||| ((1 : Int32) <<< (v7 &&& 31))) fun v9 => lt (x3 + 1) fun v10 => r4 x1 v9 v10 M3
def f_X12_shiftsAt_4 (n : Nat) : Int32 → Int32 → Int32 → IM → IR := itr (fun _ _ _ _ => none) (f_X12_shiftsAt_4_b) n
set_option maxRecDepth 100000 in
set_option maxHeartbeats 4000000 in
theorem t_X12_shiftsAt_4 {g : IG} {a : Nat → Nat} {R : Int32 × IM} (n : Nat) : ∀ (x1 : Int32) (x2 : Int32) (x3 : Int32) (M : IM), f_X12_shiftsAt_4 n x1 x2 x3 M = some R → V g mX12_shiftsAt 2 0 0 (qI S0 a R) 4 [some (.ref (a 136)), some (.int x1), some (.int x2), some (.int x3)] [] a S0 M 0 0 := by
  induction n with
  | zero => intro x1 x2 x3 M h; exact absurd h (fun z => by cases z)
  | succ n hr4 =>
    intro x1 x2 x3 M h
    replace h : f_X12_shiftsAt_4_b (f_X12_shiftsAt_4 n) x1 x2 x3 M = some R := h
    unfold f_X12_shiftsAt_4_b at h
    refine V_iload_n rfl dX12_shiftsAt_4 rfl rfl ?_
    refine V_aload_n rfl dX12_shiftsAt_5 rfl rfl ?_
    refine V_geti (k0 := 38) rfl dX12_shiftsAt_6 s0_136 icX12 (by decide) rfl w_1227 ?_
    refine V_icmp_ge (t := 40) rfl rfl dX12_shiftsAt_9 (fun hc1 => ?_) (fun hc1 => ?_)
    · replace h := ifp hc1 h
      refine V_iload_n rfl dX12_shiftsAt_40 rfl rfl ?_
      cases h
      exact V_iret dX12_shiftsAt_41 rfl rfl (Nat.le_refl _) (Nat.le_refl _) qI_ok
    · replace h := ifn hc1 h
      refine V_aload_n rfl dX12_shiftsAt_12 rfl rfl ?_
      refine V_iload_n rfl dX12_shiftsAt_13 rfl rfl ?_
      refine V_iload_n rfl dX12_shiftsAt_14 rfl rfl ?_
      replace h := cl_e h
      obtain ⟨w2, M3, hc4, h⟩ := h
      refine V_ii (As := [.int _, .int _]) rfl dX12_shiftsAt_15 mf_X12_hasShift ⟨w_1559, w_87⟩ w_1557 (by decide) s0_136 rfl rfl rfl rfl ⟨rfl, rfl⟩ (t_X12_hasShift hc4) ?_
      refine V_if_eq (t := 34) rfl rfl dX12_shiftsAt_18 (fun hc5 => ?_) (fun hc5 => ?_)
      · replace h := ifp hc5 h
        replace h := lt_e h
        refine V_inc (L' := [_, _, _, _]) rfl dX12_shiftsAt_34 rfl kc_1 (by decide) rfl ?_
        refine V_goto (t := 4) rfl dX12_shiftsAt_37 ?_
        exact V_sub (le_s (le_s (le_s (le_s le_0)))) (hr4 _ _ _ _ h)
      · replace h := ifn hc5 h
        refine V_iload_n rfl dX12_shiftsAt_21 rfl rfl ?_
        refine V_iconst (v := 1) rfl dX12_shiftsAt_22 kc_1 ?_
        refine V_aload_n rfl dX12_shiftsAt_23 rfl rfl ?_
        refine V_getr (k0 := 39) rfl dX12_shiftsAt_24 s0_136 icX12 (by decide) rfl w_1228 ?_
        refine V_iconst (v := 3) rfl dX12_shiftsAt_27 kc_3 ?_
        refine V_iload_n rfl dX12_shiftsAt_28 rfl rfl ?_
        refine V_imul rfl dX12_shiftsAt_29 ?_
        replace h := rd_e h
        obtain ⟨hb8, h⟩ := h
        refine V_iald rfl dX12_shiftsAt_30 s0_154 hb8 ?_
        refine V_ishl rfl dX12_shiftsAt_31 ?_
        refine V_ior rfl dX12_shiftsAt_32 ?_
        replace h := lt_e h
        refine V_istore_n (L' := [_, _, _, _]) rfl rfl dX12_shiftsAt_33 (by decide) rfl ?_
        replace h := lt_e h
        refine V_inc (L' := [_, _, _, _]) rfl dX12_shiftsAt_34 rfl kc_1 (by decide) rfl ?_
        refine V_goto (t := 4) rfl dX12_shiftsAt_37 ?_
        exact V_sub (le_s (le_s (le_s (le_s le_0)))) (hr4 _ _ _ _ h)
def f_X12_shiftsAt (p1 : Int32) (M : IM) : IR := f_X12_shiftsAt_4 BG p1 0 0 M
set_option maxRecDepth 100000 in
set_option maxHeartbeats 4000000 in
theorem t_X12_shiftsAt {g : IG} {a : Nat → Nat} {R : Int32 × IM} {p1 : Int32} {M : IM} (h : f_X12_shiftsAt p1 M = some R) : Cn g mX12_shiftsAt 2 0 0 (qI S0 a R) [.ref (a 136), .int p1] a S0 M := by
  refine Cn_of (L := [some (.ref (a 136)), some (.int p1), none, none]) mf_X12_shiftsAt (cat_r (cat_i cat_0)) (Nat.le_of_ble_eq_true rfl) rfl ?_
  unfold f_X12_shiftsAt at h
  refine V_iconst (v := 0) rfl dX12_shiftsAt_0 kc_0 ?_
  refine V_istore_n (L' := [_, _, _, _]) rfl rfl dX12_shiftsAt_1 (by decide) rfl ?_
  refine V_iconst (v := 0) rfl dX12_shiftsAt_2 kc_0 ?_
  refine V_istore_n (L' := [_, _, _, _]) rfl rfl dX12_shiftsAt_3 (by decide) rfl ?_
  exact V_sub (le_s (le_s (le_s (le_s le_0)))) (t_X12_shiftsAt_4 BG _ _ _ _ h)
-- X12_doesGo: NeverHaltedModel.doesGo(I)Z
def f_X12_doesGo (p1 : Int32) (M : IM) : IR := cl (f_X12_clockNow M) fun w1 M2 => cl (f_X12_asksOf p1 w1 M2) fun _ M5 => cl (f_X12_lineOf 0 (-1) M5) fun w7 M8 => if w7 = (-1) then some (1, M8) else rd M8 146 48 w7 fun v11 => if v11 = 0 then some (1, M8) else some (0, M8)
set_option maxRecDepth 100000 in
set_option maxHeartbeats 4000000 in
theorem t_X12_doesGo {g : IG} {a : Nat → Nat} {R : Int32 × IM} {p1 : Int32} {M : IM} (h : f_X12_doesGo p1 M = some R) : Cn g mX12_doesGo 5 0 0 (qI S0 a R) [.ref (a 136), .int p1] a S0 M := by
  refine Cn_of (L := [some (.ref (a 136)), some (.int p1), none]) mf_X12_doesGo (cat_r (cat_i cat_0)) (Nat.le_of_ble_eq_true rfl) rfl ?_
  unfold f_X12_doesGo at h
  refine V_aload_n rfl dX12_doesGo_0 rfl rfl ?_
  refine V_iload_n rfl dX12_doesGo_1 rfl rfl ?_
  refine V_aload_n rfl dX12_doesGo_2 rfl rfl ?_
  replace h := cl_e h
  obtain ⟨w1, M2, hc3, h⟩ := h
  refine V_ii (As := []) rfl dX12_doesGo_3 mf_X12_clockNow ⟨w_1551, w_85⟩ w_1549 (by decide) s0_136 rfl rfl rfl rfl ⟨rfl, rfl⟩ (t_X12_clockNow hc3) ?_
  replace h := cl_e h
  obtain ⟨w4, M5, hc6, h⟩ := h
  refine V_iv (As := [.int _, .int _]) rfl dX12_doesGo_6 mf_X12_asksOf ⟨w_1567, w_89⟩ w_1565 (by decide) s0_136 rfl rfl rfl rfl ⟨rfl, rfl⟩ (t_X12_asksOf hc6) ?_
  refine V_aload_n rfl dX12_doesGo_9 rfl rfl ?_
  refine V_iconst (v := 0) rfl dX12_doesGo_10 kc_0 ?_
  refine V_iconst (v := (-1)) rfl dX12_doesGo_11 kc_m1 ?_
  replace h := cl_e h
  obtain ⟨w7, M8, hc9, h⟩ := h
  refine V_ii (As := [.int _, .int _]) rfl dX12_doesGo_12 mf_X12_lineOf ⟨w_1583, w_93⟩ w_1581 (by decide) s0_136 rfl rfl rfl rfl ⟨rfl, rfl⟩ (t_X12_lineOf hc9) ?_
  refine V_istore_n (L' := [_, _, _]) rfl rfl dX12_doesGo_15 (by decide) rfl ?_
  refine V_iload_n rfl dX12_doesGo_16 rfl rfl ?_
  refine V_iconst (v := (-1)) rfl dX12_doesGo_17 kc_m1 ?_
  refine V_icmp_eq (t := 30) rfl rfl dX12_doesGo_18 (fun hc10 => ?_) (fun hc10 => ?_)
  · replace h := ifp hc10 h
    refine V_iconst (v := 1) rfl dX12_doesGo_30 kc_1 ?_
    refine V_goto (t := 35) rfl dX12_doesGo_31 ?_
    cases h
    exact V_iret dX12_doesGo_35 rfl nz_1 (Nat.le_refl _) (Nat.le_refl _) qI_ok
  · replace h := ifn hc10 h
    refine V_aload_n rfl dX12_doesGo_21 rfl rfl ?_
    refine V_getr (k0 := 21) rfl dX12_doesGo_22 s0_136 icX12 (by decide) rfl w_1210 ?_
    refine V_iload_n rfl dX12_doesGo_25 rfl rfl ?_
    replace h := rd_e h
    obtain ⟨hb12, h⟩ := h
    refine V_iald rfl dX12_doesGo_26 s0_146 hb12 ?_
    refine V_if_ne (t := 34) rfl rfl dX12_doesGo_27 (fun hc13 => ?_) (fun hc13 => ?_)
    · replace h := ifn hc13 h
      refine V_iconst (v := 0) rfl dX12_doesGo_34 kc_0 ?_
      cases h
      exact V_iret dX12_doesGo_35 rfl nz_0 (Nat.le_refl _) (Nat.le_refl _) qI_ok
    · replace h := ifp hc13 h
      refine V_iconst (v := 1) rfl dX12_doesGo_30 kc_1 ?_
      refine V_goto (t := 35) rfl dX12_doesGo_31 ?_
      cases h
      exact V_iret dX12_doesGo_35 rfl nz_1 (Nat.le_refl _) (Nat.le_refl _) qI_ok
-- X12_goers: NeverHaltedModel.goers()I
def f_X12_goers_4_b (r4 : Int32 → Int32 → IM → IR) (x1 : Int32) (x2 : Int32) (M : IM) : IR := if (M 136 6) ≤ x2 then some (x1, M) else cl (f_X12_clockNow M) fun w2 M3 => cl (f_X12_shiftsAt w2 M3) fun w5 M6 => if ((w5 >>> (x2 &&& 31)) &&& 1) = 1 then cl (f_X12_doesGo x2 M6) fun w10 M11 => if w10 = 0 then lt (x2 + 1) fun v14 => r4 x1 v14 M11 else lt (x1 ||| ((1 : Int32) <<< (x2 &&& 31))) fun v15 => lt (x2 + 1) fun v16 => r4 v15 v16 M11 else lt (x2 + 1) fun v9 => r4 x1 v9 M6
def f_X12_goers_4 (n : Nat) : Int32 → Int32 → IM → IR := itr (fun _ _ _ => none) (f_X12_goers_4_b) n
set_option maxRecDepth 100000 in
set_option maxHeartbeats 4000000 in
theorem t_X12_goers_4 {g : IG} {a : Nat → Nat} {R : Int32 × IM} (n : Nat) : ∀ (x1 : Int32) (x2 : Int32) (M : IM), f_X12_goers_4 n x1 x2 M = some R → V g mX12_goers 6 0 0 (qI S0 a R) 4 [some (.ref (a 136)), some (.int x1), some (.int x2)] [] a S0 M 0 0 := by
  induction n with
  | zero => intro x1 x2 M h; exact absurd h (fun z => by cases z)
  | succ n hr4 =>
    intro x1 x2 M h
    replace h : f_X12_goers_4_b (f_X12_goers_4 n) x1 x2 M = some R := h
    unfold f_X12_goers_4_b at h
    refine V_iload_n rfl dX12_goers_4 rfl rfl ?_
    refine V_aload_n rfl dX12_goers_5 rfl rfl ?_
    refine V_geti (k0 := 6) rfl dX12_goers_6 s0_136 icX12 (by decide) rfl w_1195 ?_
    refine V_icmp_ge (t := 48) rfl rfl dX12_goers_9 (fun hc1 => ?_) (fun hc1 => ?_)
    · replace h := ifp hc1 h
      refine V_iload_n rfl dX12_goers_48 rfl rfl ?_
      cases h
      exact V_iret dX12_goers_49 rfl rfl (Nat.le_refl _) (Nat.le_refl _) qI_ok
    · replace h := ifn hc1 h
      refine V_aload_n rfl dX12_goers_12 rfl rfl ?_
      refine V_aload_n rfl dX12_goers_13 rfl rfl ?_
      replace h := cl_e h
      obtain ⟨w2, M3, hc4, h⟩ := h
      refine V_ii (As := []) rfl dX12_goers_14 mf_X12_clockNow ⟨w_1551, w_85⟩ w_1549 (by decide) s0_136 rfl rfl rfl rfl ⟨rfl, rfl⟩ (t_X12_clockNow hc4) ?_
      replace h := cl_e h
      obtain ⟨w5, M6, hc7, h⟩ := h
      refine V_ii (As := [.int _]) rfl dX12_goers_17 mf_X12_shiftsAt ⟨w_1555, w_86⟩ w_1553 (by decide) s0_136 rfl rfl rfl rfl ⟨rfl, rfl⟩ (t_X12_shiftsAt hc7) ?_
      refine V_iload_n rfl dX12_goers_20 rfl rfl ?_
      refine V_ishr rfl dX12_goers_21 ?_
      refine V_iconst (v := 1) rfl dX12_goers_22 kc_1 ?_
      refine V_iand rfl dX12_goers_23 ?_
      refine V_iconst (v := 1) rfl dX12_goers_24 kc_1 ?_
      refine V_icmp_ne (t := 42) rfl rfl dX12_goers_25 (fun hc8 => ?_) (fun hc8 => ?_)
      · replace h := ifn hc8 h
        replace h := lt_e h
        refine V_inc (L' := [_, _, _]) rfl dX12_goers_42 rfl kc_1 (by decide) rfl ?_
        refine V_goto (t := 4) rfl dX12_goers_45 ?_
        exact V_sub (le_s (le_s (le_s le_0))) (hr4 _ _ _ h)
      · replace h := ifp hc8 h
        refine V_aload_n rfl dX12_goers_28 rfl rfl ?_
        refine V_iload_n rfl dX12_goers_29 rfl rfl ?_
        replace h := cl_e h
        obtain ⟨w10, M11, hc12, h⟩ := h
        refine V_ii (As := [.int _]) rfl dX12_goers_30 mf_X12_doesGo ⟨w_1563, w_88⟩ w_1561 (by decide) s0_136 rfl rfl rfl rfl ⟨rfl, rfl⟩ (t_X12_doesGo hc12) ?_
        refine V_if_eq (t := 42) rfl rfl dX12_goers_33 (fun hc13 => ?_) (fun hc13 => ?_)
        · replace h := ifp hc13 h
          replace h := lt_e h
          refine V_inc (L' := [_, _, _]) rfl dX12_goers_42 rfl kc_1 (by decide) rfl ?_
          refine V_goto (t := 4) rfl dX12_goers_45 ?_
          exact V_sub (le_s (le_s (le_s le_0))) (hr4 _ _ _ h)
        · replace h := ifn hc13 h
          refine V_iload_n rfl dX12_goers_36 rfl rfl ?_
          refine V_iconst (v := 1) rfl dX12_goers_37 kc_1 ?_
          refine V_iload_n rfl dX12_goers_38 rfl rfl ?_
          refine V_ishl rfl dX12_goers_39 ?_
          refine V_ior rfl dX12_goers_40 ?_
          replace h := lt_e h
          refine V_istore_n (L' := [_, _, _]) rfl rfl dX12_goers_41 (by decide) rfl ?_
          replace h := lt_e h
          refine V_inc (L' := [_, _, _]) rfl dX12_goers_42 rfl kc_1 (by decide) rfl ?_
          refine V_goto (t := 4) rfl dX12_goers_45 ?_
          exact V_sub (le_s (le_s (le_s le_0))) (hr4 _ _ _ h)
def f_X12_goers (M : IM) : IR := f_X12_goers_4 BG 0 0 M
set_option maxRecDepth 100000 in
set_option maxHeartbeats 4000000 in
theorem t_X12_goers {g : IG} {a : Nat → Nat} {R : Int32 × IM} {M : IM} (h : f_X12_goers M = some R) : Cn g mX12_goers 6 0 0 (qI S0 a R) [.ref (a 136)] a S0 M := by
  refine Cn_of (L := [some (.ref (a 136)), none, none]) mf_X12_goers (cat_r cat_0) (Nat.le_of_ble_eq_true rfl) rfl ?_
  unfold f_X12_goers at h
  refine V_iconst (v := 0) rfl dX12_goers_0 kc_0 ?_
  refine V_istore_n (L' := [_, _, _]) rfl rfl dX12_goers_1 (by decide) rfl ?_
  refine V_iconst (v := 0) rfl dX12_goers_2 kc_0 ?_
  refine V_istore_n (L' := [_, _, _]) rfl rfl dX12_goers_3 (by decide) rfl ?_
  exact V_sub (le_s (le_s (le_s le_0))) (t_X12_goers_4 BG _ _ _ h)
-- X12_tells: NeverHaltedModel.tells(IIII)I
def f_X12_tells (p1 : Int32) (p2 : Int32) (p3 : Int32) (p4 : Int32) (M : IM) : IR := cl (f_X12_asksOf p1 p2 M) fun _ M2 => cl (f_X12_lineOf 1 p3 M2) fun w4 M5 => if w4 = (-1) then cl (f_X12_held p4 0 99 M5) fun w18 M19 => some (w18, M19) else rd M5 147 48 w4 fun v8 => rd M5 148 48 w4 fun v10 => cl (f_X12_runs 1 v8 v10 M5) fun w12 M13 => cl (f_X12_held w12 0 99 M13) fun w15 M16 => some (w15, M16)
set_option maxRecDepth 100000 in
set_option maxHeartbeats 4000000 in
theorem t_X12_tells {g : IG} {a : Nat → Nat} {R : Int32 × IM} {p1 : Int32} {p2 : Int32} {p3 : Int32} {p4 : Int32} {M : IM} (h : f_X12_tells p1 p2 p3 p4 M = some R) : Cn g mX12_tells 5 0 0 (qI S0 a R) [.ref (a 136), .int p1, .int p2, .int p3, .int p4] a S0 M := by
  refine Cn_of (L := [some (.ref (a 136)), some (.int p1), some (.int p2), some (.int p3), some (.int p4), none]) mf_X12_tells (cat_r (cat_i (cat_i (cat_i (cat_i cat_0))))) (Nat.le_of_ble_eq_true rfl) rfl ?_
  unfold f_X12_tells at h
  refine V_aload_n rfl dX12_tells_0 rfl rfl ?_
  refine V_iload_n rfl dX12_tells_1 rfl rfl ?_
  refine V_iload_n rfl dX12_tells_2 rfl rfl ?_
  replace h := cl_e h
  obtain ⟨w1, M2, hc3, h⟩ := h
  refine V_iv (As := [.int _, .int _]) rfl dX12_tells_3 mf_X12_asksOf ⟨w_1567, w_89⟩ w_1565 (by decide) s0_136 rfl rfl rfl rfl ⟨rfl, rfl⟩ (t_X12_asksOf hc3) ?_
  refine V_aload_n rfl dX12_tells_6 rfl rfl ?_
  refine V_iconst (v := 1) rfl dX12_tells_7 kc_1 ?_
  refine V_iload_n rfl dX12_tells_8 rfl rfl ?_
  replace h := cl_e h
  obtain ⟨w4, M5, hc6, h⟩ := h
  refine V_ii (As := [.int _, .int _]) rfl dX12_tells_9 mf_X12_lineOf ⟨w_1583, w_93⟩ w_1581 (by decide) s0_136 rfl rfl rfl rfl ⟨rfl, rfl⟩ (t_X12_lineOf hc6) ?_
  refine V_istore (L' := [_, _, _, _, _, _]) rfl dX12_tells_12 (by decide) rfl ?_
  refine V_aload_n rfl dX12_tells_14 rfl rfl ?_
  refine V_iload rfl dX12_tells_15 rfl ?_
  refine V_iconst (v := (-1)) rfl dX12_tells_17 kc_m1 ?_
  refine V_icmp_ne (t := 26) rfl rfl dX12_tells_18 (fun hc7 => ?_) (fun hc7 => ?_)
  · replace h := ifn hc7 h
    refine V_aload_n rfl dX12_tells_26 rfl rfl ?_
    refine V_iconst (v := 1) rfl dX12_tells_27 kc_1 ?_
    refine V_aload_n rfl dX12_tells_28 rfl rfl ?_
    refine V_getr (k0 := 22) rfl dX12_tells_29 s0_136 icX12 (by decide) rfl w_1211 ?_
    refine V_iload rfl dX12_tells_32 rfl ?_
    replace h := rd_e h
    obtain ⟨hb9, h⟩ := h
    refine V_iald rfl dX12_tells_34 s0_147 hb9 ?_
    refine V_aload_n rfl dX12_tells_35 rfl rfl ?_
    refine V_getr (k0 := 23) rfl dX12_tells_36 s0_136 icX12 (by decide) rfl w_1212 ?_
    refine V_iload rfl dX12_tells_39 rfl ?_
    replace h := rd_e h
    obtain ⟨hb11, h⟩ := h
    refine V_iald rfl dX12_tells_41 s0_148 hb11 ?_
    replace h := cl_e h
    obtain ⟨w12, M13, hc14, h⟩ := h
    refine V_ii (As := [.int _, .int _, .int _]) rfl dX12_tells_42 mf_X12_runs ⟨w_1587, w_94⟩ w_1585 (by decide) s0_136 rfl rfl rfl rfl ⟨rfl, rfl⟩ (t_X12_runs hc14) ?_
    refine V_iconst (v := 0) rfl dX12_tells_45 kc_0 ?_
    refine V_bipush (v := 99) rfl dX12_tells_46 kb_99 ?_
    replace h := cl_e h
    obtain ⟨w15, M16, hc17, h⟩ := h
    refine V_ii (As := [.int _, .int _, .int _]) rfl dX12_tells_48 mf_X12_held ⟨w_1625, w_103⟩ w_1623 (by decide) s0_136 rfl rfl rfl rfl ⟨rfl, rfl⟩ (t_X12_held hc17) ?_
    cases h
    exact V_iret dX12_tells_51 rfl rfl (Nat.le_refl _) (Nat.le_refl _) qI_ok
  · replace h := ifp hc7 h
    refine V_iload rfl dX12_tells_21 rfl ?_
    refine V_goto (t := 45) rfl dX12_tells_23 ?_
    refine V_iconst (v := 0) rfl dX12_tells_45 kc_0 ?_
    refine V_bipush (v := 99) rfl dX12_tells_46 kb_99 ?_
    replace h := cl_e h
    obtain ⟨w18, M19, hc20, h⟩ := h
    refine V_ii (As := [.int _, .int _, .int _]) rfl dX12_tells_48 mf_X12_held ⟨w_1625, w_103⟩ w_1623 (by decide) s0_136 rfl rfl rfl rfl ⟨rfl, rfl⟩ (t_X12_held hc20) ?_
    cases h
    exact V_iret dX12_tells_51 rfl rfl (Nat.le_refl _) (Nat.le_refl _) qI_ok
-- X12_tireOf: NeverHaltedModel.tireOf(II)I
def f_X12_tireOf (p1 : Int32) (p2 : Int32) (M : IM) : IR := cl (f_X12_tells p1 p2 2 10 M) fun w1 M2 => some (w1, M2)
set_option maxRecDepth 100000 in
set_option maxHeartbeats 4000000 in
theorem t_X12_tireOf {g : IG} {a : Nat → Nat} {R : Int32 × IM} {p1 : Int32} {p2 : Int32} {M : IM} (h : f_X12_tireOf p1 p2 M = some R) : Cn g mX12_tireOf 6 0 0 (qI S0 a R) [.ref (a 136), .int p1, .int p2] a S0 M := by
  refine Cn_of (L := [some (.ref (a 136)), some (.int p1), some (.int p2)]) mf_X12_tireOf (cat_r (cat_i (cat_i cat_0))) (Nat.le_of_ble_eq_true rfl) rfl ?_
  unfold f_X12_tireOf at h
  refine V_aload_n rfl dX12_tireOf_0 rfl rfl ?_
  refine V_iload_n rfl dX12_tireOf_1 rfl rfl ?_
  refine V_iload_n rfl dX12_tireOf_2 rfl rfl ?_
  refine V_iconst (v := 2) rfl dX12_tireOf_3 kc_2 ?_
  refine V_bipush (v := 10) rfl dX12_tireOf_4 kb_10 ?_
  replace h := cl_e h
  obtain ⟨w1, M2, hc3, h⟩ := h
  refine V_ii (As := [.int _, .int _, .int _, .int _]) rfl dX12_tireOf_6 mf_X12_tells ⟨w_1621, w_102⟩ w_1619 (by decide) s0_136 rfl rfl rfl rfl ⟨rfl, rfl⟩ (t_X12_tells hc3) ?_
  cases h
  exact V_iret dX12_tireOf_9 rfl rfl (Nat.le_refl _) (Nat.le_refl _) qI_ok
-- X12_easeOf: NeverHaltedModel.easeOf(I)I
def f_X12_easeOf (p1 : Int32) (M : IM) : IR := cl (f_X12_clockNow M) fun w1 M2 => cl (f_X12_tells p1 w1 3 5 M2) fun w4 M5 => some (w4, M5)
set_option maxRecDepth 100000 in
set_option maxHeartbeats 4000000 in
theorem t_X12_easeOf {g : IG} {a : Nat → Nat} {R : Int32 × IM} {p1 : Int32} {M : IM} (h : f_X12_easeOf p1 M = some R) : Cn g mX12_easeOf 6 0 0 (qI S0 a R) [.ref (a 136), .int p1] a S0 M := by
  refine Cn_of (L := [some (.ref (a 136)), some (.int p1)]) mf_X12_easeOf (cat_r (cat_i cat_0)) (Nat.le_of_ble_eq_true rfl) rfl ?_
  unfold f_X12_easeOf at h
  refine V_aload_n rfl dX12_easeOf_0 rfl rfl ?_
  refine V_iload_n rfl dX12_easeOf_1 rfl rfl ?_
  refine V_aload_n rfl dX12_easeOf_2 rfl rfl ?_
  replace h := cl_e h
  obtain ⟨w1, M2, hc3, h⟩ := h
  refine V_ii (As := []) rfl dX12_easeOf_3 mf_X12_clockNow ⟨w_1551, w_85⟩ w_1549 (by decide) s0_136 rfl rfl rfl rfl ⟨rfl, rfl⟩ (t_X12_clockNow hc3) ?_
  refine V_iconst (v := 3) rfl dX12_easeOf_6 kc_3 ?_
  refine V_iconst (v := 5) rfl dX12_easeOf_7 kc_5 ?_
  replace h := cl_e h
  obtain ⟨w4, M5, hc6, h⟩ := h
  refine V_ii (As := [.int _, .int _, .int _, .int _]) rfl dX12_easeOf_8 mf_X12_tells ⟨w_1621, w_102⟩ w_1619 (by decide) s0_136 rfl rfl rfl rfl ⟨rfl, rfl⟩ (t_X12_tells hc6) ?_
  cases h
  exact V_iret dX12_easeOf_11 rfl rfl (Nat.le_refl _) (Nat.le_refl _) qI_ok
