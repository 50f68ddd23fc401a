-- X12_wordAt: NeverHaltedModel.wordAt(II)I
def f_X12_wordAt_93_b (r5 : Int32 → Int32 → Int32 → Int32 → IM → IR) (r93 : Int32 → Int32 → Int32 → Int32 → IM → IR) (x1 : Int32) (x2 : Int32) (x3 : Int32) (x4 : Int32) (M : IM) : IR := rd M 144 104 x4 fun v16 => if v16 = 32 then r5 x1 x2 x3 x4 M else lt (x4 + 1) fun v19 => r93 x1 x2 x3 v19 M
def f_X12_wordAt_93 (r5 : Int32 → Int32 → Int32 → Int32 → IM → IR) (n : Nat) : Int32 → Int32 → Int32 → Int32 → IM → IR := itr (fun _ _ _ _ _ => none) (f_X12_wordAt_93_b r5) n
set_option maxRecDepth 100000 in
set_option maxHeartbeats 4000000 in
theorem t_X12_wordAt_93 {g : IG} {a : Nat → Nat} {R : Int32 × IM} {r5 : Int32 → Int32 → Int32 → Int32 → IM → IR} (hr5 : ∀ (x1 : Int32) (x2 : Int32) (x3 : Int32) (x4 : Int32) (M : IM), r5 x1 x2 x3 x4 M = some R → V g mX12_wordAt 1 0 0 (qI S0 a R) 5 [some (.ref (a 136)), some (.int x1), some (.int x2), some (.int x3), some (.int x4), none] [] a S0 M 0 0) (n : Nat) : ∀ (x1 : Int32) (x2 : Int32) (x3 : Int32) (x4 : Int32) (M : IM), f_X12_wordAt_93 r5 n x1 x2 x3 x4 M = some R → V g mX12_wordAt 1 0 0 (qI S0 a R) 93 [some (.ref (a 136)), some (.int x1), some (.int x2), some (.int x3), some (.int x4), none] [] a S0 M 0 0 := by
  induction n with
  | zero => intro x1 x2 x3 x4 M h; exact absurd h (fun z => by cases z)
  | succ n hr93 =>
    intro x1 x2 x3 x4 M h
    replace h : f_X12_wordAt_93_b r5 (f_X12_wordAt_93 r5 n) x1 x2 x3 x4 M = some R := h
    unfold f_X12_wordAt_93_b at h
    refine V_aload_n rfl dX12_wordAt_93 rfl rfl ?_
    refine V_getr (k0 := 19) rfl dX12_wordAt_94 s0_136 icX12 (by decide) rfl w_1208 ?_
    refine V_iload rfl dX12_wordAt_97 rfl ?_
    replace h := rd_e h
    obtain ⟨hb17, h⟩ := h
    refine V_iald rfl dX12_wordAt_99 s0_144 hb17 ?_
    refine V_bipush (v := 32) rfl dX12_wordAt_100 kb_32 ?_
    refine V_icmp_eq (t := 114) rfl rfl dX12_wordAt_102 (fun hc18 => ?_) (fun hc18 => ?_)
    · replace h := ifp hc18 h
      refine V_goto (t := 5) rfl dX12_wordAt_114 ?_
      exact V_sub (le_s (le_s (le_s (le_s (le_s (le_n le_0)))))) (hr5 _ _ _ _ _ h)
    · replace h := ifn hc18 h
      refine V_iload rfl dX12_wordAt_105 rfl ?_
      refine V_iconst (v := 1) rfl dX12_wordAt_107 kc_1 ?_
      refine V_iadd rfl dX12_wordAt_108 ?_
      replace h := lt_e h
      refine V_istore (L' := [_, _, _, _, _, _]) rfl dX12_wordAt_109 (by decide) rfl ?_
      refine V_goto (t := 93) rfl dX12_wordAt_111 ?_
      exact V_sub (le_s (le_s (le_s (le_s (le_s (le_n le_0)))))) (hr93 _ _ _ _ _ h)
def f_X12_wordAt_60 (r5 : Int32 → Int32 → Int32 → Int32 → IM → IR) (x1 : Int32) (x2 : Int32) (x3 : Int32) (x4 : Int32) (x5 : Int32) (M : IM) : IR := if (x1 + x5) = x2 then rd M 144 104 ((x4 + 1) + x5) fun v12 => if v12 = 32 then some (x3, M) else lt (x4 + 1) fun v15 => f_X12_wordAt_93 r5 BG x1 x2 x3 v15 M else lt (x4 + 1) fun v11 => f_X12_wordAt_93 r5 BG x1 x2 x3 v11 M
set_option maxRecDepth 100000 in
set_option maxHeartbeats 4000000 in
theorem t_X12_wordAt_60 {g : IG} {a : Nat → Nat} {R : Int32 × IM} {r5 : Int32 → Int32 → Int32 → Int32 → IM → IR} {x1 : Int32} {x2 : Int32} {x3 : Int32} {x4 : Int32} {x5 : Int32} {M : IM} (hr5 : ∀ (x1 : Int32) (x2 : Int32) (x3 : Int32) (x4 : Int32) (M : IM), r5 x1 x2 x3 x4 M = some R → V g mX12_wordAt 1 0 0 (qI S0 a R) 5 [some (.ref (a 136)), some (.int x1), some (.int x2), some (.int x3), some (.int x4), none] [] a S0 M 0 0) (h : f_X12_wordAt_60 r5 x1 x2 x3 x4 x5 M = some R) : V g mX12_wordAt 1 0 0 (qI S0 a R) 60 [some (.ref (a 136)), some (.int x1), some (.int x2), some (.int x3), some (.int x4), some (.int x5)] [] a S0 M 0 0 := by
  unfold f_X12_wordAt_60 at h
  refine V_iload_n rfl dX12_wordAt_60 rfl rfl ?_
  refine V_iload rfl dX12_wordAt_61 rfl ?_
  refine V_iadd rfl dX12_wordAt_63 ?_
  refine V_iload_n rfl dX12_wordAt_64 rfl rfl ?_
  refine V_icmp_ne (t := 87) rfl rfl dX12_wordAt_65 (fun hc10 => ?_) (fun hc10 => ?_)
  · replace h := ifn hc10 h
    refine V_iload rfl dX12_wordAt_87 rfl ?_
    refine V_iconst (v := 1) rfl dX12_wordAt_89 kc_1 ?_
    refine V_iadd rfl dX12_wordAt_90 ?_
    replace h := lt_e h
    refine V_istore (L' := [_, _, _, _, _, _]) rfl dX12_wordAt_91 (by decide) rfl ?_
    exact V_sub (le_s (le_s (le_s (le_s (le_s (le_n le_0)))))) (t_X12_wordAt_93 hr5 BG _ _ _ _ _ h)
  · replace h := ifp hc10 h
    refine V_aload_n rfl dX12_wordAt_68 rfl rfl ?_
    refine V_getr (k0 := 19) rfl dX12_wordAt_69 s0_136 icX12 (by decide) rfl w_1208 ?_
    refine V_iload rfl dX12_wordAt_72 rfl ?_
    refine V_iconst (v := 1) rfl dX12_wordAt_74 kc_1 ?_
    refine V_iadd rfl dX12_wordAt_75 ?_
    refine V_iload rfl dX12_wordAt_76 rfl ?_
    refine V_iadd rfl dX12_wordAt_78 ?_
    replace h := rd_e h
    obtain ⟨hb13, h⟩ := h
    refine V_iald rfl dX12_wordAt_79 s0_144 hb13 ?_
    refine V_bipush (v := 32) rfl dX12_wordAt_80 kb_32 ?_
    refine V_icmp_ne (t := 87) rfl rfl dX12_wordAt_82 (fun hc14 => ?_) (fun hc14 => ?_)
    · replace h := ifn hc14 h
      refine V_iload rfl dX12_wordAt_87 rfl ?_
      refine V_iconst (v := 1) rfl dX12_wordAt_89 kc_1 ?_
      refine V_iadd rfl dX12_wordAt_90 ?_
      replace h := lt_e h
      refine V_istore (L' := [_, _, _, _, _, _]) rfl dX12_wordAt_91 (by decide) rfl ?_
      exact V_sub (le_s (le_s (le_s (le_s (le_s (le_n le_0)))))) (t_X12_wordAt_93 hr5 BG _ _ _ _ _ h)
    · replace h := ifp hc14 h
      refine V_iload_n rfl dX12_wordAt_85 rfl rfl ?_
      cases h
      exact V_iret dX12_wordAt_86 rfl rfl (Nat.le_refl _) (Nat.le_refl _) qI_ok
def f_X12_wordAt_19_b (r5 : Int32 → Int32 → Int32 → Int32 → IM → IR) (r19 : Int32 → Int32 → Int32 → Int32 → Int32 → IM → IR) (x1 : Int32) (x2 : Int32) (x3 : Int32) (x4 : Int32) (x5 : Int32) (M : IM) : IR := if x2 ≤ (x1 + x5) then f_X12_wordAt_60 r5 x1 x2 x3 x4 x5 M else rd M 144 104 ((x4 + 1) + x5) fun v4 => rd M 143 400 (x1 + x5) fun v6 => if v4 = v6 then lt (x5 + 1) fun v9 => r19 x1 x2 x3 x4 v9 M else f_X12_wordAt_60 r5 x1 x2 x3 x4 x5 M
def f_X12_wordAt_19 (r5 : Int32 → Int32 → Int32 → Int32 → IM → IR) (n : Nat) : Int32 → Int32 → Int32 → Int32 → Int32 → IM → IR := itr (fun _ _ _ _ _ _ => none) (f_X12_wordAt_19_b r5) n
set_option maxRecDepth 100000 in
set_option maxHeartbeats 4000000 in
theorem t_X12_wordAt_19 {g : IG} {a : Nat → Nat} {R : Int32 × IM} {r5 : Int32 → Int32 → Int32 → Int32 → IM → IR} (hr5 : ∀ (x1 : Int32) (x2 : Int32) (x3 : Int32) (x4 : Int32) (M : IM), r5 x1 x2 x3 x4 M = some R → V g mX12_wordAt 1 0 0 (qI S0 a R) 5 [some (.ref (a 136)), some (.int x1), some (.int x2), some (.int x3), some (.int x4), none] [] a S0 M 0 0) (n : Nat) : ∀ (x1 : Int32) (x2 : Int32) (x3 : Int32) (x4 : Int32) (x5 : Int32) (M : IM), f_X12_wordAt_19 r5 n x1 x2 x3 x4 x5 M = some R → V g mX12_wordAt 1 0 0 (qI S0 a R) 19 [some (.ref (a 136)), some (.int x1), some (.int x2), some (.int x3), some (.int x4), some (.int x5)] [] a S0 M 0 0 := by
  induction n with
  | zero => intro x1 x2 x3 x4 x5 M h; exact absurd h (fun z => by cases z)
  | succ n hr19 =>
    intro x1 x2 x3 x4 x5 M h
    replace h : f_X12_wordAt_19_b r5 (f_X12_wordAt_19 r5 n) x1 x2 x3 x4 x5 M = some R := h
    unfold f_X12_wordAt_19_b at h
    refine V_iload_n rfl dX12_wordAt_19 rfl rfl ?_
    refine V_iload rfl dX12_wordAt_20 rfl ?_
    refine V_iadd rfl dX12_wordAt_22 ?_
    refine V_iload_n rfl dX12_wordAt_23 rfl rfl ?_
    refine V_icmp_ge (t := 60) rfl rfl dX12_wordAt_24 (fun hc3 => ?_) (fun hc3 => ?_)
    · replace h := ifp hc3 h
      exact V_sub (le_s (le_s (le_s (le_s (le_s (le_s le_0)))))) (t_X12_wordAt_60 hr5 h)
    · replace h := ifn hc3 h
      refine V_aload_n rfl dX12_wordAt_27 rfl rfl ?_
      refine V_getr (k0 := 19) rfl dX12_wordAt_28 s0_136 icX12 (by decide) rfl w_1208 ?_
      refine V_iload rfl dX12_wordAt_31 rfl ?_
      refine V_iconst (v := 1) rfl dX12_wordAt_33 kc_1 ?_
      refine V_iadd rfl dX12_wordAt_34 ?_
      refine V_iload rfl dX12_wordAt_35 rfl ?_
      refine V_iadd rfl dX12_wordAt_37 ?_
      replace h := rd_e h
      obtain ⟨hb5, h⟩ := h
      refine V_iald rfl dX12_wordAt_38 s0_144 hb5 ?_
      refine V_aload_n rfl dX12_wordAt_39 rfl rfl ?_
      refine V_getr (k0 := 13) rfl dX12_wordAt_40 s0_136 icX12 (by decide) rfl w_1202 ?_
      refine V_iload_n rfl dX12_wordAt_43 rfl rfl ?_
      refine V_iload rfl dX12_wordAt_44 rfl ?_
      refine V_iadd rfl dX12_wordAt_46 ?_
      replace h := rd_e h
      obtain ⟨hb7, h⟩ := h
      refine V_iald rfl dX12_wordAt_47 s0_143 hb7 ?_
      refine V_icmp_ne (t := 60) rfl rfl dX12_wordAt_48 (fun hc8 => ?_) (fun hc8 => ?_)
      · replace h := ifn hc8 h
        exact V_sub (le_s (le_s (le_s (le_s (le_s (le_s le_0)))))) (t_X12_wordAt_60 hr5 h)
      · replace h := ifp hc8 h
        refine V_iload rfl dX12_wordAt_51 rfl ?_
        refine V_iconst (v := 1) rfl dX12_wordAt_53 kc_1 ?_
        refine V_iadd rfl dX12_wordAt_54 ?_
        replace h := lt_e h
        refine V_istore (L' := [_, _, _, _, _, _]) rfl dX12_wordAt_55 (by decide) rfl ?_
        refine V_goto (t := 19) rfl dX12_wordAt_57 ?_
        exact V_sub (le_s (le_s (le_s (le_s (le_s (le_s le_0)))))) (hr19 _ _ _ _ _ _ h)
def f_X12_wordAt_5_b (r5 : Int32 → Int32 → Int32 → Int32 → IM → IR) (x1 : Int32) (x2 : Int32) (x3 : Int32) (x4 : Int32) (M : IM) : IR := if 103 ≤ x4 then some ((-1), M) else lt (x3 + 1) fun v2 => f_X12_wordAt_19 r5 BG x1 x2 v2 x4 0 M
def f_X12_wordAt_5 (n : Nat) : Int32 → Int32 → Int32 → Int32 → IM → IR := itr (fun _ _ _ _ _ => none) (f_X12_wordAt_5_b) n
set_option maxRecDepth 100000 in
set_option maxHeartbeats 4000000 in
theorem t_X12_wordAt_5 {g : IG} {a : Nat → Nat} {R : Int32 × IM} (n : Nat) : ∀ (x1 : Int32) (x2 : Int32) (x3 : Int32) (x4 : Int32) (M : IM), f_X12_wordAt_5 n x1 x2 x3 x4 M = some R → V g mX12_wordAt 1 0 0 (qI S0 a R) 5 [some (.ref (a 136)), some (.int x1), some (.int x2), some (.int x3), some (.int x4), none] [] a S0 M 0 0 := by
  induction n with
  | zero => intro x1 x2 x3 x4 M h; exact absurd h (fun z => by cases z)
  | succ n hr5 =>
    intro x1 x2 x3 x4 M h
    replace h : f_X12_wordAt_5_b (f_X12_wordAt_5 n) x1 x2 x3 x4 M = some R := h
    unfold f_X12_wordAt_5_b at h
    refine V_iload rfl dX12_wordAt_5 rfl ?_
    refine V_bipush (v := 103) rfl dX12_wordAt_7 kb_103 ?_
    refine V_icmp_ge (t := 117) rfl rfl dX12_wordAt_9 (fun hc1 => ?_) (fun hc1 => ?_)
    · replace h := ifp hc1 h
      refine V_iconst (v := (-1)) rfl dX12_wordAt_117 kc_m1 ?_
      cases h
      exact V_iret dX12_wordAt_118 rfl rfl (Nat.le_refl _) (Nat.le_refl _) qI_ok
    · replace h := ifn hc1 h
      refine V_iconst (v := 0) rfl dX12_wordAt_12 kc_0 ?_
      refine V_istore (L' := [_, _, _, _, _, _]) rfl dX12_wordAt_13 (by decide) rfl ?_
      refine V_iload_n rfl dX12_wordAt_15 rfl rfl ?_
      refine V_iconst (v := 1) rfl dX12_wordAt_16 kc_1 ?_
      refine V_iadd rfl dX12_wordAt_17 ?_
      replace h := lt_e h
      refine V_istore_n (L' := [_, _, _, _, _, _]) rfl rfl dX12_wordAt_18 (by decide) rfl ?_
      exact V_sub (le_s (le_s (le_s (le_s (le_s (le_s le_0)))))) (t_X12_wordAt_19 hr5 BG _ _ _ _ _ _ h)
def f_X12_wordAt (p1 : Int32) (p2 : Int32) (M : IM) : IR := f_X12_wordAt_5 BG p1 p2 (-1) 0 M
set_option maxRecDepth 100000 in
set_option maxHeartbeats 4000000 in
theorem t_X12_wordAt {g : IG} {a : Nat → Nat} {R : Int32 × IM} {p1 : Int32} {p2 : Int32} {M : IM} (h : f_X12_wordAt p1 p2 M = some R) : Cn g mX12_wordAt 1 0 0 (qI S0 a R) [.ref (a 136), .int p1, .int p2] a S0 M := by
  refine Cn_of (L := [some (.ref (a 136)), some (.int p1), some (.int p2), none, none, none]) mf_X12_wordAt (cat_r (cat_i (cat_i cat_0))) (Nat.le_of_ble_eq_true rfl) rfl ?_
  unfold f_X12_wordAt at h
  refine V_iconst (v := (-1)) rfl dX12_wordAt_0 kc_m1 ?_
  refine V_istore_n (L' := [_, _, _, _, _, _]) rfl rfl dX12_wordAt_1 (by decide) rfl ?_
  refine V_iconst (v := 0) rfl dX12_wordAt_2 kc_0 ?_
  refine V_istore (L' := [_, _, _, _, _, _]) rfl dX12_wordAt_3 (by decide) rfl ?_
  exact V_sub (le_s (le_s (le_s (le_s (le_s (le_n le_0)))))) (t_X12_wordAt_5 BG _ _ _ _ _ h)
-- X12_reads: NeverHaltedModel.reads()V
def f_X12_reads_26 (r0 : IM → IR) (M : IM) : IR := pt M 136 15 ((M 136 15) + 1) fun M32 => r0 M32
set_option maxRecDepth 100000 in
set_option maxHeartbeats 4000000 in
theorem t_X12_reads_26 {g : IG} {a : Nat → Nat} {R : Int32 × IM} {r0 : IM → IR} {M : IM} (hr0 : ∀ (M : IM), r0  M = some R → V g mX12_reads 3 0 0 (qV S0 a R) 0 [some (.ref (a 136)), none] [] a S0 M 0 0) (h : f_X12_reads_26 r0 M = some R) : V g mX12_reads 3 0 0 (qV S0 a R) 26 [some (.ref (a 136)), none] [] a S0 M 0 0 := by
  unfold f_X12_reads_26 at h
  refine V_aload_n rfl dX12_reads_26 rfl rfl ?_
  refine V_aload_n rfl dX12_reads_27 rfl rfl ?_
  refine V_geti (k0 := 15) rfl dX12_reads_28 s0_136 icX12 (by decide) rfl w_1204 ?_
  refine V_iconst (v := 1) rfl dX12_reads_31 kc_1 ?_
  refine V_iadd rfl dX12_reads_32 ?_
  replace h := pt_e h
  refine V_putf (k0 := 15) (ty := .int) rfl dX12_reads_33 s0_136 icX12 tyX12_ok nmX12 (by decide) rfl w_1204 rfl (tyX12_ok _ (by decide)) rfl rfl ?_
  refine V_goto (t := 0) rfl dX12_reads_36 ?_
  exact V_sub (le_s (le_n le_0)) (hr0  _ h)
def f_X12_reads_95_b (r95 : IM → IR) (M : IM) : IR := cl (f_X12_raw (M 136 15) M) fun w46 M47 => cl (f_X12_isLetter w46 M47) fun w49 M50 => if w49 = 0 then cl (f_X12_wordAt (M50 136 16) (M50 136 15) M50) fun w53 M54 => pt M54 136 18 w53 fun M56 => if (M56 136 18) = (-1) then some (0, M56) else pt M56 136 17 2 fun M58 => some (0, M58) else pt M50 136 15 ((M50 136 15) + 1) fun M59 => r95 M59
def f_X12_reads_95 (n : Nat) : IM → IR := itr (fun _ => none) (f_X12_reads_95_b) n
set_option maxRecDepth 100000 in
set_option maxHeartbeats 4000000 in
theorem t_X12_reads_95 {g : IG} {a : Nat → Nat} {R : Int32 × IM} (n : Nat) : ∀ (M : IM), f_X12_reads_95 n M = some R → V g mX12_reads 3 0 0 (qV S0 a R) 95 [some (.ref (a 136)), none] [] a S0 M 0 0 := by
  induction n with
  | zero => intro M h; exact absurd h (fun z => by cases z)
  | succ n hr95 =>
    intro M h
    replace h : f_X12_reads_95_b (f_X12_reads_95 n) M = some R := h
    unfold f_X12_reads_95_b at h
    refine V_aload_n rfl dX12_reads_95 rfl rfl ?_
    refine V_aload_n rfl dX12_reads_96 rfl rfl ?_
    refine V_aload_n rfl dX12_reads_97 rfl rfl ?_
    refine V_geti (k0 := 15) rfl dX12_reads_98 s0_136 icX12 (by decide) rfl w_1204 ?_
    replace h := cl_e h
    obtain ⟨w46, M47, hc48, h⟩ := h
    refine V_ii (As := [.int _]) rfl dX12_reads_101 mf_X12_raw ⟨w_1415, w_53⟩ w_1413 (by decide) s0_136 rfl rfl rfl rfl ⟨rfl, rfl⟩ (t_X12_raw hc48) ?_
    replace h := cl_e h
    obtain ⟨w49, M50, hc51, h⟩ := h
    refine V_ii (As := [.int _]) rfl dX12_reads_104 mf_X12_isLetter ⟨w_1419, w_54⟩ w_1417 (by decide) s0_136 rfl rfl rfl rfl ⟨rfl, rfl⟩ (t_X12_isLetter hc51) ?_
    refine V_if_eq (t := 123) rfl rfl dX12_reads_107 (fun hc52 => ?_) (fun hc52 => ?_)
    · replace h := ifp hc52 h
      refine V_aload_n rfl dX12_reads_123 rfl rfl ?_
      refine V_aload_n rfl dX12_reads_124 rfl rfl ?_
      refine V_aload_n rfl dX12_reads_125 rfl rfl ?_
      refine V_geti (k0 := 16) rfl dX12_reads_126 s0_136 icX12 (by decide) rfl w_1205 ?_
      refine V_aload_n rfl dX12_reads_129 rfl rfl ?_
      refine V_geti (k0 := 15) rfl dX12_reads_130 s0_136 icX12 (by decide) rfl w_1204 ?_
      replace h := cl_e h
      obtain ⟨w53, M54, hc55, h⟩ := h
      refine V_ii (As := [.int _, .int _]) rfl dX12_reads_133 mf_X12_wordAt ⟨w_1423, w_55⟩ w_1421 (by decide) s0_136 rfl rfl rfl rfl ⟨rfl, rfl⟩ (t_X12_wordAt hc55) ?_
      replace h := pt_e h
      refine V_putf (k0 := 18) (ty := .int) rfl dX12_reads_136 s0_136 icX12 tyX12_ok nmX12 (by decide) rfl w_1207 rfl (tyX12_ok _ (by decide)) rfl rfl ?_
      refine V_aload_n rfl dX12_reads_139 rfl rfl ?_
      refine V_geti (k0 := 18) rfl dX12_reads_140 s0_136 icX12 (by decide) rfl w_1207 ?_
      refine V_iconst (v := (-1)) rfl dX12_reads_143 kc_m1 ?_
      refine V_icmp_eq (t := 273) rfl rfl dX12_reads_144 (fun hc57 => ?_) (fun hc57 => ?_)
      · replace h := ifp hc57 h
        cases h
        exact V_vret dX12_reads_273 rfl (Nat.le_refl _) (Nat.le_refl _) qV_ok
      · replace h := ifn hc57 h
        refine V_aload_n rfl dX12_reads_147 rfl rfl ?_
        refine V_iconst (v := 2) rfl dX12_reads_148 kc_2 ?_
        replace h := pt_e h
        refine V_putf (k0 := 17) (ty := .int) rfl dX12_reads_149 s0_136 icX12 tyX12_ok nmX12 (by decide) rfl w_1206 rfl (tyX12_ok _ (by decide)) rfl rfl ?_
        refine V_goto (t := 273) rfl dX12_reads_152 ?_
        cases h
        exact V_vret dX12_reads_273 rfl (Nat.le_refl _) (Nat.le_refl _) qV_ok
    · replace h := ifn hc52 h
      refine V_aload_n rfl dX12_reads_110 rfl rfl ?_
      refine V_aload_n rfl dX12_reads_111 rfl rfl ?_
      refine V_geti (k0 := 15) rfl dX12_reads_112 s0_136 icX12 (by decide) rfl w_1204 ?_
      refine V_iconst (v := 1) rfl dX12_reads_115 kc_1 ?_
      refine V_iadd rfl dX12_reads_116 ?_
      replace h := pt_e h
      refine V_putf (k0 := 15) (ty := .int) rfl dX12_reads_117 s0_136 icX12 tyX12_ok nmX12 (by decide) rfl w_1204 rfl (tyX12_ok _ (by decide)) rfl rfl ?_
      refine V_goto (t := 95) rfl dX12_reads_120 ?_
      exact V_sub (le_s (le_n le_0)) (hr95  _ h)
def f_X12_reads_223 (r171 : IM → IR) (y1 : Int32) (M : IM) : IR := pt M 136 18 y1 fun M60 => pt M60 136 15 ((M60 136 15) + 1) fun M61 => r171 M61
set_option maxRecDepth 100000 in
set_option maxHeartbeats 4000000 in
theorem t_X12_reads_223 {g : IG} {a : Nat → Nat} {R : Int32 × IM} {r171 : IM → IR} {y1 : Int32} {M : IM} (hr171 : ∀ (M : IM), r171  M = some R → V g mX12_reads 3 0 0 (qV S0 a R) 171 [some (.ref (a 136)), none] [] a S0 M 0 0) (h : f_X12_reads_223 r171 y1 M = some R) : V g mX12_reads 3 0 0 (qV S0 a R) 223 [some (.ref (a 136)), none] [.int y1, .ref (a 136)] a S0 M 0 0 := by
  unfold f_X12_reads_223 at h
  replace h := pt_e h
  refine V_putf (k0 := 18) (ty := .int) rfl dX12_reads_223 s0_136 icX12 tyX12_ok nmX12 (by decide) rfl w_1207 rfl (tyX12_ok _ (by decide)) rfl rfl ?_
  refine V_aload_n rfl dX12_reads_226 rfl rfl ?_
  refine V_aload_n rfl dX12_reads_227 rfl rfl ?_
  refine V_geti (k0 := 15) rfl dX12_reads_228 s0_136 icX12 (by decide) rfl w_1204 ?_
  refine V_iconst (v := 1) rfl dX12_reads_231 kc_1 ?_
  refine V_iadd rfl dX12_reads_232 ?_
  replace h := pt_e h
  refine V_putf (k0 := 15) (ty := .int) rfl dX12_reads_233 s0_136 icX12 tyX12_ok nmX12 (by decide) rfl w_1204 rfl (tyX12_ok _ (by decide)) rfl rfl ?_
  refine V_goto (t := 171) rfl dX12_reads_236 ?_
  exact V_sub (le_s (le_n le_0)) (hr171  _ h)
def f_X12_reads_171_b (r171 : IM → IR) (M : IM) : IR := cl (f_X12_raw (M 136 15) M) fun w33 M34 => cl (f_X12_isDigit w33 M34) fun w36 M37 => if w36 = 0 then if 5 ≤ ((M37 136 15) - (M37 136 16)) then some (0, M37) else pt M37 136 17 3 fun M41 => some (0, M41) else if 10000 ≤ (M37 136 18) then f_X12_reads_223 r171 ((M37 136 18)) M37 else cl (f_X12_raw (M37 136 15) M37) fun w43 M44 => f_X12_reads_223 r171 ((((10 * (M37 136 18)) + w43) - 48)) M44
def f_X12_reads_171 (n : Nat) : IM → IR := itr (fun _ => none) (f_X12_reads_171_b) n
set_option maxRecDepth 100000 in
set_option maxHeartbeats 4000000 in
theorem t_X12_reads_171 {g : IG} {a : Nat → Nat} {R : Int32 × IM} (n : Nat) : ∀ (M : IM), f_X12_reads_171 n M = some R → V g mX12_reads 3 0 0 (qV S0 a R) 171 [some (.ref (a 136)), none] [] a S0 M 0 0 := by
  induction n with
  | zero => intro M h; exact absurd h (fun z => by cases z)
  | succ n hr171 =>
    intro M h
    replace h : f_X12_reads_171_b (f_X12_reads_171 n) M = some R := h
    unfold f_X12_reads_171_b at h
    refine V_aload_n rfl dX12_reads_171 rfl rfl ?_
    refine V_aload_n rfl dX12_reads_172 rfl rfl ?_
    refine V_aload_n rfl dX12_reads_173 rfl rfl ?_
    refine V_geti (k0 := 15) rfl dX12_reads_174 s0_136 icX12 (by decide) rfl w_1204 ?_
    replace h := cl_e h
    obtain ⟨w33, M34, hc35, h⟩ := h
    refine V_ii (As := [.int _]) rfl dX12_reads_177 mf_X12_raw ⟨w_1415, w_53⟩ w_1413 (by decide) s0_136 rfl rfl rfl rfl ⟨rfl, rfl⟩ (t_X12_raw hc35) ?_
    replace h := cl_e h
    obtain ⟨w36, M37, hc38, h⟩ := h
    refine V_ii (As := [.int _]) rfl dX12_reads_180 mf_X12_isDigit ⟨w_1427, w_56⟩ w_1425 (by decide) s0_136 rfl rfl rfl rfl ⟨rfl, rfl⟩ (t_X12_isDigit hc38) ?_
    refine V_if_eq (t := 239) rfl rfl dX12_reads_183 (fun hc39 => ?_) (fun hc39 => ?_)
    · replace h := ifp hc39 h
      refine V_aload_n rfl dX12_reads_239 rfl rfl ?_
      refine V_geti (k0 := 15) rfl dX12_reads_240 s0_136 icX12 (by decide) rfl w_1204 ?_
      refine V_aload_n rfl dX12_reads_243 rfl rfl ?_
      refine V_geti (k0 := 16) rfl dX12_reads_244 s0_136 icX12 (by decide) rfl w_1205 ?_
      refine V_isub rfl dX12_reads_247 ?_
      refine V_iconst (v := 5) rfl dX12_reads_248 kc_5 ?_
      refine V_icmp_ge (t := 273) rfl rfl dX12_reads_249 (fun hc40 => ?_) (fun hc40 => ?_)
      · replace h := ifp hc40 h
        cases h
        exact V_vret dX12_reads_273 rfl (Nat.le_refl _) (Nat.le_refl _) qV_ok
      · replace h := ifn hc40 h
        refine V_aload_n rfl dX12_reads_252 rfl rfl ?_
        refine V_iconst (v := 3) rfl dX12_reads_253 kc_3 ?_
        replace h := pt_e h
        refine V_putf (k0 := 17) (ty := .int) rfl dX12_reads_254 s0_136 icX12 tyX12_ok nmX12 (by decide) rfl w_1206 rfl (tyX12_ok _ (by decide)) rfl rfl ?_
        refine V_goto (t := 273) rfl dX12_reads_257 ?_
        cases h
        exact V_vret dX12_reads_273 rfl (Nat.le_refl _) (Nat.le_refl _) qV_ok
    · replace h := ifn hc39 h
      refine V_aload_n rfl dX12_reads_186 rfl rfl ?_
      refine V_aload_n rfl dX12_reads_187 rfl rfl ?_
      refine V_geti (k0 := 18) rfl dX12_reads_188 s0_136 icX12 (by decide) rfl w_1207 ?_
      refine V_sipush (v := 10000) rfl dX12_reads_191 ks_10000 ?_
      refine V_icmp_ge (t := 219) rfl rfl dX12_reads_194 (fun hc42 => ?_) (fun hc42 => ?_)
      · replace h := ifp hc42 h
        refine V_aload_n rfl dX12_reads_219 rfl rfl ?_
        refine V_geti (k0 := 18) rfl dX12_reads_220 s0_136 icX12 (by decide) rfl w_1207 ?_
        exact V_sub (le_s (le_n le_0)) (t_X12_reads_223 hr171 h)
      · replace h := ifn hc42 h
        refine V_bipush (v := 10) rfl dX12_reads_197 kb_10 ?_
        refine V_aload_n rfl dX12_reads_199 rfl rfl ?_
        refine V_geti (k0 := 18) rfl dX12_reads_200 s0_136 icX12 (by decide) rfl w_1207 ?_
        refine V_imul rfl dX12_reads_203 ?_
        refine V_aload_n rfl dX12_reads_204 rfl rfl ?_
        refine V_aload_n rfl dX12_reads_205 rfl rfl ?_
        refine V_geti (k0 := 15) rfl dX12_reads_206 s0_136 icX12 (by decide) rfl w_1204 ?_
        replace h := cl_e h
        obtain ⟨w43, M44, hc45, h⟩ := h
        refine V_ii (As := [.int _]) rfl dX12_reads_209 mf_X12_raw ⟨w_1415, w_53⟩ w_1413 (by decide) s0_136 rfl rfl rfl rfl ⟨rfl, rfl⟩ (t_X12_raw hc45) ?_
        refine V_iadd rfl dX12_reads_212 ?_
        refine V_bipush (v := 48) rfl dX12_reads_213 kb_48 ?_
        refine V_isub rfl dX12_reads_215 ?_
        refine V_goto (t := 223) rfl dX12_reads_216 ?_
        exact V_sub (le_s (le_n le_0)) (t_X12_reads_223 hr171 h)
def f_X12_reads_0_b (r0 : IM → IR) (M : IM) : IR := cl (f_X12_raw (M 136 15) M) fun w1 M2 => if w1 = 32 then f_X12_reads_26 r0 M2 else cl (f_X12_raw (M2 136 15) M2) fun w5 M6 => if w5 = 10 then f_X12_reads_26 r0 M6 else pt M6 136 16 (M6 136 15) fun M9 => pt M9 136 17 1 fun M10 => cl (f_X12_raw (M10 136 15) M10) fun w11 M12 => if w11 = (-1) then pt M12 136 17 0 fun M31 => some (0, M31) else pt M12 136 15 ((M12 136 15) + 1) fun M15 => pt M15 136 18 w11 fun M16 => cl (f_X12_isLetter w11 M16) fun w17 M18 => if w17 = 0 then cl (f_X12_isDigit w11 M18) fun w21 M22 => if w21 = 0 then cl (f_X12_isMarkSign w11 M22) fun w25 M26 => if w25 = 0 then some (0, M26) else pt M26 136 17 4 fun M29 => some (0, M29) else pt M22 136 18 (w11 - 48) fun M30 => f_X12_reads_171 BG M30 else f_X12_reads_95 BG M18
def f_X12_reads_0 (n : Nat) : IM → IR := itr (fun _ => none) (f_X12_reads_0_b) n
set_option maxRecDepth 100000 in
set_option maxHeartbeats 4000000 in
theorem t_X12_reads_0 {g : IG} {a : Nat → Nat} {R : Int32 × IM} (n : Nat) : ∀ (M : IM), f_X12_reads_0 n M = some R → V g mX12_reads 3 0 0 (qV S0 a R) 0 [some (.ref (a 136)), none] [] a S0 M 0 0 := by
  induction n with
  | zero => intro M h; exact absurd h (fun z => by cases z)
  | succ n hr0 =>
    intro M h
    replace h : f_X12_reads_0_b (f_X12_reads_0 n) M = some R := h
    unfold f_X12_reads_0_b at h
    refine V_aload_n rfl dX12_reads_0 rfl rfl ?_
    refine V_aload_n rfl dX12_reads_1 rfl rfl ?_
    refine V_geti (k0 := 15) rfl dX12_reads_2 s0_136 icX12 (by decide) rfl w_1204 ?_
    replace h := cl_e h
    obtain ⟨w1, M2, hc3, h⟩ := h
    refine V_ii (As := [.int _]) rfl dX12_reads_5 mf_X12_raw ⟨w_1415, w_53⟩ w_1413 (by decide) s0_136 rfl rfl rfl rfl ⟨rfl, rfl⟩ (t_X12_raw hc3) ?_
    refine V_bipush (v := 32) rfl dX12_reads_8 kb_32 ?_
    refine V_icmp_eq (t := 26) rfl rfl dX12_reads_10 (fun hc4 => ?_) (fun hc4 => ?_)
    · replace h := ifp hc4 h
      exact V_sub (le_s (le_n le_0)) (t_X12_reads_26 hr0 h)
    · replace h := ifn hc4 h
      refine V_aload_n rfl dX12_reads_13 rfl rfl ?_
      refine V_aload_n rfl dX12_reads_14 rfl rfl ?_
      refine V_geti (k0 := 15) rfl dX12_reads_15 s0_136 icX12 (by decide) rfl w_1204 ?_
      replace h := cl_e h
      obtain ⟨w5, M6, hc7, h⟩ := h
      refine V_ii (As := [.int _]) rfl dX12_reads_18 mf_X12_raw ⟨w_1415, w_53⟩ w_1413 (by decide) s0_136 rfl rfl rfl rfl ⟨rfl, rfl⟩ (t_X12_raw hc7) ?_
      refine V_bipush (v := 10) rfl dX12_reads_21 kb_10 ?_
      refine V_icmp_ne (t := 39) rfl rfl dX12_reads_23 (fun hc8 => ?_) (fun hc8 => ?_)
      · replace h := ifn hc8 h
        refine V_aload_n rfl dX12_reads_39 rfl rfl ?_
        refine V_aload_n rfl dX12_reads_40 rfl rfl ?_
        refine V_geti (k0 := 15) rfl dX12_reads_41 s0_136 icX12 (by decide) rfl w_1204 ?_
        replace h := pt_e h
        refine V_putf (k0 := 16) (ty := .int) rfl dX12_reads_44 s0_136 icX12 tyX12_ok nmX12 (by decide) rfl w_1205 rfl (tyX12_ok _ (by decide)) rfl rfl ?_
        refine V_aload_n rfl dX12_reads_47 rfl rfl ?_
        refine V_iconst (v := 1) rfl dX12_reads_48 kc_1 ?_
        replace h := pt_e h
        refine V_putf (k0 := 17) (ty := .int) rfl dX12_reads_49 s0_136 icX12 tyX12_ok nmX12 (by decide) rfl w_1206 rfl (tyX12_ok _ (by decide)) rfl rfl ?_
        refine V_aload_n rfl dX12_reads_52 rfl rfl ?_
        refine V_aload_n rfl dX12_reads_53 rfl rfl ?_
        refine V_geti (k0 := 15) rfl dX12_reads_54 s0_136 icX12 (by decide) rfl w_1204 ?_
        replace h := cl_e h
        obtain ⟨w11, M12, hc13, h⟩ := h
        refine V_ii (As := [.int _]) rfl dX12_reads_57 mf_X12_raw ⟨w_1415, w_53⟩ w_1413 (by decide) s0_136 rfl rfl rfl rfl ⟨rfl, rfl⟩ (t_X12_raw hc13) ?_
        refine V_istore_n (L' := [_, _]) rfl rfl dX12_reads_60 (by decide) rfl ?_
        refine V_iload_n rfl dX12_reads_61 rfl rfl ?_
        refine V_iconst (v := (-1)) rfl dX12_reads_62 kc_m1 ?_
        refine V_icmp_ne (t := 72) rfl rfl dX12_reads_63 (fun hc14 => ?_) (fun hc14 => ?_)
        · replace h := ifn hc14 h
          refine V_aload_n rfl dX12_reads_72 rfl rfl ?_
          refine V_aload_n rfl dX12_reads_73 rfl rfl ?_
          refine V_geti (k0 := 15) rfl dX12_reads_74 s0_136 icX12 (by decide) rfl w_1204 ?_
          refine V_iconst (v := 1) rfl dX12_reads_77 kc_1 ?_
          refine V_iadd rfl dX12_reads_78 ?_
          replace h := pt_e h
          refine V_putf (k0 := 15) (ty := .int) rfl dX12_reads_79 s0_136 icX12 tyX12_ok nmX12 (by decide) rfl w_1204 rfl (tyX12_ok _ (by decide)) rfl rfl ?_
          refine V_aload_n rfl dX12_reads_82 rfl rfl ?_
          refine V_iload_n rfl dX12_reads_83 rfl rfl ?_
          replace h := pt_e h
          refine V_putf (k0 := 18) (ty := .int) rfl dX12_reads_84 s0_136 icX12 tyX12_ok nmX12 (by decide) rfl w_1207 rfl (tyX12_ok _ (by decide)) rfl rfl ?_
          refine V_aload_n rfl dX12_reads_87 rfl rfl ?_
          refine V_iload_n rfl dX12_reads_88 rfl rfl ?_
          replace h := cl_e h
          obtain ⟨w17, M18, hc19, h⟩ := h
          refine V_ii (As := [.int _]) rfl dX12_reads_89 mf_X12_isLetter ⟨w_1419, w_54⟩ w_1417 (by decide) s0_136 rfl rfl rfl rfl ⟨rfl, rfl⟩ (t_X12_isLetter hc19) ?_
          refine V_if_eq (t := 155) rfl rfl dX12_reads_92 (fun hc20 => ?_) (fun hc20 => ?_)
          · replace h := ifp hc20 h
            refine V_aload_n rfl dX12_reads_155 rfl rfl ?_
            refine V_iload_n rfl dX12_reads_156 rfl rfl ?_
            replace h := cl_e h
            obtain ⟨w21, M22, hc23, h⟩ := h
            refine V_ii (As := [.int _]) rfl dX12_reads_157 mf_X12_isDigit ⟨w_1427, w_56⟩ w_1425 (by decide) s0_136 rfl rfl rfl rfl ⟨rfl, rfl⟩ (t_X12_isDigit hc23) ?_
            refine V_if_eq (t := 260) rfl rfl dX12_reads_160 (fun hc24 => ?_) (fun hc24 => ?_)
            · replace h := ifp hc24 h
              refine V_aload_n rfl dX12_reads_260 rfl rfl ?_
              refine V_iload_n rfl dX12_reads_261 rfl rfl ?_
              replace h := cl_e h
              obtain ⟨w25, M26, hc27, h⟩ := h
              refine V_ii (As := [.int _]) rfl dX12_reads_262 mf_X12_isMarkSign ⟨w_1431, w_57⟩ w_1429 (by decide) s0_136 rfl rfl rfl rfl ⟨rfl, rfl⟩ (t_X12_isMarkSign hc27) ?_
              refine V_if_eq (t := 273) rfl rfl dX12_reads_265 (fun hc28 => ?_) (fun hc28 => ?_)
              · replace h := ifp hc28 h
                cases h
                exact V_vret dX12_reads_273 rfl (Nat.le_refl _) (Nat.le_refl _) qV_ok
              · replace h := ifn hc28 h
                refine V_aload_n rfl dX12_reads_268 rfl rfl ?_
                refine V_iconst (v := 4) rfl dX12_reads_269 kc_4 ?_
                replace h := pt_e h
                refine V_putf (k0 := 17) (ty := .int) rfl dX12_reads_270 s0_136 icX12 tyX12_ok nmX12 (by decide) rfl w_1206 rfl (tyX12_ok _ (by decide)) rfl rfl ?_
                cases h
                exact V_vret dX12_reads_273 rfl (Nat.le_refl _) (Nat.le_refl _) qV_ok
            · replace h := ifn hc24 h
              refine V_aload_n rfl dX12_reads_163 rfl rfl ?_
              refine V_iload_n rfl dX12_reads_164 rfl rfl ?_
              refine V_bipush (v := 48) rfl dX12_reads_165 kb_48 ?_
              refine V_isub rfl dX12_reads_167 ?_
              replace h := pt_e h
              refine V_putf (k0 := 18) (ty := .int) rfl dX12_reads_168 s0_136 icX12 tyX12_ok nmX12 (by decide) rfl w_1207 rfl (tyX12_ok _ (by decide)) rfl rfl ?_
              exact V_sub (le_s (le_n le_0)) (t_X12_reads_171 BG  _ h)
          · replace h := ifn hc20 h
            exact V_sub (le_s (le_n le_0)) (t_X12_reads_95 BG  _ h)
        · replace h := ifp hc14 h
          refine V_aload_n rfl dX12_reads_66 rfl rfl ?_
          refine V_iconst (v := 0) rfl dX12_reads_67 kc_0 ?_
          replace h := pt_e h
          refine V_putf (k0 := 17) (ty := .int) rfl dX12_reads_68 s0_136 icX12 tyX12_ok nmX12 (by decide) rfl w_1206 rfl (tyX12_ok _ (by decide)) rfl rfl ?_
          cases h
          exact V_vret dX12_reads_71 rfl (Nat.le_refl _) (Nat.le_refl _) qV_ok
      · replace h := ifp hc8 h
        exact V_sub (le_s (le_n le_0)) (t_X12_reads_26 hr0 h)
def f_X12_reads (M : IM) : IR := f_X12_reads_0 BG M
set_option maxRecDepth 100000 in
set_option maxHeartbeats 4000000 in
theorem t_X12_reads {g : IG} {a : Nat → Nat} {R : Int32 × IM} {M : IM} (h : f_X12_reads M = some R) : Cn g mX12_reads 3 0 0 (qV S0 a R) [.ref (a 136)] a S0 M := by
  refine Cn_of (L := [some (.ref (a 136)), none]) mf_X12_reads (cat_r cat_0) (Nat.le_of_ble_eq_true rfl) rfl ?_
  unfold f_X12_reads at h
  exact V_sub (le_s (le_n le_0)) (t_X12_reads_0 BG  _ h)
-- X12_errs: NeverHaltedModel.errs(I)I
def f_X12_errs (p1 : Int32) (M : IM) : IR := pt M 136 32 p1 fun M1 => pt M1 136 33 (M1 136 16) fun M2 => some ((-1), M2)
set_option maxRecDepth 100000 in
set_option maxHeartbeats 4000000 in
theorem t_X12_errs {g : IG} {a : Nat → Nat} {R : Int32 × IM} {p1 : Int32} {M : IM} (h : f_X12_errs p1 M = some R) : Cn g mX12_errs 1 0 0 (qI S0 a R) [.ref (a 136), .int p1] a S0 M := by
  refine Cn_of (L := [some (.ref (a 136)), some (.int p1)]) mf_X12_errs (cat_r (cat_i cat_0)) (Nat.le_of_ble_eq_true rfl) rfl ?_
  unfold f_X12_errs at h
  refine V_aload_n rfl dX12_errs_0 rfl rfl ?_
  refine V_iload_n rfl dX12_errs_1 rfl rfl ?_
  replace h := pt_e h
  refine V_putf (k0 := 32) (ty := .int) rfl dX12_errs_2 s0_136 icX12 tyX12_ok nmX12 (by decide) rfl w_1221 rfl (tyX12_ok _ (by decide)) rfl rfl ?_
  refine V_aload_n rfl dX12_errs_5 rfl rfl ?_
  refine V_aload_n rfl dX12_errs_6 rfl rfl ?_
  refine V_geti (k0 := 16) rfl dX12_errs_7 s0_136 icX12 (by decide) rfl w_1205 ?_
  replace h := pt_e h
  refine V_putf (k0 := 33) (ty := .int) rfl dX12_errs_10 s0_136 icX12 tyX12_ok nmX12 (by decide) rfl w_1222 rfl (tyX12_ok _ (by decide)) rfl rfl ?_
  refine V_iconst (v := (-1)) rfl dX12_errs_13 kc_m1 ?_
  cases h
  exact V_iret dX12_errs_14 rfl rfl (Nat.le_refl _) (Nat.le_refl _) qI_ok
-- X12_isWord: NeverHaltedModel.isWord(I)Z
def f_X12_isWord (p1 : Int32) (M : IM) : IR := if (M 136 17) = 2 then if (M 136 18) = p1 then some (1, M) else some (0, M) else some (0, M)
set_option maxRecDepth 100000 in
set_option maxHeartbeats 4000000 in
theorem t_X12_isWord {g : IG} {a : Nat → Nat} {R : Int32 × IM} {p1 : Int32} {M : IM} (h : f_X12_isWord p1 M = some R) : Cn g mX12_isWord 1 0 0 (qI S0 a R) [.ref (a 136), .int p1] a S0 M := by
  refine Cn_of (L := [some (.ref (a 136)), some (.int p1)]) mf_X12_isWord (cat_r (cat_i cat_0)) (Nat.le_of_ble_eq_true rfl) rfl ?_
  unfold f_X12_isWord at h
  refine V_aload_n rfl dX12_isWord_0 rfl rfl ?_
  refine V_geti (k0 := 17) rfl dX12_isWord_1 s0_136 icX12 (by decide) rfl w_1206 ?_
  refine V_iconst (v := 2) rfl dX12_isWord_4 kc_2 ?_
  refine V_icmp_ne (t := 20) rfl rfl dX12_isWord_5 (fun hc1 => ?_) (fun hc1 => ?_)
  · replace h := ifn hc1 h
    refine V_iconst (v := 0) rfl dX12_isWord_20 kc_0 ?_
    cases h
    exact V_iret dX12_isWord_21 rfl nz_0 (Nat.le_refl _) (Nat.le_refl _) qI_ok
  · replace h := ifp hc1 h
    refine V_aload_n rfl dX12_isWord_8 rfl rfl ?_
    refine V_geti (k0 := 18) rfl dX12_isWord_9 s0_136 icX12 (by decide) rfl w_1207 ?_
    refine V_iload_n rfl dX12_isWord_12 rfl rfl ?_
    refine V_icmp_ne (t := 20) rfl rfl dX12_isWord_13 (fun hc2 => ?_) (fun hc2 => ?_)
    · replace h := ifn hc2 h
      refine V_iconst (v := 0) rfl dX12_isWord_20 kc_0 ?_
      cases h
      exact V_iret dX12_isWord_21 rfl nz_0 (Nat.le_refl _) (Nat.le_refl _) qI_ok
    · replace h := ifp hc2 h
      refine V_iconst (v := 1) rfl dX12_isWord_16 kc_1 ?_
      refine V_goto (t := 21) rfl dX12_isWord_17 ?_
      cases h
      exact V_iret dX12_isWord_21 rfl nz_1 (Nat.le_refl _) (Nat.le_refl _) qI_ok
-- X12_isSign: NeverHaltedModel.isSign(I)Z
def f_X12_isSign (p1 : Int32) (M : IM) : IR := if (M 136 17) = 4 then if (M 136 18) = p1 then some (1, M) else some (0, M) else some (0, M)
set_option maxRecDepth 100000 in
set_option maxHeartbeats 4000000 in
theorem t_X12_isSign {g : IG} {a : Nat → Nat} {R : Int32 × IM} {p1 : Int32} {M : IM} (h : f_X12_isSign p1 M = some R) : Cn g mX12_isSign 1 0 0 (qI S0 a R) [.ref (a 136), .int p1] a S0 M := by
  refine Cn_of (L := [some (.ref (a 136)), some (.int p1)]) mf_X12_isSign (cat_r (cat_i cat_0)) (Nat.le_of_ble_eq_true rfl) rfl ?_
  unfold f_X12_isSign at h
  refine V_aload_n rfl dX12_isSign_0 rfl rfl ?_
  refine V_geti (k0 := 17) rfl dX12_isSign_1 s0_136 icX12 (by decide) rfl w_1206 ?_
  refine V_iconst (v := 4) rfl dX12_isSign_4 kc_4 ?_
  refine V_icmp_ne (t := 20) rfl rfl dX12_isSign_5 (fun hc1 => ?_) (fun hc1 => ?_)
  · replace h := ifn hc1 h
    refine V_iconst (v := 0) rfl dX12_isSign_20 kc_0 ?_
    cases h
    exact V_iret dX12_isSign_21 rfl nz_0 (Nat.le_refl _) (Nat.le_refl _) qI_ok
  · replace h := ifp hc1 h
    refine V_aload_n rfl dX12_isSign_8 rfl rfl ?_
    refine V_geti (k0 := 18) rfl dX12_isSign_9 s0_136 icX12 (by decide) rfl w_1207 ?_
    refine V_iload_n rfl dX12_isSign_12 rfl rfl ?_
    refine V_icmp_ne (t := 20) rfl rfl dX12_isSign_13 (fun hc2 => ?_) (fun hc2 => ?_)
    · replace h := ifn hc2 h
      refine V_iconst (v := 0) rfl dX12_isSign_20 kc_0 ?_
      cases h
      exact V_iret dX12_isSign_21 rfl nz_0 (Nat.le_refl _) (Nat.le_refl _) qI_ok
    · replace h := ifp hc2 h
      refine V_iconst (v := 1) rfl dX12_isSign_16 kc_1 ?_
      refine V_goto (t := 21) rfl dX12_isSign_17 ?_
      cases h
      exact V_iret dX12_isSign_21 rfl nz_1 (Nat.le_refl _) (Nat.le_refl _) qI_ok
-- X12_emits: NeverHaltedModel.emits(II)V
def f_X12_emits (p1 : Int32) (p2 : Int32) (M : IM) : IR := wr M 150 1200 (800 + (M 136 28)) p1 fun M1 => wr M1 151 1200 (800 + (M1 136 28)) p2 fun M3 => pt M3 136 28 ((M3 136 28) + 1) fun M5 => some (0, M5)
set_option maxRecDepth 100000 in
set_option maxHeartbeats 4000000 in
theorem t_X12_emits {g : IG} {a : Nat → Nat} {R : Int32 × IM} {p1 : Int32} {p2 : Int32} {M : IM} (h : f_X12_emits p1 p2 M = some R) : Cn g mX12_emits 1 0 0 (qV S0 a R) [.ref (a 136), .int p1, .int p2] a S0 M := by
  refine Cn_of (L := [some (.ref (a 136)), some (.int p1), some (.int p2)]) mf_X12_emits (cat_r (cat_i (cat_i cat_0))) (Nat.le_of_ble_eq_true rfl) rfl ?_
  unfold f_X12_emits at h
  refine V_aload_n rfl dX12_emits_0 rfl rfl ?_
  refine V_getr (k0 := 25) rfl dX12_emits_1 s0_136 icX12 (by decide) rfl w_1214 ?_
  refine V_sipush (v := 800) rfl dX12_emits_4 ks_800 ?_
  refine V_aload_n rfl dX12_emits_7 rfl rfl ?_
  refine V_geti (k0 := 28) rfl dX12_emits_8 s0_136 icX12 (by decide) rfl w_1217 ?_
  refine V_iadd rfl dX12_emits_11 ?_
  refine V_iload_n rfl dX12_emits_12 rfl rfl ?_
  replace h := wr_e h
  obtain ⟨hb2, h⟩ := h
  refine V_iast rfl dX12_emits_13 s0_150 hb2 ?_
  refine V_aload_n rfl dX12_emits_14 rfl rfl ?_
  refine V_getr (k0 := 26) rfl dX12_emits_15 s0_136 icX12 (by decide) rfl w_1215 ?_
  refine V_sipush (v := 800) rfl dX12_emits_18 ks_800 ?_
  refine V_aload_n rfl dX12_emits_21 rfl rfl ?_
  refine V_geti (k0 := 28) rfl dX12_emits_22 s0_136 icX12 (by decide) rfl w_1217 ?_
  refine V_iadd rfl dX12_emits_25 ?_
  refine V_iload_n rfl dX12_emits_26 rfl rfl ?_
  replace h := wr_e h
  obtain ⟨hb4, h⟩ := h
  refine V_iast rfl dX12_emits_27 s0_151 hb4 ?_
  refine V_aload_n rfl dX12_emits_28 rfl rfl ?_
  refine V_aload_n rfl dX12_emits_29 rfl rfl ?_
  refine V_geti (k0 := 28) rfl dX12_emits_30 s0_136 icX12 (by decide) rfl w_1217 ?_
  refine V_iconst (v := 1) rfl dX12_emits_33 kc_1 ?_
  refine V_iadd rfl dX12_emits_34 ?_
  replace h := pt_e h
  refine V_putf (k0 := 28) (ty := .int) rfl dX12_emits_35 s0_136 icX12 tyX12_ok nmX12 (by decide) rfl w_1217 rfl (tyX12_ok _ (by decide)) rfl rfl ?_
  cases h
  exact V_vret dX12_emits_38 rfl (Nat.le_refl _) (Nat.le_refl _) qV_ok
-- X12_canAsk: NeverHaltedModel.canAsk(I)Z
def f_X12_canAsk (p1 : Int32) (M : IM) : IR := cl (f_X12_isIn p1 9 17 M) fun w1 M2 => rz w1 M2
set_option maxRecDepth 100000 in
set_option maxHeartbeats 4000000 in
theorem t_X12_canAsk {g : IG} {a : Nat → Nat} {R : Int32 × IM} {p1 : Int32} {M : IM} (h : f_X12_canAsk p1 M = some R) : Cn g mX12_canAsk 2 0 0 (qI S0 a R) [.ref (a 136), .int p1] a S0 M := by
  refine Cn_of (L := [some (.ref (a 136)), some (.int p1)]) mf_X12_canAsk (cat_r (cat_i cat_0)) (Nat.le_of_ble_eq_true rfl) rfl ?_
  unfold f_X12_canAsk at h
  refine V_aload_n rfl dX12_canAsk_0 rfl rfl ?_
  refine V_iload_n rfl dX12_canAsk_1 rfl rfl ?_
  refine V_bipush (v := 9) rfl dX12_canAsk_2 kb_9 ?_
  refine V_bipush (v := 17) rfl dX12_canAsk_4 kb_17 ?_
  replace h := cl_e h
  obtain ⟨w1, M2, hc3, h⟩ := h
  refine V_ii (As := [.int _, .int _, .int _]) rfl dX12_canAsk_6 mf_X12_isIn ⟨w_1367, w_47⟩ w_1365 (by decide) s0_136 rfl rfl rfl rfl ⟨rfl, rfl⟩ (t_X12_isIn hc3) ?_
  replace h := rz_e h
  obtain ⟨hz4, h⟩ := h
  cases h
  exact V_iret dX12_canAsk_9 rfl (nar_z hz4) (Nat.le_refl _) (Nat.le_refl _) qI_ok
-- X12_readUnit: NeverHaltedModel.readUnit()I
def f_X12_readUnit_53 (x1 : Int32) (y1 : Int32) (M : IM) : IR := if x1 = 0 then cl (f_X12_emits y1 (M 136 18) M) fun _ M14 => cl (f_X12_reads M14) fun _ M17 => some (0, M17) else cl (f_X12_emits y1 ((M 136 18) - 9) M) fun _ M20 => cl (f_X12_reads M20) fun _ M23 => some (0, M23)
set_option maxRecDepth 100000 in
set_option maxHeartbeats 4000000 in
theorem t_X12_readUnit_53 {g : IG} {a : Nat → Nat} {R : Int32 × IM} {x1 : Int32} {y1 : Int32} {M : IM} (h : f_X12_readUnit_53 x1 y1 M = some R) : V g mX12_readUnit 4 0 0 (qI S0 a R) 53 [some (.ref (a 136)), some (.int x1)] [.int y1, .ref (a 136)] a S0 M 0 0 := by
  unfold f_X12_readUnit_53 at h
  refine V_iload_n rfl dX12_readUnit_53 rfl rfl ?_
  refine V_if_eq (t := 67) rfl rfl dX12_readUnit_54 (fun hc12 => ?_) (fun hc12 => ?_)
  · replace h := ifp hc12 h
    refine V_aload_n rfl dX12_readUnit_67 rfl rfl ?_
    refine V_geti (k0 := 18) rfl dX12_readUnit_68 s0_136 icX12 (by decide) rfl w_1207 ?_
    replace h := cl_e h
    obtain ⟨w13, M14, hc15, h⟩ := h
    refine V_iv (As := [.int _, .int _]) rfl dX12_readUnit_71 mf_X12_emits ⟨w_1503, w_75⟩ w_1501 (by decide) s0_136 rfl rfl rfl rfl ⟨rfl, rfl⟩ (t_X12_emits hc15) ?_
    refine V_aload_n rfl dX12_readUnit_74 rfl rfl ?_
    replace h := cl_e h
    obtain ⟨w16, M17, hc18, h⟩ := h
    refine V_iv (As := []) rfl dX12_readUnit_75 mf_X12_reads ⟨w_1411, w_52⟩ w_1409 (by decide) s0_136 rfl rfl rfl rfl ⟨rfl, rfl⟩ (t_X12_reads hc18) ?_
    refine V_iconst (v := 0) rfl dX12_readUnit_78 kc_0 ?_
    cases h
    exact V_iret dX12_readUnit_79 rfl rfl (Nat.le_refl _) (Nat.le_refl _) qI_ok
  · replace h := ifn hc12 h
    refine V_aload_n rfl dX12_readUnit_57 rfl rfl ?_
    refine V_geti (k0 := 18) rfl dX12_readUnit_58 s0_136 icX12 (by decide) rfl w_1207 ?_
    refine V_bipush (v := 9) rfl dX12_readUnit_61 kb_9 ?_
    refine V_isub rfl dX12_readUnit_63 ?_
    refine V_goto (t := 71) rfl dX12_readUnit_64 ?_
    replace h := cl_e h
    obtain ⟨w19, M20, hc21, h⟩ := h
    refine V_iv (As := [.int _, .int _]) rfl dX12_readUnit_71 mf_X12_emits ⟨w_1503, w_75⟩ w_1501 (by decide) s0_136 rfl rfl rfl rfl ⟨rfl, rfl⟩ (t_X12_emits hc21) ?_
    refine V_aload_n rfl dX12_readUnit_74 rfl rfl ?_
    replace h := cl_e h
    obtain ⟨w22, M23, hc24, h⟩ := h
    refine V_iv (As := []) rfl dX12_readUnit_75 mf_X12_reads ⟨w_1411, w_52⟩ w_1409 (by decide) s0_136 rfl rfl rfl rfl ⟨rfl, rfl⟩ (t_X12_reads hc24) ?_
    refine V_iconst (v := 0) rfl dX12_readUnit_78 kc_0 ?_
    cases h
    exact V_iret dX12_readUnit_79 rfl rfl (Nat.le_refl _) (Nat.le_refl _) qI_ok
def f_X12_readUnit_43 (x1 : Int32) (M : IM) : IR := if x1 = 0 then f_X12_readUnit_53 x1 0 M else f_X12_readUnit_53 x1 1 M
set_option maxRecDepth 100000 in
set_option maxHeartbeats 4000000 in
theorem t_X12_readUnit_43 {g : IG} {a : Nat → Nat} {R : Int32 × IM} {x1 : Int32} {M : IM} (h : f_X12_readUnit_43 x1 M = some R) : V g mX12_readUnit 4 0 0 (qI S0 a R) 43 [some (.ref (a 136)), some (.int x1)] [] a S0 M 0 0 := by
  unfold f_X12_readUnit_43 at h
  refine V_aload_n rfl dX12_readUnit_43 rfl rfl ?_
  refine V_iload_n rfl dX12_readUnit_44 rfl rfl ?_
  refine V_if_eq (t := 52) rfl rfl dX12_readUnit_45 (fun hc11 => ?_) (fun hc11 => ?_)
  · replace h := ifp hc11 h
    refine V_iconst (v := 0) rfl dX12_readUnit_52 kc_0 ?_
    exact V_sub (le_s (le_s le_0)) (t_X12_readUnit_53 h)
  · replace h := ifn hc11 h
    refine V_iconst (v := 1) rfl dX12_readUnit_48 kc_1 ?_
    refine V_goto (t := 53) rfl dX12_readUnit_49 ?_
    exact V_sub (le_s (le_s le_0)) (t_X12_readUnit_53 h)
def f_X12_readUnit_24 (y0 : Int32) (M : IM) : IR := if y0 = 0 then if (M 136 17) = 3 then f_X12_readUnit_43 y0 M else cl (f_X12_errs 1 M) fun w8 M9 => some (w8, M9) else f_X12_readUnit_43 y0 M
set_option maxRecDepth 100000 in
set_option maxHeartbeats 4000000 in
theorem t_X12_readUnit_24 {g : IG} {a : Nat → Nat} {R : Int32 × IM} {y0 : Int32} {M : IM} (h : f_X12_readUnit_24 y0 M = some R) : V g mX12_readUnit 4 0 0 (qI S0 a R) 24 [some (.ref (a 136)), none] [.int y0] a S0 M 0 0 := by
  unfold f_X12_readUnit_24 at h
  refine V_istore_n (L' := [_, _]) rfl rfl dX12_readUnit_24 (by decide) rfl ?_
  refine V_iload_n rfl dX12_readUnit_25 rfl rfl ?_
  refine V_if_ne (t := 43) rfl rfl dX12_readUnit_26 (fun hc6 => ?_) (fun hc6 => ?_)
  · replace h := ifn hc6 h
    exact V_sub (le_s (le_s le_0)) (t_X12_readUnit_43 h)
  · replace h := ifp hc6 h
    refine V_aload_n rfl dX12_readUnit_29 rfl rfl ?_
    refine V_geti (k0 := 17) rfl dX12_readUnit_30 s0_136 icX12 (by decide) rfl w_1206 ?_
    refine V_iconst (v := 3) rfl dX12_readUnit_33 kc_3 ?_
    refine V_icmp_eq (t := 43) rfl rfl dX12_readUnit_34 (fun hc7 => ?_) (fun hc7 => ?_)
    · replace h := ifp hc7 h
      exact V_sub (le_s (le_s le_0)) (t_X12_readUnit_43 h)
    · replace h := ifn hc7 h
      refine V_aload_n rfl dX12_readUnit_37 rfl rfl ?_
      refine V_iconst (v := 1) rfl dX12_readUnit_38 kc_1 ?_
      replace h := cl_e h
      obtain ⟨w8, M9, hc10, h⟩ := h
      refine V_ii (As := [.int _]) rfl dX12_readUnit_39 mf_X12_errs ⟨w_1443, w_60⟩ w_1441 (by decide) s0_136 rfl rfl rfl rfl ⟨rfl, rfl⟩ (t_X12_errs hc10) ?_
      cases h
      exact V_iret dX12_readUnit_42 rfl rfl (Nat.le_refl _) (Nat.le_refl _) qI_ok
def f_X12_readUnit (M : IM) : IR := if (M 136 17) = 2 then cl (f_X12_canAsk (M 136 18) M) fun w2 M3 => if w2 = 0 then f_X12_readUnit_24 0 M3 else f_X12_readUnit_24 1 M3 else f_X12_readUnit_24 0 M
set_option maxRecDepth 100000 in
set_option maxHeartbeats 4000000 in
theorem t_X12_readUnit {g : IG} {a : Nat → Nat} {R : Int32 × IM} {M : IM} (h : f_X12_readUnit M = some R) : Cn g mX12_readUnit 4 0 0 (qI S0 a R) [.ref (a 136)] a S0 M := by
  refine Cn_of (L := [some (.ref (a 136)), none]) mf_X12_readUnit (cat_r cat_0) (Nat.le_of_ble_eq_true rfl) rfl ?_
  unfold f_X12_readUnit at h
  refine V_aload_n rfl dX12_readUnit_0 rfl rfl ?_
  refine V_geti (k0 := 17) rfl dX12_readUnit_1 s0_136 icX12 (by decide) rfl w_1206 ?_
  refine V_iconst (v := 2) rfl dX12_readUnit_4 kc_2 ?_
  refine V_icmp_ne (t := 23) rfl rfl dX12_readUnit_5 (fun hc1 => ?_) (fun hc1 => ?_)
  · replace h := ifn hc1 h
    refine V_iconst (v := 0) rfl dX12_readUnit_23 kc_0 ?_
    exact V_sub (le_s (le_n le_0)) (t_X12_readUnit_24 h)
  · replace h := ifp hc1 h
    refine V_aload_n rfl dX12_readUnit_8 rfl rfl ?_
    refine V_aload_n rfl dX12_readUnit_9 rfl rfl ?_
    refine V_geti (k0 := 18) rfl dX12_readUnit_10 s0_136 icX12 (by decide) rfl w_1207 ?_
    replace h := cl_e h
    obtain ⟨w2, M3, hc4, h⟩ := h
    refine V_ii (As := [.int _]) rfl dX12_readUnit_13 mf_X12_canAsk ⟨w_1499, w_74⟩ w_1497 (by decide) s0_136 rfl rfl rfl rfl ⟨rfl, rfl⟩ (t_X12_canAsk hc4) ?_
    refine V_if_eq (t := 23) rfl rfl dX12_readUnit_16 (fun hc5 => ?_) (fun hc5 => ?_)
    · replace h := ifp hc5 h
      refine V_iconst (v := 0) rfl dX12_readUnit_23 kc_0 ?_
      exact V_sub (le_s (le_n le_0)) (t_X12_readUnit_24 h)
    · replace h := ifn hc5 h
      refine V_iconst (v := 1) rfl dX12_readUnit_19 kc_1 ?_
      refine V_goto (t := 24) rfl dX12_readUnit_20 ?_
      exact V_sub (le_s (le_n le_0)) (t_X12_readUnit_24 h)
-- X12_readProduct: NeverHaltedModel.readProduct()I
def f_X12_readProduct_74 (r10 : IM → IR) (x1 : Int32) (M : IM) : IR := cl (f_X12_readUnit M) fun w29 M30 => if w29 = (-1) then some ((-1), M30) else if x1 = 0 then cl (f_X12_emits 5 0 M30) fun _ M35 => r10 M35 else cl (f_X12_emits 4 0 M30) fun _ M38 => r10 M38
set_option maxRecDepth 100000 in
set_option maxHeartbeats 4000000 in
theorem t_X12_readProduct_74 {g : IG} {a : Nat → Nat} {R : Int32 × IM} {r10 : IM → IR} {x1 : Int32} {M : IM} (hr10 : ∀ (M : IM), r10  M = some R → V g mX12_readProduct 5 0 0 (qI S0 a R) 10 [some (.ref (a 136)), none] [] a S0 M 0 0) (h : f_X12_readProduct_74 r10 x1 M = some R) : V g mX12_readProduct 5 0 0 (qI S0 a R) 74 [some (.ref (a 136)), some (.int x1)] [] a S0 M 0 0 := by
  unfold f_X12_readProduct_74 at h
  refine V_aload_n rfl dX12_readProduct_74 rfl rfl ?_
  replace h := cl_e h
  obtain ⟨w29, M30, hc31, h⟩ := h
  refine V_ii (As := []) rfl dX12_readProduct_75 mf_X12_readUnit ⟨w_1495, w_73⟩ w_1493 (by decide) s0_136 rfl rfl rfl rfl ⟨rfl, rfl⟩ (t_X12_readUnit hc31) ?_
  refine V_iconst (v := (-1)) rfl dX12_readProduct_78 kc_m1 ?_
  refine V_icmp_ne (t := 84) rfl rfl dX12_readProduct_79 (fun hc32 => ?_) (fun hc32 => ?_)
  · replace h := ifn hc32 h
    refine V_aload_n rfl dX12_readProduct_84 rfl rfl ?_
    refine V_iload_n rfl dX12_readProduct_85 rfl rfl ?_
    refine V_if_eq (t := 93) rfl rfl dX12_readProduct_86 (fun hc33 => ?_) (fun hc33 => ?_)
    · replace h := ifp hc33 h
      refine V_iconst (v := 5) rfl dX12_readProduct_93 kc_5 ?_
      refine V_iconst (v := 0) rfl dX12_readProduct_94 kc_0 ?_
      replace h := cl_e h
      obtain ⟨w34, M35, hc36, h⟩ := h
      refine V_iv (As := [.int _, .int _]) rfl dX12_readProduct_95 mf_X12_emits ⟨w_1503, w_75⟩ w_1501 (by decide) s0_136 rfl rfl rfl rfl ⟨rfl, rfl⟩ (t_X12_emits hc36) ?_
      refine V_goto (t := 10) rfl dX12_readProduct_98 ?_
      exact V_sub (le_s (le_n le_0)) (hr10  _ h)
    · replace h := ifn hc33 h
      refine V_iconst (v := 4) rfl dX12_readProduct_89 kc_4 ?_
      refine V_goto (t := 94) rfl dX12_readProduct_90 ?_
      refine V_iconst (v := 0) rfl dX12_readProduct_94 kc_0 ?_
      replace h := cl_e h
      obtain ⟨w37, M38, hc39, h⟩ := h
      refine V_iv (As := [.int _, .int _]) rfl dX12_readProduct_95 mf_X12_emits ⟨w_1503, w_75⟩ w_1501 (by decide) s0_136 rfl rfl rfl rfl ⟨rfl, rfl⟩ (t_X12_emits hc39) ?_
      refine V_goto (t := 10) rfl dX12_readProduct_98 ?_
      exact V_sub (le_s (le_n le_0)) (hr10  _ h)
  · replace h := ifp hc32 h
    refine V_iconst (v := (-1)) rfl dX12_readProduct_82 kc_m1 ?_
    cases h
    exact V_iret dX12_readProduct_83 rfl rfl (Nat.le_refl _) (Nat.le_refl _) qI_ok
def f_X12_readProduct_57 (r10 : IM → IR) (x1 : Int32) (M : IM) : IR := if x1 = 0 then if (M 136 18) = 0 then cl (f_X12_errs 2 M) fun w26 M27 => some (w26, M27) else f_X12_readProduct_74 r10 x1 M else f_X12_readProduct_74 r10 x1 M
set_option maxRecDepth 100000 in
set_option maxHeartbeats 4000000 in
theorem t_X12_readProduct_57 {g : IG} {a : Nat → Nat} {R : Int32 × IM} {r10 : IM → IR} {x1 : Int32} {M : IM} (hr10 : ∀ (M : IM), r10  M = some R → V g mX12_readProduct 5 0 0 (qI S0 a R) 10 [some (.ref (a 136)), none] [] a S0 M 0 0) (h : f_X12_readProduct_57 r10 x1 M = some R) : V g mX12_readProduct 5 0 0 (qI S0 a R) 57 [some (.ref (a 136)), some (.int x1)] [] a S0 M 0 0 := by
  unfold f_X12_readProduct_57 at h
  refine V_iload_n rfl dX12_readProduct_57 rfl rfl ?_
  refine V_if_ne (t := 74) rfl rfl dX12_readProduct_58 (fun hc24 => ?_) (fun hc24 => ?_)
  · replace h := ifn hc24 h
    exact V_sub (le_s (le_s le_0)) (t_X12_readProduct_74 hr10 h)
  · replace h := ifp hc24 h
    refine V_aload_n rfl dX12_readProduct_61 rfl rfl ?_
    refine V_geti (k0 := 18) rfl dX12_readProduct_62 s0_136 icX12 (by decide) rfl w_1207 ?_
    refine V_if_ne (t := 74) rfl rfl dX12_readProduct_65 (fun hc25 => ?_) (fun hc25 => ?_)
    · replace h := ifn hc25 h
      exact V_sub (le_s (le_s le_0)) (t_X12_readProduct_74 hr10 h)
    · replace h := ifp hc25 h
      refine V_aload_n rfl dX12_readProduct_68 rfl rfl ?_
      refine V_iconst (v := 2) rfl dX12_readProduct_69 kc_2 ?_
      replace h := cl_e h
      obtain ⟨w26, M27, hc28, h⟩ := h
      refine V_ii (As := [.int _]) rfl dX12_readProduct_70 mf_X12_errs ⟨w_1443, w_60⟩ w_1441 (by decide) s0_136 rfl rfl rfl rfl ⟨rfl, rfl⟩ (t_X12_errs hc28) ?_
      cases h
      exact V_iret dX12_readProduct_73 rfl rfl (Nat.le_refl _) (Nat.le_refl _) qI_ok
def f_X12_readProduct_28 (r10 : IM → IR) (M : IM) : IR := cl (f_X12_isSign 42 M) fun w13 M14 => cl (f_X12_reads M14) fun _ M17 => if w13 = 0 then if (M17 136 17) = 3 then f_X12_readProduct_57 r10 w13 M17 else cl (f_X12_errs 1 M17) fun w21 M22 => some (w21, M22) else f_X12_readProduct_57 r10 w13 M17
set_option maxRecDepth 100000 in
set_option maxHeartbeats 4000000 in
theorem t_X12_readProduct_28 {g : IG} {a : Nat → Nat} {R : Int32 × IM} {r10 : IM → IR} {M : IM} (hr10 : ∀ (M : IM), r10  M = some R → V g mX12_readProduct 5 0 0 (qI S0 a R) 10 [some (.ref (a 136)), none] [] a S0 M 0 0) (h : f_X12_readProduct_28 r10 M = some R) : V g mX12_readProduct 5 0 0 (qI S0 a R) 28 [some (.ref (a 136)), none] [] a S0 M 0 0 := by
  unfold f_X12_readProduct_28 at h
  refine V_aload_n rfl dX12_readProduct_28 rfl rfl ?_
  refine V_bipush (v := 42) rfl dX12_readProduct_29 kb_42 ?_
  replace h := cl_e h
  obtain ⟨w13, M14, hc15, h⟩ := h
  refine V_ii (As := [.int _]) rfl dX12_readProduct_31 mf_X12_isSign ⟨w_1467, w_66⟩ w_1465 (by decide) s0_136 rfl rfl rfl rfl ⟨rfl, rfl⟩ (t_X12_isSign hc15) ?_
  refine V_istore_n (L' := [_, _]) rfl rfl dX12_readProduct_34 (by decide) rfl ?_
  refine V_aload_n rfl dX12_readProduct_35 rfl rfl ?_
  replace h := cl_e h
  obtain ⟨w16, M17, hc18, h⟩ := h
  refine V_iv (As := []) rfl dX12_readProduct_36 mf_X12_reads ⟨w_1411, w_52⟩ w_1409 (by decide) s0_136 rfl rfl rfl rfl ⟨rfl, rfl⟩ (t_X12_reads hc18) ?_
  refine V_iload_n rfl dX12_readProduct_39 rfl rfl ?_
  refine V_if_ne (t := 57) rfl rfl dX12_readProduct_40 (fun hc19 => ?_) (fun hc19 => ?_)
  · replace h := ifn hc19 h
    exact V_sub (le_s (le_s le_0)) (t_X12_readProduct_57 hr10 h)
  · replace h := ifp hc19 h
    refine V_aload_n rfl dX12_readProduct_43 rfl rfl ?_
    refine V_geti (k0 := 17) rfl dX12_readProduct_44 s0_136 icX12 (by decide) rfl w_1206 ?_
    refine V_iconst (v := 3) rfl dX12_readProduct_47 kc_3 ?_
    refine V_icmp_eq (t := 57) rfl rfl dX12_readProduct_48 (fun hc20 => ?_) (fun hc20 => ?_)
    · replace h := ifp hc20 h
      exact V_sub (le_s (le_s le_0)) (t_X12_readProduct_57 hr10 h)
    · replace h := ifn hc20 h
      refine V_aload_n rfl dX12_readProduct_51 rfl rfl ?_
      refine V_iconst (v := 1) rfl dX12_readProduct_52 kc_1 ?_
      replace h := cl_e h
      obtain ⟨w21, M22, hc23, h⟩ := h
      refine V_ii (As := [.int _]) rfl dX12_readProduct_53 mf_X12_errs ⟨w_1443, w_60⟩ w_1441 (by decide) s0_136 rfl rfl rfl rfl ⟨rfl, rfl⟩ (t_X12_errs hc23) ?_
      cases h
      exact V_iret dX12_readProduct_56 rfl rfl (Nat.le_refl _) (Nat.le_refl _) qI_ok
def f_X12_readProduct_10_b (r10 : IM → IR) (M : IM) : IR := cl (f_X12_isSign 42 M) fun w5 M6 => if w5 = 0 then cl (f_X12_isSign 47 M6) fun w9 M10 => if w9 = 0 then some (0, M10) else f_X12_readProduct_28 r10 M10 else f_X12_readProduct_28 r10 M6
def f_X12_readProduct_10 (n : Nat) : IM → IR := itr (fun _ => none) (f_X12_readProduct_10_b) n
set_option maxRecDepth 100000 in
set_option maxHeartbeats 4000000 in
theorem t_X12_readProduct_10 {g : IG} {a : Nat → Nat} {R : Int32 × IM} (n : Nat) : ∀ (M : IM), f_X12_readProduct_10 n M = some R → V g mX12_readProduct 5 0 0 (qI S0 a R) 10 [some (.ref (a 136)), none] [] a S0 M 0 0 := by
  induction n with
  | zero => intro M h; exact absurd h (fun z => by cases z)
  | succ n hr10 =>
    intro M h
    replace h : f_X12_readProduct_10_b (f_X12_readProduct_10 n) M = some R := h
    unfold f_X12_readProduct_10_b at h
    refine V_aload_n rfl dX12_readProduct_10 rfl rfl ?_
    refine V_bipush (v := 42) rfl dX12_readProduct_11 kb_42 ?_
    replace h := cl_e h
    obtain ⟨w5, M6, hc7, h⟩ := h
    refine V_ii (As := [.int _]) rfl dX12_readProduct_13 mf_X12_isSign ⟨w_1467, w_66⟩ w_1465 (by decide) s0_136 rfl rfl rfl rfl ⟨rfl, rfl⟩ (t_X12_isSign hc7) ?_
    refine V_if_ne (t := 28) rfl rfl dX12_readProduct_16 (fun hc8 => ?_) (fun hc8 => ?_)
    · replace h := ifn hc8 h
      exact V_sub (le_s (le_n le_0)) (t_X12_readProduct_28 hr10 h)
    · replace h := ifp hc8 h
      refine V_aload_n rfl dX12_readProduct_19 rfl rfl ?_
      refine V_bipush (v := 47) rfl dX12_readProduct_20 kb_47 ?_
      replace h := cl_e h
      obtain ⟨w9, M10, hc11, h⟩ := h
      refine V_ii (As := [.int _]) rfl dX12_readProduct_22 mf_X12_isSign ⟨w_1467, w_66⟩ w_1465 (by decide) s0_136 rfl rfl rfl rfl ⟨rfl, rfl⟩ (t_X12_isSign hc11) ?_
      refine V_if_eq (t := 101) rfl rfl dX12_readProduct_25 (fun hc12 => ?_) (fun hc12 => ?_)
      · replace h := ifp hc12 h
        refine V_iconst (v := 0) rfl dX12_readProduct_101 kc_0 ?_
        cases h
        exact V_iret dX12_readProduct_102 rfl rfl (Nat.le_refl _) (Nat.le_refl _) qI_ok
      · replace h := ifn hc12 h
        exact V_sub (le_s (le_n le_0)) (t_X12_readProduct_28 hr10 h)
def f_X12_readProduct (M : IM) : IR := cl (f_X12_readUnit M) fun w1 M2 => if w1 = (-1) then some ((-1), M2) else f_X12_readProduct_10 BG M2
set_option maxRecDepth 100000 in
set_option maxHeartbeats 4000000 in
theorem t_X12_readProduct {g : IG} {a : Nat → Nat} {R : Int32 × IM} {M : IM} (h : f_X12_readProduct M = some R) : Cn g mX12_readProduct 5 0 0 (qI S0 a R) [.ref (a 136)] a S0 M := by
  refine Cn_of (L := [some (.ref (a 136)), none]) mf_X12_readProduct (cat_r cat_0) (Nat.le_of_ble_eq_true rfl) rfl ?_
  unfold f_X12_readProduct at h
  refine V_aload_n rfl dX12_readProduct_0 rfl rfl ?_
  replace h := cl_e h
  obtain ⟨w1, M2, hc3, h⟩ := h
  refine V_ii (As := []) rfl dX12_readProduct_1 mf_X12_readUnit ⟨w_1495, w_73⟩ w_1493 (by decide) s0_136 rfl rfl rfl rfl ⟨rfl, rfl⟩ (t_X12_readUnit hc3) ?_
  refine V_iconst (v := (-1)) rfl dX12_readProduct_4 kc_m1 ?_
  refine V_icmp_ne (t := 10) rfl rfl dX12_readProduct_5 (fun hc4 => ?_) (fun hc4 => ?_)
  · replace h := ifn hc4 h
    exact V_sub (le_s (le_n le_0)) (t_X12_readProduct_10 BG  _ h)
  · replace h := ifp hc4 h
    refine V_iconst (v := (-1)) rfl dX12_readProduct_8 kc_m1 ?_
    cases h
    exact V_iret dX12_readProduct_9 rfl rfl (Nat.le_refl _) (Nat.le_refl _) qI_ok
-- X12_readSum: NeverHaltedModel.readSum()I
def f_X12_readSum_42 (r10 : IM → IR) (y0 : Int32) (M : IM) : IR := cl (f_X12_reads M) fun _ M15 => cl (f_X12_readProduct M15) fun w17 M18 => if w17 = (-1) then some ((-1), M18) else cl (f_X12_emits y0 0 M18) fun _ M22 => r10 M22
set_option maxRecDepth 100000 in
set_option maxHeartbeats 4000000 in
theorem t_X12_readSum_42 {g : IG} {a : Nat → Nat} {R : Int32 × IM} {r10 : IM → IR} {y0 : Int32} {M : IM} (hr10 : ∀ (M : IM), r10  M = some R → V g mX12_readSum 6 0 0 (qI S0 a R) 10 [some (.ref (a 136)), none] [] a S0 M 0 0) (h : f_X12_readSum_42 r10 y0 M = some R) : V g mX12_readSum 6 0 0 (qI S0 a R) 42 [some (.ref (a 136)), none] [.int y0] a S0 M 0 0 := by
  unfold f_X12_readSum_42 at h
  refine V_istore_n (L' := [_, _]) rfl rfl dX12_readSum_42 (by decide) rfl ?_
  refine V_aload_n rfl dX12_readSum_43 rfl rfl ?_
  replace h := cl_e h
  obtain ⟨w14, M15, hc16, h⟩ := h
  refine V_iv (As := []) rfl dX12_readSum_44 mf_X12_reads ⟨w_1411, w_52⟩ w_1409 (by decide) s0_136 rfl rfl rfl rfl ⟨rfl, rfl⟩ (t_X12_reads hc16) ?_
  refine V_aload_n rfl dX12_readSum_47 rfl rfl ?_
  replace h := cl_e h
  obtain ⟨w17, M18, hc19, h⟩ := h
  refine V_ii (As := []) rfl dX12_readSum_48 mf_X12_readProduct ⟨w_1491, w_72⟩ w_1489 (by decide) s0_136 rfl rfl rfl rfl ⟨rfl, rfl⟩ (t_X12_readProduct hc19) ?_
  refine V_iconst (v := (-1)) rfl dX12_readSum_51 kc_m1 ?_
  refine V_icmp_ne (t := 57) rfl rfl dX12_readSum_52 (fun hc20 => ?_) (fun hc20 => ?_)
  · replace h := ifn hc20 h
    refine V_aload_n rfl dX12_readSum_57 rfl rfl ?_
    refine V_iload_n rfl dX12_readSum_58 rfl rfl ?_
    refine V_iconst (v := 0) rfl dX12_readSum_59 kc_0 ?_
    replace h := cl_e h
    obtain ⟨w21, M22, hc23, h⟩ := h
    refine V_iv (As := [.int _, .int _]) rfl dX12_readSum_60 mf_X12_emits ⟨w_1503, w_75⟩ w_1501 (by decide) s0_136 rfl rfl rfl rfl ⟨rfl, rfl⟩ (t_X12_emits hc23) ?_
    refine V_goto (t := 10) rfl dX12_readSum_63 ?_
    exact V_sub (le_s (le_n le_0)) (hr10  _ h)
  · replace h := ifp hc20 h
    refine V_iconst (v := (-1)) rfl dX12_readSum_55 kc_m1 ?_
    cases h
    exact V_iret dX12_readSum_56 rfl rfl (Nat.le_refl _) (Nat.le_refl _) qI_ok
def f_X12_readSum_28 (r10 : IM → IR) (M : IM) : IR := if (M 136 18) = 43 then f_X12_readSum_42 r10 2 M else f_X12_readSum_42 r10 3 M
set_option maxRecDepth 100000 in
set_option maxHeartbeats 4000000 in
theorem t_X12_readSum_28 {g : IG} {a : Nat → Nat} {R : Int32 × IM} {r10 : IM → IR} {M : IM} (hr10 : ∀ (M : IM), r10  M = some R → V g mX12_readSum 6 0 0 (qI S0 a R) 10 [some (.ref (a 136)), none] [] a S0 M 0 0) (h : f_X12_readSum_28 r10 M = some R) : V g mX12_readSum 6 0 0 (qI S0 a R) 28 [some (.ref (a 136)), none] [] a S0 M 0 0 := by
  unfold f_X12_readSum_28 at h
  refine V_aload_n rfl dX12_readSum_28 rfl rfl ?_
  refine V_geti (k0 := 18) rfl dX12_readSum_29 s0_136 icX12 (by decide) rfl w_1207 ?_
  refine V_bipush (v := 43) rfl dX12_readSum_32 kb_43 ?_
  refine V_icmp_ne (t := 41) rfl rfl dX12_readSum_34 (fun hc13 => ?_) (fun hc13 => ?_)
  · replace h := ifn hc13 h
    refine V_iconst (v := 3) rfl dX12_readSum_41 kc_3 ?_
    exact V_sub (le_s (le_n le_0)) (t_X12_readSum_42 hr10 h)
  · replace h := ifp hc13 h
    refine V_iconst (v := 2) rfl dX12_readSum_37 kc_2 ?_
    refine V_goto (t := 42) rfl dX12_readSum_38 ?_
    exact V_sub (le_s (le_n le_0)) (t_X12_readSum_42 hr10 h)
def f_X12_readSum_10_b (r10 : IM → IR) (M : IM) : IR := cl (f_X12_isSign 43 M) fun w5 M6 => if w5 = 0 then cl (f_X12_isSign 45 M6) fun w9 M10 => if w9 = 0 then some (0, M10) else f_X12_readSum_28 r10 M10 else f_X12_readSum_28 r10 M6
def f_X12_readSum_10 (n : Nat) : IM → IR := itr (fun _ => none) (f_X12_readSum_10_b) n
set_option maxRecDepth 100000 in
set_option maxHeartbeats 4000000 in
theorem t_X12_readSum_10 {g : IG} {a : Nat → Nat} {R : Int32 × IM} (n : Nat) : ∀ (M : IM), f_X12_readSum_10 n M = some R → V g mX12_readSum 6 0 0 (qI S0 a R) 10 [some (.ref (a 136)), none] [] a S0 M 0 0 := by
  induction n with
  | zero => intro M h; exact absurd h (fun z => by cases z)
  | succ n hr10 =>
    intro M h
    replace h : f_X12_readSum_10_b (f_X12_readSum_10 n) M = some R := h
    unfold f_X12_readSum_10_b at h
    refine V_aload_n rfl dX12_readSum_10 rfl rfl ?_
    refine V_bipush (v := 43) rfl dX12_readSum_11 kb_43 ?_
    replace h := cl_e h
    obtain ⟨w5, M6, hc7, h⟩ := h
    refine V_ii (As := [.int _]) rfl dX12_readSum_13 mf_X12_isSign ⟨w_1467, w_66⟩ w_1465 (by decide) s0_136 rfl rfl rfl rfl ⟨rfl, rfl⟩ (t_X12_isSign hc7) ?_
    refine V_if_ne (t := 28) rfl rfl dX12_readSum_16 (fun hc8 => ?_) (fun hc8 => ?_)
    · replace h := ifn hc8 h
      exact V_sub (le_s (le_n le_0)) (t_X12_readSum_28 hr10 h)
    · replace h := ifp hc8 h
      refine V_aload_n rfl dX12_readSum_19 rfl rfl ?_
      refine V_bipush (v := 45) rfl dX12_readSum_20 kb_45 ?_
      replace h := cl_e h
      obtain ⟨w9, M10, hc11, h⟩ := h
      refine V_ii (As := [.int _]) rfl dX12_readSum_22 mf_X12_isSign ⟨w_1467, w_66⟩ w_1465 (by decide) s0_136 rfl rfl rfl rfl ⟨rfl, rfl⟩ (t_X12_isSign hc11) ?_
      refine V_if_eq (t := 66) rfl rfl dX12_readSum_25 (fun hc12 => ?_) (fun hc12 => ?_)
      · replace h := ifp hc12 h
        refine V_iconst (v := 0) rfl dX12_readSum_66 kc_0 ?_
        cases h
        exact V_iret dX12_readSum_67 rfl rfl (Nat.le_refl _) (Nat.le_refl _) qI_ok
      · replace h := ifn hc12 h
        exact V_sub (le_s (le_n le_0)) (t_X12_readSum_28 hr10 h)
def f_X12_readSum (M : IM) : IR := cl (f_X12_readProduct M) fun w1 M2 => if w1 = (-1) then some ((-1), M2) else f_X12_readSum_10 BG M2
set_option maxRecDepth 100000 in
set_option maxHeartbeats 4000000 in
theorem t_X12_readSum {g : IG} {a : Nat → Nat} {R : Int32 × IM} {M : IM} (h : f_X12_readSum M = some R) : Cn g mX12_readSum 6 0 0 (qI S0 a R) [.ref (a 136)] a S0 M := by
  refine Cn_of (L := [some (.ref (a 136)), none]) mf_X12_readSum (cat_r cat_0) (Nat.le_of_ble_eq_true rfl) rfl ?_
  unfold f_X12_readSum at h
  refine V_aload_n rfl dX12_readSum_0 rfl rfl ?_
  replace h := cl_e h
  obtain ⟨w1, M2, hc3, h⟩ := h
  refine V_ii (As := []) rfl dX12_readSum_1 mf_X12_readProduct ⟨w_1491, w_72⟩ w_1489 (by decide) s0_136 rfl rfl rfl rfl ⟨rfl, rfl⟩ (t_X12_readProduct hc3) ?_
  refine V_iconst (v := (-1)) rfl dX12_readSum_4 kc_m1 ?_
  refine V_icmp_ne (t := 10) rfl rfl dX12_readSum_5 (fun hc4 => ?_) (fun hc4 => ?_)
  · replace h := ifn hc4 h
    exact V_sub (le_s (le_n le_0)) (t_X12_readSum_10 BG  _ h)
  · replace h := ifp hc4 h
    refine V_iconst (v := (-1)) rfl dX12_readSum_8 kc_m1 ?_
    cases h
    exact V_iret dX12_readSum_9 rfl rfl (Nat.le_refl _) (Nat.le_refl _) qI_ok
-- X12_readCompared: NeverHaltedModel.readCompared()I
def f_X12_readCompared_73 (y0 : Int32) (M : IM) : IR := cl (f_X12_reads M) fun _ M23 => cl (f_X12_readSum M23) fun w25 M26 => if w25 = (-1) then some ((-1), M26) else cl (f_X12_emits y0 0 M26) fun _ M30 => some (0, M30)
set_option maxRecDepth 100000 in
set_option maxHeartbeats 4000000 in
theorem t_X12_readCompared_73 {g : IG} {a : Nat → Nat} {R : Int32 × IM} {y0 : Int32} {M : IM} (h : f_X12_readCompared_73 y0 M = some R) : V g mX12_readCompared 7 0 0 (qI S0 a R) 73 [some (.ref (a 136)), none] [.int y0] a S0 M 0 0 := by
  unfold f_X12_readCompared_73 at h
  refine V_istore_n (L' := [_, _]) rfl rfl dX12_readCompared_73 (by decide) rfl ?_
  refine V_aload_n rfl dX12_readCompared_74 rfl rfl ?_
  replace h := cl_e h
  obtain ⟨w22, M23, hc24, h⟩ := h
  refine V_iv (As := []) rfl dX12_readCompared_75 mf_X12_reads ⟨w_1411, w_52⟩ w_1409 (by decide) s0_136 rfl rfl rfl rfl ⟨rfl, rfl⟩ (t_X12_reads hc24) ?_
  refine V_aload_n rfl dX12_readCompared_78 rfl rfl ?_
  replace h := cl_e h
  obtain ⟨w25, M26, hc27, h⟩ := h
  refine V_ii (As := []) rfl dX12_readCompared_79 mf_X12_readSum ⟨w_1487, w_71⟩ w_1485 (by decide) s0_136 rfl rfl rfl rfl ⟨rfl, rfl⟩ (t_X12_readSum hc27) ?_
  refine V_iconst (v := (-1)) rfl dX12_readCompared_82 kc_m1 ?_
  refine V_icmp_ne (t := 88) rfl rfl dX12_readCompared_83 (fun hc28 => ?_) (fun hc28 => ?_)
  · replace h := ifn hc28 h
    refine V_aload_n rfl dX12_readCompared_88 rfl rfl ?_
    refine V_iload_n rfl dX12_readCompared_89 rfl rfl ?_
    refine V_iconst (v := 0) rfl dX12_readCompared_90 kc_0 ?_
    replace h := cl_e h
    obtain ⟨w29, M30, hc31, h⟩ := h
    refine V_iv (As := [.int _, .int _]) rfl dX12_readCompared_91 mf_X12_emits ⟨w_1503, w_75⟩ w_1501 (by decide) s0_136 rfl rfl rfl rfl ⟨rfl, rfl⟩ (t_X12_emits hc31) ?_
    refine V_iconst (v := 0) rfl dX12_readCompared_94 kc_0 ?_
    cases h
    exact V_iret dX12_readCompared_95 rfl rfl (Nat.le_refl _) (Nat.le_refl _) qI_ok
  · replace h := ifp hc28 h
    refine V_iconst (v := (-1)) rfl dX12_readCompared_86 kc_m1 ?_
    cases h
    exact V_iret dX12_readCompared_87 rfl rfl (Nat.le_refl _) (Nat.le_refl _) qI_ok
def f_X12_readCompared_43 (M : IM) : IR := if (M 136 18) = 60 then f_X12_readCompared_73 6 M else if (M 136 18) = 61 then f_X12_readCompared_73 7 M else f_X12_readCompared_73 8 M
set_option maxRecDepth 100000 in
set_option maxHeartbeats 4000000 in
theorem t_X12_readCompared_43 {g : IG} {a : Nat → Nat} {R : Int32 × IM} {M : IM} (h : f_X12_readCompared_43 M = some R) : V g mX12_readCompared 7 0 0 (qI S0 a R) 43 [some (.ref (a 136)), none] [] a S0 M 0 0 := by
  unfold f_X12_readCompared_43 at h
  refine V_aload_n rfl dX12_readCompared_43 rfl rfl ?_
  refine V_geti (k0 := 18) rfl dX12_readCompared_44 s0_136 icX12 (by decide) rfl w_1207 ?_
  refine V_bipush (v := 60) rfl dX12_readCompared_47 kb_60 ?_
  refine V_icmp_ne (t := 57) rfl rfl dX12_readCompared_49 (fun hc20 => ?_) (fun hc20 => ?_)
  · replace h := ifn hc20 h
    refine V_aload_n rfl dX12_readCompared_57 rfl rfl ?_
    refine V_geti (k0 := 18) rfl dX12_readCompared_58 s0_136 icX12 (by decide) rfl w_1207 ?_
    refine V_bipush (v := 61) rfl dX12_readCompared_61 kb_61 ?_
    refine V_icmp_ne (t := 71) rfl rfl dX12_readCompared_63 (fun hc21 => ?_) (fun hc21 => ?_)
    · replace h := ifn hc21 h
      refine V_bipush (v := 8) rfl dX12_readCompared_71 kb_8 ?_
      exact V_sub (le_s (le_n le_0)) (t_X12_readCompared_73 h)
    · replace h := ifp hc21 h
      refine V_bipush (v := 7) rfl dX12_readCompared_66 kb_7 ?_
      refine V_goto (t := 73) rfl dX12_readCompared_68 ?_
      exact V_sub (le_s (le_n le_0)) (t_X12_readCompared_73 h)
  · replace h := ifp hc20 h
    refine V_bipush (v := 6) rfl dX12_readCompared_52 kb_6 ?_
    refine V_goto (t := 73) rfl dX12_readCompared_54 ?_
    exact V_sub (le_s (le_n le_0)) (t_X12_readCompared_73 h)
def f_X12_readCompared (M : IM) : IR := cl (f_X12_readSum M) fun w1 M2 => if w1 = (-1) then some ((-1), M2) else cl (f_X12_isSign 60 M2) fun w5 M6 => if w5 = 0 then cl (f_X12_isSign 61 M6) fun w9 M10 => if w9 = 0 then cl (f_X12_isSign 62 M10) fun w13 M14 => if w13 = 0 then cl (f_X12_errs 1 M14) fun w17 M18 => some (w17, M18) else f_X12_readCompared_43 M14 else f_X12_readCompared_43 M10 else f_X12_readCompared_43 M6
set_option maxRecDepth 100000 in
set_option maxHeartbeats 4000000 in
theorem t_X12_readCompared {g : IG} {a : Nat → Nat} {R : Int32 × IM} {M : IM} (h : f_X12_readCompared M = some R) : Cn g mX12_readCompared 7 0 0 (qI S0 a R) [.ref (a 136)] a S0 M := by
  refine Cn_of (L := [some (.ref (a 136)), none]) mf_X12_readCompared (cat_r cat_0) (Nat.le_of_ble_eq_true rfl) rfl ?_
  unfold f_X12_readCompared at h
  refine V_aload_n rfl dX12_readCompared_0 rfl rfl ?_
  replace h := cl_e h
  obtain ⟨w1, M2, hc3, h⟩ := h
  refine V_ii (As := []) rfl dX12_readCompared_1 mf_X12_readSum ⟨w_1487, w_71⟩ w_1485 (by decide) s0_136 rfl rfl rfl rfl ⟨rfl, rfl⟩ (t_X12_readSum hc3) ?_
  refine V_iconst (v := (-1)) rfl dX12_readCompared_4 kc_m1 ?_
  refine V_icmp_ne (t := 10) rfl rfl dX12_readCompared_5 (fun hc4 => ?_) (fun hc4 => ?_)
  · replace h := ifn hc4 h
    refine V_aload_n rfl dX12_readCompared_10 rfl rfl ?_
    refine V_bipush (v := 60) rfl dX12_readCompared_11 kb_60 ?_
    replace h := cl_e h
    obtain ⟨w5, M6, hc7, h⟩ := h
    refine V_ii (As := [.int _]) rfl dX12_readCompared_13 mf_X12_isSign ⟨w_1467, w_66⟩ w_1465 (by decide) s0_136 rfl rfl rfl rfl ⟨rfl, rfl⟩ (t_X12_isSign hc7) ?_
    refine V_if_ne (t := 43) rfl rfl dX12_readCompared_16 (fun hc8 => ?_) (fun hc8 => ?_)
    · replace h := ifn hc8 h
      exact V_sub (le_s (le_n le_0)) (t_X12_readCompared_43 h)
    · replace h := ifp hc8 h
      refine V_aload_n rfl dX12_readCompared_19 rfl rfl ?_
      refine V_bipush (v := 61) rfl dX12_readCompared_20 kb_61 ?_
      replace h := cl_e h
      obtain ⟨w9, M10, hc11, h⟩ := h
      refine V_ii (As := [.int _]) rfl dX12_readCompared_22 mf_X12_isSign ⟨w_1467, w_66⟩ w_1465 (by decide) s0_136 rfl rfl rfl rfl ⟨rfl, rfl⟩ (t_X12_isSign hc11) ?_
      refine V_if_ne (t := 43) rfl rfl dX12_readCompared_25 (fun hc12 => ?_) (fun hc12 => ?_)
      · replace h := ifn hc12 h
        exact V_sub (le_s (le_n le_0)) (t_X12_readCompared_43 h)
      · replace h := ifp hc12 h
        refine V_aload_n rfl dX12_readCompared_28 rfl rfl ?_
        refine V_bipush (v := 62) rfl dX12_readCompared_29 kb_62 ?_
        replace h := cl_e h
        obtain ⟨w13, M14, hc15, h⟩ := h
        refine V_ii (As := [.int _]) rfl dX12_readCompared_31 mf_X12_isSign ⟨w_1467, w_66⟩ w_1465 (by decide) s0_136 rfl rfl rfl rfl ⟨rfl, rfl⟩ (t_X12_isSign hc15) ?_
        refine V_if_ne (t := 43) rfl rfl dX12_readCompared_34 (fun hc16 => ?_) (fun hc16 => ?_)
        · replace h := ifn hc16 h
          exact V_sub (le_s (le_n le_0)) (t_X12_readCompared_43 h)
        · replace h := ifp hc16 h
          refine V_aload_n rfl dX12_readCompared_37 rfl rfl ?_
          refine V_iconst (v := 1) rfl dX12_readCompared_38 kc_1 ?_
          replace h := cl_e h
          obtain ⟨w17, M18, hc19, h⟩ := h
          refine V_ii (As := [.int _]) rfl dX12_readCompared_39 mf_X12_errs ⟨w_1443, w_60⟩ w_1441 (by decide) s0_136 rfl rfl rfl rfl ⟨rfl, rfl⟩ (t_X12_errs hc19) ?_
          cases h
          exact V_iret dX12_readCompared_42 rfl rfl (Nat.le_refl _) (Nat.le_refl _) qI_ok
  · replace h := ifp hc4 h
    refine V_iconst (v := (-1)) rfl dX12_readCompared_8 kc_m1 ?_
    cases h
    exact V_iret dX12_readCompared_9 rfl rfl (Nat.le_refl _) (Nat.le_refl _) qI_ok
-- X12_waits: NeverHaltedModel.waits(I)V
def f_X12_waits (p1 : Int32) (M : IM) : IR := wr M 152 40 (M 136 31) p1 fun M1 => pt M1 136 31 ((M1 136 31) + 1) fun M3 => some (0, M3)
set_option maxRecDepth 100000 in
set_option maxHeartbeats 4000000 in
theorem t_X12_waits {g : IG} {a : Nat → Nat} {R : Int32 × IM} {p1 : Int32} {M : IM} (h : f_X12_waits p1 M = some R) : Cn g mX12_waits 1 0 0 (qV S0 a R) [.ref (a 136), .int p1] a S0 M := by
  refine Cn_of (L := [some (.ref (a 136)), some (.int p1)]) mf_X12_waits (cat_r (cat_i cat_0)) (Nat.le_of_ble_eq_true rfl) rfl ?_
  unfold f_X12_waits at h
  refine V_aload_n rfl dX12_waits_0 rfl rfl ?_
  refine V_getr (k0 := 30) rfl dX12_waits_1 s0_136 icX12 (by decide) rfl w_1219 ?_
  refine V_aload_n rfl dX12_waits_4 rfl rfl ?_
  refine V_geti (k0 := 31) rfl dX12_waits_5 s0_136 icX12 (by decide) rfl w_1220 ?_
  refine V_iload_n rfl dX12_waits_8 rfl rfl ?_
  replace h := wr_e h
  obtain ⟨hb2, h⟩ := h
  refine V_iast rfl dX12_waits_9 s0_152 hb2 ?_
  refine V_aload_n rfl dX12_waits_10 rfl rfl ?_
  refine V_aload_n rfl dX12_waits_11 rfl rfl ?_
  refine V_geti (k0 := 31) rfl dX12_waits_12 s0_136 icX12 (by decide) rfl w_1220 ?_
  refine V_iconst (v := 1) rfl dX12_waits_15 kc_1 ?_
  refine V_iadd rfl dX12_waits_16 ?_
  replace h := pt_e h
  refine V_putf (k0 := 31) (ty := .int) rfl dX12_waits_17 s0_136 icX12 tyX12_ok nmX12 (by decide) rfl w_1220 rfl (tyX12_ok _ (by decide)) rfl rfl ?_
  cases h
  exact V_vret dX12_waits_20 rfl (Nat.le_refl _) (Nat.le_refl _) qV_ok
-- X12_settles: NeverHaltedModel.settles(I)V
def f_X12_settles_0_b (r0 : Int32 → IM → IR) (x1 : Int32) (M : IM) : IR := if (M 136 31) ≤ 0 then some (0, M) else rd M 152 40 ((M 136 31) - 1) fun v2 => if v2 = x1 then pt M 136 31 ((M 136 31) - 1) fun M5 => cl (f_X12_emits x1 0 M5) fun _ M7 => if x1 = 9 then pt M7 136 29 ((M7 136 29) - 1) fun M10 => r0 x1 M10 else r0 x1 M7 else some (0, M)
def f_X12_settles_0 (n : Nat) : Int32 → IM → IR := itr (fun _ _ => none) (f_X12_settles_0_b) n
set_option maxRecDepth 100000 in
set_option maxHeartbeats 4000000 in
theorem t_X12_settles_0 {g : IG} {a : Nat → Nat} {R : Int32 × IM} (n : Nat) : ∀ (x1 : Int32) (M : IM), f_X12_settles_0 n x1 M = some R → V g mX12_settles 2 0 0 (qV S0 a R) 0 [some (.ref (a 136)), some (.int x1)] [] a S0 M 0 0 := by
  induction n with
  | zero => intro x1 M h; exact absurd h (fun z => by cases z)
  | succ n hr0 =>
    intro x1 M h
    replace h : f_X12_settles_0_b (f_X12_settles_0 n) x1 M = some R := h
    unfold f_X12_settles_0_b at h
    refine V_aload_n rfl dX12_settles_0 rfl rfl ?_
    refine V_geti (k0 := 31) rfl dX12_settles_1 s0_136 icX12 (by decide) rfl w_1220 ?_
    refine V_if_le (t := 57) rfl rfl dX12_settles_4 (fun hc1 => ?_) (fun hc1 => ?_)
    · replace h := ifp hc1 h
      cases h
      exact V_vret dX12_settles_57 rfl (Nat.le_refl _) (Nat.le_refl _) qV_ok
    · replace h := ifn hc1 h
      refine V_aload_n rfl dX12_settles_7 rfl rfl ?_
      refine V_getr (k0 := 30) rfl dX12_settles_8 s0_136 icX12 (by decide) rfl w_1219 ?_
      refine V_aload_n rfl dX12_settles_11 rfl rfl ?_
      refine V_geti (k0 := 31) rfl dX12_settles_12 s0_136 icX12 (by decide) rfl w_1220 ?_
      refine V_iconst (v := 1) rfl dX12_settles_15 kc_1 ?_
      refine V_isub rfl dX12_settles_16 ?_
      replace h := rd_e h
      obtain ⟨hb3, h⟩ := h
      refine V_iald rfl dX12_settles_17 s0_152 hb3 ?_
      refine V_iload_n rfl dX12_settles_18 rfl rfl ?_
      refine V_icmp_ne (t := 57) rfl rfl dX12_settles_19 (fun hc4 => ?_) (fun hc4 => ?_)
      · replace h := ifn hc4 h
        cases h
        exact V_vret dX12_settles_57 rfl (Nat.le_refl _) (Nat.le_refl _) qV_ok
      · replace h := ifp hc4 h
        refine V_aload_n rfl dX12_settles_22 rfl rfl ?_
        refine V_aload_n rfl dX12_settles_23 rfl rfl ?_
        refine V_geti (k0 := 31) rfl dX12_settles_24 s0_136 icX12 (by decide) rfl w_1220 ?_
        refine V_iconst (v := 1) rfl dX12_settles_27 kc_1 ?_
        refine V_isub rfl dX12_settles_28 ?_
        replace h := pt_e h
        refine V_putf (k0 := 31) (ty := .int) rfl dX12_settles_29 s0_136 icX12 tyX12_ok nmX12 (by decide) rfl w_1220 rfl (tyX12_ok _ (by decide)) rfl rfl ?_
        refine V_aload_n rfl dX12_settles_32 rfl rfl ?_
        refine V_iload_n rfl dX12_settles_33 rfl rfl ?_
        refine V_iconst (v := 0) rfl dX12_settles_34 kc_0 ?_
        replace h := cl_e h
        obtain ⟨w6, M7, hc8, h⟩ := h
        refine V_iv (As := [.int _, .int _]) rfl dX12_settles_35 mf_X12_emits ⟨w_1503, w_75⟩ w_1501 (by decide) s0_136 rfl rfl rfl rfl ⟨rfl, rfl⟩ (t_X12_emits hc8) ?_
        refine V_iload_n rfl dX12_settles_38 rfl rfl ?_
        refine V_bipush (v := 9) rfl dX12_settles_39 kb_9 ?_
        refine V_icmp_ne (t := 0) rfl rfl dX12_settles_41 (fun hc9 => ?_) (fun hc9 => ?_)
        · replace h := ifn hc9 h
          exact V_sub (le_s (le_s le_0)) (hr0 _ _ h)
        · replace h := ifp hc9 h
          refine V_aload_n rfl dX12_settles_44 rfl rfl ?_
          refine V_aload_n rfl dX12_settles_45 rfl rfl ?_
          refine V_geti (k0 := 29) rfl dX12_settles_46 s0_136 icX12 (by decide) rfl w_1218 ?_
          refine V_iconst (v := 1) rfl dX12_settles_49 kc_1 ?_
          refine V_isub rfl dX12_settles_50 ?_
          replace h := pt_e h
          refine V_putf (k0 := 29) (ty := .int) rfl dX12_settles_51 s0_136 icX12 tyX12_ok nmX12 (by decide) rfl w_1218 rfl (tyX12_ok _ (by decide)) rfl rfl ?_
          refine V_goto (t := 0) rfl dX12_settles_54 ?_
          exact V_sub (le_s (le_s le_0)) (hr0 _ _ h)
def f_X12_settles (p1 : Int32) (M : IM) : IR := f_X12_settles_0 BG p1 M
set_option maxRecDepth 100000 in
set_option maxHeartbeats 4000000 in
theorem t_X12_settles {g : IG} {a : Nat → Nat} {R : Int32 × IM} {p1 : Int32} {M : IM} (h : f_X12_settles p1 M = some R) : Cn g mX12_settles 2 0 0 (qV S0 a R) [.ref (a 136), .int p1] a S0 M := by
  refine Cn_of (L := [some (.ref (a 136)), some (.int p1)]) mf_X12_settles (cat_r (cat_i cat_0)) (Nat.le_of_ble_eq_true rfl) rfl ?_
  unfold f_X12_settles at h
  exact V_sub (le_s (le_s le_0)) (t_X12_settles_0 BG _ _ h)
-- X12_readAny: NeverHaltedModel.readAny()I
def f_X12_readAny_66 (r9 : Int32 → Int32 → IM → IR) (x1 : Int32) (x2 : Int32) (x3 : Int32) (M : IM) : IR := if x3 = 0 then cl (f_X12_waits 12 M) fun _ M79 => cl (f_X12_reads M79) fun _ M82 => r9 x1 x2 M82 else cl (f_X12_waits 9 M) fun _ M85 => cl (f_X12_reads M85) fun _ M88 => r9 x1 x2 M88
set_option maxRecDepth 100000 in
set_option maxHeartbeats 4000000 in
theorem t_X12_readAny_66 {g : IG} {a : Nat → Nat} {R : Int32 × IM} {r9 : Int32 → Int32 → IM → IR} {x1 : Int32} {x2 : Int32} {x3 : Int32} {M : IM} (hr9 : ∀ (x1 : Int32) (x2 : Int32) (M : IM), r9 x1 x2 M = some R → V g mX12_readAny 8 0 0 (qI S0 a R) 9 [some (.ref (a 136)), some (.int x1), some (.int x2), none] [] a S0 M 0 0) (h : f_X12_readAny_66 r9 x1 x2 x3 M = some R) : V g mX12_readAny 8 0 0 (qI S0 a R) 66 [some (.ref (a 136)), some (.int x1), some (.int x2), some (.int x3)] [] a S0 M 0 0 := by
  unfold f_X12_readAny_66 at h
  refine V_aload_n rfl dX12_readAny_66 rfl rfl ?_
  refine V_iload_n rfl dX12_readAny_67 rfl rfl ?_
  refine V_if_eq (t := 76) rfl rfl dX12_readAny_68 (fun hc77 => ?_) (fun hc77 => ?_)
  · replace h := ifp hc77 h
    refine V_bipush (v := 12) rfl dX12_readAny_76 kb_12 ?_
    replace h := cl_e h
    obtain ⟨w78, M79, hc80, h⟩ := h
    refine V_iv (As := [.int _]) rfl dX12_readAny_78 mf_X12_waits ⟨w_1511, w_77⟩ w_1509 (by decide) s0_136 rfl rfl rfl rfl ⟨rfl, rfl⟩ (t_X12_waits hc80) ?_
    refine V_aload_n rfl dX12_readAny_81 rfl rfl ?_
    replace h := cl_e h
    obtain ⟨w81, M82, hc83, h⟩ := h
    refine V_iv (As := []) rfl dX12_readAny_82 mf_X12_reads ⟨w_1411, w_52⟩ w_1409 (by decide) s0_136 rfl rfl rfl rfl ⟨rfl, rfl⟩ (t_X12_reads hc83) ?_
    refine V_goto (t := 9) rfl dX12_readAny_85 ?_
    exact V_sub (le_s (le_s (le_s (le_n le_0)))) (hr9 _ _ _ h)
  · replace h := ifn hc77 h
    refine V_bipush (v := 9) rfl dX12_readAny_71 kb_9 ?_
    refine V_goto (t := 78) rfl dX12_readAny_73 ?_
    replace h := cl_e h
    obtain ⟨w84, M85, hc86, h⟩ := h
    refine V_iv (As := [.int _]) rfl dX12_readAny_78 mf_X12_waits ⟨w_1511, w_77⟩ w_1509 (by decide) s0_136 rfl rfl rfl rfl ⟨rfl, rfl⟩ (t_X12_waits hc86) ?_
    refine V_aload_n rfl dX12_readAny_81 rfl rfl ?_
    replace h := cl_e h
    obtain ⟨w87, M88, hc89, h⟩ := h
    refine V_iv (As := []) rfl dX12_readAny_82 mf_X12_reads ⟨w_1411, w_52⟩ w_1409 (by decide) s0_136 rfl rfl rfl rfl ⟨rfl, rfl⟩ (t_X12_reads hc89) ?_
    refine V_goto (t := 9) rfl dX12_readAny_85 ?_
    exact V_sub (le_s (le_s (le_s (le_n le_0)))) (hr9 _ _ _ h)
def f_X12_readAny_33 (r9 : Int32 → Int32 → IM → IR) (x1 : Int32) (x2 : Int32) (x3 : Int32) (M : IM) : IR := if (M 136 29) = 8 then cl (f_X12_errs 3 M) fun w74 M75 => some (w74, M75) else pt M 136 29 ((M 136 29) + 1) fun M71 => if x3 = 0 then lt (x1 + 1) fun v73 => f_X12_readAny_66 r9 v73 x2 x3 M71 else f_X12_readAny_66 r9 x1 x2 x3 M71
set_option maxRecDepth 100000 in
set_option maxHeartbeats 4000000 in
theorem t_X12_readAny_33 {g : IG} {a : Nat → Nat} {R : Int32 × IM} {r9 : Int32 → Int32 → IM → IR} {x1 : Int32} {x2 : Int32} {x3 : Int32} {M : IM} (hr9 : ∀ (x1 : Int32) (x2 : Int32) (M : IM), r9 x1 x2 M = some R → V g mX12_readAny 8 0 0 (qI S0 a R) 9 [some (.ref (a 136)), some (.int x1), some (.int x2), none] [] a S0 M 0 0) (h : f_X12_readAny_33 r9 x1 x2 x3 M = some R) : V g mX12_readAny 8 0 0 (qI S0 a R) 33 [some (.ref (a 136)), some (.int x1), some (.int x2), some (.int x3)] [] a S0 M 0 0 := by
  unfold f_X12_readAny_33 at h
  refine V_aload_n rfl dX12_readAny_33 rfl rfl ?_
  refine V_geti (k0 := 29) rfl dX12_readAny_34 s0_136 icX12 (by decide) rfl w_1218 ?_
  refine V_bipush (v := 8) rfl dX12_readAny_37 kb_8 ?_
  refine V_icmp_ne (t := 48) rfl rfl dX12_readAny_39 (fun hc70 => ?_) (fun hc70 => ?_)
  · replace h := ifn hc70 h
    refine V_aload_n rfl dX12_readAny_48 rfl rfl ?_
    refine V_aload_n rfl dX12_readAny_49 rfl rfl ?_
    refine V_geti (k0 := 29) rfl dX12_readAny_50 s0_136 icX12 (by decide) rfl w_1218 ?_
    refine V_iconst (v := 1) rfl dX12_readAny_53 kc_1 ?_
    refine V_iadd rfl dX12_readAny_54 ?_
    replace h := pt_e h
    refine V_putf (k0 := 29) (ty := .int) rfl dX12_readAny_55 s0_136 icX12 tyX12_ok nmX12 (by decide) rfl w_1218 rfl (tyX12_ok _ (by decide)) rfl rfl ?_
    refine V_iload_n rfl dX12_readAny_58 rfl rfl ?_
    refine V_if_ne (t := 66) rfl rfl dX12_readAny_59 (fun hc72 => ?_) (fun hc72 => ?_)
    · replace h := ifn hc72 h
      exact V_sub (le_s (le_s (le_s (le_s le_0)))) (t_X12_readAny_66 hr9 h)
    · replace h := ifp hc72 h
      refine V_iload_n rfl dX12_readAny_62 rfl rfl ?_
      refine V_iconst (v := 1) rfl dX12_readAny_63 kc_1 ?_
      refine V_iadd rfl dX12_readAny_64 ?_
      replace h := lt_e h
      refine V_istore_n (L' := [_, _, _, _]) rfl rfl dX12_readAny_65 (by decide) rfl ?_
      exact V_sub (le_s (le_s (le_s (le_s le_0)))) (t_X12_readAny_66 hr9 h)
  · replace h := ifp hc70 h
    refine V_aload_n rfl dX12_readAny_42 rfl rfl ?_
    refine V_iconst (v := 3) rfl dX12_readAny_43 kc_3 ?_
    replace h := cl_e h
    obtain ⟨w74, M75, hc76, h⟩ := h
    refine V_ii (As := [.int _]) rfl dX12_readAny_44 mf_X12_errs ⟨w_1443, w_60⟩ w_1441 (by decide) s0_136 rfl rfl rfl rfl ⟨rfl, rfl⟩ (t_X12_errs hc76) ?_
    cases h
    exact V_iret dX12_readAny_47 rfl rfl (Nat.le_refl _) (Nat.le_refl _) qI_ok
def f_X12_readAny_9_b (r9 : Int32 → Int32 → IM → IR) (x1 : Int32) (x2 : Int32) (M : IM) : IR := if x2 = 0 then cl (f_X12_isWord 7 M) fun w3 M4 => if w3 = 0 then cl (f_X12_isWord 6 M4) fun w7 M8 => if w7 = 0 then cl (f_X12_settles 10 M8) fun _ M12 => cl (f_X12_settles 11 M12) fun _ M15 => if x1 = 0 then some (0, M15) else cl (f_X12_isSign 41 M15) fun w18 M19 => if w18 = 0 then cl (f_X12_errs 1 M19) fun w31 M32 => some (w31, M32) else pt M19 136 31 ((M19 136 31) - 1) fun M22 => lt (x1 - 1) fun v23 => pt M22 136 29 ((M22 136 29) - 1) fun M24 => cl (f_X12_settles 9 M24) fun _ M26 => cl (f_X12_reads M26) fun _ M29 => r9 v23 x2 M29 else cl (f_X12_settles 10 M8) fun _ M35 => cl (f_X12_settles 11 M35) fun _ M38 => cl (f_X12_waits 11 M38) fun _ M41 => cl (f_X12_reads M41) fun _ M44 => r9 x1 1 M44 else cl (f_X12_settles 10 M4) fun _ M47 => cl (f_X12_waits 10 M47) fun _ M50 => cl (f_X12_reads M50) fun _ M53 => r9 x1 1 M53 else cl (f_X12_isWord 8 M) fun w55 M56 => if w55 = 0 then cl (f_X12_isSign 40 M56) fun w59 M60 => if w59 = 0 then cl (f_X12_readCompared M60) fun w63 M64 => if w63 = (-1) then some ((-1), M64) else cl (f_X12_settles 9 M64) fun _ M68 => r9 x1 0 M68 else f_X12_readAny_33 r9 x1 x2 w55 M60 else f_X12_readAny_33 r9 x1 x2 w55 M56
def f_X12_readAny_9 (n : Nat) : Int32 → Int32 → IM → IR := itr (fun _ _ _ => none) (f_X12_readAny_9_b) n
set_option maxRecDepth 100000 in
set_option maxHeartbeats 4000000 in
theorem t_X12_readAny_9 {g : IG} {a : Nat → Nat} {R : Int32 × IM} (n : Nat) : ∀ (x1 : Int32) (x2 : Int32) (M : IM), f_X12_readAny_9 n x1 x2 M = some R → V g mX12_readAny 8 0 0 (qI S0 a R) 9 [some (.ref (a 136)), some (.int x1), some (.int x2), none] [] a S0 M 0 0 := by
  induction n with
  | zero => intro x1 x2 M h; exact absurd h (fun z => by cases z)
  | succ n hr9 =>
    intro x1 x2 M h
    replace h : f_X12_readAny_9_b (f_X12_readAny_9 n) x1 x2 M = some R := h
    unfold f_X12_readAny_9_b at h
    refine V_iload_n rfl dX12_readAny_9 rfl rfl ?_
    refine V_if_eq (t := 109) rfl rfl dX12_readAny_10 (fun hc2 => ?_) (fun hc2 => ?_)
    · replace h := ifp hc2 h
      refine V_aload_n rfl dX12_readAny_109 rfl rfl ?_
      refine V_bipush (v := 7) rfl dX12_readAny_110 kb_7 ?_
      replace h := cl_e h
      obtain ⟨w3, M4, hc5, h⟩ := h
      refine V_ii (As := [.int _]) rfl dX12_readAny_112 mf_X12_isWord ⟨w_1439, w_59⟩ w_1437 (by decide) s0_136 rfl rfl rfl rfl ⟨rfl, rfl⟩ (t_X12_isWord hc5) ?_
      refine V_if_eq (t := 139) rfl rfl dX12_readAny_115 (fun hc6 => ?_) (fun hc6 => ?_)
      · replace h := ifp hc6 h
        refine V_aload_n rfl dX12_readAny_139 rfl rfl ?_
        refine V_bipush (v := 6) rfl dX12_readAny_140 kb_6 ?_
        replace h := cl_e h
        obtain ⟨w7, M8, hc9, h⟩ := h
        refine V_ii (As := [.int _]) rfl dX12_readAny_142 mf_X12_isWord ⟨w_1439, w_59⟩ w_1437 (by decide) s0_136 rfl rfl rfl rfl ⟨rfl, rfl⟩ (t_X12_isWord hc9) ?_
        refine V_if_eq (t := 175) rfl rfl dX12_readAny_145 (fun hc10 => ?_) (fun hc10 => ?_)
        · replace h := ifp hc10 h
          refine V_aload_n rfl dX12_readAny_175 rfl rfl ?_
          refine V_bipush (v := 10) rfl dX12_readAny_176 kb_10 ?_
          replace h := cl_e h
          obtain ⟨w11, M12, hc13, h⟩ := h
          refine V_iv (As := [.int _]) rfl dX12_readAny_178 mf_X12_settles ⟨w_1519, w_79⟩ w_1517 (by decide) s0_136 rfl rfl rfl rfl ⟨rfl, rfl⟩ (t_X12_settles hc13) ?_
          refine V_aload_n rfl dX12_readAny_181 rfl rfl ?_
          refine V_bipush (v := 11) rfl dX12_readAny_182 kb_11 ?_
          replace h := cl_e h
          obtain ⟨w14, M15, hc16, h⟩ := h
          refine V_iv (As := [.int _]) rfl dX12_readAny_184 mf_X12_settles ⟨w_1519, w_79⟩ w_1517 (by decide) s0_136 rfl rfl rfl rfl ⟨rfl, rfl⟩ (t_X12_settles hc16) ?_
          refine V_iload_n rfl dX12_readAny_187 rfl rfl ?_
          refine V_if_ne (t := 193) rfl rfl dX12_readAny_188 (fun hc17 => ?_) (fun hc17 => ?_)
          · replace h := ifn hc17 h
            refine V_aload_n rfl dX12_readAny_193 rfl rfl ?_
            refine V_bipush (v := 41) rfl dX12_readAny_194 kb_41 ?_
            replace h := cl_e h
            obtain ⟨w18, M19, hc20, h⟩ := h
            refine V_ii (As := [.int _]) rfl dX12_readAny_196 mf_X12_isSign ⟨w_1467, w_66⟩ w_1465 (by decide) s0_136 rfl rfl rfl rfl ⟨rfl, rfl⟩ (t_X12_isSign hc20) ?_
            refine V_if_ne (t := 208) rfl rfl dX12_readAny_199 (fun hc21 => ?_) (fun hc21 => ?_)
            · replace h := ifn hc21 h
              refine V_aload_n rfl dX12_readAny_208 rfl rfl ?_
              refine V_aload_n rfl dX12_readAny_209 rfl rfl ?_
              refine V_geti (k0 := 31) rfl dX12_readAny_210 s0_136 icX12 (by decide) rfl w_1220 ?_
              refine V_iconst (v := 1) rfl dX12_readAny_213 kc_1 ?_
              refine V_isub rfl dX12_readAny_214 ?_
              replace h := pt_e h
              refine V_putf (k0 := 31) (ty := .int) rfl dX12_readAny_215 s0_136 icX12 tyX12_ok nmX12 (by decide) rfl w_1220 rfl (tyX12_ok _ (by decide)) rfl rfl ?_
              refine V_iload_n rfl dX12_readAny_218 rfl rfl ?_
              refine V_iconst (v := 1) rfl dX12_readAny_219 kc_1 ?_
              refine V_isub rfl dX12_readAny_220 ?_
              replace h := lt_e h
              refine V_istore_n (L' := [_, _, _, _]) rfl rfl dX12_readAny_221 (by decide) rfl ?_
              refine V_aload_n rfl dX12_readAny_222 rfl rfl ?_
              refine V_aload_n rfl dX12_readAny_223 rfl rfl ?_
              refine V_geti (k0 := 29) rfl dX12_readAny_224 s0_136 icX12 (by decide) rfl w_1218 ?_
              refine V_iconst (v := 1) rfl dX12_readAny_227 kc_1 ?_
              refine V_isub rfl dX12_readAny_228 ?_
              replace h := pt_e h
              refine V_putf (k0 := 29) (ty := .int) rfl dX12_readAny_229 s0_136 icX12 tyX12_ok nmX12 (by decide) rfl w_1218 rfl (tyX12_ok _ (by decide)) rfl rfl ?_
              refine V_aload_n rfl dX12_readAny_232 rfl rfl ?_
              refine V_bipush (v := 9) rfl dX12_readAny_233 kb_9 ?_
              replace h := cl_e h
              obtain ⟨w25, M26, hc27, h⟩ := h
              refine V_iv (As := [.int _]) rfl dX12_readAny_235 mf_X12_settles ⟨w_1519, w_79⟩ w_1517 (by decide) s0_136 rfl rfl rfl rfl ⟨rfl, rfl⟩ (t_X12_settles hc27) ?_
              refine V_aload_n rfl dX12_readAny_238 rfl rfl ?_
              replace h := cl_e h
              obtain ⟨w28, M29, hc30, h⟩ := h
              refine V_iv (As := []) rfl dX12_readAny_239 mf_X12_reads ⟨w_1411, w_52⟩ w_1409 (by decide) s0_136 rfl rfl rfl rfl ⟨rfl, rfl⟩ (t_X12_reads hc30) ?_
              refine V_goto (t := 9) rfl dX12_readAny_242 ?_
              exact V_sub (le_s (le_s (le_s (le_n le_0)))) (hr9 _ _ _ h)
            · replace h := ifp hc21 h
              refine V_aload_n rfl dX12_readAny_202 rfl rfl ?_
              refine V_iconst (v := 1) rfl dX12_readAny_203 kc_1 ?_
              replace h := cl_e h
              obtain ⟨w31, M32, hc33, h⟩ := h
              refine V_ii (As := [.int _]) rfl dX12_readAny_204 mf_X12_errs ⟨w_1443, w_60⟩ w_1441 (by decide) s0_136 rfl rfl rfl rfl ⟨rfl, rfl⟩ (t_X12_errs hc33) ?_
              cases h
              exact V_iret dX12_readAny_207 rfl rfl (Nat.le_refl _) (Nat.le_refl _) qI_ok
          · replace h := ifp hc17 h
            refine V_iconst (v := 0) rfl dX12_readAny_191 kc_0 ?_
            cases h
            exact V_iret dX12_readAny_192 rfl rfl (Nat.le_refl _) (Nat.le_refl _) qI_ok
        · replace h := ifn hc10 h
          refine V_aload_n rfl dX12_readAny_148 rfl rfl ?_
          refine V_bipush (v := 10) rfl dX12_readAny_149 kb_10 ?_
          replace h := cl_e h
          obtain ⟨w34, M35, hc36, h⟩ := h
          refine V_iv (As := [.int _]) rfl dX12_readAny_151 mf_X12_settles ⟨w_1519, w_79⟩ w_1517 (by decide) s0_136 rfl rfl rfl rfl ⟨rfl, rfl⟩ (t_X12_settles hc36) ?_
          refine V_aload_n rfl dX12_readAny_154 rfl rfl ?_
          refine V_bipush (v := 11) rfl dX12_readAny_155 kb_11 ?_
          replace h := cl_e h
          obtain ⟨w37, M38, hc39, h⟩ := h
          refine V_iv (As := [.int _]) rfl dX12_readAny_157 mf_X12_settles ⟨w_1519, w_79⟩ w_1517 (by decide) s0_136 rfl rfl rfl rfl ⟨rfl, rfl⟩ (t_X12_settles hc39) ?_
          refine V_aload_n rfl dX12_readAny_160 rfl rfl ?_
          refine V_bipush (v := 11) rfl dX12_readAny_161 kb_11 ?_
          replace h := cl_e h
          obtain ⟨w40, M41, hc42, h⟩ := h
          refine V_iv (As := [.int _]) rfl dX12_readAny_163 mf_X12_waits ⟨w_1511, w_77⟩ w_1509 (by decide) s0_136 rfl rfl rfl rfl ⟨rfl, rfl⟩ (t_X12_waits hc42) ?_
          refine V_aload_n rfl dX12_readAny_166 rfl rfl ?_
          replace h := cl_e h
          obtain ⟨w43, M44, hc45, h⟩ := h
          refine V_iv (As := []) rfl dX12_readAny_167 mf_X12_reads ⟨w_1411, w_52⟩ w_1409 (by decide) s0_136 rfl rfl rfl rfl ⟨rfl, rfl⟩ (t_X12_reads hc45) ?_
          refine V_iconst (v := 1) rfl dX12_readAny_170 kc_1 ?_
          refine V_istore_n (L' := [_, _, _, _]) rfl rfl dX12_readAny_171 (by decide) rfl ?_
          refine V_goto (t := 9) rfl dX12_readAny_172 ?_
          exact V_sub (le_s (le_s (le_s (le_n le_0)))) (hr9 _ _ _ h)
      · replace h := ifn hc6 h
        refine V_aload_n rfl dX12_readAny_118 rfl rfl ?_
        refine V_bipush (v := 10) rfl dX12_readAny_119 kb_10 ?_
        replace h := cl_e h
        obtain ⟨w46, M47, hc48, h⟩ := h
        refine V_iv (As := [.int _]) rfl dX12_readAny_121 mf_X12_settles ⟨w_1519, w_79⟩ w_1517 (by decide) s0_136 rfl rfl rfl rfl ⟨rfl, rfl⟩ (t_X12_settles hc48) ?_
        refine V_aload_n rfl dX12_readAny_124 rfl rfl ?_
        refine V_bipush (v := 10) rfl dX12_readAny_125 kb_10 ?_
        replace h := cl_e h
        obtain ⟨w49, M50, hc51, h⟩ := h
        refine V_iv (As := [.int _]) rfl dX12_readAny_127 mf_X12_waits ⟨w_1511, w_77⟩ w_1509 (by decide) s0_136 rfl rfl rfl rfl ⟨rfl, rfl⟩ (t_X12_waits hc51) ?_
        refine V_aload_n rfl dX12_readAny_130 rfl rfl ?_
        replace h := cl_e h
        obtain ⟨w52, M53, hc54, h⟩ := h
        refine V_iv (As := []) rfl dX12_readAny_131 mf_X12_reads ⟨w_1411, w_52⟩ w_1409 (by decide) s0_136 rfl rfl rfl rfl ⟨rfl, rfl⟩ (t_X12_reads hc54) ?_
        refine V_iconst (v := 1) rfl dX12_readAny_134 kc_1 ?_
        refine V_istore_n (L' := [_, _, _, _]) rfl rfl dX12_readAny_135 (by decide) rfl ?_
        refine V_goto (t := 9) rfl dX12_readAny_136 ?_
        exact V_sub (le_s (le_s (le_s (le_n le_0)))) (hr9 _ _ _ h)
    · replace h := ifn hc2 h
      refine V_aload_n rfl dX12_readAny_13 rfl rfl ?_
      refine V_bipush (v := 8) rfl dX12_readAny_14 kb_8 ?_
      replace h := cl_e h
      obtain ⟨w55, M56, hc57, h⟩ := h
      refine V_ii (As := [.int _]) rfl dX12_readAny_16 mf_X12_isWord ⟨w_1439, w_59⟩ w_1437 (by decide) s0_136 rfl rfl rfl rfl ⟨rfl, rfl⟩ (t_X12_isWord hc57) ?_
      refine V_istore_n (L' := [_, _, _, _]) rfl rfl dX12_readAny_19 (by decide) rfl ?_
      refine V_iload_n rfl dX12_readAny_20 rfl rfl ?_
      refine V_if_ne (t := 33) rfl rfl dX12_readAny_21 (fun hc58 => ?_) (fun hc58 => ?_)
      · replace h := ifn hc58 h
        exact V_sub (le_s (le_s (le_s (le_s le_0)))) (t_X12_readAny_33 hr9 h)
      · replace h := ifp hc58 h
        refine V_aload_n rfl dX12_readAny_24 rfl rfl ?_
        refine V_bipush (v := 40) rfl dX12_readAny_25 kb_40 ?_
        replace h := cl_e h
        obtain ⟨w59, M60, hc61, h⟩ := h
        refine V_ii (As := [.int _]) rfl dX12_readAny_27 mf_X12_isSign ⟨w_1467, w_66⟩ w_1465 (by decide) s0_136 rfl rfl rfl rfl ⟨rfl, rfl⟩ (t_X12_isSign hc61) ?_
        refine V_if_eq (t := 88) rfl rfl dX12_readAny_30 (fun hc62 => ?_) (fun hc62 => ?_)
        · replace h := ifp hc62 h
          refine V_aload_n rfl dX12_readAny_88 rfl rfl ?_
          replace h := cl_e h
          obtain ⟨w63, M64, hc65, h⟩ := h
          refine V_ii (As := []) rfl dX12_readAny_89 mf_X12_readCompared ⟨w_1515, w_78⟩ w_1513 (by decide) s0_136 rfl rfl rfl rfl ⟨rfl, rfl⟩ (t_X12_readCompared hc65) ?_
          refine V_iconst (v := (-1)) rfl dX12_readAny_92 kc_m1 ?_
          refine V_icmp_ne (t := 98) rfl rfl dX12_readAny_93 (fun hc66 => ?_) (fun hc66 => ?_)
          · replace h := ifn hc66 h
            refine V_aload_n rfl dX12_readAny_98 rfl rfl ?_
            refine V_bipush (v := 9) rfl dX12_readAny_99 kb_9 ?_
            replace h := cl_e h
            obtain ⟨w67, M68, hc69, h⟩ := h
            refine V_iv (As := [.int _]) rfl dX12_readAny_101 mf_X12_settles ⟨w_1519, w_79⟩ w_1517 (by decide) s0_136 rfl rfl rfl rfl ⟨rfl, rfl⟩ (t_X12_settles hc69) ?_
            refine V_iconst (v := 0) rfl dX12_readAny_104 kc_0 ?_
            refine V_istore_n (L' := [_, _, _, _]) rfl rfl dX12_readAny_105 (by decide) rfl ?_
            refine V_goto (t := 9) rfl dX12_readAny_106 ?_
            exact V_sub (le_s (le_s (le_s (le_n le_0)))) (hr9 _ _ _ h)
          · replace h := ifp hc66 h
            refine V_iconst (v := (-1)) rfl dX12_readAny_96 kc_m1 ?_
            cases h
            exact V_iret dX12_readAny_97 rfl rfl (Nat.le_refl _) (Nat.le_refl _) qI_ok
        · replace h := ifn hc62 h
          exact V_sub (le_s (le_s (le_s (le_s le_0)))) (t_X12_readAny_33 hr9 h)
def f_X12_readAny (M : IM) : IR := pt M 136 31 0 fun M1 => f_X12_readAny_9 BG 0 1 M1
set_option maxRecDepth 100000 in
set_option maxHeartbeats 4000000 in
theorem t_X12_readAny {g : IG} {a : Nat → Nat} {R : Int32 × IM} {M : IM} (h : f_X12_readAny M = some R) : Cn g mX12_readAny 8 0 0 (qI S0 a R) [.ref (a 136)] a S0 M := by
  refine Cn_of (L := [some (.ref (a 136)), none, none, none]) mf_X12_readAny (cat_r cat_0) (Nat.le_of_ble_eq_true rfl) rfl ?_
  unfold f_X12_readAny at h
  refine V_iconst (v := 0) rfl dX12_readAny_0 kc_0 ?_
  refine V_istore_n (L' := [_, _, _, _]) rfl rfl dX12_readAny_1 (by decide) rfl ?_
  refine V_aload_n rfl dX12_readAny_2 rfl rfl ?_
  refine V_iconst (v := 0) rfl dX12_readAny_3 kc_0 ?_
  replace h := pt_e h
  refine V_putf (k0 := 31) (ty := .int) rfl dX12_readAny_4 s0_136 icX12 tyX12_ok nmX12 (by decide) rfl w_1220 rfl (tyX12_ok _ (by decide)) rfl rfl ?_
  refine V_iconst (v := 1) rfl dX12_readAny_7 kc_1 ?_
  refine V_istore_n (L' := [_, _, _, _]) rfl rfl dX12_readAny_8 (by decide) rfl ?_
  exact V_sub (le_s (le_s (le_s (le_n le_0)))) (t_X12_readAny_9 BG _ _ _ h)
-- X12_isLineWord: NeverHaltedModel.isLineWord()Z
def f_X12_isLineWord (M : IM) : IR := if (M 136 27) = 0 then cl (f_X12_isWord 0 M) fun w14 M15 => if w14 = 0 then cl (f_X12_isWord 1 M15) fun w18 M19 => if w18 = 0 then some (0, M19) else some (1, M19) else some (1, M15) else cl (f_X12_isWord 2 M) fun w2 M3 => if w2 = 0 then cl (f_X12_isWord 3 M3) fun w6 M7 => if w6 = 0 then cl (f_X12_isWord 4 M7) fun w10 M11 => if w10 = 0 then some (0, M11) else some (1, M11) else some (1, M7) else some (1, M3)
set_option maxRecDepth 100000 in
set_option maxHeartbeats 4000000 in
theorem t_X12_isLineWord {g : IG} {a : Nat → Nat} {R : Int32 × IM} {M : IM} (h : f_X12_isLineWord M = some R) : Cn g mX12_isLineWord 2 0 0 (qI S0 a R) [.ref (a 136)] a S0 M := by
  refine Cn_of (L := [some (.ref (a 136))]) mf_X12_isLineWord (cat_r cat_0) (Nat.le_of_ble_eq_true rfl) rfl ?_
  unfold f_X12_isLineWord at h
  refine V_aload_n rfl dX12_isLineWord_0 rfl rfl ?_
  refine V_geti (k0 := 27) rfl dX12_isLineWord_1 s0_136 icX12 (by decide) rfl w_1216 ?_
  refine V_if_ne (t := 31) rfl rfl dX12_isLineWord_4 (fun hc1 => ?_) (fun hc1 => ?_)
  · replace h := ifn hc1 h
    refine V_aload_n rfl dX12_isLineWord_31 rfl rfl ?_
    refine V_iconst (v := 2) rfl dX12_isLineWord_32 kc_2 ?_
    replace h := cl_e h
    obtain ⟨w2, M3, hc4, h⟩ := h
    refine V_ii (As := [.int _]) rfl dX12_isLineWord_33 mf_X12_isWord ⟨w_1439, w_59⟩ w_1437 (by decide) s0_136 rfl rfl rfl rfl ⟨rfl, rfl⟩ (t_X12_isWord hc4) ?_
    refine V_if_ne (t := 55) rfl rfl dX12_isLineWord_36 (fun hc5 => ?_) (fun hc5 => ?_)
    · replace h := ifn hc5 h
      refine V_iconst (v := 1) rfl dX12_isLineWord_55 kc_1 ?_
      refine V_goto (t := 60) rfl dX12_isLineWord_56 ?_
      cases h
      exact V_iret dX12_isLineWord_60 rfl nz_1 (Nat.le_refl _) (Nat.le_refl _) qI_ok
    · replace h := ifp hc5 h
      refine V_aload_n rfl dX12_isLineWord_39 rfl rfl ?_
      refine V_iconst (v := 3) rfl dX12_isLineWord_40 kc_3 ?_
      replace h := cl_e h
      obtain ⟨w6, M7, hc8, h⟩ := h
      refine V_ii (As := [.int _]) rfl dX12_isLineWord_41 mf_X12_isWord ⟨w_1439, w_59⟩ w_1437 (by decide) s0_136 rfl rfl rfl rfl ⟨rfl, rfl⟩ (t_X12_isWord hc8) ?_
      refine V_if_ne (t := 55) rfl rfl dX12_isLineWord_44 (fun hc9 => ?_) (fun hc9 => ?_)
      · replace h := ifn hc9 h
        refine V_iconst (v := 1) rfl dX12_isLineWord_55 kc_1 ?_
        refine V_goto (t := 60) rfl dX12_isLineWord_56 ?_
        cases h
        exact V_iret dX12_isLineWord_60 rfl nz_1 (Nat.le_refl _) (Nat.le_refl _) qI_ok
      · replace h := ifp hc9 h
        refine V_aload_n rfl dX12_isLineWord_47 rfl rfl ?_
        refine V_iconst (v := 4) rfl dX12_isLineWord_48 kc_4 ?_
        replace h := cl_e h
        obtain ⟨w10, M11, hc12, h⟩ := h
        refine V_ii (As := [.int _]) rfl dX12_isLineWord_49 mf_X12_isWord ⟨w_1439, w_59⟩ w_1437 (by decide) s0_136 rfl rfl rfl rfl ⟨rfl, rfl⟩ (t_X12_isWord hc12) ?_
        refine V_if_eq (t := 59) rfl rfl dX12_isLineWord_52 (fun hc13 => ?_) (fun hc13 => ?_)
        · replace h := ifp hc13 h
          refine V_iconst (v := 0) rfl dX12_isLineWord_59 kc_0 ?_
          cases h
          exact V_iret dX12_isLineWord_60 rfl nz_0 (Nat.le_refl _) (Nat.le_refl _) qI_ok
        · replace h := ifn hc13 h
          refine V_iconst (v := 1) rfl dX12_isLineWord_55 kc_1 ?_
          refine V_goto (t := 60) rfl dX12_isLineWord_56 ?_
          cases h
          exact V_iret dX12_isLineWord_60 rfl nz_1 (Nat.le_refl _) (Nat.le_refl _) qI_ok
  · replace h := ifp hc1 h
    refine V_aload_n rfl dX12_isLineWord_7 rfl rfl ?_
    refine V_iconst (v := 0) rfl dX12_isLineWord_8 kc_0 ?_
    replace h := cl_e h
    obtain ⟨w14, M15, hc16, h⟩ := h
    refine V_ii (As := [.int _]) rfl dX12_isLineWord_9 mf_X12_isWord ⟨w_1439, w_59⟩ w_1437 (by decide) s0_136 rfl rfl rfl rfl ⟨rfl, rfl⟩ (t_X12_isWord hc16) ?_
    refine V_if_ne (t := 23) rfl rfl dX12_isLineWord_12 (fun hc17 => ?_) (fun hc17 => ?_)
    · replace h := ifn hc17 h
      refine V_iconst (v := 1) rfl dX12_isLineWord_23 kc_1 ?_
      refine V_goto (t := 60) rfl dX12_isLineWord_24 ?_
      cases h
      exact V_iret dX12_isLineWord_60 rfl nz_1 (Nat.le_refl _) (Nat.le_refl _) qI_ok
    · replace h := ifp hc17 h
      refine V_aload_n rfl dX12_isLineWord_15 rfl rfl ?_
      refine V_iconst (v := 1) rfl dX12_isLineWord_16 kc_1 ?_
      replace h := cl_e h
      obtain ⟨w18, M19, hc20, h⟩ := h
      refine V_ii (As := [.int _]) rfl dX12_isLineWord_17 mf_X12_isWord ⟨w_1439, w_59⟩ w_1437 (by decide) s0_136 rfl rfl rfl rfl ⟨rfl, rfl⟩ (t_X12_isWord hc20) ?_
      refine V_if_eq (t := 27) rfl rfl dX12_isLineWord_20 (fun hc21 => ?_) (fun hc21 => ?_)
      · replace h := ifp hc21 h
        refine V_iconst (v := 0) rfl dX12_isLineWord_27 kc_0 ?_
        refine V_goto (t := 60) rfl dX12_isLineWord_28 ?_
        cases h
        exact V_iret dX12_isLineWord_60 rfl nz_0 (Nat.le_refl _) (Nat.le_refl _) qI_ok
      · replace h := ifn hc21 h
        refine V_iconst (v := 1) rfl dX12_isLineWord_23 kc_1 ?_
        refine V_goto (t := 60) rfl dX12_isLineWord_24 ?_
        cases h
        exact V_iret dX12_isLineWord_60 rfl nz_1 (Nat.le_refl _) (Nat.le_refl _) qI_ok
-- X12_readLaw: NeverHaltedModel.readLaw()I
def f_X12_readLaw_100 (r2 : Int32 → IM → IR) (x1 : Int32) (x2 : Int32) (M : IM) : IR := wr M 149 48 x2 (M 136 28) fun M39 => cl (f_X12_isSign 59 M39) fun w41 M42 => if w41 = 0 then cl (f_X12_errs 1 M42) fun w49 M50 => some (w49, M50) else cl (f_X12_reads M42) fun _ M46 => lt (x1 + 1) fun v48 => r2 v48 M46
set_option maxRecDepth 100000 in
set_option maxHeartbeats 4000000 in
theorem t_X12_readLaw_100 {g : IG} {a : Nat → Nat} {R : Int32 × IM} {r2 : Int32 → IM → IR} {x1 : Int32} {x2 : Int32} {M : IM} (hr2 : ∀ (x1 : Int32) (M : IM), r2 x1 M = some R → V g mX12_readLaw 9 0 0 (qI S0 a R) 2 [some (.ref (a 136)), some (.int x1), none] [] a S0 M 0 0) (h : f_X12_readLaw_100 r2 x1 x2 M = some R) : V g mX12_readLaw 9 0 0 (qI S0 a R) 100 [some (.ref (a 136)), some (.int x1), some (.int x2)] [] a S0 M 0 0 := by
  unfold f_X12_readLaw_100 at h
  refine V_aload_n rfl dX12_readLaw_100 rfl rfl ?_
  refine V_getr (k0 := 24) rfl dX12_readLaw_101 s0_136 icX12 (by decide) rfl w_1213 ?_
  refine V_iload_n rfl dX12_readLaw_104 rfl rfl ?_
  refine V_aload_n rfl dX12_readLaw_105 rfl rfl ?_
  refine V_geti (k0 := 28) rfl dX12_readLaw_106 s0_136 icX12 (by decide) rfl w_1217 ?_
  replace h := wr_e h
  obtain ⟨hb40, h⟩ := h
  refine V_iast rfl dX12_readLaw_109 s0_149 hb40 ?_
  refine V_aload_n rfl dX12_readLaw_110 rfl rfl ?_
  refine V_bipush (v := 59) rfl dX12_readLaw_111 kb_59 ?_
  replace h := cl_e h
  obtain ⟨w41, M42, hc43, h⟩ := h
  refine V_ii (As := [.int _]) rfl dX12_readLaw_113 mf_X12_isSign ⟨w_1467, w_66⟩ w_1465 (by decide) s0_136 rfl rfl rfl rfl ⟨rfl, rfl⟩ (t_X12_isSign hc43) ?_
  refine V_if_ne (t := 125) rfl rfl dX12_readLaw_116 (fun hc44 => ?_) (fun hc44 => ?_)
  · replace h := ifn hc44 h
    refine V_aload_n rfl dX12_readLaw_125 rfl rfl ?_
    replace h := cl_e h
    obtain ⟨w45, M46, hc47, h⟩ := h
    refine V_iv (As := []) rfl dX12_readLaw_126 mf_X12_reads ⟨w_1411, w_52⟩ w_1409 (by decide) s0_136 rfl rfl rfl rfl ⟨rfl, rfl⟩ (t_X12_reads hc47) ?_
    refine V_iload_n rfl dX12_readLaw_129 rfl rfl ?_
    refine V_iconst (v := 1) rfl dX12_readLaw_130 kc_1 ?_
    refine V_iadd rfl dX12_readLaw_131 ?_
    replace h := lt_e h
    refine V_istore_n (L' := [_, _, _]) rfl rfl dX12_readLaw_132 (by decide) rfl ?_
    refine V_goto (t := 2) rfl dX12_readLaw_133 ?_
    exact V_sub (le_s (le_s (le_n le_0))) (hr2 _ _ h)
  · replace h := ifp hc44 h
    refine V_aload_n rfl dX12_readLaw_119 rfl rfl ?_
    refine V_iconst (v := 1) rfl dX12_readLaw_120 kc_1 ?_
    replace h := cl_e h
    obtain ⟨w49, M50, hc51, h⟩ := h
    refine V_ii (As := [.int _]) rfl dX12_readLaw_121 mf_X12_errs ⟨w_1443, w_60⟩ w_1441 (by decide) s0_136 rfl rfl rfl rfl ⟨rfl, rfl⟩ (t_X12_errs hc51) ?_
    cases h
    exact V_iret dX12_readLaw_124 rfl rfl (Nat.le_refl _) (Nat.le_refl _) qI_ok
def f_X12_readLaw_68 (r2 : Int32 → IM → IR) (x1 : Int32) (x2 : Int32) (M : IM) : IR := wr M 148 48 x2 (M 136 28) fun M26 => cl (f_X12_isWord 5 M26) fun w28 M29 => if w28 = 0 then f_X12_readLaw_100 r2 x1 x2 M29 else cl (f_X12_reads M29) fun _ M33 => cl (f_X12_readAny M33) fun w35 M36 => if w35 = (-1) then some ((-1), M36) else f_X12_readLaw_100 r2 x1 x2 M36
set_option maxRecDepth 100000 in
set_option maxHeartbeats 4000000 in
theorem t_X12_readLaw_68 {g : IG} {a : Nat → Nat} {R : Int32 × IM} {r2 : Int32 → IM → IR} {x1 : Int32} {x2 : Int32} {M : IM} (hr2 : ∀ (x1 : Int32) (M : IM), r2 x1 M = some R → V g mX12_readLaw 9 0 0 (qI S0 a R) 2 [some (.ref (a 136)), some (.int x1), none] [] a S0 M 0 0) (h : f_X12_readLaw_68 r2 x1 x2 M = some R) : V g mX12_readLaw 9 0 0 (qI S0 a R) 68 [some (.ref (a 136)), some (.int x1), some (.int x2)] [] a S0 M 0 0 := by
  unfold f_X12_readLaw_68 at h
  refine V_aload_n rfl dX12_readLaw_68 rfl rfl ?_
  refine V_getr (k0 := 23) rfl dX12_readLaw_69 s0_136 icX12 (by decide) rfl w_1212 ?_
  refine V_iload_n rfl dX12_readLaw_72 rfl rfl ?_
  refine V_aload_n rfl dX12_readLaw_73 rfl rfl ?_
  refine V_geti (k0 := 28) rfl dX12_readLaw_74 s0_136 icX12 (by decide) rfl w_1217 ?_
  replace h := wr_e h
  obtain ⟨hb27, h⟩ := h
  refine V_iast rfl dX12_readLaw_77 s0_148 hb27 ?_
  refine V_aload_n rfl dX12_readLaw_78 rfl rfl ?_
  refine V_iconst (v := 5) rfl dX12_readLaw_79 kc_5 ?_
  replace h := cl_e h
  obtain ⟨w28, M29, hc30, h⟩ := h
  refine V_ii (As := [.int _]) rfl dX12_readLaw_80 mf_X12_isWord ⟨w_1439, w_59⟩ w_1437 (by decide) s0_136 rfl rfl rfl rfl ⟨rfl, rfl⟩ (t_X12_isWord hc30) ?_
  refine V_if_eq (t := 100) rfl rfl dX12_readLaw_83 (fun hc31 => ?_) (fun hc31 => ?_)
  · replace h := ifp hc31 h
    exact V_sub (le_s (le_s (le_s le_0))) (t_X12_readLaw_100 hr2 h)
  · replace h := ifn hc31 h
    refine V_aload_n rfl dX12_readLaw_86 rfl rfl ?_
    replace h := cl_e h
    obtain ⟨w32, M33, hc34, h⟩ := h
    refine V_iv (As := []) rfl dX12_readLaw_87 mf_X12_reads ⟨w_1411, w_52⟩ w_1409 (by decide) s0_136 rfl rfl rfl rfl ⟨rfl, rfl⟩ (t_X12_reads hc34) ?_
    refine V_aload_n rfl dX12_readLaw_90 rfl rfl ?_
    replace h := cl_e h
    obtain ⟨w35, M36, hc37, h⟩ := h
    refine V_ii (As := []) rfl dX12_readLaw_91 mf_X12_readAny ⟨w_1507, w_76⟩ w_1505 (by decide) s0_136 rfl rfl rfl rfl ⟨rfl, rfl⟩ (t_X12_readAny hc37) ?_
    refine V_iconst (v := (-1)) rfl dX12_readLaw_94 kc_m1 ?_
    refine V_icmp_ne (t := 100) rfl rfl dX12_readLaw_95 (fun hc38 => ?_) (fun hc38 => ?_)
    · replace h := ifn hc38 h
      exact V_sub (le_s (le_s (le_s le_0))) (t_X12_readLaw_100 hr2 h)
    · replace h := ifp hc38 h
      refine V_iconst (v := (-1)) rfl dX12_readLaw_98 kc_m1 ?_
      cases h
      exact V_iret dX12_readLaw_99 rfl rfl (Nat.le_refl _) (Nat.le_refl _) qI_ok
def f_X12_readLaw_2_b (r2 : Int32 → IM → IR) (x1 : Int32) (M : IM) : IR := cl (f_X12_isLineWord M) fun w1 M2 => if w1 = 0 then if (M2 136 17) = 0 then some (x1, M2) else cl (f_X12_errs 1 M2) fun w6 M7 => some (w6, M7) else if x1 = 16 then cl (f_X12_errs 3 M2) fun w23 M24 => some (w23, M24) else lt (32 + x1) fun v10 => wr M2 146 48 v10 (M2 136 18) fun M11 => cl (f_X12_reads M11) fun _ M14 => wr M14 147 48 v10 (M14 136 28) fun M16 => if (M16 136 27) = 1 then cl (f_X12_readSum M16) fun w19 M20 => if w19 = (-1) then some ((-1), M20) else f_X12_readLaw_68 r2 x1 v10 M20 else f_X12_readLaw_68 r2 x1 v10 M16
def f_X12_readLaw_2 (n : Nat) : Int32 → IM → IR := itr (fun _ _ => none) (f_X12_readLaw_2_b) n
set_option maxRecDepth 100000 in
set_option maxHeartbeats 4000000 in
theorem t_X12_readLaw_2 {g : IG} {a : Nat → Nat} {R : Int32 × IM} (n : Nat) : ∀ (x1 : Int32) (M : IM), f_X12_readLaw_2 n x1 M = some R → V g mX12_readLaw 9 0 0 (qI S0 a R) 2 [some (.ref (a 136)), some (.int x1), none] [] a S0 M 0 0 := by
  induction n with
  | zero => intro x1 M h; exact absurd h (fun z => by cases z)
  | succ n hr2 =>
    intro x1 M h
    replace h : f_X12_readLaw_2_b (f_X12_readLaw_2 n) x1 M = some R := h
    unfold f_X12_readLaw_2_b at h
    refine V_aload_n rfl dX12_readLaw_2 rfl rfl ?_
    replace h := cl_e h
    obtain ⟨w1, M2, hc3, h⟩ := h
    refine V_ii (As := []) rfl dX12_readLaw_3 mf_X12_isLineWord ⟨w_1483, w_70⟩ w_1481 (by decide) s0_136 rfl rfl rfl rfl ⟨rfl, rfl⟩ (t_X12_isLineWord hc3) ?_
    refine V_if_eq (t := 136) rfl rfl dX12_readLaw_6 (fun hc4 => ?_) (fun hc4 => ?_)
    · replace h := ifp hc4 h
      refine V_aload_n rfl dX12_readLaw_136 rfl rfl ?_
      refine V_geti (k0 := 17) rfl dX12_readLaw_137 s0_136 icX12 (by decide) rfl w_1206 ?_
      refine V_if_ne (t := 147) rfl rfl dX12_readLaw_140 (fun hc5 => ?_) (fun hc5 => ?_)
      · replace h := ifn hc5 h
        refine V_aload_n rfl dX12_readLaw_147 rfl rfl ?_
        refine V_iconst (v := 1) rfl dX12_readLaw_148 kc_1 ?_
        replace h := cl_e h
        obtain ⟨w6, M7, hc8, h⟩ := h
        refine V_ii (As := [.int _]) rfl dX12_readLaw_149 mf_X12_errs ⟨w_1443, w_60⟩ w_1441 (by decide) s0_136 rfl rfl rfl rfl ⟨rfl, rfl⟩ (t_X12_errs hc8) ?_
        cases h
        exact V_iret dX12_readLaw_152 rfl rfl (Nat.le_refl _) (Nat.le_refl _) qI_ok
      · replace h := ifp hc5 h
        refine V_iload_n rfl dX12_readLaw_143 rfl rfl ?_
        refine V_goto (t := 152) rfl dX12_readLaw_144 ?_
        cases h
        exact V_iret dX12_readLaw_152 rfl rfl (Nat.le_refl _) (Nat.le_refl _) qI_ok
    · replace h := ifn hc4 h
      refine V_iload_n rfl dX12_readLaw_9 rfl rfl ?_
      refine V_bipush (v := 16) rfl dX12_readLaw_10 kb_16 ?_
      refine V_icmp_ne (t := 21) rfl rfl dX12_readLaw_12 (fun hc9 => ?_) (fun hc9 => ?_)
      · replace h := ifn hc9 h
        refine V_bipush (v := 32) rfl dX12_readLaw_21 kb_32 ?_
        refine V_iload_n rfl dX12_readLaw_23 rfl rfl ?_
        refine V_iadd rfl dX12_readLaw_24 ?_
        replace h := lt_e h
        refine V_istore_n (L' := [_, _, _]) rfl rfl dX12_readLaw_25 (by decide) rfl ?_
        refine V_aload_n rfl dX12_readLaw_26 rfl rfl ?_
        refine V_getr (k0 := 21) rfl dX12_readLaw_27 s0_136 icX12 (by decide) rfl w_1210 ?_
        refine V_iload_n rfl dX12_readLaw_30 rfl rfl ?_
        refine V_aload_n rfl dX12_readLaw_31 rfl rfl ?_
        refine V_geti (k0 := 18) rfl dX12_readLaw_32 s0_136 icX12 (by decide) rfl w_1207 ?_
        replace h := wr_e h
        obtain ⟨hb12, h⟩ := h
        refine V_iast rfl dX12_readLaw_35 s0_146 hb12 ?_
        refine V_aload_n rfl dX12_readLaw_36 rfl rfl ?_
        replace h := cl_e h
        obtain ⟨w13, M14, hc15, h⟩ := h
        refine V_iv (As := []) rfl dX12_readLaw_37 mf_X12_reads ⟨w_1411, w_52⟩ w_1409 (by decide) s0_136 rfl rfl rfl rfl ⟨rfl, rfl⟩ (t_X12_reads hc15) ?_
        refine V_aload_n rfl dX12_readLaw_40 rfl rfl ?_
        refine V_getr (k0 := 22) rfl dX12_readLaw_41 s0_136 icX12 (by decide) rfl w_1211 ?_
        refine V_iload_n rfl dX12_readLaw_44 rfl rfl ?_
        refine V_aload_n rfl dX12_readLaw_45 rfl rfl ?_
        refine V_geti (k0 := 28) rfl dX12_readLaw_46 s0_136 icX12 (by decide) rfl w_1217 ?_
        replace h := wr_e h
        obtain ⟨hb17, h⟩ := h
        refine V_iast rfl dX12_readLaw_49 s0_147 hb17 ?_
        refine V_aload_n rfl dX12_readLaw_50 rfl rfl ?_
        refine V_geti (k0 := 27) rfl dX12_readLaw_51 s0_136 icX12 (by decide) rfl w_1216 ?_
        refine V_iconst (v := 1) rfl dX12_readLaw_54 kc_1 ?_
        refine V_icmp_ne (t := 68) rfl rfl dX12_readLaw_55 (fun hc18 => ?_) (fun hc18 => ?_)
        · replace h := ifn hc18 h
          exact V_sub (le_s (le_s (le_s le_0))) (t_X12_readLaw_68 hr2 h)
        · replace h := ifp hc18 h
          refine V_aload_n rfl dX12_readLaw_58 rfl rfl ?_
          replace h := cl_e h
          obtain ⟨w19, M20, hc21, h⟩ := h
          refine V_ii (As := []) rfl dX12_readLaw_59 mf_X12_readSum ⟨w_1487, w_71⟩ w_1485 (by decide) s0_136 rfl rfl rfl rfl ⟨rfl, rfl⟩ (t_X12_readSum hc21) ?_
          refine V_iconst (v := (-1)) rfl dX12_readLaw_62 kc_m1 ?_
          refine V_icmp_ne (t := 68) rfl rfl dX12_readLaw_63 (fun hc22 => ?_) (fun hc22 => ?_)
          · replace h := ifn hc22 h
            exact V_sub (le_s (le_s (le_s le_0))) (t_X12_readLaw_68 hr2 h)
          · replace h := ifp hc22 h
            refine V_iconst (v := (-1)) rfl dX12_readLaw_66 kc_m1 ?_
            cases h
            exact V_iret dX12_readLaw_67 rfl rfl (Nat.le_refl _) (Nat.le_refl _) qI_ok
      · replace h := ifp hc9 h
        refine V_aload_n rfl dX12_readLaw_15 rfl rfl ?_
        refine V_iconst (v := 3) rfl dX12_readLaw_16 kc_3 ?_
        replace h := cl_e h
        obtain ⟨w23, M24, hc25, h⟩ := h
        refine V_ii (As := [.int _]) rfl dX12_readLaw_17 mf_X12_errs ⟨w_1443, w_60⟩ w_1441 (by decide) s0_136 rfl rfl rfl rfl ⟨rfl, rfl⟩ (t_X12_errs hc25) ?_
        cases h
        exact V_iret dX12_readLaw_20 rfl rfl (Nat.le_refl _) (Nat.le_refl _) qI_ok
def f_X12_readLaw (M : IM) : IR := f_X12_readLaw_2 BG 0 M
set_option maxRecDepth 100000 in
set_option maxHeartbeats 4000000 in
theorem t_X12_readLaw {g : IG} {a : Nat → Nat} {R : Int32 × IM} {M : IM} (h : f_X12_readLaw M = some R) : Cn g mX12_readLaw 9 0 0 (qI S0 a R) [.ref (a 136)] a S0 M := by
  refine Cn_of (L := [some (.ref (a 136)), none, none]) mf_X12_readLaw (cat_r cat_0) (Nat.le_of_ble_eq_true rfl) rfl ?_
  unfold f_X12_readLaw at h
  refine V_iconst (v := 0) rfl dX12_readLaw_0 kc_0 ?_
  refine V_istore_n (L' := [_, _, _]) rfl rfl dX12_readLaw_1 (by decide) rfl ?_
  exact V_sub (le_s (le_s (le_n le_0))) (t_X12_readLaw_2 BG _ _ h)
-- X12_takesLaw: NeverHaltedModel.takesLaw(I)V
def f_X12_takesLaw_107_b (r107 : Int32 → Int32 → IM → IR) (x1 : Int32) (x2 : Int32) (M : IM) : IR := if (M 136 28) ≤ x2 then wr M 145 2 (M 136 27) x1 fun M20 => some (0, M20) else rd M 150 1200 (800 + x2) fun v22 => wr M 150 1200 ((400 * (M 136 27)) + x2) v22 fun M24 => rd M24 151 1200 (800 + x2) fun v26 => wr M24 151 1200 ((400 * (M24 136 27)) + x2) v26 fun M28 => lt (x2 + 1) fun v30 => r107 x1 v30 M28
def f_X12_takesLaw_107 (n : Nat) : Int32 → Int32 → IM → IR := itr (fun _ _ _ => none) (f_X12_takesLaw_107_b) n
set_option maxRecDepth 100000 in
set_option maxHeartbeats 4000000 in
theorem t_X12_takesLaw_107 {g : IG} {a : Nat → Nat} {R : Int32 × IM} (n : Nat) : ∀ (x1 : Int32) (x2 : Int32) (M : IM), f_X12_takesLaw_107 n x1 x2 M = some R → V g mX12_takesLaw 1 0 0 (qV S0 a R) 107 [some (.ref (a 136)), some (.int x1), some (.int x2)] [] a S0 M 0 0 := by
  induction n with
  | zero => intro x1 x2 M h; exact absurd h (fun z => by cases z)
  | succ n hr107 =>
    intro x1 x2 M h
    replace h : f_X12_takesLaw_107_b (f_X12_takesLaw_107 n) x1 x2 M = some R := h
    unfold f_X12_takesLaw_107_b at h
    refine V_iload_n rfl dX12_takesLaw_107 rfl rfl ?_
    refine V_aload_n rfl dX12_takesLaw_108 rfl rfl ?_
    refine V_geti (k0 := 28) rfl dX12_takesLaw_109 s0_136 icX12 (by decide) rfl w_1217 ?_
    refine V_icmp_ge (t := 171) rfl rfl dX12_takesLaw_112 (fun hc19 => ?_) (fun hc19 => ?_)
    · replace h := ifp hc19 h
      refine V_aload_n rfl dX12_takesLaw_171 rfl rfl ?_
      refine V_getr (k0 := 20) rfl dX12_takesLaw_172 s0_136 icX12 (by decide) rfl w_1209 ?_
      refine V_aload_n rfl dX12_takesLaw_175 rfl rfl ?_
      refine V_geti (k0 := 27) rfl dX12_takesLaw_176 s0_136 icX12 (by decide) rfl w_1216 ?_
      refine V_iload_n rfl dX12_takesLaw_179 rfl rfl ?_
      replace h := wr_e h
      obtain ⟨hb21, h⟩ := h
      refine V_iast rfl dX12_takesLaw_180 s0_145 hb21 ?_
      cases h
      exact V_vret dX12_takesLaw_181 rfl (Nat.le_refl _) (Nat.le_refl _) qV_ok
    · replace h := ifn hc19 h
      refine V_aload_n rfl dX12_takesLaw_115 rfl rfl ?_
      refine V_getr (k0 := 25) rfl dX12_takesLaw_116 s0_136 icX12 (by decide) rfl w_1214 ?_
      refine V_sipush (v := 400) rfl dX12_takesLaw_119 ks_400 ?_
      refine V_aload_n rfl dX12_takesLaw_122 rfl rfl ?_
      refine V_geti (k0 := 27) rfl dX12_takesLaw_123 s0_136 icX12 (by decide) rfl w_1216 ?_
      refine V_imul rfl dX12_takesLaw_126 ?_
      refine V_iload_n rfl dX12_takesLaw_127 rfl rfl ?_
      refine V_iadd rfl dX12_takesLaw_128 ?_
      refine V_aload_n rfl dX12_takesLaw_129 rfl rfl ?_
      refine V_getr (k0 := 25) rfl dX12_takesLaw_130 s0_136 icX12 (by decide) rfl w_1214 ?_
      refine V_sipush (v := 800) rfl dX12_takesLaw_133 ks_800 ?_
      refine V_iload_n rfl dX12_takesLaw_136 rfl rfl ?_
      refine V_iadd rfl dX12_takesLaw_137 ?_
      replace h := rd_e h
      obtain ⟨hb23, h⟩ := h
      refine V_iald rfl dX12_takesLaw_138 s0_150 hb23 ?_
      replace h := wr_e h
      obtain ⟨hb25, h⟩ := h
      refine V_iast rfl dX12_takesLaw_139 s0_150 hb25 ?_
      refine V_aload_n rfl dX12_takesLaw_140 rfl rfl ?_
      refine V_getr (k0 := 26) rfl dX12_takesLaw_141 s0_136 icX12 (by decide) rfl w_1215 ?_
      refine V_sipush (v := 400) rfl dX12_takesLaw_144 ks_400 ?_
      refine V_aload_n rfl dX12_takesLaw_147 rfl rfl ?_
      refine V_geti (k0 := 27) rfl dX12_takesLaw_148 s0_136 icX12 (by decide) rfl w_1216 ?_
      refine V_imul rfl dX12_takesLaw_151 ?_
      refine V_iload_n rfl dX12_takesLaw_152 rfl rfl ?_
      refine V_iadd rfl dX12_takesLaw_153 ?_
      refine V_aload_n rfl dX12_takesLaw_154 rfl rfl ?_
      refine V_getr (k0 := 26) rfl dX12_takesLaw_155 s0_136 icX12 (by decide) rfl w_1215 ?_
      refine V_sipush (v := 800) rfl dX12_takesLaw_158 ks_800 ?_
      refine V_iload_n rfl dX12_takesLaw_161 rfl rfl ?_
      refine V_iadd rfl dX12_takesLaw_162 ?_
      replace h := rd_e h
      obtain ⟨hb27, h⟩ := h
      refine V_iald rfl dX12_takesLaw_163 s0_151 hb27 ?_
      replace h := wr_e h
      obtain ⟨hb29, h⟩ := h
      refine V_iast rfl dX12_takesLaw_164 s0_151 hb29 ?_
      replace h := lt_e h
      refine V_inc (L' := [_, _, _]) rfl dX12_takesLaw_165 rfl kc_1 (by decide) rfl ?_
      refine V_goto (t := 107) rfl dX12_takesLaw_168 ?_
      exact V_sub (le_s (le_s (le_s le_0))) (hr107 _ _ _ h)
def f_X12_takesLaw_2_b (r2 : Int32 → Int32 → IM → IR) (x1 : Int32) (x2 : Int32) (M : IM) : IR := if x1 ≤ x2 then f_X12_takesLaw_107 BG x1 0 M else rd M 146 48 (32 + x2) fun v2 => wr M 146 48 ((16 * (M 136 27)) + x2) v2 fun M4 => rd M4 147 48 (32 + x2) fun v6 => wr M4 147 48 ((16 * (M4 136 27)) + x2) v6 fun M8 => rd M8 148 48 (32 + x2) fun v10 => wr M8 148 48 ((16 * (M8 136 27)) + x2) v10 fun M12 => rd M12 149 48 (32 + x2) fun v14 => wr M12 149 48 ((16 * (M12 136 27)) + x2) v14 fun M16 => lt (x2 + 1) fun v18 => r2 x1 v18 M16
def f_X12_takesLaw_2 (n : Nat) : Int32 → Int32 → IM → IR := itr (fun _ _ _ => none) (f_X12_takesLaw_2_b) n
set_option maxRecDepth 100000 in
set_option maxHeartbeats 4000000 in
theorem t_X12_takesLaw_2 {g : IG} {a : Nat → Nat} {R : Int32 × IM} (n : Nat) : ∀ (x1 : Int32) (x2 : Int32) (M : IM), f_X12_takesLaw_2 n x1 x2 M = some R → V g mX12_takesLaw 1 0 0 (qV S0 a R) 2 [some (.ref (a 136)), some (.int x1), some (.int x2)] [] a S0 M 0 0 := by
  induction n with
  | zero => intro x1 x2 M h; exact absurd h (fun z => by cases z)
  | succ n hr2 =>
    intro x1 x2 M h
    replace h : f_X12_takesLaw_2_b (f_X12_takesLaw_2 n) x1 x2 M = some R := h
    unfold f_X12_takesLaw_2_b at h
    refine V_iload_n rfl dX12_takesLaw_2 rfl rfl ?_
    refine V_iload_n rfl dX12_takesLaw_3 rfl rfl ?_
    refine V_icmp_ge (t := 105) rfl rfl dX12_takesLaw_4 (fun hc1 => ?_) (fun hc1 => ?_)
    · replace h := ifp hc1 h
      refine V_iconst (v := 0) rfl dX12_takesLaw_105 kc_0 ?_
      refine V_istore_n (L' := [_, _, _]) rfl rfl dX12_takesLaw_106 (by decide) rfl ?_
      exact V_sub (le_s (le_s (le_s le_0))) (t_X12_takesLaw_107 BG _ _ _ h)
    · replace h := ifn hc1 h
      refine V_aload_n rfl dX12_takesLaw_7 rfl rfl ?_
      refine V_getr (k0 := 21) rfl dX12_takesLaw_8 s0_136 icX12 (by decide) rfl w_1210 ?_
      refine V_bipush (v := 16) rfl dX12_takesLaw_11 kb_16 ?_
      refine V_aload_n rfl dX12_takesLaw_13 rfl rfl ?_
      refine V_geti (k0 := 27) rfl dX12_takesLaw_14 s0_136 icX12 (by decide) rfl w_1216 ?_
      refine V_imul rfl dX12_takesLaw_17 ?_
      refine V_iload_n rfl dX12_takesLaw_18 rfl rfl ?_
      refine V_iadd rfl dX12_takesLaw_19 ?_
      refine V_aload_n rfl dX12_takesLaw_20 rfl rfl ?_
      refine V_getr (k0 := 21) rfl dX12_takesLaw_21 s0_136 icX12 (by decide) rfl w_1210 ?_
      refine V_bipush (v := 32) rfl dX12_takesLaw_24 kb_32 ?_
      refine V_iload_n rfl dX12_takesLaw_26 rfl rfl ?_
      refine V_iadd rfl dX12_takesLaw_27 ?_
      replace h := rd_e h
      obtain ⟨hb3, h⟩ := h
      refine V_iald rfl dX12_takesLaw_28 s0_146 hb3 ?_
      replace h := wr_e h
      obtain ⟨hb5, h⟩ := h
      refine V_iast rfl dX12_takesLaw_29 s0_146 hb5 ?_
      refine V_aload_n rfl dX12_takesLaw_30 rfl rfl ?_
      refine V_getr (k0 := 22) rfl dX12_takesLaw_31 s0_136 icX12 (by decide) rfl w_1211 ?_
      refine V_bipush (v := 16) rfl dX12_takesLaw_34 kb_16 ?_
      refine V_aload_n rfl dX12_takesLaw_36 rfl rfl ?_
      refine V_geti (k0 := 27) rfl dX12_takesLaw_37 s0_136 icX12 (by decide) rfl w_1216 ?_
      refine V_imul rfl dX12_takesLaw_40 ?_
      refine V_iload_n rfl dX12_takesLaw_41 rfl rfl ?_
      refine V_iadd rfl dX12_takesLaw_42 ?_
      refine V_aload_n rfl dX12_takesLaw_43 rfl rfl ?_
      refine V_getr (k0 := 22) rfl dX12_takesLaw_44 s0_136 icX12 (by decide) rfl w_1211 ?_
      refine V_bipush (v := 32) rfl dX12_takesLaw_47 kb_32 ?_
      refine V_iload_n rfl dX12_takesLaw_49 rfl rfl ?_
      refine V_iadd rfl dX12_takesLaw_50 ?_
      replace h := rd_e h
      obtain ⟨hb7, h⟩ := h
      refine V_iald rfl dX12_takesLaw_51 s0_147 hb7 ?_
      replace h := wr_e h
      obtain ⟨hb9, h⟩ := h
      refine V_iast rfl dX12_takesLaw_52 s0_147 hb9 ?_
      refine V_aload_n rfl dX12_takesLaw_53 rfl rfl ?_
      refine V_getr (k0 := 23) rfl dX12_takesLaw_54 s0_136 icX12 (by decide) rfl w_1212 ?_
      refine V_bipush (v := 16) rfl dX12_takesLaw_57 kb_16 ?_
      refine V_aload_n rfl dX12_takesLaw_59 rfl rfl ?_
      refine V_geti (k0 := 27) rfl dX12_takesLaw_60 s0_136 icX12 (by decide) rfl w_1216 ?_
      refine V_imul rfl dX12_takesLaw_63 ?_
      refine V_iload_n rfl dX12_takesLaw_64 rfl rfl ?_
      refine V_iadd rfl dX12_takesLaw_65 ?_
      refine V_aload_n rfl dX12_takesLaw_66 rfl rfl ?_
      refine V_getr (k0 := 23) rfl dX12_takesLaw_67 s0_136 icX12 (by decide) rfl w_1212 ?_
      refine V_bipush (v := 32) rfl dX12_takesLaw_70 kb_32 ?_
      refine V_iload_n rfl dX12_takesLaw_72 rfl rfl ?_
      refine V_iadd rfl dX12_takesLaw_73 ?_
      replace h := rd_e h
      obtain ⟨hb11, h⟩ := h
      refine V_iald rfl dX12_takesLaw_74 s0_148 hb11 ?_
      replace h := wr_e h
      obtain ⟨hb13, h⟩ := h
      refine V_iast rfl dX12_takesLaw_75 s0_148 hb13 ?_
      refine V_aload_n rfl dX12_takesLaw_76 rfl rfl ?_
      refine V_getr (k0 := 24) rfl dX12_takesLaw_77 s0_136 icX12 (by decide) rfl w_1213 ?_
      refine V_bipush (v := 16) rfl dX12_takesLaw_80 kb_16 ?_
      refine V_aload_n rfl dX12_takesLaw_82 rfl rfl ?_
      refine V_geti (k0 := 27) rfl dX12_takesLaw_83 s0_136 icX12 (by decide) rfl w_1216 ?_
      refine V_imul rfl dX12_takesLaw_86 ?_
      refine V_iload_n rfl dX12_takesLaw_87 rfl rfl ?_
      refine V_iadd rfl dX12_takesLaw_88 ?_
      refine V_aload_n rfl dX12_takesLaw_89 rfl rfl ?_
      refine V_getr (k0 := 24) rfl dX12_takesLaw_90 s0_136 icX12 (by decide) rfl w_1213 ?_
      refine V_bipush (v := 32) rfl dX12_takesLaw_93 kb_32 ?_
      refine V_iload_n rfl dX12_takesLaw_95 rfl rfl ?_
      refine V_iadd rfl dX12_takesLaw_96 ?_
      replace h := rd_e h
      obtain ⟨hb15, h⟩ := h
      refine V_iald rfl dX12_takesLaw_97 s0_149 hb15 ?_
      replace h := wr_e h
      obtain ⟨hb17, h⟩ := h
      refine V_iast rfl dX12_takesLaw_98 s0_149 hb17 ?_
      replace h := lt_e h
      refine V_inc (L' := [_, _, _]) rfl dX12_takesLaw_99 rfl kc_1 (by decide) rfl ?_
      refine V_goto (t := 2) rfl dX12_takesLaw_102 ?_
      exact V_sub (le_s (le_s (le_s le_0))) (hr2 _ _ _ h)
def f_X12_takesLaw (p1 : Int32) (M : IM) : IR := f_X12_takesLaw_2 BG p1 0 M
set_option maxRecDepth 100000 in
set_option maxHeartbeats 4000000 in
theorem t_X12_takesLaw {g : IG} {a : Nat → Nat} {R : Int32 × IM} {p1 : Int32} {M : IM} (h : f_X12_takesLaw p1 M = some R) : Cn g mX12_takesLaw 1 0 0 (qV S0 a R) [.ref (a 136), .int p1] a S0 M := by
  refine Cn_of (L := [some (.ref (a 136)), some (.int p1), none]) mf_X12_takesLaw (cat_r (cat_i cat_0)) (Nat.le_of_ble_eq_true rfl) rfl ?_
  unfold f_X12_takesLaw at h
  refine V_iconst (v := 0) rfl dX12_takesLaw_0 kc_0 ?_
  refine V_istore_n (L' := [_, _, _]) rfl rfl dX12_takesLaw_1 (by decide) rfl ?_
  exact V_sub (le_s (le_s (le_s le_0))) (t_X12_takesLaw_2 BG _ _ _ h)
-- X12_readNumber: NeverHaltedModel.readNumber(II)I
def f_X12_readNumber (p1 : Int32) (p2 : Int32) (M : IM) : IR := if (M 136 17) = 3 then cl (f_X12_isIn (M 136 18) p1 p2 M) fun w2 M3 => if w2 = 0 then cl (f_X12_errs 2 M3) fun w10 M11 => some (w10, M11) else lt (M3 136 18) fun v6 => cl (f_X12_reads M3) fun _ M8 => some (v6, M8) else cl (f_X12_errs 1 M) fun w13 M14 => some (w13, M14)
set_option maxRecDepth 100000 in
set_option maxHeartbeats 4000000 in
theorem t_X12_readNumber {g : IG} {a : Nat → Nat} {R : Int32 × IM} {p1 : Int32} {p2 : Int32} {M : IM} (h : f_X12_readNumber p1 p2 M = some R) : Cn g mX12_readNumber 4 0 0 (qI S0 a R) [.ref (a 136), .int p1, .int p2] a S0 M := by
  refine Cn_of (L := [some (.ref (a 136)), some (.int p1), some (.int p2), none]) mf_X12_readNumber (cat_r (cat_i (cat_i cat_0))) (Nat.le_of_ble_eq_true rfl) rfl ?_
  unfold f_X12_readNumber at h
  refine V_aload_n rfl dX12_readNumber_0 rfl rfl ?_
  refine V_geti (k0 := 17) rfl dX12_readNumber_1 s0_136 icX12 (by decide) rfl w_1206 ?_
  refine V_iconst (v := 3) rfl dX12_readNumber_4 kc_3 ?_
  refine V_icmp_eq (t := 14) rfl rfl dX12_readNumber_5 (fun hc1 => ?_) (fun hc1 => ?_)
  · replace h := ifp hc1 h
    refine V_aload_n rfl dX12_readNumber_14 rfl rfl ?_
    refine V_aload_n rfl dX12_readNumber_15 rfl rfl ?_
    refine V_geti (k0 := 18) rfl dX12_readNumber_16 s0_136 icX12 (by decide) rfl w_1207 ?_
    refine V_iload_n rfl dX12_readNumber_19 rfl rfl ?_
    refine V_iload_n rfl dX12_readNumber_20 rfl rfl ?_
    replace h := cl_e h
    obtain ⟨w2, M3, hc4, h⟩ := h
    refine V_ii (As := [.int _, .int _, .int _]) rfl dX12_readNumber_21 mf_X12_isIn ⟨w_1367, w_47⟩ w_1365 (by decide) s0_136 rfl rfl rfl rfl ⟨rfl, rfl⟩ (t_X12_isIn hc4) ?_
    refine V_if_ne (t := 33) rfl rfl dX12_readNumber_24 (fun hc5 => ?_) (fun hc5 => ?_)
    · replace h := ifn hc5 h
      refine V_aload_n rfl dX12_readNumber_33 rfl rfl ?_
      refine V_geti (k0 := 18) rfl dX12_readNumber_34 s0_136 icX12 (by decide) rfl w_1207 ?_
      replace h := lt_e h
      refine V_istore_n (L' := [_, _, _, _]) rfl rfl dX12_readNumber_37 (by decide) rfl ?_
      refine V_aload_n rfl dX12_readNumber_38 rfl rfl ?_
      replace h := cl_e h
      obtain ⟨w7, M8, hc9, h⟩ := h
      refine V_iv (As := []) rfl dX12_readNumber_39 mf_X12_reads ⟨w_1411, w_52⟩ w_1409 (by decide) s0_136 rfl rfl rfl rfl ⟨rfl, rfl⟩ (t_X12_reads hc9) ?_
      refine V_iload_n rfl dX12_readNumber_42 rfl rfl ?_
      cases h
      exact V_iret dX12_readNumber_43 rfl rfl (Nat.le_refl _) (Nat.le_refl _) qI_ok
    · replace h := ifp hc5 h
      refine V_aload_n rfl dX12_readNumber_27 rfl rfl ?_
      refine V_iconst (v := 2) rfl dX12_readNumber_28 kc_2 ?_
      replace h := cl_e h
      obtain ⟨w10, M11, hc12, h⟩ := h
      refine V_ii (As := [.int _]) rfl dX12_readNumber_29 mf_X12_errs ⟨w_1443, w_60⟩ w_1441 (by decide) s0_136 rfl rfl rfl rfl ⟨rfl, rfl⟩ (t_X12_errs hc12) ?_
      cases h
      exact V_iret dX12_readNumber_32 rfl rfl (Nat.le_refl _) (Nat.le_refl _) qI_ok
  · replace h := ifn hc1 h
    refine V_aload_n rfl dX12_readNumber_8 rfl rfl ?_
    refine V_iconst (v := 1) rfl dX12_readNumber_9 kc_1 ?_
    replace h := cl_e h
    obtain ⟨w13, M14, hc15, h⟩ := h
    refine V_ii (As := [.int _]) rfl dX12_readNumber_10 mf_X12_errs ⟨w_1443, w_60⟩ w_1441 (by decide) s0_136 rfl rfl rfl rfl ⟨rfl, rfl⟩ (t_X12_errs hc15) ?_
    cases h
    exact V_iret dX12_readNumber_13 rfl rfl (Nat.le_refl _) (Nat.le_refl _) qI_ok
