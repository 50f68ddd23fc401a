-- X8_clocksOf: NeverHalted$Shifts.clocksOf(I)I
def f_X8_clocksOf_4_b (o0 : Nat) (r4 : Int32 → Int32 → Int32 → IM → IR) (x1 : Int32) (x2 : Int32) (x3 : Int32) (M : IM) : IR := if (M o0 0) ≤ x3 then some (x2, M) else rd M (o0 + 1) 16 x3 fun v2 => if v2 = x1 then rd M (o0 + 2) 16 x3 fun v6 => lt (x2 ||| v6) fun v8 => lt (x3 + 1) fun v9 => r4 x1 v8 v9 M else lt (x3 + 1) fun v5 => r4 x1 x2 v5 M
def f_X8_clocksOf_4 (o0 : Nat) (n : Nat) : Int32 → Int32 → Int32 → IM → IR := itr (fun _ _ _ _ => none) (f_X8_clocksOf_4_b o0) n
set_option maxRecDepth 100000 in
set_option maxHeartbeats 4000000 in
theorem t_X8_clocksOf_4 {g : IG} {a : Nat → Nat} {R : Int32 × IM} {o0 : Nat} (h0 : isShifts o0) (n : Nat) : ∀ (x1 : Int32) (x2 : Int32) (x3 : Int32) (M : IM), f_X8_clocksOf_4 o0 n x1 x2 x3 M = some R → V g mX8_clocksOf 1 0 0 (qI S0 a R) 4 [some (.ref (a o0)), some (.int x1), some (.int x2), some (.int x3)] [] a S0 M 0 0 := by
  induction n with
  | zero => intro x1 x2 x3 M h; exact absurd h (fun z => by cases z)
  | succ n hr4 =>
    intro x1 x2 x3 M h
    replace h : f_X8_clocksOf_4_b o0 (f_X8_clocksOf_4 o0 n) x1 x2 x3 M = some R := h
    unfold f_X8_clocksOf_4_b at h
    refine V_iload_n rfl dX8_clocksOf_4 rfl rfl ?_
    refine V_aload_n rfl dX8_clocksOf_5 rfl rfl ?_
    refine V_geti (k0 := 0) rfl dX8_clocksOf_6 (isShifts_0 h0) icX8 (by decide) rfl w_324 ?_
    refine V_icmp_ge (t := 37) rfl rfl dX8_clocksOf_9 (fun hc1 => ?_) (fun hc1 => ?_)
    · replace h := ifp hc1 h
      refine V_iload_n rfl dX8_clocksOf_37 rfl rfl ?_
      cases h
      exact V_iret dX8_clocksOf_38 rfl rfl (Nat.le_refl _) (Nat.le_refl _) qI_ok
    · replace h := ifn hc1 h
      refine V_aload_n rfl dX8_clocksOf_12 rfl rfl ?_
      refine V_getr (k0 := 1) rfl dX8_clocksOf_13 (isShifts_0 h0) icX8 (by decide) rfl w_327 ?_
      refine V_iload_n rfl dX8_clocksOf_16 rfl rfl ?_
      replace h := rd_e h
      obtain ⟨hb3, h⟩ := h
      refine V_iald rfl dX8_clocksOf_17 (isShifts_1 h0) hb3 ?_
      refine V_iload_n rfl dX8_clocksOf_18 rfl rfl ?_
      refine V_icmp_ne (t := 31) rfl rfl dX8_clocksOf_19 (fun hc4 => ?_) (fun hc4 => ?_)
      · replace h := ifn hc4 h
        replace h := lt_e h
        refine V_inc (L' := [_, _, _, _]) rfl dX8_clocksOf_31 rfl kc_1 (by decide) rfl ?_
        refine V_goto (t := 4) rfl dX8_clocksOf_34 ?_
        exact V_sub (le_s (le_s (le_s (le_s le_0)))) (hr4 _ _ _ _ h)
      · replace h := ifp hc4 h
        refine V_iload_n rfl dX8_clocksOf_22 rfl rfl ?_
        refine V_aload_n rfl dX8_clocksOf_23 rfl rfl ?_
        refine V_getr (k0 := 2) rfl dX8_clocksOf_24 (isShifts_0 h0) icX8 (by decide) rfl w_328 ?_
        refine V_iload_n rfl dX8_clocksOf_27 rfl rfl ?_
        replace h := rd_e h
        obtain ⟨hb7, h⟩ := h
        refine V_iald rfl dX8_clocksOf_28 (isShifts_2 h0) hb7 ?_
        refine V_ior rfl dX8_clocksOf_29 ?_
        replace h := lt_e h
        refine V_istore_n (L' := [_, _, _, _]) rfl rfl dX8_clocksOf_30 (by decide) rfl ?_
        replace h := lt_e h
        refine V_inc (L' := [_, _, _, _]) rfl dX8_clocksOf_31 rfl kc_1 (by decide) rfl ?_
        refine V_goto (t := 4) rfl dX8_clocksOf_34 ?_
        exact V_sub (le_s (le_s (le_s (le_s le_0)))) (hr4 _ _ _ _ h)
def f_X8_clocksOf (o0 : Nat) (p1 : Int32) (M : IM) : IR := f_X8_clocksOf_4 o0 BG p1 0 0 M
set_option maxRecDepth 100000 in
set_option maxHeartbeats 4000000 in
theorem t_X8_clocksOf {g : IG} {a : Nat → Nat} {R : Int32 × IM} {o0 : Nat} {p1 : Int32} {M : IM} (h0 : isShifts o0) (h : f_X8_clocksOf o0 p1 M = some R) : Cn g mX8_clocksOf 1 0 0 (qI S0 a R) [.ref (a o0), .int p1] a S0 M := by
  refine Cn_of (L := [some (.ref (a o0)), some (.int p1), none, none]) mf_X8_clocksOf (cat_r (cat_i cat_0)) (Nat.le_of_ble_eq_true rfl) rfl ?_
  unfold f_X8_clocksOf at h
  refine V_iconst (v := 0) rfl dX8_clocksOf_0 kc_0 ?_
  refine V_istore_n (L' := [_, _, _, _]) rfl rfl dX8_clocksOf_1 (by decide) rfl ?_
  refine V_iconst (v := 0) rfl dX8_clocksOf_2 kc_0 ?_
  refine V_istore_n (L' := [_, _, _, _]) rfl rfl dX8_clocksOf_3 (by decide) rfl ?_
  exact V_sub (le_s (le_s (le_s (le_s le_0)))) (t_X8_clocksOf_4 h0 BG _ _ _ _ h)
-- X0_setFeet: NeverHalted$Asked.setFeet(II)V
def f_X0_setFeet (p1 : Int32) (p2 : Int32) (M : IM) : IR := wr M 120 9 0 p1 fun M1 => wr M1 120 9 1 p2 fun M3 => some (0, M3)
set_option maxRecDepth 100000 in
set_option maxHeartbeats 4000000 in
theorem t_X0_setFeet {g : IG} {a : Nat → Nat} {R : Int32 × IM} {p1 : Int32} {p2 : Int32} {M : IM} (h : f_X0_setFeet p1 p2 M = some R) : Cn g mX0_setFeet 1 0 0 (qV S0 a R) [.ref (a 119), .int p1, .int p2] a S0 M := by
  refine Cn_of (L := [some (.ref (a 119)), some (.int p1), some (.int p2)]) mf_X0_setFeet (cat_r (cat_i (cat_i cat_0))) (Nat.le_of_ble_eq_true rfl) rfl ?_
  unfold f_X0_setFeet at h
  refine V_aload_n rfl dX0_setFeet_0 rfl rfl ?_
  refine V_getr (k0 := 0) rfl dX0_setFeet_1 s0_119 icX0 (by decide) rfl w_459 ?_
  refine V_iconst (v := 0) rfl dX0_setFeet_4 kc_0 ?_
  refine V_iload_n rfl dX0_setFeet_5 rfl rfl ?_
  replace h := wr_e h
  obtain ⟨hb2, h⟩ := h
  refine V_iast rfl dX0_setFeet_6 s0_120 hb2 ?_
  refine V_aload_n rfl dX0_setFeet_7 rfl rfl ?_
  refine V_getr (k0 := 0) rfl dX0_setFeet_8 s0_119 icX0 (by decide) rfl w_459 ?_
  refine V_iconst (v := 1) rfl dX0_setFeet_11 kc_1 ?_
  refine V_iload_n rfl dX0_setFeet_12 rfl rfl ?_
  replace h := wr_e h
  obtain ⟨hb4, h⟩ := h
  refine V_iast rfl dX0_setFeet_13 s0_120 hb4 ?_
  cases h
  exact V_vret dX0_setFeet_14 rfl (Nat.le_refl _) (Nat.le_refl _) qV_ok
-- X0_setHour: NeverHalted$Asked.setHour(I)V
def f_X0_setHour (p1 : Int32) (M : IM) : IR := wr M 120 9 3 (p1 - p1 / 24 * 24) fun M1 => wr M1 120 9 4 (p1 / 24) fun M3 => some (0, M3)
set_option maxRecDepth 100000 in
set_option maxHeartbeats 4000000 in
theorem t_X0_setHour {g : IG} {a : Nat → Nat} {R : Int32 × IM} {p1 : Int32} {M : IM} (h : f_X0_setHour p1 M = some R) : Cn g mX0_setHour 1 0 0 (qV S0 a R) [.ref (a 119), .int p1] a S0 M := by
  refine Cn_of (L := [some (.ref (a 119)), some (.int p1)]) mf_X0_setHour (cat_r (cat_i cat_0)) (Nat.le_of_ble_eq_true rfl) rfl ?_
  unfold f_X0_setHour at h
  refine V_aload_n rfl dX0_setHour_0 rfl rfl ?_
  refine V_getr (k0 := 0) rfl dX0_setHour_1 s0_119 icX0 (by decide) rfl w_459 ?_
  refine V_iconst (v := 3) rfl dX0_setHour_4 kc_3 ?_
  refine V_iload_n rfl dX0_setHour_5 rfl rfl ?_
  refine V_bipush (v := 24) rfl dX0_setHour_6 kb_24 ?_
  refine V_irem rfl dX0_setHour_8 (by decide) ?_
  replace h := wr_e h
  obtain ⟨hb2, h⟩ := h
  refine V_iast rfl dX0_setHour_9 s0_120 hb2 ?_
  refine V_aload_n rfl dX0_setHour_10 rfl rfl ?_
  refine V_getr (k0 := 0) rfl dX0_setHour_11 s0_119 icX0 (by decide) rfl w_459 ?_
  refine V_iconst (v := 4) rfl dX0_setHour_14 kc_4 ?_
  refine V_iload_n rfl dX0_setHour_15 rfl rfl ?_
  refine V_bipush (v := 24) rfl dX0_setHour_16 kb_24 ?_
  refine V_idiv rfl dX0_setHour_18 (by decide) ?_
  replace h := wr_e h
  obtain ⟨hb4, h⟩ := h
  refine V_iast rfl dX0_setHour_19 s0_120 hb4 ?_
  cases h
  exact V_vret dX0_setHour_20 rfl (Nat.le_refl _) (Nat.le_refl _) qV_ok
-- X7_isRiver: NeverHalted$Round.isRiver(II)Z
def f_X7_isRiver (o0 : Nat) (p1 : Int32) (p2 : Int32) (M : IM) : IR := if (M o0 0) ≤ p1 then some (0, M) else rd M (o0 + 2) 8 p1 fun v2 => rd M (o0 + 3) 8 p1 fun v4 => if p2 < (v2 - v4) then some (0, M) else some (1, M)
set_option maxRecDepth 100000 in
set_option maxHeartbeats 4000000 in
theorem t_X7_isRiver {g : IG} {a : Nat → Nat} {R : Int32 × IM} {o0 : Nat} {p1 : Int32} {p2 : Int32} {M : IM} (h0 : isRound o0) (h : f_X7_isRiver o0 p1 p2 M = some R) : Cn g mX7_isRiver 1 0 0 (qI S0 a R) [.ref (a o0), .int p1, .int p2] a S0 M := by
  refine Cn_of (L := [some (.ref (a o0)), some (.int p1), some (.int p2)]) mf_X7_isRiver (cat_r (cat_i (cat_i cat_0))) (Nat.le_of_ble_eq_true rfl) rfl ?_
  unfold f_X7_isRiver at h
  refine V_iload_n rfl dX7_isRiver_0 rfl rfl ?_
  refine V_aload_n rfl dX7_isRiver_1 rfl rfl ?_
  refine V_geti (k0 := 0) rfl dX7_isRiver_2 (isRound_0 h0) icX7 (by decide) rfl w_294 ?_
  refine V_icmp_ge (t := 29) rfl rfl dX7_isRiver_5 (fun hc1 => ?_) (fun hc1 => ?_)
  · replace h := ifp hc1 h
    refine V_iconst (v := 0) rfl dX7_isRiver_29 kc_0 ?_
    cases h
    exact V_iret dX7_isRiver_30 rfl nz_0 (Nat.le_refl _) (Nat.le_refl _) qI_ok
  · replace h := ifn hc1 h
    refine V_iload_n rfl dX7_isRiver_8 rfl rfl ?_
    refine V_aload_n rfl dX7_isRiver_9 rfl rfl ?_
    refine V_getr (k0 := 2) rfl dX7_isRiver_10 (isRound_0 h0) icX7 (by decide) rfl w_301 ?_
    refine V_iload_n rfl dX7_isRiver_13 rfl rfl ?_
    replace h := rd_e h
    obtain ⟨hb3, h⟩ := h
    refine V_iald rfl dX7_isRiver_14 (isRound_2 h0) hb3 ?_
    refine V_aload_n rfl dX7_isRiver_15 rfl rfl ?_
    refine V_getr (k0 := 3) rfl dX7_isRiver_16 (isRound_0 h0) icX7 (by decide) rfl w_303 ?_
    refine V_iload_n rfl dX7_isRiver_19 rfl rfl ?_
    replace h := rd_e h
    obtain ⟨hb5, h⟩ := h
    refine V_iald rfl dX7_isRiver_20 (isRound_3 h0) hb5 ?_
    refine V_isub rfl dX7_isRiver_21 ?_
    refine V_icmp_lt (t := 29) rfl rfl dX7_isRiver_22 (fun hc6 => ?_) (fun hc6 => ?_)
    · replace h := ifp hc6 h
      refine V_iconst (v := 0) rfl dX7_isRiver_29 kc_0 ?_
      cases h
      exact V_iret dX7_isRiver_30 rfl nz_0 (Nat.le_refl _) (Nat.le_refl _) qI_ok
    · replace h := ifn hc6 h
      refine V_iconst (v := 1) rfl dX7_isRiver_25 kc_1 ?_
      refine V_goto (t := 30) rfl dX7_isRiver_26 ?_
      cases h
      exact V_iret dX7_isRiver_30 rfl nz_1 (Nat.le_refl _) (Nat.le_refl _) qI_ok
-- X0_meet: NeverHalted$Asked.meet(LNeverHalted$Now;LNeverHalted$Round;I)V
def f_X0_meet_125 (o1 : Nat) (o2 : Nat) (y1 : Int32) (y2 : Int32) (M : IM) : IR := wr M 120 9 y1 y2 fun M30 => wr M30 120 9 8 (M30 o1 8) fun M32 => some (0, M32)
set_option maxRecDepth 100000 in
set_option maxHeartbeats 4000000 in
theorem t_X0_meet_125 {g : IG} {a : Nat → Nat} {R : Int32 × IM} {o1 : Nat} {o2 : Nat} {y1 : Int32} {y2 : Int32} {M : IM} (h1 : isNow o1) (h2 : isRound o2) (h : f_X0_meet_125 o1 o2 y1 y2 M = some R) : V g mX0_meet 2 0 0 (qV S0 a R) 125 [some (.ref (a 119)), some (.ref (a o1)), none, none, none] [.int y2, .int y1, .ref (a 120)] a S0 M 0 0 := by
  unfold f_X0_meet_125 at h
  replace h := wr_e h
  obtain ⟨hb31, h⟩ := h
  refine V_iast rfl dX0_meet_125 s0_120 hb31 ?_
  refine V_aload_n rfl dX0_meet_126 rfl rfl ?_
  refine V_getr (k0 := 0) rfl dX0_meet_127 s0_119 icX0 (by decide) rfl w_459 ?_
  refine V_bipush (v := 8) rfl dX0_meet_130 kb_8 ?_
  refine V_aload_n rfl dX0_meet_132 rfl rfl ?_
  refine V_geti (k0 := 8) rfl dX0_meet_133 (isNow_0 h1) icX4 (by decide) rfl w_195 ?_
  replace h := wr_e h
  obtain ⟨hb33, h⟩ := h
  refine V_iast rfl dX0_meet_136 s0_120 hb33 ?_
  cases h
  exact V_vret dX0_meet_137 rfl (Nat.le_refl _) (Nat.le_refl _) qV_ok
def f_X0_meet_87 (o1 : Nat) (o2 : Nat) (y1 : Int32) (y2 : Int32) (M : IM) : IR := wr M 120 9 y1 y2 fun M22 => wr M22 120 9 6 (M22 o1 2) fun M24 => cl (f_X7_isRiver o2 (M24 o1 2) (M24 o1 3) M24) fun w26 M27 => if w26 = 0 then f_X0_meet_125 o1 o2 7 0 M27 else f_X0_meet_125 o1 o2 7 1 M27
set_option maxRecDepth 100000 in
set_option maxHeartbeats 4000000 in
theorem t_X0_meet_87 {g : IG} {a : Nat → Nat} {R : Int32 × IM} {o1 : Nat} {o2 : Nat} {y1 : Int32} {y2 : Int32} {M : IM} (h1 : isNow o1) (h2 : isRound o2) (h : f_X0_meet_87 o1 o2 y1 y2 M = some R) : V g mX0_meet 2 0 0 (qV S0 a R) 87 [some (.ref (a 119)), some (.ref (a o1)), some (.ref (a o2)), none, none] [.int y2, .int y1, .ref (a 120)] a S0 M 0 0 := by
  unfold f_X0_meet_87 at h
  replace h := wr_e h
  obtain ⟨hb23, h⟩ := h
  refine V_iast rfl dX0_meet_87 s0_120 hb23 ?_
  refine V_aload_n rfl dX0_meet_88 rfl rfl ?_
  refine V_getr (k0 := 0) rfl dX0_meet_89 s0_119 icX0 (by decide) rfl w_459 ?_
  refine V_bipush (v := 6) rfl dX0_meet_92 kb_6 ?_
  refine V_aload_n rfl dX0_meet_94 rfl rfl ?_
  refine V_geti (k0 := 2) rfl dX0_meet_95 (isNow_0 h1) icX4 (by decide) rfl w_181 ?_
  replace h := wr_e h
  obtain ⟨hb25, h⟩ := h
  refine V_iast rfl dX0_meet_98 s0_120 hb25 ?_
  refine V_aload_n rfl dX0_meet_99 rfl rfl ?_
  refine V_getr (k0 := 0) rfl dX0_meet_100 s0_119 icX0 (by decide) rfl w_459 ?_
  refine V_bipush (v := 7) rfl dX0_meet_103 kb_7 ?_
  refine V_aload_n rfl dX0_meet_105 rfl rfl ?_
  refine V_aload_n rfl dX0_meet_106 rfl rfl ?_
  refine V_geti (k0 := 2) rfl dX0_meet_107 (isNow_0 h1) icX4 (by decide) rfl w_181 ?_
  refine V_aload_n rfl dX0_meet_110 rfl rfl ?_
  refine V_geti (k0 := 3) rfl dX0_meet_111 (isNow_0 h1) icX4 (by decide) rfl w_184 ?_
  replace h := cl_e h
  obtain ⟨w26, M27, hc28, h⟩ := h
  refine V_ii (As := [.int _, .int _]) rfl dX0_meet_114 mf_X7_isRiver ⟨w_864, w_865⟩ w_863 (by decide) (isRound_0 h2) rfl rfl rfl rfl ⟨rfl, rfl⟩ (t_X7_isRiver h2 hc28) ?_
  refine V_if_eq (t := 124) rfl rfl dX0_meet_117 (fun hc29 => ?_) (fun hc29 => ?_)
  · replace h := ifp hc29 h
    refine V_iconst (v := 0) rfl dX0_meet_124 kc_0 ?_
    exact V_sub (le_s (le_s (le_n (le_n (le_n le_0))))) (t_X0_meet_125 h1 h2 h)
  · replace h := ifn hc29 h
    refine V_iconst (v := 1) rfl dX0_meet_120 kc_1 ?_
    refine V_goto (t := 125) rfl dX0_meet_121 ?_
    exact V_sub (le_s (le_s (le_n (le_n (le_n le_0))))) (t_X0_meet_125 h1 h2 h)
def f_X0_meet_70 (o1 : Nat) (o2 : Nat) (y0 : Int32) (M : IM) : IR := if y0 = 0 then f_X0_meet_87 o1 o2 5 0 M else f_X0_meet_87 o1 o2 5 1 M
set_option maxRecDepth 100000 in
set_option maxHeartbeats 4000000 in
theorem t_X0_meet_70 {g : IG} {a : Nat → Nat} {R : Int32 × IM} {o1 : Nat} {o2 : Nat} {y0 : Int32} {M : IM} (h1 : isNow o1) (h2 : isRound o2) (h : f_X0_meet_70 o1 o2 y0 M = some R) : V g mX0_meet 2 0 0 (qV S0 a R) 70 [some (.ref (a 119)), some (.ref (a o1)), some (.ref (a o2)), none, none] [.int y0] a S0 M 0 0 := by
  unfold f_X0_meet_70 at h
  refine V_istore (L' := [_, _, _, _, _]) rfl dX0_meet_70 (by decide) rfl ?_
  refine V_aload_n rfl dX0_meet_72 rfl rfl ?_
  refine V_getr (k0 := 0) rfl dX0_meet_73 s0_119 icX0 (by decide) rfl w_459 ?_
  refine V_iconst (v := 5) rfl dX0_meet_76 kc_5 ?_
  refine V_iload rfl dX0_meet_77 rfl ?_
  refine V_if_eq (t := 86) rfl rfl dX0_meet_79 (fun hc21 => ?_) (fun hc21 => ?_)
  · replace h := ifp hc21 h
    refine V_iconst (v := 0) rfl dX0_meet_86 kc_0 ?_
    exact V_sub (le_s (le_s (le_s (le_n (le_n le_0))))) (t_X0_meet_87 h1 h2 h)
  · replace h := ifn hc21 h
    refine V_iconst (v := 1) rfl dX0_meet_82 kc_1 ?_
    refine V_goto (t := 87) rfl dX0_meet_83 ?_
    exact V_sub (le_s (le_s (le_s (le_n (le_n le_0))))) (t_X0_meet_87 h1 h2 h)
def f_X0_meet (o1 : Nat) (o2 : Nat) (p3 : Int32) (M : IM) : IR := rd M (o1 + 3) 10 p3 fun v1 => rd M (o1 + 4) 10 p3 fun v3 => cl (f_X0_setFeet v1 v3 M) fun _ M6 => cl (f_X0_setHour (M6 o1 1) M6) fun _ M9 => rd M9 (o1 + 2) 10 p3 fun v11 => wr M9 120 9 2 v11 fun M13 => if (M13 o2 0) ≤ (M13 o1 2) then f_X0_meet_70 o1 o2 0 M13 else rd M13 (o2 + 1) 8 (M13 o1 2) fun v16 => rd M13 (o1 + 1) 10 p3 fun v18 => if v16 = v18 then f_X0_meet_70 o1 o2 1 M13 else f_X0_meet_70 o1 o2 0 M13
set_option maxRecDepth 100000 in
set_option maxHeartbeats 4000000 in
theorem t_X0_meet {g : IG} {a : Nat → Nat} {R : Int32 × IM} {o1 : Nat} {o2 : Nat} {p3 : Int32} {M : IM} (h1 : isNow o1) (h2 : isRound o2) (h : f_X0_meet o1 o2 p3 M = some R) : Cn g mX0_meet 2 0 0 (qV S0 a R) [.ref (a 119), .ref (a o1), .ref (a o2), .int p3] a S0 M := by
  refine Cn_of (L := [some (.ref (a 119)), some (.ref (a o1)), some (.ref (a o2)), some (.int p3), none]) mf_X0_meet (cat_r (cat_r (cat_r (cat_i cat_0)))) (Nat.le_of_ble_eq_true rfl) rfl ?_
  unfold f_X0_meet at h
  refine V_aload_n rfl dX0_meet_0 rfl rfl ?_
  refine V_aload_n rfl dX0_meet_1 rfl rfl ?_
  refine V_getr (k0 := 13) rfl dX0_meet_2 (isNow_0 h1) icX4 (by decide) rfl w_209 ?_
  refine V_iload_n rfl dX0_meet_5 rfl rfl ?_
  replace h := rd_e h
  obtain ⟨hb2, h⟩ := h
  refine V_iald rfl dX0_meet_6 (isNow_3 h1) hb2 ?_
  refine V_aload_n rfl dX0_meet_7 rfl rfl ?_
  refine V_getr (k0 := 14) rfl dX0_meet_8 (isNow_0 h1) icX4 (by decide) rfl w_212 ?_
  refine V_iload_n rfl dX0_meet_11 rfl rfl ?_
  replace h := rd_e h
  obtain ⟨hb4, h⟩ := h
  refine V_iald rfl dX0_meet_12 (isNow_4 h1) hb4 ?_
  replace h := cl_e h
  obtain ⟨w5, M6, hc7, h⟩ := h
  refine V_iv (As := [.int _, .int _]) rfl dX0_meet_13 mf_X0_setFeet ⟨w_856, w_857⟩ w_855 (by decide) s0_119 rfl rfl rfl rfl ⟨rfl, rfl⟩ (t_X0_setFeet hc7) ?_
  refine V_aload_n rfl dX0_meet_16 rfl rfl ?_
  refine V_aload_n rfl dX0_meet_17 rfl rfl ?_
  refine V_geti (k0 := 1) rfl dX0_meet_18 (isNow_0 h1) icX4 (by decide) rfl w_177 ?_
  replace h := cl_e h
  obtain ⟨w8, M9, hc10, h⟩ := h
  refine V_iv (As := [.int _]) rfl dX0_meet_21 mf_X0_setHour ⟨w_860, w_861⟩ w_859 (by decide) s0_119 rfl rfl rfl rfl ⟨rfl, rfl⟩ (t_X0_setHour hc10) ?_
  refine V_aload_n rfl dX0_meet_24 rfl rfl ?_
  refine V_getr (k0 := 0) rfl dX0_meet_25 s0_119 icX0 (by decide) rfl w_459 ?_
  refine V_iconst (v := 2) rfl dX0_meet_28 kc_2 ?_
  refine V_aload_n rfl dX0_meet_29 rfl rfl ?_
  refine V_getr (k0 := 12) rfl dX0_meet_30 (isNow_0 h1) icX4 (by decide) rfl w_206 ?_
  refine V_iload_n rfl dX0_meet_33 rfl rfl ?_
  replace h := rd_e h
  obtain ⟨hb12, h⟩ := h
  refine V_iald rfl dX0_meet_34 (isNow_2 h1) hb12 ?_
  replace h := wr_e h
  obtain ⟨hb14, h⟩ := h
  refine V_iast rfl dX0_meet_35 s0_120 hb14 ?_
  refine V_aload_n rfl dX0_meet_36 rfl rfl ?_
  refine V_geti (k0 := 2) rfl dX0_meet_37 (isNow_0 h1) icX4 (by decide) rfl w_181 ?_
  refine V_aload_n rfl dX0_meet_40 rfl rfl ?_
  refine V_geti (k0 := 0) rfl dX0_meet_41 (isRound_0 h2) icX7 (by decide) rfl w_295 ?_
  refine V_icmp_ge (t := 69) rfl rfl dX0_meet_44 (fun hc15 => ?_) (fun hc15 => ?_)
  · replace h := ifp hc15 h
    refine V_iconst (v := 0) rfl dX0_meet_69 kc_0 ?_
    exact V_sub (le_s (le_s (le_s (le_n (le_n le_0))))) (t_X0_meet_70 h1 h2 h)
  · replace h := ifn hc15 h
    refine V_aload_n rfl dX0_meet_47 rfl rfl ?_
    refine V_getr (k0 := 1) rfl dX0_meet_48 (isRound_0 h2) icX7 (by decide) rfl w_299 ?_
    refine V_aload_n rfl dX0_meet_51 rfl rfl ?_
    refine V_geti (k0 := 2) rfl dX0_meet_52 (isNow_0 h1) icX4 (by decide) rfl w_181 ?_
    replace h := rd_e h
    obtain ⟨hb17, h⟩ := h
    refine V_iald rfl dX0_meet_55 (isRound_1 h2) hb17 ?_
    refine V_aload_n rfl dX0_meet_56 rfl rfl ?_
    refine V_getr (k0 := 11) rfl dX0_meet_57 (isNow_0 h1) icX4 (by decide) rfl w_203 ?_
    refine V_iload_n rfl dX0_meet_60 rfl rfl ?_
    replace h := rd_e h
    obtain ⟨hb19, h⟩ := h
    refine V_iald rfl dX0_meet_61 (isNow_1 h1) hb19 ?_
    refine V_icmp_ne (t := 69) rfl rfl dX0_meet_62 (fun hc20 => ?_) (fun hc20 => ?_)
    · replace h := ifn hc20 h
      refine V_iconst (v := 0) rfl dX0_meet_69 kc_0 ?_
      exact V_sub (le_s (le_s (le_s (le_n (le_n le_0))))) (t_X0_meet_70 h1 h2 h)
    · replace h := ifp hc20 h
      refine V_iconst (v := 1) rfl dX0_meet_65 kc_1 ?_
      refine V_goto (t := 70) rfl dX0_meet_66 ?_
      exact V_sub (le_s (le_s (le_s (le_n (le_n le_0))))) (t_X0_meet_70 h1 h2 h)
-- X0_joined: NeverHalted$Asked.joined(III)I
def f_X0_joined (p0 : Int32) (p1 : Int32) (p2 : Int32) (M : IM) : IR := if p0 = 10016 then some ((p1 &&& p2), M) else if p0 = 20042 then some ((p1 * p2), M) else if p0 = 20043 then some ((p1 + p2), M) else if p0 = 20045 then some ((p1 - p2), M) else if p0 = 20060 then if p2 ≤ p1 then some (0, M) else some (1, M) else if p0 = 20061 then if p1 = p2 then some (1, M) else some (0, M) else if p0 = 20062 then if p1 ≤ p2 then some (0, M) else some (1, M) else some ((p1 ||| p2), M)
set_option maxRecDepth 100000 in
set_option maxHeartbeats 4000000 in
theorem t_X0_joined {g : IG} {a : Nat → Nat} {R : Int32 × IM} {p0 : Int32} {p1 : Int32} {p2 : Int32} {M : IM} (h : f_X0_joined p0 p1 p2 M = some R) : Cn g mX0_joined 1 0 0 (qI S0 a R) [.int p0, .int p1, .int p2] a S0 M := by
  refine Cn_of (L := [some (.int p0), some (.int p1), some (.int p2)]) mf_X0_joined (cat_i (cat_i (cat_i cat_0))) (Nat.le_of_ble_eq_true rfl) rfl ?_
  unfold f_X0_joined at h
  refine V_iload_n rfl dX0_joined_0 rfl rfl ?_
  replace h := ift h
  rcases h with ⟨hc1, h⟩ | ⟨hc1, h⟩
  · refine V_lookAt (off := 112) (t := 113) hc1 dX0_joined_1 (by decide +kernel) (by decide +kernel) rfl ?_
    refine V_iload_n rfl dX0_joined_113 rfl rfl ?_
    refine V_iload_n rfl dX0_joined_114 rfl rfl ?_
    refine V_iand rfl dX0_joined_115 ?_
    cases h
    exact V_iret dX0_joined_116 rfl rfl (Nat.le_refl _) (Nat.le_refl _) qI_ok
  replace h := ift h
  rcases h with ⟨hc2, h⟩ | ⟨hc2, h⟩
  · refine V_lookAt (off := 75) (t := 76) hc2 dX0_joined_1 (by decide +kernel) (by decide +kernel) rfl ?_
    refine V_iload_n rfl dX0_joined_76 rfl rfl ?_
    refine V_iload_n rfl dX0_joined_77 rfl rfl ?_
    refine V_imul rfl dX0_joined_78 ?_
    cases h
    exact V_iret dX0_joined_79 rfl rfl (Nat.le_refl _) (Nat.le_refl _) qI_ok
  replace h := ift h
  rcases h with ⟨hc3, h⟩ | ⟨hc3, h⟩
  · refine V_lookAt (off := 67) (t := 68) hc3 dX0_joined_1 (by decide +kernel) (by decide +kernel) rfl ?_
    refine V_iload_n rfl dX0_joined_68 rfl rfl ?_
    refine V_iload_n rfl dX0_joined_69 rfl rfl ?_
    refine V_iadd rfl dX0_joined_70 ?_
    cases h
    exact V_iret dX0_joined_71 rfl rfl (Nat.le_refl _) (Nat.le_refl _) qI_ok
  replace h := ift h
  rcases h with ⟨hc4, h⟩ | ⟨hc4, h⟩
  · refine V_lookAt (off := 71) (t := 72) hc4 dX0_joined_1 (by decide +kernel) (by decide +kernel) rfl ?_
    refine V_iload_n rfl dX0_joined_72 rfl rfl ?_
    refine V_iload_n rfl dX0_joined_73 rfl rfl ?_
    refine V_isub rfl dX0_joined_74 ?_
    cases h
    exact V_iret dX0_joined_75 rfl rfl (Nat.le_refl _) (Nat.le_refl _) qI_ok
  replace h := ift h
  rcases h with ⟨hc5, h⟩ | ⟨hc5, h⟩
  · refine V_lookAt (off := 79) (t := 80) hc5 dX0_joined_1 (by decide +kernel) (by decide +kernel) rfl ?_
    refine V_iload_n rfl dX0_joined_80 rfl rfl ?_
    refine V_iload_n rfl dX0_joined_81 rfl rfl ?_
    refine V_icmp_ge (t := 89) rfl rfl dX0_joined_82 (fun hc6 => ?_) (fun hc6 => ?_)
    · replace h := ifp hc6 h
      refine V_iconst (v := 0) rfl dX0_joined_89 kc_0 ?_
      cases h
      exact V_iret dX0_joined_90 rfl rfl (Nat.le_refl _) (Nat.le_refl _) qI_ok
    · replace h := ifn hc6 h
      refine V_iconst (v := 1) rfl dX0_joined_85 kc_1 ?_
      refine V_goto (t := 90) rfl dX0_joined_86 ?_
      cases h
      exact V_iret dX0_joined_90 rfl rfl (Nat.le_refl _) (Nat.le_refl _) qI_ok
  replace h := ift h
  rcases h with ⟨hc7, h⟩ | ⟨hc7, h⟩
  · refine V_lookAt (off := 90) (t := 91) hc7 dX0_joined_1 (by decide +kernel) (by decide +kernel) rfl ?_
    refine V_iload_n rfl dX0_joined_91 rfl rfl ?_
    refine V_iload_n rfl dX0_joined_92 rfl rfl ?_
    refine V_icmp_ne (t := 100) rfl rfl dX0_joined_93 (fun hc8 => ?_) (fun hc8 => ?_)
    · replace h := ifn hc8 h
      refine V_iconst (v := 0) rfl dX0_joined_100 kc_0 ?_
      cases h
      exact V_iret dX0_joined_101 rfl rfl (Nat.le_refl _) (Nat.le_refl _) qI_ok
    · replace h := ifp hc8 h
      refine V_iconst (v := 1) rfl dX0_joined_96 kc_1 ?_
      refine V_goto (t := 101) rfl dX0_joined_97 ?_
      cases h
      exact V_iret dX0_joined_101 rfl rfl (Nat.le_refl _) (Nat.le_refl _) qI_ok
  replace h := ift h
  rcases h with ⟨hc9, h⟩ | ⟨hc9, h⟩
  · refine V_lookAt (off := 101) (t := 102) hc9 dX0_joined_1 (by decide +kernel) (by decide +kernel) rfl ?_
    refine V_iload_n rfl dX0_joined_102 rfl rfl ?_
    refine V_iload_n rfl dX0_joined_103 rfl rfl ?_
    refine V_icmp_le (t := 111) rfl rfl dX0_joined_104 (fun hc10 => ?_) (fun hc10 => ?_)
    · replace h := ifp hc10 h
      refine V_iconst (v := 0) rfl dX0_joined_111 kc_0 ?_
      cases h
      exact V_iret dX0_joined_112 rfl rfl (Nat.le_refl _) (Nat.le_refl _) qI_ok
    · replace h := ifn hc10 h
      refine V_iconst (v := 1) rfl dX0_joined_107 kc_1 ?_
      refine V_goto (t := 112) rfl dX0_joined_108 ?_
      cases h
      exact V_iret dX0_joined_112 rfl rfl (Nat.le_refl _) (Nat.le_refl _) qI_ok
  refine V_lookup (off := 116) (t := 117) dX0_joined_1 (by decide +kernel) (look_ne (fun e => ne_toInt (z := 10016) (k := 10016) hc1 (by decide +kernel) e.symm) (look_ne (fun e => ne_toInt (z := 20042) (k := 20042) hc2 (by decide +kernel) e.symm) (look_ne (fun e => ne_toInt (z := 20043) (k := 20043) hc3 (by decide +kernel) e.symm) (look_ne (fun e => ne_toInt (z := 20045) (k := 20045) hc4 (by decide +kernel) e.symm) (look_ne (fun e => ne_toInt (z := 20060) (k := 20060) hc5 (by decide +kernel) e.symm) (look_ne (fun e => ne_toInt (z := 20061) (k := 20061) hc7 (by decide +kernel) e.symm) (look_ne (fun e => ne_toInt (z := 20062) (k := 20062) hc9 (by decide +kernel) e.symm) rfl))))))) rfl ?_
  refine V_iload_n rfl dX0_joined_117 rfl rfl ?_
  refine V_iload_n rfl dX0_joined_118 rfl rfl ?_
  refine V_ior rfl dX0_joined_119 ?_
  cases h
  exact V_iret dX0_joined_120 rfl rfl (Nat.le_refl _) (Nat.le_refl _) qI_ok
-- X0_step: NeverHalted$Asked.step(II)I
def f_X0_step_104 (x1 : Int32) (x2 : Int32) (M : IM) : IR := if 2 ≤ x2 then rd M 121 32 (x2 - 2) fun v24 => rd M 121 32 (x2 - 1) fun v26 => cl (f_X0_joined x1 v24 v26 M) fun w28 M29 => wr M29 121 32 (x2 - 2) w28 fun M31 => some ((x2 - 1), M31) else some (x2, M)
set_option maxRecDepth 100000 in
set_option maxHeartbeats 4000000 in
theorem t_X0_step_104 {g : IG} {a : Nat → Nat} {R : Int32 × IM} {x1 : Int32} {x2 : Int32} {M : IM} (h : f_X0_step_104 x1 x2 M = some R) : V g mX0_step 2 0 0 (qI S0 a R) 104 [some (.ref (a 119)), some (.int x1), some (.int x2)] [] a S0 M 0 0 := by
  unfold f_X0_step_104 at h
  refine V_iload_n rfl dX0_step_104 rfl rfl ?_
  refine V_iconst (v := 2) rfl dX0_step_105 kc_2 ?_
  refine V_icmp_ge (t := 111) rfl rfl dX0_step_106 (fun hc23 => ?_) (fun hc23 => ?_)
  · replace h := ifp hc23 h
    refine V_aload_n rfl dX0_step_111 rfl rfl ?_
    refine V_getr (k0 := 1) rfl dX0_step_112 s0_119 icX0 (by decide) rfl w_460 ?_
    refine V_iload_n rfl dX0_step_115 rfl rfl ?_
    refine V_iconst (v := 2) rfl dX0_step_116 kc_2 ?_
    refine V_isub rfl dX0_step_117 ?_
    refine V_iload_n rfl dX0_step_118 rfl rfl ?_
    refine V_aload_n rfl dX0_step_119 rfl rfl ?_
    refine V_getr (k0 := 1) rfl dX0_step_120 s0_119 icX0 (by decide) rfl w_460 ?_
    refine V_iload_n rfl dX0_step_123 rfl rfl ?_
    refine V_iconst (v := 2) rfl dX0_step_124 kc_2 ?_
    refine V_isub rfl dX0_step_125 ?_
    replace h := rd_e h
    obtain ⟨hb25, h⟩ := h
    refine V_iald rfl dX0_step_126 s0_121 hb25 ?_
    refine V_aload_n rfl dX0_step_127 rfl rfl ?_
    refine V_getr (k0 := 1) rfl dX0_step_128 s0_119 icX0 (by decide) rfl w_460 ?_
    refine V_iload_n rfl dX0_step_131 rfl rfl ?_
    refine V_iconst (v := 1) rfl dX0_step_132 kc_1 ?_
    refine V_isub rfl dX0_step_133 ?_
    replace h := rd_e h
    obtain ⟨hb27, h⟩ := h
    refine V_iald rfl dX0_step_134 s0_121 hb27 ?_
    replace h := cl_e h
    obtain ⟨w28, M29, hc30, h⟩ := h
    refine V_si (As := [.int _, .int _, .int _]) rfl dX0_step_135 mf_X0_joined w_885 w_884 (by decide) rfl rfl rfl ⟨rfl, rfl⟩ (t_X0_joined hc30) ?_
    replace h := wr_e h
    obtain ⟨hb32, h⟩ := h
    refine V_iast rfl dX0_step_138 s0_121 hb32 ?_
    refine V_iload_n rfl dX0_step_139 rfl rfl ?_
    refine V_iconst (v := 1) rfl dX0_step_140 kc_1 ?_
    refine V_isub rfl dX0_step_141 ?_
    cases h
    exact V_iret dX0_step_142 rfl rfl (Nat.le_refl _) (Nat.le_refl _) qI_ok
  · replace h := ifn hc23 h
    refine V_iload_n rfl dX0_step_109 rfl rfl ?_
    cases h
    exact V_iret dX0_step_110 rfl rfl (Nat.le_refl _) (Nat.le_refl _) qI_ok
def f_X0_step_77 (x1 : Int32) (x2 : Int32) (M : IM) : IR := if x2 ≤ 0 then f_X0_step_104 x1 x2 M else if x1 ≤ 40000 then f_X0_step_104 x1 x2 M else rd M 121 32 (x2 - 1) fun v18 => dv (x1 - 40000) <| wr M 121 32 (x2 - 1) (v18 / (x1 - 40000)) fun M21 => some (x2, M21)
set_option maxRecDepth 100000 in
set_option maxHeartbeats 4000000 in
theorem t_X0_step_77 {g : IG} {a : Nat → Nat} {R : Int32 × IM} {x1 : Int32} {x2 : Int32} {M : IM} (h : f_X0_step_77 x1 x2 M = some R) : V g mX0_step 2 0 0 (qI S0 a R) 77 [some (.ref (a 119)), some (.int x1), some (.int x2)] [] a S0 M 0 0 := by
  unfold f_X0_step_77 at h
  refine V_iload_n rfl dX0_step_77 rfl rfl ?_
  refine V_if_le (t := 104) rfl rfl dX0_step_78 (fun hc16 => ?_) (fun hc16 => ?_)
  · replace h := ifp hc16 h
    exact V_sub (le_s (le_s (le_s le_0))) (t_X0_step_104 h)
  · replace h := ifn hc16 h
    refine V_iload_n rfl dX0_step_81 rfl rfl ?_
    refine V_ldc (v := 40000) rfl dX0_step_82 w_883 ?_
    refine V_icmp_le (t := 104) rfl rfl dX0_step_84 (fun hc17 => ?_) (fun hc17 => ?_)
    · replace h := ifp hc17 h
      exact V_sub (le_s (le_s (le_s le_0))) (t_X0_step_104 h)
    · replace h := ifn hc17 h
      refine V_aload_n rfl dX0_step_87 rfl rfl ?_
      refine V_getr (k0 := 1) rfl dX0_step_88 s0_119 icX0 (by decide) rfl w_460 ?_
      refine V_iload_n rfl dX0_step_91 rfl rfl ?_
      refine V_iconst (v := 1) rfl dX0_step_92 kc_1 ?_
      refine V_isub rfl dX0_step_93 ?_
      refine V_dup2 rfl dX0_step_94 rfl rfl ?_
      replace h := rd_e h
      obtain ⟨hb19, h⟩ := h
      refine V_iald rfl dX0_step_95 s0_121 hb19 ?_
      refine V_iload_n rfl dX0_step_96 rfl rfl ?_
      refine V_ldc (v := 40000) rfl dX0_step_97 w_883 ?_
      refine V_isub rfl dX0_step_99 ?_
      replace h := dv_e h
      obtain ⟨hz20, h⟩ := h
      refine V_idiv rfl dX0_step_100 hz20 ?_
      replace h := wr_e h
      obtain ⟨hb22, h⟩ := h
      refine V_iast rfl dX0_step_101 s0_121 hb22 ?_
      refine V_iload_n rfl dX0_step_102 rfl rfl ?_
      cases h
      exact V_iret dX0_step_103 rfl rfl (Nat.le_refl _) (Nat.le_refl _) qI_ok
def f_X0_step (p1 : Int32) (p2 : Int32) (M : IM) : IR := if 10009 ≤ p1 then if p2 ≤ 0 then f_X0_step_77 p1 p2 M else if p1 = 10017 then rd M 121 32 (p2 - 1) fun v4 => wr M 121 32 (p2 - 1) (1 - v4) fun M6 => some (p2, M6) else f_X0_step_77 p1 p2 M else if p2 < 32 then if 10000 ≤ p1 then rd M 120 9 (p1 - 10000) fun v10 => wr M 121 32 p2 v10 fun M12 => some ((p2 + 1), M12) else wr M 121 32 p2 p1 fun M14 => some ((p2 + 1), M14) else some (p2, M)
set_option maxRecDepth 100000 in
set_option maxHeartbeats 4000000 in
theorem t_X0_step {g : IG} {a : Nat → Nat} {R : Int32 × IM} {p1 : Int32} {p2 : Int32} {M : IM} (h : f_X0_step p1 p2 M = some R) : Cn g mX0_step 2 0 0 (qI S0 a R) [.ref (a 119), .int p1, .int p2] a S0 M := by
  refine Cn_of (L := [some (.ref (a 119)), some (.int p1), some (.int p2)]) mf_X0_step (cat_r (cat_i (cat_i cat_0))) (Nat.le_of_ble_eq_true rfl) rfl ?_
  unfold f_X0_step at h
  refine V_iload_n rfl dX0_step_0 rfl rfl ?_
  refine V_sipush (v := 10009) rfl dX0_step_1 ks_10009 ?_
  refine V_icmp_ge (t := 46) rfl rfl dX0_step_4 (fun hc1 => ?_) (fun hc1 => ?_)
  · replace h := ifp hc1 h
    refine V_iload_n rfl dX0_step_46 rfl rfl ?_
    refine V_if_le (t := 77) rfl rfl dX0_step_47 (fun hc2 => ?_) (fun hc2 => ?_)
    · replace h := ifp hc2 h
      exact V_sub (le_s (le_s (le_s le_0))) (t_X0_step_77 h)
    · replace h := ifn hc2 h
      refine V_iload_n rfl dX0_step_50 rfl rfl ?_
      refine V_sipush (v := 10017) rfl dX0_step_51 ks_10017 ?_
      refine V_icmp_ne (t := 77) rfl rfl dX0_step_54 (fun hc3 => ?_) (fun hc3 => ?_)
      · replace h := ifn hc3 h
        exact V_sub (le_s (le_s (le_s le_0))) (t_X0_step_77 h)
      · replace h := ifp hc3 h
        refine V_aload_n rfl dX0_step_57 rfl rfl ?_
        refine V_getr (k0 := 1) rfl dX0_step_58 s0_119 icX0 (by decide) rfl w_460 ?_
        refine V_iload_n rfl dX0_step_61 rfl rfl ?_
        refine V_iconst (v := 1) rfl dX0_step_62 kc_1 ?_
        refine V_isub rfl dX0_step_63 ?_
        refine V_iconst (v := 1) rfl dX0_step_64 kc_1 ?_
        refine V_aload_n rfl dX0_step_65 rfl rfl ?_
        refine V_getr (k0 := 1) rfl dX0_step_66 s0_119 icX0 (by decide) rfl w_460 ?_
        refine V_iload_n rfl dX0_step_69 rfl rfl ?_
        refine V_iconst (v := 1) rfl dX0_step_70 kc_1 ?_
        refine V_isub rfl dX0_step_71 ?_
        replace h := rd_e h
        obtain ⟨hb5, h⟩ := h
        refine V_iald rfl dX0_step_72 s0_121 hb5 ?_
        refine V_isub rfl dX0_step_73 ?_
        replace h := wr_e h
        obtain ⟨hb7, h⟩ := h
        refine V_iast rfl dX0_step_74 s0_121 hb7 ?_
        refine V_iload_n rfl dX0_step_75 rfl rfl ?_
        cases h
        exact V_iret dX0_step_76 rfl rfl (Nat.le_refl _) (Nat.le_refl _) qI_ok
  · replace h := ifn hc1 h
    refine V_iload_n rfl dX0_step_7 rfl rfl ?_
    refine V_bipush (v := 32) rfl dX0_step_8 kb_32 ?_
    refine V_icmp_lt (t := 15) rfl rfl dX0_step_10 (fun hc8 => ?_) (fun hc8 => ?_)
    · replace h := ifp hc8 h
      refine V_aload_n rfl dX0_step_15 rfl rfl ?_
      refine V_getr (k0 := 1) rfl dX0_step_16 s0_119 icX0 (by decide) rfl w_460 ?_
      refine V_iload_n rfl dX0_step_19 rfl rfl ?_
      refine V_iload_n rfl dX0_step_20 rfl rfl ?_
      refine V_sipush (v := 10000) rfl dX0_step_21 ks_10000 ?_
      refine V_icmp_ge (t := 31) rfl rfl dX0_step_24 (fun hc9 => ?_) (fun hc9 => ?_)
      · replace h := ifp hc9 h
        refine V_aload_n rfl dX0_step_31 rfl rfl ?_
        refine V_getr (k0 := 0) rfl dX0_step_32 s0_119 icX0 (by decide) rfl w_459 ?_
        refine V_iload_n rfl dX0_step_35 rfl rfl ?_
        refine V_sipush (v := 10000) rfl dX0_step_36 ks_10000 ?_
        refine V_isub rfl dX0_step_39 ?_
        replace h := rd_e h
        obtain ⟨hb11, h⟩ := h
        refine V_iald rfl dX0_step_40 s0_120 hb11 ?_
        replace h := wr_e h
        obtain ⟨hb13, h⟩ := h
        refine V_iast rfl dX0_step_41 s0_121 hb13 ?_
        refine V_iload_n rfl dX0_step_42 rfl rfl ?_
        refine V_iconst (v := 1) rfl dX0_step_43 kc_1 ?_
        refine V_iadd rfl dX0_step_44 ?_
        cases h
        exact V_iret dX0_step_45 rfl rfl (Nat.le_refl _) (Nat.le_refl _) qI_ok
      · replace h := ifn hc9 h
        refine V_iload_n rfl dX0_step_27 rfl rfl ?_
        refine V_goto (t := 41) rfl dX0_step_28 ?_
        replace h := wr_e h
        obtain ⟨hb15, h⟩ := h
        refine V_iast rfl dX0_step_41 s0_121 hb15 ?_
        refine V_iload_n rfl dX0_step_42 rfl rfl ?_
        refine V_iconst (v := 1) rfl dX0_step_43 kc_1 ?_
        refine V_iadd rfl dX0_step_44 ?_
        cases h
        exact V_iret dX0_step_45 rfl rfl (Nat.le_refl _) (Nat.le_refl _) qI_ok
    · replace h := ifn hc8 h
      refine V_iload_n rfl dX0_step_13 rfl rfl ?_
      cases h
      exact V_iret dX0_step_14 rfl rfl (Nat.le_refl _) (Nat.le_refl _) qI_ok
-- X0_worth: NeverHalted$Asked.worth([III)I
def f_X0_worth_6_b (o1 : Nat) (n1 : Nat) (r6 : Int32 → Int32 → Int32 → IM → IR) (x3 : Int32) (x4 : Int32) (x5 : Int32) (M : IM) : IR := if x3 ≤ x5 then rd M 121 32 0 fun v2 => some (v2, M) else rd M o1 n1 x5 fun v4 => cl (f_X0_step v4 x4 M) fun w6 M7 => lt (x5 + 1) fun v9 => r6 x3 w6 v9 M7
def f_X0_worth_6 (o1 : Nat) (n1 : Nat) (n : Nat) : Int32 → Int32 → Int32 → IM → IR := itr (fun _ _ _ _ => none) (f_X0_worth_6_b o1 n1) n
set_option maxRecDepth 100000 in
set_option maxHeartbeats 4000000 in
theorem t_X0_worth_6 {g : IG} {a : Nat → Nat} {R : Int32 × IM} {o1 : Nat} {n1 : Nat} (h1 : S0[o1]? = some (0, n1, [])) (n : Nat) : ∀ (x3 : Int32) (x4 : Int32) (x5 : Int32) (M : IM), f_X0_worth_6 o1 n1 n x3 x4 x5 M = some R → V g mX0_worth 3 0 0 (qI S0 a R) 6 [some (.ref (a 119)), some (.ref (a o1)), none, some (.int x3), some (.int x4), some (.int x5)] [] a S0 M 0 0 := by
  induction n with
  | zero => intro x3 x4 x5 M h; exact absurd h (fun z => by cases z)
  | succ n hr6 =>
    intro x3 x4 x5 M h
    replace h : f_X0_worth_6_b o1 n1 (f_X0_worth_6 o1 n1 n) x3 x4 x5 M = some R := h
    unfold f_X0_worth_6_b at h
    refine V_iload rfl dX0_worth_6 rfl ?_
    refine V_iload_n rfl dX0_worth_8 rfl rfl ?_
    refine V_icmp_ge (t := 30) rfl rfl dX0_worth_9 (fun hc1 => ?_) (fun hc1 => ?_)
    · replace h := ifp hc1 h
      refine V_aload_n rfl dX0_worth_30 rfl rfl ?_
      refine V_getr (k0 := 1) rfl dX0_worth_31 s0_119 icX0 (by decide) rfl w_460 ?_
      refine V_iconst (v := 0) rfl dX0_worth_34 kc_0 ?_
      replace h := rd_e h
      obtain ⟨hb3, h⟩ := h
      refine V_iald rfl dX0_worth_35 s0_121 hb3 ?_
      cases h
      exact V_iret dX0_worth_36 rfl rfl (Nat.le_refl _) (Nat.le_refl _) qI_ok
    · replace h := ifn hc1 h
      refine V_aload_n rfl dX0_worth_12 rfl rfl ?_
      refine V_aload_n rfl dX0_worth_13 rfl rfl ?_
      refine V_iload rfl dX0_worth_14 rfl ?_
      replace h := rd_e h
      obtain ⟨hb5, h⟩ := h
      refine V_iald rfl dX0_worth_16 h1 hb5 ?_
      refine V_iload rfl dX0_worth_17 rfl ?_
      replace h := cl_e h
      obtain ⟨w6, M7, hc8, h⟩ := h
      refine V_ii (As := [.int _, .int _]) rfl dX0_worth_19 mf_X0_step ⟨w_881, w_22⟩ w_879 (by decide) s0_119 rfl rfl rfl rfl ⟨rfl, rfl⟩ (t_X0_step hc8) ?_
      refine V_istore (L' := [_, _, _, _, _, _]) rfl dX0_worth_22 (by decide) rfl ?_
      replace h := lt_e h
      refine V_inc (L' := [_, _, _, _, _, _]) rfl dX0_worth_24 rfl kc_1 (by decide) rfl ?_
      refine V_goto (t := 6) rfl dX0_worth_27 ?_
      exact V_sub (le_s (le_s (le_n (le_s (le_s (le_s le_0)))))) (hr6 _ _ _ _ h)
def f_X0_worth (o1 : Nat) (n1 : Nat) (p2 : Int32) (p3 : Int32) (M : IM) : IR := f_X0_worth_6 o1 n1 BG p3 0 p2 M
set_option maxRecDepth 100000 in
set_option maxHeartbeats 4000000 in
theorem t_X0_worth {g : IG} {a : Nat → Nat} {R : Int32 × IM} {o1 : Nat} {n1 : Nat} {p2 : Int32} {p3 : Int32} {M : IM} (h1 : S0[o1]? = some (0, n1, [])) (h : f_X0_worth o1 n1 p2 p3 M = some R) : Cn g mX0_worth 3 0 0 (qI S0 a R) [.ref (a 119), .ref (a o1), .int p2, .int p3] a S0 M := by
  refine Cn_of (L := [some (.ref (a 119)), some (.ref (a o1)), some (.int p2), some (.int p3), none, none]) mf_X0_worth (cat_r (cat_r (cat_i (cat_i cat_0)))) (Nat.le_of_ble_eq_true rfl) rfl ?_
  unfold f_X0_worth at h
  refine V_iconst (v := 0) rfl dX0_worth_0 kc_0 ?_
  refine V_istore (L' := [_, _, _, _, _, _]) rfl dX0_worth_1 (by decide) rfl ?_
  refine V_iload_n rfl dX0_worth_3 rfl rfl ?_
  refine V_istore (L' := [_, _, _, _, _, _]) rfl dX0_worth_4 (by decide) rfl ?_
  exact V_sub (le_s (le_s (le_n (le_s (le_s (le_s le_0)))))) (t_X0_worth_6 h1 BG _ _ _ _ h)
-- X0_holds: NeverHalted$Asked.holds(LNeverHalted$Law;I)Z
def f_X0_holds (o1 : Nat) (p2 : Int32) (M : IM) : IR := rd M (o1 + 3) 16 p2 fun v1 => rd M (o1 + 4) 16 p2 fun v3 => if v1 = v3 then some (1, M) else rd M (o1 + 3) 16 p2 fun v6 => rd M (o1 + 4) 16 p2 fun v8 => cl (f_X0_worth (o1 + 5) 400 v6 v8 M) fun w10 M11 => if w10 = 0 then some (0, M11) else some (1, M11)
set_option maxRecDepth 100000 in
set_option maxHeartbeats 4000000 in
theorem t_X0_holds {g : IG} {a : Nat → Nat} {R : Int32 × IM} {o1 : Nat} {p2 : Int32} {M : IM} (h1 : isLaw o1) (h : f_X0_holds o1 p2 M = some R) : Cn g mX0_holds 4 0 0 (qI S0 a R) [.ref (a 119), .ref (a o1), .int p2] a S0 M := by
  refine Cn_of (L := [some (.ref (a 119)), some (.ref (a o1)), some (.int p2)]) mf_X0_holds (cat_r (cat_r (cat_i cat_0))) (Nat.le_of_ble_eq_true rfl) rfl ?_
  unfold f_X0_holds at h
  refine V_aload_n rfl dX0_holds_0 rfl rfl ?_
  refine V_getr (k0 := 3) rfl dX0_holds_1 (isLaw_0 h1) icX3 (by decide) rfl w_267 ?_
  refine V_iload_n rfl dX0_holds_4 rfl rfl ?_
  replace h := rd_e h
  obtain ⟨hb2, h⟩ := h
  refine V_iald rfl dX0_holds_5 (isLaw_3 h1) hb2 ?_
  refine V_aload_n rfl dX0_holds_6 rfl rfl ?_
  refine V_getr (k0 := 4) rfl dX0_holds_7 (isLaw_0 h1) icX3 (by decide) rfl w_269 ?_
  refine V_iload_n rfl dX0_holds_10 rfl rfl ?_
  replace h := rd_e h
  obtain ⟨hb4, h⟩ := h
  refine V_iald rfl dX0_holds_11 (isLaw_4 h1) hb4 ?_
  refine V_icmp_eq (t := 38) rfl rfl dX0_holds_12 (fun hc5 => ?_) (fun hc5 => ?_)
  · replace h := ifp hc5 h
    refine V_iconst (v := 1) rfl dX0_holds_38 kc_1 ?_
    refine V_goto (t := 43) rfl dX0_holds_39 ?_
    cases h
    exact V_iret dX0_holds_43 rfl nz_1 (Nat.le_refl _) (Nat.le_refl _) qI_ok
  · replace h := ifn hc5 h
    refine V_aload_n rfl dX0_holds_15 rfl rfl ?_
    refine V_aload_n rfl dX0_holds_16 rfl rfl ?_
    refine V_getr (k0 := 6) rfl dX0_holds_17 (isLaw_0 h1) icX3 (by decide) rfl w_272 ?_
    refine V_aload_n rfl dX0_holds_20 rfl rfl ?_
    refine V_getr (k0 := 3) rfl dX0_holds_21 (isLaw_0 h1) icX3 (by decide) rfl w_267 ?_
    refine V_iload_n rfl dX0_holds_24 rfl rfl ?_
    replace h := rd_e h
    obtain ⟨hb7, h⟩ := h
    refine V_iald rfl dX0_holds_25 (isLaw_3 h1) hb7 ?_
    refine V_aload_n rfl dX0_holds_26 rfl rfl ?_
    refine V_getr (k0 := 4) rfl dX0_holds_27 (isLaw_0 h1) icX3 (by decide) rfl w_269 ?_
    refine V_iload_n rfl dX0_holds_30 rfl rfl ?_
    replace h := rd_e h
    obtain ⟨hb9, h⟩ := h
    refine V_iald rfl dX0_holds_31 (isLaw_4 h1) hb9 ?_
    replace h := cl_e h
    obtain ⟨w10, M11, hc12, h⟩ := h
    refine V_ii (As := [.ref _, .int _, .int _]) rfl dX0_holds_32 mf_X0_worth ⟨w_877, w_21⟩ w_875 (by decide) s0_119 rfl rfl rfl rfl ⟨rfl, rfl⟩ (t_X0_worth (isLaw_5 h1) hc12) ?_
    refine V_if_eq (t := 42) rfl rfl dX0_holds_35 (fun hc13 => ?_) (fun hc13 => ?_)
    · replace h := ifp hc13 h
      refine V_iconst (v := 0) rfl dX0_holds_42 kc_0 ?_
      cases h
      exact V_iret dX0_holds_43 rfl nz_0 (Nat.le_refl _) (Nat.le_refl _) qI_ok
    · replace h := ifn hc13 h
      refine V_iconst (v := 1) rfl dX0_holds_38 kc_1 ?_
      refine V_goto (t := 43) rfl dX0_holds_39 ?_
      cases h
      exact V_iret dX0_holds_43 rfl nz_1 (Nat.le_refl _) (Nat.le_refl _) qI_ok
-- X0_mayGo: NeverHalted$Asked.mayGo(LNeverHalted$Law;)Z
def f_X0_mayGo_2_b (o1 : Nat) (r2 : Int32 → IM → IR) (x2 : Int32) (M : IM) : IR := if (M o1 0) ≤ x2 then some (1, M) else cl (f_X0_holds o1 x2 M) fun w2 M3 => if w2 = 0 then lt (x2 + 1) fun v6 => r2 v6 M3 else rd M3 (o1 + 1) 16 x2 fun v7 => if v7 = 10009 then some (1, M3) else some (0, M3)
def f_X0_mayGo_2 (o1 : Nat) (n : Nat) : Int32 → IM → IR := itr (fun _ _ => none) (f_X0_mayGo_2_b o1) n
set_option maxRecDepth 100000 in
set_option maxHeartbeats 4000000 in
theorem t_X0_mayGo_2 {g : IG} {a : Nat → Nat} {R : Int32 × IM} {o1 : Nat} (h1 : isLaw o1) (n : Nat) : ∀ (x2 : Int32) (M : IM), f_X0_mayGo_2 o1 n x2 M = some R → V g mX0_mayGo 5 0 0 (qI S0 a R) 2 [some (.ref (a 119)), some (.ref (a o1)), some (.int x2)] [] a S0 M 0 0 := by
  induction n with
  | zero => intro x2 M h; exact absurd h (fun z => by cases z)
  | succ n hr2 =>
    intro x2 M h
    replace h : f_X0_mayGo_2_b o1 (f_X0_mayGo_2 o1 n) x2 M = some R := h
    unfold f_X0_mayGo_2_b at h
    refine V_iload_n rfl dX0_mayGo_2 rfl rfl ?_
    refine V_aload_n rfl dX0_mayGo_3 rfl rfl ?_
    refine V_geti (k0 := 0) rfl dX0_mayGo_4 (isLaw_0 h1) icX3 (by decide) rfl w_259 ?_
    refine V_icmp_ge (t := 43) rfl rfl dX0_mayGo_7 (fun hc1 => ?_) (fun hc1 => ?_)
    · replace h := ifp hc1 h
      refine V_iconst (v := 1) rfl dX0_mayGo_43 kc_1 ?_
      cases h
      exact V_iret dX0_mayGo_44 rfl nz_1 (Nat.le_refl _) (Nat.le_refl _) qI_ok
    · replace h := ifn hc1 h
      refine V_aload_n rfl dX0_mayGo_10 rfl rfl ?_
      refine V_aload_n rfl dX0_mayGo_11 rfl rfl ?_
      refine V_iload_n rfl dX0_mayGo_12 rfl rfl ?_
      replace h := cl_e h
      obtain ⟨w2, M3, hc4, h⟩ := h
      refine V_ii (As := [.ref _, .int _]) rfl dX0_mayGo_13 mf_X0_holds ⟨w_873, w_20⟩ w_871 (by decide) s0_119 rfl rfl rfl rfl ⟨rfl, rfl⟩ (t_X0_holds h1 hc4) ?_
      refine V_if_eq (t := 37) rfl rfl dX0_mayGo_16 (fun hc5 => ?_) (fun hc5 => ?_)
      · replace h := ifp hc5 h
        replace h := lt_e h
        refine V_inc (L' := [_, _, _]) rfl dX0_mayGo_37 rfl kc_1 (by decide) rfl ?_
        refine V_goto (t := 2) rfl dX0_mayGo_40 ?_
        exact V_sub (le_s (le_s (le_s le_0))) (hr2 _ _ h)
      · replace h := ifn hc5 h
        refine V_aload_n rfl dX0_mayGo_19 rfl rfl ?_
        refine V_getr (k0 := 1) rfl dX0_mayGo_20 (isLaw_0 h1) icX3 (by decide) rfl w_263 ?_
        refine V_iload_n rfl dX0_mayGo_23 rfl rfl ?_
        replace h := rd_e h
        obtain ⟨hb8, h⟩ := h
        refine V_iald rfl dX0_mayGo_24 (isLaw_1 h1) hb8 ?_
        refine V_sipush (v := 10009) rfl dX0_mayGo_25 ks_10009 ?_
        refine V_icmp_ne (t := 35) rfl rfl dX0_mayGo_28 (fun hc9 => ?_) (fun hc9 => ?_)
        · replace h := ifn hc9 h
          refine V_iconst (v := 0) rfl dX0_mayGo_35 kc_0 ?_
          cases h
          exact V_iret dX0_mayGo_36 rfl nz_0 (Nat.le_refl _) (Nat.le_refl _) qI_ok
        · replace h := ifp hc9 h
          refine V_iconst (v := 1) rfl dX0_mayGo_31 kc_1 ?_
          refine V_goto (t := 36) rfl dX0_mayGo_32 ?_
          cases h
          exact V_iret dX0_mayGo_36 rfl nz_1 (Nat.le_refl _) (Nat.le_refl _) qI_ok
def f_X0_mayGo (o1 : Nat) (M : IM) : IR := f_X0_mayGo_2 o1 BG 0 M
set_option maxRecDepth 100000 in
set_option maxHeartbeats 4000000 in
theorem t_X0_mayGo {g : IG} {a : Nat → Nat} {R : Int32 × IM} {o1 : Nat} {M : IM} (h1 : isLaw o1) (h : f_X0_mayGo o1 M = some R) : Cn g mX0_mayGo 5 0 0 (qI S0 a R) [.ref (a 119), .ref (a o1)] a S0 M := by
  refine Cn_of (L := [some (.ref (a 119)), some (.ref (a o1)), none]) mf_X0_mayGo (cat_r (cat_r cat_0)) (Nat.le_of_ble_eq_true rfl) rfl ?_
  unfold f_X0_mayGo at h
  refine V_iconst (v := 0) rfl dX0_mayGo_0 kc_0 ?_
  refine V_istore_n (L' := [_, _, _]) rfl rfl dX0_mayGo_1 (by decide) rfl ?_
  exact V_sub (le_s (le_s (le_s le_0))) (t_X0_mayGo_2 h1 BG _ _ h)
-- X11_whoGo: NeverHalted.whoGo(LNeverHalted$Now;)I
def f_X11_whoGo_13_b (o1 : Nat) (r13 : Int32 → Int32 → Int32 → IM → IR) (x2 : Int32) (x3 : Int32) (x4 : Int32) (M : IM) : IR := if (M o1 10) ≤ x4 then some (x3, M) else cl (f_X8_clocksOf 25 x4 M) fun w3 M4 => if ((w3 >>> (x2 &&& 31)) &&& 1) = 0 then lt (x4 + 1) fun v17 => r13 x2 x3 v17 M4 else cl (f_X0_meet o1 20 x4 M4) fun _ M8 => cl (f_X0_mayGo 8 M8) fun w10 M11 => if w10 = 0 then lt (x4 + 1) fun v14 => r13 x2 x3 v14 M11 else lt (x3 ||| ((1 : Int32) <<< (x4 &&& 31))) fun v15 => lt (x4 + 1) fun v16 => r13 x2 v15 v16 M11
def f_X11_whoGo_13 (o1 : Nat) (n : Nat) : Int32 → Int32 → Int32 → IM → IR := itr (fun _ _ _ _ => none) (f_X11_whoGo_13_b o1) n
set_option maxRecDepth 100000 in
set_option maxHeartbeats 4000000 in
theorem t_X11_whoGo_13 {g : IG} {a : Nat → Nat} {R : Int32 × IM} {o1 : Nat} (h1 : isNow o1) (n : Nat) : ∀ (x2 : Int32) (x3 : Int32) (x4 : Int32) (M : IM), f_X11_whoGo_13 o1 n x2 x3 x4 M = some R → V g mX11_whoGo 6 0 0 (qI S0 a R) 13 [some (.ref (a 0)), some (.ref (a o1)), some (.int x2), some (.int x3), some (.int x4)] [] a S0 M 0 0 := by
  induction n with
  | zero => intro x2 x3 x4 M h; exact absurd h (fun z => by cases z)
  | succ n hr13 =>
    intro x2 x3 x4 M h
    replace h : f_X11_whoGo_13_b o1 (f_X11_whoGo_13 o1 n) x2 x3 x4 M = some R := h
    unfold f_X11_whoGo_13_b at h
    refine V_iload rfl dX11_whoGo_13 rfl ?_
    refine V_aload_n rfl dX11_whoGo_15 rfl rfl ?_
    refine V_geti (k0 := 10) rfl dX11_whoGo_16 (isNow_0 h1) icX4 (by decide) rfl w_201 ?_
    refine V_icmp_ge (t := 91) rfl rfl dX11_whoGo_19 (fun hc2 => ?_) (fun hc2 => ?_)
    · replace h := ifp hc2 h
      refine V_iload_n rfl dX11_whoGo_91 rfl rfl ?_
      cases h
      exact V_iret dX11_whoGo_92 rfl rfl (Nat.le_refl _) (Nat.le_refl _) qI_ok
    · replace h := ifn hc2 h
      refine V_aload_n rfl dX11_whoGo_22 rfl rfl ?_
      refine V_getr (k0 := 1) rfl dX11_whoGo_23 s0_0 icX11 (by decide) rfl w_524 ?_
      refine V_getr (k0 := 7) rfl dX11_whoGo_26 s0_6 icX9 (by decide) rfl w_357 ?_
      refine V_iload rfl dX11_whoGo_29 rfl ?_
      replace h := cl_e h
      obtain ⟨w3, M4, hc5, h⟩ := h
      refine V_ii (As := [.int _]) rfl dX11_whoGo_31 mf_X8_clocksOf ⟨w_848, w_849⟩ w_847 (by decide) s0_25 rfl rfl rfl rfl ⟨rfl, rfl⟩ (t_X8_clocksOf isShifts_at25 hc5) ?_
      refine V_iload_n rfl dX11_whoGo_34 rfl rfl ?_
      refine V_ishr rfl dX11_whoGo_35 ?_
      refine V_iconst (v := 1) rfl dX11_whoGo_36 kc_1 ?_
      refine V_iand rfl dX11_whoGo_37 ?_
      refine V_if_ne (t := 44) rfl rfl dX11_whoGo_38 (fun hc6 => ?_) (fun hc6 => ?_)
      · replace h := ifn hc6 h
        refine V_aload_n rfl dX11_whoGo_44 rfl rfl ?_
        refine V_getr (k0 := 11) rfl dX11_whoGo_45 s0_0 icX11 (by decide) rfl w_534 ?_
        refine V_aload_n rfl dX11_whoGo_48 rfl rfl ?_
        refine V_aload_n rfl dX11_whoGo_49 rfl rfl ?_
        refine V_getr (k0 := 1) rfl dX11_whoGo_50 s0_0 icX11 (by decide) rfl w_524 ?_
        refine V_getr (k0 := 6) rfl dX11_whoGo_53 s0_6 icX9 (by decide) rfl w_355 ?_
        refine V_iload rfl dX11_whoGo_56 rfl ?_
        replace h := cl_e h
        obtain ⟨w7, M8, hc9, h⟩ := h
        refine V_iv (As := [.ref _, .ref _, .int _]) rfl dX11_whoGo_58 mf_X0_meet ⟨w_852, w_853⟩ w_851 (by decide) s0_119 rfl rfl rfl rfl ⟨rfl, rfl⟩ (t_X0_meet h1 isRound_at20 hc9) ?_
        refine V_aload_n rfl dX11_whoGo_61 rfl rfl ?_
        refine V_getr (k0 := 11) rfl dX11_whoGo_62 s0_0 icX11 (by decide) rfl w_534 ?_
        refine V_aload_n rfl dX11_whoGo_65 rfl rfl ?_
        refine V_getr (k0 := 1) rfl dX11_whoGo_66 s0_0 icX11 (by decide) rfl w_524 ?_
        refine V_getr (k0 := 4) rfl dX11_whoGo_69 s0_6 icX9 (by decide) rfl w_351 ?_
        replace h := cl_e h
        obtain ⟨w10, M11, hc12, h⟩ := h
        refine V_ii (As := [.ref _]) rfl dX11_whoGo_72 mf_X0_mayGo ⟨w_868, w_869⟩ w_867 (by decide) s0_119 rfl rfl rfl rfl ⟨rfl, rfl⟩ (t_X0_mayGo isLaw_at8 hc12) ?_
        refine V_if_eq (t := 85) rfl rfl dX11_whoGo_75 (fun hc13 => ?_) (fun hc13 => ?_)
        · replace h := ifp hc13 h
          replace h := lt_e h
          refine V_inc (L' := [_, _, _, _, _]) rfl dX11_whoGo_85 rfl kc_1 (by decide) rfl ?_
          refine V_goto (t := 13) rfl dX11_whoGo_88 ?_
          exact V_sub (le_s (le_s (le_s (le_s (le_s le_0))))) (hr13 _ _ _ _ h)
        · replace h := ifn hc13 h
          refine V_iload_n rfl dX11_whoGo_78 rfl rfl ?_
          refine V_iconst (v := 1) rfl dX11_whoGo_79 kc_1 ?_
          refine V_iload rfl dX11_whoGo_80 rfl ?_
          refine V_ishl rfl dX11_whoGo_82 ?_
          refine V_ior rfl dX11_whoGo_83 ?_
          replace h := lt_e h
          refine V_istore_n (L' := [_, _, _, _, _]) rfl rfl dX11_whoGo_84 (by decide) rfl ?_
          replace h := lt_e h
          refine V_inc (L' := [_, _, _, _, _]) rfl dX11_whoGo_85 rfl kc_1 (by decide) rfl ?_
          refine V_goto (t := 13) rfl dX11_whoGo_88 ?_
          exact V_sub (le_s (le_s (le_s (le_s (le_s le_0))))) (hr13 _ _ _ _ h)
      · replace h := ifp hc6 h
        refine V_goto (t := 85) rfl dX11_whoGo_41 ?_
        replace h := lt_e h
        refine V_inc (L' := [_, _, _, _, _]) rfl dX11_whoGo_85 rfl kc_1 (by decide) rfl ?_
        refine V_goto (t := 13) rfl dX11_whoGo_88 ?_
        exact V_sub (le_s (le_s (le_s (le_s (le_s le_0))))) (hr13 _ _ _ _ h)
def f_X11_whoGo (o1 : Nat) (M : IM) : IR := lt ((M o1 1) - (M o1 1) / 24 * 24) fun v1 => f_X11_whoGo_13 o1 BG v1 0 0 M
set_option maxRecDepth 100000 in
set_option maxHeartbeats 4000000 in
theorem t_X11_whoGo {g : IG} {a : Nat → Nat} {R : Int32 × IM} {o1 : Nat} {M : IM} (h1 : isNow o1) (h : f_X11_whoGo o1 M = some R) : Cn g mX11_whoGo 6 0 0 (qI S0 a R) [.ref (a 0), .ref (a o1)] a S0 M := by
  refine Cn_of (L := [some (.ref (a 0)), some (.ref (a o1)), none, none, none]) mf_X11_whoGo (cat_r (cat_r cat_0)) (Nat.le_of_ble_eq_true rfl) rfl ?_
  unfold f_X11_whoGo at h
  refine V_aload_n rfl dX11_whoGo_0 rfl rfl ?_
  refine V_geti (k0 := 1) rfl dX11_whoGo_1 (isNow_0 h1) icX4 (by decide) rfl w_179 ?_
  refine V_bipush (v := 24) rfl dX11_whoGo_4 kb_24 ?_
  refine V_irem rfl dX11_whoGo_6 (by decide) ?_
  replace h := lt_e h
  refine V_istore_n (L' := [_, _, _, _, _]) rfl rfl dX11_whoGo_7 (by decide) rfl ?_
  refine V_iconst (v := 0) rfl dX11_whoGo_8 kc_0 ?_
  refine V_istore_n (L' := [_, _, _, _, _]) rfl rfl dX11_whoGo_9 (by decide) rfl ?_
  refine V_iconst (v := 0) rfl dX11_whoGo_10 kc_0 ?_
  refine V_istore (L' := [_, _, _, _, _]) rfl dX11_whoGo_11 (by decide) rfl ?_
  exact V_sub (le_s (le_s (le_s (le_s (le_s le_0))))) (t_X11_whoGo_13 h1 BG _ _ _ _ h)
-- J6_bitCount_0f7a4: java/lang/Integer.bitCount(I)I
def f_J6_bitCount_0f7a4 (p0 : Int32) (M : IM) : IR := lt (p0 - (((Int32.toUInt32 p0 >>> (Int32.toUInt32 1 &&& Int32.toUInt32 31)).toInt32) &&& 1431655765)) fun v1 => lt ((v1 &&& 858993459) + (((Int32.toUInt32 v1 >>> (Int32.toUInt32 2 &&& Int32.toUInt32 31)).toInt32) &&& 858993459)) fun v2 => lt ((v2 + ((Int32.toUInt32 v2 >>> (Int32.toUInt32 4 &&& Int32.toUInt32 31)).toInt32)) &&& 252645135) fun v3 => lt (v3 + ((Int32.toUInt32 v3 >>> (Int32.toUInt32 8 &&& Int32.toUInt32 31)).toInt32)) fun v4 => lt (v4 + ((Int32.toUInt32 v4 >>> (Int32.toUInt32 16 &&& Int32.toUInt32 31)).toInt32)) fun v5 => some ((v5 &&& 63), M)
set_option maxRecDepth 100000 in
set_option maxHeartbeats 4000000 in
theorem t_J6_bitCount_0f7a4 {g : IG} {a : Nat → Nat} {R : Int32 × IM} {p0 : Int32} {M : IM} (h : f_J6_bitCount_0f7a4 p0 M = some R) : Cn g mJ6_bitCount_0f7a4 1 0 0 (qI S0 a R) [.int p0] a S0 M := by
  refine Cn_of (L := [some (.int p0)]) mf_J6_bitCount_0f7a4 (cat_i cat_0) (Nat.le_of_ble_eq_true rfl) rfl ?_
  unfold f_J6_bitCount_0f7a4 at h
  refine V_iload_n rfl dJ6_bitCount_0f7a4_0 rfl rfl ?_
  refine V_iload_n rfl dJ6_bitCount_0f7a4_1 rfl rfl ?_
  refine V_iconst (v := 1) rfl dJ6_bitCount_0f7a4_2 kc_1 ?_
  refine V_iushr rfl dJ6_bitCount_0f7a4_3 ?_
  refine V_ldcw (v := 1431655765) rfl dJ6_bitCount_0f7a4_4 w_890 ?_
  refine V_iand rfl dJ6_bitCount_0f7a4_7 ?_
  refine V_isub rfl dJ6_bitCount_0f7a4_8 ?_
  replace h := lt_e h
  refine V_istore_n (L' := [_]) rfl rfl dJ6_bitCount_0f7a4_9 (by decide) rfl ?_
  refine V_iload_n rfl dJ6_bitCount_0f7a4_10 rfl rfl ?_
  refine V_ldcw (v := 858993459) rfl dJ6_bitCount_0f7a4_11 w_891 ?_
  refine V_iand rfl dJ6_bitCount_0f7a4_14 ?_
  refine V_iload_n rfl dJ6_bitCount_0f7a4_15 rfl rfl ?_
  refine V_iconst (v := 2) rfl dJ6_bitCount_0f7a4_16 kc_2 ?_
  refine V_iushr rfl dJ6_bitCount_0f7a4_17 ?_
  refine V_ldcw (v := 858993459) rfl dJ6_bitCount_0f7a4_18 w_891 ?_
  refine V_iand rfl dJ6_bitCount_0f7a4_21 ?_
  refine V_iadd rfl dJ6_bitCount_0f7a4_22 ?_
  replace h := lt_e h
  refine V_istore_n (L' := [_]) rfl rfl dJ6_bitCount_0f7a4_23 (by decide) rfl ?_
  refine V_iload_n rfl dJ6_bitCount_0f7a4_24 rfl rfl ?_
  refine V_iload_n rfl dJ6_bitCount_0f7a4_25 rfl rfl ?_
  refine V_iconst (v := 4) rfl dJ6_bitCount_0f7a4_26 kc_4 ?_
  refine V_iushr rfl dJ6_bitCount_0f7a4_27 ?_
  refine V_iadd rfl dJ6_bitCount_0f7a4_28 ?_
  refine V_ldcw (v := 252645135) rfl dJ6_bitCount_0f7a4_29 w_892 ?_
  refine V_iand rfl dJ6_bitCount_0f7a4_32 ?_
  replace h := lt_e h
  refine V_istore_n (L' := [_]) rfl rfl dJ6_bitCount_0f7a4_33 (by decide) rfl ?_
  refine V_iload_n rfl dJ6_bitCount_0f7a4_34 rfl rfl ?_
  refine V_iload_n rfl dJ6_bitCount_0f7a4_35 rfl rfl ?_
  refine V_bipush (v := 8) rfl dJ6_bitCount_0f7a4_36 kb_8 ?_
  refine V_iushr rfl dJ6_bitCount_0f7a4_38 ?_
  refine V_iadd rfl dJ6_bitCount_0f7a4_39 ?_
  replace h := lt_e h
  refine V_istore_n (L' := [_]) rfl rfl dJ6_bitCount_0f7a4_40 (by decide) rfl ?_
  refine V_iload_n rfl dJ6_bitCount_0f7a4_41 rfl rfl ?_
  refine V_iload_n rfl dJ6_bitCount_0f7a4_42 rfl rfl ?_
  refine V_bipush (v := 16) rfl dJ6_bitCount_0f7a4_43 kb_16 ?_
  refine V_iushr rfl dJ6_bitCount_0f7a4_45 ?_
  refine V_iadd rfl dJ6_bitCount_0f7a4_46 ?_
  replace h := lt_e h
  refine V_istore_n (L' := [_]) rfl rfl dJ6_bitCount_0f7a4_47 (by decide) rfl ?_
  refine V_iload_n rfl dJ6_bitCount_0f7a4_48 rfl rfl ?_
  refine V_bipush (v := 63) rfl dJ6_bitCount_0f7a4_49 kb_63 ?_
  refine V_iand rfl dJ6_bitCount_0f7a4_51 ?_
  cases h
  exact V_iret dJ6_bitCount_0f7a4_52 rfl rfl (Nat.le_refl _) (Nat.le_refl _) qI_ok
-- X1_put: NeverHalted$Book.put(LNeverHalted$Now;II)V
def f_X1_put (o0 : Nat) (o1 : Nat) (p2 : Int32) (p3 : Int32) (M : IM) : IR := if (M o1 9) < 150 then wr M (o0 + 1) 150 (M o1 9) (M o1 1) fun M2 => wr M2 (o0 + 2) 150 (M2 o1 9) p2 fun M4 => wr M4 (o0 + 3) 150 (M4 o1 9) p3 fun M6 => pt M6 o1 9 ((M6 o1 9) + 1) fun M8 => some (0, M8) else some (0, M)
set_option maxRecDepth 100000 in
set_option maxHeartbeats 4000000 in
theorem t_X1_put {g : IG} {a : Nat → Nat} {R : Int32 × IM} {o0 : Nat} {o1 : Nat} {p2 : Int32} {p3 : Int32} {M : IM} (h0 : isBook o0) (h1 : isNow o1) (h : f_X1_put o0 o1 p2 p3 M = some R) : Cn g mX1_put 1 0 0 (qV S0 a R) [.ref (a o0), .ref (a o1), .int p2, .int p3] a S0 M := by
  refine Cn_of (L := [some (.ref (a o0)), some (.ref (a o1)), some (.int p2), some (.int p3)]) mf_X1_put (cat_r (cat_r (cat_i (cat_i cat_0)))) (Nat.le_of_ble_eq_true rfl) rfl ?_
  unfold f_X1_put at h
  refine V_aload_n rfl dX1_put_0 rfl rfl ?_
  refine V_geti (k0 := 9) rfl dX1_put_1 (isNow_0 h1) icX4 (by decide) rfl w_197 ?_
  refine V_sipush (v := 150) rfl dX1_put_4 ks_150 ?_
  refine V_icmp_lt (t := 11) rfl rfl dX1_put_7 (fun hc1 => ?_) (fun hc1 => ?_)
  · replace h := ifp hc1 h
    refine V_aload_n rfl dX1_put_11 rfl rfl ?_
    refine V_getr (k0 := 0) rfl dX1_put_12 (isBook_0 h0) icX1 (by decide) rfl w_381 ?_
    refine V_aload_n rfl dX1_put_15 rfl rfl ?_
    refine V_geti (k0 := 9) rfl dX1_put_16 (isNow_0 h1) icX4 (by decide) rfl w_197 ?_
    refine V_aload_n rfl dX1_put_19 rfl rfl ?_
    refine V_geti (k0 := 1) rfl dX1_put_20 (isNow_0 h1) icX4 (by decide) rfl w_178 ?_
    replace h := wr_e h
    obtain ⟨hb3, h⟩ := h
    refine V_iast rfl dX1_put_23 (isBook_1 h0) hb3 ?_
    refine V_aload_n rfl dX1_put_24 rfl rfl ?_
    refine V_getr (k0 := 1) rfl dX1_put_25 (isBook_0 h0) icX1 (by decide) rfl w_383 ?_
    refine V_aload_n rfl dX1_put_28 rfl rfl ?_
    refine V_geti (k0 := 9) rfl dX1_put_29 (isNow_0 h1) icX4 (by decide) rfl w_197 ?_
    refine V_iload_n rfl dX1_put_32 rfl rfl ?_
    replace h := wr_e h
    obtain ⟨hb5, h⟩ := h
    refine V_iast rfl dX1_put_33 (isBook_2 h0) hb5 ?_
    refine V_aload_n rfl dX1_put_34 rfl rfl ?_
    refine V_getr (k0 := 2) rfl dX1_put_35 (isBook_0 h0) icX1 (by decide) rfl w_385 ?_
    refine V_aload_n rfl dX1_put_38 rfl rfl ?_
    refine V_geti (k0 := 9) rfl dX1_put_39 (isNow_0 h1) icX4 (by decide) rfl w_197 ?_
    refine V_iload_n rfl dX1_put_42 rfl rfl ?_
    replace h := wr_e h
    obtain ⟨hb7, h⟩ := h
    refine V_iast rfl dX1_put_43 (isBook_3 h0) hb7 ?_
    refine V_aload_n rfl dX1_put_44 rfl rfl ?_
    refine V_dup rfl dX1_put_45 rfl ?_
    refine V_geti (k0 := 9) rfl dX1_put_46 (isNow_0 h1) icX4 (by decide) rfl w_197 ?_
    refine V_iconst (v := 1) rfl dX1_put_49 kc_1 ?_
    refine V_iadd rfl dX1_put_50 ?_
    replace h := pt_e h
    refine V_putf (k0 := 9) (ty := .int) rfl dX1_put_51 (isNow_0 h1) icX4 tyX4_ok nmX4 (by decide) rfl w_197 rfl (tyX4_ok _ (by decide)) rfl rfl ?_
    cases h
    exact V_vret dX1_put_54 rfl (Nat.le_refl _) (Nat.le_refl _) qV_ok
  · replace h := ifn hc1 h
    cases h
    exact V_vret dX1_put_10 rfl (Nat.le_refl _) (Nat.le_refl _) qV_ok
-- X4_drawOfThousand: NeverHalted$Now.drawOfThousand()I
def f_X4_drawOfThousand (o0 : Nat) (M : IM) : IR := pt M o0 0 ((1664525 * (M o0 0)) + 1013904223) fun M1 => some ((((Int32.toUInt32 (M1 o0 0) >>> (Int32.toUInt32 8 &&& Int32.toUInt32 31)).toInt32) - ((Int32.toUInt32 (M1 o0 0) >>> (Int32.toUInt32 8 &&& Int32.toUInt32 31)).toInt32) / 1000 * 1000), M1)
set_option maxRecDepth 100000 in
set_option maxHeartbeats 4000000 in
theorem t_X4_drawOfThousand {g : IG} {a : Nat → Nat} {R : Int32 × IM} {o0 : Nat} {M : IM} (h0 : isNow o0) (h : f_X4_drawOfThousand o0 M = some R) : Cn g mX4_drawOfThousand 1 0 0 (qI S0 a R) [.ref (a o0)] a S0 M := by
  refine Cn_of (L := [some (.ref (a o0))]) mf_X4_drawOfThousand (cat_r cat_0) (Nat.le_of_ble_eq_true rfl) rfl ?_
  unfold f_X4_drawOfThousand at h
  refine V_aload_n rfl dX4_drawOfThousand_0 rfl rfl ?_
  refine V_ldc (v := 1664525) rfl dX4_drawOfThousand_1 w_905 ?_
  refine V_aload_n rfl dX4_drawOfThousand_3 rfl rfl ?_
  refine V_geti (k0 := 0) rfl dX4_drawOfThousand_4 (isNow_0 h0) icX4 (by decide) rfl w_174 ?_
  refine V_imul rfl dX4_drawOfThousand_7 ?_
  refine V_ldc (v := 1013904223) rfl dX4_drawOfThousand_8 w_906 ?_
  refine V_iadd rfl dX4_drawOfThousand_10 ?_
  replace h := pt_e h
  refine V_putf (k0 := 0) (ty := .int) rfl dX4_drawOfThousand_11 (isNow_0 h0) icX4 tyX4_ok nmX4 (by decide) rfl w_174 rfl (tyX4_ok _ (by decide)) rfl rfl ?_
  refine V_aload_n rfl dX4_drawOfThousand_14 rfl rfl ?_
  refine V_geti (k0 := 0) rfl dX4_drawOfThousand_15 (isNow_0 h0) icX4 (by decide) rfl w_174 ?_
  refine V_bipush (v := 8) rfl dX4_drawOfThousand_18 kb_8 ?_
  refine V_iushr rfl dX4_drawOfThousand_20 ?_
  refine V_sipush (v := 1000) rfl dX4_drawOfThousand_21 ks_1000 ?_
  refine V_irem rfl dX4_drawOfThousand_24 (by decide) ?_
  cases h
  exact V_iret dX4_drawOfThousand_25 rfl rfl (Nat.le_refl _) (Nat.le_refl _) qI_ok
-- X11_bookMany: NeverHalted.bookMany(LNeverHalted$Now;IZ)V
def f_X11_bookMany_31 (o1 : Nat) (x3 : Int32) (M : IM) : IR := if x3 = 0 then some (0, M) else if (M 6 2) ≤ 0 then some (0, M) else cl (f_X4_drawOfThousand o1 M) fun w11 M12 => if (M12 6 2) ≤ w11 then some (0, M12) else pt M12 o1 6 ((M12 o1 6) + 1) fun M15 => cl (f_X1_put 30 o1 4 0 M15) fun _ M17 => some (0, M17)
set_option maxRecDepth 100000 in
set_option maxHeartbeats 4000000 in
theorem t_X11_bookMany_31 {g : IG} {a : Nat → Nat} {R : Int32 × IM} {o1 : Nat} {x3 : Int32} {M : IM} (h1 : isNow o1) (h : f_X11_bookMany_31 o1 x3 M = some R) : V g mX11_bookMany 2 0 0 (qV S0 a R) 31 [some (.ref (a 0)), some (.ref (a o1)), none, some (.int x3)] [] a S0 M 0 0 := by
  unfold f_X11_bookMany_31 at h
  refine V_iload_n rfl dX11_bookMany_31 rfl rfl ?_
  refine V_if_eq (t := 79) rfl rfl dX11_bookMany_32 (fun hc9 => ?_) (fun hc9 => ?_)
  · replace h := ifp hc9 h
    cases h
    exact V_vret dX11_bookMany_79 rfl (Nat.le_refl _) (Nat.le_refl _) qV_ok
  · replace h := ifn hc9 h
    refine V_aload_n rfl dX11_bookMany_35 rfl rfl ?_
    refine V_getr (k0 := 1) rfl dX11_bookMany_36 s0_0 icX11 (by decide) rfl w_524 ?_
    refine V_geti (k0 := 2) rfl dX11_bookMany_39 s0_6 icX9 (by decide) rfl w_347 ?_
    refine V_if_le (t := 79) rfl rfl dX11_bookMany_42 (fun hc10 => ?_) (fun hc10 => ?_)
    · replace h := ifp hc10 h
      cases h
      exact V_vret dX11_bookMany_79 rfl (Nat.le_refl _) (Nat.le_refl _) qV_ok
    · replace h := ifn hc10 h
      refine V_aload_n rfl dX11_bookMany_45 rfl rfl ?_
      replace h := cl_e h
      obtain ⟨w11, M12, hc13, h⟩ := h
      refine V_ii (As := []) rfl dX11_bookMany_46 mf_X4_drawOfThousand ⟨w_902, w_903⟩ w_901 (by decide) (isNow_0 h1) rfl rfl rfl rfl ⟨rfl, rfl⟩ (t_X4_drawOfThousand h1 hc13) ?_
      refine V_aload_n rfl dX11_bookMany_49 rfl rfl ?_
      refine V_getr (k0 := 1) rfl dX11_bookMany_50 s0_0 icX11 (by decide) rfl w_524 ?_
      refine V_geti (k0 := 2) rfl dX11_bookMany_53 s0_6 icX9 (by decide) rfl w_347 ?_
      refine V_icmp_ge (t := 79) rfl rfl dX11_bookMany_56 (fun hc14 => ?_) (fun hc14 => ?_)
      · replace h := ifp hc14 h
        cases h
        exact V_vret dX11_bookMany_79 rfl (Nat.le_refl _) (Nat.le_refl _) qV_ok
      · replace h := ifn hc14 h
        refine V_aload_n rfl dX11_bookMany_59 rfl rfl ?_
        refine V_dup rfl dX11_bookMany_60 rfl ?_
        refine V_geti (k0 := 6) rfl dX11_bookMany_61 (isNow_0 h1) icX4 (by decide) rfl w_191 ?_
        refine V_iconst (v := 1) rfl dX11_bookMany_64 kc_1 ?_
        refine V_iadd rfl dX11_bookMany_65 ?_
        replace h := pt_e h
        refine V_putf (k0 := 6) (ty := .int) rfl dX11_bookMany_66 (isNow_0 h1) icX4 tyX4_ok nmX4 (by decide) rfl w_191 rfl (tyX4_ok _ (by decide)) rfl rfl ?_
        refine V_aload_n rfl dX11_bookMany_69 rfl rfl ?_
        refine V_getr (k0 := 2) rfl dX11_bookMany_70 s0_0 icX11 (by decide) rfl w_525 ?_
        refine V_aload_n rfl dX11_bookMany_73 rfl rfl ?_
        refine V_iconst (v := 4) rfl dX11_bookMany_74 kc_4 ?_
        refine V_iconst (v := 0) rfl dX11_bookMany_75 kc_0 ?_
        replace h := cl_e h
        obtain ⟨w16, M17, hc18, h⟩ := h
        refine V_iv (As := [.ref _, .int _, .int _]) rfl dX11_bookMany_76 mf_X1_put ⟨w_898, w_899⟩ w_897 (by decide) s0_30 rfl rfl rfl rfl ⟨rfl, rfl⟩ (t_X1_put isBook_at30 h1 hc18) ?_
        cases h
        exact V_vret dX11_bookMany_79 rfl (Nat.le_refl _) (Nat.le_refl _) qV_ok
def f_X11_bookMany (o1 : Nat) (p2 : Int32) (p3 : Int32) (M : IM) : IR := if p2 = 0 then cl (f_X1_put 30 o1 1 0 M) fun _ M7 => f_X11_bookMany_31 o1 p3 M7 else if p3 = 0 then f_X11_bookMany_31 o1 p3 M else cl (f_X1_put 30 o1 2 p2 M) fun _ M4 => f_X11_bookMany_31 o1 p3 M4
set_option maxRecDepth 100000 in
set_option maxHeartbeats 4000000 in
theorem t_X11_bookMany {g : IG} {a : Nat → Nat} {R : Int32 × IM} {o1 : Nat} {p2 : Int32} {p3 : Int32} {M : IM} (h1 : isNow o1) (h : f_X11_bookMany o1 p2 p3 M = some R) : Cn g mX11_bookMany 2 0 0 (qV S0 a R) [.ref (a 0), .ref (a o1), .int p2, .int p3] a S0 M := by
  refine Cn_of (L := [some (.ref (a 0)), some (.ref (a o1)), some (.int p2), some (.int p3)]) mf_X11_bookMany (cat_r (cat_r (cat_i (cat_i cat_0)))) (Nat.le_of_ble_eq_true rfl) rfl ?_
  unfold f_X11_bookMany at h
  refine V_iload_n rfl dX11_bookMany_0 rfl rfl ?_
  refine V_if_ne (t := 17) rfl rfl dX11_bookMany_1 (fun hc1 => ?_) (fun hc1 => ?_)
  · replace h := ifn hc1 h
    refine V_iload_n rfl dX11_bookMany_17 rfl rfl ?_
    refine V_if_eq (t := 31) rfl rfl dX11_bookMany_18 (fun hc2 => ?_) (fun hc2 => ?_)
    · replace h := ifp hc2 h
      exact V_sub (le_s (le_s (le_n (le_s le_0)))) (t_X11_bookMany_31 h1 h)
    · replace h := ifn hc2 h
      refine V_aload_n rfl dX11_bookMany_21 rfl rfl ?_
      refine V_getr (k0 := 2) rfl dX11_bookMany_22 s0_0 icX11 (by decide) rfl w_525 ?_
      refine V_aload_n rfl dX11_bookMany_25 rfl rfl ?_
      refine V_iconst (v := 2) rfl dX11_bookMany_26 kc_2 ?_
      refine V_iload_n rfl dX11_bookMany_27 rfl rfl ?_
      replace h := cl_e h
      obtain ⟨w3, M4, hc5, h⟩ := h
      refine V_iv (As := [.ref _, .int _, .int _]) rfl dX11_bookMany_28 mf_X1_put ⟨w_898, w_899⟩ w_897 (by decide) s0_30 rfl rfl rfl rfl ⟨rfl, rfl⟩ (t_X1_put isBook_at30 h1 hc5) ?_
      exact V_sub (le_s (le_s (le_n (le_s le_0)))) (t_X11_bookMany_31 h1 h)
  · replace h := ifp hc1 h
    refine V_aload_n rfl dX11_bookMany_4 rfl rfl ?_
    refine V_getr (k0 := 2) rfl dX11_bookMany_5 s0_0 icX11 (by decide) rfl w_525 ?_
    refine V_aload_n rfl dX11_bookMany_8 rfl rfl ?_
    refine V_iconst (v := 1) rfl dX11_bookMany_9 kc_1 ?_
    refine V_iconst (v := 0) rfl dX11_bookMany_10 kc_0 ?_
    replace h := cl_e h
    obtain ⟨w6, M7, hc8, h⟩ := h
    refine V_iv (As := [.ref _, .int _, .int _]) rfl dX11_bookMany_11 mf_X1_put ⟨w_898, w_899⟩ w_897 (by decide) s0_30 rfl rfl rfl rfl ⟨rfl, rfl⟩ (t_X1_put isBook_at30 h1 hc8) ?_
    refine V_goto (t := 31) rfl dX11_bookMany_14 ?_
    exact V_sub (le_s (le_s (le_n (le_s le_0)))) (t_X11_bookMany_31 h1 h)
-- J9_min_7cf53: java/lang/Math.min(II)I
def f_J9_min_7cf53 (p0 : Int32) (p1 : Int32) (M : IM) : IR := if p1 < p0 then some (p1, M) else some (p0, M)
set_option maxRecDepth 100000 in
set_option maxHeartbeats 4000000 in
theorem t_J9_min_7cf53 {g : IG} {a : Nat → Nat} {R : Int32 × IM} {p0 : Int32} {p1 : Int32} {M : IM} (h : f_J9_min_7cf53 p0 p1 M = some R) : Cn g mJ9_min_7cf53 1 0 0 (qI S0 a R) [.int p0, .int p1] a S0 M := by
  refine Cn_of (L := [some (.int p0), some (.int p1)]) mf_J9_min_7cf53 (cat_i (cat_i cat_0)) (Nat.le_of_ble_eq_true rfl) rfl ?_
  unfold f_J9_min_7cf53 at h
  refine V_iload_n rfl dJ9_min_7cf53_0 rfl rfl ?_
  refine V_iload_n rfl dJ9_min_7cf53_1 rfl rfl ?_
  refine V_icmp_gt (t := 9) rfl rfl dJ9_min_7cf53_2 (fun hc1 => ?_) (fun hc1 => ?_)
  · replace h := ifp hc1 h
    refine V_iload_n rfl dJ9_min_7cf53_9 rfl rfl ?_
    cases h
    exact V_iret dJ9_min_7cf53_10 rfl rfl (Nat.le_refl _) (Nat.le_refl _) qI_ok
  · replace h := ifn hc1 h
    refine V_iload_n rfl dJ9_min_7cf53_5 rfl rfl ?_
    refine V_goto (t := 10) rfl dJ9_min_7cf53_6 ?_
    cases h
    exact V_iret dJ9_min_7cf53_10 rfl rfl (Nat.le_refl _) (Nat.le_refl _) qI_ok
-- J9_max_7cf53: java/lang/Math.max(II)I
def f_J9_max_7cf53 (p0 : Int32) (p1 : Int32) (M : IM) : IR := if p0 < p1 then some (p1, M) else some (p0, M)
set_option maxRecDepth 100000 in
set_option maxHeartbeats 4000000 in
theorem t_J9_max_7cf53 {g : IG} {a : Nat → Nat} {R : Int32 × IM} {p0 : Int32} {p1 : Int32} {M : IM} (h : f_J9_max_7cf53 p0 p1 M = some R) : Cn g mJ9_max_7cf53 1 0 0 (qI S0 a R) [.int p0, .int p1] a S0 M := by
  refine Cn_of (L := [some (.int p0), some (.int p1)]) mf_J9_max_7cf53 (cat_i (cat_i cat_0)) (Nat.le_of_ble_eq_true rfl) rfl ?_
  unfold f_J9_max_7cf53 at h
  refine V_iload_n rfl dJ9_max_7cf53_0 rfl rfl ?_
  refine V_iload_n rfl dJ9_max_7cf53_1 rfl rfl ?_
  refine V_icmp_lt (t := 9) rfl rfl dJ9_max_7cf53_2 (fun hc1 => ?_) (fun hc1 => ?_)
  · replace h := ifp hc1 h
    refine V_iload_n rfl dJ9_max_7cf53_9 rfl rfl ?_
    cases h
    exact V_iret dJ9_max_7cf53_10 rfl rfl (Nat.le_refl _) (Nat.le_refl _) qI_ok
  · replace h := ifn hc1 h
    refine V_iload_n rfl dJ9_max_7cf53_5 rfl rfl ?_
    refine V_goto (t := 10) rfl dJ9_max_7cf53_6 ?_
    cases h
    exact V_iret dJ9_max_7cf53_10 rfl rfl (Nat.le_refl _) (Nat.le_refl _) qI_ok
-- X0_amount: NeverHalted$Asked.amount(LNeverHalted$Law;I)I
def f_X0_amount_2_b (o1 : Nat) (r2 : Int32 → Int32 → IM → IR) (x2 : Int32) (x3 : Int32) (M : IM) : IR := if (M o1 0) ≤ x3 then if x2 = 10011 then some (10, M) else if x2 = 10012 then some (5, M) else some (1, M) else rd M (o1 + 1) 16 x3 fun v4 => if v4 = x2 then cl (f_X0_holds o1 x3 M) fun w8 M9 => if w8 = 0 then lt (x3 + 1) fun v12 => r2 x2 v12 M9 else rd M9 (o1 + 2) 16 x3 fun v13 => rd M9 (o1 + 3) 16 x3 fun v15 => cl (f_X0_worth (o1 + 5) 400 v13 v15 M9) fun w17 M18 => cl (f_J9_min_7cf53 99 w17 M18) fun w20 M21 => cl (f_J9_max_7cf53 0 w20 M21) fun w23 M24 => some (w23, M24) else lt (x3 + 1) fun v7 => r2 x2 v7 M
def f_X0_amount_2 (o1 : Nat) (n : Nat) : Int32 → Int32 → IM → IR := itr (fun _ _ _ => none) (f_X0_amount_2_b o1) n
set_option maxRecDepth 100000 in
set_option maxHeartbeats 4000000 in
theorem t_X0_amount_2 {g : IG} {a : Nat → Nat} {R : Int32 × IM} {o1 : Nat} (h1 : isLaw o1) (n : Nat) : ∀ (x2 : Int32) (x3 : Int32) (M : IM), f_X0_amount_2 o1 n x2 x3 M = some R → V g mX0_amount 5 0 0 (qI S0 a R) 2 [some (.ref (a 119)), some (.ref (a o1)), some (.int x2), some (.int x3)] [] a S0 M 0 0 := by
  induction n with
  | zero => intro x2 x3 M h; exact absurd h (fun z => by cases z)
  | succ n hr2 =>
    intro x2 x3 M h
    replace h : f_X0_amount_2_b o1 (f_X0_amount_2 o1 n) x2 x3 M = some R := h
    unfold f_X0_amount_2_b at h
    refine V_iload_n rfl dX0_amount_2 rfl rfl ?_
    refine V_aload_n rfl dX0_amount_3 rfl rfl ?_
    refine V_geti (k0 := 0) rfl dX0_amount_4 (isLaw_0 h1) icX3 (by decide) rfl w_259 ?_
    refine V_icmp_ge (t := 65) rfl rfl dX0_amount_7 (fun hc1 => ?_) (fun hc1 => ?_)
    · replace h := ifp hc1 h
      refine V_iload_n rfl dX0_amount_65 rfl rfl ?_
      replace h := ift h
      rcases h with ⟨hc2, h⟩ | ⟨hc2, h⟩
      · refine V_lookAt (off := 26) (t := 92) hc2 dX0_amount_66 (by decide +kernel) (by decide +kernel) rfl ?_
        refine V_bipush (v := 10) rfl dX0_amount_92 kb_10 ?_
        cases h
        exact V_iret dX0_amount_94 rfl rfl (Nat.le_refl _) (Nat.le_refl _) qI_ok
      replace h := ift h
      rcases h with ⟨hc3, h⟩ | ⟨hc3, h⟩
      · refine V_lookAt (off := 29) (t := 95) hc3 dX0_amount_66 (by decide +kernel) (by decide +kernel) rfl ?_
        refine V_iconst (v := 5) rfl dX0_amount_95 kc_5 ?_
        cases h
        exact V_iret dX0_amount_96 rfl rfl (Nat.le_refl _) (Nat.le_refl _) qI_ok
      refine V_lookup (off := 31) (t := 97) dX0_amount_66 (by decide +kernel) (look_ne (fun e => ne_toInt (z := 10011) (k := 10011) hc2 (by decide +kernel) e.symm) (look_ne (fun e => ne_toInt (z := 10012) (k := 10012) hc3 (by decide +kernel) e.symm) rfl)) rfl ?_
      refine V_iconst (v := 1) rfl dX0_amount_97 kc_1 ?_
      cases h
      exact V_iret dX0_amount_98 rfl rfl (Nat.le_refl _) (Nat.le_refl _) qI_ok
    · replace h := ifn hc1 h
      refine V_aload_n rfl dX0_amount_10 rfl rfl ?_
      refine V_getr (k0 := 1) rfl dX0_amount_11 (isLaw_0 h1) icX3 (by decide) rfl w_263 ?_
      refine V_iload_n rfl dX0_amount_14 rfl rfl ?_
      replace h := rd_e h
      obtain ⟨hb5, h⟩ := h
      refine V_iald rfl dX0_amount_15 (isLaw_1 h1) hb5 ?_
      refine V_iload_n rfl dX0_amount_16 rfl rfl ?_
      refine V_icmp_ne (t := 59) rfl rfl dX0_amount_17 (fun hc6 => ?_) (fun hc6 => ?_)
      · replace h := ifn hc6 h
        replace h := lt_e h
        refine V_inc (L' := [_, _, _, _]) rfl dX0_amount_59 rfl kc_1 (by decide) rfl ?_
        refine V_goto (t := 2) rfl dX0_amount_62 ?_
        exact V_sub (le_s (le_s (le_s (le_s le_0)))) (hr2 _ _ _ h)
      · replace h := ifp hc6 h
        refine V_aload_n rfl dX0_amount_20 rfl rfl ?_
        refine V_aload_n rfl dX0_amount_21 rfl rfl ?_
        refine V_iload_n rfl dX0_amount_22 rfl rfl ?_
        replace h := cl_e h
        obtain ⟨w8, M9, hc10, h⟩ := h
        refine V_ii (As := [.ref _, .int _]) rfl dX0_amount_23 mf_X0_holds ⟨w_873, w_20⟩ w_871 (by decide) s0_119 rfl rfl rfl rfl ⟨rfl, rfl⟩ (t_X0_holds h1 hc10) ?_
        refine V_if_eq (t := 59) rfl rfl dX0_amount_26 (fun hc11 => ?_) (fun hc11 => ?_)
        · replace h := ifp hc11 h
          replace h := lt_e h
          refine V_inc (L' := [_, _, _, _]) rfl dX0_amount_59 rfl kc_1 (by decide) rfl ?_
          refine V_goto (t := 2) rfl dX0_amount_62 ?_
          exact V_sub (le_s (le_s (le_s (le_s le_0)))) (hr2 _ _ _ h)
        · replace h := ifn hc11 h
          refine V_iconst (v := 0) rfl dX0_amount_29 kc_0 ?_
          refine V_bipush (v := 99) rfl dX0_amount_30 kb_99 ?_
          refine V_aload_n rfl dX0_amount_32 rfl rfl ?_
          refine V_aload_n rfl dX0_amount_33 rfl rfl ?_
          refine V_getr (k0 := 6) rfl dX0_amount_34 (isLaw_0 h1) icX3 (by decide) rfl w_272 ?_
          refine V_aload_n rfl dX0_amount_37 rfl rfl ?_
          refine V_getr (k0 := 2) rfl dX0_amount_38 (isLaw_0 h1) icX3 (by decide) rfl w_265 ?_
          refine V_iload_n rfl dX0_amount_41 rfl rfl ?_
          replace h := rd_e h
          obtain ⟨hb14, h⟩ := h
          refine V_iald rfl dX0_amount_42 (isLaw_2 h1) hb14 ?_
          refine V_aload_n rfl dX0_amount_43 rfl rfl ?_
          refine V_getr (k0 := 3) rfl dX0_amount_44 (isLaw_0 h1) icX3 (by decide) rfl w_267 ?_
          refine V_iload_n rfl dX0_amount_47 rfl rfl ?_
          replace h := rd_e h
          obtain ⟨hb16, h⟩ := h
          refine V_iald rfl dX0_amount_48 (isLaw_3 h1) hb16 ?_
          replace h := cl_e h
          obtain ⟨w17, M18, hc19, h⟩ := h
          refine V_ii (As := [.ref _, .int _, .int _]) rfl dX0_amount_49 mf_X0_worth ⟨w_877, w_21⟩ w_875 (by decide) s0_119 rfl rfl rfl rfl ⟨rfl, rfl⟩ (t_X0_worth (isLaw_5 h1) hc19) ?_
          replace h := cl_e h
          obtain ⟨w20, M21, hc22, h⟩ := h
          refine V_si (As := [.int _, .int _]) rfl dX0_amount_52 mf_J9_min_7cf53 w_916 w_915 (by decide) rfl rfl rfl ⟨rfl, rfl⟩ (t_J9_min_7cf53 hc22) ?_
          replace h := cl_e h
          obtain ⟨w23, M24, hc25, h⟩ := h
          refine V_si (As := [.int _, .int _]) rfl dX0_amount_55 mf_J9_max_7cf53 w_919 w_918 (by decide) rfl rfl rfl ⟨rfl, rfl⟩ (t_J9_max_7cf53 hc25) ?_
          cases h
          exact V_iret dX0_amount_58 rfl rfl (Nat.le_refl _) (Nat.le_refl _) qI_ok
def f_X0_amount (o1 : Nat) (p2 : Int32) (M : IM) : IR := f_X0_amount_2 o1 BG p2 0 M
set_option maxRecDepth 100000 in
set_option maxHeartbeats 4000000 in
theorem t_X0_amount {g : IG} {a : Nat → Nat} {R : Int32 × IM} {o1 : Nat} {p2 : Int32} {M : IM} (h1 : isLaw o1) (h : f_X0_amount o1 p2 M = some R) : Cn g mX0_amount 5 0 0 (qI S0 a R) [.ref (a 119), .ref (a o1), .int p2] a S0 M := by
  refine Cn_of (L := [some (.ref (a 119)), some (.ref (a o1)), some (.int p2), none]) mf_X0_amount (cat_r (cat_r (cat_i cat_0))) (Nat.le_of_ble_eq_true rfl) rfl ?_
  unfold f_X0_amount at h
  refine V_iconst (v := 0) rfl dX0_amount_0 kc_0 ?_
  refine V_istore_n (L' := [_, _, _, _]) rfl rfl dX0_amount_1 (by decide) rfl ?_
  exact V_sub (le_s (le_s (le_s (le_s le_0)))) (t_X0_amount_2 h1 BG _ _ _ h)
-- X11_tired: NeverHalted.tired(II)I
def f_X11_tired (p0 : Int32) (p1 : Int32) (M : IM) : IR := cl (f_J9_min_7cf53 999 (p0 + p1) M) fun w1 M2 => some (w1, M2)
set_option maxRecDepth 100000 in
set_option maxHeartbeats 4000000 in
theorem t_X11_tired {g : IG} {a : Nat → Nat} {R : Int32 × IM} {p0 : Int32} {p1 : Int32} {M : IM} (h : f_X11_tired p0 p1 M = some R) : Cn g mX11_tired 2 0 0 (qI S0 a R) [.int p0, .int p1] a S0 M := by
  refine Cn_of (L := [some (.int p0), some (.int p1)]) mf_X11_tired (cat_i (cat_i cat_0)) (Nat.le_of_ble_eq_true rfl) rfl ?_
  unfold f_X11_tired at h
  refine V_sipush (v := 999) rfl dX11_tired_0 ks_999 ?_
  refine V_iload_n rfl dX11_tired_3 rfl rfl ?_
  refine V_iload_n rfl dX11_tired_4 rfl rfl ?_
  refine V_iadd rfl dX11_tired_5 ?_
  replace h := cl_e h
  obtain ⟨w1, M2, hc3, h⟩ := h
  refine V_si (As := [.int _, .int _]) rfl dX11_tired_6 mf_J9_min_7cf53 w_916 w_924 (by decide) rfl rfl rfl ⟨rfl, rfl⟩ (t_J9_min_7cf53 hc3) ?_
  cases h
  exact V_iret dX11_tired_9 rfl rfl (Nat.le_refl _) (Nat.le_refl _) qI_ok
-- X11_oneMoreInRow: NeverHalted.oneMoreInRow(I)I
def f_X11_oneMoreInRow (p0 : Int32) (M : IM) : IR := cl (f_J9_min_7cf53 999 (p0 + 1) M) fun w1 M2 => some (w1, M2)
set_option maxRecDepth 100000 in
set_option maxHeartbeats 4000000 in
theorem t_X11_oneMoreInRow {g : IG} {a : Nat → Nat} {R : Int32 × IM} {p0 : Int32} {M : IM} (h : f_X11_oneMoreInRow p0 M = some R) : Cn g mX11_oneMoreInRow 2 0 0 (qI S0 a R) [.int p0] a S0 M := by
  refine Cn_of (L := [some (.int p0)]) mf_X11_oneMoreInRow (cat_i cat_0) (Nat.le_of_ble_eq_true rfl) rfl ?_
  unfold f_X11_oneMoreInRow at h
  refine V_sipush (v := 999) rfl dX11_oneMoreInRow_0 ks_999 ?_
  refine V_iload_n rfl dX11_oneMoreInRow_3 rfl rfl ?_
  refine V_iconst (v := 1) rfl dX11_oneMoreInRow_4 kc_1 ?_
  refine V_iadd rfl dX11_oneMoreInRow_5 ?_
  replace h := cl_e h
  obtain ⟨w1, M2, hc3, h⟩ := h
  refine V_si (As := [.int _, .int _]) rfl dX11_oneMoreInRow_6 mf_J9_min_7cf53 w_916 w_924 (by decide) rfl rfl rfl ⟨rfl, rfl⟩ (t_J9_min_7cf53 hc3) ?_
  cases h
  exact V_iret dX11_oneMoreInRow_9 rfl rfl (Nat.le_refl _) (Nat.le_refl _) qI_ok
-- X11_eased: NeverHalted.eased(II)I
def f_X11_eased (p0 : Int32) (p1 : Int32) (M : IM) : IR := cl (f_J9_max_7cf53 0 (p0 - p1) M) fun w1 M2 => some (w1, M2)
set_option maxRecDepth 100000 in
set_option maxHeartbeats 4000000 in
theorem t_X11_eased {g : IG} {a : Nat → Nat} {R : Int32 × IM} {p0 : Int32} {p1 : Int32} {M : IM} (h : f_X11_eased p0 p1 M = some R) : Cn g mX11_eased 2 0 0 (qI S0 a R) [.int p0, .int p1] a S0 M := by
  refine Cn_of (L := [some (.int p0), some (.int p1)]) mf_X11_eased (cat_i (cat_i cat_0)) (Nat.le_of_ble_eq_true rfl) rfl ?_
  unfold f_X11_eased at h
  refine V_iconst (v := 0) rfl dX11_eased_0 kc_0 ?_
  refine V_iload_n rfl dX11_eased_1 rfl rfl ?_
  refine V_iload_n rfl dX11_eased_2 rfl rfl ?_
  refine V_isub rfl dX11_eased_3 ?_
  replace h := cl_e h
  obtain ⟨w1, M2, hc3, h⟩ := h
  refine V_si (As := [.int _, .int _]) rfl dX11_eased_4 mf_J9_max_7cf53 w_919 w_931 (by decide) rfl rfl rfl ⟨rfl, rfl⟩ (t_J9_max_7cf53 hc3) ?_
  cases h
  exact V_iret dX11_eased_7 rfl rfl (Nat.le_refl _) (Nat.le_refl _) qI_ok
-- X11_tireAndEat: NeverHalted.tireAndEat(LNeverHalted$Now;I)V
def f_X11_tireAndEat_5_b (o1 : Nat) (r5 : Int32 → Int32 → Int32 → IM → IR) (x2 : Int32) (x3 : Int32) (x4 : Int32) (M : IM) : IR := if (M o1 10) ≤ x4 then cl (f_J9_max_7cf53 0 ((M o1 8) - x3) M) fun w2 M3 => pt M3 o1 8 w2 fun M5 => some (0, M5) else cl (f_X0_meet o1 20 x4 M) fun _ M7 => if ((x2 >>> (x4 &&& 31)) &&& 1) = 0 then rd M7 (o1 + 3) 10 x4 fun v10 => cl (f_X0_amount 14 10012 M7) fun w12 M13 => cl (f_X11_eased v10 w12 M13) fun w15 M16 => wr M16 (o1 + 3) 10 x4 w15 fun M18 => wr M18 (o1 + 4) 10 x4 0 fun M20 => lt (x4 + 1) fun v22 => r5 x2 x3 v22 M20 else cl (f_X0_amount 14 10011 M7) fun w23 M24 => cl (f_X0_amount 14 10013 M24) fun w26 M27 => lt (x3 + w26) fun v29 => rd M27 (o1 + 3) 10 x4 fun v30 => cl (f_X11_tired v30 w23 M27) fun w32 M33 => wr M33 (o1 + 3) 10 x4 w32 fun M35 => rd M35 (o1 + 4) 10 x4 fun v37 => cl (f_X11_oneMoreInRow v37 M35) fun w39 M40 => wr M40 (o1 + 4) 10 x4 w39 fun M42 => lt (x4 + 1) fun v44 => r5 x2 v29 v44 M42
def f_X11_tireAndEat_5 (o1 : Nat) (n : Nat) : Int32 → Int32 → Int32 → IM → IR := itr (fun _ _ _ _ => none) (f_X11_tireAndEat_5_b o1) n
set_option maxRecDepth 100000 in
set_option maxHeartbeats 4000000 in
theorem t_X11_tireAndEat_5 {g : IG} {a : Nat → Nat} {R : Int32 × IM} {o1 : Nat} (h1 : isNow o1) (n : Nat) : ∀ (x2 : Int32) (x3 : Int32) (x4 : Int32) (M : IM), f_X11_tireAndEat_5 o1 n x2 x3 x4 M = some R → V g mX11_tireAndEat 6 0 0 (qV S0 a R) 5 [some (.ref (a 0)), some (.ref (a o1)), some (.int x2), some (.int x3), some (.int x4), none] [] a S0 M 0 0 := by
  induction n with
  | zero => intro x2 x3 x4 M h; exact absurd h (fun z => by cases z)
  | succ n hr5 =>
    intro x2 x3 x4 M h
    replace h : f_X11_tireAndEat_5_b o1 (f_X11_tireAndEat_5 o1 n) x2 x3 x4 M = some R := h
    unfold f_X11_tireAndEat_5_b at h
    refine V_iload rfl dX11_tireAndEat_5 rfl ?_
    refine V_aload_n rfl dX11_tireAndEat_7 rfl rfl ?_
    refine V_geti (k0 := 10) rfl dX11_tireAndEat_8 (isNow_0 h1) icX4 (by decide) rfl w_201 ?_
    refine V_icmp_ge (t := 166) rfl rfl dX11_tireAndEat_11 (fun hc1 => ?_) (fun hc1 => ?_)
    · replace h := ifp hc1 h
      refine V_aload_n rfl dX11_tireAndEat_166 rfl rfl ?_
      refine V_iconst (v := 0) rfl dX11_tireAndEat_167 kc_0 ?_
      refine V_aload_n rfl dX11_tireAndEat_168 rfl rfl ?_
      refine V_geti (k0 := 8) rfl dX11_tireAndEat_169 (isNow_0 h1) icX4 (by decide) rfl w_196 ?_
      refine V_iload_n rfl dX11_tireAndEat_172 rfl rfl ?_
      refine V_isub rfl dX11_tireAndEat_173 ?_
      replace h := cl_e h
      obtain ⟨w2, M3, hc4, h⟩ := h
      refine V_si (As := [.int _, .int _]) rfl dX11_tireAndEat_174 mf_J9_max_7cf53 w_919 w_931 (by decide) rfl rfl rfl ⟨rfl, rfl⟩ (t_J9_max_7cf53 hc4) ?_
      replace h := pt_e h
      refine V_putf (k0 := 8) (ty := .int) rfl dX11_tireAndEat_177 (isNow_0 h1) icX4 tyX4_ok nmX4 (by decide) rfl w_196 rfl (tyX4_ok _ (by decide)) rfl rfl ?_
      cases h
      exact V_vret dX11_tireAndEat_180 rfl (Nat.le_refl _) (Nat.le_refl _) qV_ok
    · replace h := ifn hc1 h
      refine V_aload_n rfl dX11_tireAndEat_14 rfl rfl ?_
      refine V_getr (k0 := 11) rfl dX11_tireAndEat_15 s0_0 icX11 (by decide) rfl w_534 ?_
      refine V_aload_n rfl dX11_tireAndEat_18 rfl rfl ?_
      refine V_aload_n rfl dX11_tireAndEat_19 rfl rfl ?_
      refine V_getr (k0 := 1) rfl dX11_tireAndEat_20 s0_0 icX11 (by decide) rfl w_524 ?_
      refine V_getr (k0 := 6) rfl dX11_tireAndEat_23 s0_6 icX9 (by decide) rfl w_355 ?_
      refine V_iload rfl dX11_tireAndEat_26 rfl ?_
      replace h := cl_e h
      obtain ⟨w6, M7, hc8, h⟩ := h
      refine V_iv (As := [.ref _, .ref _, .int _]) rfl dX11_tireAndEat_28 mf_X0_meet ⟨w_852, w_853⟩ w_851 (by decide) s0_119 rfl rfl rfl rfl ⟨rfl, rfl⟩ (t_X0_meet h1 isRound_at20 hc8) ?_
      refine V_iload_n rfl dX11_tireAndEat_31 rfl rfl ?_
      refine V_iload rfl dX11_tireAndEat_32 rfl ?_
      refine V_ishr rfl dX11_tireAndEat_34 ?_
      refine V_iconst (v := 1) rfl dX11_tireAndEat_35 kc_1 ?_
      refine V_iand rfl dX11_tireAndEat_36 ?_
      refine V_if_eq (t := 118) rfl rfl dX11_tireAndEat_37 (fun hc9 => ?_) (fun hc9 => ?_)
      · replace h := ifp hc9 h
        refine V_aload_n rfl dX11_tireAndEat_118 rfl rfl ?_
        refine V_getr (k0 := 13) rfl dX11_tireAndEat_119 (isNow_0 h1) icX4 (by decide) rfl w_210 ?_
        refine V_iload rfl dX11_tireAndEat_122 rfl ?_
        refine V_aload_n rfl dX11_tireAndEat_124 rfl rfl ?_
        refine V_getr (k0 := 13) rfl dX11_tireAndEat_125 (isNow_0 h1) icX4 (by decide) rfl w_210 ?_
        refine V_iload rfl dX11_tireAndEat_128 rfl ?_
        replace h := rd_e h
        obtain ⟨hb11, h⟩ := h
        refine V_iald rfl dX11_tireAndEat_130 (isNow_3 h1) hb11 ?_
        refine V_aload_n rfl dX11_tireAndEat_131 rfl rfl ?_
        refine V_getr (k0 := 11) rfl dX11_tireAndEat_132 s0_0 icX11 (by decide) rfl w_534 ?_
        refine V_aload_n rfl dX11_tireAndEat_135 rfl rfl ?_
        refine V_getr (k0 := 1) rfl dX11_tireAndEat_136 s0_0 icX11 (by decide) rfl w_524 ?_
        refine V_getr (k0 := 5) rfl dX11_tireAndEat_139 s0_6 icX9 (by decide) rfl w_353 ?_
        refine V_sipush (v := 10012) rfl dX11_tireAndEat_142 ks_10012 ?_
        replace h := cl_e h
        obtain ⟨w12, M13, hc14, h⟩ := h
        refine V_ii (As := [.ref _, .int _]) rfl dX11_tireAndEat_145 mf_X0_amount ⟨w_912, w_913⟩ w_911 (by decide) s0_119 rfl rfl rfl rfl ⟨rfl, rfl⟩ (t_X0_amount isLaw_at14 hc14) ?_
        replace h := cl_e h
        obtain ⟨w15, M16, hc17, h⟩ := h
        refine V_si (As := [.int _, .int _]) rfl dX11_tireAndEat_148 mf_X11_eased w_929 w_928 (by decide) rfl rfl rfl ⟨rfl, rfl⟩ (t_X11_eased hc17) ?_
        replace h := wr_e h
        obtain ⟨hb19, h⟩ := h
        refine V_iast rfl dX11_tireAndEat_151 (isNow_3 h1) hb19 ?_
        refine V_aload_n rfl dX11_tireAndEat_152 rfl rfl ?_
        refine V_getr (k0 := 14) rfl dX11_tireAndEat_153 (isNow_0 h1) icX4 (by decide) rfl w_213 ?_
        refine V_iload rfl dX11_tireAndEat_156 rfl ?_
        refine V_iconst (v := 0) rfl dX11_tireAndEat_158 kc_0 ?_
        replace h := wr_e h
        obtain ⟨hb21, h⟩ := h
        refine V_iast rfl dX11_tireAndEat_159 (isNow_4 h1) hb21 ?_
        replace h := lt_e h
        refine V_inc (L' := [_, _, _, _, _, _]) rfl dX11_tireAndEat_160 rfl kc_1 (by decide) rfl ?_
        refine V_goto (t := 5) rfl dX11_tireAndEat_163 ?_
        exact V_sub (le_s (le_s (le_s (le_s (le_s (le_n le_0)))))) (hr5 _ _ _ _ h)
      · replace h := ifn hc9 h
        refine V_aload_n rfl dX11_tireAndEat_40 rfl rfl ?_
        refine V_getr (k0 := 11) rfl dX11_tireAndEat_41 s0_0 icX11 (by decide) rfl w_534 ?_
        refine V_aload_n rfl dX11_tireAndEat_44 rfl rfl ?_
        refine V_getr (k0 := 1) rfl dX11_tireAndEat_45 s0_0 icX11 (by decide) rfl w_524 ?_
        refine V_getr (k0 := 5) rfl dX11_tireAndEat_48 s0_6 icX9 (by decide) rfl w_353 ?_
        refine V_sipush (v := 10011) rfl dX11_tireAndEat_51 ks_10011 ?_
        replace h := cl_e h
        obtain ⟨w23, M24, hc25, h⟩ := h
        refine V_ii (As := [.ref _, .int _]) rfl dX11_tireAndEat_54 mf_X0_amount ⟨w_912, w_913⟩ w_911 (by decide) s0_119 rfl rfl rfl rfl ⟨rfl, rfl⟩ (t_X0_amount isLaw_at14 hc25) ?_
        refine V_istore (L' := [_, _, _, _, _, _]) rfl dX11_tireAndEat_57 (by decide) rfl ?_
        refine V_iload_n rfl dX11_tireAndEat_59 rfl rfl ?_
        refine V_aload_n rfl dX11_tireAndEat_60 rfl rfl ?_
        refine V_getr (k0 := 11) rfl dX11_tireAndEat_61 s0_0 icX11 (by decide) rfl w_534 ?_
        refine V_aload_n rfl dX11_tireAndEat_64 rfl rfl ?_
        refine V_getr (k0 := 1) rfl dX11_tireAndEat_65 s0_0 icX11 (by decide) rfl w_524 ?_
        refine V_getr (k0 := 5) rfl dX11_tireAndEat_68 s0_6 icX9 (by decide) rfl w_353 ?_
        refine V_sipush (v := 10013) rfl dX11_tireAndEat_71 ks_10013 ?_
        replace h := cl_e h
        obtain ⟨w26, M27, hc28, h⟩ := h
        refine V_ii (As := [.ref _, .int _]) rfl dX11_tireAndEat_74 mf_X0_amount ⟨w_912, w_913⟩ w_911 (by decide) s0_119 rfl rfl rfl rfl ⟨rfl, rfl⟩ (t_X0_amount isLaw_at14 hc28) ?_
        refine V_iadd rfl dX11_tireAndEat_77 ?_
        replace h := lt_e h
        refine V_istore_n (L' := [_, _, _, _, _, _]) rfl rfl dX11_tireAndEat_78 (by decide) rfl ?_
        refine V_aload_n rfl dX11_tireAndEat_79 rfl rfl ?_
        refine V_getr (k0 := 13) rfl dX11_tireAndEat_80 (isNow_0 h1) icX4 (by decide) rfl w_210 ?_
        refine V_iload rfl dX11_tireAndEat_83 rfl ?_
        refine V_aload_n rfl dX11_tireAndEat_85 rfl rfl ?_
        refine V_getr (k0 := 13) rfl dX11_tireAndEat_86 (isNow_0 h1) icX4 (by decide) rfl w_210 ?_
        refine V_iload rfl dX11_tireAndEat_89 rfl ?_
        replace h := rd_e h
        obtain ⟨hb31, h⟩ := h
        refine V_iald rfl dX11_tireAndEat_91 (isNow_3 h1) hb31 ?_
        refine V_iload rfl dX11_tireAndEat_92 rfl ?_
        replace h := cl_e h
        obtain ⟨w32, M33, hc34, h⟩ := h
        refine V_si (As := [.int _, .int _]) rfl dX11_tireAndEat_94 mf_X11_tired w_922 w_921 (by decide) rfl rfl rfl ⟨rfl, rfl⟩ (t_X11_tired hc34) ?_
        replace h := wr_e h
        obtain ⟨hb36, h⟩ := h
        refine V_iast rfl dX11_tireAndEat_97 (isNow_3 h1) hb36 ?_
        refine V_aload_n rfl dX11_tireAndEat_98 rfl rfl ?_
        refine V_getr (k0 := 14) rfl dX11_tireAndEat_99 (isNow_0 h1) icX4 (by decide) rfl w_213 ?_
        refine V_iload rfl dX11_tireAndEat_102 rfl ?_
        refine V_aload_n rfl dX11_tireAndEat_104 rfl rfl ?_
        refine V_getr (k0 := 14) rfl dX11_tireAndEat_105 (isNow_0 h1) icX4 (by decide) rfl w_213 ?_
        refine V_iload rfl dX11_tireAndEat_108 rfl ?_
        replace h := rd_e h
        obtain ⟨hb38, h⟩ := h
        refine V_iald rfl dX11_tireAndEat_110 (isNow_4 h1) hb38 ?_
        replace h := cl_e h
        obtain ⟨w39, M40, hc41, h⟩ := h
        refine V_si (As := [.int _]) rfl dX11_tireAndEat_111 mf_X11_oneMoreInRow w_926 w_925 (by decide) rfl rfl rfl ⟨rfl, rfl⟩ (t_X11_oneMoreInRow hc41) ?_
        replace h := wr_e h
        obtain ⟨hb43, h⟩ := h
        refine V_iast rfl dX11_tireAndEat_114 (isNow_4 h1) hb43 ?_
        refine V_goto (t := 160) rfl dX11_tireAndEat_115 ?_
        replace h := lt_e h
        refine V_inc (L' := [_, _, _, _, _, _]) rfl dX11_tireAndEat_160 rfl kc_1 (by decide) rfl ?_
        refine V_goto (t := 5) rfl dX11_tireAndEat_163 ?_
        exact V_sub (le_s (le_s (le_s (le_s (le_s (le_n le_0)))))) (hr5 _ _ _ _ h)
def f_X11_tireAndEat (o1 : Nat) (p2 : Int32) (M : IM) : IR := f_X11_tireAndEat_5 o1 BG p2 0 0 M
set_option maxRecDepth 100000 in
set_option maxHeartbeats 4000000 in
theorem t_X11_tireAndEat {g : IG} {a : Nat → Nat} {R : Int32 × IM} {o1 : Nat} {p2 : Int32} {M : IM} (h1 : isNow o1) (h : f_X11_tireAndEat o1 p2 M = some R) : Cn g mX11_tireAndEat 6 0 0 (qV S0 a R) [.ref (a 0), .ref (a o1), .int p2] a S0 M := by
  refine Cn_of (L := [some (.ref (a 0)), some (.ref (a o1)), some (.int p2), none, none, none]) mf_X11_tireAndEat (cat_r (cat_r (cat_i cat_0))) (Nat.le_of_ble_eq_true rfl) rfl ?_
  unfold f_X11_tireAndEat at h
  refine V_iconst (v := 0) rfl dX11_tireAndEat_0 kc_0 ?_
  refine V_istore_n (L' := [_, _, _, _, _, _]) rfl rfl dX11_tireAndEat_1 (by decide) rfl ?_
  refine V_iconst (v := 0) rfl dX11_tireAndEat_2 kc_0 ?_
  refine V_istore (L' := [_, _, _, _, _, _]) rfl dX11_tireAndEat_3 (by decide) rfl ?_
  exact V_sub (le_s (le_s (le_s (le_s (le_s (le_n le_0)))))) (t_X11_tireAndEat_5 h1 BG _ _ _ _ h)
-- X11_goOn: NeverHalted.goOn(LNeverHalted$Now;Z)V
def f_X11_goOn_142 (o1 : Nat) (x2 : Int32) (M : IM) : IR := rd M 24 8 (M o1 2) fun v24 => cl (f_J9_min_7cf53 9999 ((M o1 8) + v24) M) fun w26 M27 => pt M27 o1 8 w26 fun M29 => if x2 = 0 then cl (f_X1_put 30 o1 0 (M29 o1 2) M29) fun _ M32 => some (0, M32) else some (0, M29)
set_option maxRecDepth 100000 in
set_option maxHeartbeats 4000000 in
theorem t_X11_goOn_142 {g : IG} {a : Nat → Nat} {R : Int32 × IM} {o1 : Nat} {x2 : Int32} {M : IM} (h1 : isNow o1) (h : f_X11_goOn_142 o1 x2 M = some R) : V g mX11_goOn 2 0 0 (qV S0 a R) 142 [some (.ref (a 0)), some (.ref (a o1)), some (.int x2), some (.ref (a 20)), none] [] a S0 M 0 0 := by
  unfold f_X11_goOn_142 at h
  refine V_aload_n rfl dX11_goOn_142 rfl rfl ?_
  refine V_sipush (v := 9999) rfl dX11_goOn_143 ks_9999 ?_
  refine V_aload_n rfl dX11_goOn_146 rfl rfl ?_
  refine V_geti (k0 := 8) rfl dX11_goOn_147 (isNow_0 h1) icX4 (by decide) rfl w_196 ?_
  refine V_aload_n rfl dX11_goOn_150 rfl rfl ?_
  refine V_getr (k0 := 4) rfl dX11_goOn_151 s0_20 icX7 (by decide) rfl w_306 ?_
  refine V_aload_n rfl dX11_goOn_154 rfl rfl ?_
  refine V_geti (k0 := 2) rfl dX11_goOn_155 (isNow_0 h1) icX4 (by decide) rfl w_182 ?_
  replace h := rd_e h
  obtain ⟨hb25, h⟩ := h
  refine V_iald rfl dX11_goOn_158 s0_24 hb25 ?_
  refine V_iadd rfl dX11_goOn_159 ?_
  replace h := cl_e h
  obtain ⟨w26, M27, hc28, h⟩ := h
  refine V_si (As := [.int _, .int _]) rfl dX11_goOn_160 mf_J9_min_7cf53 w_916 w_924 (by decide) rfl rfl rfl ⟨rfl, rfl⟩ (t_J9_min_7cf53 hc28) ?_
  replace h := pt_e h
  refine V_putf (k0 := 8) (ty := .int) rfl dX11_goOn_163 (isNow_0 h1) icX4 tyX4_ok nmX4 (by decide) rfl w_196 rfl (tyX4_ok _ (by decide)) rfl rfl ?_
  refine V_iload_n rfl dX11_goOn_166 rfl rfl ?_
  refine V_if_ne (t := 183) rfl rfl dX11_goOn_167 (fun hc30 => ?_) (fun hc30 => ?_)
  · replace h := ifn hc30 h
    cases h
    exact V_vret dX11_goOn_183 rfl (Nat.le_refl _) (Nat.le_refl _) qV_ok
  · replace h := ifp hc30 h
    refine V_aload_n rfl dX11_goOn_170 rfl rfl ?_
    refine V_getr (k0 := 2) rfl dX11_goOn_171 s0_0 icX11 (by decide) rfl w_525 ?_
    refine V_aload_n rfl dX11_goOn_174 rfl rfl ?_
    refine V_iconst (v := 0) rfl dX11_goOn_175 kc_0 ?_
    refine V_aload_n rfl dX11_goOn_176 rfl rfl ?_
    refine V_geti (k0 := 2) rfl dX11_goOn_177 (isNow_0 h1) icX4 (by decide) rfl w_182 ?_
    replace h := cl_e h
    obtain ⟨w31, M32, hc33, h⟩ := h
    refine V_iv (As := [.ref _, .int _, .int _]) rfl dX11_goOn_180 mf_X1_put ⟨w_898, w_899⟩ w_897 (by decide) s0_30 rfl rfl rfl rfl ⟨rfl, rfl⟩ (t_X1_put isBook_at30 h1 hc33) ?_
    cases h
    exact V_vret dX11_goOn_183 rfl (Nat.le_refl _) (Nat.le_refl _) qV_ok
def f_X11_goOn_74 (o1 : Nat) (x2 : Int32) (M : IM) : IR := pt M o1 3 ((M o1 3) + 1) fun M15 => rd M15 22 8 (M15 o1 2) fun v16 => if v16 ≤ (M15 o1 3) then pt M15 o1 3 0 fun M19 => pt M19 o1 2 ((M19 o1 2) + 1) fun M20 => if (M20 o1 2) < (M20 20 0) then f_X11_goOn_142 o1 x2 M20 else pt M20 o1 2 0 fun M22 => pt M22 o1 7 ((M22 o1 7) + 1) fun M23 => f_X11_goOn_142 o1 x2 M23 else some (0, M15)
set_option maxRecDepth 100000 in
set_option maxHeartbeats 4000000 in
theorem t_X11_goOn_74 {g : IG} {a : Nat → Nat} {R : Int32 × IM} {o1 : Nat} {x2 : Int32} {M : IM} (h1 : isNow o1) (h : f_X11_goOn_74 o1 x2 M = some R) : V g mX11_goOn 2 0 0 (qV S0 a R) 74 [some (.ref (a 0)), some (.ref (a o1)), some (.int x2), some (.ref (a 20)), none] [] a S0 M 0 0 := by
  unfold f_X11_goOn_74 at h
  refine V_aload_n rfl dX11_goOn_74 rfl rfl ?_
  refine V_dup rfl dX11_goOn_75 rfl ?_
  refine V_geti (k0 := 3) rfl dX11_goOn_76 (isNow_0 h1) icX4 (by decide) rfl w_185 ?_
  refine V_iconst (v := 1) rfl dX11_goOn_79 kc_1 ?_
  refine V_iadd rfl dX11_goOn_80 ?_
  replace h := pt_e h
  refine V_putf (k0 := 3) (ty := .int) rfl dX11_goOn_81 (isNow_0 h1) icX4 tyX4_ok nmX4 (by decide) rfl w_185 rfl (tyX4_ok _ (by decide)) rfl rfl ?_
  refine V_aload_n rfl dX11_goOn_84 rfl rfl ?_
  refine V_geti (k0 := 3) rfl dX11_goOn_85 (isNow_0 h1) icX4 (by decide) rfl w_185 ?_
  refine V_aload_n rfl dX11_goOn_88 rfl rfl ?_
  refine V_getr (k0 := 2) rfl dX11_goOn_89 s0_20 icX7 (by decide) rfl w_302 ?_
  refine V_aload_n rfl dX11_goOn_92 rfl rfl ?_
  refine V_geti (k0 := 2) rfl dX11_goOn_93 (isNow_0 h1) icX4 (by decide) rfl w_182 ?_
  replace h := rd_e h
  obtain ⟨hb17, h⟩ := h
  refine V_iald rfl dX11_goOn_96 s0_22 hb17 ?_
  refine V_icmp_ge (t := 101) rfl rfl dX11_goOn_97 (fun hc18 => ?_) (fun hc18 => ?_)
  · replace h := ifp hc18 h
    refine V_aload_n rfl dX11_goOn_101 rfl rfl ?_
    refine V_iconst (v := 0) rfl dX11_goOn_102 kc_0 ?_
    replace h := pt_e h
    refine V_putf (k0 := 3) (ty := .int) rfl dX11_goOn_103 (isNow_0 h1) icX4 tyX4_ok nmX4 (by decide) rfl w_185 rfl (tyX4_ok _ (by decide)) rfl rfl ?_
    refine V_aload_n rfl dX11_goOn_106 rfl rfl ?_
    refine V_dup rfl dX11_goOn_107 rfl ?_
    refine V_geti (k0 := 2) rfl dX11_goOn_108 (isNow_0 h1) icX4 (by decide) rfl w_182 ?_
    refine V_iconst (v := 1) rfl dX11_goOn_111 kc_1 ?_
    refine V_iadd rfl dX11_goOn_112 ?_
    replace h := pt_e h
    refine V_putf (k0 := 2) (ty := .int) rfl dX11_goOn_113 (isNow_0 h1) icX4 tyX4_ok nmX4 (by decide) rfl w_182 rfl (tyX4_ok _ (by decide)) rfl rfl ?_
    refine V_aload_n rfl dX11_goOn_116 rfl rfl ?_
    refine V_geti (k0 := 2) rfl dX11_goOn_117 (isNow_0 h1) icX4 (by decide) rfl w_182 ?_
    refine V_aload_n rfl dX11_goOn_120 rfl rfl ?_
    refine V_geti (k0 := 0) rfl dX11_goOn_121 s0_20 icX7 (by decide) rfl w_297 ?_
    refine V_icmp_lt (t := 142) rfl rfl dX11_goOn_124 (fun hc21 => ?_) (fun hc21 => ?_)
    · replace h := ifp hc21 h
      exact V_sub (le_s (le_s (le_s (le_s (le_n le_0))))) (t_X11_goOn_142 h1 h)
    · replace h := ifn hc21 h
      refine V_aload_n rfl dX11_goOn_127 rfl rfl ?_
      refine V_iconst (v := 0) rfl dX11_goOn_128 kc_0 ?_
      replace h := pt_e h
      refine V_putf (k0 := 2) (ty := .int) rfl dX11_goOn_129 (isNow_0 h1) icX4 tyX4_ok nmX4 (by decide) rfl w_182 rfl (tyX4_ok _ (by decide)) rfl rfl ?_
      refine V_aload_n rfl dX11_goOn_132 rfl rfl ?_
      refine V_dup rfl dX11_goOn_133 rfl ?_
      refine V_geti (k0 := 7) rfl dX11_goOn_134 (isNow_0 h1) icX4 (by decide) rfl w_193 ?_
      refine V_iconst (v := 1) rfl dX11_goOn_137 kc_1 ?_
      refine V_iadd rfl dX11_goOn_138 ?_
      replace h := pt_e h
      refine V_putf (k0 := 7) (ty := .int) rfl dX11_goOn_139 (isNow_0 h1) icX4 tyX4_ok nmX4 (by decide) rfl w_193 rfl (tyX4_ok _ (by decide)) rfl rfl ?_
      exact V_sub (le_s (le_s (le_s (le_s (le_n le_0))))) (t_X11_goOn_142 h1 h)
  · replace h := ifn hc18 h
    cases h
    exact V_vret dX11_goOn_100 rfl (Nat.le_refl _) (Nat.le_refl _) qV_ok
def f_X11_goOn_42 (o1 : Nat) (x2 : Int32) (y0 : Int32) (M : IM) : IR := if y0 = 0 then f_X11_goOn_74 o1 x2 M else cl (f_X4_drawOfThousand o1 M) fun w8 M9 => if (M9 6 1) ≤ w8 then f_X11_goOn_74 o1 x2 M9 else cl (f_X1_put 30 o1 3 0 M9) fun _ M13 => some (0, M13)
set_option maxRecDepth 100000 in
set_option maxHeartbeats 4000000 in
theorem t_X11_goOn_42 {g : IG} {a : Nat → Nat} {R : Int32 × IM} {o1 : Nat} {x2 : Int32} {y0 : Int32} {M : IM} (h1 : isNow o1) (h : f_X11_goOn_42 o1 x2 y0 M = some R) : V g mX11_goOn 2 0 0 (qV S0 a R) 42 [some (.ref (a 0)), some (.ref (a o1)), some (.int x2), some (.ref (a 20)), none] [.int y0] a S0 M 0 0 := by
  unfold f_X11_goOn_42 at h
  refine V_istore (L' := [_, _, _, _, _]) rfl dX11_goOn_42 (by decide) rfl ?_
  refine V_iload rfl dX11_goOn_44 rfl ?_
  refine V_if_eq (t := 74) rfl rfl dX11_goOn_46 (fun hc7 => ?_) (fun hc7 => ?_)
  · replace h := ifp hc7 h
    exact V_sub (le_s (le_s (le_s (le_s (le_n le_0))))) (t_X11_goOn_74 h1 h)
  · replace h := ifn hc7 h
    refine V_aload_n rfl dX11_goOn_49 rfl rfl ?_
    replace h := cl_e h
    obtain ⟨w8, M9, hc10, h⟩ := h
    refine V_ii (As := []) rfl dX11_goOn_50 mf_X4_drawOfThousand ⟨w_902, w_903⟩ w_901 (by decide) (isNow_0 h1) rfl rfl rfl rfl ⟨rfl, rfl⟩ (t_X4_drawOfThousand h1 hc10) ?_
    refine V_aload_n rfl dX11_goOn_53 rfl rfl ?_
    refine V_getr (k0 := 1) rfl dX11_goOn_54 s0_0 icX11 (by decide) rfl w_524 ?_
    refine V_geti (k0 := 1) rfl dX11_goOn_57 s0_6 icX9 (by decide) rfl w_345 ?_
    refine V_icmp_ge (t := 74) rfl rfl dX11_goOn_60 (fun hc11 => ?_) (fun hc11 => ?_)
    · replace h := ifp hc11 h
      exact V_sub (le_s (le_s (le_s (le_s (le_n le_0))))) (t_X11_goOn_74 h1 h)
    · replace h := ifn hc11 h
      refine V_aload_n rfl dX11_goOn_63 rfl rfl ?_
      refine V_getr (k0 := 2) rfl dX11_goOn_64 s0_0 icX11 (by decide) rfl w_525 ?_
      refine V_aload_n rfl dX11_goOn_67 rfl rfl ?_
      refine V_iconst (v := 3) rfl dX11_goOn_68 kc_3 ?_
      refine V_iconst (v := 0) rfl dX11_goOn_69 kc_0 ?_
      replace h := cl_e h
      obtain ⟨w12, M13, hc14, h⟩ := h
      refine V_iv (As := [.ref _, .int _, .int _]) rfl dX11_goOn_70 mf_X1_put ⟨w_898, w_899⟩ w_897 (by decide) s0_30 rfl rfl rfl rfl ⟨rfl, rfl⟩ (t_X1_put isBook_at30 h1 hc14) ?_
      cases h
      exact V_vret dX11_goOn_73 rfl (Nat.le_refl _) (Nat.le_refl _) qV_ok
def f_X11_goOn (o1 : Nat) (p2 : Int32) (M : IM) : IR := if p2 = 0 then if (M 6 1) ≤ 0 then f_X11_goOn_42 o1 p2 0 M else cl (f_X7_isRiver 20 (M o1 2) (M o1 3) M) fun w3 M4 => if w3 = 0 then f_X11_goOn_42 o1 p2 0 M4 else f_X11_goOn_42 o1 p2 1 M4 else f_X11_goOn_42 o1 p2 0 M
set_option maxRecDepth 100000 in
set_option maxHeartbeats 4000000 in
theorem t_X11_goOn {g : IG} {a : Nat → Nat} {R : Int32 × IM} {o1 : Nat} {p2 : Int32} {M : IM} (h1 : isNow o1) (h : f_X11_goOn o1 p2 M = some R) : Cn g mX11_goOn 2 0 0 (qV S0 a R) [.ref (a 0), .ref (a o1), .int p2] a S0 M := by
  refine Cn_of (L := [some (.ref (a 0)), some (.ref (a o1)), some (.int p2), none, none]) mf_X11_goOn (cat_r (cat_r (cat_i cat_0))) (Nat.le_of_ble_eq_true rfl) rfl ?_
  unfold f_X11_goOn at h
  refine V_aload_n rfl dX11_goOn_0 rfl rfl ?_
  refine V_getr (k0 := 1) rfl dX11_goOn_1 s0_0 icX11 (by decide) rfl w_524 ?_
  refine V_getr (k0 := 6) rfl dX11_goOn_4 s0_6 icX9 (by decide) rfl w_355 ?_
  refine V_astore_n (L' := [_, _, _, _, _]) rfl rfl dX11_goOn_7 (by decide) rfl ?_
  refine V_iload_n rfl dX11_goOn_8 rfl rfl ?_
  refine V_if_ne (t := 41) rfl rfl dX11_goOn_9 (fun hc1 => ?_) (fun hc1 => ?_)
  · replace h := ifn hc1 h
    refine V_iconst (v := 0) rfl dX11_goOn_41 kc_0 ?_
    exact V_sub (le_s (le_s (le_s (le_s (le_n le_0))))) (t_X11_goOn_42 h1 h)
  · replace h := ifp hc1 h
    refine V_aload_n rfl dX11_goOn_12 rfl rfl ?_
    refine V_getr (k0 := 1) rfl dX11_goOn_13 s0_0 icX11 (by decide) rfl w_524 ?_
    refine V_geti (k0 := 1) rfl dX11_goOn_16 s0_6 icX9 (by decide) rfl w_345 ?_
    refine V_if_le (t := 41) rfl rfl dX11_goOn_19 (fun hc2 => ?_) (fun hc2 => ?_)
    · replace h := ifp hc2 h
      refine V_iconst (v := 0) rfl dX11_goOn_41 kc_0 ?_
      exact V_sub (le_s (le_s (le_s (le_s (le_n le_0))))) (t_X11_goOn_42 h1 h)
    · replace h := ifn hc2 h
      refine V_aload_n rfl dX11_goOn_22 rfl rfl ?_
      refine V_aload_n rfl dX11_goOn_23 rfl rfl ?_
      refine V_geti (k0 := 2) rfl dX11_goOn_24 (isNow_0 h1) icX4 (by decide) rfl w_182 ?_
      refine V_aload_n rfl dX11_goOn_27 rfl rfl ?_
      refine V_geti (k0 := 3) rfl dX11_goOn_28 (isNow_0 h1) icX4 (by decide) rfl w_185 ?_
      replace h := cl_e h
      obtain ⟨w3, M4, hc5, h⟩ := h
      refine V_ii (As := [.int _, .int _]) rfl dX11_goOn_31 mf_X7_isRiver ⟨w_864, w_865⟩ w_936 (by decide) s0_20 rfl rfl rfl rfl ⟨rfl, rfl⟩ (t_X7_isRiver isRound_at20 hc5) ?_
      refine V_if_eq (t := 41) rfl rfl dX11_goOn_34 (fun hc6 => ?_) (fun hc6 => ?_)
      · replace h := ifp hc6 h
        refine V_iconst (v := 0) rfl dX11_goOn_41 kc_0 ?_
        exact V_sub (le_s (le_s (le_s (le_s (le_n le_0))))) (t_X11_goOn_42 h1 h)
      · replace h := ifn hc6 h
        refine V_iconst (v := 1) rfl dX11_goOn_37 kc_1 ?_
        refine V_goto (t := 42) rfl dX11_goOn_38 ?_
        exact V_sub (le_s (le_s (le_s (le_s (le_n le_0))))) (t_X11_goOn_42 h1 h)
-- X11_passHour: NeverHalted.passHour(LNeverHalted$Now;Z)Z
def f_X11_passHour_104 (o1 : Nat) (x5 : Int32) (M : IM) : IR := pt M o1 1 ((M o1 1) + 1) fun M24 => rz x5 M24
set_option maxRecDepth 100000 in
set_option maxHeartbeats 4000000 in
theorem t_X11_passHour_104 {g : IG} {a : Nat → Nat} {R : Int32 × IM} {o1 : Nat} {x5 : Int32} {M : IM} (h1 : isNow o1) (h : f_X11_passHour_104 o1 x5 M = some R) : V g mX11_passHour 7 0 0 (qI S0 a R) 104 [none, some (.ref (a o1)), none, none, none, some (.int x5)] [] a S0 M 0 0 := by
  unfold f_X11_passHour_104 at h
  refine V_aload_n rfl dX11_passHour_104 rfl rfl ?_
  refine V_dup rfl dX11_passHour_105 rfl ?_
  refine V_geti (k0 := 1) rfl dX11_passHour_106 (isNow_0 h1) icX4 (by decide) rfl w_179 ?_
  refine V_iconst (v := 1) rfl dX11_passHour_109 kc_1 ?_
  refine V_iadd rfl dX11_passHour_110 ?_
  replace h := pt_e h
  refine V_putf (k0 := 1) (ty := .int) rfl dX11_passHour_111 (isNow_0 h1) icX4 tyX4_ok nmX4 (by decide) rfl w_179 rfl (tyX4_ok _ (by decide)) rfl rfl ?_
  refine V_iload rfl dX11_passHour_114 rfl ?_
  replace h := rz_e h
  obtain ⟨hz25, h⟩ := h
  cases h
  exact V_iret dX11_passHour_116 rfl (nar_z hz25) (Nat.le_refl _) (Nat.le_refl _) qI_ok
def f_X11_passHour_74 (o1 : Nat) (x2 : Int32) (x3 : Int32) (x4 : Int32) (x5 : Int32) (M : IM) : IR := cl (f_X11_tireAndEat o1 x3 M) fun _ M17 => if x4 ≤ 0 then f_X11_passHour_104 o1 x5 M17 else if (M17 20 0) ≤ 0 then f_X11_passHour_104 o1 x5 M17 else cl (f_X11_goOn o1 x2 M17) fun _ M22 => f_X11_passHour_104 o1 x5 M22
set_option maxRecDepth 100000 in
set_option maxHeartbeats 4000000 in
theorem t_X11_passHour_74 {g : IG} {a : Nat → Nat} {R : Int32 × IM} {o1 : Nat} {x2 : Int32} {x3 : Int32} {x4 : Int32} {x5 : Int32} {M : IM} (h1 : isNow o1) (h : f_X11_passHour_74 o1 x2 x3 x4 x5 M = some R) : V g mX11_passHour 7 0 0 (qI S0 a R) 74 [some (.ref (a 0)), some (.ref (a o1)), some (.int x2), some (.int x3), some (.int x4), some (.int x5)] [] a S0 M 0 0 := by
  unfold f_X11_passHour_74 at h
  refine V_aload_n rfl dX11_passHour_74 rfl rfl ?_
  refine V_aload_n rfl dX11_passHour_75 rfl rfl ?_
  refine V_iload_n rfl dX11_passHour_76 rfl rfl ?_
  replace h := cl_e h
  obtain ⟨w16, M17, hc18, h⟩ := h
  refine V_iv (As := [.ref _, .int _]) rfl dX11_passHour_77 mf_X11_tireAndEat ⟨w_909, w_24⟩ w_907 (by decide) s0_0 rfl rfl rfl rfl ⟨rfl, rfl⟩ (t_X11_tireAndEat h1 hc18) ?_
  refine V_iload rfl dX11_passHour_80 rfl ?_
  refine V_if_le (t := 104) rfl rfl dX11_passHour_82 (fun hc19 => ?_) (fun hc19 => ?_)
  · replace h := ifp hc19 h
    exact V_sub (le_n (le_s (le_n (le_n (le_n (le_s le_0)))))) (t_X11_passHour_104 h1 h)
  · replace h := ifn hc19 h
    refine V_aload_n rfl dX11_passHour_85 rfl rfl ?_
    refine V_getr (k0 := 1) rfl dX11_passHour_86 s0_0 icX11 (by decide) rfl w_524 ?_
    refine V_getr (k0 := 6) rfl dX11_passHour_89 s0_6 icX9 (by decide) rfl w_355 ?_
    refine V_geti (k0 := 0) rfl dX11_passHour_92 s0_20 icX7 (by decide) rfl w_297 ?_
    refine V_if_le (t := 104) rfl rfl dX11_passHour_95 (fun hc20 => ?_) (fun hc20 => ?_)
    · replace h := ifp hc20 h
      exact V_sub (le_n (le_s (le_n (le_n (le_n (le_s le_0)))))) (t_X11_passHour_104 h1 h)
    · replace h := ifn hc20 h
      refine V_aload_n rfl dX11_passHour_98 rfl rfl ?_
      refine V_aload_n rfl dX11_passHour_99 rfl rfl ?_
      refine V_iload_n rfl dX11_passHour_100 rfl rfl ?_
      replace h := cl_e h
      obtain ⟨w21, M22, hc23, h⟩ := h
      refine V_iv (As := [.ref _, .int _]) rfl dX11_passHour_101 mf_X11_goOn ⟨w_934, w_25⟩ w_932 (by decide) s0_0 rfl rfl rfl rfl ⟨rfl, rfl⟩ (t_X11_goOn h1 hc23) ?_
      exact V_sub (le_n (le_s (le_n (le_n (le_n (le_s le_0)))))) (t_X11_passHour_104 h1 h)
def f_X11_passHour_61 (o1 : Nat) (x2 : Int32) (x3 : Int32) (x4 : Int32) (x5 : Int32) (M : IM) : IR := if x2 = 0 then cl (f_X11_bookMany o1 x4 x5 M) fun _ M14 => f_X11_passHour_74 o1 x2 x3 x4 x5 M14 else f_X11_passHour_74 o1 x2 x3 x4 x5 M
set_option maxRecDepth 100000 in
set_option maxHeartbeats 4000000 in
theorem t_X11_passHour_61 {g : IG} {a : Nat → Nat} {R : Int32 × IM} {o1 : Nat} {x2 : Int32} {x3 : Int32} {x4 : Int32} {x5 : Int32} {M : IM} (h1 : isNow o1) (h : f_X11_passHour_61 o1 x2 x3 x4 x5 M = some R) : V g mX11_passHour 7 0 0 (qI S0 a R) 61 [some (.ref (a 0)), some (.ref (a o1)), some (.int x2), some (.int x3), some (.int x4), some (.int x5)] [] a S0 M 0 0 := by
  unfold f_X11_passHour_61 at h
  refine V_iload_n rfl dX11_passHour_61 rfl rfl ?_
  refine V_if_ne (t := 74) rfl rfl dX11_passHour_62 (fun hc12 => ?_) (fun hc12 => ?_)
  · replace h := ifn hc12 h
    exact V_sub (le_s (le_s (le_s (le_s (le_s (le_s le_0)))))) (t_X11_passHour_74 h1 h)
  · replace h := ifp hc12 h
    refine V_aload_n rfl dX11_passHour_65 rfl rfl ?_
    refine V_aload_n rfl dX11_passHour_66 rfl rfl ?_
    refine V_iload rfl dX11_passHour_67 rfl ?_
    refine V_iload rfl dX11_passHour_69 rfl ?_
    replace h := cl_e h
    obtain ⟨w13, M14, hc15, h⟩ := h
    refine V_iv (As := [.ref _, .int _, .int _]) rfl dX11_passHour_71 mf_X11_bookMany ⟨w_895, w_23⟩ w_893 (by decide) s0_0 rfl rfl rfl rfl ⟨rfl, rfl⟩ (t_X11_bookMany h1 hc15) ?_
    exact V_sub (le_s (le_s (le_s (le_s (le_s (le_s le_0)))))) (t_X11_passHour_74 h1 h)
def f_X11_passHour_46 (o1 : Nat) (x2 : Int32) (x3 : Int32) (x4 : Int32) (x5 : Int32) (M : IM) : IR := if x4 = 0 then pt M o1 5 ((M o1 5) + 1) fun M11 => f_X11_passHour_61 o1 x2 x3 x4 x5 M11 else f_X11_passHour_61 o1 x2 x3 x4 x5 M
set_option maxRecDepth 100000 in
set_option maxHeartbeats 4000000 in
theorem t_X11_passHour_46 {g : IG} {a : Nat → Nat} {R : Int32 × IM} {o1 : Nat} {x2 : Int32} {x3 : Int32} {x4 : Int32} {x5 : Int32} {M : IM} (h1 : isNow o1) (h : f_X11_passHour_46 o1 x2 x3 x4 x5 M = some R) : V g mX11_passHour 7 0 0 (qI S0 a R) 46 [some (.ref (a 0)), some (.ref (a o1)), some (.int x2), some (.int x3), some (.int x4), some (.int x5)] [] a S0 M 0 0 := by
  unfold f_X11_passHour_46 at h
  refine V_iload rfl dX11_passHour_46 rfl ?_
  refine V_if_ne (t := 61) rfl rfl dX11_passHour_48 (fun hc10 => ?_) (fun hc10 => ?_)
  · replace h := ifn hc10 h
    exact V_sub (le_s (le_s (le_s (le_s (le_s (le_s le_0)))))) (t_X11_passHour_61 h1 h)
  · replace h := ifp hc10 h
    refine V_aload_n rfl dX11_passHour_51 rfl rfl ?_
    refine V_dup rfl dX11_passHour_52 rfl ?_
    refine V_geti (k0 := 5) rfl dX11_passHour_53 (isNow_0 h1) icX4 (by decide) rfl w_189 ?_
    refine V_iconst (v := 1) rfl dX11_passHour_56 kc_1 ?_
    refine V_iadd rfl dX11_passHour_57 ?_
    replace h := pt_e h
    refine V_putf (k0 := 5) (ty := .int) rfl dX11_passHour_58 (isNow_0 h1) icX4 tyX4_ok nmX4 (by decide) rfl w_189 rfl (tyX4_ok _ (by decide)) rfl rfl ?_
    exact V_sub (le_s (le_s (le_s (le_s (le_s (le_s le_0)))))) (t_X11_passHour_61 h1 h)
def f_X11_passHour_29 (o1 : Nat) (x2 : Int32) (x3 : Int32) (x4 : Int32) (y0 : Int32) (M : IM) : IR := if y0 = 0 then f_X11_passHour_46 o1 x2 x3 x4 y0 M else pt M o1 4 ((M o1 4) + 1) fun M9 => f_X11_passHour_46 o1 x2 x3 x4 y0 M9
set_option maxRecDepth 100000 in
set_option maxHeartbeats 4000000 in
theorem t_X11_passHour_29 {g : IG} {a : Nat → Nat} {R : Int32 × IM} {o1 : Nat} {x2 : Int32} {x3 : Int32} {x4 : Int32} {y0 : Int32} {M : IM} (h1 : isNow o1) (h : f_X11_passHour_29 o1 x2 x3 x4 y0 M = some R) : V g mX11_passHour 7 0 0 (qI S0 a R) 29 [some (.ref (a 0)), some (.ref (a o1)), some (.int x2), some (.int x3), some (.int x4), none] [.int y0] a S0 M 0 0 := by
  unfold f_X11_passHour_29 at h
  refine V_istore (L' := [_, _, _, _, _, _]) rfl dX11_passHour_29 (by decide) rfl ?_
  refine V_iload rfl dX11_passHour_31 rfl ?_
  refine V_if_eq (t := 46) rfl rfl dX11_passHour_33 (fun hc8 => ?_) (fun hc8 => ?_)
  · replace h := ifp hc8 h
    exact V_sub (le_s (le_s (le_s (le_s (le_s (le_s le_0)))))) (t_X11_passHour_46 h1 h)
  · replace h := ifn hc8 h
    refine V_aload_n rfl dX11_passHour_36 rfl rfl ?_
    refine V_dup rfl dX11_passHour_37 rfl ?_
    refine V_geti (k0 := 4) rfl dX11_passHour_38 (isNow_0 h1) icX4 (by decide) rfl w_187 ?_
    refine V_iconst (v := 1) rfl dX11_passHour_41 kc_1 ?_
    refine V_iadd rfl dX11_passHour_42 ?_
    replace h := pt_e h
    refine V_putf (k0 := 4) (ty := .int) rfl dX11_passHour_43 (isNow_0 h1) icX4 tyX4_ok nmX4 (by decide) rfl w_187 rfl (tyX4_ok _ (by decide)) rfl rfl ?_
    exact V_sub (le_s (le_s (le_s (le_s (le_s (le_s le_0)))))) (t_X11_passHour_46 h1 h)
def f_X11_passHour (o1 : Nat) (p2 : Int32) (M : IM) : IR := cl (f_X11_whoGo o1 M) fun w1 M2 => cl (f_J6_bitCount_0f7a4 w1 M2) fun w4 M5 => if (M5 6 0) ≤ w4 then f_X11_passHour_29 o1 p2 w1 w4 0 M5 else f_X11_passHour_29 o1 p2 w1 w4 1 M5
set_option maxRecDepth 100000 in
set_option maxHeartbeats 4000000 in
theorem t_X11_passHour {g : IG} {a : Nat → Nat} {R : Int32 × IM} {o1 : Nat} {p2 : Int32} {M : IM} (h1 : isNow o1) (h : f_X11_passHour o1 p2 M = some R) : Cn g mX11_passHour 7 0 0 (qI S0 a R) [.ref (a 0), .ref (a o1), .int p2] a S0 M := by
  refine Cn_of (L := [some (.ref (a 0)), some (.ref (a o1)), some (.int p2), none, none, none]) mf_X11_passHour (cat_r (cat_r (cat_i cat_0))) (Nat.le_of_ble_eq_true rfl) rfl ?_
  unfold f_X11_passHour at h
  refine V_aload_n rfl dX11_passHour_0 rfl rfl ?_
  refine V_aload_n rfl dX11_passHour_1 rfl rfl ?_
  replace h := cl_e h
  obtain ⟨w1, M2, hc3, h⟩ := h
  refine V_ii (As := [.ref _]) rfl dX11_passHour_2 mf_X11_whoGo ⟨w_845, w_19⟩ w_843 (by decide) s0_0 rfl rfl rfl rfl ⟨rfl, rfl⟩ (t_X11_whoGo h1 hc3) ?_
  refine V_istore_n (L' := [_, _, _, _, _, _]) rfl rfl dX11_passHour_5 (by decide) rfl ?_
  refine V_iload_n rfl dX11_passHour_6 rfl rfl ?_
  replace h := cl_e h
  obtain ⟨w4, M5, hc6, h⟩ := h
  refine V_si (As := [.int _]) rfl dX11_passHour_7 mf_J6_bitCount_0f7a4 w_888 w_887 (by decide) rfl rfl rfl ⟨rfl, rfl⟩ (t_J6_bitCount_0f7a4 hc6) ?_
  refine V_istore (L' := [_, _, _, _, _, _]) rfl dX11_passHour_10 (by decide) rfl ?_
  refine V_iload rfl dX11_passHour_12 rfl ?_
  refine V_aload_n rfl dX11_passHour_14 rfl rfl ?_
  refine V_getr (k0 := 1) rfl dX11_passHour_15 s0_0 icX11 (by decide) rfl w_524 ?_
  refine V_geti (k0 := 0) rfl dX11_passHour_18 s0_6 icX9 (by decide) rfl w_343 ?_
  refine V_icmp_ge (t := 28) rfl rfl dX11_passHour_21 (fun hc7 => ?_) (fun hc7 => ?_)
  · replace h := ifp hc7 h
    refine V_iconst (v := 0) rfl dX11_passHour_28 kc_0 ?_
    exact V_sub (le_s (le_s (le_s (le_s (le_s (le_n le_0)))))) (t_X11_passHour_29 h1 h)
  · replace h := ifn hc7 h
    refine V_iconst (v := 1) rfl dX11_passHour_24 kc_1 ?_
    refine V_goto (t := 29) rfl dX11_passHour_25 ?_
    exact V_sub (le_s (le_s (le_s (le_s (le_s (le_n le_0)))))) (t_X11_passHour_29 h1 h)
-- X11_hours: NeverHalted.hours(I)I
def f_X11_hours_31_b (r31 : Int32 → Int32 → Int32 → IM → IR) (x1 : Int32) (x2 : Int32) (x3 : Int32) (M : IM) : IR := if x1 ≤ x3 then some (x2, M) else cl (f_X5_keep 1 M) fun _ M8 => cl (f_X11_passHour 1 0 M8) fun w10 M11 => if w10 = 0 then lt (x3 + 1) fun v14 => r31 x1 x2 v14 M11 else lt (x2 + 1) fun v15 => lt (x3 + 1) fun v16 => r31 x1 v15 v16 M11
def f_X11_hours_31 (n : Nat) : Int32 → Int32 → Int32 → IM → IR := itr (fun _ _ _ _ => none) (f_X11_hours_31_b) n
set_option maxRecDepth 100000 in
set_option maxHeartbeats 4000000 in
theorem t_X11_hours_31 {g : IG} {a : Nat → Nat} {R : Int32 × IM} (n : Nat) : ∀ (x1 : Int32) (x2 : Int32) (x3 : Int32) (M : IM), f_X11_hours_31 n x1 x2 x3 M = some R → V g mX11_hours 8 0 0 (qI S0 a R) 31 [some (.ref (a 0)), some (.int x1), some (.int x2), some (.int x3)] [] a S0 M 0 0 := by
  induction n with
  | zero => intro x1 x2 x3 M h; exact absurd h (fun z => by cases z)
  | succ n hr31 =>
    intro x1 x2 x3 M h
    replace h : f_X11_hours_31_b (f_X11_hours_31 n) x1 x2 x3 M = some R := h
    unfold f_X11_hours_31_b at h
    refine V_iload_n rfl dX11_hours_31 rfl rfl ?_
    refine V_iload_n rfl dX11_hours_32 rfl rfl ?_
    refine V_icmp_ge (t := 68) rfl rfl dX11_hours_33 (fun hc6 => ?_) (fun hc6 => ?_)
    · replace h := ifp hc6 h
      refine V_iload_n rfl dX11_hours_68 rfl rfl ?_
      cases h
      exact V_iret dX11_hours_69 rfl rfl (Nat.le_refl _) (Nat.le_refl _) qI_ok
    · replace h := ifn hc6 h
      refine V_aload_n rfl dX11_hours_36 rfl rfl ?_
      refine V_getr (k0 := 3) rfl dX11_hours_37 s0_0 icX11 (by decide) rfl w_526 ?_
      refine V_aload_n rfl dX11_hours_40 rfl rfl ?_
      refine V_getr (k0 := 0) rfl dX11_hours_41 s0_0 icX11 (by decide) rfl w_523 ?_
      replace h := cl_e h
      obtain ⟨w7, M8, hc9, h⟩ := h
      refine V_iv (As := [.ref _]) rfl dX11_hours_44 mf_X5_keep ⟨w_827, w_828⟩ w_826 (by decide) s0_34 rfl rfl rfl rfl ⟨rfl, rfl⟩ (t_X5_keep isNow_at1 hc9) ?_
      refine V_aload_n rfl dX11_hours_47 rfl rfl ?_
      refine V_aload_n rfl dX11_hours_48 rfl rfl ?_
      refine V_getr (k0 := 0) rfl dX11_hours_49 s0_0 icX11 (by decide) rfl w_523 ?_
      refine V_iconst (v := 0) rfl dX11_hours_52 kc_0 ?_
      replace h := cl_e h
      obtain ⟨w10, M11, hc12, h⟩ := h
      refine V_ii (As := [.ref _, .int _]) rfl dX11_hours_53 mf_X11_passHour ⟨w_841, w_18⟩ w_839 (by decide) s0_0 rfl rfl rfl rfl ⟨rfl, rfl⟩ (t_X11_passHour isNow_at1 hc12) ?_
      refine V_if_eq (t := 62) rfl rfl dX11_hours_56 (fun hc13 => ?_) (fun hc13 => ?_)
      · replace h := ifp hc13 h
        replace h := lt_e h
        refine V_inc (L' := [_, _, _, _]) rfl dX11_hours_62 rfl kc_1 (by decide) rfl ?_
        refine V_goto (t := 31) rfl dX11_hours_65 ?_
        exact V_sub (le_s (le_s (le_s (le_s le_0)))) (hr31 _ _ _ _ h)
      · replace h := ifn hc13 h
        replace h := lt_e h
        refine V_inc (L' := [_, _, _, _]) rfl dX11_hours_59 rfl kc_1 (by decide) rfl ?_
        replace h := lt_e h
        refine V_inc (L' := [_, _, _, _]) rfl dX11_hours_62 rfl kc_1 (by decide) rfl ?_
        refine V_goto (t := 31) rfl dX11_hours_65 ?_
        exact V_sub (le_s (le_s (le_s (le_s le_0)))) (hr31 _ _ _ _ h)
def f_X11_hours (p1 : Int32) (M : IM) : IR := cl (f_X11_within p1 1 99 M) fun w1 M2 => if w1 = 0 then some ((-1), M2) else if ((M2 1 1) + p1) ≤ 9999 then f_X11_hours_31 BG p1 0 0 M2 else some ((-1), M2)
set_option maxRecDepth 100000 in
set_option maxHeartbeats 4000000 in
theorem t_X11_hours {g : IG} {a : Nat → Nat} {R : Int32 × IM} {p1 : Int32} {M : IM} (h : f_X11_hours p1 M = some R) : Cn g mX11_hours 8 0 0 (qI S0 a R) [.ref (a 0), .int p1] a S0 M := by
  refine Cn_of (L := [some (.ref (a 0)), some (.int p1), none, none]) mf_X11_hours (cat_r (cat_i cat_0)) (Nat.le_of_ble_eq_true rfl) rfl ?_
  unfold f_X11_hours at h
  refine V_iload_n rfl dX11_hours_0 rfl rfl ?_
  refine V_iconst (v := 1) rfl dX11_hours_1 kc_1 ?_
  refine V_bipush (v := 99) rfl dX11_hours_2 kb_99 ?_
  replace h := cl_e h
  obtain ⟨w1, M2, hc3, h⟩ := h
  refine V_si (As := [.int _, .int _, .int _]) rfl dX11_hours_4 mf_X11_within w_594 w_593 (by decide) rfl rfl rfl ⟨rfl, rfl⟩ (t_X11_within hc3) ?_
  refine V_if_eq (t := 25) rfl rfl dX11_hours_7 (fun hc4 => ?_) (fun hc4 => ?_)
  · replace h := ifp hc4 h
    refine V_iconst (v := (-1)) rfl dX11_hours_25 kc_m1 ?_
    cases h
    exact V_iret dX11_hours_26 rfl rfl (Nat.le_refl _) (Nat.le_refl _) qI_ok
  · replace h := ifn hc4 h
    refine V_aload_n rfl dX11_hours_10 rfl rfl ?_
    refine V_getr (k0 := 0) rfl dX11_hours_11 s0_0 icX11 (by decide) rfl w_523 ?_
    refine V_geti (k0 := 1) rfl dX11_hours_14 s0_1 icX4 (by decide) rfl w_179 ?_
    refine V_iload_n rfl dX11_hours_17 rfl rfl ?_
    refine V_iadd rfl dX11_hours_18 ?_
    refine V_sipush (v := 9999) rfl dX11_hours_19 ks_9999 ?_
    refine V_icmp_le (t := 27) rfl rfl dX11_hours_22 (fun hc5 => ?_) (fun hc5 => ?_)
    · replace h := ifp hc5 h
      refine V_iconst (v := 0) rfl dX11_hours_27 kc_0 ?_
      refine V_istore_n (L' := [_, _, _, _]) rfl rfl dX11_hours_28 (by decide) rfl ?_
      refine V_iconst (v := 0) rfl dX11_hours_29 kc_0 ?_
      refine V_istore_n (L' := [_, _, _, _]) rfl rfl dX11_hours_30 (by decide) rfl ?_
      exact V_sub (le_s (le_s (le_s (le_s le_0)))) (t_X11_hours_31 BG _ _ _ _ h)
    · replace h := ifn hc5 h
      refine V_iconst (v := (-1)) rfl dX11_hours_25 kc_m1 ?_
      cases h
      exact V_iret dX11_hours_26 rfl rfl (Nat.le_refl _) (Nat.le_refl _) qI_ok
-- X11_move: NeverHalted.move(II)Z
def f_X11_move (p1 : Int32) (p2 : Int32) (M : IM) : IR := cl (f_X11_isWalker p1 M) fun w1 M2 => if w1 = 0 then some (0, M2) else cl (f_X11_isParish p2 M2) fun w5 M6 => if w5 = 0 then some (0, M6) else rd M6 2 10 p1 fun v9 => if v9 = p2 then some (0, M6) else cl (f_X5_keep 1 M6) fun _ M13 => wr M13 2 10 p1 p2 fun M15 => some (1, M15)
set_option maxRecDepth 100000 in
set_option maxHeartbeats 4000000 in
theorem t_X11_move {g : IG} {a : Nat → Nat} {R : Int32 × IM} {p1 : Int32} {p2 : Int32} {M : IM} (h : f_X11_move p1 p2 M = some R) : Cn g mX11_move 3 0 0 (qI S0 a R) [.ref (a 0), .int p1, .int p2] a S0 M := by
  refine Cn_of (L := [some (.ref (a 0)), some (.int p1), some (.int p2)]) mf_X11_move (cat_r (cat_i (cat_i cat_0))) (Nat.le_of_ble_eq_true rfl) rfl ?_
  unfold f_X11_move at h
  refine V_aload_n rfl dX11_move_0 rfl rfl ?_
  refine V_iload_n rfl dX11_move_1 rfl rfl ?_
  replace h := cl_e h
  obtain ⟨w1, M2, hc3, h⟩ := h
  refine V_ii (As := [.int _]) rfl dX11_move_2 mf_X11_isWalker ⟨w_606, w_1⟩ w_604 (by decide) s0_0 rfl rfl rfl rfl ⟨rfl, rfl⟩ (t_X11_isWalker hc3) ?_
  refine V_if_eq (t := 28) rfl rfl dX11_move_5 (fun hc4 => ?_) (fun hc4 => ?_)
  · replace h := ifp hc4 h
    refine V_iconst (v := 0) rfl dX11_move_28 kc_0 ?_
    cases h
    exact V_iret dX11_move_29 rfl nz_0 (Nat.le_refl _) (Nat.le_refl _) qI_ok
  · replace h := ifn hc4 h
    refine V_iload_n rfl dX11_move_8 rfl rfl ?_
    replace h := cl_e h
    obtain ⟨w5, M6, hc7, h⟩ := h
    refine V_si (As := [.int _]) rfl dX11_move_9 mf_X11_isParish w_591 w_590 (by decide) rfl rfl rfl ⟨rfl, rfl⟩ (t_X11_isParish hc7) ?_
    refine V_if_eq (t := 28) rfl rfl dX11_move_12 (fun hc8 => ?_) (fun hc8 => ?_)
    · replace h := ifp hc8 h
      refine V_iconst (v := 0) rfl dX11_move_28 kc_0 ?_
      cases h
      exact V_iret dX11_move_29 rfl nz_0 (Nat.le_refl _) (Nat.le_refl _) qI_ok
    · replace h := ifn hc8 h
      refine V_aload_n rfl dX11_move_15 rfl rfl ?_
      refine V_getr (k0 := 0) rfl dX11_move_16 s0_0 icX11 (by decide) rfl w_523 ?_
      refine V_getr (k0 := 11) rfl dX11_move_19 s0_1 icX4 (by decide) rfl w_204 ?_
      refine V_iload_n rfl dX11_move_22 rfl rfl ?_
      replace h := rd_e h
      obtain ⟨hb10, h⟩ := h
      refine V_iald rfl dX11_move_23 s0_2 hb10 ?_
      refine V_iload_n rfl dX11_move_24 rfl rfl ?_
      refine V_icmp_ne (t := 30) rfl rfl dX11_move_25 (fun hc11 => ?_) (fun hc11 => ?_)
      · replace h := ifn hc11 h
        refine V_aload_n rfl dX11_move_30 rfl rfl ?_
        refine V_getr (k0 := 3) rfl dX11_move_31 s0_0 icX11 (by decide) rfl w_526 ?_
        refine V_aload_n rfl dX11_move_34 rfl rfl ?_
        refine V_getr (k0 := 0) rfl dX11_move_35 s0_0 icX11 (by decide) rfl w_523 ?_
        replace h := cl_e h
        obtain ⟨w12, M13, hc14, h⟩ := h
        refine V_iv (As := [.ref _]) rfl dX11_move_38 mf_X5_keep ⟨w_827, w_828⟩ w_826 (by decide) s0_34 rfl rfl rfl rfl ⟨rfl, rfl⟩ (t_X5_keep isNow_at1 hc14) ?_
        refine V_aload_n rfl dX11_move_41 rfl rfl ?_
        refine V_getr (k0 := 0) rfl dX11_move_42 s0_0 icX11 (by decide) rfl w_523 ?_
        refine V_getr (k0 := 11) rfl dX11_move_45 s0_1 icX4 (by decide) rfl w_204 ?_
        refine V_iload_n rfl dX11_move_48 rfl rfl ?_
        refine V_iload_n rfl dX11_move_49 rfl rfl ?_
        replace h := wr_e h
        obtain ⟨hb16, h⟩ := h
        refine V_iast rfl dX11_move_50 s0_2 hb16 ?_
        refine V_iconst (v := 1) rfl dX11_move_51 kc_1 ?_
        cases h
        exact V_iret dX11_move_52 rfl nz_1 (Nat.le_refl _) (Nat.le_refl _) qI_ok
      · replace h := ifp hc11 h
        refine V_iconst (v := 0) rfl dX11_move_28 kc_0 ?_
        cases h
        exact V_iret dX11_move_29 rfl nz_0 (Nat.le_refl _) (Nat.le_refl _) qI_ok
-- X11_carry: NeverHalted.carry(I)I
def f_X11_carry (p1 : Int32) (M : IM) : IR := cl (f_X11_within p1 1 999 M) fun w1 M2 => if w1 = 0 then some ((-1), M2) else if ((M2 1 8) + p1) ≤ 9999 then cl (f_X5_keep 1 M2) fun _ M7 => pt M7 1 8 ((M7 1 8) + p1) fun M9 => some ((M9 1 8), M9) else some ((-1), M2)
set_option maxRecDepth 100000 in
set_option maxHeartbeats 4000000 in
theorem t_X11_carry {g : IG} {a : Nat → Nat} {R : Int32 × IM} {p1 : Int32} {M : IM} (h : f_X11_carry p1 M = some R) : Cn g mX11_carry 3 0 0 (qI S0 a R) [.ref (a 0), .int p1] a S0 M := by
  refine Cn_of (L := [some (.ref (a 0)), some (.int p1)]) mf_X11_carry (cat_r (cat_i cat_0)) (Nat.le_of_ble_eq_true rfl) rfl ?_
  unfold f_X11_carry at h
  refine V_iload_n rfl dX11_carry_0 rfl rfl ?_
  refine V_iconst (v := 1) rfl dX11_carry_1 kc_1 ?_
  refine V_sipush (v := 999) rfl dX11_carry_2 ks_999 ?_
  replace h := cl_e h
  obtain ⟨w1, M2, hc3, h⟩ := h
  refine V_si (As := [.int _, .int _, .int _]) rfl dX11_carry_5 mf_X11_within w_594 w_593 (by decide) rfl rfl rfl ⟨rfl, rfl⟩ (t_X11_within hc3) ?_
  refine V_if_eq (t := 26) rfl rfl dX11_carry_8 (fun hc4 => ?_) (fun hc4 => ?_)
  · replace h := ifp hc4 h
    refine V_iconst (v := (-1)) rfl dX11_carry_26 kc_m1 ?_
    cases h
    exact V_iret dX11_carry_27 rfl rfl (Nat.le_refl _) (Nat.le_refl _) qI_ok
  · replace h := ifn hc4 h
    refine V_aload_n rfl dX11_carry_11 rfl rfl ?_
    refine V_getr (k0 := 0) rfl dX11_carry_12 s0_0 icX11 (by decide) rfl w_523 ?_
    refine V_geti (k0 := 8) rfl dX11_carry_15 s0_1 icX4 (by decide) rfl w_196 ?_
    refine V_iload_n rfl dX11_carry_18 rfl rfl ?_
    refine V_iadd rfl dX11_carry_19 ?_
    refine V_sipush (v := 9999) rfl dX11_carry_20 ks_9999 ?_
    refine V_icmp_le (t := 28) rfl rfl dX11_carry_23 (fun hc5 => ?_) (fun hc5 => ?_)
    · replace h := ifp hc5 h
      refine V_aload_n rfl dX11_carry_28 rfl rfl ?_
      refine V_getr (k0 := 3) rfl dX11_carry_29 s0_0 icX11 (by decide) rfl w_526 ?_
      refine V_aload_n rfl dX11_carry_32 rfl rfl ?_
      refine V_getr (k0 := 0) rfl dX11_carry_33 s0_0 icX11 (by decide) rfl w_523 ?_
      replace h := cl_e h
      obtain ⟨w6, M7, hc8, h⟩ := h
      refine V_iv (As := [.ref _]) rfl dX11_carry_36 mf_X5_keep ⟨w_827, w_828⟩ w_826 (by decide) s0_34 rfl rfl rfl rfl ⟨rfl, rfl⟩ (t_X5_keep isNow_at1 hc8) ?_
      refine V_aload_n rfl dX11_carry_39 rfl rfl ?_
      refine V_getr (k0 := 0) rfl dX11_carry_40 s0_0 icX11 (by decide) rfl w_523 ?_
      refine V_dup rfl dX11_carry_43 rfl ?_
      refine V_geti (k0 := 8) rfl dX11_carry_44 s0_1 icX4 (by decide) rfl w_196 ?_
      refine V_iload_n rfl dX11_carry_47 rfl rfl ?_
      refine V_iadd rfl dX11_carry_48 ?_
      replace h := pt_e h
      refine V_putf (k0 := 8) (ty := .int) rfl dX11_carry_49 s0_1 icX4 tyX4_ok nmX4 (by decide) rfl w_196 rfl (tyX4_ok _ (by decide)) rfl rfl ?_
      refine V_aload_n rfl dX11_carry_52 rfl rfl ?_
      refine V_getr (k0 := 0) rfl dX11_carry_53 s0_0 icX11 (by decide) rfl w_523 ?_
      refine V_geti (k0 := 8) rfl dX11_carry_56 s0_1 icX4 (by decide) rfl w_196 ?_
      cases h
      exact V_iret dX11_carry_59 rfl rfl (Nat.le_refl _) (Nat.le_refl _) qI_ok
    · replace h := ifn hc5 h
      refine V_iconst (v := (-1)) rfl dX11_carry_26 kc_m1 ?_
      cases h
      exact V_iret dX11_carry_27 rfl rfl (Nat.le_refl _) (Nat.le_refl _) qI_ok
