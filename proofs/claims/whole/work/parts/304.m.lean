-- X10_leastSum: NeverHalted$WatchPlan.leastSum()I
def f_X10_leastSum_5_b (r5 : Int32 → Int32 → IM → IR) (x1 : Int32) (x2 : Int32) (M : IM) : IR := if ((1 : Int32) <<< ((M 127 2) &&& 31)) ≤ x2 then some (x1, M) else cl (f_X10_sumWith 0 x2 x1 M) fun w2 M3 => cl (f_J9_min_7cf53 x1 w2 M3) fun w5 M6 => lt (x2 + 1) fun v8 => r5 w5 v8 M6
def f_X10_leastSum_5 (n : Nat) : Int32 → Int32 → IM → IR := itr (fun _ _ _ => none) (f_X10_leastSum_5_b) n
set_option maxRecDepth 100000 in
set_option maxHeartbeats 4000000 in
theorem t_X10_leastSum_5 {g : IG} {a : Nat → Nat} {R : Int32 × IM} (n : Nat) : ∀ (x1 : Int32) (x2 : Int32) (M : IM), f_X10_leastSum_5 n x1 x2 M = some R → V g mX10_leastSum 2 0 0 (qI S0 a R) 5 [some (.ref (a 127)), some (.int x1), some (.int x2)] [] a S0 M 0 0 := by
  induction n with
  | zero => intro x1 x2 M h; exact absurd h (fun z => by cases z)
  | succ n hr5 =>
    intro x1 x2 M h
    replace h : f_X10_leastSum_5_b (f_X10_leastSum_5 n) x1 x2 M = some R := h
    unfold f_X10_leastSum_5_b at h
    refine V_iload_n rfl dX10_leastSum_5 rfl rfl ?_
    refine V_iconst (v := 1) rfl dX10_leastSum_6 kc_1 ?_
    refine V_aload_n rfl dX10_leastSum_7 rfl rfl ?_
    refine V_geti (k0 := 2) rfl dX10_leastSum_8 s0_127 icX10 (by decide) rfl w_476 ?_
    refine V_ishl rfl dX10_leastSum_11 ?_
    refine V_icmp_ge (t := 33) rfl rfl dX10_leastSum_12 (fun hc1 => ?_) (fun hc1 => ?_)
    · replace h := ifp hc1 h
      refine V_iload_n rfl dX10_leastSum_33 rfl rfl ?_
      cases h
      exact V_iret dX10_leastSum_34 rfl rfl (Nat.le_refl _) (Nat.le_refl _) qI_ok
    · replace h := ifn hc1 h
      refine V_iload_n rfl dX10_leastSum_15 rfl rfl ?_
      refine V_aload_n rfl dX10_leastSum_16 rfl rfl ?_
      refine V_iconst (v := 0) rfl dX10_leastSum_17 kc_0 ?_
      refine V_iload_n rfl dX10_leastSum_18 rfl rfl ?_
      refine V_iload_n rfl dX10_leastSum_19 rfl rfl ?_
      replace h := cl_e h
      obtain ⟨w2, M3, hc4, h⟩ := h
      refine V_ii (As := [.int _, .int _, .int _]) rfl dX10_leastSum_20 mf_X10_sumWith ⟨w_1069, w_32⟩ w_1067 (by decide) s0_127 rfl rfl rfl rfl ⟨rfl, rfl⟩ (t_X10_sumWith hc4) ?_
      replace h := cl_e h
      obtain ⟨w5, M6, hc7, h⟩ := h
      refine V_si (As := [.int _, .int _]) rfl dX10_leastSum_23 mf_J9_min_7cf53 w_916 w_1071 (by decide) rfl rfl rfl ⟨rfl, rfl⟩ (t_J9_min_7cf53 hc7) ?_
      refine V_istore_n (L' := [_, _, _]) rfl rfl dX10_leastSum_26 (by decide) rfl ?_
      replace h := lt_e h
      refine V_inc (L' := [_, _, _]) rfl dX10_leastSum_27 rfl kc_1 (by decide) rfl ?_
      refine V_goto (t := 5) rfl dX10_leastSum_30 ?_
      exact V_sub (le_s (le_s (le_s le_0))) (hr5 _ _ _ h)
def f_X10_leastSum (M : IM) : IR := f_X10_leastSum_5 BG 1000000 0 M
set_option maxRecDepth 100000 in
set_option maxHeartbeats 4000000 in
theorem t_X10_leastSum {g : IG} {a : Nat → Nat} {R : Int32 × IM} {M : IM} (h : f_X10_leastSum M = some R) : Cn g mX10_leastSum 2 0 0 (qI S0 a R) [.ref (a 127)] a S0 M := by
  refine Cn_of (L := [some (.ref (a 127)), none, none]) mf_X10_leastSum (cat_r cat_0) (Nat.le_of_ble_eq_true rfl) rfl ?_
  unfold f_X10_leastSum at h
  refine V_ldc (v := 1000000) rfl dX10_leastSum_0 w_1066 ?_
  refine V_istore_n (L' := [_, _, _]) rfl rfl dX10_leastSum_2 (by decide) rfl ?_
  refine V_iconst (v := 0) rfl dX10_leastSum_3 kc_0 ?_
  refine V_istore_n (L' := [_, _, _]) rfl rfl dX10_leastSum_4 (by decide) rfl ?_
  exact V_sub (le_s (le_s (le_s le_0))) (t_X10_leastSum_5 BG _ _ _ h)
-- X10_priceOf: NeverHalted$WatchPlan.priceOf(II)I
def f_X10_priceOf_5_b (r5 : Int32 → Int32 → Int32 → Int32 → IM → IR) (x1 : Int32) (x2 : Int32) (x3 : Int32) (x4 : Int32) (M : IM) : IR := if 4 ≤ x4 then some (x3, M) else if ((x2 >>> (x4 &&& 31)) &&& 1) = 0 then lt (x4 + 1) fun v3 => r5 x1 x2 x3 v3 M else rd M 129 40 ((x1 * 4) + x4) fun v4 => lt (x3 + v4) fun v6 => lt (x4 + 1) fun v7 => r5 x1 x2 v6 v7 M
def f_X10_priceOf_5 (n : Nat) : Int32 → Int32 → Int32 → Int32 → IM → IR := itr (fun _ _ _ _ _ => none) (f_X10_priceOf_5_b) n
set_option maxRecDepth 100000 in
set_option maxHeartbeats 4000000 in
theorem t_X10_priceOf_5 {g : IG} {a : Nat → Nat} {R : Int32 × IM} (n : Nat) : ∀ (x1 : Int32) (x2 : Int32) (x3 : Int32) (x4 : Int32) (M : IM), f_X10_priceOf_5 n x1 x2 x3 x4 M = some R → V g mX10_priceOf 1 0 0 (qI S0 a R) 5 [some (.ref (a 127)), some (.int x1), some (.int x2), some (.int x3), some (.int x4)] [] a S0 M 0 0 := by
  induction n with
  | zero => intro x1 x2 x3 x4 M h; exact absurd h (fun z => by cases z)
  | succ n hr5 =>
    intro x1 x2 x3 x4 M h
    replace h : f_X10_priceOf_5_b (f_X10_priceOf_5 n) x1 x2 x3 x4 M = some R := h
    unfold f_X10_priceOf_5_b at h
    refine V_iload rfl dX10_priceOf_5 rfl ?_
    refine V_iconst (v := 4) rfl dX10_priceOf_7 kc_4 ?_
    refine V_icmp_ge (t := 40) rfl rfl dX10_priceOf_8 (fun hc1 => ?_) (fun hc1 => ?_)
    · replace h := ifp hc1 h
      refine V_iload_n rfl dX10_priceOf_40 rfl rfl ?_
      cases h
      exact V_iret dX10_priceOf_41 rfl rfl (Nat.le_refl _) (Nat.le_refl _) qI_ok
    · replace h := ifn hc1 h
      refine V_iload_n rfl dX10_priceOf_11 rfl rfl ?_
      refine V_iload rfl dX10_priceOf_12 rfl ?_
      refine V_ishr rfl dX10_priceOf_14 ?_
      refine V_iconst (v := 1) rfl dX10_priceOf_15 kc_1 ?_
      refine V_iand rfl dX10_priceOf_16 ?_
      refine V_if_eq (t := 34) rfl rfl dX10_priceOf_17 (fun hc2 => ?_) (fun hc2 => ?_)
      · replace h := ifp hc2 h
        replace h := lt_e h
        refine V_inc (L' := [_, _, _, _, _]) rfl dX10_priceOf_34 rfl kc_1 (by decide) rfl ?_
        refine V_goto (t := 5) rfl dX10_priceOf_37 ?_
        exact V_sub (le_s (le_s (le_s (le_s (le_s le_0))))) (hr5 _ _ _ _ _ h)
      · replace h := ifn hc2 h
        refine V_iload_n rfl dX10_priceOf_20 rfl rfl ?_
        refine V_aload_n rfl dX10_priceOf_21 rfl rfl ?_
        refine V_getr (k0 := 3) rfl dX10_priceOf_22 s0_127 icX10 (by decide) rfl w_477 ?_
        refine V_iload_n rfl dX10_priceOf_25 rfl rfl ?_
        refine V_iconst (v := 4) rfl dX10_priceOf_26 kc_4 ?_
        refine V_imul rfl dX10_priceOf_27 ?_
        refine V_iload rfl dX10_priceOf_28 rfl ?_
        refine V_iadd rfl dX10_priceOf_30 ?_
        replace h := rd_e h
        obtain ⟨hb5, h⟩ := h
        refine V_iald rfl dX10_priceOf_31 s0_129 hb5 ?_
        refine V_iadd rfl dX10_priceOf_32 ?_
        replace h := lt_e h
        refine V_istore_n (L' := [_, _, _, _, _]) rfl rfl dX10_priceOf_33 (by decide) rfl ?_
        replace h := lt_e h
        refine V_inc (L' := [_, _, _, _, _]) rfl dX10_priceOf_34 rfl kc_1 (by decide) rfl ?_
        refine V_goto (t := 5) rfl dX10_priceOf_37 ?_
        exact V_sub (le_s (le_s (le_s (le_s (le_s le_0))))) (hr5 _ _ _ _ _ h)
def f_X10_priceOf (p1 : Int32) (p2 : Int32) (M : IM) : IR := f_X10_priceOf_5 BG p1 p2 0 0 M
set_option maxRecDepth 100000 in
set_option maxHeartbeats 4000000 in
theorem t_X10_priceOf {g : IG} {a : Nat → Nat} {R : Int32 × IM} {p1 : Int32} {p2 : Int32} {M : IM} (h : f_X10_priceOf p1 p2 M = some R) : Cn g mX10_priceOf 1 0 0 (qI S0 a R) [.ref (a 127), .int p1, .int p2] a S0 M := by
  refine Cn_of (L := [some (.ref (a 127)), some (.int p1), some (.int p2), none, none]) mf_X10_priceOf (cat_r (cat_i (cat_i cat_0))) (Nat.le_of_ble_eq_true rfl) rfl ?_
  unfold f_X10_priceOf at h
  refine V_iconst (v := 0) rfl dX10_priceOf_0 kc_0 ?_
  refine V_istore_n (L' := [_, _, _, _, _]) rfl rfl dX10_priceOf_1 (by decide) rfl ?_
  refine V_iconst (v := 0) rfl dX10_priceOf_2 kc_0 ?_
  refine V_istore (L' := [_, _, _, _, _]) rfl dX10_priceOf_3 (by decide) rfl ?_
  exact V_sub (le_s (le_s (le_s (le_s (le_s le_0))))) (t_X10_priceOf_5 BG _ _ _ _ _ h)
-- X10_isNeeded: NeverHalted$WatchPlan.isNeeded(I)Z
def f_X10_isNeeded_2_b (r2 : Int32 → Int32 → IM → IR) (x1 : Int32) (x2 : Int32) (M : IM) : IR := if 4 ≤ x2 then some (1, M) else if ((x1 >>> (x2 &&& 31)) &&& 1) = 0 then lt (x2 + 1) fun v3 => r2 x1 v3 M else rd M 131 4 x2 fun v4 => if 0 < v4 then lt (x2 + 1) fun v7 => r2 x1 v7 M else some (0, M)
def f_X10_isNeeded_2 (n : Nat) : Int32 → Int32 → IM → IR := itr (fun _ _ _ => none) (f_X10_isNeeded_2_b) n
set_option maxRecDepth 100000 in
set_option maxHeartbeats 4000000 in
theorem t_X10_isNeeded_2 {g : IG} {a : Nat → Nat} {R : Int32 × IM} (n : Nat) : ∀ (x1 : Int32) (x2 : Int32) (M : IM), f_X10_isNeeded_2 n x1 x2 M = some R → V g mX10_isNeeded 1 0 0 (qI S0 a R) 2 [some (.ref (a 127)), some (.int x1), some (.int x2)] [] a S0 M 0 0 := by
  induction n with
  | zero => intro x1 x2 M h; exact absurd h (fun z => by cases z)
  | succ n hr2 =>
    intro x1 x2 M h
    replace h : f_X10_isNeeded_2_b (f_X10_isNeeded_2 n) x1 x2 M = some R := h
    unfold f_X10_isNeeded_2_b at h
    refine V_iload_n rfl dX10_isNeeded_2 rfl rfl ?_
    refine V_iconst (v := 4) rfl dX10_isNeeded_3 kc_4 ?_
    refine V_icmp_ge (t := 32) rfl rfl dX10_isNeeded_4 (fun hc1 => ?_) (fun hc1 => ?_)
    · replace h := ifp hc1 h
      refine V_iconst (v := 1) rfl dX10_isNeeded_32 kc_1 ?_
      cases h
      exact V_iret dX10_isNeeded_33 rfl nz_1 (Nat.le_refl _) (Nat.le_refl _) qI_ok
    · replace h := ifn hc1 h
      refine V_iload_n rfl dX10_isNeeded_7 rfl rfl ?_
      refine V_iload_n rfl dX10_isNeeded_8 rfl rfl ?_
      refine V_ishr rfl dX10_isNeeded_9 ?_
      refine V_iconst (v := 1) rfl dX10_isNeeded_10 kc_1 ?_
      refine V_iand rfl dX10_isNeeded_11 ?_
      refine V_if_eq (t := 26) rfl rfl dX10_isNeeded_12 (fun hc2 => ?_) (fun hc2 => ?_)
      · replace h := ifp hc2 h
        replace h := lt_e h
        refine V_inc (L' := [_, _, _]) rfl dX10_isNeeded_26 rfl kc_1 (by decide) rfl ?_
        refine V_goto (t := 2) rfl dX10_isNeeded_29 ?_
        exact V_sub (le_s (le_s (le_s le_0))) (hr2 _ _ _ h)
      · replace h := ifn hc2 h
        refine V_aload_n rfl dX10_isNeeded_15 rfl rfl ?_
        refine V_getr (k0 := 5) rfl dX10_isNeeded_16 s0_127 icX10 (by decide) rfl w_479 ?_
        refine V_iload_n rfl dX10_isNeeded_19 rfl rfl ?_
        replace h := rd_e h
        obtain ⟨hb5, h⟩ := h
        refine V_iald rfl dX10_isNeeded_20 s0_131 hb5 ?_
        refine V_if_gt (t := 26) rfl rfl dX10_isNeeded_21 (fun hc6 => ?_) (fun hc6 => ?_)
        · replace h := ifp hc6 h
          replace h := lt_e h
          refine V_inc (L' := [_, _, _]) rfl dX10_isNeeded_26 rfl kc_1 (by decide) rfl ?_
          refine V_goto (t := 2) rfl dX10_isNeeded_29 ?_
          exact V_sub (le_s (le_s (le_s le_0))) (hr2 _ _ _ h)
        · replace h := ifn hc6 h
          refine V_iconst (v := 0) rfl dX10_isNeeded_24 kc_0 ?_
          cases h
          exact V_iret dX10_isNeeded_25 rfl nz_0 (Nat.le_refl _) (Nat.le_refl _) qI_ok
def f_X10_isNeeded (p1 : Int32) (M : IM) : IR := f_X10_isNeeded_2 BG p1 0 M
set_option maxRecDepth 100000 in
set_option maxHeartbeats 4000000 in
theorem t_X10_isNeeded {g : IG} {a : Nat → Nat} {R : Int32 × IM} {p1 : Int32} {M : IM} (h : f_X10_isNeeded p1 M = some R) : Cn g mX10_isNeeded 1 0 0 (qI S0 a R) [.ref (a 127), .int p1] a S0 M := by
  refine Cn_of (L := [some (.ref (a 127)), some (.int p1), none]) mf_X10_isNeeded (cat_r (cat_i cat_0)) (Nat.le_of_ble_eq_true rfl) rfl ?_
  unfold f_X10_isNeeded at h
  refine V_iconst (v := 0) rfl dX10_isNeeded_0 kc_0 ?_
  refine V_istore_n (L' := [_, _, _]) rfl rfl dX10_isNeeded_1 (by decide) rfl ?_
  exact V_sub (le_s (le_s (le_s le_0))) (t_X10_isNeeded_2 BG _ _ _ h)
-- X10_addNeed: NeverHalted$WatchPlan.addNeed(II)V
def f_X10_addNeed_2_b (r2 : Int32 → Int32 → Int32 → IM → IR) (x1 : Int32) (x2 : Int32) (x3 : Int32) (M : IM) : IR := if 4 ≤ x3 then some (0, M) else if ((x1 >>> (x3 &&& 31)) &&& 1) = 0 then lt (x3 + 1) fun v3 => r2 x1 x2 v3 M else rd M 131 4 x3 fun v4 => wr M 131 4 x3 (v4 + x2) fun M6 => lt (x3 + 1) fun v8 => r2 x1 x2 v8 M6
def f_X10_addNeed_2 (n : Nat) : Int32 → Int32 → Int32 → IM → IR := itr (fun _ _ _ _ => none) (f_X10_addNeed_2_b) n
set_option maxRecDepth 100000 in
set_option maxHeartbeats 4000000 in
theorem t_X10_addNeed_2 {g : IG} {a : Nat → Nat} {R : Int32 × IM} (n : Nat) : ∀ (x1 : Int32) (x2 : Int32) (x3 : Int32) (M : IM), f_X10_addNeed_2 n x1 x2 x3 M = some R → V g mX10_addNeed 1 0 0 (qV S0 a R) 2 [some (.ref (a 127)), some (.int x1), some (.int x2), some (.int x3)] [] a S0 M 0 0 := by
  induction n with
  | zero => intro x1 x2 x3 M h; exact absurd h (fun z => by cases z)
  | succ n hr2 =>
    intro x1 x2 x3 M h
    replace h : f_X10_addNeed_2_b (f_X10_addNeed_2 n) x1 x2 x3 M = some R := h
    unfold f_X10_addNeed_2_b at h
    refine V_iload_n rfl dX10_addNeed_2 rfl rfl ?_
    refine V_iconst (v := 4) rfl dX10_addNeed_3 kc_4 ?_
    refine V_icmp_ge (t := 31) rfl rfl dX10_addNeed_4 (fun hc1 => ?_) (fun hc1 => ?_)
    · replace h := ifp hc1 h
      cases h
      exact V_vret dX10_addNeed_31 rfl (Nat.le_refl _) (Nat.le_refl _) qV_ok
    · replace h := ifn hc1 h
      refine V_iload_n rfl dX10_addNeed_7 rfl rfl ?_
      refine V_iload_n rfl dX10_addNeed_8 rfl rfl ?_
      refine V_ishr rfl dX10_addNeed_9 ?_
      refine V_iconst (v := 1) rfl dX10_addNeed_10 kc_1 ?_
      refine V_iand rfl dX10_addNeed_11 ?_
      refine V_if_eq (t := 25) rfl rfl dX10_addNeed_12 (fun hc2 => ?_) (fun hc2 => ?_)
      · replace h := ifp hc2 h
        replace h := lt_e h
        refine V_inc (L' := [_, _, _, _]) rfl dX10_addNeed_25 rfl kc_1 (by decide) rfl ?_
        refine V_goto (t := 2) rfl dX10_addNeed_28 ?_
        exact V_sub (le_s (le_s (le_s (le_s le_0)))) (hr2 _ _ _ _ h)
      · replace h := ifn hc2 h
        refine V_aload_n rfl dX10_addNeed_15 rfl rfl ?_
        refine V_getr (k0 := 5) rfl dX10_addNeed_16 s0_127 icX10 (by decide) rfl w_479 ?_
        refine V_iload_n rfl dX10_addNeed_19 rfl rfl ?_
        refine V_dup2 rfl dX10_addNeed_20 rfl rfl ?_
        replace h := rd_e h
        obtain ⟨hb5, h⟩ := h
        refine V_iald rfl dX10_addNeed_21 s0_131 hb5 ?_
        refine V_iload_n rfl dX10_addNeed_22 rfl rfl ?_
        refine V_iadd rfl dX10_addNeed_23 ?_
        replace h := wr_e h
        obtain ⟨hb7, h⟩ := h
        refine V_iast rfl dX10_addNeed_24 s0_131 hb7 ?_
        replace h := lt_e h
        refine V_inc (L' := [_, _, _, _]) rfl dX10_addNeed_25 rfl kc_1 (by decide) rfl ?_
        refine V_goto (t := 2) rfl dX10_addNeed_28 ?_
        exact V_sub (le_s (le_s (le_s (le_s le_0)))) (hr2 _ _ _ _ h)
def f_X10_addNeed (p1 : Int32) (p2 : Int32) (M : IM) : IR := f_X10_addNeed_2 BG p1 p2 0 M
set_option maxRecDepth 100000 in
set_option maxHeartbeats 4000000 in
theorem t_X10_addNeed {g : IG} {a : Nat → Nat} {R : Int32 × IM} {p1 : Int32} {p2 : Int32} {M : IM} (h : f_X10_addNeed p1 p2 M = some R) : Cn g mX10_addNeed 1 0 0 (qV S0 a R) [.ref (a 127), .int p1, .int p2] a S0 M := by
  refine Cn_of (L := [some (.ref (a 127)), some (.int p1), some (.int p2), none]) mf_X10_addNeed (cat_r (cat_i (cat_i cat_0))) (Nat.le_of_ble_eq_true rfl) rfl ?_
  unfold f_X10_addNeed at h
  refine V_iconst (v := 0) rfl dX10_addNeed_0 kc_0 ?_
  refine V_istore_n (L' := [_, _, _, _]) rfl rfl dX10_addNeed_1 (by decide) rfl ?_
  exact V_sub (le_s (le_s (le_s (le_s le_0)))) (t_X10_addNeed_2 BG _ _ _ _ h)
-- X10_isReached: NeverHalted$WatchPlan.isReached(II)Z
def f_X10_isReached_2_b (r2 : Int32 → Int32 → Int32 → IM → IR) (x1 : Int32) (x2 : Int32) (x3 : Int32) (M : IM) : IR := if ((1 : Int32) <<< (((M 127 2) - x1) &&& 31)) ≤ x3 then some (0, M) else cl (f_X10_sumWith x1 (x3 <<< (x1 &&& 31)) (x2 + 1) M) fun w2 M3 => if x2 < w2 then lt (x3 + 1) fun v6 => r2 x1 x2 v6 M3 else some (1, M3)
def f_X10_isReached_2 (n : Nat) : Int32 → Int32 → Int32 → IM → IR := itr (fun _ _ _ _ => none) (f_X10_isReached_2_b) n
set_option maxRecDepth 100000 in
set_option maxHeartbeats 4000000 in
theorem t_X10_isReached_2 {g : IG} {a : Nat → Nat} {R : Int32 × IM} (n : Nat) : ∀ (x1 : Int32) (x2 : Int32) (x3 : Int32) (M : IM), f_X10_isReached_2 n x1 x2 x3 M = some R → V g mX10_isReached 2 0 0 (qI S0 a R) 2 [some (.ref (a 127)), some (.int x1), some (.int x2), some (.int x3)] [] a S0 M 0 0 := by
  induction n with
  | zero => intro x1 x2 x3 M h; exact absurd h (fun z => by cases z)
  | succ n hr2 =>
    intro x1 x2 x3 M h
    replace h : f_X10_isReached_2_b (f_X10_isReached_2 n) x1 x2 x3 M = some R := h
    unfold f_X10_isReached_2_b at h
    refine V_iload_n rfl dX10_isReached_2 rfl rfl ?_
    refine V_iconst (v := 1) rfl dX10_isReached_3 kc_1 ?_
    refine V_aload_n rfl dX10_isReached_4 rfl rfl ?_
    refine V_geti (k0 := 2) rfl dX10_isReached_5 s0_127 icX10 (by decide) rfl w_476 ?_
    refine V_iload_n rfl dX10_isReached_8 rfl rfl ?_
    refine V_isub rfl dX10_isReached_9 ?_
    refine V_ishl rfl dX10_isReached_10 ?_
    refine V_icmp_ge (t := 37) rfl rfl dX10_isReached_11 (fun hc1 => ?_) (fun hc1 => ?_)
    · replace h := ifp hc1 h
      refine V_iconst (v := 0) rfl dX10_isReached_37 kc_0 ?_
      cases h
      exact V_iret dX10_isReached_38 rfl nz_0 (Nat.le_refl _) (Nat.le_refl _) qI_ok
    · replace h := ifn hc1 h
      refine V_aload_n rfl dX10_isReached_14 rfl rfl ?_
      refine V_iload_n rfl dX10_isReached_15 rfl rfl ?_
      refine V_iload_n rfl dX10_isReached_16 rfl rfl ?_
      refine V_iload_n rfl dX10_isReached_17 rfl rfl ?_
      refine V_ishl rfl dX10_isReached_18 ?_
      refine V_iload_n rfl dX10_isReached_19 rfl rfl ?_
      refine V_iconst (v := 1) rfl dX10_isReached_20 kc_1 ?_
      refine V_iadd rfl dX10_isReached_21 ?_
      replace h := cl_e h
      obtain ⟨w2, M3, hc4, h⟩ := h
      refine V_ii (As := [.int _, .int _, .int _]) rfl dX10_isReached_22 mf_X10_sumWith ⟨w_1069, w_32⟩ w_1067 (by decide) s0_127 rfl rfl rfl rfl ⟨rfl, rfl⟩ (t_X10_sumWith hc4) ?_
      refine V_iload_n rfl dX10_isReached_25 rfl rfl ?_
      refine V_icmp_gt (t := 31) rfl rfl dX10_isReached_26 (fun hc5 => ?_) (fun hc5 => ?_)
      · replace h := ifp hc5 h
        replace h := lt_e h
        refine V_inc (L' := [_, _, _, _]) rfl dX10_isReached_31 rfl kc_1 (by decide) rfl ?_
        refine V_goto (t := 2) rfl dX10_isReached_34 ?_
        exact V_sub (le_s (le_s (le_s (le_s le_0)))) (hr2 _ _ _ _ h)
      · replace h := ifn hc5 h
        refine V_iconst (v := 1) rfl dX10_isReached_29 kc_1 ?_
        cases h
        exact V_iret dX10_isReached_30 rfl nz_1 (Nat.le_refl _) (Nat.le_refl _) qI_ok
def f_X10_isReached (p1 : Int32) (p2 : Int32) (M : IM) : IR := f_X10_isReached_2 BG p1 p2 0 M
set_option maxRecDepth 100000 in
set_option maxHeartbeats 4000000 in
theorem t_X10_isReached {g : IG} {a : Nat → Nat} {R : Int32 × IM} {p1 : Int32} {p2 : Int32} {M : IM} (h : f_X10_isReached p1 p2 M = some R) : Cn g mX10_isReached 2 0 0 (qI S0 a R) [.ref (a 127), .int p1, .int p2] a S0 M := by
  refine Cn_of (L := [some (.ref (a 127)), some (.int p1), some (.int p2), none]) mf_X10_isReached (cat_r (cat_i (cat_i cat_0))) (Nat.le_of_ble_eq_true rfl) rfl ?_
  unfold f_X10_isReached at h
  refine V_iconst (v := 0) rfl dX10_isReached_0 kc_0 ?_
  refine V_istore_n (L' := [_, _, _, _]) rfl rfl dX10_isReached_1 (by decide) rfl ?_
  exact V_sub (le_s (le_s (le_s (le_s le_0)))) (t_X10_isReached_2 BG _ _ _ _ h)
-- X10_choose: NeverHalted$WatchPlan.choose(II)I
def f_X10_choose_2_b (r2 : Int32 → Int32 → Int32 → IM → IR) (x1 : Int32) (x2 : Int32) (x3 : Int32) (M : IM) : IR := if (Int32.ofNat ie_tkn) ≤ x3 then wr M 128 10 x1 0 fun M2 => some (0, M2) else rx (fun j => ie_tkl.getD j 0) ie_tkn x3 fun v4 => cl (f_X10_priceOf x1 v4 M) fun w6 M7 => cl (f_X10_isNeeded v4 M7) fun w9 M10 => if w9 = 0 then lt (x3 + 1) fun v13 => r2 x1 x2 v13 M10 else if w6 ≤ x2 then cl (f_X10_addNeed v4 (-1) M10) fun _ M16 => cl (f_X10_isReached (x1 + 1) (x2 - w6) M16) fun w18 M19 => if w18 = 0 then cl (f_X10_addNeed v4 1 M19) fun _ M23 => lt (x3 + 1) fun v25 => r2 x1 x2 v25 M23 else wr M19 128 10 x1 x3 fun M26 => some (w6, M26) else lt (x3 + 1) fun v28 => r2 x1 x2 v28 M10
def f_X10_choose_2 (n : Nat) : Int32 → Int32 → Int32 → IM → IR := itr (fun _ _ _ _ => none) (f_X10_choose_2_b) n
set_option maxRecDepth 100000 in
set_option maxHeartbeats 4000000 in
theorem t_X10_choose_2 {g : IG} {a : Nat → Nat} {R : Int32 × IM} (n : Nat) : ∀ (x1 : Int32) (x2 : Int32) (x3 : Int32) (M : IM), f_X10_choose_2 n x1 x2 x3 M = some R → V g mX10_choose 3 0 0 (qI S0 a R) 2 [some (.ref (a 127)), some (.int x1), some (.int x2), some (.int x3), none, none] [] a S0 M 0 0 := by
  induction n with
  | zero => intro x1 x2 x3 M h; exact absurd h (fun z => by cases z)
  | succ n hr2 =>
    intro x1 x2 x3 M h
    replace h : f_X10_choose_2_b (f_X10_choose_2 n) x1 x2 x3 M = some R := h
    unfold f_X10_choose_2_b at h
    refine V_iload_n rfl dX10_choose_2 rfl rfl ?_
    refine V_getsn rfl dX10_choose_3 w_1076 ?_
    refine V_tkln rfl dX10_choose_6 rfl ?_
    refine V_icmp_ge (t := 88) rfl rfl dX10_choose_7 (fun hc1 => ?_) (fun hc1 => ?_)
    · replace h := ifp hc1 h
      refine V_aload_n rfl dX10_choose_88 rfl rfl ?_
      refine V_getr (k0 := 1) rfl dX10_choose_89 s0_127 icX10 (by decide) rfl w_474 ?_
      refine V_iload_n rfl dX10_choose_92 rfl rfl ?_
      refine V_iconst (v := 0) rfl dX10_choose_93 kc_0 ?_
      replace h := wr_e h
      obtain ⟨hb3, h⟩ := h
      refine V_iast rfl dX10_choose_94 s0_128 hb3 ?_
      refine V_iconst (v := 0) rfl dX10_choose_95 kc_0 ?_
      cases h
      exact V_iret dX10_choose_96 rfl rfl (Nat.le_refl _) (Nat.le_refl _) qI_ok
    · replace h := ifn hc1 h
      refine V_getsn rfl dX10_choose_10 w_1076 ?_
      refine V_iload_n rfl dX10_choose_13 rfl rfl ?_
      replace h := rx_e h
      obtain ⟨hb5, h⟩ := h
      refine V_tkld rfl dX10_choose_14 hb5 ?_
      refine V_istore (L' := [_, _, _, _, _, _]) rfl dX10_choose_15 (by decide) rfl ?_
      refine V_aload_n rfl dX10_choose_17 rfl rfl ?_
      refine V_iload_n rfl dX10_choose_18 rfl rfl ?_
      refine V_iload rfl dX10_choose_19 rfl ?_
      replace h := cl_e h
      obtain ⟨w6, M7, hc8, h⟩ := h
      refine V_ii (As := [.int _, .int _]) rfl dX10_choose_21 mf_X10_priceOf ⟨w_1080, w_34⟩ w_1078 (by decide) s0_127 rfl rfl rfl rfl ⟨rfl, rfl⟩ (t_X10_priceOf hc8) ?_
      refine V_istore (L' := [_, _, _, _, _, _]) rfl dX10_choose_24 (by decide) rfl ?_
      refine V_aload_n rfl dX10_choose_26 rfl rfl ?_
      refine V_iload rfl dX10_choose_27 rfl ?_
      replace h := cl_e h
      obtain ⟨w9, M10, hc11, h⟩ := h
      refine V_ii (As := [.int _]) rfl dX10_choose_29 mf_X10_isNeeded ⟨w_1084, w_35⟩ w_1082 (by decide) s0_127 rfl rfl rfl rfl ⟨rfl, rfl⟩ (t_X10_isNeeded hc11) ?_
      refine V_if_eq (t := 82) rfl rfl dX10_choose_32 (fun hc12 => ?_) (fun hc12 => ?_)
      · replace h := ifp hc12 h
        replace h := lt_e h
        refine V_inc (L' := [_, _, _, _, _, _]) rfl dX10_choose_82 rfl kc_1 (by decide) rfl ?_
        refine V_goto (t := 2) rfl dX10_choose_85 ?_
        exact V_sub (le_s (le_s (le_s (le_s (le_n (le_n le_0)))))) (hr2 _ _ _ _ h)
      · replace h := ifn hc12 h
        refine V_iload rfl dX10_choose_35 rfl ?_
        refine V_iload_n rfl dX10_choose_37 rfl rfl ?_
        refine V_icmp_le (t := 44) rfl rfl dX10_choose_38 (fun hc14 => ?_) (fun hc14 => ?_)
        · replace h := ifp hc14 h
          refine V_aload_n rfl dX10_choose_44 rfl rfl ?_
          refine V_iload rfl dX10_choose_45 rfl ?_
          refine V_iconst (v := (-1)) rfl dX10_choose_47 kc_m1 ?_
          replace h := cl_e h
          obtain ⟨w15, M16, hc17, h⟩ := h
          refine V_iv (As := [.int _, .int _]) rfl dX10_choose_48 mf_X10_addNeed ⟨w_1088, w_36⟩ w_1086 (by decide) s0_127 rfl rfl rfl rfl ⟨rfl, rfl⟩ (t_X10_addNeed hc17) ?_
          refine V_aload_n rfl dX10_choose_51 rfl rfl ?_
          refine V_iload_n rfl dX10_choose_52 rfl rfl ?_
          refine V_iconst (v := 1) rfl dX10_choose_53 kc_1 ?_
          refine V_iadd rfl dX10_choose_54 ?_
          refine V_iload_n rfl dX10_choose_55 rfl rfl ?_
          refine V_iload rfl dX10_choose_56 rfl ?_
          refine V_isub rfl dX10_choose_58 ?_
          replace h := cl_e h
          obtain ⟨w18, M19, hc20, h⟩ := h
          refine V_ii (As := [.int _, .int _]) rfl dX10_choose_59 mf_X10_isReached ⟨w_1092, w_37⟩ w_1090 (by decide) s0_127 rfl rfl rfl rfl ⟨rfl, rfl⟩ (t_X10_isReached hc20) ?_
          refine V_if_eq (t := 75) rfl rfl dX10_choose_62 (fun hc21 => ?_) (fun hc21 => ?_)
          · replace h := ifp hc21 h
            refine V_aload_n rfl dX10_choose_75 rfl rfl ?_
            refine V_iload rfl dX10_choose_76 rfl ?_
            refine V_iconst (v := 1) rfl dX10_choose_78 kc_1 ?_
            replace h := cl_e h
            obtain ⟨w22, M23, hc24, h⟩ := h
            refine V_iv (As := [.int _, .int _]) rfl dX10_choose_79 mf_X10_addNeed ⟨w_1088, w_36⟩ w_1086 (by decide) s0_127 rfl rfl rfl rfl ⟨rfl, rfl⟩ (t_X10_addNeed hc24) ?_
            replace h := lt_e h
            refine V_inc (L' := [_, _, _, _, _, _]) rfl dX10_choose_82 rfl kc_1 (by decide) rfl ?_
            refine V_goto (t := 2) rfl dX10_choose_85 ?_
            exact V_sub (le_s (le_s (le_s (le_s (le_n (le_n le_0)))))) (hr2 _ _ _ _ h)
          · replace h := ifn hc21 h
            refine V_aload_n rfl dX10_choose_65 rfl rfl ?_
            refine V_getr (k0 := 1) rfl dX10_choose_66 s0_127 icX10 (by decide) rfl w_474 ?_
            refine V_iload_n rfl dX10_choose_69 rfl rfl ?_
            refine V_iload_n rfl dX10_choose_70 rfl rfl ?_
            replace h := wr_e h
            obtain ⟨hb27, h⟩ := h
            refine V_iast rfl dX10_choose_71 s0_128 hb27 ?_
            refine V_iload rfl dX10_choose_72 rfl ?_
            cases h
            exact V_iret dX10_choose_74 rfl rfl (Nat.le_refl _) (Nat.le_refl _) qI_ok
        · replace h := ifn hc14 h
          refine V_goto (t := 82) rfl dX10_choose_41 ?_
          replace h := lt_e h
          refine V_inc (L' := [_, _, _, _, _, _]) rfl dX10_choose_82 rfl kc_1 (by decide) rfl ?_
          refine V_goto (t := 2) rfl dX10_choose_85 ?_
          exact V_sub (le_s (le_s (le_s (le_s (le_n (le_n le_0)))))) (hr2 _ _ _ _ h)
def f_X10_choose (p1 : Int32) (p2 : Int32) (M : IM) : IR := f_X10_choose_2 BG p1 p2 0 M
set_option maxRecDepth 100000 in
set_option maxHeartbeats 4000000 in
theorem t_X10_choose {g : IG} {a : Nat → Nat} {R : Int32 × IM} {p1 : Int32} {p2 : Int32} {M : IM} (h : f_X10_choose p1 p2 M = some R) : Cn g mX10_choose 3 0 0 (qI S0 a R) [.ref (a 127), .int p1, .int p2] a S0 M := by
  refine Cn_of (L := [some (.ref (a 127)), some (.int p1), some (.int p2), none, none, none]) mf_X10_choose (cat_r (cat_i (cat_i cat_0))) (Nat.le_of_ble_eq_true rfl) rfl ?_
  unfold f_X10_choose at h
  refine V_iconst (v := 0) rfl dX10_choose_0 kc_0 ?_
  refine V_istore_n (L' := [_, _, _, _, _, _]) rfl rfl dX10_choose_1 (by decide) rfl ?_
  exact V_sub (le_s (le_s (le_s (le_s (le_n (le_n le_0)))))) (t_X10_choose_2 BG _ _ _ _ h)
-- X10_isFound: NeverHalted$WatchPlan.isFound(I)Z
def f_X10_isFound_34_b (r34 : Int32 → Int32 → IM → IR) (x2 : Int32) (x3 : Int32) (M : IM) : IR := if (M 127 2) ≤ x3 then some (1, M) else cl (f_X10_choose x3 x2 M) fun w11 M12 => lt (x2 - w11) fun v14 => lt (x3 + 1) fun v15 => r34 v14 v15 M12
def f_X10_isFound_34 (n : Nat) : Int32 → Int32 → IM → IR := itr (fun _ _ _ => none) (f_X10_isFound_34_b) n
set_option maxRecDepth 100000 in
set_option maxHeartbeats 4000000 in
theorem t_X10_isFound_34 {g : IG} {a : Nat → Nat} {R : Int32 × IM} (n : Nat) : ∀ (x2 : Int32) (x3 : Int32) (M : IM), f_X10_isFound_34 n x2 x3 M = some R → V g mX10_isFound 4 0 0 (qI S0 a R) 34 [some (.ref (a 127)), none, some (.int x2), some (.int x3)] [] a S0 M 0 0 := by
  induction n with
  | zero => intro x2 x3 M h; exact absurd h (fun z => by cases z)
  | succ n hr34 =>
    intro x2 x3 M h
    replace h : f_X10_isFound_34_b (f_X10_isFound_34 n) x2 x3 M = some R := h
    unfold f_X10_isFound_34_b at h
    refine V_iload_n rfl dX10_isFound_34 rfl rfl ?_
    refine V_aload_n rfl dX10_isFound_35 rfl rfl ?_
    refine V_geti (k0 := 2) rfl dX10_isFound_36 s0_127 icX10 (by decide) rfl w_476 ?_
    refine V_icmp_ge (t := 57) rfl rfl dX10_isFound_39 (fun hc10 => ?_) (fun hc10 => ?_)
    · replace h := ifp hc10 h
      refine V_iconst (v := 1) rfl dX10_isFound_57 kc_1 ?_
      cases h
      exact V_iret dX10_isFound_58 rfl nz_1 (Nat.le_refl _) (Nat.le_refl _) qI_ok
    · replace h := ifn hc10 h
      refine V_iload_n rfl dX10_isFound_42 rfl rfl ?_
      refine V_aload_n rfl dX10_isFound_43 rfl rfl ?_
      refine V_iload_n rfl dX10_isFound_44 rfl rfl ?_
      refine V_iload_n rfl dX10_isFound_45 rfl rfl ?_
      replace h := cl_e h
      obtain ⟨w11, M12, hc13, h⟩ := h
      refine V_ii (As := [.int _, .int _]) rfl dX10_isFound_46 mf_X10_choose ⟨w_1074, w_33⟩ w_1072 (by decide) s0_127 rfl rfl rfl rfl ⟨rfl, rfl⟩ (t_X10_choose hc13) ?_
      refine V_isub rfl dX10_isFound_49 ?_
      replace h := lt_e h
      refine V_istore_n (L' := [_, _, _, _]) rfl rfl dX10_isFound_50 (by decide) rfl ?_
      replace h := lt_e h
      refine V_inc (L' := [_, _, _, _]) rfl dX10_isFound_51 rfl kc_1 (by decide) rfl ?_
      refine V_goto (t := 34) rfl dX10_isFound_54 ?_
      exact V_sub (le_s (le_n (le_s (le_s le_0)))) (hr34 _ _ _ h)
def f_X10_isFound (p1 : Int32) (M : IM) : IR := cl (f_J7_fill_53178 131 4 p1 M) fun _ M2 => cl (f_X10_leastSum M2) fun w4 M5 => pt M5 127 0 w4 fun M7 => if (M7 127 0) < 1000000 then lt (M7 127 0) fun v9 => f_X10_isFound_34 BG v9 0 M7 else some (0, M7)
set_option maxRecDepth 100000 in
set_option maxHeartbeats 4000000 in
theorem t_X10_isFound {g : IG} {a : Nat → Nat} {R : Int32 × IM} {p1 : Int32} {M : IM} (h : f_X10_isFound p1 M = some R) : Cn g mX10_isFound 4 0 0 (qI S0 a R) [.ref (a 127), .int p1] a S0 M := by
  refine Cn_of (L := [some (.ref (a 127)), some (.int p1), none, none]) mf_X10_isFound (cat_r (cat_i cat_0)) (Nat.le_of_ble_eq_true rfl) rfl ?_
  unfold f_X10_isFound at h
  refine V_aload_n rfl dX10_isFound_0 rfl rfl ?_
  refine V_getr (k0 := 5) rfl dX10_isFound_1 s0_127 icX10 (by decide) rfl w_479 ?_
  refine V_iload_n rfl dX10_isFound_4 rfl rfl ?_
  replace h := cl_e h
  obtain ⟨w1, M2, hc3, h⟩ := h
  refine V_sv (As := [.ref _, .int _]) rfl dX10_isFound_5 mf_J7_fill_53178 w_1025 w_1061 (by decide) rfl rfl rfl ⟨rfl, rfl⟩ (t_J7_fill_53178 s0_131 hc3) ?_
  refine V_aload_n rfl dX10_isFound_8 rfl rfl ?_
  refine V_aload_n rfl dX10_isFound_9 rfl rfl ?_
  replace h := cl_e h
  obtain ⟨w4, M5, hc6, h⟩ := h
  refine V_ii (As := []) rfl dX10_isFound_10 mf_X10_leastSum ⟨w_1064, w_31⟩ w_1062 (by decide) s0_127 rfl rfl rfl rfl ⟨rfl, rfl⟩ (t_X10_leastSum hc6) ?_
  replace h := pt_e h
  refine V_putf (k0 := 0) (ty := .int) rfl dX10_isFound_13 s0_127 icX10 tyX10_ok nmX10 (by decide) rfl w_472 rfl (tyX10_ok _ (by decide)) rfl rfl ?_
  refine V_aload_n rfl dX10_isFound_16 rfl rfl ?_
  refine V_geti (k0 := 0) rfl dX10_isFound_17 s0_127 icX10 (by decide) rfl w_472 ?_
  refine V_ldc (v := 1000000) rfl dX10_isFound_20 w_1066 ?_
  refine V_icmp_lt (t := 27) rfl rfl dX10_isFound_22 (fun hc8 => ?_) (fun hc8 => ?_)
  · replace h := ifp hc8 h
    refine V_aload_n rfl dX10_isFound_27 rfl rfl ?_
    refine V_geti (k0 := 0) rfl dX10_isFound_28 s0_127 icX10 (by decide) rfl w_472 ?_
    replace h := lt_e h
    refine V_istore_n (L' := [_, _, _, _]) rfl rfl dX10_isFound_31 (by decide) rfl ?_
    refine V_iconst (v := 0) rfl dX10_isFound_32 kc_0 ?_
    refine V_istore_n (L' := [_, _, _, _]) rfl rfl dX10_isFound_33 (by decide) rfl ?_
    exact V_sub (le_s (le_n (le_s (le_s le_0)))) (t_X10_isFound_34 BG _ _ _ h)
  · replace h := ifn hc8 h
    refine V_iconst (v := 0) rfl dX10_isFound_25 kc_0 ?_
    cases h
    exact V_iret dX10_isFound_26 rfl nz_0 (Nat.le_refl _) (Nat.le_refl _) qI_ok
-- X11_watches: NeverHalted.watches(I)I
def f_X11_watches_49_b (r35 : Int32 → Int32 → Int32 → IM → IR) (r49 : Int32 → Int32 → Int32 → Int32 → IM → IR) (x1 : Int32) (x2 : Int32) (x3 : Int32) (x4 : Int32) (M : IM) : IR := if 4 ≤ x4 then lt (x3 + 1) fun v19 => r35 x1 x2 v19 M else cl (f_X11_tireAt x3 (6 * x4) M) fun w20 M21 => cl (f_X10_price x3 x4 (6 * w20) M21) fun _ M24 => lt (x4 + 1) fun v26 => r49 x1 x2 x3 v26 M24
def f_X11_watches_49 (r35 : Int32 → Int32 → Int32 → IM → IR) (n : Nat) : Int32 → Int32 → Int32 → Int32 → IM → IR := itr (fun _ _ _ _ _ => none) (f_X11_watches_49_b r35) n
set_option maxRecDepth 100000 in
set_option maxHeartbeats 4000000 in
theorem t_X11_watches_49 {g : IG} {a : Nat → Nat} {R : Int32 × IM} {r35 : Int32 → Int32 → Int32 → IM → IR} (hr35 : ∀ (x1 : Int32) (x2 : Int32) (x3 : Int32) (M : IM), r35 x1 x2 x3 M = some R → V g mX11_watches 7 0 0 (qI S0 a R) 35 [some (.ref (a 0)), some (.int x1), some (.int x2), some (.int x3), none] [] a S0 M 0 0) (n : Nat) : ∀ (x1 : Int32) (x2 : Int32) (x3 : Int32) (x4 : Int32) (M : IM), f_X11_watches_49 r35 n x1 x2 x3 x4 M = some R → V g mX11_watches 7 0 0 (qI S0 a R) 49 [some (.ref (a 0)), some (.int x1), some (.int x2), some (.int x3), some (.int x4)] [] a S0 M 0 0 := by
  induction n with
  | zero => intro x1 x2 x3 x4 M h; exact absurd h (fun z => by cases z)
  | succ n hr49 =>
    intro x1 x2 x3 x4 M h
    replace h : f_X11_watches_49_b r35 (f_X11_watches_49 r35 n) x1 x2 x3 x4 M = some R := h
    unfold f_X11_watches_49_b at h
    refine V_iload rfl dX11_watches_49 rfl ?_
    refine V_iconst (v := 4) rfl dX11_watches_51 kc_4 ?_
    refine V_icmp_ge (t := 84) rfl rfl dX11_watches_52 (fun hc18 => ?_) (fun hc18 => ?_)
    · replace h := ifp hc18 h
      replace h := lt_e h
      refine V_inc (L' := [_, _, _, _, _]) rfl dX11_watches_84 rfl kc_1 (by decide) rfl ?_
      refine V_goto (t := 35) rfl dX11_watches_87 ?_
      exact V_sub (le_s (le_s (le_s (le_s (le_n le_0))))) (hr35 _ _ _ _ h)
    · replace h := ifn hc18 h
      refine V_aload_n rfl dX11_watches_55 rfl rfl ?_
      refine V_getr (k0 := 13) rfl dX11_watches_56 s0_0 icX11 (by decide) rfl w_536 ?_
      refine V_iload_n rfl dX11_watches_59 rfl rfl ?_
      refine V_iload rfl dX11_watches_60 rfl ?_
      refine V_bipush (v := 6) rfl dX11_watches_62 kb_6 ?_
      refine V_aload_n rfl dX11_watches_64 rfl rfl ?_
      refine V_iload_n rfl dX11_watches_65 rfl rfl ?_
      refine V_bipush (v := 6) rfl dX11_watches_66 kb_6 ?_
      refine V_iload rfl dX11_watches_68 rfl ?_
      refine V_imul rfl dX11_watches_70 ?_
      replace h := cl_e h
      obtain ⟨w20, M21, hc22, h⟩ := h
      refine V_ii (As := [.int _, .int _]) rfl dX11_watches_71 mf_X11_tireAt ⟨w_1047, w_30⟩ w_1045 (by decide) s0_0 rfl rfl rfl rfl ⟨rfl, rfl⟩ (t_X11_tireAt hc22) ?_
      refine V_imul rfl dX11_watches_74 ?_
      replace h := cl_e h
      obtain ⟨w23, M24, hc25, h⟩ := h
      refine V_iv (As := [.int _, .int _, .int _]) rfl dX11_watches_75 mf_X10_price ⟨w_1054, w_1055⟩ w_1053 (by decide) s0_127 rfl rfl rfl rfl ⟨rfl, rfl⟩ (t_X10_price hc25) ?_
      replace h := lt_e h
      refine V_inc (L' := [_, _, _, _, _]) rfl dX11_watches_78 rfl kc_1 (by decide) rfl ?_
      refine V_goto (t := 49) rfl dX11_watches_81 ?_
      exact V_sub (le_s (le_s (le_s (le_s (le_s le_0))))) (hr49 _ _ _ _ _ h)
def f_X11_watches_35_b (r35 : Int32 → Int32 → Int32 → IM → IR) (x1 : Int32) (x2 : Int32) (x3 : Int32) (M : IM) : IR := if (M 1 10) ≤ x3 then cl (f_X10_isFound (M 6 0) M) fun w11 M12 => if w11 = 0 then some ((-1), M12) else if x1 = 0 then some ((M12 127 0), M12) else rd M12 128 10 x2 fun v16 => some (v16, M12) else f_X11_watches_49 r35 BG x1 x2 x3 0 M
def f_X11_watches_35 (n : Nat) : Int32 → Int32 → Int32 → IM → IR := itr (fun _ _ _ _ => none) (f_X11_watches_35_b) n
set_option maxRecDepth 100000 in
set_option maxHeartbeats 4000000 in
theorem t_X11_watches_35 {g : IG} {a : Nat → Nat} {R : Int32 × IM} (n : Nat) : ∀ (x1 : Int32) (x2 : Int32) (x3 : Int32) (M : IM), f_X11_watches_35 n x1 x2 x3 M = some R → V g mX11_watches 7 0 0 (qI S0 a R) 35 [some (.ref (a 0)), some (.int x1), some (.int x2), some (.int x3), none] [] a S0 M 0 0 := by
  induction n with
  | zero => intro x1 x2 x3 M h; exact absurd h (fun z => by cases z)
  | succ n hr35 =>
    intro x1 x2 x3 M h
    replace h : f_X11_watches_35_b (f_X11_watches_35 n) x1 x2 x3 M = some R := h
    unfold f_X11_watches_35_b at h
    refine V_iload_n rfl dX11_watches_35 rfl rfl ?_
    refine V_aload_n rfl dX11_watches_36 rfl rfl ?_
    refine V_getr (k0 := 0) rfl dX11_watches_37 s0_0 icX11 (by decide) rfl w_523 ?_
    refine V_geti (k0 := 10) rfl dX11_watches_40 s0_1 icX4 (by decide) rfl w_201 ?_
    refine V_icmp_ge (t := 90) rfl rfl dX11_watches_43 (fun hc10 => ?_) (fun hc10 => ?_)
    · replace h := ifp hc10 h
      refine V_aload_n rfl dX11_watches_90 rfl rfl ?_
      refine V_getr (k0 := 13) rfl dX11_watches_91 s0_0 icX11 (by decide) rfl w_536 ?_
      refine V_aload_n rfl dX11_watches_94 rfl rfl ?_
      refine V_getr (k0 := 1) rfl dX11_watches_95 s0_0 icX11 (by decide) rfl w_524 ?_
      refine V_geti (k0 := 0) rfl dX11_watches_98 s0_6 icX9 (by decide) rfl w_343 ?_
      replace h := cl_e h
      obtain ⟨w11, M12, hc13, h⟩ := h
      refine V_ii (As := [.int _]) rfl dX11_watches_101 mf_X10_isFound ⟨w_1058, w_1059⟩ w_1057 (by decide) s0_127 rfl rfl rfl rfl ⟨rfl, rfl⟩ (t_X10_isFound hc13) ?_
      refine V_if_ne (t := 109) rfl rfl dX11_watches_104 (fun hc14 => ?_) (fun hc14 => ?_)
      · replace h := ifn hc14 h
        refine V_iload_n rfl dX11_watches_109 rfl rfl ?_
        refine V_if_ne (t := 123) rfl rfl dX11_watches_110 (fun hc15 => ?_) (fun hc15 => ?_)
        · replace h := ifn hc15 h
          refine V_aload_n rfl dX11_watches_123 rfl rfl ?_
          refine V_getr (k0 := 13) rfl dX11_watches_124 s0_0 icX11 (by decide) rfl w_536 ?_
          refine V_getr (k0 := 1) rfl dX11_watches_127 s0_127 icX10 (by decide) rfl w_475 ?_
          refine V_iload_n rfl dX11_watches_130 rfl rfl ?_
          replace h := rd_e h
          obtain ⟨hb17, h⟩ := h
          refine V_iald rfl dX11_watches_131 s0_128 hb17 ?_
          cases h
          exact V_iret dX11_watches_132 rfl rfl (Nat.le_refl _) (Nat.le_refl _) qI_ok
        · replace h := ifp hc15 h
          refine V_aload_n rfl dX11_watches_113 rfl rfl ?_
          refine V_getr (k0 := 13) rfl dX11_watches_114 s0_0 icX11 (by decide) rfl w_536 ?_
          refine V_geti (k0 := 0) rfl dX11_watches_117 s0_127 icX10 (by decide) rfl w_473 ?_
          refine V_goto (t := 132) rfl dX11_watches_120 ?_
          cases h
          exact V_iret dX11_watches_132 rfl rfl (Nat.le_refl _) (Nat.le_refl _) qI_ok
      · replace h := ifp hc14 h
        refine V_iconst (v := (-1)) rfl dX11_watches_107 kc_m1 ?_
        cases h
        exact V_iret dX11_watches_108 rfl rfl (Nat.le_refl _) (Nat.le_refl _) qI_ok
    · replace h := ifn hc10 h
      refine V_iconst (v := 0) rfl dX11_watches_46 kc_0 ?_
      refine V_istore (L' := [_, _, _, _, _]) rfl dX11_watches_47 (by decide) rfl ?_
      exact V_sub (le_s (le_s (le_s (le_s (le_s le_0))))) (t_X11_watches_49 hr35 BG _ _ _ _ _ h)
def f_X11_watches_19 (x1 : Int32) (x2 : Int32) (M : IM) : IR := cl (f_X10_begin (M 1 10) M) fun _ M8 => f_X11_watches_35 BG x1 x2 0 M8
set_option maxRecDepth 100000 in
set_option maxHeartbeats 4000000 in
theorem t_X11_watches_19 {g : IG} {a : Nat → Nat} {R : Int32 × IM} {x1 : Int32} {x2 : Int32} {M : IM} (h : f_X11_watches_19 x1 x2 M = some R) : V g mX11_watches 7 0 0 (qI S0 a R) 19 [some (.ref (a 0)), some (.int x1), some (.int x2), none, none] [] a S0 M 0 0 := by
  unfold f_X11_watches_19 at h
  refine V_aload_n rfl dX11_watches_19 rfl rfl ?_
  refine V_getr (k0 := 13) rfl dX11_watches_20 s0_0 icX11 (by decide) rfl w_536 ?_
  refine V_aload_n rfl dX11_watches_23 rfl rfl ?_
  refine V_getr (k0 := 0) rfl dX11_watches_24 s0_0 icX11 (by decide) rfl w_523 ?_
  refine V_geti (k0 := 10) rfl dX11_watches_27 s0_1 icX4 (by decide) rfl w_201 ?_
  replace h := cl_e h
  obtain ⟨w7, M8, hc9, h⟩ := h
  refine V_iv (As := [.int _]) rfl dX11_watches_30 mf_X10_begin ⟨w_1042, w_1043⟩ w_1041 (by decide) s0_127 rfl rfl rfl rfl ⟨rfl, rfl⟩ (t_X10_begin hc9) ?_
  refine V_iconst (v := 0) rfl dX11_watches_33 kc_0 ?_
  refine V_istore_n (L' := [_, _, _, _, _]) rfl rfl dX11_watches_34 (by decide) rfl ?_
  exact V_sub (le_s (le_s (le_s (le_s (le_n le_0))))) (t_X11_watches_35 BG _ _ _ _ h)
def f_X11_watches (p1 : Int32) (M : IM) : IR := lt (p1 - 10) fun v1 => if p1 = 0 then f_X11_watches_19 p1 v1 M else cl (f_X11_isWalker v1 M) fun w3 M4 => if w3 = 0 then some ((-1), M4) else f_X11_watches_19 p1 v1 M4
set_option maxRecDepth 100000 in
set_option maxHeartbeats 4000000 in
theorem t_X11_watches {g : IG} {a : Nat → Nat} {R : Int32 × IM} {p1 : Int32} {M : IM} (h : f_X11_watches p1 M = some R) : Cn g mX11_watches 7 0 0 (qI S0 a R) [.ref (a 0), .int p1] a S0 M := by
  refine Cn_of (L := [some (.ref (a 0)), some (.int p1), none, none, none]) mf_X11_watches (cat_r (cat_i cat_0)) (Nat.le_of_ble_eq_true rfl) rfl ?_
  unfold f_X11_watches at h
  refine V_iload_n rfl dX11_watches_0 rfl rfl ?_
  refine V_bipush (v := 10) rfl dX11_watches_1 kb_10 ?_
  refine V_isub rfl dX11_watches_3 ?_
  replace h := lt_e h
  refine V_istore_n (L' := [_, _, _, _, _]) rfl rfl dX11_watches_4 (by decide) rfl ?_
  refine V_iload_n rfl dX11_watches_5 rfl rfl ?_
  refine V_if_eq (t := 19) rfl rfl dX11_watches_6 (fun hc2 => ?_) (fun hc2 => ?_)
  · replace h := ifp hc2 h
    exact V_sub (le_s (le_s (le_s (le_n (le_n le_0))))) (t_X11_watches_19 h)
  · replace h := ifn hc2 h
    refine V_aload_n rfl dX11_watches_9 rfl rfl ?_
    refine V_iload_n rfl dX11_watches_10 rfl rfl ?_
    replace h := cl_e h
    obtain ⟨w3, M4, hc5, h⟩ := h
    refine V_ii (As := [.int _]) rfl dX11_watches_11 mf_X11_isWalker ⟨w_606, w_1⟩ w_604 (by decide) s0_0 rfl rfl rfl rfl ⟨rfl, rfl⟩ (t_X11_isWalker hc5) ?_
    refine V_if_ne (t := 19) rfl rfl dX11_watches_14 (fun hc6 => ?_) (fun hc6 => ?_)
    · replace h := ifn hc6 h
      exact V_sub (le_s (le_s (le_s (le_n (le_n le_0))))) (t_X11_watches_19 h)
    · replace h := ifp hc6 h
      refine V_iconst (v := (-1)) rfl dX11_watches_17 kc_m1 ?_
      cases h
      exact V_iret dX11_watches_18 rfl rfl (Nat.le_refl _) (Nat.le_refl _) qI_ok
-- X11_roadHours: NeverHalted.roadHours(II)I
def f_X11_roadHours (p1 : Int32) (p2 : Int32) (M : IM) : IR := rd M 7 64 ((p1 * 8) + p2) fun v1 => if v1 ≤ 0 then some (1000000, M) else some (v1, M)
set_option maxRecDepth 100000 in
set_option maxHeartbeats 4000000 in
theorem t_X11_roadHours {g : IG} {a : Nat → Nat} {R : Int32 × IM} {p1 : Int32} {p2 : Int32} {M : IM} (h : f_X11_roadHours p1 p2 M = some R) : Cn g mX11_roadHours 1 0 0 (qI S0 a R) [.ref (a 0), .int p1, .int p2] a S0 M := by
  refine Cn_of (L := [some (.ref (a 0)), some (.int p1), some (.int p2), none]) mf_X11_roadHours (cat_r (cat_i (cat_i cat_0))) (Nat.le_of_ble_eq_true rfl) rfl ?_
  unfold f_X11_roadHours at h
  refine V_aload_n rfl dX11_roadHours_0 rfl rfl ?_
  refine V_getr (k0 := 1) rfl dX11_roadHours_1 s0_0 icX11 (by decide) rfl w_524 ?_
  refine V_getr (k0 := 3) rfl dX11_roadHours_4 s0_6 icX9 (by decide) rfl w_349 ?_
  refine V_iload_n rfl dX11_roadHours_7 rfl rfl ?_
  refine V_bipush (v := 8) rfl dX11_roadHours_8 kb_8 ?_
  refine V_imul rfl dX11_roadHours_10 ?_
  refine V_iload_n rfl dX11_roadHours_11 rfl rfl ?_
  refine V_iadd rfl dX11_roadHours_12 ?_
  replace h := rd_e h
  obtain ⟨hb2, h⟩ := h
  refine V_iald rfl dX11_roadHours_13 s0_7 hb2 ?_
  refine V_istore_n (L' := [_, _, _, _]) rfl rfl dX11_roadHours_14 (by decide) rfl ?_
  refine V_iload_n rfl dX11_roadHours_15 rfl rfl ?_
  refine V_if_le (t := 23) rfl rfl dX11_roadHours_16 (fun hc3 => ?_) (fun hc3 => ?_)
  · replace h := ifp hc3 h
    refine V_ldcw (v := 1000000) rfl dX11_roadHours_23 w_1106 ?_
    cases h
    exact V_iret dX11_roadHours_26 rfl rfl (Nat.le_refl _) (Nat.le_refl _) qI_ok
  · replace h := ifn hc3 h
    refine V_iload_n rfl dX11_roadHours_19 rfl rfl ?_
    refine V_goto (t := 26) rfl dX11_roadHours_20 ?_
    cases h
    exact V_iret dX11_roadHours_26 rfl rfl (Nat.le_refl _) (Nat.le_refl _) qI_ok
-- X11_hoursOver: NeverHalted.hoursOver(III)I
def f_X11_hoursOver (p1 : Int32) (p2 : Int32) (p3 : Int32) (M : IM) : IR := lt (p1 &&& (((1 : Int32) <<< ((p3 - 1) &&& 31)) ^^^ (-1))) fun v1 => cl (f_X11_roadHours p2 p3 M) fun w2 M3 => rd M3 133 1024 ((v1 * 8) + p3) fun v5 => some ((w2 + v5), M3)
set_option maxRecDepth 100000 in
set_option maxHeartbeats 4000000 in
theorem t_X11_hoursOver {g : IG} {a : Nat → Nat} {R : Int32 × IM} {p1 : Int32} {p2 : Int32} {p3 : Int32} {M : IM} (h : f_X11_hoursOver p1 p2 p3 M = some R) : Cn g mX11_hoursOver 2 0 0 (qI S0 a R) [.ref (a 0), .int p1, .int p2, .int p3] a S0 M := by
  refine Cn_of (L := [some (.ref (a 0)), some (.int p1), some (.int p2), some (.int p3), none]) mf_X11_hoursOver (cat_r (cat_i (cat_i (cat_i cat_0)))) (Nat.le_of_ble_eq_true rfl) rfl ?_
  unfold f_X11_hoursOver at h
  refine V_iload_n rfl dX11_hoursOver_0 rfl rfl ?_
  refine V_iconst (v := 1) rfl dX11_hoursOver_1 kc_1 ?_
  refine V_iload_n rfl dX11_hoursOver_2 rfl rfl ?_
  refine V_iconst (v := 1) rfl dX11_hoursOver_3 kc_1 ?_
  refine V_isub rfl dX11_hoursOver_4 ?_
  refine V_ishl rfl dX11_hoursOver_5 ?_
  refine V_iconst (v := (-1)) rfl dX11_hoursOver_6 kc_m1 ?_
  refine V_ixor rfl dX11_hoursOver_7 ?_
  refine V_iand rfl dX11_hoursOver_8 ?_
  replace h := lt_e h
  refine V_istore (L' := [_, _, _, _, _]) rfl dX11_hoursOver_9 (by decide) rfl ?_
  refine V_aload_n rfl dX11_hoursOver_11 rfl rfl ?_
  refine V_iload_n rfl dX11_hoursOver_12 rfl rfl ?_
  refine V_iload_n rfl dX11_hoursOver_13 rfl rfl ?_
  replace h := cl_e h
  obtain ⟨w2, M3, hc4, h⟩ := h
  refine V_ii (As := [.int _, .int _]) rfl dX11_hoursOver_14 mf_X11_roadHours ⟨w_1104, w_39⟩ w_1102 (by decide) s0_0 rfl rfl rfl rfl ⟨rfl, rfl⟩ (t_X11_roadHours hc4) ?_
  refine V_aload_n rfl dX11_hoursOver_17 rfl rfl ?_
  refine V_getr (k0 := 15) rfl dX11_hoursOver_18 s0_0 icX11 (by decide) rfl w_538 ?_
  refine V_iload rfl dX11_hoursOver_21 rfl ?_
  refine V_bipush (v := 8) rfl dX11_hoursOver_23 kb_8 ?_
  refine V_imul rfl dX11_hoursOver_25 ?_
  refine V_iload_n rfl dX11_hoursOver_26 rfl rfl ?_
  refine V_iadd rfl dX11_hoursOver_27 ?_
  replace h := rd_e h
  obtain ⟨hb6, h⟩ := h
  refine V_iald rfl dX11_hoursOver_28 s0_133 hb6 ?_
  refine V_iadd rfl dX11_hoursOver_29 ?_
  cases h
  exact V_iret dX11_hoursOver_30 rfl rfl (Nat.le_refl _) (Nat.le_refl _) qI_ok
-- X11_leastOnwards: NeverHalted.leastOnwards(II)I
def f_X11_leastOnwards_18_b (r18 : Int32 → Int32 → Int32 → Int32 → IM → IR) (x1 : Int32) (x2 : Int32) (x3 : Int32) (x4 : Int32) (M : IM) : IR := if 8 ≤ x4 then some (x3, M) else if ((x1 >>> ((x4 - 1) &&& 31)) &&& 1) = 0 then lt (x4 + 1) fun v7 => r18 x1 x2 x3 v7 M else cl (f_X11_hoursOver x1 x2 x4 M) fun w8 M9 => cl (f_J9_min_7cf53 x3 w8 M9) fun w11 M12 => lt (x4 + 1) fun v14 => r18 x1 x2 w11 v14 M12
def f_X11_leastOnwards_18 (n : Nat) : Int32 → Int32 → Int32 → Int32 → IM → IR := itr (fun _ _ _ _ _ => none) (f_X11_leastOnwards_18_b) n
set_option maxRecDepth 100000 in
set_option maxHeartbeats 4000000 in
theorem t_X11_leastOnwards_18 {g : IG} {a : Nat → Nat} {R : Int32 × IM} (n : Nat) : ∀ (x1 : Int32) (x2 : Int32) (x3 : Int32) (x4 : Int32) (M : IM), f_X11_leastOnwards_18 n x1 x2 x3 x4 M = some R → V g mX11_leastOnwards 3 0 0 (qI S0 a R) 18 [some (.ref (a 0)), some (.int x1), some (.int x2), some (.int x3), some (.int x4)] [] a S0 M 0 0 := by
  induction n with
  | zero => intro x1 x2 x3 x4 M h; exact absurd h (fun z => by cases z)
  | succ n hr18 =>
    intro x1 x2 x3 x4 M h
    replace h : f_X11_leastOnwards_18_b (f_X11_leastOnwards_18 n) x1 x2 x3 x4 M = some R := h
    unfold f_X11_leastOnwards_18_b at h
    refine V_iload rfl dX11_leastOnwards_18 rfl ?_
    refine V_bipush (v := 8) rfl dX11_leastOnwards_20 kb_8 ?_
    refine V_icmp_ge (t := 55) rfl rfl dX11_leastOnwards_22 (fun hc5 => ?_) (fun hc5 => ?_)
    · replace h := ifp hc5 h
      refine V_iload_n rfl dX11_leastOnwards_55 rfl rfl ?_
      cases h
      exact V_iret dX11_leastOnwards_56 rfl rfl (Nat.le_refl _) (Nat.le_refl _) qI_ok
    · replace h := ifn hc5 h
      refine V_iload_n rfl dX11_leastOnwards_25 rfl rfl ?_
      refine V_iload rfl dX11_leastOnwards_26 rfl ?_
      refine V_iconst (v := 1) rfl dX11_leastOnwards_28 kc_1 ?_
      refine V_isub rfl dX11_leastOnwards_29 ?_
      refine V_ishr rfl dX11_leastOnwards_30 ?_
      refine V_iconst (v := 1) rfl dX11_leastOnwards_31 kc_1 ?_
      refine V_iand rfl dX11_leastOnwards_32 ?_
      refine V_if_eq (t := 49) rfl rfl dX11_leastOnwards_33 (fun hc6 => ?_) (fun hc6 => ?_)
      · replace h := ifp hc6 h
        replace h := lt_e h
        refine V_inc (L' := [_, _, _, _, _]) rfl dX11_leastOnwards_49 rfl kc_1 (by decide) rfl ?_
        refine V_goto (t := 18) rfl dX11_leastOnwards_52 ?_
        exact V_sub (le_s (le_s (le_s (le_s (le_s le_0))))) (hr18 _ _ _ _ _ h)
      · replace h := ifn hc6 h
        refine V_iload_n rfl dX11_leastOnwards_36 rfl rfl ?_
        refine V_aload_n rfl dX11_leastOnwards_37 rfl rfl ?_
        refine V_iload_n rfl dX11_leastOnwards_38 rfl rfl ?_
        refine V_iload_n rfl dX11_leastOnwards_39 rfl rfl ?_
        refine V_iload rfl dX11_leastOnwards_40 rfl ?_
        replace h := cl_e h
        obtain ⟨w8, M9, hc10, h⟩ := h
        refine V_ii (As := [.int _, .int _, .int _]) rfl dX11_leastOnwards_42 mf_X11_hoursOver ⟨w_1109, w_40⟩ w_1107 (by decide) s0_0 rfl rfl rfl rfl ⟨rfl, rfl⟩ (t_X11_hoursOver hc10) ?_
        replace h := cl_e h
        obtain ⟨w11, M12, hc13, h⟩ := h
        refine V_si (As := [.int _, .int _]) rfl dX11_leastOnwards_45 mf_J9_min_7cf53 w_916 w_924 (by decide) rfl rfl rfl ⟨rfl, rfl⟩ (t_J9_min_7cf53 hc13) ?_
        refine V_istore_n (L' := [_, _, _, _, _]) rfl rfl dX11_leastOnwards_48 (by decide) rfl ?_
        replace h := lt_e h
        refine V_inc (L' := [_, _, _, _, _]) rfl dX11_leastOnwards_49 rfl kc_1 (by decide) rfl ?_
        refine V_goto (t := 18) rfl dX11_leastOnwards_52 ?_
        exact V_sub (le_s (le_s (le_s (le_s (le_s le_0))))) (hr18 _ _ _ _ _ h)
def f_X11_leastOnwards (p1 : Int32) (p2 : Int32) (M : IM) : IR := if p1 = 0 then cl (f_X11_roadHours p2 0 M) fun w2 M3 => some (w2, M3) else f_X11_leastOnwards_18 BG p1 p2 1000000 1 M
set_option maxRecDepth 100000 in
set_option maxHeartbeats 4000000 in
theorem t_X11_leastOnwards {g : IG} {a : Nat → Nat} {R : Int32 × IM} {p1 : Int32} {p2 : Int32} {M : IM} (h : f_X11_leastOnwards p1 p2 M = some R) : Cn g mX11_leastOnwards 3 0 0 (qI S0 a R) [.ref (a 0), .int p1, .int p2] a S0 M := by
  refine Cn_of (L := [some (.ref (a 0)), some (.int p1), some (.int p2), none, none]) mf_X11_leastOnwards (cat_r (cat_i (cat_i cat_0))) (Nat.le_of_ble_eq_true rfl) rfl ?_
  unfold f_X11_leastOnwards at h
  refine V_iload_n rfl dX11_leastOnwards_0 rfl rfl ?_
  refine V_if_ne (t := 11) rfl rfl dX11_leastOnwards_1 (fun hc1 => ?_) (fun hc1 => ?_)
  · replace h := ifn hc1 h
    refine V_ldcw (v := 1000000) rfl dX11_leastOnwards_11 w_1106 ?_
    refine V_istore_n (L' := [_, _, _, _, _]) rfl rfl dX11_leastOnwards_14 (by decide) rfl ?_
    refine V_iconst (v := 1) rfl dX11_leastOnwards_15 kc_1 ?_
    refine V_istore (L' := [_, _, _, _, _]) rfl dX11_leastOnwards_16 (by decide) rfl ?_
    exact V_sub (le_s (le_s (le_s (le_s (le_s le_0))))) (t_X11_leastOnwards_18 BG _ _ _ _ _ h)
  · replace h := ifp hc1 h
    refine V_aload_n rfl dX11_leastOnwards_4 rfl rfl ?_
    refine V_iload_n rfl dX11_leastOnwards_5 rfl rfl ?_
    refine V_iconst (v := 0) rfl dX11_leastOnwards_6 kc_0 ?_
    replace h := cl_e h
    obtain ⟨w2, M3, hc4, h⟩ := h
    refine V_ii (As := [.int _, .int _]) rfl dX11_leastOnwards_7 mf_X11_roadHours ⟨w_1104, w_39⟩ w_1102 (by decide) s0_0 rfl rfl rfl rfl ⟨rfl, rfl⟩ (t_X11_roadHours hc4) ?_
    cases h
    exact V_iret dX11_leastOnwards_10 rfl rfl (Nat.le_refl _) (Nat.le_refl _) qI_ok
-- X11_isOnTour: NeverHalted.isOnTour(III)Z
def f_X11_isOnTour (p1 : Int32) (p2 : Int32) (p3 : Int32) (M : IM) : IR := if ((p1 >>> ((p3 - 1) &&& 31)) &&& 1) = 0 then some (0, M) else cl (f_X11_hoursOver p1 p2 p3 M) fun w2 M3 => rd M3 133 1024 ((p1 * 8) + p2) fun v5 => if w2 = v5 then some (1, M3) else some (0, M3)
set_option maxRecDepth 100000 in
set_option maxHeartbeats 4000000 in
theorem t_X11_isOnTour {g : IG} {a : Nat → Nat} {R : Int32 × IM} {p1 : Int32} {p2 : Int32} {p3 : Int32} {M : IM} (h : f_X11_isOnTour p1 p2 p3 M = some R) : Cn g mX11_isOnTour 3 0 0 (qI S0 a R) [.ref (a 0), .int p1, .int p2, .int p3] a S0 M := by
  refine Cn_of (L := [some (.ref (a 0)), some (.int p1), some (.int p2), some (.int p3)]) mf_X11_isOnTour (cat_r (cat_i (cat_i (cat_i cat_0)))) (Nat.le_of_ble_eq_true rfl) rfl ?_
  unfold f_X11_isOnTour at h
  refine V_iload_n rfl dX11_isOnTour_0 rfl rfl ?_
  refine V_iload_n rfl dX11_isOnTour_1 rfl rfl ?_
  refine V_iconst (v := 1) rfl dX11_isOnTour_2 kc_1 ?_
  refine V_isub rfl dX11_isOnTour_3 ?_
  refine V_ishr rfl dX11_isOnTour_4 ?_
  refine V_iconst (v := 1) rfl dX11_isOnTour_5 kc_1 ?_
  refine V_iand rfl dX11_isOnTour_6 ?_
  refine V_if_eq (t := 35) rfl rfl dX11_isOnTour_7 (fun hc1 => ?_) (fun hc1 => ?_)
  · replace h := ifp hc1 h
    refine V_iconst (v := 0) rfl dX11_isOnTour_35 kc_0 ?_
    cases h
    exact V_iret dX11_isOnTour_36 rfl nz_0 (Nat.le_refl _) (Nat.le_refl _) qI_ok
  · replace h := ifn hc1 h
    refine V_aload_n rfl dX11_isOnTour_10 rfl rfl ?_
    refine V_iload_n rfl dX11_isOnTour_11 rfl rfl ?_
    refine V_iload_n rfl dX11_isOnTour_12 rfl rfl ?_
    refine V_iload_n rfl dX11_isOnTour_13 rfl rfl ?_
    replace h := cl_e h
    obtain ⟨w2, M3, hc4, h⟩ := h
    refine V_ii (As := [.int _, .int _, .int _]) rfl dX11_isOnTour_14 mf_X11_hoursOver ⟨w_1109, w_40⟩ w_1107 (by decide) s0_0 rfl rfl rfl rfl ⟨rfl, rfl⟩ (t_X11_hoursOver hc4) ?_
    refine V_aload_n rfl dX11_isOnTour_17 rfl rfl ?_
    refine V_getr (k0 := 15) rfl dX11_isOnTour_18 s0_0 icX11 (by decide) rfl w_538 ?_
    refine V_iload_n rfl dX11_isOnTour_21 rfl rfl ?_
    refine V_bipush (v := 8) rfl dX11_isOnTour_22 kb_8 ?_
    refine V_imul rfl dX11_isOnTour_24 ?_
    refine V_iload_n rfl dX11_isOnTour_25 rfl rfl ?_
    refine V_iadd rfl dX11_isOnTour_26 ?_
    replace h := rd_e h
    obtain ⟨hb6, h⟩ := h
    refine V_iald rfl dX11_isOnTour_27 s0_133 hb6 ?_
    refine V_icmp_ne (t := 35) rfl rfl dX11_isOnTour_28 (fun hc7 => ?_) (fun hc7 => ?_)
    · replace h := ifn hc7 h
      refine V_iconst (v := 0) rfl dX11_isOnTour_35 kc_0 ?_
      cases h
      exact V_iret dX11_isOnTour_36 rfl nz_0 (Nat.le_refl _) (Nat.le_refl _) qI_ok
    · replace h := ifp hc7 h
      refine V_iconst (v := 1) rfl dX11_isOnTour_31 kc_1 ?_
      refine V_goto (t := 36) rfl dX11_isOnTour_32 ?_
      cases h
      exact V_iret dX11_isOnTour_36 rfl nz_1 (Nat.le_refl _) (Nat.le_refl _) qI_ok
-- X11_onTour: NeverHalted.onTour(II)I
def f_X11_onTour_42 (r8 : Int32 → Int32 → Int32 → Int32 → IM → IR) (x2 : Int32) (x3 : Int32) (x5 : Int32) (x6 : Int32) (M : IM) : IR := lt (x3 &&& (((1 : Int32) <<< ((x6 - 1) &&& 31)) ^^^ (-1))) fun v8 => lt (x5 + 1) fun v9 => r8 x2 v8 x6 v9 M
set_option maxRecDepth 100000 in
set_option maxHeartbeats 4000000 in
theorem t_X11_onTour_42 {g : IG} {a : Nat → Nat} {R : Int32 × IM} {r8 : Int32 → Int32 → Int32 → Int32 → IM → IR} {x2 : Int32} {x3 : Int32} {x5 : Int32} {x6 : Int32} {M : IM} (hr8 : ∀ (x2 : Int32) (x3 : Int32) (x4 : Int32) (x5 : Int32) (M : IM), r8 x2 x3 x4 x5 M = some R → V g mX11_onTour 4 0 0 (qI S0 a R) 8 [some (.ref (a 0)), none, some (.int x2), some (.int x3), some (.int x4), some (.int x5), none] [] a S0 M 0 0) (h : f_X11_onTour_42 r8 x2 x3 x5 x6 M = some R) : V g mX11_onTour 4 0 0 (qI S0 a R) 42 [some (.ref (a 0)), none, some (.int x2), some (.int x3), none, some (.int x5), some (.int x6)] [] a S0 M 0 0 := by
  unfold f_X11_onTour_42 at h
  refine V_iload_n rfl dX11_onTour_42 rfl rfl ?_
  refine V_iconst (v := 1) rfl dX11_onTour_43 kc_1 ?_
  refine V_iload rfl dX11_onTour_44 rfl ?_
  refine V_iconst (v := 1) rfl dX11_onTour_46 kc_1 ?_
  refine V_isub rfl dX11_onTour_47 ?_
  refine V_ishl rfl dX11_onTour_48 ?_
  refine V_iconst (v := (-1)) rfl dX11_onTour_49 kc_m1 ?_
  refine V_ixor rfl dX11_onTour_50 ?_
  refine V_iand rfl dX11_onTour_51 ?_
  replace h := lt_e h
  refine V_istore_n (L' := [_, _, _, _, _, _, _]) rfl rfl dX11_onTour_52 (by decide) rfl ?_
  refine V_iload rfl dX11_onTour_53 rfl ?_
  refine V_istore (L' := [_, _, _, _, _, _, _]) rfl dX11_onTour_55 (by decide) rfl ?_
  replace h := lt_e h
  refine V_inc (L' := [_, _, _, _, _, _, _]) rfl dX11_onTour_57 rfl kc_1 (by decide) rfl ?_
  refine V_goto (t := 8) rfl dX11_onTour_60 ?_
  exact V_sub (le_s (le_n (le_s (le_s (le_s (le_s (le_n le_0))))))) (hr8 _ _ _ _ _ h)
def f_X11_onTour_17_b (r8 : Int32 → Int32 → Int32 → Int32 → IM → IR) (r17 : Int32 → Int32 → Int32 → Int32 → Int32 → IM → IR) (x2 : Int32) (x3 : Int32) (x4 : Int32) (x5 : Int32) (x6 : Int32) (M : IM) : IR := if 7 ≤ x6 then f_X11_onTour_42 r8 x2 x3 x5 x6 M else cl (f_X11_isOnTour x3 x4 x6 M) fun w3 M4 => if w3 = 0 then lt (x6 + 1) fun v7 => r17 x2 x3 x4 x5 v7 M4 else f_X11_onTour_42 r8 x2 x3 x5 x6 M4
def f_X11_onTour_17 (r8 : Int32 → Int32 → Int32 → Int32 → IM → IR) (n : Nat) : Int32 → Int32 → Int32 → Int32 → Int32 → IM → IR := itr (fun _ _ _ _ _ _ => none) (f_X11_onTour_17_b r8) n
set_option maxRecDepth 100000 in
set_option maxHeartbeats 4000000 in
theorem t_X11_onTour_17 {g : IG} {a : Nat → Nat} {R : Int32 × IM} {r8 : Int32 → Int32 → Int32 → Int32 → IM → IR} (hr8 : ∀ (x2 : Int32) (x3 : Int32) (x4 : Int32) (x5 : Int32) (M : IM), r8 x2 x3 x4 x5 M = some R → V g mX11_onTour 4 0 0 (qI S0 a R) 8 [some (.ref (a 0)), none, some (.int x2), some (.int x3), some (.int x4), some (.int x5), none] [] a S0 M 0 0) (n : Nat) : ∀ (x2 : Int32) (x3 : Int32) (x4 : Int32) (x5 : Int32) (x6 : Int32) (M : IM), f_X11_onTour_17 r8 n x2 x3 x4 x5 x6 M = some R → V g mX11_onTour 4 0 0 (qI S0 a R) 17 [some (.ref (a 0)), none, some (.int x2), some (.int x3), some (.int x4), some (.int x5), some (.int x6)] [] a S0 M 0 0 := by
  induction n with
  | zero => intro x2 x3 x4 x5 x6 M h; exact absurd h (fun z => by cases z)
  | succ n hr17 =>
    intro x2 x3 x4 x5 x6 M h
    replace h : f_X11_onTour_17_b r8 (f_X11_onTour_17 r8 n) x2 x3 x4 x5 x6 M = some R := h
    unfold f_X11_onTour_17_b at h
    refine V_iload rfl dX11_onTour_17 rfl ?_
    refine V_bipush (v := 7) rfl dX11_onTour_19 kb_7 ?_
    refine V_icmp_ge (t := 42) rfl rfl dX11_onTour_21 (fun hc2 => ?_) (fun hc2 => ?_)
    · replace h := ifp hc2 h
      exact V_sub (le_s (le_n (le_s (le_s (le_n (le_s (le_s le_0))))))) (t_X11_onTour_42 hr8 h)
    · replace h := ifn hc2 h
      refine V_aload_n rfl dX11_onTour_24 rfl rfl ?_
      refine V_iload_n rfl dX11_onTour_25 rfl rfl ?_
      refine V_iload rfl dX11_onTour_26 rfl ?_
      refine V_iload rfl dX11_onTour_28 rfl ?_
      replace h := cl_e h
      obtain ⟨w3, M4, hc5, h⟩ := h
      refine V_ii (As := [.int _, .int _, .int _]) rfl dX11_onTour_30 mf_X11_isOnTour ⟨w_1117, w_42⟩ w_1115 (by decide) s0_0 rfl rfl rfl rfl ⟨rfl, rfl⟩ (t_X11_isOnTour hc5) ?_
      refine V_if_ne (t := 42) rfl rfl dX11_onTour_33 (fun hc6 => ?_) (fun hc6 => ?_)
      · replace h := ifn hc6 h
        exact V_sub (le_s (le_n (le_s (le_s (le_n (le_s (le_s le_0))))))) (t_X11_onTour_42 hr8 h)
      · replace h := ifp hc6 h
        replace h := lt_e h
        refine V_inc (L' := [_, _, _, _, _, _, _]) rfl dX11_onTour_36 rfl kc_1 (by decide) rfl ?_
        refine V_goto (t := 17) rfl dX11_onTour_39 ?_
        exact V_sub (le_s (le_n (le_s (le_s (le_s (le_s (le_s le_0))))))) (hr17 _ _ _ _ _ _ h)
def f_X11_onTour_8_b (r8 : Int32 → Int32 → Int32 → Int32 → IM → IR) (x2 : Int32) (x3 : Int32) (x4 : Int32) (x5 : Int32) (M : IM) : IR := if x2 ≤ x5 then some (x4, M) else f_X11_onTour_17 r8 BG x2 x3 x4 x5 1 M
def f_X11_onTour_8 (n : Nat) : Int32 → Int32 → Int32 → Int32 → IM → IR := itr (fun _ _ _ _ _ => none) (f_X11_onTour_8_b) n
set_option maxRecDepth 100000 in
set_option maxHeartbeats 4000000 in
theorem t_X11_onTour_8 {g : IG} {a : Nat → Nat} {R : Int32 × IM} (n : Nat) : ∀ (x2 : Int32) (x3 : Int32) (x4 : Int32) (x5 : Int32) (M : IM), f_X11_onTour_8 n x2 x3 x4 x5 M = some R → V g mX11_onTour 4 0 0 (qI S0 a R) 8 [some (.ref (a 0)), none, some (.int x2), some (.int x3), some (.int x4), some (.int x5), none] [] a S0 M 0 0 := by
  induction n with
  | zero => intro x2 x3 x4 x5 M h; exact absurd h (fun z => by cases z)
  | succ n hr8 =>
    intro x2 x3 x4 x5 M h
    replace h : f_X11_onTour_8_b (f_X11_onTour_8 n) x2 x3 x4 x5 M = some R := h
    unfold f_X11_onTour_8_b at h
    refine V_iload rfl dX11_onTour_8 rfl ?_
    refine V_iload_n rfl dX11_onTour_10 rfl rfl ?_
    refine V_icmp_ge (t := 63) rfl rfl dX11_onTour_11 (fun hc1 => ?_) (fun hc1 => ?_)
    · replace h := ifp hc1 h
      refine V_iload rfl dX11_onTour_63 rfl ?_
      cases h
      exact V_iret dX11_onTour_65 rfl rfl (Nat.le_refl _) (Nat.le_refl _) qI_ok
    · replace h := ifn hc1 h
      refine V_iconst (v := 1) rfl dX11_onTour_14 kc_1 ?_
      refine V_istore (L' := [_, _, _, _, _, _, _]) rfl dX11_onTour_15 (by decide) rfl ?_
      exact V_sub (le_s (le_n (le_s (le_s (le_s (le_s (le_s le_0))))))) (t_X11_onTour_17 hr8 BG _ _ _ _ _ _ h)
def f_X11_onTour (p1 : Int32) (p2 : Int32) (M : IM) : IR := f_X11_onTour_8 BG p2 p1 0 0 M
set_option maxRecDepth 100000 in
set_option maxHeartbeats 4000000 in
theorem t_X11_onTour {g : IG} {a : Nat → Nat} {R : Int32 × IM} {p1 : Int32} {p2 : Int32} {M : IM} (h : f_X11_onTour p1 p2 M = some R) : Cn g mX11_onTour 4 0 0 (qI S0 a R) [.ref (a 0), .int p1, .int p2] a S0 M := by
  refine Cn_of (L := [some (.ref (a 0)), some (.int p1), some (.int p2), none, none, none, none]) mf_X11_onTour (cat_r (cat_i (cat_i cat_0))) (Nat.le_of_ble_eq_true rfl) rfl ?_
  unfold f_X11_onTour at h
  refine V_iload_n rfl dX11_onTour_0 rfl rfl ?_
  refine V_istore_n (L' := [_, _, _, _, _, _, _]) rfl rfl dX11_onTour_1 (by decide) rfl ?_
  refine V_iconst (v := 0) rfl dX11_onTour_2 kc_0 ?_
  refine V_istore (L' := [_, _, _, _, _, _, _]) rfl dX11_onTour_3 (by decide) rfl ?_
  refine V_iconst (v := 0) rfl dX11_onTour_5 kc_0 ?_
  refine V_istore (L' := [_, _, _, _, _, _, _]) rfl dX11_onTour_6 (by decide) rfl ?_
  exact V_sub (le_s (le_n (le_s (le_s (le_s (le_s (le_n le_0))))))) (t_X11_onTour_8 BG _ _ _ _ _ h)
-- X11_tour: NeverHalted.tour(II)I
def f_X11_tour_54_b (r44 : Int32 → Int32 → Int32 → Int32 → Int32 → IM → IR) (r54 : Int32 → Int32 → Int32 → Int32 → Int32 → Int32 → IM → IR) (x1 : Int32) (x2 : Int32) (x3 : Int32) (x4 : Int32) (x5 : Int32) (x6 : Int32) (M : IM) : IR := if x1 ≤ x6 then lt (x5 + 1) fun v21 => r44 x1 x2 x3 x4 v21 M else cl (f_X11_leastOnwards x5 x6 M) fun w22 M23 => wr M23 133 1024 ((x5 * 8) + x6) w22 fun M25 => lt (x6 + 1) fun v27 => r54 x1 x2 x3 x4 x5 v27 M25
def f_X11_tour_54 (r44 : Int32 → Int32 → Int32 → Int32 → Int32 → IM → IR) (n : Nat) : Int32 → Int32 → Int32 → Int32 → Int32 → Int32 → IM → IR := itr (fun _ _ _ _ _ _ _ => none) (f_X11_tour_54_b r44) n
set_option maxRecDepth 100000 in
set_option maxHeartbeats 4000000 in
theorem t_X11_tour_54 {g : IG} {a : Nat → Nat} {R : Int32 × IM} {r44 : Int32 → Int32 → Int32 → Int32 → Int32 → IM → IR} (hr44 : ∀ (x1 : Int32) (x2 : Int32) (x3 : Int32) (x4 : Int32) (x5 : Int32) (M : IM), r44 x1 x2 x3 x4 x5 M = some R → V g mX11_tour 5 0 0 (qI S0 a R) 44 [some (.ref (a 0)), some (.int x1), some (.int x2), some (.int x3), some (.int x4), some (.int x5), none] [] a S0 M 0 0) (n : Nat) : ∀ (x1 : Int32) (x2 : Int32) (x3 : Int32) (x4 : Int32) (x5 : Int32) (x6 : Int32) (M : IM), f_X11_tour_54 r44 n x1 x2 x3 x4 x5 x6 M = some R → V g mX11_tour 5 0 0 (qI S0 a R) 54 [some (.ref (a 0)), some (.int x1), some (.int x2), some (.int x3), some (.int x4), some (.int x5), some (.int x6)] [] a S0 M 0 0 := by
  induction n with
  | zero => intro x1 x2 x3 x4 x5 x6 M h; exact absurd h (fun z => by cases z)
  | succ n hr54 =>
    intro x1 x2 x3 x4 x5 x6 M h
    replace h : f_X11_tour_54_b r44 (f_X11_tour_54 r44 n) x1 x2 x3 x4 x5 x6 M = some R := h
    unfold f_X11_tour_54_b at h
    refine V_iload rfl dX11_tour_54 rfl ?_
    refine V_iload_n rfl dX11_tour_56 rfl rfl ?_
    refine V_icmp_ge (t := 87) rfl rfl dX11_tour_57 (fun hc20 => ?_) (fun hc20 => ?_)
    · replace h := ifp hc20 h
      replace h := lt_e h
      refine V_inc (L' := [_, _, _, _, _, _, _]) rfl dX11_tour_87 rfl kc_1 (by decide) rfl ?_
      refine V_goto (t := 44) rfl dX11_tour_90 ?_
      exact V_sub (le_s (le_s (le_s (le_s (le_s (le_s (le_n le_0))))))) (hr44 _ _ _ _ _ _ h)
    · replace h := ifn hc20 h
      refine V_aload_n rfl dX11_tour_60 rfl rfl ?_
      refine V_getr (k0 := 15) rfl dX11_tour_61 s0_0 icX11 (by decide) rfl w_538 ?_
      refine V_iload rfl dX11_tour_64 rfl ?_
      refine V_bipush (v := 8) rfl dX11_tour_66 kb_8 ?_
      refine V_imul rfl dX11_tour_68 ?_
      refine V_iload rfl dX11_tour_69 rfl ?_
      refine V_iadd rfl dX11_tour_71 ?_
      refine V_aload_n rfl dX11_tour_72 rfl rfl ?_
      refine V_iload rfl dX11_tour_73 rfl ?_
      refine V_iload rfl dX11_tour_75 rfl ?_
      replace h := cl_e h
      obtain ⟨w22, M23, hc24, h⟩ := h
      refine V_ii (As := [.int _, .int _]) rfl dX11_tour_77 mf_X11_leastOnwards ⟨w_1100, w_38⟩ w_1098 (by decide) s0_0 rfl rfl rfl rfl ⟨rfl, rfl⟩ (t_X11_leastOnwards hc24) ?_
      replace h := wr_e h
      obtain ⟨hb26, h⟩ := h
      refine V_iast rfl dX11_tour_80 s0_133 hb26 ?_
      replace h := lt_e h
      refine V_inc (L' := [_, _, _, _, _, _, _]) rfl dX11_tour_81 rfl kc_1 (by decide) rfl ?_
      refine V_goto (t := 54) rfl dX11_tour_84 ?_
      exact V_sub (le_s (le_s (le_s (le_s (le_s (le_s (le_s le_0))))))) (hr54 _ _ _ _ _ _ _ h)
def f_X11_tour_44_b (r44 : Int32 → Int32 → Int32 → Int32 → Int32 → IM → IR) (x1 : Int32) (x2 : Int32) (x3 : Int32) (x4 : Int32) (x5 : Int32) (M : IM) : IR := if x4 < x5 then rd M 133 1024 (x4 * 8) fun v13 => if v13 < 1000000 then if x2 = 0 then some (v13, M) else cl (f_X11_onTour x4 x3 M) fun w17 M18 => some (w17, M18) else some ((-1), M) else f_X11_tour_54 r44 BG x1 x2 x3 x4 x5 0 M
def f_X11_tour_44 (n : Nat) : Int32 → Int32 → Int32 → Int32 → Int32 → IM → IR := itr (fun _ _ _ _ _ _ => none) (f_X11_tour_44_b) n
set_option maxRecDepth 100000 in
set_option maxHeartbeats 4000000 in
theorem t_X11_tour_44 {g : IG} {a : Nat → Nat} {R : Int32 × IM} (n : Nat) : ∀ (x1 : Int32) (x2 : Int32) (x3 : Int32) (x4 : Int32) (x5 : Int32) (M : IM), f_X11_tour_44 n x1 x2 x3 x4 x5 M = some R → V g mX11_tour 5 0 0 (qI S0 a R) 44 [some (.ref (a 0)), some (.int x1), some (.int x2), some (.int x3), some (.int x4), some (.int x5), none] [] a S0 M 0 0 := by
  induction n with
  | zero => intro x1 x2 x3 x4 x5 M h; exact absurd h (fun z => by cases z)
  | succ n hr44 =>
    intro x1 x2 x3 x4 x5 M h
    replace h : f_X11_tour_44_b (f_X11_tour_44 n) x1 x2 x3 x4 x5 M = some R := h
    unfold f_X11_tour_44_b at h
    refine V_iload rfl dX11_tour_44 rfl ?_
    refine V_iload rfl dX11_tour_46 rfl ?_
    refine V_icmp_gt (t := 93) rfl rfl dX11_tour_48 (fun hc12 => ?_) (fun hc12 => ?_)
    · replace h := ifp hc12 h
      refine V_aload_n rfl dX11_tour_93 rfl rfl ?_
      refine V_getr (k0 := 15) rfl dX11_tour_94 s0_0 icX11 (by decide) rfl w_538 ?_
      refine V_iload rfl dX11_tour_97 rfl ?_
      refine V_bipush (v := 8) rfl dX11_tour_99 kb_8 ?_
      refine V_imul rfl dX11_tour_101 ?_
      replace h := rd_e h
      obtain ⟨hb14, h⟩ := h
      refine V_iald rfl dX11_tour_102 s0_133 hb14 ?_
      refine V_istore (L' := [_, _, _, _, _, _, _]) rfl dX11_tour_103 (by decide) rfl ?_
      refine V_iload rfl dX11_tour_105 rfl ?_
      refine V_ldcw (v := 1000000) rfl dX11_tour_107 w_1106 ?_
      refine V_icmp_lt (t := 115) rfl rfl dX11_tour_110 (fun hc15 => ?_) (fun hc15 => ?_)
      · replace h := ifp hc15 h
        refine V_iload_n rfl dX11_tour_115 rfl rfl ?_
        refine V_if_ne (t := 124) rfl rfl dX11_tour_116 (fun hc16 => ?_) (fun hc16 => ?_)
        · replace h := ifn hc16 h
          refine V_aload_n rfl dX11_tour_124 rfl rfl ?_
          refine V_iload rfl dX11_tour_125 rfl ?_
          refine V_iload_n rfl dX11_tour_127 rfl rfl ?_
          replace h := cl_e h
          obtain ⟨w17, M18, hc19, h⟩ := h
          refine V_ii (As := [.int _, .int _]) rfl dX11_tour_128 mf_X11_onTour ⟨w_1113, w_41⟩ w_1111 (by decide) s0_0 rfl rfl rfl rfl ⟨rfl, rfl⟩ (t_X11_onTour hc19) ?_
          cases h
          exact V_iret dX11_tour_131 rfl rfl (Nat.le_refl _) (Nat.le_refl _) qI_ok
        · replace h := ifp hc16 h
          refine V_iload rfl dX11_tour_119 rfl ?_
          refine V_goto (t := 131) rfl dX11_tour_121 ?_
          cases h
          exact V_iret dX11_tour_131 rfl rfl (Nat.le_refl _) (Nat.le_refl _) qI_ok
      · replace h := ifn hc15 h
        refine V_iconst (v := (-1)) rfl dX11_tour_113 kc_m1 ?_
        cases h
        exact V_iret dX11_tour_114 rfl rfl (Nat.le_refl _) (Nat.le_refl _) qI_ok
    · replace h := ifn hc12 h
      refine V_iconst (v := 0) rfl dX11_tour_51 kc_0 ?_
      refine V_istore (L' := [_, _, _, _, _, _, _]) rfl dX11_tour_52 (by decide) rfl ?_
      exact V_sub (le_s (le_s (le_s (le_s (le_s (le_s (le_s le_0))))))) (t_X11_tour_54 hr44 BG _ _ _ _ _ _ _ h)
def f_X11_tour_32 (x1 : Int32) (x2 : Int32) (x3 : Int32) (M : IM) : IR := lt (((1 : Int32) <<< ((x1 - 1) &&& 31)) - 1) fun v11 => f_X11_tour_44 BG x1 x2 x3 v11 0 M
set_option maxRecDepth 100000 in
set_option maxHeartbeats 4000000 in
theorem t_X11_tour_32 {g : IG} {a : Nat → Nat} {R : Int32 × IM} {x1 : Int32} {x2 : Int32} {x3 : Int32} {M : IM} (h : f_X11_tour_32 x1 x2 x3 M = some R) : V g mX11_tour 5 0 0 (qI S0 a R) 32 [some (.ref (a 0)), some (.int x1), some (.int x2), some (.int x3), none, none, none] [] a S0 M 0 0 := by
  unfold f_X11_tour_32 at h
  refine V_iconst (v := 1) rfl dX11_tour_32 kc_1 ?_
  refine V_iload_n rfl dX11_tour_33 rfl rfl ?_
  refine V_iconst (v := 1) rfl dX11_tour_34 kc_1 ?_
  refine V_isub rfl dX11_tour_35 ?_
  refine V_ishl rfl dX11_tour_36 ?_
  refine V_iconst (v := 1) rfl dX11_tour_37 kc_1 ?_
  refine V_isub rfl dX11_tour_38 ?_
  replace h := lt_e h
  refine V_istore (L' := [_, _, _, _, _, _, _]) rfl dX11_tour_39 (by decide) rfl ?_
  refine V_iconst (v := 0) rfl dX11_tour_41 kc_0 ?_
  refine V_istore (L' := [_, _, _, _, _, _, _]) rfl dX11_tour_42 (by decide) rfl ?_
  exact V_sub (le_s (le_s (le_s (le_s (le_s (le_s (le_n le_0))))))) (t_X11_tour_44 BG _ _ _ _ _ _ h)
def f_X11_tour (p1 : Int32) (p2 : Int32) (M : IM) : IR := lt (p2 - 10) fun v1 => cl (f_X11_within p1 2 8 M) fun w2 M3 => if w2 = 0 then some ((-1), M3) else if p2 = 0 then f_X11_tour_32 p1 p2 v1 M3 else cl (f_X11_within v1 0 (p1 - 1) M3) fun w7 M8 => if w7 = 0 then some ((-1), M8) else f_X11_tour_32 p1 p2 v1 M8
set_option maxRecDepth 100000 in
set_option maxHeartbeats 4000000 in
theorem t_X11_tour {g : IG} {a : Nat → Nat} {R : Int32 × IM} {p1 : Int32} {p2 : Int32} {M : IM} (h : f_X11_tour p1 p2 M = some R) : Cn g mX11_tour 5 0 0 (qI S0 a R) [.ref (a 0), .int p1, .int p2] a S0 M := by
  refine Cn_of (L := [some (.ref (a 0)), some (.int p1), some (.int p2), none, none, none, none]) mf_X11_tour (cat_r (cat_i (cat_i cat_0))) (Nat.le_of_ble_eq_true rfl) rfl ?_
  unfold f_X11_tour at h
  refine V_iload_n rfl dX11_tour_0 rfl rfl ?_
  refine V_bipush (v := 10) rfl dX11_tour_1 kb_10 ?_
  refine V_isub rfl dX11_tour_3 ?_
  replace h := lt_e h
  refine V_istore_n (L' := [_, _, _, _, _, _, _]) rfl rfl dX11_tour_4 (by decide) rfl ?_
  refine V_iload_n rfl dX11_tour_5 rfl rfl ?_
  refine V_iconst (v := 2) rfl dX11_tour_6 kc_2 ?_
  refine V_bipush (v := 8) rfl dX11_tour_7 kb_8 ?_
  replace h := cl_e h
  obtain ⟨w2, M3, hc4, h⟩ := h
  refine V_si (As := [.int _, .int _, .int _]) rfl dX11_tour_9 mf_X11_within w_594 w_593 (by decide) rfl rfl rfl ⟨rfl, rfl⟩ (t_X11_within hc4) ?_
  refine V_if_eq (t := 30) rfl rfl dX11_tour_12 (fun hc5 => ?_) (fun hc5 => ?_)
  · replace h := ifp hc5 h
    refine V_iconst (v := (-1)) rfl dX11_tour_30 kc_m1 ?_
    cases h
    exact V_iret dX11_tour_31 rfl rfl (Nat.le_refl _) (Nat.le_refl _) qI_ok
  · replace h := ifn hc5 h
    refine V_iload_n rfl dX11_tour_15 rfl rfl ?_
    refine V_if_eq (t := 32) rfl rfl dX11_tour_16 (fun hc6 => ?_) (fun hc6 => ?_)
    · replace h := ifp hc6 h
      exact V_sub (le_s (le_s (le_s (le_s (le_n (le_n (le_n le_0))))))) (t_X11_tour_32 h)
    · replace h := ifn hc6 h
      refine V_iload_n rfl dX11_tour_19 rfl rfl ?_
      refine V_iconst (v := 0) rfl dX11_tour_20 kc_0 ?_
      refine V_iload_n rfl dX11_tour_21 rfl rfl ?_
      refine V_iconst (v := 1) rfl dX11_tour_22 kc_1 ?_
      refine V_isub rfl dX11_tour_23 ?_
      replace h := cl_e h
      obtain ⟨w7, M8, hc9, h⟩ := h
      refine V_si (As := [.int _, .int _, .int _]) rfl dX11_tour_24 mf_X11_within w_594 w_593 (by decide) rfl rfl rfl ⟨rfl, rfl⟩ (t_X11_within hc9) ?_
      refine V_if_ne (t := 32) rfl rfl dX11_tour_27 (fun hc10 => ?_) (fun hc10 => ?_)
      · replace h := ifn hc10 h
        exact V_sub (le_s (le_s (le_s (le_s (le_n (le_n (le_n le_0))))))) (t_X11_tour_32 h)
      · replace h := ifp hc10 h
        refine V_iconst (v := (-1)) rfl dX11_tour_30 kc_m1 ?_
        cases h
        exact V_iret dX11_tour_31 rfl rfl (Nat.le_refl _) (Nat.le_refl _) qI_ok
-- J9_floorMod_7cf53: java/lang/Math.floorMod(II)I
def f_J9_floorMod_7cf53 (p0 : Int32) (p1 : Int32) (M : IM) : IR := dv p1 <| lt (p0 - p0 / p1 * p1) fun v2 => if 0 ≤ (p0 ^^^ p1) then some (v2, M) else if v2 = 0 then some (v2, M) else some ((v2 + p1), M)
set_option maxRecDepth 100000 in
set_option maxHeartbeats 4000000 in
theorem t_J9_floorMod_7cf53 {g : IG} {a : Nat → Nat} {R : Int32 × IM} {p0 : Int32} {p1 : Int32} {M : IM} (h : f_J9_floorMod_7cf53 p0 p1 M = some R) : Cn g mJ9_floorMod_7cf53 1 0 0 (qI S0 a R) [.int p0, .int p1] a S0 M := by
  refine Cn_of (L := [some (.int p0), some (.int p1), none]) mf_J9_floorMod_7cf53 (cat_i (cat_i cat_0)) (Nat.le_of_ble_eq_true rfl) rfl ?_
  unfold f_J9_floorMod_7cf53 at h
  refine V_iload_n rfl dJ9_floorMod_7cf53_0 rfl rfl ?_
  refine V_iload_n rfl dJ9_floorMod_7cf53_1 rfl rfl ?_
  replace h := dv_e h
  obtain ⟨hz1, h⟩ := h
  refine V_irem rfl dJ9_floorMod_7cf53_2 hz1 ?_
  replace h := lt_e h
  refine V_istore_n (L' := [_, _, _]) rfl rfl dJ9_floorMod_7cf53_3 (by decide) rfl ?_
  refine V_iload_n rfl dJ9_floorMod_7cf53_4 rfl rfl ?_
  refine V_iload_n rfl dJ9_floorMod_7cf53_5 rfl rfl ?_
  refine V_ixor rfl dJ9_floorMod_7cf53_6 ?_
  refine V_if_ge (t := 18) rfl rfl dJ9_floorMod_7cf53_7 (fun hc3 => ?_) (fun hc3 => ?_)
  · replace h := ifp hc3 h
    refine V_iload_n rfl dJ9_floorMod_7cf53_18 rfl rfl ?_
    cases h
    exact V_iret dJ9_floorMod_7cf53_19 rfl rfl (Nat.le_refl _) (Nat.le_refl _) qI_ok
  · replace h := ifn hc3 h
    refine V_iload_n rfl dJ9_floorMod_7cf53_10 rfl rfl ?_
    refine V_if_eq (t := 18) rfl rfl dJ9_floorMod_7cf53_11 (fun hc4 => ?_) (fun hc4 => ?_)
    · replace h := ifp hc4 h
      refine V_iload_n rfl dJ9_floorMod_7cf53_18 rfl rfl ?_
      cases h
      exact V_iret dJ9_floorMod_7cf53_19 rfl rfl (Nat.le_refl _) (Nat.le_refl _) qI_ok
    · replace h := ifn hc4 h
      refine V_iload_n rfl dJ9_floorMod_7cf53_14 rfl rfl ?_
      refine V_iload_n rfl dJ9_floorMod_7cf53_15 rfl rfl ?_
      refine V_iadd rfl dJ9_floorMod_7cf53_16 ?_
      cases h
      exact V_iret dJ9_floorMod_7cf53_17 rfl rfl (Nat.le_refl _) (Nat.le_refl _) qI_ok
-- X11_meets: NeverHalted.meets(III)I
def f_X11_meets_84_b (r84 : Int32 → Int32 → Int32 → Int32 → Int32 → IM → IR) (x2 : Int32) (x3 : Int32) (x5 : Int32) (x6 : Int32) (x7 : Int32) (M : IM) : IR := if x2 ≤ x7 then some ((-1), M) else lt (x6 + (x7 * x5)) fun v23 => dv x2 <| if (v23 - v23 / x2 * x2) = x3 then some (v23, M) else lt (x7 + 1) fun v26 => r84 x2 x3 x5 x6 v26 M
def f_X11_meets_84 (n : Nat) : Int32 → Int32 → Int32 → Int32 → Int32 → IM → IR := itr (fun _ _ _ _ _ _ => none) (f_X11_meets_84_b) n
set_option maxRecDepth 100000 in
set_option maxHeartbeats 4000000 in
theorem t_X11_meets_84 {g : IG} {a : Nat → Nat} {R : Int32 × IM} (n : Nat) : ∀ (x2 : Int32) (x3 : Int32) (x5 : Int32) (x6 : Int32) (x7 : Int32) (M : IM), f_X11_meets_84 n x2 x3 x5 x6 x7 M = some R → V g mX11_meets 3 0 0 (qI S0 a R) 84 [none, none, some (.int x2), some (.int x3), none, some (.int x5), some (.int x6), some (.int x7), none] [] a S0 M 0 0 := by
  induction n with
  | zero => intro x2 x3 x5 x6 x7 M h; exact absurd h (fun z => by cases z)
  | succ n hr84 =>
    intro x2 x3 x5 x6 x7 M h
    replace h : f_X11_meets_84_b (f_X11_meets_84 n) x2 x3 x5 x6 x7 M = some R := h
    unfold f_X11_meets_84_b at h
    refine V_iload rfl dX11_meets_84 rfl ?_
    refine V_iload_n rfl dX11_meets_86 rfl rfl ?_
    refine V_icmp_ge (t := 117) rfl rfl dX11_meets_87 (fun hc22 => ?_) (fun hc22 => ?_)
    · replace h := ifp hc22 h
      refine V_iconst (v := (-1)) rfl dX11_meets_117 kc_m1 ?_
      cases h
      exact V_iret dX11_meets_118 rfl rfl (Nat.le_refl _) (Nat.le_refl _) qI_ok
    · replace h := ifn hc22 h
      refine V_iload rfl dX11_meets_90 rfl ?_
      refine V_iload rfl dX11_meets_92 rfl ?_
      refine V_iload rfl dX11_meets_94 rfl ?_
      refine V_imul rfl dX11_meets_96 ?_
      refine V_iadd rfl dX11_meets_97 ?_
      replace h := lt_e h
      refine V_istore (L' := [_, _, _, _, _, _, _, _, _]) rfl dX11_meets_98 (by decide) rfl ?_
      refine V_iload rfl dX11_meets_100 rfl ?_
      refine V_iload_n rfl dX11_meets_102 rfl rfl ?_
      replace h := dv_e h
      obtain ⟨hz24, h⟩ := h
      refine V_irem rfl dX11_meets_103 hz24 ?_
      refine V_iload_n rfl dX11_meets_104 rfl rfl ?_
      refine V_icmp_ne (t := 111) rfl rfl dX11_meets_105 (fun hc25 => ?_) (fun hc25 => ?_)
      · replace h := ifn hc25 h
        replace h := lt_e h
        refine V_inc (L' := [_, _, _, _, _, _, _, _, _]) rfl dX11_meets_111 rfl kc_1 (by decide) rfl ?_
        refine V_goto (t := 84) rfl dX11_meets_114 ?_
        exact V_sub (le_n (le_n (le_s (le_s (le_n (le_s (le_s (le_s (le_n le_0))))))))) (hr84 _ _ _ _ _ _ h)
      · replace h := ifp hc25 h
        refine V_iload rfl dX11_meets_108 rfl ?_
        cases h
        exact V_iret dX11_meets_110 rfl rfl (Nat.le_refl _) (Nat.le_refl _) qI_ok
def f_X11_meets (p1 : Int32) (p2 : Int32) (p3 : Int32) (M : IM) : IR := cl (f_X7_allHours 20 M) fun w1 M2 => cl (f_X11_within p1 0 (w1 - 1) M2) fun w4 M5 => if w4 = 0 then some ((-1), M5) else cl (f_X11_within p2 1 999 M5) fun w8 M9 => if w8 = 0 then some ((-1), M9) else cl (f_X11_within p3 0 (p2 - 1) M9) fun w12 M13 => if w12 = 0 then some ((-1), M13) else cl (f_X7_hoursTo 20 (M13 1 2) M13) fun w16 M17 => cl (f_J9_floorMod_7cf53 ((p1 - w16) - (M17 1 3)) w1 M17) fun w19 M20 => f_X11_meets_84 BG p2 p3 w1 w19 0 M20
set_option maxRecDepth 100000 in
set_option maxHeartbeats 4000000 in
theorem t_X11_meets {g : IG} {a : Nat → Nat} {R : Int32 × IM} {p1 : Int32} {p2 : Int32} {p3 : Int32} {M : IM} (h : f_X11_meets p1 p2 p3 M = some R) : Cn g mX11_meets 3 0 0 (qI S0 a R) [.ref (a 0), .int p1, .int p2, .int p3] a S0 M := by
  refine Cn_of (L := [some (.ref (a 0)), some (.int p1), some (.int p2), some (.int p3), none, none, none, none, none]) mf_X11_meets (cat_r (cat_i (cat_i (cat_i cat_0)))) (Nat.le_of_ble_eq_true rfl) rfl ?_
  unfold f_X11_meets at h
  refine V_aload_n rfl dX11_meets_0 rfl rfl ?_
  refine V_getr (k0 := 1) rfl dX11_meets_1 s0_0 icX11 (by decide) rfl w_524 ?_
  refine V_getr (k0 := 6) rfl dX11_meets_4 s0_6 icX9 (by decide) rfl w_355 ?_
  refine V_astore (L' := [_, _, _, _, _, _, _, _, _]) rfl dX11_meets_7 (by decide) rfl ?_
  refine V_aload rfl dX11_meets_9 rfl ?_
  replace h := cl_e h
  obtain ⟨w1, M2, hc3, h⟩ := h
  refine V_ii (As := []) rfl dX11_meets_11 mf_X7_allHours ⟨w_996, w_997⟩ w_995 (by decide) s0_20 rfl rfl rfl rfl ⟨rfl, rfl⟩ (t_X7_allHours isRound_at20 hc3) ?_
  refine V_istore (L' := [_, _, _, _, _, _, _, _, _]) rfl dX11_meets_14 (by decide) rfl ?_
  refine V_iload_n rfl dX11_meets_16 rfl rfl ?_
  refine V_iconst (v := 0) rfl dX11_meets_17 kc_0 ?_
  refine V_iload rfl dX11_meets_18 rfl ?_
  refine V_iconst (v := 1) rfl dX11_meets_20 kc_1 ?_
  refine V_isub rfl dX11_meets_21 ?_
  replace h := cl_e h
  obtain ⟨w4, M5, hc6, h⟩ := h
  refine V_si (As := [.int _, .int _, .int _]) rfl dX11_meets_22 mf_X11_within w_594 w_593 (by decide) rfl rfl rfl ⟨rfl, rfl⟩ (t_X11_within hc6) ?_
  refine V_if_eq (t := 50) rfl rfl dX11_meets_25 (fun hc7 => ?_) (fun hc7 => ?_)
  · replace h := ifp hc7 h
    refine V_iconst (v := (-1)) rfl dX11_meets_50 kc_m1 ?_
    cases h
    exact V_iret dX11_meets_51 rfl rfl (Nat.le_refl _) (Nat.le_refl _) qI_ok
  · replace h := ifn hc7 h
    refine V_iload_n rfl dX11_meets_28 rfl rfl ?_
    refine V_iconst (v := 1) rfl dX11_meets_29 kc_1 ?_
    refine V_sipush (v := 999) rfl dX11_meets_30 ks_999 ?_
    replace h := cl_e h
    obtain ⟨w8, M9, hc10, h⟩ := h
    refine V_si (As := [.int _, .int _, .int _]) rfl dX11_meets_33 mf_X11_within w_594 w_593 (by decide) rfl rfl rfl ⟨rfl, rfl⟩ (t_X11_within hc10) ?_
    refine V_if_eq (t := 50) rfl rfl dX11_meets_36 (fun hc11 => ?_) (fun hc11 => ?_)
    · replace h := ifp hc11 h
      refine V_iconst (v := (-1)) rfl dX11_meets_50 kc_m1 ?_
      cases h
      exact V_iret dX11_meets_51 rfl rfl (Nat.le_refl _) (Nat.le_refl _) qI_ok
    · replace h := ifn hc11 h
      refine V_iload_n rfl dX11_meets_39 rfl rfl ?_
      refine V_iconst (v := 0) rfl dX11_meets_40 kc_0 ?_
      refine V_iload_n rfl dX11_meets_41 rfl rfl ?_
      refine V_iconst (v := 1) rfl dX11_meets_42 kc_1 ?_
      refine V_isub rfl dX11_meets_43 ?_
      replace h := cl_e h
      obtain ⟨w12, M13, hc14, h⟩ := h
      refine V_si (As := [.int _, .int _, .int _]) rfl dX11_meets_44 mf_X11_within w_594 w_593 (by decide) rfl rfl rfl ⟨rfl, rfl⟩ (t_X11_within hc14) ?_
      refine V_if_ne (t := 52) rfl rfl dX11_meets_47 (fun hc15 => ?_) (fun hc15 => ?_)
      · replace h := ifn hc15 h
        refine V_iload_n rfl dX11_meets_52 rfl rfl ?_
        refine V_aload rfl dX11_meets_53 rfl ?_
        refine V_aload_n rfl dX11_meets_55 rfl rfl ?_
        refine V_getr (k0 := 0) rfl dX11_meets_56 s0_0 icX11 (by decide) rfl w_523 ?_
        refine V_geti (k0 := 2) rfl dX11_meets_59 s0_1 icX4 (by decide) rfl w_182 ?_
        replace h := cl_e h
        obtain ⟨w16, M17, hc18, h⟩ := h
        refine V_ii (As := [.int _]) rfl dX11_meets_62 mf_X7_hoursTo ⟨w_1000, w_1001⟩ w_1123 (by decide) s0_20 rfl rfl rfl rfl ⟨rfl, rfl⟩ (t_X7_hoursTo isRound_at20 hc18) ?_
        refine V_isub rfl dX11_meets_65 ?_
        refine V_aload_n rfl dX11_meets_66 rfl rfl ?_
        refine V_getr (k0 := 0) rfl dX11_meets_67 s0_0 icX11 (by decide) rfl w_523 ?_
        refine V_geti (k0 := 3) rfl dX11_meets_70 s0_1 icX4 (by decide) rfl w_185 ?_
        refine V_isub rfl dX11_meets_73 ?_
        refine V_iload rfl dX11_meets_74 rfl ?_
        replace h := cl_e h
        obtain ⟨w19, M20, hc21, h⟩ := h
        refine V_si (As := [.int _, .int _]) rfl dX11_meets_76 mf_J9_floorMod_7cf53 w_1125 w_1124 (by decide) rfl rfl rfl ⟨rfl, rfl⟩ (t_J9_floorMod_7cf53 hc21) ?_
        refine V_istore (L' := [_, _, _, _, _, _, _, _, _]) rfl dX11_meets_79 (by decide) rfl ?_
        refine V_iconst (v := 0) rfl dX11_meets_81 kc_0 ?_
        refine V_istore (L' := [_, _, _, _, _, _, _, _, _]) rfl dX11_meets_82 (by decide) rfl ?_
        exact V_sub (le_n (le_n (le_s (le_s (le_n (le_s (le_s (le_s (le_n le_0))))))))) (t_X11_meets_84 BG _ _ _ _ _ _ h)
      · replace h := ifp hc15 h
        refine V_iconst (v := (-1)) rfl dX11_meets_50 kc_m1 ?_
        cases h
        exact V_iret dX11_meets_51 rfl rfl (Nat.le_refl _) (Nat.le_refl _) qI_ok
-- J9_abs_0f7a4: java/lang/Math.abs(I)I
def f_J9_abs_0f7a4 (p0 : Int32) (M : IM) : IR := if 0 ≤ p0 then some (p0, M) else some ((-p0), M)
set_option maxRecDepth 100000 in
set_option maxHeartbeats 4000000 in
theorem t_J9_abs_0f7a4 {g : IG} {a : Nat → Nat} {R : Int32 × IM} {p0 : Int32} {M : IM} (h : f_J9_abs_0f7a4 p0 M = some R) : Cn g mJ9_abs_0f7a4 1 0 0 (qI S0 a R) [.int p0] a S0 M := by
  refine Cn_of (L := [some (.int p0)]) mf_J9_abs_0f7a4 (cat_i cat_0) (Nat.le_of_ble_eq_true rfl) rfl ?_
  unfold f_J9_abs_0f7a4 at h
  refine V_iload_n rfl dJ9_abs_0f7a4_0 rfl rfl ?_
  refine V_if_ge (t := 9) rfl rfl dJ9_abs_0f7a4_1 (fun hc1 => ?_) (fun hc1 => ?_)
  · replace h := ifp hc1 h
    refine V_iload_n rfl dJ9_abs_0f7a4_9 rfl rfl ?_
    cases h
    exact V_iret dJ9_abs_0f7a4_10 rfl rfl (Nat.le_refl _) (Nat.le_refl _) qI_ok
  · replace h := ifn hc1 h
    refine V_iload_n rfl dJ9_abs_0f7a4_4 rfl rfl ?_
    refine V_ineg rfl dJ9_abs_0f7a4_5 ?_
    refine V_goto (t := 10) rfl dJ9_abs_0f7a4_6 ?_
    cases h
    exact V_iret dJ9_abs_0f7a4_10 rfl rfl (Nat.le_refl _) (Nat.le_refl _) qI_ok
-- X11_sees: NeverHalted.sees(III)I
def f_X11_sees_153 (r85 : Int32 → Int32 → Int32 → Int32 → Int32 → Int32 → Int32 → Int32 → IM → IR) (x1 : Int32) (x2 : Int32) (x3 : Int32) (x5 : Int32) (x6 : Int32) (x7 : Int32) (x8 : Int32) (x9 : Int32) (x10 : Int32) (y0 : Int32) (M : IM) : IR := if y0 = 0 then lt (x9 + 1) fun v42 => r85 x1 x2 x3 x5 x6 x7 x8 v42 M else if x8 ≤ x10 then lt (x9 + 1) fun v44 => r85 x1 x2 x3 x5 x6 x7 x8 v44 M else lt (x9 + 1) fun v45 => r85 x1 x2 x3 x5 x6 x9 x10 v45 M
set_option maxRecDepth 100000 in
set_option maxHeartbeats 4000000 in
theorem t_X11_sees_153 {g : IG} {a : Nat → Nat} {R : Int32 × IM} {r85 : Int32 → Int32 → Int32 → Int32 → Int32 → Int32 → Int32 → Int32 → IM → IR} {x1 : Int32} {x2 : Int32} {x3 : Int32} {x5 : Int32} {x6 : Int32} {x7 : Int32} {x8 : Int32} {x9 : Int32} {x10 : Int32} {y0 : Int32} {M : IM} (hr85 : ∀ (x1 : Int32) (x2 : Int32) (x3 : Int32) (x5 : Int32) (x6 : Int32) (x7 : Int32) (x8 : Int32) (x9 : Int32) (M : IM), r85 x1 x2 x3 x5 x6 x7 x8 x9 M = some R → V g mX11_sees 3 0 0 (qI S0 a R) 85 [none, some (.int x1), some (.int x2), some (.int x3), some (.ref (a 20)), some (.int x5), some (.int x6), some (.int x7), some (.int x8), some (.int x9), none, none, none] [] a S0 M 0 0) (h : f_X11_sees_153 r85 x1 x2 x3 x5 x6 x7 x8 x9 x10 y0 M = some R) : V g mX11_sees 3 0 0 (qI S0 a R) 153 [none, some (.int x1), some (.int x2), some (.int x3), some (.ref (a 20)), some (.int x5), some (.int x6), some (.int x7), some (.int x8), some (.int x9), some (.int x10), none, none] [.int y0] a S0 M 0 0 := by
  unfold f_X11_sees_153 at h
  refine V_istore (L' := [_, _, _, _, _, _, _, _, _, _, _, _, _]) rfl dX11_sees_153 (by decide) rfl ?_
  refine V_iload rfl dX11_sees_155 rfl ?_
  refine V_if_eq (t := 175) rfl rfl dX11_sees_157 (fun hc41 => ?_) (fun hc41 => ?_)
  · replace h := ifp hc41 h
    replace h := lt_e h
    refine V_inc (L' := [_, _, _, _, _, _, _, _, _, _, _, _, _]) rfl dX11_sees_175 rfl kc_1 (by decide) rfl ?_
    refine V_goto (t := 85) rfl dX11_sees_178 ?_
    exact V_sub (le_n (le_s (le_s (le_s (le_s (le_s (le_s (le_s (le_s (le_s (le_n (le_n (le_n le_0))))))))))))) (hr85 _ _ _ _ _ _ _ _ _ h)
  · replace h := ifn hc41 h
    refine V_iload rfl dX11_sees_160 rfl ?_
    refine V_iload rfl dX11_sees_162 rfl ?_
    refine V_icmp_ge (t := 175) rfl rfl dX11_sees_164 (fun hc43 => ?_) (fun hc43 => ?_)
    · replace h := ifp hc43 h
      replace h := lt_e h
      refine V_inc (L' := [_, _, _, _, _, _, _, _, _, _, _, _, _]) rfl dX11_sees_175 rfl kc_1 (by decide) rfl ?_
      refine V_goto (t := 85) rfl dX11_sees_178 ?_
      exact V_sub (le_n (le_s (le_s (le_s (le_s (le_s (le_s (le_s (le_s (le_s (le_n (le_n (le_n le_0))))))))))))) (hr85 _ _ _ _ _ _ _ _ _ h)
    · replace h := ifn hc43 h
      refine V_iload rfl dX11_sees_167 rfl ?_
      refine V_istore (L' := [_, _, _, _, _, _, _, _, _, _, _, _, _]) rfl dX11_sees_169 (by decide) rfl ?_
      refine V_iload rfl dX11_sees_171 rfl ?_
      refine V_istore (L' := [_, _, _, _, _, _, _, _, _, _, _, _, _]) rfl dX11_sees_173 (by decide) rfl ?_
      replace h := lt_e h
      refine V_inc (L' := [_, _, _, _, _, _, _, _, _, _, _, _, _]) rfl dX11_sees_175 rfl kc_1 (by decide) rfl ?_
      refine V_goto (t := 85) rfl dX11_sees_178 ?_
      exact V_sub (le_n (le_s (le_s (le_s (le_s (le_s (le_s (le_s (le_s (le_s (le_n (le_n (le_n le_0))))))))))))) (hr85 _ _ _ _ _ _ _ _ _ h)
def f_X11_sees_85_b (r85 : Int32 → Int32 → Int32 → Int32 → Int32 → Int32 → Int32 → Int32 → IM → IR) (x1 : Int32) (x2 : Int32) (x3 : Int32) (x5 : Int32) (x6 : Int32) (x7 : Int32) (x8 : Int32) (x9 : Int32) (M : IM) : IR := if (M 20 0) ≤ x9 then if x3 = 0 then some (x7, M) else some (x8, M) else cl (f_X7_hoursTo 20 x9 M) fun w22 M23 => cl (f_J9_floorMod_7cf53 (w22 - x6) x5 M23) fun w25 M26 => cl (f_X7_hoursTo 20 x9 M26) fun w28 M29 => cl (f_X7_hoursTo 20 x1 M29) fun w31 M32 => cl (f_J9_abs_0f7a4 (w28 - w31) M32) fun w34 M35 => cl (f_J9_min_7cf53 w34 (x5 - w34) M35) fun w37 M38 => if w25 < (x2 * w37) then f_X11_sees_153 r85 x1 x2 x3 x5 x6 x7 x8 x9 w25 0 M38 else f_X11_sees_153 r85 x1 x2 x3 x5 x6 x7 x8 x9 w25 1 M38
def f_X11_sees_85 (n : Nat) : Int32 → Int32 → Int32 → Int32 → Int32 → Int32 → Int32 → Int32 → IM → IR := itr (fun _ _ _ _ _ _ _ _ _ => none) (f_X11_sees_85_b) n
set_option maxRecDepth 100000 in
set_option maxHeartbeats 4000000 in
theorem t_X11_sees_85 {g : IG} {a : Nat → Nat} {R : Int32 × IM} (n : Nat) : ∀ (x1 : Int32) (x2 : Int32) (x3 : Int32) (x5 : Int32) (x6 : Int32) (x7 : Int32) (x8 : Int32) (x9 : Int32) (M : IM), f_X11_sees_85 n x1 x2 x3 x5 x6 x7 x8 x9 M = some R → V g mX11_sees 3 0 0 (qI S0 a R) 85 [none, some (.int x1), some (.int x2), some (.int x3), some (.ref (a 20)), some (.int x5), some (.int x6), some (.int x7), some (.int x8), some (.int x9), none, none, none] [] a S0 M 0 0 := by
  induction n with
  | zero => intro x1 x2 x3 x5 x6 x7 x8 x9 M h; exact absurd h (fun z => by cases z)
  | succ n hr85 =>
    intro x1 x2 x3 x5 x6 x7 x8 x9 M h
    replace h : f_X11_sees_85_b (f_X11_sees_85 n) x1 x2 x3 x5 x6 x7 x8 x9 M = some R := h
    unfold f_X11_sees_85_b at h
    refine V_iload rfl dX11_sees_85 rfl ?_
    refine V_aload rfl dX11_sees_87 rfl ?_
    refine V_geti (k0 := 0) rfl dX11_sees_89 s0_20 icX7 (by decide) rfl w_297 ?_
    refine V_icmp_ge (t := 181) rfl rfl dX11_sees_92 (fun hc20 => ?_) (fun hc20 => ?_)
    · replace h := ifp hc20 h
      refine V_iload_n rfl dX11_sees_181 rfl rfl ?_
      refine V_if_ne (t := 190) rfl rfl dX11_sees_182 (fun hc21 => ?_) (fun hc21 => ?_)
      · replace h := ifn hc21 h
        refine V_iload rfl dX11_sees_190 rfl ?_
        cases h
        exact V_iret dX11_sees_192 rfl rfl (Nat.le_refl _) (Nat.le_refl _) qI_ok
      · replace h := ifp hc21 h
        refine V_iload rfl dX11_sees_185 rfl ?_
        refine V_goto (t := 192) rfl dX11_sees_187 ?_
        cases h
        exact V_iret dX11_sees_192 rfl rfl (Nat.le_refl _) (Nat.le_refl _) qI_ok
    · replace h := ifn hc20 h
      refine V_aload rfl dX11_sees_95 rfl ?_
      refine V_iload rfl dX11_sees_97 rfl ?_
      replace h := cl_e h
      obtain ⟨w22, M23, hc24, h⟩ := h
      refine V_ii (As := [.int _]) rfl dX11_sees_99 mf_X7_hoursTo ⟨w_1000, w_1001⟩ w_1123 (by decide) s0_20 rfl rfl rfl rfl ⟨rfl, rfl⟩ (t_X7_hoursTo isRound_at20 hc24) ?_
      refine V_iload rfl dX11_sees_102 rfl ?_
      refine V_isub rfl dX11_sees_104 ?_
      refine V_iload rfl dX11_sees_105 rfl ?_
      replace h := cl_e h
      obtain ⟨w25, M26, hc27, h⟩ := h
      refine V_si (As := [.int _, .int _]) rfl dX11_sees_107 mf_J9_floorMod_7cf53 w_1125 w_1124 (by decide) rfl rfl rfl ⟨rfl, rfl⟩ (t_J9_floorMod_7cf53 hc27) ?_
      refine V_istore (L' := [_, _, _, _, _, _, _, _, _, _, _, _, _]) rfl dX11_sees_110 (by decide) rfl ?_
      refine V_aload rfl dX11_sees_112 rfl ?_
      refine V_iload rfl dX11_sees_114 rfl ?_
      replace h := cl_e h
      obtain ⟨w28, M29, hc30, h⟩ := h
      refine V_ii (As := [.int _]) rfl dX11_sees_116 mf_X7_hoursTo ⟨w_1000, w_1001⟩ w_1123 (by decide) s0_20 rfl rfl rfl rfl ⟨rfl, rfl⟩ (t_X7_hoursTo isRound_at20 hc30) ?_
      refine V_aload rfl dX11_sees_119 rfl ?_
      refine V_iload_n rfl dX11_sees_121 rfl rfl ?_
      replace h := cl_e h
      obtain ⟨w31, M32, hc33, h⟩ := h
      refine V_ii (As := [.int _]) rfl dX11_sees_122 mf_X7_hoursTo ⟨w_1000, w_1001⟩ w_1123 (by decide) s0_20 rfl rfl rfl rfl ⟨rfl, rfl⟩ (t_X7_hoursTo isRound_at20 hc33) ?_
      refine V_isub rfl dX11_sees_125 ?_
      replace h := cl_e h
      obtain ⟨w34, M35, hc36, h⟩ := h
      refine V_si (As := [.int _]) rfl dX11_sees_126 mf_J9_abs_0f7a4 w_1132 w_1131 (by decide) rfl rfl rfl ⟨rfl, rfl⟩ (t_J9_abs_0f7a4 hc36) ?_
      refine V_istore (L' := [_, _, _, _, _, _, _, _, _, _, _, _, _]) rfl dX11_sees_129 (by decide) rfl ?_
      refine V_iload_n rfl dX11_sees_131 rfl rfl ?_
      refine V_iload rfl dX11_sees_132 rfl ?_
      refine V_iload rfl dX11_sees_134 rfl ?_
      refine V_iload rfl dX11_sees_136 rfl ?_
      refine V_isub rfl dX11_sees_138 ?_
      replace h := cl_e h
      obtain ⟨w37, M38, hc39, h⟩ := h
      refine V_si (As := [.int _, .int _]) rfl dX11_sees_139 mf_J9_min_7cf53 w_916 w_924 (by decide) rfl rfl rfl ⟨rfl, rfl⟩ (t_J9_min_7cf53 hc39) ?_
      refine V_imul rfl dX11_sees_142 ?_
      refine V_iload rfl dX11_sees_143 rfl ?_
      refine V_icmp_gt (t := 152) rfl rfl dX11_sees_145 (fun hc40 => ?_) (fun hc40 => ?_)
      · replace h := ifp hc40 h
        refine V_iconst (v := 0) rfl dX11_sees_152 kc_0 ?_
        exact V_sub (le_n (le_s (le_s (le_s (le_s (le_s (le_s (le_s (le_s (le_s (le_s (le_n (le_n le_0))))))))))))) (t_X11_sees_153 hr85 h)
      · replace h := ifn hc40 h
        refine V_iconst (v := 1) rfl dX11_sees_148 kc_1 ?_
        refine V_goto (t := 153) rfl dX11_sees_149 ?_
        exact V_sub (le_n (le_s (le_s (le_s (le_s (le_s (le_s (le_s (le_s (le_s (le_s (le_n (le_n le_0))))))))))))) (t_X11_sees_153 hr85 h)
def f_X11_sees (p1 : Int32) (p2 : Int32) (p3 : Int32) (M : IM) : IR := cl (f_X11_within p1 0 ((M 20 0) - 1) M) fun w1 M2 => if w1 = 0 then some ((-1), M2) else cl (f_X11_within p2 1 9 M2) fun w5 M6 => if w5 = 0 then some ((-1), M6) else cl (f_X11_within p3 0 1 M6) fun w9 M10 => if w9 = 0 then some ((-1), M10) else cl (f_X7_allHours 20 M10) fun w13 M14 => cl (f_X7_hoursTo 20 (M14 1 2) M14) fun w16 M17 => lt (w16 + (M17 1 3)) fun v19 => f_X11_sees_85 BG p1 p2 p3 w13 v19 (-1) 1000000 0 M17
set_option maxRecDepth 100000 in
set_option maxHeartbeats 4000000 in
theorem t_X11_sees {g : IG} {a : Nat → Nat} {R : Int32 × IM} {p1 : Int32} {p2 : Int32} {p3 : Int32} {M : IM} (h : f_X11_sees p1 p2 p3 M = some R) : Cn g mX11_sees 3 0 0 (qI S0 a R) [.ref (a 0), .int p1, .int p2, .int p3] a S0 M := by
  refine Cn_of (L := [some (.ref (a 0)), some (.int p1), some (.int p2), some (.int p3), none, none, none, none, none, none, none, none, none]) mf_X11_sees (cat_r (cat_i (cat_i (cat_i cat_0)))) (Nat.le_of_ble_eq_true rfl) rfl ?_
  unfold f_X11_sees at h
  refine V_aload_n rfl dX11_sees_0 rfl rfl ?_
  refine V_getr (k0 := 1) rfl dX11_sees_1 s0_0 icX11 (by decide) rfl w_524 ?_
  refine V_getr (k0 := 6) rfl dX11_sees_4 s0_6 icX9 (by decide) rfl w_355 ?_
  refine V_astore (L' := [_, _, _, _, _, _, _, _, _, _, _, _, _]) rfl dX11_sees_7 (by decide) rfl ?_
  refine V_iload_n rfl dX11_sees_9 rfl rfl ?_
  refine V_iconst (v := 0) rfl dX11_sees_10 kc_0 ?_
  refine V_aload rfl dX11_sees_11 rfl ?_
  refine V_geti (k0 := 0) rfl dX11_sees_13 s0_20 icX7 (by decide) rfl w_297 ?_
  refine V_iconst (v := 1) rfl dX11_sees_16 kc_1 ?_
  refine V_isub rfl dX11_sees_17 ?_
  replace h := cl_e h
  obtain ⟨w1, M2, hc3, h⟩ := h
  refine V_si (As := [.int _, .int _, .int _]) rfl dX11_sees_18 mf_X11_within w_594 w_593 (by decide) rfl rfl rfl ⟨rfl, rfl⟩ (t_X11_within hc3) ?_
  refine V_if_eq (t := 43) rfl rfl dX11_sees_21 (fun hc4 => ?_) (fun hc4 => ?_)
  · replace h := ifp hc4 h
    refine V_iconst (v := (-1)) rfl dX11_sees_43 kc_m1 ?_
    cases h
    exact V_iret dX11_sees_44 rfl rfl (Nat.le_refl _) (Nat.le_refl _) qI_ok
  · replace h := ifn hc4 h
    refine V_iload_n rfl dX11_sees_24 rfl rfl ?_
    refine V_iconst (v := 1) rfl dX11_sees_25 kc_1 ?_
    refine V_bipush (v := 9) rfl dX11_sees_26 kb_9 ?_
    replace h := cl_e h
    obtain ⟨w5, M6, hc7, h⟩ := h
    refine V_si (As := [.int _, .int _, .int _]) rfl dX11_sees_28 mf_X11_within w_594 w_593 (by decide) rfl rfl rfl ⟨rfl, rfl⟩ (t_X11_within hc7) ?_
    refine V_if_eq (t := 43) rfl rfl dX11_sees_31 (fun hc8 => ?_) (fun hc8 => ?_)
    · replace h := ifp hc8 h
      refine V_iconst (v := (-1)) rfl dX11_sees_43 kc_m1 ?_
      cases h
      exact V_iret dX11_sees_44 rfl rfl (Nat.le_refl _) (Nat.le_refl _) qI_ok
    · replace h := ifn hc8 h
      refine V_iload_n rfl dX11_sees_34 rfl rfl ?_
      refine V_iconst (v := 0) rfl dX11_sees_35 kc_0 ?_
      refine V_iconst (v := 1) rfl dX11_sees_36 kc_1 ?_
      replace h := cl_e h
      obtain ⟨w9, M10, hc11, h⟩ := h
      refine V_si (As := [.int _, .int _, .int _]) rfl dX11_sees_37 mf_X11_within w_594 w_593 (by decide) rfl rfl rfl ⟨rfl, rfl⟩ (t_X11_within hc11) ?_
      refine V_if_ne (t := 45) rfl rfl dX11_sees_40 (fun hc12 => ?_) (fun hc12 => ?_)
      · replace h := ifn hc12 h
        refine V_aload rfl dX11_sees_45 rfl ?_
        replace h := cl_e h
        obtain ⟨w13, M14, hc15, h⟩ := h
        refine V_ii (As := []) rfl dX11_sees_47 mf_X7_allHours ⟨w_996, w_997⟩ w_995 (by decide) s0_20 rfl rfl rfl rfl ⟨rfl, rfl⟩ (t_X7_allHours isRound_at20 hc15) ?_
        refine V_istore (L' := [_, _, _, _, _, _, _, _, _, _, _, _, _]) rfl dX11_sees_50 (by decide) rfl ?_
        refine V_aload rfl dX11_sees_52 rfl ?_
        refine V_aload_n rfl dX11_sees_54 rfl rfl ?_
        refine V_getr (k0 := 0) rfl dX11_sees_55 s0_0 icX11 (by decide) rfl w_523 ?_
        refine V_geti (k0 := 2) rfl dX11_sees_58 s0_1 icX4 (by decide) rfl w_182 ?_
        replace h := cl_e h
        obtain ⟨w16, M17, hc18, h⟩ := h
        refine V_ii (As := [.int _]) rfl dX11_sees_61 mf_X7_hoursTo ⟨w_1000, w_1001⟩ w_1123 (by decide) s0_20 rfl rfl rfl rfl ⟨rfl, rfl⟩ (t_X7_hoursTo isRound_at20 hc18) ?_
        refine V_aload_n rfl dX11_sees_64 rfl rfl ?_
        refine V_getr (k0 := 0) rfl dX11_sees_65 s0_0 icX11 (by decide) rfl w_523 ?_
        refine V_geti (k0 := 3) rfl dX11_sees_68 s0_1 icX4 (by decide) rfl w_185 ?_
        refine V_iadd rfl dX11_sees_71 ?_
        replace h := lt_e h
        refine V_istore (L' := [_, _, _, _, _, _, _, _, _, _, _, _, _]) rfl dX11_sees_72 (by decide) rfl ?_
        refine V_iconst (v := (-1)) rfl dX11_sees_74 kc_m1 ?_
        refine V_istore (L' := [_, _, _, _, _, _, _, _, _, _, _, _, _]) rfl dX11_sees_75 (by decide) rfl ?_
        refine V_ldcw (v := 1000000) rfl dX11_sees_77 w_1106 ?_
        refine V_istore (L' := [_, _, _, _, _, _, _, _, _, _, _, _, _]) rfl dX11_sees_80 (by decide) rfl ?_
        refine V_iconst (v := 0) rfl dX11_sees_82 kc_0 ?_
        refine V_istore (L' := [_, _, _, _, _, _, _, _, _, _, _, _, _]) rfl dX11_sees_83 (by decide) rfl ?_
        exact V_sub (le_n (le_s (le_s (le_s (le_s (le_s (le_s (le_s (le_s (le_s (le_n (le_n (le_n le_0))))))))))))) (t_X11_sees_85 BG _ _ _ _ _ _ _ _ _ h)
      · replace h := ifp hc12 h
        refine V_iconst (v := (-1)) rfl dX11_sees_43 kc_m1 ?_
        cases h
        exact V_iret dX11_sees_44 rfl rfl (Nat.le_refl _) (Nat.le_refl _) qI_ok
-- X2_walkFrom: NeverHalted$FitSearch.walkFrom(IIII)V
def f_X2_walkFrom_e (qX2_walkFrom : Int32 → Int32 → Int32 → Int32 → IM → IR) (p1 : Int32) (p2 : Int32) (p3 : Int32) (p4 : Int32) (M : IM) : IR := if p1 < (M 132 5) then cl (f_X0_setFeet p2 p3 M) fun _ M3 => cl (f_X0_setHour ((M3 132 4) + p1) M3) fun _ M6 => cl (f_X0_amount 14 10012 M6) fun w8 M9 => cl (f_X11_eased p2 w8 M9) fun w11 M12 => cl (f_X0_amount 14 10011 M12) fun w14 M15 => cl (f_X11_tired p2 w14 M15) fun w17 M18 => cl (qX2_walkFrom (p1 + 1) w11 0 p4 M18) fun _ M21 => cl (f_X11_oneMoreInRow p3 M21) fun w23 M24 => cl (qX2_walkFrom (p1 + 1) w17 w23 (p4 ||| ((1 : Int32) <<< (p1 &&& 31))) M24) fun _ M27 => some (0, M27) else if p2 = (M 132 6) then pt M 132 0 ((M 132 0) + 1) fun M30 => if (M30 132 1) = (-1) then pt M30 132 1 p4 fun M33 => some (0, M33) else pt M30 132 1 (M30 132 1) fun M32 => some (0, M32) else some (0, M)
set_option maxRecDepth 100000 in
set_option maxHeartbeats 4000000 in
theorem t_X2_walkFrom_e {g : IG} {a : Nat → Nat} {R : Int32 × IM} {qX2_walkFrom : Int32 → Int32 → Int32 → Int32 → IM → IR} {p1 : Int32} {p2 : Int32} {p3 : Int32} {p4 : Int32} {M : IM} {d : Nat} (hD : 5 ≤ d) (hqX2_walkFrom : ∀ {p1 : Int32} {p2 : Int32} {p3 : Int32} {p4 : Int32} {M : IM} {R : Int32 × IM}, qX2_walkFrom p1 p2 p3 p4 M = some R → Cn g mX2_walkFrom d 0 0 (qV S0 a R) [.ref (a 132), .int p1, .int p2, .int p3, .int p4] a S0 M) (h : f_X2_walkFrom_e qX2_walkFrom p1 p2 p3 p4 M = some R) : Cn g mX2_walkFrom (d + 1) 0 0 (qV S0 a R) [.ref (a 132), .int p1, .int p2, .int p3, .int p4] a S0 M := by
  refine Cn_of (L := [some (.ref (a 132)), some (.int p1), some (.int p2), some (.int p3), some (.int p4), none, none]) mf_X2_walkFrom (cat_r (cat_i (cat_i (cat_i (cat_i cat_0))))) (Nat.le_of_ble_eq_true rfl) rfl ?_
  unfold f_X2_walkFrom_e at h
  refine V_iload_n rfl dX2_walkFrom_0 rfl rfl ?_
  refine V_aload_n rfl dX2_walkFrom_1 rfl rfl ?_
  refine V_geti (k0 := 5) rfl dX2_walkFrom_2 s0_132 icX2 (by decide) rfl w_506 ?_
  refine V_icmp_lt (t := 48) rfl rfl dX2_walkFrom_5 (fun hc1 => ?_) (fun hc1 => ?_)
  · replace h := ifp hc1 h
    refine V_aload_n rfl dX2_walkFrom_48 rfl rfl ?_
    refine V_getr (k0 := 2) rfl dX2_walkFrom_49 s0_132 icX2 (by decide) rfl w_503 ?_
    refine V_iload_n rfl dX2_walkFrom_52 rfl rfl ?_
    refine V_iload_n rfl dX2_walkFrom_53 rfl rfl ?_
    replace h := cl_e h
    obtain ⟨w2, M3, hc4, h⟩ := h
    refine V_iv (As := [.int _, .int _]) rfl dX2_walkFrom_54 mf_X0_setFeet ⟨w_856, w_857⟩ w_1146 (by omega) s0_119 rfl rfl rfl rfl ⟨rfl, rfl⟩ (t_X0_setFeet hc4) ?_
    refine V_aload_n rfl dX2_walkFrom_57 rfl rfl ?_
    refine V_getr (k0 := 2) rfl dX2_walkFrom_58 s0_132 icX2 (by decide) rfl w_503 ?_
    refine V_aload_n rfl dX2_walkFrom_61 rfl rfl ?_
    refine V_geti (k0 := 4) rfl dX2_walkFrom_62 s0_132 icX2 (by decide) rfl w_505 ?_
    refine V_iload_n rfl dX2_walkFrom_65 rfl rfl ?_
    refine V_iadd rfl dX2_walkFrom_66 ?_
    replace h := cl_e h
    obtain ⟨w5, M6, hc7, h⟩ := h
    refine V_iv (As := [.int _]) rfl dX2_walkFrom_67 mf_X0_setHour ⟨w_860, w_861⟩ w_1147 (by omega) s0_119 rfl rfl rfl rfl ⟨rfl, rfl⟩ (t_X0_setHour hc7) ?_
    refine V_iload_n rfl dX2_walkFrom_70 rfl rfl ?_
    refine V_aload_n rfl dX2_walkFrom_71 rfl rfl ?_
    refine V_getr (k0 := 2) rfl dX2_walkFrom_72 s0_132 icX2 (by decide) rfl w_503 ?_
    refine V_aload_n rfl dX2_walkFrom_75 rfl rfl ?_
    refine V_getr (k0 := 3) rfl dX2_walkFrom_76 s0_132 icX2 (by decide) rfl w_504 ?_
    refine V_sipush (v := 10012) rfl dX2_walkFrom_79 ks_10012 ?_
    replace h := cl_e h
    obtain ⟨w8, M9, hc10, h⟩ := h
    refine V_ii (As := [.ref _, .int _]) rfl dX2_walkFrom_82 mf_X0_amount ⟨w_912, w_913⟩ w_1148 (by omega) s0_119 rfl rfl rfl rfl ⟨rfl, rfl⟩ (t_X0_amount isLaw_at14 hc10) ?_
    replace h := cl_e h
    obtain ⟨w11, M12, hc13, h⟩ := h
    refine V_ni (As := [.int _, .int _]) rfl dX2_walkFrom_85 mf_X11_eased w_929 w_1149 (by omega) rfl rfl rfl ⟨rfl, rfl⟩ (t_X11_eased hc13) ?_
    refine V_istore (L' := [_, _, _, _, _, _, _]) rfl dX2_walkFrom_88 (by decide) rfl ?_
    refine V_iload_n rfl dX2_walkFrom_90 rfl rfl ?_
    refine V_aload_n rfl dX2_walkFrom_91 rfl rfl ?_
    refine V_getr (k0 := 2) rfl dX2_walkFrom_92 s0_132 icX2 (by decide) rfl w_503 ?_
    refine V_aload_n rfl dX2_walkFrom_95 rfl rfl ?_
    refine V_getr (k0 := 3) rfl dX2_walkFrom_96 s0_132 icX2 (by decide) rfl w_504 ?_
    refine V_sipush (v := 10011) rfl dX2_walkFrom_99 ks_10011 ?_
    replace h := cl_e h
    obtain ⟨w14, M15, hc16, h⟩ := h
    refine V_ii (As := [.ref _, .int _]) rfl dX2_walkFrom_102 mf_X0_amount ⟨w_912, w_913⟩ w_1148 (by omega) s0_119 rfl rfl rfl rfl ⟨rfl, rfl⟩ (t_X0_amount isLaw_at14 hc16) ?_
    replace h := cl_e h
    obtain ⟨w17, M18, hc19, h⟩ := h
    refine V_ni (As := [.int _, .int _]) rfl dX2_walkFrom_105 mf_X11_tired w_922 w_1150 (by omega) rfl rfl rfl ⟨rfl, rfl⟩ (t_X11_tired hc19) ?_
    refine V_istore (L' := [_, _, _, _, _, _, _]) rfl dX2_walkFrom_108 (by decide) rfl ?_
    refine V_aload_n rfl dX2_walkFrom_110 rfl rfl ?_
    refine V_iload_n rfl dX2_walkFrom_111 rfl rfl ?_
    refine V_iconst (v := 1) rfl dX2_walkFrom_112 kc_1 ?_
    refine V_iadd rfl dX2_walkFrom_113 ?_
    refine V_iload rfl dX2_walkFrom_114 rfl ?_
    refine V_iconst (v := 0) rfl dX2_walkFrom_116 kc_0 ?_
    refine V_iload rfl dX2_walkFrom_117 rfl ?_
    replace h := cl_e h
    obtain ⟨w20, M21, hc22, h⟩ := h
    refine V_iv (As := [.int _, .int _, .int _, .int _]) rfl dX2_walkFrom_119 mf_X2_walkFrom ⟨w_1144, w_43⟩ w_1142 (Nat.lt_succ_self _) s0_132 rfl rfl rfl rfl ⟨rfl, rfl⟩ (hqX2_walkFrom hc22) ?_
    refine V_aload_n rfl dX2_walkFrom_122 rfl rfl ?_
    refine V_iload_n rfl dX2_walkFrom_123 rfl rfl ?_
    refine V_iconst (v := 1) rfl dX2_walkFrom_124 kc_1 ?_
    refine V_iadd rfl dX2_walkFrom_125 ?_
    refine V_iload rfl dX2_walkFrom_126 rfl ?_
    refine V_iload_n rfl dX2_walkFrom_128 rfl rfl ?_
    replace h := cl_e h
    obtain ⟨w23, M24, hc25, h⟩ := h
    refine V_ni (As := [.int _]) rfl dX2_walkFrom_129 mf_X11_oneMoreInRow w_926 w_1151 (by omega) rfl rfl rfl ⟨rfl, rfl⟩ (t_X11_oneMoreInRow hc25) ?_
    refine V_iload rfl dX2_walkFrom_132 rfl ?_
    refine V_iconst (v := 1) rfl dX2_walkFrom_134 kc_1 ?_
    refine V_iload_n rfl dX2_walkFrom_135 rfl rfl ?_
    refine V_ishl rfl dX2_walkFrom_136 ?_
    refine V_ior rfl dX2_walkFrom_137 ?_
    replace h := cl_e h
    obtain ⟨w26, M27, hc28, h⟩ := h
    refine V_iv (As := [.int _, .int _, .int _, .int _]) rfl dX2_walkFrom_138 mf_X2_walkFrom ⟨w_1144, w_43⟩ w_1142 (Nat.lt_succ_self _) s0_132 rfl rfl rfl rfl ⟨rfl, rfl⟩ (hqX2_walkFrom hc28) ?_
    cases h
    exact V_vret dX2_walkFrom_141 rfl (Nat.le_refl _) (Nat.le_refl _) qV_ok
  · replace h := ifn hc1 h
    refine V_iload_n rfl dX2_walkFrom_8 rfl rfl ?_
    refine V_aload_n rfl dX2_walkFrom_9 rfl rfl ?_
    refine V_geti (k0 := 6) rfl dX2_walkFrom_10 s0_132 icX2 (by decide) rfl w_507 ?_
    refine V_icmp_ne (t := 47) rfl rfl dX2_walkFrom_13 (fun hc29 => ?_) (fun hc29 => ?_)
    · replace h := ifn hc29 h
      cases h
      exact V_vret dX2_walkFrom_47 rfl (Nat.le_refl _) (Nat.le_refl _) qV_ok
    · replace h := ifp hc29 h
      refine V_aload_n rfl dX2_walkFrom_16 rfl rfl ?_
      refine V_dup rfl dX2_walkFrom_17 rfl ?_
      refine V_geti (k0 := 0) rfl dX2_walkFrom_18 s0_132 icX2 (by decide) rfl w_499 ?_
      refine V_iconst (v := 1) rfl dX2_walkFrom_21 kc_1 ?_
      refine V_iadd rfl dX2_walkFrom_22 ?_
      replace h := pt_e h
      refine V_putf (k0 := 0) (ty := .int) rfl dX2_walkFrom_23 s0_132 icX2 tyX2_ok nmX2 (by decide) rfl w_499 rfl (tyX2_ok _ (by decide)) rfl rfl ?_
      refine V_aload_n rfl dX2_walkFrom_26 rfl rfl ?_
      refine V_aload_n rfl dX2_walkFrom_27 rfl rfl ?_
      refine V_geti (k0 := 1) rfl dX2_walkFrom_28 s0_132 icX2 (by decide) rfl w_501 ?_
      refine V_iconst (v := (-1)) rfl dX2_walkFrom_31 kc_m1 ?_
      refine V_icmp_ne (t := 40) rfl rfl dX2_walkFrom_32 (fun hc31 => ?_) (fun hc31 => ?_)
      · replace h := ifn hc31 h
        refine V_aload_n rfl dX2_walkFrom_40 rfl rfl ?_
        refine V_geti (k0 := 1) rfl dX2_walkFrom_41 s0_132 icX2 (by decide) rfl w_501 ?_
        replace h := pt_e h
        refine V_putf (k0 := 1) (ty := .int) rfl dX2_walkFrom_44 s0_132 icX2 tyX2_ok nmX2 (by decide) rfl w_501 rfl (tyX2_ok _ (by decide)) rfl rfl ?_
        cases h
        exact V_vret dX2_walkFrom_47 rfl (Nat.le_refl _) (Nat.le_refl _) qV_ok
      · replace h := ifp hc31 h
        refine V_iload rfl dX2_walkFrom_35 rfl ?_
        refine V_goto (t := 44) rfl dX2_walkFrom_37 ?_
        replace h := pt_e h
        refine V_putf (k0 := 1) (ty := .int) rfl dX2_walkFrom_44 s0_132 icX2 tyX2_ok nmX2 (by decide) rfl w_501 rfl (tyX2_ok _ (by decide)) rfl rfl ?_
        cases h
        exact V_vret dX2_walkFrom_47 rfl (Nat.le_refl _) (Nat.le_refl _) qV_ok
def fr_X2_walkFrom : Nat → Int32 → Int32 → Int32 → Int32 → IM → IR := itr (fun _ _ _ _ _ => none) (fun qX2_walkFrom => f_X2_walkFrom_e qX2_walkFrom)
def f_X2_walkFrom (p1 : Int32) (p2 : Int32) (p3 : Int32) (p4 : Int32) (M : IM) : IR := fr_X2_walkFrom 13 p1 p2 p3 p4 M
theorem tr_X2_walkFrom {g : IG} {a : Nat → Nat} (n : Nat) : ∀ {p1 : Int32} {p2 : Int32} {p3 : Int32} {p4 : Int32} {M : IM} {R : Int32 × IM}, fr_X2_walkFrom n p1 p2 p3 p4 M = some R → Cn g mX2_walkFrom (5 + n) 0 0 (qV S0 a R) [.ref (a 132), .int p1, .int p2, .int p3, .int p4] a S0 M := by
  induction n with
  | zero => intro p1 p2 p3 p4 M R h; exact absurd h (fun z => by cases z)
  | succ n ih => intro p1 p2 p3 p4 M R h; exact t_X2_walkFrom_e (qX2_walkFrom := fr_X2_walkFrom n) (d := 5 + n) (by omega) ih h
theorem t_X2_walkFrom {g : IG} {a : Nat → Nat} {R : Int32 × IM} {p1 : Int32} {p2 : Int32} {p3 : Int32} {p4 : Int32} {M : IM} (h : f_X2_walkFrom p1 p2 p3 p4 M = some R) : Cn g mX2_walkFrom 18 0 0 (qV S0 a R) [.ref (a 132), .int p1, .int p2, .int p3, .int p4] a S0 M := tr_X2_walkFrom 13 h
-- X2_find: NeverHalted$FitSearch.find(IIIII)V
def f_X2_find (p1 : Int32) (p2 : Int32) (p3 : Int32) (p4 : Int32) (p5 : Int32) (M : IM) : IR := pt M 132 4 p1 fun M1 => pt M1 132 5 p2 fun M2 => pt M2 132 6 p3 fun M3 => pt M3 132 0 0 fun M4 => pt M4 132 1 (-1) fun M5 => cl (f_X2_walkFrom 0 p4 p5 0 M5) fun _ M7 => some (0, M7)
set_option maxRecDepth 100000 in
set_option maxHeartbeats 4000000 in
theorem t_X2_find {g : IG} {a : Nat → Nat} {R : Int32 × IM} {p1 : Int32} {p2 : Int32} {p3 : Int32} {p4 : Int32} {p5 : Int32} {M : IM} (h : f_X2_find p1 p2 p3 p4 p5 M = some R) : Cn g mX2_find 19 0 0 (qV S0 a R) [.ref (a 132), .int p1, .int p2, .int p3, .int p4, .int p5] a S0 M := by
  refine Cn_of (L := [some (.ref (a 132)), some (.int p1), some (.int p2), some (.int p3), some (.int p4), some (.int p5)]) mf_X2_find (cat_r (cat_i (cat_i (cat_i (cat_i (cat_i cat_0)))))) (Nat.le_of_ble_eq_true rfl) rfl ?_
  unfold f_X2_find at h
  refine V_aload_n rfl dX2_find_0 rfl rfl ?_
  refine V_iload_n rfl dX2_find_1 rfl rfl ?_
  replace h := pt_e h
  refine V_putf (k0 := 4) (ty := .int) rfl dX2_find_2 s0_132 icX2 tyX2_ok nmX2 (by decide) rfl w_505 rfl (tyX2_ok _ (by decide)) rfl rfl ?_
  refine V_aload_n rfl dX2_find_5 rfl rfl ?_
  refine V_iload_n rfl dX2_find_6 rfl rfl ?_
  replace h := pt_e h
  refine V_putf (k0 := 5) (ty := .int) rfl dX2_find_7 s0_132 icX2 tyX2_ok nmX2 (by decide) rfl w_506 rfl (tyX2_ok _ (by decide)) rfl rfl ?_
  refine V_aload_n rfl dX2_find_10 rfl rfl ?_
  refine V_iload_n rfl dX2_find_11 rfl rfl ?_
  replace h := pt_e h
  refine V_putf (k0 := 6) (ty := .int) rfl dX2_find_12 s0_132 icX2 tyX2_ok nmX2 (by decide) rfl w_507 rfl (tyX2_ok _ (by decide)) rfl rfl ?_
  refine V_aload_n rfl dX2_find_15 rfl rfl ?_
  refine V_iconst (v := 0) rfl dX2_find_16 kc_0 ?_
  replace h := pt_e h
  refine V_putf (k0 := 0) (ty := .int) rfl dX2_find_17 s0_132 icX2 tyX2_ok nmX2 (by decide) rfl w_499 rfl (tyX2_ok _ (by decide)) rfl rfl ?_
  refine V_aload_n rfl dX2_find_20 rfl rfl ?_
  refine V_iconst (v := (-1)) rfl dX2_find_21 kc_m1 ?_
  replace h := pt_e h
  refine V_putf (k0 := 1) (ty := .int) rfl dX2_find_22 s0_132 icX2 tyX2_ok nmX2 (by decide) rfl w_501 rfl (tyX2_ok _ (by decide)) rfl rfl ?_
  refine V_aload_n rfl dX2_find_25 rfl rfl ?_
  refine V_iconst (v := 0) rfl dX2_find_26 kc_0 ?_
  refine V_iload rfl dX2_find_27 rfl ?_
  refine V_iload rfl dX2_find_29 rfl ?_
  refine V_iconst (v := 0) rfl dX2_find_31 kc_0 ?_
  replace h := cl_e h
  obtain ⟨w6, M7, hc8, h⟩ := h
  refine V_iv (As := [.int _, .int _, .int _, .int _]) rfl dX2_find_32 mf_X2_walkFrom ⟨w_1144, w_43⟩ w_1142 (by decide) s0_132 rfl rfl rfl rfl ⟨rfl, rfl⟩ (t_X2_walkFrom hc8) ?_
  cases h
  exact V_vret dX2_find_35 rfl (Nat.le_refl _) (Nat.le_refl _) qV_ok
-- X11_fits: NeverHalted.fits(IIII)I
def f_X11_fits (p1 : Int32) (p2 : Int32) (p3 : Int32) (p4 : Int32) (M : IM) : IR := cl (f_X11_isWalker p1 M) fun w1 M2 => if w1 = 0 then some ((-1), M2) else cl (f_X11_within p2 1 10 M2) fun w5 M6 => if w5 = 0 then some ((-1), M6) else cl (f_X11_within p3 0 999 M6) fun w9 M10 => if w9 = 0 then some ((-1), M10) else cl (f_X11_within p4 0 1 M10) fun w13 M14 => if w13 = 0 then some ((-1), M14) else cl (f_X0_meet 1 20 p1 M14) fun _ M18 => rd M18 4 10 p1 fun v20 => rd M18 5 10 p1 fun v22 => cl (f_X2_find (M18 1 1) p2 p3 v20 v22 M18) fun _ M25 => if p4 = 0 then some ((M25 132 0), M25) else some ((M25 132 1), M25)
set_option maxRecDepth 100000 in
set_option maxHeartbeats 4000000 in
theorem t_X11_fits {g : IG} {a : Nat → Nat} {R : Int32 × IM} {p1 : Int32} {p2 : Int32} {p3 : Int32} {p4 : Int32} {M : IM} (h : f_X11_fits p1 p2 p3 p4 M = some R) : Cn g mX11_fits 20 0 0 (qI S0 a R) [.ref (a 0), .int p1, .int p2, .int p3, .int p4] a S0 M := by
  refine Cn_of (L := [some (.ref (a 0)), some (.int p1), some (.int p2), some (.int p3), some (.int p4)]) mf_X11_fits (cat_r (cat_i (cat_i (cat_i (cat_i cat_0))))) (Nat.le_of_ble_eq_true rfl) rfl ?_
  unfold f_X11_fits at h
  refine V_aload_n rfl dX11_fits_0 rfl rfl ?_
  refine V_iload_n rfl dX11_fits_1 rfl rfl ?_
  replace h := cl_e h
  obtain ⟨w1, M2, hc3, h⟩ := h
  refine V_ii (As := [.int _]) rfl dX11_fits_2 mf_X11_isWalker ⟨w_606, w_1⟩ w_604 (by decide) s0_0 rfl rfl rfl rfl ⟨rfl, rfl⟩ (t_X11_isWalker hc3) ?_
  refine V_if_eq (t := 39) rfl rfl dX11_fits_5 (fun hc4 => ?_) (fun hc4 => ?_)
  · replace h := ifp hc4 h
    refine V_iconst (v := (-1)) rfl dX11_fits_39 kc_m1 ?_
    cases h
    exact V_iret dX11_fits_40 rfl rfl (Nat.le_refl _) (Nat.le_refl _) qI_ok
  · replace h := ifn hc4 h
    refine V_iload_n rfl dX11_fits_8 rfl rfl ?_
    refine V_iconst (v := 1) rfl dX11_fits_9 kc_1 ?_
    refine V_bipush (v := 10) rfl dX11_fits_10 kb_10 ?_
    replace h := cl_e h
    obtain ⟨w5, M6, hc7, h⟩ := h
    refine V_si (As := [.int _, .int _, .int _]) rfl dX11_fits_12 mf_X11_within w_594 w_593 (by decide) rfl rfl rfl ⟨rfl, rfl⟩ (t_X11_within hc7) ?_
    refine V_if_eq (t := 39) rfl rfl dX11_fits_15 (fun hc8 => ?_) (fun hc8 => ?_)
    · replace h := ifp hc8 h
      refine V_iconst (v := (-1)) rfl dX11_fits_39 kc_m1 ?_
      cases h
      exact V_iret dX11_fits_40 rfl rfl (Nat.le_refl _) (Nat.le_refl _) qI_ok
    · replace h := ifn hc8 h
      refine V_iload_n rfl dX11_fits_18 rfl rfl ?_
      refine V_iconst (v := 0) rfl dX11_fits_19 kc_0 ?_
      refine V_sipush (v := 999) rfl dX11_fits_20 ks_999 ?_
      replace h := cl_e h
      obtain ⟨w9, M10, hc11, h⟩ := h
      refine V_si (As := [.int _, .int _, .int _]) rfl dX11_fits_23 mf_X11_within w_594 w_593 (by decide) rfl rfl rfl ⟨rfl, rfl⟩ (t_X11_within hc11) ?_
      refine V_if_eq (t := 39) rfl rfl dX11_fits_26 (fun hc12 => ?_) (fun hc12 => ?_)
      · replace h := ifp hc12 h
        refine V_iconst (v := (-1)) rfl dX11_fits_39 kc_m1 ?_
        cases h
        exact V_iret dX11_fits_40 rfl rfl (Nat.le_refl _) (Nat.le_refl _) qI_ok
      · replace h := ifn hc12 h
        refine V_iload rfl dX11_fits_29 rfl ?_
        refine V_iconst (v := 0) rfl dX11_fits_31 kc_0 ?_
        refine V_iconst (v := 1) rfl dX11_fits_32 kc_1 ?_
        replace h := cl_e h
        obtain ⟨w13, M14, hc15, h⟩ := h
        refine V_si (As := [.int _, .int _, .int _]) rfl dX11_fits_33 mf_X11_within w_594 w_593 (by decide) rfl rfl rfl ⟨rfl, rfl⟩ (t_X11_within hc15) ?_
        refine V_if_ne (t := 41) rfl rfl dX11_fits_36 (fun hc16 => ?_) (fun hc16 => ?_)
        · replace h := ifn hc16 h
          refine V_aload_n rfl dX11_fits_41 rfl rfl ?_
          refine V_getr (k0 := 11) rfl dX11_fits_42 s0_0 icX11 (by decide) rfl w_534 ?_
          refine V_aload_n rfl dX11_fits_45 rfl rfl ?_
          refine V_getr (k0 := 0) rfl dX11_fits_46 s0_0 icX11 (by decide) rfl w_523 ?_
          refine V_aload_n rfl dX11_fits_49 rfl rfl ?_
          refine V_getr (k0 := 1) rfl dX11_fits_50 s0_0 icX11 (by decide) rfl w_524 ?_
          refine V_getr (k0 := 6) rfl dX11_fits_53 s0_6 icX9 (by decide) rfl w_355 ?_
          refine V_iload_n rfl dX11_fits_56 rfl rfl ?_
          replace h := cl_e h
          obtain ⟨w17, M18, hc19, h⟩ := h
          refine V_iv (As := [.ref _, .ref _, .int _]) rfl dX11_fits_57 mf_X0_meet ⟨w_852, w_853⟩ w_851 (by decide) s0_119 rfl rfl rfl rfl ⟨rfl, rfl⟩ (t_X0_meet isNow_at1 isRound_at20 hc19) ?_
          refine V_aload_n rfl dX11_fits_60 rfl rfl ?_
          refine V_getr (k0 := 14) rfl dX11_fits_61 s0_0 icX11 (by decide) rfl w_537 ?_
          refine V_aload_n rfl dX11_fits_64 rfl rfl ?_
          refine V_getr (k0 := 0) rfl dX11_fits_65 s0_0 icX11 (by decide) rfl w_523 ?_
          refine V_geti (k0 := 1) rfl dX11_fits_68 s0_1 icX4 (by decide) rfl w_179 ?_
          refine V_iload_n rfl dX11_fits_71 rfl rfl ?_
          refine V_iload_n rfl dX11_fits_72 rfl rfl ?_
          refine V_aload_n rfl dX11_fits_73 rfl rfl ?_
          refine V_getr (k0 := 0) rfl dX11_fits_74 s0_0 icX11 (by decide) rfl w_523 ?_
          refine V_getr (k0 := 13) rfl dX11_fits_77 s0_1 icX4 (by decide) rfl w_210 ?_
          refine V_iload_n rfl dX11_fits_80 rfl rfl ?_
          replace h := rd_e h
          obtain ⟨hb21, h⟩ := h
          refine V_iald rfl dX11_fits_81 s0_4 hb21 ?_
          refine V_aload_n rfl dX11_fits_82 rfl rfl ?_
          refine V_getr (k0 := 0) rfl dX11_fits_83 s0_0 icX11 (by decide) rfl w_523 ?_
          refine V_getr (k0 := 14) rfl dX11_fits_86 s0_1 icX4 (by decide) rfl w_213 ?_
          refine V_iload_n rfl dX11_fits_89 rfl rfl ?_
          replace h := rd_e h
          obtain ⟨hb23, h⟩ := h
          refine V_iald rfl dX11_fits_90 s0_5 hb23 ?_
          replace h := cl_e h
          obtain ⟨w24, M25, hc26, h⟩ := h
          refine V_iv (As := [.int _, .int _, .int _, .int _, .int _]) rfl dX11_fits_91 mf_X2_find ⟨w_1139, w_1140⟩ w_1138 (by decide) s0_132 rfl rfl rfl rfl ⟨rfl, rfl⟩ (t_X2_find hc26) ?_
          refine V_iload rfl dX11_fits_94 rfl ?_
          refine V_if_ne (t := 109) rfl rfl dX11_fits_96 (fun hc27 => ?_) (fun hc27 => ?_)
          · replace h := ifn hc27 h
            refine V_aload_n rfl dX11_fits_109 rfl rfl ?_
            refine V_getr (k0 := 14) rfl dX11_fits_110 s0_0 icX11 (by decide) rfl w_537 ?_
            refine V_geti (k0 := 1) rfl dX11_fits_113 s0_132 icX2 (by decide) rfl w_502 ?_
            cases h
            exact V_iret dX11_fits_116 rfl rfl (Nat.le_refl _) (Nat.le_refl _) qI_ok
          · replace h := ifp hc27 h
            refine V_aload_n rfl dX11_fits_99 rfl rfl ?_
            refine V_getr (k0 := 14) rfl dX11_fits_100 s0_0 icX11 (by decide) rfl w_537 ?_
            refine V_geti (k0 := 0) rfl dX11_fits_103 s0_132 icX2 (by decide) rfl w_500 ?_
            refine V_goto (t := 116) rfl dX11_fits_106 ?_
            cases h
            exact V_iret dX11_fits_116 rfl rfl (Nat.le_refl _) (Nat.le_refl _) qI_ok
        · replace h := ifp hc16 h
          refine V_iconst (v := (-1)) rfl dX11_fits_39 kc_m1 ?_
          cases h
          exact V_iret dX11_fits_40 rfl rfl (Nat.le_refl _) (Nat.le_refl _) qI_ok
-- X11_crossed: NeverHalted.crossed(II)I
def f_X11_crossed_51_b (r41 : Int32 → Int32 → Int32 → IM → IR) (r51 : Int32 → Int32 → Int32 → Int32 → IM → IR) (x1 : Int32) (x2 : Int32) (x3 : Int32) (x4 : Int32) (M : IM) : IR := if x4 < 0 then lt (x3 + 1) fun v19 => r41 x1 x2 v19 M else rd M 134 13 x4 fun v20 => lt ((v20 * (1000 - (M 6 1))) / 1000) fun v22 => rd M 134 13 x4 fun v23 => wr M 134 13 x4 (v23 - v22) fun M25 => rd M25 134 13 (x4 + 1) fun v27 => wr M25 134 13 (x4 + 1) (v27 + v22) fun M29 => lt (x4 + (-1)) fun v31 => r51 x1 x2 x3 v31 M29
def f_X11_crossed_51 (r41 : Int32 → Int32 → Int32 → IM → IR) (n : Nat) : Int32 → Int32 → Int32 → Int32 → IM → IR := itr (fun _ _ _ _ _ => none) (f_X11_crossed_51_b r41) n
set_option maxRecDepth 100000 in
set_option maxHeartbeats 4000000 in
theorem t_X11_crossed_51 {g : IG} {a : Nat → Nat} {R : Int32 × IM} {r41 : Int32 → Int32 → Int32 → IM → IR} (hr41 : ∀ (x1 : Int32) (x2 : Int32) (x3 : Int32) (M : IM), r41 x1 x2 x3 M = some R → V g mX11_crossed 2 0 0 (qI S0 a R) 41 [some (.ref (a 0)), some (.int x1), some (.int x2), some (.int x3), none, none] [] a S0 M 0 0) (n : Nat) : ∀ (x1 : Int32) (x2 : Int32) (x3 : Int32) (x4 : Int32) (M : IM), f_X11_crossed_51 r41 n x1 x2 x3 x4 M = some R → V g mX11_crossed 2 0 0 (qI S0 a R) 51 [some (.ref (a 0)), some (.int x1), some (.int x2), some (.int x3), some (.int x4), none] [] a S0 M 0 0 := by
  induction n with
  | zero => intro x1 x2 x3 x4 M h; exact absurd h (fun z => by cases z)
  | succ n hr51 =>
    intro x1 x2 x3 x4 M h
    replace h : f_X11_crossed_51_b r41 (f_X11_crossed_51 r41 n) x1 x2 x3 x4 M = some R := h
    unfold f_X11_crossed_51_b at h
    refine V_iload rfl dX11_crossed_51 rfl ?_
    refine V_if_lt (t := 113) rfl rfl dX11_crossed_53 (fun hc18 => ?_) (fun hc18 => ?_)
    · replace h := ifp hc18 h
      replace h := lt_e h
      refine V_inc (L' := [_, _, _, _, _, _]) rfl dX11_crossed_113 rfl kc_1 (by decide) rfl ?_
      refine V_goto (t := 41) rfl dX11_crossed_116 ?_
      exact V_sub (le_s (le_s (le_s (le_s (le_n (le_n le_0)))))) (hr41 _ _ _ _ h)
    · replace h := ifn hc18 h
      refine V_aload_n rfl dX11_crossed_56 rfl rfl ?_
      refine V_getr (k0 := 16) rfl dX11_crossed_57 s0_0 icX11 (by decide) rfl w_539 ?_
      refine V_iload rfl dX11_crossed_60 rfl ?_
      replace h := rd_e h
      obtain ⟨hb21, h⟩ := h
      refine V_iald rfl dX11_crossed_62 s0_134 hb21 ?_
      refine V_sipush (v := 1000) rfl dX11_crossed_63 ks_1000 ?_
      refine V_aload_n rfl dX11_crossed_66 rfl rfl ?_
      refine V_getr (k0 := 1) rfl dX11_crossed_67 s0_0 icX11 (by decide) rfl w_524 ?_
      refine V_geti (k0 := 1) rfl dX11_crossed_70 s0_6 icX9 (by decide) rfl w_345 ?_
      refine V_isub rfl dX11_crossed_73 ?_
      refine V_imul rfl dX11_crossed_74 ?_
      refine V_sipush (v := 1000) rfl dX11_crossed_75 ks_1000 ?_
      refine V_idiv rfl dX11_crossed_78 (by decide) ?_
      replace h := lt_e h
      refine V_istore (L' := [_, _, _, _, _, _]) rfl dX11_crossed_79 (by decide) rfl ?_
      refine V_aload_n rfl dX11_crossed_81 rfl rfl ?_
      refine V_getr (k0 := 16) rfl dX11_crossed_82 s0_0 icX11 (by decide) rfl w_539 ?_
      refine V_iload rfl dX11_crossed_85 rfl ?_
      refine V_dup2 rfl dX11_crossed_87 rfl rfl ?_
      replace h := rd_e h
      obtain ⟨hb24, h⟩ := h
      refine V_iald rfl dX11_crossed_88 s0_134 hb24 ?_
      refine V_iload rfl dX11_crossed_89 rfl ?_
      refine V_isub rfl dX11_crossed_91 ?_
      replace h := wr_e h
      obtain ⟨hb26, h⟩ := h
      refine V_iast rfl dX11_crossed_92 s0_134 hb26 ?_
      refine V_aload_n rfl dX11_crossed_93 rfl rfl ?_
      refine V_getr (k0 := 16) rfl dX11_crossed_94 s0_0 icX11 (by decide) rfl w_539 ?_
      refine V_iload rfl dX11_crossed_97 rfl ?_
      refine V_iconst (v := 1) rfl dX11_crossed_99 kc_1 ?_
      refine V_iadd rfl dX11_crossed_100 ?_
      refine V_dup2 rfl dX11_crossed_101 rfl rfl ?_
      replace h := rd_e h
      obtain ⟨hb28, h⟩ := h
      refine V_iald rfl dX11_crossed_102 s0_134 hb28 ?_
      refine V_iload rfl dX11_crossed_103 rfl ?_
      refine V_iadd rfl dX11_crossed_105 ?_
      replace h := wr_e h
      obtain ⟨hb30, h⟩ := h
      refine V_iast rfl dX11_crossed_106 s0_134 hb30 ?_
      replace h := lt_e h
      refine V_inc (L' := [_, _, _, _, _, _]) rfl dX11_crossed_107 rfl kc_m1 (by decide) rfl ?_
      refine V_goto (t := 51) rfl dX11_crossed_110 ?_
      exact V_sub (le_s (le_s (le_s (le_s (le_s (le_n le_0)))))) (hr51 _ _ _ _ _ h)
def f_X11_crossed_41_b (r41 : Int32 → Int32 → Int32 → IM → IR) (x1 : Int32) (x2 : Int32) (x3 : Int32) (M : IM) : IR := if x2 ≤ x3 then rd M 134 13 x1 fun v15 => some (v15, M) else lt (x1 - 1) fun v17 => f_X11_crossed_51 r41 BG x1 x2 x3 v17 M
def f_X11_crossed_41 (n : Nat) : Int32 → Int32 → Int32 → IM → IR := itr (fun _ _ _ _ => none) (f_X11_crossed_41_b) n
set_option maxRecDepth 100000 in
set_option maxHeartbeats 4000000 in
theorem t_X11_crossed_41 {g : IG} {a : Nat → Nat} {R : Int32 × IM} (n : Nat) : ∀ (x1 : Int32) (x2 : Int32) (x3 : Int32) (M : IM), f_X11_crossed_41 n x1 x2 x3 M = some R → V g mX11_crossed 2 0 0 (qI S0 a R) 41 [some (.ref (a 0)), some (.int x1), some (.int x2), some (.int x3), none, none] [] a S0 M 0 0 := by
  induction n with
  | zero => intro x1 x2 x3 M h; exact absurd h (fun z => by cases z)
  | succ n hr41 =>
    intro x1 x2 x3 M h
    replace h : f_X11_crossed_41_b (f_X11_crossed_41 n) x1 x2 x3 M = some R := h
    unfold f_X11_crossed_41_b at h
    refine V_iload_n rfl dX11_crossed_41 rfl rfl ?_
    refine V_iload_n rfl dX11_crossed_42 rfl rfl ?_
    refine V_icmp_ge (t := 119) rfl rfl dX11_crossed_43 (fun hc14 => ?_) (fun hc14 => ?_)
    · replace h := ifp hc14 h
      refine V_aload_n rfl dX11_crossed_119 rfl rfl ?_
      refine V_getr (k0 := 16) rfl dX11_crossed_120 s0_0 icX11 (by decide) rfl w_539 ?_
      refine V_iload_n rfl dX11_crossed_123 rfl rfl ?_
      replace h := rd_e h
      obtain ⟨hb16, h⟩ := h
      refine V_iald rfl dX11_crossed_124 s0_134 hb16 ?_
      cases h
      exact V_iret dX11_crossed_125 rfl rfl (Nat.le_refl _) (Nat.le_refl _) qI_ok
    · replace h := ifn hc14 h
      refine V_iload_n rfl dX11_crossed_46 rfl rfl ?_
      refine V_iconst (v := 1) rfl dX11_crossed_47 kc_1 ?_
      refine V_isub rfl dX11_crossed_48 ?_
      replace h := lt_e h
      refine V_istore (L' := [_, _, _, _, _, _]) rfl dX11_crossed_49 (by decide) rfl ?_
      exact V_sub (le_s (le_s (le_s (le_s (le_s (le_n le_0)))))) (t_X11_crossed_51 hr41 BG _ _ _ _ _ h)
def f_X11_crossed (p1 : Int32) (p2 : Int32) (M : IM) : IR := cl (f_X11_within p1 1 12 M) fun w1 M2 => if w1 = 0 then some ((-1), M2) else cl (f_X11_within p2 0 30 M2) fun w5 M6 => if w5 = 0 then some ((-1), M6) else cl (f_J7_fill_53178 134 13 0 M6) fun _ M10 => wr M10 134 13 0 1000000 fun M12 => f_X11_crossed_41 BG p1 p2 0 M12
set_option maxRecDepth 100000 in
set_option maxHeartbeats 4000000 in
theorem t_X11_crossed {g : IG} {a : Nat → Nat} {R : Int32 × IM} {p1 : Int32} {p2 : Int32} {M : IM} (h : f_X11_crossed p1 p2 M = some R) : Cn g mX11_crossed 2 0 0 (qI S0 a R) [.ref (a 0), .int p1, .int p2] a S0 M := by
  refine Cn_of (L := [some (.ref (a 0)), some (.int p1), some (.int p2), none, none, none]) mf_X11_crossed (cat_r (cat_i (cat_i cat_0))) (Nat.le_of_ble_eq_true rfl) rfl ?_
  unfold f_X11_crossed at h
  refine V_iload_n rfl dX11_crossed_0 rfl rfl ?_
  refine V_iconst (v := 1) rfl dX11_crossed_1 kc_1 ?_
  refine V_bipush (v := 12) rfl dX11_crossed_2 kb_12 ?_
  replace h := cl_e h
  obtain ⟨w1, M2, hc3, h⟩ := h
  refine V_si (As := [.int _, .int _, .int _]) rfl dX11_crossed_4 mf_X11_within w_594 w_593 (by decide) rfl rfl rfl ⟨rfl, rfl⟩ (t_X11_within hc3) ?_
  refine V_if_eq (t := 20) rfl rfl dX11_crossed_7 (fun hc4 => ?_) (fun hc4 => ?_)
  · replace h := ifp hc4 h
    refine V_iconst (v := (-1)) rfl dX11_crossed_20 kc_m1 ?_
    cases h
    exact V_iret dX11_crossed_21 rfl rfl (Nat.le_refl _) (Nat.le_refl _) qI_ok
  · replace h := ifn hc4 h
    refine V_iload_n rfl dX11_crossed_10 rfl rfl ?_
    refine V_iconst (v := 0) rfl dX11_crossed_11 kc_0 ?_
    refine V_bipush (v := 30) rfl dX11_crossed_12 kb_30 ?_
    replace h := cl_e h
    obtain ⟨w5, M6, hc7, h⟩ := h
    refine V_si (As := [.int _, .int _, .int _]) rfl dX11_crossed_14 mf_X11_within w_594 w_593 (by decide) rfl rfl rfl ⟨rfl, rfl⟩ (t_X11_within hc7) ?_
    refine V_if_ne (t := 22) rfl rfl dX11_crossed_17 (fun hc8 => ?_) (fun hc8 => ?_)
    · replace h := ifn hc8 h
      refine V_aload_n rfl dX11_crossed_22 rfl rfl ?_
      refine V_getr (k0 := 16) rfl dX11_crossed_23 s0_0 icX11 (by decide) rfl w_539 ?_
      refine V_iconst (v := 0) rfl dX11_crossed_26 kc_0 ?_
      replace h := cl_e h
      obtain ⟨w9, M10, hc11, h⟩ := h
      refine V_sv (As := [.ref _, .int _]) rfl dX11_crossed_27 mf_J7_fill_53178 w_1025 w_1156 (by decide) rfl rfl rfl ⟨rfl, rfl⟩ (t_J7_fill_53178 s0_134 hc11) ?_
      refine V_aload_n rfl dX11_crossed_30 rfl rfl ?_
      refine V_getr (k0 := 16) rfl dX11_crossed_31 s0_0 icX11 (by decide) rfl w_539 ?_
      refine V_iconst (v := 0) rfl dX11_crossed_34 kc_0 ?_
      refine V_ldcw (v := 1000000) rfl dX11_crossed_35 w_1106 ?_
      replace h := wr_e h
      obtain ⟨hb13, h⟩ := h
      refine V_iast rfl dX11_crossed_38 s0_134 hb13 ?_
      refine V_iconst (v := 0) rfl dX11_crossed_39 kc_0 ?_
      refine V_istore_n (L' := [_, _, _, _, _, _]) rfl rfl dX11_crossed_40 (by decide) rfl ?_
      exact V_sub (le_s (le_s (le_s (le_s (le_n (le_n le_0)))))) (t_X11_crossed_41 BG _ _ _ _ h)
    · replace h := ifp hc8 h
      refine V_iconst (v := (-1)) rfl dX11_crossed_20 kc_m1 ?_
      cases h
      exact V_iret dX11_crossed_21 rfl rfl (Nat.le_refl _) (Nat.le_refl _) qI_ok
-- X11_putByFeet: NeverHalted.putByFeet(II)V
def f_X11_putByFeet_2_b (r2 : Int32 → Int32 → IM → IR) (x1 : Int32) (x3 : Int32) (M : IM) : IR := if x3 ≤ 0 then wr M 135 10 x3 x1 fun M2 => some (0, M2) else rd M 135 10 (x3 - 1) fun v4 => rd M 4 10 v4 fun v6 => rd M 4 10 x1 fun v8 => if v6 ≤ v8 then wr M 135 10 x3 x1 fun M11 => some (0, M11) else rd M 135 10 (x3 - 1) fun v13 => wr M 135 10 x3 v13 fun M15 => lt (x3 + (-1)) fun v17 => r2 x1 v17 M15
def f_X11_putByFeet_2 (n : Nat) : Int32 → Int32 → IM → IR := itr (fun _ _ _ => none) (f_X11_putByFeet_2_b) n
set_option maxRecDepth 100000 in
set_option maxHeartbeats 4000000 in
theorem t_X11_putByFeet_2 {g : IG} {a : Nat → Nat} {R : Int32 × IM} (n : Nat) : ∀ (x1 : Int32) (x3 : Int32) (M : IM), f_X11_putByFeet_2 n x1 x3 M = some R → V g mX11_putByFeet 1 0 0 (qV S0 a R) 2 [some (.ref (a 0)), some (.int x1), none, some (.int x3)] [] a S0 M 0 0 := by
  induction n with
  | zero => intro x1 x3 M h; exact absurd h (fun z => by cases z)
  | succ n hr2 =>
    intro x1 x3 M h
    replace h : f_X11_putByFeet_2_b (f_X11_putByFeet_2 n) x1 x3 M = some R := h
    unfold f_X11_putByFeet_2_b at h
    refine V_iload_n rfl dX11_putByFeet_2 rfl rfl ?_
    refine V_if_le (t := 54) rfl rfl dX11_putByFeet_3 (fun hc1 => ?_) (fun hc1 => ?_)
    · replace h := ifp hc1 h
      refine V_aload_n rfl dX11_putByFeet_54 rfl rfl ?_
      refine V_getr (k0 := 17) rfl dX11_putByFeet_55 s0_0 icX11 (by decide) rfl w_540 ?_
      refine V_iload_n rfl dX11_putByFeet_58 rfl rfl ?_
      refine V_iload_n rfl dX11_putByFeet_59 rfl rfl ?_
      replace h := wr_e h
      obtain ⟨hb3, h⟩ := h
      refine V_iast rfl dX11_putByFeet_60 s0_135 hb3 ?_
      cases h
      exact V_vret dX11_putByFeet_61 rfl (Nat.le_refl _) (Nat.le_refl _) qV_ok
    · replace h := ifn hc1 h
      refine V_aload_n rfl dX11_putByFeet_6 rfl rfl ?_
      refine V_getr (k0 := 0) rfl dX11_putByFeet_7 s0_0 icX11 (by decide) rfl w_523 ?_
      refine V_getr (k0 := 13) rfl dX11_putByFeet_10 s0_1 icX4 (by decide) rfl w_210 ?_
      refine V_aload_n rfl dX11_putByFeet_13 rfl rfl ?_
      refine V_getr (k0 := 17) rfl dX11_putByFeet_14 s0_0 icX11 (by decide) rfl w_540 ?_
      refine V_iload_n rfl dX11_putByFeet_17 rfl rfl ?_
      refine V_iconst (v := 1) rfl dX11_putByFeet_18 kc_1 ?_
      refine V_isub rfl dX11_putByFeet_19 ?_
      replace h := rd_e h
      obtain ⟨hb5, h⟩ := h
      refine V_iald rfl dX11_putByFeet_20 s0_135 hb5 ?_
      replace h := rd_e h
      obtain ⟨hb7, h⟩ := h
      refine V_iald rfl dX11_putByFeet_21 s0_4 hb7 ?_
      refine V_aload_n rfl dX11_putByFeet_22 rfl rfl ?_
      refine V_getr (k0 := 0) rfl dX11_putByFeet_23 s0_0 icX11 (by decide) rfl w_523 ?_
      refine V_getr (k0 := 13) rfl dX11_putByFeet_26 s0_1 icX4 (by decide) rfl w_210 ?_
      refine V_iload_n rfl dX11_putByFeet_29 rfl rfl ?_
      replace h := rd_e h
      obtain ⟨hb9, h⟩ := h
      refine V_iald rfl dX11_putByFeet_30 s0_4 hb9 ?_
      refine V_icmp_le (t := 54) rfl rfl dX11_putByFeet_31 (fun hc10 => ?_) (fun hc10 => ?_)
      · replace h := ifp hc10 h
        refine V_aload_n rfl dX11_putByFeet_54 rfl rfl ?_
        refine V_getr (k0 := 17) rfl dX11_putByFeet_55 s0_0 icX11 (by decide) rfl w_540 ?_
        refine V_iload_n rfl dX11_putByFeet_58 rfl rfl ?_
        refine V_iload_n rfl dX11_putByFeet_59 rfl rfl ?_
        replace h := wr_e h
        obtain ⟨hb12, h⟩ := h
        refine V_iast rfl dX11_putByFeet_60 s0_135 hb12 ?_
        cases h
        exact V_vret dX11_putByFeet_61 rfl (Nat.le_refl _) (Nat.le_refl _) qV_ok
      · replace h := ifn hc10 h
        refine V_aload_n rfl dX11_putByFeet_34 rfl rfl ?_
        refine V_getr (k0 := 17) rfl dX11_putByFeet_35 s0_0 icX11 (by decide) rfl w_540 ?_
        refine V_iload_n rfl dX11_putByFeet_38 rfl rfl ?_
        refine V_aload_n rfl dX11_putByFeet_39 rfl rfl ?_
        refine V_getr (k0 := 17) rfl dX11_putByFeet_40 s0_0 icX11 (by decide) rfl w_540 ?_
        refine V_iload_n rfl dX11_putByFeet_43 rfl rfl ?_
        refine V_iconst (v := 1) rfl dX11_putByFeet_44 kc_1 ?_
        refine V_isub rfl dX11_putByFeet_45 ?_
        replace h := rd_e h
        obtain ⟨hb14, h⟩ := h
        refine V_iald rfl dX11_putByFeet_46 s0_135 hb14 ?_
        replace h := wr_e h
        obtain ⟨hb16, h⟩ := h
        refine V_iast rfl dX11_putByFeet_47 s0_135 hb16 ?_
        replace h := lt_e h
        refine V_inc (L' := [_, _, _, _]) rfl dX11_putByFeet_48 rfl kc_m1 (by decide) rfl ?_
        refine V_goto (t := 2) rfl dX11_putByFeet_51 ?_
        exact V_sub (le_s (le_s (le_n (le_s le_0)))) (hr2 _ _ _ h)
def f_X11_putByFeet (p1 : Int32) (p2 : Int32) (M : IM) : IR := f_X11_putByFeet_2 BG p1 p2 M
set_option maxRecDepth 100000 in
set_option maxHeartbeats 4000000 in
theorem t_X11_putByFeet {g : IG} {a : Nat → Nat} {R : Int32 × IM} {p1 : Int32} {p2 : Int32} {M : IM} (h : f_X11_putByFeet p1 p2 M = some R) : Cn g mX11_putByFeet 1 0 0 (qV S0 a R) [.ref (a 0), .int p1, .int p2] a S0 M := by
  refine Cn_of (L := [some (.ref (a 0)), some (.int p1), some (.int p2), none]) mf_X11_putByFeet (cat_r (cat_i (cat_i cat_0))) (Nat.le_of_ble_eq_true rfl) rfl ?_
  unfold f_X11_putByFeet at h
  refine V_iload_n rfl dX11_putByFeet_0 rfl rfl ?_
  refine V_istore_n (L' := [_, _, _, _]) rfl rfl dX11_putByFeet_1 (by decide) rfl ?_
  exact V_sub (le_s (le_s (le_n (le_s le_0)))) (t_X11_putByFeet_2 BG _ _ _ h)
