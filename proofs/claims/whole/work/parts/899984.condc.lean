/-! text: the class's conditions follow the pure reader -/
def zq_bI (b : Bool) : Int32 := if b = true then 1 else 0
def zq_mc (qC qD : Int32 → IM → IR) (r7 : Int32 → Int32 → Int32 → Int32 → IM → IR) (x1 : Int32) (o a : Bool) (x : Nat) (C : IM) : IR := if zq_bI a = 0 then f_X6_readsCondition_39 qC qD r7 x1 (zq_bI o) (nI x) C else cl (f_X3_put 101 10016 C) fun _ M8 => f_X6_readsCondition_39 qC qD r7 x1 (zq_bI o) (nI x) M8
theorem zq_b0 : zq_bI false = 0 := rfl
theorem zq_b1 : zq_bI true = 1 := rfl
section CONDC
variable {T P : Nat → Nat} {m p : Nat} {C : IM} {qC qD : Int32 → IM → IR} {x1 : Int32} {cp : Nat → List Int32 → zq_R}
theorem zq_hdc {n x k : Nat} {o a : Bool} {l : List Int32} {f : Nat → List Int32 → zq_R} (hx : x < 400) (H : zq_cr P p C (qC x1 C) (cp k l)) (hm : ∀ (k1 : Nat) (l1 : List Int32) (C1 : IM), cp k l = .inr (k1, l1) → zq_ok p C C1 → zq_cs C1 k1 p l1 → zq_cr P p C1 (zq_mc qC qD (f_X6_readsCondition_7 qC qD n) x1 o a x C1) (f k1 l1)) : zq_cr P p C (f_X6_readsCondition_7 qC qD (n + 1) x1 (zq_bI o) (zq_bI a) (nI x) C) (zq_bd (cp k l) f) := by
  show zq_cr P p C (f_X6_readsCondition_7_b qC qD (f_X6_readsCondition_7 qC qD n) x1 (zq_bI o) (zq_bI a) (nI x) C) _
  unfold f_X6_readsCondition_7_b
  rw [if_neg (show ¬ (400 : Int32) ≤ nI x from nI_ge (b := 400) hx (by decide))]
  refine zq_cr_b H (fun C1 => if_pos rfl) (fun k1 l1 C1 e1 o1 s1 => ?_)
  rw [if_neg (by decide)]
  exact hm k1 l1 C1 e1 o1 s1
theorem zq_clc (H : ∀ (k : Nat) (l : List Int32) (C : IM), zq_ct C T P m → k ≤ m → zq_cs C k p l → p + zq_E l ≤ k → zq_cr P p C (qC x1 C) (cp k l)) (ha : ∀ (k : Nat) (l : List Int32) (k1 : Nat) (l1 : List Int32), k ≤ m → cp k l = .inr (k1, l1) → k < k1 ∧ k1 ≤ m ∧ zq_E l1 + k ≤ zq_E l + k1) : ∀ (g n x k d : Nat) (o a : Bool) (l : List Int32) (C : IM), m ≤ k + g → k ≤ m → m ≤ k + d → zq_ct C T P m → zq_cs C k p l → p + zq_E l + a.toNat + o.toNat ≤ k → x < k → m < n + k → zq_cr P p C (zq_mc qC qD (f_X6_readsCondition_7 qC qD n) x1 o a x C) (zq_cl T cp d o a k l) := by
  intro g
  induction g with
  | zero =>
    intro n x k d o a l C hg hk hd hc hs hb hx hn
    have hm := hc.1
    have hl := zq_len l
    have ekm : k = m := by omega
    have hTk : T k = 30000 := by rw [ekm]; exact hc.2.1
    have ez : zq_cl T cp d o a k l = .inr (k, zq_ap o 10015 (zq_ap a 10016 l)) := by
      cases d with
      | zero => rfl
      | succ d => unfold zq_cl; rw [if_neg (by omega), if_neg (by omega)]
    rw [ez]
    obtain ⟨C1, e1, o1, s1⟩ : ∃ C1, zq_mc qC qD (f_X6_readsCondition_7 qC qD n) x1 o a x C = f_X6_readsCondition_39 qC qD (f_X6_readsCondition_7 qC qD n) x1 (zq_bI o) (nI x) C1 ∧ zq_ok p C C1 ∧ zq_cs C1 k p (zq_ap a 10016 l) := by
      unfold zq_mc zq_ap
      cases a
      · exact ⟨C, if_pos rfl, zq_ok_rf, hs⟩
      · simp only [Bool.toNat_true] at hb
        obtain ⟨C1, p1, p2, p3⟩ := zq_put (c := 10016) hs (by omega)
        exact ⟨C1, by rw [if_neg (by decide), cl_s p1], p2, p3⟩
    have hc1 := zq_ct_f o1.1 hc
    rw [e1]
    unfold f_X6_readsCondition_39
    rw [zq_tk hc1 hk s1.1, hTk, if_neg (by decide)]
    unfold f_X6_readsCondition_59
    rw [if_pos rfl]
    obtain ⟨C2, e2, o2, s2⟩ : ∃ C2, (if zq_bI o = 0 then f_X6_readsCondition_78 qC qD (f_X6_readsCondition_7 qC qD n) x1 0 (nI x) C1 else cl (f_X3_put 101 10015 C1) fun _ M20 => f_X6_readsCondition_78 qC qD (f_X6_readsCondition_7 qC qD n) x1 0 (nI x) M20) = f_X6_readsCondition_78 qC qD (f_X6_readsCondition_7 qC qD n) x1 0 (nI x) C2 ∧ zq_ok p C1 C2 ∧ zq_cs C2 k p (zq_ap o 10015 (zq_ap a 10016 l)) := by
      cases o
      · exact ⟨C1, if_pos rfl, zq_ok_rf, s1⟩
      · simp only [Bool.toNat_true] at hb
        have := zq_len (zq_ap a 10016 l)
        rw [zq_Ea zq_ec.2.2.2.2.2.2.2.1] at this
        obtain ⟨C2, p1, p2, p3⟩ := zq_put (c := 10015) s1 (by omega)
        exact ⟨C2, by rw [if_neg (by decide), cl_s p1], p2, p3⟩
    rw [e2]
    unfold f_X6_readsCondition_78
    rw [zq_tk (zq_ct_f o2.1 hc1) hk s2.1, hTk, if_neg (by decide)]
    unfold f_X6_readsCondition_98
    rw [if_pos rfl]
    exact ⟨C2, rfl, zq_ok_tr o1 o2, s2⟩
  | succ g ih =>
    intro n x k d o a l C hg hk hd hc hs hb hx hn
    have hm := hc.1
    have hl := zq_len l
    obtain ⟨n, rfl⟩ : ∃ i, n = i + 1 := ⟨n - 1, by omega⟩
    obtain ⟨C1, e1, o1, s1⟩ : ∃ C1, zq_mc qC qD (f_X6_readsCondition_7 qC qD (n + 1)) x1 o a x C = f_X6_readsCondition_39 qC qD (f_X6_readsCondition_7 qC qD (n + 1)) x1 (zq_bI o) (nI x) C1 ∧ zq_ok p C C1 ∧ zq_cs C1 k p (zq_ap a 10016 l) := by
      unfold zq_mc zq_ap
      cases a
      · exact ⟨C, if_pos rfl, zq_ok_rf, hs⟩
      · simp only [Bool.toNat_true] at hb
        obtain ⟨C1, p1, p2, p3⟩ := zq_put (c := 10016) hs (by omega)
        exact ⟨C1, by rw [if_neg (by decide), cl_s p1], p2, p3⟩
    have hE1 := zq_Ea (b := a) zq_ec.2.2.2.2.2.2.2.1 l
    have hE2 := zq_Ea (b := o) zq_ec.2.2.2.2.2.2.2.2 (zq_ap a 10016 l)
    have hc1 := zq_ct_f o1.1 hc
    rw [e1]
    refine zq_cr_go o1 ?_
    unfold f_X6_readsCondition_39
    rw [zq_tk hc1 hk s1.1]
    by_cases q : T k = 10016
    · have hlt := zq_lt hc.2.1 hk q (by decide)
      obtain ⟨d, rfl⟩ : ∃ i, d = i + 1 := ⟨d - 1, by omega⟩
      rw [if_pos (by rw [q]; rfl)]
      unfold f_X6_readsCondition_59 zq_cl
      rw [if_neg (by decide), if_pos q, cl_s (zq_take hc1 hlt s1.1)]
      simp only [lt]
      rw [nI_1]
      have hc2 := zq_ct_f (p := p) (zq_ok_t (v := nI (k + 1))).1 hc1
      have s2 := zq_cs_t (k1 := k + 1) s1
      refine zq_cr_go zq_ok_t (zq_hdc (a := true) (by omega) (H (k + 1) _ _ hc2 (by omega) s2 (by omega)) (fun k1 l1 C3 e3 o3 s3 => ?_))
      have b := ha _ _ _ _ (by omega) e3
      exact ih n (x + 1) k1 d o true l1 C3 (by omega) (by omega) (by omega) (zq_ct_f o3.1 hc2) s3 (by rw [Bool.toNat_true]; omega) (by omega) (by omega)
    · rw [if_neg (zq_nt (c := 10016) (v := 10016) hc hk (by decide) rfl q)]
      unfold f_X6_readsCondition_59
      rw [if_pos rfl]
      obtain ⟨C2, e2, o2, s2⟩ : ∃ C2, (if zq_bI o = 0 then f_X6_readsCondition_78 qC qD (f_X6_readsCondition_7 qC qD (n + 1)) x1 0 (nI x) C1 else cl (f_X3_put 101 10015 C1) fun _ M20 => f_X6_readsCondition_78 qC qD (f_X6_readsCondition_7 qC qD (n + 1)) x1 0 (nI x) M20) = f_X6_readsCondition_78 qC qD (f_X6_readsCondition_7 qC qD (n + 1)) x1 0 (nI x) C2 ∧ zq_ok p C1 C2 ∧ zq_cs C2 k p (zq_ap o 10015 (zq_ap a 10016 l)) := by
        cases o
        · exact ⟨C1, if_pos rfl, zq_ok_rf, s1⟩
        · simp only [Bool.toNat_true] at hb
          have := zq_len (zq_ap a 10016 l)
          obtain ⟨C2, p1, p2, p3⟩ := zq_put (c := 10015) s1 (by omega)
          exact ⟨C2, by rw [if_neg (by decide), cl_s p1], p2, p3⟩
      rw [e2]
      refine zq_cr_go o2 ?_
      have hc2 := zq_ct_f o2.1 hc1
      unfold f_X6_readsCondition_78
      rw [zq_tk hc2 hk s2.1]
      by_cases q2 : T k = 10015
      · have hlt := zq_lt hc.2.1 hk q2 (by decide)
        obtain ⟨d, rfl⟩ : ∃ i, d = i + 1 := ⟨d - 1, by omega⟩
        rw [if_pos (by rw [q2]; rfl)]
        unfold f_X6_readsCondition_98 zq_cl
        rw [if_neg (by decide), if_neg q, if_pos q2, cl_s (zq_take hc2 hlt s2.1)]
        simp only [lt]
        rw [nI_1]
        have hc3 := zq_ct_f (p := p) (zq_ok_t (v := nI (k + 1))).1 hc2
        have s3 := zq_cs_t (k1 := k + 1) s2
        refine zq_cr_go zq_ok_t (zq_hdc (o := true) (a := false) (by omega) (H (k + 1) _ _ hc3 (by omega) s3 (by omega)) (fun k1 l1 C3 e3 o3 s3 => ?_))
        have b := ha _ _ _ _ (by omega) e3
        exact ih n (x + 1) k1 d true false l1 C3 (by omega) (by omega) (by omega) (zq_ct_f o3.1 hc3) s3 (by rw [Bool.toNat_true, Bool.toNat_false]; omega) (by omega) (by omega)
      · rw [if_neg (zq_nt (c := 10015) (v := 10015) hc hk (by decide) rfl q2)]
        unfold f_X6_readsCondition_98
        rw [if_pos rfl]
        have ez : zq_cl T cp d o a k l = .inr (k, zq_ap o 10015 (zq_ap a 10016 l)) := by
          cases d with
          | zero => rfl
          | succ d => unfold zq_cl; rw [if_neg q, if_neg q2]
        rw [ez]
        exact ⟨C2, rfl, zq_ok_rf, s2⟩
/-- a whole condition out of its comparisons -/
theorem zq_cdc {k : Nat} {l : List Int32} (H : ∀ (k : Nat) (l : List Int32) (C : IM), zq_ct C T P m → k ≤ m → zq_cs C k p l → p + zq_E l ≤ k → zq_cr P p C (qC x1 C) (cp k l)) (ha : ∀ (k : Nat) (l : List Int32) (k1 : Nat) (l1 : List Int32), k ≤ m → cp k l = .inr (k1, l1) → k < k1 ∧ k1 ≤ m ∧ zq_E l1 + k ≤ zq_E l + k1) (hc : zq_ct C T P m) (hk : k ≤ m) (hs : zq_cs C k p l) (hb : p + zq_E l ≤ k) : zq_cr P p C (f_X6_readsCondition_e qC qD x1 C) (zq_bd (cp k l) (zq_cl T cp m false false)) := by
  have hm := hc.1
  have hst : f_X6_readsCondition_e qC qD x1 C = f_X6_readsCondition_7 qC qD (999999 + 1) x1 (zq_bI false) (zq_bI false) (nI 0) C := rfl
  rw [hst]
  refine zq_hdc (by decide) (H k l C hc hk hs hb) (fun k1 l1 C1 e1 o1 s1 => ?_)
  have b := ha _ _ _ _ hk e1
  exact zq_clc H ha m 999999 0 k1 m false false l1 C1 (by omega) (by omega) (by omega) (zq_ct_f o1.1 hc) s1 (by simp only [Bool.toNat_false]; omega) (by omega) (by omega)
theorem zq_cmc {k : Nat} {l : List Int32} (hc : zq_ct C T P m) (hk : k ≤ m) (hs : zq_cs C k p l) (hb : p + zq_E l ≤ k) (h1 : ¬ T k = 10017) (h2 : ¬ T k = 20040) : zq_cr P p C (f_X6_readsComparison_e qC qD x1 C) (zq_cm T m k l) := by
  have hm := hc.1
  unfold f_X6_readsComparison_e
  rw [zq_tk hc hk hs.1, if_neg (zq_nt (c := 10017) (v := 10017) hc hk (by decide) rfl h1), if_neg (zq_nt (c := 20040) (v := 20040) hc hk (by decide) rfl h2)]
  unfold zq_cm
  refine zq_cr_b (zq_sum hc hk hs hb) (fun C1 => if_pos rfl) (fun k1 l1 C1 e1 o1 s1 => ?_)
  have b := zq_su_a hc.2.1 hk e1
  have hc1 := zq_ct_f o1.1 hc
  rw [if_neg (by decide), zq_tk hc1 b.2.1 s1.1]
  by_cases q : T k1 = 20060 ∨ T k1 = 20061 ∨ T k1 = 20062
  · have hlt : k1 < m := by
      rcases q with q | q | q
      · exact zq_lt hc.2.1 b.2.1 q (by decide)
      · exact zq_lt hc.2.1 b.2.1 q (by decide)
      · exact zq_lt hc.2.1 b.2.1 q (by decide)
    have e0 : (if nI (T k1) = 20060 then f_X6_readsComparison_143 qC qD (nI (T k1)) C1 else if nI (T k1) = 20061 then f_X6_readsComparison_143 qC qD (nI (T k1)) C1 else if nI (T k1) = 20062 then f_X6_readsComparison_143 qC qD (nI (T k1)) C1 else cl (f_X6_refuses 1 C1) fun w14 M15 => rz w14 M15) = f_X6_readsComparison_143 qC qD (nI (T k1)) C1 := by
      rcases q with q | q | q
      · rw [if_pos (by rw [q]; rfl)]
      · rw [if_neg (by rw [q]; decide), if_pos (by rw [q]; rfl)]
      · rw [if_neg (by rw [q]; decide), if_neg (by rw [q]; decide), if_pos (by rw [q]; rfl)]
    rw [e0, if_pos q]
    unfold f_X6_readsComparison_143
    rw [cl_s (zq_take hc1 hlt s1.1)]
    have hc2 := zq_ct_f (p := p) (zq_ok_t (v := nI (k1 + 1))).1 hc1
    refine zq_cr_go zq_ok_t (zq_cr_b (zq_sum hc2 (by omega) (zq_cs_t s1) (by omega)) (fun C1 => if_pos rfl) (fun k2 l2 C3 e3 o3 s3 => ?_))
    have b2 := zq_su_a hc.2.1 (by omega) e3
    have hl2 := zq_len l2
    rw [if_neg (by decide)]
    obtain ⟨C4, p1, p2, p3⟩ := zq_put (c := nI (T k1)) s3 (by omega)
    rw [cl_s p1]
    exact ⟨C4, rfl, p2, p3⟩
  · rw [if_neg q, if_neg (zq_nt (c := 20060) (v := 20060) hc b.2.1 (by decide) rfl (fun y => q (Or.inl y))), if_neg (zq_nt (c := 20061) (v := 20061) hc b.2.1 (by decide) rfl (fun y => q (Or.inr (Or.inl y)))), if_neg (zq_nt (c := 20062) (v := 20062) hc b.2.1 (by decide) rfl (fun y => q (Or.inr (Or.inr y)))), cl_s (zq_ref hc1 b.2.1 s1.1), rz_0]
    exact zq_cr_e rfl
theorem zq_cpc : ∀ (q n : Nat), q ≤ 8 → 2 * q + 1 ≤ n → ∀ (k : Nat) (l : List Int32) (C : IM), zq_ct C T P m → k ≤ m → zq_cs C k p l → p + zq_E l ≤ k → zq_cr P p C ((fr_X6_readsComparison n).1 (nI (8 - q)) C) (zq_cp T m q k l) := by
  intro q
  induction q with
  | zero =>
    intro n hq hn k l C hc hk hs hb
    obtain ⟨n, rfl⟩ : ∃ i, n = i + 1 := ⟨n - 1, by omega⟩
    show zq_cr P p C (f_X6_readsComparison_e (fr_X6_readsComparison n).1 (fr_X6_readsComparison n).2 (nI 8) C) (zq_cp T m 0 k l)
    unfold zq_cp
    by_cases z : T k = 10017 ∨ T k = 20040
    · rw [if_pos z]
      have e0 : f_X6_readsComparison_e (fr_X6_readsComparison n).1 (fr_X6_readsComparison n).2 (nI 8) C = f_X6_readsComparison_24 (fr_X6_readsComparison n).1 (fr_X6_readsComparison n).2 (nI 8) (nI (T k)) C := by
        unfold f_X6_readsComparison_e
        rw [zq_tk hc hk hs.1]
        rcases z with z | z
        · rw [if_pos (by rw [z]; rfl)]
        · rw [if_neg (by rw [z]; decide), if_pos (by rw [z]; rfl)]
      rw [e0]
      unfold f_X6_readsComparison_24
      rw [if_neg (by decide), cl_s (zq_ref hc hk hs.1), rz_0]
      exact zq_cr_e rfl
    · rw [if_neg z]
      exact zq_cmc hc hk hs hb (fun y => z (Or.inl y)) (fun y => z (Or.inr y))
  | succ q ih =>
    intro n hq hn k l C hc hk hs hb
    have hm := hc.1
    obtain ⟨n, rfl⟩ : ∃ i, n = i + 2 := ⟨n - 2, by omega⟩
    have i1 := fun (k : Nat) (l : List Int32) (C : IM) => ih (n + 1) (by omega) (by omega) k l C
    have i2 := fun (k : Nat) (l : List Int32) (C : IM) => ih n (by omega) (by omega) k l C
    have ed : (fr_X6_readsComparison (n + 1)).2 = f_X6_readsCondition_e (fr_X6_readsComparison n).1 (fr_X6_readsComparison n).2 := rfl
    have ex : nI (8 - (q + 1)) + 1 = nI (8 - q) := by rw [nI_1, show 8 - (q + 1) + 1 = 8 - q by omega]
    have hx8 : nI (8 - (q + 1)) < 8 := nI_lt (b := 8) (by omega) (by decide)
    show zq_cr P p C (f_X6_readsComparison_e (fr_X6_readsComparison (n + 1)).1 (fr_X6_readsComparison (n + 1)).2 (nI (8 - (q + 1))) C) (zq_cp T m (q + 1) k l)
    unfold zq_cp
    by_cases z : T k = 10017
    · have hlt := zq_lt hc.2.1 hk z (by decide)
      rw [if_pos z]
      unfold f_X6_readsComparison_e
      rw [zq_tk hc hk hs.1, if_pos (by rw [z]; rfl)]
      unfold f_X6_readsComparison_24
      rw [if_pos hx8, cl_s (zq_take hc hlt hs.1), if_neg (by rw [z]; decide), ex]
      have hc2 := zq_ct_f (p := p) (zq_ok_t (v := nI (k + 1))).1 hc
      refine zq_cr_go zq_ok_t (zq_cr_b (i1 (k + 1) l _ hc2 (by omega) (zq_cs_t hs) (by omega)) (fun C1 => if_pos rfl) (fun k2 l2 C3 e3 o3 s3 => ?_))
      have b2 := zq_cp_a hc.2.1 q _ _ _ _ (by omega) e3
      have hl2 := zq_len l2
      rw [if_neg (by decide)]
      obtain ⟨C4, p1, p2, p3⟩ := zq_put (c := 10017) s3 (by omega)
      rw [cl_s p1]
      exact ⟨C4, rfl, p2, p3⟩
    · rw [if_neg z]
      by_cases z2 : T k = 20040
      · have hlt := zq_lt hc.2.1 hk z2 (by decide)
        rw [if_pos z2]
        unfold f_X6_readsComparison_e
        rw [zq_tk hc hk hs.1, if_neg (by rw [z2]; decide), if_pos (by rw [z2]; rfl)]
        unfold f_X6_readsComparison_24
        rw [if_pos hx8, cl_s (zq_take hc hlt hs.1), if_pos (by rw [z2]; rfl), ex, ed]
        have hc2 := zq_ct_f (p := p) (zq_ok_t (v := nI (k + 1))).1 hc
        have hD := zq_cdc (qD := (fr_X6_readsComparison n).2) i2 (zq_cp_a hc.2.1 q) hc2 (show k + 1 ≤ m by omega) (zq_cs_t hs) (by omega)
        refine zq_cr_go zq_ok_t (zq_cr_b hD (fun C1 => if_pos rfl) (fun k2 l2 C3 e3 o3 s3 => ?_))
        have b2 := zq_cd_a hc.2.1 (by omega) (show zq_cd T m q (k + 1) l = _ from e3)
        have hc3 := zq_ct_f o3.1 hc2
        obtain ⟨t1, t2⟩ := zq_tks (c := 20041) hc3 b2.2.1 s3.1 (by decide)
        rw [if_neg (by decide)]
        by_cases y : T k2 = 20041
        · rw [if_pos y, cl_s (show f_X6_takes 20041 C3 = _ from t1 y), if_neg (by decide)]
          exact ⟨_, rfl, zq_ok_t, zq_cs_t s3⟩
        · rw [if_neg y, cl_s (show f_X6_takes 20041 C3 = _ from t2 y), if_pos rfl]
          exact zq_cr_e rfl
      · rw [if_neg z2]
        exact zq_cmc hc hk hs hb z z2
theorem zq_cond {k : Nat} {l : List Int32} (hc : zq_ct C T P m) (hk : k ≤ m) (hs : zq_cs C k p l) (hb : p + zq_E l ≤ k) : zq_cr P p C (f_X6_readsCondition 0 C) (zq_cd T m 8 k l) := by
  have i2 := fun (k : Nat) (l : List Int32) (C : IM) => zq_cpc (T := T) (P := P) (m := m) (p := p) 8 23 (by decide) (by decide) k l C
  exact zq_cdc (qD := (fr_X6_readsComparison 23).2) (x1 := nI (8 - 8)) i2 (zq_cp_a hc.2.1 8) hc hk hs hb
end CONDC
