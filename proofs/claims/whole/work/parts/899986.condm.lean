/-! text: the model's conditions follow the pure reader -/
def zq_sk (r : Nat → Int32) : List Int32 → Prop
  | [] => True
  | c :: t => r t.length = c ∧ zq_sk r t
def zq_dk (D : IM) (s : List Int32) (o : Nat) : Prop := D 136 31 = nI s.length ∧ zq_sk (D 152) s ∧ D 136 29 = nI o
def zq_dg (p : Nat) (D D1 : IM) : Prop := (∀ i : Nat, i < 800 + p → D1 150 i = D 150 i ∧ D1 151 i = D 151 i) ∧ (∀ j : Nat, j ∉ [15, 16, 17, 18, 28, 29, 31, 32, 33] → D1 136 j = D 136 j) ∧ fr [136, 150, 151, 152] D D1
def zq_gk (D D1 : IM) : Prop := (∀ j : Nat, j ∉ [29, 31] → D1 136 j = D 136 j) ∧ fr [136, 152] D D1
theorem zq_dg_rf {p : Nat} {D : IM} : zq_dg p D D := ⟨fun _ _ => ⟨rfl, rfl⟩, fun _ _ => rfl, fr_rf⟩
theorem zq_dg_tr {p : Nat} {D D1 D2 : IM} (h : zq_dg p D D1) (h2 : zq_dg p D1 D2) : zq_dg p D D2 := ⟨fun i hi => ⟨(h2.1 i hi).1.trans (h.1 i hi).1, (h2.1 i hi).2.trans (h.1 i hi).2⟩, fun j hj => (h2.2.1 j hj).trans (h.2.1 j hj), fr_tr h.2.2 h2.2.2⟩
theorem zq_df_g {p : Nat} {D D1 : IM} (h : zq_df p D D1) : zq_dg p D D1 := ⟨h.1, fun j hj => h.2.1 j (fun z => hj (by
  have hs : ∀ q ∈ [15, 16, 17, 18, 28, 32, 33], q ∈ [15, 16, 17, 18, 28, 29, 31, 32, 33] := by decide
  exact hs j z)), fr_sub h.2.2 (by decide)⟩
theorem zq_gk_g {p : Nat} {D D1 : IM} (h : zq_gk D D1) : zq_dg p D D1 := ⟨fun i _ => ⟨by rw [h.2 150 (by decide)], by rw [h.2 151 (by decide)]⟩, fun j hj => h.1 j (fun z => hj (by
  have hs : ∀ q ∈ [29, 31], q ∈ [15, 16, 17, 18, 28, 29, 31, 32, 33] := by decide
  exact hs j z)), fr_sub h.2 (by decide)⟩
theorem zq_gk_tr {D D1 D2 : IM} (h : zq_gk D D1) (h2 : zq_gk D1 D2) : zq_gk D D2 := ⟨fun j hj => (h2.1 j hj).trans (h.1 j hj), fr_tr h.2 h2.2⟩
theorem zq_gk_1 {D : IM} {j : Nat} {v : Int32} (hj : j ∈ [29, 31]) : zq_gk D (ms D 136 j v) := ⟨fun i hi => ms_at (fun z => hi (by rw [z]; exact hj)), fr_ms fr_rf (by decide)⟩
theorem zq_sk_c {r r1 : Nat → Int32} : ∀ (s : List Int32), (∀ i : Nat, i < s.length → r1 i = r i) → zq_sk r s → zq_sk r1 s
  | [], _, _ => trivial
  | c :: t, h, hs => ⟨by rw [h t.length (by simp)]; exact hs.1, zq_sk_c t (fun i hi => h i (by simp; omega)) hs.2⟩
section CONDM
variable {tx : Nat → Nat} {len m p : Nat} {D : IM}
theorem zq_ds_k {D1 : IM} {k : Nat} {g : List (Int32 × Int32)} (hf : zq_gk D D1) (h : zq_ds D tx len m k p g) : zq_ds D1 tx len m k p g := by
  obtain ⟨⟨h1, h2, h3, h4⟩, a, c1, c2⟩ := h
  refine ⟨⟨by rw [hf.2 143 (by decide)]; exact h1, fun i hi => by rw [hf.2 144 (by decide)]; exact h2 i hi, by rw [hf.1 14 (by decide)]; exact h3, h4⟩, ?_, by rw [hf.1 28 (by decide)]; exact c1, fun i hi => by rw [hf.2 150 (by decide), hf.2 151 (by decide)]; exact c2 i hi⟩
  unfold AtM at *
  rw [hf.1 15 (by decide), hf.1 16 (by decide), hf.1 17 (by decide), hf.1 18 (by decide)]
  exact a
theorem zq_dk_f {D1 : IM} {s : List Int32} {o : Nat} (hf : zq_df p D D1) (h : zq_dk D s o) : zq_dk D1 s o := ⟨by rw [hf.2.1 31 (by decide)]; exact h.1, by rw [hf.2.2 152 (by decide)]; exact h.2.1, by rw [hf.2.1 29 (by decide)]; exact h.2.2⟩
theorem zq_wt {s : List Int32} {o : Nat} {c : Int32} (h : zq_dk D s o) (hb : s.length < 40) : ∃ D1, f_X12_waits c D = some (0, D1) ∧ zq_gk D D1 ∧ zq_dk D1 (c :: s) o := by
  refine ⟨ms (ms D 152 s.length c) 136 31 (nI (s.length + 1)), ?_, ⟨fun j hj => ?_, fr_ms (fr_ms fr_rf (by decide)) (by decide)⟩, ?_, ⟨?_, ?_⟩, ?_⟩
  · unfold f_X12_waits
    rw [h.1, wrK (j := s.length) rfl hb (by decide)]
    simp only [pt]
    rw [ms_ne (by decide), h.1, nI_1]
  · rw [ms_at (fun z => hj (by rw [z]; decide)), ms_ne (by decide)]
  · rw [ms_it]; rfl
  · rw [ms_ne (by decide), ms_it]
  · refine zq_sk_c s (fun i hi => ?_) h.2.1
    rw [ms_ne (by decide), ms_at (by omega)]
  · rw [ms_at (by decide), ms_ne (by decide)]; exact h.2.2
theorem zq_stn {s : List Int32} {o n : Nat} {c : Int32} (h : zq_dk D s o) (hb : s.length ≤ 40) (hc : ¬ s.head? = some c) : f_X12_settles_0 (n + 1) c D = some (0, D) := by
  show f_X12_settles_0_b (f_X12_settles_0 n) c D = _
  unfold f_X12_settles_0_b
  cases s with
  | nil => rw [h.1, if_pos (by decide)]
  | cons x t =>
    simp only [List.length_cons] at hb
    rw [h.1, if_neg (nI_nle (by simp) (by simp; omega)), List.length_cons, rdK (j := t.length) (nI_pred t.length) (by omega) (by decide), h.2.1.1, if_neg (fun z => hc (by rw [z]; rfl))]
theorem zq_sts {t : List Int32} {o n k : Nat} {g : List (Int32 × Int32)} {c : Int32} (hs : zq_ds D tx len m k p g) (h : zq_dk D (c :: t) o) (hb : t.length < 40) (hg : p + g.length < 400) (ho : c = 9 → 0 < o) : ∃ D1, f_X12_settles_0 (n + 1) c D = f_X12_settles_0 n c D1 ∧ zq_dg p D D1 ∧ zq_ds D1 tx len m k p (g ++ [(c, 0)]) ∧ zq_dk D1 t (if c = 9 then o - 1 else o) := by
  have hk1 : zq_gk D (ms D 136 31 (nI t.length)) := zq_gk_1 (by decide)
  have d1 : zq_dk (ms D 136 31 (nI t.length)) t o := ⟨ms_it, by rw [ms_ne (by decide)]; exact h.2.1.2, by rw [ms_at (by decide)]; exact h.2.2⟩
  obtain ⟨D2, a1, a2, a3⟩ := zq_em (a := c) (b := 0) (zq_ds_k hk1 hs) hg
  have d2 := zq_dk_f a2 d1
  have e0 : f_X12_settles_0 (n + 1) c D = if c = 9 then f_X12_settles_0 n c (ms D2 136 29 (D2 136 29 - 1)) else f_X12_settles_0 n c D2 := by
    show f_X12_settles_0_b (f_X12_settles_0 n) c D = _
    unfold f_X12_settles_0_b
    rw [h.1, if_neg (nI_nle (by simp) (by simp; omega)), List.length_cons, rdK (j := t.length) (nI_pred t.length) (by omega) (by decide), h.2.1.1, if_pos rfl]
    simp only [pt]
    rw [show nI (t.length + 1) - 1 = nI t.length from nI_pred t.length, cl_s a1]
  rw [e0]
  by_cases q : c = 9
  · rw [if_pos q, if_pos q]
    have hk2 : zq_gk D2 (ms D2 136 29 (D2 136 29 - 1)) := zq_gk_1 (by decide)
    have := ho q
    refine ⟨_, rfl, zq_dg_tr (zq_gk_g hk1) (zq_dg_tr (zq_df_g a2) (zq_gk_g hk2)), zq_ds_k hk2 a3, by rw [ms_at (by decide)]; exact d2.1, by rw [ms_ne (by decide)]; exact d2.2.1, ?_⟩
    rw [ms_it, d2.2.2]
    exact pk_sub (b := 1) (by omega)
  · rw [if_neg q, if_neg q]
    exact ⟨D2, rfl, zq_dg_tr (zq_gk_g hk1) (zq_df_g a2), a3, d2⟩
/-- all nots on top -/
theorem zq_st9 {s0 : List Int32} {k : Nat} (hk : k ≤ 400) (h0 : ¬ s0.head? = some 9) : ∀ (j n o : Nat) (l : List Int32) (D : IM), zq_ds D tx len m k p (encL l) → zq_dk D (List.replicate j 9 ++ s0) o → j + s0.length ≤ 40 → p + zq_E l + j ≤ k → j ≤ o → j < n → ∃ D1, f_X12_settles_0 n 9 D = some (0, D1) ∧ zq_dg p D D1 ∧ zq_ds D1 tx len m k p (encL (l ++ List.replicate j 10017)) ∧ zq_dk D1 s0 (o - j) := by
  intro j
  induction j with
  | zero =>
    intro n o l D hs h hb hE ho hn
    obtain ⟨n, rfl⟩ : ∃ i, n = i + 1 := ⟨n - 1, by omega⟩
    rw [List.replicate_zero, List.nil_append] at h
    refine ⟨D, zq_stn h (by omega) h0, zq_dg_rf, ?_, h⟩
    rw [List.replicate_zero, List.append_nil]
    exact hs
  | succ j ih =>
    intro n o l D hs h hb hE ho hn
    obtain ⟨n, rfl⟩ : ∃ i, n = i + 1 := ⟨n - 1, by omega⟩
    rw [List.replicate_succ, List.cons_append] at h
    have hlen : (List.replicate j (9 : Int32) ++ s0).length < 40 := by rw [List.length_append, List.length_replicate]; omega
    obtain ⟨D1, e1, g1, s1, k1⟩ := zq_sts (n := n) hs h hlen (by unfold zq_E at hE; omega) (fun _ => by omega)
    rw [if_pos rfl] at k1
    have s2 : zq_ds D1 tx len m k p (encL (l ++ [10017])) := by
      rw [encL_app, encL_1, zq_ec.2.2.2.2.2.2.1]
      exact s1
    have hE2 := zq_Ek zq_ec.2.2.2.2.2.2.1 l
    obtain ⟨D2, e2, g2, s3, k2⟩ := ih n (o - 1) (l ++ [10017]) D1 s2 k1 (by omega) (by omega) (by omega) (by omega)
    refine ⟨D2, by rw [e1, e2], zq_dg_tr g1 g2, ?_, by rw [show o - (j + 1) = o - 1 - j by omega]; exact k2⟩
    rw [List.replicate_succ, ← List.singleton_append, ← List.append_assoc]
    exact s3
/-- an and, or an or, that waits on top -/
theorem zq_st1 {t l : List Int32} {o k : Nat} {b : Bool} {c cc : Int32} (hk : k ≤ 400) (hc : encC cc = [(c, 0)]) (h9 : ¬ c = 9) (ht : ¬ t.head? = some c) (hs : zq_ds D tx len m k p (encL l)) (h : zq_dk D ((if b = true then [c] else []) ++ t) o) (hb : t.length < 39) (hE : p + zq_E l + b.toNat ≤ k) : ∃ D1, f_X12_settles c D = some (0, D1) ∧ zq_dg p D D1 ∧ zq_ds D1 tx len m k p (encL (zq_ap b cc l)) ∧ zq_dk D1 t o := by
  have e0 : f_X12_settles c D = f_X12_settles_0 (999998 + 1 + 1) c D := rfl
  rw [e0]
  unfold zq_ap
  cases b with
  | false => exact ⟨D, zq_stn (n := 999998 + 1) h (by show t.length ≤ 40; omega) ht, zq_dg_rf, hs, h⟩
  | true =>
    simp only [Bool.toNat_true] at hE
    obtain ⟨D1, e1, g1, s1, k1⟩ := zq_sts (n := 999998 + 1) (t := t) hs h (by omega) (by unfold zq_E at hE; omega) (fun z => absurd z h9)
    rw [if_neg h9] at k1
    refine ⟨D1, ?_, g1, ?_, k1⟩
    · rw [e1]; exact zq_stn k1 (by omega) ht
    · rw [if_pos rfl, encL_app, encL_1, hc]; exact s1
end CONDM
def zq_tl (r9 : Int32 → Int32 → IM → IR) (x1 : Int32) (M15 : IM) : IR := if x1 = 0 then some (0, M15) else cl (f_X12_isSign 41 M15) fun w18 M19 => if w18 = 0 then cl (f_X12_errs 1 M19) fun w31 M32 => some (w31, M32) else pt M19 136 31 ((M19 136 31) - 1) fun M22 => lt (x1 - 1) fun v23 => pt M22 136 29 ((M22 136 29) - 1) fun M24 => cl (f_X12_settles 9 M24) fun _ M26 => cl (f_X12_reads M26) fun _ M29 => r9 v23 0 M29
def zq_lr (tx : Nat → Nat) (len p : Nat) (D : IM) (x : IR) (r : zq_R) (Q : Nat → List Int32 → IM → Prop) : Prop := match r with
  | .inl (f, k) => ∃ D1, x = some (-1, D1) ∧ zq_dg p D D1 ∧ D1 136 32 = nI f ∧ D1 136 33 = nI (pl tx len k)
  | .inr (k, l) => ∃ D1, zq_dg p D D1 ∧ Q k l D1
def zq_lp (D : IM) (tx : Nat → Nat) (len m k p : Nat) (l s : List Int32) (o : Nat) : Prop := zq_ds D tx len m k p (encL l) ∧ zq_dk D s o
def zq_sq (o a : Bool) (s : List Int32) : List Int32 := (if a = true then [10] else []) ++ ((if o = true then [11] else []) ++ s)
/-- what is claimed of comparisons with q more levels left -/
def zq_HP (tx : Nat → Nat) (len m p q : Nat) : Prop := ∀ (n k b j : Nat) (l s0 : List Int32) (D : IM), k ≤ m → b ≤ 8 → zq_lp D tx len m k p l (List.replicate j 9 ++ s0) (8 - q) → j ≤ 8 - q → ¬ s0.head? = some 9 → p + zq_E l + j ≤ k → j + s0.length + 3 * q ≤ 26 → b + q ≤ 8 → m < n + k → zq_lr tx len p D (f_X12_readAny_9 n (nI b) 1 D) (zq_cp (tkC tx len m) m q k l) (fun k1 l1 D1 => ∃ n1, f_X12_readAny_9 n (nI b) 1 D = f_X12_readAny_9 n1 (nI b) 0 D1 ∧ m < n1 + k1 ∧ zq_lp D1 tx len m k1 p (l1 ++ List.replicate j 10017) s0 (8 - q - j))
section CONDL
variable {tx : Nat → Nat} {len m p : Nat} {D : IM}
theorem zq_lr_e {f k : Nat} {x : IR} {Q : Nat → List Int32 → IM → Prop} (h : x = some (-1, ms (ms D 136 32 (nI f)) 136 33 (nI (pl tx len k)))) : zq_lr tx len p D x (.inl (f, k)) Q := ⟨_, h, zq_df_g zq_df_e.1, (zq_df_e (p := p)).2.1, (zq_df_e (p := p)).2.2⟩
theorem zq_lr_go {D1 : IM} {x y : IR} {r : zq_R} {Q Q1 : Nat → List Int32 → IM → Prop} (hg : zq_dg p D D1) (e : x = y) (h : zq_lr tx len p D1 y r Q1) (hq : ∀ k l D2, zq_dg p D1 D2 → Q1 k l D2 → Q k l D2) : zq_lr tx len p D x r Q := by
  subst e
  cases r with
  | inl z =>
    obtain ⟨D2, e1, e2, e3, e4⟩ := h
    exact ⟨D2, e1, zq_dg_tr hg e2, e3, e4⟩
  | inr z =>
    obtain ⟨D2, e1, e2⟩ := h
    exact ⟨D2, zq_dg_tr hg e1, hq z.1 z.2 D2 e1 e2⟩
theorem zq_lr_b {x : IR} {r : zq_R} {f : Nat → List Int32 → zq_R} {Q Q1 : Nat → List Int32 → IM → Prop} (h : zq_lr tx len p D x r Q1) (hq : ∀ k l D2, r = .inr (k, l) → zq_dg p D D2 → Q1 k l D2 → zq_lr tx len p D2 x (f k l) Q) : zq_lr tx len p D x (zq_bd r f) Q := by
  cases r with
  | inl z => exact h
  | inr z =>
    obtain ⟨D2, e1, e2⟩ := h
    exact zq_lr_go e1 rfl (hq z.1 z.2 D2 rfl e1 e2) (fun _ _ _ _ z => z)
theorem zq_cllm {q : Nat} (hq : q ≤ 8) (H : zq_HP tx len m p q) : ∀ (g n k d b : Nat) (o a : Bool) (l s1 : List Int32) (D : IM), m ≤ k + g → k ≤ m → m ≤ k + d → b + q ≤ 8 → zq_lp D tx len m k p l (zq_sq o a s1) (8 - q) → (¬ s1.head? = some 9 ∧ ¬ s1.head? = some 10 ∧ ¬ s1.head? = some 11) → p + zq_E l + a.toNat + o.toNat ≤ k → s1.length + 2 + 3 * q ≤ 26 → m < n + k → zq_lr tx len p D (f_X12_readAny_9 n (nI b) 0 D) (zq_cl (tkC tx len m) (zq_cp (tkC tx len m) m q) d o a k l) (fun k1 l1 D1 => ∃ n1, f_X12_readAny_9 n (nI b) 0 D = zq_tl (f_X12_readAny_9 n1) (nI b) D1 ∧ m ≤ n1 + k1 ∧ zq_lp D1 tx len m k1 p l1 s1 (8 - q)) := by
  intro g
  induction g with
  | zero =>
    intro n k d b o a l s1 D hg hk hd hbq hp h9 hE hL hn
    obtain ⟨-, -, -, hl4, hml, -, -⟩ := hp.1.1
    have ekm : k = m := by omega
    have hTk : tkC tx len m k = 30000 := by rw [ekm]; exact zq_Tm
    obtain ⟨n, rfl⟩ : ∃ i, n = i + 1 := ⟨n - 1, by omega⟩
    have hst : f_X12_readAny_9 (n + 1) (nI b) 0 D = f_X12_readAny_9_b (f_X12_readAny_9 n) (nI b) 0 D := rfl
    have w7 : f_X12_isWord 7 D = _ := zq_wd (w := 7) hp.1.2.1 hk (by decide)
    have w6 : f_X12_isWord 6 D = _ := zq_wd (w := 6) hp.1.2.1 hk (by decide)
    have hE1 := zq_Ea (b := a) zq_ec.2.2.2.2.2.2.2.1 l
    obtain ⟨D1, a1, a2, a3, a4⟩ := zq_st1 (b := a) (c := 10) (cc := 10016) (by omega) zq_ec.2.2.2.2.2.2.2.1 (by decide) (by cases o <;> simp_all) hp.1 hp.2 (by cases o <;> simp <;> omega) (by omega)
    obtain ⟨D2, b1, b2, b3, b4⟩ := zq_st1 (b := o) (c := 11) (cc := 10015) (by omega) zq_ec.2.2.2.2.2.2.2.2 (by decide) h9.2.2 a3 a4 (by omega) (by omega)
    have ez : zq_cl (tkC tx len m) (zq_cp (tkC tx len m) m q) d o a k l = .inr (k, zq_ap o 10015 (zq_ap a 10016 l)) := by
      cases d with
      | zero => rfl
      | succ d => unfold zq_cl; rw [if_neg (by omega), if_neg (by omega)]
    rw [ez]
    refine ⟨D2, zq_dg_tr a2 b2, n, ?_, by omega, b3, b4⟩
    rw [hst]
    unfold f_X12_readAny_9_b
    rw [if_pos rfl, cl_s w7, if_pos (by rw [hTk]; decide), cl_s w6, if_pos (by rw [hTk]; decide), cl_s a1, cl_s b1]
    rfl
  | succ g ih =>
    intro n k d b o a l s1 D hg hk hd hbq hp h9 hE hL hn
    obtain ⟨-, -, -, hl4, hml, -, -⟩ := hp.1.1
    obtain ⟨n, rfl⟩ : ∃ i, n = i + 1 := ⟨n - 1, by omega⟩
    have hst : f_X12_readAny_9 (n + 1) (nI b) 0 D = f_X12_readAny_9_b (f_X12_readAny_9 n) (nI b) 0 D := rfl
    have w7 : f_X12_isWord 7 D = some (if tkC tx len m k = 10016 then 1 else 0, D) := zq_wd (w := 7) hp.1.2.1 hk (by decide)
    have w6 : f_X12_isWord 6 D = some (if tkC tx len m k = 10015 then 1 else 0, D) := zq_wd (w := 6) hp.1.2.1 hk (by decide)
    have hE1 := zq_Ea (b := a) zq_ec.2.2.2.2.2.2.2.1 l
    have hE2 := zq_Ea (b := o) zq_ec.2.2.2.2.2.2.2.2 (zq_ap a 10016 l)
    obtain ⟨D1, a1, a2, a3, a4⟩ := zq_st1 (b := a) (c := 10) (cc := 10016) (by omega) zq_ec.2.2.2.2.2.2.2.1 (by decide) (by cases o <;> simp_all) hp.1 hp.2 (by cases o <;> simp <;> omega) (by omega)
    by_cases q1 : tkC tx len m k = 10016
    · have hlt := zq_lt zq_Tm hk q1 (by decide)
      obtain ⟨d, rfl⟩ : ∃ i, d = i + 1 := ⟨d - 1, by omega⟩
      obtain ⟨D2, b1, b2, b3⟩ := zq_wt (c := 10) a4 (by cases o <;> simp <;> omega)
      obtain ⟨D3, c1, c2, c3⟩ := zq_nx (zq_ds_k b2 a3) hlt
      have k3 := zq_dk_f c2 b3
      have e0 : f_X12_readAny_9 (n + 1) (nI b) 0 D = f_X12_readAny_9 n (nI b) 1 D3 := by
        rw [hst]
        unfold f_X12_readAny_9_b
        rw [if_pos rfl, cl_s w7, if_pos q1, if_neg (by decide), cl_s a1, cl_s b1, cl_s c1]
      have g3 : zq_dg p D D3 := zq_dg_tr a2 (zq_dg_tr (zq_gk_g b2) (zq_df_g c2))
      unfold zq_cl
      rw [if_pos q1, e0]
      refine zq_lr_go (Q1 := fun k1 l1 D1 => ∃ n1, f_X12_readAny_9 n (nI b) 1 D3 = zq_tl (f_X12_readAny_9 n1) (nI b) D1 ∧ m ≤ n1 + k1 ∧ zq_lp D1 tx len m k1 p l1 s1 (8 - q)) g3 rfl ?_ (fun _ _ _ _ z => z)
      refine zq_lr_b (H n (k + 1) b 0 (zq_ap a 10016 l) (zq_sq o true s1) D3 (by omega) (by omega) ⟨c3, k3⟩ (by omega) (by simp [zq_sq]) (by omega) (by cases o <;> simp [zq_sq] <;> omega) hbq (by omega)) (fun k1 l1 D4 e1 g4 hQ => ?_)
      obtain ⟨n1, f1, f2, f3⟩ := hQ
      rw [List.replicate_zero, List.append_nil] at f3
      have b5 := zq_cp_a zq_Tm q _ _ _ _ (by omega) e1
      rw [f1]
      exact ih n1 k1 d b o true l1 s1 D4 (by omega) (by omega) (by omega) hbq f3 h9 (by rw [Bool.toNat_true]; omega) hL (by omega)
    · obtain ⟨D2, b1, b2, b3, b4⟩ := zq_st1 (b := o) (c := 11) (cc := 10015) (by omega) zq_ec.2.2.2.2.2.2.2.2 (by decide) h9.2.2 a3 a4 (by omega) (by omega)
      by_cases q2 : tkC tx len m k = 10015
      · have hlt := zq_lt zq_Tm hk q2 (by decide)
        obtain ⟨d, rfl⟩ : ∃ i, d = i + 1 := ⟨d - 1, by omega⟩
        obtain ⟨D3, c1, c2, c3⟩ := zq_wt (c := 11) b4 (by omega)
        obtain ⟨D4, d1, d2, d3⟩ := zq_nx (zq_ds_k c2 b3) hlt
        have k4 := zq_dk_f d2 c3
        have e0 : f_X12_readAny_9 (n + 1) (nI b) 0 D = f_X12_readAny_9 n (nI b) 1 D4 := by
          rw [hst]
          unfold f_X12_readAny_9_b
          rw [if_pos rfl, cl_s w7, if_neg q1, if_pos rfl, cl_s w6, if_pos q2, if_neg (by decide), cl_s a1, cl_s b1, cl_s c1, cl_s d1]
        have g3 : zq_dg p D D4 := zq_dg_tr a2 (zq_dg_tr b2 (zq_dg_tr (zq_gk_g c2) (zq_df_g d2)))
        unfold zq_cl
        rw [if_neg q1, if_pos q2, e0]
        refine zq_lr_go (Q1 := fun k1 l1 D1 => ∃ n1, f_X12_readAny_9 n (nI b) 1 D4 = zq_tl (f_X12_readAny_9 n1) (nI b) D1 ∧ m ≤ n1 + k1 ∧ zq_lp D1 tx len m k1 p l1 s1 (8 - q)) g3 rfl ?_ (fun _ _ _ _ z => z)
        refine zq_lr_b (H n (k + 1) b 0 (zq_ap o 10015 (zq_ap a 10016 l)) (zq_sq true false s1) D4 (by omega) (by omega) ⟨d3, k4⟩ (by omega) (by simp [zq_sq]) (by omega) (by simp [zq_sq]; omega) hbq (by omega)) (fun k1 l1 D5 e1 g4 hQ => ?_)
        obtain ⟨n1, f1, f2, f3⟩ := hQ
        rw [List.replicate_zero, List.append_nil] at f3
        have b5 := zq_cp_a zq_Tm q _ _ _ _ (by omega) e1
        rw [f1]
        exact ih n1 k1 d b true false l1 s1 D5 (by omega) (by omega) (by omega) hbq f3 h9 (by rw [Bool.toNat_true, Bool.toNat_false]; omega) hL (by omega)
      · have ez : zq_cl (tkC tx len m) (zq_cp (tkC tx len m) m q) d o a k l = .inr (k, zq_ap o 10015 (zq_ap a 10016 l)) := by
          cases d with
          | zero => rfl
          | succ d => unfold zq_cl; rw [if_neg q1, if_neg q2]
        rw [ez]
        refine ⟨D2, zq_dg_tr a2 b2, n, ?_, by omega, b3, b4⟩
        rw [hst]
        unfold f_X12_readAny_9_b
        rw [if_pos rfl, cl_s w7, if_neg q1, if_pos rfl, cl_s w6, if_neg q2, if_pos rfl, cl_s a1, cl_s b1]
        rfl
/-- no not, no bracket: a comparison, and the nots that wait for it -/
theorem zq_leaf {n k b j o : Nat} {l s0 : List Int32} (hk : k ≤ m) (hp : zq_lp D tx len m k p l (List.replicate j 9 ++ s0) o) (hj : j ≤ o) (h9 : ¬ s0.head? = some 9) (hE : p + zq_E l + j ≤ k) (hL : j + s0.length ≤ 26) (hn : m < n + k) (h1 : ¬ tkC tx len m k = 10017) (h2 : ¬ tkC tx len m k = 20040) : zq_lr tx len p D (f_X12_readAny_9 n (nI b) 1 D) (zq_cm (tkC tx len m) m k l) (fun k1 l1 D1 => ∃ n1, f_X12_readAny_9 n (nI b) 1 D = f_X12_readAny_9 n1 (nI b) 0 D1 ∧ m < n1 + k1 ∧ zq_lp D1 tx len m k1 p (l1 ++ List.replicate j 10017) s0 (o - j)) := by
  obtain ⟨-, -, -, hl4, hml, -, -⟩ := hp.1.1
  obtain ⟨n, rfl⟩ : ∃ i, n = i + 1 := ⟨n - 1, by omega⟩
  have w8 : f_X12_isWord 8 D = some (if tkC tx len m k = 10017 then 1 else 0, D) := zq_wd (w := 8) hp.1.2.1 hk (by decide)
  have s40 : f_X12_isSign 40 D = some (if tkC tx len m k = 20040 then 1 else 0, D) := zq_si (s := 40) hp.1.2.1 hk (by decide)
  have hst : f_X12_readAny_9 (n + 1) (nI b) 1 D = cl (f_X12_readCompared D) fun w63 M64 => if w63 = (-1) then some ((-1), M64) else cl (f_X12_settles 9 M64) fun _ M68 => f_X12_readAny_9 n (nI b) 0 M68 := by
    show f_X12_readAny_9_b (f_X12_readAny_9 n) (nI b) 1 D = _
    unfold f_X12_readAny_9_b
    rw [if_neg (by decide), cl_s w8, if_neg h1, if_pos rfl, cl_s s40, if_neg h2, if_pos rfl]
  rw [hst]
  have hm := zq_cmm hp.1 hk (by omega)
  have ha : ∀ k1 l1, zq_cm (tkC tx len m) m k l = .inr (k1, l1) → _ := fun k1 l1 e => zq_cm_a zq_Tm hk e
  cases hr : zq_cm (tkC tx len m) m k l with
  | inl e =>
    rw [hr] at hm
    obtain ⟨D1, e1, e2, e3, e4⟩ := hm
    exact ⟨D1, by rw [cl_s e1, if_pos rfl], zq_df_g e2, e3, e4⟩
  | inr e =>
    obtain ⟨k1, l1⟩ := e
    rw [hr] at hm
    obtain ⟨D1, e1, e2, e3⟩ := hm
    have b1 := ha k1 l1 hr
    obtain ⟨D2, f1, f2, f3, f4⟩ := zq_st9 (by omega) h9 j BG o l1 D1 e3 (zq_dk_f e2 hp.2) (by omega) (by omega) hj (by unfold BG; omega)
    exact ⟨D2, zq_dg_tr (zq_df_g e2) f2, n, by rw [cl_s e1, if_neg (by decide), cl_s (show f_X12_settles 9 D1 = _ from f1)], by omega, f3, f4⟩
theorem zq_cpm : ∀ (q : Nat), q ≤ 8 → zq_HP tx len m p q := by
  intro q
  induction q with
  | zero =>
    intro hq n k b j l s0 D hk hb8 hp hj h9 hE hL hbq hn
    unfold zq_cp
    by_cases z : tkC tx len m k = 10017 ∨ tkC tx len m k = 20040
    · obtain ⟨n, rfl⟩ : ∃ i, n = i + 1 := ⟨n - 1, by omega⟩
      have w8 : f_X12_isWord 8 D = some (if tkC tx len m k = 10017 then 1 else 0, D) := zq_wd (w := 8) hp.1.2.1 hk (by decide)
      have s40 : f_X12_isSign 40 D = some (if tkC tx len m k = 20040 then 1 else 0, D) := zq_si (s := 40) hp.1.2.1 hk (by decide)
      have e33 : ∀ w : Int32, f_X12_readAny_33 (f_X12_readAny_9 n) (nI b) 1 w D = some (-1, ms (ms D 136 32 3) 136 33 (nI (pl tx len k))) := fun w => by
        unfold f_X12_readAny_33
        rw [if_pos (by rw [hp.2.2.2]; rfl), cl_s (zq_er hp.1.2.1)]
      rw [if_pos z]
      refine zq_lr_e ?_
      show f_X12_readAny_9_b (f_X12_readAny_9 n) (nI b) 1 D = _
      unfold f_X12_readAny_9_b
      rcases z with z | z
      · rw [if_neg (by decide), cl_s w8, if_pos z, if_neg (by decide)]
        exact e33 _
      · rw [if_neg (by decide), cl_s w8, if_neg (show ¬ tkC tx len m k = 10017 by omega), if_pos rfl, cl_s s40, if_pos z, if_neg (by decide)]
        exact e33 _
    · rw [if_neg z]
      exact zq_leaf hk hp hj h9 hE (by omega) hn (fun y => z (Or.inl y)) (fun y => z (Or.inr y))
  | succ q ih =>
    intro hq n k b j l s0 D hk hb8 hp hj h9 hE hL hbq hn
    obtain ⟨-, -, -, hl4, hml, -, -⟩ := hp.1.1
    have ih := ih (by omega)
    have hlen : (List.replicate j (9 : Int32) ++ s0).length = j + s0.length := by rw [List.length_append, List.length_replicate]
    unfold zq_cp
    by_cases z : tkC tx len m k = 10017 ∨ tkC tx len m k = 20040
    · obtain ⟨n, rfl⟩ : ∃ i, n = i + 1 := ⟨n - 1, by omega⟩
      have w8 : f_X12_isWord 8 D = some (if tkC tx len m k = 10017 then 1 else 0, D) := zq_wd (w := 8) hp.1.2.1 hk (by decide)
      have s40 : f_X12_isSign 40 D = some (if tkC tx len m k = 20040 then 1 else 0, D) := zq_si (s := 40) hp.1.2.1 hk (by decide)
      have n8 : ¬ D 136 29 = 8 := by
        rw [hp.2.2.2]
        exact fun y => by have := (zq_eq (b := 8) (by omega) (by decide)).mp y; omega
      have hg1 : zq_gk D (ms D 136 29 (nI (8 - q))) := zq_gk_1 (by decide)
      have d1 : zq_dk (ms D 136 29 (nI (8 - q))) (List.replicate j 9 ++ s0) (8 - q) := ⟨by rw [ms_at (by decide)]; exact hp.2.1, by rw [ms_ne (by decide)]; exact hp.2.2.1, ms_it⟩
      have e29 : D 136 29 + 1 = nI (8 - q) := by rw [hp.2.2.2, nI_1, show 8 - (q + 1) + 1 = 8 - q by omega]
      have hlt : k < m := by
        rcases z with z | z
        · exact zq_lt zq_Tm hk z (by decide)
        · exact zq_lt zq_Tm hk z (by decide)
      have step : ∀ c : Int32, ∃ D3, f_X12_waits c (ms D 136 29 (nI (8 - q))) = some (0, D3) ∧ ∃ D4, f_X12_reads D3 = some (0, D4) ∧ zq_dg p D D4 ∧ zq_lp D4 tx len m (k + 1) p l (c :: (List.replicate j 9 ++ s0)) (8 - q) := fun c => by
        obtain ⟨D3, b1, b2, b3⟩ := zq_wt (c := c) d1 (by omega)
        obtain ⟨D4, c1, c2, c3⟩ := zq_nx (zq_ds_k b2 (zq_ds_k hg1 hp.1)) hlt
        exact ⟨D3, b1, D4, c1, zq_dg_tr (zq_gk_g hg1) (zq_dg_tr (zq_gk_g b2) (zq_df_g c2)), c3, zq_dk_f c2 b3⟩
      by_cases z1 : tkC tx len m k = 10017
      · obtain ⟨D3, b1, D4, c1, g4, p4⟩ := step 9
        have e0 : f_X12_readAny_9 (n + 1) (nI b) 1 D = f_X12_readAny_9 n (nI b) 1 D4 := by
          show f_X12_readAny_9_b (f_X12_readAny_9 n) (nI b) 1 D = _
          unfold f_X12_readAny_9_b
          rw [if_neg (by decide), cl_s w8, if_pos z1, if_neg (by decide)]
          unfold f_X12_readAny_33
          rw [if_neg n8]
          simp only [pt]
          rw [e29, if_neg (by decide)]
          unfold f_X12_readAny_66
          rw [if_neg (by decide), cl_s b1, cl_s c1]
        rw [if_pos z1, e0]
        refine zq_lr_go (Q1 := fun k1 l1 D1 => ∃ n1, f_X12_readAny_9 n (nI b) 1 D4 = f_X12_readAny_9 n1 (nI b) 0 D1 ∧ m < n1 + k1 ∧ zq_lp D1 tx len m k1 p (l1 ++ List.replicate j 10017) s0 (8 - (q + 1) - j)) g4 rfl ?_ (fun _ _ _ _ z => z)
        refine zq_lr_b (ih n (k + 1) b (j + 1) l s0 D4 (by omega) hb8 (by rw [List.replicate_succ, List.cons_append]; exact p4) (by omega) h9 (by omega) (by omega) (by omega) (by omega)) (fun k1 l1 D5 e1 g5 hQ => ?_)
        obtain ⟨n1, f1, f2, f3⟩ := hQ
        refine ⟨D5, zq_dg_rf, n1, f1, f2, ?_⟩
        rw [show 8 - (q + 1) - j = 8 - q - (j + 1) by omega, List.append_assoc, List.singleton_append, ← List.replicate_succ]
        exact f3
      · have z2 : tkC tx len m k = 20040 := by
          rcases z with z | z
          · exact absurd z z1
          · exact z
        obtain ⟨D3, b1, D4, c1, g4, p4⟩ := step 12
        have e0 : f_X12_readAny_9 (n + 1) (nI b) 1 D = f_X12_readAny_9 n (nI (b + 1)) 1 D4 := by
          show f_X12_readAny_9_b (f_X12_readAny_9 n) (nI b) 1 D = _
          unfold f_X12_readAny_9_b
          rw [if_neg (by decide), cl_s w8, if_neg z1, if_pos rfl, cl_s s40, if_pos z2, if_neg (by decide)]
          unfold f_X12_readAny_33
          rw [if_neg n8]
          simp only [pt]
          rw [e29, if_pos trivial]
          simp only [lt]
          unfold f_X12_readAny_66
          rw [if_pos rfl, cl_s b1, cl_s c1, nI_1]
        rw [if_neg z1, if_pos z2, e0, zq_as]
        refine zq_lr_go (Q1 := fun k1 l1 D1 => ∃ n1, f_X12_readAny_9 n (nI (b + 1)) 1 D4 = f_X12_readAny_9 n1 (nI b) 0 D1 ∧ m < n1 + k1 ∧ zq_lp D1 tx len m k1 p (l1 ++ List.replicate j 10017) s0 (8 - (q + 1) - j)) g4 rfl ?_ (fun _ _ _ _ z => z)
        refine zq_lr_b (ih n (k + 1) (b + 1) 0 l (12 :: (List.replicate j 9 ++ s0)) D4 (by omega) (by omega) p4 (by omega) (by simp) (by omega) (by simp only [List.length_cons]; omega) (by omega) (by omega)) (fun k1 l1 D5 e1 g5 hQ => ?_)
        obtain ⟨n1, f1, f2, f3⟩ := hQ
        rw [List.replicate_zero, List.append_nil] at f3
        have b5 := zq_cp_a zq_Tm q _ _ _ _ (by omega) e1
        rw [f1]
        refine zq_lr_b (zq_cllm (by omega) ih m n1 k1 m (b + 1) false false l1 (12 :: (List.replicate j 9 ++ s0)) D5 (by omega) (by omega) (by omega) (by omega) f3 ⟨by simp, by simp, by simp⟩ (by simp only [Bool.toNat_false]; omega) (by simp only [List.length_cons]; omega) (by omega)) (fun k2 l2 D6 e2 g6 hR => ?_)
        obtain ⟨n2, r1, r2, r3⟩ := hR
        have b6 := zq_cl_a zq_Tm (zq_cp_a zq_Tm q) m false false k1 l1 k2 l2 b5.2.1 e2
        simp only [Bool.toNat_false] at b6
        rw [r1]
        have s41 : f_X12_isSign 41 D6 = some (if tkC tx len m k2 = 20041 then 1 else 0, D6) := zq_si (s := 41) r3.1.2.1 b6.2.1 (by decide)
        unfold zq_tl
        rw [if_neg (nI_ne0 (by omega) (by omega)), cl_s s41]
        by_cases y : tkC tx len m k2 = 20041
        · have hlt2 := zq_lt zq_Tm b6.2.1 y (by decide)
          rw [if_pos y, if_pos y, if_neg (by decide)]
          simp only [pt, lt]
          have hg7 : zq_gk D6 (ms (ms D6 136 31 (nI (j + s0.length))) 136 29 (nI (8 - (q + 1)))) := zq_gk_tr (zq_gk_1 (by decide)) (zq_gk_1 (by decide))
          have k7 : zq_dk (ms (ms D6 136 31 (nI (j + s0.length))) 136 29 (nI (8 - (q + 1)))) (List.replicate j 9 ++ s0) (8 - (q + 1)) := ⟨by rw [ms_at (by decide), ms_it, hlen], by rw [ms_ne (by decide), ms_ne (by decide)]; exact r3.2.2.1.2, ms_it⟩
          have e31 : D6 136 31 - 1 = nI (j + s0.length) := by
            rw [r3.2.1, List.length_cons, hlen]
            exact nI_pred _
          have e2b : ms D6 136 31 (nI (j + s0.length)) 136 29 - 1 = nI (8 - (q + 1)) := by
            rw [ms_at (by decide), r3.2.2.2, show 8 - q = 8 - (q + 1) + 1 by omega]
            exact nI_pred _
          obtain ⟨D8, u1, u2, u3, u4⟩ := zq_st9 (by omega) h9 j BG (8 - (q + 1)) l2 _ (zq_ds_k hg7 r3.1) k7 (by omega) (by omega) (by omega) (by unfold BG; omega)
          obtain ⟨D9, v1, v2, v3⟩ := zq_nx u3 hlt2
          refine ⟨D9, zq_dg_tr (zq_gk_g hg7) (zq_dg_tr u2 (zq_df_g v2)), n2, ?_, by omega, v3, zq_dk_f v2 u4⟩
          rw [e31, e2b, cl_s (show f_X12_settles 9 _ = _ from u1), cl_s v1, show nI (b + 1) - 1 = nI b from nI_pred b]
        · rw [if_neg y, if_neg y, if_pos rfl, cl_s (zq_er r3.1.2.1)]
          exact zq_lr_e rfl
    · rw [if_neg (fun y => z (Or.inl y)), if_neg (fun y => z (Or.inr y))]
      exact zq_leaf hk hp hj h9 hE (by omega) hn (fun y => z (Or.inl y)) (fun y => z (Or.inr y))
/-- a whole condition -/
theorem zq_anym {k : Nat} {l : List Int32} (h : zq_ds D tx len m k p (encL l)) (h29 : D 136 29 = 0) (hk : k ≤ m) (hb : p + zq_E l ≤ k) : zq_lr tx len p D (f_X12_readAny D) (zq_cd (tkC tx len m) m 8 k l) (fun k1 l1 D1 => f_X12_readAny D = some (0, D1) ∧ zq_ds D1 tx len m k1 p (encL l1) ∧ D1 136 29 = 0) := by
  obtain ⟨-, -, -, hl4, hml, -, -⟩ := h.1
  have hg : zq_gk D (ms D 136 31 0) := zq_gk_1 (by decide)
  have k0 : zq_dk (ms D 136 31 0) [] (8 - 8) := ⟨ms_it, trivial, by rw [ms_at (by decide), h29]; rfl⟩
  have e0 : f_X12_readAny D = f_X12_readAny_9 BG (nI 0) 1 (ms D 136 31 0) := rfl
  have H : zq_HP tx len m p 8 := zq_cpm 8 (by decide)
  unfold zq_cd
  rw [e0]
  refine zq_lr_go (zq_gk_g hg) rfl (Q1 := fun k1 l1 D1 => f_X12_readAny_9 BG (nI 0) 1 (ms D 136 31 0) = some (0, D1) ∧ zq_ds D1 tx len m k1 p (encL l1) ∧ D1 136 29 = 0) ?_ (fun _ _ _ _ z => z)
  refine zq_lr_b (H BG k 0 0 l [] _ hk (by decide) ⟨zq_ds_k hg h, k0⟩ (by omega) (by simp) (by omega) (by simp) (by omega) (by unfold BG; omega)) (fun k1 l1 D5 e1 g5 hQ => ?_)
  obtain ⟨n1, f1, f2, f3⟩ := hQ
  rw [List.replicate_zero, List.append_nil] at f3
  have b5 := zq_cp_a zq_Tm 8 _ _ _ _ hk e1
  rw [f1]
  refine zq_lr_go zq_dg_rf rfl (zq_cllm (by decide) H m n1 k1 m 0 false false l1 [] D5 (by omega) (by omega) (by omega) (by decide) f3 ⟨by simp, by simp, by simp⟩ (by simp only [Bool.toNat_false]; omega) (by simp) (by omega)) (fun k2 l2 D6 g6 hR => ?_)
  obtain ⟨n2, r1, r2, r3⟩ := hR
  refine ⟨?_, r3.1, r3.2.2.2⟩
  rw [r1]
  unfold zq_tl
  rw [if_pos (show nI 0 = 0 from rfl)]
end CONDL
