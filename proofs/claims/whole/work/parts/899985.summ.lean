/-! text: the model's sums follow the pure reader -/
def zq_dt (D : IM) (tx : Nat → Nat) (len m : Nat) : Prop := Tx (D 143) tx ∧ IvWords D ∧ D 136 14 = nI len ∧ len ≤ 400 ∧ m ≤ len ∧ pl tx len m = len ∧ ∀ x : Nat, x < m → pl tx len x < len
def zq_ds (D : IM) (tx : Nat → Nat) (len m k p : Nat) (g : List (Int32 × Int32)) : Prop := zq_dt D tx len m ∧ AtM D tx len m k ∧ D 136 28 = nI (p + g.length) ∧ Prs D (800 + p) g
def zq_df (p : Nat) (D D1 : IM) : Prop := (∀ i : Nat, i < 800 + p → D1 150 i = D 150 i ∧ D1 151 i = D 151 i) ∧ (∀ j : Nat, j ∉ [15, 16, 17, 18, 28, 32, 33] → D1 136 j = D 136 j) ∧ fr [136, 150, 151] D D1
def zq_dr (tx : Nat → Nat) (len m p : Nat) (D : IM) (x : IR) (r : zq_R) : Prop := match r with
  | .inl (f, k) => ∃ D1, x = some (-1, D1) ∧ zq_df p D D1 ∧ D1 136 32 = nI f ∧ D1 136 33 = nI (pl tx len k)
  | .inr (k, l) => ∃ D1, x = some (0, D1) ∧ zq_df p D D1 ∧ zq_ds D1 tx len m k p (encL l)
theorem zq_df_rf {p : Nat} {D : IM} : zq_df p D D := ⟨fun _ _ => ⟨rfl, rfl⟩, fun _ _ => rfl, fr_rf⟩
theorem zq_df_tr {p : Nat} {D D1 D2 : IM} (h : zq_df p D D1) (h2 : zq_df p D1 D2) : zq_df p D D2 := ⟨fun i hi => ⟨(h2.1 i hi).1.trans (h.1 i hi).1, (h2.1 i hi).2.trans (h.1 i hi).2⟩, fun j hj => (h2.2.1 j hj).trans (h.2.1 j hj), fr_tr h.2.2 h2.2.2⟩
theorem zq_dt_f {p : Nat} {D D1 : IM} {tx : Nat → Nat} {len m : Nat} (h : zq_df p D D1) (hd : zq_dt D tx len m) : zq_dt D1 tx len m := by
  obtain ⟨h1, h2, h3, h4⟩ := hd
  refine ⟨by rw [h.2.2 143 (by decide)]; exact h1, fun i hi => by rw [h.2.2 144 (by decide)]; exact h2 i hi, by rw [h.2.1 14 (by decide)]; exact h3, h4⟩
theorem zq_dr_go {tx : Nat → Nat} {len m p : Nat} {D D1 : IM} {x : IR} {r : zq_R} (h : zq_df p D D1) (h2 : zq_dr tx len m p D1 x r) : zq_dr tx len m p D x r := by
  cases r with
  | inl e =>
    obtain ⟨D2, e1, e2, e3, e4⟩ := h2
    exact ⟨D2, e1, zq_df_tr h e2, e3, e4⟩
  | inr e =>
    obtain ⟨D2, e1, e2, e3⟩ := h2
    exact ⟨D2, e1, zq_df_tr h e2, e3⟩
theorem zq_dr_b {tx : Nat → Nat} {len m p : Nat} {D : IM} {x : IR} {r : zq_R} {g : Int32 → IM → IR} {f : Nat → List Int32 → zq_R} (hx : zq_dr tx len m p D x r) (h0 : ∀ D1, g (-1) D1 = some (-1, D1)) (h1 : ∀ (k : Nat) (l : List Int32) (D1 : IM), r = .inr (k, l) → zq_df p D D1 → zq_ds D1 tx len m k p (encL l) → zq_dr tx len m p D1 (g 0 D1) (f k l)) : zq_dr tx len m p D (cl x g) (zq_bd r f) := by
  cases r with
  | inl e =>
    obtain ⟨D2, e1, e2, e3, e4⟩ := hx
    rw [cl_s e1, h0]
    exact ⟨D2, rfl, e2, e3, e4⟩
  | inr e =>
    obtain ⟨D2, e1, e2, e3⟩ := hx
    rw [cl_s e1]
    exact zq_dr_go e2 (h1 e.1 e.2 D2 rfl e2 e3)
section SUMM
variable {tx : Nat → Nat} {len m p : Nat} {D : IM}
theorem zq_cf_df {D1 : IM} (h : cf D D1) : zq_df p D D1 := by
  refine ⟨fun i _ => ⟨h 150 i (Or.inl (by decide)), h 151 i (Or.inl (by decide))⟩, fun j hj => h 136 j (Or.inr ?_), fun q hq => cf_row h (fun z => hq (by rw [z]; decide))⟩
  simp only [List.mem_cons, not_or] at hj
  exact ⟨hj.1, hj.2.1, hj.2.2.1, hj.2.2.2.1⟩
theorem zq_tok {k : Nat} (h : AtM D tx len m k) (hk : k ≤ m) : TokE (tkC tx len m k) (D 136 17) (D 136 18) := by
  unfold tkC
  by_cases q : k < m
  · rw [if_pos q]; exact Or.inl (h.2.2 q).2
  · rw [if_neg q]; exact Or.inr ⟨rfl, (h.2.1 (by omega)).2⟩
theorem zq_Tm : tkC tx len m m = 30000 := by unfold tkC; rw [if_neg (by omega)]
theorem zq_nx {k : Nat} {g : List (Int32 × Int32)} (h : zq_ds D tx len m k p g) (hk : k < m) : ∃ D1, f_X12_reads D = some (0, D1) ∧ zq_df p D D1 ∧ zq_ds D1 tx len m (k + 1) p g := by
  obtain ⟨⟨h1, h2, h3, h4, h5, h6, h7⟩, a, c1, c2⟩ := h
  have h15 := (a.2.2 hk).1
  have hp := h7 k hk
  have hbg := (pl_le (tx := tx) (len := len) k).2 hp
  obtain ⟨t1, t2, -, -⟩ := ten_ok hp hbg.1
  have ep : pl tx len (k + 1) = rnE tx len 0 (ten tx len (pl tx len k)) := by
    show (if pl tx len k < len then _ else len) = _
    rw [if_pos hp]
  obtain ⟨X, g1, g2, g3, g4, g5⟩ := reads_e h1 h2 h3 h4 (len - ten tx len (pl tx len k)) BG (ten tx len (pl tx len k)) D (by omega) (by unfold BG; omega) cf_rf h15
  rw [← ep] at g3 g4 g5
  have hf : zq_df p D X := zq_cf_df g2
  refine ⟨X, g1, hf, zq_dt_f hf ⟨h1, h2, h3, h4, h5, h6, h7⟩, ⟨g3, fun e => g4 (by rw [e]; exact h6), fun e => g5 (h7 (k + 1) e)⟩, by rw [g2 136 28 (by decide)]; exact c1, fun i hi => ?_⟩
  rw [g2 150 _ (Or.inl (by decide)), g2 151 _ (Or.inl (by decide))]
  exact c2 i hi
theorem zq_fs (h : zq_dt D tx len m) (h28 : D 136 28 = nI p) (h15 : D 136 15 = nI 0) : ∃ D1, f_X12_reads D = some (0, D1) ∧ zq_df p D D1 ∧ zq_ds D1 tx len m 0 p [] := by
  obtain ⟨h1, h2, h3, h4, h5, h6, h7⟩ := h
  obtain ⟨X, g1, g2, g3, g4, g5⟩ := reads_e h1 h2 h3 h4 len BG 0 D (by omega) (by unfold BG; omega) cf_rf h15
  have hf : zq_df p D X := zq_cf_df g2
  exact ⟨X, g1, hf, zq_dt_f hf ⟨h1, h2, h3, h4, h5, h6, h7⟩, ⟨g3, fun e => g4 (show pl tx len 0 = len from by rw [e]; exact h6), fun e => g5 (h7 0 e)⟩, by rw [g2 136 28 (by decide)]; exact h28, fun i hi => absurd hi (by simp)⟩
theorem zq_gl {g : List (Int32 × Int32)} {c : Int32 × Int32} {i : Nat} (hi : i < g.length) : (g ++ [c]).getD i (0, 0) = g.getD i (0, 0) := by
  simp only [List.getD_eq_getElem?_getD]
  rw [List.getElem?_append_left hi]
theorem zq_gr {g : List (Int32 × Int32)} {c : Int32 × Int32} : (g ++ [c]).getD g.length (0, 0) = c := by
  simp [List.getD_eq_getElem?_getD]
theorem zq_em {k : Nat} {g : List (Int32 × Int32)} {a b : Int32} (h : zq_ds D tx len m k p g) (hb : p + g.length < 400) : ∃ D1, f_X12_emits a b D = some (0, D1) ∧ zq_df p D D1 ∧ zq_ds D1 tx len m k p (g ++ [(a, b)]) := by
  obtain ⟨h1, h2, h3, h4⟩ := h
  have e8 : (800 : Int32) + nI (p + g.length) = nI (800 + p + g.length) := by
    rw [show (800 : Int32) + nI (p + g.length) = nI (800 + (p + g.length)) from nI_add 800 _, Nat.add_assoc]
  have hf : zq_df p D (ms (ms (ms D 150 (800 + p + g.length) a) 151 (800 + p + g.length) b) 136 28 (nI (p + g.length + 1))) := by
    refine ⟨fun i hi => ⟨?_, ?_⟩, fun j hj => ?_, fr_ms (fr_ms (fr_ms fr_rf (by decide)) (by decide)) (by decide)⟩
    · rw [ms_ne (by decide), ms_ne (by decide), ms_at (by omega)]
    · rw [ms_ne (by decide), ms_at (by omega), ms_ne (by decide)]
    · rw [ms_at (fun z => hj (by rw [z]; decide)), ms_ne (by decide), ms_ne (by decide)]
  refine ⟨_, ?_, hf, zq_dt_f hf h1, ⟨?_, fun e => ⟨?_, ?_⟩, fun e => ⟨?_, ?_⟩⟩, ?_, fun i hi => ⟨?_, ?_⟩⟩
  · unfold f_X12_emits
    rw [h3, wrK (j := 800 + p + g.length) e8 (by omega) (by decide), ms_ne (by decide), h3, wrK (j := 800 + p + g.length) e8 (by omega) (by decide)]
    simp only [pt]
    rw [ms_ne (by decide), ms_ne (by decide), h3, nI_1]
  · rw [ms_at (by decide), ms_ne (by decide), ms_ne (by decide)]; exact h2.1
  · rw [ms_at (by decide), ms_ne (by decide), ms_ne (by decide)]; exact (h2.2.1 e).1
  · rw [ms_at (by decide), ms_ne (by decide), ms_ne (by decide)]; exact (h2.2.1 e).2
  · rw [ms_at (by decide), ms_ne (by decide), ms_ne (by decide)]; exact (h2.2.2 e).1
  · rw [ms_at (by decide), ms_at (by decide), ms_ne (by decide), ms_ne (by decide)]; exact (h2.2.2 e).2
  · rw [ms_it, List.length_append]; rfl
  · rw [ms_ne (by decide), ms_ne (by decide)]
    rw [List.length_append, List.length_singleton] at hi
    by_cases q : i = g.length
    · subst q
      rw [ms_it, zq_gr]
    · rw [ms_at (by omega), (h4 i (by omega)).1, zq_gl (by omega)]
  · rw [ms_ne (by decide)]
    rw [List.length_append, List.length_singleton] at hi
    by_cases q : i = g.length
    · subst q
      rw [ms_it, zq_gr]
    · rw [ms_at (by omega), ms_ne (by decide), (h4 i (by omega)).2, zq_gl (by omega)]
theorem zq_er {k : Nat} {f : Int32} (h : AtM D tx len m k) : f_X12_errs f D = some (-1, ms (ms D 136 32 f) 136 33 (nI (pl tx len k))) := by rw [errs_m, h.1]
theorem zq_df_e {f v : Int32} : zq_df p D (ms (ms D 136 32 f) 136 33 v) ∧ ms (ms D 136 32 f) 136 33 v 136 32 = f ∧ ms (ms D 136 32 f) 136 33 v 136 33 = v := by
  refine ⟨⟨fun i _ => ⟨by rw [ms_ne (by decide), ms_ne (by decide)], by rw [ms_ne (by decide), ms_ne (by decide)]⟩, fun j hj => ?_, fr_ms (fr_ms fr_rf (by decide)) (by decide)⟩, by rw [ms_at (by decide), ms_it], ms_it⟩
  rw [ms_at (fun z => hj (by rw [z]; decide)), ms_at (fun z => hj (by rw [z]; decide))]
theorem zq_dr_e {f k : Nat} {x : IR} (h : x = some (-1, ms (ms D 136 32 (nI f)) 136 33 (nI (pl tx len k)))) : zq_dr tx len m p D x (.inl (f, k)) := ⟨_, h, zq_df_e.1, (zq_df_e (p := p)).2.1, (zq_df_e (p := p)).2.2⟩
theorem zq_wd {k w : Nat} (h : AtM D tx len m k) (hk : k ≤ m) (hw : w < 22) : f_X12_isWord (nI w) D = some (if tkC tx len m k = 10000 + wM w then 1 else 0, D) := isWord_m (zq_tok h hk) hw
theorem zq_si {k s : Nat} (h : AtM D tx len m k) (hk : k ≤ m) (hs : s < 256) : f_X12_isSign (nI s) D = some (if tkC tx len m k = 20000 + s then 1 else 0, D) := isSign_m (zq_tok h hk) hs
theorem zq_t3 {c : Nat} {t v : Int32} (h : TokE c t v) : (c < 10000 → t = 3 ∧ v = nI c) ∧ (10000 ≤ c → ¬ t = 3) ∧ (20000 ≤ c → c < 20256 → v = nI (c - 20000)) ∧ (c = 30000 ↔ t = 0) ∧ c < 40000 := by
  rcases h with (⟨h1, h2, h3⟩ | ⟨h1, h2, h3, h4⟩ | ⟨h1, h2, h3, h4⟩ | ⟨h1, h2⟩) | ⟨h1, h2⟩
  · exact ⟨fun _ => ⟨h2, h3⟩, fun z => by omega, fun z => by omega, ⟨fun z => by omega, fun z => by rw [h2] at z; exact absurd z (by decide)⟩, by omega⟩
  · exact ⟨fun z => by omega, fun _ => by rw [h3]; decide, fun z => by omega, ⟨fun z => by omega, fun z => by rw [h3] at z; exact absurd z (by decide)⟩, by omega⟩
  · exact ⟨fun z => by omega, fun _ => by rw [h3]; decide, fun _ _ => h4, ⟨fun z => by omega, fun z => by rw [h3] at z; exact absurd z (by decide)⟩, by omega⟩
  · exact ⟨fun z => by omega, fun _ => by rw [h2]; decide, fun _ z => by omega, ⟨fun z => by omega, fun z => by rw [h2] at z; exact absurd z (by decide)⟩, by omega⟩
  · exact ⟨fun z => by omega, fun _ => by rw [h2]; decide, fun _ z => by omega, ⟨fun _ => h2, fun _ => h1⟩, by omega⟩
theorem zq_unm {k : Nat} {l : List Int32} (h : zq_ds D tx len m k p (encL l)) (hk : k ≤ m) (hb : p + zq_E l ≤ k) : zq_dr tx len m p D (f_X12_readUnit D) (if 10009 ≤ tkC tx len m k then .inl (1, k) else .inr (k + 1, l ++ [nI (tkC tx len m k)])) := by
  obtain ⟨-, -, -, hl, hml, -, -⟩ := h.1
  have ht := zq_tok h.2.1 hk
  have hkm : tkC tx len m k < 30000 → k < m := fun z => by
    rcases Nat.lt_or_ge k m with y | y
    · exact y
    · have e : k = m := by omega
      rw [e, zq_Tm] at z
      omega
  have hbad : ¬ D 136 17 = 3 → f_X12_readUnit_24 0 D = some (-1, ms (ms D 136 32 1) 136 33 (nI (pl tx len k))) := fun z => by
    unfold f_X12_readUnit_24
    rw [if_pos rfl, if_neg z, cl_s (zq_er h.2.1)]
  have hgood : ∀ (a b : Int32), encC (nI (tkC tx len m k)) = [(a, b)] → k < m → ∃ D1 D2, f_X12_emits a b D = some (0, D1) ∧ f_X12_reads D1 = some (0, D2) ∧ zq_df p D D2 ∧ zq_ds D2 tx len m (k + 1) p (encL (l ++ [nI (tkC tx len m k)])) := fun a b e hlt => by
    obtain ⟨D1, a1, a2, a3⟩ := zq_em (a := a) (b := b) h (by unfold zq_E at hb; omega)
    obtain ⟨D2, b1, b2, b3⟩ := zq_nx a3 hlt
    exact ⟨D1, D2, a1, b1, zq_df_tr a2 b2, by rw [encL_app, encL_1, e]; exact b3⟩
  generalize hc : tkC tx len m k = c at *
  by_cases q : 10009 ≤ c
  · rw [if_pos q]
    refine zq_dr_e ?_
    have h3 := (zq_t3 ht).2.1 (by omega)
    unfold f_X12_readUnit
    by_cases t2 : D 136 17 = 2
    · rw [if_pos t2]
      have hv : c < 10022 ∧ D 136 18 = nI (wM (c - 10000)) := by
        rcases ht with (⟨h1, h2, h3⟩ | ⟨h1, h2, h3, h4⟩ | ⟨h1, h2, h3, h4⟩ | ⟨h1, h2⟩) | ⟨h1, h2⟩
        · omega
        · exact ⟨h2, h4⟩
        · rw [h3] at t2; exact absurd t2 (by decide)
        · rw [h2] at t2; exact absurd t2 (by decide)
        · rw [h2] at t2; exact absurd t2 (by decide)
      have hw : wM (c - 10000) < 9 ∨ 17 < wM (c - 10000) := by
        unfold wM
        rw [if_neg (by omega)]
        split <;> omega
      have hw2 := (wM_lt (w := c - 10000) (by omega)).1
      have hcan : f_X12_canAsk (D 136 18) D = some (0, D) := by
        unfold f_X12_canAsk
        rw [cl_s (win_m _ _ _ _), if_pos, rz_0]
        rw [hv.2]
        rcases hw with hw | hw
        · exact Or.inl (nI_lt (b := 9) hw (by decide))
        · exact Or.inr (nI_lt (a := 17) hw (by omega))
      rw [cl_s hcan, if_pos rfl]
      exact hbad h3
    · rw [if_neg t2]
      exact hbad h3
  · rw [if_neg q]
    have hlt := hkm (by omega)
    by_cases q2 : c < 10000
    · obtain ⟨v1, v2⟩ := (zq_t3 ht).1 q2
      obtain ⟨D1, D2, a1, b1, b2, b3⟩ := hgood 0 (nI c) (enc_num q2) hlt
      refine ⟨D2, ?_, b2, b3⟩
      unfold f_X12_readUnit
      rw [if_neg (by rw [v1]; decide)]
      unfold f_X12_readUnit_24
      rw [if_pos rfl, if_pos v1]
      unfold f_X12_readUnit_43
      rw [if_pos rfl]
      unfold f_X12_readUnit_53
      rw [if_pos rfl, v2, cl_s a1, cl_s b1]
    · have hv : D 136 17 = 2 ∧ D 136 18 = nI (wM (c - 10000)) := by
        rcases ht with (⟨h1, h2, h3⟩ | ⟨h1, h2, h3, h4⟩ | ⟨h1, h2, h3, h4⟩ | ⟨h1, h2⟩) | ⟨h1, h2⟩
        · omega
        · exact ⟨h3, h4⟩
        · omega
        · omega
        · omega
      have hw : wM (c - 10000) = c - 10000 + 9 := by
        unfold wM
        rw [if_pos (by omega)]
      have hcan : f_X12_canAsk (D 136 18) D = some (1, D) := by
        unfold f_X12_canAsk
        rw [cl_s (win_m _ _ _ _), if_neg, rz_1]
        rw [hv.2, hw]
        rintro (z | z)
        · exact nI_nlt (b := 9) (by omega) (by omega) z
        · exact nI_nlt (a := 17) (b := c - 10000 + 9) (by omega) (by decide) z
      obtain ⟨D1, D2, a1, b1, b2, b3⟩ := hgood 1 (nI (c - 10000)) (enc_ask q2 (by omega)) hlt
      refine ⟨D2, ?_, b2, b3⟩
      unfold f_X12_readUnit
      rw [if_pos hv.1, cl_s hcan, if_neg (by decide)]
      unfold f_X12_readUnit_24
      rw [if_neg (by decide)]
      unfold f_X12_readUnit_43
      rw [if_neg (by decide)]
      unfold f_X12_readUnit_53
      rw [if_neg (by decide), hv.2, hw, show nI (c - 10000 + 9) - 9 = nI (c - 10000) from (pk_sub (b := 9) (by omega)).trans (by rw [Nat.add_sub_cancel]), cl_s a1, cl_s b1]
theorem zq_un_e (T : Nat → Nat) (k : Nat) (l : List Int32) : zq_un T 0 k l = (if 10009 ≤ T k then .inl (1, k) else .inr (k + 1, l ++ [nI (T k)])) := by
  unfold zq_un
  rw [if_neg (show ¬ 0 = 20047 by decide), if_neg (show ¬ 0 = 20042 by decide)]
theorem zq_pdm : ∀ (g n k d : Nat) (l : List Int32) (D : IM), m ≤ k + g → k ≤ m → m ≤ k + d → zq_ds D tx len m k p (encL l) → p + zq_E l ≤ k → m < n + k → zq_dr tx len m p D (f_X12_readProduct_10 n D) (zq_pd (tkC tx len m) d k l) := by
  intro g
  induction g with
  | zero =>
    intro n k d l D hg hk hd h hb hn
    have ekm : k = m := by omega
    have hTk : tkC tx len m k = 30000 := by rw [ekm]; exact zq_Tm
    obtain ⟨n, rfl⟩ : ∃ i, n = i + 1 := ⟨n - 1, by omega⟩
    show zq_dr tx len m p D (f_X12_readProduct_10_b (f_X12_readProduct_10 n) D) _
    unfold f_X12_readProduct_10_b
    rw [zq_pd_n (by omega), cl_s (show f_X12_isSign 42 D = _ from zq_si (s := 42) h.2.1 hk (by decide)), if_pos (by rw [if_neg (by omega)]), cl_s (show f_X12_isSign 47 D = _ from zq_si (s := 47) h.2.1 hk (by decide)), if_pos (by rw [if_neg (by omega)])]
    exact ⟨D, rfl, zq_df_rf, h⟩
  | succ g ih =>
    intro n k d l D hg hk hd h hb hn
    obtain ⟨-, -, -, hl4, hml, -, -⟩ := h.1
    obtain ⟨n, rfl⟩ : ∃ i, n = i + 1 := ⟨n - 1, by omega⟩
    have s42 : f_X12_isSign 42 D = _ := zq_si (s := 42) h.2.1 hk (by decide)
    have s47 : f_X12_isSign 47 D = _ := zq_si (s := 47) h.2.1 hk (by decide)
    show zq_dr tx len m p D (f_X12_readProduct_10_b (f_X12_readProduct_10 n) D) _
    unfold f_X12_readProduct_10_b
    rw [cl_s s42]
    by_cases q1 : tkC tx len m k = 20042
    · have hlt := zq_lt zq_Tm hk q1 (by decide)
      obtain ⟨d, rfl⟩ : ∃ i, d = i + 1 := ⟨d - 1, by omega⟩
      obtain ⟨D1, n1, n2, n3⟩ := zq_nx h hlt
      rw [if_neg (by rw [if_pos (by omega)]; decide)]
      unfold f_X12_readProduct_28
      rw [cl_s s42, cl_s n1, if_pos (show tkC tx len m k = 20000 + 42 by omega), if_neg (by decide)]
      unfold f_X12_readProduct_57
      rw [if_neg (by decide)]
      unfold f_X12_readProduct_74 zq_pd
      rw [if_pos (Or.inl q1), q1]
      have eu : zq_un (tkC tx len m) 20042 (k + 1) l = zq_bd (if 10009 ≤ tkC tx len m (k + 1) then .inl (1, k + 1) else .inr (k + 1 + 1, l ++ [nI (tkC tx len m (k + 1))])) (fun k1 l1 => .inr (k1, l1 ++ [20042])) := by
        unfold zq_un
        rw [if_neg (by decide), if_pos rfl]
        by_cases z : 10009 ≤ tkC tx len m (k + 1)
        · rw [if_pos z, if_pos z]; rfl
        · rw [if_neg z, if_neg z]; rfl
      rw [eu, zq_as]
      refine zq_dr_go n2 (zq_dr_b (zq_unm n3 (by omega) (by omega)) (fun D1 => if_pos rfl) (fun k1 l1 D2 e2 o2 s2 => ?_))
      by_cases z : 10009 ≤ tkC tx len m (k + 1)
      · rw [if_pos z] at e2; cases e2
      · rw [if_neg z] at e2
        obtain ⟨rfl, rfl⟩ := zq_inj e2
        have hlt2 : k + 1 < m := by
          rcases Nat.lt_or_ge (k + 1) m with y | y
          · exact y
          · have e : k + 1 = m := by omega
            rw [e, zq_Tm] at z
            omega
        have hE := zq_En (t := tkC tx len m (k + 1)) (by omega) l
        have hE2 := zq_Ek zq_ec.1 (l ++ [nI (tkC tx len m (k + 1))])
        rw [if_neg (by decide), if_neg (by decide)]
        obtain ⟨D3, a1, a2, a3⟩ := zq_em (a := 4) (b := 0) s2 (by unfold zq_E at hE hb; omega)
        rw [cl_s a1]
        refine zq_dr_go a2 (ih n (k + 1 + 1) d _ D3 (by omega) (by omega) (by omega) ?_ (by omega) (by omega))
        rw [encL_app _ [20042], encL_1, zq_ec.1]
        exact a3
    · rw [if_pos (by rw [if_neg (by omega)]), cl_s s47]
      by_cases q2 : tkC tx len m k = 20047
      · have hlt := zq_lt zq_Tm hk q2 (by decide)
        obtain ⟨d, rfl⟩ : ∃ i, d = i + 1 := ⟨d - 1, by omega⟩
        obtain ⟨D1, n1, n2, n3⟩ := zq_nx h hlt
        have t3 := zq_t3 (zq_tok n3.2.1 (by omega))
        rw [if_neg (by rw [if_pos (by omega)]; decide)]
        unfold f_X12_readProduct_28
        rw [cl_s s42, cl_s n1, if_neg (show ¬ tkC tx len m k = 20000 + 42 by omega), if_pos rfl]
        unfold zq_pd
        rw [if_pos (Or.inr q2), q2]
        refine zq_dr_go n2 ?_
        by_cases z : 10000 ≤ tkC tx len m (k + 1)
        · have eu : zq_un (tkC tx len m) 20047 (k + 1) l = .inl (1, k + 1) := by unfold zq_un; rw [if_pos rfl, if_pos z]
          rw [eu, if_neg (t3.2.1 z), cl_s (zq_er n3.2.1)]
          exact zq_dr_e rfl
        · obtain ⟨v1, v2⟩ := t3.1 (by omega)
          rw [if_pos v1]
          unfold f_X12_readProduct_57
          rw [if_pos rfl]
          by_cases z0 : tkC tx len m (k + 1) = 0
          · have eu : zq_un (tkC tx len m) 20047 (k + 1) l = .inl (2, k + 1) := by unfold zq_un; rw [if_pos rfl, if_neg z, if_pos z0]
            rw [eu, if_pos (by rw [v2, z0]; rfl), cl_s (zq_er n3.2.1)]
            exact zq_dr_e rfl
          · have eu : zq_un (tkC tx len m) 20047 (k + 1) l = .inr (k + 1 + 1, l ++ [nI (40000 + tkC tx len m (k + 1))]) := by unfold zq_un; rw [if_pos rfl, if_neg z, if_neg z0]
            have hlt2 : k + 1 < m := by
              rcases Nat.lt_or_ge (k + 1) m with y | y
              · exact y
              · have e : k + 1 = m := by omega
                rw [e, zq_Tm] at z
                omega
            rw [eu, if_neg (by rw [v2]; exact nI_ne0 (by omega) (by omega))]
            unfold f_X12_readProduct_74
            have hu := zq_unm n3 (by omega) (by omega)
            rw [if_neg (by omega)] at hu
            obtain ⟨D2, u1, u2, u3⟩ := hu
            have hE := zq_En (t := tkC tx len m (k + 1)) (by omega) l
            have hE2 := zq_Ep (t := tkC tx len m (k + 1)) (by omega) (by omega) l
            rw [cl_s u1, if_neg (by decide), if_pos rfl]
            obtain ⟨D3, a1, a2, a3⟩ := zq_em (a := 5) (b := 0) u3 (by unfold zq_E at hE hb; omega)
            rw [cl_s a1]
            show zq_dr tx len m p D1 (f_X12_readProduct_10 n D3) (zq_pd (tkC tx len m) d (k + 1 + 1) (l ++ [nI (40000 + tkC tx len m (k + 1))]))
            refine zq_dr_go (zq_df_tr u2 a2) (ih n (k + 1 + 1) d _ D3 (by omega) (by omega) (by omega) ?_ (by omega) (by omega))
            rw [encL_app, encL_1, enc_part (by omega) (by omega)]
            rw [encL_app, encL_1, enc_num (by omega), List.append_assoc] at a3
            exact a3
      · rw [if_pos (by rw [if_neg (by omega)]), zq_pd_n (by omega)]
        exact ⟨D, rfl, zq_df_rf, h⟩
theorem zq_prm {k : Nat} {l : List Int32} (h : zq_ds D tx len m k p (encL l)) (hk : k ≤ m) (hb : p + zq_E l ≤ k) : zq_dr tx len m p D (f_X12_readProduct D) (zq_bd (zq_un (tkC tx len m) 0 k l) (zq_pd (tkC tx len m) m)) := by
  obtain ⟨-, -, -, hl4, hml, -, -⟩ := h.1
  unfold f_X12_readProduct
  have hu := zq_unm h hk hb
  rw [← zq_un_e] at hu
  refine zq_dr_b hu (fun D1 => if_pos rfl) (fun k1 l1 D1 e1 o1 s1 => ?_)
  obtain ⟨rfl, a1, a2, a3⟩ := zq_un_a zq_Tm hk e1
  rw [if_neg (by decide)] at a3
  rw [if_neg (by decide)]
  exact zq_pdm m BG (k + 1) m l1 D1 (by omega) (by omega) (by omega) s1 (by omega) (by unfold BG; omega)
theorem zq_slm : ∀ (g n k d : Nat) (l : List Int32) (D : IM), m ≤ k + g → k ≤ m → m ≤ k + d → zq_ds D tx len m k p (encL l) → p + zq_E l ≤ k → m < n + k → zq_dr tx len m p D (f_X12_readSum_10 n D) (zq_sl (tkC tx len m) m d k l) := by
  intro g
  induction g with
  | zero =>
    intro n k d l D hg hk hd h hb hn
    have ekm : k = m := by omega
    have hTk : tkC tx len m k = 30000 := by rw [ekm]; exact zq_Tm
    obtain ⟨n, rfl⟩ : ∃ i, n = i + 1 := ⟨n - 1, by omega⟩
    show zq_dr tx len m p D (f_X12_readSum_10_b (f_X12_readSum_10 n) D) _
    unfold f_X12_readSum_10_b
    rw [zq_sl_n (by omega), cl_s (show f_X12_isSign 43 D = _ from zq_si (s := 43) h.2.1 hk (by decide)), if_pos (by rw [if_neg (by omega)]), cl_s (show f_X12_isSign 45 D = _ from zq_si (s := 45) h.2.1 hk (by decide)), if_pos (by rw [if_neg (by omega)])]
    exact ⟨D, rfl, zq_df_rf, h⟩
  | succ g ih =>
    intro n k d l D hg hk hd h hb hn
    obtain ⟨-, -, -, hl4, hml, -, -⟩ := h.1
    obtain ⟨n, rfl⟩ : ∃ i, n = i + 1 := ⟨n - 1, by omega⟩
    have s43 : f_X12_isSign 43 D = _ := zq_si (s := 43) h.2.1 hk (by decide)
    have s45 : f_X12_isSign 45 D = _ := zq_si (s := 45) h.2.1 hk (by decide)
    show zq_dr tx len m p D (f_X12_readSum_10_b (f_X12_readSum_10 n) D) _
    unfold f_X12_readSum_10_b
    rw [cl_s s43]
    by_cases q : tkC tx len m k = 20043 ∨ tkC tx len m k = 20045
    · have hlt : k < m := by
        rcases q with q | q
        · exact zq_lt zq_Tm hk q (by decide)
        · exact zq_lt zq_Tm hk q (by decide)
      obtain ⟨d, rfl⟩ : ∃ i, d = i + 1 := ⟨d - 1, by omega⟩
      obtain ⟨D1, n1, n2, n3⟩ := zq_nx h hlt
      have v := (zq_t3 (zq_tok h.2.1 hk)).2.2.1 (by omega) (by omega)
      obtain ⟨y, ey, e0⟩ : ∃ y : Int32, encC (nI (tkC tx len m k)) = [(y, 0)] ∧ (if (if tkC tx len m k = 20000 + 43 then (1 : Int32) else 0) = 0 then cl (f_X12_isSign 45 D) fun w9 M10 => if w9 = 0 then some (0, M10) else f_X12_readSum_28 (f_X12_readSum_10 n) M10 else f_X12_readSum_28 (f_X12_readSum_10 n) D) = f_X12_readSum_42 (f_X12_readSum_10 n) y D := by
        rcases q with q | q
        · refine ⟨2, by rw [q]; exact zq_ec.2.1, ?_⟩
          rw [if_neg (by rw [if_pos (by omega)]; decide)]
          unfold f_X12_readSum_28
          rw [v, q, if_pos (by decide)]
        · refine ⟨3, by rw [q]; exact zq_ec.2.2.1, ?_⟩
          rw [if_pos (by rw [if_neg (by omega)]), cl_s s45, if_neg (by rw [if_pos (by omega)]; decide)]
          unfold f_X12_readSum_28
          rw [v, q, if_neg (by decide)]
      rw [e0]
      unfold f_X12_readSum_42 zq_sl
      rw [if_pos q, cl_s n1]
      refine zq_dr_go n2 (zq_dr_b (zq_prm n3 (by omega) (by omega)) (fun D1 => if_pos rfl) (fun k1 l1 D2 e2 o2 s2 => ?_))
      have b := zq_up_a zq_Tm (by omega) e2
      have hE := zq_pm q l1
      rw [if_neg (by decide)]
      obtain ⟨D3, a1, a2, a3⟩ := zq_em (a := y) (b := 0) s2 (by unfold zq_E at b hb; omega)
      rw [cl_s a1]
      refine zq_dr_go a2 (ih n k1 d _ D3 (by omega) (by omega) (by omega) ?_ (by omega) (by omega))
      rw [encL_app, encL_1, ey]
      exact a3
    · rw [if_pos (by rw [if_neg (by omega)]), cl_s s45, if_pos (by rw [if_neg (by omega)]), zq_sl_n q]
      exact ⟨D, rfl, zq_df_rf, h⟩
theorem zq_summ {k : Nat} {l : List Int32} (h : zq_ds D tx len m k p (encL l)) (hk : k ≤ m) (hb : p + zq_E l ≤ k) : zq_dr tx len m p D (f_X12_readSum D) (zq_su (tkC tx len m) m k l) := by
  obtain ⟨-, -, -, hl4, hml, -, -⟩ := h.1
  unfold f_X12_readSum zq_su
  refine zq_dr_b (zq_prm h hk hb) (fun D1 => if_pos rfl) (fun k1 l1 D1 e1 o1 s1 => ?_)
  have b := zq_up_a zq_Tm hk e1
  rw [if_neg (by decide)]
  exact zq_slm m BG k1 m l1 D1 (by omega) (by omega) (by omega) s1 (by omega) (by unfold BG; omega)
theorem zq_cmm {k : Nat} {l : List Int32} (h : zq_ds D tx len m k p (encL l)) (hk : k ≤ m) (hb : p + zq_E l ≤ k) : zq_dr tx len m p D (f_X12_readCompared D) (zq_cm (tkC tx len m) m k l) := by
  obtain ⟨-, -, -, hl4, hml, -, -⟩ := h.1
  unfold f_X12_readCompared zq_cm
  refine zq_dr_b (zq_summ h hk hb) (fun D1 => if_pos rfl) (fun k1 l1 D1 e1 o1 s1 => ?_)
  have b := zq_su_a zq_Tm hk e1
  have s60 : f_X12_isSign 60 D1 = _ := zq_si (s := 60) s1.2.1 b.2.1 (by decide)
  have s61 : f_X12_isSign 61 D1 = _ := zq_si (s := 61) s1.2.1 b.2.1 (by decide)
  have s62 : f_X12_isSign 62 D1 = _ := zq_si (s := 62) s1.2.1 b.2.1 (by decide)
  rw [if_neg (by decide), cl_s s60]
  by_cases q : tkC tx len m k1 = 20060 ∨ tkC tx len m k1 = 20061 ∨ tkC tx len m k1 = 20062
  · have hlt : k1 < m := by
      rcases q with q | q | q
      · exact zq_lt zq_Tm b.2.1 q (by decide)
      · exact zq_lt zq_Tm b.2.1 q (by decide)
      · exact zq_lt zq_Tm b.2.1 q (by decide)
    obtain ⟨D2, n1, n2, n3⟩ := zq_nx s1 hlt
    have v := (zq_t3 (zq_tok s1.2.1 b.2.1)).2.2.1 (by omega) (by omega)
    obtain ⟨y, ey, e0⟩ : ∃ y : Int32, encC (nI (tkC tx len m k1)) = [(y, 0)] ∧ (if (if tkC tx len m k1 = 20000 + 60 then (1 : Int32) else 0) = 0 then cl (f_X12_isSign 61 D1) fun w9 M10 => if w9 = 0 then cl (f_X12_isSign 62 M10) fun w13 M14 => if w13 = 0 then cl (f_X12_errs 1 M14) fun w17 M18 => some (w17, M18) else f_X12_readCompared_43 M14 else f_X12_readCompared_43 M10 else f_X12_readCompared_43 D1) = f_X12_readCompared_73 y D1 := by
      rcases q with q | q | q
      · refine ⟨6, by rw [q]; exact zq_ec.2.2.2.1, ?_⟩
        rw [if_neg (by rw [if_pos (by omega)]; decide)]
        unfold f_X12_readCompared_43
        rw [v, q, if_pos (by decide)]
      · refine ⟨7, by rw [q]; exact zq_ec.2.2.2.2.1, ?_⟩
        rw [if_pos (by rw [if_neg (by omega)]), cl_s s61, if_neg (by rw [if_pos (by omega)]; decide)]
        unfold f_X12_readCompared_43
        rw [v, q, if_neg (by decide), if_pos (by decide)]
      · refine ⟨8, by rw [q]; exact zq_ec.2.2.2.2.2.1, ?_⟩
        rw [if_pos (by rw [if_neg (by omega)]), cl_s s61, if_pos (by rw [if_neg (by omega)]), cl_s s62, if_neg (by rw [if_pos (by omega)]; decide)]
        unfold f_X12_readCompared_43
        rw [v, q, if_neg (by decide), if_neg (by decide)]
    rw [e0, if_pos q]
    unfold f_X12_readCompared_73
    rw [cl_s n1]
    refine zq_dr_go n2 (zq_dr_b (zq_summ n3 (by omega) (by omega)) (fun D1 => if_pos rfl) (fun k2 l2 D3 e3 o3 s3 => ?_))
    have b2 := zq_su_a zq_Tm (by omega) e3
    rw [if_neg (by decide)]
    obtain ⟨D4, a1, a2, a3⟩ := zq_em (a := y) (b := 0) s3 (by unfold zq_E at b b2 hb; omega)
    rw [cl_s a1]
    refine ⟨D4, rfl, a2, ?_⟩
    rw [encL_app, encL_1, ey]
    exact a3
  · rw [if_pos (by rw [if_neg (by omega)]), cl_s s61, if_pos (by rw [if_neg (by omega)]), cl_s s62, if_pos (by rw [if_neg (by omega)]), if_neg q, cl_s (zq_er s1.2.1)]
    exact zq_dr_e rfl
end SUMM
