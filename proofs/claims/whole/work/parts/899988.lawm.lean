/-! text: laws, line by line; the model's side -/
theorem zq_Ma {wo fr wh sp op ag wo' fr' wh' sp' op' ag' : Nat → Int32} {w : Int32} {e b : List Int32} : ∀ (acc : List LLn) (i p : Nat), (∀ j : Nat, j < i + acc.length → wo' j = wo j ∧ fr' j = fr j ∧ wh' j = wh j ∧ sp' j = sp j) → (∀ j : Nat, j < p + lnEnc acc → op' j = op j ∧ ag' j = ag j) → MLw wo fr wh sp op ag i p acc → wo' (i + acc.length) = w - 10009 → fr' (i + acc.length) = nI (p + lnEnc acc) → wh' (i + acc.length) = nI (p + lnEnc acc + zq_E e) → sp' (i + acc.length) = nI (p + lnEnc acc + zq_E e + zq_E b) → (∀ k : Nat, k < zq_E e → op' (p + lnEnc acc + k) = ((encL e).getD k (0, 0)).1 ∧ ag' (p + lnEnc acc + k) = ((encL e).getD k (0, 0)).2) → (∀ k : Nat, k < zq_E b → op' (p + lnEnc acc + zq_E e + k) = ((encL b).getD k (0, 0)).1 ∧ ag' (p + lnEnc acc + zq_E e + k) = ((encL b).getD k (0, 0)).2) → MLw wo' fr' wh' sp' op' ag' i p (acc ++ [(w, e, b)])
  | [], i, p, _, _, _, h1, h2, h3, h4, h5, h6 => ⟨h1, h2, h3, h4, h5, h6, trivial⟩
  | (w1, e1, b1) :: t, i, p, ha, hc, h, h1, h2, h3, h4, h5, h6 => by
    have el : lnEnc ((w1, e1, b1) :: t) = (encL e1).length + (encL b1).length + lnEnc t := lnEnc_cons _ _
    have ei : i + ((w1, e1, b1) :: t).length = i + 1 + t.length := by rw [List.length_cons]; omega
    have ep : p + lnEnc ((w1, e1, b1) :: t) = p + (encL e1).length + (encL b1).length + lnEnc t := by omega
    rw [ei] at ha h1 h2 h3 h4
    rw [ep] at hc h2 h3 h4 h5 h6
    obtain ⟨c1, c2, c3, c4, c5, c6, c7⟩ := h
    obtain ⟨a1, a2, a3, a4⟩ := ha i (by omega)
    exact ⟨by rw [a1]; exact c1, by rw [a2]; exact c2, by rw [a3]; exact c3, by rw [a4]; exact c4, fun k hk => by rw [(hc _ (by omega)).1, (hc _ (by omega)).2]; exact c5 k hk, fun k hk => by rw [(hc _ (by omega)).1, (hc _ (by omega)).2]; exact c6 k hk, zq_Ma t (i + 1) (p + (encL e1).length + (encL b1).length) ha hc c7 h1 h2 h3 h4 h5 h6⟩
def zq_mf (D D1 : IM) : Prop := (∀ q : Nat, 146 ≤ q → q ≤ 149 → ∀ i : Nat, i < 32 → D1 q i = D q i) ∧ (∀ i : Nat, i < 800 → D1 150 i = D 150 i ∧ D1 151 i = D 151 i) ∧ (∀ j : Nat, j ∉ [15, 16, 17, 18, 28, 29, 31, 32, 33] → D1 136 j = D 136 j) ∧ fr [136, 146, 147, 148, 149, 150, 151, 152] D D1
theorem zq_mf_rf {D : IM} : zq_mf D D := ⟨fun _ _ _ _ _ => rfl, fun _ _ => ⟨rfl, rfl⟩, fun _ _ => rfl, fr_rf⟩
theorem zq_mf_tr {D D1 D2 : IM} (h : zq_mf D D1) (h2 : zq_mf D1 D2) : zq_mf D D2 := ⟨fun q q1 q2 i hi => (h2.1 q q1 q2 i hi).trans (h.1 q q1 q2 i hi), fun i hi => ⟨(h2.2.1 i hi).1.trans (h.2.1 i hi).1, (h2.2.1 i hi).2.trans (h.2.1 i hi).2⟩, fun j hj => (h2.2.2.1 j hj).trans (h.2.2.1 j hj), fr_tr h.2.2.2 h2.2.2.2⟩
theorem zq_mf_g {p : Nat} {D D1 : IM} (h : zq_dg p D D1) : zq_mf D D1 := by
  refine ⟨fun q q1 q2 i _ => ?_, fun i hi => h.1 i (by omega), h.2.1, fr_sub h.2.2 (by decide)⟩
  rw [h.2.2 q (fun z => by simp only [List.mem_cons, List.not_mem_nil, or_false] at z; omega)]
theorem zq_mf_w {D : IM} {o j : Nat} {v : Int32} (ho : o ∈ [146, 147, 148, 149]) (hj : 32 ≤ j) : zq_mf D (ms D o j v) := by
  have h6 : ¬ 136 = o := fun z => by rw [← z] at ho; revert ho; decide
  have h50 : ¬ 150 = o := fun z => by rw [← z] at ho; revert ho; decide
  have h51 : ¬ 151 = o := fun z => by rw [← z] at ho; revert ho; decide
  have hs : ∀ q ∈ [146, 147, 148, 149], q ∈ [136, 146, 147, 148, 149, 150, 151, 152] := by decide
  refine ⟨fun q _ _ i hi => ?_, fun i _ => ⟨by rw [ms_ne h50], by rw [ms_ne h51]⟩, fun i _ => by rw [ms_ne h6], fr_ms fr_rf (hs o ho)⟩
  by_cases e : q = o
  · subst e; rw [ms_at (by omega)]
  · rw [ms_ne e]
def zq_mw (D : IM) (tx : Nat → Nat) (len m k : Nat) (acc : List LLn) : Prop := zq_ds D tx len m k (lnEnc acc) [] ∧ D 136 29 = 0 ∧ MLw (fun i => D 146 (32 + i)) (fun i => D 147 (32 + i)) (fun i => D 148 (32 + i)) (fun i => D 149 (32 + i)) (fun i => D 150 (800 + i)) (fun i => D 151 (800 + i)) 0 0 acc
def zq_mln (tx : Nat → Nat) (len m n : Nat) (D : IM) (acc : List LLn) (x : IR) (r : zq_RL) : Prop := match r with
  | .inl (f, k) => ∃ D1, x = some (-1, D1) ∧ zq_mf D D1 ∧ D1 136 32 = nI f ∧ D1 136 33 = nI (pl tx len k)
  | .inr (k, y) => ∃ D1, x = f_X12_readLaw_2 n (nI (acc.length + 1)) D1 ∧ zq_mf D D1 ∧ zq_mw D1 tx len m k (acc ++ [y])
section LAWM
variable {tx : Nat → Nat} {len m p : Nat} {D : IM} {ft : Bool}
theorem zq_ds_w {o j k : Nat} {v : Int32} {g : List (Int32 × Int32)} (ho : o ∈ [146, 147, 148, 149]) (h : zq_ds D tx len m k p g) : zq_ds (ms D o j v) tx len m k p g := by
  have hn : ∀ q ∈ [136, 143, 144, 150, 151], ¬ q = o := fun q hq z => by
    subst z
    have : ∀ a ∈ [136, 143, 144, 150, 151], a ∈ [146, 147, 148, 149] → False := by decide
    exact this q hq ho
  obtain ⟨⟨h1, h2, h3, h4⟩, a, c1, c2⟩ := h
  have e6 : ms D o j v 136 = D 136 := ms_ne (hn 136 (by decide))
  refine ⟨⟨by rw [ms_ne (hn 143 (by decide))]; exact h1, fun i hi => by rw [ms_ne (hn 144 (by decide))]; exact h2 i hi, by rw [e6]; exact h3, h4⟩, ?_, by rw [e6]; exact c1, fun i hi => by rw [ms_ne (hn 150 (by decide)), ms_ne (hn 151 (by decide))]; exact c2 i hi⟩
  unfold AtM at *
  rw [e6]
  exact a
theorem zq_ds_b {k : Nat} {l : List Int32} (h : zq_ds D tx len m k p (encL l)) : zq_ds D tx len m k (p + zq_E l) [] := ⟨h.1, h.2.1, h.2.2.1, fun i hi => absurd hi (by simp)⟩
theorem zq_ilw {k : Nat} (h : AtM D tx len m k) (hk : k ≤ m) (h27 : D 136 27 = zq_bI ft) : f_X12_isLineWord D = some (if zq_lwd ft (tkC tx len m k) then 1 else 0, D) := by
  have w0 : f_X12_isWord 0 D = some (if tkC tx len m k = 10009 then 1 else 0, D) := zq_wd (w := 0) h hk (by decide)
  have w1 : f_X12_isWord 1 D = some (if tkC tx len m k = 10010 then 1 else 0, D) := zq_wd (w := 1) h hk (by decide)
  have w2 : f_X12_isWord 2 D = some (if tkC tx len m k = 10011 then 1 else 0, D) := zq_wd (w := 2) h hk (by decide)
  have w3 : f_X12_isWord 3 D = some (if tkC tx len m k = 10012 then 1 else 0, D) := zq_wd (w := 3) h hk (by decide)
  have w4 : f_X12_isWord 4 D = some (if tkC tx len m k = 10013 then 1 else 0, D) := zq_wd (w := 4) h hk (by decide)
  generalize tkC tx len m k = c at *
  unfold f_X12_isLineWord
  rw [h27]
  cases ft with
  | false =>
    rw [if_pos (show zq_bI false = 0 from rfl), cl_s w0]
    by_cases q0 : c = 10009
    · rw [if_pos q0, if_neg (by decide), if_pos (Or.inr ⟨rfl, Or.inl q0⟩)]
    · rw [if_neg q0, if_pos rfl, cl_s w1]
      by_cases q1 : c = 10010
      · rw [if_pos q1, if_neg (by decide), if_pos (Or.inr ⟨rfl, Or.inr q1⟩)]
      · rw [if_neg q1, if_pos rfl, if_neg (by simp [q0, q1])]
  | true =>
    rw [if_neg (show ¬ zq_bI true = 0 by decide), cl_s w2]
    by_cases q0 : c = 10011
    · rw [if_pos q0, if_neg (by decide), if_pos (Or.inl ⟨rfl, Or.inl q0⟩)]
    · rw [if_neg q0, if_pos rfl, cl_s w3]
      by_cases q1 : c = 10012
      · rw [if_pos q1, if_neg (by decide), if_pos (Or.inl ⟨rfl, Or.inr (Or.inl q1)⟩)]
      · rw [if_neg q1, if_pos rfl, cl_s w4]
        by_cases q2 : c = 10013
        · rw [if_pos q2, if_neg (by decide), if_pos (Or.inl ⟨rfl, Or.inr (Or.inr q2)⟩)]
        · rw [if_neg q2, if_pos rfl, if_neg (by simp [q0, q1, q2])]
theorem zq_lnm {k n : Nat} {acc : List LLn} (h : zq_mw D tx len m k acc) (h27 : D 136 27 = zq_bI ft) (hk : k < m) (hw : zq_lwd ft (tkC tx len m k)) (hl : acc.length < 16) (hb : lnEnc acc ≤ k) : zq_mln tx len m n D acc (f_X12_readLaw_2 (n + 1) (nI acc.length) D) (zq_ln (tkC tx len m) m ft k) := by
  obtain ⟨hs, h29, hL⟩ := h
  obtain ⟨-, -, -, hl4, hml, -, -⟩ := hs.1
  have hv : D 136 18 = nI (tkC tx len m k) - 10009 := by
    have hc : 10009 ≤ tkC tx len m k ∧ tkC tx len m k ≤ 10013 := by omega
    rcases zq_tok hs.2.1 (by omega) with (⟨h1, h2, h3⟩ | ⟨h1, h2, h3, h4⟩ | ⟨h1, h2, h3, h4⟩ | ⟨h1, h2⟩) | ⟨h1, h2⟩
    · omega
    · rw [h4, show nI (tkC tx len m k) - 10009 = nI (tkC tx len m k - 10009) from pk_sub (b := 10009) (by omega)]
      have : wM (tkC tx len m k - 10000) = tkC tx len m k - 10009 := by
        unfold wM
        rw [if_neg (by omega), if_pos (by omega)]
        omega
      rw [this]
    · omega
    · omega
    · omega
  have h28 : D 136 28 = nI (lnEnc acc) := hs.2.2.1
  generalize hp : lnEnc acc = p at *
  generalize hi : acc.length = i at *
  have e32 : (32 : Int32) + nI i = nI (32 + i) := nI_add 32 i
  obtain ⟨D1, e1⟩ : ∃ D1 : IM, D1 = ms D 146 (32 + i) (nI (tkC tx len m k) - 10009) := ⟨_, rfl⟩
  have s1 : zq_ds D1 tx len m k p [] := by rw [e1]; exact zq_ds_w (by decide) hs
  have g1 : zq_mf D D1 := by rw [e1]; exact zq_mf_w (by decide) (by omega)
  obtain ⟨D2, n1, n2, s2⟩ := zq_nx s1 hk
  obtain ⟨D3, e3⟩ : ∃ D3 : IM, D3 = ms D2 147 (32 + i) (nI p) := ⟨_, rfl⟩
  have s3 : zq_ds D3 tx len m (k + 1) p (encL []) := by rw [e3]; exact zq_ds_w (by decide) s2
  have g3' : zq_mf D2 D3 := by rw [e3]; exact zq_mf_w (by decide) (by omega)
  have g3 : zq_mf D D3 := zq_mf_tr g1 (zq_mf_tr (zq_mf_g (zq_df_g n2)) g3')
  have h27' : D3 136 27 = zq_bI ft := by rw [g3.2.2.1 27 (by decide)]; exact h27
  have eA : f_X12_readLaw_2 (n + 1) (nI i) D = cl (if ft = true then f_X12_readSum D3 else some (0, D3)) (fun w19 M20 => if w19 = (-1) then some ((-1), M20) else f_X12_readLaw_68 (f_X12_readLaw_2 n) (nI i) (nI (32 + i)) M20) := by
    show f_X12_readLaw_2_b (f_X12_readLaw_2 n) (nI i) D = _
    unfold f_X12_readLaw_2_b
    rw [cl_s (zq_ilw hs.2.1 (by omega) h27), if_pos hw, if_neg (by decide), if_neg (zq_nq (c := 16) (v := 16) (by omega) (by decide) rfl (by omega))]
    simp only [lt]
    rw [e32, wrK (j := 32 + i) rfl (by omega) (by decide), hv, ← e1, cl_s n1, wrK (j := 32 + i) rfl (by omega) (by decide), show D2 136 28 = nI p from s2.2.2.1, ← e3, h27']
    cases ft with
    | true => rfl
    | false =>
      rw [if_neg (show ¬ zq_bI false = 1 by decide), if_neg (show ¬ false = true by decide)]
      rfl
  have hA : zq_dr tx len m p D3 (if ft = true then f_X12_readSum D3 else some (0, D3)) (zq_am (tkC tx len m) m ft k) := by
    unfold zq_am
    cases ft with
    | true =>
      rw [if_pos rfl, if_pos rfl]
      exact zq_summ s3 (by omega) (by show p + 0 ≤ _; omega)
    | false =>
      rw [if_neg (by decide), if_neg (by decide)]
      exact ⟨D3, rfl, zq_df_rf, s3⟩
  rw [eA]
  unfold zq_ln
  cases ha : zq_am (tkC tx len m) m ft k with
  | inl y =>
    rw [ha] at hA
    obtain ⟨D4, a1, a2, a3, a4⟩ := hA
    rw [cl_s a1]
    exact ⟨D4, rfl, zq_mf_tr g3 (zq_mf_g (zq_df_g a2)), a3, a4⟩
  | inr y =>
    obtain ⟨k1, e⟩ := y
    rw [ha] at hA
    obtain ⟨D4, a1, a2, a3⟩ := hA
    have am := zq_am_a zq_Tm hk ha
    have g4 : zq_mf D D4 := zq_mf_tr g3 (zq_mf_g (zq_df_g a2))
    obtain ⟨D5, e5⟩ : ∃ D5 : IM, D5 = ms D4 148 (32 + i) (nI (p + zq_E e)) := ⟨_, rfl⟩
    have s5 : zq_ds D5 tx len m k1 (p + zq_E e) (encL []) := by rw [e5]; exact zq_ds_w (by decide) (zq_ds_b a3)
    have g5' : zq_mf D4 D5 := by rw [e5]; exact zq_mf_w (by decide) (by omega)
    have g5 := zq_mf_tr g4 g5'
    have h295 : D5 136 29 = 0 := by rw [e5, ms_ne (by decide), a2.2.1 29 (by decide), e3, ms_ne (by decide), n2.2.1 29 (by decide), e1, ms_ne (by decide)]; exact h29
    rw [cl_s a1, if_neg (by decide)]
    show zq_mln tx len m n D acc (f_X12_readLaw_68 (f_X12_readLaw_2 n) (nI i) (nI (32 + i)) D4) (match zq_wn (tkC tx len m) m k1 with
      | .inl x => .inl x
      | .inr (k2, b) => if tkC tx len m k2 = 20059 then .inr (k2 + 1, (nI (tkC tx len m k), e, b)) else .inl (1, k2))
    have w5 : f_X12_isWord 5 D5 = some (if tkC tx len m k1 = 10014 then 1 else 0, D5) := zq_wd (w := 5) s5.2.1 am.2.1 (by decide)
    have hB : zq_lr tx len (p + zq_E e) D5 (f_X12_readLaw_68 (f_X12_readLaw_2 n) (nI i) (nI (32 + i)) D4) (zq_wn (tkC tx len m) m k1) (fun k2 b D6 => f_X12_readLaw_68 (f_X12_readLaw_2 n) (nI i) (nI (32 + i)) D4 = f_X12_readLaw_100 (f_X12_readLaw_2 n) (nI i) (nI (32 + i)) D6 ∧ zq_ds D6 tx len m k2 (p + zq_E e) (encL b) ∧ D6 136 29 = 0) := by
      unfold zq_wn
      have e68 : f_X12_readLaw_68 (f_X12_readLaw_2 n) (nI i) (nI (32 + i)) D4 = if (if tkC tx len m k1 = 10014 then (1 : Int32) else 0) = 0 then f_X12_readLaw_100 (f_X12_readLaw_2 n) (nI i) (nI (32 + i)) D5 else cl (f_X12_reads D5) fun _ M33 => cl (f_X12_readAny M33) fun w35 M36 => if w35 = (-1) then some ((-1), M36) else f_X12_readLaw_100 (f_X12_readLaw_2 n) (nI i) (nI (32 + i)) M36 := by
        unfold f_X12_readLaw_68
        rw [wrK (j := 32 + i) rfl (by omega) (by decide), show D4 136 28 = nI (p + zq_E e) from a3.2.2.1, ← e5, cl_s w5]
      rw [e68]
      by_cases q : tkC tx len m k1 = 10014
      · have hlt := zq_lt zq_Tm am.2.1 q (by decide)
        obtain ⟨D6, m1, m2, m3⟩ := zq_nx s5 hlt
        rw [if_pos q, if_pos q, if_neg (by decide), cl_s m1]
        have hq := zq_anym m3 (by rw [m2.2.1 29 (by decide)]; exact h295) (by omega) (by show p + zq_E e + 0 ≤ _; omega)
        cases hz : zq_cd (tkC tx len m) m 8 (k1 + 1) [] with
        | inl y =>
          rw [hz] at hq
          obtain ⟨D7, b1, b2, b3, b4⟩ := hq
          exact ⟨D7, by rw [cl_s b1, if_pos rfl], zq_dg_tr (zq_df_g m2) b2, b3, b4⟩
        | inr y =>
          rw [hz] at hq
          obtain ⟨D7, b2, b1, b3, b4⟩ := hq
          exact ⟨D7, zq_dg_tr (zq_df_g m2) b2, by rw [cl_s b1, if_neg (by decide)], b3, b4⟩
      · rw [if_neg q, if_neg q, if_pos rfl]
        exact ⟨D5, zq_dg_rf, rfl, s5, h295⟩
    cases hb2 : zq_wn (tkC tx len m) m k1 with
    | inl y =>
      rw [hb2] at hB
      obtain ⟨D6, b1, b2, b3, b4⟩ := hB
      exact ⟨D6, b1, zq_mf_tr g5 (zq_mf_g b2), b3, b4⟩
    | inr y =>
      obtain ⟨k2, b⟩ := y
      rw [hb2] at hB
      obtain ⟨D6, b2, b1, b3, b4⟩ := hB
      have bm := zq_wn_a zq_Tm am.2.1 hb2
      have g6 := zq_mf_tr g5 (zq_mf_g b2)
      rw [b1]
      show zq_mln tx len m n D acc (f_X12_readLaw_100 (f_X12_readLaw_2 n) (nI i) (nI (32 + i)) D6) (if tkC tx len m k2 = 20059 then .inr (k2 + 1, (nI (tkC tx len m k), e, b)) else .inl (1, k2))
      obtain ⟨D7, e7⟩ : ∃ D7 : IM, D7 = ms D6 149 (32 + i) (nI (p + zq_E e + zq_E b)) := ⟨_, rfl⟩
      have s7 : zq_ds D7 tx len m k2 (p + zq_E e + zq_E b) [] := by rw [e7]; exact zq_ds_w (by decide) (zq_ds_b b3)
      have g7' : zq_mf D6 D7 := by rw [e7]; exact zq_mf_w (by decide) (by omega)
      have g7 := zq_mf_tr g6 g7'
      have s59 : f_X12_isSign 59 D7 = some (if tkC tx len m k2 = 20059 then 1 else 0, D7) := zq_si (s := 59) s7.2.1 bm.2.1 (by decide)
      unfold f_X12_readLaw_100
      rw [wrK (j := 32 + i) rfl (by omega) (by decide), show D6 136 28 = nI (p + zq_E e + zq_E b) from b3.2.2.1, ← e7, cl_s s59]
      by_cases y : tkC tx len m k2 = 20059
      · have hlt := zq_lt zq_Tm bm.2.1 y (by decide)
        obtain ⟨D8, m1, m2, m3⟩ := zq_nx s7 hlt
        rw [if_pos y, if_pos y, if_neg (by decide), cl_s m1]
        simp only [lt]
        rw [nI_1]
        have g8 := zq_mf_tr g7 (zq_mf_g (zq_df_g m2))
        have r8 : ∀ q : Nat, 146 ≤ q → q ≤ 149 → D8 q = D7 q := fun q q1 q2 => m2.2.2 q (fun z => by simp only [List.mem_cons, List.not_mem_nil, or_false] at z; omega)
        have r6 : ∀ q : Nat, 146 ≤ q → q ≤ 149 → D6 q = D5 q := fun q q1 q2 => b2.2.2 q (fun z => by simp only [List.mem_cons, List.not_mem_nil, or_false] at z; omega)
        have r4 : ∀ q : Nat, 146 ≤ q → q ≤ 149 → D4 q = D3 q := fun q q1 q2 => a2.2.2 q (fun z => by simp only [List.mem_cons, List.not_mem_nil, or_false] at z; omega)
        have r2 : ∀ q : Nat, 146 ≤ q → q ≤ 149 → D2 q = D1 q := fun q q1 q2 => n2.2.2 q (fun z => by simp only [List.mem_cons, List.not_mem_nil, or_false] at z; omega)
        have w146 : D8 146 = D1 146 := by rw [r8 146 (by decide) (by decide), e7, ms_ne (by decide), r6 146 (by decide) (by decide), e5, ms_ne (by decide), r4 146 (by decide) (by decide), e3, ms_ne (by decide), r2 146 (by decide) (by decide)]
        have w147 : D8 147 = D3 147 := by rw [r8 147 (by decide) (by decide), e7, ms_ne (by decide), r6 147 (by decide) (by decide), e5, ms_ne (by decide), r4 147 (by decide) (by decide)]
        have w148 : D8 148 = D5 148 := by rw [r8 148 (by decide) (by decide), e7, ms_ne (by decide), r6 148 (by decide) (by decide)]
        have w149 : D8 149 = D7 149 := r8 149 (by decide) (by decide)
        have o146 : ∀ j : Nat, ¬ j = 32 + i → D8 146 j = D 146 j := fun j hj => by rw [w146, e1, ms_at hj]
        have o147 : ∀ j : Nat, ¬ j = 32 + i → D8 147 j = D 147 j := fun j hj => by rw [w147, e3, ms_at hj, r2 147 (by decide) (by decide), e1, ms_ne (by decide)]
        have o148 : ∀ j : Nat, ¬ j = 32 + i → D8 148 j = D 148 j := fun j hj => by rw [w148, e5, ms_at hj, r4 148 (by decide) (by decide), e3, ms_ne (by decide), r2 148 (by decide) (by decide), e1, ms_ne (by decide)]
        have o149 : ∀ j : Nat, ¬ j = 32 + i → D8 149 j = D 149 j := fun j hj => by rw [w149, e7, ms_at hj, r6 149 (by decide) (by decide), e5, ms_ne (by decide), r4 149 (by decide) (by decide), e3, ms_ne (by decide), r2 149 (by decide) (by decide), e1, ms_ne (by decide)]
        have c6 : ∀ j : Nat, j < 800 + (p + zq_E e + zq_E b) → D8 150 j = D6 150 j ∧ D8 151 j = D6 151 j := fun j hj => by
          have := m2.1 j hj
          rw [this.1, this.2, e7, ms_ne (by decide), ms_ne (by decide)]
          exact ⟨rfl, rfl⟩
        have c4 : ∀ j : Nat, j < 800 + (p + zq_E e) → D8 150 j = D4 150 j ∧ D8 151 j = D4 151 j := fun j hj => by
          have := b2.1 j hj
          rw [(c6 j (by omega)).1, (c6 j (by omega)).2, this.1, this.2, e5, ms_ne (by decide), ms_ne (by decide)]
          exact ⟨rfl, rfl⟩
        have c0 : ∀ j : Nat, j < 800 + p → D8 150 j = D 150 j ∧ D8 151 j = D 151 j := fun j hj => by
          have h1 := a2.1 j hj
          have h2 := n2.1 j hj
          rw [(c4 j (by omega)).1, (c4 j (by omega)).2, h1.1, h1.2, e3, ms_ne (by decide), ms_ne (by decide), h2.1, h2.2, e1, ms_ne (by decide), ms_ne (by decide)]
          exact ⟨rfl, rfl⟩
        refine ⟨D8, by rw [hi], g8, ?_, ?_, ?_⟩
        · rw [lnEnc_app, hp]
          exact m3
        · rw [m2.2.1 29 (by decide), e7, ms_ne (by decide)]
          exact b4
        · refine zq_Ma acc 0 0 (fun j hj => ?_) (fun j hj => ?_) hL ?_ ?_ ?_ ?_ (fun j hj => ?_) (fun j hj => ?_)
          · rw [hi] at hj
            exact ⟨o146 _ (by omega), o147 _ (by omega), o148 _ (by omega), o149 _ (by omega)⟩
          · rw [hp] at hj
            exact c0 _ (by omega)
          · show D8 146 (32 + (0 + acc.length)) = _
            rw [hi, Nat.zero_add, w146, e1, ms_it]
          · show D8 147 (32 + (0 + acc.length)) = _
            rw [hi, hp, Nat.zero_add, Nat.zero_add, w147, e3, ms_it]
          · show D8 148 (32 + (0 + acc.length)) = _
            rw [hi, hp, Nat.zero_add, Nat.zero_add, w148, e5, ms_it]
          · show D8 149 (32 + (0 + acc.length)) = _
            rw [hi, hp, Nat.zero_add, Nat.zero_add, w149, e7, ms_it]
          · show D8 150 (800 + (0 + lnEnc acc + j)) = _ ∧ D8 151 (800 + (0 + lnEnc acc + j)) = _
            rw [hp, Nat.zero_add, (c4 _ (by omega)).1, (c4 _ (by omega)).2, ← Nat.add_assoc]
            exact a3.2.2.2 j hj
          · show D8 150 (800 + (0 + lnEnc acc + zq_E e + j)) = _ ∧ D8 151 (800 + (0 + lnEnc acc + zq_E e + j)) = _
            rw [hp, Nat.zero_add, (c6 _ (by omega)).1, (c6 _ (by omega)).2, ← Nat.add_assoc]
            exact b3.2.2.2 j hj
      · rw [if_neg y, if_neg y, if_pos rfl, cl_s (zq_er s7.2.1)]
        exact ⟨_, rfl, zq_mf_tr g7 (zq_mf_g (zq_df_g (zq_df_e (p := 0)).1)), (zq_df_e (p := 0)).2.1, (zq_df_e (p := 0)).2.2⟩
def zq_mlw (tx : Nat → Nat) (len m : Nat) (D : IM) (x : IR) (r : zq_RW) : Prop := match r with
  | .inl (f, k) => ∃ D1, x = some (-1, D1) ∧ zq_mf D D1 ∧ D1 136 32 = nI f ∧ D1 136 33 = nI (pl tx len k)
  | .inr y => ∃ D1, x = some (nI y.length, D1) ∧ zq_mf D D1 ∧ ∃ k, zq_mw D1 tx len m k y
theorem zq_lwm : ∀ (d n k : Nat) (acc : List LLn) (D : IM), m ≤ k + d → k ≤ m → zq_mw D tx len m k acc → D 136 27 = zq_bI ft → acc.length ≤ 16 → lnEnc acc ≤ k → m < n + k → zq_mlw tx len m D (f_X12_readLaw_2 n (nI acc.length) D) (zq_lw (tkC tx len m) m ft d k acc) := by
  intro d
  induction d with
  | zero =>
    intro n k acc D hd hk h h27 hl hb hn
    obtain ⟨n, rfl⟩ : ∃ i, n = i + 1 := ⟨n - 1, by omega⟩
    have ekm : k = m := by omega
    have hTk : tkC tx len m k = 30000 := by rw [ekm]; exact zq_Tm
    show zq_mlw tx len m D (f_X12_readLaw_2_b (f_X12_readLaw_2 n) (nI acc.length) D) (.inr acc)
    unfold f_X12_readLaw_2_b
    rw [cl_s (zq_ilw h.1.2.1 hk h27), hTk, if_pos (by cases ft <;> decide), if_pos ((zq_t3 (zq_tok h.1.2.1 hk)).2.2.2.1.mp hTk)]
    exact ⟨D, rfl, zq_mf_rf, k, h⟩
  | succ d ih =>
    intro n k acc D hd hk h h27 hl hb hn
    obtain ⟨n, rfl⟩ : ∃ i, n = i + 1 := ⟨n - 1, by omega⟩
    unfold zq_lw
    have t3 := (zq_t3 (zq_tok h.1.2.1 hk)).2.2.2.1
    have hst : f_X12_readLaw_2 (n + 1) (nI acc.length) D = f_X12_readLaw_2_b (f_X12_readLaw_2 n) (nI acc.length) D := rfl
    by_cases q0 : tkC tx len m k = 30000
    · rw [if_pos q0, hst]
      unfold f_X12_readLaw_2_b
      rw [cl_s (zq_ilw h.1.2.1 hk h27), q0, if_pos (by cases ft <;> decide), if_pos (t3.mp q0)]
      exact ⟨D, rfl, zq_mf_rf, k, h⟩
    · have hlt : k < m := by
        rcases Nat.lt_or_ge k m with z | z
        · exact z
        · exact absurd (by rw [show k = m by omega]; exact zq_Tm) q0
      rw [if_neg q0]
      by_cases q1 : zq_lwd ft (tkC tx len m k)
      · rw [if_neg (fun z => z q1)]
        by_cases q2 : acc.length = 16
        · rw [if_pos q2, hst]
          unfold f_X12_readLaw_2_b
          rw [cl_s (zq_ilw h.1.2.1 hk h27), if_pos q1, if_neg (by decide), if_pos (by rw [q2]; rfl), cl_s (zq_er h.1.2.1)]
          exact ⟨_, rfl, zq_mf_g (zq_df_g (zq_df_e (p := 0)).1), (zq_df_e (p := 0)).2.1, (zq_df_e (p := 0)).2.2⟩
        · rw [if_neg q2]
          have hL := zq_lnm (n := n) h h27 hlt q1 (by omega) hb
          cases hr : zq_ln (tkC tx len m) m ft k with
          | inl y =>
            rw [hr] at hL
            obtain ⟨D1, a1, a2, a3, a4⟩ := hL
            exact ⟨D1, a1, a2, a3, a4⟩
          | inr y =>
            obtain ⟨k1, x⟩ := y
            rw [hr] at hL
            obtain ⟨D1, a1, a2, a3⟩ := hL
            have a := zq_ln_a zq_Tm hlt q1 hr
            have ex : (acc ++ [x]).length = acc.length + 1 := by rw [List.length_append, List.length_singleton]
            have hI := ih n k1 (acc ++ [x]) D1 (by omega) a.2.1 a3 (by rw [a2.2.2.1 27 (by decide)]; exact h27) (by omega) (by rw [lnEnc_app]; omega) (by omega)
            rw [a1, ← ex]
            show zq_mlw tx len m D (f_X12_readLaw_2 n (nI (acc ++ [x]).length) D1) (zq_lw (tkC tx len m) m ft d k1 (acc ++ [x]))
            cases hz : zq_lw (tkC tx len m) m ft d k1 (acc ++ [x]) with
            | inl y =>
              rw [hz] at hI
              obtain ⟨D2, b1, b2, b3, b4⟩ := hI
              exact ⟨D2, b1, zq_mf_tr a2 b2, b3, b4⟩
            | inr y =>
              rw [hz] at hI
              obtain ⟨D2, b1, b2, b3⟩ := hI
              exact ⟨D2, b1, zq_mf_tr a2 b2, b3⟩
      · rw [if_pos q1, hst]
        unfold f_X12_readLaw_2_b
        rw [cl_s (zq_ilw h.1.2.1 hk h27), if_neg q1, if_pos rfl, if_neg (fun z => q0 (t3.mpr z)), cl_s (zq_er h.1.2.1)]
        exact ⟨_, rfl, zq_mf_g (zq_df_g (zq_df_e (p := 0)).1), (zq_df_e (p := 0)).2.1, (zq_df_e (p := 0)).2.2⟩
end LAWM
