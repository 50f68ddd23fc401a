/-! text: rounds: both sides take the same steps -/
def zq_rf (o B : Nat) (D D1 : IM) : Prop := (∀ j : Nat, j ∉ [15, 16, 17, 18, 32, 33] → D1 136 j = D 136 j) ∧ (∀ i : Nat, i < B → D1 o i = D o i) ∧ fr [136, o] D D1
def zq_g (tx : Nat → Nat) (len m o B : Nat) (C0 D0 C D : IM) (k : Nat) : Prop := k ≤ m ∧ zq_ct C (tkC tx len m) (pl tx len) m ∧ C 100 7 = nI k ∧ zq_dt D tx len m ∧ AtM D tx len m k ∧ fr [100] C0 C ∧ (C 100 0 = C0 100 0 ∧ C 100 1 = C0 100 1) ∧ zq_rf o B D0 D
def zq_fx (o B : Nat) (C0 D0 C D : IM) : Prop := C 100 0 = D 136 32 ∧ C 100 1 = D 136 33 ∧ fr [100] C0 C ∧ zq_rf o B D0 D
theorem zq_rf_rf {o B : Nat} {D : IM} : zq_rf o B D D := ⟨fun _ _ => rfl, fun _ _ => rfl, fr_rf⟩
theorem zq_rf_tr {o B : Nat} {D D1 D2 : IM} (h : zq_rf o B D D1) (h2 : zq_rf o B D1 D2) : zq_rf o B D D2 := ⟨fun j hj => (h2.1 j hj).trans (h.1 j hj), fun i hi => (h2.2.1 i hi).trans (h.2.1 i hi), fr_tr h.2.2 h2.2.2⟩
section BOTH
variable {tx : Nat → Nat} {len m o B : Nat} {C0 D0 C D : IM} {k : Nat}
theorem zq_rf_c {D1 : IM} (ho : ¬ o = 136) (h : cf D D1) : zq_rf o B D D1 := by
  refine ⟨fun j hj => h 136 j (Or.inr ?_), fun i _ => h o i (Or.inl ho), fun q hq => cf_row h (fun z => hq (by rw [z]; simp))⟩
  simp only [List.mem_cons, not_or] at hj
  exact ⟨hj.1, hj.2.1, hj.2.2.1, hj.2.2.2.1⟩
theorem zq_rf_e {f v : Int32} (ho : ¬ o = 136) : zq_rf o B D (ms (ms D 136 32 f) 136 33 v) := by
  refine ⟨fun j hj => ?_, fun i _ => by rw [ms_ne ho, ms_ne ho], fr_ms (fr_ms fr_rf (by simp)) (by simp)⟩
  rw [ms_at (fun z => hj (by rw [z]; decide)), ms_at (fun z => hj (by rw [z]; decide))]
theorem zq_rf_w {j : Nat} {v : Int32} (ho : ¬ o = 136) (hj : B ≤ j) : zq_rf o B D (ms D o j v) := ⟨fun _ _ => by rw [ms_ne (fun z => ho z.symm)], fun i hi => ms_at (by omega), fr_ms fr_rf (by simp)⟩
theorem zq_dt_r {D1 : IM} (ho : ¬ o = 143 ∧ ¬ o = 144) (h : zq_rf o B D D1) (hd : zq_dt D tx len m) : zq_dt D1 tx len m := by
  obtain ⟨h1, h2, h3, h4⟩ := hd
  refine ⟨by rw [h.2.2 143 (by simp; omega)]; exact h1, fun i hi => by rw [h.2.2 144 (by simp; omega)]; exact h2 i hi, by rw [h.1 14 (by decide)]; exact h3, h4⟩
theorem zq_at_w {j : Nat} {v : Int32} (ho : ¬ o = 136) (h : AtM D tx len m k) : AtM (ms D o j v) tx len m k := by
  unfold AtM at *
  rw [ms_ne (fun z => ho z.symm)]
  exact h
/-- the model's next token -/
theorem zq_nr (hd : zq_dt D tx len m) (ha : AtM D tx len m k) (hk : k < m) : ∃ D1, f_X12_reads D = some (0, D1) ∧ cf D D1 ∧ AtM D1 tx len m (k + 1) := by
  obtain ⟨h1, h2, h3, h4, h5, h6, h7⟩ := hd
  have h15 := (ha.2.2 hk).1
  have hp := h7 k hk
  have hbg := (pl_le (tx := tx) (len := len) k).2 hp
  obtain ⟨t1, t2, -, -⟩ := ten_ok hp hbg.1
  have ep : pl tx len (k + 1) = rnE tx len 0 (ten tx len (pl tx len k)) := by
    show (if pl tx len k < len then _ else len) = _
    rw [if_pos hp]
  obtain ⟨X, g1, g2, g3, g4, g5⟩ := reads_e h1 h2 h3 h4 (len - ten tx len (pl tx len k)) BG (ten tx len (pl tx len k)) D (by omega) (by unfold BG; omega) cf_rf h15
  rw [← ep] at g3 g4 g5
  exact ⟨X, g1, g2, ⟨g3, fun e => g4 (by rw [e]; exact h6), fun e => g5 (h7 (k + 1) e)⟩⟩
theorem zq_g_n (ho : ¬ o = 136 ∧ ¬ o = 143 ∧ ¬ o = 144) (h : zq_g tx len m o B C0 D0 C D k) (hk : k < m) : ∃ D1, f_X12_reads D = some (0, D1) ∧ D1 o = D o ∧ zq_g tx len m o B C0 D0 (ms C 100 7 (nI (k + 1))) D1 (k + 1) := by
  obtain ⟨h1, h2, h3, h4, h5, h6, h7, h8⟩ := h
  obtain ⟨D1, a1, a2, a3⟩ := zq_nr h4 h5 hk
  have hr : zq_rf o B D D1 := zq_rf_c ho.1 a2
  exact ⟨D1, a1, cf_row a2 ho.1, by omega, zq_ct_f (p := 0) zq_ok_t.1 h2, ms_it, zq_dt_r ho.2 hr h4, a3, fr_ms h6 (by decide), ⟨by rw [ms_at (by decide)]; exact h7.1, by rw [ms_at (by decide)]; exact h7.2⟩, zq_rf_tr h8 hr⟩
theorem zq_g_e {f : Int32} (ho : ¬ o = 136) (h : zq_g tx len m o B C0 D0 C D k) : zq_fx o B C0 D0 (ms (ms C 100 0 f) 100 1 (nI (pl tx len k))) (ms (ms D 136 32 f) 136 33 (nI (pl tx len k))) := by
  obtain ⟨h1, h2, h3, h4, h5, h6, h7, h8⟩ := h
  exact ⟨by rw [ms_at (by decide), ms_it, ms_at (by decide), ms_it], by rw [ms_it, ms_it], fr_ms (fr_ms h6 (by decide)) (by decide), zq_rf_tr h8 (zq_rf_e ho)⟩
theorem zq_g_w {j : Nat} {v : Int32} (ho : ¬ o = 136 ∧ ¬ o = 143 ∧ ¬ o = 144) (hj : B ≤ j) (h : zq_g tx len m o B C0 D0 C D k) : zq_g tx len m o B C0 D0 C (ms D o j v) k := by
  obtain ⟨h1, h2, h3, h4, h5, h6, h7, h8⟩ := h
  exact ⟨h1, h2, h3, zq_dt_r ho.2 (zq_rf_w (B := B) ho.1 hj) h4, zq_at_w ho.1 h5, h6, h7, zq_rf_tr h8 (zq_rf_w ho.1 hj)⟩
theorem zq_fx_w {j : Nat} {v : Int32} (ho : ¬ o = 136) (hj : B ≤ j) (h : zq_fx o B C0 D0 C D) : zq_fx o B C0 D0 C (ms D o j v) := ⟨by rw [ms_ne (fun z => ho z.symm)]; exact h.1, by rw [ms_ne (fun z => ho z.symm)]; exact h.2.1, h.2.2.1, zq_rf_tr h.2.2.2 (zq_rf_w ho hj)⟩
/-- a number -/
theorem zq_jn {lo hi : Int32} (ho : ¬ o = 136 ∧ ¬ o = 143 ∧ ¬ o = 144) (h : zq_g tx len m o B C0 D0 C D k) : (∃ Ce De, f_X6_takesNumber lo hi C = some (-1, Ce) ∧ f_X12_readNumber lo hi D = some (-1, De) ∧ zq_fx o B C0 D0 Ce De) ∨ ∃ v D1, v < 10000 ∧ ¬ (nI v < lo ∨ hi < nI v) ∧ k < m ∧ f_X6_takesNumber lo hi C = some (nI v, ms C 100 7 (nI (k + 1))) ∧ f_X12_readNumber lo hi D = some (nI v, D1) ∧ D1 o = D o ∧ zq_g tx len m o B C0 D0 (ms C 100 7 (nI (k + 1))) D1 (k + 1) := by
  have hg := h
  obtain ⟨h1, h2, h3, h4, h5, h6, h7, h8⟩ := h
  obtain ⟨c1, c2, c3⟩ := zq_num (lo := lo) (hi := hi) h2 h1 h3
  have t3 := zq_t3 (zq_tok h5 h1)
  by_cases q : 10000 ≤ tkC tx len m k
  · refine Or.inl ⟨_, _, c1 q, ?_, zq_g_e ho.1 hg⟩
    unfold f_X12_readNumber
    rw [if_neg (t3.2.1 q), cl_s (zq_er h5)]
  · obtain ⟨v1, v2⟩ := t3.1 (by omega)
    by_cases r : nI (tkC tx len m k) < lo ∨ hi < nI (tkC tx len m k)
    · refine Or.inl ⟨_, _, c2 (by omega) r, ?_, zq_g_e ho.1 hg⟩
      unfold f_X12_readNumber
      rw [if_pos v1, v2, cl_s (win_m _ _ _ _), if_pos (by rw [if_pos r]), cl_s (zq_er h5)]
    · have hlt : k < m := by
        rcases Nat.lt_or_ge k m with z | z
        · exact z
        · exact absurd (by rw [show k = m by omega, zq_Tm]; decide) q
      obtain ⟨D1, a1, a2, a3⟩ := zq_g_n ho hg hlt
      refine Or.inr ⟨tkC tx len m k, D1, by omega, r, hlt, c3 (by omega) r, ?_, a2, a3⟩
      unfold f_X12_readNumber
      rw [if_pos v1, v2, cl_s (win_m _ _ _ _), if_neg (by rw [if_neg r]; decide)]
      simp only [lt]
      rw [v2, cl_s a1]
/-- a word -/
theorem zq_jw {w c : Nat} (hw : w < 22) (hc : c = 10000 + wM w) (ho : ¬ o = 136 ∧ ¬ o = 143 ∧ ¬ o = 144) (h : zq_g tx len m o B C0 D0 C D k) : (∃ Ce De, ¬ tkC tx len m k = c ∧ f_X6_takes (nI c) C = some (0, Ce) ∧ f_X12_readWord (nI w) D = some (-1, De) ∧ zq_fx o B C0 D0 Ce De) ∨ ∃ D1, tkC tx len m k = c ∧ k < m ∧ f_X6_takes (nI c) C = some (1, ms C 100 7 (nI (k + 1))) ∧ f_X12_readWord (nI w) D = some (0, D1) ∧ D1 o = D o ∧ zq_g tx len m o B C0 D0 (ms C 100 7 (nI (k + 1))) D1 (k + 1) := by
  have hg := h
  have hm := (wM_lt hw).1
  obtain ⟨h1, h2, h3, h4, h5, h6, h7, h8⟩ := h
  obtain ⟨t1, t2⟩ := zq_tks (c := c) h2 h1 h3 (by omega)
  by_cases q : tkC tx len m k = c
  · have hlt := zq_lt zq_Tm h1 q (by omega)
    obtain ⟨D1, a1, a2, a3⟩ := zq_g_n ho hg hlt
    refine Or.inr ⟨D1, q, hlt, t1 q, ?_, a2, a3⟩
    unfold f_X12_readWord
    rw [cl_s (zq_wd h5 h1 hw), if_pos (show tkC tx len m k = 10000 + wM w by omega), if_neg (by decide), cl_s a1]
  · refine Or.inl ⟨_, _, q, t2 q, ?_, zq_g_e ho.1 hg⟩
    unfold f_X12_readWord
    rw [cl_s (zq_wd h5 h1 hw), if_neg (show ¬ tkC tx len m k = 10000 + wM w by omega), if_pos rfl, cl_s (zq_er h5)]
/-- the mark at a line's end -/
theorem zq_jm (ho : ¬ o = 136 ∧ ¬ o = 143 ∧ ¬ o = 144) (h : zq_g tx len m o B C0 D0 C D k) : (∃ Ce De, f_X6_takes 20059 C = some (0, Ce) ∧ f_X12_readMark 59 D = some (-1, De) ∧ zq_fx o B C0 D0 Ce De) ∨ ∃ D1, k < m ∧ f_X6_takes 20059 C = some (1, ms C 100 7 (nI (k + 1))) ∧ f_X12_readMark 59 D = some (0, D1) ∧ D1 o = D o ∧ zq_g tx len m o B C0 D0 (ms C 100 7 (nI (k + 1))) D1 (k + 1) := by
  have hg := h
  obtain ⟨h1, h2, h3, h4, h5, h6, h7, h8⟩ := h
  obtain ⟨t1, t2⟩ := zq_tks (c := 20059) h2 h1 h3 (by omega)
  have s59 : f_X12_isSign 59 D = some (if tkC tx len m k = 20059 then 1 else 0, D) := zq_si (s := 59) h5 h1 (by decide)
  by_cases q : tkC tx len m k = 20059
  · have hlt := zq_lt zq_Tm h1 q (by omega)
    obtain ⟨D1, a1, a2, a3⟩ := zq_g_n ho hg hlt
    refine Or.inr ⟨D1, hlt, t1 q, ?_, a2, a3⟩
    unfold f_X12_readMark
    rw [cl_s s59, if_pos q, if_neg (by decide), cl_s a1]
  · refine Or.inl ⟨_, _, t2 q, ?_, zq_g_e ho.1 hg⟩
    unfold f_X12_readMark
    rw [cl_s s59, if_neg q, if_pos rfl, cl_s (zq_er h5)]
/-- a word and a number behind it -/
theorem zq_jt {w c : Nat} {lo hi : Int32} (hw : w < 22) (hc : c = 10000 + wM w) (ho : ¬ o = 136 ∧ ¬ o = 143 ∧ ¬ o = 144) (h : zq_g tx len m o B C0 D0 C D k) :
    (∃ Ce De, ¬ tkC tx len m k = c ∧ f_X6_takes (nI c) C = some (0, Ce) ∧ f_X12_readTold (nI w) lo hi D = some (-1, De) ∧ zq_fx o B C0 D0 Ce De) ∨
    (∃ Ce De, tkC tx len m k = c ∧ k < m ∧ f_X6_takes (nI c) C = some (1, ms C 100 7 (nI (k + 1))) ∧ f_X6_takesNumber lo hi (ms C 100 7 (nI (k + 1))) = some (-1, Ce) ∧ f_X12_readTold (nI w) lo hi D = some (-1, De) ∧ zq_fx o B C0 D0 Ce De) ∨
    ∃ v D1, tkC tx len m k = c ∧ k < m ∧ v < 10000 ∧ ¬ (nI v < lo ∨ hi < nI v) ∧ f_X6_takes (nI c) C = some (1, ms C 100 7 (nI (k + 1))) ∧ f_X6_takesNumber lo hi (ms C 100 7 (nI (k + 1))) = some (nI v, ms (ms C 100 7 (nI (k + 1))) 100 7 (nI (k + 2))) ∧ f_X12_readTold (nI w) lo hi D = some (nI v, D1) ∧ D1 o = D o ∧ zq_g tx len m o B C0 D0 (ms (ms C 100 7 (nI (k + 1))) 100 7 (nI (k + 2))) D1 (k + 2) := by
  rcases zq_jw hw hc ho h with ⟨Ce, De, a0, a1, a2, a3⟩ | ⟨D1, a0, a1, a2, a3, a4, a5⟩
  · refine Or.inl ⟨Ce, De, a0, a1, ?_, a3⟩
    unfold f_X12_readTold
    rw [cl_s a2, if_pos rfl]
  · have et : f_X12_readTold (nI w) lo hi D = cl (f_X12_readNumber lo hi D1) fun w5 M6 => some (w5, M6) := by
      unfold f_X12_readTold
      rw [cl_s a3, if_neg (by decide)]
    rcases zq_jn (lo := lo) (hi := hi) ho a5 with ⟨Ce, De, b1, b2, b3⟩ | ⟨v, D2, b1, b2, b3, b4, b5, b6, b7⟩
    · exact Or.inr (Or.inl ⟨Ce, De, a0, a1, a2, b1, by rw [et, cl_s b2], b3⟩)
    · exact Or.inr (Or.inr ⟨v, D2, a0, a1, b1, b2, a2, b4, by rw [et, cl_s b5], b6.trans a4, b7⟩)
theorem zq_vm {v : Nat} (h : v < 10000) : ¬ nI v = -1 := fun z => by
  have := congrArg Int32.toInt z
  rw [nI_toInt (by omega), show (-1 : Int32).toInt = -1 from rfl] at this
  omega
end BOTH
