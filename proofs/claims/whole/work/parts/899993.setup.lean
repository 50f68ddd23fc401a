/-! text: before and behind the reading -/
theorem zq_setup {M : IM} (hTp : IvTape M) (hW : IvWords M) : ∃ (tx : Nat → Nat) (len m : Nat) (C : IM), f_X6_begin 99 400 (M 0 9) (ms M 0 9 0) = some (0, C) ∧ zq_ct C (tkC tx len m) (pl tx len) m ∧ C 100 7 = nI 0 ∧ C 100 0 = 0 ∧ C 100 1 = -1 ∧ (∀ p : Nat, p ∉ [0, 100, 117, 118] → C p = M p) ∧ (∀ i : Nat, ¬ i = 9 → C 0 i = M 0 i) ∧ C 0 9 = 0 ∧ ∀ Y : IM, Y 143 = M 143 → Y 144 = M 144 → Y 136 14 = M 136 14 → zq_dt Y tx len m := by
  obtain ⟨t1, t2, t3⟩ := hTp
  obtain ⟨len, hl, e9⟩ := bnd_nI (n := 400) t2 (by decide)
  obtain ⟨tx, htx⟩ : ∃ tx : Nat → Nat, ∀ i : Nat, i < 400 → M 99 i = nI (tx i) ∧ tx i ≤ 255 := by
    refine ⟨fun i => (M 99 i).toNatClampNeg, fun i hi => ?_⟩
    obtain ⟨s, hs, e⟩ := bnd_nI (n := 255) (t3 i hi).2 (by decide)
    show M 99 i = nI (M 99 i).toNatClampNeg ∧ (M 99 i).toNatClampNeg ≤ 255
    rw [e, nI_clamp (by omega)]
    exact ⟨rfl, hs⟩
  have h99 : Tx (ms M 0 9 0 99) tx := by rw [ms_ne (by decide)]; exact htx
  have h143 : Tx (M 143) tx := fun i hi => by rw [(t3 i hi).1]; exact htx i hi
  obtain ⟨C, m, b1, b2, b3, b4, b5, b6, b7⟩ := begin_c h99 hl
  have r100 : C 100 = ms (ms (ms (ms M 0 9 0) 100 0 0) 100 1 (-1)) 100 7 0 100 := b7 100 (by decide)
  have r0 : C 0 = ms M 0 9 0 0 := by rw [b7 0 (by decide), ms_ne (by decide), ms_ne (by decide), ms_ne (by decide)]
  refine ⟨tx, len, m, C, by rw [e9]; exact b1, ⟨by omega, zq_Tm, fun k hk => ?_⟩, ?_, ?_, ?_, fun p hp => ?_, fun i hi => by rw [r0, ms_at hi], by rw [r0, ms_it], fun Y y1 y2 y3 => ⟨by rw [y1]; exact h143, fun i hi => by rw [y2]; exact hW i hi, by rw [y3, t1, e9], hl, b2, b3, fun x hx => (b4 x hx).1⟩⟩
  · unfold tkC
    by_cases q : k < m
    · rw [if_pos q]
      have a := b4 k q
      refine ⟨a.2.1, a.2.2, ?_⟩
      have := tcd_le (tx := tx) (len := len) (i := pl tx len k) (fun j hj => (htx j hj).2) hl a.1
      omega
    · rw [if_neg q]
      have ek : k = m := by omega
      rw [ek, b3]
      exact ⟨b5, b6, by decide⟩
  · rw [r100, ms_it]; rfl
  · rw [r100, ms_at (by decide), ms_at (by decide), ms_it]
  · rw [r100, ms_at (by decide), ms_it]
  · simp only [List.mem_cons, List.not_mem_nil, or_false, not_or] at hp
    rw [b7 p (by simp only [List.mem_cons, List.not_mem_nil, or_false, not_or]; exact ⟨hp.2.2.1, hp.2.2.2⟩), ms_ne hp.2.1, ms_ne hp.2.1, ms_ne hp.2.1, ms_ne hp.1]
/-- the model's memory as its reading begins -/
def zq_Z (v : Int32) (Y : IM) : IM := ms (ms (ms (ms (ms (ms (ms Y 136 0 0) 136 34 0) 136 35 (-1)) 136 15 0) 136 28 0) 136 29 0) 136 27 v
theorem zq_pt {M : IM} {o i : Nat} {v : Int32} {k : IM → IR} : pt M o i v k = k (ms M o i v) := rfl
theorem zq_cc {f : IR} {g : Int32 → IM → IR} : cl (cl f g) (fun w M => some (w, M)) = cl f g := by
  cases f with
  | none => rfl
  | some x =>
    show cl (g x.1 x.2) (fun w M => some (w, M)) = g x.1 x.2
    cases g x.1 x.2 <;> rfl
/-- behind the first token -/
def zq_Q (v : Int32) (M3 : IM) : IR := if v = 2 then cl (f_X12_readStones M3) fun w13 M14 => some (w13, M14) else if v = 3 then cl (f_X12_readShifts M3) fun w10 M11 => some (w10, M11) else cl (f_X12_readLaw M3) fun w7 M8 => some (w7, M8)
theorem zq_rdt {v : Int32} {Y D1 : IM} (h : f_X12_reads (ms Y 136 27 v) = some (0, D1)) : f_X12_readsText v Y = zq_Q v D1 := by
  unfold f_X12_readsText
  rw [zq_pt, cl_s h, zq_Q]
/-- the model's text, once its reading is known -/
theorem zq_text_e {v : Int32} {Y D1 : IM} {w : Int32} {D2 : IM} (hv : ¬ (v < 0 ∨ 3 < v)) (h : f_X12_reads (zq_Z v Y) = some (0, D1)) (h2 : zq_Q v D1 = some (w, D2)) : (w = -1 → f_X12_text v Y = f_X12_text_69 v (-1) (ms (ms D2 136 34 (D2 136 32)) 136 35 (D2 136 33))) ∧ (¬ w = -1 → f_X12_text v Y = f_X12_text_69 v w D2) := by
  have h3 := zq_rdt (v := v) (Y := ms (ms (ms (ms (ms (ms Y 136 0 0) 136 34 0) 136 35 (-1)) 136 15 0) 136 28 0) 136 29 0) h
  rw [h2] at h3
  refine ⟨fun e => ?_, fun e => ?_⟩
  · unfold f_X12_text
    rw [zq_pt, zq_pt, zq_pt, zq_pt, zq_pt, zq_pt, cl_s (win_m _ _ _ _), if_neg (by rw [if_neg hv]; decide), cl_s h3, if_pos e, zq_pt, zq_pt, ms_at (by decide), e]
  · unfold f_X12_text
    rw [zq_pt, zq_pt, zq_pt, zq_pt, zq_pt, zq_pt, cl_s (win_m _ _ _ _), if_neg (by rw [if_neg hv]; decide), cl_s h3, if_neg e]
/-- what a reading may change on the model's side -/
def zq_ma (Y X : IM) : Prop := (∀ q : Nat, 146 ≤ q → q ≤ 149 → ∀ i : Nat, i < 32 → X q i = Y q i) ∧ (∀ q : Nat, 150 ≤ q → q ≤ 151 → ∀ i : Nat, i < 800 → X q i = Y q i) ∧ (∀ i : Nat, i < 32 → X 153 i = Y 153 i) ∧ (∀ i : Nat, i < 48 → X 154 i = Y 154 i) ∧ (∀ j : Nat, j ∉ [0, 14, 15, 16, 17, 18, 27, 28, 29, 31, 32, 33, 34, 35] → X 136 j = Y 136 j) ∧ fr [136, 146, 147, 148, 149, 150, 151, 152, 153, 154] Y X
theorem zq_ma_tr {Y X X1 : IM} (h : zq_ma Y X) (h2 : zq_ma X X1) : zq_ma Y X1 := ⟨fun q q1 q2 i hi => (h2.1 q q1 q2 i hi).trans (h.1 q q1 q2 i hi), fun q q1 q2 i hi => (h2.2.1 q q1 q2 i hi).trans (h.2.1 q q1 q2 i hi), fun i hi => (h2.2.2.1 i hi).trans (h.2.2.1 i hi), fun i hi => (h2.2.2.2.1 i hi).trans (h.2.2.2.1 i hi), fun j hj => (h2.2.2.2.2.1 j hj).trans (h.2.2.2.2.1 j hj), fr_tr h.2.2.2.2.2 h2.2.2.2.2.2⟩
theorem zq_ma_c {Y : IM} {j : Nat} {v : Int32} (hj : j ∈ [0, 14, 15, 16, 17, 18, 27, 28, 29, 31, 32, 33, 34, 35]) : zq_ma Y (ms Y 136 j v) := ⟨fun q q1 q2 i _ => by rw [ms_ne (by omega)], fun q q1 q2 i _ => by rw [ms_ne (by omega)], fun i _ => by rw [ms_ne (by decide)], fun i _ => by rw [ms_ne (by decide)], fun i hi => ms_at (fun z => hi (by rw [z]; exact hj)), fr_ms fr_rf (by decide)⟩
theorem zq_ma_Z {v : Int32} {Y : IM} : zq_ma Y (zq_Z v Y) := zq_ma_tr (zq_ma_tr (zq_ma_tr (zq_ma_tr (zq_ma_tr (zq_ma_tr (zq_ma_c (by decide)) (zq_ma_c (by decide))) (zq_ma_c (by decide))) (zq_ma_c (by decide))) (zq_ma_c (by decide))) (zq_ma_c (by decide))) (zq_ma_c (by decide))
theorem zq_ma_m {Y X : IM} (h : zq_mf Y X) : zq_ma Y X := by
  refine ⟨h.1, fun q q1 q2 i hi => ?_, fun i _ => by rw [h.2.2.2 153 (by decide)], fun i _ => by rw [h.2.2.2 154 (by decide)], fun j hj => h.2.2.1 j (fun z => hj ?_), fr_sub h.2.2.2 (by decide)⟩
  · have : q = 150 ∨ q = 151 := by omega
    rcases this with rfl | rfl
    · exact (h.2.1 i hi).1
    · exact (h.2.1 i hi).2
  · have hs : ∀ q ∈ [15, 16, 17, 18, 28, 29, 31, 32, 33], q ∈ [0, 14, 15, 16, 17, 18, 27, 28, 29, 31, 32, 33, 34, 35] := by decide
    exact hs j z
theorem zq_ma_3 {Y X : IM} (h : zq_rf 153 32 Y X) : zq_ma Y X := by
  have far : ∀ q : Nat, ¬ q = 136 → ¬ q = 153 → X q = Y q := fun q h1 h2 => h.2.2 q (by simp only [List.mem_cons, List.not_mem_nil, or_false, not_or]; exact ⟨h1, h2⟩)
  refine ⟨fun q q1 q2 i _ => by rw [far q (by omega) (by omega)], fun q q1 q2 i _ => by rw [far q (by omega) (by omega)], h.2.1, fun i _ => by rw [far 154 (by decide) (by decide)], fun j hj => h.1 j (fun z => hj ?_), fr_sub h.2.2 (by decide)⟩
  have hs : ∀ q ∈ [15, 16, 17, 18, 32, 33], q ∈ [0, 14, 15, 16, 17, 18, 27, 28, 29, 31, 32, 33, 34, 35] := by decide
  exact hs j z
theorem zq_ma_4 {Y X : IM} (h : zq_rf 154 48 Y X) : zq_ma Y X := by
  have far : ∀ q : Nat, ¬ q = 136 → ¬ q = 154 → X q = Y q := fun q h1 h2 => h.2.2 q (by simp only [List.mem_cons, List.not_mem_nil, or_false, not_or]; exact ⟨h1, h2⟩)
  refine ⟨fun q q1 q2 i _ => by rw [far q (by omega) (by omega)], fun q q1 q2 i _ => by rw [far q (by omega) (by omega)], fun i _ => by rw [far 153 (by decide) (by decide)], h.2.1, fun j hj => h.1 j (fun z => hj ?_), fr_sub h.2.2 (by decide)⟩
  have hs : ∀ q ∈ [15, 16, 17, 18, 32, 33], q ∈ [0, 14, 15, 16, 17, 18, 27, 28, 29, 31, 32, 33, 34, 35] := by decide
  exact hs j z
/-- the first token -/
theorem zq_first {tx : Nat → Nat} {len m : Nat} {v : Int32} {Y : IM} (hd : zq_dt (zq_Z v Y) tx len m) : ∃ D1, f_X12_reads (zq_Z v Y) = some (0, D1) ∧ zq_ma Y D1 ∧ zq_ds D1 tx len m 0 0 [] ∧ D1 136 27 = v ∧ D1 136 29 = 0 ∧ D1 136 6 = Y 136 6 := by
  obtain ⟨D1, a1, a2, a3⟩ := zq_fs (p := 0) hd (by unfold zq_Z; rw [ms_at (by decide), ms_at (by decide), ms_it]; rfl) (by unfold zq_Z; rw [ms_at (by decide), ms_at (by decide), ms_at (by decide), ms_it]; rfl)
  refine ⟨D1, a1, zq_ma_tr zq_ma_Z (zq_ma_m (zq_mf_g (zq_df_g a2))), a3, ?_, ?_, ?_⟩
  · rw [a2.2.1 27 (by decide)]; unfold zq_Z; rw [ms_it]
  · rw [a2.2.1 29 (by decide)]; unfold zq_Z; rw [ms_at (by decide), ms_it]
  · rw [a2.2.1 6 (by decide)]; unfold zq_Z; rw [ms_at (by decide), ms_at (by decide), ms_at (by decide), ms_at (by decide), ms_at (by decide), ms_at (by decide), ms_at (by decide)]
theorem zq_dtZ {tx : Nat → Nat} {len m : Nat} {v : Int32} {M Y : IM} (hd : ∀ Y : IM, Y 143 = M 143 → Y 144 = M 144 → Y 136 14 = M 136 14 → zq_dt Y tx len m) (h1 : Y 143 = M 143) (h2 : Y 144 = M 144) (h3 : Y 136 14 = M 136 14) : zq_dt (zq_Z v Y) tx len m := by
  refine hd _ ?_ ?_ ?_
  · unfold zq_Z; rw [ms_ne (by decide), ms_ne (by decide), ms_ne (by decide), ms_ne (by decide), ms_ne (by decide), ms_ne (by decide), ms_ne (by decide)]; exact h1
  · unfold zq_Z; rw [ms_ne (by decide), ms_ne (by decide), ms_ne (by decide), ms_ne (by decide), ms_ne (by decide), ms_ne (by decide), ms_ne (by decide)]; exact h2
  · unfold zq_Z; rw [ms_at (by decide), ms_at (by decide), ms_at (by decide), ms_at (by decide), ms_at (by decide), ms_at (by decide), ms_at (by decide)]; exact h3
/-- the invariant again, out of its pieces -/
theorem zq_inv {M X : IM} (hI : Inv M) (hr : ∀ p : Nat, p ∉ [0, 1, 34, 136, 137, 8, 9, 10, 11, 12, 13, 14, 15, 16, 17, 18, 19, 20, 21, 22, 23, 24, 25, 26, 27, 100, 101, 102, 103, 104, 105, 106, 107, 108, 109, 110, 111, 112, 113, 114, 115, 116, 117, 118, 145, 146, 147, 148, 149, 150, 151, 152, 153, 154] → X p = M p) (c0 : ∀ i : Nat, ¬ i = 9 → X 0 i = M 0 i) (c6 : ∀ j ∈ [5, 8, 9, 10, 50], X 136 j = M 136 j) (h9 : X 0 9 = 0) (h14 : X 136 14 = 0) (f0 : X 136 34 = X 100 0) (f1 : X 136 35 = X 100 1) (hN : IvNow X) (hP : IvPast X) (h0 : IvL0 X) (h1 : IvL1 X) (h2 : IvRd X) (h3 : IvSh X) : Inv X := by
  obtain ⟨-, hT, hB, -, hTp, hF, hW, hG⟩ := hI
  obtain ⟨u1, u2, -⟩ := told_to hT
  refine ⟨hN, told_of ?_ ?_ h0 h1 h2 h3, fr_Book (hr _ (by decide)) (hr _ (by decide)) (hr _ (by decide)) (hr _ (by decide)) hB, hP, ⟨by rw [h14, h9], by rw [h9]; exact ⟨by decide, by decide⟩, by rw [hr 143 (by decide), hr 99 (by decide)]; exact hTp.2.2⟩, ⟨f0, f1, by rw [c6 5 (by decide)]; exact hF.2.2⟩, fr_Words (hr _ (by decide)) hW, fr_Img (fun p p1 p2 _ _ => hr p ?_) (c0 7 (by decide)) (c6 50 (by decide)) (hr _ (by decide)) hG⟩
  · unfold IvT1 at *
    rw [hr 6 (by decide), c6 8 (by decide), c6 9 (by decide), c6 10 (by decide)]
    exact u1
  · unfold IvRoads at *
    rw [hr 7 (by decide), hr 141 (by decide)]
    exact u2
  · simp only [List.mem_cons, List.not_mem_nil, or_false, not_or]
    omega
section KEEPS
variable {M X : IM}
theorem zq_kL0 (hr : ∀ p : Nat, 8 ≤ p → p ≤ 13 → X p = M p) (h5 : X 145 0 = M 145 0) (h4 : ∀ q : Nat, 146 ≤ q → q ≤ 149 → ∀ i : Nat, i < 16 → X q i = M q i) (hc : ∀ q : Nat, 150 ≤ q → q ≤ 151 → ∀ i : Nat, i < 400 → X q i = M q i) (h : IvL0 M) : IvL0 X := by
  obtain ⟨N, n1, n2⟩ := len_of h
  unfold IvL0
  rw [hr 8 (by decide) (by decide), hr 9 (by decide) (by decide), hr 10 (by decide) (by decide), hr 11 (by decide) (by decide), hr 12 (by decide) (by decide), hr 13 (by decide) (by decide)]
  exact RLw_congr n2 n1 rfl rfl (fun _ _ => rfl) (fun _ _ => rfl) (fun _ _ => rfl) (fun _ _ => rfl) (fun _ _ => rfl) h5 (h4 146 (by decide) (by decide)) (h4 147 (by decide) (by decide)) (h4 148 (by decide) (by decide)) (h4 149 (by decide) (by decide)) (hc 150 (by decide) (by decide)) (hc 151 (by decide) (by decide)) h
theorem zq_kL1 (hr : ∀ p : Nat, 14 ≤ p → p ≤ 19 → X p = M p) (h5 : X 145 1 = M 145 1) (h4 : ∀ q : Nat, 146 ≤ q → q ≤ 149 → ∀ i : Nat, i < 16 → X q (16 + i) = M q (16 + i)) (hc : ∀ q : Nat, 150 ≤ q → q ≤ 151 → ∀ i : Nat, i < 400 → X q (400 + i) = M q (400 + i)) (h : IvL1 M) : IvL1 X := by
  obtain ⟨N, n1, n2⟩ := len_of h
  unfold IvL1
  rw [hr 14 (by decide) (by decide), hr 15 (by decide) (by decide), hr 16 (by decide) (by decide), hr 17 (by decide) (by decide), hr 18 (by decide) (by decide), hr 19 (by decide) (by decide)]
  exact RLw_congr n2 n1 rfl rfl (fun _ _ => rfl) (fun _ _ => rfl) (fun _ _ => rfl) (fun _ _ => rfl) (fun _ _ => rfl) h5 (h4 146 (by decide) (by decide)) (h4 147 (by decide) (by decide)) (h4 148 (by decide) (by decide)) (h4 149 (by decide) (by decide)) (hc 150 (by decide) (by decide)) (hc 151 (by decide) (by decide)) h
theorem zq_kRd (hr : ∀ p : Nat, 20 ≤ p → p ≤ 24 → X p = M p) (h6 : X 136 36 = M 136 36) (hq : ∀ i : Nat, i < 32 → X 153 i = M 153 i) (h : IvRd M) : IvRd X := by
  unfold IvRd
  rw [hr 20 (by decide) (by decide), hr 21 (by decide) (by decide), hr 22 (by decide) (by decide), hr 23 (by decide) (by decide), hr 24 (by decide) (by decide)]
  exact RRd_congr rfl (fun _ _ => rfl) (fun _ _ => rfl) (fun _ _ => rfl) (fun _ _ => rfl) h6 hq h
theorem zq_kSh (hr : ∀ p : Nat, 25 ≤ p → p ≤ 27 → X p = M p) (h6 : X 136 38 = M 136 38) (h1 : X 1 10 = M 1 10) (hq : ∀ i : Nat, i < 48 → X 154 i = M 154 i) (h : IvSh M) : IvSh X := by
  unfold IvSh
  rw [hr 25 (by decide) (by decide), hr 26 (by decide) (by decide), hr 27 (by decide) (by decide)]
  exact RSh_congr rfl (fun _ _ => rfl) (fun _ _ => rfl) h6 h1 hq h
/-- nothing that was told has changed -/
theorem zq_invf {Y : IM} (hI : Inv M) (hr : ∀ p : Nat, p ∉ [0, 100, 101, 102, 103, 104, 105, 106, 107, 108, 109, 110, 111, 112, 113, 114, 115, 116, 117, 118] → Y p = M p) (c0 : ∀ i : Nat, ¬ i = 9 → Y 0 i = M 0 i) (h9 : Y 0 9 = 0) (hm : zq_ma Y X) (h14 : X 136 14 = 0) (f0 : X 136 34 = Y 100 0) (f1 : X 136 35 = Y 100 1) : Inv X := by
  have hXY : ∀ p : Nat, p < 136 → X p = Y p := fun p hp => hm.2.2.2.2.2 p (by simp only [List.mem_cons, List.not_mem_nil, or_false, not_or]; omega)
  have far : ∀ p : Nat, p ∉ [0, 136, 100, 101, 102, 103, 104, 105, 106, 107, 108, 109, 110, 111, 112, 113, 114, 115, 116, 117, 118, 146, 147, 148, 149, 150, 151, 152, 153, 154] → X p = M p := fun p hp => by
    simp only [List.mem_cons, List.not_mem_nil, or_false, not_or] at hp
    rw [hm.2.2.2.2.2 p (by simp only [List.mem_cons, List.not_mem_nil, or_false, not_or]; omega), hr p (by simp only [List.mem_cons, List.not_mem_nil, or_false, not_or]; omega)]
  have hY : ∀ p : Nat, 119 ≤ p → Y p = M p := fun p hp => hr p (by simp only [List.mem_cons, List.not_mem_nil, or_false, not_or]; omega)
  have x6 : ∀ j : Nat, j ∉ [0, 14, 15, 16, 17, 18, 27, 28, 29, 31, 32, 33, 34, 35] → X 136 j = M 136 j := fun j hj => by rw [hm.2.2.2.2.1 j hj, hY 136 (by decide)]
  obtain ⟨hN, hT, hB, hP, hTp, hF, hW, hG⟩ := id hI
  obtain ⟨-, -, u3, u4, u5, u6⟩ := told_to hT
  have hs : ∀ j ∈ [5, 8, 9, 10, 50], j ∉ [0, 14, 15, 16, 17, 18, 27, 28, 29, 31, 32, 33, 34, 35] := by decide
  refine zq_inv hI (fun p hp => far p ?_) (fun i hi => by rw [hXY 0 (by decide)]; exact c0 i hi) (fun j hj => x6 j (hs j hj)) (by rw [hXY 0 (by decide)]; exact h9) h14 (by rw [f0, hXY 100 (by decide)]) (by rw [f1, hXY 100 (by decide)])
    (fr_Now (far _ (by decide)) (far _ (by decide)) (far _ (by decide)) (far _ (by decide)) (far _ (by decide)) (far _ (by decide)) (far _ (by decide)) (far _ (by decide)) (far _ (by decide)) (x6 _ (by decide)) hN)
    (fr_Past (fun p p1 p2 => far p (by simp only [List.mem_cons, List.not_mem_nil, or_false, not_or]; omega)) (x6 _ (by decide)) (far _ (by decide)) (far _ (by decide)) (far _ (by decide)) (congrFun (far 1 (by decide)) 10) (far _ (by decide)) hP)
    (zq_kL0 (fun p p1 p2 => far p (by simp only [List.mem_cons, List.not_mem_nil, or_false, not_or]; omega)) (congrFun (far 145 (by decide)) 0) (fun q q1 q2 i hi => by rw [hm.1 q q1 q2 i (by omega), hY q (by omega)]) (fun q q1 q2 i hi => by rw [hm.2.1 q q1 q2 i (by omega), hY q (by omega)]) u3)
    (zq_kL1 (fun p p1 p2 => far p (by simp only [List.mem_cons, List.not_mem_nil, or_false, not_or]; omega)) (congrFun (far 145 (by decide)) 1) (fun q q1 q2 i hi => by rw [hm.1 q q1 q2 (16 + i) (by omega), hY q (by omega)]) (fun q q1 q2 i hi => by rw [hm.2.1 q q1 q2 (400 + i) (by omega), hY q (by omega)]) u4)
    (zq_kRd (fun p p1 p2 => far p (by simp only [List.mem_cons, List.not_mem_nil, or_false, not_or]; omega)) (x6 _ (by decide)) (fun i hi => by rw [hm.2.2.1 i hi, hY 153 (by decide)]) u5)
    (zq_kSh (fun p p1 p2 => far p (by simp only [List.mem_cons, List.not_mem_nil, or_false, not_or]; omega)) (x6 _ (by decide)) (congrFun (far 1 (by decide)) 10) (fun i hi => by rw [hm.2.2.2.1 i hi, hY 154 (by decide)]) u6)
  simp only [List.mem_cons, List.not_mem_nil, or_false, not_or] at hp ⊢
  omega
end KEEPS
/-- a fault is handed over -/
theorem zq_flt {v : Int32} {D : IM} : f_X12_text_69 v (-1) D = some (-1, ms D 136 14 0) := by
  unfold f_X12_text_69
  rw [zq_pt, if_pos rfl]
