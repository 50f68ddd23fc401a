/-! an hour: going on; the whole hour on both sides -/
section HRC
variable {C D : IM} {o : Nat} {l0 l1 : List LLn} {b : Bool}
theorem in_FC : o ∈ FC b o := by cases b <;> simp [FC]
theorem in_FD : 137 ∈ FD b := by cases b <;> simp [FD]
def m99 (x : Int32) : Int32 := if x < 9999 then x else 9999
theorem min99_e (x : Int32) (M : IM) : f_J9_min_7cf53 9999 x M = some (m99 x, M) := by
  unfold f_J9_min_7cf53 m99
  split <;> rfl
theorem held99 {x : Int32} {M : IM} (h : 0 ≤ x.toInt) : f_X12_held x 0 9999 M = some (m99 x, M) := by
  unfold f_X12_held m99
  have z : (9999 : Int32).toInt = 9999 := by decide
  rw [if_pos (Int32.le_iff_toInt_le.mpr (by rw [z0I]; exact h))]
  by_cases h1 : x < 9999
  · rw [if_pos (Int32.le_of_lt h1), if_pos h1]
  · rw [if_neg h1]
    by_cases h2 : x ≤ 9999
    · rw [if_pos h2]
      have : x = 9999 := by
        rw [← Int32.toInt_inj]
        have h3 := Int32.le_iff_toInt_le.mp h2
        have h4 := Int32.le_iff_toInt_le.mp (Int32.not_lt.mp h1)
        omega
      rw [this]
    · rw [if_neg h2]
theorem m99_b {x : Int32} (h : 0 ≤ x.toInt) : bnd (m99 x) 0 9999 := by
  unfold m99 bnd
  have z : (9999 : Int32).toInt = 9999 := by decide
  have h3 := @Int32.lt_iff_toInt_lt x 9999
  split
  · rename_i q
    have := h3.mp q
    omega
  · omega
theorem go_tail {l : Nat} (ho : o = 1 ∨ o = 122) (hs : HS b C D o) (hth : D 136 5 = th b) (el : C o 2 = nI l) (hl : l < 8) (ef : D 153 (4 * l + 3) = C 24 l) (hb : bnd (C 24 l) 0 99) (hfd : bnd (C o 8) 0 9999) : ∃ C1 D1, f_X11_goOn_142 o (th b) C = some (0, C1) ∧ f_X12_moves_121 D = some (0, D1) ∧ HS b C1 D1 o ∧ bnd (C1 o 8) 0 9999 ∧ (∀ i ∈ [1, 2, 3, 4, 5, 6, 10], C1 o i = C o i) ∧ fr (FC b o) C C1 ∧ fr (FD b) D D1 := by
  have e9 : D 137 9 = C o 8 := hs.1.2.2.2.2.2.2.2.2.2.1
  have e3 : D 137 3 = nI l := by rw [← el]; exact hs.1.2.2.2.1
  have hx : 0 ≤ (C o 8 + C 24 l).toInt := by
    rw [bnd_add hfd hb (by omega) (by omega)]
    have := hfd.1
    have := hb.1
    omega
  unfold f_X11_goOn_142 f_X12_moves_121
  rw [rdK (j := l) (n := 8) el hl (by decide), cl_s (min99_e _ _)]
  rw [rdK (i := 9) (j := 9) (n := 40) rfl (by decide) (by decide), rdK (i := 3) (j := 3) (n := 40) rfl (by decide) (by decide), e3, cl_s (show f_X12_ofStone (nI l) 3 D = some (D 153 (4 * l + 3), D) from ofStone_e (k := 3) (by omega)), ef, e9, cl_s (held99 hx), wrK (i := 9) (j := 9) (n := 40) rfl (by decide) (by decide), rdK (i := 3) (j := 3) (n := 40) rfl (by decide) (by decide), ms_at (o := 137) (by decide), e3]
  simp only [pt]
  generalize hy : m99 (C o 8 + C 24 l) = y
  have hyb : bnd y 0 9999 := by rw [← hy]; exact m99_b hx
  have h1 : HS b (ms C o 8 y) (ms D 137 9 y) o := hs_inc ho (by decide) hs
  have k1 : ∀ i ∈ [1, 2, 3, 4, 5, 6, 10], ms C o 8 y o i = C o i := fun i hi => ms_at (fun e => by subst e; revert hi; decide)
  cases b with
  | true =>
    rw [if_pos (show th true = 0 from rfl), k1 2 (by decide), el, cl_s (put_e ho h1.2.1), cl_s (notes_e (by rw [ms_ne (by decide)]; exact hth) (hs_bk h1))]
    refine ⟨_, _, rfl, rfl, hs_put ho h1, by rw [putC_at ho (by decide), ms_it]; exact hyb, fun i hi => ?_, fr_tr (fr_ms fr_rf in_FC) putC_fr, fr_tr (fr_ms fr_rf in_FD) putM_fr⟩
    rw [putC_at ho (fun e => by subst e; revert hi; decide)]
    exact k1 i hi
  | false =>
    rw [if_neg (by decide), cl_s (notes_th (by rw [ms_ne (by decide)]; exact hth))]
    exact ⟨_, _, rfl, rfl, h1, by rw [ms_it]; exact hyb, k1, fr_ms fr_rf in_FC, fr_ms fr_rf in_FD⟩
theorem go_core {l s gn hh : Nat} (ho : o = 1 ∨ o = 122) (hs : HS b C D o) (hth : D 136 5 = th b) (el : C o 2 = nI l) (hl : l < s) (h8 : s ≤ 8) (es : C 20 0 = nI s) (ed : D 136 36 = nI s) (eg : C o 3 = nI gn) (eh : C 22 l = nI hh) (hg : gn < hh) (h24 : hh ≤ 24) (hst : ∀ i : Nat, i < s → D 153 (4 * i + 1) = C 22 i ∧ D 153 (4 * i + 3) = C 24 i ∧ bnd (C 24 i) 0 99 ∧ 1 ≤ (C 22 i).toInt) (hfd : bnd (C o 8) 0 9999) : ∃ C1 D1, f_X11_goOn_74 o (th b) C = some (0, C1) ∧ f_X12_moves_42 D = some (0, D1) ∧ HS b C1 D1 o ∧ OkL (C1 o) (C 20) (C 22) ∧ bnd (C1 o 8) 0 9999 ∧ (∀ i ∈ [1, 4, 5, 6, 10], C1 o i = C o i) ∧ fr (FC b o) C C1 ∧ fr (FD b) D D1 := by
  have e3 : D 137 3 = nI l := by rw [← el]; exact hs.1.2.2.2.1
  have e4 : D 137 4 = nI gn := by rw [← eg]; exact hs.1.2.2.2.2.1
  have h1 : HS b (ms C o 3 (nI (gn + 1))) (ms D 137 4 (nI (gn + 1))) o := hs_inc ho (by decide) hs
  have elh : f_X12_longHere (ms D 137 4 (nI (gn + 1))) = some (nI hh, ms D 137 4 (nI (gn + 1))) := by
    unfold f_X12_longHere
    rw [rdK (i := 3) (j := 3) (n := 40) rfl (by decide) (by decide), ms_at (by decide), e3, cl_s (show f_X12_ofStone (nI l) 1 _ = some (ms D 137 4 (nI (gn + 1)) 153 (4 * l + 1), _) from ofStone_e (k := 1) (by omega)), ms_ne (o := 137) (p := 153) (by decide), (hst l hl).1, eh]
  unfold f_X11_goOn_74 f_X12_moves_42
  rw [rdK (i := 4) (j := 4) (n := 40) rfl (by decide) (by decide), wrK (i := 4) (j := 4) (n := 40) rfl (by decide) (by decide), rdK (i := 4) (j := 4) (n := 40) rfl (by decide) (by decide), e4, nI_1, cl_s elh, ms_it]
  simp only [pt]
  rw [eg, nI_1, rdK (j := l) (n := 8) (by rw [ms_at (by decide)]; exact el) (by omega) (by decide), ms_ne (o := o) (p := 22) (by omega), eh, ms_it]
  by_cases hlt : gn + 1 < hh
  · rw [if_neg (nI_ge hlt (by omega)), if_neg (nI_ge hlt (by omega))]
    refine ⟨_, _, rfl, rfl, h1, Or.inr ⟨?_, ?_, ?_, ?_⟩, by rw [ms_at (by decide)]; exact hfd, fun i hi => ms_at (fun e => by subst e; revert hi; decide), fr_ms fr_rf in_FC, fr_ms fr_rf in_FD⟩
    · rw [ms_at (by decide), el, nI_toInt (by omega)]; omega
    · rw [ms_at (by decide), el, es, nI_toInt (by omega), nI_toInt (by omega)]; omega
    · rw [ms_it, nI_toInt (by omega)]; omega
    · rw [ms_it, ms_at (by decide), el, nI_clamp (by omega), eh, nI_toInt (by omega), nI_toInt (by omega)]; omega
  · rw [if_pos (nI_le (by omega) (by omega)), if_pos (nI_le (by omega) (by omega)), wrK (i := 4) (j := 4) (n := 40) rfl (by decide) (by decide), rdK (i := 3) (j := 3) (n := 40) rfl (by decide) (by decide)]
    simp only [ms_ms]
    have h2 : HS b (ms C o 3 0) (ms D 137 4 0) o := hs_inc ho (by decide) hs
    have c2 : ms C o 3 0 o 2 = nI l := by rw [ms_at (by decide)]; exact el
    have d3 : ms D 137 4 0 137 3 = nI l := by rw [ms_at (by decide)]; exact e3
    have ed' : ms D 137 4 0 136 36 = nI s := by rw [ms_ne (by decide)]; exact ed
    rw [c2, d3, nI_1, ed']
    unfold dv
    rw [if_neg (nI_ne0 (by omega) (by omega)), wrK (i := 3) (j := 3) (n := 40) rfl (by decide) (by decide), rdK (i := 3) (j := 3) (n := 40) rfl (by decide) (by decide), pk_rem (by omega) (by omega) (by omega), ms_it, ms_it, ms_ne (o := o) (p := 20) (by omega), ms_ne (o := o) (p := 20) (by omega), es]
    have okl : ∀ (n : Nat → Int32) (l' : Nat), l' < s → n 2 = nI l' → n 3 = 0 → OkL n (C 20) (C 22) := fun n l' h1 h2 h3 => by
      obtain ⟨-, -, -, h5⟩ := hst l' h1
      refine Or.inr ⟨?_, ?_, ?_, ?_⟩
      · rw [h2, nI_toInt (by omega)]; omega
      · rw [h2, es, nI_toInt (by omega), nI_toInt (by omega)]; omega
      · rw [h3]; decide
      · rw [h3, h2, nI_clamp (by omega), z0I]; omega
    by_cases hw : l + 1 < s
    · rw [if_pos (nI_lt hw (by omega)), Nat.mod_eq_of_lt hw, if_neg (nI_ne0 (by omega) (by omega))]
      have h3 : HS b (ms (ms C o 3 0) o 2 (nI (l + 1))) (ms (ms D 137 4 0) 137 3 (nI (l + 1))) o := hs_inc ho (by decide) h2
      obtain ⟨-, s3, s4, s5⟩ := hst (l + 1) hw
      obtain ⟨C1, D1, t1, t2, t3, t4, t5, t6, t7⟩ := go_tail (l := l + 1) ho h3 (by rw [ms_ne (by decide), ms_ne (by decide)]; exact hth) ms_it (by omega) (by rw [ms_ne (by decide), ms_ne (by decide), ms_ne (by omega), ms_ne (by omega)]; exact s3) (by rw [ms_ne (by omega), ms_ne (by omega)]; exact s4) (by rw [ms_at (by decide), ms_at (by decide)]; exact hfd)
      refine ⟨C1, D1, t1, t2, t3, okl _ (l + 1) hw (by rw [t5 2 (by decide), ms_it]) (by rw [t5 3 (by decide), ms_at (by decide), ms_it]), t4, fun i hi => ?_, fr_tr (fr_ms (fr_ms fr_rf in_FC) in_FC) t6, fr_tr (fr_ms (fr_ms fr_rf in_FD) in_FD) t7⟩
      have hi' : i ∈ [1, 2, 3, 4, 5, 6, 10] := by
        simp only [List.mem_cons, List.not_mem_nil, or_false] at hi ⊢
        omega
      rw [t5 i hi', ms_at (fun e => by subst e; revert hi; decide), ms_at (fun e => by subst e; revert hi; decide)]
    · have hls : l + 1 = s := by omega
      rw [if_neg (nI_nlt (by omega) (by omega)), hls, Nat.mod_self, if_pos (show nI 0 = 0 from rfl), ms_at (o := o) (j := 7) (by decide), ms_at (o := o) (j := 7) (by decide), rdK (i := 8) (j := 8) (n := 40) rfl (by decide) (by decide), wrK (i := 8) (j := 8) (n := 40) rfl (by decide) (by decide), ms_at (o := 137) (j := 8) (by decide), ms_at (o := 137) (j := 8) (by decide), show D 137 8 = C o 7 from hs.1.2.2.2.2.2.2.2.2.1]
      have h3 : HS b (ms (ms C o 3 0) o 2 0) (ms (ms D 137 4 0) 137 3 0) o := hs_inc ho (by decide) h2
      have h4 : HS b (ms (ms (ms C o 3 0) o 2 0) o 7 (C o 7 + 1)) (ms (ms (ms D 137 4 0) 137 3 0) 137 8 (C o 7 + 1)) o := hs_inc ho (by decide) h3
      obtain ⟨-, s3, s4, s5⟩ := hst 0 (by omega)
      obtain ⟨C1, D1, t1, t2, t3, t4, t5, t6, t7⟩ := go_tail (l := 0) ho h4 (by rw [ms_ne (by decide), ms_ne (by decide), ms_ne (by decide)]; exact hth) (by rw [ms_at (by decide), ms_it]; rfl) (by decide) (by rw [ms_ne (by decide), ms_ne (by decide), ms_ne (by decide), ms_ne (by omega), ms_ne (by omega), ms_ne (by omega)]; exact s3) (by rw [ms_ne (by omega), ms_ne (by omega), ms_ne (by omega)]; exact s4) (by rw [ms_at (by decide), ms_at (by decide), ms_at (by decide)]; exact hfd)
      refine ⟨C1, D1, t1, t2, t3, okl _ 0 (by omega) (by rw [t5 2 (by decide), ms_at (by decide), ms_it]; rfl) (by rw [t5 3 (by decide), ms_at (by decide), ms_at (by decide), ms_it]), t4, fun i hi => ?_, fr_tr (fr_ms (fr_ms (fr_ms fr_rf in_FC) in_FC) in_FC) t6, fr_tr (fr_ms (fr_ms (fr_ms fr_rf in_FD) in_FD) in_FD) t7⟩
      have hi' : i ∈ [1, 2, 3, 4, 5, 6, 10] := by
        simp only [List.mem_cons, List.not_mem_nil, or_false] at hi ⊢
        omega
      rw [t5 i hi', ms_at (fun e => by subst e; revert hi; decide), ms_at (fun e => by subst e; revert hi; decide), ms_at (fun e => by subst e; revert hi; decide)]
theorem blkC (ho : o = 1 ∨ o = 122) (h : RC C D o l0 l1) (hs : HS b C D o) (hth : D 136 5 = th b) (hpos : ¬ C 20 0 ≤ 0) : ∃ C1 D1, f_X11_goOn o (th b) C = some (0, C1) ∧ f_X12_moves D = some (0, D1) ∧ HS b C1 D1 o ∧ OkL (C1 o) (C 20) (C 22) ∧ bnd (C1 o 8) 0 9999 ∧ (∀ i ∈ [1, 4, 5, 6, 10], C1 o i = C o i) ∧ fr (FC b o) C C1 ∧ fr (FD b) D D1 := by
  obtain ⟨s, h8, es, ed, hst⟩ := rc_st h
  have hL := (rc_bnd h).1
  have hfd := h.1.2.1.2.2.1
  obtain ⟨l, gn, hh, hl, el, eg, eh, hgh, h24⟩ : ∃ l gn hh : Nat, l < s ∧ C o 2 = nI l ∧ C o 3 = nI gn ∧ C 22 l = nI hh ∧ gn < hh ∧ hh ≤ 24 := by
    rcases id hL with ⟨h1, -⟩ | ⟨h1, h2, h3, h4⟩
    · rw [h1] at hpos; exact absurd (by decide) hpos
    · rw [es, nI_toInt (by omega)] at h2
      have e2 : C o 2 = nI (C o 2).toInt.toNat := Int32.toInt_inj.mp (by rw [nI_toInt (by omega)]; omega)
      obtain ⟨p, x, r, f, -, -, ex, x1, x2, -⟩ := hst (C o 2).toInt.toNat (by omega)
      have ec : (C o 2).toNatClampNeg = (C o 2).toInt.toNat := by
        have : (nI (C o 2).toInt.toNat).toNatClampNeg = (C o 2).toInt.toNat := nI_clamp (by omega)
        rwa [← e2] at this
      rw [ec, ex, nI_toInt (by omega)] at h4
      exact ⟨(C o 2).toInt.toNat, (C o 3).toInt.toNat, x, by omega, e2, Int32.toInt_inj.mp (by rw [nI_toInt (by omega)]; omega), ex, by omega, x2⟩
  have hst' : ∀ i : Nat, i < s → D 153 (4 * i + 1) = C 22 i ∧ D 153 (4 * i + 3) = C 24 i ∧ bnd (C 24 i) 0 99 ∧ 1 ≤ (C 22 i).toInt := fun i hi => by
    obtain ⟨p, x, r, f, -, -, ex, x1, x2, -, -, ef, f1, -, d1, -, d3⟩ := hst i hi
    refine ⟨by rw [d1, ex], by rw [d3, ef], by rw [ef]; exact bnd_n (by omega) (by omega) (by omega), by rw [ex, nI_toInt (by omega)]; omega⟩
  have core := go_core (b := b) ho hs hth el hl h8 es ed eg eh hgh h24 hst' hfd
  unfold f_X11_goOn f_X12_moves
  cases b with
  | false =>
    rw [if_neg (by decide), if_neg (by rw [hth]; decide)]
    unfold f_X11_goOn_42
    rw [if_pos rfl]
    exact core
  | true =>
    rw [if_pos (show th true = 0 from rfl), if_pos (show D 136 5 = 0 by rw [hth]; rfl), h.2.1.2.2.2.1]
    by_cases hf : C 6 1 ≤ 0
    · rw [if_pos hf, if_pos hf]
      unfold f_X11_goOn_42
      rw [if_pos rfl]
      exact core
    rw [if_neg hf, if_neg hf, cl_s (isRiver_e hL (rc_bnd h).2), cl_s (onRiver_e h)]
    by_cases hr : C o 2 < C 20 0 ∧ ¬ C o 3 < C 22 (C o 2).toNatClampNeg - C 23 (C o 2).toNatClampNeg
    · rw [if_pos hr, if_neg (by decide), if_neg (by decide)]
      unfold f_X11_goOn_42
      rw [if_neg (by decide), cl_s draw_c, cl_s (draw_m hs.1.2.1)]
      generalize hy : 1664525 * C o 0 + 1013904223 = y
      have h1 : HS true (ms C o 0 y) (ms D 137 1 y) o := hs_inc ho (by decide) hs
      rw [ms_ne (o := o) (p := 6) (by omega), ms_ne (o := 137) (p := 136) (by decide), h.2.1.2.2.2.1]
      by_cases hd : C 6 1 ≤ dr y
      · rw [if_pos hd, if_pos hd]
        obtain ⟨C1, D1, t1, t2, t3, t4, t5, t6, t7, t8⟩ := go_core (b := true) (l := l) (s := s) (gn := gn) (hh := hh) ho h1 (by rw [ms_ne (by decide)]; exact hth) (by rw [ms_at (by decide)]; exact el) hl h8 (by rw [ms_ne (by omega)]; exact es) (by rw [ms_ne (by decide)]; exact ed) (by rw [ms_at (by decide)]; exact eg) (by rw [ms_ne (by omega)]; exact eh) hgh h24 (by rw [ms_ne (by decide), ms_ne (by omega), ms_ne (by omega)]; exact hst') (by rw [ms_at (by decide)]; exact hfd)
        rw [ms_ne (o := o) (p := 20) (by omega), ms_ne (o := o) (p := 22) (by omega)] at t4
        exact ⟨C1, D1, t1, t2, t3, t4, t5, fun i hi => by rw [t6 i hi, ms_at (fun e => by subst e; revert hi; decide)], fr_tr (fr_ms fr_rf in_FC) t7, fr_tr (fr_ms fr_rf in_FD) t8⟩
      · rw [if_neg hd, if_neg hd, cl_s (put_e ho h1.2.1), cl_s (notes_e (by rw [ms_ne (by decide)]; exact hth) (hs_bk h1))]
        refine ⟨_, _, rfl, rfl, hs_put ho h1, ?_, ?_, fun i hi => ?_, fr_tr (fr_ms fr_rf in_FC) putC_fr, fr_tr (fr_ms fr_rf in_FD) putM_fr⟩
        · unfold OkL at *
          rw [putC_at ho (by decide), putC_at ho (by decide), ms_at (by decide), ms_at (by decide)]
          exact hL
        · rw [putC_at ho (by decide), ms_at (by decide)]; exact hfd
        · rw [putC_at ho (fun e => by subst e; revert hi; decide), ms_at (fun e => by subst e; revert hi; decide)]
    · rw [if_neg hr, if_pos rfl, if_pos rfl]
      unfold f_X11_goOn_42
      rw [if_pos rfl]
      exact core
theorem RC_mk {C1 D1 : IM} (ho : o = 1 ∨ o = 122) (h : RC C D o l0 l1) (hC : ∀ q : Nat, 6 ≤ q → q ≤ 27 → C1 q = C q) (h136 : ∀ i ∈ [6, 8, 9, 10, 36, 38], D1 136 i = D 136 i) (hD : ∀ q : Nat, q = 140 ∨ (145 ≤ q ∧ q ≤ 151) ∨ q = 153 ∨ q = 154 → D1 q = D q) (h10 : C1 o 10 = C o 10) (hla : ∀ w : Nat, w < 10 → C1 (o + 2) w = C (o + 2) w) (hR : RNw (C1 o) (C1 (o + 1)) (C1 (o + 3)) (C1 (o + 4)) (D1 137)) (hO : OkH (C1 o) (C1 (o + 1)) (C1 (o + 2)) (C1 (o + 3)) (C1 (o + 4))) (hL : OkL (C1 o) (C 20) (C 22)) : RC C1 D1 o l0 l1 := by
  obtain ⟨⟨a1, a2, a3, a4, a5⟩, h2, h3, h4, h5, h6, h7, h8⟩ := h
  refine ⟨⟨hR, hO, by rw [hC 20 (by decide) (by decide), hC 22 (by decide) (by decide)]; exact hL, by rw [h136 6 (by decide), h10]; exact a4, fun w hw => by rw [hD 140 (by omega), hla w hw]; exact a5 w hw⟩, ?_, ?_, ?_, ?_, ?_, h7, h8⟩
  · unfold RCb at *
    rw [hC 6 (by decide) (by decide), hC 20 (by decide) (by decide), hC 21 (by decide) (by decide), hC 22 (by decide) (by decide), hC 23 (by decide) (by decide), hC 24 (by decide) (by decide), hC 25 (by decide) (by decide), hC 26 (by decide) (by decide), hC 27 (by decide) (by decide), h136 8 (by decide), h136 9 (by decide), h136 10 (by decide), h136 36 (by decide), h136 38 (by decide), hD 153 (by omega), hD 154 (by omega), h10]
    exact h2
  · unfold LwC at *
    rw [hC 8 (by decide) (by decide), hC (8 + 1) (by decide) (by decide), hC (8 + 2) (by decide) (by decide), hC (8 + 3) (by decide) (by decide), hC (8 + 4) (by decide) (by decide), hC (8 + 5) (by decide) (by decide)]
    exact h3
  · exact LwC_14 (fun q h1 h2 => hC q (by omega) (by omega)) h4
  · unfold LwM at *
    rw [hD 145 (by omega), hD 146 (by omega), hD 147 (by omega), hD 148 (by omega), hD 149 (by omega), hD 150 (by omega), hD 151 (by omega)]
    exact h5
  · unfold LwM at *
    rw [hD 145 (by omega), hD 146 (by omega), hD 147 (by omega), hD 148 (by omega), hD 149 (by omega), hD 150 (by omega), hD 151 (by omega)]
    exact h6
end HRC
