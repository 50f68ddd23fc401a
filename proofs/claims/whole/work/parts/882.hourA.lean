/-! an hour: counting and booking -/
theorem ms_comm {M : IM} {o i o' i' : Nat} {v v' : Int32} (h : ¬ (o = o' ∧ i = i')) : ms (ms M o i v) o' i' v' = ms (ms M o' i' v') o i v := by
  funext p j
  unfold ms
  by_cases h1 : p = o' ∧ j = i'
  · rw [if_pos h1, if_neg (fun q => h ⟨q.1.symm.trans h1.1, q.2.symm.trans h1.2⟩), if_pos h1]
  · rw [if_neg h1, if_neg h1]
theorem ms_ms {M : IM} {o i : Nat} {v v' : Int32} : ms (ms M o i v) o i v' = ms M o i v' := by
  funext p j
  unfold ms
  by_cases h1 : p = o ∧ j = i
  · rw [if_pos h1, if_pos h1]
  · rw [if_neg h1, if_neg h1, if_neg h1]
def L9 : List (Nat × Nat) := [(0, 1), (1, 0), (2, 3), (3, 4), (4, 5), (5, 6), (6, 7), (7, 8), (8, 9)]
theorem rnw_u {n pa fe ro q : Nat → Int32} {i j : Nat} {v : Int32} (hij : (i, j) ∈ (9, 2) :: L9) (h : RNw n pa fe ro q) : RNw (upd n i v) pa fe ro (upd q j v) := by
  obtain ⟨a0, a1, a2, a3, a4, a5, a6, a7, a8, a9, aw⟩ := h
  have hj : j < 10 := (by decide : ∀ x ∈ (9, 2) :: L9, x.2 < 10) _ hij
  have hw : ∀ w : Nat, w < 10 → upd q j v (10 + w) = fe w ∧ upd q j v (20 + w) = ro w ∧ upd q j v (30 + w) = pa w := fun w hw => by
    rw [upd_n (by omega), upd_n (by omega), upd_n (by omega)]
    exact aw w hw
  simp only [L9, List.mem_cons, List.not_mem_nil, or_false, Prod.mk.injEq] at hij
  rcases hij with ⟨rfl, rfl⟩ | ⟨rfl, rfl⟩ | ⟨rfl, rfl⟩ | ⟨rfl, rfl⟩ | ⟨rfl, rfl⟩ | ⟨rfl, rfl⟩ | ⟨rfl, rfl⟩ | ⟨rfl, rfl⟩ | ⟨rfl, rfl⟩ | ⟨rfl, rfl⟩ <;>
    exact ⟨by simp [upd, a0], by simp [upd, a1], by simp [upd, a2], by simp [upd, a3], by simp [upd, a4], by simp [upd, a5], by simp [upd, a6], by simp [upd, a7], by simp [upd, a8], by simp [upd, a9], hw⟩
def BK (C D : IM) : Prop := ∀ i : Nat, i < 150 → D 142 (3 * i) = C 31 i ∧ D 142 (3 * i + 1) = C 32 i ∧ D 142 (3 * i + 2) = C 33 i
/-- what counting and booking look at; b: not in thought -/
def HS (b : Bool) (C D : IM) (o : Nat) : Prop := RNw (C o) (C (o + 1)) (C (o + 3)) (C (o + 4)) (D 137) ∧ bnd (C o 9) 0 150 ∧ (b = true → BK C D)
def FC : Bool → Nat → List Nat
  | true, o => [o, 31, 32, 33]
  | false, o => [o]
def FD : Bool → List Nat
  | true => [137, 142]
  | false => [137]
def th : Bool → Int32
  | true => 0
  | false => 1
def putC (o : Nat) (w x : Int32) (C : IM) : IM := if C o 9 < 150 then ms (ms (ms (ms C 31 (C o 9).toNatClampNeg (C o 1)) 32 (C o 9).toNatClampNeg w) 33 (C o 9).toNatClampNeg x) o 9 (C o 9 + 1) else C
def putM (w x : Int32) (D : IM) : IM := if D 137 2 = 150 then D else ms (ms (ms (ms D 142 (3 * (D 137 2).toNatClampNeg) (D 137 0)) 142 (3 * (D 137 2).toNatClampNeg + 1) w) 142 (3 * (D 137 2).toNatClampNeg + 2) x) 137 2 (D 137 2 + 1)
section HRA
variable {C D : IM} {o : Nat} {w x : Int32} {b : Bool}
theorem put_e (ho : o = 1 ∨ o = 122) (hb : bnd (C o 9) 0 150) : f_X1_put 30 o w x C = some (0, putC o w x C) := by
  obtain ⟨j, hj, ej⟩ := bnd_nI (n := 150) hb (by decide)
  unfold f_X1_put putC
  by_cases h : C o 9 < 150
  · have hj' : j < 150 := by
      rw [ej] at h
      exact (nI_ltI (b := 150) (by omega) (by decide)).mp h
    have ec : (C o 9).toNatClampNeg = j := by rw [ej, nI_clamp (by omega)]
    rw [if_pos h, if_pos h, wrK (j := j) ej hj' (by decide), ms_ne (show ¬ o = 30 + 1 by omega), wrK (j := j) ej hj' (by decide), ms_ne (show ¬ o = 30 + 2 by omega), ms_ne (show ¬ o = 30 + 1 by omega), wrK (j := j) ej hj' (by decide), ms_ne (show ¬ o = 30 + 3 by omega), ms_ne (show ¬ o = 30 + 2 by omega), ms_ne (show ¬ o = 30 + 1 by omega), ec]
    rfl
  · rw [if_neg h, if_neg h]
theorem notes_e (h5 : D 136 5 = 0) (hb : bnd (D 137 2) 0 150) : f_X12_notes w x D = some (0, putM w x D) := by
  obtain ⟨j, hj, ej⟩ := bnd_nI (n := 150) hb (by decide)
  unfold f_X12_notes putM
  rw [if_pos h5, rdK (i := 2) (j := 2) (n := 40) rfl (by decide) (by decide)]
  by_cases h : D 137 2 = 150
  · rw [if_pos h, if_pos h]
  · have hj' : j < 150 := by
      rcases Nat.lt_or_ge j 150 with q | q
      · exact q
      · exact absurd (by rw [ej, show j = 150 by omega]; rfl) h
    have ec : (D 137 2).toNatClampNeg = j := by rw [ej, nI_clamp (by omega)]
    have e3 : (3 : Int32) * D 137 2 = nI (3 * j) := by rw [ej]; exact pk_mul 3 j
    rw [if_neg h, if_neg h, rdK (i := 2) (j := 2) (n := 40) rfl (by decide) (by decide)]
    simp only [lt]
    rw [rdK (i := 0) (j := 0) (n := 40) rfl (by decide) (by decide), wrK (j := 3 * j) (n := 450) e3 (by omega) (by decide), wrK (j := 3 * j + 1) (n := 450) (by rw [e3, nI_1]) (by omega) (by decide), wrK (j := 3 * j + 2) (n := 450) (by rw [e3]; exact nI_add _ 2) (by omega) (by decide), rdK (i := 2) (j := 2) (n := 40) rfl (by decide) (by decide), ms_ne (o := 142) (p := 137) (by decide), ms_ne (o := 142) (p := 137) (by decide), ms_ne (o := 142) (p := 137) (by decide), wrK (i := 2) (j := 2) (n := 40) rfl (by decide) (by decide), ec]
theorem notes_th (h5 : D 136 5 = 1) : f_X12_notes w x D = some (0, D) := by
  unfold f_X12_notes
  rw [if_neg (by rw [h5]; decide)]
theorem hs_bk (h : HS b C D o) : bnd (D 137 2) 0 150 := by rw [h.1.2.2.1]; exact h.2.1
theorem hs_inc {i j : Nat} {v : Int32} (ho : o = 1 ∨ o = 122) (hij : (i, j) ∈ L9) (h : HS b C D o) : HS b (ms C o i v) (ms D 137 j v) o := by
  obtain ⟨h1, h2, h3⟩ := h
  have h9 : ¬ 9 = i := (by decide : ∀ x ∈ L9, ¬ 9 = x.1) _ hij
  refine ⟨?_, by rw [ms_at h9]; exact h2, fun hb => ?_⟩
  · rw [ms_ro, ms_ro, ms_ne (by omega), ms_ne (by omega), ms_ne (by omega)]
    exact rnw_u (List.mem_cons_of_mem _ hij) h1
  · unfold BK
    rw [ms_ne (by omega), ms_ne (by omega), ms_ne (by omega), ms_ne (by omega)]
    exact h3 hb
theorem hs_put (ho : o = 1 ∨ o = 122) (h : HS b C D o) : HS b (putC o w x C) (putM w x D) o := by
  obtain ⟨h1, h2, h3⟩ := h
  obtain ⟨j, hj, ej⟩ := bnd_nI (n := 150) h2 (by decide)
  have ed : D 137 2 = nI j := by rw [← ej]; exact h1.2.2.1
  have e0 : D 137 0 = C o 1 := h1.1
  have ec : (nI j).toNatClampNeg = j := nI_clamp (by omega)
  unfold putC putM
  rw [ej, ed, e0, ec]
  by_cases h : j = 150
  · subst h
    rw [if_neg (by decide), if_pos (by decide)]
    exact ⟨h1, h2, h3⟩
  · rw [if_pos (show nI j < 150 from nI_lt (b := 150) (by omega) (by decide)), if_neg (show ¬ nI j = 150 from fun e => h ((nI_eq (b := 150) (by omega) (by decide)).mp e)), nI_1]
    refine ⟨?_, ?_, fun hb => ?_⟩
    · rw [ms_ro, ms_ro, ms_ne (o := 142) (p := 137) (by decide), ms_ne (o := 142) (p := 137) (by decide), ms_ne (o := 142) (p := 137) (by decide), ms_ne (o := 33) (by omega), ms_ne (o := 32) (by omega), ms_ne (o := 31) (by omega), ms_ne (o := o) (p := o + 1) (by omega), ms_ne (o := o) (p := o + 3) (by omega), ms_ne (o := o) (p := o + 4) (by omega), ms_ne (o := 33) (by omega), ms_ne (o := 32) (by omega), ms_ne (o := 31) (by omega), ms_ne (o := 33) (by omega), ms_ne (o := 32) (by omega), ms_ne (o := 31) (by omega), ms_ne (o := 33) (by omega), ms_ne (o := 32) (by omega), ms_ne (o := 31) (by omega)]
      exact rnw_u (by decide) h1
    · rw [ms_it]; exact bnd_n (by omega) (by omega) (by omega)
    · intro i hi
      obtain ⟨k1, k2, k3⟩ := h3 hb i hi
      rw [ms_ne (o := 137) (p := 142) (by decide), ms_ro, ms_ro, ms_ro]
      rw [ms_ne (o := o) (p := 31) (by omega), ms_ne (o := 33) (p := 31) (by omega), ms_ne (o := 32) (p := 31) (by omega), ms_ro, ms_ne (o := o) (p := 32) (by omega), ms_ne (o := 33) (p := 32) (by omega), ms_ro, ms_ne (o := 31) (p := 32) (by omega), ms_ne (o := o) (p := 33) (by omega), ms_ro, ms_ne (o := 32) (p := 33) (by omega), ms_ne (o := 31) (p := 33) (by omega)]
      by_cases q : i = j
      · subst q
        refine ⟨?_, ?_, ?_⟩
        · rw [upd_n (by omega), upd_n (by omega), upd_s, upd_s]
        · rw [upd_n (by omega), upd_s, upd_s]
        · rw [upd_s, upd_s]
      · refine ⟨?_, ?_, ?_⟩
        · rw [upd_n (by omega), upd_n (by omega), upd_n (by omega), upd_n q]; exact k1
        · rw [upd_n (by omega), upd_n (by omega), upd_n (by omega), upd_n q]; exact k2
        · rw [upd_n (by omega), upd_n (by omega), upd_n (by omega), upd_n q]; exact k3
theorem putC_ms {i : Nat} {v : Int32} (ho : o = 1 ∨ o = 122) (h1 : ¬ i = 1) (h9 : ¬ i = 9) : putC o w x (ms C o i v) = ms (putC o w x C) o i v := by
  unfold putC
  rw [ms_at (j := 9) (fun e => h9 e.symm), ms_at (j := 1) (fun e => h1 e.symm)]
  by_cases h : C o 9 < 150
  · rw [if_pos h, if_pos h, ms_comm (o := o) (i := i) (o' := 31) (by omega), ms_comm (o := o) (i := i) (o' := 32) (by omega), ms_comm (o := o) (i := i) (o' := 33) (by omega), ms_comm (o := o) (i := i) (o' := o) (i' := 9) (by omega)]
  · rw [if_neg h, if_neg h]
theorem putC_fr : fr [o, 31, 32, 33] C (putC o w x C) := by
  unfold putC
  split
  · exact fr_ms (fr_ms (fr_ms (fr_ms fr_rf (by simp)) (by simp)) (by simp)) (by simp)
  · exact fr_rf
theorem putM_fr : fr [137, 142] D (putM w x D) := by
  unfold putM
  split
  · exact fr_rf
  · exact fr_ms (fr_ms (fr_ms (fr_ms fr_rf (by simp)) (by simp)) (by simp)) (by simp)
theorem putC_at {i : Nat} (ho : o = 1 ∨ o = 122) (h9 : ¬ i = 9) : putC o w x C o i = C o i := by
  unfold putC
  split
  · rw [ms_at h9, ms_ne (by omega), ms_ne (by omega), ms_ne (by omega)]
  · rfl
def dr (x : Int32) : Int32 := ((Int32.toUInt32 x >>> (Int32.toUInt32 8 &&& Int32.toUInt32 31)).toInt32) - ((Int32.toUInt32 x >>> (Int32.toUInt32 8 &&& Int32.toUInt32 31)).toInt32) / 1000 * 1000
theorem draw_c : f_X4_drawOfThousand o C = some (dr (1664525 * C o 0 + 1013904223), ms C o 0 (1664525 * C o 0 + 1013904223)) := by
  simp only [f_X4_drawOfThousand, pt]
  rw [ms_it]
  rfl
theorem draw_m {y : Int32} (h : D 137 1 = y) : f_X12_draw 1000 D = some (dr (1664525 * y + 1013904223), ms D 137 1 (1664525 * y + 1013904223)) := by
  unfold f_X12_draw
  rw [rdK (i := 1) (j := 1) (n := 40) rfl (by decide) (by decide), wrK (i := 1) (j := 1) (n := 40) rfl (by decide) (by decide), rdK (i := 1) (j := 1) (n := 40) rfl (by decide) (by decide), ms_it, h]
  rfl
/-- is there war? -/
theorem war_sim (ho : o = 1 ∨ o = 122) (h : HS true C D o) (h5 : D 136 5 = 0) (h10 : D 136 10 = C 6 2) (hw : bnd (C 6 2) 0 1000) : ∃ C1 D1, f_X11_bookMany_31 o 1 C = some (0, C1) ∧ f_X12_counts_59 D = some (0, D1) ∧ HS true C1 D1 o ∧ (∀ i ∈ [1, 2, 3, 4, 5, 7, 8, 10], C1 o i = C o i) ∧ fr [o, 31, 32, 33] C C1 ∧ fr [137, 142] D D1 := by
  unfold f_X11_bookMany_31 f_X12_counts_59
  rw [if_neg (show ¬ (1 : Int32) = 0 by decide), if_pos h5]
  have e0 : C 6 2 ≤ 0 ↔ C 6 2 = 0 := by
    rw [Int32.le_iff_toInt_le, ← Int32.toInt_inj, show (0 : Int32).toInt = 0 by decide]
    have := hw.1
    omega
  by_cases hz : C 6 2 ≤ 0
  · rw [if_pos hz, if_pos (by rw [h10]; exact e0.mp hz)]
    exact ⟨C, D, rfl, rfl, h, fun _ _ => rfl, fr_rf, fr_rf⟩
  rw [if_neg hz, if_neg (by rw [h10]; exact fun q => hz (e0.mpr q)), cl_s draw_c, cl_s (draw_m h.1.2.1)]
  generalize hy : 1664525 * C o 0 + 1013904223 = y
  have hC6 : ms C o 0 y 6 = C 6 := ms_ne (by omega)
  have hD136 : ms D 137 1 y 136 = D 136 := ms_ne (by decide)
  have h1 : HS true (ms C o 0 y) (ms D 137 1 y) o := hs_inc ho (by decide) h
  have k1 : ∀ i ∈ [1, 2, 3, 4, 5, 7, 8, 10], ms C o 0 y o i = C o i := fun i hi => ms_at (fun e => by subst e; revert hi; decide)
  rw [hC6, hD136, h10]
  by_cases hd : C 6 2 ≤ dr y
  · rw [if_pos hd, if_neg (Int32.not_lt.mpr hd)]
    exact ⟨_, _, rfl, rfl, h1, k1, fr_ms fr_rf (by simp), fr_ms fr_rf (by simp)⟩
  · rw [if_neg hd, if_pos (Int32.not_le.mp hd)]
    simp only [pt]
    generalize hC1 : ms C o 0 y = C1 at *
    generalize hD1 : ms D 137 1 y = D1 at *
    have f1 : fr [o, 31, 32, 33] C C1 := by rw [← hC1]; exact fr_ms fr_rf (by simp)
    have g1 : fr [137, 142] D D1 := by rw [← hD1]; exact fr_ms fr_rf (by simp)
    have e7 : D1 137 7 = C1 o 6 := h1.1.2.2.2.2.2.2.2.1
    rw [rdK (i := 7) (j := 7) (n := 40) rfl (by decide) (by decide), wrK (i := 7) (j := 7) (n := 40) rfl (by decide) (by decide), e7]
    have h2 : HS true (ms C1 o 6 (C1 o 6 + 1)) (ms D1 137 7 (C1 o 6 + 1)) o := hs_inc ho (by decide) h1
    rw [cl_s (put_e ho h2.2.1), cl_s (notes_e (by rw [ms_ne (by decide), hD136]; exact h5) (hs_bk h2))]
    refine ⟨_, _, rfl, rfl, hs_put ho h2, fun i hi => ?_, fr_tr (fr_ms f1 (by simp)) putC_fr, fr_tr (fr_ms g1 (by simp)) putM_fr⟩
    rw [putC_at ho (fun e => by subst e; revert hi; decide), ms_at (fun e => by subst e; revert hi; decide)]
    exact k1 i hi
def fb (C : IM) (m : Nat) : Int32 := if C 6 0 ≤ nI m then 0 else 1
/-- counting and booking, not in thought -/
theorem blkA0 {m : Nat} {g : Int32} (ho : o = 1 ∨ o = 122) (h : HS true C D o) (h5 : D 136 5 = 0) (h8 : D 136 8 = C 6 0) (h10 : D 136 10 = C 6 2) (hw : bnd (C 6 2) 0 1000) (hm : m ≤ 10) : ∃ C1 D1, f_X11_passHour_29 o 0 g (nI m) (fb C m) C = f_X11_passHour_74 o 0 g (nI m) (fb C m) C1 ∧ f_X12_counts (nI m) D = some (0, D1) ∧ HS true C1 D1 o ∧ C1 o 4 = C o 4 + fb C m ∧ (∀ i ∈ [1, 2, 3, 7, 8, 10], C1 o i = C o i) ∧ fr [o, 31, 32, 33] C C1 ∧ fr [137, 142] D D1 := by
  have d136 : ∀ {j : Nat} {v : Int32}, ms D 137 j v 136 = D 136 := fun {j v} => ms_ne (by decide)
  have e5 : D 137 5 = C o 4 := h.1.2.2.2.2.2.1
  have e6 : D 137 6 = C o 5 := h.1.2.2.2.2.2.2.1
  unfold f_X12_counts f_X11_passHour_29
  by_cases hf : C 6 0 ≤ nI m
  · have hfb : fb C m = 0 := if_pos hf
    rw [hfb, if_pos rfl, Int32.add_zero]
    have hnl : ¬ nI m < D 136 8 := by rw [h8]; exact Int32.not_lt.mpr hf
    unfold f_X11_passHour_46
    by_cases h0 : m = 0
    · subst h0
      rw [if_pos (show nI 0 = 0 from rfl), if_pos (show nI 0 = 0 from rfl), rdK (i := 6) (j := 6) (n := 40) rfl (by decide) (by decide), wrK (i := 6) (j := 6) (n := 40) rfl (by decide) (by decide), e6]
      have h1 : HS true (ms C o 5 (C o 5 + 1)) (ms D 137 6 (C o 5 + 1)) o := hs_inc ho (by decide) h
      simp only [pt]
      unfold f_X11_passHour_61
      rw [if_pos rfl, cl_s (notes_e (by rw [d136]; exact h5) (hs_bk h1))]
      have eb : f_X11_bookMany o (nI 0) 0 (ms C o 5 (C o 5 + 1)) = some (0, putC o 1 0 (ms C o 5 (C o 5 + 1))) := by
        unfold f_X11_bookMany
        rw [if_pos (show nI 0 = 0 from rfl), cl_s (put_e ho h1.2.1)]
        rfl
      rw [cl_s eb]
      unfold f_X12_counts_26
      have e8 : putM 1 0 (ms D 137 6 (C o 5 + 1)) 136 = D 136 := by rw [putM_fr 136 (by simp), d136]
      rw [e8, if_neg hnl]
      refine ⟨_, _, rfl, rfl, hs_put ho h1, ?_, fun i hi => ?_, fr_tr (fr_ms fr_rf (by simp)) putC_fr, fr_tr (fr_ms fr_rf (by simp)) putM_fr⟩
      · rw [putC_at ho (by decide), ms_at (by decide)]
      · rw [putC_at ho (fun e => by subst e; revert hi; decide), ms_at (fun e => by subst e; revert hi; decide)]
    · have hne : ¬ nI m = 0 := nI_ne0 (by omega) (by omega)
      rw [if_neg hne, if_neg hne]
      unfold f_X11_passHour_61
      have eb : f_X11_bookMany o (nI m) 0 C = some (0, C) := by
        unfold f_X11_bookMany
        rw [if_neg hne]
        rfl
      rw [if_pos rfl, cl_s eb]
      unfold f_X12_counts_26
      rw [if_neg hnl]
      exact ⟨C, D, rfl, rfl, h, rfl, fun _ _ => rfl, fr_rf, fr_rf⟩
  · have hfb : fb C m = 1 := if_neg hf
    rw [hfb, if_neg (by decide)]
    have hnl : nI m < D 136 8 := by rw [h8]; exact Int32.not_le.mp hf
    simp only [pt]
    unfold f_X11_passHour_46
    by_cases h0 : m = 0
    · subst h0
      rw [if_pos (show nI 0 = 0 from rfl), if_pos (show nI 0 = 0 from rfl), rdK (i := 6) (j := 6) (n := 40) rfl (by decide) (by decide), wrK (i := 6) (j := 6) (n := 40) rfl (by decide) (by decide), e6]
      have h1 : HS true (ms C o 5 (C o 5 + 1)) (ms D 137 6 (C o 5 + 1)) o := hs_inc ho (by decide) h
      simp only [pt]
      unfold f_X11_passHour_61
      rw [if_pos rfl, cl_s (notes_e (by rw [d136]; exact h5) (hs_bk h1)), ms_at (i := 4) (j := 5) (by decide)]
      have e8 : putM 1 0 (ms D 137 6 (C o 5 + 1)) 136 = D 136 := by rw [putM_fr 136 (by simp), d136]
      have h2 : HS true (putC o 1 0 (ms C o 5 (C o 5 + 1))) (putM 1 0 (ms D 137 6 (C o 5 + 1))) o := hs_put ho h1
      have e55 : putM 1 0 (ms D 137 6 (C o 5 + 1)) 137 5 = C o 4 := by rw [h2.1.2.2.2.2.2.1, putC_at ho (by decide), ms_at (by decide)]
      have h3 : HS true (ms (putC o 1 0 (ms C o 5 (C o 5 + 1))) o 4 (C o 4 + 1)) (ms (putM 1 0 (ms D 137 6 (C o 5 + 1))) 137 5 (C o 4 + 1)) o := hs_inc ho (by decide) h2
      have ecm : putC o 1 0 (ms (ms C o 4 (C o 4 + 1)) o 5 (C o 5 + 1)) = ms (putC o 1 0 (ms C o 5 (C o 5 + 1))) o 4 (C o 4 + 1) := by
        rw [ms_comm (o := o) (i := 4) (o' := o) (i' := 5) (by omega), putC_ms ho (by decide) (by decide)]
      have hb9 : bnd (ms (ms C o 4 (C o 4 + 1)) o 5 (C o 5 + 1) o 9) 0 150 := by rw [ms_at (by decide), ms_at (by decide)]; exact h.2.1
      generalize hC3 : ms (putC o 1 0 (ms C o 5 (C o 5 + 1))) o 4 (C o 4 + 1) = C3 at *
      generalize hD3 : ms (putM 1 0 (ms D 137 6 (C o 5 + 1))) 137 5 (C o 4 + 1) = D3 at *
      have fC : fr [o, 31, 32, 33] C C3 := by rw [← hC3]; exact fr_ms (fr_tr (fr_ms fr_rf (by simp)) putC_fr) (by simp)
      have fD : fr [137, 142] D D3 := by rw [← hD3]; exact fr_ms (fr_tr (fr_ms fr_rf (by simp)) putM_fr) (by simp)
      obtain ⟨C4, D4, w1, w2, w3, w4, w5, w6⟩ := war_sim ho h3 (by rw [fD 136 (by simp)]; exact h5) (by rw [fD 136 (by simp), fC 6 (by simp; omega)]; exact h10) (by rw [fC 6 (by simp; omega)]; exact hw)
      have eb : f_X11_bookMany o (nI 0) 1 (ms (ms C o 4 (C o 4 + 1)) o 5 (C o 5 + 1)) = some (0, C4) := by
        unfold f_X11_bookMany
        rw [if_pos (show nI 0 = 0 from rfl), cl_s (put_e ho hb9), ecm]
        exact w1
      rw [cl_s eb]
      unfold f_X12_counts_26
      rw [e8, if_pos hnl, rdK (i := 5) (j := 5) (n := 40) rfl (by decide) (by decide), wrK (i := 5) (j := 5) (n := 40) rfl (by decide) (by decide), e55, hD3, if_pos (by decide), w2]
      refine ⟨C4, D4, rfl, rfl, w3, ?_, fun i hi => ?_, fr_tr fC w5, fr_tr fD w6⟩
      · rw [w4 4 (by decide), ← hC3, ms_it]
      · have hi' : i ∈ [1, 2, 3, 4, 5, 7, 8, 10] := by
          simp only [List.mem_cons, List.not_mem_nil, or_false] at hi ⊢
          omega
        rw [w4 i hi', ← hC3, ms_at (fun e => by subst e; revert hi; decide), putC_at ho (fun e => by subst e; revert hi; decide), ms_at (fun e => by subst e; revert hi; decide)]
    · have hne : ¬ nI m = 0 := nI_ne0 (by omega) (by omega)
      rw [if_neg hne, if_neg hne]
      unfold f_X11_passHour_61 f_X12_counts_26
      rw [if_pos rfl, if_pos hnl, rdK (i := 5) (j := 5) (n := 40) rfl (by decide) (by decide), wrK (i := 5) (j := 5) (n := 40) rfl (by decide) (by decide), e5, if_neg (nI_nle (by omega) (by omega))]
      have h1 : HS true (ms C o 4 (C o 4 + 1)) (ms D 137 5 (C o 4 + 1)) o := hs_inc ho (by decide) h
      rw [cl_s (notes_e (by rw [d136]; exact h5) (hs_bk h1))]
      have h2 : HS true (putC o 2 (nI m) (ms C o 4 (C o 4 + 1))) (putM 2 (nI m) (ms D 137 5 (C o 4 + 1))) o := hs_put ho h1
      have hp := put_e (w := 2) (x := nI m) ho h1.2.1
      generalize hC3 : putC o 2 (nI m) (ms C o 4 (C o 4 + 1)) = C3 at *
      generalize hD3 : putM 2 (nI m) (ms D 137 5 (C o 4 + 1)) = D3 at *
      have fC : fr [o, 31, 32, 33] C C3 := by rw [← hC3]; exact fr_tr (fr_ms fr_rf (by simp)) putC_fr
      have fD : fr [137, 142] D D3 := by rw [← hD3]; exact fr_tr (fr_ms fr_rf (by simp)) putM_fr
      obtain ⟨C4, D4, w1, w2, w3, w4, w5, w6⟩ := war_sim ho h2 (by rw [fD 136 (by simp)]; exact h5) (by rw [fD 136 (by simp), fC 6 (by simp; omega)]; exact h10) (by rw [fC 6 (by simp; omega)]; exact hw)
      have eb : f_X11_bookMany o (nI m) 1 (ms C o 4 (C o 4 + 1)) = some (0, C4) := by
        unfold f_X11_bookMany
        rw [if_neg hne, if_neg (by decide), cl_s hp]
        exact w1
      rw [cl_s eb]
      refine ⟨C4, D4, rfl, w2, w3, ?_, fun i hi => ?_, fr_tr fC w5, fr_tr fD w6⟩
      · rw [w4 4 (by decide), ← hC3, putC_at ho (by decide), ms_it]
      · have hi' : i ∈ [1, 2, 3, 4, 5, 7, 8, 10] := by
          simp only [List.mem_cons, List.not_mem_nil, or_false] at hi ⊢
          omega
        rw [w4 i hi', ← hC3, putC_at ho (fun e => by subst e; revert hi; decide), ms_at (fun e => by subst e; revert hi; decide)]
/-- counting in thought -/
theorem blkA1 {m : Nat} {g : Int32} (ho : o = 1 ∨ o = 122) (h : HS false C D o) (h5 : D 136 5 = 1) (h8 : D 136 8 = C 6 0) (hm : m ≤ 10) : ∃ C1 D1, f_X11_passHour_29 o 1 g (nI m) (fb C m) C = f_X11_passHour_74 o 1 g (nI m) (fb C m) C1 ∧ f_X12_counts (nI m) D = some (0, D1) ∧ HS false C1 D1 o ∧ C1 o 4 = C o 4 + fb C m ∧ (∀ i ∈ [1, 2, 3, 7, 8, 10], C1 o i = C o i) ∧ fr [o] C C1 ∧ fr [137] D D1 := by
  have d136 : ∀ {X : IM} {j : Nat} {v : Int32}, ms X 137 j v 136 = X 136 := fun {X j v} => ms_ne (by decide)
  have e5 : D 137 5 = C o 4 := h.1.2.2.2.2.2.1
  have e6 : D 137 6 = C o 5 := h.1.2.2.2.2.2.2.1
  have c59 : ∀ X : IM, X 136 5 = 1 → f_X12_counts_59 X = some (0, X) := fun X hX => by
    unfold f_X12_counts_59
    rw [if_neg (by rw [hX]; decide)]
  have c26 : ∀ X : IM, X 136 = D 136 → X 137 5 = C o 4 → f_X12_counts_26 (nI m) X = some (0, if C 6 0 ≤ nI m then X else ms X 137 5 (C o 4 + 1)) := fun X h6 h7 => by
    unfold f_X12_counts_26
    rw [h6, h8]
    by_cases hf : C 6 0 ≤ nI m
    · rw [if_neg (Int32.not_lt.mpr hf), if_pos hf]
    · rw [if_pos (Int32.not_le.mp hf), if_neg hf, rdK (i := 5) (j := 5) (n := 40) rfl (by decide) (by decide), wrK (i := 5) (j := 5) (n := 40) rfl (by decide) (by decide), h7, c59 _ (by rw [d136, h6]; exact h5), cl_s (notes_th (by rw [d136, h6]; exact h5)), c59 _ (by rw [d136, h6]; exact h5), ite_self]
  have ck : ∀ X : IM, f_X11_passHour_61 o 1 g (nI m) (fb C m) X = f_X11_passHour_74 o 1 g (nI m) (fb C m) X := fun X => by
    unfold f_X11_passHour_61
    rw [if_neg (by decide)]
  unfold f_X12_counts f_X11_passHour_29 f_X11_passHour_46
  simp only [pt]
  by_cases h0 : m = 0
  · subst h0
    have h1 : HS false (ms C o 5 (C o 5 + 1)) (ms D 137 6 (C o 5 + 1)) o := hs_inc ho (by decide) h
    rw [if_pos (show nI 0 = 0 from rfl), if_pos (show nI 0 = 0 from rfl), if_pos (show nI 0 = 0 from rfl), rdK (i := 6) (j := 6) (n := 40) rfl (by decide) (by decide), wrK (i := 6) (j := 6) (n := 40) rfl (by decide) (by decide), e6, cl_s (notes_th (by rw [d136]; exact h5)), c26 _ d136 (by rw [ms_at (by decide)]; exact e5), ck, ck, ms_at (i := 4) (j := 5) (by decide)]
    by_cases hf : C 6 0 ≤ nI 0
    · have hfb : fb C 0 = 0 := if_pos hf
      rw [hfb, if_pos rfl, if_pos hf, Int32.add_zero]
      exact ⟨_, _, rfl, rfl, h1, by rw [ms_at (by decide)], fun i hi => ms_at (fun e => by subst e; revert hi; decide), fr_ms fr_rf (by simp), fr_ms fr_rf (by simp)⟩
    · have hfb : fb C 0 = 1 := if_neg hf
      rw [hfb, if_neg (by decide), if_neg hf, ms_comm (o := o) (i := 4) (o' := o) (i' := 5) (by omega)]
      exact ⟨_, _, rfl, rfl, hs_inc ho (by decide) h1, ms_it, fun i hi => by rw [ms_at (fun e => by subst e; revert hi; decide), ms_at (fun e => by subst e; revert hi; decide)], fr_ms (fr_ms fr_rf (by simp)) (by simp), fr_ms (fr_ms fr_rf (by simp)) (by simp)⟩
  · have hne : ¬ nI m = 0 := nI_ne0 (by omega) (by omega)
    rw [if_neg hne, if_neg hne, if_neg hne, c26 _ rfl e5, ck, ck]
    by_cases hf : C 6 0 ≤ nI m
    · have hfb : fb C m = 0 := if_pos hf
      rw [hfb, if_pos rfl, if_pos hf, Int32.add_zero]
      exact ⟨_, _, rfl, rfl, h, rfl, fun _ _ => rfl, fr_rf, fr_rf⟩
    · have hfb : fb C m = 1 := if_neg hf
      rw [hfb, if_neg (by decide), if_neg hf]
      exact ⟨_, _, rfl, rfl, hs_inc ho (by decide) h, ms_it, fun i hi => ms_at (fun e => by subst e; revert hi; decide), fr_ms fr_rf (by simp), fr_ms fr_rf (by simp)⟩
end HRA
