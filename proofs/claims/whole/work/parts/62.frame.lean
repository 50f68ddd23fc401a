/-! what each part of the invariant looks at -/
theorem fr_Now {M M' : IM} (h1 : M' 1 = M 1) (h2 : M' 2 = M 2) (h3 : M' 3 = M 3) (h4 : M' 4 = M 4) (h5 : M' 5 = M 5) (h20 : M' 20 = M 20) (h22 : M' 22 = M 22) (h137 : M' 137 = M 137) (h140 : M' 140 = M 140) (h6 : M' 136 6 = M 136 6) (h : IvNow M) : IvNow M' := by
  unfold IvNow at *
  rw [h1, h2, h3, h4, h5, h20, h22, h137, h140, h6]
  exact h
theorem fr_Told {M M' : IM} (hr : ∀ p : Nat, 6 ≤ p → p ≤ 27 → M' p = M p) (h1 : M' 1 10 = M 1 10) (h8 : M' 136 8 = M 136 8) (h9 : M' 136 9 = M 136 9) (h10 : M' 136 10 = M 136 10) (h36 : M' 136 36 = M 136 36) (h38 : M' 136 38 = M 136 38) (h141 : M' 141 = M 141) (hm : ∀ p : Nat, 145 ≤ p → p ≤ 151 → M' p = M p) (h153 : M' 153 = M 153) (h154 : M' 154 = M 154) (h : IvTold M) : IvTold M' := by
  unfold IvTold RTd at *
  rw [h1, h8, h9, h10, h36, h38, h141, h153, h154, hm 145 (by decide) (by decide), hm 146 (by decide) (by decide), hm 147 (by decide) (by decide), hm 148 (by decide) (by decide), hm 149 (by decide) (by decide), hm 150 (by decide) (by decide), hm 151 (by decide) (by decide), hr 6 (by decide) (by decide), hr (6 + 1) (by decide) (by decide), hr (6 + 2) (by decide) (by decide), hr (6 + 3) (by decide) (by decide), hr (6 + 4) (by decide) (by decide), hr (6 + 5) (by decide) (by decide), hr (6 + 6) (by decide) (by decide), hr (6 + 7) (by decide) (by decide), hr (6 + 8) (by decide) (by decide), hr (6 + 9) (by decide) (by decide), hr (6 + 10) (by decide) (by decide), hr (6 + 11) (by decide) (by decide), hr (6 + 12) (by decide) (by decide), hr (6 + 13) (by decide) (by decide), hr (6 + 14) (by decide) (by decide), hr (6 + 15) (by decide) (by decide), hr (6 + 16) (by decide) (by decide), hr (6 + 17) (by decide) (by decide), hr (6 + 18) (by decide) (by decide), hr (6 + 19) (by decide) (by decide), hr (6 + 20) (by decide) (by decide), hr (6 + 21) (by decide) (by decide)]
  exact h
theorem fr_Book {M M' : IM} (h142 : M' 142 = M 142) (h31 : M' 31 = M 31) (h32 : M' 32 = M 32) (h33 : M' 33 = M 33) (h : IvBook M) : IvBook M' := by
  unfold IvBook at *
  rw [h142, h31, h32, h33]
  exact h
theorem fr_Past {M M' : IM} (hr : ∀ p : Nat, 34 ≤ p → p ≤ 65 → M' p = M p) (h3 : M' 136 3 = M 136 3) (h138 : M' 138 = M 138) (h20 : M' 20 = M 20) (h22 : M' 22 = M 22) (h1 : M' 1 10 = M 1 10) (hl : M' 3 = M 3) (h : IvPast M) : IvPast M' := by
  obtain ⟨a1, a2, k, a3, a4, a5⟩ := h
  refine ⟨by rw [h3, hr 34 (by decide) (by decide)]; exact a1, by rw [hr 34 (by decide) (by decide)]; exact a2, k, fun j hj => by rw [hr 35 (by decide) (by decide)]; exact a3 j hj, a4, fun j hj => ?_⟩
  rw [hr 34 (by decide) (by decide)] at hj
  have hj6 : j < 6 := by
    have h0 : (M 34 0).toNatClampNeg ≤ 6 := by
      have e : ((M 34 0).toNatClampNeg : Int) ≤ 6 := by rw [Int32.toNatClampNeg]; have := a2.2; have := a2.1; omega
      omega
    omega
  have hk := (a3 j hj6).1
  rw [hr (36 + 5 * k j) (by omega) (by omega), hr (37 + 5 * k j) (by omega) (by omega), hr (38 + 5 * k j) (by omega) (by omega), hr (39 + 5 * k j) (by omega) (by omega), hr (40 + 5 * k j) (by omega) (by omega), h138, h20, h22, h1, hl]
  exact a5 j hj
/-- nothing can be undone any more -/
theorem no_Past {M M' : IM} (h35 : M' 35 = M 35) (h34 : M' 34 0 = 0) (h3 : M' 136 3 = 0) (h : IvPast M) : IvPast M' := by
  obtain ⟨a1, a2, k, a3, a4, a5⟩ := h
  refine ⟨by rw [h34, h3], by rw [h34]; exact ⟨by decide, by decide⟩, k, fun j hj => by rw [h35]; exact a3 j hj, a4, fun j hj => ?_⟩
  rw [h34, show (0 : Int32).toNatClampNeg = 0 by decide] at hj
  omega
theorem fr_Tape {M M' : IM} (h14 : M' 136 14 = M 136 14) (h9 : M' 0 9 = M 0 9) (h143 : M' 143 = M 143) (h99 : M' 99 = M 99) (h : IvTape M) : IvTape M' := by
  unfold IvTape at *
  rw [h14, h9, h143, h99]
  exact h
theorem fr_Fault {M M' : IM} (h34 : M' 136 34 = M 136 34) (h35 : M' 136 35 = M 136 35) (h5 : M' 136 5 = M 136 5) (h100 : M' 100 0 = M 100 0) (h101 : M' 100 1 = M 100 1) (h : IvFault M) : IvFault M' := by
  unfold IvFault at *
  rw [h34, h35, h5, h100, h101]
  exact h
theorem fr_Words {M M' : IM} (h144 : M' 144 = M 144) (h : IvWords M) : IvWords M' := by
  unfold IvWords at *
  rw [h144]
  exact h
theorem fr_Img {M M' : IM} (hr : ∀ p : Nat, 66 ≤ p → p ≤ 98 → ¬ p = 93 → ¬ p = 94 → M' p = M p) (h7 : M' 0 7 = M 0 7) (h50 : M' 136 50 = M 136 50) (h164 : M' 164 = M 164) (h : IvImg M) : IvImg M' := by
  unfold IvImg RTd at *
  rw [h7, h50, h164, hr 66 (by decide) (by decide) (by decide) (by decide), hr 67 (by decide) (by decide) (by decide) (by decide), hr 68 (by decide) (by decide) (by decide) (by decide), hr 69 (by decide) (by decide) (by decide) (by decide), hr 70 (by decide) (by decide) (by decide) (by decide), hr 96 (by decide) (by decide) (by decide) (by decide), hr 97 (by decide) (by decide) (by decide) (by decide), hr 98 (by decide) (by decide) (by decide) (by decide), hr 71 (by decide) (by decide) (by decide) (by decide), hr (71 + 1) (by decide) (by decide) (by decide) (by decide), hr (71 + 2) (by decide) (by decide) (by decide) (by decide), hr (71 + 3) (by decide) (by decide) (by decide) (by decide), hr (71 + 4) (by decide) (by decide) (by decide) (by decide), hr (71 + 5) (by decide) (by decide) (by decide) (by decide), hr (71 + 6) (by decide) (by decide) (by decide) (by decide), hr (71 + 7) (by decide) (by decide) (by decide) (by decide), hr (71 + 8) (by decide) (by decide) (by decide) (by decide), hr (71 + 9) (by decide) (by decide) (by decide) (by decide), hr (71 + 10) (by decide) (by decide) (by decide) (by decide), hr (71 + 11) (by decide) (by decide) (by decide) (by decide), hr (71 + 12) (by decide) (by decide) (by decide) (by decide), hr (71 + 13) (by decide) (by decide) (by decide) (by decide), hr (71 + 14) (by decide) (by decide) (by decide) (by decide), hr (71 + 15) (by decide) (by decide) (by decide) (by decide), hr (71 + 16) (by decide) (by decide) (by decide) (by decide), hr (71 + 17) (by decide) (by decide) (by decide) (by decide), hr (71 + 18) (by decide) (by decide) (by decide) (by decide), hr (71 + 19) (by decide) (by decide) (by decide) (by decide), hr (71 + 20) (by decide) (by decide) (by decide) (by decide), hr (71 + 21) (by decide) (by decide) (by decide) (by decide)]
  exact h
theorem ms_ne {M : IM} {o i p : Nat} {v : Int32} (h : ¬ p = o) : ms M o i v p = M p := by rw [ms_row, if_neg h]
theorem ms_at {M : IM} {o i j : Nat} {v : Int32} (h : ¬ j = i) : ms M o i v o j = M o j := by unfold ms; rw [if_neg (fun z => h z.2)]
theorem ms_it {M : IM} {o i : Nat} {v : Int32} : ms M o i v o i = v := by unfold ms; rw [if_pos ⟨rfl, rfl⟩]
theorem rdK {M : IM} {o n j : Nat} {i : Int32} {k : Int32 → IR} (hi : i = nI j) (hj : j < n) (hn : n < 2 ^ 31) : rd M o n i k = k (M o j) := by
  subst hi
  unfold rd
  rw [if_neg (nI_in hj hn), nI_clamp (by omega)]
theorem wrK {M : IM} {o n j : Nat} {i v : Int32} {k : IM → IR} (hi : i = nI j) (hj : j < n) (hn : n < 2 ^ 31) : wr M o n i v k = k (ms M o j v) := by
  subst hi
  unfold wr
  rw [if_neg (nI_in hj hn), nI_clamp (by omega)]
/-- state: told anew on both sides -/
theorem st_state (v : Int32) : Stp2 Inv (f_X11_state v) (f_X12_state v) := by
  intro M hI
  obtain ⟨hN, hT, hB, hP, hTp, hF, hW, hG⟩ := hI
  have e1 : f_X11_state v M = some (M 1 0, ms (ms M 1 0 v) 34 0 0) := rfl
  generalize hM1 : ms (ms M 1 0 v) 34 0 0 = M1 at e1
  have e2 : f_X12_state v M1 = some (M1 137 1, ms (ms (ms M1 136 0 0) 137 1 v) 136 3 0) := by
    simp only [f_X12_state, pt]
    rw [rdK (i := 1) (j := 1) (n := 40) rfl (by decide) (by decide), wrK (i := 1) (j := 1) (n := 40) rfl (by decide) (by decide)]
    rw [ms_ne (by decide)]
  subst hM1
  have e3 : ms (ms M 1 0 v) 34 0 0 137 1 = M 1 0 := by
    rw [ms_ne (by decide), ms_ne (by decide)]
    exact hN.1.2.1
  rw [e3] at e2
  refine ⟨_, _, _, e1, e2, ?_⟩
  generalize hM2 : ms (ms (ms (ms (ms M 1 0 v) 34 0 0) 136 0 0) 137 1 v) 136 3 0 = M2
  have far : ∀ p : Nat, ¬ p = 1 → ¬ p = 34 → ¬ p = 136 → ¬ p = 137 → M2 p = M p := fun p h1 h2 h3 h4 => by
    rw [← hM2, ms_ne h3, ms_ne h4, ms_ne h3, ms_ne h2, ms_ne h1]
  have m1 : ∀ i : Nat, ¬ i = 0 → M2 1 i = M 1 i := fun i h => by
    rw [← hM2, ms_ne (by decide), ms_ne (by decide), ms_ne (by decide), ms_ne (by decide), ms_at h]
  have m10 : M2 1 0 = v := by
    rw [← hM2, ms_ne (by decide), ms_ne (by decide), ms_ne (by decide), ms_ne (by decide), ms_it]
  have m136 : ∀ i : Nat, ¬ i = 0 → ¬ i = 3 → M2 136 i = M 136 i := fun i h h3 => by
    rw [← hM2, ms_at h3, ms_ne (by decide), ms_at h, ms_ne (by decide), ms_ne (by decide)]
  have m137 : ∀ i : Nat, ¬ i = 1 → M2 137 i = M 137 i := fun i h => by
    rw [← hM2, ms_ne (by decide), ms_at h, ms_ne (by decide), ms_ne (by decide), ms_ne (by decide)]
  have m1371 : M2 137 1 = v := by rw [← hM2, ms_ne (by decide), ms_it]
  refine ⟨?_, fr_Told (fun p h1 h2 => far p (by omega) (by omega) (by omega) (by omega)) (m1 _ (by decide)) (m136 _ (by decide) (by decide)) (m136 _ (by decide) (by decide)) (m136 _ (by decide) (by decide)) (m136 _ (by decide) (by decide)) (m136 _ (by decide) (by decide)) (far _ (by decide) (by decide) (by decide) (by decide)) (fun p h1 h2 => far p (by omega) (by omega) (by omega) (by omega)) (far _ (by decide) (by decide) (by decide) (by decide)) (far _ (by decide) (by decide) (by decide) (by decide)) hT,
    fr_Book (far _ (by decide) (by decide) (by decide) (by decide)) (far _ (by decide) (by decide) (by decide) (by decide)) (far _ (by decide) (by decide) (by decide) (by decide)) (far _ (by decide) (by decide) (by decide) (by decide)) hB,
    no_Past (far _ (by decide) (by decide) (by decide) (by decide)) (by rw [← hM2, ms_ne (by decide), ms_ne (by decide), ms_ne (by decide), ms_it]) (by rw [← hM2, ms_it]) hP,
    fr_Tape (m136 _ (by decide) (by decide)) (congrFun (far 0 (by decide) (by decide) (by decide) (by decide)) 9) (far _ (by decide) (by decide) (by decide) (by decide)) (far _ (by decide) (by decide) (by decide) (by decide)) hTp,
    fr_Fault (m136 _ (by decide) (by decide)) (m136 _ (by decide) (by decide)) (m136 _ (by decide) (by decide)) (congrFun (far 100 (by decide) (by decide) (by decide) (by decide)) 0) (congrFun (far 100 (by decide) (by decide) (by decide) (by decide)) 1) hF,
    fr_Words (far _ (by decide) (by decide) (by decide) (by decide)) hW,
    fr_Img (fun p h1 h2 _ _ => far p (by omega) (by omega) (by omega) (by omega)) (congrFun (far 0 (by decide) (by decide) (by decide) (by decide)) 7) (m136 _ (by decide) (by decide)) (far _ (by decide) (by decide) (by decide) (by decide)) hG⟩
  obtain ⟨⟨a0, a1, a2, a3, a4, a5, a6, a7, a8, a9, aw⟩, ⟨b1, b2, b3, b4, b5, bw⟩, c, d, dl⟩ := hN
  have r2 := far 2 (by decide) (by decide) (by decide) (by decide)
  have r3 := far 3 (by decide) (by decide) (by decide) (by decide)
  have r4 := far 4 (by decide) (by decide) (by decide) (by decide)
  have r5 := far 5 (by decide) (by decide) (by decide) (by decide)
  have r20 := far 20 (by decide) (by decide) (by decide) (by decide)
  have r22 := far 22 (by decide) (by decide) (by decide) (by decide)
  have r140 := far 140 (by decide) (by decide) (by decide) (by decide)
  unfold IvNow RNw OkN OkL
  rw [r2, r3, r4, r5, r20, r22, r140, m1 1 (by decide), m1 2 (by decide), m1 3 (by decide), m1 4 (by decide), m1 5 (by decide), m1 6 (by decide), m1 7 (by decide), m1 8 (by decide), m1 9 (by decide), m1 10 (by decide), m10, m1371, m136 6 (by decide) (by decide), m137 0 (by decide), m137 2 (by decide), m137 3 (by decide), m137 4 (by decide), m137 5 (by decide), m137 6 (by decide), m137 7 (by decide), m137 8 (by decide), m137 9 (by decide)]
  exact ⟨⟨a0, rfl, a2, a3, a4, a5, a6, a7, a8, a9, fun w hw => by rw [m137 _ (by omega), m137 _ (by omega), m137 _ (by omega)]; exact aw w hw⟩, ⟨b1, b2, b3, b4, b5, bw⟩, c, d, dl⟩
