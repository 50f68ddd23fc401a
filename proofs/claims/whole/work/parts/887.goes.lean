/-! goes -/
/-- as same, but of the model's now only its forty -/
def sam7 (D M2 : IM) : Prop := ∃ X : IM, same D X ∧ (∀ p : Nat, ¬ p = 137 → M2 p = X p) ∧ ∀ i : Nat, i < 40 → M2 137 i = X 137 i
theorem Inv_sam7 {M M' : IM} (hs : sam7 M M') (h : Inv M) : Inv M' := by
  obtain ⟨X, h1, h2, h3⟩ := hs
  obtain ⟨⟨⟨a0, a1, a2, a3, a4, a5, a6, a7, a8, a9, aw⟩, hO, hL, dw, dl⟩, hT, hB, hP, hTp, hF, hW, hG⟩ := Inv_same h1 h
  have hA : agr [137] [] X M' := fun p i hp _ => by rw [h2 p (by simpa using hp)]
  refine ⟨⟨⟨by rw [h3 0 (by decide), h2 1 (by decide)]; exact a0, by rw [h3 1 (by decide), h2 1 (by decide)]; exact a1, by rw [h3 2 (by decide), h2 1 (by decide)]; exact a2, by rw [h3 3 (by decide), h2 1 (by decide)]; exact a3, by rw [h3 4 (by decide), h2 1 (by decide)]; exact a4, by rw [h3 5 (by decide), h2 1 (by decide)]; exact a5, by rw [h3 6 (by decide), h2 1 (by decide)]; exact a6, by rw [h3 7 (by decide), h2 1 (by decide)]; exact a7, by rw [h3 8 (by decide), h2 1 (by decide)]; exact a8, by rw [h3 9 (by decide), h2 1 (by decide)]; exact a9, fun w hw => by rw [h3 (10 + w) (by omega), h3 (20 + w) (by omega), h3 (30 + w) (by omega), h2 4 (by decide), h2 5 (by decide), h2 2 (by decide)]; exact aw w hw⟩, ?_, ?_, ?_, ?_⟩, ag_Told hA (by decide +kernel) hT, ag_Book hA (by decide) hB, ag_Past hA (by decide +kernel) hP, ag_Tape hA (by decide) hTp, ag_Fault hA (by decide) hF, ag_Words hA (by decide) hW, ag_Img hA (by decide +kernel) hG⟩
  · rw [h2 1 (by decide), h2 2 (by decide), h2 3 (by decide), h2 4 (by decide), h2 5 (by decide)]; exact hO
  · rw [h2 1 (by decide), h2 20 (by decide), h2 22 (by decide)]; exact hL
  · rw [h2 136 (by decide), h2 1 (by decide)]; exact dw
  · rw [h2 140 (by decide), h2 3 (by decide)]; exact dl
theorem stp_w {f g k : IM → IR} (hg : g = fun M => pt M 136 0 0 k) (h : ∀ M l0 l1, Inv M → RC M M 1 l0 l1 → ∃ v : Int32, Ok (f M) (fun r M1 => r = v ∧ same M M1) ∧ ∀ D, same M D → RC M D 1 l0 l1 → Ok (k D) (fun r M2 => r = v ∧ sam7 D M2)) : Stp2 Inv f g := by
  intro M hI
  obtain ⟨l0, l1, hR⟩ := RC_of hI
  obtain ⟨v, ⟨r1, M1, e1, rfl, s1⟩, h2⟩ := h M l0 l1 hI hR
  have hs2 : same M (ms M1 136 0 0) := same_tr s1 same_told
  obtain ⟨r2, M2, e2, rfl, s2⟩ := h2 _ hs2 (RC_same hs2 hR)
  refine ⟨r2, M1, M2, e1, ?_, Inv_sam7 s2 (Inv_same hs2 hI)⟩
  rw [hg]
  exact e2
theorem thinks_m (D : IM) : ∃ T, f_X12_thinks D = some (0, T) ∧ (∀ i : Nat, i < 40 → T 139 i = D 137 i) ∧ T 136 5 = 1 ∧ agr [139] [(136, 5)] D T := by
  have loop : ∀ (f k : Nat) (X : IM), k ≤ 40 → 40 - k < f → ∃ T, f_X12_thinks_2 f (nI k) X = some (0, T) ∧ (∀ i : Nat, k ≤ i → i < 40 → T 139 i = X 137 i) ∧ (∀ i : Nat, i < k → T 139 i = X 139 i) ∧ T 136 5 = 1 ∧ agr [139] [(136, 5)] X T := by
    intro f
    induction f with
    | zero => intro k X _ h; omega
    | succ f ih =>
      intro k X hk hf
      have hstep : f_X12_thinks_2 (f + 1) (nI k) X = f_X12_thinks_2_b (f_X12_thinks_2 f) (nI k) X := rfl
      by_cases h : k = 40
      · subst h
        refine ⟨ms X 136 5 1, ?_, fun i h1 h2 => by omega, fun i _ => by rw [ms_ne (by decide)], ms_it, agr_c agr_rf (by decide)⟩
        rw [hstep]
        unfold f_X12_thinks_2_b pz
        rw [if_pos (by decide), if_pos (by decide)]
      · have hb : f_X12_thinks_2 (f + 1) (nI k) X = f_X12_thinks_2 f (nI (k + 1)) (ms X 139 k (X 137 k)) := by
          rw [hstep]
          simp only [f_X12_thinks_2_b, lt]
          rw [if_neg (show ¬ (40 : Int32) ≤ nI k from nI_ge (a := k) (b := 40) (by omega) (by decide)), rdK (i := nI k) (j := k) (n := 40) rfl (by omega) (by decide), wrK (i := nI k) (j := k) (n := 40) rfl (by omega) (by decide), nI_1]
        obtain ⟨T, e1, e2, e3, e4, e5⟩ := ih (k + 1) (ms X 139 k (X 137 k)) (by omega) (by omega)
        refine ⟨T, by rw [hb]; exact e1, fun i h1 h2 => ?_, fun i h1 => ?_, e4, agr_tr (agr_c agr_rf (Or.inr (by decide))) e5⟩
        · by_cases hik : i = k
          · subst hik; rw [e3 i (by omega), ms_it]
          · rw [e2 i (by omega) h2, ms_ne (by decide)]
        · rw [e3 i (by omega), ms_at (by omega)]
  obtain ⟨T, e1, e2, -, e4, e5⟩ := loop BG 0 D (by omega) (by unfold BG; omega)
  exact ⟨T, e1, fun i hi => e2 i (by omega) hi, e4, e5⟩
theorem anew_m (D : IM) : ∃ T, f_X12_thinksAnew D = some (0, T) ∧ (∀ i : Nat, i < 40 → T 137 i = D 139 i) ∧ agr [137] [] D T := by
  have loop : ∀ (f k : Nat) (X : IM), k ≤ 40 → 40 - k < f → ∃ T, f_X12_thinksAnew_2 f (nI k) X = some (0, T) ∧ (∀ i : Nat, k ≤ i → i < 40 → T 137 i = X 139 i) ∧ (∀ i : Nat, i < k → T 137 i = X 137 i) ∧ agr [137] [] X T := by
    intro f
    induction f with
    | zero => intro k X _ h; omega
    | succ f ih =>
      intro k X hk hf
      have hstep : f_X12_thinksAnew_2 (f + 1) (nI k) X = f_X12_thinksAnew_2_b (f_X12_thinksAnew_2 f) (nI k) X := rfl
      by_cases h : k = 40
      · subst h
        refine ⟨X, ?_, fun i h1 h2 => by omega, fun i _ => rfl, agr_rf⟩
        rw [hstep]
        unfold f_X12_thinksAnew_2_b
        rw [if_pos (by decide)]
      · have hb : f_X12_thinksAnew_2 (f + 1) (nI k) X = f_X12_thinksAnew_2 f (nI (k + 1)) (ms X 137 k (X 139 k)) := by
          rw [hstep]
          simp only [f_X12_thinksAnew_2_b, lt]
          rw [if_neg (show ¬ (40 : Int32) ≤ nI k from nI_ge (a := k) (b := 40) (by omega) (by decide)), rdK (i := nI k) (j := k) (n := 40) rfl (by omega) (by decide), wrK (i := nI k) (j := k) (n := 40) rfl (by omega) (by decide), nI_1]
        obtain ⟨T, e1, e2, e3, e5⟩ := ih (k + 1) (ms X 137 k (X 139 k)) (by omega) (by omega)
        refine ⟨T, by rw [hb]; exact e1, fun i h1 h2 => ?_, fun i h1 => ?_, agr_tr (agr_c agr_rf (Or.inr (by decide))) e5⟩
        · by_cases hik : i = k
          · subst hik; rw [e3 i (by omega), ms_it]
          · rw [e2 i (by omega) h2, ms_ne (by decide)]
        · rw [e3 i (by omega), ms_at (by omega)]
  obtain ⟨T, e1, e2, -, e5⟩ := loop BG 0 D (by omega) (by unfold BG; omega)
  exact ⟨T, e1, fun i hi => e2 i (by omega) hi, e5⟩
/-- the end of a thought that began at D: all is as it was -/
theorem ends_m {D X : IM} (h5 : D 136 5 = 0) (h139 : ∀ i : Nat, i < 40 → X 139 i = D 137 i) (hr : ∀ q : Nat, ¬ q = 136 → ¬ q = 137 → q ∉ scr → X q = D q) (h136 : ∀ i : Nat, ¬ i = 5 → X 136 i = D 136 i) : ∃ T, f_X12_endsThought X = some (0, T) ∧ sam7 D T := by
  obtain ⟨T, e1, e2, e3⟩ := anew_m X
  have t : ∀ q : Nat, ¬ q = 137 → T q = X q := fun q hq => funext fun i => e3 q i (by simpa using hq) (by simp)
  refine ⟨ms T 136 5 0, ?_, fun p => if p = 137 then D 137 else ms T 136 5 0 p, ⟨fun p hp => ?_, fun i hi => ?_, ?_, ?_⟩, fun p hp => ?_, fun i hi => ?_⟩
  · unfold f_X12_endsThought pz
    rw [cl_s e1, if_pos (Or.inl rfl)]
  · show (if p = 137 then D 137 else ms T 136 5 0 p) = D p
    by_cases h : p = 137
    · subst h; rw [if_pos rfl]
    · rw [if_neg h, ms_ne (by omega), t p h]
      refine hr p (by omega) h (fun hm => ?_)
      have hs : ∀ p ∈ scr, p = 28 ∨ p = 29 ∨ (93 ≤ p ∧ p ≤ 94) ∨ (101 ≤ p ∧ p ≤ 135) ∨ p = 139 ∨ p = 152 ∨ (155 ≤ p ∧ p ≤ 163) := by decide
      have := hs p hm
      omega
  · show (if 136 = 137 then D 137 else ms T 136 5 0 136) i = D 136 i
    rw [if_neg (by decide)]
    by_cases h : i = 5
    · subst h; rw [ms_it, h5]
    · rw [ms_at h, t 136 (by decide)]; exact h136 i h
  · show (if 100 = 137 then D 137 else ms T 136 5 0 100) 0 = D 100 0
    rw [if_neg (by decide), ms_ne (by decide), t 100 (by decide), hr 100 (by decide) (by decide) (by decide)]
  · show (if 100 = 137 then D 137 else ms T 136 5 0 100) 1 = D 100 1
    rw [if_neg (by decide), ms_ne (by decide), t 100 (by decide), hr 100 (by decide) (by decide) (by decide)]
  · show ms T 136 5 0 p = (if p = 137 then D 137 else ms T 136 5 0 p)
    rw [if_neg hp]
  · show ms T 136 5 0 137 i = (if 137 = 137 then D 137 else ms T 136 5 0 137) i
    rw [if_pos rfl, ms_ne (by decide), e2 i hi, h139 i hi]
def gfM (f : Nat → Int32) : Nat → Int32
  | 0 => 0
  | i + 1 => if gfM f i < f i then f i else gfM f i
section GOES
variable {l0 l1 : List LLn}
/-- class and model in thought -/
def TRl (C D : IM) (l0 l1 : List LLn) : Prop := RC C D 122 l0 l1 ∧ bnd (C 122 4) 0 (C 122 1).toInt ∧ D 136 5 = 1
def tFr (D D' : IM) : Prop := ∀ q : Nat, ¬ q = 137 → (q < 155 ∨ 157 < q) → D' q = D q
theorem hour_th {C D0 : IM} (h0 : TRl C D0 l0 l1) (hh : (C 122 1).toInt < 19999) : ∃ (r : Int32) (C1 : IM), f_X11_passHour 122 1 C = some (r, C1) ∧ (r = 0 ∨ r = 1) ∧ C1 122 4 = C 122 4 + r ∧ C1 122 1 = C 122 1 + 1 ∧ (C1 122 1).toInt = (C 122 1).toInt + 1 ∧ fr [125, 126, 120, 121, 122] C C1 ∧ ∀ D, TRl C D l0 l1 → ∃ D1, f_X12_goesBy D = some (0, D1) ∧ TRl C1 D1 l0 l1 ∧ tFr D D1 := by
  obtain ⟨r, C1, D1, s1, s2, s3, s4, s5, s6, s7, s8, s9, s10, s11⟩ := hour_sim (b := false) (Or.inr rfl) h0.1 (fun h => by cases h) h0.2.2 (by omega) h0.2.1
  refine ⟨r, C1, s1, s3, s7, s8, ?_, s10, fun D hD => ?_⟩
  · rw [s8, bnd_add (y := 1) (c := 0) (d := 1) h0.1.1.2.1.1 ⟨by decide, by decide⟩ (by omega) (by omega)]
    rfl
  · obtain ⟨r', C1', D1', t1, t2, t3, t4, t5, t6, t7, t8, t9, t10, t11⟩ := hour_sim (b := false) (Or.inr rfl) hD.1 (fun h => by cases h) hD.2.2 (by omega) hD.2.1
    have e : some (r, C1) = some (r', C1') := s1.symm.trans t1
    simp only [Option.some.injEq, Prod.mk.injEq] at e
    obtain ⟨rfl, rfl⟩ := e
    exact ⟨D1', t2, ⟨t4, t6, by rw [t11 136 (by decide)]; exact hD.2.2⟩, fun q h1 h2 => t11 q (by simp [RV, FD]; omega)⟩
theorem goes_loop {n : Nat} {s0 : Int32} (hn : n ≤ 99) : ∀ (m i : Nat) (C D0 : IM) (fst : Int32), i + m = n → TRl C D0 l0 l1 → (C 122 1).toInt + m ≤ 19000 → ∃ (C' : IM) (fst' : Int32), (∀ (w : Int32) (f : Nat), f_X11_goes_31 (f + m) (nI n) w (C 122 4 - s0) fst (nI i) C = f_X11_goes_31 f (nI n) w (C' 122 4 - s0) fst' (nI n) C') ∧ fr [125, 126, 120, 121, 122] C C' ∧ ∀ D, TRl C D l0 l1 → ∃ D', (∀ (w x : Int32) (f : Nat), f_X12_goes_40 (f + m) (nI n) w fst x (nI i) D = f_X12_goes_40 f (nI n) w fst' x (nI n) D') ∧ TRl C' D' l0 l1 ∧ tFr D D' := by
  intro m
  induction m with
  | zero =>
    intro i C D0 fst hi h hh
    have : i = n := by omega
    subst this
    exact ⟨C, fst, fun _ _ => rfl, fr_rf, fun D hD => ⟨D, fun _ _ _ => rfl, hD, fun _ _ _ => rfl⟩⟩
  | succ m ih =>
    intro i C D0 fst hi h hh
    obtain ⟨r, C1, e1, hr, e2, e3, e4, e5, e6⟩ := hour_th h (by omega)
    obtain ⟨D01, -, hD01, -⟩ := e6 D0 h
    obtain ⟨C', fst', g1, g2, g3⟩ := ih (i + 1) C1 D01 (if r = 0 then fst else if fst = -1 then C 122 1 else fst) (by omega) hD01 (by rw [e4]; omega)
    refine ⟨C', fst', fun w f => ?_, fr_tr e5 g2, fun D hD => ?_⟩
    · rw [← g1 w f, show f + (m + 1) = (f + m) + 1 by omega]
      show f_X11_goes_31_b (f_X11_goes_31 (f + m)) _ _ _ _ _ C = _
      unfold f_X11_goes_31_b
      rw [if_neg (nI_ge (by omega) (by omega))]
      simp only [lt]
      rw [cl_s e1, nI_1]
      rcases hr with rfl | rfl
      · rw [if_pos rfl, if_pos rfl, e2, Int32.add_zero]
      · rw [if_neg (show ¬ (1 : Int32) = 0 by decide), if_neg (show ¬ (1 : Int32) = 0 by decide), e2, add_sub1]
        by_cases hf : fst = -1
        · rw [if_pos hf, if_pos hf]
        · rw [if_neg hf, if_neg hf]
    · obtain ⟨D1, d1, d2, d3⟩ := e6 D hD
      obtain ⟨D', x1, x2, x3⟩ := g3 D1 d2
      refine ⟨D', fun w x f => ?_, x2, fun q h1 h2 => by rw [x3 q h1 h2, d3 q h1 h2]⟩
      have q5 : D 137 5 = C 122 4 := hD.1.1.1.2.2.2.2.2.1
      have q51 : D1 137 5 = C1 122 4 := d2.1.1.1.2.2.2.2.2.1
      have q01 : D1 137 0 = C1 122 1 := d2.1.1.1.1
      rw [← x1 w x f, show f + (m + 1) = (f + m) + 1 by omega]
      show f_X12_goes_40_b (f_X12_goes_40 (f + m)) _ _ _ _ _ D = _
      unfold f_X12_goes_40_b
      rw [if_neg (nI_ge (by omega) (by omega)), rdK (i := 5) (j := 5) (n := 40) rfl (by decide) (by decide), cl_s d1, rdK (i := 5) (j := 5) (n := 40) rfl (by decide) (by decide), q5, q51, e2]
      simp only [lt]
      rw [nI_1]
      rcases hr with rfl | rfl
      · rw [Int32.add_zero, if_pos (Int32.le_refl _), if_pos rfl]
      · rw [if_neg (show ¬ (1 : Int32) = 0 by decide), if_neg]
        · by_cases hf : fst = -1
          · rw [if_pos hf, if_pos hf, rdK (i := 0) (j := 0) (n := 40) rfl (by decide) (by decide), q01, e3, Int32.add_sub_cancel]
          · rw [if_neg hf, if_neg hf]
        · have hb := h.2.1
          have e : (C 122 4 + 1).toInt = (C 122 4).toInt + 1 := by
            rw [bnd_add (y := 1) (c := 0) (d := 1) (b := 20000) ⟨hb.1, by have := hb.2; omega⟩ ⟨by decide, by decide⟩ (by omega) (by omega)]
            rfl
          rw [Int32.le_iff_toInt_le, e]
          omega
theorem feet_c {C D : IM} {o : Nat} (h : RC C D o l0 l1) : f_X4_greatestFeet o C = some (gfM (C (o + 3)) (C o 10).toNatClampNeg, C) := by
  obtain ⟨n, hn, en, -, ecn⟩ := walk_n h
  rw [ecn]
  have loop : ∀ f i : Nat, i ≤ n → n - i < f → f_X4_greatestFeet_4 o f (gfM (C (o + 3)) i) (nI i) C = some (gfM (C (o + 3)) n, C) := by
    intro f
    induction f with
    | zero => intro i _ h; omega
    | succ f ih =>
      intro i hi hf
      show f_X4_greatestFeet_4_b o (f_X4_greatestFeet_4 o f) _ _ C = _
      unfold f_X4_greatestFeet_4_b
      rw [en]
      by_cases e : i = n
      · subst e; rw [if_pos (nI_le (Nat.le_refl _) (by omega))]
      · rw [if_neg (nI_ge (by omega) (by omega)), rdK (j := i) rfl (by omega) (by decide)]
        have em : f_J9_max_7cf53 (gfM (C (o + 3)) i) (C (o + 3) i) C = some (gfM (C (o + 3)) (i + 1), C) := by
          show _ = some (if gfM (C (o + 3)) i < C (o + 3) i then C (o + 3) i else gfM (C (o + 3)) i, C)
          unfold f_J9_max_7cf53
          split <;> rfl
        rw [cl_s em]
        simp only [lt]
        rw [nI_1]
        exact ih (i + 1) (by omega) (by omega)
  exact loop BG 0 (by omega) (by unfold BG; omega)
theorem goes92_m {C D : IM} {w fst : Int32} (h : RC C D 122 l0 l1) : f_X12_goes_92 BG w fst 0 0 D = (if w = 0 then cl (f_X12_endsThought D) fun _ M56 => some (C 122 4 - D 139 5, M56) else if w = 1 then cl (f_X12_endsThought D) fun _ M48 => some (fst, M48) else if w = 2 then cl (f_X12_endsThought D) fun _ M45 => some (C 122 2, M45) else if w = 3 then cl (f_X12_endsThought D) fun _ M40 => some (C 122 3, M40) else cl (f_X12_endsThought D) fun _ M35 => some (gfM (C 125) (C 122 10).toNatClampNeg, M35)) := by
  obtain ⟨n, hn, en, em, ecn⟩ := walk_n h
  rw [ecn]
  have aw := h.1.1.2.2.2.2.2.2.2.2.2.2
  have loop : ∀ f i : Nat, i ≤ n → n - i < f → f_X12_goes_92 f w fst (gfM (C 125) i) (nI i) D = (if w = 0 then cl (f_X12_endsThought D) fun _ M56 => some (C 122 4 - D 139 5, M56) else if w = 1 then cl (f_X12_endsThought D) fun _ M48 => some (fst, M48) else if w = 2 then cl (f_X12_endsThought D) fun _ M45 => some (C 122 2, M45) else if w = 3 then cl (f_X12_endsThought D) fun _ M40 => some (C 122 3, M40) else cl (f_X12_endsThought D) fun _ M35 => some (gfM (C 125) n, M35)) := by
    intro f
    induction f with
    | zero => intro i _ h; omega
    | succ f ih =>
      intro i hi hf
      show f_X12_goes_92_b (f_X12_goes_92 f) _ _ _ _ D = _
      unfold f_X12_goes_92_b
      rw [em]
      by_cases e : i = n
      · subst e
        rw [if_pos (nI_le (Nat.le_refl _) (by omega)), rdK (i := 5) (j := 5) (n := 40) rfl (by decide) (by decide), rdK (i := 5) (j := 5) (n := 40) rfl (by decide) (by decide), rdK (i := 3) (j := 3) (n := 40) rfl (by decide) (by decide), rdK (i := 4) (j := 4) (n := 40) rfl (by decide) (by decide), show D 137 5 = C 122 4 from h.1.1.2.2.2.2.2.1, show D 137 3 = C 122 2 from h.1.1.2.2.2.1, show D 137 4 = C 122 3 from h.1.1.2.2.2.2.1]
        simp only [lt]
      · rw [if_neg (nI_ge (by omega) (by omega)), rdK (i := 10 + nI i) (j := 10 + i) (n := 40) (nI_add 10 i) (by omega) (by decide), (aw i (by omega)).1]
        have em : f_X12_greater (gfM (C 125) i) (C 125 i) D = some (gfM (C 125) (i + 1), D) := by
          show _ = some (if gfM (C 125) i < C 125 i then C 125 i else gfM (C 125) i, D)
          unfold f_X12_greater
          by_cases h1 : gfM (C 125) i < C 125 i
          · rw [if_pos h1, if_pos (Int32.le_of_lt h1)]
          · rw [if_neg h1]
            by_cases h2 : gfM (C 125) i ≤ C 125 i
            · rw [if_pos h2]
              have : C 125 i = gfM (C 125) i := by
                rw [← Int32.toInt_inj]
                have h3 := Int32.le_iff_toInt_le.mp h2
                have h4 := Int32.le_iff_toInt_le.mp (Int32.not_lt.mp h1)
                omega
              rw [this]
            · rw [if_neg h2]
        show cl (f_X12_greater (gfM (C 125) i) (C 125 i) D) _ = _
        rw [cl_s em]
        simp only [lt]
        rw [nI_1]
        exact ih (i + 1) (by omega) (by omega)
  exact loop BG 0 (by omega) (by unfold BG; omega)
end GOES
theorem st_goes (p w : Int32) : Stp2 Inv (f_X11_goes p w) (f_X12_goes p w) := by
  refine stp_w rfl ?_
  intro M l0 l1 hI hR
  by_cases hp : p < 1 ∨ 99 < p
  · refine ⟨-1, ?_, fun D hs hD => ?_⟩
    · unfold f_X11_goes
      exact ok_c (win_c _ _ _ M) (ok_t (i0 hp) ok_v)
    · exact ok_c (win_m _ _ _ D) (ok_t (i0 hp) (ok_s ⟨rfl, D, same_rf, fun _ _ => rfl, fun _ _ => rfl⟩))
  have hb : bnd p 1 99 := bnd_of hp (by decide) (by decide)
  obtain ⟨n, hn, en⟩ := bnd_nI (x := p) (n := 99) ⟨by have := hb.1; omega, hb.2⟩ (by decide)
  obtain ⟨C0, b1, b2, b3, b4⟩ := become_ok (o0 := 122) (o1 := 1) (Or.inr (by omega)) M
  obtain ⟨o1, o2, -⟩ := hI.1.2.1
  -- the thought begins, on both sides
  have beg : ∀ D, same M D → RC M D 1 l0 l1 → ∃ T, f_X12_thinks D = some (0, T) ∧ TRl C0 T l0 l1 ∧ (∀ i : Nat, i < 40 → T 139 i = D 137 i) ∧ (∀ q : Nat, ¬ q = 139 → ¬ q = 136 → T q = D q) ∧ (∀ i : Nat, ¬ i = 5 → T 136 i = D 136 i) := fun D hs hD => by
    obtain ⟨T, t1, t2, t3, t4⟩ := thinks_m D
    have tr : ∀ q : Nat, ¬ q = 139 → ¬ q = 136 → T q = D q := fun q h1 h2 => funext fun i => t4 q i (by simpa using h1) (by simp [h2])
    have t136 : ∀ i : Nat, ¬ i = 5 → T 136 i = D 136 i := fun i hi => t4 136 i (by decide) (by simp [hi])
    have cr : ∀ q : Nat, q < 122 ∨ 127 ≤ q → C0 q = M q := fun q hq => b4 q (by omega)
    obtain ⟨⟨⟨a0, a1, a2, a3, a4, a5, a6, a7, a8, a9, aw⟩, ⟨q1, q2, q3, q4, q5, q6⟩, a10, a11, a12⟩, h2, h3, h4, h5, h6, h7, h8⟩ := hD
    have w1 : ∀ i : Nat, i < 10 → C0 123 i = M 2 i := fun i hi => b3 1 (by decide) (by decide) i hi
    have w2 : ∀ i : Nat, i < 10 → C0 124 i = M 3 i := fun i hi => b3 2 (by decide) (by decide) i hi
    have w3 : ∀ i : Nat, i < 10 → C0 125 i = M 4 i := fun i hi => b3 3 (by decide) (by decide) i hi
    have w4 : ∀ i : Nat, i < 10 → C0 126 i = M 5 i := fun i hi => b3 4 (by decide) (by decide) i hi
    refine ⟨T, t1, ⟨⟨⟨⟨?_, ?_, ?_, ?_, ?_, ?_, ?_, ?_, ?_, ?_, fun w hw => ?_⟩, ⟨?_, ?_, ?_, ?_, ?_, fun w hw => ?_⟩, ?_, ?_, fun w hw => ?_⟩, ?_, ?_, ?_, ?_, ?_, h7, h8⟩, ?_, t3⟩, t2, tr, t136⟩
    · rw [tr 137 (by decide) (by decide), b2 1 (by decide)]; exact a0
    · rw [tr 137 (by decide) (by decide), b2 0 (by decide)]; exact a1
    · rw [tr 137 (by decide) (by decide), b2 9 (by decide)]; exact a2
    · rw [tr 137 (by decide) (by decide), b2 2 (by decide)]; exact a3
    · rw [tr 137 (by decide) (by decide), b2 3 (by decide)]; exact a4
    · rw [tr 137 (by decide) (by decide), b2 4 (by decide)]; exact a5
    · rw [tr 137 (by decide) (by decide), b2 5 (by decide)]; exact a6
    · rw [tr 137 (by decide) (by decide), b2 6 (by decide)]; exact a7
    · rw [tr 137 (by decide) (by decide), b2 7 (by decide)]; exact a8
    · rw [tr 137 (by decide) (by decide), b2 8 (by decide)]; exact a9
    · rw [tr 137 (by decide) (by decide), w3 w hw, w4 w hw, w1 w hw]; exact aw w hw
    · rw [b2 1 (by decide)]; exact q1
    · rw [b2 4 (by decide), b2 1 (by decide)]; exact q2
    · rw [b2 8 (by decide)]; exact q3
    · rw [b2 9 (by decide)]; exact q4
    · rw [b2 10 (by decide)]; exact q5
    · rw [w1 w hw, w2 w hw, w3 w hw, w4 w hw]; exact q6 w hw
    · unfold OkL at *
      rw [b2 2 (by decide), b2 3 (by decide), cr 20 (by omega), cr 22 (by omega)]
      exact a10
    · rw [t136 6 (by decide), b2 10 (by decide)]; exact a11
    · rw [tr 140 (by decide) (by decide), w2 w hw]; exact a12 w hw
    · unfold RCb at *
      rw [b2 10 (by decide), cr 6 (by omega), cr 20 (by omega), cr 21 (by omega), cr 22 (by omega), cr 23 (by omega), cr 24 (by omega), cr 25 (by omega), cr 26 (by omega), cr 27 (by omega), t136 8 (by decide), t136 9 (by decide), t136 10 (by decide), t136 36 (by decide), t136 38 (by decide), tr 153 (by decide) (by decide), tr 154 (by decide) (by decide)]
      exact h2
    · unfold LwC at *
      rw [cr 8 (by omega), cr (8 + 1) (by omega), cr (8 + 2) (by omega), cr (8 + 3) (by omega), cr (8 + 4) (by omega), cr (8 + 5) (by omega)]
      exact h3
    · exact LwC_14 (fun q _ _ => cr q (by omega)) h4
    · unfold LwM at *
      rw [tr 145 (by decide) (by decide), tr 146 (by decide) (by decide), tr 147 (by decide) (by decide), tr 148 (by decide) (by decide), tr 149 (by decide) (by decide), tr 150 (by decide) (by decide), tr 151 (by decide) (by decide)]
      exact h5
    · unfold LwM at *
      rw [tr 145 (by decide) (by decide), tr 146 (by decide) (by decide), tr 147 (by decide) (by decide), tr 148 (by decide) (by decide), tr 149 (by decide) (by decide), tr 150 (by decide) (by decide), tr 151 (by decide) (by decide)]
      exact h6
    · rw [b2 4 (by decide), b2 1 (by decide)]; exact o2
  obtain ⟨T0, -, r0, -, -⟩ := beg (ms M 136 0 0) same_told (RC_same same_told hR)
  obtain ⟨C', fst, g1, g2, g3⟩ := goes_loop (l0 := l0) (l1 := l1) (s0 := M 1 4) hn n 0 C0 T0 (-1) (by omega) r0 (by rw [b2 1 (by decide)]; have := o1.2; omega)
  have e4 : C0 122 4 = M 1 4 := b2 4 (by decide)
  rw [e4, Int32.sub_self] at g1
  have hsm : same M C' := by
    refine same_fr (R := [122, 123, 124, 125, 126, 120, 121]) (fun p hp => ?_) (by decide)
    simp only [List.mem_cons, List.not_mem_nil, or_false, not_or] at hp
    rw [g2 p (by simp; omega), b4 p (by omega)]
  obtain ⟨D0', -, hC', -⟩ := g3 T0 r0
  have ec : f_X11_goes p w M = (if w = 0 then some (C' 122 4 - M 1 4, C') else if w = 1 then some (fst, C') else if w = 2 then some ((C' 122 2), C') else if w = 3 then some ((C' 122 3), C') else if w = 4 then some (gfM (C' 125) (C' 122 10).toNatClampNeg, C') else some ((-1), C')) := by
    unfold f_X11_goes
    rw [cl_s (win_c _ _ _ M), if_neg (i1 hp), cl_s b1, en]
    have := g1 w (999900 + (99 - n) + 1)
    rw [show 999900 + (99 - n) + 1 + n = BG by unfold BG; omega] at this
    show f_X11_goes_31 BG (nI n) w 0 (-1) (nI 0) C0 = _
    rw [this]
    show f_X11_goes_31_b (f_X11_goes_31 (999900 + (99 - n))) _ _ _ _ _ C' = _
    unfold f_X11_goes_31_b
    rw [if_pos (nI_le (Nat.le_refl _) (by omega)), cl_s (feet_c hC'.1)]
  have em : ∀ D, same M D → RC M D 1 l0 l1 → ¬ (w < 0 ∨ 4 < w) → Ok (cl (f_X12_thinks D) fun _ M11 => f_X12_goes_40 BG p w (-1) 0 0 M11) (fun r M2 => r = (if w = 0 then C' 122 4 - M 1 4 else if w = 1 then fst else if w = 2 then C' 122 2 else if w = 3 then C' 122 3 else gfM (C' 125) (C' 122 10).toNatClampNeg) ∧ sam7 D M2) := fun D hs hD hw => by
    obtain ⟨T, t1, t2, t3, t4, t5⟩ := beg D hs hD
    obtain ⟨D', x1, x2, x3⟩ := g3 T t2
    rw [cl_s t1, en]
    have := x1 w 0 (999900 + (99 - n) + 1)
    rw [show 999900 + (99 - n) + 1 + n = BG by unfold BG; omega] at this
    show Ok (f_X12_goes_40 BG (nI n) w (-1) 0 (nI 0) T) _
    rw [this]
    show Ok (f_X12_goes_40_b (f_X12_goes_40 (999900 + (99 - n))) _ _ _ _ _ D') _
    unfold f_X12_goes_40_b
    rw [if_pos (nI_le (Nat.le_refl _) (by omega)), goes92_m x2.1]
    have d139 : ∀ i : Nat, i < 40 → D' 139 i = D 137 i := fun i hi => by rw [x3 139 (by decide) (by omega), t3 i hi]
    obtain ⟨Z, z1, z2⟩ := ends_m (D := D) (X := D') (by rw [hs.2.1 5 (by decide)]; exact hI.2.2.2.2.2.1.2.2) d139 (fun q h1 h2 h3 => by
      have hq : ¬ q = 139 ∧ (q < 155 ∨ 157 < q) := by
        refine ⟨fun e => ?_, ?_⟩
        · subst e; exact h3 (by decide)
        · rcases Nat.lt_or_ge q 155 with z | z
          · exact Or.inl z
          · rcases Nat.lt_or_ge 157 q with z2 | z2
            · exact Or.inr z2
            · exfalso
              have : q = 155 ∨ q = 156 ∨ q = 157 := by omega
              rcases this with rfl | rfl | rfl <;> exact h3 (by decide)
      rw [x3 q h2 hq.2, t4 q hq.1 h1]) (fun i hi => by rw [x3 136 (by decide) (by omega), t5 i hi])
    have e5 : D' 139 5 = M 1 4 := by rw [d139 5 (by decide)]; exact hD.1.1.2.2.2.2.2.1
    rw [e5]
    refine ok_if (fun h => ok_c z1 (ok_s ⟨by rw [if_pos h], z2⟩)) (fun h0 => ok_if (fun h => ok_c z1 (ok_s ⟨by rw [if_neg h0, if_pos h], z2⟩)) (fun h1 => ok_if (fun h => ok_c z1 (ok_s ⟨by rw [if_neg h0, if_neg h1, if_pos h], z2⟩)) (fun h2 => ok_if (fun h => ok_c z1 (ok_s ⟨by rw [if_neg h0, if_neg h1, if_neg h2, if_pos h], z2⟩)) (fun h3 => ok_c z1 (ok_s ⟨by rw [if_neg h0, if_neg h1, if_neg h2, if_neg h3], z2⟩)))))
  by_cases hw : w < 0 ∨ 4 < w
  · refine ⟨-1, ?_, fun D hs hD => ?_⟩
    · rw [ec, if_neg (show ¬ w = 0 from out_to (n := 4) (by decide) hw (j := 0) (by decide)), if_neg (show ¬ w = 1 from out_to (n := 4) (by decide) hw (j := 1) (by decide)), if_neg (show ¬ w = 2 from out_to (n := 4) (by decide) hw (j := 2) (by decide)), if_neg (show ¬ w = 3 from out_to (n := 4) (by decide) hw (j := 3) (by decide)), if_neg (show ¬ w = 4 from out_to (n := 4) (by decide) hw (j := 4) (by decide))]
      exact ok_s ⟨rfl, hsm⟩
    · exact ok_c (win_m _ _ _ D) (ok_f (i1 hp) (ok_c (win_m _ _ _ D) (ok_t (i0 hw) (ok_s ⟨rfl, D, same_rf, fun _ _ => rfl, fun _ _ => rfl⟩))))
  · refine ⟨_, ?_, fun D hs hD => ok_c (win_m _ _ _ D) (ok_f (i1 hp) (ok_c (win_m _ _ _ D) (ok_f (i1 hw) (em D hs hD hw))))⟩
    have hw' := hw
    obtain ⟨j, hj, rfl⟩ := in_to (n := 4) (by decide) hw
    rw [ec]
    refine ok_if (fun h => ok_s ⟨by rw [if_pos h], hsm⟩) (fun h0 => ok_if (fun h => ok_s ⟨by rw [if_neg h0, if_pos h], hsm⟩) (fun h1 => ok_if (fun h => ok_s ⟨by rw [if_neg h0, if_neg h1, if_pos h], hsm⟩) (fun h2 => ok_if (fun h => ok_s ⟨by rw [if_neg h0, if_neg h1, if_neg h2, if_pos h], hsm⟩) (fun h3 => ok_if (fun h => ok_s ⟨by rw [if_neg h0, if_neg h1, if_neg h2, if_neg h3], hsm⟩) (fun h4 => ?_)))))
    exfalso
    have : j = 0 ∨ j = 1 ∨ j = 2 ∨ j = 3 ∨ j = 4 := by omega
    rcases this with rfl | rfl | rfl | rfl | rfl
    · exact h0 rfl
    · exact h1 rfl
    · exact h2 rfl
    · exact h3 rfl
    · exact h4 rfl
