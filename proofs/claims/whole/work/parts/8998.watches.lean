/-! watches: the step -/
def rwA (p : Nat → Nat → Nat) (k m : Nat) : Nat → Nat := (srt (fun _ => true) (fun v => nI (p v k)) m).2
section WATS
variable {M : IM} {l0 l1 : List LLn} {p : Nat → Nat → Nat} {n : Nat}
theorem rwA_s (k m : Nat) : rwA p k (m + 1) = insF (fun v => nI (p v k)) m m (rwA p k m) := by
  have h1 := (srt_all (fe := fun v => nI (p v k)) m).1
  unfold rwA
  show (if true = true then ((srt (fun _ => true) (fun v => nI (p v k)) m).1 + 1, insF (fun v => nI (p v k)) m (srt (fun _ => true) (fun v => nI (p v k)) m).1 (srt (fun _ => true) (fun v => nI (p v k)) m).2) else srt (fun _ => true) (fun v => nI (p v k)) m).2 = _
  rw [if_pos rfl, h1]
theorem rwA_lt {k m i : Nat} (hi : i < m) : rwA p k m i < m := by
  have h2 := (srt_all (fe := fun v => nI (p v k)) m).2.1
  have h1 : rwA p k m i ∈ lsF (rwA p k m) 0 m := lsF_mem.mpr ⟨i, by omega, by omega, rfl⟩
  obtain ⟨x, x1, x2, x3⟩ := lsF_mem.mp (h2.mem_iff.mp h1)
  omega
/-- the class's prices, all of them -/
theorem prices_c {x1 x2 : Int32} (h : RC M M 1 l0 l1) (hn : n ≤ 10) (en : M 1 10 = nI n) (hp : ∀ w k : Nat, p w k ≤ 594) (hpr : ∀ w k : Nat, w < n → k < 4 → 6 * am (vC M 1 (nI (6 * k)) w) 10011 10 l1 = nI (p w k)) : ∃ X, f_X11_watches_19 x1 x2 M = (cl (f_X10_isFound (X 6 0) X) fun w11 M12 => if w11 = 0 then some ((-1), M12) else if x1 = 0 then some ((M12 127 0), M12) else rd M12 128 10 x2 fun v16 => some (v16, M12)) ∧ WC0 X p n (fun k => rwA p k n) ∧ fr [120, 121, 127, 129, 130] M X := by
  have inner : ∀ (K : Int32 → Int32 → Int32 → IM → IR) (w : Nat), w < n → ∀ (f k : Nat) (X : IM), k ≤ 4 → 4 - k < f → X 127 2 = nI n → (∀ v j : Nat, (v < w ∧ j < 4) ∨ (v = w ∧ j < k) → X 129 (4 * v + j) = nI (p v j)) → (∀ j : Nat, j < k → ∀ i : Nat, i < w + 1 → X 130 (10 * j + i) = nI (rwA p j (w + 1) i)) → (∀ j : Nat, k ≤ j → j < 4 → ∀ i : Nat, i < w → X 130 (10 * j + i) = nI (rwA p j w i)) → fr [120, 121, 127, 129, 130] M X → ∃ X', f_X11_watches_49 K f x1 x2 (nI w) (nI k) X = K x1 x2 (nI (w + 1)) X' ∧ X' 127 2 = nI n ∧ (∀ v j : Nat, v < w + 1 → j < 4 → X' 129 (4 * v + j) = nI (p v j)) ∧ (∀ j : Nat, j < 4 → ∀ i : Nat, i < w + 1 → X' 130 (10 * j + i) = nI (rwA p j (w + 1) i)) ∧ fr [120, 121, 127, 129, 130] M X' := by
    intro K w hw f
    induction f with
    | zero => intro k X _ h; omega
    | succ f ih =>
      intro k X hk hf h2 hP hA hB hX
      have hstep : f_X11_watches_49 K (f + 1) x1 x2 (nI w) (nI k) X = f_X11_watches_49_b K (f_X11_watches_49 K f) x1 x2 (nI w) (nI k) X := rfl
      by_cases e : k = 4
      · subst e
        refine ⟨X, ?_, h2, fun v j hv hj => hP v j (by omega), hA, hX⟩
        rw [hstep]
        unfold f_X11_watches_49_b
        rw [if_pos (by decide)]
        simp only [lt]
        rw [nI_1]
      · have hRX : RC X M 1 l0 l1 := RC_fr (R := [120, 121, 127, 129, 130]) (R' := []) (Or.inl rfl) hX fr_rf (by simp) (by simp) h
        obtain ⟨r, Y, y1, rfl, y3⟩ := tireAt_c (c := nI (6 * k)) hRX (show w < 10 by omega)
        have hv : vC X 1 (nI (6 * k)) w = vC M 1 (nI (6 * k)) w := by
          unfold vC
          rw [hX 1 (by decide), hX (1 + 1) (by decide), hX (1 + 2) (by decide), hX (1 + 3) (by decide), hX (1 + 4) (by decide), hX 20 (by decide), hX 21 (by decide), hX 22 (by decide), hX 23 (by decide)]
        rw [hv] at y1
        have hMY := fr_tr hX (fr_sub y3 (by simp))
        obtain ⟨Z, z1, z2, z3, z4, z5, z6⟩ := price_e (M := Y) (p := p) (w := w) (k := k) (b := rwA p k w) (by omega) (by omega) (fun v hv => by rw [y3 129 (by decide)]; exact hP v k (Or.inl ⟨hv, by omega⟩)) (fun i hi => by rw [y3 130 (by decide)]; exact hB k (Nat.le_refl _) (by omega) i hi) (fun i hi => rwA_lt hi)
        obtain ⟨X', g1, g2, g3, g4, g5⟩ := ih (k + 1) Z (by omega) (by omega) (by rw [z6 127 (by decide), y3 127 (by decide)]; exact h2) (fun v j hvj => by
          by_cases e2 : 4 * v + j = 4 * w + k
          · rw [e2, z2]
            have : v = w ∧ j = k := by omega
            rw [this.1, this.2]
          · rw [z3 _ e2, y3 129 (by decide)]
            exact hP v j (by omega)) (fun j hj i hi => by
          by_cases e2 : j = k
          · subst e2
            rw [z4 i (by omega), rwA_s]
          · rw [z5 (10 * j + i) (by omega), y3 130 (by decide)]
            exact hA j (by omega) i hi) (fun j hj hj4 i hi => by
          rw [z5 (10 * j + i) (by omega), y3 130 (by decide)]
          exact hB j (by omega) hj4 i hi) (fr_tr hMY (fr_sub z6 (by simp)))
        refine ⟨X', ?_, g2, g3, g4, g5⟩
        rw [hstep]
        unfold f_X11_watches_49_b
        rw [if_neg (show ¬ (4 : Int32) ≤ nI k from nI_ge (b := 4) (by omega) (by decide)), show (6 : Int32) * nI k = nI (6 * k) from pk_mul 6 k, cl_s y1, hpr w k hw (by omega), cl_s z1]
        simp only [lt]
        rw [nI_1]
        exact g1
  have outer : ∀ (f w : Nat) (X : IM), w ≤ n → n - w < f → X 127 2 = nI n → (∀ v j : Nat, v < w → j < 4 → X 129 (4 * v + j) = nI (p v j)) → (∀ j : Nat, j < 4 → ∀ i : Nat, i < w → X 130 (10 * j + i) = nI (rwA p j w i)) → fr [120, 121, 127, 129, 130] M X → ∃ X', f_X11_watches_35 f x1 x2 (nI w) X = (cl (f_X10_isFound (X' 6 0) X') fun w11 M12 => if w11 = 0 then some ((-1), M12) else if x1 = 0 then some ((M12 127 0), M12) else rd M12 128 10 x2 fun v16 => some (v16, M12)) ∧ WC0 X' p n (fun k => rwA p k n) ∧ fr [120, 121, 127, 129, 130] M X' := by
    intro f
    induction f with
    | zero => intro w X _ h; omega
    | succ f ih =>
      intro w X hw hf h2 hP hA hX
      have hstep : f_X11_watches_35 (f + 1) x1 x2 (nI w) X = f_X11_watches_35_b (f_X11_watches_35 f) x1 x2 (nI w) X := rfl
      rw [hstep]
      unfold f_X11_watches_35_b
      rw [hX 1 (by decide), en]
      by_cases e : w = n
      · subst e
        rw [if_pos (Int32.le_refl _)]
        refine ⟨X, rfl, ⟨h2, fun w' hw' k hk => hP w' k hw' hk, hA, fun k _ => (srt_all (fe := fun v => nI (p v k)) w).2.1, fun k _ => lsF_srt w 0 (fun x y _ hxy hy => ?_)⟩, hX⟩
        have := (srt_all (fe := fun v => nI (p v k)) w).2.2 x y hxy (by omega)
        have b1 := hp ((srt (fun _ => true) (fun v => nI (p v k)) w).2 x) k
        have b2 := hp ((srt (fun _ => true) (fun v => nI (p v k)) w).2 y) k
        exact (nI_leI (a := p ((srt (fun _ => true) (fun v => nI (p v k)) w).2 x) k) (b := p ((srt (fun _ => true) (fun v => nI (p v k)) w).2 y) k) (by omega) (by omega)).mp this
      · rw [if_neg (nI_ge (by omega) (by omega))]
        obtain ⟨Y, y1, y2, y3, y4, y5⟩ := inner (f_X11_watches_35 f) w (by omega) BG 0 X (by omega) (by unfold BG; omega) h2 (fun v j hvj => hP v j (by omega) (by omega)) (fun j hj => by omega) (fun j _ hj i hi => hA j hj i hi) hX
        obtain ⟨X', g1, g2⟩ := ih (w + 1) Y (by omega) (by omega) y2 y3 y4 y5
        exact ⟨X', Eq.trans y1 g1, g2⟩
  obtain ⟨X, g1, g2⟩ := outer BG 0 (ms M 127 2 (nI n)) (by omega) (by unfold BG; omega) ms_it (fun v j hv => by omega) (fun j _ i hi => by omega) (fr_ms fr_rf (by simp))
  refine ⟨X, ?_, g2⟩
  rw [← g1]
  unfold f_X11_watches_19
  rw [en]
  rfl
/-- the model goes from walker to walker -/
theorem fold_m {D X : IM} {i L : Nat} {q : Int32} (hn : n ≤ 10) (hi : i < n) (eq : q - 10 = nI i) (hL : L ≤ 10) (hp : ∀ w k : Nat, p w k ≤ 594) (hP : PrM X p n) (hT : ∀ w : Nat, w ≤ n → ∀ s : Nat, s ≤ 1464 * L → X 159 (14641 * w + s) = nI (vS p (up w (n - w)) s)) : f_X12_watches_81 BG q (nI (1464 * L)) (-1) 0 X = some (nI (tW p n (stW p n L i) i), X) := by
  have loop : ∀ (j f w : Nat) (last : Int32), w + j = i + 1 → j < f → (0 < j ∨ last = nI (tW p n (stW p n L i) i)) → f_X12_watches_81 f q (nI (stW p n L w)) last (nI w) X = some (nI (tW p n (stW p n L i) i), X) := by
    intro j
    induction j with
    | zero =>
      intro f w last hw hf hl
      obtain ⟨m, rfl⟩ : ∃ m, f = m + 1 := ⟨f - 1, by omega⟩
      show f_X12_watches_81_b (f_X12_watches_81 m) _ _ _ _ X = _
      unfold f_X12_watches_81_b
      rw [eq, if_pos (nI_lt (by omega) (by omega))]
      rcases hl with z | z
      · omega
      · rw [z]
    | succ j ih =>
      intro f w last hw hf hl
      obtain ⟨m, rfl⟩ : ∃ m, f = m + 1 := ⟨f - 1, by omega⟩
      have hs : stW p n L w ≤ 1464 * L := by
        rcases stW_le (p := p) (n := n) (L := L) w with z | z <;> omega
      have ht : tW p n (stW p n L w) w < 7 := Nat.lt_succ_of_le (bwF_ok (f := byF p w (up (w + 1) (n - (w + 1))) (stW p n L w % 11) (stW p n L w / 11 % 11) (stW p n L w / 121 % 11) (stW p n L w / 1331 % 11)) 6).1
      have hbw : f_X12_bestWay (nI w) (nI (stW p n L w)) X = some (nI (tW p n (stW p n L w) w), X) := bestWay_e (F := 1464 * L) hn (by omega) hp hP (by omega) hs (hT (w + 1) (by omega))
      show f_X12_watches_81_b (f_X12_watches_81 m) _ _ _ _ X = _
      unfold f_X12_watches_81_b
      rw [eq, if_neg (nI_nlt (by omega) (by omega)), cl_s hbw, cl_s (taken_e _ ht), cl_s (less_e (by omega) ht)]
      simp only [lt]
      rw [nI_1]
      refine ih m (w + 1) _ (by omega) (by omega) ?_
      by_cases e : j = 0
      · right
        have : w = i := by omega
        rw [this]
      · left; omega
  exact loop (i + 1) BG 0 (-1) (by omega) (by unfold BG; omega) (Or.inl (by omega))
end WATS
theorem st_watches (q : Int32) : Stp2 Inv (f_X11_watches q) (f_X12_watches q) := by
  refine stp_d rfl ?_
  intro M l0 l1 hI hR
  obtain ⟨n, hn, en, -, -⟩ := walk_n hR
  obtain ⟨L, hL, eL⟩ := bnd_nI (n := 10) hR.2.1.2.2.2.2.2.1 (by decide)
  have hab : ∀ w k : Nat, bnd (am (vC M 1 (nI (6 * k)) w) 10011 10 l1) 0 99 := fun w k => am_bnd ⟨by decide, by decide⟩ l1
  obtain ⟨p, hpd⟩ : ∃ p : Nat → Nat → Nat, p = fun w k => 6 * (am (vC M 1 (nI (6 * k)) w) 10011 10 l1).toInt.toNat := ⟨_, rfl⟩
  have hp : ∀ w k : Nat, p w k ≤ 594 := fun w k => by
    rw [hpd]
    show 6 * (am (vC M 1 (nI (6 * k)) w) 10011 10 l1).toInt.toNat ≤ 594
    have := (hab w k).2
    omega
  have hpr : ∀ w k : Nat, w < n → k < 4 → 6 * am (vC M 1 (nI (6 * k)) w) 10011 10 l1 = nI (p w k) := fun w k _ _ => by
    obtain ⟨x, hx, ex⟩ := bnd_nI (n := 99) (hab w k) (by decide)
    have : p w k = 6 * x := by
      rw [hpd]
      show 6 * (am (vC M 1 (nI (6 * k)) w) 10011 10 l1).toInt.toNat = 6 * x
      rw [ex, nI_toInt (by omega)]
      rfl
    rw [this, ex]
    exact pk_mul 6 x
  have hequ : (q - 10 < 0 ∨ M 1 10 ≤ q - 10) ↔ (q < 10 ∨ 9 + M 1 10 < q) := by
    have en9 : 9 + M 1 10 = nI (9 + n) := by rw [en]; exact nI_add 9 n
    constructor
    · intro h
      apply Decidable.byContradiction
      intro hc
      have hb2 : bnd q 10 (9 + n) := bnd_of (b := nI (9 + n)) (by rw [← en9]; exact hc) (by decide) (by rw [nI_toInt (by omega)]; omega)
      obtain ⟨m, hm, eq⟩ := bnd_nI (x := q) (n := 9 + n) ⟨by have := hb2.1; omega, by have := hb2.2; omega⟩ (by omega)
      have hm10 : 10 ≤ m := by have := hb2.1; rw [eq, nI_toInt (by omega)] at this; omega
      have e10 : q - 10 = nI (m - 10) := by rw [eq]; exact pk_sub (b := 10) hm10
      rw [e10, en] at h
      rcases h with h | h
      · exact nI_pos (by omega) h
      · exact nI_ge (by omega) (by omega) h
    · intro h
      apply Decidable.byContradiction
      intro hc
      have h0 : ¬ q - 10 < 0 := fun z => hc (Or.inl z)
      have h1 : ¬ M 1 10 ≤ q - 10 := fun z => hc (Or.inr z)
      have h0' := Int32.le_iff_toInt_le.mp (Int32.not_lt.mp h0)
      have h1' := Int32.lt_iff_toInt_lt.mp (Int32.not_le.mp h1)
      rw [en, nI_toInt (by omega)] at h1'
      rw [show (0 : Int32).toInt = 0 from rfl] at h0'
      obtain ⟨j, hj, ej⟩ := bnd_nI (x := q - 10) (n := n) ⟨by omega, by omega⟩ (by omega)
      rw [ej, nI_toInt (by omega)] at h1'
      have eq : q = nI (j + 10) := by
        have := congrArg (· + (10 : Int32)) ej
        simp only [Int32.sub_add_cancel] at this
        rw [this]
        exact nI_add j 10
      rw [eq, en9] at h
      rcases h with h | h
      · exact absurd h (nI_nlt (b := 10) (by omega) (by omega))
      · exact nI_nlt (by omega) (by omega) h
  have hvl : vS p (up 0 n) (1464 * L) ≤ 1000000 := vd_le _ _ _ _ _
  -- both sides' ends
  obtain ⟨X, c1, c2, c3⟩ := prices_c (x1 := q) (x2 := q - 10) hR hn en hp hpr
  obtain ⟨Y, y1, y2, y3, y4⟩ := found_e (L := L) c2 hn hp hL
  have hXL : X 6 0 = nI L := by rw [c3 6 (by decide), eL]
  rw [hXL, cl_s y1] at c1
  have hsY : same M Y := same_fr (R := [120, 121, 127, 128, 129, 130, 131]) (fr_tr (fr_sub c3 (by simp)) (fr_sub y4 (by simp))) (by decide)
  have hmod : ∀ D, same M D → RC M D 1 l0 l1 → ∃ Z, PrM Z p n ∧ (∀ w : Nat, w ≤ n → ∀ s : Nat, s ≤ 1464 * L → Z 159 (14641 * w + s) = nI (vS p (up w (n - w)) s)) ∧ same D Z ∧ f_X12_watches_28 q D = (if (1000000 : Int32) ≤ nI (vS p (up 0 n) (1464 * L)) then some (-1, Z) else if q = 0 then some (nI (vS p (up 0 n) (1464 * L)), Z) else f_X12_watches_81 BG q (nI (1464 * L)) (-1) 0 Z) := fun D hs hD => by
    obtain ⟨Z, z1, z2, z3, z4⟩ := finds_m (p := p) hD hn en eL hL hp hpr
    have hfs : f_X12_firstState Z = some (nI (1464 * L), Z) := by
      unfold f_X12_firstState
      rw [z4 136 (by decide), hD.2.1.2.2.1, eL, show nI L * 1464 = nI (L * 1464) from pk_mul L 1464, Nat.mul_comm]
    have e0 : Z 159 (1464 * L) = nI (vS p (up 0 n) (1464 * L)) := by
      have := z3 0 (by omega) (1464 * L) (Nat.le_refl _)
      rw [Nat.mul_zero, Nat.zero_add, Nat.sub_zero] at this
      exact this
    have h53 : f_X12_watches_53 (nI (1464 * L)) Z = if nI (vS p (up 0 n) (1464 * L)) < 1000000 then some (nI (vS p (up 0 n) (1464 * L)), Z) else some (-1, Z) := by
      unfold f_X12_watches_53
      rw [rdK (j := 1464 * L) rfl (by omega) (by decide), rdK (j := 1464 * L) rfl (by omega) (by decide), e0]
    refine ⟨Z, z2, z3, same_fr (R := [155, 156, 159, 160]) z4 (by decide), ?_⟩
    unfold f_X12_watches_28
    rw [cl_s z1, cl_s hfs, rdK (j := 1464 * L) rfl (by omega) (by decide), e0, h53]
    by_cases hv : (1000000 : Int32) ≤ nI (vS p (up 0 n) (1464 * L))
    · rw [if_pos hv, if_pos hv, if_neg (Int32.not_lt.mpr hv)]
    · rw [if_neg hv, if_neg hv, if_pos (Int32.not_le.mp hv)]
  by_cases hq : q = 0
  · by_cases hv : vS p (up 0 n) (1464 * L) < 1000000
    · refine ⟨nI (vS p (up 0 n) (1464 * L)), ?_, fun D hs hD => ?_⟩
      · unfold f_X11_watches
        refine ok_lt (ok_t hq ?_)
        rw [c1, if_pos hv, if_neg (by decide), if_pos hq, y2]
        exact ok_s ⟨rfl, hsY⟩
      · obtain ⟨Z, -, -, hsZ, ez⟩ := hmod D hs hD
        refine ok_t hq ?_
        rw [ez, if_neg (show ¬ (1000000 : Int32) ≤ nI (vS p (up 0 n) (1464 * L)) from nI_ge (b := 1000000) hv (by decide)), if_pos hq]
        exact ok_s ⟨rfl, hsZ⟩
    · refine ⟨-1, ?_, fun D hs hD => ?_⟩
      · unfold f_X11_watches
        refine ok_lt (ok_t hq ?_)
        rw [c1, if_neg hv, if_pos rfl]
        exact ok_s ⟨rfl, hsY⟩
      · obtain ⟨Z, -, -, hsZ, ez⟩ := hmod D hs hD
        refine ok_t hq ?_
        rw [ez, if_pos (show (1000000 : Int32) ≤ nI (vS p (up 0 n) (1464 * L)) from nI_le (a := 1000000) (by omega) (by omega))]
        exact ok_s ⟨rfl, hsZ⟩
  by_cases hw : q - 10 < 0 ∨ M 1 10 ≤ q - 10
  · refine ⟨-1, ?_, fun D hs hD => ?_⟩
    · unfold f_X11_watches
      exact ok_lt (ok_f hq (ok_c (wal_c _ M) (ok_t (i0 hw) ok_v)))
    · refine ok_f hq (ok_c (win_m _ _ _ D) (ok_t (i0 ?_) ok_v))
      rw [hD.1.2.2.2.1]
      exact hequ.mp hw
  have hw2 : ∀ D, RC M D 1 l0 l1 → ¬ (q < 10 ∨ 9 + D 136 6 < q) := fun D hD => by
    rw [hD.1.2.2.2.1]
    exact fun z => hw (hequ.mpr z)
  obtain ⟨i, hi, ei⟩ : ∃ i : Nat, i < n ∧ q - 10 = nI i := by
    have h0 : ¬ q - 10 < 0 := fun z => hw (Or.inl z)
    have h1 : ¬ M 1 10 ≤ q - 10 := fun z => hw (Or.inr z)
    have h0' := Int32.le_iff_toInt_le.mp (Int32.not_lt.mp h0)
    have h1' := Int32.lt_iff_toInt_lt.mp (Int32.not_le.mp h1)
    rw [en, nI_toInt (by omega)] at h1'
    rw [show (0 : Int32).toInt = 0 from rfl] at h0'
    obtain ⟨j, hj, ej⟩ := bnd_nI (x := q - 10) (n := n) ⟨by omega, by omega⟩ (by omega)
    rw [ej, nI_toInt (by omega)] at h1'
    exact ⟨j, by omega, ej⟩
  by_cases hv : vS p (up 0 n) (1464 * L) < 1000000
  · refine ⟨nI (tW p n (stW p n L i) i), ?_, fun D hs hD => ?_⟩
    · unfold f_X11_watches
      refine ok_lt (ok_f hq (ok_c (wal_c _ M) (ok_f (i1 hw) ?_)))
      rw [c1, if_pos hv, if_neg (by decide), if_neg hq, rdK (j := i) ei (by omega) (by decide), y3 hv i hi]
      exact ok_s ⟨rfl, hsY⟩
    · obtain ⟨Z, z2, z3, hsZ, ez⟩ := hmod D hs hD
      refine ok_f hq (ok_c (win_m _ _ _ D) (ok_f (i1 (hw2 D hD)) ?_))
      rw [ez, if_neg (show ¬ (1000000 : Int32) ≤ nI (vS p (up 0 n) (1464 * L)) from nI_ge (b := 1000000) hv (by decide)), if_neg hq, fold_m (D := D) hn hi ei hL hp z2 z3]
      exact ok_s ⟨rfl, hsZ⟩
  · refine ⟨-1, ?_, fun D hs hD => ?_⟩
    · unfold f_X11_watches
      refine ok_lt (ok_f hq (ok_c (wal_c _ M) (ok_f (i1 hw) ?_)))
      rw [c1, if_neg hv, if_pos rfl]
      exact ok_s ⟨rfl, hsY⟩
    · obtain ⟨Z, -, -, hsZ, ez⟩ := hmod D hs hD
      refine ok_f hq (ok_c (win_m _ _ _ D) (ok_f (i1 (hw2 D hD)) ?_))
      rw [ez, if_pos (show (1000000 : Int32) ≤ nI (vS p (up 0 n) (1464 * L)) from nI_le (a := 1000000) (by omega) (by omega))]
      exact ok_s ⟨rfl, hsZ⟩
