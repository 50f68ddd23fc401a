/-! meets, sees -/
theorem neg31 (x : Int32) : x < 0 ↔ bt x 31 = true := by
  rw [Int32.lt_iff_toInt_lt, z0I]
  have h : x.toBitVec.msb = decide (x.toBitVec.toInt < 0) := BitVec.msb_eq_toInt
  have h2 : x.toBitVec.msb = x.toBitVec.getLsbD 31 := BitVec.msb_eq_getLsbD_last _
  show x.toBitVec.toInt < 0 ↔ x.toBitVec.getLsbD 31 = true
  rw [← h2, h, decide_eq_true_iff]
/-- floorMod of a difference that is less than one round away -/
theorem floorMod_e {a b A : Nat} {x : Int32} {M : IM} (ha : a < A) (hb : b < A) (hA : A < 2 ^ 29) (hx : x.toInt = (a : Int) - b) : f_J9_floorMod_7cf53 x (nI A) M = some (nI ((a + A - b) % A), M) := by
  unfold f_J9_floorMod_7cf53 dv
  rw [if_neg (nI_ne0 (by omega) (by omega))]
  simp only [lt]
  rcases Nat.lt_or_ge a b with h | h
  · have hneg : x < 0 := by rw [Int32.lt_iff_toInt_lt, z0I, hx]; omega
    have hxor : ¬ 0 ≤ x ^^^ nI A := by
      rw [Int32.not_le, neg31, b_xor, (neg31 x).mp hneg]
      have : ¬ bt (nI A) 31 = true := fun q => nI_pos (by omega) ((neg31 _).mpr q)
      cases hq : bt (nI A) 31 with
      | true => exact absurd hq this
      | false => rfl
    have hdiv : x / nI A = 0 := by
      rw [← Int32.toInt_inj, Int32.toInt_div, hx, nI_toInt (by omega), z0I]
      have e : (a : Int) - b = -((b - a : Nat) : Int) := by omega
      have e2 : ((b - a : Nat) : Int).tdiv (A : Int) = 0 := Int.tdiv_eq_zero_of_lt (by omega) (by omega)
      rw [e, Int.neg_tdiv, e2]
      decide
    have hrem : x - x / nI A * nI A = x := by rw [hdiv, Int32.zero_mul, Int32.sub_zero]
    have hne : ¬ x = 0 := fun q => by
      have := congrArg Int32.toInt q
      rw [hx, z0I] at this
      omega
    rw [if_neg hxor, hrem, if_neg hne]
    have : x + nI A = nI ((a + A - b) % A) := by
      rw [← Int32.toInt_inj, Int32.toInt_add, hx, nI_toInt (by omega), Nat.mod_eq_of_lt (by omega), nI_toInt (by omega), Int.bmod_eq_of_le (by omega) (by omega)]
      omega
    rw [this]
  · have ex : x = nI (a - b) := by
      rw [← Int32.toInt_inj, hx, nI_toInt (by omega)]
      omega
    subst ex
    have hxor : 0 ≤ nI (a - b) ^^^ nI A := by
      rw [← Int32.not_lt, neg31, b_xor]
      have h1 : ¬ bt (nI A) 31 = true := fun q => nI_pos (by omega) ((neg31 _).mpr q)
      have h2 : ¬ bt (nI (a - b)) 31 = true := fun q => nI_pos (by omega) ((neg31 _).mpr q)
      cases hq : bt (nI A) 31 with
      | true => exact absurd hq h1
      | false =>
        cases hr : bt (nI (a - b)) 31 with
        | true => exact absurd hr h2
        | false => simp
    rw [if_pos hxor, pk_rem (by omega) (by omega) (by omega), show a + A - b = a - b + A by omega, Nat.add_mod_right]
theorem rem_e {a b A : Nat} {x : Int32} (ha : a < A) (hb : b < A) (hA : A < 2 ^ 29) (hx : x.toInt = (a : Int) - b) : (x + nI A) - (x + nI A) / nI A * nI A = nI ((a + A - b) % A) := by
  have : x + nI A = nI (a + A - b) := by
    rw [← Int32.toInt_inj, Int32.toInt_add, hx, nI_toInt (by omega), nI_toInt (by omega), Int.bmod_eq_of_le (by omega) (by omega)]
    omega
  rw [this, pk_rem (by omega) (by omega) (by omega)]
section MEET
variable {C D : IM} {o : Nat} {l0 l1 : List LLn}
theorem hN_mono {f : Nat → Int32} {i j : Nat} (h : i ≤ j) : hN f i ≤ hN f j := by
  induction j with
  | zero =>
    have : i = 0 := by omega
    subst this
    exact Nat.le_refl _
  | succ j ih =>
    by_cases e : i = j + 1
    · subst e; exact Nat.le_refl _
    · have := ih (by omega)
      show hN f i ≤ hN f j + (f j).toInt.toNat
      omega
/-- where the saint is: P hours of A are gone -/
theorem rc_pl {s : Nat} (h : RC C D 1 l0 l1) (hs : s ≤ 8) (es : C 20 0 = nI s) (h0 : 0 < s) (hx : ∀ i : Nat, i < s → ∃ x : Nat, C 22 i = nI x ∧ 1 ≤ x ∧ x ≤ 24) : ∃ l g : Nat, l < s ∧ C 1 2 = nI l ∧ C 1 3 = nI g ∧ g < 24 ∧ hN (C 22) l + g < hN (C 22) s := by
  rcases h.1.2.2.1 with ⟨h1, -⟩ | ⟨h1, h2, h3, h4⟩
  · rw [es] at h1
    exact absurd h1 (nI_ne0 h0 (by omega))
  · rw [es, nI_toInt (by omega)] at h2
    have e2 : C 1 2 = nI (C 1 2).toInt.toNat := Int32.toInt_inj.mp (by rw [nI_toInt (by omega)]; omega)
    have ec : (C 1 2).toNatClampNeg = (C 1 2).toInt.toNat := by
      have : (nI (C 1 2).toInt.toNat).toNatClampNeg = (C 1 2).toInt.toNat := nI_clamp (by omega)
      rwa [← e2] at this
    obtain ⟨x, ex, x1, x2⟩ := hx (C 1 2).toInt.toNat (by omega)
    rw [ec, ex, nI_toInt (by omega)] at h4
    refine ⟨(C 1 2).toInt.toNat, (C 1 3).toInt.toNat, by omega, e2, Int32.toInt_inj.mp (by rw [nI_toInt (by omega)]; omega), by omega, ?_⟩
    have e := hN_s (f := C 22) ex (by omega)
    have := hN_mono (f := C 22) (show (C 1 2).toInt.toNat + 1 ≤ s by omega)
    omega
theorem placeNow_e {s l g : Nat} (h : RC C D 1 l0 l1) (hs : s ≤ 8) (hx : ∀ i : Nat, i < s → ∃ x : Nat, C 22 i = nI x ∧ 1 ≤ x ∧ x ≤ 24) (hd : ∀ i : Nat, i < s → D 153 (4 * i + 1) = C 22 i) (hl : l < s) (el : C 1 2 = nI l) (eg : C 1 3 = nI g) : f_X12_placeNow D = some (nI (hN (C 22) l + g), D) := by
  unfold f_X12_placeNow
  rw [rdK (i := 3) (j := 3) (n := 40) rfl (by decide) (by decide), show D 137 3 = nI l by rw [← el]; exact h.1.1.2.2.2.1, cl_s (placeOf_e hs hx hd (by omega)), rdK (i := 4) (j := 4) (n := 40) rfl (by decide) (by decide), show D 137 4 = nI g by rw [← eg]; exact h.1.1.2.2.2.2.1, nI_add]
end MEET
theorem st_meets (p q d : Int32) : Stp2 Inv (f_X11_meets p q d) (f_X12_meets p q d) := by
  refine stp_d rfl ?_
  intro M l0 l1 hI hR
  obtain ⟨s, hs, es, -, hx, -⟩ := rc_hr hR
  have hA := (hN_le (C := M) hx s (Nat.le_refl _)).2
  have eall : f_X7_allHours 20 M = some (nI (hN (M 22) s), M) := by
    have := allHours_c hR
    rwa [es, nI_clamp (by omega)] at this
  have eallm : ∀ D, RC M D 1 l0 l1 → f_X12_hoursOfRound D = some (nI (hN (M 22) s), D) := fun D hD => by
    have := allHours_m hD
    rwa [es, nI_clamp (by omega)] at this
  generalize hAe : hN (M 22) s = A at *
  by_cases hp : p < 0 ∨ nI A - 1 < p
  · refine ⟨-1, ?_, fun D hs hD => ?_⟩
    · unfold f_X11_meets
      exact ok_c eall (ok_c (win_c _ _ _ M) (ok_t (i0 hp) ok_v))
    · exact ok_c (eallm D hD) (ok_c (win_m _ _ _ D) (ok_t (i0 hp) ok_v))
  by_cases hq : q < 1 ∨ 999 < q
  · refine ⟨-1, ?_, fun D hs hD => ?_⟩
    · unfold f_X11_meets
      exact ok_c eall (ok_c (win_c _ _ _ M) (ok_f (i1 hp) (ok_c (win_c _ _ _ M) (ok_t (i0 hq) ok_v))))
    · exact ok_c (eallm D hD) (ok_c (win_m _ _ _ D) (ok_f (i1 hp) (ok_c (win_m _ _ _ D) (ok_t (i0 hq) ok_v))))
  by_cases hd : d < 0 ∨ q - 1 < d
  · refine ⟨-1, ?_, fun D hs hD => ?_⟩
    · unfold f_X11_meets
      exact ok_c eall (ok_c (win_c _ _ _ M) (ok_f (i1 hp) (ok_c (win_c _ _ _ M) (ok_f (i1 hq) (ok_c (win_c _ _ _ M) (ok_t (i0 hd) ok_v))))))
    · exact ok_c (eallm D hD) (ok_c (win_m _ _ _ D) (ok_f (i1 hp) (ok_c (win_m _ _ _ D) (ok_f (i1 hq) (ok_c (win_m _ _ _ D) (ok_t (i0 hd) ok_v))))))
  have hp' := hp
  obtain ⟨c, hc, ec⟩ := in_sub (by omega) hp
  have hbq : bnd q 1 999 := bnd_of hq (by decide) (by decide)
  obtain ⟨m, hm, em⟩ := bnd_nI (x := q) (n := 999) ⟨by have := hbq.1; omega, hbq.2⟩ (by decide)
  have hm1 : 1 ≤ m := by have := hbq.1; rw [em, nI_toInt (by omega)] at this; omega
  have h0 : 0 < s := by
    rcases Nat.eq_zero_or_pos s with h | h
    · subst h
      have : A = 0 := hAe.symm
      omega
    · exact h
  obtain ⟨l, g, hl, el, eg, hg, hP⟩ := rc_pl hR hs es h0 hx
  have hle := hN_le (C := M) hx l (by omega)
  rw [hAe] at hP
  generalize hPl : hN (M 22) l = Pl at *
  -- the first that meets among F, F + A, ..
  have run : ∀ F : Nat, F < A → ∃ v : Int32, (∀ X : IM, f_X11_meets_84 BG (nI m) d (nI A) (nI F) 0 X = some (v, X)) ∧ (∀ X : IM, f_X12_meets_67 BG (nI m) d (nI A) (nI F) 0 X = some (v, X)) := by
    intro F hF
    have loop : ∀ (k f f' i : Nat), i + k = m → k < f → k < f' → ∃ v : Int32, (∀ X : IM, f_X11_meets_84 f (nI m) d (nI A) (nI F) (nI i) X = some (v, X)) ∧ (∀ X : IM, f_X12_meets_67 f' (nI m) d (nI A) (nI (F + i * A)) (nI i) X = some (v, X)) := by
      intro k
      induction k with
      | zero =>
        intro f f' i hi hf hf'
        obtain ⟨x, rfl⟩ : ∃ x, f = x + 1 := ⟨f - 1, by omega⟩
        obtain ⟨y, rfl⟩ : ∃ y, f' = y + 1 := ⟨f' - 1, by omega⟩
        refine ⟨-1, fun X => ?_, fun X => ?_⟩
        · show f_X11_meets_84_b (f_X11_meets_84 x) _ _ _ _ _ X = _
          unfold f_X11_meets_84_b
          rw [if_pos (nI_le (by omega) (by omega))]
        · show f_X12_meets_67_b (f_X12_meets_67 y) _ _ _ _ _ X = _
          unfold f_X12_meets_67_b
          rw [if_pos (nI_le (by omega) (by omega))]
      | succ k ih =>
        intro f f' i hi hf hf'
        obtain ⟨x, rfl⟩ : ∃ x, f = x + 1 := ⟨f - 1, by omega⟩
        obtain ⟨y, rfl⟩ : ∃ y, f' = y + 1 := ⟨f' - 1, by omega⟩
        have et : nI F + nI i * nI A = nI (F + i * A) := by rw [pk_mul, nI_add]
        have hmz : ¬ nI m = 0 := nI_ne0 (by omega) (by omega)
        by_cases hr : (nI (F + i * A) - nI (F + i * A) / nI m * nI m) = d
        · refine ⟨nI (F + i * A), fun X => ?_, fun X => ?_⟩
          · show f_X11_meets_84_b (f_X11_meets_84 x) _ _ _ _ _ X = _
            unfold f_X11_meets_84_b
            simp only [lt]
            unfold dv
            rw [if_neg (nI_ge (by omega) (by omega)), if_neg hmz, et, if_pos hr]
          · show f_X12_meets_67_b (f_X12_meets_67 y) _ _ _ _ _ X = _
            unfold f_X12_meets_67_b dv
            rw [if_neg (nI_ge (by omega) (by omega)), if_neg hmz, if_pos hr]
        · obtain ⟨v, v1, v2⟩ := ih x y (i + 1) (by omega) (by omega) (by omega)
          refine ⟨v, fun X => ?_, fun X => ?_⟩
          · show f_X11_meets_84_b (f_X11_meets_84 x) _ _ _ _ _ X = _
            unfold f_X11_meets_84_b
            simp only [lt]
            unfold dv
            rw [if_neg (nI_ge (by omega) (by omega)), if_neg hmz, et, if_neg hr, nI_1]
            exact v1 X
          · show f_X12_meets_67_b (f_X12_meets_67 y) _ _ _ _ _ X = _
            unfold f_X12_meets_67_b
            simp only [lt]
            unfold dv
            rw [if_neg (nI_ge (by omega) (by omega)), if_neg hmz, if_neg hr, nI_1, nI_add, show F + i * A + A = F + (i + 1) * A by rw [Nat.add_mul]; omega]
            exact v2 X
    obtain ⟨v, v1, v2⟩ := loop m BG BG 0 (by omega) (by unfold BG; omega) (by unfold BG; omega)
    rw [Nat.zero_mul, Nat.add_zero] at v2
    exact ⟨v, v1, v2⟩
  obtain ⟨v, v1, v2⟩ := run ((c + A - (Pl + g)) % A) (Nat.mod_lt _ (by omega))
  refine ⟨v, ?_, fun D hs2 hD => ?_⟩
  · unfold f_X11_meets
    refine ok_c eall (ok_c (win_c _ _ _ M) (ok_f (i1 hp') (ok_c (win_c _ _ _ M) (ok_f (i1 hq) (ok_c (win_c _ _ _ M) (ok_f (i1 hd) ?_))))))
    have e1 := hoursTo_e (C := M) hs hx (show l ≤ s by omega)
    rw [hPl] at e1
    rw [el]
    refine ok_c e1 ?_
    rw [eg]
    refine ok_c (floorMod_e (a := c) (b := Pl + g) hc hP (by omega) ?_) ?_
    · rw [ec]
      have h1 : (nI c - nI Pl).toInt = (c : Int) - Pl := pk_sub_toInt (by omega) (by omega)
      rw [Int32.toInt_sub, h1, nI_toInt (by omega), Int.bmod_eq_of_le (by omega) (by omega)]
      omega
    · rw [em]
      exact ⟨v, M, v1 M, rfl, same_rf⟩
  · obtain ⟨s', hs', es', -, hx', hd'⟩ := rc_hr hD
    have ess : s' = s := (nI_eq (by omega) (by omega)).mp (es'.symm.trans es)
    subst ess
    refine ok_c (eallm D hD) (ok_c (win_m _ _ _ D) (ok_f (i1 hp') (ok_c (win_m _ _ _ D) (ok_f (i1 hq) (ok_c (win_m _ _ _ D) (ok_f (i1 hd) ?_))))))
    have e1 := placeNow_e hD hs hx hd' hl el eg
    rw [hPl] at e1
    refine ok_c e1 (ok_dv (nI_ne0 (by omega) (by omega)) (ok_lt ?_))
    rw [ec, rem_e (a := c) (b := Pl + g) hc hP (by omega) (pk_sub_toInt (by omega) (by omega)), em]
    exact ⟨v, D, v2 D, rfl, same_rf⟩
/-- where one sees it come, by the first i stones: which, when -/
def seS (f : Nat → Int32) (b : Nat → Bool) : Nat → Int32 × Int32
  | 0 => (-1, 1000000)
  | i + 1 => if b i = true ∧ f i < (seS f b i).2 then (nI i, f i) else seS f b i
theorem absE {a b A : Nat} {M : IM} (ha : a < A) (hb : b < A) (hA : A < 2 ^ 29) : f_J9_abs_0f7a4 (nI a - nI b) M = some (nI (if a < b then b - a else a - b), M) := by
  have h1 : (nI a - nI b).toInt = (a : Int) - b := pk_sub_toInt (by omega) (by omega)
  unfold f_J9_abs_0f7a4
  by_cases h : a < b
  · rw [if_pos h, if_neg]
    · congr 2
      rw [← Int32.toInt_inj, Int32.toInt_neg, h1, nI_toInt (by omega), Int.bmod_eq_of_le (by omega) (by omega)]
      omega
    · rw [Int32.le_iff_toInt_le, h1, z0I]; omega
  · rw [if_neg h, if_pos, pk_sub (by omega)]
    rw [Int32.le_iff_toInt_le, h1, z0I]; omega
theorem st_sees (p q w : Int32) : Stp2 Inv (f_X11_sees p q w) (f_X12_sees p q w) := by
  refine stp_d rfl ?_
  intro M l0 l1 hI hR
  obtain ⟨s, hs, es, -, hx, -⟩ := rc_hr hR
  have hA := (hN_le (C := M) hx s (Nat.le_refl _)).2
  have em36 : ∀ D, RC M D 1 l0 l1 → D 136 36 = nI s := fun D hD => by rw [hD.2.1.1.1, es]
  by_cases hp : p < 0 ∨ nI s - 1 < p
  · refine ⟨-1, ?_, fun D hs2 hD => ?_⟩
    · unfold f_X11_sees
      rw [es]
      exact ok_c (win_c _ _ _ M) (ok_t (i0 hp) ok_v)
    · rw [em36 D hD]
      exact ok_c (win_m _ _ _ D) (ok_t (i0 hp) ok_v)
  by_cases hq : q < 1 ∨ 9 < q
  · refine ⟨-1, ?_, fun D hs2 hD => ?_⟩
    · unfold f_X11_sees
      rw [es]
      exact ok_c (win_c _ _ _ M) (ok_f (i1 hp) (ok_c (win_c _ _ _ M) (ok_t (i0 hq) ok_v)))
    · rw [em36 D hD]
      exact ok_c (win_m _ _ _ D) (ok_f (i1 hp) (ok_c (win_m _ _ _ D) (ok_t (i0 hq) ok_v)))
  by_cases hw : w < 0 ∨ 1 < w
  · refine ⟨-1, ?_, fun D hs2 hD => ?_⟩
    · unfold f_X11_sees
      rw [es]
      exact ok_c (win_c _ _ _ M) (ok_f (i1 hp) (ok_c (win_c _ _ _ M) (ok_f (i1 hq) (ok_c (win_c _ _ _ M) (ok_t (i0 hw) ok_v)))))
    · rw [em36 D hD]
      exact ok_c (win_m _ _ _ D) (ok_f (i1 hp) (ok_c (win_m _ _ _ D) (ok_f (i1 hq) (ok_c (win_m _ _ _ D) (ok_t (i0 hw) ok_v)))))
  have hp' := hp
  obtain ⟨t, ht, et⟩ := in_sub (by omega) hp
  have hbq : bnd q 1 9 := bnd_of hq (by decide) (by decide)
  obtain ⟨k, hk, ek⟩ := bnd_nI (x := q) (n := 9) ⟨by have := hbq.1; omega, hbq.2⟩ (by decide)
  obtain ⟨l, g, hl, el, eg, hg, hP⟩ := rc_pl hR hs es (by omega) hx
  have hlt : ∀ i : Nat, i < s → hN (M 22) i < hN (M 22) s := fun i hi => by
    obtain ⟨x, ex, x1, x2⟩ := hx i hi
    have e := hN_s (f := M 22) ex (by omega)
    have := hN_mono (f := M 22) (show i + 1 ≤ s by omega)
    omega
  generalize hAe : hN (M 22) s = A at *
  generalize hPe : hN (M 22) l + g = P at *
  -- when it comes to the stone i, and how far the stone is
  let cm : Nat → Nat := fun i => (hN (M 22) i + A - P) % A
  let ap : Nat → Nat := fun i => if hN (M 22) i < hN (M 22) t then hN (M 22) t - hN (M 22) i else hN (M 22) i - hN (M 22) t
  let mi : Nat → Nat := fun i => if A - ap i < ap i then A - ap i else ap i
  let bb : Nat → Bool := fun i => decide (k * mi i ≤ cm i)
  let S : Nat → Int32 × Int32 := seS (fun i => nI (cm i)) bb
  have eS : ∀ i : Nat, S (i + 1) = if bb i = true ∧ nI (cm i) < (S i).2 then (nI i, nI (cm i)) else S i := fun _ => rfl
  have hcm : ∀ i : Nat, cm i < A := fun i => Nat.mod_lt _ (by omega)
  have hap : ∀ i : Nat, i < s → ap i < A := fun i hi => by
    have h1 := hlt i hi
    have h2 := hlt t ht
    show (if hN (M 22) i < hN (M 22) t then hN (M 22) t - hN (M 22) i else hN (M 22) i - hN (M 22) t) < A
    split <;> omega
  have hmi : ∀ i : Nat, i < s → mi i < A := fun i hi => by
    have h1 := hap i hi
    show (if A - ap i < ap i then A - ap i else ap i) < A
    split <;> omega
  have hkm : ∀ i : Nat, i < s → k * mi i < 9 * 200 := fun i hi => by
    have h1 := hmi i hi
    have : k * mi i ≤ 9 * mi i := Nat.mul_le_mul_right _ hk
    omega
  refine ⟨if w = 0 then (S s).1 else (S s).2, ?_, fun D hs2 hD => ?_⟩
  · unfold f_X11_sees
    rw [es]
    have eall : f_X7_allHours 20 M = some (nI A, M) := by
      have := allHours_c hR
      rwa [es, nI_clamp (by omega), hAe] at this
    refine ok_c (win_c _ _ _ M) (ok_f (i1 hp') (ok_c (win_c _ _ _ M) (ok_f (i1 hq) (ok_c (win_c _ _ _ M) (ok_f (i1 hw) (ok_c eall ?_))))))
    rw [el]
    refine ok_c (hoursTo_e (C := M) hs hx (show l ≤ s by omega)) ?_
    rw [eg]
    refine ok_lt ?_
    rw [nI_add, hPe, et, ek]
    have loop : ∀ f i : Nat, i ≤ s → s - i < f → Ok (f_X11_sees_85 f (nI t) (nI k) w (nI A) (nI P) (S i).1 (S i).2 (nI i) M) (fun r M1 => r = (if w = 0 then (S s).1 else (S s).2) ∧ same M M1) := by
      intro f
      induction f with
      | zero => intro i _ h; omega
      | succ f ih =>
        intro i hi hf
        show Ok (f_X11_sees_85_b (f_X11_sees_85 f) _ _ _ _ _ _ _ (nI i) M) _
        unfold f_X11_sees_85_b
        rw [es]
        by_cases e : i = s
        · subst e
          exact ok_t (nI_le (Nat.le_refl _) (by omega)) (ok_if (fun h => ok_s ⟨by rw [if_pos h], same_rf⟩) (fun h => ok_s ⟨by rw [if_neg h], same_rf⟩))
        have his : i < s := by omega
        have ehi := hoursTo_e (C := M) hs hx (show i ≤ s by omega)
        have hti := hlt i his
        have htt := hlt t ht
        refine ok_f (nI_ge (by omega) (by omega)) (ok_c ehi (ok_c (floorMod_e (a := hN (M 22) i) (b := P) hti hP (by omega) (pk_sub_toInt (by omega) (by omega))) (ok_c ehi (ok_c (hoursTo_e (C := M) hs hx (show t ≤ s by omega)) (ok_c (absE hti htt (by omega)) ?_)))))
        have emn : f_J9_min_7cf53 (nI (ap i)) (nI A - nI (ap i)) M = some (nI (mi i), M) := by
          rw [pk_sub (by have := hap i his; omega)]
          unfold f_J9_min_7cf53
          show _ = some (nI (if A - ap i < ap i then A - ap i else ap i), M)
          by_cases h : A - ap i < ap i
          · rw [if_pos h, if_pos (nI_lt h (by have := hap i his; omega))]
          · rw [if_neg h, if_neg (nI_nlt (by omega) (by omega))]
        refine ok_c emn ?_
        have h1 := ih (i + 1) (by omega) (by omega)
        rw [eS i] at h1
        rw [pk_mul]
        have hkm1 := hkm i his
        have hc1 := hcm i
        by_cases hb : k * mi i ≤ cm i
        · refine ok_f (show ¬ nI (cm i) < nI (k * mi i) from nI_nlt hb (by omega)) ?_
          unfold f_X11_sees_153
          refine ok_f (by decide) (ok_if (fun h => ok_lt ?_) (fun h => ok_lt ?_))
          · rw [nI_1]
            rwa [if_neg (show ¬ (bb i = true ∧ nI (cm i) < (S i).2) from fun z => absurd z.2 (Int32.not_lt.mpr h))] at h1
          · rw [nI_1]
            rwa [if_pos (show bb i = true ∧ nI (cm i) < (S i).2 from ⟨decide_eq_true hb, Int32.not_le.mp h⟩)] at h1
        · refine ok_t (show nI (cm i) < nI (k * mi i) from nI_lt (by omega) (by omega)) ?_
          unfold f_X11_sees_153
          refine ok_t rfl (ok_lt ?_)
          rw [nI_1]
          rwa [if_neg (show ¬ (bb i = true ∧ nI (cm i) < (S i).2) from fun z => hb (of_decide_eq_true z.1))] at h1
    exact loop BG 0 (by omega) (by unfold BG; omega)
  · obtain ⟨s', hs', es', -, hx', hd'⟩ := rc_hr hD
    have ess : s' = s := (nI_eq (by omega) (by omega)).mp (es'.symm.trans es)
    subst ess
    have eallm : f_X12_hoursOfRound D = some (nI A, D) := by
      have := allHours_m hD
      rwa [es, nI_clamp (by omega), hAe] at this
    have epn := placeNow_e hD hs hx hd' hl el eg
    rw [hPe] at epn
    rw [em36 D hD]
    refine ok_c (win_m _ _ _ D) (ok_f (i1 hp') (ok_c (win_m _ _ _ D) (ok_f (i1 hq) (ok_c (win_m _ _ _ D) (ok_f (i1 hw) (ok_c eallm ?_))))))
    rw [et, ek]
    have hA0 : ¬ nI A = 0 := nI_ne0 (by omega) (by omega)
    have loop : ∀ f i : Nat, i ≤ s' → s' - i < f → Ok (f_X12_sees_60 f (nI t) (nI k) w (nI A) (S i).1 (S i).2 (nI i) D) (fun r M1 => r = (if w = 0 then (S s').1 else (S s').2) ∧ same D M1) := by
      intro f
      induction f with
      | zero => intro i _ h; omega
      | succ f ih =>
        intro i hi hf
        show Ok (f_X12_sees_60_b (f_X12_sees_60 f) _ _ _ _ _ _ (nI i) D) _
        unfold f_X12_sees_60_b
        rw [em36 D hD]
        by_cases e : i = s'
        · subst e
          exact ok_t (nI_le (Nat.le_refl _) (by omega)) (ok_if (fun h => ok_s ⟨by rw [if_pos h], same_rf⟩) (fun h => ok_s ⟨by rw [if_neg h], same_rf⟩))
        have his : i < s' := by omega
        have ehi := placeOf_e hs hx hd' (show i ≤ s' by omega)
        have hti := hlt i his
        have htt := hlt t ht
        refine ok_f (nI_ge (by omega) (by omega)) (ok_c ehi (ok_c epn (ok_dv hA0 (ok_lt (ok_c ehi (ok_c (placeOf_e hs hx hd' (show t ≤ s' by omega)) (ok_dv hA0 (ok_lt ?_))))))))
        rw [rem_e (a := hN (M 22) i) (b := P) hti hP (by omega) (pk_sub_toInt (by omega) (by omega)), rem_e (a := hN (M 22) i) (b := hN (M 22) t) hti htt (by omega) (pk_sub_toInt (by omega) (by omega))]
        have eth : (hN (M 22) i + A - hN (M 22) t) % A = if hN (M 22) i < hN (M 22) t then A - ap i else ap i := by
          show _ = if hN (M 22) i < hN (M 22) t then A - (if hN (M 22) i < hN (M 22) t then hN (M 22) t - hN (M 22) i else hN (M 22) i - hN (M 22) t) else (if hN (M 22) i < hN (M 22) t then hN (M 22) t - hN (M 22) i else hN (M 22) i - hN (M 22) t)
          by_cases h : hN (M 22) i < hN (M 22) t
          · rw [if_pos h, if_pos h, Nat.mod_eq_of_lt (by omega)]; omega
          · rw [if_neg h, if_neg h, show hN (M 22) i + A - hN (M 22) t = hN (M 22) i - hN (M 22) t + A by omega, Nat.add_mod_right, Nat.mod_eq_of_lt (by omega)]
        have hapi := hap i his
        have emn : f_X12_lesser (nI ((hN (M 22) i + A - hN (M 22) t) % A)) (nI A - nI ((hN (M 22) i + A - hN (M 22) t) % A)) D = some (nI (mi i), D) := by
          rw [eth]
          show _ = some (nI (if A - ap i < ap i then A - ap i else ap i), D)
          unfold f_X12_lesser
          by_cases h : hN (M 22) i < hN (M 22) t
          · rw [if_pos h, pk_sub (by omega), show A - (A - ap i) = ap i by omega]
            by_cases h2 : A - ap i < ap i
            · rw [if_pos h2, if_neg (nI_ge h2 (by omega))]
            · rw [if_neg h2, if_pos (nI_le (by omega) (by omega))]
          · rw [if_neg h, pk_sub (by omega)]
            by_cases h2 : A - ap i < ap i
            · rw [if_pos h2, if_pos (nI_le (by omega) (by omega))]
            · rw [if_neg h2]
              by_cases h3 : A - ap i = ap i
              · rw [h3, if_pos (Int32.le_refl _)]
              · rw [if_neg (nI_ge (by omega) (by omega))]
        refine ok_c emn ?_
        have h1 := ih (i + 1) (by omega) (by omega)
        rw [eS i] at h1
        rw [pk_mul]
        have hkm1 := hkm i his
        have hc1 := hcm i
        have upd1 : k * mi i ≤ cm i → Ok (f_X12_sees_132 (f_X12_sees_60 f) (nI t) (nI k) w (nI A) (S i).1 (S i).2 (nI i) (nI (cm i)) D) (fun r M1 => r = (if w = 0 then (S s').1 else (S s').2) ∧ same D M1) := fun hb => by
          unfold f_X12_sees_132
          refine ok_if (fun h => ok_lt ?_) (fun h => ok_lt ?_)
          · rw [nI_1]
            rwa [if_pos (show bb i = true ∧ nI (cm i) < (S i).2 from ⟨decide_eq_true hb, h⟩)] at h1
          · rw [nI_1]
            rwa [if_neg (show ¬ (bb i = true ∧ nI (cm i) < (S i).2) from fun z => h z.2)] at h1
        by_cases hb : k * mi i ≤ cm i
        · exact ok_t (show nI (k * mi i) ≤ nI (cm i) from nI_le hb (by omega)) (upd1 hb)
        · refine ok_f (show ¬ nI (k * mi i) ≤ nI (cm i) from nI_ge (by omega) (by omega)) (ok_f (fun z => ?_) (ok_lt ?_))
          · have e : i = t := (nI_eq (by omega) (by omega)).mp z
            apply hb
            have : mi i = 0 := by
              show (if A - ap i < ap i then A - ap i else ap i) = 0
              have : ap i = 0 := by
                show (if hN (M 22) i < hN (M 22) t then hN (M 22) t - hN (M 22) i else hN (M 22) i - hN (M 22) t) = 0
                rw [e, if_neg (by omega)]
                omega
              rw [this, if_neg (by omega)]
            rw [this, Nat.mul_zero]
            exact Nat.zero_le _
          · rw [nI_1]
            rwa [if_neg (show ¬ (bb i = true ∧ nI (cm i) < (S i).2) from fun z => hb (of_decide_eq_true z.1))] at h1
    exact loop BG 0 (by omega) (by unfold BG; omega)
