/-! text: shifts -/
/-- the clocks of a shift, bit by bit -/
def zq_ck (f : Nat) : Nat → Nat
  | 0 => 0
  | x + 1 => zq_ck f x ||| (1 <<< ((f + x) % 24))
theorem zq_ckl (f : Nat) : ∀ x : Nat, zq_ck f x < 2 ^ 24
  | 0 => by show 0 < 2 ^ 24; decide
  | x + 1 => by
    have h1 := zq_ckl f x
    have h2 : 1 <<< ((f + x) % 24) < 2 ^ 24 := by
      rw [Nat.one_shiftLeft]
      exact Nat.pow_lt_pow_right (by decide) (Nat.mod_lt _ (by decide))
    exact Nat.or_lt_two_pow h1 h2
theorem zq_ckb {f c : Nat} (hf : f ≤ 23) (hc : c < 24) : ∀ h : Nat, h ≤ 24 → (zq_ck f h).testBit c = inSh (f : Int) (h : Int) c
  | 0, _ => by
    have e : inSh (f : Int) ((0 : Nat) : Int) c = false := by
      unfold inSh
      simp only [decide_eq_false_iff_not]
      omega
    rw [e]
    exact Nat.zero_testBit c
  | x + 1, hx => by
    have ih := zq_ckb hf hc x (by omega)
    have e1 : (zq_ck f (x + 1)).testBit c = ((zq_ck f x).testBit c || decide ((f + x) % 24 = c)) := by
      show (zq_ck f x ||| (1 <<< ((f + x) % 24))).testBit c = _
      rw [Nat.testBit_or, Nat.one_shiftLeft, Nat.testBit_two_pow]
    rw [e1, ih]
    unfold inSh
    rw [Bool.eq_iff_iff, Bool.or_eq_true, decide_eq_true_eq, decide_eq_true_eq, decide_eq_true_eq]
    omega
section SHIFT
variable {tx : Nat → Nat} {len m : Nat} {C0 D0 C D : IM} {k n : Nat} {wk : Int32}
theorem zq_h54 : ¬ 154 = 136 ∧ ¬ 154 = 143 ∧ ¬ 154 = 144 := by decide
theorem zq_pl {f h : Nat} (hn : n < 16) (hf : f ≤ 23) (hh : h ≤ 24) : ∀ (d g x : Nat) (X : IM), x + d = h → d < g → X 112 0 = nI n → X 114 n = nI (zq_ck f x) → ∃ X1, f_X8_put_23 112 g (nI f) (nI h) (nI x) X = some (0, X1) ∧ X1 112 0 = nI (n + 1) ∧ X1 114 n = nI (zq_ck f h) ∧ (∀ j : Nat, ¬ j = n → X1 114 j = X 114 j) ∧ fr [112, 114] X X1 := by
  intro d
  induction d with
  | zero =>
    intro g x X hx hg h0 h4
    obtain ⟨g, rfl⟩ : ∃ i, g = i + 1 := ⟨g - 1, by omega⟩
    have e : x = h := by omega
    subst e
    refine ⟨ms X 112 0 (nI (n + 1)), ?_, ms_it, by rw [ms_ne (by decide)]; exact h4, fun j _ => by rw [ms_ne (by decide)], fr_ms fr_rf (by decide)⟩
    show f_X8_put_23_b 112 (f_X8_put_23 112 g) (nI f) (nI x) (nI x) X = _
    unfold f_X8_put_23_b
    rw [if_pos (Int32.le_refl _)]
    simp only [pt]
    rw [h0, nI_1]
  | succ d ih =>
    intro g x X hx hg h0 h4
    obtain ⟨g, rfl⟩ : ∃ i, g = i + 1 := ⟨g - 1, by omega⟩
    have ev : nI (zq_ck f x) ||| ((1 : Int32) <<< ((nI f + nI x - (nI f + nI x) / 24 * 24) &&& 31)) = nI (zq_ck f (x + 1)) := by
      rw [nI_add, show nI (f + x) - nI (f + x) / 24 * 24 = nI ((f + x) % 24) from pk_rem (d := 24) (by omega) (by decide) (by decide), show (1 : Int32) <<< (nI ((f + x) % 24) &&& 31) = nI (1 <<< ((f + x) % 24)) from zq_shl (s := 1) (by omega), nx_or]
      rfl
    obtain ⟨X1, a1, a2, a3, a4, a5⟩ := ih g (x + 1) (ms X 114 n (nI (zq_ck f (x + 1)))) (by omega) (by omega) (by rw [ms_ne (by decide)]; exact h0) ms_it
    refine ⟨X1, ?_, a2, a3, fun j hj => by rw [a4 j hj, ms_at hj], fr_tr (fr_ms fr_rf (by decide)) a5⟩
    show f_X8_put_23_b 112 (f_X8_put_23 112 g) (nI f) (nI h) (nI x) X = _
    unfold f_X8_put_23_b
    rw [if_neg (nI_ge (by omega) (by omega)), h0, rdK (j := n) rfl hn (by decide), h4, ev, wrK (j := n) rfl hn (by decide)]
    simp only [lt]
    rw [nI_1]
    exact a1
theorem zq_putS {wa f h : Nat} (hn : n < 16) (hf : f ≤ 23) (hh : h ≤ 24) (h0 : C 112 0 = nI n) : ∃ C1, f_X8_put 112 (nI wa) (nI f) (nI h) C = some (0, C1) ∧ C1 112 0 = nI (n + 1) ∧ (C1 113 n = nI wa ∧ ∀ j : Nat, ¬ j = n → C1 113 j = C 113 j) ∧ (C1 114 n = nI (zq_ck f h) ∧ ∀ j : Nat, ¬ j = n → C1 114 j = C 114 j) ∧ fr [112, 113, 114] C C1 := by
  obtain ⟨C1, a1, a2, a3, a4, a5⟩ := zq_pl (f := f) (h := h) hn hf hh h BG 0 (ms (ms C 113 n (nI wa)) 114 n 0) (by omega) (by unfold BG; omega) (by rw [ms_ne (by decide), ms_ne (by decide)]; exact h0) (by rw [ms_it]; rfl)
  refine ⟨C1, ?_, a2, ⟨by rw [a5 113 (by decide), ms_ne (by decide), ms_it], fun j hj => by rw [a5 113 (by decide), ms_ne (by decide), ms_at hj]⟩, ⟨a3, fun j hj => by rw [a4 j hj, ms_at hj, ms_ne (by decide)]⟩, fr_tr (fr_ms (fr_ms fr_rf (by decide)) (by decide)) (fr_sub a5 (by decide))⟩
  unfold f_X8_put
  rw [h0, wrK (j := n) rfl hn (by decide), ms_ne (by decide), h0, wrK (j := n) rfl hn (by decide)]
  exact a1
theorem zq_shift (hg : zq_g tx len m 154 48 C0 D0 C D k) (hT : tkC tx len m k = 10020) (hn : n < 16) (h6 : D 136 6 = wk) :
    (∃ Ce De, f_X6_readsShift wk (ms C 100 7 (nI (k + 1))) = some (0, Ce) ∧ f_X12_readShift (nI (48 + 3 * n)) D = some (-1, De) ∧ zq_fx 154 48 C0 D0 Ce De) ∨
    ∃ wa f h C1 D1 k1, k < k1 ∧ (wa < 10000 ∧ ¬ (nI wa < 0 ∨ wk - 1 < nI wa) ∧ f ≤ 23 ∧ 1 ≤ h ∧ h ≤ 24) ∧ f_X6_readsShift wk (ms C 100 7 (nI (k + 1))) = (cl (f_X8_put 112 (nI wa) (nI f) (nI h) C1) fun _ M26 => some (1, M26)) ∧ f_X12_readShift (nI (48 + 3 * n)) D = some (0, D1) ∧ zq_g tx len m 154 48 C0 D0 C1 D1 k1 ∧ (D1 154 (48 + 3 * n) = nI wa ∧ D1 154 (48 + 3 * n + 1) = nI f ∧ D1 154 (48 + 3 * n + 2) = nI h) ∧ ∀ j : Nat, (j < 48 + 3 * n ∨ 48 + 3 * n + 3 ≤ j) → D1 154 j = D 154 j := by
  have e1 : nI (48 + 3 * n) + 1 = nI (48 + 3 * n + 1) := nI_1 _
  have e2 : nI (48 + 3 * n) + 2 = nI (48 + 3 * n + 2) := nI_add _ 2
  rcases zq_jt (w := 20) (c := 10020) (lo := 0) (hi := wk - 1) (by decide) rfl zq_h54 hg with ⟨Ce, De, a0, -⟩ | ⟨Ce, De, a0, a1, a2, a3, a4, a5⟩ | ⟨wa, D1, a0, a1, a2, a3, a4, a5, a6, a7, a8⟩
  · exact absurd hT a0
  · refine Or.inl ⟨Ce, ms De 154 (48 + 3 * n) (-1), ?_, ?_, zq_fx_w (by decide) (by omega) a5⟩
    · unfold f_X6_readsShift
      rw [cl_s a3, if_pos rfl]
    · unfold f_X12_readShift
      rw [h6, cl_s (show f_X12_readTold 20 0 (wk - 1) D = _ from a4), wrK (j := 48 + 3 * n) rfl (by omega) (by decide), rdK (j := 48 + 3 * n) rfl (by omega) (by decide), ms_it, if_pos rfl]
  · have g2 := zq_g_w (j := 48 + 3 * n) (v := nI wa) zq_h54 (by omega) a8
    generalize hC2 : ms (ms C 100 7 (nI (k + 1))) 100 7 (nI (k + 2)) = C2 at *
    have ec : f_X6_readsShift wk (ms C 100 7 (nI (k + 1))) = cl (f_X6_takes 10021 C2) fun w5 M6 => if w5 = 0 then some (0, M6) else cl (f_X6_takesNumber 0 23 M6) fun w9 M10 => if w9 = (-1) then some (0, M10) else cl (f_X6_takes 10019 M10) fun w13 M14 => if w13 = 0 then some (0, M14) else cl (f_X6_takesNumber 1 24 M14) fun w17 M18 => if w17 = (-1) then some (0, M18) else cl (f_X6_takes 20059 M18) fun w21 M22 => if w21 = 0 then some (0, M22) else cl (f_X8_put 112 (nI wa) w9 w17 M22) fun _ M26 => some (1, M26) := by
      unfold f_X6_readsShift
      rw [cl_s a5, if_neg (zq_vm a2)]
    have em : f_X12_readShift (nI (48 + 3 * n)) D = cl (f_X12_readTold 21 0 23 (ms D1 154 (48 + 3 * n) (nI wa))) fun w9 M10 => wr M10 154 96 (nI (48 + 3 * n) + 1) w9 fun M12 => rd M12 154 96 (nI (48 + 3 * n) + 1) fun v14 => if v14 = (-1) then some ((-1), M12) else cl (f_X12_readTold 19 1 24 M12) fun w17 M18 => wr M18 154 96 (nI (48 + 3 * n) + 2) w17 fun M20 => rd M20 154 96 (nI (48 + 3 * n) + 2) fun v22 => if v22 = (-1) then some ((-1), M20) else cl (f_X12_readMark 59 M20) fun w25 M26 => some (w25, M26) := by
      unfold f_X12_readShift
      rw [h6, cl_s (show f_X12_readTold 20 0 (wk - 1) D = _ from a6), wrK (j := 48 + 3 * n) rfl (by omega) (by decide), rdK (j := 48 + 3 * n) rfl (by omega) (by decide), ms_it, if_neg (zq_vm a2)]
    rw [ec, em]
    have r2 : ∀ j : Nat, ¬ j = 48 + 3 * n → ms D1 154 (48 + 3 * n) (nI wa) 154 j = D 154 j := fun j hj => by rw [ms_at hj, a7]
    have r2' : ms D1 154 (48 + 3 * n) (nI wa) 154 (48 + 3 * n) = nI wa := ms_it
    generalize ms D1 154 (48 + 3 * n) (nI wa) = D2 at *
    rcases zq_jt (w := 21) (c := 10021) (lo := 0) (hi := 23) (by decide) rfl zq_h54 g2 with ⟨Ce, De, b0, b1, b2, b3⟩ | ⟨Ce, De, b0, b1, b2, b3, b4, b5⟩ | ⟨f, D3, b0, b1, b2, b3, b4, b5, b6, b7, b8⟩
    · refine Or.inl ⟨Ce, ms De 154 (48 + 3 * n + 1) (-1), ?_, ?_, zq_fx_w (by decide) (by omega) b3⟩
      · rw [cl_s (show f_X6_takes 10021 C2 = _ from b1), if_pos rfl]
      · rw [cl_s (show f_X12_readTold 21 0 23 D2 = _ from b2), wrK (j := 48 + 3 * n + 1) e1 (by omega) (by decide), rdK (j := 48 + 3 * n + 1) e1 (by omega) (by decide), ms_it, if_pos rfl]
    · refine Or.inl ⟨Ce, ms De 154 (48 + 3 * n + 1) (-1), ?_, ?_, zq_fx_w (by decide) (by omega) b5⟩
      · rw [cl_s (show f_X6_takes 10021 C2 = _ from b2), if_neg (by decide), cl_s b3, if_pos rfl]
      · rw [cl_s (show f_X12_readTold 21 0 23 D2 = _ from b4), wrK (j := 48 + 3 * n + 1) e1 (by omega) (by decide), rdK (j := 48 + 3 * n + 1) e1 (by omega) (by decide), ms_it, if_pos rfl]
    · have hf : f ≤ 23 := by
        rcases Nat.lt_or_ge 23 f with z | z
        · exact absurd (Or.inr (nI_lt (a := 23) z (by omega))) b3
        · exact z
      have g4 := zq_g_w (j := 48 + 3 * n + 1) (v := nI f) zq_h54 (by omega) b8
      generalize hC4 : ms (ms C2 100 7 (nI (k + 2 + 1))) 100 7 (nI (k + 2 + 2)) = C4 at *
      have r4 : ∀ j : Nat, ¬ j = 48 + 3 * n → ¬ j = 48 + 3 * n + 1 → ms D3 154 (48 + 3 * n + 1) (nI f) 154 j = D 154 j := fun j h0 h1 => by rw [ms_at h1, b7, r2 j h0]
      have r4' : ms D3 154 (48 + 3 * n + 1) (nI f) 154 (48 + 3 * n) = nI wa := by rw [ms_at (by omega), b7, r2']
      have r4'' : ms D3 154 (48 + 3 * n + 1) (nI f) 154 (48 + 3 * n + 1) = nI f := ms_it
      have ec2 : (cl (f_X6_takes 10021 C2) fun w5 M6 => if w5 = 0 then some (0, M6) else cl (f_X6_takesNumber 0 23 M6) fun w9 M10 => if w9 = (-1) then some (0, M10) else cl (f_X6_takes 10019 M10) fun w13 M14 => if w13 = 0 then some (0, M14) else cl (f_X6_takesNumber 1 24 M14) fun w17 M18 => if w17 = (-1) then some (0, M18) else cl (f_X6_takes 20059 M18) fun w21 M22 => if w21 = 0 then some (0, M22) else cl (f_X8_put 112 (nI wa) w9 w17 M22) fun _ M26 => some (1, M26)) = cl (f_X6_takes 10019 C4) fun w13 M14 => if w13 = 0 then some (0, M14) else cl (f_X6_takesNumber 1 24 M14) fun w17 M18 => if w17 = (-1) then some (0, M18) else cl (f_X6_takes 20059 M18) fun w21 M22 => if w21 = 0 then some (0, M22) else cl (f_X8_put 112 (nI wa) (nI f) w17 M22) fun _ M26 => some (1, M26) := by
        rw [cl_s (show f_X6_takes 10021 C2 = _ from b4), if_neg (by decide), cl_s b5, if_neg (zq_vm b2)]
      have em2 : (cl (f_X12_readTold 21 0 23 D2) fun w9 M10 => wr M10 154 96 (nI (48 + 3 * n) + 1) w9 fun M12 => rd M12 154 96 (nI (48 + 3 * n) + 1) fun v14 => if v14 = (-1) then some ((-1), M12) else cl (f_X12_readTold 19 1 24 M12) fun w17 M18 => wr M18 154 96 (nI (48 + 3 * n) + 2) w17 fun M20 => rd M20 154 96 (nI (48 + 3 * n) + 2) fun v22 => if v22 = (-1) then some ((-1), M20) else cl (f_X12_readMark 59 M20) fun w25 M26 => some (w25, M26)) = cl (f_X12_readTold 19 1 24 (ms D3 154 (48 + 3 * n + 1) (nI f))) fun w17 M18 => wr M18 154 96 (nI (48 + 3 * n) + 2) w17 fun M20 => rd M20 154 96 (nI (48 + 3 * n) + 2) fun v22 => if v22 = (-1) then some ((-1), M20) else cl (f_X12_readMark 59 M20) fun w25 M26 => some (w25, M26) := by
        rw [cl_s (show f_X12_readTold 21 0 23 D2 = _ from b6), wrK (j := 48 + 3 * n + 1) e1 (by omega) (by decide), rdK (j := 48 + 3 * n + 1) e1 (by omega) (by decide), ms_it, if_neg (zq_vm b2)]
      rw [ec2, em2]
      generalize ms D3 154 (48 + 3 * n + 1) (nI f) = D4 at *
      rcases zq_jt (w := 19) (c := 10019) (lo := 1) (hi := 24) (by decide) rfl zq_h54 g4 with ⟨Ce, De, c0, c1, c2, c3⟩ | ⟨Ce, De, c0, c1, c2, c3, c4, c5⟩ | ⟨h, D5, c0, c1, c2, c3, c4, c5, c6, c7, c8⟩
      · refine Or.inl ⟨Ce, ms De 154 (48 + 3 * n + 2) (-1), ?_, ?_, zq_fx_w (by decide) (by omega) c3⟩
        · rw [cl_s (show f_X6_takes 10019 C4 = _ from c1), if_pos rfl]
        · rw [cl_s (show f_X12_readTold 19 1 24 D4 = _ from c2), wrK (j := 48 + 3 * n + 2) e2 (by omega) (by decide), rdK (j := 48 + 3 * n + 2) e2 (by omega) (by decide), ms_it, if_pos rfl]
      · refine Or.inl ⟨Ce, ms De 154 (48 + 3 * n + 2) (-1), ?_, ?_, zq_fx_w (by decide) (by omega) c5⟩
        · rw [cl_s (show f_X6_takes 10019 C4 = _ from c2), if_neg (by decide), cl_s c3, if_pos rfl]
        · rw [cl_s (show f_X12_readTold 19 1 24 D4 = _ from c4), wrK (j := 48 + 3 * n + 2) e2 (by omega) (by decide), rdK (j := 48 + 3 * n + 2) e2 (by omega) (by decide), ms_it, if_pos rfl]
      · have hh : 1 ≤ h ∧ h ≤ 24 := by
          constructor
          · rcases Nat.lt_or_ge h 1 with z | z
            · exact absurd (Or.inl (nI_lt (b := 1) z (by decide))) c3
            · exact z
          · rcases Nat.lt_or_ge 24 h with z | z
            · exact absurd (Or.inr (nI_lt (a := 24) z (by omega))) c3
            · exact z
        have g6 := zq_g_w (j := 48 + 3 * n + 2) (v := nI h) zq_h54 (by omega) c8
        rw [cl_s (show f_X6_takes 10019 C4 = _ from c4), if_neg (show ¬ (1 : Int32) = 0 by decide), cl_s c5, if_neg (zq_vm c2), cl_s (show f_X12_readTold 19 1 24 D4 = _ from c6), wrK (j := 48 + 3 * n + 2) e2 (by omega) (by decide), rdK (j := 48 + 3 * n + 2) e2 (by omega) (by decide), ms_it, if_neg (zq_vm c2)]
        rcases zq_jm zq_h54 g6 with ⟨Ce, De, d1, d2, d3⟩ | ⟨D7, d1, d2, d3, d4, d5⟩
        · exact Or.inl ⟨Ce, De, by rw [cl_s d1, if_pos rfl], by rw [cl_s d2], d3⟩
        · refine Or.inr ⟨wa, f, h, _, D7, k + 2 + 2 + 2 + 1, by omega, ⟨a2, a3, hf, hh.1, hh.2⟩, by rw [cl_s d2, if_neg (by decide)], by rw [cl_s d3], d5, ⟨?_, ?_, ?_⟩, fun j hj => ?_⟩
          · rw [d4, ms_at (by omega), c7]; exact r4'
          · rw [d4, ms_at (by omega), c7]; exact r4''
          · rw [d4, ms_it]
          · rw [d4, ms_at (by omega), c7]; exact r4 j (by omega) (by omega)
end SHIFT
/-- so many lines of shifts are read -/
def zq_ss (wk : Int32) (C D : IM) (n : Nat) : Prop := C 112 0 = nI n ∧ n ≤ 16 ∧ ∀ i : Nat, i < n → D 154 (48 + 3 * i) = C 113 i ∧ 0 ≤ (C 113 i).toInt ∧ (C 113 i).toInt < wk.toInt ∧ bnd (D 154 (48 + 3 * i + 1)) 0 23 ∧ bnd (D 154 (48 + 3 * i + 2)) 1 24 ∧ bnd (C 114 i) 0 16777215 ∧ ∀ c : Nat, c < 24 → (C 114 i).toInt.toNat.testBit c = inSh (D 154 (48 + 3 * i + 1)).toInt (D 154 (48 + 3 * i + 2)).toInt c
section SHIFTS
variable {tx : Nat → Nat} {len m W : Nat}
theorem zq_shs (hW : W ≤ 10) : ∀ (d u w k n : Nat) (C D : IM), m ≤ k + d → k ≤ m → zq_ct C (tkC tx len m) (pl tx len) m → C 100 7 = nI k → zq_dt D tx len m → AtM D tx len m k → D 136 6 = nI W → zq_ss (nI W) C D n → m < u + k → m < w + k → zq_jo [100, 112, 113, 114] 154 48 C D (f_X6_readsShifts_10 u (nI W) (nI n) C) (f_X12_readShifts_2 w (nI n) D) (zq_ss (nI W)) := by
  intro d
  induction d with
  | zero =>
    intro u w k n C D hd hk hc h7 hD hA h6 hr hu hw
    obtain ⟨u, rfl⟩ : ∃ i, u = i + 1 := ⟨u - 1, by omega⟩
    obtain ⟨w, rfl⟩ : ∃ i, w = i + 1 := ⟨w - 1, by omega⟩
    have ekm : k = m := by omega
    have hTk : tkC tx len m k = 30000 := by rw [ekm]; exact zq_Tm
    have w20 : f_X12_isWord 20 D = some (if tkC tx len m k = 10020 then 1 else 0, D) := zq_wd (w := 20) hA hk (by decide)
    refine Or.inr ⟨C, D, n, ?_, ?_, ⟨rfl, rfl⟩, fr_rf, zq_rf_rf, hr⟩
    · show f_X6_readsShifts_10_b (f_X6_readsShifts_10 u) (nI W) (nI n) C = _
      unfold f_X6_readsShifts_10_b
      rw [if_neg (show ¬ (16 : Int32) < nI n from nI_nlt (a := 16) hr.2.1 (by decide)), zq_tk hc hk h7, hTk, if_pos (by decide)]
    · show f_X12_readShifts_2_b (f_X12_readShifts_2 w) (nI n) D = _
      unfold f_X12_readShifts_2_b
      rw [cl_s w20, if_neg (show ¬ tkC tx len m k = 10020 by omega), if_pos rfl, if_pos ((zq_t3 (zq_tok hA hk)).2.2.2.1.mp hTk)]
  | succ d ih =>
    intro u w k n C D hd hk hc h7 hD hA h6 hr hu hw
    obtain ⟨u, rfl⟩ : ∃ i, u = i + 1 := ⟨u - 1, by omega⟩
    obtain ⟨w, rfl⟩ : ∃ i, w = i + 1 := ⟨w - 1, by omega⟩
    have w20 : f_X12_isWord 20 D = some (if tkC tx len m k = 10020 then 1 else 0, D) := zq_wd (w := 20) hA hk (by decide)
    have t3 := (zq_t3 (zq_tok hA hk)).2.2.2.1
    obtain ⟨hr1, hr2, hr3⟩ := hr
    show zq_jo _ 154 48 C D (f_X6_readsShifts_10_b (f_X6_readsShifts_10 u) (nI W) (nI n) C) (f_X12_readShifts_2_b (f_X12_readShifts_2 w) (nI n) D) (zq_ss (nI W))
    unfold f_X6_readsShifts_10_b f_X12_readShifts_2_b
    rw [if_neg (show ¬ (16 : Int32) < nI n from nI_nlt (a := 16) hr2 (by decide)), zq_tk hc hk h7, cl_s w20]
    obtain ⟨p1, p2, p3⟩ := zq_opn (c := 10020) hc hk h7 (by decide)
    by_cases q0 : tkC tx len m k = 30000
    · rw [if_pos (by rw [q0]; rfl), if_neg (show ¬ tkC tx len m k = 10020 by omega), if_pos rfl, if_pos (t3.mp q0)]
      exact Or.inr ⟨C, D, n, rfl, rfl, ⟨rfl, rfl⟩, fr_rf, zq_rf_rf, hr1, hr2, hr3⟩
    · have hlt : k < m := by
        rcases Nat.lt_or_ge k m with z | z
        · exact z
        · exact absurd (by rw [show k = m by omega]; exact zq_Tm) q0
      rw [if_neg (zq_nt (c := 30000) (v := 30000) hc hk (by decide) rfl q0), hr1]
      by_cases q1 : tkC tx len m k = 10020
      · rw [if_pos q1, if_neg (show ¬ (1 : Int32) = 0 by decide)]
        by_cases q2 : n = 16
        · rw [if_pos (show (16 : Int32) ≤ nI n by rw [q2]; decide), if_pos (show nI n = 16 by rw [q2]; rfl)]
          unfold f_X6_readsShifts_54
          rw [cl_s (show f_X6_opensLine 10020 0 C = _ from p1 q1), if_pos rfl, cl_s (zq_er hA)]
          exact Or.inl ⟨_, _, rfl, rfl, by rw [ms_at (by decide), ms_it, ms_at (by decide), ms_it], by rw [ms_it, ms_it], fr_ms (fr_ms fr_rf (by decide)) (by decide), zq_rf_e (by decide)⟩
        · rw [if_neg (show ¬ (16 : Int32) ≤ nI n from nI_ge (b := 16) (by omega) (by decide)), if_neg (zq_nq (c := 16) (v := 16) (by omega) (by decide) rfl q2)]
          unfold f_X6_readsShifts_54
          rw [cl_s (show f_X6_opensLine 10020 1 C = _ from p2 q1), if_neg (show ¬ (1 : Int32) = 0 by decide), show (48 : Int32) + 3 * nI n = nI (48 + 3 * n) by rw [show (3 : Int32) * nI n = nI (3 * n) from pk_mul 3 n]; exact nI_add 48 _]
          have hg : zq_g tx len m 154 48 C D C D k := ⟨hk, hc, h7, hD, hA, fr_rf, ⟨rfl, rfl⟩, zq_rf_rf⟩
          rcases zq_shift (n := n) hg q1 (by omega) h6 with ⟨Ce, De, a1, a2, a3⟩ | ⟨wa, f, h, C1, D1, k1, a0, a1, a2, a3, a4, a5, a6⟩
          · rw [cl_s a1, if_pos rfl, cl_s a2, if_pos rfl]
            exact Or.inl ⟨Ce, De, rfl, rfl, a3.1, a3.2.1, fr_sub a3.2.2.1 (by decide), a3.2.2.2⟩
          · obtain ⟨b1, b2, b3, b4, b5, b6, b7, b8⟩ := a4
            have h112 : C1 112 0 = nI n := by rw [b6 112 (by decide)]; exact hr1
            obtain ⟨C2, ep, s0, ⟨s1, s2⟩, ⟨s3, s4⟩, s5⟩ := zq_putS (wa := wa) (f := f) (h := h) (n := n) (by omega) a1.2.2.1 a1.2.2.2.2 h112
            have f2 : fr [100, 112, 113, 114] C C2 := fr_tr (fr_sub b6 (by decide)) (fr_sub s5 (by decide))
            have r100 : C2 100 = C1 100 := s5 100 (by decide)
            have c2 : zq_ct C2 (tkC tx len m) (pl tx len) m := by
              refine ⟨hc.1, hc.2.1, fun j hj => ?_⟩
              rw [f2 117 (by decide), f2 118 (by decide)]
              exact hc.2.2 j hj
            have rr2 : zq_ss (nI W) C2 D1 (n + 1) := by
              refine ⟨s0, by omega, fun j hj => ?_⟩
              by_cases z : j = n
              · subst z
                obtain ⟨x, x1, x2⟩ := in_sub (by omega) a1.2.1
                have hx : wa = x := (zq_eq (by omega) (by omega)).mp x2
                have hck := zq_ckl f h
                rw [s1, s3, a5.1, a5.2.1, a5.2.2]
                refine ⟨rfl, by rw [nI_toInt (by omega)]; omega, by rw [nI_toInt (by omega), nI_toInt (by omega)]; omega, bnd_n (by omega) (by omega) (by omega), bnd_n (by omega) (by omega) (by omega), bnd_n (by omega) (by omega) (by omega), fun c hc => ?_⟩
                rw [nI_toInt (by omega), nI_toInt (by omega), nI_toInt (by omega), Int.toNat_natCast]
                exact zq_ckb a1.2.2.1 hc h a1.2.2.2.2
              · rw [s2 j z, s4 j z, b6 113 (by decide), b6 114 (by decide), a6 _ (by omega), a6 _ (by omega), a6 _ (by omega)]
                exact hr3 j (by omega)
            rw [a2, cl_s ep, cl_s rfl, if_neg (show ¬ (1 : Int32) = 0 by decide), cl_s a3, if_neg (show ¬ (0 : Int32) = -1 by decide)]
            simp only [lt]
            rw [nI_1]
            rcases ih u w k1 (n + 1) C2 D1 (by omega) b1 c2 (by rw [r100]; exact b3) b4 b5 (by rw [b8.1 6 (by decide)]; exact h6) rr2 (by omega) (by omega) with ⟨Ce, De, x1, x2, x3, x4, x5, x6⟩ | ⟨C3, D3, n3, x1, x2, x3, x4, x5, x6⟩
            · exact Or.inl ⟨Ce, De, x1, x2, x3, x4, fr_tr f2 x5, zq_rf_tr b8 x6⟩
            · exact Or.inr ⟨C3, D3, n3, x1, x2, ⟨by rw [x3.1, r100]; exact b7.1, by rw [x3.2, r100]; exact b7.2⟩, fr_tr f2 x4, zq_rf_tr b8 x5, x6⟩
      · have e54 : ∀ y : Int32, f_X6_readsShifts_54 (f_X6_readsShifts_10 u) (nI W) (nI n) 10020 y C = some (0, ms (ms C 100 0 1) 100 1 (nI (pl tx len k))) := fun y => by
          unfold f_X6_readsShifts_54
          rw [cl_s (show f_X6_opensLine 10020 y C = _ from p3 q1 y), if_pos rfl]
        rw [if_neg q1, if_pos rfl, if_neg (fun z => q0 (t3.mpr z)), cl_s (zq_er hA), e54, e54]
        refine Or.inl ⟨ms (ms C 100 0 1) 100 1 (nI (pl tx len k)), _, ?_, rfl, by rw [ms_at (by decide), ms_it, ms_at (by decide), ms_it], by rw [ms_it, ms_it], fr_ms (fr_ms fr_rf (by decide)) (by decide), zq_rf_e (by decide)⟩
        split <;> rfl
end SHIFTS
