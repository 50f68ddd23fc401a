/-! fits -/
/-- the walker w's feet and row, and the hour, set anew in M -/
def cjM (M : IM) (w j : Nat) (fe ro : Int32) : IM := ms (ms (ms M 4 w fe) 5 w ro) 1 1 (M 1 1 + nI j)
def vFt (M : IM) (w j : Nat) (fe ro : Int32) : Nat → Int32 := vC (cjM M w j fe ro) 1 (clk (cjM M w j fe ro 1)) w
def rsF (M : IM) (w : Nat) (l1 : List LLn) (j : Nat) (s : Int32 × Int32) : Int32 × Int32 := (mx0 (s.1 - am (vFt M w j s.1 s.2) 10012 5 l1), 0)
def wkF (M : IM) (w : Nat) (l1 : List LLn) (j : Nat) (s : Int32 × Int32) : Int32 × Int32 := (mn9 (s.1 + am (vFt M w j s.1 s.2) 10011 10 l1), mn9 (s.2 + 1))
/-- feet and row behind j hours, chosen by the bits of P, the first hour's bit the highest -/
def stF (M : IM) (w : Nat) (l1 : List LLn) : Nat → Nat → Int32 × Int32
  | 0, _ => (M 4 w, M 5 w)
  | j + 1, P => if P % 2 = 1 then wkF M w l1 j (stF M w l1 j (P / 2)) else rsF M w l1 j (stF M w l1 j (P / 2))
def rwF : Nat → Nat → Int32
  | 0, _ => 0
  | j + 1, P => if P % 2 = 1 then rwF j (P / 2) ||| ((1 : Int32) <<< (nI j &&& 31)) else rwF j (P / 2)
/-- one way more, or not -/
def lfF (v fe wk : Int32) (acc : Int32 × Int32) : Int32 × Int32 := if fe = v then (acc.1 + 1, if acc.2 = -1 then wk else acc.2) else acc
def foF (M : IM) (w : Nat) (l1 : List LLn) (v : Int32) (k s : Nat) (acc : Int32 × Int32) : Nat → Int32 × Int32
  | 0 => acc
  | c + 1 => lfF v (stF M w l1 k (s + c)).1 (rwF k (s + c)) (foF M w l1 v k s acc c)
theorem foF_add {M : IM} {w : Nat} {l1 : List LLn} {v : Int32} {k s : Nat} {acc : Int32 × Int32} {c : Nat} : ∀ d : Nat, foF M w l1 v k s acc (c + d) = foF M w l1 v k (s + c) (foF M w l1 v k s acc c) d
  | 0 => rfl
  | d + 1 => by
    show lfF v (stF M w l1 k (s + (c + d))).1 (rwF k (s + (c + d))) (foF M w l1 v k s acc (c + d)) = lfF v (stF M w l1 k (s + c + d)).1 (rwF k (s + c + d)) (foF M w l1 v k (s + c) (foF M w l1 v k s acc c) d)
    rw [foF_add d, show s + (c + d) = s + c + d by omega]
theorem bt_rw : ∀ (i P : Nat), i ≤ 31 → ∀ j : Nat, j < 32 → bt (rwF i P) j = (decide (j < i) && P.testBit (i - 1 - j))
  | 0, P, _, j, _ => by
    show bt 0 j = _
    rw [b_0]
    simp
  | i + 1, P, hi, j, hj => by
    have ih := bt_rw i (P / 2) (by omega) j hj
    have ep : ∀ x : Nat, (P / 2).testBit x = P.testBit (x + 1) := fun x => (Nat.testBit_succ P x).symm
    unfold rwF
    have key : ∀ b : Bool, (b = true ↔ P % 2 = 1) → (bt (rwF i (P / 2)) j || (b && decide (j = i))) = (decide (j < i + 1) && P.testBit (i + 1 - 1 - j)) := fun b hb => by
      rw [ih]
      by_cases h1 : j < i
      · have h2 : j < i + 1 := by omega
        have h3 : ¬ j = i := by omega
        rw [ep, show i - 1 - j + 1 = i + 1 - 1 - j by omega]
        simp [h1, h2, h3]
      · by_cases h3 : j = i
        · subst h3
          have : P.testBit (j + 1 - 1 - j) = b := by
            rw [show j + 1 - 1 - j = 0 by omega, Nat.testBit_zero]
            cases b with
            | true => simp [hb.mp rfl]
            | false =>
              have : ¬ P % 2 = 1 := fun q => by have := hb.mpr q; cases this
              simp [this]
          rw [this]
          simp
        · have h4 : ¬ j < i + 1 := by omega
          simp [h1, h3, h4]
    by_cases q : P % 2 = 1
    · rw [if_pos q, b_or, b_set (by omega) hj]
      have := key true (by simp [q])
      simpa using this
    · rw [if_neg q]
      have := key false (by simp [q])
      simpa using this
theorem rw_ne {k P : Nat} (hk : k ≤ 10) : ¬ rwF k P = -1 := fun q => by
  have h1 := bt_rw k P (by omega) 31 (by decide)
  rw [q, b_m1 31 (by decide), decide_eq_false (by omega)] at h1
  simp at h1
theorem vFt_e {M : IM} {w j : Nat} {fe ro : Int32} (hw : w < 10) : vFt M w j fe ro 0 = fe ∧ vFt M w j fe ro 1 = ro ∧ vFt M w j fe ro 3 = (M 1 1 + nI j) - (M 1 1 + nI j) / 24 * 24 ∧ vFt M w j fe ro 4 = (M 1 1 + nI j) / 24 ∧ ∀ i ∈ [2, 5, 6, 7, 8], ∀ c : Int32, vFt M w j fe ro i = vC M 1 c w i := by
  have r1 : cjM M w j fe ro 1 = upd (M 1) 1 (M 1 1 + nI j) := by unfold cjM; rw [ms_ro, ms_ne (by decide), ms_ne (by decide)]
  have r2 : cjM M w j fe ro 2 = M 2 := by unfold cjM; rw [ms_ne (by decide), ms_ne (by decide), ms_ne (by decide)]
  have r3 : cjM M w j fe ro 3 = M 3 := by unfold cjM; rw [ms_ne (by decide), ms_ne (by decide), ms_ne (by decide)]
  have r4 : cjM M w j fe ro 4 w = fe := by unfold cjM; rw [ms_ne (by decide), ms_ne (by decide), ms_it]
  have r5 : cjM M w j fe ro 5 w = ro := by unfold cjM; rw [ms_ne (by decide), ms_it]
  have rr : ∀ q : Nat, 20 ≤ q → cjM M w j fe ro q = M q := fun q hq => by unfold cjM; rw [ms_ne (by omega), ms_ne (by omega), ms_ne (by omega)]
  unfold vFt vC
  rw [r1, r2, r3, r4, r5, rr 20 (by omega), rr 21 (by omega), rr 22 (by omega), rr 23 (by omega)]
  refine ⟨rfl, rfl, ?_, ?_, fun i hi c => ?_⟩
  · simp [vw, clk, upd]
  · simp [vw, upd]
  · simp only [List.mem_cons, List.not_mem_nil, or_false] at hi
    rcases hi with rfl | rfl | rfl | rfl | rfl <;> simp [vw, upd]
section FITS
variable {M : IM} {w k : Nat} {l0 l1 : List LLn} {v : Int32}
/-- what the class's search needs to find in its memory -/
def FtC (M X : IM) (w k : Nat) (v : Int32) : Prop := X 132 4 = M 1 1 ∧ X 132 5 = nI k ∧ X 132 6 = v ∧ (∀ i ∈ [2, 5, 6, 7, 8], X 120 i = vC M 1 0 w i) ∧ fr [120, 121, 132] M X
theorem walkFrom_c (hR : RC M M 1 l0 l1) (hw : w < 10) (hk : k ≤ 10) : ∀ (rem f i P : Nat) (X : IM) (acc : Int32 × Int32), i + rem = k → rem < f → FtC M X w k v → X 132 0 = acc.1 → X 132 1 = acc.2 → Ok (fr_X2_walkFrom f (nI i) (stF M w l1 i P).1 (stF M w l1 i P).2 (rwF i P) X) (fun _ X1 => FtC M X1 w k v ∧ X1 132 0 = (foF M w l1 v k (P * 2 ^ rem) acc (2 ^ rem)).1 ∧ X1 132 1 = (foF M w l1 v k (P * 2 ^ rem) acc (2 ^ rem)).2) := by
  intro rem
  induction rem with
  | zero =>
    intro f i P X acc hi hf hX h0 h1
    obtain ⟨x, rfl⟩ : ∃ x, f = x + 1 := ⟨f - 1, by omega⟩
    have hik : i = k := by omega
    subst hik
    obtain ⟨x4, x5, x6, x7, x8⟩ := hX
    show Ok (f_X2_walkFrom_e (fr_X2_walkFrom x) (nI i) (stF M w l1 i P).1 (stF M w l1 i P).2 (rwF i P) X) _
    unfold f_X2_walkFrom_e
    rw [x5, x6, h0]
    have ef : foF M w l1 v i (P * 2 ^ 0) acc (2 ^ 0) = lfF v (stF M w l1 i P).1 (rwF i P) acc := by
      show lfF v (stF M w l1 i (P * 1 + 0)).1 (rwF i (P * 1 + 0)) acc = _
      rw [Nat.mul_one, Nat.add_zero]
    rw [ef]
    unfold lfF
    refine ok_f (nI_nlt (Nat.le_refl _) (by omega)) (ok_if (fun q => ok_pt ?_) (fun q => ok_s ⟨⟨x4, x5, x6, x7, x8⟩, by rw [if_neg q, h0], by rw [if_neg q, h1]⟩))
    rw [ms_at (by decide), h1, if_pos q]
    refine ok_if (fun q2 => ok_pt (ok_s ⟨⟨?_, ?_, ?_, ?_, ?_⟩, ?_, ?_⟩)) (fun q2 => ok_pt (ok_s ⟨⟨?_, ?_, ?_, ?_, ?_⟩, ?_, ?_⟩))
    · rw [ms_at (by decide), ms_at (by decide)]; exact x4
    · rw [ms_at (by decide), ms_at (by decide)]; exact x5
    · rw [ms_at (by decide), ms_at (by decide)]; exact x6
    · rw [ms_ne (by decide), ms_ne (by decide)]; exact x7
    · exact fr_ms (fr_ms x8 (by simp)) (by simp)
    · rw [ms_at (by decide), ms_it]
    · rw [ms_it, if_pos q2]
    · rw [ms_at (by decide), ms_at (by decide)]; exact x4
    · rw [ms_at (by decide), ms_at (by decide)]; exact x5
    · rw [ms_at (by decide), ms_at (by decide)]; exact x6
    · rw [ms_ne (by decide), ms_ne (by decide)]; exact x7
    · exact fr_ms (fr_ms x8 (by simp)) (by simp)
    · rw [ms_at (by decide), ms_it]
    · rw [ms_it, if_neg q2]
  | succ rem ih =>
    intro f i P X acc hi hf hX h0 h1
    obtain ⟨x, rfl⟩ : ∃ x, f = x + 1 := ⟨f - 1, by omega⟩
    obtain ⟨x4, x5, x6, x7, x8⟩ := hX
    show Ok (f_X2_walkFrom_e (fr_X2_walkFrom x) (nI i) (stF M w l1 i P).1 (stF M w l1 i P).2 (rwF i P) X) _
    unfold f_X2_walkFrom_e
    rw [x5]
    refine ok_t (nI_lt (by omega) (by omega)) (ok_c (setFeet_e _ _ _) ?_)
    rw [ms_ne (o := 120) (p := 132) (by decide), ms_ne (o := 120) (p := 132) (by decide), x4]
    refine ok_c (setHour_e _ _) ?_
    obtain ⟨e0, e1, e3, e4, er⟩ := vFt_e (M := M) (j := i) (fe := (stF M w l1 i P).1) (ro := (stF M w l1 i P).2) hw
    have hB : ∃ B : IM, B = ms (ms (ms (ms X 120 0 (stF M w l1 i P).1) 120 1 (stF M w l1 i P).2) 120 3 (M 1 1 + nI i - (M 1 1 + nI i) / 24 * 24)) 120 4 ((M 1 1 + nI i) / 24) := ⟨_, rfl⟩
    obtain ⟨B, hB⟩ := hB
    rw [← hB]
    have fB : fr [120] X B := by rw [hB]; exact fr_ms (fr_ms (fr_ms (fr_ms fr_rf (by simp)) (by simp)) (by simp)) (by simp)
    have vB : ∀ j : Nat, j < 9 → B 120 j = vFt M w i (stF M w l1 i P).1 (stF M w l1 i P).2 j := by
      refine c9 ?_
      rw [hB, e0, e1, e3, e4, er 2 (by decide) 0, er 5 (by decide) 0, er 6 (by decide) 0, er 7 (by decide) 0, er 8 (by decide) 0, ← x7 2 (by decide), ← x7 5 (by decide), ← x7 6 (by decide), ← x7 7 (by decide), ← x7 8 (by decide)]
      simp [ms]
    have amt : ∀ (wd : Int32) (Y : IM), fr [120, 121, 132] M Y → (∀ j : Nat, j < 9 → Y 120 j = vFt M w i (stF M w l1 i P).1 (stF M w l1 i P).2 j) → Ok (f_X0_amount 14 wd Y) (fun r M1 => r = am (vFt M w i (stF M w l1 i P).1 (stF M w l1 i P).2) wd (dfl wd) l1 ∧ fr [121] Y M1) := fun wd Y hY hv => by
      unfold f_X0_amount
      have hL : LwC Y 14 0 0 l1 := LwC_14 (fun q h1 h2 => hY q (by simp; omega)) hR.2.2.2.1
      exact amount_l (by decide) l1 BG 0 0 Y hL hR.2.2.2.2.2.2.2 hv (by have := hL.2.1; unfold BG; omega)
    have fMB : fr [120, 121, 132] M B := fr_tr x8 (fr_sub fB (by simp))
    refine ok_cl (amt 10012 B fMB vB) (fun r B1 q1 => ?_)
    obtain ⟨rfl, f1⟩ := q1
    have fM1 : fr [120, 121, 132] M B1 := fr_tr fMB (fr_sub f1 (by simp))
    refine ok_c (eased_e _ _ _) (ok_cl (amt 10011 B1 fM1 (fun j hj => by rw [f1 120 (by decide)]; exact vB j hj)) (fun r B2 q2 => ?_))
    obtain ⟨rfl, f2⟩ := q2
    have fM2 : fr [120, 121, 132] M B2 := fr_tr fM1 (fr_sub f2 (by simp))
    refine ok_c (tired_e _ _ _) ?_
    have b132 : B2 132 = X 132 := by rw [f2 132 (by decide), f1 132 (by decide), fB 132 (by decide)]
    have hX2 : FtC M B2 w k v := ⟨by rw [b132]; exact x4, by rw [b132]; exact x5, by rw [b132]; exact x6, fun j hj => by
      have hj9 : j < 9 := (by decide : ∀ j ∈ [2, 5, 6, 7, 8], j < 9) j hj
      rw [f2 120 (by decide), f1 120 (by decide), vB j hj9, er j hj 0], fM2⟩
    have s0 : stF M w l1 (i + 1) (2 * P) = rsF M w l1 i (stF M w l1 i P) := by
      show (if 2 * P % 2 = 1 then _ else rsF M w l1 i (stF M w l1 i (2 * P / 2))) = _
      rw [if_neg (by omega), show 2 * P / 2 = P by omega]
    have s1 : stF M w l1 (i + 1) (2 * P + 1) = wkF M w l1 i (stF M w l1 i P) := by
      show (if (2 * P + 1) % 2 = 1 then wkF M w l1 i (stF M w l1 i ((2 * P + 1) / 2)) else _) = _
      rw [if_pos (by omega), show (2 * P + 1) / 2 = P by omega]
    have w0 : rwF (i + 1) (2 * P) = rwF i P := by
      show (if 2 * P % 2 = 1 then _ else rwF i (2 * P / 2)) = _
      rw [if_neg (by omega), show 2 * P / 2 = P by omega]
    have w1 : rwF (i + 1) (2 * P + 1) = rwF i P ||| ((1 : Int32) <<< (nI i &&& 31)) := by
      show (if (2 * P + 1) % 2 = 1 then rwF i ((2 * P + 1) / 2) ||| ((1 : Int32) <<< (nI i &&& 31)) else _) = _
      rw [if_pos (by omega), show (2 * P + 1) / 2 = P by omega]
    have r0 := ih x (i + 1) (2 * P) B2 acc (by omega) (by omega) hX2 (by rw [b132]; exact h0) (by rw [b132]; exact h1)
    rw [s0, w0] at r0
    rw [nI_1]
    refine ok_cl r0 (fun r B3 q3 => ok_c (oneMore_e _ _) ?_)
    obtain ⟨y1, y2, y3⟩ := q3
    have r1 := ih x (i + 1) (2 * P + 1) B3 _ (by omega) (by omega) y1 y2 y3
    rw [s1, w1] at r1
    have e2 : 2 ^ (rem + 1) = 2 ^ rem + 2 ^ rem := by rw [Nat.pow_succ]; omega
    have ep : P * 2 ^ (rem + 1) = 2 * P * 2 ^ rem := by rw [e2, Nat.mul_add, Nat.mul_assoc, Nat.two_mul]
    have ep2 : (2 * P + 1) * 2 ^ rem = 2 * P * 2 ^ rem + 2 ^ rem := by rw [Nat.add_mul, Nat.one_mul]
    refine ok_cl r1 (fun r B4 q4 => ok_s ?_)
    rw [ep2] at q4
    rw [ep, e2, foF_add (2 ^ rem)]
    exact q4
theorem fits_c (hR : RC M M 1 l0 l1) (hw : w < 10) (hk : k ≤ 10) : Ok (cl (f_X0_meet 1 20 (nI w) M) fun _ M18 => rd M18 4 10 (nI w) fun v20 => rd M18 5 10 (nI w) fun v22 => f_X2_find (M18 1 1) (nI k) v v20 v22 M18) (fun _ X1 => fr [120, 121, 132] M X1 ∧ X1 132 0 = (foF M w l1 v k 0 (0, -1) (2 ^ k)).1 ∧ X1 132 1 = (foF M w l1 v k 0 (0, -1) (2 ^ k)).2) := by
  refine ok_cl (meet_r (Or.inl rfl) hR hw) (fun r X q => ?_)
  obtain ⟨f1, vX⟩ := q
  refine ok_rv w (M 4 w) rfl hw (by decide) (by rw [f1 4 (by decide)]) (ok_rv w (M 5 w) rfl hw (by decide) (by rw [f1 5 (by decide)]) ?_)
  unfold f_X2_find
  simp only [pt]
  rw [f1 1 (by decide)]
  have hY : ∃ Y : IM, Y = ms (ms (ms (ms (ms X 132 4 (M 1 1)) 132 5 (nI k)) 132 6 v) 132 0 0) 132 1 (-1) := ⟨_, rfl⟩
  obtain ⟨Y, hY⟩ := hY
  rw [← hY]
  have hF : FtC M Y w k v := by
    refine ⟨?_, ?_, ?_, fun i hi => ?_, ?_⟩
    · rw [hY]; simp [ms]
    · rw [hY]; simp [ms]
    · rw [hY]; simp [ms]
    · have hi9 : i < 9 := (by decide : ∀ j ∈ [2, 5, 6, 7, 8], j < 9) i hi
      have e : Y 120 = X 120 := by rw [hY, ms_ne (by decide), ms_ne (by decide), ms_ne (by decide), ms_ne (by decide), ms_ne (by decide)]
      rw [e, vX i hi9]
      simp only [List.mem_cons, List.not_mem_nil, or_false] at hi
      rcases hi with rfl | rfl | rfl | rfl | rfl <;> rfl
    · rw [hY]
      exact fr_ms (fr_ms (fr_ms (fr_ms (fr_ms (fr_sub f1 (by simp)) (by simp)) (by simp)) (by simp)) (by simp)) (by simp)
  have := walkFrom_c (v := v) hR hw hk k 13 0 0 Y (0, -1) (by omega) (by omega) hF (by rw [hY]; simp [ms]) (by rw [hY]; simp [ms])
  rw [Nat.zero_mul] at this
  refine ok_cl (show Ok (f_X2_walkFrom 0 (M 4 w) (M 5 w) 0 Y) _ from this) (fun r X1 q => ok_s ⟨q.1.2.2.2.2, q.2.1, q.2.2⟩)
theorem rnw_congr {n pa fe ro q q' : Nat → Int32} (h : RNw n pa fe ro q) (hq : ∀ i : Nat, i < 40 → q' i = q i) : RNw n pa fe ro q' := by
  obtain ⟨a0, a1, a2, a3, a4, a5, a6, a7, a8, a9, aw⟩ := h
  exact ⟨by rw [hq 0 (by decide)]; exact a0, by rw [hq 1 (by decide)]; exact a1, by rw [hq 2 (by decide)]; exact a2, by rw [hq 3 (by decide)]; exact a3, by rw [hq 4 (by decide)]; exact a4, by rw [hq 5 (by decide)]; exact a5, by rw [hq 6 (by decide)]; exact a6, by rw [hq 7 (by decide)]; exact a7, by rw [hq 8 (by decide)]; exact a8, by rw [hq 9 (by decide)]; exact a9, fun w hw => by rw [hq (10 + w) (by omega), hq (20 + w) (by omega), hq (30 + w) (by omega)]; exact aw w hw⟩
theorem rnw_w {n pa fe ro q : Nat → Int32} {w : Nat} {a b : Int32} (hw : w < 10) (h : RNw n pa fe ro q) : RNw n pa (upd fe w a) (upd ro w b) (upd (upd q (10 + w) a) (20 + w) b) := by
  obtain ⟨a0, a1, a2, a3, a4, a5, a6, a7, a8, a9, aw⟩ := h
  have lo : ∀ i : Nat, i < 10 → upd (upd q (10 + w) a) (20 + w) b i = q i := fun i hi => by rw [upd_n (by omega), upd_n (by omega)]
  refine ⟨by rw [lo 0 (by decide)]; exact a0, by rw [lo 1 (by decide)]; exact a1, by rw [lo 2 (by decide)]; exact a2, by rw [lo 3 (by decide)]; exact a3, by rw [lo 4 (by decide)]; exact a4, by rw [lo 5 (by decide)]; exact a5, by rw [lo 6 (by decide)]; exact a6, by rw [lo 7 (by decide)]; exact a7, by rw [lo 8 (by decide)]; exact a8, by rw [lo 9 (by decide)]; exact a9, fun x hx => ?_⟩
  obtain ⟨y1, y2, y3⟩ := aw x hx
  by_cases e : x = w
  · subst e
    exact ⟨by rw [upd_n (by omega), upd_s, upd_s], by rw [upd_s, upd_s], by rw [upd_n (by omega), upd_n (by omega)]; exact y3⟩
  · exact ⟨by rw [upd_n (by omega), upd_n (by omega), upd_n e]; exact y1, by rw [upd_n (by omega), upd_n (by omega), upd_n e]; exact y2, by rw [upd_n (by omega), upd_n (by omega)]; exact y3⟩
theorem stF_b (hR : RC M M 1 l0 l1) (hw : w < 10) : ∀ (j P : Nat), bnd (stF M w l1 j P).1 0 999 ∧ bnd (stF M w l1 j P).2 0 999
  | 0, P => ⟨(hR.1.2.1.2.2.2.2.2 w hw).2.2.1, (hR.1.2.1.2.2.2.2.2 w hw).2.2.2⟩
  | j + 1, P => by
    obtain ⟨h1, h2⟩ := stF_b hR hw j (P / 2)
    unfold stF
    split
    · have hb : bnd (am (vFt M w j (stF M w l1 j (P / 2)).1 (stF M w l1 j (P / 2)).2) 10011 10 l1) 0 99 := am_bnd ⟨by decide, by decide⟩ l1
      refine ⟨mn9_b ?_, mn9_b ?_⟩
      · rw [bnd_add h1 hb (by omega) (by omega)]
        have := h1.1
        have := hb.1
        omega
      · rw [bnd_add (y := 1) (c := 0) (d := 1) h2 ⟨by decide, by decide⟩ (by omega) (by omega), show (1 : Int32).toInt = 1 by decide]
        have := h2.1
        omega
    · have hb : bnd (am (vFt M w j (stF M w l1 j (P / 2)).1 (stF M w l1 j (P / 2)).2) 10012 5 l1) 0 99 := am_bnd ⟨by decide, by decide⟩ l1
      refine ⟨mx0_b ?_ (by omega), (⟨by decide, by decide⟩ : bnd 0 0 999)⟩
      rw [bnd_sub h1 hb (by omega) (by omega)]
      have := h1.2
      have := hb.1
      omega
/-- the model in the middle of a way: j hours behind -/
theorem RC_cj {T X : IM} {j : Nat} {fe ro : Int32} (hT : RC M T 1 l0 l1) (hw : w < 10) (hj : (M 1 1).toInt + j ≤ 20000) (hj2 : j < 1000) (h4 : bnd (M 1 4) 0 (M 1 1).toInt) (hfe : bnd fe 0 999) (hro : bnd ro 0 999) (hX : fr [137, 155, 156] T X) (h137 : ∀ i : Nat, i < 40 → X 137 i = upd (upd (upd (T 137) (10 + w) fe) (20 + w) ro) 0 (M 1 1 + nI j) i) : RC (cjM M w j fe ro) X 1 l0 l1 := by
  have r1 : cjM M w j fe ro 1 = upd (M 1) 1 (M 1 1 + nI j) := by unfold cjM; rw [ms_ro, ms_ne (by decide), ms_ne (by decide)]
  have r2 : cjM M w j fe ro 2 = M 2 := by unfold cjM; rw [ms_ne (by decide), ms_ne (by decide), ms_ne (by decide)]
  have r3 : cjM M w j fe ro 3 = M 3 := by unfold cjM; rw [ms_ne (by decide), ms_ne (by decide), ms_ne (by decide)]
  have r4 : cjM M w j fe ro 4 = upd (M 4) w fe := by unfold cjM; rw [ms_ne (by decide), ms_ne (by decide), ms_ro]
  have r5 : cjM M w j fe ro 5 = upd (M 5) w ro := by unfold cjM; rw [ms_ne (by decide), ms_ro, ms_ne (by decide)]
  have rr : ∀ q : Nat, 6 ≤ q → cjM M w j fe ro q = M q := fun q hq => by unfold cjM; rw [ms_ne (by omega), ms_ne (by omega), ms_ne (by omega)]
  obtain ⟨a1, ⟨o1, o2, o3, o4, o5, o6⟩, a3, a4, a5⟩ := id hT.1
  have hjb : bnd (nI j) 0 1000 := bnd_n (by omega) (by omega) (by omega)
  have es : (M 1 1 + nI j).toInt = (M 1 1).toInt + j := by rw [bnd_add o1 hjb (by omega) (by omega), nI_toInt (by omega)]
  refine RC_mk (Or.inl rfl) hT (fun q h1 _ => rr q h1) (fun i _ => by rw [hX 136 (by decide)]) (fun q hq => hX q (by simp; omega)) (by rw [r1, upd_n (by decide)]) (fun x _ => by rw [show (1 + 2 : Nat) = 3 from rfl, r3]) ?_ ?_ ?_
  · rw [r1, show (1 + 1 : Nat) = 2 from rfl, show (1 + 3 : Nat) = 4 from rfl, show (1 + 4 : Nat) = 5 from rfl, r2, r4, r5]
    exact rnw_congr (rnw_u (by decide) (rnw_w hw a1)) h137
  · rw [r1, show (1 + 1 : Nat) = 2 from rfl, show (1 + 2 : Nat) = 3 from rfl, show (1 + 3 : Nat) = 4 from rfl, show (1 + 4 : Nat) = 5 from rfl, r2, r3, r4, r5]
    refine ⟨?_, ?_, by rw [upd_n (by decide)]; exact o3, by rw [upd_n (by decide)]; exact o4, by rw [upd_n (by decide)]; exact o5, fun x hx => ?_⟩
    · rw [upd_s]
      unfold bnd
      rw [es]
      have := o1.1
      omega
    · rw [upd_s, upd_n (by decide)]
      unfold bnd
      rw [es]
      have := h4.1
      have := h4.2
      omega
    · obtain ⟨z1, z2, z3, z4⟩ := o6 x hx
      by_cases e : x = w
      · subst e; rw [upd_s, upd_s]; exact ⟨z1, z2, hfe, hro⟩
      · rw [upd_n e, upd_n e]; exact ⟨z1, z2, z3, z4⟩
  · unfold OkL at *
    rw [r1, upd_n (by decide), upd_n (by decide)]
    exact a3
theorem feetBy_m {T : IM} (hR : RC M M 1 l0 l1) (hT : RC M T 1 l0 l1) (hw : w < 10) (hk : k ≤ 10) (h1 : (M 1 1).toInt ≤ 9999) (h4 : bnd (M 1 4) 0 (M 1 1).toInt) {N : Nat} : ∀ (r f j : Nat) (X : IM), j + r = k → r < f → fr [137, 155, 156] T X → (∀ i : Nat, i < 40 → X 137 i = upd (upd (upd (T 137) (10 + w) (stF M w l1 j (N / 2 ^ r)).1) (20 + w) (stF M w l1 j (N / 2 ^ r)).2) 0 (M 1 1 + nI j) i) → Ok (f_X12_feetBy_3 f (nI w) (nI k) (rwF k N) (nI j) X) (fun x X1 => x = (stF M w l1 k N).1 ∧ fr [137, 155, 156] T X1 ∧ ∀ i : Nat, i < 40 → X1 137 i = T 139 i) := by
  intro r
  induction r with
  | zero =>
    intro f j X hj hf hX h137
    obtain ⟨x, rfl⟩ : ∃ x, f = x + 1 := ⟨f - 1, by omega⟩
    have hjk : j = k := by omega
    subst hjk
    show Ok (f_X12_feetBy_3_b (f_X12_feetBy_3 x) (nI w) (nI j) (rwF j N) (nI j) X) _
    unfold f_X12_feetBy_3_b
    obtain ⟨Y, y1, y2, y3⟩ := anew_m X
    refine ok_t (nI_le (Nat.le_refl _) (by omega)) (ok_rv (10 + w) _ (nI_add 10 w) (by omega) (by decide) (h137 (10 + w) (by omega)) (ok_c y1 (ok_s ⟨?_, ?_, fun i hi => ?_⟩)))
    · rw [upd_n (by omega), upd_n (by omega), upd_s, show N / 2 ^ 0 = N by simp]
    · exact fr_tr hX (fun p hp => funext fun i => y3 p i (by simp at hp ⊢; omega) (by simp))
    · rw [y2 i hi, hX 139 (by decide)]
  | succ r ih =>
    intro f j X hj hf hX h137
    obtain ⟨x, rfl⟩ : ∃ x, f = x + 1 := ⟨f - 1, by omega⟩
    show Ok (f_X12_feetBy_3_b (f_X12_feetBy_3 x) (nI w) (nI k) (rwF k N) (nI j) X) _
    unfold f_X12_feetBy_3_b
    have hb := stF_b (M := M) (w := w) hR hw j (N / 2 ^ (r + 1))
    have eN : N / 2 ^ (r + 1) = N / 2 ^ r / 2 := by rw [Nat.pow_succ, Nat.div_div_eq_div_mul]
    have hS : stF M w l1 (j + 1) (N / 2 ^ r) = if N / 2 ^ r % 2 = 1 then wkF M w l1 j (stF M w l1 j (N / 2 ^ (r + 1))) else rsF M w l1 j (stF M w l1 j (N / 2 ^ (r + 1))) := by rw [eN]; rfl
    have hbit : bt (rwF k N) j = decide (N / 2 ^ r % 2 = 1) := by
      rw [bt_rw k N (by omega) j (by omega), decide_eq_true (show j < k by omega), Bool.true_and, show k - 1 - j = r by omega, Nat.testBit_eq_decide_div_mod_eq]
    generalize hs : stF M w l1 j (N / 2 ^ (r + 1)) = s at *
    have hRX : RC (cjM M w j s.1 s.2) X 1 l0 l1 := RC_cj hT hw (by omega) (by omega) h4 hb.1 hb.2 hX h137
    have hcl : clk (cjM M w j s.1 s.2 1) = clk (cjM M w j s.1 s.2 1) := rfl
    refine ok_f (nI_ge (by omega) (by omega)) ?_
    rw [tst (by omega), hbit]
    have e10 : X 137 (10 + w) = s.1 := by rw [h137 (10 + w) (by omega), upd_n (by omega), upd_n (by omega), upd_s]
    have e20 : X 137 (20 + w) = s.2 := by rw [h137 (20 + w) (by omega), upd_n (by omega), upd_s]
    have e0 : X 137 0 = M 1 1 + nI j := by rw [h137 0 (by omega), upd_s]
    -- behind the hour
    have fin : ∀ (X1 : IM) (a b : Int32), fr [155, 156] X X1 → (a, b) = stF M w l1 (j + 1) (N / 2 ^ r) → Ok (f_X12_feetBy_124 (f_X12_feetBy_3 x) (nI w) (nI k) (rwF k N) (nI j) (20 + nI w) b (ms X1 137 (10 + w) a)) (fun x X1 => x = (stF M w l1 k N).1 ∧ fr [137, 155, 156] T X1 ∧ ∀ i : Nat, i < 40 → X1 137 i = T 139 i) := fun X1 a b f1 hab => by
      unfold f_X12_feetBy_124
      refine ok_wr (20 + w) (nI_add 20 w) (by omega) (by decide) (ok_rv 0 (M 1 1 + nI j) rfl (by decide) (by decide) (by rw [ms_at (by omega), ms_at (by omega), f1 137 (by decide)]; exact e0) (ok_wr 0 rfl (by decide) (by decide) (ok_lt ?_)))
      rw [nI_1]
      refine ih x (j + 1) _ (by omega) (by omega) (fr_ms (fr_ms (fr_ms (fr_tr hX (fr_sub f1 (by simp))) (by simp)) (by simp)) (by simp)) (fun i hi => ?_)
      rw [← hab, ms_ro, ms_ro, ms_ro, f1 137 (by decide), Int32.add_assoc, nI_1]
      by_cases i0 : i = 0
      · rw [i0, upd_s, upd_s]
      · rw [upd_n i0, upd_n i0]
        by_cases i2 : i = 20 + w
        · rw [i2, upd_s, upd_s]
        · rw [upd_n i2, upd_n i2]
          by_cases i1 : i = 10 + w
          · rw [i1, upd_s, upd_s]
          · rw [upd_n i1, upd_n i1, h137 i hi, upd_n i0, upd_n i2, upd_n i1]
    by_cases hc : N / 2 ^ r % 2 = 1
    · rw [decide_eq_true hc, if_pos rfl]
      refine ok_t rfl ?_
      unfold f_X12_feetBy_24
      refine ok_f (by decide) (ok_rv (10 + w) s.1 (nI_add 10 w) (by omega) (by decide) e10 (ok_c (clockNow_e hRX) (ok_cl (tireOf_m (Or.inl rfl) hRX hw) (fun r1 X1 q1 => ?_))))
      obtain ⟨rfl, f1⟩ := q1
      have ht : bnd (am (vFt M w j s.1 s.2) 10011 10 l1) 0 99 := am_bnd ⟨by decide, by decide⟩ l1
      unfold f_X12_feetBy_68
      refine ok_c (held9 _ _) ?_
      show Ok (wr X1 137 40 (10 + nI w) (if s.1 + am (vFt M w j s.1 s.2) 10011 10 l1 < 0 then 0 else if 999 < s.1 + am (vFt M w j s.1 s.2) 10011 10 l1 then 999 else s.1 + am (vFt M w j s.1 s.2) 10011 10 l1) _) _
      rw [held_up hb.1 ht]
      refine ok_wr (10 + w) (nI_add 10 w) (by omega) (by decide) (ok_f (by decide) (ok_rv (20 + w) s.2 (nI_add 20 w) (by omega) (by decide) (by rw [ms_at (by omega), f1 137 (by decide)]; exact e20) (ok_c (lesser9 _ _) (fin X1 _ _ f1 ?_))))
      rw [hS, if_pos hc]
      rfl
    · rw [decide_eq_false hc, if_neg (show ¬ (if false = true then (1 : Int32) else 0) = 1 by decide)]
      unfold f_X12_feetBy_24
      refine ok_t rfl (ok_rv (10 + w) s.1 (nI_add 10 w) (by omega) (by decide) e10 (ok_cl (easeOf_m (Or.inl rfl) hRX hw) (fun r1 X1 q1 => ?_)))
      obtain ⟨rfl, f1⟩ := q1
      have ht : bnd (am (vFt M w j s.1 s.2) 10012 5 l1) 0 99 := am_bnd ⟨by decide, by decide⟩ l1
      unfold f_X12_feetBy_68
      refine ok_c (held9 _ _) ?_
      show Ok (wr X1 137 40 (10 + nI w) (if s.1 - am (vFt M w j s.1 s.2) 10012 5 l1 < 0 then 0 else if 999 < s.1 - am (vFt M w j s.1 s.2) 10012 5 l1 then 999 else s.1 - am (vFt M w j s.1 s.2) 10012 5 l1) _) _
      rw [Int32.sub_eq_add_neg, held_dn hb.1 ht]
      refine ok_wr (10 + w) (nI_add 10 w) (by omega) (by decide) (ok_t rfl (fin X1 _ _ f1 ?_))
      rw [hS, if_neg hc]
      rfl
theorem rowOf_m {X : IM} {N : Nat} (hk : k ≤ 10) (hN : N < 2 ^ k) : f_X12_rowOf (nI N) (nI k) X = some (rwF k N, X) := by
  have h10 : 2 ^ k ≤ 2 ^ 10 := Nat.pow_le_pow_right (by decide) hk
  have loop : ∀ (r f j : Nat), j + r = k → r < f → f_X12_rowOf_5 f (nI N) (nI k) (rwF j (N / 2 ^ r)) (nI j) X = some (rwF k N, X) := by
    intro r
    induction r with
    | zero =>
      intro f j hj hf
      obtain ⟨x, rfl⟩ : ∃ x, f = x + 1 := ⟨f - 1, by omega⟩
      have hjk : j = k := by omega
      subst hjk
      show f_X12_rowOf_5_b (f_X12_rowOf_5 x) (nI N) (nI j) (rwF j (N / 2 ^ 0)) (nI j) X = _
      unfold f_X12_rowOf_5_b
      rw [if_pos (nI_le (Nat.le_refl _) (by omega)), show N / 2 ^ 0 = N by simp]
    | succ r ih =>
      intro f j hj hf
      obtain ⟨x, rfl⟩ : ∃ x, f = x + 1 := ⟨f - 1, by omega⟩
      have eN : N / 2 ^ (r + 1) = N / 2 ^ r / 2 := by rw [Nat.pow_succ, Nat.div_div_eq_div_mul]
      have h1 := ih x (j + 1) (by omega) (by omega)
      have hW : rwF (j + 1) (N / 2 ^ r) = if N / 2 ^ r % 2 = 1 then rwF j (N / 2 ^ (r + 1)) ||| ((1 : Int32) <<< (nI j &&& 31)) else rwF j (N / 2 ^ (r + 1)) := by rw [eN]; rfl
      rw [hW] at h1
      show f_X12_rowOf_5_b (f_X12_rowOf_5 x) (nI N) (nI k) (rwF j (N / 2 ^ (r + 1))) (nI j) X = _
      unfold f_X12_rowOf_5_b
      have e1 : nI k - 1 - nI j = nI r := by
        rw [show nI k - 1 = nI (k - 1) from pk_sub (b := 1) (by omega), pk_sub (by omega), show k - 1 - j = r by omega]
      rw [if_neg (nI_ge (by omega) (by omega)), e1, tst_n (by omega), Nat.testBit_eq_decide_div_mod_eq]
      simp only [lt]
      by_cases hc : N / 2 ^ r % 2 = 1
      · rw [decide_eq_true hc, if_pos rfl, if_pos rfl, nI_1]
        rwa [if_pos hc] at h1
      · rw [decide_eq_false hc, if_neg (show ¬ (if false = true then (1 : Int32) else 0) = 1 by decide), nI_1]
        rwa [if_neg hc] at h1
  have := loop k BG 0 (by omega) (by unfold BG; omega)
  have e0 : rwF 0 (N / 2 ^ k) = 0 := rfl
  rw [e0] at this
  exact this
end FITS
theorem sh_k : ∀ k : Nat, k ≤ 10 → ((1 : Int32) <<< (nI k &&& 31)) = nI (2 ^ k) := by decide
theorem st_fits (p q v x : Int32) : Stp2 Inv (f_X11_fits p q v x) (f_X12_fits p q v x) := by
  refine stp_w rfl ?_
  intro M l0 l1 hI hR
  have sam0 : ∀ D : IM, sam7 D D := fun D => ⟨D, same_rf, fun _ _ => rfl, fun _ _ => rfl⟩
  obtain ⟨n, hn, en, -, ecn⟩ := walk_n hR
  by_cases hp : p < 0 ∨ M 1 10 ≤ p
  · refine ⟨-1, ?_, fun D hs hD => ?_⟩
    · unfold f_X11_fits
      exact ok_c (wal_c p M) (ok_t (i0 hp) ok_v)
    · exact ok_c (wal_m p D) (ok_t (i0 (by rw [hD.1.2.2.2.1]; exact hp)) (ok_s ⟨rfl, sam0 D⟩))
  have hpm : ∀ D, RC M D 1 l0 l1 → ¬ (p < 0 ∨ D 136 6 ≤ p) := fun D hD => by rw [hD.1.2.2.2.1]; exact hp
  by_cases hq : q < 1 ∨ 10 < q
  · refine ⟨-1, ?_, fun D hs hD => ?_⟩
    · unfold f_X11_fits
      exact ok_c (wal_c p M) (ok_f (i1 hp) (ok_c (win_c _ _ _ M) (ok_t (i0 hq) ok_v)))
    · exact ok_c (wal_m p D) (ok_f (i1 (hpm D hD)) (ok_c (win_m _ _ _ D) (ok_t (i0 hq) (ok_s ⟨rfl, sam0 D⟩))))
  by_cases hv : v < 0 ∨ 999 < v
  · refine ⟨-1, ?_, fun D hs hD => ?_⟩
    · unfold f_X11_fits
      exact ok_c (wal_c p M) (ok_f (i1 hp) (ok_c (win_c _ _ _ M) (ok_f (i1 hq) (ok_c (win_c _ _ _ M) (ok_t (i0 hv) ok_v)))))
    · exact ok_c (wal_m p D) (ok_f (i1 (hpm D hD)) (ok_c (win_m _ _ _ D) (ok_f (i1 hq) (ok_c (win_m _ _ _ D) (ok_t (i0 hv) (ok_s ⟨rfl, sam0 D⟩))))))
  by_cases hx : x < 0 ∨ 1 < x
  · refine ⟨-1, ?_, fun D hs hD => ?_⟩
    · unfold f_X11_fits
      exact ok_c (wal_c p M) (ok_f (i1 hp) (ok_c (win_c _ _ _ M) (ok_f (i1 hq) (ok_c (win_c _ _ _ M) (ok_f (i1 hv) (ok_c (win_c _ _ _ M) (ok_t (i0 hx) ok_v)))))))
    · exact ok_c (wal_m p D) (ok_f (i1 (hpm D hD)) (ok_c (win_m _ _ _ D) (ok_f (i1 hq) (ok_c (win_m _ _ _ D) (ok_f (i1 hv) (ok_c (win_m _ _ _ D) (ok_t (i0 hx) (ok_s ⟨rfl, sam0 D⟩))))))))
  obtain ⟨w, hw, ew⟩ := in_wal (p := p) (w := n) (by omega) (by rw [← en]; exact hp)
  have hb : bnd q 1 10 := bnd_of hq (by decide) (by decide)
  obtain ⟨k, hk, ek⟩ := bnd_nI (x := q) (n := 10) ⟨by have := hb.1; omega, hb.2⟩ (by decide)
  have h10 : 2 ^ k ≤ 2 ^ 10 := Nat.pow_le_pow_right (by decide) hk
  obtain ⟨o1, o2, -⟩ := hI.1.2.1
  refine ⟨if x = 0 then (foF M w l1 v k 0 (0, -1) (2 ^ k)).1 else (foF M w l1 v k 0 (0, -1) (2 ^ k)).2, ?_, fun D hs hD => ?_⟩
  · unfold f_X11_fits
    refine ok_c (wal_c p M) (ok_f (i1 hp) (ok_c (win_c _ _ _ M) (ok_f (i1 hq) (ok_c (win_c _ _ _ M) (ok_f (i1 hv) (ok_c (win_c _ _ _ M) (ok_f (i1 hx) ?_)))))))
    rw [ew, ek]
    obtain ⟨r, X1, e1, f1, y1, y2⟩ := fits_c (v := v) (l0 := l0) (l1 := l1) (w := w) (k := k) hR (by omega) hk
    -- the same run, with the answer behind it
    obtain ⟨r2, X2, m1, m2, m3⟩ := meet_r (Or.inl rfl) hR (show w < 10 by omega)
    rw [cl_s m1] at e1 ⊢
    rw [rdK (j := w) (n := 10) rfl (by omega) (by decide), rdK (j := w) (n := 10) rfl (by omega) (by decide)] at e1 ⊢
    rw [cl_s e1, y1, y2]
    exact ok_if (fun h => ok_s ⟨by rw [if_pos h], same_fr f1 (by decide)⟩) (fun h => ok_s ⟨by rw [if_neg h], same_fr f1 (by decide)⟩)
  · obtain ⟨T, t1, t2, t3, t4⟩ := thinks_m D
    have tr : ∀ z : Nat, ¬ z = 139 → ¬ z = 136 → T z = D z := fun z h1 h2 => funext fun i => t4 z i (by simpa using h1) (by simp [h2])
    have t136 : ∀ i : Nat, ¬ i = 5 → T 136 i = D 136 i := fun i hi => t4 136 i (by decide) (by simp [hi])
    have hT : RC M T 1 l0 l1 := RC_mk (Or.inl rfl) hD (fun _ _ _ => rfl) (fun i hi => t136 i (fun e => by subst e; revert hi; decide)) (fun z hz => tr z (by omega) (by omega)) rfl (fun _ _ => rfl) (by rw [tr 137 (by decide) (by decide)]; exact hD.1.1) hD.1.2.1 hD.1.2.2.1
    refine ok_c (wal_m p D) (ok_f (i1 (hpm D hD)) (ok_c (win_m _ _ _ D) (ok_f (i1 hq) (ok_c (win_m _ _ _ D) (ok_f (i1 hv) (ok_c (win_m _ _ _ D) (ok_f (i1 hx) (ok_c t1 ?_))))))))
    rw [ew, ek]
    -- all rows, one behind the other
    have loop : ∀ (r f N : Nat) (X : IM), N + r = 2 ^ k → r < f → fr [137, 155, 156] T X → (∀ i : Nat, i < 40 → X 137 i = T 139 i) → (∃ c : Nat, c ≤ N ∧ (foF M w l1 v k 0 (0, -1) N).1 = nI c ∧ (c = 0 ↔ (foF M w l1 v k 0 (0, -1) N).2 = -1)) → Ok (f_X12_fits_62 f (nI w) (nI k) v x (foF M w l1 v k 0 (0, -1) N).1 (foF M w l1 v k 0 (0, -1) N).2 (nI N) X) (fun y M2 => y = (if x = 0 then (foF M w l1 v k 0 (0, -1) (2 ^ k)).1 else (foF M w l1 v k 0 (0, -1) (2 ^ k)).2) ∧ sam7 D M2) := by
      intro r
      induction r with
      | zero =>
        intro f N X hN hf hX h137 hc
        obtain ⟨z, rfl⟩ : ∃ z, f = z + 1 := ⟨f - 1, by omega⟩
        have hNk : N = 2 ^ k := by omega
        subst hNk
        show Ok (f_X12_fits_62_b (f_X12_fits_62 z) (nI w) (nI k) v x _ _ (nI (2 ^ k)) X) _
        unfold f_X12_fits_62_b
        rw [sh_k k hk]
        obtain ⟨Z, z1, z2⟩ := ends_m (D := D) (X := X) (by rw [hs.2.1 5 (by decide)]; exact hI.2.2.2.2.2.1.2.2) (fun i hi => by rw [hX 139 (by decide), t2 i hi]) (fun z h1 h2 h3 => by
          have hz : ¬ z = 139 ∧ ¬ z = 155 ∧ ¬ z = 156 := ⟨fun e => by subst e; exact h3 (by decide), fun e => by subst e; exact h3 (by decide), fun e => by subst e; exact h3 (by decide)⟩
          rw [hX z (by simp; omega), tr z hz.1 h1]) (fun i hi => by rw [hX 136 (by decide), t136 i hi])
        exact ok_t (nI_le (Nat.le_refl _) (by omega)) (ok_c z1 (ok_if (fun h => ok_s ⟨by rw [if_pos h], z2⟩) (fun h => ok_s ⟨by rw [if_neg h], z2⟩)))
      | succ r ih =>
        intro f N X hN hf hX h137 hc
        obtain ⟨z, rfl⟩ : ∃ z, f = z + 1 := ⟨f - 1, by omega⟩
        obtain ⟨c, hcN, ec, hc0⟩ := hc
        show Ok (f_X12_fits_62_b (f_X12_fits_62 z) (nI w) (nI k) v x _ _ (nI N) X) _
        unfold f_X12_fits_62_b
        rw [sh_k k hk]
        have e137 : ∀ i : Nat, i < 40 → X 137 i = T 137 i := fun i hi => by rw [h137 i hi, t2 i hi, tr 137 (by decide) (by decide)]
        have hfb := feetBy_m (M := M) (T := T) (l0 := l0) (l1 := l1) (w := w) (k := k) (N := N) hR hT (by omega) hk (by have := o1.2; omega) o2 k BG 0 X (by omega) (by unfold BG; omega) hX (fun i hi => by
          obtain ⟨a1, a2, -⟩ := hT.1.1.2.2.2.2.2.2.2.2.2.2 w (by omega)
          have a0 : T 137 0 = M 1 1 := hT.1.1.1
          show X 137 i = upd (upd (upd (T 137) (10 + w) (M 4 w)) (20 + w) (M 5 w)) 0 (M 1 1 + nI 0) i
          rw [e137 i hi, show M 1 1 + nI 0 = M 1 1 by rw [nI_0, Int32.add_zero]]
          by_cases i0 : i = 0
          · rw [i0, upd_s]; exact a0
          · rw [upd_n i0]
            by_cases i2 : i = 20 + w
            · rw [i2, upd_s]; exact a2
            · rw [upd_n i2]
              by_cases i1 : i = 10 + w
              · rw [i1, upd_s]; exact a1
              · rw [upd_n i1])
        have ef : foF M w l1 v k 0 (0, -1) (N + 1) = lfF v (stF M w l1 k N).1 (rwF k N) (foF M w l1 v k 0 (0, -1) N) := by
          show lfF v (stF M w l1 k (0 + N)).1 (rwF k (0 + N)) _ = _
          rw [Nat.zero_add]
        refine ok_f (nI_ge (by omega) (by omega)) (ok_c (rowOf_m hk (by omega)) (ok_cl (show Ok (f_X12_feetBy (nI w) (nI k) (rwF k N) X) _ from hfb) (fun y X1 q1 => ?_)))
        obtain ⟨rfl, f1, g1⟩ := q1
        have hnx := ih z (N + 1) X1 (by omega) (by omega) f1 g1
        rw [ef] at hnx
        unfold lfF at hnx
        by_cases hv2 : (stF M w l1 k N).1 = v
        · rw [if_pos hv2] at hnx
          refine ok_t hv2 ?_
          have nx := hnx ⟨c + 1, by omega, by rw [ec]; exact nI_1 c, by
            constructor
            · intro z; omega
            · intro z
              exfalso
              by_cases h2 : (foF M w l1 v k 0 (0, -1) N).2 = -1
              · rw [if_pos h2] at z
                exact rw_ne hk z
              · rw [if_neg h2] at z
                exact h2 z⟩
          by_cases hz : c = 0
          · have h2 := hc0.mp hz
            rw [if_pos h2] at nx
            refine ok_t (by rw [ec, hz]; rfl) (ok_c (rowOf_m hk (by omega)) ?_)
            unfold f_X12_fits_104
            refine ok_lt (ok_lt ?_)
            rw [nI_1]
            exact nx
          · have h2 : ¬ (foF M w l1 v k 0 (0, -1) N).2 = -1 := fun z => hz (hc0.mpr z)
            rw [if_neg h2] at nx
            refine ok_f (by rw [ec]; exact nI_ne0 (by omega) (by omega)) ?_
            unfold f_X12_fits_104
            refine ok_lt (ok_lt ?_)
            rw [nI_1]
            exact nx
        · rw [if_neg hv2] at hnx
          refine ok_f hv2 (ok_lt ?_)
          rw [nI_1]
          exact hnx ⟨c, by omega, ec, hc0⟩
    exact loop (2 ^ k) BG 0 T (by omega) (by unfold BG; omega) fr_rf (fun i hi => by rw [t2 i hi, tr 137 (by decide) (by decide)]) ⟨0, by omega, rfl, by simp [foF]⟩
