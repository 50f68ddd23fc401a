/-! the least of the smallest sets of lines -/
theorem hdB_iff {wa ck : Nat → Int32} {p : Nat → Bool} {w c : Nat} : ∀ {k : Nat}, hdB wa ck p w c k = true ↔ ∃ i : Nat, i < k ∧ p i = true ∧ wa i = nI w ∧ bt (ck i) c = true
  | 0 => ⟨fun h => (by cases h), fun ⟨i, h, _⟩ => (by omega)⟩
  | k + 1 => by
    have ih := hdB_iff (wa := wa) (ck := ck) (p := p) (w := w) (c := c) (k := k)
    show (hdB wa ck p w c k || (p k && (decide (wa k = nI w) && bt (ck k) c))) = true ↔ _
    rw [fuse, ih, Bool.and_eq_true, Bool.and_eq_true, decide_eq_true_iff]
    constructor
    · rintro (⟨i, h1, h2⟩ | h)
      · exact ⟨i, by omega, h2⟩
      · exact ⟨k, by omega, h⟩
    · rintro ⟨i, h1, h2⟩
      by_cases e : i = k
      · subst e; exact Or.inr h2
      · exact Or.inl ⟨i, by omega, h2⟩
theorem sm_le2 {a b : Nat → Nat} : ∀ {m : Nat}, (∀ c : Nat, c < m → a c ≤ b c) → sm a m ≤ sm b m
  | 0, _ => Nat.le_refl _
  | m + 1, h => by
    have ih := sm_le2 (a := a) (b := b) (m := m) (fun c hc => h c (by omega))
    have := h m (by omega)
    show sm a m + a m ≤ sm b m + b m
    omega
theorem sm_ct {a b : Nat → Nat} {p : Nat → Bool} : ∀ {m : Nat}, (∀ c : Nat, c < m → a c ≤ b c + if p c = true then 1 else 0) → sm a m ≤ sm b m + ctB p m
  | 0, _ => Nat.le_refl _
  | m + 1, h => by
    have ih := sm_ct (a := a) (b := b) (p := p) (m := m) (fun c hc => h c (by omega))
    have := h m (by omega)
    show sm a m + a m ≤ sm b m + b m + (if p m = true then ctB p m + 1 else ctB p m)
    by_cases q : p m = true
    · rw [if_pos q] at this ⊢; omega
    · rw [if_neg q] at this ⊢; omega
section LKN
variable {wa ck : Nat → Int32} {n L : Nat} {p q : Nat → Bool}
theorem lk_mono (h : ∀ i : Nat, i < n → p i = true → q i = true) : lkN wa ck q n L ≤ lkN wa ck p n L := by
  refine sm_le2 (fun c _ => ?_)
  have : cnB wa ck p n c 10 ≤ cnB wa ck q n c 10 := ctB_imp (fun w _ hw => by
    obtain ⟨i, h1, h2, h3⟩ := hdB_iff.mp hw
    exact hdB_iff.mpr ⟨i, h1, h i h1 h2, h3⟩)
  omega
theorem lk_step {j u : Nat} (hu : wa j = nI u) (hu2 : u < 2 ^ 31) (h : ∀ i : Nat, i < n → q i = true → p i = true ∨ i = j) : lkN wa ck p n L ≤ lkN wa ck q n L + ctB (fun c => bt (ck j) c) 24 := by
  refine sm_ct (fun c _ => ?_)
  have key : cnB wa ck q n c 10 ≤ cnB wa ck p n c 10 + if bt (ck j) c = true then 1 else 0 := by
    by_cases hb : bt (ck j) c = true
    · rw [if_pos hb]
      refine ctB_one (j := u) (fun w hw10 hw => ?_)
      obtain ⟨i, h1, h2, h3, h4⟩ := hdB_iff.mp hw
      rcases h i h1 h2 with z | z
      · exact Or.inl (hdB_iff.mpr ⟨i, h1, z, h3, h4⟩)
      · subst z
        rw [hu] at h3
        exact Or.inr ((nI_eq hu2 (by omega)).mp h3).symm
    · rw [if_neg hb, Nat.add_zero]
      refine ctB_imp (fun w _ hw => ?_)
      obtain ⟨i, h1, h2, h3, h4⟩ := hdB_iff.mp hw
      rcases h i h1 h2 with z | z
      · exact hdB_iff.mpr ⟨i, h1, z, h3, h4⟩
      · subst z; exact absurd h4 hb
  omega
/-- each line more takes its own clocks from what is missing -/
theorem lk_chain {G : Nat} (hu : ∀ i : Nat, i < n → ∃ u : Nat, u < 10 ∧ wa i = nI u) : ∀ (m : Nat) (p : Nat → Bool), m ≤ n → (∀ i : Nat, i < m → ctB (fun c => bt (ck i) c) 24 ≤ G) → (∀ i : Nat, i < n → m ≤ i → q i = true → p i = true) → lkN wa ck p n L ≤ lkN wa ck q n L + ctB q m * G
  | 0, p, _, _, h => by
    have : lkN wa ck p n L ≤ lkN wa ck q n L := lk_mono (fun i hi => h i hi (Nat.zero_le _))
    omega
  | m + 1, p, hm, hG, h => by
    have ih := lk_chain (G := G) hu m (fun i => p i || (decide (i = m) && q m)) (by omega) (fun i hi => hG i (by omega)) (fun i hi him hq => by
      show (p i || (decide (i = m) && q m)) = true
      by_cases e : i = m
      · subst e; rw [hq]; simp
      · rw [h i hi (by omega) hq]; simp)
    by_cases hq : q m = true
    · obtain ⟨u, hu1, hu2⟩ := hu m (by omega)
      have hs : lkN wa ck p n L ≤ lkN wa ck (fun i => p i || (decide (i = m) && q m)) n L + ctB (fun c => bt (ck m) c) 24 := lk_step hu2 (by omega) (fun i _ hi => by
        simp only [fuse, Bool.and_eq_true, decide_eq_true_iff] at hi
        rcases hi with z | z
        · exact Or.inl z
        · exact Or.inr z.1)
      have := hG m (by omega)
      rw [ctB_s hq, Nat.add_mul, Nat.one_mul]
      omega
    · have hs : lkN wa ck p n L ≤ lkN wa ck (fun i => p i || (decide (i = m) && q m)) n L := lk_mono (fun i _ hi => by
        simp only [fuse, Bool.and_eq_true, decide_eq_true_iff] at hi
        rcases hi with z | z
        · exact z
        · exact absurd z.2 hq)
      rw [ctB_n hq]
      omega
theorem lk_le : lkN wa ck p n L ≤ 24 * L := by
  have : ∀ m : Nat, sm (fun c => L - cnB wa ck p n c 10) m ≤ m * L := by
    intro m
    induction m with
    | zero => simp [sm]
    | succ m ih =>
      show sm (fun c => L - cnB wa ck p n c 10) m + (L - cnB wa ck p n m 10) ≤ (m + 1) * L
      rw [Nat.add_mul]
      omega
  exact this 24
theorem lk_empty (h : ∀ i : Nat, i < n → p i = false) : lkN wa ck p n L = 24 * L := by
  have hz : ∀ c : Nat, cnB wa ck p n c 10 = 0 := fun c => by
    have : ∀ k : Nat, ctB (fun w => hdB wa ck p w c n) k = 0 := by
      intro k
      induction k with
      | zero => rfl
      | succ k ih =>
        rw [ctB_n, ih]
        intro hh
        obtain ⟨i, h1, h2, -⟩ := hdB_iff.mp hh
        rw [h i h1] at h2
        cases h2
    exact this 10
  have : ∀ m : Nat, sm (fun c => L - cnB wa ck p n c 10) m = m * L := by
    intro m
    induction m with
    | zero => simp [sm]
    | succ m ih =>
      show sm (fun c => L - cnB wa ck p n c 10) m + (L - cnB wa ck p n m 10) = (m + 1) * L
      rw [ih, hz, Nat.add_mul]
      omega
  exact this 24
end LKN
theorem tb_div {S T m : Nat} (h : S / 2 ^ m = T / 2 ^ m) {i : Nat} (hi : m ≤ i) : S.testBit i = T.testBit i := by
  have h1 : (S / 2 ^ m).testBit (i - m) = S.testBit (i - m + m) := Nat.testBit_div_two_pow S (i - m)
  have h2 : (T / 2 ^ m).testBit (i - m) = T.testBit (i - m + m) := Nat.testBit_div_two_pow T (i - m)
  rw [show i - m + m = i by omega] at h1 h2
  rw [← h1, ← h2, h]
theorem tb_mod {S m : Nat} (h : S % 2 ^ m = 0) {i : Nat} (hi : i < m) : S.testBit i = false := by
  have := Nat.testBit_mod_two_pow S m i
  rw [h, Nat.zero_testBit, decide_eq_true hi, Bool.true_and] at this
  exact this.symm
/-- how many ones, of the first n -/
def onN (n S : Nat) : Nat := ctB (fun i => S.testBit i) n
theorem on_agree {S T m : Nat} : ∀ k : Nat, (∀ i : Nat, m ≤ i → i < m + k → S.testBit i = T.testBit i) → onN (m + k) S + onN m T = onN (m + k) T + onN m S
  | 0, _ => by
    show onN m S + onN m T = onN m T + onN m S
    omega
  | k + 1, h => by
    have ih := on_agree k (fun i h1 h2 => h i h1 (by omega))
    have e := h (m + k) (by omega) (by omega)
    show (if S.testBit (m + k) = true then onN (m + k) S + 1 else onN (m + k) S) + onN m T = (if T.testBit (m + k) = true then onN (m + k) T + 1 else onN (m + k) T) + onN m S
    rw [e]
    split <;> omega
section LEAST
variable {C : IM} {n L many : Nat}
def Cand (C : IM) (n L many m set S : Nat) : Prop := S / 2 ^ m = set / 2 ^ m ∧ S < 2 ^ n ∧ lkN (C 26) (C 27) (fun i => S.testBit i) n L = 0 ∧ onN n S = many
def Rs (r : Int32) (P : Nat → Prop) : Prop := (r = -1 ∧ ∀ S, ¬ P S) ∨ ∃ S : Nat, r = nI S ∧ P S ∧ ∀ T, P T → S ≤ T
def mxG (ck : Nat → Int32) : Nat → Nat
  | 0 => 0
  | i + 1 => if mxG ck i < ctB (fun c => bt (ck i) c) 24 then ctB (fun c => bt (ck i) c) 24 else mxG ck i
theorem mxG_ge {ck : Nat → Int32} : ∀ {m i : Nat}, i < m → ctB (fun c => bt (ck i) c) 24 ≤ mxG ck m
  | m + 1, i, h => by
    show _ ≤ (if mxG ck m < ctB (fun c => bt (ck m) c) 24 then ctB (fun c => bt (ck m) c) 24 else mxG ck m)
    by_cases e : i = m
    · subst e; split <;> omega
    · have := mxG_ge (ck := ck) (m := m) (i := i) (by omega)
      split <;> omega
theorem mxG_le {ck : Nat → Int32} : ∀ m : Nat, mxG ck m ≤ 24
  | 0 => (by decide : 0 ≤ 24)
  | m + 1 => by
    have := mxG_le (ck := ck) m
    have := ctB_le (p := fun c => bt (ck m) c) 24
    show (if mxG ck m < ctB (fun c => bt (ck m) c) 24 then ctB (fun c => bt (ck m) c) 24 else mxG ck m) ≤ 24
    split <;> omega
theorem longest_c {X : IM} {m : Nat} (h : LnOk C n) (hm : m ≤ n) (hX : fr [28, 29] C X) : f_X8_longest 25 (nI m - 1) X = some (nI (mxG (C 27) m), X) := by
  obtain ⟨hn, en, hl⟩ := id h
  have loop : ∀ f i : Nat, i ≤ m → m - i < f → f_X8_longest_4 25 f (nI m - 1) (nI (mxG (C 27) i)) (nI i) X = some (nI (mxG (C 27) m), X) := by
    intro f
    induction f with
    | zero => intro i _ h; omega
    | succ f ih =>
      intro i hi hf
      show f_X8_longest_4_b 25 (f_X8_longest_4 25 f) _ _ _ X = _
      unfold f_X8_longest_4_b
      have hc : nI m - 1 < nI i ↔ m ≤ i := by
        rw [Int32.lt_iff_toInt_lt, sub1 (by omega), nI_toInt (by omega)]
        omega
      by_cases e : i = m
      · subst e; rw [if_pos (hc.mpr (Nat.le_refl _))]
      · have hb := bc_bt (x := C 27 i) (fun c h1 h2 => (hl i (by omega)).2 c h1 h2)
        have em : f_J9_max_7cf53 (nI (mxG (C 27) i)) (nI (ctB (fun c => bt (C 27 i) c) 24)) X = some (nI (mxG (C 27) (i + 1)), X) := by
          have h1 := mxG_le (ck := C 27) i
          show _ = some (nI (if mxG (C 27) i < ctB (fun c => bt (C 27 i) c) 24 then ctB (fun c => bt (C 27 i) c) 24 else mxG (C 27) i), X)
          unfold f_J9_max_7cf53
          by_cases q : mxG (C 27) i < ctB (fun c => bt (C 27 i) c) 24
          · rw [if_pos q, if_pos (nI_lt q (by omega))]
          · rw [if_neg q, if_neg (nI_nlt (by omega) (by omega))]
        have e2 : X (25 + 2) i = C 27 i := by rw [show (25 + 2 : Nat) = 27 from rfl, hX 27 (by decide)]
        rw [if_neg (fun z => by have := hc.mp z; omega), rdK (j := i) rfl (by omega) (by decide), e2, cl_s (bitCount_e _ _), hb.1, cl_s em]
        simp only [lt]
        rw [nI_1]
        exact ih (i + 1) (by omega) (by omega)
  exact loop BG 0 (by omega) (by unfold BG; omega)
theorem cand_on {m set S left : Nat} (hm : m ≤ n) (hs : set % 2 ^ m = 0) (hl : onN n set + left = many) (h : Cand C n L many m set S) : onN m S = left := by
  have e := on_agree (S := S) (T := set) (m := m) (n - m) (fun i h1 _ => tb_div h.1 h1)
  rw [show m + (n - m) = n by omega, h.2.2.2] at e
  have z : onN m set = 0 := by
    have : ∀ k : Nat, k ≤ m → onN k set = 0 := by
      intro k
      induction k with
      | zero => intro _; rfl
      | succ k ih =>
        intro hk
        show (if set.testBit k = true then onN k set + 1 else onN k set) = 0
        rw [tb_mod hs (by omega), if_neg (by decide), ih (by omega)]
    exact this m (Nat.le_refl _)
  omega
theorem on_set {m set : Nat} (hm : m < n) (hs : set % 2 ^ (m + 1) = 0) : onN n (set + 2 ^ m) = onN n set + 1 ∧ set ||| 2 ^ m = set + 2 ^ m := by
  have hd : set = 2 ^ (m + 1) * (set / 2 ^ (m + 1)) := by
    have := Nat.div_add_mod set (2 ^ (m + 1))
    omega
  have hlt : 2 ^ m < 2 ^ (m + 1) := Nat.pow_lt_pow_right (by decide) (by omega)
  have tb : ∀ i : Nat, (set + 2 ^ m).testBit i = (set.testBit i || decide (i = m)) := fun i => by
    have e1 := Nat.testBit_two_pow_mul_add (set / 2 ^ (m + 1)) hlt i
    rw [← hd] at e1
    rw [e1, Nat.testBit_two_pow]
    by_cases q : i < m + 1
    · rw [if_pos q, tb_mod hs q, Bool.false_or]
      apply decide_eq_decide.mpr
      omega
    · rw [if_neg q, decide_eq_false (show ¬ i = m by omega), Bool.or_false]
      have : (set / 2 ^ (m + 1)).testBit (i - (m + 1)) = set.testBit (i - (m + 1) + (m + 1)) := Nat.testBit_div_two_pow set (i - (m + 1))
      rw [show i - (m + 1) + (m + 1) = i by omega] at this
      exact this
  refine ⟨?_, ?_⟩
  · have : ∀ k : Nat, onN k (set + 2 ^ m) = onN k set + if m < k then 1 else 0 := by
      intro k
      induction k with
      | zero => rfl
      | succ k ih =>
        show (if (set + 2 ^ m).testBit k = true then onN k (set + 2 ^ m) + 1 else onN k (set + 2 ^ m)) = (if set.testBit k = true then onN k set + 1 else onN k set) + _
        rw [tb k, ih]
        by_cases q : k = m
        · subst q
          rw [tb_mod hs (by omega)]
          simp
        · by_cases z : set.testBit k = true
          · by_cases y : m < k
            · have : m < k + 1 := by omega
              simp [z, y, this]
            · have : ¬ m < k + 1 := by omega
              simp [z, y, this]
          · by_cases y : m < k
            · have : m < k + 1 := by omega
              simp [z, y, this, q]
            · have : ¬ m < k + 1 := by omega
              simp [z, y, this, q]
    rw [this n, if_pos hm]
  · apply Nat.eq_of_testBit_eq
    intro i
    rw [Nat.testBit_or, tb i, Nat.testBit_two_pow]
    congr 1
    apply decide_eq_decide.mpr
    omega
theorem nx_or (a b : Nat) : nI a ||| nI b = nI (a ||| b) := by
  apply Int32.toBitVec_inj.1
  show BitVec.ofNat 32 a ||| BitVec.ofNat 32 b = BitVec.ofNat 32 (a ||| b)
  apply BitVec.eq_of_getLsbD_eq
  intro i hi
  simp [hi]
theorem sh_16 : ∀ k : Nat, k ≤ 16 → ((1 : Int32) <<< (nI k &&& 31)) = nI (2 ^ k) := by decide
theorem least_c (h : LnOk C n) (hL : L ≤ 10) (hfew : ∀ S : Nat, S < 2 ^ n → lkN (C 26) (C 27) (fun i => S.testBit i) n L = 0 → many ≤ onN n S) (hmany : many ≤ 16) : ∀ (m f set left : Nat) (X : IM), m < f → m ≤ n → set % 2 ^ m = 0 → set < 2 ^ n → onN n set + left = many → fr [28, 29] C X → Ok (fr_X8_leastSet f 25 (nI m - 1) (nI left) (nI set) (nI L) (nI (lkN (C 26) (C 27) (fun i => set.testBit i) n L)) X) (fun r X1 => Rs r (Cand C n L many m set) ∧ fr [28, 29] C X1) := by
  obtain ⟨hn, en, hl⟩ := id h
  have hp16 : 2 ^ n ≤ 2 ^ 16 := Nat.pow_le_pow_right (by decide) hn
  have lkb : ∀ p : Nat → Bool, lkN (C 26) (C 27) p n L ≤ 240 := fun p => by have := lk_le (wa := C 26) (ck := C 27) (p := p) (n := n) (L := L); omega
  intro m
  induction m with
  | zero =>
    intro f set left X hf hm hs hlt hon hX
    obtain ⟨x, rfl⟩ : ∃ x, f = x + 1 := ⟨f - 1, by omega⟩
    show Ok (f_X8_leastSet_e 25 (fr_X8_leastSet x) (nI 0 - 1) (nI left) (nI set) (nI L) _ X) _
    unfold f_X8_leastSet_e
    have hlk := lkb (fun i => set.testBit i)
    by_cases h0 : lkN (C 26) (C 27) (fun i => set.testBit i) n L = 0
    · rw [h0]
      have := hfew set hlt h0
      exact ok_t rfl (ok_s ⟨Or.inr ⟨set, rfl, ⟨rfl, hlt, h0, by omega⟩, fun T hT => by have := hT.1; simp at this; omega⟩, hX⟩)
    · refine ok_f (nI_ne0 (by omega) (by omega)) ?_
      have none : ∀ S, ¬ Cand C n L many 0 set S := fun S hS => by
        have : S = set := by have := hS.1; simpa using this
        subst this
        exact h0 hS.2.2.1
      by_cases hleft : left = 0
      · rw [hleft]
        exact ok_t (by decide) (ok_s ⟨Or.inl ⟨rfl, none⟩, hX⟩)
      · refine ok_f (nI_nle (by omega) (by omega)) ?_
        rw [show nI 0 - 1 + 1 = nI 0 by decide]
        exact ok_t (nI_lt (by omega) (by omega)) (ok_s ⟨Or.inl ⟨rfl, none⟩, hX⟩)
  | succ m ih =>
    intro f set left X hf hm hs hlt hon hX
    obtain ⟨x, rfl⟩ : ∃ x, f = x + 1 := ⟨f - 1, by omega⟩
    show Ok (f_X8_leastSet_e 25 (fr_X8_leastSet x) (nI (m + 1) - 1) (nI left) (nI set) (nI L) _ X) _
    unfold f_X8_leastSet_e
    have hlk := lkb (fun i => set.testBit i)
    have hp1 : 2 ^ (m + 1) = 2 * 2 ^ m := by rw [Nat.pow_succ]; omega
    have hpos := Nat.two_pow_pos m
    have hset : set = 2 ^ (m + 1) * (set / 2 ^ (m + 1)) := by
      have := Nat.div_add_mod set (2 ^ (m + 1))
      omega
    by_cases h0 : lkN (C 26) (C 27) (fun i => set.testBit i) n L = 0
    · rw [h0]
      have := hfew set hlt h0
      refine ok_t rfl (ok_s ⟨Or.inr ⟨set, rfl, ⟨rfl, hlt, h0, by omega⟩, fun T hT => ?_⟩, hX⟩)
      have h1 := Nat.mul_div_le T (2 ^ (m + 1))
      rw [hT.1] at h1
      omega
    refine ok_f (nI_ne0 (by omega) (by omega)) ?_
    have hon2 : ∀ S, Cand C n L many (m + 1) set S → onN (m + 1) S = left := fun S hS => cand_on hm hs hon hS
    by_cases hleft : left = 0
    · rw [hleft]
      refine ok_t (by decide) (ok_s ⟨Or.inl ⟨rfl, fun S hS => ?_⟩, hX⟩)
      have hc := lk_chain (wa := C 26) (ck := C 27) (n := n) (L := L) (q := fun i => S.testBit i) (G := mxG (C 27) (m + 1)) (fun i hi => (hl i hi).1) (m + 1) (fun i => set.testBit i) hm (fun i hi => mxG_ge hi) (fun i hi him hq => by rw [← tb_div hS.1 him]; exact hq)
      have e : ctB (fun i => S.testBit i) (m + 1) = 0 := by have := hon2 S hS; rw [hleft] at this; exact this
      rw [hS.2.2.1, e] at hc
      omega
    refine ok_f (nI_nle (by omega) (by omega)) ?_
    rw [nI_pred, nI_1]
    by_cases hbig : m + 1 < left
    · refine ok_t (nI_lt hbig (by omega)) (ok_s ⟨Or.inl ⟨rfl, fun S hS => ?_⟩, hX⟩)
      have h1 := hon2 S hS
      have h2 := ctB_le (p := fun i => S.testBit i) (m + 1)
      unfold onN at h1
      omega
    refine ok_f (nI_nlt (by omega) (by omega)) ?_
    have elong := longest_c (X := X) (m := m + 1) h hm hX
    rw [nI_pred] at elong
    refine ok_c elong ?_
    have hG := mxG_le (ck := C 27) (m + 1)
    have hmul : left * mxG (C 27) (m + 1) ≤ 16 * 24 := Nat.mul_le_mul (by omega) hG
    rw [pk_mul]
    by_cases hpr : lkN (C 26) (C 27) (fun i => set.testBit i) n L ≤ left * mxG (C 27) (m + 1)
    case neg =>
      refine ok_f (nI_ge (by omega) (by omega)) (ok_s ⟨Or.inl ⟨rfl, fun S hS => ?_⟩, hX⟩)
      have hc := lk_chain (wa := C 26) (ck := C 27) (n := n) (L := L) (q := fun i => S.testBit i) (G := mxG (C 27) (m + 1)) (fun i hi => (hl i hi).1) (m + 1) (fun i => set.testBit i) hm (fun i hi => mxG_ge hi) (fun i hi him hq => by rw [← tb_div hS.1 him]; exact hq)
      have e : ctB (fun i => S.testBit i) (m + 1) = left := hon2 S hS
      rw [hS.2.2.1, e] at hc
      omega
    refine ok_t (nI_le hpr (by omega)) (ok_lt ?_)
    rw [sh_16 m (by omega), show nI (2 ^ m) - 1 = nI (2 ^ m - 1) from pk_sub (b := 1) hpos, nx_or]
    have hLX : LnOk X n := by
      unfold LnOk
      rw [hX 25 (by decide), hX 26 (by decide), hX 27 (by decide)]
      exact h
    have hs1 : set % 2 ^ m = 0 := by
      rw [hset, hp1, Nat.mul_assoc, Nat.mul_left_comm]
      exact Nat.mul_mod_right _ _
    have ediv : set / 2 ^ m = 2 * (set / 2 ^ (m + 1)) := by
      have e : set = 2 ^ m * (2 * (set / 2 ^ (m + 1))) := by rw [← Nat.mul_assoc, Nat.mul_comm (2 ^ m) 2, ← hp1]; exact hset
      exact (congrArg (· / 2 ^ m) e).trans (Nat.mul_div_cancel_left _ hpos)
    obtain ⟨ho1, ho2⟩ := on_set (n := n) (m := m) (set := set) (by omega) hs
    have ediv2 : (set + 2 ^ m) / 2 ^ m = 2 * (set / 2 ^ (m + 1)) + 1 := by rw [Nat.add_div_right _ hpos, ediv]
    have hs2 : (set + 2 ^ m) % 2 ^ m = 0 := by rw [Nat.add_mod_right]; exact hs1
    have hlt2 : set + 2 ^ m < 2 ^ n := by
      have hpn : 2 ^ n = 2 ^ (m + 1) * 2 ^ (n - (m + 1)) := by rw [← Nat.pow_add]; congr 1; omega
      have hq : set / 2 ^ (m + 1) < 2 ^ (n - (m + 1)) := by
        apply Nat.div_lt_of_lt_mul
        rw [← hpn]
        exact hlt
      have : 2 ^ (m + 1) * (set / 2 ^ (m + 1) + 1) ≤ 2 ^ (m + 1) * 2 ^ (n - (m + 1)) := Nat.mul_le_mul_left _ hq
      rw [Nat.mul_add, Nat.mul_one, ← hset, ← hpn] at this
      omega
    -- a candidate takes the line m, or doesn't
    have two : ∀ S, Cand C n L many (m + 1) set S ↔ (Cand C n L many m set S ∨ Cand C n L many m (set + 2 ^ m) S) := fun S => by
      have e1 : S / 2 ^ (m + 1) = S / 2 ^ m / 2 := by rw [hp1, Nat.mul_comm, Nat.div_div_eq_div_mul]
      constructor
      · rintro ⟨c1, c2⟩
        rw [e1] at c1
        have : S / 2 ^ m = 2 * (set / 2 ^ (m + 1)) ∨ S / 2 ^ m = 2 * (set / 2 ^ (m + 1)) + 1 := by omega
        rcases this with z | z
        · exact Or.inl ⟨by rw [z, ediv], c2⟩
        · exact Or.inr ⟨by rw [z, ediv2], c2⟩
      · rintro (⟨c1, c2⟩ | ⟨c1, c2⟩)
        · refine ⟨?_, c2⟩
          rw [e1, c1, ediv]
          omega
        · refine ⟨?_, c2⟩
          rw [e1, c1, ediv2]
          omega
    -- with the line
    have with_ : ∀ Y : IM, fr [28, 29] C Y → (∀ S, ¬ Cand C n L many m set S) → Ok (f_X8_leastSet_76 25 (fr_X8_leastSet x) (nI m) (nI left) (nI set) (nI L) Y) (fun r X1 => Rs r (Cand C n L many (m + 1) set) ∧ fr [28, 29] C X1) := fun Y hY hno => by
      unfold f_X8_leastSet_76
      refine ok_lt ?_
      rw [sh_16 m (by omega), nx_or, ho2]
      have hLY : LnOk Y n := by
        unfold LnOk
        rw [hY 25 (by decide), hY 26 (by decide), hY 27 (by decide)]
        exact h
      refine ok_cl (lack_c (S := set + 2 ^ m) hLY hL) (fun r Z q => ?_)
      obtain ⟨rfl, fz⟩ := q
      rw [hY 26 (by decide), hY 27 (by decide), show nI left - 1 = nI (left - 1) from pk_sub (b := 1) (by omega)]
      refine ok_cl (ih x (set + 2 ^ m) (left - 1) Z (by omega) (by omega) hs2 hlt2 (by omega) (fr_tr hY fz)) (fun r Z2 q2 => ok_s ⟨?_, q2.2⟩)
      rcases q2.1 with ⟨z1, z2⟩ | ⟨S, z1, z2, z3⟩
      · exact Or.inl ⟨z1, fun S hS => ((two S).mp hS).elim (hno S) (z2 S)⟩
      · exact Or.inr ⟨S, z1, (two S).mpr (Or.inr z2), fun T hT => ((two T).mp hT).elim (fun q => absurd q (hno T)) (z3 T)⟩
    refine ok_cl (lack_c (S := set ||| (2 ^ m - 1)) hLX hL) (fun r Y q => ?_)
    obtain ⟨rfl, fy⟩ := q
    rw [hX 26 (by decide), hX 27 (by decide)]
    have hY : fr [28, 29] C Y := fr_tr hX fy
    by_cases hz : lkN (C 26) (C 27) (fun i => (set ||| (2 ^ m - 1)).testBit i) n L = 0
    · rw [hz]
      refine ok_t rfl (ok_cl (ih x set left Y (by omega) (by omega) hs1 hlt hon hY) (fun r Z q2 => ?_))
      rcases q2.1 with ⟨rfl, z2⟩ | ⟨S, rfl, z2, z3⟩
      · exact ok_t rfl (with_ Z q2.2 z2)
      · refine ok_f (fun z => ?_) (ok_s ⟨Or.inr ⟨S, rfl, (two S).mpr (Or.inl z2), fun T hT => ?_⟩, q2.2⟩)
        · have z1 : (nI S).toInt = (S : Int) := nI_toInt (by have := z2.2.1; omega)
          rw [z] at z1
          have z4 : (-1 : Int32).toInt = -1 := by decide
          omega
        · rcases (two T).mp hT with q | q
          · exact z3 T q
          · have h1 := Nat.mul_div_le T (2 ^ m)
            rw [q.1, ediv2] at h1
            have h2 := Nat.lt_mul_div_succ S hpos
            rw [z2.1, ediv] at h2
            omega
    · have hb := lkb (fun i => (set ||| (2 ^ m - 1)).testBit i)
      refine ok_f (nI_ne0 (by omega) (by omega)) (with_ Y hY (fun S hS => hz ?_))
      have : lkN (C 26) (C 27) (fun i => (set ||| (2 ^ m - 1)).testBit i) n L ≤ lkN (C 26) (C 27) (fun i => S.testBit i) n L := lk_mono (fun i hi hq => by
        show (set ||| (2 ^ m - 1)).testBit i = true
        rw [Nat.testBit_or, Nat.testBit_two_pow_sub_one]
        by_cases q : i < m
        · simp [q]
        · have hq : S.testBit i = true := hq
          rw [← tb_div hS.1 (by omega), hq]
          rfl)
      rw [hS.2.2.1] at this
      omega
/-- the best set: the fewest lines, of these the least -/
def Bst (C : IM) (n L S : Nat) : Prop := S < 2 ^ n ∧ lkN (C 26) (C 27) (fun i => S.testBit i) n L = 0 ∧ ∀ T : Nat, T < 2 ^ n → lkN (C 26) (C 27) (fun i => T.testBit i) n L = 0 → onN n S < onN n T ∨ (onN n S = onN n T ∧ S ≤ T)
theorem fewest_c (h : LnOk C n) (hL : L ≤ 10) : Ok (f_X8_fewestLines 25 (nI L) C) (fun r X1 => ((r = -1 ∧ ∀ S : Nat, S < 2 ^ n → ¬ lkN (C 26) (C 27) (fun i => S.testBit i) n L = 0) ∨ ∃ S : Nat, r = nI S ∧ Bst C n L S) ∧ fr [28, 29] C X1) := by
  obtain ⟨hn, en, hl⟩ := id h
  have hp16 : 2 ^ n ≤ 2 ^ 16 := Nat.pow_le_pow_right (by decide) hn
  have hpos := Nat.two_pow_pos n
  unfold f_X8_fewestLines
  rw [en, sh_16 n hn, show nI (2 ^ n) - 1 = nI (2 ^ n - 1) from pk_sub (b := 1) hpos]
  refine ok_cl (lack_c (S := 2 ^ n - 1) h hL) (fun r Y q => ?_)
  obtain ⟨rfl, fy⟩ := q
  have hle := lk_le (wa := C 26) (ck := C 27) (p := fun i => (2 ^ n - 1).testBit i) (n := n) (L := L)
  have hall : ∀ S : Nat, lkN (C 26) (C 27) (fun i => (2 ^ n - 1).testBit i) n L ≤ lkN (C 26) (C 27) (fun i => S.testBit i) n L := fun S => lk_mono (fun i hi _ => by
    show (2 ^ n - 1).testBit i = true
    rw [Nat.testBit_two_pow_sub_one]
    simp [hi])
  by_cases hz : lkN (C 26) (C 27) (fun i => (2 ^ n - 1).testBit i) n L = 0
  case neg => exact ok_f (nI_nle (by omega) (by omega)) (ok_s ⟨Or.inl ⟨rfl, fun S _ hS => by have := hall S; omega⟩, fy⟩)
  rw [hz]
  refine ok_t (by decide) ?_
  have loop : ∀ (k f many : Nat) (X : IM), many + k = n + 1 → k < f → (∀ S : Nat, S < 2 ^ n → lkN (C 26) (C 27) (fun i => S.testBit i) n L = 0 → many ≤ onN n S) → fr [28, 29] C X → Ok (f_X8_fewestLines_20 25 f (nI L) (nI many) X) (fun r X1 => ((r = -1 ∧ ∀ S : Nat, S < 2 ^ n → ¬ lkN (C 26) (C 27) (fun i => S.testBit i) n L = 0) ∨ ∃ S : Nat, r = nI S ∧ Bst C n L S) ∧ fr [28, 29] C X1) := by
    intro k
    induction k with
    | zero =>
      intro f many X hk hf hfew hX
      exfalso
      have h1 := hfew (2 ^ n - 1) (by omega) hz
      have h2 := ctB_le (p := fun i => (2 ^ n - 1).testBit i) n
      unfold onN at h1
      omega
    | succ k ih =>
      intro f many X hk hf hfew hX
      obtain ⟨x, rfl⟩ : ∃ x, f = x + 1 := ⟨f - 1, by omega⟩
      show Ok (f_X8_fewestLines_20_b 25 (f_X8_fewestLines_20 25 x) (nI L) (nI many) X) _
      unfold f_X8_fewestLines_20_b
      have z0 : onN n 0 = 0 := by
        have : ∀ k : Nat, onN k 0 = 0 := by
          intro k
          induction k with
          | zero => rfl
          | succ k ih =>
            show (if (0 : Nat).testBit k = true then onN k 0 + 1 else onN k 0) = 0
            rw [Nat.zero_testBit, if_neg (by decide), ih]
        exact this n
      have he : lkN (C 26) (C 27) (fun i => (0 : Nat).testBit i) n L = 24 * L := lk_empty (fun i _ => Nat.zero_testBit i)
      have hls := least_c (C := C) (n := n) (L := L) (many := many) h hL hfew (by omega) n 19 0 many X (by omega) (Nat.le_refl _) (Nat.zero_mod _) hpos (by omega) hX
      rw [he] at hls
      rw [hX 25 (by decide), en, show (24 : Int32) * nI L = nI (24 * L) from pk_mul 24 L]
      refine ok_f (nI_nlt (by omega) (by omega)) (ok_cl (show Ok (f_X8_leastSet 25 (nI n - 1) (nI many) 0 (nI L) (nI (24 * L)) X) _ from hls) (fun r Z q => ?_))
      have cnd : ∀ S : Nat, S < 2 ^ n → (Cand C n L many n 0 S ↔ lkN (C 26) (C 27) (fun i => S.testBit i) n L = 0 ∧ onN n S = many) := fun S hS => by
        constructor
        · intro c; exact c.2.2
        · intro c; exact ⟨by rw [Nat.div_eq_of_lt hS, Nat.zero_div], hS, c⟩
      rcases q.1 with ⟨rfl, z2⟩ | ⟨S, rfl, z2, z3⟩
      · refine ok_t rfl (ok_lt ?_)
        rw [nI_1]
        refine ih x (many + 1) Z (by omega) (by omega) (fun S hS hc => ?_) q.2
        have h1 := hfew S hS hc
        rcases Nat.lt_or_ge many (onN n S) with y | y
        · exact y
        · exact absurd ((cnd S hS).mpr ⟨hc, by omega⟩) (z2 S)
      · refine ok_f (fun z => ?_) (ok_s ⟨Or.inr ⟨S, rfl, z2.2.1, z2.2.2.1, fun T hT hc => ?_⟩, q.2⟩)
        · have z1 : (nI S).toInt = (S : Int) := nI_toInt (by have := z2.2.1; omega)
          rw [z] at z1
          have z4 : (-1 : Int32).toInt = -1 := by decide
          omega
        · have h1 := hfew T hT hc
          have h2 := z2.2.2.2
          rcases Nat.lt_or_ge many (onN n T) with y | y
          · exact Or.inl (by omega)
          · exact Or.inr ⟨by omega, z3 T ((cnd T hT).mpr ⟨hc, by omega⟩)⟩
  exact loop (n + 1) BG 0 Y (by omega) (by unfold BG; omega) (fun _ _ _ => Nat.zero_le _) fy
end LEAST
