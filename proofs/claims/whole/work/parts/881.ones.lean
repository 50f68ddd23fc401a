/-! how many are in a set, on both sides -/
def pcF : Nat → Nat → Nat
  | 0, _ => 0
  | f + 1, n => n % 2 + pcF f (n / 2)
theorem pcF_low : ∀ (f x : Nat), 0 < x → x < 2 ^ f → pcF f (x &&& (x - 1)) + 1 = pcF f x
  | 0, x, h0, h => by simp at h; omega
  | f + 1, x, h0, h => by
    have e : ∀ n : Nat, pcF (f + 1) n = n % 2 + pcF f (n / 2) := fun _ => rfl
    rw [e, e, Nat.and_div_two]
    have hm : (x &&& (x - 1)) % 2 = 0 := by
      have := Nat.and_mod_two_pow (a := x) (b := x - 1) (n := 1)
      simp only [Nat.pow_one] at this
      rw [this]
      rcases Nat.mod_two_eq_zero_or_one x with q | q
      · rw [q]; simp
      · have : (x - 1) % 2 = 0 := by omega
        rw [this]; simp
    rw [hm]
    rcases Nat.mod_two_eq_zero_or_one x with q | q
    · have e1 : (x - 1) / 2 = x / 2 - 1 := by omega
      have ih := pcF_low f (x / 2) (by omega) (by rw [Nat.pow_succ] at h; omega)
      rw [e1, q]
      omega
    · have e1 : (x - 1) / 2 = x / 2 := by omega
      rw [e1, Nat.and_self, q]
      omega
theorem ones_l {M : IM} : ∀ (n k a : Nat), k < 2 ^ 31 → pcF 32 k < n → f_X12_onesOf_4 n (nI a) (nI k) M = some (nI (a + pcF 32 k), M) := by
  intro n
  induction n with
  | zero => intro k a _ h; omega
  | succ n ih =>
    intro k a hk hn
    show f_X12_onesOf_4_b (f_X12_onesOf_4 n) (nI a) (nI k) M = _
    unfold f_X12_onesOf_4_b
    by_cases h0 : k = 0
    · subst h0
      rw [if_pos (show nI 0 = 0 from rfl), show pcF 32 0 = 0 by decide, Nat.add_zero]
    · have hl := pcF_low 32 k (by omega) (Nat.lt_trans hk (by decide))
      have hle : k &&& (k - 1) ≤ k := Nat.and_le_left
      rw [if_neg (nI_ne0 (by omega) hk)]
      show f_X12_onesOf_4 n (nI a + 1) (nI k &&& (nI k - 1)) M = _
      rw [nI_1, show nI k - 1 = nI (k - 1) from pk_sub (b := 1) (by omega), nx_and, ih _ _ (by omega) (by omega), show a + 1 + pcF 32 (k &&& (k - 1)) = a + pcF 32 k by omega]
theorem pcF_le : ∀ f n : Nat, pcF f n ≤ f
  | 0, _ => Nat.le_refl _
  | f + 1, n => by
    have := pcF_le f (n / 2)
    show n % 2 + pcF f (n / 2) ≤ f + 1
    omega
theorem ones_m {M : IM} {k : Nat} (hk : k < 2 ^ 31) : f_X12_onesOf (nI k) M = some (nI (pcF 32 k), M) := by
  have := ones_l (M := M) BG k 0 hk (by have := pcF_le 32 k; unfold BG; omega)
  rw [Nat.zero_add] at this
  exact this
def bc1 (x : Int32) : Int32 := x - (((Int32.toUInt32 x >>> (Int32.toUInt32 1 &&& Int32.toUInt32 31)).toInt32) &&& 1431655765)
def bc2 (x : Int32) : Int32 := (x &&& 858993459) + (((Int32.toUInt32 x >>> (Int32.toUInt32 2 &&& Int32.toUInt32 31)).toInt32) &&& 858993459)
def bc3 (x : Int32) : Int32 := (x + ((Int32.toUInt32 x >>> (Int32.toUInt32 4 &&& Int32.toUInt32 31)).toInt32)) &&& 252645135
def bc4 (x : Int32) : Int32 := x + ((Int32.toUInt32 x >>> (Int32.toUInt32 8 &&& Int32.toUInt32 31)).toInt32)
def bc5 (x : Int32) : Int32 := x + ((Int32.toUInt32 x >>> (Int32.toUInt32 16 &&& Int32.toUInt32 31)).toInt32)
def bc (x : Int32) : Int32 := bc5 (bc4 (bc3 (bc2 (bc1 x)))) &&& 63
theorem bitCount_e (x : Int32) (M : IM) : f_J6_bitCount_0f7a4 x M = some (bc x, M) := rfl
set_option maxRecDepth 100000 in
theorem bc_10 : ∀ k : Nat, k < 1024 → bc (nI k) = nI (pcF 32 k) ∧ pcF 32 k ≤ 10 ∧ (pcF 32 k = 0 → k = 0) := by decide +kernel
/-- a set of at most ten -/
theorem mk_n {p : Nat → Bool} : ∀ n : Nat, n ≤ 10 → ∃ k : Nat, k < 2 ^ n ∧ mk p n = nI k
  | 0, _ => ⟨0, by decide, rfl⟩
  | n + 1, h => by
    obtain ⟨k, hk, ek⟩ := mk_n (p := p) n (by omega)
    have h2 : 2 ^ (n + 1) = 2 ^ n + 2 ^ n := by rw [Nat.pow_succ]; omega
    unfold mk
    by_cases hp : p n = true
    · refine ⟨k + 2 ^ n, by omega, ?_⟩
      rw [if_pos hp]
      have h10 : 2 ^ n ≤ 2 ^ 9 := Nat.pow_le_pow_right (by decide) (by omega)
      apply b_ext
      intro i hi
      rw [b_or, ek, b_set (by omega) hi, bt_n hi, bt_n hi, Nat.add_comm, show 2 ^ n + k = 2 ^ n * 1 + k by omega, Nat.testBit_two_pow_mul_add 1 hk i]
      by_cases h1 : i < n
      · rw [if_pos h1, decide_eq_false (by omega), Bool.or_false]
      · rw [if_neg h1, Nat.testBit_lt_two_pow (Nat.lt_of_lt_of_le hk (Nat.pow_le_pow_right (by decide) (by omega))), Bool.false_or]
        by_cases h3 : i = n
        · subst h3; simp
        · rw [decide_eq_false h3]
          exact (Nat.testBit_lt_two_pow (Nat.lt_of_lt_of_le (show 1 < 2 ^ 1 by decide) (Nat.pow_le_pow_right (by decide) (by omega)))).symm
    · exact ⟨k, by omega, by rw [if_neg hp]; exact ek⟩
theorem goS_n {C D : IM} {o : Nat} {l0 l1 : List LLn} (h : RC C D o l0 l1) : ∃ k : Nat, k < 1024 ∧ goS C o l0 = nI k := by
  obtain ⟨n, hn, en, -, ecn⟩ := walk_n h
  obtain ⟨k, hk, ek⟩ := mk_n (p := goB C o l0) n hn
  refine ⟨k, Nat.lt_of_lt_of_le hk (show 2 ^ n ≤ 1024 from Nat.pow_le_pow_right (i := n) (j := 10) (by decide) hn), ?_⟩
  unfold goS
  rw [ecn]
  exact ek
