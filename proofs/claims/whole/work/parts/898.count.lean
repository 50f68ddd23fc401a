/-! counting bits; cover -/
theorem pcF_split : ∀ (s t a b : Nat), a < 2 ^ s → pcF (s + t) (a + 2 ^ s * b) = pcF s a + pcF t b
  | 0, t, a, b, h => by
    have : a = 0 := by simp at h; exact h
    subst this
    simp [pcF]
  | s + 1, t, a, b, h => by
    have e1 : ∀ f n : Nat, pcF (f + 1) n = n % 2 + pcF f (n / 2) := fun _ _ => rfl
    have e2 : 2 ^ (s + 1) * b = 2 * (2 ^ s * b) := by rw [Nat.pow_succ, Nat.mul_comm (2 ^ s) 2, Nat.mul_assoc]
    rw [show s + 1 + t = (s + t) + 1 by omega, e1, e1, e2, show (a + 2 * (2 ^ s * b)) % 2 = a % 2 by omega, show (a + 2 * (2 ^ s * b)) / 2 = a / 2 + 2 ^ s * b by omega, pcF_split s t (a / 2) b (by rw [Nat.pow_succ] at h; omega)]
    omega
theorem and_dig {s a b m n : Nat} (ha : a < 2 ^ s) (hm : m < 2 ^ s) : (2 ^ s * b + a) &&& (2 ^ s * n + m) = 2 ^ s * (b &&& n) + (a &&& m) := by
  apply Nat.eq_of_testBit_eq
  intro i
  have ham : a &&& m < 2 ^ s := Nat.lt_of_le_of_lt Nat.and_le_left ha
  rw [Nat.testBit_and, Nat.testBit_two_pow_mul_add b ha, Nat.testBit_two_pow_mul_add n hm, Nat.testBit_two_pow_mul_add _ ham]
  by_cases h : i < s
  · rw [if_pos h, if_pos h, if_pos h, Nat.testBit_and]
  · rw [if_neg h, if_neg h, if_neg h, Nat.testBit_and]
theorem and3 {a b c p : Nat} (ha : a < 256) (hb : b < 256) (hp : p < 256) : (a + 256 * b + 65536 * c) &&& (p + 256 * p + 65536 * p + 16777216 * p) = (a &&& p) + 256 * (b &&& p) + 65536 * (c &&& (p + 256 * p)) := by
  have e1 : a + 256 * b + 65536 * c = 2 ^ 8 * (2 ^ 8 * c + b) + a := by omega
  have e2 : p + 256 * p + 65536 * p + 16777216 * p = 2 ^ 8 * (2 ^ 8 * (p + 256 * p) + p) + p := by omega
  rw [e1, e2, and_dig (s := 8) (by omega) (by omega), and_dig (s := 8) (by omega) (by omega)]
  omega
theorem and_p {c p : Nat} (hc : c < 256) (hp : p < 256) : c &&& (p + 256 * p) = c &&& p := by
  have := and_dig (s := 8) (a := c) (b := 0) (m := p) (n := p) (by omega) (by omega)
  rw [Nat.mul_zero, Nat.zero_add, Nat.zero_and, Nat.mul_zero, Nat.zero_add] at this
  rw [← this, Nat.add_comm p (256 * p)]
def by1 (a : Nat) : Nat := a - ((a / 2) &&& 85)
def by2 (a : Nat) : Nat := (a &&& 51) + ((a / 4) &&& 51)
def by3 (a : Nat) : Nat := (a + a / 16) &&& 15
set_option maxRecDepth 100000 in
theorem by_1 : ∀ a : Nat, a < 256 → (((a / 2 + 128) &&& 85) = ((a / 2) &&& 85)) ∧ ((a / 2) &&& 85) ≤ a ∧ by1 a < 256 := by decide +kernel
set_option maxRecDepth 100000 in
theorem by_2 : ∀ a : Nat, a < 256 → ∀ r : Nat, r < 4 → ((a / 4 + 64 * r) &&& 51) = ((a / 4) &&& 51) := by decide +kernel
set_option maxRecDepth 100000 in
theorem by_23 : ∀ a : Nat, a < 256 → by2 (by1 a) < 80 ∧ by2 (by1 a) % 16 ≤ 4 ∧ by3 (by2 (by1 a)) = pcF 8 a := by decide +kernel
set_option maxRecDepth 100000 in
theorem by_3 : ∀ a : Nat, a < 80 → ∀ r : Nat, r ≤ 4 → ((a + a / 16 + 16 * r) &&& 15) = ((a + a / 16) &&& 15) := by decide +kernel
theorem c85 : (1431655765 : Int32) = nI (85 + 256 * 85 + 65536 * 85 + 16777216 * 85) := by decide +kernel
theorem c51 : (858993459 : Int32) = nI (51 + 256 * 51 + 65536 * 51 + 16777216 * 51) := by decide +kernel
theorem c15 : (252645135 : Int32) = nI (15 + 256 * 15 + 65536 * 15 + 16777216 * 15) := by decide +kernel
theorem bc_s1 {a b c : Nat} (ha : a < 256) (hb : b < 256) (hc : c < 256) : bc1 (nI (a + 256 * b + 65536 * c)) = nI (by1 a + 256 * by1 b + 65536 * by1 c) := by
  obtain ⟨a1, a2, a3⟩ := by_1 a ha
  obtain ⟨b1, b2, b3⟩ := by_1 b hb
  obtain ⟨c1, c2, c3⟩ := by_1 c hc
  have ea : ((a / 2 + 128 * (b % 2)) &&& 85) = ((a / 2) &&& 85) := by
    rcases Nat.mod_two_eq_zero_or_one b with q | q <;> rw [q]
    · rfl
    · exact a1
  have eb : ((b / 2 + 128 * (c % 2)) &&& 85) = ((b / 2) &&& 85) := by
    rcases Nat.mod_two_eq_zero_or_one c with q | q <;> rw [q]
    · rfl
    · exact b1
  have eh : (a + 256 * b + 65536 * c) / 2 ^ 1 = (a / 2 + 128 * (b % 2)) + 256 * (b / 2 + 128 * (c % 2)) + 65536 * (c / 2) := by omega
  unfold bc1
  rw [pk_ushrN (n := a + 256 * b + 65536 * c) (by omega) 1 1 (by decide), c85, nx_and, eh, and3 (a := a / 2 + 128 * (b % 2)) (b := b / 2 + 128 * (c % 2)) (by omega) (by omega) (by decide), and_p (c := c / 2) (by omega) (by decide), ea, eb, pk_sub (by omega)]
  have : a + 256 * b + 65536 * c - ((a / 2 &&& 85) + 256 * (b / 2 &&& 85) + 65536 * (c / 2 &&& 85)) = by1 a + 256 * by1 b + 65536 * by1 c := by
    unfold by1
    omega
  rw [this]
theorem bc_s2 {x y z : Nat} (a3 : x < 256) (b3 : y < 256) (c3 : z < 256) : bc2 (nI (x + 256 * y + 65536 * z)) = nI (by2 x + 256 * by2 y + 65536 * by2 z) := by
  have eh : (x + 256 * y + 65536 * z) / 2 ^ 2 = (x / 4 + 64 * (y % 4)) + 256 * (y / 4 + 64 * (z % 4)) + 65536 * (z / 4) := by omega
  unfold bc2
  rw [pk_ushrN (n := x + 256 * y + 65536 * z) (by omega) 2 2 (by decide), c51, nx_and, nx_and, eh, and3 a3 b3 (by decide), and3 (a := x / 4 + 64 * (y % 4)) (b := y / 4 + 64 * (z % 4)) (by omega) (by omega) (by decide), and_p c3 (by decide), and_p (c := z / 4) (by omega) (by decide), by_2 x a3 _ (by omega), by_2 y b3 _ (by omega), nI_add]
  have : (x &&& 51) + 256 * (y &&& 51) + 65536 * (z &&& 51) + ((x / 4 &&& 51) + 256 * (y / 4 &&& 51) + 65536 * (z / 4 &&& 51)) = by2 x + 256 * by2 y + 65536 * by2 z := by
    unfold by2
    omega
  rw [this]
theorem bc_s3 {x y z : Nat} (a4 : x < 80) (b4 : y < 80) (c4 : z < 80) (b5 : y % 16 ≤ 4) (c5 : z % 16 ≤ 4) : bc3 (nI (x + 256 * y + 65536 * z)) = nI (by3 x + 256 * by3 y + 65536 * by3 z) := by
  have eh : x + 256 * y + 65536 * z + (x + 256 * y + 65536 * z) / 2 ^ 4 = (x + x / 16 + 16 * (y % 16)) + 256 * (y + y / 16 + 16 * (z % 16)) + 65536 * (z + z / 16) := by omega
  unfold bc3
  rw [pk_ushrN (n := x + 256 * y + 65536 * z) (by omega) 4 4 (by decide), nI_add, c15, nx_and, eh, and3 (a := x + x / 16 + 16 * (y % 16)) (b := y + y / 16 + 16 * (z % 16)) (by omega) (by omega) (by decide), and_p (c := z + z / 16) (by omega) (by decide), by_3 x a4 _ b5, by_3 y b4 _ c5]
  unfold by3
  rfl
theorem bc_s4 {x y z : Nat} (p1 : x ≤ 8) (p2 : y ≤ 8) (p3 : z ≤ 8) : bc5 (bc4 (nI (x + 256 * y + 65536 * z))) &&& 63 = nI (x + (y + z)) := by
  unfold bc4
  rw [pk_ushrN (n := x + 256 * y + 65536 * z) (by omega) 8 8 (by decide), nI_add]
  have e1 : x + 256 * y + 65536 * z + (x + 256 * y + 65536 * z) / 2 ^ 8 = (x + y) + 256 * (y + z) + 65536 * z := by omega
  rw [e1]
  unfold bc5
  rw [pk_ushrN (n := (x + y) + 256 * (y + z) + 65536 * z) (by omega) 16 16 (by decide), nI_add]
  have e2 : (x + y) + 256 * (y + z) + 65536 * z + ((x + y) + 256 * (y + z) + 65536 * z) / 2 ^ 16 = (x + (y + z)) + 64 * (4 * (y + z) + 1024 * z) := by omega
  rw [e2, show (63 : Int32) = nI 63 from rfl, nx_and, show (63 : Nat) = 2 ^ 6 - 1 from rfl, Nat.and_two_pow_sub_one_eq_mod]
  have e3 : ((x + (y + z)) + 64 * (4 * (y + z) + 1024 * z)) % 2 ^ 6 = x + (y + z) := by omega
  rw [e3]
/-- bitCount counts, of 24 bits -/
theorem bc_24 {k : Nat} (hk : k < 2 ^ 24) : bc (nI k) = nI (pcF 24 k) := by
  obtain ⟨a, b, c, ha, hb, hc, rfl⟩ : ∃ a b c : Nat, a < 256 ∧ b < 256 ∧ c < 256 ∧ k = a + 256 * b + 65536 * c := ⟨k % 256, k / 256 % 256, k / 65536, by omega, by omega, by omega, by omega⟩
  obtain ⟨a4, a5, a6⟩ := by_23 a ha
  obtain ⟨b4, b5, b6⟩ := by_23 b hb
  obtain ⟨c4, c5, c6⟩ := by_23 c hc
  have e1 := pcF_split 8 16 a (b + 2 ^ 8 * c) ha
  have e2 := pcF_split 8 8 b c hb
  have e0 : a + 2 ^ 8 * (b + 2 ^ 8 * c) = a + 256 * b + 65536 * c := by omega
  rw [e0] at e1
  have e3 : pcF 24 (a + 256 * b + 65536 * c) = pcF 8 a + (pcF 8 b + pcF 8 c) := by rw [← e2]; exact e1
  unfold bc
  rw [bc_s1 ha hb hc, bc_s2 (by_1 a ha).2.2 (by_1 b hb).2.2 (by_1 c hc).2.2, bc_s3 a4 b4 c4 b5 c5, a6, b6, c6, bc_s4 (pcF_le 8 a) (pcF_le 8 b) (pcF_le 8 c), e3]
theorem ctB_0 {p : Nat → Bool} : ∀ n : Nat, ctB p (n + 1) = (if p 0 = true then 1 else 0) + ctB (fun i => p (i + 1)) n
  | 0 => by
    show (if p 0 = true then 0 + 1 else 0) = _
    split <;> rfl
  | n + 1 => by
    have ih := ctB_0 (p := p) n
    show (if p (n + 1) = true then ctB p (n + 1) + 1 else ctB p (n + 1)) = (if p 0 = true then 1 else 0) + (if p (n + 1) = true then ctB (fun i => p (i + 1)) n + 1 else ctB (fun i => p (i + 1)) n)
    rw [ih]
    split <;> omega
theorem pc_ct : ∀ f k : Nat, pcF f k = ctB (fun i => k.testBit i) f
  | 0, _ => rfl
  | f + 1, k => by
    rw [ctB_0]
    show k % 2 + pcF f (k / 2) = _
    rw [pc_ct f (k / 2)]
    congr 1
    · rw [Nat.testBit_zero]
      rcases Nat.mod_two_eq_zero_or_one k with q | q <;> simp [q]
    · have : (fun i => (k / 2).testBit i) = fun i => k.testBit (i + 1) := funext fun i => (Nat.testBit_succ k i).symm
      rw [this]
theorem ctB_congr {p q : Nat → Bool} : ∀ {n : Nat}, (∀ i : Nat, i < n → p i = q i) → ctB p n = ctB q n
  | 0, _ => rfl
  | n + 1, h => by
    show (if p n = true then ctB p n + 1 else ctB p n) = (if q n = true then ctB q n + 1 else ctB q n)
    rw [h n (by omega), ctB_congr (fun i hi => h i (by omega))]
theorem ctB_imp {p q : Nat → Bool} : ∀ {n : Nat}, (∀ i : Nat, i < n → p i = true → q i = true) → ctB p n ≤ ctB q n
  | 0, _ => Nat.le_refl _
  | n + 1, h => by
    have ih := ctB_imp (p := p) (q := q) (n := n) (fun i hi => h i (by omega))
    show (if p n = true then ctB p n + 1 else ctB p n) ≤ (if q n = true then ctB q n + 1 else ctB q n)
    by_cases hp : p n = true
    · rw [if_pos hp, if_pos (h n (by omega) hp)]; omega
    · rw [if_neg hp]
      split <;> omega
/-- one more at most -/
theorem ctB_one {p q : Nat → Bool} {j : Nat} : ∀ {n : Nat}, (∀ i : Nat, i < n → q i = true → p i = true ∨ i = j) → ctB q n ≤ ctB p n + 1
  | 0, _ => by simp [ctB]
  | n + 1, h => by
    show (if q n = true then ctB q n + 1 else ctB q n) ≤ (if p n = true then ctB p n + 1 else ctB p n) + 1
    by_cases e : n = j
    · have : ctB q n ≤ ctB p n := ctB_imp (fun i hi hq => (h i (by omega) hq).resolve_right (by omega))
      repeat' split
      all_goals omega
    · have ih := ctB_one (p := p) (q := q) (j := j) (n := n) (fun i hi => h i (by omega))
      by_cases hq : q n = true
      · rw [if_pos hq, if_pos ((h n (by omega) hq).resolve_right e)]; omega
      · rw [if_neg hq]
        split <;> omega
theorem ctB_z {p : Nat → Bool} {n m : Nat} (h : ∀ i : Nat, n ≤ i → i < n + m → p i = false) : ctB p (n + m) = ctB p n := by
  induction m with
  | zero => rfl
  | succ m ih =>
    show ctB p (n + m + 1) = _
    rw [ctB_n (by rw [h (n + m) (by omega) (by omega)]; decide), ih (fun i h1 h2 => h i h1 (by omega))]
theorem bc_bt {x : Int32} (h : ∀ c : Nat, 24 ≤ c → c < 32 → bt x c = false) : bc x = nI (ctB (fun c => bt x c) 24) ∧ ctB (fun c => bt x c) 24 ≤ 24 := by
  obtain ⟨k, hk, rfl⟩ := wb_of32 x
  have hk24 : k < 2 ^ 24 := by
    rcases Nat.lt_or_ge k (2 ^ 24) with q | q
    · exact q
    · exfalso
      have : ∃ i : Nat, 24 ≤ i ∧ i < 32 ∧ k.testBit i = true := by
        obtain ⟨i, h1, h2⟩ := Nat.exists_ge_and_testBit_of_ge_two_pow q
        refine ⟨i, h1, ?_, h2⟩
        rcases Nat.lt_or_ge i 32 with z | z
        · exact z
        · rw [Nat.testBit_lt_two_pow (Nat.lt_of_lt_of_le hk (Nat.pow_le_pow_right (by decide) z))] at h2
          cases h2
      obtain ⟨i, h1, h2, h3⟩ := this
      have := h i h1 h2
      rw [bt_n h2, h3] at this
      cases this
  refine ⟨?_, ctB_le 24⟩
  rw [bc_24 hk24, pc_ct]
  congr 1
  exact ctB_congr (fun i hi => (bt_n (by omega)).symm)
