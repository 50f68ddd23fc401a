/-! text: a pure reader of tokens T; a fault is (kind, token), else (next token, codes) -/
abbrev zq_R : Type := (Nat × Nat) ⊕ (Nat × List Int32)
def zq_bd (x : zq_R) (f : Nat → List Int32 → zq_R) : zq_R := match x with
  | .inl e => .inl e
  | .inr (k, l) => f k l
def zq_un (T : Nat → Nat) (j k : Nat) (l : List Int32) : zq_R :=
  if j = 20047 then (if 10000 ≤ T k then .inl (1, k) else if T k = 0 then .inl (2, k) else .inr (k + 1, l ++ [nI (40000 + T k)]))
  else if 10009 ≤ T k then .inl (1, k) else if j = 20042 then .inr (k + 1, l ++ [nI (T k)] ++ [20042]) else .inr (k + 1, l ++ [nI (T k)])
def zq_pd (T : Nat → Nat) : Nat → Nat → List Int32 → zq_R
  | 0, k, l => .inr (k, l)
  | d + 1, k, l => if T k = 20042 ∨ T k = 20047 then zq_bd (zq_un T (T k) (k + 1) l) (zq_pd T d) else .inr (k, l)
def zq_sl (T : Nat → Nat) (m : Nat) : Nat → Nat → List Int32 → zq_R
  | 0, k, l => .inr (k, l)
  | d + 1, k, l => if T k = 20043 ∨ T k = 20045 then zq_bd (zq_bd (zq_un T 0 (k + 1) l) (zq_pd T m)) (fun k1 l1 => zq_sl T m d k1 (l1 ++ [nI (T k)])) else .inr (k, l)
def zq_su (T : Nat → Nat) (m k : Nat) (l : List Int32) : zq_R := zq_bd (zq_bd (zq_un T 0 k l) (zq_pd T m)) (zq_sl T m m)
def zq_cm (T : Nat → Nat) (m k : Nat) (l : List Int32) : zq_R := zq_bd (zq_su T m k l) (fun k1 l1 => if T k1 = 20060 ∨ T k1 = 20061 ∨ T k1 = 20062 then zq_bd (zq_su T m (k1 + 1) l1) (fun k2 l2 => .inr (k2, l2 ++ [nI (T k1)])) else .inl (1, k1))
def zq_ap (b : Bool) (c : Int32) (l : List Int32) : List Int32 := if b = true then l ++ [c] else l
def zq_cl (T : Nat → Nat) (cp : Nat → List Int32 → zq_R) : Nat → Bool → Bool → Nat → List Int32 → zq_R
  | 0, o, a, k, l => .inr (k, zq_ap o 10015 (zq_ap a 10016 l))
  | d + 1, o, a, k, l => if T k = 10016 then zq_bd (cp (k + 1) (zq_ap a 10016 l)) (zq_cl T cp d o true) else if T k = 10015 then zq_bd (cp (k + 1) (zq_ap o 10015 (zq_ap a 10016 l))) (zq_cl T cp d true false) else .inr (k, zq_ap o 10015 (zq_ap a 10016 l))
def zq_cp (T : Nat → Nat) (m : Nat) : Nat → Nat → List Int32 → zq_R
  | 0, k, l => if T k = 10017 ∨ T k = 20040 then .inl (3, k) else zq_cm T m k l
  | q + 1, k, l => if T k = 10017 then zq_bd (zq_cp T m q (k + 1) l) (fun k1 l1 => .inr (k1, l1 ++ [10017])) else if T k = 20040 then zq_bd (zq_bd (zq_cp T m q (k + 1) l) (zq_cl T (zq_cp T m q) m false false)) (fun k1 l1 => if T k1 = 20041 then .inr (k1 + 1, l1) else .inl (1, k1)) else zq_cm T m k l
def zq_cd (T : Nat → Nat) (m q k : Nat) (l : List Int32) : zq_R := zq_bd (zq_cp T m q k l) (zq_cl T (zq_cp T m q) m false false)
theorem zq_bd_r {x : zq_R} {f : Nat → List Int32 → zq_R} {k : Nat} {l : List Int32} (h : zq_bd x f = .inr (k, l)) : ∃ k1 l1, x = .inr (k1, l1) ∧ f k1 l1 = .inr (k, l) := by
  cases x with
  | inl e => cases h
  | inr y => exact ⟨y.1, y.2, rfl, h⟩
theorem zq_inj {k k1 : Nat} {l l1 : List Int32} (h : (Sum.inr (k, l) : zq_R) = .inr (k1, l1)) : k1 = k ∧ l1 = l := by
  cases h
  exact ⟨rfl, rfl⟩
def zq_E (l : List Int32) : Nat := (encL l).length
theorem encL_app (a b : List Int32) : encL (a ++ b) = encL a ++ encL b := by simp [encL]
theorem encL_1 (c : Int32) : encL [c] = encC c := by simp [encL]
theorem zq_E1 (l : List Int32) (c : Int32) : zq_E (l ++ [c]) = zq_E l + (encC c).length := by
  unfold zq_E
  rw [encL_app, encL_1, List.length_append]
theorem zq_En {t : Nat} (h : t < 10009) (l : List Int32) : zq_E (l ++ [nI t]) = zq_E l + 1 := by
  rw [zq_E1]
  by_cases q : t < 10000
  · rw [enc_num q]; rfl
  · rw [enc_ask q h]; rfl
theorem zq_Ep {t : Nat} (h0 : 0 < t) (h : t < 10000) (l : List Int32) : zq_E (l ++ [nI (40000 + t)]) = zq_E l + 2 := by
  rw [zq_E1, enc_part h0 (by omega)]
  rfl
theorem zq_ec : encC 20042 = [(4, 0)] ∧ encC 20043 = [(2, 0)] ∧ encC 20045 = [(3, 0)] ∧ encC 20060 = [(6, 0)] ∧ encC 20061 = [(7, 0)] ∧ encC 20062 = [(8, 0)] ∧ encC 10017 = [(9, 0)] ∧ encC 10016 = [(10, 0)] ∧ encC 10015 = [(11, 0)] := by decide
theorem zq_Ek {c : Int32} {x : Int32 × Int32} (h : encC c = [x]) (l : List Int32) : zq_E (l ++ [c]) = zq_E l + 1 := by
  rw [zq_E1, h]
  rfl
theorem zq_len (l : List Int32) : l.length ≤ zq_E l := by
  induction l with
  | nil => exact Nat.zero_le _
  | cons c t ih =>
    have h1 := enc_ne (b := [c]) (by simp)
    unfold zq_E at *
    rw [encL_1] at h1
    rw [encL_cons, List.length_append, List.length_cons]
    omega
theorem zq_Ea {b : Bool} {c : Int32} {x : Int32 × Int32} (h : encC c = [x]) (l : List Int32) : zq_E (zq_ap b c l) = zq_E l + b.toNat := by
  unfold zq_ap
  cases b
  · rfl
  · rw [if_pos rfl, zq_Ek h]; rfl
section ADV
variable {T : Nat → Nat} {m : Nat}
theorem zq_un_a {j k k1 : Nat} {l l1 : List Int32} (hT : T m = 30000) (hk : k ≤ m) (h : zq_un T j k l = .inr (k1, l1)) : k1 = k + 1 ∧ k < m ∧ T k < 10009 ∧ zq_E l1 ≤ zq_E l + 1 + (if j = 20042 ∨ j = 20047 then 1 else 0) := by
  have hkm : T k < 30000 → k < m := fun q => by
    rcases Nat.lt_or_ge k m with z | z
    · exact z
    · have : k = m := by omega
      rw [this, hT] at q
      omega
  unfold zq_un at h
  by_cases j1 : j = 20047
  · rw [if_pos j1] at h
    rw [if_pos (Or.inr j1)]
    by_cases a : 10000 ≤ T k
    · rw [if_pos a] at h; cases h
    · rw [if_neg a] at h
      by_cases b : T k = 0
      · rw [if_pos b] at h; cases h
      · rw [if_neg b] at h
        obtain ⟨rfl, rfl⟩ := zq_inj h
        rw [zq_Ep (by omega) (by omega)]
        exact ⟨rfl, hkm (by omega), by omega, by omega⟩
  · rw [if_neg j1] at h
    by_cases a : 10009 ≤ T k
    · rw [if_pos a] at h; cases h
    · rw [if_neg a] at h
      by_cases b : j = 20042
      · rw [if_pos b] at h
        obtain ⟨rfl, rfl⟩ := zq_inj h
        rw [if_pos (Or.inl b), zq_Ek zq_ec.1, zq_En (by omega)]
        exact ⟨rfl, hkm (by omega), by omega, by omega⟩
      · rw [if_neg b] at h
        obtain ⟨rfl, rfl⟩ := zq_inj h
        rw [zq_En (by omega)]
        exact ⟨rfl, hkm (by omega), by omega, by omega⟩
theorem zq_lt {k c : Nat} (hT : T m = 30000) (hk : k ≤ m) (h : T k = c) (hc : ¬ c = 30000) : k < m := by
  rcases Nat.lt_or_ge k m with z | z
  · exact z
  · have e : k = m := by omega
    rw [e, hT] at h
    omega
theorem zq_pd_a (hT : T m = 30000) : ∀ (d k : Nat) (l : List Int32) (k1 : Nat) (l1 : List Int32), k ≤ m → zq_pd T d k l = .inr (k1, l1) → k ≤ k1 ∧ k1 ≤ m ∧ zq_E l1 + k ≤ zq_E l + k1
  | 0, k, l, k1, l1, hk, h => by
    obtain ⟨rfl, rfl⟩ := zq_inj h
    omega
  | d + 1, k, l, k1, l1, hk, h => by
    unfold zq_pd at h
    by_cases q : T k = 20042 ∨ T k = 20047
    · rw [if_pos q] at h
      have hlt : k < m := by
        rcases q with q | q
        · exact zq_lt hT hk q (by decide)
        · exact zq_lt hT hk q (by decide)
      obtain ⟨k2, l2, e1, e2⟩ := zq_bd_r h
      obtain ⟨rfl, a1, a2, a3⟩ := zq_un_a hT (by omega) e1
      rw [if_pos q] at a3
      have := zq_pd_a hT d _ l2 k1 l1 (by omega) e2
      omega
    · rw [if_neg q] at h
      obtain ⟨rfl, rfl⟩ := zq_inj h
      omega
theorem zq_pm {c : Nat} (h : c = 20043 ∨ c = 20045) (l : List Int32) : zq_E (l ++ [nI c]) = zq_E l + 1 := by
  rcases h with rfl | rfl
  · exact zq_Ek zq_ec.2.1 l
  · exact zq_Ek zq_ec.2.2.1 l
theorem zq_up_a {k k1 : Nat} {l l1 : List Int32} (hT : T m = 30000) (hk : k ≤ m) (h : zq_bd (zq_un T 0 k l) (zq_pd T m) = .inr (k1, l1)) : k < k1 ∧ k1 ≤ m ∧ zq_E l1 + k ≤ zq_E l + k1 := by
  obtain ⟨k2, l2, e1, e2⟩ := zq_bd_r h
  obtain ⟨rfl, a1, a2, a3⟩ := zq_un_a hT hk e1
  rw [if_neg (by decide)] at a3
  have := zq_pd_a hT m _ l2 k1 l1 (by omega) e2
  omega
theorem zq_sl_a (hT : T m = 30000) : ∀ (d k : Nat) (l : List Int32) (k1 : Nat) (l1 : List Int32), k ≤ m → zq_sl T m d k l = .inr (k1, l1) → k ≤ k1 ∧ k1 ≤ m ∧ zq_E l1 + k ≤ zq_E l + k1
  | 0, k, l, k1, l1, hk, h => by
    obtain ⟨rfl, rfl⟩ := zq_inj h
    omega
  | d + 1, k, l, k1, l1, hk, h => by
    unfold zq_sl at h
    by_cases q : T k = 20043 ∨ T k = 20045
    · rw [if_pos q] at h
      have hlt : k < m := by
        rcases q with q | q
        · exact zq_lt hT hk q (by decide)
        · exact zq_lt hT hk q (by decide)
      obtain ⟨k2, l2, e1, e2⟩ := zq_bd_r h
      have a := zq_up_a hT (by omega) e1
      have b := zq_sl_a hT d k2 _ k1 l1 (by omega) e2
      rw [zq_pm q] at b
      omega
    · rw [if_neg q] at h
      obtain ⟨rfl, rfl⟩ := zq_inj h
      omega
theorem zq_su_a {k k1 : Nat} {l l1 : List Int32} (hT : T m = 30000) (hk : k ≤ m) (h : zq_su T m k l = .inr (k1, l1)) : k < k1 ∧ k1 ≤ m ∧ zq_E l1 + k ≤ zq_E l + k1 := by
  unfold zq_su at h
  obtain ⟨k2, l2, e1, e2⟩ := zq_bd_r h
  have a := zq_up_a hT hk e1
  have b := zq_sl_a hT m k2 l2 k1 l1 (by omega) e2
  omega
theorem zq_rel {c : Nat} (h : c = 20060 ∨ c = 20061 ∨ c = 20062) (l : List Int32) : zq_E (l ++ [nI c]) = zq_E l + 1 := by
  rcases h with rfl | rfl | rfl
  · exact zq_Ek zq_ec.2.2.2.1 l
  · exact zq_Ek zq_ec.2.2.2.2.1 l
  · exact zq_Ek zq_ec.2.2.2.2.2.1 l
theorem zq_cm_a {k k1 : Nat} {l l1 : List Int32} (hT : T m = 30000) (hk : k ≤ m) (h : zq_cm T m k l = .inr (k1, l1)) : k < k1 ∧ k1 ≤ m ∧ zq_E l1 + k ≤ zq_E l + k1 := by
  unfold zq_cm at h
  obtain ⟨k2, l2, e1, e2⟩ := zq_bd_r h
  have a := zq_su_a hT hk e1
  by_cases q : T k2 = 20060 ∨ T k2 = 20061 ∨ T k2 = 20062
  · rw [if_pos q] at e2
    have hlt : k2 < m := by
      rcases q with q | q | q
      · exact zq_lt hT a.2.1 q (by decide)
      · exact zq_lt hT a.2.1 q (by decide)
      · exact zq_lt hT a.2.1 q (by decide)
    obtain ⟨k3, l3, e3, e4⟩ := zq_bd_r e2
    have b := zq_su_a hT (by omega) e3
    obtain ⟨rfl, rfl⟩ := zq_inj e4
    rw [zq_rel q]
    omega
  · rw [if_neg q] at e2
    cases e2
theorem zq_cl_a (hT : T m = 30000) {cp : Nat → List Int32 → zq_R} (hc : ∀ (k : Nat) (l : List Int32) (k1 : Nat) (l1 : List Int32), k ≤ m → cp k l = .inr (k1, l1) → k < k1 ∧ k1 ≤ m ∧ zq_E l1 + k ≤ zq_E l + k1) : ∀ (d : Nat) (o a : Bool) (k : Nat) (l : List Int32) (k1 : Nat) (l1 : List Int32), k ≤ m → zq_cl T cp d o a k l = .inr (k1, l1) → k ≤ k1 ∧ k1 ≤ m ∧ zq_E l1 + k ≤ zq_E l + k1 + a.toNat + o.toNat
  | 0, o, a, k, l, k1, l1, hk, h => by
    obtain ⟨rfl, rfl⟩ := zq_inj h
    rw [zq_Ea zq_ec.2.2.2.2.2.2.2.2, zq_Ea zq_ec.2.2.2.2.2.2.2.1]
    omega
  | d + 1, o, a, k, l, k1, l1, hk, h => by
    unfold zq_cl at h
    by_cases q : T k = 10016
    · rw [if_pos q] at h
      have hlt := zq_lt hT hk q (by decide)
      obtain ⟨k2, l2, e1, e2⟩ := zq_bd_r h
      have b := hc _ _ _ _ (by omega) e1
      have c := zq_cl_a hT hc d o true k2 l2 k1 l1 b.2.1 e2
      rw [zq_Ea zq_ec.2.2.2.2.2.2.2.1] at b
      simp only [Bool.toNat_true] at c
      omega
    · rw [if_neg q] at h
      by_cases q2 : T k = 10015
      · rw [if_pos q2] at h
        have hlt := zq_lt hT hk q2 (by decide)
        obtain ⟨k2, l2, e1, e2⟩ := zq_bd_r h
        have b := hc _ _ _ _ (by omega) e1
        have c := zq_cl_a hT hc d true false k2 l2 k1 l1 b.2.1 e2
        rw [zq_Ea zq_ec.2.2.2.2.2.2.2.2, zq_Ea zq_ec.2.2.2.2.2.2.2.1] at b
        simp only [Bool.toNat_true, Bool.toNat_false] at c
        omega
      · rw [if_neg q2] at h
        obtain ⟨rfl, rfl⟩ := zq_inj h
        rw [zq_Ea zq_ec.2.2.2.2.2.2.2.2, zq_Ea zq_ec.2.2.2.2.2.2.2.1]
        omega
theorem zq_cp_a (hT : T m = 30000) : ∀ (q k : Nat) (l : List Int32) (k1 : Nat) (l1 : List Int32), k ≤ m → zq_cp T m q k l = .inr (k1, l1) → k < k1 ∧ k1 ≤ m ∧ zq_E l1 + k ≤ zq_E l + k1
  | 0, k, l, k1, l1, hk, h => by
    unfold zq_cp at h
    by_cases z : T k = 10017 ∨ T k = 20040
    · rw [if_pos z] at h; cases h
    · rw [if_neg z] at h
      exact zq_cm_a hT hk h
  | q + 1, k, l, k1, l1, hk, h => by
    unfold zq_cp at h
    by_cases z : T k = 10017
    · rw [if_pos z] at h
      have hlt := zq_lt hT hk z (by decide)
      obtain ⟨k2, l2, e1, e2⟩ := zq_bd_r h
      have b := zq_cp_a hT q _ _ _ _ (by omega) e1
      obtain ⟨rfl, rfl⟩ := zq_inj e2
      rw [zq_Ek zq_ec.2.2.2.2.2.2.1]
      omega
    · rw [if_neg z] at h
      by_cases z2 : T k = 20040
      · rw [if_pos z2] at h
        have hlt := zq_lt hT hk z2 (by decide)
        obtain ⟨k2, l2, e1, e2⟩ := zq_bd_r h
        obtain ⟨k3, l3, e3, e4⟩ := zq_bd_r e1
        have b := zq_cp_a hT q _ _ _ _ (by omega) e3
        have c := zq_cl_a hT (zq_cp_a hT q) m false false k3 l3 k2 l2 b.2.1 e4
        simp only [Bool.toNat_false] at c
        by_cases y : T k2 = 20041
        · rw [if_pos y] at e2
          have := zq_lt hT c.2.1 y (by decide)
          obtain ⟨rfl, rfl⟩ := zq_inj e2
          omega
        · rw [if_neg y] at e2; cases e2
      · rw [if_neg z2] at h
        exact zq_cm_a hT hk h
theorem zq_cd_a {q k k1 : Nat} {l l1 : List Int32} (hT : T m = 30000) (hk : k ≤ m) (h : zq_cd T m q k l = .inr (k1, l1)) : k < k1 ∧ k1 ≤ m ∧ zq_E l1 + k ≤ zq_E l + k1 := by
  unfold zq_cd at h
  obtain ⟨k2, l2, e1, e2⟩ := zq_bd_r h
  have b := zq_cp_a hT q _ _ _ _ hk e1
  have c := zq_cl_a hT (zq_cp_a hT q) m false false k2 l2 k1 l1 b.2.1 e2
  simp only [Bool.toNat_false] at c
  omega
end ADV
