/-! text: what the pure reader's codes leave on the stack -/
theorem zq_dl {c : Int32} {d1 e : List Bool} : ∀ (l : List Int32) (d : List Bool), depL d l = some d1 → depC d1 c = some e → e.length ≤ 22 → depL d (l ++ [c]) = some e
  | [], d, h, hc, he => by
    have e0 : d = d1 := by
      unfold depL at h
      exact Option.some.inj h
    subst e0
    show (match depC d c with
      | some e => if e.length ≤ 22 then depL e [] else none
      | none => none) = some e
    rw [hc]
    show (if e.length ≤ 22 then depL e [] else none) = some e
    rw [if_pos he]
    rfl
  | x :: t, d, h, hc, he => by
    obtain ⟨d2, h1, h2, h3⟩ := depL_cons h
    show (match depC d x with
      | some e => if e.length ≤ 22 then depL e (t ++ [c]) else none
      | none => none) = some e
    rw [h1]
    show (if d2.length ≤ 22 then depL d2 (t ++ [c]) else none) = some e
    rw [if_pos h2]
    exact zq_dl t d2 h3 hc he
theorem zq_d1 {t : Nat} (h : t < 10009) (d : List Bool) : depC d (nI t) = some (false :: d) := by
  unfold depC
  rw [if_pos (show nI t < 10009 from nI_lt (b := 10009) h (by decide)), if_pos (nI_pos' (by omega))]
theorem zq_d2 {w : Nat} (h0 : 0 < w) (h : w < 10000) (d : List Bool) : depC (false :: d) (nI (40000 + w)) = some (false :: d) := by
  unfold depC
  rw [if_neg (show ¬ nI (40000 + w) < 10009 from nI_nlt (b := 10009) (by omega) (by omega)), if_neg (show ¬ nI (40000 + w) = 10017 from fun z => by have := (zq_eq (b := 10017) (by omega) (by omega)).mp z; omega), if_pos (show 40000 < nI (40000 + w) from nI_lt (a := 40000) (by omega) (by omega)), if_pos (show nI (40000 + w) ≤ 49999 from nI_le (b := 49999) (by omega) (by decide))]
theorem zq_d3 (d : List Bool) : depC (false :: false :: d) 20042 = some (false :: d) ∧ depC (false :: false :: d) 20043 = some (false :: d) ∧ depC (false :: false :: d) 20045 = some (false :: d) := by
  refine ⟨?_, ?_, ?_⟩
  · unfold depC; rw [if_neg (by decide), if_neg (by decide), if_neg (by decide), if_pos (by decide)]
  · unfold depC; rw [if_neg (by decide), if_neg (by decide), if_neg (by decide), if_pos (by decide)]
  · unfold depC; rw [if_neg (by decide), if_neg (by decide), if_neg (by decide), if_pos (by decide)]
theorem zq_d4 {c : Nat} (h : c = 20060 ∨ c = 20061 ∨ c = 20062) (d : List Bool) : depC (false :: false :: d) (nI c) = some (true :: d) := by
  rcases h with rfl | rfl | rfl
  · unfold depC; rw [if_neg (by decide), if_neg (by decide), if_neg (by decide), if_neg (by decide), if_pos (by decide)]
  · unfold depC; rw [if_neg (by decide), if_neg (by decide), if_neg (by decide), if_neg (by decide), if_pos (by decide)]
  · unfold depC; rw [if_neg (by decide), if_neg (by decide), if_neg (by decide), if_neg (by decide), if_pos (by decide)]
theorem zq_d5 (d : List Bool) : depC (true :: d) 10017 = some (true :: d) := by
  unfold depC; rw [if_neg (by decide), if_pos (by decide)]
theorem zq_d6 (d : List Bool) : depC (true :: true :: d) 10016 = some (true :: d) ∧ depC (true :: true :: d) 10015 = some (true :: d) := by
  refine ⟨?_, ?_⟩
  · unfold depC; rw [if_neg (by decide), if_neg (by decide), if_neg (by decide), if_neg (by decide), if_neg (by decide), if_pos (by decide)]
  · unfold depC; rw [if_neg (by decide), if_neg (by decide), if_neg (by decide), if_neg (by decide), if_neg (by decide), if_pos (by decide)]
section TYP
variable {T : Nat → Nat} {m : Nat}
theorem zq_un_t {j k k1 : Nat} {l l1 : List Int32} {d : List Bool} (hd : d.length ≤ 20) (h : zq_un T j k l = .inr (k1, l1)) : ((j = 20042 ∨ j = 20047) → depL [] l = some (false :: d) → depL [] l1 = some (false :: d)) := by
  intro hj ht
  unfold zq_un at h
  by_cases j1 : j = 20047
  · rw [if_pos j1] at h
    by_cases a : 10000 ≤ T k
    · rw [if_pos a] at h; cases h
    · rw [if_neg a] at h
      by_cases b : T k = 0
      · rw [if_pos b] at h; cases h
      · rw [if_neg b] at h
        obtain ⟨rfl, rfl⟩ := zq_inj h
        exact zq_dl l [] ht (zq_d2 (by omega) (by omega) d) (by simp; omega)
  · rw [if_neg j1] at h
    by_cases a : 10009 ≤ T k
    · rw [if_pos a] at h; cases h
    · rw [if_neg a, if_pos (show j = 20042 by omega)] at h
      obtain ⟨rfl, rfl⟩ := zq_inj h
      exact zq_dl _ [] (zq_dl l [] ht (zq_d1 (by omega) _) (by simp; omega)) (zq_d3 d).1 (by simp; omega)
theorem zq_u0_t {k k1 : Nat} {l l1 : List Int32} {d : List Bool} (hd : d.length ≤ 21) (h : zq_un T 0 k l = .inr (k1, l1)) (ht : depL [] l = some d) : depL [] l1 = some (false :: d) := by
  unfold zq_un at h
  rw [if_neg (by decide)] at h
  by_cases a : 10009 ≤ T k
  · rw [if_pos a] at h; cases h
  · rw [if_neg a, if_neg (by decide)] at h
    obtain ⟨rfl, rfl⟩ := zq_inj h
    exact zq_dl l [] ht (zq_d1 (by omega) _) (by simp; omega)
theorem zq_pd_t {b : List Bool} (hb : b.length ≤ 20) : ∀ (d k : Nat) (l : List Int32) (k1 : Nat) (l1 : List Int32), zq_pd T d k l = .inr (k1, l1) → depL [] l = some (false :: b) → depL [] l1 = some (false :: b)
  | 0, k, l, k1, l1, h, ht => by
    obtain ⟨rfl, rfl⟩ := zq_inj h
    exact ht
  | d + 1, k, l, k1, l1, h, ht => by
    unfold zq_pd at h
    by_cases q : T k = 20042 ∨ T k = 20047
    · rw [if_pos q] at h
      obtain ⟨k2, l2, e1, e2⟩ := zq_bd_r h
      exact zq_pd_t hb d k2 l2 k1 l1 e2 (zq_un_t hb e1 q ht)
    · rw [if_neg q] at h
      obtain ⟨rfl, rfl⟩ := zq_inj h
      exact ht
theorem zq_up_t {k k1 : Nat} {l l1 : List Int32} {b : List Bool} (hb : b.length ≤ 20) (h : zq_bd (zq_un T 0 k l) (zq_pd T m) = .inr (k1, l1)) (ht : depL [] l = some b) : depL [] l1 = some (false :: b) := by
  obtain ⟨k2, l2, e1, e2⟩ := zq_bd_r h
  exact zq_pd_t hb m k2 l2 k1 l1 e2 (zq_u0_t (by omega) e1 ht)
theorem zq_sl_t {b : List Bool} (hb : b.length ≤ 19) : ∀ (d k : Nat) (l : List Int32) (k1 : Nat) (l1 : List Int32), zq_sl T m d k l = .inr (k1, l1) → depL [] l = some (false :: b) → depL [] l1 = some (false :: b)
  | 0, k, l, k1, l1, h, ht => by
    obtain ⟨rfl, rfl⟩ := zq_inj h
    exact ht
  | d + 1, k, l, k1, l1, h, ht => by
    unfold zq_sl at h
    by_cases q : T k = 20043 ∨ T k = 20045
    · rw [if_pos q] at h
      obtain ⟨k2, l2, e1, e2⟩ := zq_bd_r h
      have a := zq_up_t (b := false :: b) (by simp; omega) e1 ht
      refine zq_sl_t hb d k2 _ k1 l1 e2 (zq_dl l2 [] a ?_ (by simp; omega))
      rcases q with q | q
      · rw [q]; exact (zq_d3 b).2.1
      · rw [q]; exact (zq_d3 b).2.2
    · rw [if_neg q] at h
      obtain ⟨rfl, rfl⟩ := zq_inj h
      exact ht
theorem zq_su_t {k k1 : Nat} {l l1 : List Int32} {b : List Bool} (hb : b.length ≤ 19) (h : zq_su T m k l = .inr (k1, l1)) (ht : depL [] l = some b) : depL [] l1 = some (false :: b) := by
  unfold zq_su at h
  obtain ⟨k2, l2, e1, e2⟩ := zq_bd_r h
  exact zq_sl_t hb m k2 l2 k1 l1 e2 (zq_up_t (by omega) e1 ht)
theorem zq_cm_t {k k1 : Nat} {l l1 : List Int32} {b : List Bool} (hb : b.length ≤ 18) (h : zq_cm T m k l = .inr (k1, l1)) (ht : depL [] l = some b) : depL [] l1 = some (true :: b) := by
  unfold zq_cm at h
  obtain ⟨k2, l2, e1, e2⟩ := zq_bd_r h
  have a := zq_su_t (by omega) e1 ht
  by_cases q : T k2 = 20060 ∨ T k2 = 20061 ∨ T k2 = 20062
  · rw [if_pos q] at e2
    obtain ⟨k3, l3, e3, e4⟩ := zq_bd_r e2
    have c := zq_su_t (b := false :: b) (by simp; omega) e3 a
    obtain ⟨rfl, rfl⟩ := zq_inj e4
    exact zq_dl l3 [] c (zq_d4 q b) (by simp; omega)
  · rw [if_neg q] at e2
    cases e2
/-- what waits: and above or -/
def zq_w (o a : Bool) (b : List Bool) : List Bool := (if a = true then [true] else []) ++ ((if o = true then [true] else []) ++ b)
theorem zq_ap_t {o a : Bool} {l : List Int32} {b : List Bool} (hb : b.length ≤ 20) (ht : depL [] l = some (true :: zq_w o a b)) : depL [] (zq_ap a 10016 l) = some (true :: zq_w o false b) ∧ depL [] (zq_ap o 10015 (zq_ap a 10016 l)) = some (true :: b) := by
  have h1 : depL [] (zq_ap a 10016 l) = some (true :: zq_w o false b) := by
    cases a
    · exact ht
    · unfold zq_ap
      rw [if_pos rfl]
      refine zq_dl l [] ht (zq_d6 _).1 ?_
      cases o <;> simp [zq_w] <;> omega
  refine ⟨h1, ?_⟩
  cases o
  · exact h1
  · unfold zq_ap at *
    rw [if_pos rfl]
    exact zq_dl _ [] h1 (zq_d6 b).2 (by simp; omega)
theorem zq_cl_t {cp : Nat → List Int32 → zq_R} {N : Nat} {b : List Bool} (hN : b.length + 2 ≤ N) (hb : N ≤ 18) (hc : ∀ (k : Nat) (l : List Int32) (k1 : Nat) (l1 : List Int32) (b : List Bool), b.length ≤ N → cp k l = .inr (k1, l1) → depL [] l = some b → depL [] l1 = some (true :: b)) : ∀ (d : Nat) (o a : Bool) (k : Nat) (l : List Int32) (k1 : Nat) (l1 : List Int32), zq_cl T cp d o a k l = .inr (k1, l1) → depL [] l = some (true :: zq_w o a b) → depL [] l1 = some (true :: b)
  | 0, o, a, k, l, k1, l1, h, ht => by
    obtain ⟨rfl, rfl⟩ := zq_inj h
    exact (zq_ap_t (by omega) ht).2
  | d + 1, o, a, k, l, k1, l1, h, ht => by
    obtain ⟨t1, t2⟩ := zq_ap_t (by omega) ht
    unfold zq_cl at h
    by_cases q : T k = 10016
    · rw [if_pos q] at h
      obtain ⟨k2, l2, e1, e2⟩ := zq_bd_r h
      have c := hc _ _ _ _ (true :: zq_w o false b) (by cases o <;> simp [zq_w] <;> omega) e1 t1
      exact zq_cl_t hN hb hc d o true k2 l2 k1 l1 e2 c
    · rw [if_neg q] at h
      by_cases q2 : T k = 10015
      · rw [if_pos q2] at h
        obtain ⟨k2, l2, e1, e2⟩ := zq_bd_r h
        have c := hc _ _ _ _ (true :: b) (by simp; omega) e1 t2
        exact zq_cl_t hN hb hc d true false k2 l2 k1 l1 e2 c
      · rw [if_neg q2] at h
        obtain ⟨rfl, rfl⟩ := zq_inj h
        exact t2
theorem zq_cp_t : ∀ (q k : Nat) (l : List Int32) (k1 : Nat) (l1 : List Int32) (b : List Bool), b.length + 2 * q ≤ 18 → zq_cp T m q k l = .inr (k1, l1) → depL [] l = some b → depL [] l1 = some (true :: b)
  | 0, k, l, k1, l1, b, hb, h, ht => by
    unfold zq_cp at h
    by_cases z : T k = 10017 ∨ T k = 20040
    · rw [if_pos z] at h; cases h
    · rw [if_neg z] at h
      exact zq_cm_t (by omega) h ht
  | q + 1, k, l, k1, l1, b, hb, h, ht => by
    unfold zq_cp at h
    by_cases z : T k = 10017
    · rw [if_pos z] at h
      obtain ⟨k2, l2, e1, e2⟩ := zq_bd_r h
      have c := zq_cp_t q _ _ _ _ b (by omega) e1 ht
      obtain ⟨rfl, rfl⟩ := zq_inj e2
      exact zq_dl l2 [] c (zq_d5 b) (by simp; omega)
    · rw [if_neg z] at h
      by_cases z2 : T k = 20040
      · rw [if_pos z2] at h
        obtain ⟨k2, l2, e1, e2⟩ := zq_bd_r h
        obtain ⟨k3, l3, e3, e4⟩ := zq_bd_r e1
        have c := zq_cp_t q _ _ _ _ b (by omega) e3 ht
        have f := zq_cl_t (N := 18 - 2 * q) (b := b) (by omega) (by omega) (fun k l k1 l1 b hb h ht => zq_cp_t q k l k1 l1 b (by omega) h ht) m false false k3 l3 k2 l2 e4 c
        by_cases y : T k2 = 20041
        · rw [if_pos y] at e2
          obtain ⟨rfl, rfl⟩ := zq_inj e2
          exact f
        · rw [if_neg y] at e2; cases e2
      · rw [if_neg z2] at h
        exact zq_cm_t (by omega) h ht
theorem zq_cd_t {q k k1 : Nat} {l l1 : List Int32} {b : List Bool} (hb : b.length + 2 * q ≤ 16) (h : zq_cd T m q k l = .inr (k1, l1)) (ht : depL [] l = some b) : depL [] l1 = some (true :: b) := by
  unfold zq_cd at h
  obtain ⟨k2, l2, e1, e2⟩ := zq_bd_r h
  have c := zq_cp_t q _ _ _ _ b (by omega) e1 ht
  exact zq_cl_t (N := 18 - 2 * q) (b := b) (by omega) (by omega) (fun k l k1 l1 b hb h ht => zq_cp_t q k l k1 l1 b (by omega) h ht) m false false k2 l2 k1 l1 e2 c
end TYP
