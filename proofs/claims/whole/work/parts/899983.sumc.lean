/-! text: the class's sums follow the pure reader -/
def zq_ct (C : IM) (T P : Nat → Nat) (m : Nat) : Prop := m ≤ 400 ∧ T m = 30000 ∧ ∀ k : Nat, k ≤ m → C 117 k = nI (T k) ∧ C 118 k = nI (P k) ∧ T k < 40000
def zq_cs (C : IM) (k p : Nat) (l : List Int32) : Prop := C 100 7 = nI k ∧ C 101 5 = nI (p + l.length) ∧ ∀ i : Nat, i < l.length → C 106 (p + i) = l.getD i 0
def zq_cf (p : Nat) (C C1 : IM) : Prop := (∀ i : Nat, i < p → C1 106 i = C 106 i) ∧ C1 101 0 = C 101 0 ∧ fr [100, 101, 106] C C1
def zq_ok (p : Nat) (C C1 : IM) : Prop := zq_cf p C C1 ∧ C1 100 0 = C 100 0 ∧ C1 100 1 = C 100 1
def zq_cr (P : Nat → Nat) (p : Nat) (C : IM) (x : IR) (r : zq_R) : Prop := match r with
  | .inl (f, k) => ∃ C1, x = some (0, C1) ∧ zq_cf p C C1 ∧ C1 100 0 = nI f ∧ C1 100 1 = nI (P k)
  | .inr (k, l) => ∃ C1, x = some (1, C1) ∧ zq_ok p C C1 ∧ zq_cs C1 k p l
theorem zq_cf_rf {p : Nat} {C : IM} : zq_cf p C C := ⟨fun _ _ => rfl, rfl, fr_rf⟩
theorem zq_cf_tr {p : Nat} {C C1 C2 : IM} (h : zq_cf p C C1) (h2 : zq_cf p C1 C2) : zq_cf p C C2 := ⟨fun i hi => (h2.1 i hi).trans (h.1 i hi), h2.2.1.trans h.2.1, fr_tr h.2.2 h2.2.2⟩
theorem zq_ok_rf {p : Nat} {C : IM} : zq_ok p C C := ⟨zq_cf_rf, rfl, rfl⟩
theorem zq_ok_tr {p : Nat} {C C1 C2 : IM} (h : zq_ok p C C1) (h2 : zq_ok p C1 C2) : zq_ok p C C2 := ⟨zq_cf_tr h.1 h2.1, h2.2.1.trans h.2.1, h2.2.2.trans h.2.2⟩
theorem zq_ct_f {p m : Nat} {C C1 : IM} {T P : Nat → Nat} (h : zq_cf p C C1) (hc : zq_ct C T P m) : zq_ct C1 T P m := by
  refine ⟨hc.1, hc.2.1, fun k hk => ?_⟩
  rw [h.2.2 117 (by decide), h.2.2 118 (by decide)]
  exact hc.2.2 k hk
theorem zq_cr_go {P : Nat → Nat} {p : Nat} {C C1 : IM} {x : IR} {r : zq_R} (h : zq_ok p C C1) (h2 : zq_cr P p C1 x r) : zq_cr P p C x r := by
  cases r with
  | inl e =>
    obtain ⟨C2, e1, e2, e3, e4⟩ := h2
    exact ⟨C2, e1, zq_cf_tr h.1 e2, e3, e4⟩
  | inr e =>
    obtain ⟨C2, e1, e2, e3⟩ := h2
    exact ⟨C2, e1, zq_ok_tr h e2, e3⟩
theorem zq_cr_b {P : Nat → Nat} {p : Nat} {C : IM} {x : IR} {r : zq_R} {g : Int32 → IM → IR} {f : Nat → List Int32 → zq_R} (hx : zq_cr P p C x r) (h0 : ∀ C1, g 0 C1 = some (0, C1)) (h1 : ∀ (k : Nat) (l : List Int32) (C1 : IM), r = .inr (k, l) → zq_ok p C C1 → zq_cs C1 k p l → zq_cr P p C1 (g 1 C1) (f k l)) : zq_cr P p C (cl x g) (zq_bd r f) := by
  cases r with
  | inl e =>
    obtain ⟨C2, e1, e2, e3, e4⟩ := hx
    rw [cl_s e1, h0]
    exact ⟨C2, rfl, e2, e3, e4⟩
  | inr e =>
    obtain ⟨C2, e1, e2, e3⟩ := hx
    rw [cl_s e1]
    exact zq_cr_go e2 (h1 e.1 e.2 C2 rfl e2 e3)
theorem zq_as (x : zq_R) (f g : Nat → List Int32 → zq_R) : zq_bd (zq_bd x f) g = zq_bd x (fun k l => zq_bd (f k l) g) := by
  cases x <;> rfl
theorem rz_0 (C : IM) : rz 0 C = some (0, C) := by unfold rz; rw [if_pos (Or.inl rfl)]
theorem rz_1 (C : IM) : rz 1 C = some (1, C) := by unfold rz; rw [if_pos (Or.inr rfl)]
section SUMC
variable {T P : Nat → Nat} {m p : Nat} {C : IM}
theorem zq_tk {k : Nat} {f : Int32 → IR} (hc : zq_ct C T P m) (hk : k ≤ m) (h7 : C 100 7 = nI k) : rd C 117 401 (C 100 7) f = f (nI (T k)) := by
  have := hc.1
  rw [h7, rdK (j := k) rfl (by omega) (by decide), (hc.2.2 k hk).1]
theorem zq_e {k c : Nat} (hc : zq_ct C T P m) (hk : k ≤ m) (hl : c < 100000) : nI (T k) = nI c ↔ T k = c := zq_eq (by have := (hc.2.2 k hk).2.2; omega) hl
theorem zq_nq {a c : Nat} {v : Int32} (ha : a < 100000) (hc : c < 100000) (hv : nI c = v) (h : ¬ a = c) : ¬ nI a = v := by
  subst hv
  exact fun z => h ((zq_eq ha hc).mp z)
theorem zq_nt {k c : Nat} {v : Int32} (hc : zq_ct C T P m) (hk : k ≤ m) (hl : c < 100000) (hv : nI c = v) (h : ¬ T k = c) : ¬ nI (T k) = v := zq_nq (by have := (hc.2.2 k hk).2.2; omega) hl hv h
theorem zq_ref {k : Nat} {f : Int32} (hc : zq_ct C T P m) (hk : k ≤ m) (h7 : C 100 7 = nI k) : f_X6_refuses f C = some (0, ms (ms C 100 0 f) 100 1 (nI (P k))) := by
  have := hc.1
  rw [refuse_c (by omega) h7, (hc.2.2 k hk).2.1]
theorem zq_take {k : Nat} (hc : zq_ct C T P m) (hk : k < m) (h7 : C 100 7 = nI k) : f_X6_takesToken C = some (0, ms C 100 7 (nI (k + 1))) := take_c (by have := hc.1; omega) h7
theorem zq_ok_t {v : Int32} : zq_ok p C (ms C 100 7 v) := ⟨⟨fun i _ => by rw [ms_ne (by decide)], by rw [ms_ne (by decide)], fr_ms fr_rf (by decide)⟩, by rw [ms_at (by decide)], by rw [ms_at (by decide)]⟩
theorem zq_cs_t {k k1 : Nat} {l : List Int32} (h : zq_cs C k p l) : zq_cs (ms C 100 7 (nI k1)) k1 p l := ⟨ms_it, by rw [ms_ne (by decide)]; exact h.2.1, fun i hi => by rw [ms_ne (by decide)]; exact h.2.2 i hi⟩
theorem zq_cf_r {f v : Int32} : zq_cf p C (ms (ms C 100 0 f) 100 1 v) ∧ ms (ms C 100 0 f) 100 1 v 100 0 = f ∧ ms (ms C 100 0 f) 100 1 v 100 1 = v := ⟨⟨fun i _ => by rw [ms_ne (by decide), ms_ne (by decide)], by rw [ms_ne (by decide), ms_ne (by decide)], fr_ms (fr_ms fr_rf (by decide)) (by decide)⟩, by rw [ms_at (by decide), ms_it], ms_it⟩
theorem zq_cr_e {f k : Nat} {x : IR} (h : x = some (0, ms (ms C 100 0 (nI f)) 100 1 (nI (P k)))) : zq_cr P p C x (.inl (f, k)) := ⟨_, h, zq_cf_r.1, (zq_cf_r (p := p)).2.1, (zq_cf_r (p := p)).2.2⟩
theorem zq_getl {l : List Int32} {c : Int32} {i : Nat} (hi : i < l.length) : (l ++ [c]).getD i 0 = l.getD i 0 := by
  simp only [List.getD_eq_getElem?_getD]
  rw [List.getElem?_append_left hi]
theorem zq_getr {l : List Int32} {c : Int32} : (l ++ [c]).getD l.length 0 = c := by
  simp [List.getD_eq_getElem?_getD]
theorem zq_put {k : Nat} {l : List Int32} {c : Int32} (h : zq_cs C k p l) (hb : p + l.length < 400) : ∃ C1, f_X3_put 101 c C = some (0, C1) ∧ zq_ok p C C1 ∧ zq_cs C1 k p (l ++ [c]) := by
  refine ⟨ms (ms C 106 (p + l.length) c) 101 5 (nI (p + l.length + 1)), ?_, ⟨⟨fun i hi => ?_, ?_, fr_ms (fr_ms fr_rf (by decide)) (by decide)⟩, ?_, ?_⟩, ?_, ?_, fun i hi => ?_⟩
  · unfold f_X3_put
    rw [h.2.1, if_neg (show ¬ (400 : Int32) ≤ nI (p + l.length) from nI_ge (b := 400) hb (by decide)), wrK (j := p + l.length) rfl hb (by decide)]
    simp only [pt]
    rw [ms_ne (by decide), h.2.1, nI_1]
  · rw [ms_ne (by decide), ms_at (by omega)]
  · rw [ms_at (by decide), ms_ne (by decide)]
  · rw [ms_ne (by decide), ms_ne (by decide)]
  · rw [ms_ne (by decide), ms_ne (by decide)]
  · rw [ms_ne (by decide), ms_ne (by decide)]; exact h.1
  · rw [ms_it, List.length_append]; rfl
  · rw [ms_ne (by decide)]
    rw [List.length_append, List.length_singleton] at hi
    by_cases q : i = l.length
    · subst q
      rw [ms_it, zq_getr]
    · rw [ms_at (by omega), h.2.2 i (by omega), zq_getl (by omega)]
theorem zq_num {k : Nat} {lo hi : Int32} (hc : zq_ct C T P m) (hk : k ≤ m) (h7 : C 100 7 = nI k) : (10000 ≤ T k → f_X6_takesNumber lo hi C = some (-1, ms (ms C 100 0 1) 100 1 (nI (P k)))) ∧ (T k < 10000 → (nI (T k) < lo ∨ hi < nI (T k)) → f_X6_takesNumber lo hi C = some (-1, ms (ms C 100 0 2) 100 1 (nI (P k)))) ∧ (T k < 10000 → ¬ (nI (T k) < lo ∨ hi < nI (T k)) → f_X6_takesNumber lo hi C = some (nI (T k), ms C 100 7 (nI (k + 1)))) := by
  have hb := (hc.2.2 k hk).2.2
  refine ⟨fun h => ?_, fun h h2 => ?_, fun h h2 => ?_⟩
  · unfold f_X6_takesNumber
    rw [zq_tk hc hk h7, if_neg (show ¬ nI (T k) < 10000 from nI_nlt (b := 10000) h (by omega)), cl_s (zq_ref hc hk h7)]
  · unfold f_X6_takesNumber
    rw [zq_tk hc hk h7, if_pos (show nI (T k) < 10000 from nI_lt (b := 10000) h (by decide)), cl_s (win_c _ _ _ _), if_pos (by rw [if_pos h2]), cl_s (zq_ref hc hk h7)]
  · unfold f_X6_takesNumber
    have hlt : k < m := by
      rcases Nat.lt_or_ge k m with z | z
      · exact z
      · have e : k = m := by omega
        rw [e, hc.2.1] at h
        omega
    rw [zq_tk hc hk h7, if_pos (show nI (T k) < 10000 from nI_lt (b := 10000) h (by decide)), cl_s (win_c _ _ _ _), if_neg (by rw [if_neg h2]; decide), cl_s (zq_take hc hlt h7)]
theorem zq_tks {k c : Nat} (hc : zq_ct C T P m) (hk : k ≤ m) (h7 : C 100 7 = nI k) (hl : c < 30000) : (T k = c → f_X6_takes (nI c) C = some (1, ms C 100 7 (nI (k + 1)))) ∧ (¬ T k = c → f_X6_takes (nI c) C = some (0, ms (ms C 100 0 1) 100 1 (nI (P k)))) := by
  refine ⟨fun h => ?_, fun h => ?_⟩
  · unfold f_X6_takes
    rw [zq_tk hc hk h7, if_pos ((zq_e hc hk (by omega)).mpr h), cl_s (zq_take hc (zq_lt hc.2.1 hk h (by omega)) h7)]
  · unfold f_X6_takes
    rw [zq_tk hc hk h7, if_neg (fun z => h ((zq_e hc hk (by omega)).mp z)), cl_s (zq_ref hc hk h7), rz_0]
theorem zq_unit {k : Nat} {l : List Int32} (hc : zq_ct C T P m) (hk : k ≤ m) (hs : zq_cs C k p l) (hb : p + zq_E l ≤ k) : zq_cr P p C (f_X6_readsUnit C) (if 10009 ≤ T k then .inl (1, k) else .inr (k + 1, l ++ [nI (T k)])) := by
  have hm := hc.1
  have hl := zq_len l
  have ht := (hc.2.2 k hk).2.2
  by_cases q : 10009 ≤ T k
  · rw [if_pos q]
    refine zq_cr_e ?_
    unfold f_X6_readsUnit
    rw [zq_tk hc hk hs.1, if_neg (show ¬ nI (T k) < 10009 from nI_nlt (b := 10009) q (by omega)), cl_s (zq_ref hc hk hs.1), rz_0]
    rfl
  · rw [if_neg q]
    have hlt : k < m := by
      rcases Nat.lt_or_ge k m with z | z
      · exact z
      · have e : k = m := by omega
        rw [e, hc.2.1] at q
        omega
    obtain ⟨C1, p1, p2, p3⟩ := zq_put (c := nI (T k)) hs (by omega)
    refine ⟨ms C1 100 7 (nI (k + 1)), ?_, zq_ok_tr p2 zq_ok_t, zq_cs_t p3⟩
    unfold f_X6_readsUnit
    rw [zq_tk hc hk hs.1, if_pos (show nI (T k) < 10009 from nI_lt (b := 10009) (by omega) (by decide)), zq_tk hc hk hs.1, cl_s p1, cl_s (zq_take (zq_ct_f p2.1 hc) hlt p3.1)]
theorem zq_head {r10 : Int32 → Int32 → Int32 → IM → IR} {a : Int32} {j x k : Nat} {l : List Int32} {f : Nat → List Int32 → zq_R} (hc : zq_ct C T P m) (hk : k ≤ m) (hs : zq_cs C k p l) (hx : x < 400) (hj : j < 100000) (hb : p + zq_E l + (if j = 20042 ∨ j = 20047 then 1 else 0) ≤ k) (hh : ∀ (k1 : Nat) (l1 : List Int32) (C1 : IM), zq_un T j k l = .inr (k1, l1) → zq_ct C1 T P m → zq_cs C1 k1 p l1 → zq_cr P p C1 (f_X6_readsSum_83 r10 a (nI x) C1) (f k1 l1)) : zq_cr P p C (f_X6_readsSum_10_b r10 a (nI j) (nI x) C) (zq_bd (zq_un T j k l) f) := by
  have hm := hc.1
  have hl := zq_len l
  have ht := (hc.2.2 k hk).2.2
  unfold f_X6_readsSum_10_b
  rw [if_neg (show ¬ (400 : Int32) ≤ nI x from nI_ge (b := 400) hx (by decide))]
  by_cases j1 : j = 20047
  · subst j1
    rw [if_pos (show nI 20047 = 20047 from rfl)]
    rw [if_pos (Or.inr rfl)] at hb
    obtain ⟨n1, n2, n3⟩ := zq_num (lo := 1) (hi := 9999) hc hk hs.1
    by_cases a1 : 10000 ≤ T k
    · have e : zq_un T 20047 k l = .inl (1, k) := by unfold zq_un; rw [if_pos rfl, if_pos a1]
      rw [e, cl_s (n1 a1), if_pos rfl]
      exact zq_cr_e rfl
    · by_cases a2 : T k = 0
      · have e : zq_un T 20047 k l = .inl (2, k) := by unfold zq_un; rw [if_pos rfl, if_neg a1, if_pos a2]
        rw [e, cl_s (n2 (by omega) (Or.inl (by rw [a2]; decide))), if_pos rfl]
        exact zq_cr_e rfl
      · have e : zq_un T 20047 k l = .inr (k + 1, l ++ [nI (40000 + T k)]) := by unfold zq_un; rw [if_pos rfl, if_neg a1, if_neg a2]
        have hlt : k < m := by
          rcases Nat.lt_or_ge k m with z | z
          · exact z
          · have e : k = m := by omega
            rw [e, hc.2.1] at a1
            omega
        have nin : ¬ (nI (T k) < 1 ∨ 9999 < nI (T k)) := by
          rintro (z | z)
          · exact nI_nlt (b := 1) (by omega) (by omega) z
          · exact nI_nlt (a := 9999) (b := T k) (by omega) (by omega) z
        rw [cl_s (n3 (by omega) nin), if_neg (fun z => by
          have := congrArg Int32.toInt z
          rw [nI_toInt (by omega), show (-1 : Int32).toInt = -1 from rfl] at this
          omega)]
        obtain ⟨C1, p1, p2, p3⟩ := zq_put (C := ms C 100 7 (nI (k + 1))) (c := nI (40000 + T k)) (zq_cs_t (k1 := k + 1) hs) (by omega)
        rw [show (40000 : Int32) + nI (T k) = nI (40000 + T k) from nI_add 40000 (T k), cl_s p1]
        unfold f_X6_readsSum_66
        rw [if_neg (show ¬ nI 20047 = 20042 by decide)]
        have h2 := hh (k + 1) _ C1 e (zq_ct_f p2.1 (zq_ct_f (p := p) zq_ok_t.1 hc)) p3
        rw [e]
        exact zq_cr_go (zq_ok_tr zq_ok_t p2) h2
  · rw [if_neg (zq_nq (c := 20047) (v := 20047) hj (by decide) rfl j1)]
    have hu := zq_unit hc hk hs (by omega)
    have eu : zq_un T j k l = zq_bd (if 10009 ≤ T k then .inl (1, k) else .inr (k + 1, l ++ [nI (T k)])) (fun k1 l1 => .inr (k1, if j = 20042 then l1 ++ [20042] else l1)) := by
      unfold zq_un
      rw [if_neg j1]
      by_cases a1 : 10009 ≤ T k
      · rw [if_pos a1, if_pos a1]; rfl
      · rw [if_neg a1, if_neg a1]
        by_cases j2 : j = 20042
        · rw [if_pos j2]
          show _ = (Sum.inr (k + 1, if j = 20042 then l ++ [nI (T k)] ++ [20042] else l ++ [nI (T k)]) : zq_R)
          rw [if_pos j2]
        · rw [if_neg j2]
          show _ = (Sum.inr (k + 1, if j = 20042 then l ++ [nI (T k)] ++ [20042] else l ++ [nI (T k)]) : zq_R)
          rw [if_neg j2]
    rw [eu, zq_as]
    refine zq_cr_b hu (fun C1 => if_pos rfl) (fun k1 l1 C1 e1 o1 s1 => ?_)
    rw [if_neg (by decide)]
    by_cases a1 : 10009 ≤ T k
    · rw [if_pos a1] at e1; cases e1
    · rw [if_neg a1] at e1
      obtain ⟨rfl, rfl⟩ := zq_inj e1
      unfold f_X6_readsSum_66
      show zq_cr P p C1 _ (f (k + 1) (if j = 20042 then l ++ [nI (T k)] ++ [20042] else l ++ [nI (T k)]))
      by_cases j2 : j = 20042
      · rw [if_pos (by rw [j2]; rfl), if_pos j2]
        rw [if_pos (Or.inl j2)] at hb
        have hlt : k < m := by
          rcases Nat.lt_or_ge k m with z | z
          · exact z
          · have e : k = m := by omega
            rw [e, hc.2.1] at a1
            omega
        obtain ⟨C2, p1, p2, p3⟩ := zq_put (c := 20042) s1 (by rw [List.length_append, List.length_singleton]; omega)
        rw [cl_s p1]
        refine zq_cr_go p2 (hh _ _ C2 ?_ (zq_ct_f p2.1 (zq_ct_f o1.1 hc)) p3)
        unfold zq_un
        rw [if_neg j1, if_neg a1, if_pos j2]
      · rw [if_neg (zq_nq (c := 20042) (v := 20042) hj (by decide) rfl j2), if_neg j2]
        refine hh _ _ C1 ?_ (zq_ct_f o1.1 hc) s1
        unfold zq_un
        rw [if_neg j1, if_neg a1, if_neg j2]
theorem zq_un_0 {j k : Nat} {l : List Int32} (h1 : ¬ j = 20042) (h2 : ¬ j = 20047) : zq_un T j k l = zq_un T 0 k l := by
  unfold zq_un
  rw [if_neg h2, if_neg h1, if_neg (show ¬ 0 = 20047 by decide), if_neg (show ¬ 0 = 20042 by decide)]
def zq_fi (a : Nat) (l : List Int32) : List Int32 := if a = 30001 then l else l ++ [nI a]
theorem zq_pd_n {d k : Nat} {l : List Int32} (h : ¬ (T k = 20042 ∨ T k = 20047)) : zq_pd T d k l = .inr (k, l) := by
  cases d with
  | zero => rfl
  | succ d => unfold zq_pd; rw [if_neg h]
theorem zq_sl_n {d k : Nat} {l : List Int32} (h : ¬ (T k = 20043 ∨ T k = 20045)) : zq_sl T m d k l = .inr (k, l) := by
  cases d with
  | zero => rfl
  | succ d => unfold zq_sl; rw [if_neg h]
theorem zq_mid : ∀ (g n x k dp ds a : Nat) (l : List Int32) (C : IM), m ≤ k + g → k ≤ m → m ≤ k + dp → m ≤ k + ds → zq_ct C T P m → zq_cs C k p l → (a = 30001 ∨ a = 20043 ∨ a = 20045) → p + zq_E l + (if a = 30001 then 0 else 1) ≤ k → x < k → m < n + k → zq_cr P p C (f_X6_readsSum_83 (f_X6_readsSum_10 n) (nI a) (nI x) C) (zq_bd (zq_pd T dp k l) (fun k1 l1 => zq_sl T m ds k1 (zq_fi a l1))) := by
  intro g
  induction g with
  | zero =>
    intro n x k dp ds a l C hg hk hdp hds hc hs ha hb hx hn
    have hm := hc.1
    have hl := zq_len l
    have ekm : k = m := by omega
    have hTk : T k = 30000 := by rw [ekm]; exact hc.2.1
    rw [zq_pd_n (by omega)]
    show zq_cr P p C _ (zq_sl T m ds k (zq_fi a l))
    rw [zq_sl_n (by omega)]
    unfold f_X6_readsSum_83
    rw [zq_tk hc hk hs.1, hTk, if_neg (by decide), if_neg (by decide)]
    unfold zq_fi
    by_cases q : a = 30001
    · rw [if_pos (by rw [q]; rfl), if_pos q]
      unfold f_X6_readsSum_122
      rw [if_neg (by decide), if_neg (by decide)]
      exact ⟨C, rfl, zq_ok_rf, hs⟩
    · rw [if_neg (zq_nq (c := 30001) (v := 30001) (by omega) (by decide) rfl q), if_neg q]
      rw [if_neg q] at hb
      obtain ⟨C1, p1, p2, p3⟩ := zq_put (c := nI a) hs (by omega)
      rw [cl_s p1]
      unfold f_X6_readsSum_122
      rw [if_neg (by decide), if_neg (by decide)]
      exact ⟨C1, rfl, p2, p3⟩
  | succ g ih =>
    intro n x k dp ds a l C hg hk hdp hds hc hs ha hb hx hn
    have hm := hc.1
    have hl := zq_len l
    obtain ⟨n, rfl⟩ : ∃ i, n = i + 1 := ⟨n - 1, by omega⟩
    have hst : ∀ (a j x : Int32) (D : IM), f_X6_readsSum_10 (n + 1) a j x D = f_X6_readsSum_10_b (f_X6_readsSum_10 n) a j x D := fun _ _ _ _ => rfl
    unfold f_X6_readsSum_83
    rw [zq_tk hc hk hs.1]
    by_cases q : T k = 20042 ∨ T k = 20047
    · have hlt : k < m := by
        rcases q with q | q
        · exact zq_lt hc.2.1 hk q (by decide)
        · exact zq_lt hc.2.1 hk q (by decide)
      have e0 : (if nI (T k) = 20042 then cl (f_X6_takesToken C) fun _ M22 => lt (nI x + 1) fun v24 => f_X6_readsSum_10 (n + 1) (nI a) (nI (T k)) v24 M22 else if nI (T k) = 20047 then cl (f_X6_takesToken C) fun _ M27 => lt (nI x + 1) fun v29 => f_X6_readsSum_10 (n + 1) (nI a) (nI (T k)) v29 M27 else if nI a = 30001 then f_X6_readsSum_122 (f_X6_readsSum_10 (n + 1)) (nI (T k)) (nI x) C else cl (f_X3_put 101 (nI a) C) fun _ M32 => f_X6_readsSum_122 (f_X6_readsSum_10 (n + 1)) (nI (T k)) (nI x) M32) = f_X6_readsSum_10_b (f_X6_readsSum_10 n) (nI a) (nI (T k)) (nI (x + 1)) (ms C 100 7 (nI (k + 1))) := by
        rcases q with q | q
        · rw [if_pos (by rw [q]; rfl), cl_s (zq_take hc hlt hs.1)]
          simp only [lt]
          rw [hst, nI_1]
        · rw [if_neg (by rw [q]; decide), if_pos (by rw [q]; rfl), cl_s (zq_take hc hlt hs.1)]
          simp only [lt]
          rw [hst, nI_1]
      rw [e0]
      obtain ⟨dp, rfl⟩ : ∃ i, dp = i + 1 := ⟨dp - 1, by omega⟩
      unfold zq_pd
      rw [if_pos q, zq_as]
      refine zq_cr_go (C1 := ms C 100 7 (nI (k + 1))) zq_ok_t (zq_head (zq_ct_f (p := p) zq_ok_t.1 hc) (by omega) (zq_cs_t hs) (by omega) (by omega) (by rw [if_pos q]; omega) (fun k1 l1 C1 e1 c1 s1 => ?_))
      obtain ⟨rfl, u1, u2, u3⟩ := zq_un_a hc.2.1 (by omega) e1
      rw [if_pos q] at u3
      exact ih n (x + 1) _ dp ds a l1 C1 (by omega) (by omega) (by omega) (by omega) c1 s1 ha (by omega) (by omega) (by omega)
    · have q1 : ¬ T k = 20042 := fun z => q (Or.inl z)
      have q2 : ¬ T k = 20047 := fun z => q (Or.inr z)
      rw [if_neg (zq_nt (c := 20042) (v := 20042) hc hk (by decide) rfl q1), if_neg (zq_nt (c := 20047) (v := 20047) hc hk (by decide) rfl q2), zq_pd_n q]
      show zq_cr P p C _ (zq_sl T m ds k (zq_fi a l))
      obtain ⟨C1, e1, o1, s1, b1⟩ : ∃ C1, (if nI a = 30001 then f_X6_readsSum_122 (f_X6_readsSum_10 (n + 1)) (nI (T k)) (nI x) C else cl (f_X3_put 101 (nI a) C) fun _ M32 => f_X6_readsSum_122 (f_X6_readsSum_10 (n + 1)) (nI (T k)) (nI x) M32) = f_X6_readsSum_122 (f_X6_readsSum_10 (n + 1)) (nI (T k)) (nI x) C1 ∧ zq_ok p C C1 ∧ zq_cs C1 k p (zq_fi a l) ∧ p + zq_E (zq_fi a l) ≤ k := by
        unfold zq_fi
        by_cases z : a = 30001
        · rw [if_pos (by rw [z]; rfl), if_pos z]
          exact ⟨C, rfl, zq_ok_rf, hs, by omega⟩
        · rw [if_neg (zq_nq (c := 30001) (v := 30001) (by omega) (by decide) rfl z), if_neg z]
          rw [if_neg z] at hb
          obtain ⟨C1, p1, p2, p3⟩ := zq_put (c := nI a) hs (by omega)
          rw [cl_s p1]
          exact ⟨C1, rfl, p2, p3, by rw [zq_pm (by omega)]; omega⟩
      rw [e1]
      refine zq_cr_go o1 ?_
      have hc1 := zq_ct_f o1.1 hc
      unfold f_X6_readsSum_122
      by_cases r : T k = 20043 ∨ T k = 20045
      · have hlt : k < m := by
          rcases r with q | q
          · exact zq_lt hc.2.1 hk q (by decide)
          · exact zq_lt hc.2.1 hk q (by decide)
        have e0 : (if nI (T k) = 20043 then f_X6_readsSum_138 (f_X6_readsSum_10 (n + 1)) (nI (T k)) (nI x) C1 else if nI (T k) = 20045 then f_X6_readsSum_138 (f_X6_readsSum_10 (n + 1)) (nI (T k)) (nI x) C1 else some (1, C1)) = f_X6_readsSum_10_b (f_X6_readsSum_10 n) (nI (T k)) (nI (T k)) (nI (x + 1)) (ms C1 100 7 (nI (k + 1))) := by
          have e2 : f_X6_readsSum_138 (f_X6_readsSum_10 (n + 1)) (nI (T k)) (nI x) C1 = f_X6_readsSum_10_b (f_X6_readsSum_10 n) (nI (T k)) (nI (T k)) (nI (x + 1)) (ms C1 100 7 (nI (k + 1))) := by
            unfold f_X6_readsSum_138
            rw [cl_s (zq_take hc1 hlt s1.1)]
            simp only [lt]
            rw [hst, nI_1]
          rcases r with q | q
          · rw [if_pos (by rw [q]; rfl), e2]
          · rw [if_neg (by rw [q]; decide), if_pos (by rw [q]; rfl), e2]
        rw [e0]
        obtain ⟨ds, rfl⟩ : ∃ i, ds = i + 1 := ⟨ds - 1, by omega⟩
        unfold zq_sl
        rw [if_pos r, zq_as, ← zq_un_0 (T := T) q1 q2]
        refine zq_cr_go (C1 := ms C1 100 7 (nI (k + 1))) zq_ok_t (zq_head (zq_ct_f (p := p) zq_ok_t.1 hc1) (by omega) (zq_cs_t s1) (by omega) (by omega) (by rw [if_neg q]; omega) (fun k1 l1 C2 e1 c1 s1 => ?_))
        obtain ⟨rfl, u1, u2, u3⟩ := zq_un_a hc.2.1 (by omega) e1
        rw [if_neg q] at u3
        have := ih n (x + 1) _ m ds (T k) l1 C2 (by omega) (by omega) (by omega) (by omega) c1 s1 (by omega) (by rw [if_neg (by omega)]; omega) (by omega) (by omega)
        have ef : ∀ l2 : List Int32, zq_fi (T k) l2 = l2 ++ [nI (T k)] := fun l2 => by
          unfold zq_fi
          rw [if_neg (by omega)]
        simp only [ef] at this
        exact this
      · have r1 : ¬ T k = 20043 := fun z => r (Or.inl z)
        have r2 : ¬ T k = 20045 := fun z => r (Or.inr z)
        rw [if_neg (zq_nt (c := 20043) (v := 20043) hc hk (by decide) rfl r1), if_neg (zq_nt (c := 20045) (v := 20045) hc hk (by decide) rfl r2), zq_sl_n r]
        exact ⟨C1, rfl, zq_ok_rf, s1⟩
theorem zq_sum {k : Nat} {l : List Int32} (hc : zq_ct C T P m) (hk : k ≤ m) (hs : zq_cs C k p l) (hb : p + zq_E l ≤ k) : zq_cr P p C (f_X6_readsSum C) (zq_su T m k l) := by
  have hm := hc.1
  have hst : f_X6_readsSum C = f_X6_readsSum_10_b (f_X6_readsSum_10 999999) (nI 30001) (nI 30001) (nI 0) C := rfl
  rw [hst]
  unfold zq_su
  rw [zq_as, ← zq_un_0 (T := T) (j := 30001) (by decide) (by decide)]
  refine zq_head hc hk hs (by decide) (by decide) (by rw [if_neg (by decide)]; omega) (fun k1 l1 C1 e1 c1 s1 => ?_)
  obtain ⟨rfl, u1, u2, u3⟩ := zq_un_a hc.2.1 hk e1
  rw [if_neg (by decide)] at u3
  exact zq_mid m 999999 0 (k + 1) m m 30001 l1 C1 (by omega) (by omega) (by omega) (by omega) c1 s1 (Or.inl rfl) (by rw [if_pos rfl]; omega) (by omega) (by omega)
end SUMC
