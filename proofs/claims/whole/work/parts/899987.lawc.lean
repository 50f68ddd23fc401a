/-! text: laws, line by line; the class's side -/
abbrev zq_RL : Type := (Nat × Nat) ⊕ (Nat × LLn)
abbrev zq_RW : Type := (Nat × Nat) ⊕ List LLn
def zq_am (T : Nat → Nat) (m : Nat) (ft : Bool) (k : Nat) : zq_R := if ft = true then zq_su T m (k + 1) [] else .inr (k + 1, [])
def zq_wn (T : Nat → Nat) (m k : Nat) : zq_R := if T k = 10014 then zq_cd T m 8 (k + 1) [] else .inr (k, [])
def zq_ln (T : Nat → Nat) (m : Nat) (ft : Bool) (k : Nat) : zq_RL := match zq_am T m ft k with
  | .inl e => .inl e
  | .inr (k1, e) => match zq_wn T m k1 with
    | .inl x => .inl x
    | .inr (k2, b) => if T k2 = 20059 then .inr (k2 + 1, (nI (T k), e, b)) else .inl (1, k2)
abbrev zq_lwd (ft : Bool) (t : Nat) : Prop := (ft = true ∧ (t = 10011 ∨ t = 10012 ∨ t = 10013)) ∨ (ft = false ∧ (t = 10009 ∨ t = 10010))
def zq_lw (T : Nat → Nat) (m : Nat) (ft : Bool) : Nat → Nat → List LLn → zq_RW
  | 0, _, acc => .inr acc
  | d + 1, k, acc => if T k = 30000 then .inr acc else if ¬ zq_lwd ft (T k) then .inl (1, k) else if acc.length = 16 then .inl (3, k) else match zq_ln T m ft k with
    | .inl e => .inl e
    | .inr (k1, x) => zq_lw T m ft d k1 (acc ++ [x])
theorem lnLen_app (acc : List LLn) (x : LLn) : lnLen (acc ++ [x]) = lnLen acc + x.2.1.length + x.2.2.length := by
  simp [lnLen, Nat.add_assoc]
theorem lnEnc_app (acc : List LLn) (x : LLn) : lnEnc (acc ++ [x]) = lnEnc acc + zq_E x.2.1 + zq_E x.2.2 := by
  simp [lnEnc, zq_E, Nat.add_assoc]
theorem zq_lnle (l : List LLn) : lnLen l ≤ lnEnc l := by
  induction l with
  | nil => exact Nat.le_refl _
  | cons x t ih =>
    rw [lnLen_cons, lnEnc_cons]
    have h1 := zq_len x.2.1
    have h2 := zq_len x.2.2
    unfold zq_E at h1 h2
    omega
section LAWP
variable {T : Nat → Nat} {m : Nat}
theorem zq_am_a {ft : Bool} {k k1 : Nat} {e : List Int32} (hT : T m = 30000) (hk : k < m) (h : zq_am T m ft k = .inr (k1, e)) : k < k1 ∧ k1 ≤ m ∧ zq_E e + k + 1 ≤ k1 ∧ (if ft = true then depL [] e = some [false] else e = []) := by
  unfold zq_am at h
  cases ft with
  | true =>
    rw [if_pos rfl] at h
    have a := zq_su_a hT (by omega) h
    have e0 : zq_E [] = 0 := rfl
    rw [if_pos rfl]
    exact ⟨by omega, a.2.1, by omega, zq_su_t (by simp) h rfl⟩
  | false =>
    rw [if_neg (by decide)] at h
    obtain ⟨rfl, rfl⟩ := zq_inj h
    have e0 : zq_E [] = 0 := rfl
    rw [if_neg (by decide)]
    exact ⟨by omega, by omega, by omega, rfl⟩
theorem zq_wn_a {k k1 : Nat} {b : List Int32} (hT : T m = 30000) (hk : k ≤ m) (h : zq_wn T m k = .inr (k1, b)) : k ≤ k1 ∧ k1 ≤ m ∧ zq_E b + k ≤ k1 ∧ (b = [] ∨ depL [] b = some [true]) := by
  unfold zq_wn at h
  have e0 : zq_E [] = 0 := rfl
  by_cases q : T k = 10014
  · rw [if_pos q] at h
    have hlt := zq_lt hT hk q (by decide)
    have a := zq_cd_a hT (by omega) h
    exact ⟨by omega, a.2.1, by omega, Or.inr (zq_cd_t (by simp) h rfl)⟩
  · rw [if_neg q] at h
    obtain ⟨rfl, rfl⟩ := zq_inj h
    exact ⟨by omega, by omega, by omega, Or.inl rfl⟩
theorem zq_ln_a {ft : Bool} {k k1 : Nat} {x : LLn} (hT : T m = 30000) (hk : k < m) (hw : zq_lwd ft (T k)) (h : zq_ln T m ft k = .inr (k1, x)) : k < k1 ∧ k1 ≤ m ∧ zq_E x.2.1 + zq_E x.2.2 + k ≤ k1 ∧ OkLn ft x := by
  unfold zq_ln at h
  cases ha : zq_am T m ft k with
  | inl e => rw [ha] at h; cases h
  | inr y =>
    obtain ⟨k2, e⟩ := y
    rw [ha] at h
    replace h : (match zq_wn T m k2 with
      | .inl x => (.inl x : zq_RL)
      | .inr (k2, b) => if T k2 = 20059 then .inr (k2 + 1, (nI (T k), e, b)) else .inl (1, k2)) = .inr (k1, x) := h
    have a := zq_am_a hT hk ha
    cases hb : zq_wn T m k2 with
    | inl e => rw [hb] at h; cases h
    | inr y =>
      obtain ⟨k3, b⟩ := y
      rw [hb] at h
      replace h : (if T k3 = 20059 then (.inr (k3 + 1, (nI (T k), e, b)) : zq_RL) else .inl (1, k3)) = .inr (k1, x) := h
      have c := zq_wn_a hT a.2.1 hb
      by_cases q : T k3 = 20059
      · rw [if_pos q] at h
        have hlt := zq_lt hT c.2.1 q (by decide)
        cases h
        refine ⟨by omega, by omega, by show zq_E e + zq_E b + k ≤ k3 + 1; omega, ?_, c.2.2.2⟩
        rcases hw with ⟨rfl, z⟩ | ⟨rfl, z⟩
        · rw [if_pos rfl]
          have a4 := a.2.2.2
          rw [if_pos rfl] at a4
          exact ⟨bnd_n (by omega) (by omega) (by omega), a4⟩
        · rw [if_neg (by decide)]
          have a4 := a.2.2.2
          rw [if_neg (by decide)] at a4
          exact ⟨bnd_n (by omega) (by omega) (by omega), a4⟩
      · rw [if_neg q] at h; cases h
theorem zq_lw_a {ft : Bool} (hT : T m = 30000) : ∀ (d k : Nat) (acc r : List LLn), k ≤ m → acc.length ≤ 16 → (∀ x ∈ acc, OkLn ft x) → lnEnc acc ≤ k → zq_lw T m ft d k acc = .inr r → r.length ≤ 16 ∧ (∀ x ∈ r, OkLn ft x) ∧ lnEnc r ≤ m
  | 0, k, acc, r, hk, h1, h2, h3, h => by
    cases h
    exact ⟨h1, h2, by omega⟩
  | d + 1, k, acc, r, hk, h1, h2, h3, h => by
    unfold zq_lw at h
    by_cases q0 : T k = 30000
    · rw [if_pos q0] at h
      cases h
      exact ⟨h1, h2, by omega⟩
    · rw [if_neg q0] at h
      by_cases q1 : zq_lwd ft (T k)
      · rw [if_neg (fun z => z q1)] at h
        by_cases q2 : acc.length = 16
        · rw [if_pos q2] at h; cases h
        · rw [if_neg q2] at h
          have hlt : k < m := by
            rcases Nat.lt_or_ge k m with z | z
            · exact z
            · exact absurd (by rw [show k = m by omega]; exact hT) q0
          cases hl : zq_ln T m ft k with
          | inl e => rw [hl] at h; cases h
          | inr y =>
            obtain ⟨k1, x⟩ := y
            rw [hl] at h
            have a := zq_ln_a hT hlt q1 hl
            refine zq_lw_a hT d k1 (acc ++ [x]) r a.2.1 (by rw [List.length_append, List.length_singleton]; omega) (fun z hz => ?_) (by rw [lnEnc_app]; omega) h
            rcases List.mem_append.mp hz with hz | hz
            · exact h2 z hz
            · rw [List.mem_singleton.mp hz]; exact a.2.2.2
      · rw [if_pos q1] at h; cases h
end LAWP
theorem zq_Ca {wo fr wh sp co wo' fr' wh' sp' co' : Nat → Int32} {w : Int32} {e b : List Int32} : ∀ (acc : List LLn) (i p : Nat), (∀ j : Nat, j < i + acc.length → wo' j = wo j ∧ fr' j = fr j ∧ wh' j = wh j ∧ sp' j = sp j) → (∀ j : Nat, j < p + lnLen acc → co' j = co j) → CLw wo fr wh sp co i p acc → wo' (i + acc.length) = w → fr' (i + acc.length) = nI (p + lnLen acc) → wh' (i + acc.length) = nI (p + lnLen acc + e.length) → sp' (i + acc.length) = nI (p + lnLen acc + e.length + b.length) → (∀ k : Nat, k < e.length → co' (p + lnLen acc + k) = e.getD k 0) → (∀ k : Nat, k < b.length → co' (p + lnLen acc + e.length + k) = b.getD k 0) → CLw wo' fr' wh' sp' co' i p (acc ++ [(w, e, b)])
  | [], i, p, _, _, _, h1, h2, h3, h4, h5, h6 => ⟨h1, h2, h3, h4, h5, h6, trivial⟩
  | (w1, e1, b1) :: t, i, p, ha, hc, h, h1, h2, h3, h4, h5, h6 => by
    have el : lnLen ((w1, e1, b1) :: t) = e1.length + b1.length + lnLen t := lnLen_cons _ _
    have ei : i + ((w1, e1, b1) :: t).length = i + 1 + t.length := by rw [List.length_cons]; omega
    have ep : p + lnLen ((w1, e1, b1) :: t) = p + e1.length + b1.length + lnLen t := by omega
    rw [ei] at ha h1 h2 h3 h4
    rw [ep] at hc h2 h3 h4 h5 h6
    obtain ⟨c1, c2, c3, c4, c5, c6, c7⟩ := h
    obtain ⟨a1, a2, a3, a4⟩ := ha i (by omega)
    exact ⟨by rw [a1]; exact c1, by rw [a2]; exact c2, by rw [a3]; exact c3, by rw [a4]; exact c4, fun k hk => by rw [hc _ (by omega)]; exact c5 k hk, fun k hk => by rw [hc _ (by omega)]; exact c6 k hk, zq_Ca t (i + 1) (p + e1.length + b1.length) ha hc c7 h1 h2 h3 h4 h5 h6⟩
def zq_cw (C : IM) (k : Nat) (acc : List LLn) : Prop := C 100 7 = nI k ∧ C 101 0 = nI acc.length ∧ C 101 5 = nI (lnLen acc) ∧ CLw (C 102) (C 103) (C 104) (C 105) (C 106) 0 0 acc
def zq_cg (C C1 : IM) : Prop := fr [100, 101, 102, 103, 104, 105, 106] C C1
theorem zq_cg_c {p : Nat} {C C1 : IM} (h : zq_cf p C C1) : zq_cg C C1 := fr_sub h.2.2 (by decide)
theorem zq_ct_g {m : Nat} {C C1 : IM} {T P : Nat → Nat} (h : zq_cg C C1) (hc : zq_ct C T P m) : zq_ct C1 T P m := by
  refine ⟨hc.1, hc.2.1, fun k hk => ?_⟩
  rw [h 117 (by decide), h 118 (by decide)]
  exact hc.2.2 k hk
def zq_cln (P : Nat → Nat) (C : IM) (acc : List LLn) (x : IR) (r : zq_RL) : Prop := match r with
  | .inl (f, k) => ∃ C1, x = some (0, C1) ∧ zq_cg C C1 ∧ C1 100 0 = nI f ∧ C1 100 1 = nI (P k)
  | .inr (k, y) => ∃ C1, x = some (1, C1) ∧ zq_cg C C1 ∧ (C1 100 0 = C 100 0 ∧ C1 100 1 = C 100 1) ∧ zq_cw C1 k (acc ++ [y])
section LAWC
variable {T P : Nat → Nat} {m : Nat} {C : IM} {ft : Bool}
theorem zq_l80 {k : Nat} (hc : zq_ct C T P m) (hk : k ≤ m) (h7 : C 100 7 = nI k) : (zq_lwd ft (T k) → f_X6_readsLawLine (zq_bI ft) C = f_X6_readsLawLine_80 (zq_bI ft) (nI (T k)) C) ∧ (¬ zq_lwd ft (T k) → f_X6_readsLawLine (zq_bI ft) C = some (0, ms (ms C 100 0 1) 100 1 (nI (P k)))) := by
  have hr := zq_ref (f := 1) hc hk h7
  have e0 : f_X6_readsLawLine (zq_bI ft) C = if nI (T k) = 10011 then f_X6_readsLawLine_36 (zq_bI ft) (nI (T k)) 1 C else if nI (T k) = 10012 then f_X6_readsLawLine_36 (zq_bI ft) (nI (T k)) 1 C else if nI (T k) = 10013 then f_X6_readsLawLine_36 (zq_bI ft) (nI (T k)) 1 C else f_X6_readsLawLine_36 (zq_bI ft) (nI (T k)) 0 C := by
    unfold f_X6_readsLawLine
    rw [zq_tk hc hk h7]
  have bad : ∀ y : Int32, f_X6_readsLawLine_56 0 (nI (T k)) y 0 C = some (0, ms (ms C 100 0 1) 100 1 (nI (P k))) := fun y => by
    unfold f_X6_readsLawLine_56
    rw [if_pos rfl, if_pos rfl, cl_s hr, rz_0]
  have bad1 : ∀ y : Int32, f_X6_readsLawLine_56 1 (nI (T k)) 0 y C = some (0, ms (ms C 100 0 1) 100 1 (nI (P k))) := fun y => by
    unfold f_X6_readsLawLine_56
    rw [if_neg (by decide), if_pos rfl, cl_s hr, rz_0]
  refine ⟨fun h => ?_, fun h => ?_⟩
  · rw [e0]
    rcases h with ⟨rfl, z | z | z⟩ | ⟨rfl, z | z⟩ <;> rw [z] <;> rfl
  · rw [e0]
    have no : ∀ c : Nat, c < 100000 → ¬ T k = c → ∀ v : Int32, nI c = v → ¬ nI (T k) = v := fun c hl hn v hv => zq_nt hc hk hl hv hn
    cases ft with
    | true =>
      have h1 : ¬ T k = 10011 := fun z => h (Or.inl ⟨rfl, Or.inl z⟩)
      have h2 : ¬ T k = 10012 := fun z => h (Or.inl ⟨rfl, Or.inr (Or.inl z)⟩)
      have h3 : ¬ T k = 10013 := fun z => h (Or.inl ⟨rfl, Or.inr (Or.inr z)⟩)
      rw [if_neg (no 10011 (by decide) h1 10011 rfl), if_neg (no 10012 (by decide) h2 10012 rfl), if_neg (no 10013 (by decide) h3 10013 rfl)]
      unfold f_X6_readsLawLine_36
      show (if nI (T k) = 10009 then f_X6_readsLawLine_56 1 (nI (T k)) 0 1 C else if nI (T k) = 10010 then f_X6_readsLawLine_56 1 (nI (T k)) 0 1 C else f_X6_readsLawLine_56 1 (nI (T k)) 0 0 C) = _
      rw [bad1 1, bad1 0]
      split
      · rfl
      · split <;> rfl
    | false =>
      have h1 : ¬ T k = 10009 := fun z => h (Or.inr ⟨rfl, Or.inl z⟩)
      have h2 : ¬ T k = 10010 := fun z => h (Or.inr ⟨rfl, Or.inr z⟩)
      have e36 : ∀ y : Int32, f_X6_readsLawLine_36 0 (nI (T k)) y C = some (0, ms (ms C 100 0 1) 100 1 (nI (P k))) := fun y => by
        unfold f_X6_readsLawLine_36
        rw [if_neg (no 10009 (by decide) h1 10009 rfl), if_neg (no 10010 (by decide) h2 10010 rfl)]
        exact bad y
      show (if nI (T k) = 10011 then f_X6_readsLawLine_36 0 (nI (T k)) 1 C else if nI (T k) = 10012 then f_X6_readsLawLine_36 0 (nI (T k)) 1 C else if nI (T k) = 10013 then f_X6_readsLawLine_36 0 (nI (T k)) 1 C else f_X6_readsLawLine_36 0 (nI (T k)) 0 C) = _
      rw [e36 1, e36 0]
      split
      · rfl
      · split
        · rfl
        · split <;> rfl
theorem zq_lnc {k : Nat} {acc : List LLn} (hc : zq_ct C T P m) (hk : k < m) (hw : zq_lwd ft (T k)) (h : zq_cw C k acc) (hl : acc.length < 16) (hb : lnEnc acc ≤ k) : zq_cln P C acc (f_X6_readsLawLine (zq_bI ft) C) (zq_ln T m ft k) := by
  obtain ⟨h7, h0, h5, hL⟩ := h
  have hm := hc.1
  have hple := zq_lnle acc
  rw [(zq_l80 hc (by omega) h7).1 hw]
  generalize hp : lnLen acc = p at *
  generalize hi : acc.length = i at *
  obtain ⟨C2, e2⟩ : ∃ C2 : IM, C2 = ms (ms (ms C 100 7 (nI (k + 1))) 102 i (nI (T k))) 103 i (nI p) := ⟨_, rfl⟩
  have g2 : zq_cg C C2 := by rw [e2]; exact fr_ms (fr_ms (fr_ms fr_rf (by decide)) (by decide)) (by decide)
  have c2 := zq_ct_g g2 hc
  have f2 : C2 100 0 = C 100 0 ∧ C2 100 1 = C 100 1 := by rw [e2]; exact ⟨by rw [ms_ne (by decide), ms_ne (by decide), ms_at (by decide)], by rw [ms_ne (by decide), ms_ne (by decide), ms_at (by decide)]⟩
  have s2 : zq_cs C2 (k + 1) p [] := by
    rw [e2]
    exact ⟨by rw [ms_ne (by decide), ms_ne (by decide), ms_it], by rw [ms_ne (by decide), ms_ne (by decide), ms_ne (by decide), h5]; rfl, fun j hj => absurd hj (by simp)⟩
  have z2 : C2 101 0 = nI i := by rw [e2, ms_ne (by decide), ms_ne (by decide), ms_ne (by decide)]; exact h0
  have eb : f_X3_beginLine 101 (nI (T k)) (ms C 100 7 (nI (k + 1))) = some (0, C2) := by
    unfold f_X3_beginLine
    have m0 : ms C 100 7 (nI (k + 1)) 101 0 = nI i := by rw [ms_ne (by decide)]; exact h0
    have m5 : ms C 100 7 (nI (k + 1)) 101 5 = nI p := by rw [ms_ne (by decide)]; exact h5
    rw [m0, wrK (j := i) rfl (by omega) (by decide), ms_ne (by decide), m0, m5, wrK (j := i) rfl (by omega) (by decide), e2]
  have eA : f_X6_readsLawLine_80 (zq_bI ft) (nI (T k)) C = cl (if ft = true then f_X6_readsSum C2 else some (1, C2)) (fun w27 M28 => if w27 = 0 then some (0, M28) else f_X6_readsLawLine_123 M28) := by
    unfold f_X6_readsLawLine_80
    rw [if_pos (show C 101 0 < 16 by rw [h0]; exact nI_lt (b := 16) hl (by decide)), cl_s (zq_take hc hk h7), cl_s eb]
    cases ft with
    | true => rfl
    | false =>
      rw [if_neg (show ¬ false = true by decide)]
      rfl
  have hA : zq_cr P p C2 (if ft = true then f_X6_readsSum C2 else some (1, C2)) (zq_am T m ft k) := by
    unfold zq_am
    cases ft with
    | true =>
      rw [if_pos rfl, if_pos rfl]
      exact zq_sum c2 (by omega) s2 (by show p + 0 ≤ _; omega)
    | false =>
      rw [if_neg (by decide), if_neg (by decide)]
      exact ⟨C2, rfl, zq_ok_rf, s2⟩
  rw [eA]
  unfold zq_ln
  cases ha : zq_am T m ft k with
  | inl y =>
    rw [ha] at hA
    obtain ⟨C3, a1, a2, a3, a4⟩ := hA
    rw [cl_s a1]
    exact ⟨C3, rfl, fr_tr g2 (zq_cg_c a2), a3, a4⟩
  | inr y =>
    obtain ⟨k1, e⟩ := y
    rw [ha] at hA
    obtain ⟨C3, a1, a2, a3⟩ := hA
    have am := zq_am_a hc.2.1 hk ha
    rw [cl_s a1, if_neg (by decide)]
    show zq_cln P C acc (f_X6_readsLawLine_123 C3) (match zq_wn T m k1 with
      | .inl x => .inl x
      | .inr (k2, b) => if T k2 = 20059 then .inr (k2 + 1, (nI (T k), e, b)) else .inl (1, k2))
    have c3 := zq_ct_f a2.1 c2
    have g3 : zq_cg C C3 := fr_tr g2 (zq_cg_c a2.1)
    have z3 : C3 101 0 = nI i := by rw [a2.1.2.1]; exact z2
    have hle := zq_len e
    obtain ⟨C4, e4⟩ : ∃ C4 : IM, C4 = ms C3 104 i (nI (p + e.length)) := ⟨_, rfl⟩
    have g4' : zq_cg C3 C4 := by rw [e4]; exact fr_ms fr_rf (by decide)
    have g4 : zq_cg C C4 := fr_tr g3 g4'
    have c4 := zq_ct_g g4' c3
    have s4 : zq_cs C4 k1 (p + e.length) [] := by
      rw [e4]
      exact ⟨by rw [ms_ne (by decide)]; exact a3.1, by rw [ms_ne (by decide)]; exact a3.2.1, fun j hj => absurd hj (by simp)⟩
    have f4 : C4 100 0 = C 100 0 ∧ C4 100 1 = C 100 1 := by
      rw [e4]
      exact ⟨by rw [ms_ne (by decide), a2.2.1, f2.1], by rw [ms_ne (by decide), a2.2.2, f2.2]⟩
    have ec : f_X3_beginCondition 101 C3 = some (0, C4) := by
      unfold f_X3_beginCondition
      rw [z3, wrK (j := i) rfl (by omega) (by decide), a3.2.1, e4]
    have eB : f_X6_readsLawLine_123 C3 = cl (if T k1 = 10014 then f_X6_readsCondition 0 (ms C4 100 7 (nI (k1 + 1))) else some (1, C4)) (fun w44 M45 => if w44 = 0 then some (0, M45) else f_X6_readsLawLine_159 M45) := by
      unfold f_X6_readsLawLine_123
      rw [cl_s ec, zq_tk c4 am.2.1 s4.1]
      by_cases q : T k1 = 10014
      · have hlt := zq_lt hc.2.1 am.2.1 q (by decide)
        rw [if_pos (by rw [q]; rfl), if_pos q, cl_s (zq_take c4 hlt s4.1)]
      · rw [if_neg (zq_nt (c := 10014) (v := 10014) c4 am.2.1 (by decide) rfl q), if_neg q]
        rfl
    have hB : zq_cr P (p + e.length) C4 (if T k1 = 10014 then f_X6_readsCondition 0 (ms C4 100 7 (nI (k1 + 1))) else some (1, C4)) (zq_wn T m k1) := by
      unfold zq_wn
      by_cases q : T k1 = 10014
      · have hlt := zq_lt hc.2.1 am.2.1 q (by decide)
        rw [if_pos q, if_pos q]
        exact zq_cr_go zq_ok_t (zq_cond (zq_ct_f (p := 0) zq_ok_t.1 c4) (by omega) (zq_cs_t s4) (by show p + e.length + 0 ≤ _; omega))
      · rw [if_neg q, if_neg q]
        exact ⟨C4, rfl, zq_ok_rf, s4⟩
    rw [eB]
    cases hb2 : zq_wn T m k1 with
    | inl y =>
      rw [hb2] at hB
      obtain ⟨C6, b1, b2, b3, b4⟩ := hB
      rw [cl_s b1]
      exact ⟨C6, rfl, fr_tr g4 (zq_cg_c b2), b3, b4⟩
    | inr y =>
      obtain ⟨k2, b⟩ := y
      rw [hb2] at hB
      obtain ⟨C6, b1, b2, b3⟩ := hB
      have bm := zq_wn_a hc.2.1 am.2.1 hb2
      have c6 := zq_ct_f b2.1 c4
      have g6 : zq_cg C C6 := fr_tr g4 (zq_cg_c b2.1)
      rw [cl_s b1, if_neg (by decide)]
      show zq_cln P C acc (f_X6_readsLawLine_159 C6) (if T k2 = 20059 then .inr (k2 + 1, (nI (T k), e, b)) else .inl (1, k2))
      obtain ⟨t1, t2⟩ := zq_tks (c := 20059) c6 bm.2.1 b3.1 (by decide)
      unfold f_X6_readsLawLine_159
      by_cases y : T k2 = 20059
      · rw [if_pos y, cl_s (show f_X6_takes 20059 C6 = _ from t1 y), if_neg (by decide)]
        have z6 : C6 101 0 = nI i := by rw [b2.1.2.1, e4, ms_ne (by decide)]; exact z3
        obtain ⟨C8, e8⟩ : ∃ C8 : IM, C8 = ms (ms (ms C6 100 7 (nI (k2 + 1))) 105 i (nI (p + e.length + b.length))) 101 0 (nI (i + 1)) := ⟨_, rfl⟩
        have ee : f_X3_endLine 101 (ms C6 100 7 (nI (k2 + 1))) = some (0, C8) := by
          unfold f_X3_endLine
          have m0 : ms C6 100 7 (nI (k2 + 1)) 101 0 = nI i := by rw [ms_ne (by decide)]; exact z6
          have m5 : ms C6 100 7 (nI (k2 + 1)) 101 5 = nI (p + e.length + b.length) := by rw [ms_ne (by decide)]; exact b3.2.1
          rw [m0, wrK (j := i) rfl (by omega) (by decide), m5]
          simp only [pt]
          rw [ms_ne (by decide), m0, nI_1, e8]
        rw [cl_s ee]
        have r8 : ∀ q : Nat, ¬ q = 100 → ¬ q = 101 → ¬ q = 105 → C8 q = C6 q := fun q q1 q2 q3 => by rw [e8, ms_ne q2, ms_ne q3, ms_ne q1]
        have r6 : ∀ q : Nat, q ∉ [100, 101, 106] → C6 q = C4 q := b2.1.2.2
        have r4 : ∀ q : Nat, ¬ q = 104 → C4 q = C3 q := fun q q1 => by rw [e4, ms_ne q1]
        have r3 : ∀ q : Nat, q ∉ [100, 101, 106] → C3 q = C2 q := a2.1.2.2
        have w102 : C8 102 = C2 102 := by rw [r8 102 (by decide) (by decide) (by decide), r6 102 (by decide), r4 102 (by decide), r3 102 (by decide)]
        have w103 : C8 103 = C2 103 := by rw [r8 103 (by decide) (by decide) (by decide), r6 103 (by decide), r4 103 (by decide), r3 103 (by decide)]
        have w104 : C8 104 = C4 104 := by rw [r8 104 (by decide) (by decide) (by decide), r6 104 (by decide)]
        have w106 : C8 106 = C6 106 := r8 106 (by decide) (by decide) (by decide)
        have o102 : ∀ j : Nat, ¬ j = i → C8 102 j = C 102 j := fun j hj => by rw [w102, e2, ms_ne (by decide), ms_at hj, ms_ne (by decide)]
        have o103 : ∀ j : Nat, ¬ j = i → C8 103 j = C 103 j := fun j hj => by rw [w103, e2, ms_at hj, ms_ne (by decide), ms_ne (by decide)]
        have o104 : ∀ j : Nat, ¬ j = i → C8 104 j = C 104 j := fun j hj => by rw [w104, e4, ms_at hj, r3 104 (by decide), e2, ms_ne (by decide), ms_ne (by decide), ms_ne (by decide)]
        have o105 : ∀ j : Nat, ¬ j = i → C8 105 j = C 105 j := fun j hj => by rw [e8, ms_ne (by decide), ms_at hj, ms_ne (by decide), r6 105 (by decide), r4 105 (by decide), r3 105 (by decide), e2, ms_ne (by decide), ms_ne (by decide), ms_ne (by decide)]
        have o106 : ∀ j : Nat, j < p + e.length → C8 106 j = C3 106 j := fun j hj => by rw [w106, b2.1.1 j hj, r4 106 (by decide)]
        have o106b : ∀ j : Nat, j < p → C8 106 j = C 106 j := fun j hj => by rw [o106 j (by omega), a2.1.1 j hj, e2, ms_ne (by decide), ms_ne (by decide), ms_ne (by decide)]
        refine ⟨C8, rfl, ?_, ⟨?_, ?_⟩, ?_, ?_, ?_, ?_⟩
        · rw [e8]; exact fr_ms (fr_ms (fr_ms g6 (by decide)) (by decide)) (by decide)
        · rw [e8, ms_ne (by decide), ms_ne (by decide), ms_at (by decide), b2.2.1, f4.1]
        · rw [e8, ms_ne (by decide), ms_ne (by decide), ms_at (by decide), b2.2.2, f4.2]
        · rw [e8, ms_ne (by decide), ms_ne (by decide), ms_it]
        · rw [e8, ms_it, List.length_append, hi]; rfl
        · rw [e8, ms_at (by decide), ms_ne (by decide), ms_ne (by decide), b3.2.1, lnLen_app, hp]
        · refine zq_Ca acc 0 0 (fun j hj => ?_) (fun j hj => ?_) hL ?_ ?_ ?_ ?_ (fun j hj => ?_) (fun j hj => ?_)
          · rw [hi] at hj
            exact ⟨o102 j (by omega), o103 j (by omega), o104 j (by omega), o105 j (by omega)⟩
          · rw [hp] at hj
            exact o106b j (by omega)
          · rw [hi, Nat.zero_add, w102, e2, ms_ne (by decide), ms_it]
          · rw [hi, hp, Nat.zero_add, Nat.zero_add, w103, e2, ms_it]
          · rw [hi, hp, Nat.zero_add, Nat.zero_add, w104, e4, ms_it]
          · rw [hi, hp, Nat.zero_add, Nat.zero_add, e8, ms_ne (by decide), ms_it]
          · rw [hp, Nat.zero_add, o106 _ (by omega)]
            exact a3.2.2 j hj
          · rw [hp, Nat.zero_add, w106]
            exact b3.2.2 j hj
      · rw [if_neg y, cl_s (show f_X6_takes 20059 C6 = _ from t2 y), if_pos rfl]
        exact ⟨_, rfl, fr_ms (fr_ms g6 (by decide)) (by decide), (zq_cf_r (p := 0)).2.1, (zq_cf_r (p := 0)).2.2⟩
def zq_clw (P : Nat → Nat) (m : Nat) (C : IM) (x : IR) (r : zq_RW) : Prop := match r with
  | .inl (f, k) => ∃ C1, x = some (0, C1) ∧ zq_cg C C1 ∧ C1 100 0 = nI f ∧ C1 100 1 = nI (P k)
  | .inr y => ∃ C1, x = some (1, C1) ∧ zq_cg C C1 ∧ (C1 100 0 = C 100 0 ∧ C1 100 1 = C 100 1) ∧ ∃ k, zq_cw C1 k y
theorem zq_lwc : ∀ (d n k : Nat) (acc : List LLn) (C : IM), m ≤ k + d → k ≤ m → zq_ct C T P m → zq_cw C k acc → acc.length ≤ 16 → lnEnc acc ≤ k → m < n + k → zq_clw P m C (f_X6_readsLaw_9 n (zq_bI ft) (nI acc.length) C) (zq_lw T m ft d k acc) := by
  intro d
  induction d with
  | zero =>
    intro n k acc C hd hk hc h hl hb hn
    obtain ⟨n, rfl⟩ : ∃ i, n = i + 1 := ⟨n - 1, by omega⟩
    have ekm : k = m := by omega
    show zq_clw P m C (f_X6_readsLaw_9_b (f_X6_readsLaw_9 n) (zq_bI ft) (nI acc.length) C) (.inr acc)
    unfold f_X6_readsLaw_9_b
    rw [if_neg (show ¬ (16 : Int32) < nI acc.length from nI_nlt (a := 16) hl (by decide)), zq_tk hc hk h.1, ekm, hc.2.1, if_pos (by decide)]
    exact ⟨C, rfl, fr_rf, ⟨rfl, rfl⟩, k, h⟩
  | succ d ih =>
    intro n k acc C hd hk hc h hl hb hn
    obtain ⟨n, rfl⟩ : ∃ i, n = i + 1 := ⟨n - 1, by omega⟩
    show zq_clw P m C (f_X6_readsLaw_9_b (f_X6_readsLaw_9 n) (zq_bI ft) (nI acc.length) C) _
    unfold f_X6_readsLaw_9_b zq_lw
    rw [if_neg (show ¬ (16 : Int32) < nI acc.length from nI_nlt (a := 16) hl (by decide)), zq_tk hc hk h.1]
    by_cases q0 : T k = 30000
    · rw [if_pos q0, if_pos (by rw [q0]; rfl)]
      exact ⟨C, rfl, fr_rf, ⟨rfl, rfl⟩, k, h⟩
    · have hlt : k < m := by
        rcases Nat.lt_or_ge k m with z | z
        · exact z
        · exact absurd (by rw [show k = m by omega]; exact hc.2.1) q0
      rw [if_neg q0, if_neg (zq_nt (c := 30000) (v := 30000) hc hk (by decide) rfl q0)]
      by_cases q1 : zq_lwd ft (T k)
      · rw [if_neg (fun z => z q1)]
        by_cases q2 : acc.length = 16
        · have e3 : f_X6_readsLawLine (zq_bI ft) C = some (0, ms (ms C 100 0 3) 100 1 (nI (P k))) := by
            rw [(zq_l80 hc hk h.1).1 q1]
            unfold f_X6_readsLawLine_80
            rw [if_neg (show ¬ C 101 0 < 16 by rw [h.2.1, q2]; decide), cl_s (zq_ref hc hk h.1), rz_0]
          rw [if_pos q2, cl_s e3, if_pos rfl]
          exact ⟨_, rfl, fr_ms (fr_ms fr_rf (by decide)) (by decide), (zq_cf_r (p := 0)).2.1, (zq_cf_r (p := 0)).2.2⟩
        · rw [if_neg q2]
          have hL := zq_lnc hc hlt q1 h (by omega) hb
          cases hr : zq_ln T m ft k with
          | inl y =>
            rw [hr] at hL
            obtain ⟨C1, a1, a2, a3, a4⟩ := hL
            rw [cl_s a1, if_pos rfl]
            exact ⟨C1, rfl, a2, a3, a4⟩
          | inr y =>
            obtain ⟨k1, x⟩ := y
            rw [hr] at hL
            obtain ⟨C1, a1, a2, a3, a4⟩ := hL
            have a := zq_ln_a hc.2.1 hlt q1 hr
            have ex : (acc ++ [x]).length = acc.length + 1 := by rw [List.length_append, List.length_singleton]
            have hI := ih n k1 (acc ++ [x]) C1 (by omega) a.2.1 (zq_ct_g a2 hc) a4 (by omega) (by rw [lnEnc_app]; omega) (by omega)
            rw [cl_s a1, if_neg (by decide)]
            simp only [lt]
            rw [nI_1, ← ex]
            show zq_clw P m C (f_X6_readsLaw_9 n (zq_bI ft) (nI (acc ++ [x]).length) C1) (zq_lw T m ft d k1 (acc ++ [x]))
            cases hz : zq_lw T m ft d k1 (acc ++ [x]) with
            | inl y =>
              rw [hz] at hI
              obtain ⟨C2, b1, b2, b3, b4⟩ := hI
              exact ⟨C2, b1, fr_tr a2 b2, b3, b4⟩
            | inr y =>
              rw [hz] at hI
              obtain ⟨C2, b1, b2, b3, b4⟩ := hI
              exact ⟨C2, b1, fr_tr a2 b2, ⟨b3.1.trans a3.1, b3.2.trans a3.2⟩, b4⟩
      · rw [if_pos q1, cl_s ((zq_l80 hc hk h.1).2 q1), if_pos rfl]
        exact ⟨_, rfl, fr_ms (fr_ms fr_rf (by decide)) (by decide), (zq_cf_r (p := 0)).2.1, (zq_cf_r (p := 0)).2.2⟩
theorem zq_lawc (hc : zq_ct C T P m) (h7 : C 100 7 = nI 0) : zq_clw P m C (f_X6_readsLaw (zq_bI ft) C) (zq_lw T m ft m 0 []) := by
  have hm := hc.1
  have e0 : f_X6_readsLaw (zq_bI ft) C = f_X6_readsLaw_9 BG (zq_bI ft) (nI ([] : List LLn).length) (ms (ms C 101 0 0) 101 5 0) := rfl
  have g0 : zq_cg C (ms (ms C 101 0 0) 101 5 0) := fr_ms (fr_ms fr_rf (by decide)) (by decide)
  have hw : zq_cw (ms (ms C 101 0 0) 101 5 0) 0 [] := ⟨by rw [ms_ne (by decide), ms_ne (by decide)]; exact h7, by rw [ms_at (by decide), ms_it]; rfl, by rw [ms_it]; rfl, trivial⟩
  have hI := zq_lwc (ft := ft) m BG 0 [] _ (by omega) (by omega) (zq_ct_g g0 hc) hw (by decide) (by decide) (by unfold BG; omega)
  rw [e0]
  cases hz : zq_lw T m ft m 0 [] with
  | inl y =>
    rw [hz] at hI
    obtain ⟨C2, b1, b2, b3, b4⟩ := hI
    exact ⟨C2, b1, fr_tr g0 b2, b3, b4⟩
  | inr y =>
    rw [hz] at hI
    obtain ⟨C2, b1, b2, b3, b4⟩ := hI
    exact ⟨C2, b1, fr_tr g0 b2, ⟨by rw [b3.1, ms_ne (by decide), ms_ne (by decide)], by rw [b3.2, ms_ne (by decide), ms_ne (by decide)]⟩, b4⟩
end LAWC
