/-! watches: the class's sums -/
def WCl (M : IM) (p : Nat → Nat → Nat) (n : Nat) (a : Nat → Nat → Nat) (nd : Nat → Nat) : Prop :=
  M 127 2 = nI n ∧ (∀ w : Nat, w < n → ∀ k : Nat, k < 4 → M 129 (4 * w + k) = nI (p w k)) ∧ (∀ k : Nat, k < 4 → ∀ i : Nat, i < n → M 130 (10 * k + i) = nI (a k i)) ∧ (∀ k : Nat, k < 4 → (lsF (a k) 0 n).Perm (up 0 n)) ∧ (∀ k : Nat, k < 4 → Srt (fun w => p w k) (lsF (a k) 0 n)) ∧ (∀ k : Nat, k < 4 → M 131 k = nI (nd k)) ∧ ∀ k : Nat, k < 4 → nd k ≤ 10
theorem zq_xr {S v : Nat} (hv : v < 32) : (((nI S ^^^ (-1)) >>> (nI v &&& 31)) &&& 1) = if S.testBit v = true then 0 else 1 := by
  rw [tst hv, b_xor, b_m1 v hv, bt_n hv]
  cases S.testBit v <;> rfl
theorem zq_shl {s d : Nat} (hd : d < 32) : nI s <<< (nI d &&& 31) = nI (s <<< d) := b_ext (fun i hi => by rw [b_shl d hd _ hi, bt_n hi, bt_n (by omega), Nat.testBit_shiftLeft])
theorem zq_sh : ∀ j : Nat, j ≤ 10 → (1 : Int32) <<< (nI j &&& 31) = nI (2 ^ j) := by decide
theorem zq_bits : ∀ (j : Nat) (al : Nat → Bool), ∃ s : Nat, s < 2 ^ j ∧ ∀ i : Nat, i < j → s.testBit i = al i
  | 0, al => ⟨0, by decide, fun i h => by omega⟩
  | j + 1, al => by
    obtain ⟨s, h1, h2⟩ := zq_bits j (fun i => al (i + 1))
    have hp : 2 ^ (j + 1) = 2 ^ j * 2 := Nat.pow_succ 2 j
    obtain ⟨b, hb, hb2⟩ : ∃ b : Nat, b < 2 ∧ decide (b = 1) = al 0 := by
      cases al 0
      · exact ⟨0, by decide, rfl⟩
      · exact ⟨1, by decide, rfl⟩
    refine ⟨2 * s + b, by omega, fun i hi => ?_⟩
    cases i with
    | zero =>
      rw [Nat.testBit_zero, ← hb2]
      have : (2 * s + b) % 2 = b := by omega
      rw [this]
    | succ i =>
      rw [Nat.testBit_succ, show (2 * s + b) / 2 = s by omega]
      exact h2 i (by omega)
theorem pick_up {al al' : Nat → Bool} {q : Nat → Nat} {e n : Nat} (he : e ≤ n) (h1 : ∀ v : Nat, v < e → al v = false) (h2 : ∀ v : Nat, e ≤ v → v < n → al' v = al v) : ∀ (d i : Nat), i + d = e → ∀ r c : Nat, Pick al q (up i (n - i)) r c ↔ Pick al' q (up e (n - e)) r c := by
  intro d
  induction d with
  | zero =>
    intro i hi r c
    have : i = e := by omega
    subst this
    have hm : ∀ v ∈ up i (n - i), al' v = al v := fun v hv => by
      obtain ⟨x, x1, x2, x3⟩ := lsF_mem.mp hv
      exact h2 v (by omega) (by omega)
    exact ⟨pick_congr hm r c, pick_congr (fun v hv => (hm v hv).symm) r c⟩
  | succ d ih =>
    intro i hi r c
    rw [← ih (i + 1) (by omega) r c, show n - i = (n - (i + 1)) + 1 by omega, up_s]
    have hf := h1 i (by omega)
    constructor
    · rintro (h | ⟨z, -⟩)
      · exact h
      · rw [hf] at z; cases z
    · exact fun h => Or.inl h
theorem gr_le {al : Nat → Bool} {q : Nat → Nat} {m : Nat} (hq : ∀ v : Nat, q v ≤ m) : ∀ {l : List Nat} {r g : Nat}, gr al q l r = some g → g ≤ m * r
  | l, 0, g, h => by rw [gy_0] at h; cases h; exact Nat.zero_le _
  | [], r + 1, g, h => by cases h
  | w :: ws, r + 1, g, h => by
    unfold gr at h
    by_cases ha : al w = true
    · rw [if_pos ha] at h
      cases hg : gr al q ws r with
      | none => rw [hg] at h; cases h
      | some x =>
        rw [hg] at h
        simp only [Option.map_some, Option.some.injEq] at h
        have h1 := gr_le hq hg
        have h2 := hq w
        rw [Nat.mul_succ]
        omega
    · rw [if_neg ha] at h
      exact gr_le hq h
theorem sd_congr {p : Nat → Nat → Nat} {al al' : Nat → Bool} {ws : List Nat} {a b c d x : Nat} (h : ∀ v ∈ ws, al' v = al v) : Sd p al ws a b c d x → Sd p al' ws a b c d x := fun ⟨x0, x1, x2, x3, e, h0, h1, h2, h3⟩ =>
  ⟨x0, x1, x2, x3, e, pick_congr h _ _ h0, pick_congr (fun v hv => by show (!al' v) = !al v; rw [h v hv]) _ _ h1, pick_congr h _ _ h2, pick_congr (fun v hv => by show (!al' v) = !al v; rw [h v hv]) _ _ h3⟩
/-- who may take watch k -/
def alS (e S k : Nat) (v : Nat) : Bool := decide (e ≤ v) && (if k % 2 = 0 then S.testBit v else !S.testBit v)
def GS (G : Nat → Option Nat) : Nat → Nat → Nat → Prop
  | _, 0, t => t = 0
  | k, j + 1, t => ∃ x t' : Nat, G k = some x ∧ t = x + t' ∧ GS G (k + 1) j t'
section WATC
variable {M : IM} {p : Nat → Nat → Nat} {n : Nat} {a : Nat → Nat → Nat} {nd : Nat → Nat}
theorem wc_lt (h : WCl M p n a nd) {k i : Nat} (hk : k < 4) (hi : i < n) : a k i < n := by
  have h1 : a k i ∈ lsF (a k) 0 n := lsF_mem.mpr ⟨i, by omega, by omega, rfl⟩
  have h2 := (h.2.2.2.1 k hk).mem_iff.mp h1
  obtain ⟨x, x1, x2, x3⟩ := lsF_mem.mp h2
  omega
theorem sw_in {K : Int32 → Int32 → Int32 → Int32 → Int32 → IM → IR} {e S lim k : Nat} {mask y2 : Int32} (h : WCl M p n a nd) (hn : n ≤ 10) (hp : ∀ w k : Nat, p w k ≤ 594) (hk : k < 4) (he : e ≤ n) (hlim : lim ≤ 1000001) (hmask : ∀ v : Nat, v < 32 → ((mask >>> (nI v &&& 31)) &&& 1) = if (if k % 2 = 0 then S.testBit v else !S.testBit v) = true then 1 else 0) : ∀ (j f i tot rem : Nat), i + j = n → j < f → tot + 594 * rem ≤ 100000 → (∀ x : Nat, gr (alS e S k) (fun w => p w k) (lsF (a k) i j) rem = some x → f_X10_sumWith_40 K f (nI e) y2 (nI lim) (nI tot) (nI k) mask (nI rem) (nI i) M = if tot + x < lim then K (nI e) y2 (nI lim) (nI (tot + x)) (nI (k + 1)) M else some (nI lim, M)) ∧ (gr (alS e S k) (fun w => p w k) (lsF (a k) i j) rem = none → f_X10_sumWith_40 K f (nI e) y2 (nI lim) (nI tot) (nI k) mask (nI rem) (nI i) M = some (nI lim, M)) := by
  have fin0 : ∀ tot : Nat, tot ≤ 100000 → f_X10_sumWith_111 K (nI e) y2 (nI lim) (nI tot) (nI k) (nI 0) M = if tot < lim then K (nI e) y2 (nI lim) (nI tot) (nI (k + 1)) M else some (nI lim, M) := fun tot ht => by
    unfold f_X10_sumWith_111
    rw [if_neg (by decide)]
    simp only [lt]
    rw [nI_1]
    by_cases q : tot < lim
    · rw [if_pos q, if_pos (nI_lt q (by omega))]
    · rw [if_neg q, if_neg (nI_nlt (by omega) (by omega))]
  have fin1 : ∀ tot rem : Nat, 0 < rem → rem ≤ 1000 → f_X10_sumWith_111 K (nI e) y2 (nI lim) (nI tot) (nI k) (nI rem) M = some (nI lim, M) := fun tot rem h1 h2 => by
    unfold f_X10_sumWith_111
    rw [if_pos (show (0 : Int32) < nI rem from nI_lt (a := 0) h1 (by omega))]
  intro j
  induction j with
  | zero =>
    intro f i tot rem hi hf hb
    obtain ⟨m, rfl⟩ : ∃ m, f = m + 1 := ⟨f - 1, by omega⟩
    have hs : f_X10_sumWith_40 K (m + 1) (nI e) y2 (nI lim) (nI tot) (nI k) mask (nI rem) (nI i) M = f_X10_sumWith_111 K (nI e) y2 (nI lim) (nI tot) (nI k) (nI rem) M := by
      show f_X10_sumWith_40_b K (f_X10_sumWith_40 K m) _ _ _ _ _ _ _ _ M = _
      unfold f_X10_sumWith_40_b
      rw [h.1, if_pos (nI_le (by omega) (by omega))]
    rw [hs]
    cases rem with
    | zero =>
      refine ⟨fun x hx => ?_, fun hx => ?_⟩
      · rw [gy_0] at hx
        cases hx
        exact fin0 tot (by omega)
      · rw [gy_0] at hx; cases hx
    | succ rem =>
      refine ⟨fun x hx => ?_, fun _ => fin1 tot (rem + 1) (by omega) (by omega)⟩
      cases hx
  | succ j ih =>
    intro f i tot rem hi hf hb
    obtain ⟨m, rfl⟩ : ∃ m, f = m + 1 := ⟨f - 1, by omega⟩
    cases rem with
    | zero =>
      have hs : f_X10_sumWith_40 K (m + 1) (nI e) y2 (nI lim) (nI tot) (nI k) mask (nI 0) (nI i) M = f_X10_sumWith_111 K (nI e) y2 (nI lim) (nI tot) (nI k) (nI 0) M := by
        show f_X10_sumWith_40_b K (f_X10_sumWith_40 K m) _ _ _ _ _ _ _ _ M = _
        unfold f_X10_sumWith_40_b
        rw [h.1, if_neg (nI_ge (by omega) (by omega)), if_pos (by decide)]
      rw [hs]
      refine ⟨fun x hx => ?_, fun hx => ?_⟩
      · rw [gy_0] at hx
        cases hx
        exact fin0 tot (by omega)
      · rw [gy_0] at hx; cases hx
    | succ rem =>
      have hv := wc_lt h hk (show i < n by omega)
      have hpv := hp (a k i) k
      have eg : gr (alS e S k) (fun w => p w k) (lsF (a k) i (j + 1)) (rem + 1) = if alS e S k (a k i) = true then (gr (alS e S k) (fun w => p w k) (lsF (a k) (i + 1) j) rem).map (fun x => p (a k i) k + x) else gr (alS e S k) (fun w => p w k) (lsF (a k) (i + 1) j) (rem + 1) := rfl
      have hs : f_X10_sumWith_40 K (m + 1) (nI e) y2 (nI lim) (nI tot) (nI k) mask (nI (rem + 1)) (nI i) M = if alS e S k (a k i) = true then f_X10_sumWith_40 K m (nI e) y2 (nI lim) (nI (tot + p (a k i) k)) (nI k) mask (nI rem) (nI (i + 1)) M else f_X10_sumWith_40 K m (nI e) y2 (nI lim) (nI tot) (nI k) mask (nI (rem + 1)) (nI (i + 1)) M := by
        show f_X10_sumWith_40_b K (f_X10_sumWith_40 K m) _ _ _ _ _ _ _ _ M = _
        unfold f_X10_sumWith_40_b
        have e1 : nI k * 10 + nI i = nI (10 * k + i) := by rw [show (10 : Int32) = nI 10 from rfl, pk_mul, nI_add, Nat.mul_comm]
        have e2 : nI (a k i) * 4 + nI k = nI (4 * a k i + k) := by rw [show (4 : Int32) = nI 4 from rfl, pk_mul, nI_add, Nat.mul_comm]
        rw [h.1, if_neg (nI_ge (by omega) (by omega)), if_neg (nI_nle (by omega) (by omega)), rdK (j := 10 * k + i) e1 (by omega) (by decide), h.2.2.1 k hk i (by omega), hmask (a k i) (by omega), rdK (j := 4 * a k i + k) e2 (by omega) (by decide), h.2.1 (a k i) hv k hk]
        simp only [lt]
        rw [nI_1, nI_add, pk_m1]
        unfold alS
        by_cases q : e ≤ a k i
        · rw [if_neg (nI_nlt q (by omega)), decide_eq_true q, Bool.true_and]
          by_cases q2 : (if k % 2 = 0 then S.testBit (a k i) else !S.testBit (a k i)) = true
          · rw [if_pos q2, if_pos q2, if_neg (by decide)]
          · rw [if_neg q2, if_neg q2, if_pos rfl]
        · rw [if_pos (nI_lt (by omega) (by omega)), decide_eq_false q, Bool.false_and, if_neg (by decide)]
      rw [hs, eg]
      by_cases q : alS e S k (a k i) = true
      · rw [if_pos q, if_pos q]
        obtain ⟨i1, i2⟩ := ih m (i + 1) (tot + p (a k i) k) rem (by omega) (by omega) (by omega)
        cases hg : gr (alS e S k) (fun w => p w k) (lsF (a k) (i + 1) j) rem with
        | none => exact ⟨fun x hx => (by cases hx), fun _ => i2 hg⟩
        | some y =>
          refine ⟨fun x hx => ?_, fun hx => (by cases hx)⟩
          simp only [Option.map_some, Option.some.injEq] at hx
          rw [i1 y hg, ← hx, Nat.add_assoc]
      · rw [if_neg q, if_neg q]
        exact ih m (i + 1) tot (rem + 1) (by omega) (by omega) hb
theorem sw_G {S lim e : Nat} (h : WCl M p n a nd) (hn : n ≤ 10) (hp : ∀ w k : Nat, p w k ≤ 594) (he : e ≤ n) (hlim : lim ≤ 1000001) : ∀ (j f k tot : Nat), k + j = 4 → j < f → tot ≤ 5940 * k → (k = 0 ∨ tot < lim) → ∃ r : Nat, f_X10_sumWith_6 f (nI e) (nI S) (nI lim) (nI tot) (nI k) M = some (nI r, M) ∧ r ≤ lim ∧ (r < lim → ∃ t : Nat, GS (fun k => gr (alS e S k) (fun w => p w k) (lsF (a k) 0 n) (nd k)) k j t ∧ r = tot + t) ∧ ∀ t : Nat, GS (fun k => gr (alS e S k) (fun w => p w k) (lsF (a k) 0 n) (nd k)) k j t → r ≤ tot + t := by
  intro j
  induction j with
  | zero =>
    intro f k tot hk hf ht h0
    obtain ⟨m, rfl⟩ : ∃ m, f = m + 1 := ⟨f - 1, by omega⟩
    have : k = 4 := by omega
    subst this
    refine ⟨tot, ?_, by omega, fun _ => ⟨0, rfl, rfl⟩, fun t _ => by omega⟩
    show f_X10_sumWith_6_b (f_X10_sumWith_6 m) (nI e) (nI S) (nI lim) (nI tot) (nI 4) M = _
    unfold f_X10_sumWith_6_b
    rw [if_pos (by decide)]
  | succ j ih =>
    intro f k tot hk hf ht h0
    obtain ⟨m, rfl⟩ : ∃ m, f = m + 1 := ⟨f - 1, by omega⟩
    have hk4 : k < 4 := by omega
    have hnd := h.2.2.2.2.2.2 k hk4
    obtain ⟨mask, hmask, hs⟩ : ∃ mask : Int32, (∀ v : Nat, v < 32 → ((mask >>> (nI v &&& 31)) &&& 1) = if (if k % 2 = 0 then S.testBit v else !S.testBit v) = true then 1 else 0) ∧ f_X10_sumWith_6 (m + 1) (nI e) (nI S) (nI lim) (nI tot) (nI k) M = f_X10_sumWith_40 (f_X10_sumWith_6 m) BG (nI e) (nI S) (nI lim) (nI tot) (nI k) mask (nI (nd k)) (nI 0) M := by
      have h4 : ¬ (4 : Int32) ≤ nI k := nI_ge (b := 4) hk4 (by decide)
      by_cases q : k % 2 = 0
      · refine ⟨nI S, fun v hv => by rw [if_pos q, tst_n hv], ?_⟩
        have ek : (nI k &&& 1) = 0 := by
          have : k = 0 ∨ k = 2 := by omega
          rcases this with rfl | rfl <;> decide
        show f_X10_sumWith_6_b (f_X10_sumWith_6 m) _ _ _ _ _ M = _
        unfold f_X10_sumWith_6_b
        rw [if_neg h4, if_pos ek]
        unfold f_X10_sumWith_26
        rw [rdK (j := k) rfl hk4 (by decide), h.2.2.2.2.2.1 k hk4]
        rfl
      · refine ⟨nI S ^^^ (-1), fun v hv => ?_, ?_⟩
        · rw [if_neg q, zq_xr hv]
          cases S.testBit v <;> rfl
        · have ek : ¬ (nI k &&& 1) = 0 := by
            have : k = 1 ∨ k = 3 := by omega
            rcases this with rfl | rfl <;> decide
          show f_X10_sumWith_6_b (f_X10_sumWith_6 m) _ _ _ _ _ M = _
          unfold f_X10_sumWith_6_b
          rw [if_neg h4, if_neg ek]
          unfold f_X10_sumWith_26
          rw [rdK (j := k) rfl hk4 (by decide), h.2.2.2.2.2.1 k hk4]
          rfl
    obtain ⟨i1, i2⟩ := sw_in (K := f_X10_sumWith_6 m) (y2 := nI S) (S := S) (lim := lim) h hn hp hk4 he hlim hmask n BG 0 tot (nd k) (by omega) (by unfold BG; omega) (by omega)
    rw [hs]
    cases hg : gr (alS e S k) (fun w => p w k) (lsF (a k) 0 n) (nd k) with
    | none =>
      refine ⟨lim, i2 hg, Nat.le_refl _, fun z => by omega, fun t ht => ?_⟩
      obtain ⟨x, t', z, -⟩ := ht
      have z2 : gr (alS e S k) (fun w => p w k) (lsF (a k) 0 n) (nd k) = some x := z
      rw [hg] at z2
      cases z2
    | some x =>
      have hx := gr_le (m := 594) (fun v => hp v k) hg
      by_cases q : tot + x < lim
      · obtain ⟨r, g1, g2, g3, g4⟩ := ih m (k + 1) (tot + x) (by omega) (by omega) (by omega) (Or.inr q)
        refine ⟨r, by rw [i1 x hg, if_pos q]; exact g1, g2, fun z => ?_, fun t ht => ?_⟩
        · obtain ⟨t, t1, t2⟩ := g3 z
          exact ⟨x + t, ⟨x, t, hg, rfl, t1⟩, by omega⟩
        · obtain ⟨y, t', z, rfl, z3⟩ := ht
          have z2 : gr (alS e S k) (fun w => p w k) (lsF (a k) 0 n) (nd k) = some y := z
          rw [hg] at z2
          cases z2
          have := g4 t' z3
          omega
      · refine ⟨lim, by rw [i1 x hg, if_neg q], Nat.le_refl _, fun z => by omega, fun t ht => ?_⟩
        obtain ⟨y, t', z, rfl, z3⟩ := ht
        have z2 : gr (alS e S k) (fun w => p w k) (lsF (a k) 0 n) (nd k) = some y := z
        rw [hg] at z2
        cases z2
        omega
/-- a sum is the least of its side -/
theorem sw_e {S lim e : Nat} (h : WCl M p n a nd) (hn : n ≤ 10) (hp : ∀ w k : Nat, p w k ≤ 594) (he : e ≤ n) (hlim : lim ≤ 1000001) : ∃ r : Nat, f_X10_sumWith (nI e) (nI S) (nI lim) M = some (nI r, M) ∧ r ≤ lim ∧ (r < lim → Sd p S.testBit (up e (n - e)) (nd 0) (nd 1) (nd 2) (nd 3) r) ∧ ∀ x : Nat, Sd p S.testBit (up e (n - e)) (nd 0) (nd 1) (nd 2) (nd 3) x → r ≤ x := by
  obtain ⟨r, g1, g2, g3, g4⟩ := sw_G (S := S) h hn hp he hlim 4 BG 0 0 (by omega) (by unfold BG; omega) (by omega) (Or.inl rfl)
  have al0 : ∀ k : Nat, k % 2 = 0 → ∀ (q : Nat → Nat) (r c : Nat), Pick (alS e S k) q (up 0 n) r c ↔ Pick S.testBit q (up e (n - e)) r c := fun k hk q r c => pick_up (e := e) he (fun v hv => by unfold alS; rw [decide_eq_false (by omega), Bool.false_and]) (fun v hv _ => by unfold alS; rw [decide_eq_true hv, Bool.true_and, if_pos hk]) e 0 (by omega) r c
  have al1 : ∀ k : Nat, ¬ k % 2 = 0 → ∀ (q : Nat → Nat) (r c : Nat), Pick (alS e S k) q (up 0 n) r c ↔ Pick (fun v => !S.testBit v) q (up e (n - e)) r c := fun k hk q r c => pick_up (e := e) he (fun v hv => by unfold alS; rw [decide_eq_false (by omega), Bool.false_and]) (fun v hv _ => by unfold alS; rw [decide_eq_true hv, Bool.true_and, if_neg hk]) e 0 (by omega) r c
  have pm := h.2.2.2.1
  have so := h.2.2.2.2.1
  have toP : ∀ k : Nat, k < 4 → ∀ x : Nat, gr (alS e S k) (fun w => p w k) (lsF (a k) 0 n) (nd k) = some x → Pick (alS e S k) (fun w => p w k) (up 0 n) (nd k) x := fun k hk x hx => pick_perm (pm k hk) _ _ (gr_pick hx)
  have toG : ∀ k : Nat, k < 4 → ∀ c : Nat, Pick (alS e S k) (fun w => p w k) (up 0 n) (nd k) c → ∃ g : Nat, gr (alS e S k) (fun w => p w k) (lsF (a k) 0 n) (nd k) = some g ∧ g ≤ c := fun k hk c hc => gr_min (so k hk) (pick_perm (pm k hk).symm _ _ hc)
  refine ⟨r, g1, g2, fun hr => ?_, fun x hx => ?_⟩
  · obtain ⟨t, ⟨x0, t0, h0, e0, x1, t1, h1, e1, x2, t2, h2, e2, x3, t3, h3, e3, e4⟩, et⟩ := g3 hr
    refine ⟨x0, x1, x2, x3, ?_, (al0 0 (by decide) _ _ _).mp (toP 0 (by decide) x0 h0), (al1 1 (by decide) _ _ _).mp (toP 1 (by decide) x1 h1), (al0 2 (by decide) _ _ _).mp (toP 2 (by decide) x2 h2), (al1 3 (by decide) _ _ _).mp (toP 3 (by decide) x3 h3)⟩
    have e4' : t3 = 0 := e4
    omega
  · obtain ⟨x0, x1, x2, x3, ex, h0, h1, h2, h3⟩ := hx
    obtain ⟨y0, k0, l0⟩ := toG 0 (by decide) x0 ((al0 0 (by decide) _ _ _).mpr h0)
    obtain ⟨y1, k1, l1⟩ := toG 1 (by decide) x1 ((al1 1 (by decide) _ _ _).mpr h1)
    obtain ⟨y2, k2, l2⟩ := toG 2 (by decide) x2 ((al0 2 (by decide) _ _ _).mpr h2)
    obtain ⟨y3, k3, l3⟩ := toG 3 (by decide) x3 ((al1 3 (by decide) _ _ _).mpr h3)
    have := g4 (y0 + (y1 + (y2 + (y3 + 0)))) ⟨y0, _, k0, rfl, y1, _, k1, rfl, y2, _, k2, rfl, y3, _, k3, rfl, rfl⟩
    omega
/-- takings give a side of bits -/
theorem asg_bits {e x : Nat} {b0 b1 b2 b3 : Nat} (he : e ≤ n) (h : Asg p (up e (n - e)) b0 b1 b2 b3 x) : ∃ s x' : Nat, s < 2 ^ (n - e) ∧ x' ≤ x ∧ Sd p (s <<< e).testBit (up e (n - e)) b0 b1 b2 b3 x' := by
  obtain ⟨al, x', hx, hsd⟩ := asg_sd (up_nodup _ _) h
  obtain ⟨s, h1, h2⟩ := zq_bits (n - e) (fun i => al (e + i))
  refine ⟨s, x', h1, hx, sd_congr (fun v hv => ?_) hsd⟩
  obtain ⟨y, y1, y2, y3⟩ := lsF_mem.mp hv
  have ev : y = v := y3
  rw [Nat.testBit_shiftLeft, decide_eq_true (show v ≥ e by omega), Bool.true_and, h2 (v - e) (by omega), show e + (v - e) = v by omega]
theorem reach_e {e most : Nat} (h : WCl M p n a nd) (hn : n ≤ 10) (hp : ∀ w k : Nat, p w k ≤ 594) (he : e ≤ n) (hm : most < 1000000) : f_X10_isReached (nI e) (nI most) M = some (if vd p (up e (n - e)) (nd 0) (nd 1) (nd 2) (nd 3) ≤ most then 1 else 0, M) := by
  have hpw : 2 ^ (n - e) ≤ 1024 := Nat.pow_le_pow_right (i := n - e) (j := 10) (by decide) (by omega)
  have loop : ∀ (j f s : Nat), s + j = 2 ^ (n - e) → j < f → (∀ s' : Nat, s' < s → ∀ x : Nat, Sd p (s' <<< e).testBit (up e (n - e)) (nd 0) (nd 1) (nd 2) (nd 3) x → most < x) → f_X10_isReached_2 f (nI e) (nI most) (nI s) M = some (if vd p (up e (n - e)) (nd 0) (nd 1) (nd 2) (nd 3) ≤ most then 1 else 0, M) := by
    intro j
    induction j with
    | zero =>
      intro f s hs hf hall
      obtain ⟨m, rfl⟩ : ∃ m, f = m + 1 := ⟨f - 1, by omega⟩
      show f_X10_isReached_2_b (f_X10_isReached_2 m) _ _ _ M = _
      unfold f_X10_isReached_2_b
      rw [h.1, pk_sub he, zq_sh (n - e) (by omega), if_pos (nI_le (by omega) (by omega)), if_neg]
      intro q
      obtain ⟨s', x', h1, h2, h3⟩ := asg_bits he (vd_asg (p := p) (up e (n - e)) (nd 0) (nd 1) (nd 2) (nd 3) (by omega))
      have := hall s' (by omega) x' h3
      omega
    | succ j ih =>
      intro f s hs hf hall
      obtain ⟨m, rfl⟩ : ∃ m, f = m + 1 := ⟨f - 1, by omega⟩
      obtain ⟨r, g1, g2, g3, g4⟩ := sw_e (S := s <<< e) (lim := most + 1) h hn hp he (by omega)
      show f_X10_isReached_2_b (f_X10_isReached_2 m) _ _ _ M = _
      unfold f_X10_isReached_2_b
      rw [h.1, pk_sub he, zq_sh (n - e) (by omega), if_neg (nI_ge (by omega) (by omega)), zq_shl (by omega), nI_1, cl_s g1]
      simp only [lt]
      by_cases q : most < r
      · rw [if_pos (nI_lt q (by omega)), nI_1]
        refine ih m (s + 1) (by omega) (by omega) (fun s' hs' x hx => ?_)
        by_cases e2 : s' = s
        · subst e2
          have := g4 x hx
          omega
        · exact hall s' (by omega) x hx
      · rw [if_neg (nI_nlt (by omega) (by omega)), if_pos]
        have := asg_vd (sd_asg (g3 (by omega)))
        omega
  exact loop (2 ^ (n - e)) BG 0 (by omega) (by unfold BG; omega) (fun s' hs' => by omega)
theorem least_s (h : WCl M p n a nd) (hn : n ≤ 10) (hp : ∀ w k : Nat, p w k ≤ 594) : f_X10_leastSum M = some (nI (vd p (up 0 n) (nd 0) (nd 1) (nd 2) (nd 3)), M) := by
  have hpw : 2 ^ n ≤ 1024 := Nat.pow_le_pow_right (i := n) (j := 10) (by decide) (by omega)
  have loop : ∀ (j f s l : Nat), s + j = 2 ^ n → j < f → l ≤ 1000000 → (l < 1000000 → Asg p (up 0 n) (nd 0) (nd 1) (nd 2) (nd 3) l) → (∀ s' : Nat, s' < s → ∀ x : Nat, Sd p (s' <<< 0).testBit (up 0 n) (nd 0) (nd 1) (nd 2) (nd 3) x → l ≤ x) → f_X10_leastSum_5 f (nI l) (nI s) M = some (nI (vd p (up 0 n) (nd 0) (nd 1) (nd 2) (nd 3)), M) := by
    intro j
    induction j with
    | zero =>
      intro f s l hs hf hl hasg hall
      obtain ⟨m, rfl⟩ : ∃ m, f = m + 1 := ⟨f - 1, by omega⟩
      show f_X10_leastSum_5_b (f_X10_leastSum_5 m) _ _ M = _
      unfold f_X10_leastSum_5_b
      rw [h.1, zq_sh n hn, if_pos (nI_le (by omega) (by omega))]
      have hv := vd_le (p := p) (up 0 n) (nd 0) (nd 1) (nd 2) (nd 3)
      have c1 : vd p (up 0 n) (nd 0) (nd 1) (nd 2) (nd 3) ≤ l := by
        rcases Nat.lt_or_ge l 1000000 with q | q
        · exact asg_vd (hasg q)
        · omega
      have c2 : l ≤ vd p (up 0 n) (nd 0) (nd 1) (nd 2) (nd 3) := by
        rcases Nat.lt_or_ge (vd p (up 0 n) (nd 0) (nd 1) (nd 2) (nd 3)) 1000000 with q | q
        · obtain ⟨s', x', h1, h2, h3⟩ := asg_bits (p := p) (e := 0) (n := n) (x := vd p (up 0 n) (nd 0) (nd 1) (nd 2) (nd 3)) (b0 := nd 0) (b1 := nd 1) (b2 := nd 2) (b3 := nd 3) (by omega) (vd_asg (p := p) (up 0 n) _ _ _ _ q)
          have := hall s' (by rw [Nat.sub_zero] at h1; omega) x' h3
          omega
        · omega
      rw [Nat.le_antisymm c2 c1]
    | succ j ih =>
      intro f s l hs hf hl hasg hall
      obtain ⟨m, rfl⟩ : ∃ m, f = m + 1 := ⟨f - 1, by omega⟩
      obtain ⟨r, g1, g2, g3, g4⟩ := sw_e (S := s) (lim := l) (e := 0) h hn hp (by omega) (by omega)
      rw [Nat.sub_zero] at g3 g4
      have emn : f_J9_min_7cf53 (nI l) (nI r) M = some (nI r, M) := by
        unfold f_J9_min_7cf53
        by_cases q : r < l
        · rw [if_pos (nI_lt q (by omega))]
        · rw [if_neg (nI_nlt (by omega) (by omega)), show r = l by omega]
      show f_X10_leastSum_5_b (f_X10_leastSum_5 m) _ _ M = _
      unfold f_X10_leastSum_5_b
      rw [h.1, zq_sh n hn, if_neg (nI_ge (by omega) (by omega)), cl_s (show f_X10_sumWith 0 (nI s) (nI l) M = some (nI r, M) from g1), cl_s emn]
      simp only [lt]
      rw [nI_1]
      refine ih m (s + 1) r (by omega) (by omega) (by omega) (fun q => ?_) (fun s' hs' x hx => ?_)
      · by_cases e2 : r < l
        · exact sd_asg (g3 e2)
        · have : r = l := by omega
          rw [this]
          exact hasg (by omega)
      · by_cases e2 : s' = s
        · subst e2
          rw [Nat.shiftLeft_zero] at hx
          exact g4 x hx
        · have := hall s' (by omega) x hx
          omega
  exact loop (2 ^ n) BG 0 1000000 (by omega) (by unfold BG; omega) (by omega) (fun q => by omega) (fun s' hs' => by omega)
end WATC
