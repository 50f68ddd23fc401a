/-! what a function answers, and what holds behind it -/
def Ok (x : IR) (Q : Int32 → IM → Prop) : Prop := ∃ (r : Int32) (M : IM), x = some (r, M) ∧ Q r M
/-- all rows but R are as they were -/
def fr (R : List Nat) (M M' : IM) : Prop := ∀ p : Nat, p ∉ R → M' p = M p
section OKS
variable {Q P : Int32 → IM → Prop} {M M' M1 : IM} {o n : Nat} {i v r : Int32}
theorem ok_s (h : Q r M) : Ok (some (r, M)) Q := ⟨r, M, rfl, h⟩
theorem ok_mono {x : IR} (h : Ok x P) (hq : ∀ r M, P r M → Q r M) : Ok x Q := by
  obtain ⟨r, M, e, h⟩ := h
  exact ⟨r, M, e, hq r M h⟩
theorem ok_cl {f : IR} {k : Int32 → IM → IR} (h : Ok f P) (hk : ∀ r M, P r M → Ok (k r M) Q) : Ok (cl f k) Q := by
  obtain ⟨r, M, e, h⟩ := h
  rw [cl_s e]
  exact hk r M h
theorem ok_c {f : IR} {k : Int32 → IM → IR} (e : f = some (r, M)) (hk : Ok (k r M) Q) : Ok (cl f k) Q := by
  rw [cl_s e]
  exact hk
theorem ok_rd {k : Int32 → IR} (j : Nat) (hi : i = nI j) (hj : j < n) (hn : n < 2 ^ 31) (h : Ok (k (M o j)) Q) : Ok (rd M o n i k) Q := by
  rw [rdK hi hj hn]
  exact h
theorem ok_rv {k : Int32 → IR} (j : Nat) (x : Int32) (hi : i = nI j) (hj : j < n) (hn : n < 2 ^ 31) (hx : M o j = x) (h : Ok (k x) Q) : Ok (rd M o n i k) Q := by
  rw [rdK hi hj hn, hx]
  exact h
theorem ok_wr {k : IM → IR} (j : Nat) (hi : i = nI j) (hj : j < n) (hn : n < 2 ^ 31) (h : Ok (k (ms M o j v)) Q) : Ok (wr M o n i v k) Q := by
  rw [wrK hi hj hn]
  exact h
theorem ok_pt {k : IM → IR} {i : Nat} (h : Ok (k (ms M o i v)) Q) : Ok (pt M o i v k) Q := h
theorem ok_pz {k : IM → IR} {i : Nat} (hv : v = 0 ∨ v = 1) (h : Ok (k (ms M o i v)) Q) : Ok (pz M o i v k) Q := by
  unfold pz
  rw [if_pos hv]
  exact h
theorem ok_lt {α : Type} {x : α} {k : α → IR} (h : Ok (k x) Q) : Ok (lt x k) Q := h
theorem ok_if {c : Prop} [Decidable c] {A B : IR} (h1 : c → Ok A Q) (h2 : ¬ c → Ok B Q) : Ok (if c then A else B) Q := by
  by_cases h : c
  · rw [if_pos h]; exact h1 h
  · rw [if_neg h]; exact h2 h
theorem ok_t {c : Prop} [Decidable c] {A B : IR} (hc : c) (h : Ok A Q) : Ok (if c then A else B) Q := by rw [if_pos hc]; exact h
theorem ok_f {c : Prop} [Decidable c] {A B : IR} (hc : ¬ c) (h : Ok B Q) : Ok (if c then A else B) Q := by rw [if_neg hc]; exact h
theorem ok_dv {y : Int32} {k : IR} (hy : ¬ y = 0) (h : Ok k Q) : Ok (dv y k) Q := by
  unfold dv
  rw [if_neg hy]
  exact h
theorem ok_rz (hv : v = 0 ∨ v = 1) (h : Q v M) : Ok (rz v M) Q := by
  unfold rz
  rw [if_pos hv]
  exact ok_s h
theorem ok_cp {o' n' : Nat} {sp dp l : Int32} {k : IM → IR} (a : Nat) (hs : sp = 0) (hd : dp = 0) (hl : l = nI a) (h1 : a ≤ n) (h2 : a ≤ n') (hn : n < 2 ^ 31) (h : Ok (k (mr M o' (va_cpy (M o) (M o') 0 0 a))) Q) : Ok (cp M o n sp o' n' dp l k) Q := by
  subst hs hd hl
  unfold cp
  have e0 : (0 : Int32).toNatClampNeg = 0 := by decide
  have ea : (nI a).toNatClampNeg = a := nI_clamp (by omega)
  rw [if_neg, e0, ea]
  · exact h
  · rw [e0, ea]
    rintro (h | h | h | h | h)
    · exact absurd h (by decide)
    · exact absurd h (by decide)
    · exact nI_pos (by omega) h
    · omega
    · omega
theorem fr_rf {R : List Nat} : fr R M M := fun _ _ => rfl
theorem fr_tr {R : List Nat} (h : fr R M M1) (h2 : fr R M1 M') : fr R M M' := fun p hp => (h2 p hp).trans (h p hp)
theorem fr_ms {R : List Nat} {j : Nat} (h : fr R M M1) (ho : o ∈ R) : fr R M (ms M1 o j v) := fun p hp => by
  have hne : ¬ p = o := fun e => by subst e; exact hp ho
  rw [ms_ne hne]
  exact h p hp
theorem fr_mr {R : List Nat} {f : Nat → Int32} (h : fr R M M1) (ho : o ∈ R) : fr R M (mr M1 o f) := fun p hp => by
  have hne : ¬ p = o := fun e => by subst e; exact hp ho
  rw [mr_row, if_neg hne]
  exact h p hp
theorem fr_sub {R R' : List Nat} (h : fr R M M') (hs : ∀ p ∈ R, p ∈ R') : fr R' M M' := fun p hp => h p (fun q => hp (hs p q))
theorem ok_det {x : IR} (h : Ok x P) (h2 : Ok x Q) : Ok x (fun r M => P r M ∧ Q r M) := by
  obtain ⟨r, M, e, h⟩ := h
  obtain ⟨r2, M2, e2, h2⟩ := h2
  rw [e] at e2
  simp only [Option.some.injEq, Prod.mk.injEq] at e2
  obtain ⟨rfl, rfl⟩ := e2
  exact ⟨r, M, e, h, h2⟩
end OKS
/-- a step out of a query: both sides answer one value, and write scratch alone -/
theorem stp_q {f g : IM → IR} (h : ∀ M, Inv M → ∃ v : Int32, Ok (f M) (fun r M1 => r = v ∧ same M M1) ∧ ∀ M1, same M M1 → Ok (g M1) (fun r M2 => r = v ∧ same M1 M2)) : Stp2 Inv f g := by
  intro M hI
  obtain ⟨v, ⟨r1, M1, e1, rfl, s1⟩, h2⟩ := h M hI
  obtain ⟨r2, M2, e2, rfl, s2⟩ := h2 M1 s1
  exact ⟨_, M1, M2, e1, e2, Inv_same (same_tr s1 s2) hI⟩
/-- rows that the invariant doesn't look at -/
def scr : List Nat := [28, 29, 93, 94, 101, 102, 103, 104, 105, 106, 107, 108, 109, 110, 111, 112, 113, 114, 115, 116, 117, 118, 119, 120, 121, 122, 123, 124, 125, 126, 127, 128, 129, 130, 131, 132, 133, 134, 135, 139, 152, 155, 156, 157, 158, 159, 160, 161, 162, 163]
theorem same_fr {M M' : IM} {R : List Nat} (h : fr R M M') (hR : ∀ p ∈ R, p ∈ scr) : same M M' := by
  have far : ∀ p : Nat, p ∉ scr → M' p = M p := fun p hp => h p (fun q => hp (hR p q))
  have hs : ∀ p ∈ scr, p = 28 ∨ p = 29 ∨ (93 ≤ p ∧ p ≤ 94) ∨ (101 ≤ p ∧ p ≤ 135) ∨ p = 139 ∨ p = 152 ∨ (155 ≤ p ∧ p ≤ 163) := by decide
  refine ⟨fun p hp => far p (fun q => ?_), fun i _ => congrFun (far 136 (by decide)) i, congrFun (far 100 (by decide)) 0, congrFun (far 100 (by decide)) 1⟩
  have := hs p q
  omega
