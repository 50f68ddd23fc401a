/-! combinators that the printed functions are made of, and the rows that go with them -/
abbrev IR : Type := Option (Int32 × IM)
def rd (M : IM) (o n : Nat) (i : Int32) (k : Int32 → IR) : IR := if i < 0 ∨ n ≤ i.toNatClampNeg then none else k (M o i.toNatClampNeg)
def wr (M : IM) (o n : Nat) (i v : Int32) (k : IM → IR) : IR := if i < 0 ∨ n ≤ i.toNatClampNeg then none else k (ms M o i.toNatClampNeg v)
def pt (M : IM) (o i : Nat) (v : Int32) (k : IM → IR) : IR := k (ms M o i v)
def pz (M : IM) (o i : Nat) (v : Int32) (k : IM → IR) : IR := if v = 0 ∨ v = 1 then k (ms M o i v) else none
def lt {α : Type} (x : α) (k : α → IR) : IR := k x
def dv (y : Int32) (k : IR) : IR := if y = 0 then none else k
def rz (v : Int32) (M : IM) : IR := if v = 0 ∨ v = 1 then some (v, M) else none
def cl (f : IR) (k : Int32 → IM → IR) : IR := match f with
  | none => none
  | some (r, M) => k r M
def cp (M : IM) (o n : Nat) (sp : Int32) (o' n' : Nat) (dp l : Int32) (k : IM → IR) : IR := if sp < 0 ∨ dp < 0 ∨ l < 0 ∨ n < sp.toNatClampNeg + l.toNatClampNeg ∨ n' < dp.toNatClampNeg + l.toNatClampNeg then none else k (mr M o' (va_cpy (M o) (M o') sp.toNatClampNeg dp.toNatClampNeg l.toNatClampNeg))
/-- an entry of the table of Nows: l, the numbers of all Nows -/
def ra (l : List Nat) (M : IM) (o n : Nat) (i : Int32) (k : Nat → IR) : IR := if i < 0 ∨ n ≤ i.toNatClampNeg then none else if M o i.toNatClampNeg = 0 then none else if (M o i.toNatClampNeg).toNatClampNeg - 1 ∈ l then k ((M o i.toNatClampNeg).toNatClampNeg - 1) else none
def wa (M : IM) (o n : Nat) (i : Int32) (j : Nat) (k : IM → IR) : IR := if i < 0 ∨ n ≤ i.toNatClampNeg then none else k (ms M o i.toNatClampNeg (Int32.ofNat (j + 1)))
/-- what a script holds, what TAKINGS holds -/
def rx (f : Nat → Int32) (n : Nat) (i : Int32) (k : Int32 → IR) : IR := if i < 0 ∨ n ≤ i.toNatClampNeg then none else k (f i.toNatClampNeg)
def itr {F : Type} (z : F) (b : F → F) : Nat → F
  | 0 => z
  | n + 1 => b (itr z b n)
def BG : Nat := 1000000
theorem rd_e {M : IM} {o n : Nat} {i : Int32} {k : Int32 → IR} {R : Int32 × IM} (h : rd M o n i k = some R) : ¬ (i < 0 ∨ n ≤ i.toNatClampNeg) ∧ k (M o i.toNatClampNeg) = some R := by
  unfold rd at h
  split at h
  · cases h
  · exact ⟨by assumption, h⟩
theorem rx_e {f : Nat → Int32} {n : Nat} {i : Int32} {k : Int32 → IR} {R : Int32 × IM} (h : rx f n i k = some R) : ¬ (i < 0 ∨ n ≤ i.toNatClampNeg) ∧ k (f i.toNatClampNeg) = some R := by
  unfold rx at h
  split at h
  · cases h
  · exact ⟨by assumption, h⟩
theorem wr_e {M : IM} {o n : Nat} {i v : Int32} {k : IM → IR} {R : Int32 × IM} (h : wr M o n i v k = some R) : ¬ (i < 0 ∨ n ≤ i.toNatClampNeg) ∧ k (ms M o i.toNatClampNeg v) = some R := by
  unfold wr at h
  split at h
  · cases h
  · exact ⟨by assumption, h⟩
theorem pt_e {M : IM} {o i : Nat} {v : Int32} {k : IM → IR} {R : Int32 × IM} (h : pt M o i v k = some R) : k (ms M o i v) = some R := h
theorem lt_e {α : Type} {x : α} {k : α → IR} {R : Int32 × IM} (h : lt x k = some R) : k x = some R := h
theorem nar_z {v : Int32} (h : v = 0 ∨ v = 1) : narrow .boolean (.int v) = .int v := by rcases h with rfl | rfl <;> decide +kernel
theorem fit_z {v : Int32} (h : v = 0 ∨ v = 1) : fits .boolean (.int v) = true := by rcases h with rfl | rfl <;> decide +kernel
theorem pz_e {M : IM} {o i : Nat} {v : Int32} {k : IM → IR} {R : Int32 × IM} (h : pz M o i v k = some R) : (v = 0 ∨ v = 1) ∧ k (ms M o i v) = some R := by
  unfold pz at h
  split at h
  · exact ⟨by assumption, h⟩
  · cases h
theorem dv_e {y : Int32} {k : IR} {R : Int32 × IM} (h : dv y k = some R) : ¬ y = 0 ∧ k = some R := by
  unfold dv at h
  split at h
  · cases h
  · exact ⟨by assumption, h⟩
theorem rz_e {v : Int32} {M : IM} {R : Int32 × IM} (h : rz v M = some R) : (v = 0 ∨ v = 1) ∧ some (v, M) = some R := by
  unfold rz at h
  split at h
  · exact ⟨by assumption, h⟩
  · cases h
theorem cl_e {f : IR} {k : Int32 → IM → IR} {R : Int32 × IM} (h : cl f k = some R) : ∃ (r : Int32) (M : IM), f = some (r, M) ∧ k r M = some R := by
  cases f with
  | none => cases h
  | some x => exact ⟨x.1, x.2, rfl, h⟩
theorem cp_e {M : IM} {o n : Nat} {sp : Int32} {o' n' : Nat} {dp l : Int32} {k : IM → IR} {R : Int32 × IM} (h : cp M o n sp o' n' dp l k = some R) : ¬ (sp < 0 ∨ dp < 0 ∨ l < 0 ∨ n < sp.toNatClampNeg + l.toNatClampNeg ∨ n' < dp.toNatClampNeg + l.toNatClampNeg) ∧ k (mr M o' (va_cpy (M o) (M o') sp.toNatClampNeg dp.toNatClampNeg l.toNatClampNeg)) = some R := by
  unfold cp at h
  split at h
  · cases h
  · exact ⟨by assumption, h⟩
theorem ra_e {l : List Nat} {M : IM} {o n : Nat} {i : Int32} {k : Nat → IR} {R : Int32 × IM} (h : ra l M o n i k = some R) : ¬ (i < 0 ∨ n ≤ i.toNatClampNeg) ∧ ¬ M o i.toNatClampNeg = 0 ∧ (M o i.toNatClampNeg).toNatClampNeg - 1 ∈ l ∧ k ((M o i.toNatClampNeg).toNatClampNeg - 1) = some R := by
  unfold ra at h
  split at h
  · cases h
  · split at h
    · cases h
    · split at h
      · exact ⟨by assumption, by assumption, by assumption, h⟩
      · cases h
theorem wa_e {M : IM} {o n j : Nat} {i : Int32} {k : IM → IR} {R : Int32 × IM} (h : wa M o n i j k = some R) : ¬ (i < 0 ∨ n ≤ i.toNatClampNeg) ∧ k (ms M o i.toNatClampNeg (Int32.ofNat (j + 1))) = some R := by
  unfold wa at h
  split at h
  · cases h
  · exact ⟨by assumption, h⟩
theorem ifp {c : Prop} [Decidable c] {A B : IR} {R : Int32 × IM} (hc : c) (h : (if c then A else B) = some R) : A = some R := by rw [if_pos hc] at h; exact h
theorem ifn {c : Prop} [Decidable c] {A B : IR} {R : Int32 × IM} (hc : ¬ c) (h : (if c then A else B) = some R) : B = some R := by rw [if_neg hc] at h; exact h
/-- locals that are known less -/
def ie_le (L' L : List (Option Value)) : Prop := ∀ (i : Nat) (v : Value), L'[i]? = some (some v) → L[i]? = some (some v)
theorem le_0 {L : List (Option Value)} : ie_le [] L := fun i v h => by simp at h
theorem le_n {x : Option Value} {L' L : List (Option Value)} (h : ie_le L' L) : ie_le (none :: L') (x :: L) := by
  intro i v hi
  cases i with
  | zero => simp at hi
  | succ i => simp at hi ⊢; exact h i v hi
theorem le_s {x : Option Value} {L' L : List (Option Value)} (h : ie_le L' L) : ie_le (x :: L') (x :: L) := by
  intro i v hi
  cases i with
  | zero => exact hi
  | succ i => simp at hi ⊢; exact h i v hi
def qI (S0 : List IK) (a : Nat → Nat) (R : Int32 × IM) : IQ := fun r a1 S1 M1 => r = some (.int R.1) ∧ a1 = a ∧ S1 = S0 ∧ M1 = R.2
def qV (S0 : List IK) (a : Nat → Nat) (R : Int32 × IM) : IQ := fun r a1 S1 M1 => r = none ∧ a1 = a ∧ S1 = S0 ∧ M1 = R.2
theorem ie_in_nw {x : Nat} (h : x < 100000) : ¬ Int32.ofNat (x + 1) = 0 ∧ (Int32.ofNat (x + 1)).toNatClampNeg - 1 = x := by
  have h1 : (nI (x + 1)).toNatClampNeg = x + 1 := nI_clamp (by omega)
  exact ⟨nI_ne0 (by omega) (by omega), by show (nI (x + 1)).toNatClampNeg - 1 = x; rw [h1]; omega⟩
section VROWS2
variable {g : IG} {mi mj : MI} {d d' mc ns : Nat} {Q : IQ} {pc q : Nat} {L L' : List (Option Value)} {st st0 As : List Value} {a : Nat → Nat} {S : List IK} {M M' : IM} {ce sl index n : Nat} {r : Int32}
theorem V_sub (h : ie_le L' L) (k : V g mi d mc ns Q pc L' st a S M ce sl) : V g mi d mc ns Q pc L st a S M ce sl := fun p e R s m args below meth c Fin C hr H locs ls hP hl hS => k p e R s m args below meth c Fin C hr H locs ls hP ⟨hl.1, hl.2.1, fun i v hi => hl.2.2 i v (h i v hi)⟩ hS
theorem V_inc {i : Nat} {n : Int} {x y : Int32} (hq : pc + 3 = q) (hd : decode mi.2.1 pc = .ok (.iinc i n, 3)) (hx : L[i]? = some (some (.int x))) (hv : Int32.ofInt n = y) (hn : i < mi.2.2.1) (hL : L.set i (some (.int (x + y))) = L') (k : V g mi d mc ns Q q L' st a S M ce sl) : V g mi d mc ns Q pc L st a S M ce sl := V_iinc hq hd hx (by rw [hv]) hn hL k
theorem V_ii (hq : pc + 3 = q) (hd : decode mi.2.1 pc = .ok (.invokevirtual index, 3)) (hM : ie_M mj n) (hi : Cond.instanceMethod mj.1 ∈ ie_T ∧ Cond.selects mj.1.cls mj.1 mj.1 ∈ ie_T) (hw : Cond.methodLink mi.1.cls index mj.1 ∈ ie_T) (hdd : d' < d) {o ci kk N : Nat} {T : u_T} {fs : List (Option (Option Nat))} (hS0 : S[o]? = some (ci + 2, kk, fs)) (hcl : vwCl[ci]? = some (mj.1.cls, T, N)) (hn : As.length = n) (hst0 : As.reverse ++ .ref (a o) :: st = st0) (hst : Nat.ble ((st.map fun v => v.category).sum) 8 = true) (hf : Nat.ble ce mc = true ∧ Nat.ble sl ns = true) (hC : Cn g mj d' 0 0 (qI S a (r, M')) (.ref (a o) :: As) a S M) (k : V g mi d mc ns Q q L (.int r :: st) a S M' ce sl) : V g mi d mc ns Q pc L st0 a S M ce sl :=
  V_callV (mc' := 0) (ns' := 0) hq hd hM hi hw hdd ⟨Nat.le_of_ble_eq_true hf.1, Nat.le_of_ble_eq_true hf.2⟩ hS0 hcl hn hst0 (Nat.le_of_ble_eq_true hst) hC (fun r1 a1 S1 M1 h => by obtain ⟨rfl, rfl, rfl, rfl⟩ := h; exact k)
theorem V_iv (hq : pc + 3 = q) (hd : decode mi.2.1 pc = .ok (.invokevirtual index, 3)) (hM : ie_M mj n) (hi : Cond.instanceMethod mj.1 ∈ ie_T ∧ Cond.selects mj.1.cls mj.1 mj.1 ∈ ie_T) (hw : Cond.methodLink mi.1.cls index mj.1 ∈ ie_T) (hdd : d' < d) {o ci kk N : Nat} {T : u_T} {fs : List (Option (Option Nat))} (hS0 : S[o]? = some (ci + 2, kk, fs)) (hcl : vwCl[ci]? = some (mj.1.cls, T, N)) (hn : As.length = n) (hst0 : As.reverse ++ .ref (a o) :: st = st0) (hst : Nat.ble ((st.map fun v => v.category).sum) 8 = true) (hf : Nat.ble ce mc = true ∧ Nat.ble sl ns = true) (hC : Cn g mj d' 0 0 (qV S a (r, M')) (.ref (a o) :: As) a S M) (k : V g mi d mc ns Q q L st a S M' ce sl) : V g mi d mc ns Q pc L st0 a S M ce sl :=
  V_callV (mc' := 0) (ns' := 0) hq hd hM hi hw hdd ⟨Nat.le_of_ble_eq_true hf.1, Nat.le_of_ble_eq_true hf.2⟩ hS0 hcl hn hst0 (Nat.le_of_ble_eq_true hst) hC (fun r1 a1 S1 M1 h => by obtain ⟨rfl, rfl, rfl, rfl⟩ := h; exact k)
theorem V_si (hq : pc + 3 = q) (hd : decode mi.2.1 pc = .ok (.invokestatic index, 3)) (hM : ie_M mj n) (hi : Cond.static mj.1 ∈ ie_T) (hw : Cond.methodLink mi.1.cls index mj.1 ∈ ie_T) (hdd : d' < d) (hn : As.length = n) (hst0 : As.reverse ++ st = st0) (hst : Nat.ble ((st.map fun v => v.category).sum) 8 = true) (hf : Nat.ble ce mc = true ∧ Nat.ble sl ns = true) (hC : Cn g mj d' 0 0 (qI S a (r, M')) As a S M) (k : V g mi d mc ns Q q L (.int r :: st) a S M' ce sl) : V g mi d mc ns Q pc L st0 a S M ce sl :=
  V_callS (mc' := 0) (ns' := 0) hq hd hM hi hw hdd ⟨Nat.le_of_ble_eq_true hf.1, Nat.le_of_ble_eq_true hf.2⟩ hn hst0 (Nat.le_of_ble_eq_true hst) hC (fun r1 a1 S1 M1 h => by obtain ⟨rfl, rfl, rfl, rfl⟩ := h; exact k)
theorem V_sv (hq : pc + 3 = q) (hd : decode mi.2.1 pc = .ok (.invokestatic index, 3)) (hM : ie_M mj n) (hi : Cond.static mj.1 ∈ ie_T) (hw : Cond.methodLink mi.1.cls index mj.1 ∈ ie_T) (hdd : d' < d) (hn : As.length = n) (hst0 : As.reverse ++ st = st0) (hst : Nat.ble ((st.map fun v => v.category).sum) 8 = true) (hf : Nat.ble ce mc = true ∧ Nat.ble sl ns = true) (hC : Cn g mj d' 0 0 (qV S a (r, M')) As a S M) (k : V g mi d mc ns Q q L st a S M' ce sl) : V g mi d mc ns Q pc L st0 a S M ce sl :=
  V_callS (mc' := 0) (ns' := 0) hq hd hM hi hw hdd ⟨Nat.le_of_ble_eq_true hf.1, Nat.le_of_ble_eq_true hf.2⟩ hn hst0 (Nat.le_of_ble_eq_true hst) hC (fun r1 a1 S1 M1 h => by obtain ⟨rfl, rfl, rfl, rfl⟩ := h; exact k)
theorem V_ni {host : String} (hq : pc + 3 = q) (hd : decode mi.2.1 pc = .ok (.invokestatic index, 3)) (hM : ie_M mj n) (hi : Cond.static mj.1 ∈ ie_T) (hw : Cond.methodLinkNest mi.1.cls index mj.1 host ∈ ie_N) (hdd : d' < d) (hn : As.length = n) (hst0 : As.reverse ++ st = st0) (hst : Nat.ble ((st.map fun v => v.category).sum) 8 = true) (hf : Nat.ble ce mc = true ∧ Nat.ble sl ns = true) (hC : Cn g mj d' 0 0 (qI S a (r, M')) As a S M) (k : V g mi d mc ns Q q L (.int r :: st) a S M' ce sl) : V g mi d mc ns Q pc L st0 a S M ce sl :=
  V_callSN (mc' := 0) (ns' := 0) hq hd hM hi hw hdd ⟨Nat.le_of_ble_eq_true hf.1, Nat.le_of_ble_eq_true hf.2⟩ hn hst0 (Nat.le_of_ble_eq_true hst) hC (fun r1 a1 S1 M1 h => by obtain ⟨rfl, rfl, rfl, rfl⟩ := h; exact k)
/-- System.arraycopy of numbers -/
theorem V_copy {o n o' n' : Nat} {fs fs' : List (Option (Option Nat))} {sp dp l : Int32} (hq : pc + 3 = q) (hd : decode mi.2.1 pc = .ok (.invokestatic index, 3)) (hw : Cond.methodLink mi.1.cls index arraycopyName ∈ ie_T) (hy : Cond.native arraycopyName ∈ ie_T ∧ Cond.static arraycopyName ∈ ie_T ∧ Cond.initialized "java/lang/System" ∈ ie_T) (hS0 : S[o]? = some (0, n, fs)) (hS1 : S[o']? = some (0, n', fs')) (hst : Nat.ble ((st.map fun v => v.category).sum) 8 = true) (hb : ¬ (sp < 0 ∨ dp < 0 ∨ l < 0 ∨ n < sp.toNatClampNeg + l.toNatClampNeg ∨ n' < dp.toNatClampNeg + l.toNatClampNeg)) (k : V g mi d mc ns Q q L st a S (mr M o' (va_cpy (M o) (M o') sp.toNatClampNeg dp.toNatClampNeg l.toNatClampNeg)) ce sl) : V g mi d mc ns Q pc L (.int l :: .int dp :: .ref (a o') :: .int sp :: .ref (a o) :: st) a S M ce sl := by
  subst hq
  intro p e R s m args below meth c Fin C hr H locs ls hP hl hS
  simp only [not_or, Nat.not_lt] at hb
  obtain ⟨b1, b2, b3, b4, b5⟩ := hb
  have hT := C.2.2.2.2.1
  obtain ⟨r1, r2, -⟩ := C.2.2.2.2.2.2.1
  have hst := Nat.le_of_ble_eq_true hst
  have hnw : nativeFrameWords "java/lang/System" "arraycopy" 5 + 11 ≤ 32 := by decide +kernel
  exact va_copyi C.1 C.2.1 (C.2.2.1.trans hl.1.symm) C.2.2.2.1 (hT _ hw) (hT _ hy.1) (hT _ hy.2.1) (hT _ hy.2.2) C.2.2.2.2.2.1.1 hP.1 hP.2 hS o o' 0 0 (ie_at hS0) (ie_at hS1) rfl rfl rfl b1 b2 b3 b4 b5 (fun _ _ => rfl) (by omega) (by omega) hd (fun H1 locs1 h1 h2 h3 => k p e R s m args below meth c Fin C hr H1 locs1 ls ⟨by rw [← ie_mr hS1]; exact h1, by rw [← ie_mr hS1]; exact h2⟩ hl h3)
/-- TAKINGS -/
theorem V_gets {index : Nat} (hq : pc + 3 = q) (hd : decode mi.2.1 pc = .ok (.getstatic index, 3)) (hw : Cond.fieldLink mi.1.cls index RX11 "TAKINGS" "[I" ∈ ie_T) (k : V g mi d mc ns Q q L (.ref (gtk g) :: st) a S M ce sl) : V g mi d mc ns Q pc L st a S M ce sl := by
  subst hq
  exact fun p e R s m args below meth c Fin C hr H locs ls hP hl hS => va_gets C.1 C.2.1 C.2.2.2.2.2.1.2.2.2.2.1 hS C.2.2.2.1 (C.2.2.2.2.1 _ hw) (fun _ h => h) hd (k p e R s m args below meth c Fin C hr H locs ls hP hl hS)
theorem V_getsn {index : Nat} {host : String} (hq : pc + 3 = q) (hd : decode mi.2.1 pc = .ok (.getstatic index, 3)) (hw : Cond.fieldLinkNest mi.1.cls index RX11 "TAKINGS" "[I" host ∈ ie_N) (k : V g mi d mc ns Q q L (.ref (gtk g) :: st) a S M ce sl) : V g mi d mc ns Q pc L st a S M ce sl := by
  subst hq
  exact fun p e R s m args below meth c Fin C hr H locs ls hP hl hS => va_getsN C.1 C.2.1 C.2.2.2.2.2.1.2.2.2.2.1 hS C.2.2.2.1 (va_Nw.use rfl (C.2.2.2.2.2.1.2.2.1 _ hw)) (fun _ h => h) hd (k p e R s m args below meth c Fin C hr H locs ls hP hl hS)
theorem V_tkld {i : Int32} (hq : pc + 1 = q) (hd : decode mi.2.1 pc = .ok (.iaload, 1)) (hin : ¬ (i < 0 ∨ ie_tkn ≤ i.toNatClampNeg)) (k : V g mi d mc ns Q q L (.int (ie_tkl.getD i.toNatClampNeg 0) :: st) a S M ce sl) : V g mi d mc ns Q pc L (.int i :: .ref (gtk g) :: st) a S M ce sl := by
  subst hq
  exact fun p e R s m args below meth c Fin C hr H locs ls hP hl hS => va_ti C.1 C.2.1 C.2.2.2.2.2.1.2.2.2.2.2.1 hS hin rfl hd (k p e R s m args below meth c Fin C hr H locs ls hP hl hS)
theorem V_tkln {v : Int32} (hq : pc + 1 = q) (hd : decode mi.2.1 pc = .ok (.arraylength, 1)) (hv : Int32.ofNat ie_tkn = v) (k : V g mi d mc ns Q q L (.int v :: st) a S M ce sl) : V g mi d mc ns Q pc L (.ref (gtk g) :: st) a S M ce sl := by
  subst hq
  exact fun p e R s m args below meth c Fin C hr H locs ls hP hl hS => va_tlen C.1 C.2.1 C.2.2.2.2.2.1.2.2.2.2.2.1 hS hv hd (k p e R s m args below meth c Fin C hr H locs ls hP hl hS)
/-- the script -/
theorem V_xld {i : Int32} (hq : pc + 1 = q) (hd : decode mi.2.1 pc = .ok (.iaload, 1)) (hin : ¬ (i < 0 ∨ gL g ≤ i.toNatClampNeg)) (k : V g mi d mc ns Q q L (.int (gx g i.toNatClampNeg) :: st) a S M ce sl) : V g mi d mc ns Q pc L (.int i :: .ref (gb g) :: st) a S M ce sl := by
  subst hq
  exact fun p e R s m args below meth c Fin C hr H locs ls hP hl hS => va_sld C.1 C.2.1 C.2.2.2.2.2.1.2.2.2.2.2.2.2.2.2.1 (Nat.lt_of_lt_of_le C.2.2.2.2.2.1.2.2.2.2.2.2.2.2.2.2.1 C.2.2.2.2.2.1.2.1) (Nat.not_le.mpr C.2.2.2.2.2.1.2.2.2.2.2.2.2.2.2.2.1) hS hin hd (k p e R s m args below meth c Fin C hr H locs ls hP hl hS)
theorem V_xln (hq : pc + 1 = q) (hd : decode mi.2.1 pc = .ok (.arraylength, 1)) (k : V g mi d mc ns Q q L (.int (Int32.ofNat (gL g)) :: st) a S M ce sl) : V g mi d mc ns Q pc L (.ref (gb g) :: st) a S M ce sl := by
  subst hq
  exact fun p e R s m args below meth c Fin C hr H locs ls hP hl hS => va_slen C.1 C.2.1 C.2.2.2.2.2.1.2.2.2.2.2.2.2.2.2.1 (Nat.lt_of_lt_of_le C.2.2.2.2.2.1.2.2.2.2.2.2.2.2.2.2.1 C.2.2.2.2.2.1.2.1) (Nat.not_le.mpr C.2.2.2.2.2.1.2.2.2.2.2.2.2.2.2.2.1) hS hd (k p e R s m args below meth c Fin C hr H locs ls hP hl hS)
theorem V_gfm {index : Nat} (hq : pc + 3 = q) (hd : decode mi.2.1 pc = .ok (.getstatic index, 3)) (hw : Cond.fieldLink mi.1.cls index "jdk/internal/util/Preconditions" "SIOOBE_FORMATTER" "Ljava/util/function/BiFunction;" ∈ ie_T) (k : V g mi d mc ns Q q L (va_rf (gfm g) :: st) a S M ce sl) : V g mi d mc ns Q pc L st a S M ce sl := by
  subst hq
  exact fun p e R s m args below meth c Fin C hr H locs ls hP hl hS => va_gets C.1 C.2.1 C.2.2.2.2.2.1.2.2.2.2.2.2.2.2.2.2.2 hS C.2.2.2.1 (C.2.2.2.2.1 _ hw) (fun _ h => h) hd (k p e R s m args below meth c Fin C hr H locs ls hP hl hS)
/-- the text -/
theorem V_ldcS (hmi : mi.1.cls = RX6) (hq : pc + 2 = q) (hd : decode mi.2.1 pc = .ok (.ldc ie_wix, 2)) (k : V g mi d mc ns Q q L (.ref (gak g) :: st) a S M ce sl) : V g mi d mc ns Q pc L st a S M ce sl := by
  subst hq
  exact fun p e R s m args below meth c Fin C hr H locs ls hP hl hS => va_ldcS C.1 C.2.1 (by rw [← hmi]; exact C.2.2.2.1) C.2.2.2.2.2.1.2.2.2.2.2.2.2.1 hd (k p e R s m args below meth c Fin C hr H locs ls hP hl hS)
theorem V_sval {index : Nat} (hq : pc + 3 = q) (hd : decode mi.2.1 pc = .ok (.getfield index, 3)) (hw : Cond.fieldLink mi.1.cls index "java/lang/String" "value" "[B" ∈ ie_T) (k : V g mi d mc ns Q q L (.ref (gav g) :: st) a S M ce sl) : V g mi d mc ns Q pc L (.ref (gak g) :: st) a S M ce sl := by
  subst hq
  exact fun p e R s m args below meth c Fin C hr H locs ls hP hl hS => vk_getf C.1 C.2.1 (C.2.2.2.2.2.1.2.2.2.2.2.2.2.2.1.1 0 (by decide)).2.2.1 hS C.2.2.2.1 (C.2.2.2.2.1 _ hw) (fun _ h => h) hd (k p e R s m args below meth c Fin C hr H locs ls hP hl hS)
theorem V_scod {index : Nat} (hq : pc + 3 = q) (hd : decode mi.2.1 pc = .ok (.getfield index, 3)) (hw : Cond.fieldLink mi.1.cls index "java/lang/String" "coder" "B" ∈ ie_T) (k : V g mi d mc ns Q q L (.int 0 :: st) a S M ce sl) : V g mi d mc ns Q pc L (.ref (gak g) :: st) a S M ce sl := by
  subst hq
  exact fun p e R s m args below meth c Fin C hr H locs ls hP hl hS => vk_getf C.1 C.2.1 (C.2.2.2.2.2.1.2.2.2.2.2.2.2.2.1.1 0 (by decide)).2.1 hS C.2.2.2.1 (C.2.2.2.2.1 _ hw) (fun _ h => h) hd (k p e R s m args below meth c Fin C hr H locs ls hP hl hS)
theorem V_scmp {index : Nat} (hq : pc + 3 = q) (hd : decode mi.2.1 pc = .ok (.getstatic index, 3)) (hw : Cond.fieldLink mi.1.cls index "java/lang/String" "COMPACT_STRINGS" "Z" ∈ ie_T) (k : V g mi d mc ns Q q L (.int 1 :: st) a S M ce sl) : V g mi d mc ns Q pc L st a S M ce sl := by
  subst hq
  exact fun p e R s m args below meth c Fin C hr H locs ls hP hl hS => va_gets C.1 C.2.1 C.2.2.2.2.2.1.2.2.2.2.2.2.1 hS C.2.2.2.1 (C.2.2.2.2.1 _ hw) (fun _ h => h) hd (k p e R s m args below meth c Fin C hr H locs ls hP hl hS)
theorem V_sbld {i : Int32} (hq : pc + 1 = q) (hd : decode mi.2.1 pc = .ok (.baload, 1)) (hin : ¬ (i < 0 ∨ ie_wln ≤ i.toNatClampNeg)) (k : V g mi d mc ns Q q L (.int (ie_wby.getD i.toNatClampNeg 0) :: st) a S M ce sl) : V g mi d mc ns Q pc L (.int i :: .ref (gav g) :: st) a S M ce sl := by
  subst hq
  exact fun p e R s m args below meth c Fin C hr H locs ls hP hl hS => va_tb C.1 C.2.1 (C.2.2.2.2.2.1.2.2.2.2.2.2.2.2.1.1 0 (by decide)).2.2.2 hS hin rfl hd (k p e R s m args below meth c Fin C hr H locs ls hP hl hS)
theorem V_sbln {v : Int32} (hq : pc + 1 = q) (hd : decode mi.2.1 pc = .ok (.arraylength, 1)) (hv : Int32.ofNat ie_wln = v) (k : V g mi d mc ns Q q L (.int v :: st) a S M ce sl) : V g mi d mc ns Q pc L (.ref (gav g) :: st) a S M ce sl := by
  subst hq
  exact fun p e R s m args below meth c Fin C hr H locs ls hP hl hS => va_tlen C.1 C.2.1 (C.2.2.2.2.2.1.2.2.2.2.2.2.2.2.1.1 0 (by decide)).2.2.2 hS hv hd (k p e R s m args below meth c Fin C hr H locs ls hP hl hS)
/-- a call on the text -/
theorem V_iis (hq : pc + 3 = q) (hd : decode mi.2.1 pc = .ok (.invokevirtual index, 3)) (hM : ie_M mj n) (hi : Cond.instanceMethod mj.1 ∈ ie_T ∧ Cond.selects "java/lang/String" mj.1 mj.1 ∈ ie_T) (hw : Cond.methodLink mi.1.cls index mj.1 ∈ ie_T) (hdd : d' < d) (hn : As.length = n) (hst0 : As.reverse ++ .ref (gak g) :: st = st0) (hst : Nat.ble ((st.map fun v => v.category).sum) 8 = true) (hf : Nat.ble ce mc = true ∧ Nat.ble sl ns = true) (hC : Cn g mj d' 0 0 (qI S a (r, M')) (.ref (gak g) :: As) a S M) (k : V g mi d mc ns Q q L (.int r :: st) a S M' ce sl) : V g mi d mc ns Q pc L st0 a S M ce sl := by
  subst hq
  subst hst0
  intro p e R s m args below meth c Fin C hr H locs ls hP hl hS
  have hB := callB_of (rm := ie_rm d' 0 0) (mc := 0) (ms := 0) (bytes := mj.2.1) (maxL := mj.2.2.1) (ret := mj.2.2.2) n C.2.2.2.2.1 (ie_goodc hM.1) rfl rfl rfl (C.2.2.2.2.1 _ hM.2.1) (C.2.2.2.2.1 _ hw) hM.2.2.1 (ie_room C hM hdd)
  exact ie_call (va_runV ⟨C.1, C.2.1, C.2.2.1, C.2.2.2.1, C.2.2.2.2.1⟩ hC ⟨hB, C.2.2.2.2.1 _ hi.1, C.2.2.2.2.1 _ hi.2⟩ ⟨ie_blind, vk_recv C.2.2.2.2.2.1.2.2.2.2.2.2.2.2.1 (i := 0) (by decide) hS, ie_pre C hP hS⟩ rfl hn hl.1 rfl (ie_stk (Nat.le_of_ble_eq_true hst)) hd ⟨Nat.le_trans (Nat.le_of_ble_eq_true hf.1) C.2.2.2.2.2.2.1.2.2.1, Nat.le_trans (Nat.le_of_ble_eq_true hf.2) C.2.2.2.2.2.2.1.2.2.2⟩) hS (fun r a1 S1 M1 H1 locs1 hQ hP1 hS1 => by obtain ⟨rfl, rfl, rfl, rfl⟩ := hQ; exact k p e R s m args below meth c Fin C hr H1 locs1 ls hP1 hl hS1)
end VROWS2
