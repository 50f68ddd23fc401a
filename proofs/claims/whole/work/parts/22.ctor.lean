/-! what is made: new cells, constructors' calls -/
/-- references point to what is there -/
def ie_wf (S : List IK) (M : IM) : Prop := ∀ (o : Nat) (k : IK), S[o]? = some k → (∀ r : Nat, some (some r) ∈ k.2.2 → r < S.length) ∧ (k.1 = 1 → ∀ i : Nat, (M o i).toNatClampNeg ≤ S.length)
/-- nothing yet where nothing is -/
def ie_zr (S : List IK) (M : IM) : Prop := ∀ o i : Nat, S.length ≤ o → M o i = 0
theorem ie_ent_ag {g : IG} {a a' : Nat → Nat} {S : List IK} {M : IM} {o : Nat} {k : IK} (hwf : ie_wf S M) (hag : ∀ o, o < S.length → a' o = a o) (h : S[o]? = some k) : ie_ent g a' M o k = ie_ent g a M o k := by
  have hl : o < S.length := (List.getElem?_eq_some_iff.mp h).1
  obtain ⟨h1, h2⟩ := hwf o k h
  unfold ie_ent
  rw [hag o hl]
  obtain ⟨c, n, fs⟩ := k
  match c with
  | 0 => rfl
  | 1 =>
    have e : (fun i => ie_rf a' (M o i)) = fun i => ie_rf a (M o i) := by
      funext i
      unfold ie_rf
      split
      · rfl
      · have := h2 rfl i
        rw [hag _ (by omega)]
    simp only [e]
  | ci + 2 =>
    have e : fs.mapIdx (fun i r => ie_fv a' (M o i) r) = fs.mapIdx (fun i r => ie_fv a (M o i) r) := by
      refine List.ext_getElem? fun j => ?_
      rw [List.getElem?_mapIdx, List.getElem?_mapIdx]
      cases hj : fs[j]? with
      | none => rfl
      | some r =>
        have hm : r ∈ fs := List.mem_of_getElem? hj
        match r, hm with
        | none, _ => rfl
        | some none, _ => rfl
        | some (some q), hm => simp [ie_fv, hag q (h1 q hm)]
    simp only [e]
theorem ie_grow {g : IG} {a a' : Nat → Nat} {S : List IK} {M : IM} {k : IK} (hwf : ie_wf S M) (hag : ∀ o, o < S.length → a' o = a o) : ie_ws g a' (S ++ [k]) M = ie_ws g a S M ++ [ie_ent g a' M S.length k] := by
  refine List.ext_getElem? fun j => ?_
  unfold ie_ws
  rw [List.getElem?_mapIdx, List.getElem?_append, List.getElem?_append, List.length_mapIdx]
  split
  · rw [List.getElem?_mapIdx]
    cases hj : S[j]? with
    | none => rfl
    | some x => simp only [Option.map_some]; rw [ie_ent_ag hwf hag hj]
  · rename_i h
    cases hj : j - S.length with
    | zero =>
      have : j = S.length := by omega
      subst this
      simp
    | succ m => simp
theorem va_up_at {α : Type} {f : Nat → α} {k : Nat} {v : α} : va_up f k v k = v := by unfold va_up; rw [if_pos rfl]
theorem va_up_other {α : Type} {f : Nat → α} {k j : Nat} {v : α} (h : j < k) : va_up f k v j = f j := by unfold va_up; rw [if_neg (by omega)]
/-- a reference is put -/
theorem ie_mo {g : IG} {a : Nat → Nat} {S : List IK} {M : IM} {o ci n i r : Nat} {fs : List (Option (Option Nat))} (h : S[o]? = some (ci + 2, n, fs)) : (ie_ws g a S M).set o (a o, .inr (ci, (fs.mapIdx (fun i r => ie_fv a (M o i) r)).set i (.ref (a r)))) = ie_ws g a (S.set o (ci + 2, n, fs.set i (some (some r)))) M := by
  have hl : o < S.length := (List.getElem?_eq_some_iff.mp h).1
  refine List.ext_getElem? fun j => ?_
  unfold ie_ws
  simp only [List.getElem?_set, List.getElem?_mapIdx, List.length_mapIdx]
  by_cases hj : o = j
  · subst hj
    simp only [if_pos hl, if_true, ie_ent, Option.map_some]
    congr 4
    refine List.ext_getElem? fun q => ?_
    simp only [List.getElem?_set, List.getElem?_mapIdx, List.length_mapIdx]
    by_cases hq : i = q
    · subst hq
      simp only [if_true]
      split
      · simp [ie_fv]
      · rfl
    · simp only [if_neg hq]
  · simp only [if_neg hj]
theorem wf_app {S : List IK} {M : IM} {k : IK} (h : ie_wf S M) (hk : ∀ r : Nat, ¬ some (some r) ∈ k.2.2) (hz : ie_zr S M) : ie_wf (S ++ [k]) M := by
  intro o x hx
  rw [List.getElem?_append] at hx
  rw [List.length_append, List.length_singleton]
  split at hx
  · obtain ⟨h1, h2⟩ := h o x hx
    exact ⟨fun r hr => Nat.lt_succ_of_lt (h1 r hr), fun e i => Nat.le_succ_of_le (h2 e i)⟩
  · have e : k = x := by
      cases hj : o - S.length with
      | zero => rw [hj] at hx; simpa using hx
      | succ m => rw [hj] at hx; simp at hx
    subst e
    exact ⟨fun r hr => absurd hr (hk r), fun _ i => by rw [hz o i (by omega)]; exact Nat.zero_le _⟩
theorem zr_app {S : List IK} {M : IM} {k : IK} (hz : ie_zr S M) : ie_zr (S ++ [k]) M := fun o i h => hz o i (by rw [List.length_append] at h; omega)
theorem wf_set {S : List IK} {M : IM} {o ci n i r : Nat} {fs : List (Option (Option Nat))} (h : ie_wf S M) (ho : S[o]? = some (ci + 2, n, fs)) (hr : r < S.length) : ie_wf (S.set o (ci + 2, n, fs.set i (some (some r)))) M := by
  intro p x hx
  rw [List.length_set]
  rw [List.getElem?_set] at hx
  split at hx
  · split at hx
    · cases hx
      refine ⟨fun q hq => ?_, fun e => ?_⟩
      · rcases List.mem_or_eq_of_mem_set hq with h1 | h1
        · exact (h o _ ho).1 q h1
        · cases h1; exact hr
      · simp at e
    · cases hx
  · exact h p x hx
theorem zr_set {S : List IK} {M : IM} {o : Nat} {k : IK} (hz : ie_zr S M) : ie_zr (S.set o k) M := fun p i h => hz p i (by rw [List.length_set] at h; exact h)
theorem wf_ms {S : List IK} {M : IM} {o i n : Nat} {c : Nat} {fs : List (Option (Option Nat))} {v : Int32} (h : ie_wf S M) (ho : S[o]? = some (c, n, fs)) (hc : ¬ c = 1 ∨ v.toNatClampNeg ≤ S.length) : ie_wf S (ms M o i v) := by
  intro p x hx
  obtain ⟨h1, h2⟩ := h p x hx
  refine ⟨h1, fun e j => ?_⟩
  unfold ms
  split
  · rename_i hh
    obtain ⟨rfl, rfl⟩ := hh
    rw [ho] at hx
    cases hx
    rcases hc with hc | hc
    · exact absurd e hc
    · exact hc
  · exact h2 e j
theorem zr_ms {S : List IK} {M : IM} {o i : Nat} {v : Int32} (hz : ie_zr S M) (ho : o < S.length) : ie_zr S (ms M o i v) := by
  intro p j hp
  unfold ms
  rw [if_neg (by intro h; omega)]
  exact hz p j hp
theorem ap_at {S : List IK} {o : Nat} {k x : IK} (h : S[o]? = some x) : (S ++ [k])[o]? = some x := by rw [List.getElem?_append_left (List.getElem?_eq_some_iff.mp h).1]; exact h
theorem nw_at {S : List IK} {k : IK} : (S ++ [k])[S.length]? = some k := by simp
theorem st_at {S : List IK} {o : Nat} {k x : IK} (h : S[o]? = some x) : (S.set o k)[o]? = some k := by rw [List.getElem?_set, if_pos rfl, if_pos (List.getElem?_eq_some_iff.mp h).1]
theorem st_at' {S : List IK} {o p : Nat} {k x : IK} (h : S[p]? = some x) (hp : ¬ o = p) : (S.set o k)[p]? = some x := by rw [List.getElem?_set, if_neg hp]; exact h
theorem nw_le {x n : Nat} (hb : x < 100000) (h : x < n) : (Int32.ofNat (x + 1)).toNatClampNeg ≤ n := by
  have e1 : (nI (x + 1)).toNatClampNeg = x + 1 := nI_clamp (by omega)
  show (nI (x + 1)).toNatClampNeg ≤ n
  omega
theorem lt_len {X : List IK} {p n m : Nat} (hp : p < n) (h : X.length = n + m) : p < X.length := by omega
theorem nlt_len {X : List IK} {p n m : Nat} (h : X.length = n + m) (e : p = X.length) : ¬ p < n := by omega
theorem le_len {X : List IK} {n m : Nat} (hn : n < 1000) (h : X.length = n + m) (hm : m ≤ 50000) : X.length ≤ 100000 := by omega
theorem bn_len {X : List IK} {n m : Nat} (hn : n < 500) (h : X.length = n + m) (hm : m ≤ 499) : X.length < 1000 := by omega
theorem l_app {S : List IK} {k : IK} {n m : Nat} (h : S.length = n + m) : (S ++ [k]).length = n + (m + 1) := by rw [List.length_append, h]; rfl
theorem l_set {S : List IK} {o : Nat} {k : IK} {n : Nat} (h : S.length = n) : (S.set o k).length = n := by rw [List.length_set, h]
theorem l_cal {X Y : List IK} {c n m : Nat} (e : X.length = Y.length + c) (h : Y.length = n + m) : X.length = n + (m + c) := by rw [e, h, Nat.add_assoc]
def qC (S' : List IK) (M' : IM) (n : Nat) (a : Nat → Nat) : IQ := fun r a1 S1 M1 => r = none ∧ S1 = S' ∧ M1 = M' ∧ ∀ o : Nat, o < n → a1 o = a o
section VNEW
variable {g : IG} {mi mj : MI} {d d' mc ns mc' ns' : Nat} {Q : IQ} {pc q : Nat} {L : List (Option Value)} {st : List Value} {a : Nat → Nat} {S : List IK} {M : IM} {ce sl index n : Nat}
theorem ie_hA {p : Program} {R : Room} {s : State} {m : MethodId} {args : Array Value} {meth : Method} {c : Code} (C : ie_C g mi d mc ns p R s m args meth c) : ∀ q : Nat, s.heap.size ≤ q → ie_A g q := fun _ h => Nat.le_trans C.2.2.2.2.2.1.2.1 h
theorem V_iastK {o n k : Nat} {fs : List (Option (Option Nat))} {i v : Int32} (hq : pc + 1 = q) (hd : decode mi.2.1 pc = .ok (.iastore, 1)) (hS0 : S[o]? = some (0, n, fs)) (hin : ¬ (i < 0 ∨ n ≤ i.toNatClampNeg)) (hk : i.toNatClampNeg = k) (kk : V g mi d mc ns Q q L st a S (ms M o k v) ce sl) : V g mi d mc ns Q pc L (.int v :: .int i :: .ref (a o) :: st) a S M ce sl := V_iast hq hd hS0 hin (by rw [hk]; exact kk)
theorem V_aastK {o n v N k : Nat} {T : u_T} {kk : Nat} {fs fv : List (Option (Option Nat))} {i x : Int32} (hq : pc + 1 = q) (hd : decode mi.2.1 pc = .ok (.aastore, 1)) (hS0 : S[o]? = some (1, n, fs)) (hS1 : S[v]? = some (ie_nwc + 2, kk, fv)) (hcl : vwCl[ie_nwc]? = some (RX4, T, N)) (hx : ¬ x = 0) (hxv : x.toNatClampNeg - 1 = v) (hin : ¬ (i < 0 ∨ n ≤ i.toNatClampNeg)) (hk : i.toNatClampNeg = k) (kk2 : V g mi d mc ns Q q L st a S (ms M o k x) ce sl) : V g mi d mc ns Q pc L (.ref (a v) :: .int i :: .ref (a o) :: st) a S M ce sl := V_aast hq hd hS0 hS1 hcl hx hxv hin (by rw [hk]; exact kk2)
/-- new: an object, its fields as they begin -/
theorem V_new {ci N : Nat} {T : u_T} {C0 : String} {ty : Nat → FieldType} {fs : List (Option (Option Nat))} (Lf : (Nat → Nat) → List (Option Value)) (sf : (Nat → Nat) → List Value) (hq : pc + 3 = q) (hd : decode mi.2.1 pc = .ok (.new index, 3)) (hc : ie_cls ci T N) (hcn : vwCl[ci]? = some (C0, T, N)) (hty : ∀ k, k < N → parseFieldDescriptor (T k).2.2.1 = some (ty k)) (hw : Cond.classLink mi.1.cls index C0 ∈ ie_T ∧ Cond.instantiable C0 N ∈ ie_T ∧ Cond.initialized C0 ∈ ie_T) (hfs : ∀ j, j < N → defaultValue (ty j) = vp_V (fs.map (ie_fv (fun _ => 0) 0)) j) (hnr : ∀ r : Nat, ¬ some (some r) ∈ fs) (hwf : ie_wf S M) (hz : ie_zr S M) (hroom : Nat.ble (ce + 1) mc = true ∧ Nat.ble (sl + N) ns = true) (hag : ∀ a', (∀ o, o < S.length → a' o = a o) → Lf a' = L ∧ sf a' = st)
    (k : ∀ a', (∀ o, o < S.length → a' o = a o) → V g mi d mc ns Q q (Lf a') (.ref (a' S.length) :: sf a') a' (S ++ [(ci + 2, N, fs)]) M (ce + 1) (sl + N)) : V g mi d mc ns Q pc L st a S M ce sl := by
  subst hq
  intro p e R s m args below meth c Fin C hr H locs ls hP hl hS
  obtain ⟨C1, hc1, hc2⟩ := hc
  have hh : (C1, T, N) = (C0, T, N) := Option.some.inj (hc1.symm.trans hcn)
  cases hh
  have hT := C.2.2.2.2.1
  have hf := C.2.2.2.2.2.2.1
  refine va_new (fs := fs.map (ie_fv (fun _ => 0) 0)) C.1 C.2.1 hT hc2 ty hty C.2.2.2.1 (hT _ hw.1) (hT _ hw.2.1) (hT _ hw.2.2) C.2.2.2.2.2.1.1 hP.1 hP.2 hS (ie_hA C) hcn hfs (Nat.le_trans (Nat.le_of_ble_eq_true hroom.1) hf.2.2.1) (Nat.le_trans (Nat.le_of_ble_eq_true hroom.2) hf.2.2.2) hd (fun q0 H1 h1 h2 h3 => ?_)
  have hg : ∀ o, o < S.length → va_up a S.length q0 o = a o := fun o ho => va_up_other ho
  have hent : ie_ent g (va_up a S.length q0) M S.length (ci + 2, N, fs) = (q0, .inr (ci, fs.map (ie_fv (fun _ => 0) 0))) := by
    unfold ie_ent
    rw [va_up_at]
    simp only
    congr 2
    refine Prod.ext rfl ?_
    refine List.ext_getElem? fun j => ?_
    rw [List.getElem?_mapIdx, List.getElem?_map]
    cases hj : fs[j]? with
    | none => rfl
    | some r =>
      have hm : r ∈ fs := List.mem_of_getElem? hj
      rw [Option.map_some, Option.map_some, hz _ j (Nat.le_refl _)]
      match r, hm with
      | none, _ => rfl
      | some none, _ => rfl
      | some (some x), hm => exact absurd hm (hnr x)
  have hP1 : ie_P g (va_up a S.length q0) (S ++ [(ci + 2, N, fs)]) M H1 := by
    unfold ie_P
    rw [ie_grow hwf hg, hent]
    exact ⟨h1, h2⟩
  obtain ⟨e1, e2⟩ := hag _ hg
  have kk := k _ hg p e R s m args below meth c Fin C hr H1 locs ls hP1 (by rw [e1]; exact hl) h3
  rw [e2, va_up_at] at kk
  exact kk
/-- newarray of ints -/
theorem V_newa {x : Int32} {n : Nat} (Lf : (Nat → Nat) → List (Option Value)) (sf : (Nat → Nat) → List Value) (hq : pc + 2 = q) (hd : decode mi.2.1 pc = .ok (.newarray .int, 2)) (hw : Cond.arrayClass .int ∈ ie_T) (hx : ¬ x < 0 ∧ x.toNatClampNeg = n ∧ n * 4 ≤ 536870912) (hwf : ie_wf S M) (hz : ie_zr S M) (hroom : Nat.ble (ce + 1) mc = true ∧ Nat.ble (sl + n) ns = true) (hag : ∀ a', (∀ o, o < S.length → a' o = a o) → Lf a' = L ∧ sf a' = st)
    (k : ∀ a', (∀ o, o < S.length → a' o = a o) → V g mi d mc ns Q q (Lf a') (.ref (a' S.length) :: sf a') a' (S ++ [(0, n, [])]) M (ce + 1) (sl + n)) : V g mi d mc ns Q pc L (.int x :: st) a S M ce sl := by
  subst hq
  intro p e R s m args below meth c Fin C hr H locs ls hP hl hS
  have hT := C.2.2.2.2.1
  have hf := C.2.2.2.2.2.2.1
  have hK := C.2.2.2.2.2.1.1
  refine va_newa (atype := .int) (a0 := (n, .inl (fun _ => 0))) (ty := .int) C.1 C.2.1 (hT _ hw) rfl hK hP.1 hP.2 hS (ie_hA C) (fun cA => rfl) hx.1 hx.2.1 hx.2.2 (Nat.le_trans (Nat.le_of_ble_eq_true hroom.1) hf.2.2.1) (Nat.le_trans (Nat.le_of_ble_eq_true hroom.2) hf.2.2.2) hd (fun q0 cA H1 hK1 h1 h2 h3 => ?_)
  have hcA : cA = gI g := by
    have e1 := (hK1.2 2 (cA, .int) rfl).2
    have e2 := (hK.2 0 (gI g, .int) rfl).2
    exact Option.some.inj (e1.symm.trans e2)
  subst hcA
  have hg : ∀ o, o < S.length → va_up a S.length q0 o = a o := fun o ho => va_up_other ho
  have hent : ie_ent g (va_up a S.length q0) M S.length (0, n, []) = (q0, .inl (gI g, n, .inl (fun _ => 0))) := by
    have hM : M S.length = fun _ => 0 := funext fun i => hz _ i (Nat.le_refl _)
    unfold ie_ent
    rw [va_up_at, hM]
  have hP1 : ie_P g (va_up a S.length q0) (S ++ [(0, n, [])]) M H1 := by
    unfold ie_P
    rw [ie_grow hwf hg, hent]
    exact ⟨h1, h2⟩
  obtain ⟨e1, e2⟩ := hag _ hg
  have kk := k _ hg p e R s m args below meth c Fin C hr H1 locs ls hP1 (by rw [e1]; exact hl) h3
  rw [e2, va_up_at] at kk
  exact kk
/-- anewarray of Nows -/
theorem V_newq {x : Int32} {n : Nat} (Lf : (Nat → Nat) → List (Option Value)) (sf : (Nat → Nat) → List Value) (hq : pc + 3 = q) (hd : decode mi.2.1 pc = .ok (.anewarray index, 3)) (hw : Cond.classLink mi.1.cls index RX4 ∈ ie_T) (hx : ¬ x < 0 ∧ x.toNatClampNeg = n ∧ n * 4 ≤ 536870912) (hwf : ie_wf S M) (hz : ie_zr S M) (hroom : Nat.ble (ce + 1) mc = true ∧ Nat.ble (sl + n) ns = true) (hag : ∀ a', (∀ o, o < S.length → a' o = a o) → Lf a' = L ∧ sf a' = st)
    (k : ∀ a', (∀ o, o < S.length → a' o = a o) → V g mi d mc ns Q q (Lf a') (.ref (a' S.length) :: sf a') a' (S ++ [(1, n, [])]) M (ce + 1) (sl + n)) : V g mi d mc ns Q pc L (.int x :: st) a S M ce sl := by
  subst hq
  intro p e R s m args below meth c Fin C hr H locs ls hP hl hS
  have hT := C.2.2.2.2.1
  have hf := C.2.2.2.2.2.2.1
  have hK := C.2.2.2.2.2.1.1
  refine va_newq (C := RX4) C.1 C.2.1 C.2.2.2.1 (hT _ hw) C.2.2.2.2.2.1.2.2.2.1 hK hP.1 hP.2 hS (ie_hA C) hx.1 hx.2.1 hx.2.2 (Nat.le_trans (Nat.le_of_ble_eq_true hroom.1) hf.2.2.1) (Nat.le_trans (Nat.le_of_ble_eq_true hroom.2) hf.2.2.2) hd (fun q0 cA H1 hK1 h1 h2 h3 => ?_)
  have hcA : cA = gN g := by
    obtain ⟨_, _, _, _, _, e1⟩ := (hK1.2 2 (cA, .object RX4) rfl).2
    obtain ⟨_, _, _, _, _, e2⟩ := (hK.2 1 (gN g, .object RX4) rfl).2
    exact Option.some.inj (e1.symm.trans e2)
  subst hcA
  have hg : ∀ o, o < S.length → va_up a S.length q0 o = a o := fun o ho => va_up_other ho
  have hent : ie_ent g (va_up a S.length q0) M S.length (1, n, []) = (q0, .inl (gN g, n, .inr (.inr (.inr (.inr (fun _ => none)))))) := by
    have hM : M S.length = fun _ => 0 := funext fun i => hz _ i (Nat.le_refl _)
    unfold ie_ent
    rw [va_up_at, hM]
    simp only [ie_rf]
    rfl
  have hP1 : ie_P g (va_up a S.length q0) (S ++ [(1, n, [])]) M H1 := by
    unfold ie_P
    rw [ie_grow hwf hg, hent]
    exact ⟨h1, h2⟩
  obtain ⟨e1, e2⟩ := hag _ hg
  have kk := k _ hg p e R s m args below meth c Fin C hr H1 locs ls hP1 (by rw [e1]; exact hl) h3
  rw [e2, va_up_at] at kk
  exact kk
/-- a final field gets its reference, in a constructor -/
theorem V_putr {o ci n N k0 index r : Nat} {T : u_T} {ty0 : Nat → FieldType} {ty : FieldType} {fs : List (Option (Option Nat))} (hq : pc + 3 = q) (hd : decode mi.2.1 pc = .ok (.putfield index, 3)) (hS0 : S[o]? = some (ci + 2, n, fs)) (hc : ie_cls ci T N) (hty : ∀ k, k < N → parseFieldDescriptor (T k).2.2.1 = some (ty0 k)) (hnm : ∀ a, a < N → ∀ b, b < N → a ≠ b → (T a).2.1 ≠ (T b).2.1) (hk : k0 < N) (hf : k0 < fs.length) (hw : Cond.fieldLink mi.1.cls index (T k0).1 (T k0).2.1 (T k0).2.2.1 ∈ ie_T) (hfin : (T k0).2.2.2 = true) (hini : mi.1.name = "<init>") (hdecl : (T k0).1 = mi.1.cls) (hdd : parseFieldDescriptor (T k0).2.2.1 = some ty) (hn : narrow ty (.ref (a r)) = .ref (a r)) (hfit : fits ty (.ref (a r)) = true) (k : V g mi d mc ns Q q L st a (S.set o (ci + 2, n, fs.set k0 (some (some r)))) M ce sl) : V g mi d mc ns Q pc L (.ref (a r) :: .ref (a o) :: st) a S M ce sl := by
  subst hq
  obtain ⟨C0, hc1, hc2⟩ := hc
  exact fun p e R s m args below meth c Fin C hr H locs ls hP hl hS => va_putF C.1 C.2.1 C.2.2.2.2.1 hc2 ty0 hty hnm C.2.2.2.1 C.2.2.2.2.2.1.1 hP.1 hP.2 hS o (ie_at hS0) hc1 k0 hk (C.2.2.2.2.1 _ hw) (fun _ h => h) hfin (C.2.2.2.2.2.2.2 hini) hdecl hdd hn hfit (by rw [List.length_mapIdx]; exact hf) hd (fun H1 locs1 h1 h2 h3 => k p e R s m args below meth c Fin C hr H1 locs1 ls ⟨by rw [← ie_mo hS0]; exact h1, by rw [← ie_mo hS0]; exact h2⟩ hl h3)
/-- Object.<init> -/
theorem V_obj {x : Nat} (hq : pc + 3 = q) (hd : decode mi.2.1 pc = .ok (.invokespecial index, 3)) (hw : Cond.methodLink mi.1.cls index Lib.objectInit ∈ ie_T ∧ Cond.instanceMethod Lib.objectInit ∈ ie_T ∧ Cond.code Lib.objectInit ⟨#[0xb1]⟩ 1 none ∈ ie_T) (hst : Nat.ble ((st.map fun v => v.category).sum) 8 = true) (k : V g mi d mc ns Q q L st a S M ce sl) : V g mi d mc ns Q pc L (.ref x :: st) a S M ce sl := by
  subst hq
  intro p e R s m args below meth c Fin C hr H locs ls hP hl hS
  have hT := C.2.2.2.2.1
  have hf := C.2.2.2.2.2.2.1
  have h8 := Nat.le_of_ble_eq_true hst
  exact W.objInit C.1 C.2.1 C.2.2.2.1 (hT _ hw.1) (hT _ hw.2.1) (hT _ hw.2.2) rfl (hl.1.trans C.2.2.1.symm) rfl hd (by omega) (by show 2 * 0 + _ + 12 ≤ _; omega) (k p e R s m args below meth c Fin C hr H locs ls hP hl hS)
/-- a constructor's call -/
theorem V_ini {o : Nat} {As st0 : List Value} {S' : List IK} {M' : IM} (Lf : (Nat → Nat) → List (Option Value)) (sf : (Nat → Nat) → List Value) (hq : pc + 3 = q) (hd : decode mi.2.1 pc = .ok (.invokespecial index, 3)) (hM : ie_M mj n) (hr0 : mj.2.2.2 = none) (hn0 : mj.1.name = "<init>") (hi : Cond.instanceMethod mj.1 ∈ ie_T) (hw : Cond.methodLink mi.1.cls index mj.1 ∈ ie_T) (hdd : d' < d) (hf : Nat.ble (ce + mc') mc = true ∧ Nat.ble (sl + ns') ns = true) (hn : As.length = n) (hst0 : As.reverse ++ .ref (a o) :: st = st0) (hst : Nat.ble ((st.map fun v => v.category).sum) 8 = true) (hag : ∀ a', (∀ o, o < S.length → a' o = a o) → Lf a' = L ∧ sf a' = st) (hC : Cn g mj d' mc' ns' (qC S' M' S.length a) (.ref (a o) :: As) a S M)
    (k : ∀ a', (∀ o, o < S.length → a' o = a o) → V g mi d mc ns Q q (Lf a') (sf a') a' S' M' (ce + mc') (sl + ns')) : V g mi d mc ns Q pc L st0 a S M ce sl := by
  subst hq
  subst hst0
  intro p e R s m args below meth c Fin C hr H locs ls hP hl hS
  have hB := callB_of (rm := ie_rm d' mc' ns') (mc := mc') (ms := ns') (bytes := mj.2.1) (maxL := mj.2.2.1) (ret := none) (ws' := ie_T) n C.2.2.2.2.1 (ie_goodc hM.1) (by rw [hr0]) rfl rfl (C.2.2.2.2.1 _ hM.2.1) (C.2.2.2.2.1 _ hw) hM.2.2.1 (ie_room C hM hdd)
  refine ie_call (va_runI ⟨C.1, C.2.1, C.2.2.1, C.2.2.2.1, C.2.2.2.2.1⟩ hC ⟨hB, hn0, C.2.2.2.2.1 _ hi⟩ ⟨ie_blind, ie_pre C hP hS⟩ rfl hn hl.1 rfl (ie_stk (Nat.le_of_ble_eq_true hst)) hd ⟨Nat.le_trans (Nat.le_of_ble_eq_true hf.1) C.2.2.2.2.2.2.1.2.2.1, Nat.le_trans (Nat.le_of_ble_eq_true hf.2) C.2.2.2.2.2.2.1.2.2.2⟩) hS (fun r a1 S1 M1 H1 locs1 hQ hP1 hS1 => ?_)
  obtain ⟨rfl, rfl, rfl, h4⟩ := hQ
  obtain ⟨e1, e2⟩ := hag a1 h4
  have kk := k a1 h4 p e R s m args below meth c Fin C hr H1 locs1 ls hP1 (by rw [e1]; exact hl) hS1
  rw [e2] at kk
  exact kk
theorem V_inin {host : String} {o : Nat} {As st0 : List Value} {S' : List IK} {M' : IM} (Lf : (Nat → Nat) → List (Option Value)) (sf : (Nat → Nat) → List Value) (hq : pc + 3 = q) (hd : decode mi.2.1 pc = .ok (.invokespecial index, 3)) (hM : ie_M mj n) (hr0 : mj.2.2.2 = none) (hn0 : mj.1.name = "<init>") (hi : Cond.instanceMethod mj.1 ∈ ie_T) (hw : Cond.methodLinkNest mi.1.cls index mj.1 host ∈ ie_N) (hdd : d' < d) (hf : Nat.ble (ce + mc') mc = true ∧ Nat.ble (sl + ns') ns = true) (hn : As.length = n) (hst0 : As.reverse ++ .ref (a o) :: st = st0) (hst : Nat.ble ((st.map fun v => v.category).sum) 8 = true) (hag : ∀ a', (∀ o, o < S.length → a' o = a o) → Lf a' = L ∧ sf a' = st) (hC : Cn g mj d' mc' ns' (qC S' M' S.length a) (.ref (a o) :: As) a S M)
    (k : ∀ a', (∀ o, o < S.length → a' o = a o) → V g mi d mc ns Q q (Lf a') (sf a') a' S' M' (ce + mc') (sl + ns')) : V g mi d mc ns Q pc L st0 a S M ce sl := by
  subst hq
  subst hst0
  intro p e R s m args below meth c Fin C hr H locs ls hP hl hS
  have hB := va_cnB (R := R) (rm := ie_rm d' mc' ns') (mc := mc') (ms := ns') (bytes := mj.2.1) (maxL := mj.2.2.1) (ret := none) (ws' := ie_T) n C.2.2.2.2.1 (ie_goodc hM.1) (by rw [hr0]) rfl rfl (C.2.2.2.2.2.1.2.2.1 _ hw) (C.2.2.2.2.1 _ hM.2.1) hM.2.2.1 (ie_room C hM hdd)
  refine ie_call (va_runIN ⟨C.1, C.2.1, C.2.2.1, C.2.2.2.1, C.2.2.2.2.1⟩ hC ⟨hB, hn0, C.2.2.2.2.1 _ hi⟩ ⟨ie_blind, ie_pre C hP hS⟩ rfl hn hl.1 rfl (ie_stk (Nat.le_of_ble_eq_true hst)) hd ⟨Nat.le_trans (Nat.le_of_ble_eq_true hf.1) C.2.2.2.2.2.2.1.2.2.1, Nat.le_trans (Nat.le_of_ble_eq_true hf.2) C.2.2.2.2.2.2.1.2.2.2⟩) hS (fun r a1 S1 M1 H1 locs1 hQ hP1 hS1 => ?_)
  obtain ⟨rfl, rfl, rfl, h4⟩ := hQ
  obtain ⟨e1, e2⟩ := hag a1 h4
  have kk := k a1 h4 p e R s m args below meth c Fin C hr H1 locs1 ls hP1 (by rw [e1]; exact hl) hS1
  rw [e2] at kk
  exact kk
end VNEW
