/-! contracts over V, and calls -/
abbrev ie_rm (d mc ns : Nat) : Room := { frames := d + 1, cells := mc, slots := ns, locals := 40 * (d + 1) }
def ie_Q (g : IG) (Q : IQ) : Array Value → State → Outcome → State → Prop := fun _ st oc t => (∃ (r : Option Value) (a : Nat → Nat) (S : List IK) (M : IM), oc = .returned r ∧ Q r a S M ∧ ie_P g a S M t.heap) ∧ va_F (ie_A g) st t
abbrev ie_wd (mi : MI) : List Cond := Cond.code mi.1 mi.2.1 mi.2.2.1 mi.2.2.2 :: ie_T
def Cn (g : IG) (mi : MI) (d mc ns : Nat) (Q : IQ) (As : List Value) (a : Nat → Nat) (S : List IK) (M : IM) : Prop := Met g.1 mi.1 (ie_wd mi) (ie_rm d mc ns) (va_Pc As (fun U => ie_P g a S M U.heap ∧ ie_U g U)) (ie_Q g Q) mc ns (ie_A g)
theorem ie_args {As : List Value} (hc : ∀ v ∈ As, v.category = 1) (i j : Nat) (v : Value) (h : As[j]? = some v) : (i + j, v) ∈ lv_args i As := by
  induction As generalizing i j with
  | nil => simp at h
  | cons x t ih =>
    unfold lv_args
    cases j with
    | zero =>
      simp at h
      subst h
      exact List.mem_cons_self
    | succ j =>
      simp at h
      have hx : x.category = 1 := hc x List.mem_cons_self
      rw [if_neg (by rw [hx]; decide)]
      have := ih (fun v hv => hc v (List.mem_cons_of_mem _ hv)) (i + 1) j h
      rw [show i + (j + 1) = i + 1 + j by omega]
      exact List.mem_cons_of_mem _ this
theorem ie_sl {As : List Value} (hc : ∀ v ∈ As, v.category = 1) : (lg_sl As).length = As.length := by
  induction As with
  | nil => rfl
  | cons x t ih =>
    have hx : x.category = 1 := hc x List.mem_cons_self
    have h1 := ih (fun v hv => hc v (List.mem_cons_of_mem _ hv))
    unfold lg_sl at h1 ⊢
    rw [List.flatMap_cons, if_neg (by rw [hx]; decide), List.length_append, h1, List.length_cons]
    simp
    omega
theorem ie_entry {As : List Value} {n : Nat} {L : List (Option Value)} (hc : ∀ v ∈ As, v.category = 1) (hn : As.length ≤ n) (hL : As.map some ++ List.replicate (n - As.length) none = L) : ie_L ((lg_sl As ++ List.replicate (n - (lg_sl As).length) Slot.unset).toArray) n L := by
  have h := lv_entry As (n := n) (by rw [ie_sl hc]; exact hn)
  refine ⟨h.1, h.2.1, fun i v hi => ?_⟩
  subst hL
  rw [List.getElem?_append] at hi
  split at hi
  · rw [List.getElem?_map] at hi
    cases hv : As[i]? with
    | none => rw [hv] at hi; cases hi
    | some w =>
      rw [hv] at hi
      cases hi
      have := ie_args hc 0 i v hv
      rw [Nat.zero_add] at this
      exact ⟨h.2.2 (i, v) this, hc v (List.mem_of_getElem? hv)⟩
  · rw [List.getElem?_replicate] at hi
    split at hi <;> cases hi
/-- V at the entry is the contract -/
theorem Cn_of {g : IG} {mi : MI} {d mc ns n : Nat} {Q : IQ} {As : List Value} {L : List (Option Value)} {a : Nat → Nat} {S : List IK} {M : IM} (hM : ie_M mi n) (hc : ∀ v ∈ As, v.category = 1) (hn : As.length ≤ mi.2.2.1) (hL : As.map some ++ List.replicate (mi.2.2.1 - As.length) none = L) (hV : V g mi d mc ns Q 0 L [] a S M 0 0) : Cn g mi d mc ns Q As a S M := by
  refine va_MetF (cc := mi.2.1) (maxL := mi.2.2.1) (ret := mi.2.2.2) hM.2.2.2.2 rfl ?_
  intro p e s m args below meth c s₁ B hml hv
  obtain ⟨rfl, hP, hU⟩ := hv
  have hts : ∀ w ∈ ie_T, w.before As.toArray s = true := fun w h => atoms_spec (ws := ie_wd mi) B.pre w (List.mem_cons_of_mem _ h)
  have hown : s.vm.findClass mi.1.cls = some m.cls := findClass_of_methodNamed B.named
  rw [lg_entry_eq]
  refine hV p e (ie_rm d mc ns) s m As.toArray below meth c _ ⟨B.exec, B.bytes, hml, hown, hts, hU, ⟨Nat.le_refl _, Nat.le_refl _, Nat.le_refl _, Nat.le_refl _⟩, ?_⟩ ?_ s.heap [] _ hP (ie_entry hc hn hL) va_S.rf
  · exact fun h => ((name_of_methodNamed B.named B.method).1).trans h
  · intro r a S M H locs ls pc ce sl hQ hP hS h1 h2 hd
    refine W.widen (k := mc) (n := ns) h1 h2 ?_
    rcases hd with ⟨rfl, hty, hd⟩ | ⟨x, ty, rfl, hty, hn, hd⟩
    · exact W.vret B.exec B.bytes (B.returns.trans hty) (fun t ht hW => ⟨⟨none, a, S, M, rfl, hQ, by rw [ht]; exact hP⟩, hS.F ht⟩) hS.2.2 hd B.notSynchronized
    · exact W.zret B.exec B.bytes (B.returns.trans hty) hn (fun t ht hW => ⟨⟨some (.int x), a, S, M, rfl, hQ, by rw [ht]; exact hP⟩, hS.F ht⟩) hS.2.2 hd B.notSynchronized
section VCALLS
variable {g : IG} {mi mj : MI} {d d' mc ns mc' ns' : Nat} {Q Q' : IQ} {pc q : Nat} {L L' : List (Option Value)} {st As : List Value} {a : Nat → Nat} {S : List IK} {M : IM} {ce sl index n : Nat}
theorem ie_call {p : Program} {e : Env} {R : Room} {s : State} {m : MethodId} {args : Array Value} {below : List Frame} {meth : Method} {c : Code} {H : Heap} {locs : List Loc} {Fin : State → Prop} {ls : Array Slot} {st0 rest : List Value} {ar : Array Value}
    (hr : va_Run p g.1 e R s m args below meth c H locs ce sl mc' ns' (F0 m pc ls st0) rest (ie_Q g Q' ar) (ie_A g)) (hS : va_S (ie_A g) s.heap H locs)
    (kk : ∀ (r : Option Value) (a1 : Nat → Nat) (S1 : List IK) (M1 : IM) (H1 : Heap) (locs1 : List Loc), Q' r a1 S1 M1 → ie_P g a1 S1 M1 H1 → va_S (ie_A g) s.heap H1 locs1 → W p g.1 e R s m args below meth c H1 locs1 (ce + mc') (sl + ns') Fin (F0 m (pc + 3) ls (r.toList ++ rest))) : W p g.1 e R s m args below meth c H locs ce sl Fin (F0 m pc ls st0) := by
  intro T hT X
  obtain ⟨v, st₀, t, T', L, h0, X', hL, e1, e2, ⟨⟨r, a1, S1, M1, hv, hp, hb⟩, hz, hk⟩, st⟩ := hr T hT X
  cases hv
  rw [h0] at hz hk
  obtain ⟨t2, b1, b2⟩ := kk v a1 S1 M1 T'.heap (locs ++ L) hp (by rw [e1]; exact hb)
    ⟨Nat.le_trans hS.1 (by rw [e1]; exact hz), fun q h1 h2 => by rw [e1, hk q (Nat.lt_of_lt_of_le h1 hS.1) h2]; exact hS.2.1 q h1 h2, fun q hq => by
      rcases List.mem_append.mp hq with h | h
      · exact hS.2.2 q h
      · exact hL q h⟩ T' rfl X'
  exact ⟨t2, st t2 b1, b2⟩
theorem ie_blind : FrameBlind (va_Pc As (fun U => ie_P g a S M U.heap ∧ ie_U g U)) := by
  intro ar U gg mk h
  obtain ⟨h1, h2, h3, h4, h6, h7, h5⟩ := h
  refine ⟨h1, h2, va_K.moved (u := U) (U := U.calling gg mk ar) (Vm.Alike.refl U.vm) h3, h4, fun w hw => ie_N_same (s := U) (U := U.calling gg mk ar) rfl (List.mem_filter.mp hw).2 (h6 w hw), va_AO.moved (u := U) (U := U.calling gg mk ar) (Vm.Alike.refl U.vm) h7, ?_⟩
  obtain ⟨e1, e2, e3, e4, e5, e6, e7, e8⟩ := h5
  have hvm : U.vm.Alike (U.calling gg mk ar).vm := Vm.Alike.refl U.vm
  exact ⟨e1.moved hvm, e2.moved hvm, e3.moved hvm, e4.same rfl, e5.moved hvm, e6.moved hvm, e7, e8.moved hvm⟩
theorem ie_pre {p : Program} {R : Room} {s : State} {m : MethodId} {args : Array Value} {meth : Method} {c : Code} {H : Heap} {locs : List Loc} (C : ie_C g mi d mc ns p R s m args meth c) (hP : ie_P g a S M H) (hS : va_S (ie_A g) s.heap H locs) : ∀ U : State, U.heap = H → s.WarmedH U.vm → va_Pc As (fun U => ie_P g a S M U.heap ∧ ie_U g U) As.toArray U := by
  intro U hU hW
  obtain ⟨h1, h2, h4, h5, h3⟩ := C.2.2.2.2.2.1
  refine ⟨rfl, by rw [hU]; exact hP, va_K.moved hW.alike h1, by rw [hU]; exact Nat.le_trans h2 hS.1, fun w hw => ie_N_warm hW (List.mem_filter.mp hw).2 (h4 w hw), h5.moved hW.alike, by rw [hU]; exact h3.go h2 hS hW⟩
theorem ie_rec {p : Program} {R : Room} {s : State} {m : MethodId} {args : Array Value} {meth : Method} {c : Code} {H : Heap} {o ci k N : Nat} {T : u_T} {fs : List (Option (Option Nat))} {D : String} (C : ie_C g mi d mc ns p R s m args meth c) (hP : ie_P g a S M H) (hS0 : S[o]? = some (ci + 2, k, fs)) (hc : vwCl[ci]? = some (D, T, N)) : ∃ cellB : Cell, H[a o]? = some cellB ∧ cellB.vm.isStatics = false ∧ s.vm.findClass D = some cellB.cls := va_recv C.2.2.2.2.2.1.1 hP.1 hc (ie_at hS0)
theorem ie_room {p : Program} {R : Room} {s : State} {m : MethodId} {args : Array Value} {meth : Method} {c : Code} (C : ie_C g mi d mc ns p R s m args meth c) (hM : ie_M mj n) (hdd : d' < d) : (ie_rm d' mc' ns').frames + 1 ≤ R.frames ∧ 8 + (mj.2.2.1 + 11) + (ie_rm d' mc' ns').locals ≤ R.locals := by
  obtain ⟨h1, h2, -⟩ := C.2.2.2.2.2.2.1
  have h3 := hM.2.2.2.1
  constructor
  · show d' + 1 + 1 ≤ R.frames
    omega
  · show 8 + (mj.2.2.1 + 11) + 40 * (d' + 1) ≤ R.locals
    omega
theorem ie_stk (h : (st.map fun v => v.category).sum ≤ 8) {m : MethodId} {ls : Array Slot} {st0 : List Value} : 2 * (F0 m pc ls st0).monitorRoom + (st.map fun v => v.category).sum ≤ 8 := lv_room h
/-- invokevirtual of an own method -/
theorem V_callV {o ci kk N : Nat} {T : u_T} {fs : List (Option (Option Nat))} {st0 : List Value} (hq : pc + 3 = q) (hd : decode mi.2.1 pc = .ok (.invokevirtual index, 3)) (hM : ie_M mj n) (hi : Cond.instanceMethod mj.1 ∈ ie_T ∧ Cond.selects mj.1.cls mj.1 mj.1 ∈ ie_T) (hw : Cond.methodLink mi.1.cls index mj.1 ∈ ie_T) (hdd : d' < d) (hf : ce + mc' ≤ mc ∧ sl + ns' ≤ ns) (hS0 : S[o]? = some (ci + 2, kk, fs)) (hcl : vwCl[ci]? = some (mj.1.cls, T, N)) (hn : As.length = n) (hst0 : As.reverse ++ .ref (a o) :: st = st0) (hst : (st.map fun v => v.category).sum ≤ 8) (hC : Cn g mj d' mc' ns' Q' (.ref (a o) :: As) a S M)
    (k : ∀ (r : Option Value) (a1 : Nat → Nat) (S1 : List IK) (M1 : IM), Q' r a1 S1 M1 → V g mi d mc ns Q q L (r.toList ++ st) a1 S1 M1 (ce + mc') (sl + ns')) : V g mi d mc ns Q pc L st0 a S M ce sl := by
  subst hq
  subst hst0
  intro p e R s m args below meth c Fin C hr H locs ls hP hl hS
  have hB := callB_of (rm := ie_rm d' mc' ns') (mc := mc') (ms := ns') (bytes := mj.2.1) (maxL := mj.2.2.1) (ret := mj.2.2.2) n C.2.2.2.2.1 (ie_goodc hM.1) rfl rfl rfl (C.2.2.2.2.1 _ hM.2.1) (C.2.2.2.2.1 _ hw) hM.2.2.1 (ie_room C hM hdd)
  exact ie_call (va_runV ⟨C.1, C.2.1, C.2.2.1, C.2.2.2.1, C.2.2.2.2.1⟩ hC ⟨hB, C.2.2.2.2.1 _ hi.1, C.2.2.2.2.1 _ hi.2⟩ ⟨ie_blind, ie_rec C hP hS0 hcl, ie_pre C hP hS⟩ rfl hn hl.1 rfl (ie_stk hst) hd ⟨Nat.le_trans hf.1 C.2.2.2.2.2.2.1.2.2.1, Nat.le_trans hf.2 C.2.2.2.2.2.2.1.2.2.2⟩) hS (fun r a1 S1 M1 H1 locs1 hQ hP1 hS1 => k r a1 S1 M1 hQ p e R s m args below meth c Fin C hr H1 locs1 ls hP1 hl hS1)
/-- invokestatic of an own method -/
theorem V_callS {st0 : List Value} (hq : pc + 3 = q) (hd : decode mi.2.1 pc = .ok (.invokestatic index, 3)) (hM : ie_M mj n) (hi : Cond.static mj.1 ∈ ie_T) (hw : Cond.methodLink mi.1.cls index mj.1 ∈ ie_T) (hdd : d' < d) (hf : ce + mc' ≤ mc ∧ sl + ns' ≤ ns) (hn : As.length = n) (hst0 : As.reverse ++ st = st0) (hst : (st.map fun v => v.category).sum ≤ 8) (hC : Cn g mj d' mc' ns' Q' As a S M)
    (k : ∀ (r : Option Value) (a1 : Nat → Nat) (S1 : List IK) (M1 : IM), Q' r a1 S1 M1 → V g mi d mc ns Q q L (r.toList ++ st) a1 S1 M1 (ce + mc') (sl + ns')) : V g mi d mc ns Q pc L st0 a S M ce sl := by
  subst hq
  subst hst0
  intro p e R s m args below meth c Fin C hr H locs ls hP hl hS
  have hB := callB_of (rm := ie_rm d' mc' ns') (mc := mc') (ms := ns') (bytes := mj.2.1) (maxL := mj.2.2.1) (ret := mj.2.2.2) n C.2.2.2.2.1 (ie_goodc hM.1) rfl rfl rfl (C.2.2.2.2.1 _ hM.2.1) (C.2.2.2.2.1 _ hw) hM.2.2.1 (ie_room C hM hdd)
  exact ie_call (va_runS ⟨C.1, C.2.1, C.2.2.1, C.2.2.2.1, C.2.2.2.2.1⟩ hC ⟨hB, C.2.2.2.2.1 _ hi⟩ ⟨ie_blind, ie_pre C hP hS⟩ rfl hn hl.1 rfl (ie_stk hst) hd ⟨Nat.le_trans hf.1 C.2.2.2.2.2.2.1.2.2.1, Nat.le_trans hf.2 C.2.2.2.2.2.2.1.2.2.2⟩) hS (fun r a1 S1 M1 H1 locs1 hQ hP1 hS1 => k r a1 S1 M1 hQ p e R s m args below meth c Fin C hr H1 locs1 ls hP1 hl hS1)
/-- invokestatic of a nest mate's private method -/
theorem V_callSN {st0 : List Value} {host : String} (hq : pc + 3 = q) (hd : decode mi.2.1 pc = .ok (.invokestatic index, 3)) (hM : ie_M mj n) (hi : Cond.static mj.1 ∈ ie_T) (hw : Cond.methodLinkNest mi.1.cls index mj.1 host ∈ ie_N) (hdd : d' < d) (hf : ce + mc' ≤ mc ∧ sl + ns' ≤ ns) (hn : As.length = n) (hst0 : As.reverse ++ st = st0) (hst : (st.map fun v => v.category).sum ≤ 8) (hC : Cn g mj d' mc' ns' Q' As a S M)
    (k : ∀ (r : Option Value) (a1 : Nat → Nat) (S1 : List IK) (M1 : IM), Q' r a1 S1 M1 → V g mi d mc ns Q q L (r.toList ++ st) a1 S1 M1 (ce + mc') (sl + ns')) : V g mi d mc ns Q pc L st0 a S M ce sl := by
  subst hq
  subst hst0
  intro p e R s m args below meth c Fin C hr H locs ls hP hl hS
  have hB := va_cnB (R := R) (rm := ie_rm d' mc' ns') (mc := mc') (ms := ns') (bytes := mj.2.1) (maxL := mj.2.2.1) (ret := mj.2.2.2) n C.2.2.2.2.1 (ie_goodc hM.1) rfl rfl rfl (C.2.2.2.2.2.1.2.2.1 _ hw) (C.2.2.2.2.1 _ hM.2.1) hM.2.2.1 (ie_room C hM hdd)
  exact ie_call (va_runSN ⟨C.1, C.2.1, C.2.2.1, C.2.2.2.1, C.2.2.2.2.1⟩ hC ⟨hB, C.2.2.2.2.1 _ hi, trivial⟩ ⟨ie_blind, ie_pre C hP hS⟩ rfl hn hl.1 rfl (ie_stk hst) hd ⟨Nat.le_trans hf.1 C.2.2.2.2.2.2.1.2.2.1, Nat.le_trans hf.2 C.2.2.2.2.2.2.1.2.2.2⟩) hS (fun r a1 S1 M1 H1 locs1 hQ hP1 hS1 => k r a1 S1 M1 hQ p e R s m args below meth c Fin C hr H1 locs1 ls hP1 hl hS1)
end VCALLS
