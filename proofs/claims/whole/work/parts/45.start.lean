/-! THE CLAIM OUT OF ONE WALK OF THE LAW'S BODY. Your part is whole_start (and what it stands on); all else here is the same for every law, but numbers. -/
def R_law : String := "NeverHaltedLaw"
def lw_P (b : Addr) (xs : List Int32) (args : Array Value) (s : State) : Prop := args = #[.ref b] ∧ s.IntsAt b xs ∧ xs.length ≤ 3072 ∧ (Jvm.Cond.and given_1 narrow_1).before args s = true
def lw_Q (_ : Array Value) (s : State) (o : Outcome) (t : State) : Prop := o = .returned (some (.int 1)) ∧ Framed s o t [] 600000 7302249
def lw_Z (below : List Frame) (a : Array Value) (s : State) : State → Prop := fun t => ∃ o, t.status = .running ∧ Ended t below o ∧ lw_Q a s o t
/-- the law's own end, with 1 on the stack, nothing written that was there before, its room as the claim has it -/
theorem lw_ret {p : Program} {l : Launch} {e : Env} {s : State} {m : MethodId} {below : List Frame} {meth : Method} {c : Code} {b : Nat} (hx : p.tables.exec = Jvm.exec) (hb : c.code = code) (hr : meth.sig.returnType = ret) (hlocks : meth.locks = false) {pc : Nat} {H : Heap} {ls : Array Slot} (hdg : decode code pc = .ok (.ireturn, 1)) : W p l e room_1 s m #[Value.ref b] below meth c H [] 600000 7302249 (lw_Z below #[Value.ref b] s) (F0 m pc ls [.int 1]) := by
  intro T hT X
  obtain ⟨fs, hret, hrun, hended, hW, hframe⟩ := X.leave (v := some (.int 1)) (hlocks := hlocks) (fun h => by rw [hr] at h; cases h)
  have hmeth' : T.vm.method? m = some meth := X.method'
  refine ⟨T.setFrames fs, ?_, .returned (some (.int 1)), hrun, hended, rfl, ⟨_, rfl⟩, hW, hframe⟩
  jvm_step X.here [X.here.top, hx, hb, hdg, hmeth', hr, ret, narrow_b1]
  (try refine ⟨rfl, ?_⟩); (try refine ⟨rfl, ?_⟩)
  first | (intro acts; rw [hret _ acts rfl rfl rfl]) | rw [hret _ _ rfl rfl rfl]
  exact Steps.refl _
/-- what holds at the law's entry: the machine, the code, the tables' words (any of lw_tbl by 'hts w (by decide +kernel)'), the script of L ints xs at the cell b, what the Statement gives of the start (any of its parts by flat_of_before) -/
def lw_At (p : Program) (s : State) (m : MethodId) (meth : Method) (c : Code) (b L : Nat) (xs : Nat → Int32) : Prop :=
  p.tables.exec = Jvm.exec ∧ c.code = code ∧ meth.sig.returnType = ret ∧ c.maxLocals = 4 ∧ s.vm.findClass R_law = some m.cls ∧ (∀ w ∈ lw_tbl, w.before #[Value.ref b] s = true) ∧ va_X b L xs s s.heap ∧ b < s.heap.size ∧ meth.locks = false ∧ (Jvm.Cond.and given_1 narrow_1).before #[Value.ref b] s = true

theorem w_160 : Cond.classLink "NeverHaltedLaw" 7 "NeverHalted" ∈ ie_T := ie_in 160 (by decide +kernel)
theorem w_161 : Cond.instantiable "NeverHalted" 18 ∈ ie_T := ie_in 161 (by decide +kernel)
theorem w_162 : Cond.methodLink "NeverHaltedLaw" 9 yX11_init ∈ ie_T := ie_in 162 (by decide +kernel)
theorem w_163 : Cond.instanceMethod yX11_init ∈ ie_T := ie_in 163 (by decide +kernel)
theorem w_1182 : Cond.classLink "NeverHaltedLaw" 10 "NeverHaltedModel" ∈ ie_T := ie_in 1182 (by decide +kernel)
theorem w_1183 : Cond.instantiable "NeverHaltedModel" 53 ∈ ie_T := ie_in 1183 (by decide +kernel)
theorem w_1184 : Cond.methodLink "NeverHaltedLaw" 12 yX12_init ∈ ie_T := ie_in 1184 (by decide +kernel)
theorem w_1185 : Cond.instanceMethod yX12_init ∈ ie_T := ie_in 1185 (by decide +kernel)
theorem ie_known {s : State} {args : Array Value} {ci N : Nat} {T : u_T} {C : String} (hc : ie_cls ci T N) (hcn : vwCl[ci]? = some (C, T, N)) (hts : ∀ w ∈ ie_T, w.before args s = true) (hi : Cond.instantiable C N ∈ ie_T) : ∃ (cC : ClassId) (iS : Nat → Nat), u_Kn s C T N cC iS := by
  obtain ⟨C1, h1, h2⟩ := hc
  have hh : (C1, T, N) = (C, T, N) := Option.some.inj (h1.symm.trans hcn)
  cases hh
  exact u_known hts h2 (hts _ hi)
set_option maxRecDepth 100000 in
set_option maxHeartbeats 8000000 in
theorem ie_bytes {s : State} {b : Nat} (hs : ∀ c ∈ flatC (Jvm.Cond.and given_1 narrow_1), c.before #[Value.ref b] s = true) : ∀ j : Nat, j < ie_wln → (Cond.eq (.elem (.field (.string RX6 ie_wix) "java/lang/String" "value" "[B") (.int (Int32.ofNat j))) (.int (([ie_wby].getD 0 []).getD j 0))).before #[Value.ref b] s = true := by
  have h1 : ∀ j : Nat, j < 102 → (Cond.eq (.elem (.field (.string RX6 ie_wix) "java/lang/String" "value" "[B") (.int (Int32.ofNat j))) (.int (([ie_wby].getD 0 []).getD j 0))) ∈ flatC (Jvm.Cond.and given_1 narrow_1) := by decide +kernel
  exact fun j hj => hs _ (h1 j hj)
set_option maxRecDepth 100000 in
set_option maxHeartbeats 8000000 in
/-- what stands at the law's entry, in this layer's words -/
theorem ie_start {s : State} {b L : Nat} {xs : Nat → Int32} (l : Launch) (htl : ∀ w ∈ lw_tbl, w.before #[Value.ref b] s = true) (hX : va_X b L xs s s.heap) (hbl : b < s.heap.size) (hgv : (Jvm.Cond.and given_1 narrow_1).before #[Value.ref b] s = true) : ∃ g : IG, g.1 = l ∧ gz g = s.heap.size ∧ gb g = b ∧ gL g = L ∧ gx g = xs ∧ ie_U g s := by
  have hs := flat_of_before _ hgv
  have hts : ∀ w ∈ ie_T, w.before #[Value.ref b] s = true := fun w h => htl w (List.mem_filter.mp h).1
  have hall : ∀ k : Nat, ∃ x : ClassId × (Nat → Nat), ∀ q, vwCl[k]? = some q → u_Kn s q.1 q.2.1 q.2.2 x.1 x.2 := by
    intro k
    match k with
    | 0 =>
      obtain ⟨c, i, h⟩ := ie_known (C := RX0) icX0 rfl hts w_454
      exact ⟨(c, i), fun q hq => by cases hq; exact h⟩
    | 1 =>
      obtain ⟨c, i, h⟩ := ie_known (C := RX1) icX1 rfl hts w_376
      exact ⟨(c, i), fun q hq => by cases hq; exact h⟩
    | 2 =>
      obtain ⟨c, i, h⟩ := ie_known (C := RX2) icX2 rfl hts w_494
      exact ⟨(c, i), fun q hq => by cases hq; exact h⟩
    | 3 =>
      obtain ⟨c, i, h⟩ := ie_known (C := RX3) icX3 rfl hts w_253
      exact ⟨(c, i), fun q hq => by cases hq; exact h⟩
    | 4 =>
      obtain ⟨c, i, h⟩ := ie_known (C := RX4) icX4 rfl hts w_169
      exact ⟨(c, i), fun q hq => by cases hq; exact h⟩
    | 5 =>
      obtain ⟨c, i, h⟩ := ie_known (C := RX5) icX5 rfl hts w_395
      exact ⟨(c, i), fun q hq => by cases hq; exact h⟩
    | 6 =>
      obtain ⟨c, i, h⟩ := ie_known (C := RX6) icX6 rfl hts w_412
      exact ⟨(c, i), fun q hq => by cases hq; exact h⟩
    | 7 =>
      obtain ⟨c, i, h⟩ := ie_known (C := RX7) icX7 rfl hts w_289
      exact ⟨(c, i), fun q hq => by cases hq; exact h⟩
    | 8 =>
      obtain ⟨c, i, h⟩ := ie_known (C := RX8) icX8 rfl hts w_319
      exact ⟨(c, i), fun q hq => by cases hq; exact h⟩
    | 9 =>
      obtain ⟨c, i, h⟩ := ie_known (C := RX9) icX9 rfl hts w_247
      exact ⟨(c, i), fun q hq => by cases hq; exact h⟩
    | 10 =>
      obtain ⟨c, i, h⟩ := ie_known (C := RX10) icX10 rfl hts w_467
      exact ⟨(c, i), fun q hq => by cases hq; exact h⟩
    | 11 =>
      obtain ⟨c, i, h⟩ := ie_known (C := RX11) icX11 rfl hts w_161
      exact ⟨(c, i), fun q hq => by cases hq; exact h⟩
    | 12 =>
      obtain ⟨c, i, h⟩ := ie_known (C := RX12) icX12 rfl hts w_1183
      exact ⟨(c, i), fun q hq => by cases hq; exact h⟩
    | k + 13 => exact ⟨(0, fun _ => 0), fun q hq => by simp [vwCl] at hq⟩
  obtain ⟨f, hf⟩ := Classical.axiomOfChoice hall
  obtain ⟨cI, kI, compI, i1, i2, i3⟩ := Cond.arrayClass_spec (hts (.arrayClass .int) w_245)
  have hao : va_AO RX4 s := va_AO.of (htl (.arrayOver (.object RX4)) (List.mem_append_right _ (List.mem_append_right _ (List.mem_append_left _ (List.mem_of_getElem? (i := 23) rfl)))))
  obtain ⟨compN, cN, kN, n1, n2, n3, n4, n5⟩ := Cond.arrayOver_spec hao
  have hA : ∀ a : Nat, a < s.heap.size → ¬ (fun q : Nat => s.heap.size ≤ q) a := fun a h => Nat.not_le.mpr h
  obtain ⟨tk, t1, t2⟩ := va_Tof (s := s) (args := #[Value.ref b]) (tm := .static "NeverHalted" "TAKINGS" "[I") (ty := .int) (N := ie_tkn) (f := fun j => .int (ie_tkl.getD j 0)) (A := fun q : Nat => s.heap.size ≤ q) (by decide) (hs _ (by decide +kernel)) (va_eqt (hs _ (by decide +kernel))) (fun j hj => by
    have hj : j < 7 := hj
    match j, hj with
    | 0, _ => exact va_eqt (hs _ (by decide +kernel))
    | 1, _ => exact va_eqt (hs _ (by decide +kernel))
    | 2, _ => exact va_eqt (hs _ (by decide +kernel))
    | 3, _ => exact va_eqt (hs _ (by decide +kernel))
    | 4, _ => exact va_eqt (hs _ (by decide +kernel))
    | 5, _ => exact va_eqt (hs _ (by decide +kernel))
    | 6, _ => exact va_eqt (hs _ (by decide +kernel))) hA
  have z1 := va_Zof (A := fun q : Nat => s.heap.size ≤ q) (htl (.laysStatic "NeverHalted" "TAKINGS" "[I") (List.mem_append_right _ (List.mem_append_right _ (List.mem_append_right _ (List.mem_append_right _ (List.mem_append_left _ (List.mem_of_getElem? (i := 219) rfl))))))) (hts _ w_139) t1 hA
  have z2 := va_Zof (A := fun q : Nat => s.heap.size ≤ q) (htl (.laysStatic "java/lang/String" "COMPACT_STRINGS" "Z") (List.mem_append_right _ (List.mem_append_right _ (List.mem_append_right _ (List.mem_append_left _ (List.mem_of_getElem? (i := 36) rfl)))))) (hts _ w_152) (va_eqi (z := 1) (hs _ (by decide +kernel))) hA
  have z3 := va_Zqof (A := fun q : Nat => s.heap.size ≤ q) (htl (.laysStatic "jdk/internal/util/Preconditions" "SIOOBE_FORMATTER" "Ljava/util/function/BiFunction;") (List.mem_append_right _ (List.mem_append_right _ (List.mem_append_right _ (List.mem_append_left _ (List.mem_of_getElem? (i := 52) rfl)))))) (hts _ w_154) (hs _ (by decide +kernel)) hA
  obtain ⟨fm, hfm⟩ : ∃ fm : Option Nat, va_Z "jdk/internal/util/Preconditions" "SIOOBE_FORMATTER" "Ljava/util/function/BiFunction;" (va_rf fm) (fun q : Nat => s.heap.size ≤ q) s s.heap := by
    rcases z3 with h | ⟨t, h⟩
    · exact ⟨none, h⟩
    · exact ⟨some t, h⟩
  obtain ⟨adK, adV, k1, k2⟩ := vk_Sof (s := s) (args := #[Value.ref b]) (N := 1) (tm := fun _ => .string RX6 ie_wix) (len := [ie_wln]) (byt := [ie_wby]) (A := fun q : Nat => s.heap.size ≤ q)
    (fun i hi => by have : i = 0 := by omega
                    subst this; decide +kernel)
    (fun i hi => hs _ (by decide +kernel)) (fun i hi => hs _ (by decide +kernel)) (fun i hi => hs _ (by decide +kernel))
    (fun i hi => by have : i = 0 := by omega
                    subst this; exact hs _ (by decide +kernel))
    (fun i hi => by have : i = 0 := by omega
                    subst this; exact ie_bytes hs)
    (fun i j hi hj hij => absurd (show i = j by omega) hij) hA
  have hR : vk_R RX6 ie_wix ie_wtx (adK 0) s := vk_R.of (htl (.stringRef RX6 ie_wix ie_wtx) (List.mem_append_right _ (List.mem_append_right _ (List.mem_append_right _ (List.mem_append_left _ (List.mem_of_getElem? (i := 26) rfl)))))) (k2 0 (by decide))
  refine ⟨(l, (fun k => (f k).1, fun k => (f k).2), cI, cN, s.heap.size, tk, adK 0, adV 0, b, L, xs, fm), rfl, rfl, rfl, rfl, rfl, ⟨fun c q hq => hf c q hq, fun k q hk => ?_⟩, Nat.le_refl _, fun w hw => ?_, hao, z1, t2, z2, hR, ?_, hX, hbl, hfm⟩
  · match k, hk with
    | 0, hk =>
      cases hk
      exact ⟨fun n z => ⟨fun k h => (by cases h), kI, i2, compI, i3⟩, i1⟩
    | 1, hk =>
      cases hk
      exact ⟨fun n z => ⟨fun k h => (by cases h), kN, n3, compN, n4⟩, kN, compN, n3, n4, n1, n5⟩
    | k + 2, hk => simp at hk
  · have hb := htl w (List.mem_filter.mp hw).1
    have hn := (List.mem_filter.mp hw).2
    cases w with
    | methodLinkNest a i y h => exact va_Nw.of rfl hb
    | fieldLinkNest a i b n d h => exact va_Nw.of rfl hb
    | _ => cases hn
  · refine ⟨fun i hi => ?_, fun i j hi hj _ => by omega⟩
    have : i = 0 := by omega
    subst this
    exact k1.1 0 (by decide)
def Q0 (x : Int32) (r : Option Value) : Prop := r = some (.int x)
/-- the numbers behind both constructors -/
def S1 : List IK := SNX11 ([] ++ [(13, 18, [some none, some none, some none, some none, some none, some none, some none, none, some none, none, some none, some none, some none, some none, some none, some none, some none, some none])]) 0
def M1 : IM := MNX11 ([] ++ [(13, 18, [some none, some none, some none, some none, some none, some none, some none, none, some none, none, some none, some none, some none, some none, some none, some none, some none, some none])]) (fun _ _ => 0) 0
def M0 : IM := MNX12 (S1 ++ [(14, 53, [none, some none, some none, none, some none, none, none, some none, none, none, none, some none, some none, some none, none, none, none, none, none, some none, some none, some none, some none, some none, some none, some none, some none, none, none, none, some none, none, none, none, none, none, none, some none, none, some none, some none, some none, some none, some none, some none, some none, some none, some none, some none, none, none, none, some none])]) M1 136
theorem S1_len : S1.length = 136 := by decide +kernel
theorem S1_fin : SNX12 (S1 ++ [(14, 53, [none, some none, some none, none, some none, none, none, some none, none, none, none, some none, some none, some none, none, none, none, none, none, some none, some none, some none, some none, some none, some none, some none, some none, none, none, none, some none, none, none, none, none, none, none, some none, none, some none, some none, some none, some none, some none, some none, some none, some none, some none, some none, none, none, none, some none])]) 136 = S0 := by decide +kernel
theorem wf_nil : ie_wf [] (fun _ _ => 0) := fun o k h => by simp at h
theorem zr_nil : ie_zr [] (fun _ _ => 0) := fun _ _ _ => rfl
theorem S1_cb : CBX11 ([] ++ [(13, 18, [some none, some none, some none, some none, some none, some none, some none, none, some none, none, some none, some none, some none, some none, some none, some none, some none, some none])]) (fun _ _ => 0) 0 := cb_X11 rfl (wf_app wf_nil (by simp) zr_nil) (zr_app zr_nil) (by decide)
set_option maxRecDepth 100000 in
set_option maxHeartbeats 8000000 in
/-- from the law's entry to behind its constructors -/
theorem law_head {g : IG} {R : Int32 × IM} (h : f_L_law (gx g) (gL g) M0 = some R) (hQ : ∀ a : Nat → Nat, ∀ r a1 S1 M1, qI S0 a R r a1 S1 M1 → Q0 R.1 r) : V g mL_law 31 600000 7302249 (fun r _ _ _ => Q0 R.1 r) 0 [some (.ref (gb g)), none, none, none] [] (fun _ => 0) [] (fun _ _ => 0) 0 0 := by
  refine V_new (fun _ => [some (.ref (gb g)), none, none, none]) (fun _ => []) rfl dL_law_0 icX11 rfl tyX11_ok ⟨w_160, w_161, w_139⟩ (fs := [some none, some none, some none, some none, some none, some none, some none, none, some none, none, some none, some none, some none, some none, some none, some none, some none, some none]) (by decide +kernel) (by simp) wf_nil zr_nil ⟨rfl, rfl⟩ (fun _ _ => ⟨rfl, rfl⟩) (fun a1 g1 => ?_)
  refine V_dup rfl dL_law_3 rfl ?_
  refine V_ini (mc' := 135) (ns' := 6597) (d' := 3) (As := []) (S' := S1) (M' := M1) (fun _ => [some (.ref (gb g)), none, none, none]) (fun a => [.ref (a 0)]) rfl dL_law_4 mf_X11_init rfl rfl w_163 w_162 (by decide) ⟨rfl, rfl⟩ rfl rfl rfl (fun a' h => ⟨rfl, by show [Value.ref (a' 0)] = [Value.ref (a1 0)]; rw [h 0 (by decide)]⟩) (tc_X11 rfl (wf_app wf_nil (by simp) zr_nil) (zr_app zr_nil) (by decide)) (fun a2 g2 => ?_)
  refine V_astore_n (L' := [_, _, _, _]) rfl rfl dL_law_7 (by decide) rfl ?_
  refine V_new (S := S1) (fun a => [some (.ref (gb g)), some (.ref (a 0)), none, none]) (fun _ => []) rfl dL_law_8 icX12 rfl tyX12_ok ⟨w_1182, w_1183, w_151⟩ (fs := [none, some none, some none, none, some none, none, none, some none, none, none, none, some none, some none, some none, none, none, none, none, none, some none, some none, some none, some none, some none, some none, some none, some none, none, none, none, some none, none, none, none, none, none, none, some none, none, some none, some none, some none, some none, some none, some none, some none, some none, some none, some none, none, none, none, some none]) (by decide +kernel) (by simp) S1_cb.2.1 S1_cb.2.2.1 ⟨rfl, rfl⟩ (fun a' h => ⟨by rw [h 0 (by rw [S1_len]; decide)], rfl⟩) (fun a3 g3 => ?_)
  rw [S1_len]
  refine V_dup rfl dL_law_11 rfl ?_
  have hn : (S1 ++ [(14, 53, [none, some none, some none, none, some none, none, none, some none, none, none, none, some none, some none, some none, none, none, none, none, none, some none, some none, some none, some none, some none, some none, some none, some none, none, none, none, some none, none, none, none, none, none, none, some none, none, some none, some none, some none, some none, some none, some none, some none, some none, some none, some none, none, none, none, some none])])[136]? = some (14, 53, [none, some none, some none, none, some none, none, none, some none, none, none, none, some none, some none, some none, none, none, none, none, none, some none, some none, some none, some none, some none, some none, some none, some none, none, none, none, some none, none, none, none, none, none, none, some none, none, some none, some none, some none, some none, some none, some none, some none, some none, some none, some none, none, none, none, some none]) := by
    have e := nw_at (S := S1) (k := (14, 53, [none, some none, some none, none, some none, none, none, some none, none, none, none, some none, some none, some none, none, none, none, none, none, some none, some none, some none, some none, some none, some none, some none, some none, none, none, none, some none, none, none, none, none, none, none, some none, none, some none, some none, some none, some none, some none, some none, some none, some none, some none, some none, none, none, none, some none]))
    rw [S1_len] at e
    exact e
  have hl : (S1 ++ [(14, 53, [none, some none, some none, none, some none, none, none, some none, none, none, none, some none, some none, some none, none, none, none, none, none, some none, some none, some none, some none, some none, some none, some none, some none, none, none, none, some none, none, none, none, none, none, none, some none, none, some none, some none, some none, some none, some none, some none, some none, some none, some none, some none, none, none, none, some none])]).length = 137 := by rw [List.length_append, S1_len]; rfl
  refine V_ini (o := 136) (mc' := 28) (ns' := 170259) (d' := 1) (As := []) (S' := SNX12 (S1 ++ [(14, 53, [none, some none, some none, none, some none, none, none, some none, none, none, none, some none, some none, some none, none, none, none, none, none, some none, some none, some none, some none, some none, some none, some none, some none, none, none, none, some none, none, none, none, none, none, none, some none, none, some none, some none, some none, some none, some none, some none, some none, some none, some none, some none, none, none, none, some none])]) 136) (M' := M0) (fun a => [some (.ref (gb g)), some (.ref (a 0)), none, none]) (fun a => [.ref (a 136)]) rfl dL_law_12 mf_X12_init rfl rfl w_1185 w_1184 (by decide) ⟨rfl, rfl⟩ rfl rfl rfl (fun a' h => ⟨by rw [h 0 (by rw [hl]; decide)], by rw [h 136 (by rw [hl]; decide)]⟩) (tc_X12 hn (wf_app S1_cb.2.1 (by simp) S1_cb.2.2.1) (zr_app S1_cb.2.2.1)) (fun a4 g4 => ?_)
  refine V_astore_n (L' := [_, _, _, _]) rfl rfl dL_law_15 (by decide) rfl ?_
  rw [S1_fin]
  exact V_cut (t_L_law h) (fun r a S M hq => hQ a4 r a S M hq)

