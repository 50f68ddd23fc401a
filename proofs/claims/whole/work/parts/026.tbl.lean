/-! the words that the tables give to all, and what is said of a method and of a class by them -/
abbrev MI : Type := MethodName × ByteArray × Nat × Option FieldType
def ie_T : List Cond := lw_tbl.filter goodWord
theorem ie_in {w : Cond} (i : Nat) (h : lw_tbl[i]? = some w ∧ goodWord w = true) : w ∈ ie_T := List.mem_filter.mpr ⟨List.mem_of_getElem? h.1, h.2⟩
theorem ie_good : GoodIn ie_T ie_T := fun w h => ⟨h, good_of_word (List.mem_filter.mp h).2⟩
theorem ie_goodc {w : Cond} (h : w ∈ ie_T) : GoodIn ie_T (w :: ie_T) := fun v hv => (List.mem_cons.mp hv).elim (fun e => e ▸ ie_good w h) (ie_good v)
def ie_nst : Cond → Bool
  | .methodLinkNest _ _ _ _ => true
  | .fieldLinkNest _ _ _ _ _ _ => true
  | _ => false
/-- links among nest mates -/
def ie_N : List Cond := lw_tbl.filter ie_nst
theorem ie_inN {w : Cond} (i : Nat) (h : lw_tbl[i]? = some w ∧ ie_nst w = true) : w ∈ ie_N := List.mem_filter.mpr ⟨List.mem_of_getElem? h.1, h.2⟩
theorem ie_N_warm {s U : State} (hW : s.WarmedH U.vm) {w : Cond} (h : ie_nst w = true) (hb : va_Nw w s) : va_Nw w U := by
  cases w with
  | methodLinkNest a i y h => exact va_Nw.warmM hW hb
  | fieldLinkNest a i b n d h => exact va_Nw.warmF hW hb
  | _ => cases h
theorem ie_N_same {s U : State} (hv : s.vm = U.vm) {w : Cond} (h : ie_nst w = true) (hb : va_Nw w s) : va_Nw w U := by
  cases w with
  | methodLinkNest a i y h => exact va_tabs rfl hv hb
  | fieldLinkNest a i b n d h => exact va_tabs rfl hv hb
  | _ => cases h
theorem ie_ws_in {ws : List Cond} (ps : List Nat) (h : ws.map some = ps.map (fun i => lw_tbl[i]?)) (hg : ws.all goodWord = true) : ∀ w ∈ ws, w ∈ ie_T := by
  intro w hw
  have h1 : some w ∈ ps.map (fun i => lw_tbl[i]?) := by rw [← h]; exact List.mem_map.mpr ⟨w, hw, rfl⟩
  obtain ⟨i, -, hi⟩ := List.mem_map.mp h1
  exact ie_in i ⟨hi, List.all_eq_true.mp hg w hw⟩
/-- what the tables say of a method: its code, its class, how many arguments -/
def ie_M (mi : MI) (n : Nat) : Prop := Cond.code mi.1 mi.2.1 mi.2.2.1 mi.2.2.2 ∈ ie_T ∧ Cond.initialized mi.1.cls ∈ ie_T ∧ (mi.1.cls ≠ "java/lang/invoke/MethodHandle" ∧ mi.1.cls ≠ "java/lang/invoke/VarHandle" ∧ (parseMethodDescriptor mi.1.desc).map (fun d => d.parameters.length) = some n) ∧ mi.2.2.1 ≤ 21 ∧ plainFor mi.1 = true
/-- the words of a class's fields among the tables' -/
def ie_cls (ci : Nat) (T : u_T) (N : Nat) : Prop := ∃ C : String, vwCl[ci]? = some (C, T, N) ∧ ∀ w ∈ u_ws C T N, w ∈ ie_T
