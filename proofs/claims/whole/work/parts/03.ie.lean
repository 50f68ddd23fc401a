/-! the layer: one memory of numbers for all objects, shapes, the judgement V over it -/
abbrev IM : Type := Nat → Nat → Int32
abbrev IK : Type := Nat × Nat × List (Option (Option Nat))
/-- launch; class table; int[]; Now[]; first own cell; TAKINGS' cell; the text's cell, its bytes' cell; the script's cell, its length, its numbers -/
abbrev IG : Type := Launch × va_G × ClassId × ClassId × Nat × Nat × Nat × Nat × Nat × Nat × (Nat → Int32) × Option Nat
abbrev gD (g : IG) : va_G := g.2.1
abbrev gI (g : IG) : ClassId := g.2.2.1
abbrev gN (g : IG) : ClassId := g.2.2.2.1
abbrev gz (g : IG) : Nat := g.2.2.2.2.1
abbrev gtk (g : IG) : Nat := g.2.2.2.2.2.1
abbrev gak (g : IG) : Nat := g.2.2.2.2.2.2.1
abbrev gav (g : IG) : Nat := g.2.2.2.2.2.2.2.1
abbrev gb (g : IG) : Nat := g.2.2.2.2.2.2.2.2.1
abbrev gL (g : IG) : Nat := g.2.2.2.2.2.2.2.2.2.1
abbrev gx (g : IG) : Nat → Int32 := g.2.2.2.2.2.2.2.2.2.2.1
/-- a formatter of the JDK's: a cell or null -/
abbrev gfm (g : IG) : Option Nat := g.2.2.2.2.2.2.2.2.2.2.2
def ie_rf (a : Nat → Nat) (x : Int32) : Option Nat := if x = 0 then none else some (a (x.toNatClampNeg - 1))
def ie_fv (a : Nat → Nat) (x : Int32) (r : Option (Option Nat)) : Value := match r with
  | none => .int x
  | some none => .null
  | some (some q) => .ref (a q)
def ie_ent (g : IG) (a : Nat → Nat) (M : IM) (o : Nat) (k : IK) : Nat × va_E := (a o, match k.1 with
  | 0 => .inl (gI g, k.2.1, .inl (M o))
  | 1 => .inl (gN g, k.2.1, .inr (.inr (.inr (.inr (fun i => ie_rf a (M o i))))))
  | ci + 2 => .inr (ci, k.2.2.mapIdx (fun i r => ie_fv a (M o i) r)))
def ie_ws (g : IG) (a : Nat → Nat) (S : List IK) (M : IM) : va_W := S.mapIdx (fun o k => ie_ent g a M o k)
abbrev ie_A (g : IG) : Nat → Prop := fun q => gz g ≤ q
abbrev ie_tys (g : IG) : List (ClassId × FieldType) := [(gI g, .int), (gN g, .object RX4)]
def ie_P (g : IG) (a : Nat → Nat) (S : List IK) (M : IM) (H : Heap) : Prop := va_P (gD g) vwCl (ie_ws g a S M) H ∧ va_D (ie_A g) (ie_ws g a S M)
/-- one number written -/
def ms (M : IM) (o i : Nat) (v : Int32) : IM := fun p j => if p = o ∧ j = i then v else M p j
/-- one row written -/
def mr (M : IM) (o : Nat) (f : Nat → Int32) : IM := fun p => if p = o then f else M p
theorem ms_eq (M : IM) (o i : Nat) (v : Int32) : ms M o i v = mr M o (upd (M o) i v) := by
  funext p j
  unfold ms mr upd
  by_cases hp : p = o
  · subst hp
    by_cases hj : j = i <;> simp [hj]
  · simp [hp]
theorem ie_at {g : IG} {a : Nat → Nat} {S : List IK} {M : IM} {o : Nat} {k : IK} (h : S[o]? = some k) : (ie_ws g a S M)[o]? = some (ie_ent g a M o k) := by
  unfold ie_ws
  rw [List.getElem?_mapIdx, h]; rfl
theorem ie_mr {g : IG} {a : Nat → Nat} {S : List IK} {M : IM} {o n : Nat} {fs : List (Option (Option Nat))} (h : S[o]? = some (0, n, fs)) (f : Nat → Int32) : (ie_ws g a S M).set o (a o, .inl (gI g, n, .inl f)) = ie_ws g a S (mr M o f) := by
  refine List.ext_getElem? fun j => ?_
  unfold ie_ws
  rw [List.getElem?_set]
  by_cases hj : o = j
  · subst hj
    have hl : o < S.length := (List.getElem?_eq_some_iff.mp h).1
    rw [if_pos rfl, if_pos (by rw [List.length_mapIdx]; exact hl), List.getElem?_mapIdx, h]
    simp [ie_ent, mr]
  · rw [if_neg hj, List.getElem?_mapIdx, List.getElem?_mapIdx]
    congr 1
    funext k
    have hm : mr M o f j = M j := by unfold mr; rw [if_neg (fun q => hj q.symm)]
    simp only [ie_ent, hm]
/-- entries of an array of references -/
theorem ie_mq {g : IG} {a : Nat → Nat} {S : List IK} {M : IM} {o n : Nat} {fs : List (Option (Option Nat))} (h : S[o]? = some (1, n, fs)) (f : Nat → Int32) : (ie_ws g a S M).set o (a o, .inl (gN g, n, .inr (.inr (.inr (.inr (fun i => ie_rf a (f i))))))) = ie_ws g a S (mr M o f) := by
  refine List.ext_getElem? fun j => ?_
  unfold ie_ws
  rw [List.getElem?_set]
  by_cases hj : o = j
  · subst hj
    have hl : o < S.length := (List.getElem?_eq_some_iff.mp h).1
    rw [if_pos rfl, if_pos (by rw [List.length_mapIdx]; exact hl), List.getElem?_mapIdx, h]
    simp [ie_ent, mr]
  · rw [if_neg hj, List.getElem?_mapIdx, List.getElem?_mapIdx]
    congr 1
    funext k
    have hm : mr M o f j = M j := by unfold mr; rw [if_neg (fun q => hj q.symm)]
    simp only [ie_ent, hm]
/-- a field that is a number -/
theorem ie_mf {g : IG} {a : Nat → Nat} {S : List IK} {M : IM} {o ci n i : Nat} {fs : List (Option (Option Nat))} (h : S[o]? = some (ci + 2, n, fs)) (hi : fs[i]? = some none) (v : Int32) : (ie_ws g a S M).set o (a o, .inr (ci, (fs.mapIdx (fun i r => ie_fv a (M o i) r)).set i (.int v))) = ie_ws g a S (ms M o i v) := by
  refine List.ext_getElem? fun j => ?_
  unfold ie_ws
  rw [List.getElem?_set]
  by_cases hj : o = j
  · subst hj
    have hl : o < S.length := (List.getElem?_eq_some_iff.mp h).1
    rw [if_pos rfl, if_pos (by rw [List.length_mapIdx]; exact hl), List.getElem?_mapIdx, h]
    simp only [ie_ent, Option.map_some]
    congr 4
    refine List.ext_getElem? fun q => ?_
    rw [List.getElem?_set]
    by_cases hq : i = q
    · subst hq
      have hf : i < fs.length := (List.getElem?_eq_some_iff.mp hi).1
      rw [if_pos rfl, if_pos (by rw [List.length_mapIdx]; exact hf), List.getElem?_mapIdx, hi]
      simp [ie_fv, ms]
    · rw [if_neg hq, List.getElem?_mapIdx, List.getElem?_mapIdx]
      congr 1
      funext r
      have hm : ms M o i v o q = M o q := by unfold ms; rw [if_neg (fun z => hq z.2.symm)]
      rw [hm]
  · rw [if_neg hj, List.getElem?_mapIdx, List.getElem?_mapIdx]
    congr 1
    funext k
    have hm : ms M o i v j = M j := by funext q; unfold ms; rw [if_neg (fun z => hj z.1.symm)]
    simp only [ie_ent, hm]
