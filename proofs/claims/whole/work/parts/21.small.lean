/-! small rows for the printed proofs -/
theorem cat_0 : ∀ v ∈ ([] : List Value), v.category = 1 := fun _ h => by cases h
theorem cat_i {x : Int32} {t : List Value} (h : ∀ v ∈ t, v.category = 1) : ∀ v ∈ (.int x :: t), v.category = 1 := fun v hv => (List.mem_cons.mp hv).elim (fun e => by rw [e]; rfl) (h v)
theorem cat_r {x : Nat} {t : List Value} (h : ∀ v ∈ t, v.category = 1) : ∀ v ∈ (.ref x :: t), v.category = 1 := fun v hv => (List.mem_cons.mp hv).elim (fun e => by rw [e]; rfl) (h v)
theorem cat_q {r : Option Nat} {t : List Value} (h : ∀ v ∈ t, v.category = 1) : ∀ v ∈ (va_rf r :: t), v.category = 1 := fun v hv => (List.mem_cons.mp hv).elim (fun e => by rw [e]; cases r <;> rfl) (h v)
theorem qI_ok {S0 : List IK} {a : Nat → Nat} {x : Int32} {M : IM} : qI S0 a (x, M) (some (.int x)) a S0 M := ⟨rfl, rfl, rfl, rfl⟩
theorem qV_ok {S0 : List IK} {a : Nat → Nat} {x : Int32} {M : IM} : qV S0 a (x, M) none a S0 M := ⟨rfl, rfl, rfl, rfl⟩
theorem nz_0 : narrow .boolean (.int 0) = .int 0 := by decide +kernel
theorem nz_1 : narrow .boolean (.int 1) = .int 1 := by decide +kernel
theorem nb_0 : narrow .byte (.int 0) = .int 0 := by decide +kernel
theorem nb_1 : narrow .byte (.int 1) = .int 1 := by decide +kernel
def rc (v : Int32) (M : IM) : IR := if v.toUInt32.toUInt16.toUInt32.toInt32 = v then some (v, M) else none
theorem rc_e {v : Int32} {M : IM} {R : Int32 × IM} (h : rc v M = some R) : v.toUInt32.toUInt16.toUInt32.toInt32 = v ∧ some (v, M) = some R := by
  unfold rc at h
  split at h
  · exact ⟨by assumption, h⟩
  · cases h
theorem nar_c {v : Int32} (h : v.toUInt32.toUInt16.toUInt32.toInt32 = v) : narrow .char (.int v) = .int v := by
  show Value.int _ = Value.int v
  exact congrArg Value.int h
theorem ne_toInt {x z : Int32} {k : Int} (h : ¬ x = z) (hz : z.toInt = k) : ¬ x.toInt = k := fun e => h (Int32.toInt_inj.mp (e.trans hz.symm))
theorem ift {c : Prop} [Decidable c] {A B : IR} {R : Int32 × IM} (h : (if c then A else B) = some R) : (c ∧ A = some R) ∨ (¬ c ∧ B = some R) := by
  by_cases hc : c
  · exact Or.inl ⟨hc, ifp hc h⟩
  · exact Or.inr ⟨hc, ifn hc h⟩
theorem look_ne {a o d k e : Int} {r : List (Int × Int)} (h : ¬ a = k) (t : Op.lookupswitch.offset r d k = e) : Op.lookupswitch.offset ((a, o) :: r) d k = e := by rw [Op.lookupswitch.offset_cons, if_neg h]; exact t
section VROWS3
variable {g : IG} {mi mj : MI} {d d' mc ns : Nat} {Q : IQ} {pc q : Nat} {L L' : List (Option Value)} {st st0 As : List Value} {a : Nat → Nat} {S : List IK} {M M' : IM} {ce sl index n : Nat} {r : Int32}
theorem V_geti {o ci n N k0 index : Nat} {T : u_T} {fs : List (Option (Option Nat))} (hq : pc + 3 = q) (hd : decode mi.2.1 pc = .ok (.getfield index, 3)) (hS0 : S[o]? = some (ci + 2, n, fs)) (hc : ie_cls ci T N) (hk : k0 < N) (hf : fs[k0]? = some none) (hw : Cond.fieldLink mi.1.cls index (T k0).1 (T k0).2.1 (T k0).2.2.1 ∈ ie_T) (k : V g mi d mc ns Q q L (.int (M o k0) :: st) a S M ce sl) : V g mi d mc ns Q pc L (.ref (a o) :: st) a S M ce sl := V_getf hq hd hS0 hc hk hf hw k
theorem V_getr {o ci n N k0 index x : Nat} {T : u_T} {fs : List (Option (Option Nat))} (hq : pc + 3 = q) (hd : decode mi.2.1 pc = .ok (.getfield index, 3)) (hS0 : S[o]? = some (ci + 2, n, fs)) (hc : ie_cls ci T N) (hk : k0 < N) (hf : fs[k0]? = some (some (some x))) (hw : Cond.fieldLink mi.1.cls index (T k0).1 (T k0).2.1 (T k0).2.2.1 ∈ ie_T) (k : V g mi d mc ns Q q L (.ref (a x) :: st) a S M ce sl) : V g mi d mc ns Q pc L (.ref (a o) :: st) a S M ce sl := V_getf hq hd hS0 hc hk hf hw k
theorem V_tabAt {x z : Int32} {dflt lo hi off : Int} {offs : Array Int} {ln t : Nat} (hx : x = z) (hd : decode mi.2.1 pc = .ok (.tableswitch dflt lo hi offs, ln)) (h1 : ¬ z.toInt < lo ∧ ¬ hi < z.toInt ∧ offs[(z.toInt - lo).toNat]? = some off) (ht : (pc : Int) + off = (t : Int)) (k : V g mi d mc ns Q t L st a S M ce sl) : V g mi d mc ns Q pc L (.int x :: st) a S M ce sl := by subst hx; exact V_tabIn hd h1.1 h1.2.1 h1.2.2 ht k
theorem V_lookAt {x z : Int32} {dflt off : Int} {ps : Array (Int × Int)} {ln t : Nat} (hx : x = z) (hd : decode mi.2.1 pc = .ok (.lookupswitch dflt ps, ln)) (hp : (ps.toList.zip (ps.toList.drop 1)).all (fun (a, next) => a.1 < next.1) = true) (ho : Op.lookupswitch.offset ps.toList dflt z.toInt = off) (ht : (pc : Int) + off = (t : Int)) (k : V g mi d mc ns Q t L st a S M ce sl) : V g mi d mc ns Q pc L (.int x :: st) a S M ce sl := by subst hx; exact V_lookup hd hp ho ht k
end VROWS3
