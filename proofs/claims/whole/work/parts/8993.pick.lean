/-! watches: who takes which, as numbers -/
/-- r allowed ones of a list, for c together -/
def Pick (al : Nat → Bool) (q : Nat → Nat) : List Nat → Nat → Nat → Prop
  | [], r, c => r = 0 ∧ c = 0
  | w :: ws, r, c => Pick al q ws r c ∨ (al w = true ∧ ∃ r' c' : Nat, r = r' + 1 ∧ c = q w + c' ∧ Pick al q ws r' c')
/-- the first r allowed ones -/
def gr (al : Nat → Bool) (q : Nat → Nat) : List Nat → Nat → Option Nat
  | _, 0 => some 0
  | [], _ + 1 => none
  | w :: ws, r + 1 => if al w = true then (gr al q ws r).map (fun x => q w + x) else gr al q ws (r + 1)
def Srt (q : Nat → Nat) : List Nat → Prop
  | [] => True
  | w :: ws => (∀ x ∈ ws, q w ≤ q x) ∧ Srt q ws
section PICK
variable {al : Nat → Bool} {q : Nat → Nat}
theorem pick_perm {l l' : List Nat} (h : l.Perm l') : ∀ r c : Nat, Pick al q l r c → Pick al q l' r c := by
  induction h with
  | nil => intro r c h; exact h
  | cons x _ ih =>
    intro r c h
    rcases h with h | ⟨h1, r', c', h2, h3, h4⟩
    · exact Or.inl (ih r c h)
    · exact Or.inr ⟨h1, r', c', h2, h3, ih r' c' h4⟩
  | swap x y l =>
    intro r c h
    rcases h with (h | ⟨h1, r', c', h2, h3, h4⟩) | ⟨h1, r', c', h2, h3, h4⟩
    · exact Or.inl (Or.inl h)
    · exact Or.inr ⟨h1, r', c', h2, h3, Or.inl h4⟩
    · rcases h4 with h4 | ⟨k1, r2, c2, k2, k3, k4⟩
      · exact Or.inl (Or.inr ⟨h1, r', c', h2, h3, h4⟩)
      · refine Or.inr ⟨k1, r2 + 1, q y + c2, by omega, by omega, Or.inr ⟨h1, r2, c2, rfl, rfl, k4⟩⟩
  | trans _ _ ih1 ih2 => intro r c h; exact ih2 r c (ih1 r c h)
theorem pick_congr {al' : Nat → Bool} : ∀ {l : List Nat}, (∀ x ∈ l, al' x = al x) → ∀ r c : Nat, Pick al q l r c → Pick al' q l r c
  | [], _, _, _, h => h
  | w :: ws, hal, r, c, h => by
    have ih := pick_congr (l := ws) (fun x hx => hal x (List.mem_cons_of_mem _ hx))
    rcases h with h | ⟨h1, r', c', h2, h3, h4⟩
    · exact Or.inl (ih r c h)
    · exact Or.inr ⟨by rw [hal w List.mem_cons_self]; exact h1, r', c', h2, h3, ih r' c' h4⟩
theorem gy_0 {l : List Nat} : gr al q l 0 = some 0 := by cases l <;> rfl
theorem pick_0 : ∀ {l : List Nat}, Pick al q l 0 0
  | [] => ⟨rfl, rfl⟩
  | _ :: _ => Or.inl pick_0
theorem gr_pick : ∀ {l : List Nat} {r g : Nat}, gr al q l r = some g → Pick al q l r g
  | l, 0, g, h => by
    rw [gy_0] at h
    cases h
    exact pick_0
  | [], r + 1, g, h => by cases h
  | w :: ws, r + 1, g, h => by
    unfold gr at h
    by_cases ha : al w = true
    · rw [if_pos ha] at h
      cases hg : gr al q ws r with
      | none => rw [hg] at h; cases h
      | some g' =>
        rw [hg] at h
        simp only [Option.map_some, Option.some.injEq] at h
        exact Or.inr ⟨ha, r, g', rfl, h.symm, gr_pick hg⟩
    · rw [if_neg ha] at h
      exact Or.inl (gr_pick h)
theorem gr_more {m : Nat} : ∀ {l : List Nat} {r c : Nat}, (∀ x ∈ l, m ≤ q x) → gr al q l (r + 1) = some c → ∃ c' : Nat, gr al q l r = some c' ∧ c' + m ≤ c
  | [], r, c, _, h => by cases h
  | w :: ws, r, c, hm, h => by
    unfold gr at h
    have hw := hm w List.mem_cons_self
    have hs := fun x hx => hm x (List.mem_cons_of_mem w hx)
    by_cases ha : al w = true
    · rw [if_pos ha] at h
      cases hg : gr al q ws r with
      | none => rw [hg] at h; cases h
      | some g' =>
        rw [hg] at h
        simp only [Option.map_some, Option.some.injEq] at h
        cases r with
        | zero => exact ⟨0, gy_0, by omega⟩
        | succ r =>
          obtain ⟨c', h1, h2⟩ := gr_more hs hg
          refine ⟨q w + c', ?_, by omega⟩
          unfold gr
          rw [if_pos ha, h1]
          rfl
    · rw [if_neg ha] at h
      obtain ⟨c', h1, h2⟩ := gr_more hs h
      refine ⟨c', ?_, h2⟩
      cases r with
      | zero => rw [gy_0] at h1 ⊢; exact h1
      | succ r =>
        unfold gr
        rw [if_neg ha]
        exact h1
theorem gr_min : ∀ {l : List Nat} {r c : Nat}, Srt q l → Pick al q l r c → ∃ g : Nat, gr al q l r = some g ∧ g ≤ c
  | [], r, c, _, h => by
    obtain ⟨rfl, rfl⟩ := h
    exact ⟨0, gy_0, Nat.le_refl _⟩
  | w :: ws, r, c, hs, h => by
    rcases h with h | ⟨h1, r', c', rfl, rfl, h4⟩
    · obtain ⟨g, g1, g2⟩ := gr_min hs.2 h
      cases r with
      | zero => exact ⟨0, gy_0, Nat.zero_le _⟩
      | succ r =>
        by_cases ha : al w = true
        · obtain ⟨c', k1, k2⟩ := gr_more hs.1 g1
          refine ⟨q w + c', ?_, by omega⟩
          unfold gr
          rw [if_pos ha, k1]
          rfl
        · refine ⟨g, ?_, g2⟩
          unfold gr
          rw [if_neg ha]
          exact g1
    · obtain ⟨g, g1, g2⟩ := gr_min hs.2 h4
      refine ⟨q w + g, ?_, by omega⟩
      unfold gr
      rw [if_pos h1, g1]
      rfl
end PICK
/-- the takings as sets -/
def tkl (t : Nat) : Nat := [0, 1, 2, 4, 8, 5, 10].getD t 0
def tb (t k : Nat) : Nat := if (tkl t).testBit k = true then 1 else 0
def cstW (p : Nat → Nat → Nat) (w t : Nat) : Nat := tb t 0 * p w 0 + tb t 1 * p w 1 + tb t 2 * p w 2 + tb t 3 * p w 3
def Asg (p : Nat → Nat → Nat) : List Nat → Nat → Nat → Nat → Nat → Nat → Prop
  | [], a, b, c, d, x => a = 0 ∧ b = 0 ∧ c = 0 ∧ d = 0 ∧ x = 0
  | w :: ws, a, b, c, d, x => ∃ t x' : Nat, t < 7 ∧ x = cstW p w t + x' ∧ Asg p ws (a - tb t 0) (b - tb t 1) (c - tb t 2) (d - tb t 3) x'
def Sd (p : Nat → Nat → Nat) (al : Nat → Bool) (ws : List Nat) (a b c d x : Nat) : Prop := ∃ x0 x1 x2 x3 : Nat, x = x0 + x1 + x2 + x3 ∧ Pick al (fun w => p w 0) ws a x0 ∧ Pick (fun w => !al w) (fun w => p w 1) ws b x1 ∧ Pick al (fun w => p w 2) ws c x2 ∧ Pick (fun w => !al w) (fun w => p w 3) ws d x3
theorem tb_0 : tb 0 0 = 0 ∧ tb 0 1 = 0 ∧ tb 0 2 = 0 ∧ tb 0 3 = 0 := by decide
theorem tb_1 : tb 1 0 = 1 ∧ tb 1 1 = 0 ∧ tb 1 2 = 0 ∧ tb 1 3 = 0 := by decide
theorem tb_2 : tb 2 0 = 0 ∧ tb 2 1 = 1 ∧ tb 2 2 = 0 ∧ tb 2 3 = 0 := by decide
theorem tb_3 : tb 3 0 = 0 ∧ tb 3 1 = 0 ∧ tb 3 2 = 1 ∧ tb 3 3 = 0 := by decide
theorem tb_4 : tb 4 0 = 0 ∧ tb 4 1 = 0 ∧ tb 4 2 = 0 ∧ tb 4 3 = 1 := by decide
theorem tb_5 : tb 5 0 = 1 ∧ tb 5 1 = 0 ∧ tb 5 2 = 1 ∧ tb 5 3 = 0 := by decide
theorem tb_6 : tb 6 0 = 0 ∧ tb 6 1 = 1 ∧ tb 6 2 = 0 ∧ tb 6 3 = 1 := by decide
section SIDES
variable {p : Nat → Nat → Nat}
/-- a side gives takings -/
theorem sd_asg {al : Nat → Bool} : ∀ {ws : List Nat} {a b c d x : Nat}, Sd p al ws a b c d x → Asg p ws a b c d x
  | [], a, b, c, d, x, ⟨x0, x1, x2, x3, h, ⟨h0, h0'⟩, ⟨h1, h1'⟩, ⟨h2, h2'⟩, ⟨h3, h3'⟩⟩ => ⟨h0, h1, h2, h3, by omega⟩
  | w :: ws, a, b, c, d, x, ⟨x0, x1, x2, x3, h, h0, h1, h2, h3⟩ => by
    have mk : ∀ (t a' b' c' d' y0 y1 y2 y3 : Nat), t < 7 → x = cstW p w t + (y0 + y1 + y2 + y3) → a' = a - tb t 0 → b' = b - tb t 1 → c' = c - tb t 2 → d' = d - tb t 3 → Pick al (fun w => p w 0) ws a' y0 → Pick (fun w => !al w) (fun w => p w 1) ws b' y1 → Pick al (fun w => p w 2) ws c' y2 → Pick (fun w => !al w) (fun w => p w 3) ws d' y3 → Asg p (w :: ws) a b c d x := by
      intro t a' b' c' d' y0 y1 y2 y3 ht hx ea eb ec ed k0 k1 k2 k3
      subst ea eb ec ed
      exact ⟨t, _, ht, hx, sd_asg ⟨y0, y1, y2, y3, rfl, k0, k1, k2, k3⟩⟩
    obtain ⟨z00, z01, z02, z03⟩ := tb_0
    obtain ⟨z10, z11, z12, z13⟩ := tb_1
    obtain ⟨z20, z21, z22, z23⟩ := tb_2
    obtain ⟨z30, z31, z32, z33⟩ := tb_3
    obtain ⟨z40, z41, z42, z43⟩ := tb_4
    obtain ⟨z50, z51, z52, z53⟩ := tb_5
    obtain ⟨z60, z61, z62, z63⟩ := tb_6
    by_cases ha : al w = true
    · have g1 : Pick (fun w => !al w) (fun w => p w 1) ws b x1 := h1.resolve_right (fun z => by have := z.1; simp [ha] at this)
      have g3 : Pick (fun w => !al w) (fun w => p w 3) ws d x3 := h3.resolve_right (fun z => by have := z.1; simp [ha] at this)
      rcases h0 with h0 | ⟨-, a', y0, rfl, (e0 : x0 = p w 0 + y0), k0⟩
      · rcases h2 with h2 | ⟨-, c', y2, rfl, (e2 : x2 = p w 2 + y2), k2⟩
        · exact mk 0 a b c d x0 x1 x2 x3 (by decide) (by unfold cstW; rw [z00, z01, z02, z03]; omega) (by omega) (by omega) (by omega) (by omega) h0 g1 h2 g3
        · exact mk 3 a b c' d x0 x1 y2 x3 (by decide) (by unfold cstW; rw [z30, z31, z32, z33]; omega) (by omega) (by omega) (by omega) (by omega) h0 g1 k2 g3
      · rcases h2 with h2 | ⟨-, c', y2, rfl, (e2 : x2 = p w 2 + y2), k2⟩
        · exact mk 1 a' b c d y0 x1 x2 x3 (by decide) (by unfold cstW; rw [z10, z11, z12, z13]; omega) (by omega) (by omega) (by omega) (by omega) k0 g1 h2 g3
        · exact mk 5 a' b c' d y0 x1 y2 x3 (by decide) (by unfold cstW; rw [z50, z51, z52, z53]; omega) (by omega) (by omega) (by omega) (by omega) k0 g1 k2 g3
    · have g0 : Pick al (fun w => p w 0) ws a x0 := h0.resolve_right (fun z => ha z.1)
      have g2 : Pick al (fun w => p w 2) ws c x2 := h2.resolve_right (fun z => ha z.1)
      rcases h1 with h1 | ⟨-, b', y1, rfl, (e1 : x1 = p w 1 + y1), k1⟩
      · rcases h3 with h3 | ⟨-, d', y3, rfl, (e3 : x3 = p w 3 + y3), k3⟩
        · exact mk 0 a b c d x0 x1 x2 x3 (by decide) (by unfold cstW; rw [z00, z01, z02, z03]; omega) (by omega) (by omega) (by omega) (by omega) g0 h1 g2 h3
        · exact mk 4 a b c d' x0 x1 x2 y3 (by decide) (by unfold cstW; rw [z40, z41, z42, z43]; omega) (by omega) (by omega) (by omega) (by omega) g0 h1 g2 k3
      · rcases h3 with h3 | ⟨-, d', y3, rfl, (e3 : x3 = p w 3 + y3), k3⟩
        · exact mk 2 a b' c d x0 y1 x2 x3 (by decide) (by unfold cstW; rw [z20, z21, z22, z23]; omega) (by omega) (by omega) (by omega) (by omega) g0 k1 g2 h3
        · exact mk 6 a b' c d' x0 y1 x2 y3 (by decide) (by unfold cstW; rw [z60, z61, z62, z63]; omega) (by omega) (by omega) (by omega) (by omega) g0 k1 g2 k3
/-- one watch, one walker more -/
theorem pick_tk {al al' : Nat → Bool} {q : Nat → Nat} {w : Nat} {ws : List Nat} {r y e : Nat} (he : e = 0 ∨ e = 1) (hal : e = 1 → al' w = true) (hag : ∀ x ∈ ws, al' x = al x) (h : Pick al q ws (r - e) y) : ∃ y' : Nat, y' ≤ e * q w + y ∧ Pick al' q (w :: ws) r y' := by
  have h' := pick_congr (al' := al') hag _ _ h
  rcases he with rfl | rfl
  · exact ⟨y, by omega, Or.inl h'⟩
  · cases r with
    | zero => exact ⟨y, by omega, Or.inl h'⟩
    | succ r => exact ⟨q w + y, by omega, Or.inr ⟨hal rfl, r, y, rfl, rfl, h'⟩⟩
/-- takings give a side, for no more -/
theorem asg_sd : ∀ {ws : List Nat} {a b c d x : Nat}, ws.Nodup → Asg p ws a b c d x → ∃ (al : Nat → Bool) (x' : Nat), x' ≤ x ∧ Sd p al ws a b c d x'
  | [], a, b, c, d, x, _, ⟨h0, h1, h2, h3, h4⟩ => ⟨fun _ => true, 0, by omega, 0, 0, 0, 0, by omega, ⟨h0, rfl⟩, ⟨h1, rfl⟩, ⟨h2, rfl⟩, ⟨h3, rfl⟩⟩
  | w :: ws, a, b, c, d, x, hnd, ⟨t, x', ht, hx, h⟩ => by
    rw [List.nodup_cons] at hnd
    obtain ⟨al, y, hy, x0, x1, x2, x3, e, h0, h1, h2, h3⟩ := asg_sd hnd.2 h
    have t01 : ∀ k : Nat, tb t k = 0 ∨ tb t k = 1 := fun k => by unfold tb; split <;> simp
    let al' : Nat → Bool := fun v => if v = w then decide (tb t 1 = 0 ∧ tb t 3 = 0) else al v
    have hag : ∀ v ∈ ws, al' v = al v := fun v hv => by
      have : ¬ v = w := fun z => by subst z; exact hnd.1 hv
      show (if v = w then _ else al v) = al v
      rw [if_neg this]
    have haw : al' w = decide (tb t 1 = 0 ∧ tb t 3 = 0) := if_pos rfl
    have hx01 : ∀ t : Nat, t < 7 → (tb t 0 = 1 → tb t 1 = 0 ∧ tb t 3 = 0) ∧ (tb t 2 = 1 → tb t 1 = 0 ∧ tb t 3 = 0) := by decide
    obtain ⟨y0, l0, k0⟩ := pick_tk (al' := al') (w := w) (t01 0) (fun z => by rw [haw]; exact decide_eq_true ((hx01 t ht).1 z)) hag h0
    obtain ⟨y1, l1, k1⟩ := pick_tk (al' := fun v => !al' v) (w := w) (t01 1) (fun z => by
      show (!al' w) = true
      rw [haw, decide_eq_false (fun q => by have := q.1; omega)]
      rfl) (fun v hv => by show (!al' v) = !al v; rw [hag v hv]) h1
    obtain ⟨y2, l2, k2⟩ := pick_tk (al' := al') (w := w) (t01 2) (fun z => by rw [haw]; exact decide_eq_true ((hx01 t ht).2 z)) hag h2
    obtain ⟨y3, l3, k3⟩ := pick_tk (al' := fun v => !al' v) (w := w) (t01 3) (fun z => by
      show (!al' w) = true
      rw [haw, decide_eq_false (fun q => by have := q.2; omega)]
      rfl) (fun v hv => by show (!al' v) = !al v; rw [hag v hv]) h3
    refine ⟨al', y0 + y1 + y2 + y3, ?_, y0, y1, y2, y3, rfl, k0, k1, k2, k3⟩
    rw [hx]
    unfold cstW
    replace l0 : y0 ≤ tb t 0 * p w 0 + x0 := l0
    replace l1 : y1 ≤ tb t 1 * p w 1 + x1 := l1
    replace l2 : y2 ≤ tb t 2 * p w 2 + x2 := l2
    replace l3 : y3 ≤ tb t 3 * p w 3 + x3 := l3
    omega
end SIDES
/-- the least way that is least -/
def bwF (f : Nat → Nat) : Nat → Nat
  | 0 => 0
  | i + 1 => if f (i + 1) < f (bwF f i) then i + 1 else bwF f i
theorem bwF_ok {f : Nat → Nat} : ∀ i : Nat, bwF f i ≤ i ∧ (∀ t : Nat, t ≤ i → f (bwF f i) ≤ f t) ∧ ∀ t : Nat, t < bwF f i → f (bwF f i) < f t
  | 0 => ⟨Nat.le_refl _, fun t ht => by have : t = 0 := by omega
                                        subst this; exact Nat.le_refl _, fun t ht => by simp [bwF] at ht⟩
  | i + 1 => by
    obtain ⟨h1, h2, h3⟩ := bwF_ok (f := f) i
    unfold bwF
    by_cases q : f (i + 1) < f (bwF f i)
    · rw [if_pos q]
      refine ⟨Nat.le_refl _, fun t ht => ?_, fun t ht => ?_⟩
      · by_cases e : t = i + 1
        · subst e; exact Nat.le_refl _
        · have := h2 t (by omega); omega
      · have := h2 t (by omega); omega
    · rw [if_neg q]
      refine ⟨by omega, fun t ht => ?_, h3⟩
      by_cases e : t = i + 1
      · subst e; omega
      · exact h2 t (by omega)
def vd (p : Nat → Nat → Nat) : List Nat → Nat → Nat → Nat → Nat → Nat
  | [], a, b, c, d => if a = 0 ∧ b = 0 ∧ c = 0 ∧ d = 0 then 0 else 1000000
  | w :: ws, a, b, c, d => mnN 1000000 ((fun t => cstW p w t + vd p ws (a - tb t 0) (b - tb t 1) (c - tb t 2) (d - tb t 3)) (bwF (fun t => cstW p w t + vd p ws (a - tb t 0) (b - tb t 1) (c - tb t 2) (d - tb t 3)) 6))
def byF (p : Nat → Nat → Nat) (w : Nat) (ws : List Nat) (a b c d t : Nat) : Nat := cstW p w t + vd p ws (a - tb t 0) (b - tb t 1) (c - tb t 2) (d - tb t 3)
theorem vd_cons {p : Nat → Nat → Nat} {w : Nat} {ws : List Nat} {a b c d : Nat} : vd p (w :: ws) a b c d = mnN 1000000 (byF p w ws a b c d (bwF (byF p w ws a b c d) 6)) := rfl
theorem vd_le {p : Nat → Nat → Nat} : ∀ (ws : List Nat) (a b c d : Nat), vd p ws a b c d ≤ 1000000
  | [], a, b, c, d => by unfold vd; split <;> omega
  | w :: ws, a, b, c, d => by rw [vd_cons]; unfold mnN; split <;> omega
theorem vd_asg {p : Nat → Nat → Nat} : ∀ (ws : List Nat) (a b c d : Nat), vd p ws a b c d < 1000000 → Asg p ws a b c d (vd p ws a b c d)
  | [], a, b, c, d, h => by
    unfold vd at h ⊢
    by_cases q : a = 0 ∧ b = 0 ∧ c = 0 ∧ d = 0
    · rw [if_pos q]
      exact ⟨q.1, q.2.1, q.2.2.1, q.2.2.2, rfl⟩
    · rw [if_neg q] at h; omega
  | w :: ws, a, b, c, d, h => by
    rw [vd_cons] at h ⊢
    obtain ⟨h1, -, -⟩ := bwF_ok (f := byF p w ws a b c d) 6
    generalize bwF (byF p w ws a b c d) 6 = t at *
    unfold mnN at h ⊢
    by_cases q : byF p w ws a b c d t < 1000000
    · rw [if_pos q]
      exact ⟨t, _, by omega, rfl, vd_asg ws _ _ _ _ (by unfold byF at q; omega)⟩
    · rw [if_neg q] at h; omega
theorem asg_vd {p : Nat → Nat → Nat} : ∀ {ws : List Nat} {a b c d x : Nat}, Asg p ws a b c d x → vd p ws a b c d ≤ x
  | [], a, b, c, d, x, ⟨h0, h1, h2, h3, h4⟩ => by
    unfold vd
    rw [if_pos ⟨h0, h1, h2, h3⟩]
    exact Nat.zero_le _
  | w :: ws, a, b, c, d, x, ⟨t, x', ht, hx, h⟩ => by
    have ih := asg_vd h
    rw [vd_cons]
    obtain ⟨-, h2, -⟩ := bwF_ok (f := byF p w ws a b c d) 6
    have := h2 t (by omega)
    have e : byF p w ws a b c d t = cstW p w t + vd p ws (a - tb t 0) (b - tb t 1) (c - tb t 2) (d - tb t 3) := rfl
    unfold mnN
    split <;> omega
/-- to take a watch that has enough is never the first way -/
theorem bw_need {p : Nat → Nat → Nat} {w : Nat} {ws : List Nat} {a b c d : Nat} : (tb (bwF (byF p w ws a b c d) 6) 0 = 1 → 0 < a) ∧ (tb (bwF (byF p w ws a b c d) 6) 1 = 1 → 0 < b) ∧ (tb (bwF (byF p w ws a b c d) 6) 2 = 1 → 0 < c) ∧ (tb (bwF (byF p w ws a b c d) 6) 3 = 1 → 0 < d) := by
  obtain ⟨h1, -, h3⟩ := bwF_ok (f := byF p w ws a b c d) 6
  generalize bwF (byF p w ws a b c d) 6 = t at *
  obtain ⟨z00, z01, z02, z03⟩ := tb_0
  obtain ⟨z10, z11, z12, z13⟩ := tb_1
  obtain ⟨z20, z21, z22, z23⟩ := tb_2
  obtain ⟨z30, z31, z32, z33⟩ := tb_3
  obtain ⟨z40, z41, z42, z43⟩ := tb_4
  obtain ⟨z50, z51, z52, z53⟩ := tb_5
  obtain ⟨z60, z61, z62, z63⟩ := tb_6
  -- a lesser way t' with the same needs behind it and no greater price
  have drop : ∀ t' : Nat, t' < t → a - tb t' 0 = a - tb t 0 → b - tb t' 1 = b - tb t 1 → c - tb t' 2 = c - tb t 2 → d - tb t' 3 = d - tb t 3 → cstW p w t' ≤ cstW p w t → False := fun t' hl ea eb ec ed hc => by
    have := h3 t' hl
    unfold byF at this
    rw [ea, eb, ec, ed] at this
    omega
  have ht : t = 0 ∨ t = 1 ∨ t = 2 ∨ t = 3 ∨ t = 4 ∨ t = 5 ∨ t = 6 := by omega
  rcases ht with rfl | rfl | rfl | rfl | rfl | rfl | rfl
  · exact ⟨fun h => by omega, fun h => by omega, fun h => by omega, fun h => by omega⟩
  · refine ⟨fun _ => ?_, fun h => by omega, fun h => by omega, fun h => by omega⟩
    rcases Nat.eq_zero_or_pos a with q | q
    · exact (drop 0 (by decide) (by omega) (by omega) (by omega) (by omega) (by unfold cstW; rw [z00, z01, z02, z03, z10, z11, z12, z13]; omega)).elim
    · exact q
  · refine ⟨fun h => by omega, fun _ => ?_, fun h => by omega, fun h => by omega⟩
    rcases Nat.eq_zero_or_pos b with q | q
    · exact (drop 0 (by decide) (by omega) (by omega) (by omega) (by omega) (by unfold cstW; rw [z00, z01, z02, z03, z20, z21, z22, z23]; omega)).elim
    · exact q
  · refine ⟨fun h => by omega, fun h => by omega, fun _ => ?_, fun h => by omega⟩
    rcases Nat.eq_zero_or_pos c with q | q
    · exact (drop 0 (by decide) (by omega) (by omega) (by omega) (by omega) (by unfold cstW; rw [z00, z01, z02, z03, z30, z31, z32, z33]; omega)).elim
    · exact q
  · refine ⟨fun h => by omega, fun h => by omega, fun h => by omega, fun _ => ?_⟩
    rcases Nat.eq_zero_or_pos d with q | q
    · exact (drop 0 (by decide) (by omega) (by omega) (by omega) (by omega) (by unfold cstW; rw [z00, z01, z02, z03, z40, z41, z42, z43]; omega)).elim
    · exact q
  · refine ⟨fun _ => ?_, fun h => by omega, fun _ => ?_, fun h => by omega⟩
    · rcases Nat.eq_zero_or_pos a with q | q
      · exact (drop 3 (by decide) (by omega) (by omega) (by omega) (by omega) (by unfold cstW; rw [z30, z31, z32, z33, z50, z51, z52, z53]; omega)).elim
      · exact q
    · rcases Nat.eq_zero_or_pos c with q | q
      · exact (drop 1 (by decide) (by omega) (by omega) (by omega) (by omega) (by unfold cstW; rw [z10, z11, z12, z13, z50, z51, z52, z53]; omega)).elim
      · exact q
  · refine ⟨fun h => by omega, fun _ => ?_, fun h => by omega, fun _ => ?_⟩
    · rcases Nat.eq_zero_or_pos b with q | q
      · exact (drop 4 (by decide) (by omega) (by omega) (by omega) (by omega) (by unfold cstW; rw [z40, z41, z42, z43, z60, z61, z62, z63]; omega)).elim
      · exact q
    · rcases Nat.eq_zero_or_pos d with q | q
      · exact (drop 2 (by decide) (by omega) (by omega) (by omega) (by omega) (by unfold cstW; rw [z20, z21, z22, z23, z60, z61, z62, z63]; omega)).elim
      · exact q
/-- j entries of a row from i on -/
def lsF (a : Nat → Nat) : Nat → Nat → List Nat
  | _, 0 => []
  | i, j + 1 => a i :: lsF a (i + 1) j
theorem lsF_end {a : Nat → Nat} : ∀ (j i : Nat), lsF a i (j + 1) = lsF a i j ++ [a (i + j)]
  | 0, i => rfl
  | j + 1, i => by
    show a i :: lsF a (i + 1) (j + 1) = a i :: (lsF a (i + 1) j ++ [a (i + (j + 1))])
    rw [lsF_end j (i + 1), show i + 1 + j = i + (j + 1) by omega]
theorem lsF_congr {a b : Nat → Nat} : ∀ (j i : Nat), (∀ x : Nat, i ≤ x → x < i + j → a x = b x) → lsF a i j = lsF b i j
  | 0, _, _ => rfl
  | j + 1, i, h => by
    show a i :: lsF a (i + 1) j = b i :: lsF b (i + 1) j
    rw [h i (by omega) (by omega), lsF_congr j (i + 1) (fun x h1 h2 => h x (by omega) (by omega))]
theorem lsF_mem {a : Nat → Nat} {v : Nat} : ∀ {j i : Nat}, v ∈ lsF a i j ↔ ∃ x : Nat, i ≤ x ∧ x < i + j ∧ a x = v
  | 0, i => ⟨fun h => (by cases h), fun ⟨x, h1, h2, _⟩ => (by omega)⟩
  | j + 1, i => by
    show v ∈ a i :: lsF a (i + 1) j ↔ _
    rw [List.mem_cons, lsF_mem]
    constructor
    · rintro (h | ⟨x, h1, h2, h3⟩)
      · exact ⟨i, by omega, by omega, h.symm⟩
      · exact ⟨x, by omega, by omega, h3⟩
    · rintro ⟨x, h1, h2, h3⟩
      by_cases e : x = i
      · subst e; exact Or.inl h3.symm
      · exact Or.inr ⟨x, by omega, by omega, h3⟩
theorem lsF_srt {a q : Nat → Nat} : ∀ (j i : Nat), (∀ x y : Nat, i ≤ x → x < y → y < i + j → q (a x) ≤ q (a y)) → Srt q (lsF a i j)
  | 0, _, _ => trivial
  | j + 1, i, h => by
    refine ⟨fun v hv => ?_, lsF_srt j (i + 1) (fun x y h1 h2 h3 => h x y (by omega) h2 (by omega))⟩
    obtain ⟨x, h1, h2, rfl⟩ := lsF_mem.mp hv
    exact h i x (by omega) (by omega) (by omega)
theorem up_nodup : ∀ (j i : Nat), (lsF (fun x => x) i j).Nodup
  | 0, _ => List.nodup_nil
  | j + 1, i => by
    show (i :: lsF (fun x => x) (i + 1) j).Nodup
    rw [List.nodup_cons]
    refine ⟨fun h => ?_, up_nodup j (i + 1)⟩
    obtain ⟨x, h1, h2, h3⟩ := lsF_mem.mp h
    omega
theorem insF_hi {fe : Nat → Int32} {w : Nat} : ∀ (p : Nat) (a : Nat → Nat) (j : Nat), p < j → insF fe w p a j = a j
  | 0, a, j, h => by unfold insF; rw [updN_n (by omega)]
  | p + 1, a, j, h => by
    unfold insF
    split
    · rw [insF_hi p _ j (by omega), updN_n (by omega)]
    · rw [updN_n (by omega)]
theorem insF_perm {fe : Nat → Int32} {w : Nat} : ∀ (p : Nat) (a : Nat → Nat), (lsF (insF fe w p a) 0 (p + 1)).Perm (w :: lsF a 0 p)
  | 0, a => by
    show ([updN a 0 w 0] : List Nat).Perm [w]
    rw [updN_s]
  | p + 1, a => by
    unfold insF
    split
    · have ih := insF_perm (fe := fe) (w := w) p (updN a (p + 1) (a p))
      have e3 : lsF a 0 (p + 1) = lsF a 0 p ++ [a p] := by rw [lsF_end p 0, Nat.zero_add]
      rw [lsF_end (p + 1), Nat.zero_add, insF_hi p _ (p + 1) (by omega), updN_s, e3]
      have e : lsF (updN a (p + 1) (a p)) 0 p = lsF a 0 p := lsF_congr p 0 (fun x _ h2 => updN_n (by omega))
      rw [e] at ih
      exact ih.append_right [a p]
    · rw [lsF_end (p + 1), Nat.zero_add, updN_s]
      have e : lsF (updN a (p + 1) w) 0 (p + 1) = lsF a 0 (p + 1) := lsF_congr (p + 1) 0 (fun x _ h2 => updN_n (by omega))
      rw [e]
      exact List.perm_append_singleton w _
theorem insF_srt {fe : Nat → Int32} {w : Nat} : ∀ (p : Nat) (a : Nat → Nat), (∀ x y : Nat, x < y → y < p → fe (a x) ≤ fe (a y)) → ∀ x y : Nat, x < y → y < p + 1 → fe (insF fe w p a x) ≤ fe (insF fe w p a y)
  | 0, a, _, x, y, h1, h2 => by omega
  | p + 1, a, h, x, y, h1, h2 => by
    unfold insF
    by_cases q : fe w < fe (a p)
    · rw [if_pos q]
      have hp := insF_perm (fe := fe) (w := w) p (updN a (p + 1) (a p))
      by_cases e : y = p + 1
      · subst e
        rw [insF_hi p _ (p + 1) (by omega), updN_s]
        have hm : insF fe w p (updN a (p + 1) (a p)) x ∈ lsF (insF fe w p (updN a (p + 1) (a p))) 0 (p + 1) := lsF_mem.mpr ⟨x, by omega, by omega, rfl⟩
        have hm2 := hp.mem_iff.mp hm
        rcases List.mem_cons.mp hm2 with z | z
        · rw [z]; exact Int32.le_of_lt q
        · obtain ⟨u, u1, u2, u3⟩ := lsF_mem.mp z
          rw [← u3, updN_n (by omega)]
          exact h u p (by omega) (by omega)
      · exact insF_srt p _ (fun u v hu hv => by rw [updN_n (by omega), updN_n (by omega)]; exact h u v hu (by omega)) x y h1 (by omega)
    · rw [if_neg q]
      by_cases e : y = p + 1
      · subst e
        rw [updN_s, updN_n (by omega)]
        by_cases e2 : x = p
        · subst e2; exact Int32.not_lt.mp q
        · exact Int32.le_trans (h x p (by omega) (by omega)) (Int32.not_lt.mp q)
      · rw [updN_n (by omega), updN_n e]
        exact h x y h1 (by omega)
/-- all walkers by their price -/
theorem srt_all {fe : Nat → Int32} : ∀ m : Nat, (srt (fun _ => true) fe m).1 = m ∧ (lsF (srt (fun _ => true) fe m).2 0 m).Perm (lsF (fun x => x) 0 m) ∧ ∀ x y : Nat, x < y → y < m → fe ((srt (fun _ => true) fe m).2 x) ≤ fe ((srt (fun _ => true) fe m).2 y)
  | 0 => ⟨rfl, List.Perm.refl _, fun x y h1 h2 => by omega⟩
  | m + 1 => by
    obtain ⟨h1, h2, h3⟩ := srt_all (fe := fe) m
    have e : srt (fun _ => true) fe (m + 1) = ((srt (fun _ => true) fe m).1 + 1, insF fe m (srt (fun _ => true) fe m).1 (srt (fun _ => true) fe m).2) := by
      show (if true = true then _ else _) = _
      rw [if_pos rfl]
    rw [e, h1]
    refine ⟨rfl, ?_, insF_srt m _ h3⟩
    refine (insF_perm m _).trans ?_
    rw [lsF_end m 0, Nat.zero_add]
    exact (h2.cons m).trans (List.perm_append_singleton m _).symm
