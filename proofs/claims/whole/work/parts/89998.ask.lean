/-! text: small questions at a token -/
def TokE (c : Nat) (t v : Int32) : Prop := TokM c t v ∨ (c = 30000 ∧ t = 0)
/-- the code of token k, with the end -/
def tkC (tx : Nat → Nat) (len m k : Nat) : Nat := if k < m then tcd tx len (pl tx len k) else 30000
section ASK
variable {C D : IM}
theorem take_c {k : Nat} (hk : k < 400) (h : C 100 7 = nI k) : f_X6_takesToken C = some (0, ms C 100 7 (nI (k + 1))) := by
  unfold f_X6_takesToken
  rw [h, if_neg (show ¬ (400 : Int32) ≤ nI k from nI_ge (b := 400) hk (by decide))]
  simp only [pt]
  rw [nI_1]
theorem refuse_c {k : Nat} {f : Int32} (hk : k ≤ 400) (h : C 100 7 = nI k) : f_X6_refuses f C = some (0, ms (ms C 100 0 f) 100 1 (C 118 k)) := by
  unfold f_X6_refuses
  simp only [pt]
  rw [ms_at (by decide), h, rdK (j := k) rfl (by omega) (by decide), ms_ne (by decide)]
theorem errs_m {f : Int32} : f_X12_errs f D = some (-1, ms (ms D 136 32 f) 136 33 (D 136 16)) := by
  unfold f_X12_errs
  simp only [pt]
  rw [ms_at (by decide)]
theorem zq_eq {a b : Nat} (ha : a < 100000) (hb : b < 100000) : nI a = nI b ↔ a = b := ⟨fun z => by
  have := congrArg Int32.toInt z
  rw [nI_toInt (by omega), nI_toInt (by omega)] at this
  omega, fun z => by rw [z]⟩
theorem wM_lt {w : Nat} (h : w < 22) : wM w < 22 ∧ wM (wM w) = w := ⟨(wk_m w h).1, (wk_m w h).2.1⟩
theorem isWord_m {c w : Nat} (h : TokE c (D 136 17) (D 136 18)) (hw : w < 22) : f_X12_isWord (nI w) D = some (if c = 10000 + wM w then 1 else 0, D) := by
  have hm := wM_lt hw
  unfold f_X12_isWord
  rcases h with (⟨h1, h2, h3⟩ | ⟨h1, h2, h3, h4⟩ | ⟨h1, h2, h3, h4⟩ | ⟨h1, h2⟩) | ⟨h1, h2⟩
  · rw [h2, if_neg (by decide), if_neg (by omega)]
  · have hc := wM_lt (w := c - 10000) (by omega)
    rw [h3, if_pos rfl, h4]
    by_cases q : wM (c - 10000) = w
    · have e : c = 10000 + wM w := by
        have := hc.2
        rw [q] at this
        omega
      rw [if_pos (by rw [q]), if_pos e]
    · have e : ¬ c = 10000 + wM w := fun z => q (by rw [z, Nat.add_sub_cancel_left]; exact hm.2)
      rw [if_neg (fun z => q ((zq_eq (by omega) (by omega)).mp z)), if_neg e]
  · rw [h3, if_neg (by decide), if_neg (by omega)]
  · rw [h2, if_neg (by decide), if_neg (by omega)]
  · rw [h2, if_neg (by decide), if_neg (by omega)]
theorem isSign_m {c s : Nat} (h : TokE c (D 136 17) (D 136 18)) (hs : s < 256) : f_X12_isSign (nI s) D = some (if c = 20000 + s then 1 else 0, D) := by
  unfold f_X12_isSign
  rcases h with (⟨h1, h2, h3⟩ | ⟨h1, h2, h3, h4⟩ | ⟨h1, h2, h3, h4⟩ | ⟨h1, h2⟩) | ⟨h1, h2⟩
  · rw [h2, if_neg (by decide), if_neg (by omega)]
  · rw [h3, if_neg (by decide), if_neg (by omega)]
  · rw [h3, if_pos rfl, h4]
    by_cases q : c - 20000 = s
    · rw [if_pos (by rw [q]), if_pos (by omega)]
    · rw [if_neg (fun z => q ((zq_eq (by omega) (by omega)).mp z)), if_neg (by omega)]
  · rw [h2, if_neg (by decide), if_neg (by omega)]
  · rw [h2, if_neg (by decide), if_neg (by omega)]
end ASK
