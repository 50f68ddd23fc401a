/-! frames by lists: only the rows R and the cells A may have changed -/
def agr (R : List Nat) (A : List (Nat × Nat)) (M M' : IM) : Prop := ∀ p i : Nat, p ∉ R → (p, i) ∉ A → M' p i = M p i
def chk (R : List Nat) (A : List (Nat × Nat)) (LR : List Nat) (LC : List (Nat × Nat)) : Bool := LR.all (fun p => !R.contains p && A.all (fun x => !(x.1 == p))) && LC.all (fun c => !R.contains c.1 && !A.contains c)
theorem agr_rf {R : List Nat} {A : List (Nat × Nat)} {M : IM} : agr R A M M := fun _ _ _ _ => rfl
theorem agr_c {R : List Nat} {A : List (Nat × Nat)} {M M1 : IM} {o i : Nat} {v : Int32} (h : agr R A M M1) (hm : (o, i) ∈ A ∨ o ∈ R) : agr R A M (ms M1 o i v) := by
  intro p j hp hj
  rw [← h p j hp hj]
  unfold ms
  rw [if_neg]
  rintro ⟨rfl, rfl⟩
  rcases hm with q | q
  · exact hj q
  · exact hp q
theorem agr_m {R : List Nat} {A : List (Nat × Nat)} {M M1 : IM} {o : Nat} {f : Nat → Int32} (h : agr R A M M1) (hm : o ∈ R) : agr R A M (mr M1 o f) := by
  intro p j hp hj
  rw [← h p j hp hj]
  unfold mr
  rw [if_neg]
  rintro rfl
  exact hp hm
theorem agr_tr {R : List Nat} {A : List (Nat × Nat)} {M M1 M2 : IM} (h : agr R A M M1) (h2 : agr R A M1 M2) : agr R A M M2 := fun p i hp hi => (h2 p i hp hi).trans (h p i hp hi)
theorem agr_row {R : List Nat} {A : List (Nat × Nat)} {M M' : IM} {LR : List Nat} {LC : List (Nat × Nat)} (h : agr R A M M') (hc : chk R A LR LC = true) {p : Nat} (hp : p ∈ LR) : M' p = M p := by
  unfold chk at hc
  rw [Bool.and_eq_true, List.all_eq_true, List.all_eq_true] at hc
  have h1 := hc.1 p hp
  rw [Bool.and_eq_true, Bool.not_eq_true', List.all_eq_true] at h1
  funext i
  refine h p i (fun q => ?_) (fun q => ?_)
  · have := h1.1; rw [List.contains_iff_mem.mpr q] at this; cases this
  · have := h1.2 _ q; simp at this
theorem agr_cell {R : List Nat} {A : List (Nat × Nat)} {M M' : IM} {LR : List Nat} {LC : List (Nat × Nat)} (h : agr R A M M') (hc : chk R A LR LC = true) {p i : Nat} (hp : (p, i) ∈ LC) : M' p i = M p i := by
  unfold chk at hc
  rw [Bool.and_eq_true, List.all_eq_true, List.all_eq_true] at hc
  have h1 := hc.2 (p, i) hp
  rw [Bool.and_eq_true, Bool.not_eq_true', Bool.not_eq_true'] at h1
  refine h p i (fun q => ?_) (fun q => ?_)
  · have := h1.1; rw [List.contains_iff_mem.mpr q] at this; cases this
  · have := h1.2; rw [List.contains_iff_mem.mpr q] at this; cases this
section AGF
variable {R : List Nat} {A : List (Nat × Nat)} {M M' : IM}
theorem ag_Now (h : agr R A M M') (hc : chk R A [1, 2, 3, 4, 5, 20, 22, 137, 140] [(136, 6)] = true) : IvNow M → IvNow M' := fr_Now (agr_row h hc (by decide)) (agr_row h hc (by decide)) (agr_row h hc (by decide)) (agr_row h hc (by decide)) (agr_row h hc (by decide)) (agr_row h hc (by decide)) (agr_row h hc (by decide)) (agr_row h hc (by decide)) (agr_row h hc (by decide)) (agr_cell h hc (by decide))
theorem rng_mem {a n p : Nat} (h1 : a ≤ p) (h2 : p < a + n) : p ∈ (List.range n).map (fun i => a + i) := List.mem_map.mpr ⟨p - a, List.mem_range.mpr (by omega), by omega⟩
theorem ag_Told (h : agr R A M M') (hc : chk R A ((List.range 22).map (fun i => 6 + i) ++ (List.range 7).map (fun i => 145 + i) ++ [141, 153, 154]) [(1, 10), (136, 8), (136, 9), (136, 10), (136, 36), (136, 38)] = true) : IvTold M → IvTold M' := fr_Told (fun p h1 h2 => agr_row h hc (List.mem_append.mpr (Or.inl (List.mem_append.mpr (Or.inl (rng_mem h1 (by omega))))))) (agr_cell h hc (by decide)) (agr_cell h hc (by decide)) (agr_cell h hc (by decide)) (agr_cell h hc (by decide)) (agr_cell h hc (by decide)) (agr_cell h hc (by decide)) (agr_row h hc (by decide)) (fun p h1 h2 => agr_row h hc (List.mem_append.mpr (Or.inl (List.mem_append.mpr (Or.inr (rng_mem h1 (by omega))))))) (agr_row h hc (by decide)) (agr_row h hc (by decide))
theorem ag_Book (h : agr R A M M') (hc : chk R A [142, 31, 32, 33] [] = true) : IvBook M → IvBook M' := fr_Book (agr_row h hc (by decide)) (agr_row h hc (by decide)) (agr_row h hc (by decide)) (agr_row h hc (by decide))
theorem ag_Past (h : agr R A M M') (hc : chk R A ((List.range 32).map (fun i => 34 + i) ++ [138, 20, 22, 3]) [(136, 3), (1, 10)] = true) : IvPast M → IvPast M' := fr_Past (fun p h1 h2 => agr_row h hc (List.mem_append.mpr (Or.inl (rng_mem h1 (by omega))))) (agr_cell h hc (by decide)) (agr_row h hc (by decide)) (agr_row h hc (by decide)) (agr_row h hc (by decide)) (agr_cell h hc (by decide)) (agr_row h hc (by decide))
theorem ag_Tape (h : agr R A M M') (hc : chk R A [143, 99] [(136, 14), (0, 9)] = true) : IvTape M → IvTape M' := fr_Tape (agr_cell h hc (by decide)) (agr_cell h hc (by decide)) (agr_row h hc (by decide)) (agr_row h hc (by decide))
theorem ag_Fault (h : agr R A M M') (hc : chk R A [] [(136, 34), (136, 35), (136, 5), (100, 0), (100, 1)] = true) : IvFault M → IvFault M' := fr_Fault (agr_cell h hc (by decide)) (agr_cell h hc (by decide)) (agr_cell h hc (by decide)) (agr_cell h hc (by decide)) (agr_cell h hc (by decide))
theorem ag_Words (h : agr R A M M') (hc : chk R A [144] [] = true) : IvWords M → IvWords M' := fr_Words (agr_row h hc (by decide))
theorem ag_Img (h : agr R A M M') (hc : chk R A ((List.range 27).map (fun i => 66 + i) ++ (List.range 4).map (fun i => 95 + i) ++ [164]) [(0, 7), (136, 50)] = true) : IvImg M → IvImg M' := fr_Img (fun p h1 h2 h3 h4 => by
  rcases Nat.lt_or_ge p 93 with q | q
  · exact agr_row h hc (List.mem_append.mpr (Or.inl (List.mem_append.mpr (Or.inl (rng_mem h1 (by omega))))))
  · exact agr_row h hc (List.mem_append.mpr (Or.inl (List.mem_append.mpr (Or.inr (rng_mem (by omega) (by omega))))))) (agr_cell h hc (by decide)) (agr_cell h hc (by decide)) (agr_row h hc (by decide))
end AGF
/-- end -/
theorem st_end (v : Int32) : Stp2 Inv (f_X11_end v) (f_X12_end v) := by
  intro M hI
  obtain ⟨hN, hT, hB, hP, ⟨t1, t2, t3⟩, hF, hW, hG⟩ := id hI
  have e14 : ms M 136 0 0 136 14 = M 0 9 := by rw [ms_at (by decide)]; exact t1
  by_cases hv : v < 0 ∨ M 0 9 < v
  · exact ⟨0, M, ms M 136 0 0, by unfold f_X11_end; rw [cl_s (win_c _ _ _ M), if_pos (i0 hv)], by simp only [f_X12_end, pt]; rw [e14, cl_s (win_m _ _ _ _), if_pos (i0 hv)], Inv_same same_told hI⟩
  · refine ⟨1, ms M 0 9 v, ms (ms (ms M 0 9 v) 136 0 0) 136 14 v, by unfold f_X11_end pt; rw [cl_s (win_c _ _ _ M), if_neg (i1 hv)], ?_, ?_⟩
    · simp only [f_X12_end, pt]
      have e : ms (ms M 0 9 v) 136 0 0 136 14 = M 0 9 := by rw [ms_at (by decide), ms_ne (by decide)]; exact t1
      rw [e, cl_s (win_m _ _ _ _), if_neg (i1 hv)]
    · have hA : agr [] [(0, 9), (136, 0), (136, 14)] M (ms (ms (ms M 0 9 v) 136 0 0) 136 14 v) := agr_c (agr_c (agr_c agr_rf (by decide)) (by decide)) (by decide)
      refine ⟨ag_Now hA (by decide) hN, ag_Told hA (by decide +kernel) hT, ag_Book hA (by decide) hB, ag_Past hA (by decide +kernel) hP, ⟨?_, ?_, ?_⟩, ag_Fault hA (by decide) hF, ag_Words hA (by decide) hW, ag_Img hA (by decide +kernel) hG⟩
      · rw [ms_it, ms_ne (by decide), ms_ne (by decide), ms_it]
      · rw [ms_ne (by decide), ms_ne (by decide), ms_it]
        rw [not_or, Int32.not_lt, Int32.not_lt, Int32.le_iff_toInt_le, Int32.le_iff_toInt_le] at hv
        have := t2.2
        exact ⟨by have := hv.1; simpa using this, by omega⟩
      · intro i hi
        rw [ms_ne (by decide), ms_ne (by decide), ms_ne (by decide), ms_ne (by decide), ms_ne (by decide), ms_ne (by decide)]
        exact t3 i hi
