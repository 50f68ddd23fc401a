/-! text: rounds -/
section STONE
variable {tx : Nat → Nat} {len m : Nat} {C0 D0 C D : IM} {k n : Nat}
theorem zq_h53 : ¬ 153 = 136 ∧ ¬ 153 = 143 ∧ ¬ 153 = 144 := by decide
/-- food and the mark -/
theorem zq_tail {pa hr ri : Nat} (hri : ri < 10000) (hg : zq_g tx len m 153 32 C0 D0 C D k) (hn : n < 8) :
    (∃ Ce De, f_X6_readsStone_68 (nI pa) (nI hr) (nI ri) C = some (0, Ce) ∧ f_X12_readStone_97 (nI (32 + 4 * n)) (nI (32 + 4 * n) + 2) (nI ri) D = some (-1, De) ∧ zq_fx 153 32 C0 D0 Ce De) ∨
    ∃ fo C1 D1 k1, k < k1 ∧ fo ≤ 99 ∧ f_X6_readsStone_68 (nI pa) (nI hr) (nI ri) C = (cl (f_X7_put 107 (nI pa) (nI hr) (nI ri) (nI fo) C1) fun _ M36 => some (1, M36)) ∧ f_X12_readStone_97 (nI (32 + 4 * n)) (nI (32 + 4 * n) + 2) (nI ri) D = some (0, D1) ∧ zq_g tx len m 153 32 C0 D0 C1 D1 k1 ∧ D1 153 (32 + 4 * n + 2) = nI ri ∧ D1 153 (32 + 4 * n + 3) = nI fo ∧ ∀ j : Nat, ¬ j = 32 + 4 * n + 2 → ¬ j = 32 + 4 * n + 3 → D1 153 j = D 153 j := by
  have e2 : nI (32 + 4 * n) + 2 = nI (32 + 4 * n + 2) := nI_add _ 2
  have e3 : nI (32 + 4 * n) + 3 = nI (32 + 4 * n + 3) := nI_add _ 3
  have g1 := zq_g_w (j := 32 + 4 * n + 2) (v := nI ri) zq_h53 (by omega) hg
  have em : f_X12_readStone_97 (nI (32 + 4 * n)) (nI (32 + 4 * n) + 2) (nI ri) D = cl (f_X12_readTold 17 0 99 (ms D 153 (32 + 4 * n + 2) (nI ri))) fun w31 M32 => wr M32 153 64 (nI (32 + 4 * n) + 3) w31 fun M34 => rd M34 153 64 (nI (32 + 4 * n) + 3) fun v36 => if v36 = (-1) then some ((-1), M34) else cl (f_X12_readMark 59 M34) fun w39 M40 => some (w39, M40) := by
    unfold f_X12_readStone_97
    rw [wrK (j := 32 + 4 * n + 2) e2 (by omega) (by decide), rdK (j := 32 + 4 * n + 2) e2 (by omega) (by decide), ms_it, if_neg (zq_vm hri)]
  have ec : f_X6_readsStone_68 (nI pa) (nI hr) (nI ri) C = cl (f_X6_takes 10008 C) fun w23 M24 => if w23 = 0 then some (0, M24) else cl (f_X6_takesNumber 0 99 M24) fun w27 M28 => if w27 = (-1) then some (0, M28) else cl (f_X6_takes 20059 M28) fun w31 M32 => if w31 = 0 then some (0, M32) else cl (f_X7_put 107 (nI pa) (nI hr) (nI ri) w27 M32) fun _ M36 => some (1, M36) := by
    unfold f_X6_readsStone_68
    rw [if_neg (zq_vm hri)]
  rw [em, ec]
  rcases zq_jt (w := 17) (c := 10008) (lo := 0) (hi := 99) (by decide) rfl zq_h53 g1 with ⟨Ce, De, a0, a1, a2, a3⟩ | ⟨Ce, De, a0, a1, a2, a3, a4, a5⟩ | ⟨v, D2, a0, a1, a2, a3, a4, a5, a6, a7, a8⟩
  · refine Or.inl ⟨Ce, ms De 153 (32 + 4 * n + 3) (-1), ?_, ?_, zq_fx_w (by decide) (by omega) a3⟩
    · rw [cl_s (show f_X6_takes 10008 C = _ from a1), if_pos rfl]
    · rw [cl_s (show f_X12_readTold 17 0 99 _ = _ from a2), wrK (j := 32 + 4 * n + 3) e3 (by omega) (by decide), rdK (j := 32 + 4 * n + 3) e3 (by omega) (by decide), ms_it, if_pos rfl]
  · refine Or.inl ⟨Ce, ms De 153 (32 + 4 * n + 3) (-1), ?_, ?_, zq_fx_w (by decide) (by omega) a5⟩
    · rw [cl_s (show f_X6_takes 10008 C = _ from a2), if_neg (by decide), cl_s a3, if_pos rfl]
    · rw [cl_s (show f_X12_readTold 17 0 99 _ = _ from a4), wrK (j := 32 + 4 * n + 3) e3 (by omega) (by decide), rdK (j := 32 + 4 * n + 3) e3 (by omega) (by decide), ms_it, if_pos rfl]
  · have g2 := zq_g_w (j := 32 + 4 * n + 3) (v := nI v) zq_h53 (by omega) a8
    have ec2 : (cl (f_X6_takes 10008 C) fun w23 M24 => if w23 = 0 then some (0, M24) else cl (f_X6_takesNumber 0 99 M24) fun w27 M28 => if w27 = (-1) then some (0, M28) else cl (f_X6_takes 20059 M28) fun w31 M32 => if w31 = 0 then some (0, M32) else cl (f_X7_put 107 (nI pa) (nI hr) (nI ri) w27 M32) fun _ M36 => some (1, M36)) = cl (f_X6_takes 20059 (ms (ms C 100 7 (nI (k + 1))) 100 7 (nI (k + 2)))) fun w31 M32 => if w31 = 0 then some (0, M32) else cl (f_X7_put 107 (nI pa) (nI hr) (nI ri) (nI v) M32) fun _ M36 => some (1, M36) := by
      rw [cl_s (show f_X6_takes 10008 C = _ from a4), if_neg (by decide), cl_s a5, if_neg (zq_vm a2)]
    have em2 : (cl (f_X12_readTold 17 0 99 (ms D 153 (32 + 4 * n + 2) (nI ri))) fun w31 M32 => wr M32 153 64 (nI (32 + 4 * n) + 3) w31 fun M34 => rd M34 153 64 (nI (32 + 4 * n) + 3) fun v36 => if v36 = (-1) then some ((-1), M34) else cl (f_X12_readMark 59 M34) fun w39 M40 => some (w39, M40)) = cl (f_X12_readMark 59 (ms D2 153 (32 + 4 * n + 3) (nI v))) fun w39 M40 => some (w39, M40) := by
      rw [cl_s (show f_X12_readTold 17 0 99 _ = _ from a6), wrK (j := 32 + 4 * n + 3) e3 (by omega) (by decide), rdK (j := 32 + 4 * n + 3) e3 (by omega) (by decide), ms_it, if_neg (zq_vm a2)]
    rw [ec2, em2]
    have hv : v ≤ 99 := by
      rcases Nat.lt_or_ge 99 v with z | z
      · exact absurd (Or.inr (nI_lt (a := 99) z (by omega))) a3
      · exact z
    rcases zq_jm zq_h53 g2 with ⟨Ce, De, b1, b2, b3⟩ | ⟨D3, b1, b2, b3, b4, b5⟩
    · exact Or.inl ⟨Ce, De, by rw [cl_s b1, if_pos rfl], by rw [cl_s b2], b3⟩
    · refine Or.inr ⟨v, _, D3, k + 2 + 1, by omega, hv, by rw [cl_s b2, if_neg (by decide)], by rw [cl_s b3], b5, ?_, ?_, fun j h2 h3 => ?_⟩
      · rw [b4, ms_at (by omega), a7, ms_it]
      · rw [b4, ms_it]
      · rw [b4, ms_at h3, a7, ms_at h2]
theorem zq_stone (hg : zq_g tx len m 153 32 C0 D0 C D k) (hT : tkC tx len m k = 10018) (hn : n < 8) :
    (∃ Ce De, f_X6_readsStone (ms C 100 7 (nI (k + 1))) = some (0, Ce) ∧ f_X12_readStone (nI (32 + 4 * n)) D = some (-1, De) ∧ zq_fx 153 32 C0 D0 Ce De) ∨
    ∃ pa hr ri fo C1 D1 k1, k < k1 ∧ (pa ≤ 7 ∧ 1 ≤ hr ∧ hr ≤ 24 ∧ ri ≤ hr ∧ fo ≤ 99) ∧ f_X6_readsStone (ms C 100 7 (nI (k + 1))) = (cl (f_X7_put 107 (nI pa) (nI hr) (nI ri) (nI fo) C1) fun _ M36 => some (1, M36)) ∧ f_X12_readStone (nI (32 + 4 * n)) D = some (0, D1) ∧ zq_g tx len m 153 32 C0 D0 C1 D1 k1 ∧ (D1 153 (32 + 4 * n) = nI pa ∧ D1 153 (32 + 4 * n + 1) = nI hr ∧ D1 153 (32 + 4 * n + 2) = nI ri ∧ D1 153 (32 + 4 * n + 3) = nI fo) ∧ ∀ j : Nat, (j < 32 + 4 * n ∨ 32 + 4 * n + 4 ≤ j) → D1 153 j = D 153 j := by
  have e0 : nI (32 + 4 * n) + 0 = nI (32 + 4 * n) := Int32.add_zero _
  have e1 : nI (32 + 4 * n) + 1 = nI (32 + 4 * n + 1) := nI_1 _
  rcases zq_jt (w := 18) (c := 10018) (lo := 0) (hi := 7) (by decide) rfl zq_h53 hg with ⟨Ce, De, a0, -⟩ | ⟨Ce, De, a0, a1, a2, a3, a4, a5⟩ | ⟨pa, D1, a0, a1, a2, a3, a4, a5, a6, a7, a8⟩
  · exact absurd hT a0
  · refine Or.inl ⟨Ce, ms De 153 (32 + 4 * n) (-1), ?_, ?_, zq_fx_w (by decide) (by omega) a5⟩
    · unfold f_X6_readsStone
      rw [cl_s a3, if_pos rfl]
    · unfold f_X12_readStone
      rw [cl_s (show f_X12_readTold 18 0 7 D = _ from a4), wrK (j := 32 + 4 * n) e0 (by omega) (by decide), rdK (j := 32 + 4 * n) e0 (by omega) (by decide), ms_it, if_pos rfl]
  · have hpa : pa ≤ 7 := by
      rcases Nat.lt_or_ge 7 pa with z | z
      · exact absurd (Or.inr (nI_lt (a := 7) z (by omega))) a3
      · exact z
    have g2 := zq_g_w (j := 32 + 4 * n) (v := nI pa) zq_h53 (by omega) a8
    generalize hC2 : ms (ms C 100 7 (nI (k + 1))) 100 7 (nI (k + 2)) = C2 at *
    have ec : f_X6_readsStone (ms C 100 7 (nI (k + 1))) = cl (f_X6_takes 10019 C2) fun w5 M6 => if w5 = 0 then some (0, M6) else cl (f_X6_takesNumber 1 24 M6) fun w9 M10 => if w9 = (-1) then some (0, M10) else rd M10 117 401 (M10 100 7) fun v13 => if v13 = 10007 then cl (f_X6_takesToken M10) fun _ M17 => cl (f_X6_takesNumber 1 w9 M17) fun w19 M20 => f_X6_readsStone_68 (nI pa) w9 w19 M20 else f_X6_readsStone_68 (nI pa) w9 0 M10 := by
      unfold f_X6_readsStone
      rw [cl_s a5, if_neg (zq_vm a2)]
    have em : f_X12_readStone (nI (32 + 4 * n)) D = cl (f_X12_readTold 19 1 24 (ms D1 153 (32 + 4 * n) (nI pa))) fun w9 M10 => wr M10 153 64 (nI (32 + 4 * n) + 1) w9 fun M12 => rd M12 153 64 (nI (32 + 4 * n) + 1) fun v14 => if v14 = (-1) then some ((-1), M12) else cl (f_X12_isWord 16 M12) fun w17 M18 => if w17 = 0 then f_X12_readStone_97 (nI (32 + 4 * n)) ((nI (32 + 4 * n) + 2)) 0 M18 else rd M18 153 64 (nI (32 + 4 * n) + 1) fun v21 => cl (f_X12_readTold 16 1 v21 M18) fun w23 M24 => f_X12_readStone_97 (nI (32 + 4 * n)) ((nI (32 + 4 * n) + 2)) w23 M24 := by
      unfold f_X12_readStone
      rw [cl_s (show f_X12_readTold 18 0 7 D = _ from a6), wrK (j := 32 + 4 * n) e0 (by omega) (by decide), rdK (j := 32 + 4 * n) e0 (by omega) (by decide), ms_it, if_neg (zq_vm a2)]
    rw [ec, em]
    have r2 : ∀ j : Nat, ¬ j = 32 + 4 * n → ms D1 153 (32 + 4 * n) (nI pa) 153 j = D 153 j := fun j hj => by rw [ms_at hj, a7]
    have r2' : ms D1 153 (32 + 4 * n) (nI pa) 153 (32 + 4 * n) = nI pa := ms_it
    generalize ms D1 153 (32 + 4 * n) (nI pa) = D2 at *
    rcases zq_jt (w := 19) (c := 10019) (lo := 1) (hi := 24) (by decide) rfl zq_h53 g2 with ⟨Ce, De, b0, b1, b2, b3⟩ | ⟨Ce, De, b0, b1, b2, b3, b4, b5⟩ | ⟨hr, D3, b0, b1, b2, b3, b4, b5, b6, b7, b8⟩
    · refine Or.inl ⟨Ce, ms De 153 (32 + 4 * n + 1) (-1), ?_, ?_, zq_fx_w (by decide) (by omega) b3⟩
      · rw [cl_s (show f_X6_takes 10019 C2 = _ from b1), if_pos rfl]
      · rw [cl_s (show f_X12_readTold 19 1 24 D2 = _ from b2), wrK (j := 32 + 4 * n + 1) e1 (by omega) (by decide), rdK (j := 32 + 4 * n + 1) e1 (by omega) (by decide), ms_it, if_pos rfl]
    · refine Or.inl ⟨Ce, ms De 153 (32 + 4 * n + 1) (-1), ?_, ?_, zq_fx_w (by decide) (by omega) b5⟩
      · rw [cl_s (show f_X6_takes 10019 C2 = _ from b2), if_neg (by decide), cl_s b3, if_pos rfl]
      · rw [cl_s (show f_X12_readTold 19 1 24 D2 = _ from b4), wrK (j := 32 + 4 * n + 1) e1 (by omega) (by decide), rdK (j := 32 + 4 * n + 1) e1 (by omega) (by decide), ms_it, if_pos rfl]
    · have hhr : 1 ≤ hr ∧ hr ≤ 24 := by
        constructor
        · rcases Nat.lt_or_ge hr 1 with z | z
          · exact absurd (Or.inl (nI_lt (b := 1) z (by decide))) b3
          · exact z
        · rcases Nat.lt_or_ge 24 hr with z | z
          · exact absurd (Or.inr (nI_lt (a := 24) z (by omega))) b3
          · exact z
      have g4 := zq_g_w (j := 32 + 4 * n + 1) (v := nI hr) zq_h53 (by omega) b8
      generalize hC4 : ms (ms C2 100 7 (nI (k + 2 + 1))) 100 7 (nI (k + 2 + 2)) = C4 at *
      have r4 : ∀ j : Nat, ¬ j = 32 + 4 * n → ¬ j = 32 + 4 * n + 1 → ms D3 153 (32 + 4 * n + 1) (nI hr) 153 j = D 153 j := fun j h0 h1 => by rw [ms_at h1, b7, r2 j h0]
      have r4' : ms D3 153 (32 + 4 * n + 1) (nI hr) 153 (32 + 4 * n) = nI pa := by rw [ms_at (by omega), b7, r2']
      have r4'' : ms D3 153 (32 + 4 * n + 1) (nI hr) 153 (32 + 4 * n + 1) = nI hr := ms_it
      have ec2 : (cl (f_X6_takes 10019 C2) fun w5 M6 => if w5 = 0 then some (0, M6) else cl (f_X6_takesNumber 1 24 M6) fun w9 M10 => if w9 = (-1) then some (0, M10) else rd M10 117 401 (M10 100 7) fun v13 => if v13 = 10007 then cl (f_X6_takesToken M10) fun _ M17 => cl (f_X6_takesNumber 1 w9 M17) fun w19 M20 => f_X6_readsStone_68 (nI pa) w9 w19 M20 else f_X6_readsStone_68 (nI pa) w9 0 M10) = if nI (tkC tx len m (k + 2 + 2)) = 10007 then cl (f_X6_takesToken C4) fun _ M17 => cl (f_X6_takesNumber 1 (nI hr) M17) fun w19 M20 => f_X6_readsStone_68 (nI pa) (nI hr) w19 M20 else f_X6_readsStone_68 (nI pa) (nI hr) 0 C4 := by
        rw [cl_s (show f_X6_takes 10019 C2 = _ from b4), if_neg (by decide), cl_s b5, if_neg (zq_vm b2), zq_tk g4.2.1 g4.1 g4.2.2.1]
      have em2 : (cl (f_X12_readTold 19 1 24 D2) fun w9 M10 => wr M10 153 64 (nI (32 + 4 * n) + 1) w9 fun M12 => rd M12 153 64 (nI (32 + 4 * n) + 1) fun v14 => if v14 = (-1) then some ((-1), M12) else cl (f_X12_isWord 16 M12) fun w17 M18 => if w17 = 0 then f_X12_readStone_97 (nI (32 + 4 * n)) ((nI (32 + 4 * n) + 2)) 0 M18 else rd M18 153 64 (nI (32 + 4 * n) + 1) fun v21 => cl (f_X12_readTold 16 1 v21 M18) fun w23 M24 => f_X12_readStone_97 (nI (32 + 4 * n)) ((nI (32 + 4 * n) + 2)) w23 M24) = cl (f_X12_isWord 16 (ms D3 153 (32 + 4 * n + 1) (nI hr))) fun w17 M18 => if w17 = 0 then f_X12_readStone_97 (nI (32 + 4 * n)) ((nI (32 + 4 * n) + 2)) 0 M18 else rd M18 153 64 (nI (32 + 4 * n) + 1) fun v21 => cl (f_X12_readTold 16 1 v21 M18) fun w23 M24 => f_X12_readStone_97 (nI (32 + 4 * n)) ((nI (32 + 4 * n) + 2)) w23 M24 := by
        rw [cl_s (show f_X12_readTold 19 1 24 D2 = _ from b6), wrK (j := 32 + 4 * n + 1) e1 (by omega) (by decide), rdK (j := 32 + 4 * n + 1) e1 (by omega) (by decide), ms_it, if_neg (zq_vm b2)]
      rw [ec2, em2]
      generalize ms D3 153 (32 + 4 * n + 1) (nI hr) = D4 at *
      have w16 : f_X12_isWord 16 D4 = some (if tkC tx len m (k + 2 + 2) = 10007 then 1 else 0, D4) := zq_wd (w := 16) g4.2.2.2.2.1 g4.1 (by decide)
      rw [cl_s w16]
      by_cases q : tkC tx len m (k + 2 + 2) = 10007
      · rw [if_pos q, if_neg (show ¬ (1 : Int32) = 0 by decide), if_pos (show nI (tkC tx len m (k + 2 + 2)) = 10007 by rw [q]; rfl), rdK (j := 32 + 4 * n + 1) e1 (by omega) (by decide), r4'']
        rcases zq_jt (w := 16) (c := 10007) (lo := 1) (hi := nI hr) (by decide) rfl zq_h53 g4 with ⟨Ce, De, c0, -⟩ | ⟨Ce, De, c0, c1, c2, c3, c4, c5⟩ | ⟨ri, D5, c0, c1, c2, c3, c4, c5, c6, c7, c8⟩
        · exact absurd q c0
        · refine Or.inl ⟨Ce, ms De 153 (32 + 4 * n + 2) (-1), ?_, ?_, zq_fx_w (by decide) (by omega) c5⟩
          · rw [cl_s (zq_take g4.2.1 c1 g4.2.2.1), cl_s c3]
            unfold f_X6_readsStone_68
            rw [if_pos rfl]
          · rw [cl_s (show f_X12_readTold 16 1 (nI hr) D4 = _ from c4)]
            unfold f_X12_readStone_97
            have e2 : nI (32 + 4 * n) + 2 = nI (32 + 4 * n + 2) := nI_add _ 2
            rw [wrK (j := 32 + 4 * n + 2) e2 (by omega) (by decide), rdK (j := 32 + 4 * n + 2) e2 (by omega) (by decide), ms_it, if_pos rfl]
        · have hri : ri ≤ hr := by
            rcases Nat.lt_or_ge hr ri with z | z
            · exact absurd (Or.inr (nI_lt z (by omega))) c3
            · exact z
          rw [cl_s (zq_take g4.2.1 c1 g4.2.2.1), cl_s c5, cl_s (show f_X12_readTold 16 1 (nI hr) D4 = _ from c6)]
          rcases zq_tail (n := n) (pa := pa) (hr := hr) c2 c8 hn with ⟨Ce, De, d1, d2, d3⟩ | ⟨fo, C9, D9, k9, d0, d1, d2, d3, d4, d5, d6, d7⟩
          · exact Or.inl ⟨Ce, De, d1, d2, d3⟩
          · refine Or.inr ⟨pa, hr, ri, fo, C9, D9, k9, by omega, ⟨hpa, hhr.1, hhr.2, hri, d1⟩, d2, d3, d4, ⟨?_, ?_, d5, d6⟩, fun j hj => ?_⟩
            · rw [d7 _ (by omega) (by omega), c7]; exact r4'
            · rw [d7 _ (by omega) (by omega), c7]; exact r4''
            · rw [d7 _ (by omega) (by omega), c7]; exact r4 j (by omega) (by omega)
      · rw [if_neg q, if_pos rfl, if_neg (zq_nt (c := 10007) (v := 10007) g4.2.1 g4.1 (by decide) rfl q)]
        rcases zq_tail (n := n) (pa := pa) (hr := hr) (ri := 0) (by decide) g4 hn with ⟨Ce, De, d1, d2, d3⟩ | ⟨fo, C9, D9, k9, d0, d1, d2, d3, d4, d5, d6, d7⟩
        · exact Or.inl ⟨Ce, De, d1, d2, d3⟩
        · refine Or.inr ⟨pa, hr, 0, fo, C9, D9, k9, by omega, ⟨hpa, hhr.1, hhr.2, by omega, d1⟩, d2, d3, d4, ⟨?_, ?_, d5, d6⟩, fun j hj => ?_⟩
          · rw [d7 _ (by omega) (by omega)]; exact r4'
          · rw [d7 _ (by omega) (by omega)]; exact r4''
          · rw [d7 _ (by omega) (by omega)]; exact r4 j (by omega) (by omega)
end STONE
/-- so many stones are read -/
def zq_rr (C D : IM) (n : Nat) : Prop := C 107 0 = nI n ∧ n ≤ 8 ∧ ∀ i : Nat, i < n → (D 153 (32 + 4 * i) = C 108 i ∧ D 153 (32 + 4 * i + 1) = C 109 i ∧ D 153 (32 + 4 * i + 2) = C 110 i ∧ D 153 (32 + 4 * i + 3) = C 111 i) ∧ bnd (C 108 i) 0 7 ∧ bnd (C 109 i) 1 24 ∧ bnd (C 110 i) 0 (C 109 i).toInt ∧ bnd (C 111 i) 0 99
/-- both sides failed alike, or both are through -/
def zq_jo (R : List Nat) (o B : Nat) (C D : IM) (x y : IR) (S : IM → IM → Nat → Prop) : Prop := (∃ Ce De, x = some (0, Ce) ∧ y = some (-1, De) ∧ Ce 100 0 = De 136 32 ∧ Ce 100 1 = De 136 33 ∧ fr R C Ce ∧ zq_rf o B D De) ∨ ∃ C1 D1 n1, x = some (1, C1) ∧ y = some (nI n1, D1) ∧ (C1 100 0 = C 100 0 ∧ C1 100 1 = C 100 1) ∧ fr R C C1 ∧ zq_rf o B D D1 ∧ S C1 D1 n1
section ROUNDS
variable {tx : Nat → Nat} {len m : Nat}
theorem zq_opn {T P : Nat → Nat} {C : IM} {k c : Nat} (hc : zq_ct C T P m) (hk : k ≤ m) (h7 : C 100 7 = nI k) (hl : c < 30000) : (T k = c → f_X6_opensLine (nI c) 0 C = some (0, ms (ms C 100 0 3) 100 1 (nI (P k)))) ∧ (T k = c → f_X6_opensLine (nI c) 1 C = some (1, ms C 100 7 (nI (k + 1)))) ∧ (¬ T k = c → ∀ y : Int32, f_X6_opensLine (nI c) y C = some (0, ms (ms C 100 0 1) 100 1 (nI (P k)))) := by
  obtain ⟨t1, t2⟩ := zq_tks hc hk h7 hl
  refine ⟨fun h => ?_, fun h => ?_, fun h y => ?_⟩
  · unfold f_X6_opensLine
    rw [zq_tk hc hk h7, if_pos (by rw [h]), if_pos rfl, cl_s (zq_ref hc hk h7), rz_0]
  · unfold f_X6_opensLine
    rw [zq_tk hc hk h7, if_pos (by rw [h]), if_neg (by decide), cl_s (t1 h), rz_1]
  · unfold f_X6_opensLine
    rw [zq_tk hc hk h7, if_neg (fun z => h ((zq_e hc hk (by omega)).mp z)), cl_s (t2 h), rz_0]
theorem zq_rds : ∀ (d u w k n : Nat) (C D : IM), m ≤ k + d → k ≤ m → zq_ct C (tkC tx len m) (pl tx len) m → C 100 7 = nI k → zq_dt D tx len m → AtM D tx len m k → zq_rr C D n → m < u + k → m < w + k → zq_jo [100, 107, 108, 109, 110, 111] 153 32 C D (f_X6_readsRound_10 u (nI n) C) (f_X12_readStones_2 w (nI n) D) zq_rr := by
  intro d
  induction d with
  | zero =>
    intro u w k n C D hd hk hc h7 hD hA hr hu hw
    obtain ⟨u, rfl⟩ : ∃ i, u = i + 1 := ⟨u - 1, by omega⟩
    obtain ⟨w, rfl⟩ : ∃ i, w = i + 1 := ⟨w - 1, by omega⟩
    have ekm : k = m := by omega
    have hTk : tkC tx len m k = 30000 := by rw [ekm]; exact zq_Tm
    have w18 : f_X12_isWord 18 D = some (if tkC tx len m k = 10018 then 1 else 0, D) := zq_wd (w := 18) hA hk (by decide)
    refine Or.inr ⟨C, D, n, ?_, ?_, ⟨rfl, rfl⟩, fr_rf, zq_rf_rf, hr⟩
    · show f_X6_readsRound_10_b (f_X6_readsRound_10 u) (nI n) C = _
      unfold f_X6_readsRound_10_b
      rw [if_neg (show ¬ (8 : Int32) < nI n from nI_nlt (a := 8) hr.2.1 (by decide)), zq_tk hc hk h7, hTk, if_pos (by decide)]
    · show f_X12_readStones_2_b (f_X12_readStones_2 w) (nI n) D = _
      unfold f_X12_readStones_2_b
      rw [cl_s w18, if_neg (show ¬ tkC tx len m k = 10018 by omega), if_pos rfl, if_pos ((zq_t3 (zq_tok hA hk)).2.2.2.1.mp hTk)]
  | succ d ih =>
    intro u w k n C D hd hk hc h7 hD hA hr hu hw
    obtain ⟨u, rfl⟩ : ∃ i, u = i + 1 := ⟨u - 1, by omega⟩
    obtain ⟨w, rfl⟩ : ∃ i, w = i + 1 := ⟨w - 1, by omega⟩
    have w18 : f_X12_isWord 18 D = some (if tkC tx len m k = 10018 then 1 else 0, D) := zq_wd (w := 18) hA hk (by decide)
    have t3 := (zq_t3 (zq_tok hA hk)).2.2.2.1
    obtain ⟨hr1, hr2, hr3⟩ := hr
    show zq_jo _ 153 32 C D (f_X6_readsRound_10_b (f_X6_readsRound_10 u) (nI n) C) (f_X12_readStones_2_b (f_X12_readStones_2 w) (nI n) D) zq_rr
    unfold f_X6_readsRound_10_b f_X12_readStones_2_b
    rw [if_neg (show ¬ (8 : Int32) < nI n from nI_nlt (a := 8) hr2 (by decide)), zq_tk hc hk h7, cl_s w18]
    obtain ⟨p1, p2, p3⟩ := zq_opn (c := 10018) hc hk h7 (by decide)
    by_cases q0 : tkC tx len m k = 30000
    · rw [if_pos (by rw [q0]; rfl), if_neg (show ¬ tkC tx len m k = 10018 by omega), if_pos rfl, if_pos (t3.mp q0)]
      exact Or.inr ⟨C, D, n, rfl, rfl, ⟨rfl, rfl⟩, fr_rf, zq_rf_rf, hr1, hr2, hr3⟩
    · have hlt : k < m := by
        rcases Nat.lt_or_ge k m with z | z
        · exact z
        · exact absurd (by rw [show k = m by omega]; exact zq_Tm) q0
      rw [if_neg (zq_nt (c := 30000) (v := 30000) hc hk (by decide) rfl q0), hr1]
      by_cases q1 : tkC tx len m k = 10018
      · rw [if_pos q1, if_neg (show ¬ (1 : Int32) = 0 by decide)]
        by_cases q2 : n = 8
        · rw [if_pos (show (8 : Int32) ≤ nI n by rw [q2]; decide), if_pos (show nI n = 8 by rw [q2]; rfl)]
          unfold f_X6_readsRound_54
          rw [cl_s (show f_X6_opensLine 10018 0 C = _ from p1 q1), if_pos rfl, cl_s (zq_er hA)]
          exact Or.inl ⟨_, _, rfl, rfl, by rw [ms_at (by decide), ms_it, ms_at (by decide), ms_it], by rw [ms_it, ms_it], fr_ms (fr_ms fr_rf (by decide)) (by decide), zq_rf_e (by decide)⟩
        · rw [if_neg (show ¬ (8 : Int32) ≤ nI n from nI_ge (b := 8) (by omega) (by decide)), if_neg (zq_nq (c := 8) (v := 8) (by omega) (by decide) rfl q2)]
          unfold f_X6_readsRound_54
          rw [cl_s (show f_X6_opensLine 10018 1 C = _ from p2 q1), if_neg (show ¬ (1 : Int32) = 0 by decide), show (32 : Int32) + 4 * nI n = nI (32 + 4 * n) by rw [show (4 : Int32) * nI n = nI (4 * n) from pk_mul 4 n]; exact nI_add 32 _]
          have hg : zq_g tx len m 153 32 C D C D k := ⟨hk, hc, h7, hD, hA, fr_rf, ⟨rfl, rfl⟩, zq_rf_rf⟩
          rcases zq_stone (n := n) hg q1 (by omega) with ⟨Ce, De, a1, a2, a3⟩ | ⟨pa, hh, ri, fo, C1, D1, k1, a0, a1, a2, a3, a4, a5, a6⟩
          · rw [cl_s a1, if_pos rfl, cl_s a2, if_pos rfl]
            exact Or.inl ⟨Ce, De, rfl, rfl, a3.1, a3.2.1, fr_sub a3.2.2.1 (by decide), a3.2.2.2⟩
          · obtain ⟨b1, b2, b3, b4, b5, b6, b7, b8⟩ := a4
            have h107 : C1 107 0 = nI n := by rw [b6 107 (by decide)]; exact hr1
            obtain ⟨C2, e2⟩ : ∃ C2 : IM, C2 = ms (ms (ms (ms (ms C1 108 n (nI pa)) 109 n (nI hh)) 110 n (nI ri)) 111 n (nI fo)) 107 0 (nI (n + 1)) := ⟨_, rfl⟩
            have ep : f_X7_put 107 (nI pa) (nI hh) (nI ri) (nI fo) C1 = some (0, C2) := by
              unfold f_X7_put
              rw [h107, wrK (j := n) rfl (by omega) (by decide), ms_ne (by decide), h107, wrK (j := n) rfl (by omega) (by decide), ms_ne (by decide), ms_ne (by decide), h107, wrK (j := n) rfl (by omega) (by decide), ms_ne (by decide), ms_ne (by decide), ms_ne (by decide), h107, wrK (j := n) rfl (by omega) (by decide)]
              simp only [pt]
              rw [ms_ne (by decide), ms_ne (by decide), ms_ne (by decide), ms_ne (by decide), h107, nI_1, ← e2]
            have f2 : fr [100, 107, 108, 109, 110, 111] C C2 := by
              rw [e2]
              exact fr_ms (fr_ms (fr_ms (fr_ms (fr_ms (fr_sub b6 (by decide)) (by decide)) (by decide)) (by decide)) (by decide)) (by decide)
            have r100 : C2 100 = C1 100 := by rw [e2, ms_ne (by decide), ms_ne (by decide), ms_ne (by decide), ms_ne (by decide), ms_ne (by decide)]
            have c2 : zq_ct C2 (tkC tx len m) (pl tx len) m := by
              refine ⟨hc.1, hc.2.1, fun j hj => ?_⟩
              rw [f2 117 (by decide), f2 118 (by decide)]
              exact hc.2.2 j hj
            have rr2 : zq_rr C2 D1 (n + 1) := by
              have s8 : ∀ j : Nat, C2 108 j = if j = n then nI pa else C 108 j := fun j => by
                rw [e2, ms_ne (by decide), ms_ne (by decide), ms_ne (by decide), ms_ne (by decide)]
                by_cases z : j = n
                · rw [if_pos z, z, ms_it]
                · rw [if_neg z, ms_at z, b6 108 (by decide)]
              have s9 : ∀ j : Nat, C2 109 j = if j = n then nI hh else C 109 j := fun j => by
                rw [e2, ms_ne (by decide), ms_ne (by decide), ms_ne (by decide)]
                by_cases z : j = n
                · rw [if_pos z, z, ms_it]
                · rw [if_neg z, ms_at z, ms_ne (by decide), b6 109 (by decide)]
              have s10 : ∀ j : Nat, C2 110 j = if j = n then nI ri else C 110 j := fun j => by
                rw [e2, ms_ne (by decide), ms_ne (by decide)]
                by_cases z : j = n
                · rw [if_pos z, z, ms_it]
                · rw [if_neg z, ms_at z, ms_ne (by decide), ms_ne (by decide), b6 110 (by decide)]
              have s11 : ∀ j : Nat, C2 111 j = if j = n then nI fo else C 111 j := fun j => by
                rw [e2, ms_ne (by decide)]
                by_cases z : j = n
                · rw [if_pos z, z, ms_it]
                · rw [if_neg z, ms_at z, ms_ne (by decide), ms_ne (by decide), ms_ne (by decide), b6 111 (by decide)]
              refine ⟨by rw [e2, ms_it], by omega, fun j hj => ?_⟩
              rw [s8, s9, s10, s11]
              by_cases z : j = n
              · rw [if_pos z, if_pos z, if_pos z, if_pos z, z]
                refine ⟨a5, bnd_n (by omega) (by omega) (by omega), bnd_n (by omega) (by omega) (by omega), ?_, bnd_n (by omega) (by omega) (by omega)⟩
                rw [nI_toInt (by omega)]
                exact bnd_n (by omega) (by omega) (by omega)
              · rw [if_neg z, if_neg z, if_neg z, if_neg z, a6 _ (by omega), a6 _ (by omega), a6 _ (by omega), a6 _ (by omega)]
                exact hr3 j (by omega)
            rw [a2, cl_s ep, cl_s rfl, if_neg (by decide), cl_s a3, if_neg (by decide)]
            simp only [lt]
            rw [nI_1]
            rcases ih u w k1 (n + 1) C2 D1 (by omega) b1 c2 (by rw [r100]; exact b3) b4 b5 rr2 (by omega) (by omega) with ⟨Ce, De, x1, x2, x3, x4, x5, x6⟩ | ⟨C3, D3, n3, x1, x2, x3, x4, x5, x6⟩
            · exact Or.inl ⟨Ce, De, x1, x2, x3, x4, fr_tr f2 x5, zq_rf_tr b8 x6⟩
            · exact Or.inr ⟨C3, D3, n3, x1, x2, ⟨by rw [x3.1, r100]; exact b7.1, by rw [x3.2, r100]; exact b7.2⟩, fr_tr f2 x4, zq_rf_tr b8 x5, x6⟩
      · have e54 : ∀ y : Int32, f_X6_readsRound_54 (f_X6_readsRound_10 u) (nI n) 10018 y C = some (0, ms (ms C 100 0 1) 100 1 (nI (pl tx len k))) := fun y => by
          unfold f_X6_readsRound_54
          rw [cl_s (show f_X6_opensLine 10018 y C = _ from p3 q1 y), if_pos rfl]
        rw [if_neg q1, if_pos rfl, if_neg (fun z => q0 (t3.mpr z)), cl_s (zq_er hA), e54, e54]
        refine Or.inl ⟨ms (ms C 100 0 1) 100 1 (nI (pl tx len k)), _, ?_, rfl, by rw [ms_at (by decide), ms_it, ms_at (by decide), ms_it], by rw [ms_it, ms_it], fr_ms (fr_ms fr_rf (by decide)) (by decide), zq_rf_e (by decide)⟩
        split <;> rfl
end ROUNDS
