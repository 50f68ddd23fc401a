set_option maxRecDepth 100000 in
set_option maxHeartbeats 8000000 in
/-- the law, out of what its function answers -/
theorem whole_of {p : Program} {e : Env} {s : State} {m : MethodId} {below : List Frame} {meth : Method} {c : Code} (l : Launch) {b L : Nat} {xs : Nat → Int32} (hf : ∃ M, f_L_law xs L M0 = some (1, M)) (C0 : lw_At p s m meth c b L xs) : W p l e room_1 s m #[Value.ref b] below meth c s.heap [] 0 0 (lw_Z below #[Value.ref b] s) (entryFrame m ([Value.ref b] : List Value).toArray 4) := by
  obtain ⟨hx, hb, hr, hml, hown, htl, hX, hbl, hlocks, hgv⟩ := C0
  obtain ⟨g, g1, g2, g3, g4, g5, hU⟩ := ie_start l htl hX hbl hgv
  obtain ⟨M, hM⟩ := hf
  subst g1
  have hM : f_L_law (gx g) (gL g) M0 = some (1, M) := by rw [g4, g5]; exact hM
  have hV := law_head (g := g) hM (fun a r a1 S1 M1 hq => hq.1)
  rw [lg_entry_eq]
  have hl := lv_entry ([.ref b]) (n := 4) (Nat.le_of_ble_eq_true rfl)
  refine hV p e room_1 s m #[Value.ref b] below meth c _ ⟨hx, hb, hml, hown, fun w h => htl w (List.mem_filter.mp h).1, hU, ⟨by decide, by decide, by decide, by decide⟩, ?_⟩ ?_ s.heap [] _ ⟨fun k q h => by simp [ie_ws] at h, ⟨fun i j p q h => by simp [ie_ws] at h, fun k q h => by simp [ie_ws] at h⟩⟩ ?_ va_S.rf
  · exact fun h => absurd h (by decide)
  · intro r a S M H locs ls pc ce sl hQ hP hS h1 h2 hd
    have hr1 : r = some (.int 1) := hQ
    subst hr1
    rcases hd with ⟨h, -⟩ | ⟨x, ty, hh, hty, hn, hd⟩
    · cases h
    · refine va_forget (fun q hq => by have := hS.2.2 q hq; rw [← g2]; exact this) ?_
      refine W.widen (k := 600000) (n := 7302249) h1 h2 ?_
      exact lw_ret hx hb hr hlocks hd
  · refine ⟨hl.1, hl.2.1, fun i v hi => ?_⟩
    match i, hi with
    | 0, hi =>
      cases hi
      rw [g3]
      exact ⟨hl.2.2 (0, .ref b) (List.mem_cons_self), rfl⟩
    | 1, hi => cases hi
    | 2, hi => cases hi
    | 3, hi => cases hi
    | i + 4, hi => simp at hi
