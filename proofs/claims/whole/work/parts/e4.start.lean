/-! THE START OF THE WHOLE -/
set_option maxRecDepth 100000 in
set_option maxHeartbeats 4000000 in
theorem whole_start {p : Program} {e : Env} {s : State} {m : MethodId} {below : List Frame} {meth : Method} {c : Code} (l : Launch) {b L : Nat} {xs : Nat → Int32} (hL : L ≤ 3072) (C0 : lw_At p s m meth c b L xs) : W p l e room_1 s m #[Value.ref b] below meth c s.heap [] 0 0 (lw_Z below #[Value.ref b] s) (entryFrame m ([Value.ref b] : List Value).toArray 4) := by
  obtain ⟨hx, hcode, hret, hml, hown, hts, hX, hbl, hlocks, hg⟩ := C0
  obtain ⟨w, hw, hK⟩ := start_KS hts hg
  have hl := lv_entry ([Value.ref b] : List Value) (n := 4) (Nat.le_of_ble_eq_true rfl)
  rw [lg_entry_eq]
  have C : CX ((p, l, e, room_1, s, m, #[Value.ref b], below, meth, c), 4, w, lw_Z below #[Value.ref b] s) cL_law 4 RL := ⟨hx, hcode, hml, hown, fun q hq => hts q (List.mem_filter.mp hq).1, hlocks, hK, rfl⟩
  have hW : LW ((p, l, e, room_1, s, m, #[Value.ref b], below, meth, c), 4, w, lw_Z below #[Value.ref b] s) b L xs := ⟨C, rfl, hX, hbl, fun q => by
    have q : wb w ≤ b := q
    have hbl : b < s.heap.size := hbl
    omega, hL⟩
  refine law_walk hW (fun c' s' sh R μ lv h1 h2 => ?_) s.heap [] ⟨by show s.heap.size = wb w + 0; omega, fun k e h => by cases h⟩ va_S.rf _ hl
  refine r_wide (mc := 600000) (ms := 7302250) ⟨h1, h2⟩ ?_
  refine r_iconst C dL_law_1741 ic_1 ?_
  intro H locs hH hS ls hls
  refine va_forget (fun q hq => ?_) ?_
  · have := hS.2.2 q hq
    have : wb w ≤ q.base := this
    show s.heap.size ≤ q.base
    omega
  · exact lw_ret hx hcode hret hlocks dL_law_1742
