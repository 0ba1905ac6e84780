/-! ===== the law, from its entry ===== -/
theorem fl_notrace {l : Launch} (h : l.flags = flags0) : l.stackTraces = false := by
  unfold Launch.stackTraces
  rw [h]
  decide +kernel
theorem whole_start {p : Program} {e : Env} {s : State} {m : MethodId} {below : List Frame} {meth : Method} {c : Code} (l : Launch) (hflags : l.flags = flags0) {b L : Nat} {xs : Nat → Int32} (hL : L ≤ 260) (C0 : lw_At p s m meth c b L xs) : W p l e room_1 s m #[Value.ref b] below meth c s.heap [] 0 0 (lw_Z below #[Value.ref b] s) (entryFrame m ([Value.ref b] : List Value).toArray 8) := by
  obtain ⟨D, cy, ta, sb, fm, hKW⟩ := kw_start C0.2.2.2.2.2.1 C0.2.2.2.2.2.2.2.2.2
  obtain ⟨hx, hb, hr, hml, hown, hts, hX, hbl, hlocks, hgv⟩ := C0
  have hR0 : Rel s.heap.size s.heap D cy 600074 7301550 G00 s.heap := by
    refine ⟨rfl, rfl, ?_, ⟨Nat.zero_le _, rfl⟩, ⟨Nat.zero_le _, rfl⟩, fun q _ => rfl, fun a ha => absurd rfl ha, fun a ha => by cases ha⟩
    unfold sums
    rw [List.drop_eq_nil_of_le (by simp)]
    rfl
  have hwt : ∀ w ∈ WT, w.before #[Value.ref b] s = true := wt_start hts
  let X : Cx := (p, l, e, room_1, s, m, #[Value.ref b], below, meth, c, lw_Z below #[Value.ref b] s, (s.heap.size, s.heap, D, cy, ta, ta, 600074, 7301550, sb, fm), G00)
  have ok : OK X cL_law RL (some .boolean) 8 LFR LLO := ⟨hx, hb, hml, hown, hwt, hr, hlocks, rfl, hR0, hKW, trivial, fl_notrace hflags⟩
  have hscr : SC X b L xs := ⟨hX, hbl⟩
  have fin : ∀ G : Mem, J X 8 325 [] [.int 1] G := by
    intro G H locs ls hR hcl hl
    refine w_fit ok fun hS => ?_
    obtain ⟨f1, f2⟩ := ok_fit ok hR hS
    have b3 : mz G ≤ 600074 := hR.2.2.2.1.1
    have b4 : ml G ≤ 7301550 := hR.2.2.2.2.1.1
    have f3 : H.size - s.heap.size + (600074 - mz G) = 600074 - 0 := f1
    have f4 : sums s.heap.size H + (7301550 - ml G) = 7301550 - 0 := f2
    refine va_forget hcl ?_
    show W p l e room_1 s m #[Value.ref b] below meth c H [] (H.size - s.heap.size) (sums s.heap.size H) (lw_Z below #[Value.ref b] s) (F0 m 325 ls [.int 1])
    refine W.widen (k := 600074) (n := 7301550) (by omega) (by omega) ?_
    exact lw_ret hx hb hr hlocks dL_law_325
  have main := lw_head ok hL hscr rfl rfl rfl fin
  rw [lg_entry_eq]
  have e1 : s.heap.size - s.heap.size = 0 := Nat.sub_self _
  have e2 : sums s.heap.size s.heap = 0 := by
    unfold sums
    rw [List.drop_eq_nil_of_le (by simp)]
    rfl
  have h := main s.heap [] ((lg_sl [.ref b] ++ List.replicate (8 - (lg_sl [.ref b]).length) Slot.unset).toArray) hR0 (fun q hq => by cases hq) (lv_entry [.ref b] (Nat.le_of_ble_eq_true rfl))
  have h' : W p l e room_1 s m #[Value.ref b] below meth c s.heap [] (s.heap.size - s.heap.size) (sums s.heap.size s.heap) _ _ := h
  rw [e1, e2] at h'
  exact h'
