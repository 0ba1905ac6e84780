/-! ===== the law, from its entry ===== -/
theorem Rel.frsh {B : Nat} {H0 : Heap} {D : va_G} {cy : Nat → ClassId} {cc cs : Nat} {G : Mem} {H : Heap} (h : Rel B H0 D cy cc cs G H) : Frsh G := fun b hb => by
  by_cases hz : mt G b = 0
  · exact hz
  · have h1 := h.lt hz
    have h2 : H.size = B + mz G := h.2.1
    omega
/-- the law's walk, where the start's invariant asks that nothing lies above -/
theorem law_runs2 {p : Program} {l : Launch} {e : Env} {s : State} {m9 : MethodId} {below : List Frame} {meth : Method} {c : Code} {b n : Nat} {xs : Nat → Int32} (hfl : l.stackTraces = false) (hn : n ≤ 3584) (C0 : lw_At p s m9 meth c b n xs)
    {D : va_G} {cy : Nat → ClassId} {sa ta sb : Nat → Nat} {fm : Option Nat} (hKW : KW (s.heap.size, s.heap, D, cy, sa, ta, 601024, 7293034, sb, fm) s)
    {x m o : Nat} {G1 : Mem} (hstart : fL_start G00 = some (x, m, o, G1)) (Inv : Nat → Mem → Prop) (h0 : Frsh G1 → Inv 0 G1)
    (step : ∀ (j : Nat) (G : Mem), 7 * j + 7 ≤ n → Inv j G → ∀ k : Nat, xs (7 * j) &&& 63 = Int32.ofNat k → wc k xs n x m o (Int32.ofNat (7 * j)) 601024 7293034 G (Inv (j + 1)))
    (skip : ∀ (j : Nat) (G : Mem), 7 * j + 7 ≤ n → Inv j G → Inv (j + 1) G) :
    W p l e room_1 s m9 #[Value.ref b] below meth c s.heap [] 0 0 (lw_Z below #[Value.ref b] s) (entryFrame m9 ([Value.ref b] : List Value).toArray 9) := by
  obtain ⟨hx, hb, hr, hml, hown, hts, hX, hbl, hlocks, hgv⟩ := C0
  have hR0 : Rel s.heap.size s.heap D cy 601024 7293034 G00 s.heap := by
    refine ⟨rfl, rfl, ?_, ⟨Nat.zero_le _, rfl⟩, ⟨Nat.zero_le _, rfl⟩, fun q _ => rfl, fun a ha => absurd rfl ha, fun a ha => by cases ha⟩
    unfold sums
    rw [List.drop_eq_nil_of_le (by simp)]
    rfl
  have hwt : ∀ w ∈ WT, w.before #[Value.ref b] s = true := fun w hw => hts w (List.mem_filter.mp hw).1
  let X : Cx := (p, l, e, room_1, s, m9, #[Value.ref b], below, meth, c, lw_Z below #[Value.ref b] s, (s.heap.size, s.heap, D, cy, sa, ta, 601024, 7293034, sb, fm), G00)
  have ok : OK X cL_law RL (some .boolean) 9 LFR LLO := ⟨hx, hb, hml, hown, hwt, hr, hlocks, rfl, hR0, hKW, trivial, hfl⟩
  have hscr : SC X b n xs := ⟨hX, hbl⟩
  have fin : ∀ G : Mem, J X 9 2481 [] [.int 1] G := by
    intro G H locs ls hR hcl hl
    refine w_fit ok fun hS => ?_
    obtain ⟨f1, f2⟩ := ok_fit ok hR hS
    have b3 : mz G ≤ 601024 := hR.2.2.2.1.1
    have b4 : ml G ≤ 7293034 := hR.2.2.2.2.1.1
    have f3 : H.size - s.heap.size + (601024 - mz G) = 601024 - 0 := f1
    have f4 : sums s.heap.size H + (7293034 - ml G) = 7293034 - 0 := f2
    refine va_forget hcl ?_
    show W p l e room_1 s m9 #[Value.ref b] below meth c H [] (H.size - s.heap.size) (sums s.heap.size H) (lw_Z below #[Value.ref b] s) (F0 m9 2481 ls [.int 1])
    refine W.widen (k := 601024) (n := 7293034) (by omega) (by omega) ?_
    exact W.base (lw_ret (Drawn.sameBut.refl s.drawn lw_cs) hx hb hr hlocks dL_law_2481)
  have loop : J X 9 23 [(0, .ref b), (1, .ref (X.B + x)), (2, .ref (X.B + m)), (3, .ref (X.B + o)), (4, .int (Int32.ofNat (7 * 0)))] [] G1 := fun H locs ls hR hcl hl =>
    jl_loop ok rfl rfl hscr hn Inv step skip fin 512 0 G1 (by omega) (by omega) (h0 (Rel.frsh hR)) H locs ls hR hcl hl
  have main := jl_start ok hstart loop
  rw [lg_entry_eq]
  have e1 : s.heap.size - s.heap.size = 0 := Nat.sub_self _
  have e2 : sums s.heap.size s.heap = 0 := by
    unfold sums
    rw [List.drop_eq_nil_of_le (by simp)]
    rfl
  have h := main s.heap [] ((lg_sl [.ref b] ++ List.replicate (9 - (lg_sl [.ref b]).length) Slot.unset).toArray) hR0 (fun q hq => by cases hq) (lv_entry [.ref b] (Nat.le_of_ble_eq_true rfl))
  have h' : W p l e room_1 s m9 #[Value.ref b] below meth c s.heap [] (s.heap.size - s.heap.size) (sums s.heap.size s.heap) _ _ := h
  rw [e1, e2] at h'
  exact h'
theorem fl_notrace {l : Launch} (h : l.flags = flags0) : l.stackTraces = false := by
  unfold Launch.stackTraces
  rw [h]
  decide +kernel
theorem inv_skip (j : Nat) (G : Mem) (hI : Inv j G) : Inv (j + 1) G := by
  obtain ⟨hM, W, hC, hR⟩ := hI
  exact ⟨hM, W, hC.le (by omega), hR⟩
theorem whole_start {p : Program} {e : Env} {s : State} {m : MethodId} {below : List Frame} {meth : Method} {c : Code} (l : Launch) (hflags : l.flags = flags0) {b L : Nat} {xs : Nat → Int32} (hL : L ≤ 3584) (C0 : lw_At p s m meth c b L xs) : W p l e room_1 s m #[Value.ref b] below meth c s.heap [] 0 0 (lw_Z below #[Value.ref b] s) (entryFrame m ([Value.ref b] : List Value).toArray 9) := by
  obtain ⟨D, cy, sa, ta, sb, fm, hKW⟩ := kw_start C0.2.2.2.2.2.1 C0.2.2.2.2.2.2.2.2.2
  exact law_runs2 (fl_notrace hflags) hL C0 hKW start_some Inv G1_inv (fun j G hj hI k hk => wcp hL hj hI k hk) (fun j G _ hI => inv_skip j G hI)
