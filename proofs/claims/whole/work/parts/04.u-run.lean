/-! ===== the law's loop, out of an invariant ===== -/
theorem jl_loop {X : Cx} (ok : OK X cL_law RL (some .boolean) 9 LFR LLO) {b n x m o : Nat} {xs : Nat → Int32} {c1 c2 : Nat} (hcc : X.V.cc = c1) (hcs : X.V.cs = c2) (hscr : SC X b n xs) (hn : n ≤ 3584) (Inv : Nat → Mem → Prop)
    (step : ∀ (j : Nat) (G : Mem), 7 * j + 7 ≤ n → Inv j G → ∀ k : Nat, xs (7 * j) &&& 63 = Int32.ofNat k → wc k xs n x m o (Int32.ofNat (7 * j)) c1 c2 G (Inv (j + 1)))
    (skip : ∀ (j : Nat) (G : Mem), 7 * j + 7 ≤ n → Inv j G → Inv (j + 1) G) (fin : ∀ G : Mem, J X 9 2481 [] [.int 1] G) :
    ∀ (d j : Nat) (G : Mem), n ≤ 7 * j + 7 * d → 7 * j ≤ 3584 → Inv j G → J X 9 23 [(0, .ref b), (1, .ref (X.B + x)), (2, .ref (X.B + m)), (3, .ref (X.B + o)), (4, .int (Int32.ofNat (7 * j)))] [] G := by
  intro d
  induction d with
  | zero =>
    intro j G hd hj hI
    refine j_iload ok dL_law_23 4 rfl ?_
    refine j_aload_n ok dL_law_25 rfl 0 rfl ?_
    refine j_sclen ok hscr dL_law_26 ?_
    refine j_bipush (v := 7) ok dL_law_27 (by decide) ?_
    refine j_isub ok dL_law_29 ?_
    have hlt : Int32.ofNat n - 7 < Int32.ofNat (7 * j) := by
      rw [Int32.lt_iff_toInt_lt, Int32.toInt_sub, Int32.toInt_ofNat_of_lt (by omega), Int32.toInt_ofNat_of_lt (by omega), show (7 : Int32).toInt = 7 from by decide]
      rw [Int.bmod_eq_of_le (by omega) (by omega)]
      omega
    refine j_icmp_gt (tgt := 2480) ok dL_law_30 (by decide) (fun _ => ?_) (fun z => absurd hlt z)
    refine j_iconst (v := 1) ok dL_law_2480 (by decide) ?_
    exact J.sub [] rfl (fin G)
  | succ d ih =>
    intro j G hd hj hI
    refine j_iload ok dL_law_23 4 rfl ?_
    refine j_aload_n ok dL_law_25 rfl 0 rfl ?_
    refine j_sclen ok hscr dL_law_26 ?_
    refine j_bipush (v := 7) ok dL_law_27 (by decide) ?_
    refine j_isub ok dL_law_29 ?_
    have hcmp : (Int32.ofNat n - 7 < Int32.ofNat (7 * j)) ↔ n < 7 * j + 7 := by
      rw [Int32.lt_iff_toInt_lt, Int32.toInt_sub, Int32.toInt_ofNat_of_lt (by omega), Int32.toInt_ofNat_of_lt (by omega), show (7 : Int32).toInt = 7 from by decide]
      rw [Int.bmod_eq_of_le (by omega) (by omega)]
      omega
    refine j_icmp_gt (tgt := 2480) ok dL_law_30 (by decide) (fun _ => ?_) (fun z => ?_)
    · refine j_iconst (v := 1) ok dL_law_2480 (by decide) ?_
      exact J.sub [] rfl (fin G)
    · have hle : 7 * j + 7 ≤ n := by
        rw [hcmp] at z; omega
      refine j_aload_n ok dL_law_33 rfl 0 rfl ?_
      refine j_iload ok dL_law_34 4 rfl ?_
      have hin : inb (Int32.ofNat (7 * j)) n := by
        unfold inb; rw [Int32.toInt_ofNat_of_lt (by omega)]; omega
      refine j_scr ok hscr hin dL_law_36 ?_
      rw [Int32.toNatClampNeg_ofNat_of_lt (by omega)]
      refine j_bipush (v := 63) ok dL_law_37 (by decide) ?_
      refine j_iand ok dL_law_39 ?_
      refine jl_switch ok hcc hcs hscr G (Inv (j + 1)) (fun G' hG' => ?_) (fun {k} hk => step j G hle hI k hk) (skip j G hle hI)
      have hv : Int32.ofNat (7 * j) + 7 = Int32.ofNat (7 * (j + 1)) := by
        rw [show 7 * (j + 1) = 7 * j + 7 by omega, Int32.ofNat_add]; rfl
      refine j_iinc (L' := [(4, .int (Int32.ofNat (7 * (j + 1)))), (0, .ref b), (1, .ref (X.B + x)), (2, .ref (X.B + m)), (3, .ref (X.B + o))]) (v := Int32.ofNat (7 * (j + 1))) ok dL_law_2474 (q := 4) rfl hv (by decide) rfl ?_
      refine j_goto (tgt := 23) ok dL_law_2477 (by decide) ?_
      exact J.sub [1, 2, 3, 4, 0] rfl (ih (j + 1) G' (by omega) (by omega) hG')
/-- the empty memory -/
def G00 : Mem := (0, 0, fun _ => 0, fun _ => 0, fun _ _ => 0, fun _ _ => 0, fun _ _ => none, 601024, 7293034)
/-- the law's walk, out of what the memory's functions do -/
theorem law_runs {p : Program} {l : Launch} {e : Env} {s : State} {m9 : MethodId} {below : List Frame} {meth : Method} {c : Code} {b n : Nat} {xs : Nat → Int32} (hfl : l.stackTraces = false) (hn : n ≤ 3584) (C0 : lw_At p s m9 meth c b n xs)
    {D : va_G} {cy : Nat → ClassId} {sa ta sb : Nat → Nat} {fm : Option Nat} (hKW : KW (s.heap.size, s.heap, D, cy, sa, ta, 601024, 7293034, sb, fm) s)
    {x m o : Nat} {G1 : Mem} (hstart : fL_start G00 = some (x, m, o, G1)) (Inv : Nat → Mem → Prop) (h0 : Inv 0 G1)
    (step : ∀ (j : Nat) (G : Mem), 7 * j + 7 ≤ n → Inv j G → ∀ k : Nat, xs (7 * j) &&& 63 = Int32.ofNat k → wc k xs n x m o (Int32.ofNat (7 * j)) 601024 7293034 G (Inv (j + 1)))
    (skip : ∀ (j : Nat) (G : Mem), 7 * j + 7 ≤ n → Inv j G → Inv (j + 1) G) :
    W p l e room_1 s m9 #[Value.ref b] below meth c s.heap [] 0 0 (lw_Z below #[Value.ref b] s) (entryFrame m9 ([Value.ref b] : List Value).toArray 9) := by
  obtain ⟨hx, hb, hr, hml, hown, hts, hX, hbl, hlocks, hgv⟩ := C0
  have hR0 : Rel s.heap.size s.heap D cy 601024 7293034 G00 s.heap := by
    refine ⟨rfl, rfl, ?_, ⟨Nat.zero_le _, rfl⟩, ⟨Nat.zero_le _, rfl⟩, fun q _ => rfl, fun a ha => absurd rfl ha, fun a ha => by cases ha⟩
    unfold sums
    rw [List.drop_eq_nil_of_le (by simp)]
    rfl
  have hwt : ∀ w ∈ WT, w.before #[Value.ref b] s = true := fun w hw => hts w (List.mem_filter.mp hw).1
  let X : Cx := (p, l, e, room_1, s, m9, #[Value.ref b], below, meth, c, lw_Z below #[Value.ref b] s, (s.heap.size, s.heap, D, cy, sa, ta, 601024, 7293034, sb, fm), G00)
  have ok : OK X cL_law RL (some .boolean) 9 LFR LLO := ⟨hx, hb, hml, hown, hwt, hr, hlocks, rfl, hR0, hKW, trivial, hfl⟩
  have hscr : SC X b n xs := ⟨hX, hbl⟩
  have fin : ∀ G : Mem, J X 9 2481 [] [.int 1] G := by
    intro G H locs ls hR hcl hl
    refine w_fit ok fun hS => ?_
    obtain ⟨f1, f2⟩ := ok_fit ok hR hS
    have b3 : mz G ≤ 601024 := hR.2.2.2.1.1
    have b4 : ml G ≤ 7293034 := hR.2.2.2.2.1.1
    have f3 : H.size - s.heap.size + (601024 - mz G) = 601024 - 0 := f1
    have f4 : sums s.heap.size H + (7293034 - ml G) = 7293034 - 0 := f2
    refine va_forget hcl ?_
    show W p l e room_1 s m9 #[Value.ref b] below meth c H [] (H.size - s.heap.size) (sums s.heap.size H) (lw_Z below #[Value.ref b] s) (F0 m9 2481 ls [.int 1])
    refine W.widen (k := 601024) (n := 7293034) (by omega) (by omega) ?_
    exact W.base (lw_ret (Drawn.sameBut.refl s.drawn lw_cs) hx hb hr hlocks dL_law_2481)
  have main := jl_start ok hstart (jl_loop ok rfl rfl hscr hn Inv step skip fin 512 0 G1 (by omega) (by omega) h0)
  rw [lg_entry_eq]
  have e1 : s.heap.size - s.heap.size = 0 := Nat.sub_self _
  have e2 : sums s.heap.size s.heap = 0 := by
    unfold sums
    rw [List.drop_eq_nil_of_le (by simp)]
    rfl
  have h := main s.heap [] ((lg_sl [.ref b] ++ List.replicate (9 - (lg_sl [.ref b]).length) Slot.unset).toArray) hR0 (fun q hq => by cases hq) (lv_entry [.ref b] (Nat.le_of_ble_eq_true rfl))
  have h' : W p l e room_1 s m9 #[Value.ref b] below meth c s.heap [] (s.heap.size - s.heap.size) (sums s.heap.size s.heap) _ _ := h
  rw [e1, e2] at h'
  exact h'
