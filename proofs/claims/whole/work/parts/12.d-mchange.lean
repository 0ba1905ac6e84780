/-! ===== the reference's public methods: changes ===== -/
section MCHANGE
variable {G : Mem} {W : WSt} {x x' : Nat → Nat → Int32} {y y' : Nat → Nat → Int64} {hs : Nat → Int32}
theorem RQ.state (hR : RQ x y W) {A : ASt} {l : List ASt} (hA : MRa x' y' 265 A) (hK : KRep x' 265 l) (hc : ∀ j, j ≠ 5 → j ≠ 6 → x' 265 j = x 265 j) (hx : ∀ b, b = 268 ∨ b = 270 ∨ b = 271 ∨ b = 272 → x' b = x b) : RQ x' y' (A, l, W.2.2) := by
  obtain ⟨-, -, s1, t1, e1, o1⟩ := hR
  refine ⟨hA, hK, fun j hj => ⟨by rw [hx 270 (by omega)]; exact (s1 j hj).1, fun A hA => ⟨((s1 j hj).2 A hA).1.same (hx 268 (by omega)), ((s1 j hj).2 A hA).2⟩⟩, t1.frame (hc 9 (by decide) (by decide)) (hx 271 (by omega)), ?_, ?_⟩
  · rw [hc 11 (by decide) (by decide), hc 12 (by decide) (by decide)]; exact e1
  · rw [hc 10 (by decide) (by decide), hx 272 (by omega)]; exact o1
theorem RQ.text (hR : RQ x y W) {T : Nat → Nat} {L : Nat} (hb : RBy x' 265 T L) (hc : ∀ j, j ≠ 6 → j ≠ 9 → x' 265 j = x 265 j) (hx : ∀ b, b ≠ 265 → b ≠ 271 → x' b = x b) : RQ x' y (W.1, W.2.1, W.2.2.1, (T, L), W.2.2.2.2) := by
  obtain ⟨⟨h1, h2, h3⟩, k1, s1, -, e1, o1⟩ := hR
  refine ⟨⟨h1.frame (hx _ (by decide) (by decide)), h2.same (hx _ (by decide) (by decide)) (hx _ (by decide) (by decide)) (hx _ (by decide) (by decide)) (hx _ (by decide) (by decide)) rfl, h3⟩, k1.same (hc 5 (by decide) (by decide)) (hx _ (by decide) (by decide)), fun j hj => ⟨by rw [hx 270 (by decide) (by decide)]; exact (s1 j hj).1, fun A hA => ⟨((s1 j hj).2 A hA).1.same (hx _ (by decide) (by decide)), ((s1 j hj).2 A hA).2⟩⟩, hb, ?_, ?_⟩
  · rw [hc 11 (by decide) (by decide), hc 12 (by decide) (by decide)]; exact e1
  · rw [hc 10 (by decide) (by decide), hx 272 (by decide) (by decide)]; exact o1
theorem mtrunc_ok (h : MSh G 265) (hR : RQ x y W) {z : Int32} (h0 : hs 0 = nW 1) : MOut G x y (fX7_truncateInput 265 z (wIJ G x y)) (oTrunc W z) hs := by
  have hL := hR.2.2.2.1.1
  have t1 := hR.2.2.2.1
  have ii : fX7_isIn z (nW 0) (nW W.2.2.2.1.2) (wIJ G x y) = some (bI (ixZ z (W.2.2.2.1.2 + 1)).isSome, wIJ G x y) := by
    have := isIn_ix (n := W.2.2.2.1.2 + 1) (z := z) (G := wIJ G x y) (by omega)
    rw [nW_sub (by omega), Nat.add_sub_cancel] at this; exact this
  unfold fX7_truncateInput fX7_truncateInput_0 fX7_truncateInput_18 oTrunc
  simp only [lits]
  rw [gF_wij h.t, t1.2.1, Option.bind_some, ii, Option.bind_some]
  rcases ixZ_spec (z := z) (show W.2.2.2.1.2 + 1 < 2147483648 by omega) with ⟨j, e1, e2, rfl, -, -⟩ | ⟨e1, -, -⟩
  · rw [e1, if_neg (show ¬ bI (some j).isSome = nW 0 from bIt), ck_wij, ck_ok h.t, failsF h, Option.bind_some, if_pos (show nW 0 = nW 0 from rfl), pI_wij h.t, Option.bind_some]
    refine MOut.mk' (MFm.u2.trans MFm.u2) (hR.text ⟨by omega, u2_same, fun i hi => ?_⟩ (fun k q1 q2 => ?_) (fun b q1 q2 => ?_)) ?_
    · rw [u2_apart (by decide), u2_apart (by decide)]; exact t1.2.2 i (by omega)
    · rw [u2_other (by omega), u2_other (by omega)]
    · rw [u2_arow q1, u2_arow q1]
    · rw [u2_other (by decide), u2_same]
  · rw [e1, if_pos (show bI (none : Option Nat).isSome = nW 0 from rfl), ck_wij, ck_ok h.t, failsT h, Option.bind_some, if_neg (show ¬ nW 1 = nW 0 by decide)]
    exact MOut.bad hR h0
theorem MSh.g8 (h : MSh G 265) : gR G 17 265 8 = some (265 + 7) := gR_ok h.1.1 h.1.2.2.2.2.2.2.2.1
theorem MSh.r7 (h : MSh G 265) : RW G 1 (265 + 7) 60 := h.2.2.2.2.2.2.2.1
theorem MSh.g2 (h : MSh G 265) : gR G 17 265 2 = some (265 + 3) := gR_ok h.1.1 h.1.2.2.2.1
theorem MSh.r2 (h : MSh G 265) : RW G 1 (265 + 3) 218 := h.2.2.2.1
theorem MSh.g4 (h : MSh G 265) : gR G 17 265 4 = some (265 + 5) := gR_ok h.1.1 h.1.2.2.2.2.2.1
theorem MSh.r4 (h : MSh G 265) : RW G 3 (265 + 5) 2 := h.2.2.2.2.2.1
theorem mbyte_ok (h : MSh G 265) (hR : RQ x y W) (hO : W.2.2.2.2.2.2 ≤ 41) {z : Int32} : MOu G x y (fX7_outputByte 265 z (wIJ G x y)) (oByte W z) := by
  have o1 := hR.2.2.2.2.2
  unfold fX7_outputByte fX7_outputByte_0 fX7_outputByte_29 oByte
  simp only [lits]
  rw [pI_wij h.t, Option.bind_some, gF_wij h.t, u2_other (by decide), o1.1, Option.bind_some, isIn_ix (by omega), Option.bind_some]
  rcases ixZ_spec (z := z) (show W.2.2.2.2.2.2 < 2147483648 by omega) with ⟨i, e1, e2, rfl, -, -⟩ | ⟨e1, -, -⟩
  · have g : gA (wIJ G (u2 x 265 6 (nW 0)) y) 1 (265 + 7) (nW i) = some (nW (W.2.2.2.2.2.1 i)) := by
      rw [h.r7.rd (by omega) (by decide), u2_apart (by decide)]
      exact congrArg some (o1.2 i e2)
    rw [e1, if_neg (show ¬ bI (some i).isSome = nW 0 from bIt), gR_wij, h.g8, Option.bind_some, g, Option.bind_some]
    exact MOu.six hR
  · rw [e1, if_pos (show bI (none : Option Nat).isSome = nW 0 from rfl)]
    exact MOu.six hR
theorem mfour_ok (h : MSh G 265) {T : Nat → Nat} {L : Nat} (hb : RBy x 265 T L) (hL : L + 4 ≤ 600) {v : Int32} : ∃ x', fX7_four 265 v (wIJ G x y) = some ((), wIJ G x' y) ∧ (∀ b j, ¬ (b = 265 ∧ j = 9) → b ≠ 271 → x' b j = x b j) ∧ RBy x' 265 (app4 T L v) (L + 4) := by
  obtain ⟨b1, b2, b3⟩ := hb
  let X : Nat → Nat → Nat → Int32 := fun k b j => if b = 265 ∧ j = 9 then nW (L + k) else if b = 271 ∧ (L ≤ j ∧ j < L + k) then nW (bv4 v (j - L)) else x b j
  have X0 : ∀ k, X k 265 9 = nW (L + k) := fun k => if_pos ⟨rfl, rfl⟩
  have Xo : ∀ k b j, ¬ (b = 265 ∧ j = 9) → b ≠ 271 → X k b j = x b j := fun k b j q1 q2 => by
    show (if _ then _ else if _ then _ else _) = _
    rw [if_neg q1, if_neg (fun z => q2 z.1)]
  have Xs : ∀ k, u2 (u2 (X k) (265 + 6) (L + k) (nW (bv4 v k))) 265 9 (nW (L + k + 1)) = X (k + 1) := fun k => by
    funext b j
    show _ = if b = 265 ∧ j = 9 then nW (L + (k + 1)) else if b = 271 ∧ (L ≤ j ∧ j < L + (k + 1)) then nW (bv4 v (j - L)) else x b j
    by_cases q : b = 265 ∧ j = 9
    · rw [if_pos q, q.1, q.2, u2_same]; rfl
    · rw [if_neg q, u2_other q]
      by_cases q2 : b = 271 ∧ j = L + k
      · rw [if_pos ⟨q2.1, by omega⟩, q2.1, q2.2, u2_same, show L + k - L = k by omega]
      · rw [u2_other (by omega)]
        show (if _ then _ else if _ then _ else _) = _
        rw [if_neg q]
        by_cases q3 : b = 271 ∧ (L ≤ j ∧ j < L + k)
        · rw [if_pos q3, if_pos ⟨q3.1, by omega⟩]
        · rw [if_neg q3, if_neg (by omega)]
  have E0 : X 0 = x := by
    funext b j
    show (if b = 265 ∧ j = 9 then nW (L + 0) else if b = 271 ∧ (L ≤ j ∧ j < L + 0) then _ else _) = _
    by_cases q : b = 265 ∧ j = 9
    · rw [if_pos q, q.1, q.2, b2]; rfl
    · rw [if_neg q, if_neg (by omega)]
  refine ⟨X 4, ?_, fun b j => Xo 4 b j, ⟨hL, X0 4, fun i hi => ?_⟩⟩
  · unfold fX7_four fX7_four_0
    simp only [lits]
    have lp := loop_to (f := fun (s : Int32) G => fX7_four_3 265 v s G) (fun k => if k < 4 then nW (24 - 8 * k) else -nW 8) (fun k => wIJ G (X k) y) 4 () (wIJ G (X 4) y) (fun k hk => by
      show fX7_four_3 265 v (if k < 4 then nW (24 - 8 * k) else -nW 8) (wIJ G (X k) y) = _
      rw [if_pos hk]
      unfold fX7_four_3
      simp only [lits]
      have nx : nW (24 - 8 * k) + (-nW 8) = if k + 1 < 4 then nW (24 - 8 * (k + 1)) else -nW 8 := by
        have : k = 0 ∨ k = 1 ∨ k = 2 ∨ k = 3 := by omega
        rcases this with rfl | rfl | rfl | rfl <;> decide
      rw [if_neg (nW_neg_lt (by omega)), gR_wij, h.g7, Option.bind_some, gF_wij h.t, X0, Option.bind_some, ← (bv4_ok v k).2, h.r6.wr (by omega) (by decide), Option.bind_some, gF_wij h.t, u2_apart (by decide), X0, Option.bind_some, nW_add, pI_wij h.t, Option.bind_some, nx, Xs]) (by
      show fX7_four_3 265 v (if 4 < 4 then _ else -nW 8) _ = _
      rw [if_neg (by decide)]
      unfold fX7_four_3 fX7_four_39
      simp only [lits]
      rw [if_pos (show -nW 8 < nW 0 by decide)]; rfl) 4 0 FU rfl (by decide)
    show loopM (fun (s : Int32) G => fX7_four_3 265 v s G) FU (nW 24) (wIJ G x y) = _
    rw [← E0]
    exact lp
  · show (if L ≤ i ∧ i < L + 4 then bv4 v (i - L) else T i) < 256 ∧ (if 271 = 265 ∧ i = 9 then _ else if 271 = 271 ∧ (L ≤ i ∧ i < L + 4) then nW (bv4 v (i - L)) else x 271 i) = nW (if L ≤ i ∧ i < L + 4 then bv4 v (i - L) else T i)
    rw [if_neg (show ¬ (271 = 265 ∧ i = 9) by omega)]
    by_cases q : L ≤ i ∧ i < L + 4
    · rw [if_pos q, if_pos ⟨rfl, q⟩]
      exact ⟨(bv4_ok v (i - L)).1, rfl⟩
    · rw [if_neg q, if_neg (fun z => q z.2)]
      exact b3 i (by omega)
theorem mapp_ok (h : MSh G 265) (hR : RQ x y W) {a b c e f : Int32} : MOu G x y (fX7_append 265 a b c e f (wIJ G x y)) (oApp W a b c e f) := by
  have t1 := hR.2.2.2.1
  have hL := t1.1
  have t1' : RBy (u2 x 265 6 (nW 0)) 265 W.2.2.2.1.1 W.2.2.2.1.2 := t1.frame (u2_other (by decide)) (u2_arow (by decide))
  unfold fX7_append fX7_append_0 oApp
  simp only [lits]
  rw [pI_wij h.t, Option.bind_some, gF_wij h.t, t1'.2.1, Option.bind_some, nW_add]
  by_cases q : 600 < W.2.2.2.1.2 + 20
  · rw [if_neg (by rw [nW_le (by omega) (by decide)]; omega), if_pos q]
    exact MOu.six hR
  · rw [if_pos ((nW_le (by omega) (by decide)).mpr (by omega)), if_neg q]
    obtain ⟨x1, p1, f1, c1⟩ := mfour_ok (y := y) (v := a) h t1' (by omega)
    obtain ⟨x2, p2, f2, c2⟩ := mfour_ok (y := y) (v := b) h c1 (by omega)
    obtain ⟨x3, p3, f3, c3⟩ := mfour_ok (y := y) (v := c) h c2 (by omega)
    obtain ⟨x4, p4, f4, c4⟩ := mfour_ok (y := y) (v := e) h c3 (by omega)
    obtain ⟨x5, p5, f5, c5⟩ := mfour_ok (y := y) (v := f) h c4 (by omega)
    have F : ∀ b j, ¬ (b = 265 ∧ j = 9) → b ≠ 271 → x5 b j = u2 x 265 6 (nW 0) b j := fun b j q1 q2 => by rw [f5 b j q1 q2, f4 b j q1 q2, f3 b j q1 q2, f2 b j q1 q2, f1 b j q1 q2]
    have R : ∀ b, b ≠ 265 → b ≠ 271 → x5 b = x b := fun b q1 q2 => funext fun j => by rw [F b j (fun z => q1 z.1) q2, u2_apart q1]
    rw [ck_wij, ck_ok h.t, p1, Option.bind_some, ck_wij, ck_ok h.t, p2, Option.bind_some, ck_wij, ck_ok h.t, p3, Option.bind_some, ck_wij, ck_ok h.t, p4, Option.bind_some, ck_wij, ck_ok h.t, p5, Option.bind_some, gF_wij h.t, c5.2.1, Option.bind_some]
    exact ⟨x5, y, rfl, fun b hb => ⟨R b (by omega) (by omega), rfl⟩, hR.text c5 (fun j q1 q2 => by rw [F 265 j (fun z => q2 z.2) (by decide), u2_other (fun z => q1 z.2)]) R⟩
/-- the present state is kept in the history -/
theorem mrem_ok (h : MSh G 265) (hA : AAOK W.1) (hR : RQ x y W) : ∃ x', fX7_remember 265 (265 + 1) (wIJ G x y) = some ((), wIJ G x' y) ∧ (∀ b, b ≠ 265 → b ≠ 267 → x' b = x b) ∧ (∀ j, j ≠ 5 → x' 265 j = x 265 j) ∧ KRep x' 265 (rem8 W.2.1 W.1) ∧ MRa x' y 265 W.1 := by
  obtain ⟨x', e1, e2, e3, e4⟩ := remember_ok (x := x) (y := y) h h.r0 (by decide) (by decide) hR.1.1.kept hA.2.2.1 hR.2.1
  obtain ⟨h1, h2, h3⟩ := hR.1
  exact ⟨x', e1, e2, e3, e4, h1.frame (e2 _ (by decide) (by decide)), h2.same (e2 _ (by decide) (by decide)) (e2 _ (by decide) (by decide)) (e2 _ (by decide) (by decide)) (e2 _ (by decide) (by decide)) rfl, h3⟩
theorem mdrop_ok (h : MSh G 265) (hA : AAOK W.1) (hR : RQ x y W) (h1 : hs 1 = nW 1) : MOut G x y (fX7_dropNote 265 (wIJ G x y)) (oDrop W) hs := by
  have hm := hA.2.2.1
  unfold fX7_dropNote fX7_dropNote_0 fX7_dropNote_15 oDrop aDrop
  simp only [lits]
  rw [gR_wij, h.g0, Option.bind_some, hR.m2 h, Option.bind_some]
  by_cases q : W.1.2.2.2.2 = 0
  · rw [if_pos (by rw [q]), if_pos q, ck_wij, ck_ok h.t, failsT h, Option.bind_some, if_neg (show ¬ nW 1 = nW 0 by decide)]
    exact MOut.bad hR h1
  · have hR' := hR.six (v := nW 0)
    obtain ⟨x1, r1, r2, r3, r4, r5⟩ := mrem_ok h hA hR'
    obtain ⟨x2, y2, d1, d2, d3, d4⟩ := drops_ok h (show W.1.2.2.2.2 = (W.1.2.2.2.2 - 1) + 1 by omega) hA r5
    rw [if_neg (by rw [nW_eq (by omega) (by decide)]; exact q), if_neg q, ck_wij, ck_ok h.t, failsF h, Option.bind_some, if_pos (show nW 0 = nW 0 from rfl), gR_wij, h.g0, Option.bind_some, ck_wij, ck_ok h.t, r1, Option.bind_some, ck_wij, ck_ok h.t, d1, Option.bind_some]
    have R : ∀ b, b ≠ 265 → b ≠ 266 → b ≠ 267 → x2 b = x b := fun b q1 q2 q3 => by rw [d2 b q2, r2 b q1 q3, u2_arow q1]
    refine MOut.mk' (fun b hb => ⟨R b (by omega) (by omega) (by omega), d3 b (by omega)⟩) (hR.state d4 (r4.same (by rw [d2 265 (by decide)]) (d2 267 (by decide))) (fun j q1 q2 => by rw [d2 265 (by decide), r3 j q1, u2_other (fun z => q2 z.2)]) (fun b hb => R b (by omega) (by omega) (by omega))) (by rw [d2 265 (by decide), r3 6 (by decide), u2_same])
theorem mundo_ok (h : MSh G 265) (hR : RQ x y W) (hH : ∀ t, t < W.2.1.length → AAOK (W.2.1.getD t as0)) (h1 : hs 1 = nW 1) : MOut G x y (fX7_undo 265 (wIJ G x y)) (oUndo W) hs := by
  obtain ⟨⟨k1, k2⟩, k3⟩ := hR.2.1
  unfold fX7_undo fX7_undo_0 fX7_undo_13 oUndo
  simp only [lits]
  rw [gF_wij h.t, k1, Option.bind_some]
  by_cases q : W.2.1.length = 0
  · rw [if_pos (by rw [q]), if_pos q, ck_wij, ck_ok h.t, failsT h, Option.bind_some, if_neg (show ¬ nW 1 = nW 0 by decide)]
    exact MOut.bad hR h1
  · have hB := hH (W.2.1.length - 1) (by omega)
    obtain ⟨q1, q2⟩ := k3 (W.2.1.length - 1) (by omega)
    generalize hx1 : u2 (u2 x 265 6 (nW 0)) 265 5 (nW (W.2.1.length - 1)) = x1
    have X1 : ∀ b, b ≠ 265 → x1 b = x b := fun b hb => by rw [← hx1, u2_arow hb, u2_arow hb]
    have X5 : x1 265 5 = nW (W.2.1.length - 1) := by rw [← hx1, u2_same]
    have X6 : x1 265 6 = nW 0 := by rw [← hx1, u2_other (by decide), u2_same]
    have Xc : ∀ j, j ≠ 5 → j ≠ 6 → x1 265 j = x 265 j := fun j z1 z2 => by rw [← hx1, u2_other (fun z => z1 z.2), u2_other (fun z => z2 z.2)]
    obtain ⟨c1, c2⟩ := copyRow_ok (x := x1) (y := y) h.r1 h.r0 (p := (W.2.1.length - 1) * 109) (q := 0) (by omega) (by omega) ⟨by decide, by decide⟩
    have hP : MKa (ur x1 (265 + 1) (va_cpy (x1 (265 + 2)) (x1 (265 + 1)) ((W.2.1.length - 1) * 109) 0 109)) (265 + 1) 0 (W.2.1.getD (W.2.1.length - 1) as0) := q1.move q2 (fun k hk => by rw [c2 k hk, X1 _ (by decide)])
    obtain ⟨x2, y2, f1, f2, f3, f4⟩ := mfinds_rep (y := y) h hB hP
    have F : ∀ b, b ≠ 266 → b < 273 ∨ 277 < b → x2 b = x1 b := fun b z1 z2 => by rw [f2 b z2, ur_arow z1]
    rw [if_neg (by rw [nW_eq (by omega) (by decide)]; exact q), if_neg q, ck_wij, ck_ok h.t, failsF h, Option.bind_some, if_pos (show nW 0 = nW 0 from rfl), gF_wij h.t, u2_other (by decide), k1, Option.bind_some, nW_sub (by omega), pI_wij h.t, Option.bind_some, hx1, gR_wij, h.g1, Option.bind_some, gF_wij h.t, X5, Option.bind_some, gR_wij, h.g0, Option.bind_some, nW_mul, c1, Option.bind_some, ck_wij, ck_ok h.t, f1, Option.bind_some, gF_wij h.t, F 265 (by decide) (by decide), X5, Option.bind_some]
    have R : ∀ b, b ≠ 265 → b ≠ 266 → b < 273 ∨ 277 < b → x2 b = x b := fun b z1 z2 z3 => by rw [F b z2 z3, X1 b z1]
    refine MOut.mk' (fun b hb => ⟨R b (by omega) (by omega) (by omega), f3 b (by omega)⟩) (hR.state f4 ⟨⟨?_, ?_⟩, fun j hj => ?_⟩ (fun j z1 z2 => by rw [F 265 (by decide) (by decide), Xc j z1 z2]) (fun b hb => R b (by omega) (by omega) (by omega))) (by rw [F 265 (by decide) (by decide), X6])
    · rw [F 265 (by decide) (by decide), X5, List.length_dropLast]
    · rw [List.length_dropLast]; omega
    · rw [List.length_dropLast] at hj
      have g : W.2.1.dropLast.getD j as0 = W.2.1.getD j as0 := by
        rw [List.getD_eq_getElem?_getD, List.getD_eq_getElem?_getD, List.getElem?_dropLast, if_pos hj]
      rw [g]
      obtain ⟨z1, z2⟩ := k3 j (by omega)
      exact ⟨z1.same (R 267 (by decide) (by decide) (by decide)), z2⟩
theorem msave_ok (h : MSh G 265) (hA : AAOK W.1) (hR : RQ x y W) {z : Int32} (h0 : hs 0 = nW 1) : MOut G x y (fX7_save 265 z (wIJ G x y)) (oSave W z) hs := by
  have hm := hA.2.2.1
  have ii : fX7_isIn z (nW 0) (nW 1) (wIJ G x y) = some (bI (ixZ z 2).isSome, wIJ G x y) := isIn_ix (n := 2) (by decide)
  unfold fX7_save fX7_save_0 fX7_save_15 oSave
  simp only [lits]
  rw [ii, Option.bind_some]
  rcases ixZ_spec (z := z) (show 2 < 2147483648 by decide) with ⟨j, e1, e2, rfl, -, -⟩ | ⟨e1, -, -⟩
  · have hR' := hR.six (v := nW 0)
    generalize hx1 : u2 x 265 6 (nW 0) = x1 at *
    obtain ⟨c1, c2⟩ := copyRow_ok (x := x1) (y := y) h.r0 h.r2 (p := 0) (q := j * 109) (by omega) (by omega) ⟨by decide, by decide⟩
    generalize hx2 : ur x1 (265 + 3) (va_cpy (x1 (265 + 1)) (x1 (265 + 3)) 0 (j * 109) 109) = x2 at *
    have X2 : ∀ b, b ≠ 268 → x2 b = x1 b := fun b hb => by rw [← hx2, ur_arow hb]
    have ga : gA (wIJ G (u2 x2 (265 + 5) j (nW 1)) y) 1 (265 + 1) (nW 2) = some (nW W.1.2.2.2.2) := by
      rw [h.s0 (by decide), u2_apart (by decide), X2 _ (by decide)]
      exact congrArg some hR'.1.1.2.1
    rw [e1, if_neg (show ¬ bI (some j).isSome = nW 0 from bIt), ck_wij, ck_ok h.t, failsF h, hx1, Option.bind_some, if_pos (show nW 0 = nW 0 from rfl), gR_wij, h.g0, Option.bind_some, gR_wij, h.g2, Option.bind_some, nW_mul, c1, Option.bind_some, gR_wij, h.g4, Option.bind_some, h.r4.wt (v := nW 1) (by omega) (by decide) (Or.inr rfl), Option.bind_some, gR_wij, h.g0, Option.bind_some, ga, Option.bind_some]
    have R : ∀ b, b ≠ 268 → b ≠ 270 → u2 x2 (265 + 5) j (nW 1) b = x1 b := fun b z1 z2 => by rw [u2_arow z2, X2 b z1]
    obtain ⟨⟨a1, a2, a3⟩, a4, s1, t1, er, o1⟩ := hR'
    refine MOut.mk' (fun b hb => ⟨by rw [R b (by omega) (by omega), ← hx1, u2_arow (by omega)], rfl⟩) ⟨⟨a1.frame (R _ (by decide) (by decide)), a2.same (R _ (by decide) (by decide)) (R _ (by decide) (by decide)) (R _ (by decide) (by decide)) (R _ (by decide) (by decide)) rfl, a3⟩, a4.same (by rw [R 265 (by decide) (by decide)]) (R _ (by decide) (by decide)), fun j2 hj2 => ?_, t1.frame (by rw [R 265 (by decide) (by decide)]) (R _ (by decide) (by decide)), ?_, ?_⟩ (by rw [R 265 (by decide) (by decide), ← hx1, u2_same])
    · show u2 x2 (265 + 5) j (nW 1) 270 j2 = bI (setSl W.2.2.1 j W.1 j2).isSome ∧ ∀ A, setSl W.2.2.1 j W.1 j2 = some A → _
      unfold setSl
      by_cases q : j2 = j
      · rw [if_pos q, q]
        refine ⟨u2_same, fun A hA' => ?_⟩
        rw [← Option.some.inj hA']
        exact ⟨a1.kept.move hm (fun k hk => by rw [u2_apart (by decide)]; exact c2 k hk), hm⟩
      · rw [if_neg q]
        refine ⟨by rw [u2_other (fun z => q z.2), X2 270 (by decide)]; exact (s1 j2 hj2).1, fun A hA' => ?_⟩
        obtain ⟨z1, z2⟩ := (s1 j2 hj2).2 A hA'
        exact ⟨z1.move z2 (fun k hk => by rw [u2_apart (by decide), ← hx2, ur_same, cpy_out (by omega)]), z2⟩
    · rw [R 265 (by decide) (by decide)]; exact er
    · rw [R 265 (by decide) (by decide), R 272 (by decide) (by decide)]; exact o1
  · rw [e1, if_pos (show bI (none : Option Nat).isSome = nW 0 from rfl), ck_wij, ck_ok h.t, failsT h, Option.bind_some, if_neg (show ¬ nW 1 = nW 0 by decide)]
    exact MOut.bad hR h0
theorem mrest_ok (h : MSh G 265) (hA : AAOK W.1) (hR : RQ x y W) (hS : ∀ j, j < 2 → ∀ A, W.2.2.1 j = some A → AAOK A) {z : Int32} (h0 : hs 0 = nW 1) (h1 : hs 1 = nW 2) : MOut G x y (fX7_restore 265 z (wIJ G x y)) (oRest W z) hs := by
  have ii : fX7_isIn z (nW 0) (nW 1) (wIJ G x y) = some (bI (ixZ z 2).isSome, wIJ G x y) := isIn_ix (n := 2) (by decide)
  unfold fX7_restore fX7_restore_0 fX7_restore_14 fX7_restore_34 fX7_restore_35 oRest
  simp only [lits]
  rw [ii, Option.bind_some]
  rcases ixZ_spec (z := z) (show 2 < 2147483648 by decide) with ⟨j, e1, e2, rfl, -, -⟩ | ⟨e1, -, -⟩
  · have g3 : gA (wIJ G x y) 3 (265 + 5) (nW j) = some (bI (W.2.2.1 j).isSome) := by
      rw [h.r4.rd e2 (by decide)]; exact congrArg some (hR.2.2.1 j e2).1
    rw [e1, if_neg (show ¬ bI (some j).isSome = nW 0 from bIt), if_pos trivial, gR_wij, h.g4, Option.bind_some, g3, Option.bind_some]
    show MOut G x y _ (match W.2.2.1 j with | none => (.inr 1, W) | some A => (.inl (nW A.2.2.2.2), (A, rem8 W.2.1 W.1, W.2.2))) hs
    cases hw : W.2.2.1 j with
    | none =>
      have fC : fX7_fails 265 (nW 0) (nW 1) (nW 0) (wIJ G x y) = some (nW 1, wIJ G (u2 x 265 6 (nW 2)) y) := fails_ok (a := false) (b := true) (c := false) h
      rw [if_pos (show bI (none : Option ASt).isSome = nW 0 from rfl), ck_wij, ck_ok h.t, fC, Option.bind_some, if_neg (show ¬ nW 1 = nW 0 by decide)]
      exact MOut.bad hR h1
    | some A =>
      have hB := hS j e2 A hw
      obtain ⟨q1, q2⟩ := (hR.2.2.1 j e2).2 A hw
      have hR' := hR.six (v := nW 0)
      obtain ⟨x1, r1, r2, r3, r4, r5⟩ := mrem_ok h hA hR'
      obtain ⟨c1, c2⟩ := copyRow_ok (x := x1) (y := y) h.r2 h.r0 (p := j * 109) (q := 0) (by omega) (by omega) ⟨by decide, by decide⟩
      have hP : MKa (ur x1 (265 + 1) (va_cpy (x1 (265 + 3)) (x1 (265 + 1)) (j * 109) 0 109)) (265 + 1) 0 A := q1.move q2 (fun k hk => by rw [c2 k hk, r2 _ (by decide) (by decide), u2_arow (by decide)])
      obtain ⟨x2, y2, f1, f2, f3, f4⟩ := mfinds_rep (y := y) h hB hP
      have F : ∀ b, b ≠ 266 → b < 273 ∨ 277 < b → x2 b = x1 b := fun b z1 z2 => by rw [f2 b z2, ur_arow z1]
      have ga : gA (wIJ G x2 y2) 1 (265 + 1) (nW 2) = some (nW A.2.2.2.2) := f4.s2 h
      rw [if_neg (show ¬ bI (some A).isSome = nW 0 from bIt), ck_wij, ck_ok h.t, failsF h, Option.bind_some, if_pos (show nW 0 = nW 0 from rfl), gR_wij, h.g0, Option.bind_some, ck_wij, ck_ok h.t, r1, Option.bind_some, gR_wij, h.g2, Option.bind_some, gR_wij, h.g0, Option.bind_some, nW_mul, c1, Option.bind_some, ck_wij, ck_ok h.t, f1, Option.bind_some, gR_wij, h.g0, Option.bind_some, ga, Option.bind_some]
      have R : ∀ b, b ≠ 265 → b ≠ 266 → b ≠ 267 → b < 273 ∨ 277 < b → x2 b = x b := fun b z1 z2 z3 z4 => by rw [F b z2 z4, r2 b z1 z3, u2_arow z1]
      exact MOut.mk' (fun b hb => ⟨R b (by omega) (by omega) (by omega) (by omega), f3 b (by omega)⟩) (hR.state f4 (r4.same (by rw [F 265 (by decide) (by decide)]) (F 267 (by decide) (by decide))) (fun k z1 z2 => by rw [F 265 (by decide) (by decide), r3 k z1, u2_other (fun z => z2 z.2)]) (fun b hb => R b (by omega) (by omega) (by omega) (by omega))) (by rw [F 265 (by decide) (by decide), r3 6 (by decide), u2_same])
  · rw [e1, if_pos (show bI (none : Option Nat).isSome = nW 0 from rfl), if_neg (show ¬ nW 1 = nW 0 by decide), ck_wij, ck_ok h.t, failsT h, Option.bind_some, if_neg (show ¬ nW 1 = nW 0 by decide)]
    exact MOut.bad hR h0
end MCHANGE
