/-! ===== the reference reads pieces ===== -/
section MPIECE
variable {G : Mem} {o : Nat} {x : Nat → Nat → Int32} {y : Nat → Nat → Int64} {T : Nat → Nat} {L : Nat} {c r : Nat} {P : Nat → Nat}
abbrev N00 : Nat → Nat → Int32 := fun _ _ => 0
theorem MPs.row (h : MPs x o c r N00 P 0) : MRow x (o + 1) 3 36 P := fun q hq => h.2.2.1 q hq
theorem MPs.tf {x' : Nat → Nat → Int32} (h : MPs x o c r N00 P 0) (hf : MTF o x x') : MPs x' o c r N00 P 0 := h.frame (hf.row (by omega))
theorem mpieces_ok {m : Nat} {N : Nat → Nat → Int32} (h : MSh G o) (hs : szs c r) (h11 : ∀ k, P k < 11) (hP : MPs x o c r N P m) : fX7_pieces o (wIJ G x y) = some (nW (npc (c * r) P), wIJ G x y) := by
  have hn := szs36 hs
  have sq : fX7_squareMany o (wIJ G x y) = some (nW (c * r), wIJ G x y) := squareMany_ok h hP.1
  unfold fX7_pieces fX7_pieces_0
  simp only [lits]
  exact loop_to (f := fun (s : Int32 × Int32) G => fX7_pieces_4 o s.1 s.2 G) (fun q => (nW (cnt q fun q => !decide (P q = 0)), nW q)) (fun _ => wIJ G x y) (c * r) (nW (npc (c * r) P)) (wIJ G x y) (fun q hq => by
    show fX7_pieces_4 _ _ _ _ = _
    unfold fX7_pieces_4 fX7_pieces_26
    simp only [lits]
    have w := h11 q
    rw [ck_wij, ck_ok h.t, sq, Option.bind_some, if_neg (by rw [nW_le (by omega) (by omega)]; omega), gR_wij, h.g0, Option.bind_some, nW_add, h.s0 (by omega), hP.2.2.1 q (by omega), Option.bind_some, nW_add, nW_add]
    show _ = some (Sum.inl (nW (cnt q _ + if (!decide (P q = 0)) = true then 1 else 0), nW (q + 1)), _)
    by_cases e : P q = 0
    · rw [if_pos (by rw [e]; decide), decide_eq_true e]; rfl
    · rw [if_neg (by rw [nW_le (by omega) (by decide)]; omega), decide_eq_false e]; rfl) (by
    show fX7_pieces_4 _ _ _ _ = _
    unfold fX7_pieces_4 fX7_pieces_32
    rw [ck_wij, ck_ok h.t, sq, Option.bind_some, if_pos (by rw [nW_le (by omega) (by omega)]; omega)]
    rfl) (c * r) 0 FU (by omega) (by show c * r < 100000; omega)
/-! the rest of a piece, once something is wrong -/
theorem p189_bad (h : MSh G o) {a1 a2 a3 a4 v : Int32} (hb : x o 25 = nW 1) : fX7_pieceTold_189 o a1 a2 a3 a4 o v (wIJ G x y) = some ((), wIJ G x y) := by
  unfold fX7_pieceTold_189 fX7_pieceTold_232
  simp only [lits]
  rw [ck_wij, ck_ok h.t, wrong_bad h hb, Option.bind_some, ck_wij, ck_ok h.t, go_bad h hb, Option.bind_some, ck_wij, ck_ok h.t, semicolon_bad h hb, Option.bind_some, gF_wij h.t, hb, Option.bind_some, if_neg (by decide)]
theorem p125_bad (h : MSh G o) {a1 a2 v : Int32} (hb : x o 25 = nW 1) : fX7_pieceTold_125 o a1 a2 o v (wIJ G x y) = some ((), wIJ G x y) := by
  unfold fX7_pieceTold_125 fX7_pieceTold_188
  simp only [lits]
  rw [ck_wij, ck_ok h.t, wrong_bad h hb, Option.bind_some, ck_wij, ck_ok h.t, go_bad h hb, Option.bind_some, ck_wij, ck_ok h.t, column_bad h hb, Option.bind_some, gR_wij, h.g0, Option.bind_some, h.s0 (by decide), Option.bind_some, ck_wij, ck_ok h.t, here_bad h hb, Option.bind_some, gF_wij h.t, hb, Option.bind_some, if_neg (by decide), p189_bad h hb]
theorem p90_bad (h : MSh G o) {a1 a2 v : Int32} (hb : x o 25 = nW 1) : fX7_pieceTold_90 o a1 a2 o v (wIJ G x y) = some ((), wIJ G x y) := by
  unfold fX7_pieceTold_90 fX7_pieceTold_124
  simp only [lits]
  rw [ck_wij, ck_ok h.t, wrong_bad h hb, Option.bind_some, gF_wij h.t, hb, Option.bind_some, if_neg (by decide), p125_bad h hb]
theorem p45_bad (h : MSh G o) {a1 v : Int32} (hb : x o 25 = nW 1) : fX7_pieceTold_45 o a1 o v (wIJ G x y) = some ((), wIJ G x y) := by
  have e62 : ∀ s0, fX7_pieceTold_62 o s0 (wIJ G x y) = some ((), wIJ G x y) := fun s0 => by
    unfold fX7_pieceTold_62 fX7_pieceTold_78
    simp only [lits]
    rw [gF_wij h.t, hb, Option.bind_some, if_neg (by decide), p90_bad h hb, p90_bad h hb, ite_self]
  unfold fX7_pieceTold_45
  simp only [lits]
  rw [ck_wij, ck_ok h.t, wrong_bad h hb, Option.bind_some, ck_wij, ck_ok h.t, go_bad h hb, Option.bind_some, e62, e62, ite_self]
/-- what a setup may change in the reference -/
def MSX (o : Nat) (x x' : Nat → Nat → Int32) : Prop := ∀ b j, ¬ (b = o ∧ (j = 11 ∨ j = 12 ∨ 21 ≤ j)) → b ≠ o + 1 → x' b j = x b j
theorem MSX.trans {x' x2 : Nat → Nat → Int32} (h : MSX o x x') (h2 : MSX o x' x2) : MSX o x x2 := fun b j q1 q2 => (h2 b j q1 q2).trans (h b j q1 q2)
theorem MTF.msx {x' : Nat → Nat → Int32} (h : MTF o x x') : MSX o x x' := fun b j q _ => h b j q
/-- something is wrong, and the text is still a text -/
def RBt (x : Nat → Nat → Int32) (o : Nat) (T : Nat → Nat) (L : Nat) (e : Nat × Nat) : Prop := RBd x o e ∧ RBy x o T L ∧ ∃ s, RTk x o T L s
/-- the column, the row, and what follows -/
theorem p125_ok (h : MSh G o) {s col kd : Nat} (hs : RSt x o T L s) (hI : PInv c r P) (hP : MPs x o c r N00 P 0) (hc : col < 2) (hk : kd < 5) (hn : npc (c * r) P ≠ 10) (hu : ¬ (kd = 0 ∧ fnd (c * r) P (kgc col) < c * r)) :
    ∃ x', fX7_pieceTold_125 o (nW col) (nW kd) o (nW 0) (wIJ G x y) = some ((), wIJ G x' y) ∧ MSX o x x' ∧ ((∃ e, zB (pNum T L (nx T L s) 0 c) (fun q => zB (pNum T L q.2 0 r) fun q2 => if P (q2.1 * c + q.1) = 0 then (if srt T L q2.2 = 4 then .inr (upN P (q2.1 * c + q.1) (1 + 5 * col + kd), nx T L q2.2) else .inl (1, q2.2)) else .inl (3, q.2)) = .inl e ∧ RBt x' o T L e) ∨ (∃ P' s', zB (pNum T L (nx T L s) 0 c) (fun q => zB (pNum T L q.2 0 r) fun q2 => if P (q2.1 * c + q.1) = 0 then (if srt T L q2.2 = 4 then .inr (upN P (q2.1 * c + q.1) (1 + 5 * col + kd), nx T L q2.2) else .inl (1, q2.2)) else .inl (3, q.2)) = .inr (P', s') ∧ RSt x' o T L s' ∧ MPs x' o c r N00 P' 0)) := by
  obtain ⟨hz, i2, i3, i4, i5⟩ := id hI
  obtain ⟨c3, c7, r3, r7⟩ := id hz
  have hn36 := szs36 hz
  obtain ⟨x1, a1, a2, a3⟩ := go_ok (y := y) h hs
  have P1 := hP.tf a2
  unfold fX7_pieceTold_125 fX7_pieceTold_188
  simp only [lits]
  rw [ck_wij, ck_ok h.t, wrong_no h, Option.bind_some, ck_wij, ck_ok h.t, a1, Option.bind_some, ck_wij, ck_ok h.t]
  obtain ⟨v2, x2, b1, b2, b3⟩ := column_ok (y := y) h P1.1 (by omega) a3
  have P2 := P1.tf b2
  rw [b1, Option.bind_some, gR_wij, h.g0, Option.bind_some, h.s0 (by decide), P2.1.2, Option.bind_some, ck_wij, ck_ok h.t]
  rcases b3 with ⟨e, e1, e2, e3, e4, e5⟩ | ⟨k, s2, e1, e2, e3⟩
  · rw [here_bad h e3.1, Option.bind_some, gF_wij h.t, e3.1, Option.bind_some, if_neg (by decide), p189_bad h e3.1]
    exact ⟨x2, rfl, (a2.trans b2).msx, Or.inl ⟨e, zB_l e1 _, e3, e4, _, e5⟩⟩
  · have ek := (pNum_lt e1).2.1
    obtain ⟨v3, x3, d1, d2, d3⟩ := here_ok (y := y) (lo := 0) (hb := r) h e3 (by decide) (by omega)
    have fr3 : MTF o x x3 := (a2.trans b2).trans d2
    rw [d1, Option.bind_some, gF_wij h.t, zB_r e1]
    rcases d3 with ⟨e, g1, g2, g3, g4, g5⟩ | ⟨k2, g1, g2, rfl⟩
    · rw [g3.1, Option.bind_some, if_neg (by decide), p189_bad h g3.1]
      exact ⟨x3, rfl, fr3.msx, Or.inl ⟨e, zB_l g1 _, g3, g4, _, g5⟩⟩
    · have gk := (pNum_lt g1).2.1
      have ht := grid_lt gk ek
      have p11 := i2 (k2 * c + k)
      rw [e3.2.2.1, Option.bind_some, if_pos rfl, gR_wij, h.g0, Option.bind_some, Option.bind_some, h.s0 (by decide), P2.1.1, Option.bind_some, e2, g2, nW_mul, nW_add, nW_add, show 3 + k2 * c + k = 3 + (k2 * c + k) by omega, h.s0 (by omega), P2.2.2.1 _ (by omega), Option.bind_some, zB_r g1]
      by_cases hP0 : P (k2 * c + k) = 0
      · rw [if_pos (by rw [hP0]; decide), if_pos hP0]
        obtain ⟨x4, f1, f2, f3⟩ := go_ok (y := y) h e3
        obtain ⟨x5, m1, m2, m3⟩ := semicolon_ok (y := y) h f3
        have fr5 : MTF o x x5 := (fr3.trans f2).trans m2
        unfold fX7_pieceTold_189 fX7_pieceTold_232 fX7_pieceOf fX7_pieceOf_0
        simp only [lits]
        rw [ck_wij, ck_ok h.t, wrong_no h, Option.bind_some, ck_wij, ck_ok h.t, f1, Option.bind_some, ck_wij, ck_ok h.t, m1, Option.bind_some, gF_wij h.t]
        rcases m3 with ⟨g, gs⟩ | ⟨g, gb, gy, gt⟩
        · have P5 := hP.tf fr5
          rw [gs.2.2.1, Option.bind_some, if_pos rfl, gR_wij, h.g0, Option.bind_some, Option.bind_some, h.s0 (by decide), P5.1.1, Option.bind_some, Option.bind_some, nW_mul, nW_mul, nW_add, nW_add, nW_add, nW_add, show 3 + k2 * c + k = 3 + (k2 * c + k) by omega, h.r0.wr (by omega) (by decide), Option.bind_some, if_pos g]
          refine ⟨_, rfl, fr5.msx.trans fun b j _ q => u2_apart q, Or.inr ⟨_, _, rfl, gs.same (u2_arow (by omega)) (u2_arow (by omega)), ⟨?_, ?_⟩, ?_, fun q hq => ?_, fun i hi => absurd hi (Nat.not_lt_zero _)⟩⟩
          · rw [u2_other (by omega)]; exact P5.1.1
          · rw [u2_other (by omega)]; exact P5.1.2
          · rw [u2_other (by omega)]; exact P5.2.1
          · unfold upN
            by_cases e : q = k2 * c + k
            · rw [e, u2_same, if_pos rfl]
            · rw [u2_other (by omega), if_neg e]; exact P5.2.2.1 q hq
        · rw [gb.1, Option.bind_some, if_neg (by decide), if_neg g]
          exact ⟨x5, rfl, fr5.msx, Or.inl ⟨_, rfl, gb, gy, _, gt⟩⟩
      · obtain ⟨x4, w1, w2, w3, w4, w5⟩ := wrong_yes (y := y) (k := 3) h e3
        rw [if_neg (by rw [nW_le (by omega) (by decide)]; omega), if_neg hP0]
        unfold fX7_pieceTold_189 fX7_pieceTold_232
        simp only [lits]
        rw [ck_wij, ck_ok h.t, w1, Option.bind_some, ck_wij, ck_ok h.t, go_bad h w3.1, Option.bind_some, ck_wij, ck_ok h.t, semicolon_bad h w3.1, Option.bind_some, gF_wij h.t, w3.1, Option.bind_some, if_neg (by decide)]
        exact ⟨x4, rfl, (fr3.trans w2).msx, Or.inl ⟨_, rfl, w3, w4, _, w5⟩⟩
/-- behind the colour -/
theorem p45_ok (h : MSh G o) {s col : Nat} (hs : RSt x o T L s) (hI : PInv c r P) (hP : MPs x o c r N00 P 0) (hc : colN T L s = col) (hc2 : col < 2) (hn : npc (c * r) P ≠ 10) {l1 : Int32} (hl : (l1 = nW 0 ∧ col = 1) ∨ (l1 = nW 1 ∧ col = 0)) :
    ∃ x', fX7_pieceTold_45 o l1 o (nW 0) (wIJ G x y) = some ((), wIJ G x' y) ∧ MSX o x x' ∧ ((∃ e, pPiece T L c r P s = .inl e ∧ RBt x' o T L e) ∨ (∃ P' s', pPiece T L c r P s = .inr (P', s') ∧ RSt x' o T L s' ∧ MPs x' o c r N00 P' 0)) := by
  have hz := hI.1
  have hn36 := szs36 hz
  obtain ⟨x1, a1, a2, a3⟩ := go_ok (y := y) h hs
  have P1 := hP.tf a2
  have eP : pPiece T L c r P s = if kdN T L (nx T L s) = 5 then .inl (1, nx T L s) else if kdN T L (nx T L s) = 0 ∧ fnd (c * r) P (kgc col) < c * r then .inl (4, nx T L s) else zB (pNum T L (nx T L (nx T L s)) 0 c) fun q => zB (pNum T L q.2 0 r) fun q2 => if P (q2.1 * c + q.1) = 0 then (if srt T L q2.2 = 4 then .inr (upN P (q2.1 * c + q.1) (1 + 5 * col + kdN T L (nx T L s)), nx T L q2.2) else .inl (1, q2.2)) else .inl (3, q.2) := by
    unfold pPiece
    rw [hc, if_neg (by omega), if_neg hn]
  have e62 : ∃ x', fX7_pieceTold_62 o (nW col) (wIJ G x1 y) = some ((), wIJ G x' y) ∧ MSX o x x' ∧ ((∃ e, pPiece T L c r P s = .inl e ∧ RBt x' o T L e) ∨ (∃ P' s', pPiece T L c r P s = .inr (P', s') ∧ RSt x' o T L s' ∧ MPs x' o c r N00 P' 0)) := by
    unfold fX7_pieceTold_62 fX7_pieceTold_78
    simp only [lits]
    rw [gF_wij h.t, a3.2.2.1, Option.bind_some, if_pos rfl, ck_wij, ck_ok h.t, mkindHere_ok h a3.1 a3.2.1, Option.bind_some, eP]
    rcases knd_kdN (T := T) (L := L) (s := nx T L s) with ⟨z1, z2⟩ | ⟨z1, z2⟩
    · rw [z2, if_neg (show ¬ nW (kdN T L (nx T L s)) = -nW 1 from nW_m1 (by omega)), if_neg (show ¬ kdN T L (nx T L s) = 5 by omega)]
      unfold fX7_pieceTold_90 fX7_pieceTold_124
      simp only [lits]
      rw [ck_wij, ck_ok h.t, wrong_no h, Option.bind_some, gF_wij h.t, a3.2.2.1, Option.bind_some, if_pos rfl]
      have fin : ¬ (kdN T L (nx T L s) = 0 ∧ fnd (c * r) P (kgc col) < c * r) → ∃ x', fX7_pieceTold_125 o (nW col) (nW (kdN T L (nx T L s))) o (nW 0) (wIJ G x1 y) = some ((), wIJ G x' y) ∧ MSX o x x' ∧ ((∃ e, zB (pNum T L (nx T L (nx T L s)) 0 c) (fun q => zB (pNum T L q.2 0 r) fun q2 => if P (q2.1 * c + q.1) = 0 then (if srt T L q2.2 = 4 then .inr (upN P (q2.1 * c + q.1) (1 + 5 * col + kdN T L (nx T L s)), nx T L q2.2) else .inl (1, q2.2)) else .inl (3, q.2)) = .inl e ∧ RBt x' o T L e) ∨ (∃ P' s', zB (pNum T L (nx T L (nx T L s)) 0 c) (fun q => zB (pNum T L q.2 0 r) fun q2 => if P (q2.1 * c + q.1) = 0 then (if srt T L q2.2 = 4 then .inr (upN P (q2.1 * c + q.1) (1 + 5 * col + kdN T L (nx T L s)), nx T L q2.2) else .inl (1, q2.2)) else .inl (3, q.2)) = .inr (P', s') ∧ RSt x' o T L s' ∧ MPs x' o c r N00 P' 0)) := by
        intro hu
        obtain ⟨x', q1, q2, q3⟩ := p125_ok (y := y) h a3 hI P1 hc2 z1 hn hu
        exact ⟨x', q1, a2.msx.trans q2, q3⟩
      by_cases hk0 : kdN T L (nx T L s) = 0
      · rw [if_pos (show nW (kdN T L (nx T L s)) = nW 0 by rw [hk0]), gR_wij, h.g0, Option.bind_some, ck_wij, ck_ok h.t, kingOf_ok h hz P1.1 h.r0 (by omega) (by decide) (P1.row.mono hn36) hI.2.1 hc2, Option.bind_some]
        by_cases hh : fnd (c * r) P (kgc col) < c * r
        · obtain ⟨x2, w1, w2, w3, w4, w5⟩ := wrong_yes (y := y) (k := 4) h a3
          rw [if_pos hh, if_neg (show ¬ nW (fnd (c * r) P (kgc col)) = -nW 1 from nW_m1 (by omega)), if_pos ⟨hk0, hh⟩]
          have e125 : fX7_pieceTold_125 o (nW col) (nW (kdN T L (nx T L s))) o (nW 1) (wIJ G x1 y) = some ((), wIJ G x2 y) := by
            unfold fX7_pieceTold_125 fX7_pieceTold_188
            simp only [lits]
            rw [ck_wij, ck_ok h.t, w1, Option.bind_some, ck_wij, ck_ok h.t, go_bad h w3.1, Option.bind_some, ck_wij, ck_ok h.t, column_bad h w3.1, Option.bind_some, gR_wij, h.g0, Option.bind_some, h.s0 (by decide), Option.bind_some, ck_wij, ck_ok h.t, here_bad h w3.1, Option.bind_some, gF_wij h.t, w3.1, Option.bind_some, if_neg (by decide), p189_bad h w3.1]
          exact ⟨x2, e125, (a2.trans w2).msx, Or.inl ⟨_, rfl, w3, w4, _, w5⟩⟩
        · rw [if_neg hh, if_pos (show -nW 1 = -nW 1 from rfl), if_neg (fun q => hh q.2)]
          exact fin (fun q => hh q.2)
      · rw [if_neg (show ¬ nW (kdN T L (nx T L s)) = nW 0 by rw [nW_eq (by omega) (by decide)]; exact hk0), if_neg (fun q => hk0 q.1)]
        exact fin (fun q => hk0 q.1)
    · obtain ⟨x2, w1, w2, w3, w4, w5⟩ := wrong_yes (y := y) (k := 1) h a3
      rw [z2, if_pos (show -nW 1 = -nW 1 from rfl), if_pos z1]
      have e90 : fX7_pieceTold_90 o (nW col) (-nW 1) o (nW 1) (wIJ G x1 y) = some ((), wIJ G x2 y) := by
        unfold fX7_pieceTold_90 fX7_pieceTold_124
        simp only [lits]
        rw [ck_wij, ck_ok h.t, w1, Option.bind_some, gF_wij h.t, w3.1, Option.bind_some, if_neg (by decide), p125_bad h w3.1]
      exact ⟨x2, e90, (a2.trans w2).msx, Or.inl ⟨_, rfl, w3, w4, _, w5⟩⟩
  unfold fX7_pieceTold_45
  simp only [lits]
  rw [ck_wij, ck_ok h.t, wrong_no h, Option.bind_some, ck_wij, ck_ok h.t, a1, Option.bind_some]
  rcases hl with ⟨hl, hcol⟩ | ⟨hl, hcol⟩
  · rw [hl, if_pos rfl]
    rw [hcol] at e62
    exact e62
  · rw [hl, if_neg (by decide)]
    rw [hcol] at e62
    exact e62
theorem pieceTold_ok (h : MSh G o) {s : Nat} (hs : RSt x o T L s) (hI : PInv c r P) (hP : MPs x o c r N00 P 0) :
    ∃ x', fX7_pieceTold o (wIJ G x y) = some ((), wIJ G x' y) ∧ MSX o x x' ∧ ((∃ e, pPiece T L c r P s = .inl e ∧ RBt x' o T L e) ∨ (∃ P' s', pPiece T L c r P s = .inr (P', s') ∧ RSt x' o T L s' ∧ MPs x' o c r N00 P' 0)) := by
  have hz := hI.1
  have hn10 := hI.2.2.2.2
  -- from the test of the number of pieces on
  have e26 : ∀ (l1 : Int32) (col : Nat), colN T L s = col → col < 2 → ((l1 = nW 0 ∧ col = 1) ∨ (l1 = nW 1 ∧ col = 0)) → ∃ x', fX7_pieceTold_26 o l1 o (nW 0) (wIJ G x y) = some ((), wIJ G x' y) ∧ MSX o x x' ∧ ((∃ e, pPiece T L c r P s = .inl e ∧ RBt x' o T L e) ∨ (∃ P' s', pPiece T L c r P s = .inr (P', s') ∧ RSt x' o T L s' ∧ MPs x' o c r N00 P' 0)) := by
    intro l1 col hc hc2 hl
    unfold fX7_pieceTold_26
    simp only [lits]
    rw [ck_wij, ck_ok h.t, wrong_no h, Option.bind_some, ck_wij, ck_ok h.t, mpieces_ok h hz hI.2.1 hP, Option.bind_some]
    by_cases hn : npc (c * r) P = 10
    · obtain ⟨x2, w1, w2, w3, w4, w5⟩ := wrong_yes (y := y) (k := 4) h hs
      rw [if_pos (show nW (npc (c * r) P) = nW 10 by rw [hn])]
      have e62 : ∀ s0, fX7_pieceTold_62 o s0 (wIJ G x2 y) = some ((), wIJ G x2 y) := fun s0 => by
        unfold fX7_pieceTold_62 fX7_pieceTold_78
        simp only [lits]
        rw [gF_wij h.t, w3.1, Option.bind_some, if_neg (by decide), p90_bad h w3.1, p90_bad h w3.1, ite_self]
      have e45 : fX7_pieceTold_45 o l1 o (nW 1) (wIJ G x y) = some ((), wIJ G x2 y) := by
        unfold fX7_pieceTold_45
        simp only [lits]
        rw [ck_wij, ck_ok h.t, w1, Option.bind_some, ck_wij, ck_ok h.t, go_bad h w3.1, Option.bind_some, e62, e62, ite_self]
      refine ⟨x2, e45, w2.msx, Or.inl ⟨_, ?_, w3, w4, _, w5⟩⟩
      unfold pPiece
      rw [hc, if_neg (by omega), if_pos hn]
    · rw [if_neg (show ¬ nW (npc (c * r) P) = nW 10 by rw [nW_eq (by omega) (by decide)]; exact hn)]
      exact p45_ok h hs hI hP hc hc2 hn hl
  unfold fX7_pieceTold fX7_pieceTold_0 fX7_pieceTold_25
  simp only [lits]
  rw [ck_wij, ck_ok h.t, mis_ok h hs.1 hs.2.1 (by decide), Option.bind_some]
  cases h1 : isw T L s 1 with
  | true =>
    rw [if_neg bIt]
    exact e26 _ 0 (if_pos h1) (by decide) (Or.inr ⟨rfl, rfl⟩)
  | false =>
    rw [if_pos bIf, ck_wij, ck_ok h.t, mis_ok h hs.1 hs.2.1 (by decide), Option.bind_some]
    cases h2 : isw T L s 2 with
    | true =>
      rw [if_neg bIt]
      exact e26 _ 1 (by unfold colN; rw [h1, h2, if_neg (by decide), if_pos rfl]) (by decide) (Or.inl ⟨rfl, rfl⟩)
    | false =>
      obtain ⟨x2, w1, w2, w3, w4, w5⟩ := wrong_yes (y := y) (k := 1) h hs
      have P2 := hP.tf w2
      rw [if_pos bIf]
      have e26b : fX7_pieceTold_26 o (bI false) o (nW 1) (wIJ G x y) = some ((), wIJ G x2 y) := by
        unfold fX7_pieceTold_26
        simp only [lits]
        rw [ck_wij, ck_ok h.t, w1, Option.bind_some, ck_wij, ck_ok h.t, mpieces_ok h hz hI.2.1 P2, Option.bind_some, p45_bad h w3.1, p45_bad h w3.1, ite_self]
      refine ⟨x2, e26b, w2.msx, Or.inl ⟨_, ?_, w3, w4, _, w5⟩⟩
      unfold pPiece
      exact if_pos (by unfold colN; rw [h1, h2]; rfl)
end MPIECE
