/-! ===== pieces' games, consistency, output and input of the class ===== -/
/-- the letter of a piece -/
def ltr (m : Nat) : Nat := [46, 75, 81, 82, 66, 78, 107, 113, 114, 98, 110].getD m 46
/-- the byte at i of the picture of a position -/
def picB (c r : Nat) (P : Nat → Nat) (i : Nat) : Nat := if i % (c + 1) = c then 10 else ltr (P ((r - 1 - i / (c + 1)) * c + i % (c + 1)))
def oWrite (W : WSt) (p : Int32) : (Int32 ⊕ Nat) × WSt := match ixZ p (pcA W.1) with
  | none => (.inr 2, W)
  | some i => (.inl (nW ((W.1.1 + 1) * W.1.2.1 - 1)), (W.1, W.2.1, W.2.2.1, W.2.2.2.1, W.2.2.2.2.1, (picB W.1.1 W.1.2.1 (lyp (lyA W.1) i), (W.1.1 + 1) * W.1.2.1 - 1)))
def oByte (W : WSt) (z : Int32) : Int32 × WSt := (match ixZ z W.2.2.2.2.2.2 with | none => -nW 1 | some i => nW (W.2.2.2.2.2.1 i), W)
def oTrunc (W : WSt) (z : Int32) : (Int32 ⊕ Nat) × WSt := match ixZ z (W.2.2.2.1.2 + 1) with
  | none => (.inr 0, W)
  | some j => (.inl (nW j), (W.1, W.2.1, W.2.2.1, (W.2.2.2.1.1, j), W.2.2.2.2))
theorem cltr_all : ∀ m, m < 11 → ∀ G : Mem, fX6_letterOf (nW (enc m)) G = some (nW (ltr m), G) := by
  intro m hm G
  have e1 : ∀ m, m < 11 → (if (nW (enc m) &&& nW 7) - nW 1 < nW 0 then some (nW 46) else if (nW (enc m) &&& nW 7) - nW 1 < nW 5 then (if (if nW (enc m) = nW 0 then -nW 1 else nW (enc m) >>> (nW 3 &&& nW 31)) = nW 0 then (tb 0 ((nW (enc m) &&& nW 7) - nW 1)) else (tb 0 ((nW (enc m) &&& nW 7) - nW 1)).map fun v => v + nW 32) else some (nW 46)) = some (nW (ltr m)) := by decide +kernel
  have e := e1 m hm
  unfold fX6_letterOf fX6_letterOf_0 fX6_letterOf_17 fX6_letterOf_43 fX6_kindOf fX6_kindOf_0 fX6_colourOf fX6_colourOf_0 fX6_colourOf_11
  simp only [lits]
  rw [Option.bind_some]
  by_cases a1 : (nW (enc m) &&& nW 7) - nW 1 < nW 0
  · rw [if_pos a1] at e ⊢
    rw [← Option.some.inj e]
  · rw [if_neg a1] at e ⊢
    by_cases a2 : (nW (enc m) &&& nW 7) - nW 1 < nW 5
    · rw [if_pos a2] at e ⊢
      by_cases a3 : nW (enc m) = nW 0
      · rw [if_pos a3] at e ⊢
        rw [Option.bind_some]
        rw [if_neg (by decide)] at e
        rw [if_neg (show ¬ -nW 1 = nW 0 by decide)]
        cases ht : tb 0 ((nW (enc m) &&& nW 7) - nW 1) with
        | none => rw [ht] at e; cases e
        | some v => rw [ht] at e; have e := Option.some.inj e; show some (v + nW 32, G) = _; rw [← e]
      · rw [if_neg a3] at e ⊢
        rw [Option.bind_some]
        by_cases a4 : nW (enc m) >>> (nW 3 &&& nW 31) = nW 0
        · rw [if_pos a4] at e
          rw [if_pos (show (nW (enc m) >>> (nW 3 &&& nW 31)) = nW 0 from a4), e]; rfl
        · rw [if_neg a4] at e
          rw [if_neg (show ¬ (nW (enc m) >>> (nW 3 &&& nW 31)) = nW 0 from a4)]
          cases ht : tb 0 ((nW (enc m) &&& nW 7) - nW 1) with
          | none => rw [ht] at e; cases e
          | some v => rw [ht] at e; have e := Option.some.inj e; show some (v + nW 32, G) = _; rw [← e]
    · rw [if_neg a2] at e ⊢
      rw [← Option.some.inj e]
theorem ltr_lt : ∀ m, m < 11 → ltr m < 128 := by decide
theorem byte_keep : ∀ k, k < 128 → (nW k).toInt8.toInt32 = nW k := by decide +kernel
section CREADS3
variable {G : Mem} {ro l K : Nat → Nat} {W : WSt} {d : Nat}
theorem cpiece_ok (hC : CI G (d + 1) W) {x y co k : Int32} : COut G (d + 1) (fX6_gamesWithPiece 0 x y co k G) (oPiece W x y co k) := by
  obtain ⟨ro, l, K, h1, h2, h3⟩ := id hC
  obtain ⟨p1, -⟩ := h3.split
  obtain ⟨b0, b1, b2, b3⟩ := h1.bd p1
  have hn := szs36 p1.2.1
  have hrun := (lyN_run p1.2.2.1 p1.2.2.2.2.1).1
  have h40 : pcA W.1 ≤ 40 := hrun.1
  unfold fX6_gamesWithPiece fX6_gamesWithPiece_0 fX6_gamesWithPiece_22 oPiece
  simp only [lits]
  rw [ck_ok h1.t, reqSq_ok h1 h2 p1, Option.bind_some]
  rcases sqZ_spec (x := x) (y := y) p1.2.1 with ⟨a, b, f1, f2, f3, rfl, rfl⟩ | f1
  · have ht := grid_lt f3 f2
    rw [f1]
    show COut G (d + 1) (ck G 16 0 ((fX6_requireColour 0 co G).bind fun q5 => _)) _
    rw [ck_ok h1.t, reqCol_ok h2, Option.bind_some]
    rcases ixZ_spec (z := co) (show 2 < 2147483648 by decide) with ⟨e, e1, e2, rfl, -, -⟩ | ⟨e1, -, -⟩
    · rw [e1]
      show COut G (d + 1) (if k < nW 0 then thw 0 G else if k ≤ nW 4 then _ else thw 0 G) _
      rcases ixZ_spec (z := k) (show 5 < 2147483648 by decide) with ⟨g, g1, g2, rfl, -, -⟩ | ⟨g1, g2, -⟩
      · have sqo : fX0_squareOf (fa (ro 0) + 1) (nW a) (nW b) G = some (nW (b * W.1.1 + a), G) := by
          unfold fX0_squareOf fX0_squareOf_0
          rw [b1, Option.bind_some, nW_mul, nW_add]
        have cto : fX6_contentOf (nW e) (nW g) G = some (nW (enc (1 + 5 * e + g)), G) := by
          unfold fX6_contentOf fX6_contentOf_0
          simp only [lits]
          rw [enc_piece e e2 g g2]
        rw [g1, if_neg (nW_neg_lt (by omega)), if_pos ((nW_le (by omega) (by decide)).mpr (by omega))]
        show COut G (d + 1) ((gR G 16 0 3).bind fun v7 => (gR G 13 v7 0).bind fun v8 => ck G 10 v8 ((fX0_squareOf v8 (nW a) (nW b) G).bind fun q9 => _)) _
        rw [h1.f3, Option.bind_some, b0, Option.bind_some, ck_ok p1.1.1.1.b.1, sqo, Option.bind_some]
        show COut G (d + 1) ((fX6_contentOf (nW e) (nW g) G).bind fun q10 => _) _
        rw [cto, Option.bind_some]
        have lp := loop_to (f := fun (s : Int64 × Int32) G => fX6_gamesWithPiece_61 0 (nW (b * W.1.1 + a)) (nW (enc (1 + 5 * e + g))) s.1 s.2 G) (fun p => (Int64.ofNat (sumN p fun p => if lyp (lyA W.1) p (b * W.1.1 + a) = 1 + 5 * e + g then lyg (lyA W.1) p else 0), nW p)) (fun _ => G) (pcA W.1) (.inl (Int64.ofNat (gwp W.1 (b * W.1.1 + a) (1 + 5 * e + g)))) G (fun p hp => by
          show fX6_gamesWithPiece_61 _ _ _ _ _ _ = _
          have w := (hrun.2 p hp).1 (b * W.1.1 + a)
          unfold fX6_gamesWithPiece_61 fX6_gamesWithPiece_103
          simp only [lits]
          rw [h1.f3, Option.bind_some, ck_ok p1.1.1.1.t, positionCount_ok p1.2 p1.1, Option.bind_some, if_neg (show ¬ nW (pcA W.1) ≤ nW p by rw [nW_le (by omega) (by omega)]; omega), h1.f3, Option.bind_some, ck_ok p1.1.1.1.t, contentAt_ok p1.2 p1.1 hp (by omega), Option.bind_some, nW_add]
          have ei := encW_inj (lyp (lyA W.1) p (b * W.1.1 + a)) w (1 + 5 * e + g) (by omega)
          show _ = some (Sum.inl (Int64.ofNat (sumN p _ + if lyp (lyA W.1) p (b * W.1.1 + a) = 1 + 5 * e + g then _ else 0), _), _)
          by_cases q : lyp (lyA W.1) p (b * W.1.1 + a) = 1 + 5 * e + g
          · rw [if_pos (show nW (enc (lyp (lyA W.1) p (b * W.1.1 + a))) = nW (enc (1 + 5 * e + g)) from ei.mpr q), if_pos q, h1.f3, Option.bind_some, ck_ok p1.1.1.1.t, gamesToLast_ok p1.2 p1.1 hp, Option.bind_some, ← Int64.ofNat_add]
          · rw [if_neg (show ¬ nW (enc (lyp (lyA W.1) p (b * W.1.1 + a))) = nW (enc (1 + 5 * e + g)) from fun z => q (ei.mp z)), if_neg q]; rfl) (by
          show fX6_gamesWithPiece_61 _ _ _ _ _ _ = _
          unfold fX6_gamesWithPiece_61 fX6_gamesWithPiece_109
          rw [h1.f3, Option.bind_some, ck_ok p1.1.1.1.t, positionCount_ok p1.2 p1.1, Option.bind_some, if_pos (show nW (pcA W.1) ≤ nW (pcA W.1) from (nW_le (by omega) (by omega)).mpr (Nat.le_refl _))]
          rfl) (pcA W.1) 0 FU (by omega) (by show _ < 100000; omega)
        exact ⟨G, lp, hC, RKp.rfl'⟩
      · rw [g1]
        rcases g2 with g2 | g2
        · rw [if_pos g2, h2.thw]; exact COut.same hC
        · have : ¬ k ≤ nW 4 := by
            have := g2.2
            rw [Int32.lt_iff_toInt_lt, nW_int (by decide)] at this
            rw [Int32.le_iff_toInt_le, nW_int (by decide)]; omega
          rw [if_neg g2.1, if_neg this, h2.thw]; exact COut.same hC
    · rw [e1]; exact COut.same hC
  · rw [f1]; exact COut.same hC
theorem cbyte_ok (hC : CI G d W) {z : Int32} : COu G d (fX6_outputByte 0 z G) (oByte W z) := by
  obtain ⟨ro, l, K, h1, h2, h3⟩ := id hC
  obtain ⟨-, -, -, -, -, ⟨o1, o2, o3⟩, -⟩ := h3
  unfold fX6_outputByte fX6_outputByte_0 fX6_outputByte_12 fX6_outputByte_22 oByte
  simp only [lits]
  rcases ixZ_spec (z := z) (show W.2.2.2.2.2.2 < 2147483648 by omega) with ⟨i, e1, e2, e3, e4, e5⟩ | ⟨e1, e2, -⟩
  · have g : gA G 2 54 (nW i) = some (mI G 54 i) := by
      have := gA_wij (x := mI G) (y := mJ G) h1.2.2.2.2.1.2.1.1 (i := i) (by rw [h1.2.2.2.2.1.2.1.2]; omega) (by rw [h1.2.2.2.2.1.2.1.2]; decide)
      rw [wij_self] at this; exact this
    subst e3
    rw [e1, if_neg e4, h1.gF0, o1, Option.bind_some, if_pos e5, h1.f10, Option.bind_some, g, (o3 i e2).1, Option.bind_some]
    exact COu.same hC
  · rw [e1]
    rcases e2 with e2 | e2
    · rw [if_pos e2]; exact COu.same hC
    · rw [if_neg e2.1, h1.gF0, o1, Option.bind_some, if_neg e2.2]; exact COu.same hC
theorem ctrunc_ok (hC : CI G (d + 1) W) {z : Int32} : COut G (d + 1) (fX6_truncateInput 0 z G) (oTrunc W z) := by
  obtain ⟨ro, l, K, h1, h2, h3⟩ := id hC
  obtain ⟨-, -, -, -, t1, o1, -⟩ := id h3
  have hL := t1.1.1
  have g2 : gF G 15 2 0 = some (nW W.2.2.2.1.2) := by
    have : gF G 15 2 0 = some (mI G 2 0) := if_pos h1.ps.2.1.1
    rw [this, t1.1.2.1]
  unfold fX6_truncateInput fX6_truncateInput_0 fX6_truncateInput_20 oTrunc
  simp only [lits]
  rw [h1.f0, Option.bind_some, h1.ps.g0, Option.bind_some]
  rcases ixZ_spec (z := z) (show W.2.2.2.1.2 + 1 < 2147483648 by omega) with ⟨j, e1, e2, e3, e4, e5⟩ | ⟨e1, e2, -⟩
  · subst e3
    have pi1 : pI G 15 2 0 (nW j) = some (wIJ G (u2 (mI G) 2 0 (nW j)) (mJ G)) := by
      have := pI_wij (x := mI G) (y := mJ G) h1.ps.2.1.1 (k := 0) (v := nW j)
      rw [wij_self] at this; exact this
    rw [e1, if_neg e4, g2, Option.bind_some, if_pos ((nW_le (by omega) (by omega)).mpr (by omega)), pi1, Option.bind_some]
    refine ⟨_, rfl, ⟨ro, l, K, h1, h2, h3.soft h1 (fun b hb => ⟨u2_arow (by omega), rfl⟩) ⟨u2_apart (by decide), u2_apart (by decide)⟩ (u2_arow (by decide)) rfl rfl rfl rfl ⟨⟨by show j ≤ 600; omega, u2_same, fun i hi => ?_⟩, by rw [u2_apart (by decide)]; exact t1.2.1, by rw [u2_apart (by decide)]; exact t1.2.2⟩ (by rw [u2_arow (by decide), u2_arow (by decide)]; exact o1)⟩, RKp.wij (fun b q1 q2 => ⟨u2_arow (by omega), rfl⟩)⟩
    show W.2.2.2.1.1 i < 256 ∧ u2 (mI G) 2 0 (nW j) 3 i &&& nW 255 = nW (W.2.2.2.1.1 i)
    rw [u2_apart (by decide)]
    have hi : i < j := hi
    exact t1.1.2.2 i (by omega)
  · rw [e1]
    rcases e2 with e2 | e2
    · rw [if_pos e2, h2.thw]; exact COut.same hC
    · have : ¬ z ≤ nW W.2.2.2.1.2 := by
        have := e2.2
        rw [Int32.lt_iff_toInt_lt, nW_int (by omega)] at this
        rw [Int32.le_iff_toInt_le, nW_int (by omega)]; omega
      rw [if_neg e2.1, g2, Option.bind_some, if_neg this, h2.thw]; exact COut.same hC
/-- a byte more of the output -/
theorem cwb_ok (h : CSh G ro l K) {x : Nat → Nat → Int32} {y : Nat → Nat → Int64} {n v : Nat} (hn : n < 41) (hv : v < 128) (h0 : x 0 11 = nW n) : fX6_writeByte 0 (nW v) (wIJ G x y) = some ((), wIJ G (u2 (u2 x 0 11 (nW (n + 1))) 54 n (nW v)) y) := by
  have s := h.2.2.2.2.1.2.1
  have g10 : gR (wIJ G x y) 16 0 10 = some 54 := h.f10
  have gl : gL (wIJ G x y) 54 = some (nW 41) := by
    rw [gL_wij, gL_ok (Or.inr (Or.inl s.1)), s.2]
  unfold fX6_writeByte fX6_writeByte_0 fX6_writeByte_30
  simp only [lits]
  rw [gF_wij h.t, h0, Option.bind_some, g10, Option.bind_some, gl, Option.bind_some, if_neg (by rw [nW_le (by decide) (by omega)]; omega), Option.bind_some, Option.bind_some, nW_add, pI_wij h.t, Option.bind_some, byte_keep v hv, pB_wij s.1 (by rw [s.2]; exact hn) (by rw [s.2]; decide), byte_keep v hv, Option.bind_some]
theorem picB_lt {c r : Nat} {P : Nat → Nat} (h : ∀ k, P k < 11) (i : Nat) : picB c r P i < 128 := by
  unfold picB
  split
  · decide
  · exact ltr_lt _ (h _)
theorem cwrite_ok (hC : CI G (d + 1) W) {p : Int32} : COut G (d + 1) (fX6_writePosition 0 p G) (oWrite W p) := by
  obtain ⟨ro, l, K, h1, h2, h3⟩ := id hC
  obtain ⟨p1, -⟩ := h3.split
  obtain ⟨b0, b1, b2, b3⟩ := h1.bd p1
  obtain ⟨z1, z2, z3, z4⟩ := p1.2.1
  have hn := szs36 p1.2.1
  have hrun := (lyN_run p1.2.2.1 p1.2.2.2.2.1).1
  have h40 : pcA W.1 ≤ 40 := hrun.1
  have hr := h1.r (show 0 < 12 by decide)
  have fr := fa_ok hr
  have lp := h1.lp hr
  obtain ⟨-, -, -, -, t1, o1, -⟩ := id h3
  unfold fX6_writePosition fX6_writePosition_0 oWrite
  simp only [lits]
  rw [ck_ok h1.t, reqPos_ok h1 h2 p1, Option.bind_some]
  rcases ixZ_spec (z := p) (show pcA W.1 < 2147483648 by omega) with ⟨i, e1, e2, rfl, -, -⟩ | ⟨e1, -, -⟩
  · have w11 := (hrun.2 i e2).1
    generalize hP : lyp (lyA W.1) i = P at *
    -- the memory with k bytes written
    let X : Nat → Nat → Nat → Int32 := fun k b j => if b = 0 ∧ j = 11 then nW k else if b = 54 ∧ j < k then nW (picB W.1.1 W.1.2.1 P j) else mI G b j
    have X11 : ∀ k, X k 0 11 = nW k := fun k => if_pos ⟨rfl, rfl⟩
    have Xo : ∀ k b j, ¬ (b = 0 ∧ j = 11) → b ≠ 54 → X k b j = mI G b j := fun k b j q1 q2 => by
      show (if _ then _ else if _ then _ else _) = _
      rw [if_neg q1, if_neg (fun z => q2 z.1)]
    have Xs : ∀ k, u2 (u2 (X k) 0 11 (nW (k + 1))) 54 k (nW (picB W.1.1 W.1.2.1 P k)) = X (k + 1) := fun k => by
      funext b j
      show _ = if b = 0 ∧ j = 11 then nW (k + 1) else if b = 54 ∧ j < k + 1 then _ else _
      by_cases q : b = 0 ∧ j = 11
      · rw [if_pos q, q.1, q.2, u2_other (by omega), u2_same]
      · rw [if_neg q]
        by_cases q2 : b = 54 ∧ j = k
        · rw [if_pos ⟨q2.1, by omega⟩, q2.1, q2.2, u2_same]
        · rw [u2_other q2, u2_other q]
          show (if _ then _ else if _ then _ else _) = _
          rw [if_neg q]
          by_cases q3 : b = 54 ∧ j < k
          · rw [if_pos q3, if_pos ⟨q3.1, by omega⟩]
          · rw [if_neg q3, if_neg (by omega)]
    have wb : ∀ k, k < 41 → fX6_writeByte 0 (nW (picB W.1.1 W.1.2.1 P k)) (wIJ G (X k) (mJ G)) = some ((), wIJ G (X (k + 1)) (mJ G)) := fun k hk => by
      rw [cwb_ok h1 hk (picB_lt w11 k) (X11 k), Xs]
    have rp : ∀ k, ARk (wIJ G (X k) (mJ G)) ro l K 0 W.1 := fun k => p1.soft h1 (by decide) (fun b hb => ⟨funext fun j => Xo k b j (by omega) (by omega), rfl⟩)
    have s1 : ∀ k, CSh (wIJ G (X k) (mJ G)) ro l K := fun k => h1
    -- one row: y counts from the top
    have hc41 : (W.1.1 + 1) * W.1.2.1 ≤ 42 := by
      have : (W.1.1 + 1) * W.1.2.1 = W.1.1 * W.1.2.1 + W.1.2.1 := by rw [Nat.add_mul, Nat.one_mul]
      omega
    have col : ∀ u, u < W.1.2.1 → ∀ x, x < W.1.1 → fX6_writePosition_32 0 (nW i) (fa (ro 0) + 1) (nW (W.1.2.1 - 1 - u)) (nW x) (wIJ G (X (u * (W.1.1 + 1) + x)) (mJ G)) = some (.inl (nW (x + 1)), wIJ G (X (u * (W.1.1 + 1) + (x + 1))) (mJ G)) := fun u hu x hx => by
      obtain ⟨-, c1, -, -⟩ := (s1 (u * (W.1.1 + 1) + x)).bd (rp _)
      have ux : u * (W.1.1 + 1) + x + 1 < (W.1.1 + 1) * W.1.2.1 := by
        have : (u + 1) * (W.1.1 + 1) ≤ W.1.2.1 * (W.1.1 + 1) := Nat.mul_le_mul_right _ hu
        rw [Nat.add_mul, Nat.one_mul, Nat.mul_comm W.1.2.1] at this
        omega
      have ht := grid_lt (show W.1.2.1 - 1 - u < W.1.2.1 by omega) hx
      have sqo : ∀ k, fX0_squareOf (fa (ro 0) + 1) (nW x) (nW (W.1.2.1 - 1 - u)) (wIJ G (X k) (mJ G)) = some (nW ((W.1.2.1 - 1 - u) * W.1.1 + x), wIJ G (X k) (mJ G)) := fun k => by
        obtain ⟨-, c1, -, -⟩ := (s1 k).bd (rp k)
        unfold fX0_squareOf fX0_squareOf_0
        rw [c1, Option.bind_some, nW_mul, nW_add]
      have pe : picB W.1.1 W.1.2.1 P (u * (W.1.1 + 1) + x) = ltr (P ((W.1.2.1 - 1 - u) * W.1.1 + x)) := by
        unfold picB
        have m1 : (u * (W.1.1 + 1) + x) % (W.1.1 + 1) = x := by rw [Nat.mul_comm, Nat.mul_add_mod, Nat.mod_eq_of_lt (by omega)]
        have m2 : (u * (W.1.1 + 1) + x) / (W.1.1 + 1) = u := by rw [Nat.mul_comm, Nat.mul_add_div (by omega), Nat.div_eq_of_lt (by omega), Nat.add_zero]
        rw [m1, m2, if_neg (by omega)]
      have ca : fX3_contentAt (fa (ro 0)) (nW i) (nW ((W.1.2.1 - 1 - u) * W.1.1 + x)) (wIJ G (X (u * (W.1.1 + 1) + x)) (mJ G)) = some (nW (enc (P ((W.1.2.1 - 1 - u) * W.1.1 + x))), wIJ G (X (u * (W.1.1 + 1) + x)) (mJ G)) := by
        have := contentAt_ok (rp (u * (W.1.1 + 1) + x)).2 (rp (u * (W.1.1 + 1) + x)).1 (q := (W.1.2.1 - 1 - u) * W.1.1 + x) e2 (by omega)
        rw [show lyp (lyN W.1.1 (W.1.1 * W.1.2.1) W.1.2.2.1 W.1.2.2.2.1 W.1.2.2.2.2).1 i = P from hP] at this
        exact this
      have wbx := wb (u * (W.1.1 + 1) + x) (by omega)
      rw [pe] at wbx
      unfold fX6_writePosition_32
      simp only [lits]
      rw [c1, Option.bind_some, if_neg (by rw [nW_le (by omega) (by omega)]; omega), (s1 _).f3, Option.bind_some, ck_wij, ck_ok p1.1.1.1.b.1, sqo, Option.bind_some, ck_wij, ck_ok p1.1.1.1.t, ca, Option.bind_some, cltr_all _ (w11 _), Option.bind_some, ck_wij, ck_ok h1.t, wbx, Option.bind_some, nW_add]
      rfl
    -- a whole row
    have inner : ∀ u, u < W.1.2.1 → ∀ e x fu, x + e = W.1.1 → e < fu → loopM (fun (s : Int32) G => fX6_writePosition_32 0 (nW i) (fa (ro 0) + 1) (nW (W.1.2.1 - 1 - u)) s G) fu (nW x) (wIJ G (X (u * (W.1.1 + 1) + x)) (mJ G)) = fX6_writePosition_69 0 (nW i) (fa (ro 0) + 1) (nW (W.1.2.1 - 1 - u)) (wIJ G (X (u * (W.1.1 + 1) + W.1.1)) (mJ G)) := fun u hu e => by
      induction e with
      | zero =>
        intro x fu hx hfu
        obtain ⟨fu, rfl⟩ : ∃ k, fu = k + 1 := ⟨fu - 1, by omega⟩
        have : x = W.1.1 := by omega
        subst this
        refine loopM_lift (f := fun (s : Int32) G => fX6_writePosition_32 0 (nW i) (fa (ro 0) + 1) (nW (W.1.2.1 - 1 - u)) s G) ?_
        obtain ⟨-, c1, -, -⟩ := (s1 (u * (W.1.1 + 1) + W.1.1)).bd (rp _)
        show fX6_writePosition_32 _ _ _ _ _ _ = _
        unfold fX6_writePosition_32
        rw [c1, Option.bind_some, if_pos ((nW_le (by omega) (by omega)).mpr (Nat.le_refl _))]
      | succ e ih =>
        intro x fu hx hfu
        obtain ⟨fu, rfl⟩ : ∃ k, fu = k + 1 := ⟨fu - 1, by omega⟩
        rw [loopM_next (f := fun (s : Int32) G => fX6_writePosition_32 0 (nW i) (fa (ro 0) + 1) (nW (W.1.2.1 - 1 - u)) s G) (col u hu x (by omega))]
        exact ih (x + 1) fu (by omega) (by omega)
    have m1 : ∀ a, 1 ≤ a → nW a + -nW 1 = nW (a - 1) := fun a ha => by rw [← Int32.sub_eq_add_neg, nW_sub ha]
    have oL : (W.1.1 + 1) * W.1.2.1 - 1 = (W.1.2.1 - 1) * (W.1.1 + 1) + W.1.1 := by
      have : W.1.2.1 = (W.1.2.1 - 1) + 1 := by omega
      conv => lhs; rw [this, Nat.mul_add, Nat.mul_one, Nat.mul_comm]
      omega
    let S : Nat → Int32 := fun u => if u < W.1.2.1 then nW (W.1.2.1 - 1 - u) else -nW 1
    let M : Nat → Mem := fun u => wIJ G (X (if u < W.1.2.1 then u * (W.1.1 + 1) else (W.1.1 + 1) * W.1.2.1 - 1)) (mJ G)
    have outer := loop_to (f := fun (s : Int32) G => fX6_writePosition_25 0 (nW i) (fa (ro 0) + 1) s G) S M W.1.2.1 (.inl (nW ((W.1.1 + 1) * W.1.2.1 - 1))) (wIJ G (X ((W.1.1 + 1) * W.1.2.1 - 1)) (mJ G)) (fun u hu => by
      show fX6_writePosition_25 _ _ _ (if u < W.1.2.1 then _ else _) (wIJ G (X (if u < W.1.2.1 then _ else _)) (mJ G)) = some (.inl (if u + 1 < W.1.2.1 then _ else _), wIJ G (X (if u + 1 < W.1.2.1 then _ else _)) (mJ G))
      rw [if_pos hu, if_pos hu]
      have inn : loopM (fun (s : Int32) G => fX6_writePosition_32 0 (nW i) (fa (ro 0) + 1) (nW (W.1.2.1 - 1 - u)) s G) FU (nW 0) (wIJ G (X (u * (W.1.1 + 1))) (mJ G)) = fX6_writePosition_69 0 (nW i) (fa (ro 0) + 1) (nW (W.1.2.1 - 1 - u)) (wIJ G (X (u * (W.1.1 + 1) + W.1.1)) (mJ G)) := inner u hu W.1.1 0 FU (by omega) (by show W.1.1 < 100000; omega)
      unfold fX6_writePosition_25
      simp only [lits]
      rw [if_neg (nW_neg_lt (by omega)), inn]
      unfold fX6_writePosition_69 fX6_writePosition_79
      simp only [lits]
      by_cases q : u + 1 < W.1.2.1
      · have pe : picB W.1.1 W.1.2.1 P (u * (W.1.1 + 1) + W.1.1) = 10 := by
          unfold picB
          have m1 : (u * (W.1.1 + 1) + W.1.1) % (W.1.1 + 1) = W.1.1 := by rw [Nat.mul_comm, Nat.mul_add_mod, Nat.mod_eq_of_lt (by omega)]
          rw [m1, if_pos rfl]
        have ux : u * (W.1.1 + 1) + W.1.1 < 41 := by
          have : (u + 2) * (W.1.1 + 1) ≤ W.1.2.1 * (W.1.1 + 1) := Nat.mul_le_mul_right _ q
          rw [Nat.add_mul, Nat.mul_comm W.1.2.1] at this
          omega
        have wbx := wb (u * (W.1.1 + 1) + W.1.1) ux
        rw [pe] at wbx
        rw [if_neg (by rw [nW_le (by omega) (by decide)]; omega), ck_wij, ck_ok h1.t, wbx, Option.bind_some, m1 _ (by omega), if_pos q, if_pos q, show W.1.2.1 - 1 - u - 1 = W.1.2.1 - 1 - (u + 1) by omega, show u * (W.1.1 + 1) + W.1.1 + 1 = (u + 1) * (W.1.1 + 1) by rw [Nat.add_mul, Nat.one_mul]; omega]
      · have eu : u = W.1.2.1 - 1 := by omega
        rw [if_pos (by rw [nW_le (by omega) (by decide)]; omega), if_neg q, if_neg q, oL, ← eu, Nat.sub_self]
        rfl) (by
      show fX6_writePosition_25 _ _ _ (if W.1.2.1 < W.1.2.1 then _ else _) (wIJ G (X (if W.1.2.1 < W.1.2.1 then _ else _)) (mJ G)) = _
      rw [if_neg (Nat.lt_irrefl _), if_neg (Nat.lt_irrefl _)]
      unfold fX6_writePosition_25 fX6_writePosition_85
      simp only [lits]
      rw [if_pos m1_lt0, gF_wij h1.t, X11]
      rfl) W.1.2.1 0 FU (by omega) (by show W.1.2.1 < 100000; omega)
    have S0 : S 0 = nW (W.1.2.1 - 1) := if_pos (by omega)
    have M0 : M 0 = wIJ G (X 0) (mJ G) := by
      show wIJ G (X (if 0 < W.1.2.1 then _ else _)) _ = _
      rw [if_pos (by omega), Nat.zero_mul]
    rw [S0, M0] at outer
    have X0 : u2 (mI G) 0 11 (nW 0) = X 0 := by
      funext b j
      show _ = if b = 0 ∧ j = 11 then nW 0 else if b = 54 ∧ j < 0 then _ else mI G b j
      by_cases q : b = 0 ∧ j = 11
      · rw [if_pos q, q.1, q.2, u2_same]
      · rw [if_neg q, u2_other q, if_neg (by omega)]
    have pi1 : pI G 16 0 11 (nW 0) = some (wIJ G (X 0) (mJ G)) := by
      have := pI_wij (x := mI G) (y := mJ G) h1.t (k := 11) (v := nW 0)
      rw [wij_self] at this; rw [this, X0]
    obtain ⟨-, -, c2, -⟩ := (s1 0).bd (rp 0)
    rw [e1]
    show COut G (d + 1) ((gR G 16 0 3).bind fun v3 => (gR G 13 v3 0).bind fun v4 => (pI G 16 0 11 (nW 0)).bind fun G5 => (gF G5 10 v4 1).bind fun v6 => loopM (fun (s : Int32) G => fX6_writePosition_25 0 (nW i) v4 s G) FU (v6 - nW 1) G5) _
    rw [h1.f3, Option.bind_some, b0, Option.bind_some, pi1, Option.bind_some, c2, Option.bind_some, nW_sub (by omega), outer]
    refine ⟨_, rfl, ⟨ro, l, K, h1, h2, h3.soft h1 (fun b hb => ⟨funext fun j => Xo _ b j (by omega) (by omega), rfl⟩) ⟨Xo _ 0 6 (by omega) (by decide), Xo _ 0 7 (by omega) (by decide)⟩ (funext fun j => Xo _ 53 j (by omega) (by decide)) rfl rfl rfl rfl ⟨t1.1.frame (Xo _ 2 0 (by omega) (by decide)) (funext fun j => Xo _ 3 j (by omega) (by decide)), (Xo _ 1 1 (by omega) (by decide)).trans t1.2.1, (Xo _ 1 2 (by omega) (by decide)).trans t1.2.2⟩ ⟨X11 _, by show (W.1.1 + 1) * W.1.2.1 - 1 ≤ 41; omega, fun k hk => ⟨?_, ?_⟩⟩⟩, RKp.wij (fun b q1 q2 => ⟨funext fun j => Xo _ b j (by omega) (by omega), rfl⟩)⟩
    · show (if 54 = 0 ∧ k = 11 then _ else if 54 = 54 ∧ k < (W.1.1 + 1) * W.1.2.1 - 1 then nW (picB W.1.1 W.1.2.1 P k) else _) = nW (picB W.1.1 W.1.2.1 (lyp (lyA W.1) i) k)
      rw [if_neg (by omega), if_pos ⟨rfl, hk⟩, hP]
    · show picB W.1.1 W.1.2.1 (lyp (lyA W.1) i) k < 128
      rw [hP]; exact picB_lt w11 k
  · rw [e1]; exact COut.same hC
end CREADS3
