/-! ===== the reference's public methods: origins, pieces, consistency, games if noted ===== -/
section MCLAR
variable {G : Mem} {W : WSt} {x x' : Nat → Nat → Int32} {y y' : Nat → Nat → Int64} {hs : Nat → Int32}
theorem mclar_ok (h : MSh G 265) (hA : AAOK W.1) (hR : RQ x y W) {z cx ry : Int32} (h2 : hs 2 = nW 1) (h0 : hs 0 = nW 2) (h1 : hs 1 = nW 3) : MOut G x y (fX7_clarify 265 z cx ry (wIJ G x y)) (oClar W z cx ry) hs := by
  have hm := hA.2.2.1
  have hc1 := hA.1.2.1
  have hc2 := hA.1.2.2.2
  have fD : ∀ (x : Nat → Nat → Int32) (y : Nat → Nat → Int64), fX7_fails 265 (nW 0) (nW 0) (nW 1) (wIJ G x y) = some (nW 1, wIJ G (u2 x 265 6 (nW 3)) y) := fun x y => fails_ok (a := false) (b := false) (c := true) h
  have fC : fX7_fails 265 (nW 0) (nW 1) (nW 0) (wIJ G x y) = some (nW 1, wIJ G (u2 x 265 6 (nW 2)) y) := fails_ok (a := false) (b := true) (c := false) h
  have fT : ∀ c : Bool, fX7_fails 265 (nW 1) (bI c) (nW 0) (wIJ G x y) = some (nW 1, wIJ G (u2 x 265 6 (nW 1)) y) := fun c => fails_ok (a := true) (b := c) (c := false) h
  -- up to the second step
  have go : fX7_clarify 265 z cx ry (wIJ G x y) = fX7_clarify_42 265 z cx ry (bI (ixZ z W.1.2.2.2.2).isNone) (bI (!(sttd cx W.1.1 && sttd ry W.1.2.1))) (wIJ G x y) := by
    unfold fX7_clarify fX7_clarify_0 fX7_clarify_37
    simp only [lits]
    rw [ck_wij, ck_ok h.t, noNote_ok h hA hR, Option.bind_some, gR_wij, h.g0, Option.bind_some, hR.c0 h, Option.bind_some, isStated_ok (by omega), Option.bind_some]
    cases sttd cx W.1.1 with
    | false => rw [if_pos bIf]; rfl
    | true =>
      rw [if_neg bIt, gR_wij, h.g0, Option.bind_some, hR.r1 h, Option.bind_some, isStated_ok (by omega), Option.bind_some]
      cases sttd ry W.1.2.1 with
      | false => rw [if_pos bIf]; rfl
      | true => rw [if_neg bIt]; rfl
  rw [go]
  unfold oClar
  rcases ixZ_spec (z := z) (show W.1.2.2.2.2 < 2147483648 by omega) with ⟨k, e1, e2, rfl, -, -⟩ | ⟨e1, -, -⟩
  · rw [e1]
    show MOut G x y (fX7_clarify_42 265 (nW k) cx ry (nW 0) (bI (!(sttd cx W.1.1 && sttd ry W.1.2.1))) (wIJ G x y)) (if (sttd cx W.1.1 && sttd ry W.1.2.1) = false then (.inr 0, W) else match aOrg W.1 k cx ry with | none => (.inr 1, W) | some A => (.inl (nW (pcA A)), (A, rem8 W.2.1 W.1, W.2.2))) hs
    cases hst : (sttd cx W.1.1 && sttd ry W.1.2.1) with
    | false =>
      unfold fX7_clarify_42
      simp only [lits]
      rw [ck_wij, ck_ok h.t, show fX7_fails 265 (nW 0) (bI (!false)) (nW 0) (wIJ G x y) = _ from fC, Option.bind_some, if_neg (show ¬ nW 1 = nW 0 by decide), if_pos trivial]
      exact MOut.bad hR h0
    | true =>
      have hR' := hR.six (v := nW 0)
      obtain ⟨c1, c2⟩ := copyRow_ok (x := u2 x 265 6 (nW 0)) (y := y) h.r0 h.r3 (p := 0) (q := 0) (by omega) (by omega) ⟨by decide, by decide⟩
      generalize hx1 : ur (u2 x 265 6 (nW 0)) (265 + 4) (va_cpy (u2 x 265 6 (nW 0) (265 + 1)) (u2 x 265 6 (nW 0) (265 + 4)) 0 0 109) = x1 at *
      have X1 : ∀ b, b ≠ 269 → x1 b = u2 x 265 6 (nW 0) b := fun b hb => by rw [← hx1, ur_arow hb]
      have K1 : MKa x1 269 0 W.1 := hR'.1.1.kept.move hm (fun k hk => c2 k hk)
      obtain ⟨a1, a2, a3⟩ := hR'.1
      have Q1 : MRa x1 y 265 W.1 := ⟨a1.frame (X1 _ (by decide)), a2.same (X1 _ (by decide)) (X1 _ (by decide)) (X1 _ (by decide)) (X1 _ (by decide)) rfl, a3⟩
      obtain ⟨v, x2, y2, s1, s2, s3, s4⟩ := states_ok h hA Q1 e2 (cx := cx) (ry := ry)
      have R2 : ∀ b, b ≠ 265 → b ≠ 266 → b ≠ 269 → (b < 273 ∨ 277 < b) → x2 b = x b := fun b q1 q2 q3 q4 => by rw [s2 b q2 q4, X1 b q3, u2_arow q1]
      have C2 : x2 265 = u2 x 265 6 (nW 0) 265 := by rw [s2 265 (by decide) (by decide), X1 265 (by decide)]
      have C2o : ∀ j, j ≠ 6 → x2 265 j = x 265 j := fun j hj => by rw [C2, u2_other (fun z => hj z.2)]
      have M2 : MFm x x2 y y2 := fun b hb => ⟨R2 b (by omega) (by omega) (by omega) (by omega), s3 b (by omega)⟩
      have K2 : KRep x2 265 W.2.1 := hR.2.1.same (C2o 5 (by decide)) (R2 267 (by decide) (by decide) (by decide) (by decide))
      unfold fX7_clarify_42
      simp only [lits]
      rw [ck_wij, ck_ok h.t, show fX7_fails 265 (nW 0) (bI (!true)) (nW 0) (wIJ G x y) = _ from failsF h, Option.bind_some, if_pos (show nW 0 = nW 0 from rfl), gR_wij, h.g0, Option.bind_some, gR_wij, h.g3, Option.bind_some, c1, Option.bind_some, ck_wij, ck_ok h.t, s1, Option.bind_some, if_neg (show ¬ true = false by decide)]
      rcases s4 with ⟨k1, rfl, k3⟩ | ⟨k1, rfl, k3⟩
      · have ea : aOrg W.1 k cx ry = some (W.1.1, W.1.2.1, orgN W.1.2.2.1 k cx ry, W.1.2.2.2.1, W.1.2.2.2.2) := aOrg_some (c := W.1.1) (r := W.1.2.1) (N := W.1.2.2.1) (P0 := W.1.2.2.2.1) (m := W.1.2.2.2.2) k1
        have o1 : orgN W.1.2.2.1 k cx ry k 1 = cx := by unfold orgN updF; rw [if_pos rfl, if_pos rfl]
        have o2 : orgN W.1.2.2.1 k cx ry k 2 = ry := by unfold orgN updF; rw [if_pos rfl, if_neg (by decide), if_pos rfl]
        have f1 := of_ok (x := x2) (y := y2) h (show k < 10 by omega) (show 1 < 7 by decide) (k3.1.2.2.2 k e2)
        have f2 := of_ok (x := x2) (y := y2) h (show k < 10 by omega) (show 2 < 7 by decide) (k3.1.2.2.2 k e2)
        rw [o1] at f1; rw [o2] at f2
        have K2m : MKa (u2 x2 265 6 (nW 0)) 269 0 W.1 := K1.same (by rw [u2_arow (by decide), s2 269 (by decide) (by decide)])
        obtain ⟨x3, r1, r2, r3, r4⟩ := remember_ok (x := u2 x2 265 6 (nW 0)) (y := y2) h h.r3 (by decide) (by decide) K2m hm (K2.same (u2_other (by decide)) (u2_arow (by decide)))
        have R3 : ∀ b, b ≠ 265 → b ≠ 267 → x3 b = x2 b := fun b q1 q2 => by rw [r2 b q1 q2, u2_arow q1]
        obtain ⟨b1, b2, b3⟩ := k3
        have Q3 : MRa x3 y2 265 (W.1.1, W.1.2.1, orgN W.1.2.2.1 k cx ry, W.1.2.2.2.1, W.1.2.2.2.2) := ⟨b1.frame (R3 _ (by decide) (by decide)), b2.same (R3 _ (by decide) (by decide)) (R3 _ (by decide) (by decide)) (R3 _ (by decide) (by decide)) (R3 _ (by decide) (by decide)) rfl, b3⟩
        have g2 : gA (wIJ G x3 y2) 1 (265 + 1) (nW 2) = some (nW W.1.2.2.2.2) := Q3.s2 h
        have g9 : gA (wIJ G x3 y2) 1 (265 + 9) (nW W.1.2.2.2.2) = some (nW (pcA (W.1.1, W.1.2.1, orgN W.1.2.2.1 k cx ry, W.1.2.2.2.1, W.1.2.2.2.2))) := Q3.many h hm (Nat.le_refl _)
        unfold fX7_clarify_106 fX7_clarify_121
        simp only [lits]
        rw [if_neg (show ¬ nW 1 = nW 0 by decide), ck_wij, ck_ok h.t, f1, Option.bind_some, if_pos (show cx = cx from rfl), ck_wij, ck_ok h.t, f2, Option.bind_some, if_pos (show ry = ry from rfl), if_neg (show ¬ nW 1 = nW 0 by decide), ck_wij, ck_ok h.t, failsF h, Option.bind_some, if_pos (show nW 0 = nW 0 from rfl), gR_wij, h.g3, Option.bind_some, ck_wij, ck_ok h.t, r1, Option.bind_some, gR_wij, h.g14, Option.bind_some, gR_wij, h.g0, Option.bind_some, g2, Option.bind_some, g9, Option.bind_some, ea]
        exact MOut.mk' (fun b hb => ⟨by rw [R3 b (by omega) (by omega), (M2 b hb).1], (M2 b hb).2⟩) (hR.state Q3 r4 (fun j q1 q2 => by rw [r3 j q1, u2_other (fun z => q2 z.2), C2o j q2]) (fun b hb => by rw [R3 b (by omega) (by omega), R2 b (by omega) (by omega) (by omega) (by omega)])) (by rw [r3 6 (by decide), u2_same])
      · have ea : aOrg W.1 k cx ry = none := aOrg_none (c := W.1.1) (r := W.1.2.1) (N := W.1.2.2.1) (P0 := W.1.2.2.2.1) (m := W.1.2.2.2.2) k1
        have Q2 : RQ x2 y2 W := hR.state k3 K2 (fun j _ q2 => C2o j q2) (fun b hb => R2 b (by omega) (by omega) (by omega) (by omega))
        unfold fX7_clarify_105 fX7_clarify_106 fX7_clarify_121
        simp only [lits]
        rw [if_pos trivial, if_pos trivial, ck_wij, ck_ok h.t, fD, Option.bind_some, if_neg (show ¬ nW 1 = nW 0 by decide), ea]
        exact MOut.no (M2.trans MFm.u2) Q2.six (u2_same.trans h1.symm)
  · rw [e1]
    unfold fX7_clarify_42
    simp only [lits]
    rw [ck_wij, ck_ok h.t, show fX7_fails 265 (bI (none : Option Nat).isNone) (bI (!(sttd cx W.1.1 && sttd ry W.1.2.1))) (nW 0) (wIJ G x y) = _ from fT _, Option.bind_some, if_neg (show ¬ nW 1 = nW 0 by decide)]
    exact MOut.bad hR h2
theorem mpiece_ok (h : MSh G 265) (hA : AAOK W.1) (hR : RQ x y W) {a b co k : Int32} (h2 : hs 2 = nW 1) (h0 : hs 0 = nW 2) : MOut G x y (fX7_gamesWithPiece 265 a b co k (wIJ G x y)) (oPiece W a b co k) hs := by
  have hn := szs36 hA.1
  have hm := hA.2.2.1
  have hrun := (lyN_run hA.2.1 hA.2.2.2.1).1
  have h40 : pcA W.1 ≤ 40 := hrun.1
  have i2 : fX7_isIn co (nW 0) (nW 1) (wIJ G x y) = some (bI (ixZ co 2).isSome, wIJ G x y) := isIn_ix (n := 2) (by decide)
  have i5 : fX7_isIn k (nW 0) (nW 4) (wIJ G x y) = some (bI (ixZ k 5).isSome, wIJ G x y) := isIn_ix (n := 5) (by decide)
  -- up to the failures
  have go : fX7_gamesWithPiece 265 a b co k (wIJ G x y) = fX7_gamesWithPiece_31 265 a b co k 265 (bI (sqZ a b W.1.1 W.1.2.1).isNone) (bI (!((ixZ co 2).isSome && (ixZ k 5).isSome))) (wIJ G x y) := by
    unfold fX7_gamesWithPiece fX7_gamesWithPiece_0 fX7_gamesWithPiece_26
    simp only [lits]
    rw [ck_wij, ck_ok h.t, noSquare_ok h hA hR, Option.bind_some, i2, Option.bind_some]
    cases (ixZ co 2).isSome with
    | false => rw [if_pos bIf]; rfl
    | true =>
      rw [if_neg bIt, i5, Option.bind_some]
      cases (ixZ k 5).isSome with
      | false => rw [if_pos bIf]; rfl
      | true => rw [if_neg bIt]; rfl
  rw [go]
  unfold fX7_gamesWithPiece_31 oPiece
  simp only [lits]
  have ff := fails_ok (x := x) (y := y) (a := (sqZ a b W.1.1 W.1.2.1).isNone) (b := !((ixZ co 2).isSome && (ixZ k 5).isSome)) (c := false) h
  rw [ck_wij, ck_ok h.t, show fX7_fails 265 (bI (sqZ a b W.1.1 W.1.2.1).isNone) (bI (!((ixZ co 2).isSome && (ixZ k 5).isSome))) (nW 0) (wIJ G x y) = _ from ff, Option.bind_some]
  rcases sqZ_spec (x := a) (y := b) hA.1 with ⟨c, d, f1, f2, f3, rfl, rfl⟩ | f1
  · rw [f1]
    rcases ixZ_spec (z := co) (show 2 < 2147483648 by decide) with ⟨e, e1, e2, rfl, -, -⟩ | ⟨e1, -, -⟩
    · rcases ixZ_spec (z := k) (show 5 < 2147483648 by decide) with ⟨g, g1, g2, rfl, -, -⟩ | ⟨g1, -, -⟩
      · have ht := grid_lt f3 f2
        have hR' := hR.six (v := nW 0)
        have many : gA (wIJ G (u2 x 265 6 (nW 0)) y) 1 (265 + 9) (nW W.1.2.2.2.2) = some (nW (pcA W.1)) := hR'.1.many h hm (Nat.le_refl _)
        rw [e1, g1]
        show MOut G x y (if nW 0 = nW 0 then loopM (fun (s : Int64 × Int32) G => fX7_gamesWithPiece_46 265 (nW c) (nW d) (nW e) (nW g) s.1 s.2 G) FU ((0 : Int64), nW 0) (wIJ G (u2 x 265 6 (nW 0)) y) else _) (.inl (Int64.ofNat (gwp W.1 (d * W.1.1 + c) (1 + 5 * e + g))), W) hs
        rw [if_pos rfl]
        have lp := loop_to (f := fun (s : Int64 × Int32) G => fX7_gamesWithPiece_46 265 (nW c) (nW d) (nW e) (nW g) s.1 s.2 G) (fun p => (Int64.ofNat (sumN p fun p => if lyp (lyA W.1) p (d * W.1.1 + c) = 1 + 5 * e + g then lyg (lyA W.1) p else 0), nW p)) (fun _ => wIJ G (u2 x 265 6 (nW 0)) y) (pcA W.1) (Int64.ofNat (gwp W.1 (d * W.1.1 + c) (1 + 5 * e + g))) (wIJ G (u2 x 265 6 (nW 0)) y) (fun p hp => by
          show fX7_gamesWithPiece_46 _ _ _ _ _ _ _ _ = _
          have w : lyp (lyA W.1) p (d * W.1.1 + c) < 11 := (hrun.2 p hp).1 (d * W.1.1 + c)
          have gj : gJ (wIJ G (u2 x 265 6 (nW 0)) y) (265 + 13) (nW (W.1.2.2.2.2 * 40 + p)) = some (Int64.ofNat (lyg (lyA W.1) p)) := by
            rw [gJ_wij h.r18.1 (by rw [h.r18.2]; omega) (by rw [h.r18.2]; decide)]
            exact congrArg some ((hR'.1.2.1.1 W.1.2.2.2.2 (Nat.le_refl _)).2 p hp).1
          unfold fX7_gamesWithPiece_46 fX7_gamesWithPiece_105 fX7_pieceOf fX7_pieceOf_0
          simp only [lits]
          rw [gR_wij, h.g14, Option.bind_some, gR_wij, h.g0, Option.bind_some, hR'.m2 h, Option.bind_some, many, Option.bind_some, if_neg (by rw [nW_le (by omega) (by omega)]; omega), ck_wij, ck_ok h.t, square_sq h hR', Option.bind_some, ck_wij, ck_ok h.t, last_ok h hA hR'.1 hp (by omega), Option.bind_some, Option.bind_some, nW_mul, nW_add, nW_add, nW_add]
          show (if nW (lyp (lyA W.1) p (d * W.1.1 + c)) = nW (1 + 5 * e + g) then _ else _) = some (Sum.inl (Int64.ofNat (sumN p _ + if lyp (lyA W.1) p (d * W.1.1 + c) = 1 + 5 * e + g then _ else 0), _), _)
          by_cases q : lyp (lyA W.1) p (d * W.1.1 + c) = 1 + 5 * e + g
          · rw [if_pos (by rw [q]), if_pos q, gR_wij, h.g18, Option.bind_some, gR_wij, h.g0, Option.bind_some, hR'.m2 h, Option.bind_some, nW_mul, nW_add, gj, Option.bind_some, ← Int64.ofNat_add]
          · rw [if_neg (by rw [nW_eq (by omega) (by omega)]; exact q), if_neg q]; rfl) (by
          show fX7_gamesWithPiece_46 _ _ _ _ _ _ _ _ = _
          unfold fX7_gamesWithPiece_46 fX7_gamesWithPiece_111
          simp only [lits]
          rw [gR_wij, h.g14, Option.bind_some, gR_wij, h.g0, Option.bind_some, hR'.m2 h, Option.bind_some, many, Option.bind_some, if_pos ((nW_le (by omega) (by omega)).mpr (Nat.le_refl _))]
          rfl) (pcA W.1) 0 FU (by omega) (by show _ < 100000; omega)
        rw [show loopM (fun (s : Int64 × Int32) G => fX7_gamesWithPiece_46 265 (nW c) (nW d) (nW e) (nW g) s.1 s.2 G) FU ((0 : Int64), nW 0) (wIJ G (u2 x 265 6 (nW 0)) y) = _ from lp]
        exact MOut.good hR
      · rw [e1, g1]
        exact MOut.bad hR h0
    · rw [e1]
      exact MOut.bad hR h0
  · rw [f1]
    exact MOut.bad hR h2
end MCLAR
