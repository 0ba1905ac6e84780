/-! ===== the reference's public methods: reads that may fail ===== -/
theorem mkind_all : ∀ m, m < 11 → m ≠ 0 → (nW m - nW 1) - (nW m - nW 1) / nW 5 * nW 5 = pkd m := by decide +kernel
theorem mcol_all : ∀ m, m < 11 → m ≠ 0 → (nW m - nW 1) / nW 5 = pcl m := by decide +kernel
theorem cnt_len {g : Nat → Bool} : ∀ n, ((List.range n).filter g).length = cnt n g := by
  intro n
  induction n with
  | zero => rfl
  | succ n ih =>
    rw [List.range_succ, List.filter_append, List.length_append, ih]
    show _ = cnt n g + (if g n = true then 1 else 0)
    cases hg : g n with
    | true => rw [List.filter_cons_of_pos hg]; rfl
    | false => rw [List.filter_cons_of_neg (by rw [hg]; decide)]; rfl
section MREADS
variable {G : Mem} {W : WSt} {x : Nat → Nat → Int32} {y : Nat → Nat → Int64} {hs : Nat → Int32}
theorem failsT (h : MSh G 265) : fX7_fails 265 (nW 1) (nW 0) (nW 0) (wIJ G x y) = some (nW 1, wIJ G (u2 x 265 6 (nW 1)) y) := fails1_ok (a := true) h
theorem failsF (h : MSh G 265) : fX7_fails 265 (nW 0) (nW 0) (nW 0) (wIJ G x y) = some (nW 0, wIJ G (u2 x 265 6 (nW 0)) y) := fails1_ok (a := false) h
theorem MOut.mk' {ρ : Type} {v : ρ} {x' : Nat → Nat → Int32} {y' : Nat → Nat → Int64} {W' : WSt} (hM : MFm x x' y y') (hR : RQ x' y' W') (h6 : x' 265 6 = nW 0) : MOut G x y (some (v, wIJ G x' y')) (.inl v, W') hs := ⟨v, _, _, rfl, hM, hR, h6, fun a e => Sum.inl.inj e⟩
theorem MOut.no {ρ : Type} {v : ρ} {x' : Nat → Nat → Int32} {y' : Nat → Nat → Int64} {W' : WSt} {k : Nat} (hM : MFm x x' y y') (hR : RQ x' y' W') (h6 : x' 265 6 = hs k) : MOut G x y (some (v, wIJ G x' y')) ((.inr k : ρ ⊕ Nat), W') hs := ⟨v, _, _, rfl, hM, hR, h6, fun a e => by cases e⟩
theorem RQ.rows {x' : Nat → Nat → Int32} (hR : RQ x y W) (hx : ∀ b, b ≠ 277 → b ≠ 280 → x' b = x b) : RQ x' y W := by
  obtain ⟨⟨h1, h2, h3⟩, k1, s1, t1, e1, o1⟩ := hR
  refine ⟨⟨h1.frame (hx _ (by decide) (by decide)), h2.same (hx _ (by decide) (by decide)) (hx _ (by decide) (by decide)) (hx _ (by decide) (by decide)) (hx _ (by decide) (by decide)) rfl, h3⟩, k1.same (by rw [hx 265 (by decide) (by decide)]) (hx _ (by decide) (by decide)), fun j hj => ⟨by rw [hx 270 (by decide) (by decide)]; exact (s1 j hj).1, fun A hA => ⟨((s1 j hj).2 A hA).1.same (hx _ (by decide) (by decide)), ((s1 j hj).2 A hA).2⟩⟩, t1.frame (by rw [hx 265 (by decide) (by decide)]) (hx _ (by decide) (by decide)), ?_, ?_⟩
  · rw [hx 265 (by decide) (by decide)]; exact e1
  · rw [hx 265 (by decide) (by decide), hx 272 (by decide) (by decide)]; exact o1
theorem MFm.rows {x' : Nat → Nat → Int32} (hx : ∀ b, b ≠ 277 → b ≠ 280 → x' b = x b) : MFm x x' y y := fun b hb => ⟨hx b (by omega) (by omega), rfl⟩
theorem mofNote_ok (h : MSh G 265) (hA : AAOK W.1) (hR : RQ x y W) {z : Int32} {k : Nat} (hk : k < 7) (h2 : hs 2 = nW 1) : MOut G x y (fX7_ofNote 265 z (nW k) (wIJ G x y)) (oNote W z k) hs := by
  have hm := hA.2.2.1
  unfold fX7_ofNote fX7_ofNote_0 fX7_ofNote_24 oNote
  simp only [lits]
  rw [ck_wij, ck_ok h.t, noNote_ok h hA hR, Option.bind_some, ck_wij, ck_ok h.t, fails1_ok h, Option.bind_some]
  rcases ixZ_spec (z := z) (show W.1.2.2.2.2 < 2147483648 by omega) with ⟨j, e1, e2, rfl, -, -⟩ | ⟨e1, -, -⟩
  · rw [e1, if_pos (show bI (some j).isNone = nW 0 from rfl), ck_wij, ck_ok h.t, of_ok h (by omega) hk ((hR.six (v := fcd (some j).isNone false false)).1.1.2.2.2 j e2), Option.bind_some]
    exact MOut.good hR
  · rw [e1, if_neg (show ¬ bI (none : Option Nat).isNone = nW 0 from bIt)]
    exact MOut.bad hR h2
theorem mnoteI_ok (h : MSh G 265) (hA : AAOK W.1) (hR : RQ x y W) {z : Int32} {k : Nat} (hk : k < 7) (h2 : hs 2 = nW 1) {f : Nat → Int32 → Mem → Option (Int32 × Mem)} (hf : f 265 z (wIJ G x y) = ck (wIJ G x y) 17 265 ((fX7_ofNote 265 z (nW k) (wIJ G x y)).bind fun q1 => some (q1.1, q1.2))) : MOut G x y (f 265 z (wIJ G x y)) (oNote W z k) hs := by
  obtain ⟨v, x', y', e, r⟩ := mofNote_ok (hs := hs) h hA hR (z := z) hk h2
  rw [hf, ck_wij, ck_ok h.t, e, Option.bind_some]
  exact ⟨v, x', y', rfl, r⟩
theorem mnoteB_ok (h : MSh G 265) (hA : AAOK W.1) (hR : RQ x y W) {z : Int32} {k : Nat} (hk : k = 5 ∨ k = 6) (h2 : hs 2 = nW 1) {f : Nat → Int32 → Mem → Option (Int32 × Mem)} (hf : f 265 z (wIJ G x y) = ck (wIJ G x y) 17 265 ((fX7_ofNote 265 z (nW k) (wIJ G x y)).bind fun q1 => if q1.1 = nW 1 then rz (nW 1) (some (nW 1, q1.2)) else rz (nW 0) (some (nW 0, q1.2)))) : MOut G x y (f 265 z (wIJ G x y)) (oNote W z k) hs := by
  have hm := hA.2.2.1
  obtain ⟨v, x', y', e, r1, r2, r3, r4⟩ := mofNote_ok (hs := hs) h hA hR (z := z) (k := k) (by omega) h2
  rw [hf, ck_wij, ck_ok h.t, e, Option.bind_some]
  refine ⟨if v = nW 1 then nW 1 else nW 0, x', y', ?_, r1, r2, r3, fun a ha => ?_⟩
  · show (if v = nW 1 then rz (nW 1) (some (nW 1, wIJ G x' y')) else rz (nW 0) (some (nW 0, wIJ G x' y'))) = _
    by_cases q : v = nW 1
    · rw [if_pos q, if_pos q]; exact rz1
    · rw [if_neg q, if_neg q]; exact rz0
  · have ev := r4 a ha
    unfold oNote at ha
    rcases ixZ_spec (z := z) (show W.1.2.2.2.2 < 2147483648 by omega) with ⟨j, e1, e2, -, -, -⟩ | ⟨e1, -, -⟩
    · rw [e1] at ha
      have ha : W.1.2.2.1 j k = a := Sum.inl.inj ha
      have w := hA.2.2.2.2 j e2
      have w01 : a = nW 0 ∨ a = nW 1 := by rw [← ha]; rcases hk with rfl | rfl; exact w.1; exact w.2
      rw [ev]
      rcases w01 with q | q
      · rw [q, if_neg (by decide)]
      · rw [q, if_pos rfl]
    · rw [e1] at ha; cases ha
theorem mafter_ok (h : MSh G 265) (hA : AAOK W.1) (hR : RQ x y W) {z : Int32} (h0 : hs 0 = nW 1) : MOut G x y (fX7_positionsAfter 265 z (wIJ G x y)) (oAfter W z) hs := by
  have hm := hA.2.2.1
  have ii : fX7_isIn z (nW 0) (nW W.1.2.2.2.2) (wIJ G x y) = some (bI (ixZ z (W.1.2.2.2.2 + 1)).isSome, wIJ G x y) := by
    have := isIn_ix (n := W.1.2.2.2.2 + 1) (z := z) (G := wIJ G x y) (by omega)
    rw [nW_sub (by omega), Nat.add_sub_cancel] at this; exact this
  unfold fX7_positionsAfter fX7_positionsAfter_0 fX7_positionsAfter_20 fX7_positionsAfter_38 oAfter
  simp only [lits]
  rw [gR_wij, h.g0, Option.bind_some, hR.m2 h, Option.bind_some, ii, Option.bind_some]
  rcases ixZ_spec (z := z) (show W.1.2.2.2.2 + 1 < 2147483648 by omega) with ⟨j, e1, e2, rfl, -, -⟩ | ⟨e1, -, -⟩
  · rw [e1, if_neg (show ¬ bI (some j).isSome = nW 0 from bIt), ck_wij, ck_ok h.t, failsF h, Option.bind_some, if_pos (show nW 0 = nW 0 from rfl), gR_wij, h.g14, Option.bind_some, (hR.six (v := nW 0)).1.many h hm (show j ≤ W.1.2.2.2.2 by omega), Option.bind_some]
    exact MOut.good hR
  · rw [e1, if_pos (show bI (none : Option Nat).isSome = nW 0 from rfl), ck_wij, ck_ok h.t, failsT h, Option.bind_some, if_neg (show ¬ nW 1 = nW 0 by decide)]
    exact MOut.bad hR h0
theorem square_sq (h : MSh G 265) (hR : RQ x y W) {a b : Nat} : fX7_square 265 (nW a) (nW b) (wIJ G x y) = some (nW (b * W.1.1 + a), wIJ G x y) := by
  unfold fX7_square fX7_square_0
  simp only [lits]
  rw [gR_wij, h.g0, Option.bind_some, hR.c0 h, Option.bind_some, nW_mul, nW_add]
theorem mkindAt_ok (h : MSh G 265) (hA : AAOK W.1) (hR : RQ x y W) {p a b : Int32} (h2 : hs 2 = nW 1) : MOut G x y (fX7_kindAt 265 p a b (wIJ G x y)) (oAt W p a b pkd) hs := by
  have hn := szs36 hA.1
  have hrun := (lyN_run hA.2.1 hA.2.2.2.1).1
  have h40 : pcA W.1 ≤ 40 := hrun.1
  unfold fX7_kindAt fX7_kindAt_0 fX7_kindAt_18 fX7_kindAt_23 fX7_kindAt_60 fX7_kindOf fX7_kindOf_0 oAt
  simp only [lits]
  rw [ck_wij, ck_ok h.t, noPosition_ok h hA hR, Option.bind_some]
  rcases ixZ_spec (z := p) (show pcA W.1 < 2147483648 by omega) with ⟨i, e1, e2, rfl, -, -⟩ | ⟨e1, -, -⟩
  · rw [e1, if_pos (show bI (some i).isNone = nW 0 from rfl), ck_wij, ck_ok h.t, noSquare_ok h hA hR, Option.bind_some]
    rcases sqZ_spec (x := a) (y := b) hA.1 with ⟨c, d, f1, f2, f3, rfl, rfl⟩ | f1
    · have ht := grid_lt f3 f2
      have w := (hrun.2 i e2).1 (d * W.1.1 + c)
      rw [f1, if_pos (show bI (some (d * W.1.1 + c)).isNone = nW 0 from rfl), ck_wij, ck_ok h.t, failsF h, Option.bind_some, if_pos (show nW 0 = nW 0 from rfl), ck_wij, ck_ok h.t, square_sq h (hR.six (v := nW 0)), Option.bind_some, ck_wij, ck_ok h.t, last_ok h hA (hR.six (v := nW 0)).1 e2 (by omega), Option.bind_some, Option.bind_some]
      show MOut G x y (if nW (lyp (lyA W.1) i (d * W.1.1 + c)) = nW 0 then some (-nW 1, wIJ G (u2 x 265 6 (nW 0)) y) else some ((nW (lyp (lyA W.1) i (d * W.1.1 + c)) - nW 1) - (nW (lyp (lyA W.1) i (d * W.1.1 + c)) - nW 1) / nW 5 * nW 5, wIJ G (u2 x 265 6 (nW 0)) y)) (.inl (pkd (lyp (lyA W.1) i (d * W.1.1 + c))), W) hs
      generalize lyp (lyA W.1) i (d * W.1.1 + c) = v at *
      by_cases q : v = 0
      · rw [if_pos (by rw [q]), show pkd v = -nW 1 by rw [q]; rfl]
        exact MOut.good hR
      · rw [if_neg (by rw [nW_eq (by omega) (by decide)]; exact q), mkind_all v w q]
        exact MOut.good hR
    · rw [f1, if_neg (show ¬ bI (none : Option Nat).isNone = nW 0 from bIt), ck_wij, ck_ok h.t, failsT h, Option.bind_some, if_neg (show ¬ nW 1 = nW 0 by decide)]
      exact MOut.bad hR h2
  · rw [e1, if_neg (show ¬ bI (none : Option Nat).isNone = nW 0 from bIt), ck_wij, ck_ok h.t, failsT h, Option.bind_some, if_neg (show ¬ nW 1 = nW 0 by decide)]
    exact MOut.bad hR h2
theorem mcolAt_ok (h : MSh G 265) (hA : AAOK W.1) (hR : RQ x y W) {p a b : Int32} (h2 : hs 2 = nW 1) : MOut G x y (fX7_colourAt 265 p a b (wIJ G x y)) (oAt W p a b pcl) hs := by
  have hn := szs36 hA.1
  have hrun := (lyN_run hA.2.1 hA.2.2.2.1).1
  have h40 : pcA W.1 ≤ 40 := hrun.1
  unfold fX7_colourAt fX7_colourAt_0 fX7_colourAt_18 fX7_colourAt_23 fX7_colourAt_60 fX7_colourOf fX7_colourOf_0 oAt
  simp only [lits]
  rw [ck_wij, ck_ok h.t, noPosition_ok h hA hR, Option.bind_some]
  rcases ixZ_spec (z := p) (show pcA W.1 < 2147483648 by omega) with ⟨i, e1, e2, rfl, -, -⟩ | ⟨e1, -, -⟩
  · rw [e1, if_pos (show bI (some i).isNone = nW 0 from rfl), ck_wij, ck_ok h.t, noSquare_ok h hA hR, Option.bind_some]
    rcases sqZ_spec (x := a) (y := b) hA.1 with ⟨c, d, f1, f2, f3, rfl, rfl⟩ | f1
    · have ht := grid_lt f3 f2
      have w := (hrun.2 i e2).1 (d * W.1.1 + c)
      rw [f1, if_pos (show bI (some (d * W.1.1 + c)).isNone = nW 0 from rfl), ck_wij, ck_ok h.t, failsF h, Option.bind_some, if_pos (show nW 0 = nW 0 from rfl), ck_wij, ck_ok h.t, square_sq h (hR.six (v := nW 0)), Option.bind_some, ck_wij, ck_ok h.t, last_ok h hA (hR.six (v := nW 0)).1 e2 (by omega), Option.bind_some, Option.bind_some]
      show MOut G x y (if nW (lyp (lyA W.1) i (d * W.1.1 + c)) = nW 0 then some (-nW 1, wIJ G (u2 x 265 6 (nW 0)) y) else some ((nW (lyp (lyA W.1) i (d * W.1.1 + c)) - nW 1) / nW 5, wIJ G (u2 x 265 6 (nW 0)) y)) (.inl (pcl (lyp (lyA W.1) i (d * W.1.1 + c))), W) hs
      generalize lyp (lyA W.1) i (d * W.1.1 + c) = v at *
      by_cases q : v = 0
      · rw [if_pos (by rw [q]), show pcl v = -nW 1 by rw [q]; rfl]
        exact MOut.good hR
      · rw [if_neg (by rw [nW_eq (by omega) (by decide)]; exact q), mcol_all v w q]
        exact MOut.good hR
    · rw [f1, if_neg (show ¬ bI (none : Option Nat).isNone = nW 0 from bIt), ck_wij, ck_ok h.t, failsT h, Option.bind_some, if_neg (show ¬ nW 1 = nW 0 by decide)]
      exact MOut.bad hR h2
  · rw [e1, if_neg (show ¬ bI (none : Option Nat).isNone = nW 0 from bIt), ck_wij, ck_ok h.t, failsT h, Option.bind_some, if_neg (show ¬ nW 1 = nW 0 by decide)]
    exact MOut.bad hR h2
theorem mto_ok (h : MSh G 265) (hA : AAOK W.1) (hR : RQ x y W) {p : Int32} (h2 : hs 2 = nW 1) : MOut G x y (fX7_gamesTo 265 p (wIJ G x y)) (oTo W p) hs := by
  have hm := hA.2.2.1
  have h40 : pcA W.1 ≤ 40 := (lyN_run hA.2.1 hA.2.2.2.1).1.1
  unfold fX7_gamesTo fX7_gamesTo_0 fX7_gamesTo_34 oTo
  simp only [lits]
  rw [ck_wij, ck_ok h.t, noPosition_ok h hA hR, Option.bind_some, ck_wij, ck_ok h.t, fails1_ok h, Option.bind_some]
  rcases ixZ_spec (z := p) (show pcA W.1 < 2147483648 by omega) with ⟨i, e1, e2, rfl, -, -⟩ | ⟨e1, -, -⟩
  · have hR' := hR.six (v := fcd (some i).isNone false false)
    have gj : gJ (wIJ G (u2 x 265 6 (fcd (some i).isNone false false)) y) (265 + 13) (nW (W.1.2.2.2.2 * 40 + i)) = some (Int64.ofNat (lyg (lyA W.1) i)) := by
      rw [gJ_wij h.r18.1 (by rw [h.r18.2]; omega) (by rw [h.r18.2]; decide)]
      exact congrArg some ((hR'.1.2.1.1 W.1.2.2.2.2 (Nat.le_refl _)).2 i e2).1
    rw [e1, if_pos (show bI (some i).isNone = nW 0 from rfl), gR_wij, h.g18, Option.bind_some, gR_wij, h.g0, Option.bind_some, hR'.m2 h, Option.bind_some, nW_mul, nW_add, gj, Option.bind_some]
    exact MOut.good hR
  · rw [e1, if_neg (show ¬ bI (none : Option Nat).isNone = nW 0 from bIt)]
    exact MOut.bad hR h2
theorem mlegal2_ok (h : MSh G 265) (hA : AAOK W.1) (hR : RQ x y W) {p : Int32} (h2 : hs 2 = nW 1) : MOut G x y (fX7_legalMoves 265 p (wIJ G x y)) (oLegal W p) hs := by
  have h40 : pcA W.1 ≤ 40 := (lyN_run hA.2.1 hA.2.2.2.1).1.1
  unfold fX7_legalMoves fX7_legalMoves_0 oLegal
  simp only [lits]
  rw [ck_wij, ck_ok h.t, noPosition_ok h hA hR, Option.bind_some, ck_wij, ck_ok h.t, fails1_ok h, Option.bind_some]
  rcases ixZ_spec (z := p) (show pcA W.1 < 2147483648 by omega) with ⟨i, e1, e2, rfl, -, -⟩ | ⟨e1, -, -⟩
  · have hR' := hR.six (v := fcd (some i).isNone false false)
    obtain ⟨x', m1, m2⟩ := mlegal_ok h hA hR'.1 e2
    rw [e1, if_pos (show bI (some i).isNone = nW 0 from rfl), m1]
    exact MOut.mk' (MFm.u2.trans (MFm.rows fun b q1 _ => m2 b q1)) (hR'.rows fun b q1 _ => m2 b q1) (by rw [m2 265 (by decide)]; exact u2_same)
  · rw [e1, if_neg (show ¬ bI (none : Option Nat).isNone = nW 0 from bIt)]
    exact MOut.bad hR h2
theorem mattacked_ok (h : MSh G 265) (hA : AAOK W.1) (hR : RQ x y W) {p a b co : Int32} (h2 : hs 2 = nW 1) (h0 : hs 0 = nW 2) : MOut G x y (fX7_isAttacked 265 p a b co (wIJ G x y)) (oAtt W p a b co) hs := by
  have hn := szs36 hA.1
  have hm := hA.2.2.1
  have hrun := (lyN_run hA.2.1 hA.2.2.2.1).1
  have h40 : pcA W.1 ≤ 40 := hrun.1
  have ii : fX7_isIn co (nW 0) (nW 1) (wIJ G x y) = some (bI (ixZ co 2).isSome, wIJ G x y) := isIn_ix (n := 2) (by decide)
  have bad : fX7_isAttacked_23 265 p a b co 265 (nW 1) (wIJ G x y) = some (nW 0, wIJ G (u2 x 265 6 (nW 1)) y) := by
    unfold fX7_isAttacked_23 fX7_isAttacked_38
    simp only [lits]
    rw [ii, Option.bind_some]
    have fT : ∀ c : Bool, fX7_fails 265 (nW 1) (bI c) (nW 0) (wIJ G x y) = some (nW 1, wIJ G (u2 x 265 6 (nW 1)) y) := fun c => fails_ok (a := true) (b := c) (c := false) h
    cases ixZ co 2 with
    | none => rw [if_pos (show bI (none : Option Nat).isSome = nW 0 from rfl), ck_wij, ck_ok h.t, show fX7_fails 265 (nW 1) (nW 1) (nW 0) (wIJ G x y) = _ from fT true, Option.bind_some, if_neg (show ¬ nW 1 = nW 0 by decide)]
    | some j => rw [if_neg (show ¬ bI (some j).isSome = nW 0 from bIt), ck_wij, ck_ok h.t, show fX7_fails 265 (nW 1) (nW 0) (nW 0) (wIJ G x y) = _ from fT false, Option.bind_some, if_neg (show ¬ nW 1 = nW 0 by decide)]
  unfold fX7_isAttacked fX7_isAttacked_0 fX7_isAttacked_18 oAtt
  simp only [lits]
  rw [ck_wij, ck_ok h.t, noPosition_ok h hA hR, Option.bind_some]
  rcases ixZ_spec (z := p) (show pcA W.1 < 2147483648 by omega) with ⟨i, e1, e2, rfl, -, -⟩ | ⟨e1, -, -⟩
  · rw [e1, if_pos (show bI (some i).isNone = nW 0 from rfl), ck_wij, ck_ok h.t, noSquare_ok h hA hR, Option.bind_some]
    rcases sqZ_spec (x := a) (y := b) hA.1 with ⟨c, d, f1, f2, f3, rfl, rfl⟩ | f1
    · have ht := grid_lt f3 f2
      rw [f1, if_pos (show bI (some (d * W.1.1 + c)).isNone = nW 0 from rfl)]
      unfold fX7_isAttacked_23 fX7_isAttacked_38
      simp only [lits]
      rw [ii, Option.bind_some]
      rcases ixZ_spec (z := co) (show 2 < 2147483648 by decide) with ⟨k, k1, k2, rfl, -, -⟩ | ⟨k1, -, -⟩
      · have hR' := hR.six (v := nW 0)
        have hrow := ((hR'.1.2.1.1 W.1.2.2.2.2 (Nat.le_refl _)).2 i e2).2
        rw [k1, if_neg (show ¬ bI (some k).isSome = nW 0 from bIt), ck_wij, ck_ok h.t, failsF h, Option.bind_some, if_pos (show nW 0 = nW 0 from rfl), gR_wij, h.g13, Option.bind_some, gR_wij, h.g0, Option.bind_some, hR'.m2 h, Option.bind_some, position_ok, Option.bind_some, ck_wij, ck_ok h.t, square_sq h hR', Option.bind_some, ck_wij, ck_ok h.t, attacks_ok h hA.1 hR'.1.1.1 h.r13 (by omega) (by decide) (hrow.mono hn) (hrun.2 i e2).1 ht k2, Option.bind_some, rz_ok (bI_01 _)]
        exact MOut.good hR
      · have fC : fX7_fails 265 (nW 0) (nW 1) (nW 0) (wIJ G x y) = some (nW 1, wIJ G (u2 x 265 6 (nW 2)) y) := fails_ok (a := false) (b := true) (c := false) h
        rw [k1, if_pos (show bI (none : Option Nat).isSome = nW 0 from rfl), ck_wij, ck_ok h.t, fC, Option.bind_some, if_neg (show ¬ nW 1 = nW 0 by decide)]
        exact MOut.bad hR h0
    · rw [f1, if_neg (show ¬ bI (none : Option Nat).isNone = nW 0 from bIt), bad]
      exact MOut.bad hR h2
  · rw [e1, if_neg (show ¬ bI (none : Option Nat).isNone = nW 0 from bIt), bad]
    exact MOut.bad hR h2
end MREADS
