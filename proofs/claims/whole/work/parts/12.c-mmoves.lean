/-! ===== the reference's public methods: moves, pieces, doubt ===== -/
theorem getD_in {l : List Nat} {j : Nat} (hj : j < l.length) : l.getD j 0 = l[j] := by
  rw [List.getD_eq_getElem?_getD, List.getElem?_eq_getElem hj]; rfl
section MMOVES
variable {G : Mem} {W : WSt} {x : Nat → Nat → Int32} {y : Nat → Nat → Int64} {hs : Nat → Int32}
abbrev mksA (A : ASt) (i : Nat) : List Nat := mks A.1 (A.1 * A.2.1) A.2.2.1 A.2.2.2.1 A.2.2.2.2 i
theorem oMoves_mks {A : ASt} (hA : AAOK A) {i : Nat} (hi : i < A.2.2.2.2) : oMoves A i = (mksA A i).map cky := moves_same hA.2.1 (szs36 hA.1) hA.2.2.2.1 hi
theorem mks_lt {A : ASt} {i j : Nat} (hj : j < (mksA A i).length) : (mksA A i).getD j 0 < 1296 := by
  have : (mksA A i).getD j 0 ∈ mksA A i := by
    rw [getD_in hj]; exact List.getElem_mem hj
  exact List.mem_range.mp (List.mem_filter.mp this).1
theorem mks_len {A : ASt} {i : Nat} : (mksA A i).length ≤ 1296 := by
  refine Nat.le_trans (List.length_filter_le _ _) ?_
  rw [List.length_range]; exact Nat.le_refl _
/-- the key that is asked for, by the reference's list -/
theorem keyZ_mks {A : ASt} (hA : AAOK A) {i : Nat} (hi : i < A.2.2.2.2) {w : Int32} : (∃ j, keyZ A (nW i) w = some (i, cky ((mksA A i).getD j 0)) ∧ j < (mksA A i).length ∧ w = nW j ∧ nth (mksA A i) w = nW ((mksA A i).getD j 0)) ∨ (keyZ A (nW i) w = none ∧ nth (mksA A i) w = -1) := by
  have hm := hA.2.2.1
  have e := oMoves_mks hA hi
  have l : (oMoves A i).length = (mksA A i).length := by rw [e, List.length_map]
  have ml := mks_len (A := A) (i := i)
  unfold keyZ
  rw [ixZ_nW hi (by omega)]
  show (∃ j, (match ixZ w (oMoves A i).length with | none => none | some j => some (i, (oMoves A i).getD j 0)) = _ ∧ _) ∨ ((match ixZ w (oMoves A i).length with | none => none | some j => some (i, (oMoves A i).getD j 0)) = none ∧ _)
  rw [l]
  rcases ixZ_spec (z := w) (show (mksA A i).length < 2147483648 by omega) with ⟨j, e1, e2, e3, -, -⟩ | ⟨e1, -, e3⟩
  · left
    refine ⟨j, ?_, e2, e3, ?_⟩
    · rw [e1, e]
      show some (i, ((mksA A i).map cky).getD j 0) = _
      rw [getD_in (by rw [List.length_map]; exact e2), List.getElem_map, getD_in e2]
    · rw [e3]; exact nth_in _ j (by omega) e2
  · right
    exact ⟨by rw [e1], nth_out _ w (by omega) e3⟩
theorem mdoubt_ok (h : MSh G 265) (hA : AAOK W.1) (hR : RQ x y W) {z : Int32} (h2 : hs 2 = nW 1) : MOut G x y (fX7_doubt 265 z (wIJ G x y)) (oDoubt W z) hs := by
  have hm := hA.2.2.1
  unfold fX7_doubt fX7_doubt_0 fX7_doubt_23 oDoubt
  simp only [lits]
  rw [ck_wij, ck_ok h.t, noNote_ok h hA hR, Option.bind_some, ck_wij, ck_ok h.t, fails1_ok h, Option.bind_some]
  rcases ixZ_spec (z := z) (show W.1.2.2.2.2 < 2147483648 by omega) with ⟨i, e1, e2, rfl, -, -⟩ | ⟨e1, -, -⟩
  · have hR' := hR.six (v := fcd (some i).isNone false false)
    obtain ⟨x', m1, m2, -⟩ := marks_ok h hA hR'.1 e2
    have el : cnt 1296 (mkE W.1.1 (W.1.1 * W.1.2.1) W.1.2.2.1 W.1.2.2.2.1 W.1.2.2.2.2 i (em W.1.1 (W.1.1 * W.1.2.1) W.1.2.2.1 W.1.2.2.2.1 i)) = (oMoves W.1 i).length := by
      rw [oMoves_mks hA e2, List.length_map, ← cnt_len]
    rw [el] at m1
    rw [e1, if_pos (show bI (some i).isNone = nW 0 from rfl), ck_wij, ck_ok h.t, m1, Option.bind_some]
    exact MOut.mk' (MFm.u2.trans (MFm.rows fun b _ q2 => m2 b q2)) (hR'.rows fun b _ q2 => m2 b q2) (by rw [m2 265 (by decide)]; exact u2_same)
  · rw [e1, if_neg (show ¬ bI (none : Option Nat).isNone = nW 0 from bIt)]
    exact MOut.bad hR h2
/-- is there no such move -/
theorem noMove_ok (h : MSh G 265) (hA : AAOK W.1) (hR : RQ x y W) {z w : Int32} : ∃ x', (fX7_noMove 265 z w (wIJ G x y) = some (bI (keyZ W.1 z w).isNone, wIJ G x' y)) ∧ MFm x x' y y ∧ RQ x' y W ∧ x' 265 6 = fcd (keyZ W.1 z w).isNone false false := by
  have hm := hA.2.2.1
  unfold fX7_noMove fX7_noMove_0 fX7_noMove_19 fX7_noMove_24
  simp only [lits]
  rw [ck_wij, ck_ok h.t, noNote_ok h hA hR, Option.bind_some]
  rcases ixZ_spec (z := z) (show W.1.2.2.2.2 < 2147483648 by omega) with ⟨i, e1, e2, rfl, -, -⟩ | ⟨e1, -, -⟩
  · obtain ⟨x', m1, m2⟩ := move_ok h hA hR.1 e2 w
    have hR' : RQ x' y W := hR.rows fun b _ q2 => m2 b q2
    have hM : MFm x x' y y := MFm.rows fun b _ q2 => m2 b q2
    rw [e1, if_pos (show bI (some i).isNone = nW 0 from rfl), ck_wij, ck_ok h.t, m1, Option.bind_some]
    rcases keyZ_mks hA e2 (w := w) with ⟨j, k1, k2, k3, k4⟩ | ⟨k1, k2⟩
    · have lt := mks_lt k2
      rw [k1, k4, if_neg (show ¬ nW ((mksA W.1 i).getD j 0) = -nW 1 from fun z => by have := congrArg Int32.toInt z; rw [nW_int (by omega), show (-nW 1).toInt = -1 by decide] at this; omega)]
      refine ⟨_, ?_, hM.trans MFm.u2, hR'.six, u2_same⟩
      rw [ck_wij, ck_ok h.t, failsF h, Option.bind_some]
      exact rz0
    · rw [k1, k2, if_pos (show ((-1 : Int32), wIJ G x' y).1 = -nW 1 from rfl)]
      refine ⟨_, ?_, hM.trans MFm.u2, hR'.six, u2_same⟩
      rw [ck_wij, ck_ok h.t, failsT h, Option.bind_some]
      exact rz1
  · have k1 : keyZ W.1 z w = none := by unfold keyZ; rw [e1]
    rw [e1, if_neg (show ¬ bI (none : Option Nat).isNone = nW 0 from bIt), k1]
    refine ⟨_, ?_, MFm.u2, hR.six, u2_same⟩
    rw [ck_wij, ck_ok h.t, failsT h, Option.bind_some]
    exact rz1
/-- a move that is there -/
theorem mkey_ok (h : MSh G 265) (hA : AAOK W.1) (hR : RQ x y W) {z w : Int32} {q : Nat × Nat} (hk : keyZ W.1 z w = some q) : ∃ k x', k < 1296 ∧ q.1 < W.1.2.2.2.2 ∧ z = nW q.1 ∧ q.2 = cky k ∧ fX7_move 265 z w (wIJ G x y) = some (nW k, wIJ G x' y) ∧ ∀ b, b ≠ 280 → x' b = x b := by
  have hm := hA.2.2.1
  rcases ixZ_spec (z := z) (show W.1.2.2.2.2 < 2147483648 by omega) with ⟨i, e1, e2, rfl, -, -⟩ | ⟨e1, -, -⟩
  · rcases keyZ_mks hA e2 (w := w) with ⟨j, k1, k2, k3, k4⟩ | ⟨k1, k2⟩
    · rw [k1] at hk
      have hq := Option.some.inj hk
      obtain ⟨x', m1, m2⟩ := move_ok h hA hR.1 e2 w
      rw [k4] at m1
      subst hq
      exact ⟨_, x', mks_lt k2, e2, rfl, rfl, m1, m2⟩
    · rw [k1] at hk; cases hk
  · unfold keyZ at hk
    rw [e1] at hk; cases hk
theorem cky_div {k : Nat} : cky k / 64 = k / 36 := by unfold cky; omega
theorem cky_mod {k : Nat} : cky k % 64 = k % 36 := by unfold cky; omega
theorem morigin_ok (h : MSh G 265) (hA : AAOK W.1) (hR : RQ x y W) {z w : Int32} (h2 : hs 2 = nW 1) : MOut G x y (fX7_moveOrigin 265 z w (wIJ G x y)) (oOrig W z w) hs := by
  unfold fX7_moveOrigin fX7_moveOrigin_0 fX7_moveOrigin_22 oOrig
  simp only [lits]
  obtain ⟨x', e1, e2, e3, e4⟩ := noMove_ok h hA hR (z := z) (w := w)
  rw [ck_wij, ck_ok h.t, e1, Option.bind_some]
  cases hk : keyZ W.1 z w with
  | none =>
    rw [hk] at e4
    rw [if_neg (show ¬ bI (none : Option (Nat × Nat)).isNone = nW 0 from bIt)]
    exact MOut.no e2 e3 (e4.trans h2.symm)
  | some q =>
    rw [hk] at e4
    obtain ⟨k, x2, k1, k2, k3, k4, k5, k6⟩ := mkey_ok h hA e3 hk
    rw [if_pos (show bI (some q).isNone = nW 0 from rfl), ck_wij, ck_ok h.t, k5, Option.bind_some, nW_div (by omega) (by decide), ← cky_div, ← k4]
    exact MOut.mk' (e2.trans (MFm.rows fun b _ q2 => k6 b q2)) (e3.rows fun b _ q2 => k6 b q2) (by rw [k6 265 (by decide)]; exact e4)
theorem mtarget_ok (h : MSh G 265) (hA : AAOK W.1) (hR : RQ x y W) {z w : Int32} (h2 : hs 2 = nW 1) : MOut G x y (fX7_moveTarget 265 z w (wIJ G x y)) (oTarg W z w) hs := by
  unfold fX7_moveTarget fX7_moveTarget_0 fX7_moveTarget_22 oTarg
  simp only [lits]
  obtain ⟨x', e1, e2, e3, e4⟩ := noMove_ok h hA hR (z := z) (w := w)
  rw [ck_wij, ck_ok h.t, e1, Option.bind_some]
  cases hk : keyZ W.1 z w with
  | none =>
    rw [hk] at e4
    rw [if_neg (show ¬ bI (none : Option (Nat × Nat)).isNone = nW 0 from bIt)]
    exact MOut.no e2 e3 (e4.trans h2.symm)
  | some q =>
    rw [hk] at e4
    obtain ⟨k, x2, k1, k2, k3, k4, k5, k6⟩ := mkey_ok h hA e3 hk
    rw [if_pos (show bI (some q).isNone = nW 0 from rfl), ck_wij, ck_ok h.t, k5, Option.bind_some, nW_rem (by omega) (by decide), ← cky_mod, ← k4]
    exact MOut.mk' (e2.trans (MFm.rows fun b _ q2 => k6 b q2)) (e3.rows fun b _ q2 => k6 b q2) (by rw [k6 265 (by decide)]; exact e4)
theorem mwith_ok (h : MSh G 265) (hA : AAOK W.1) (hR : RQ x y W) {z w : Int32} (h2 : hs 2 = nW 1) : MOut G x y (fX7_gamesWithMove 265 z w (wIJ G x y)) (oWith W z w) hs := by
  unfold fX7_gamesWithMove fX7_gamesWithMove_0 fX7_gamesWithMove_24 oWith
  simp only [lits]
  obtain ⟨x', e1, e2, e3, e4⟩ := noMove_ok h hA hR (z := z) (w := w)
  rw [ck_wij, ck_ok h.t, e1, Option.bind_some]
  cases hk : keyZ W.1 z w with
  | none =>
    rw [hk] at e4
    rw [if_neg (show ¬ bI (none : Option (Nat × Nat)).isNone = nW 0 from bIt)]
    exact MOut.no e2 e3 (e4.trans h2.symm)
  | some q =>
    rw [hk] at e4
    obtain ⟨k, x2, k1, k2, k3, k4, k5, k6⟩ := mkey_ok h hA e3 hk
    have gb := gamesBy_ok h hA e3.1 (x' := x2) k6 k2 k1
    have eg' : (sumN (em W.1.1 (W.1.1 * W.1.2.1) W.1.2.2.1 W.1.2.2.2.1 q.1) fun e => if mky W.1.1 (W.1.1 * W.1.2.1) W.1.2.2.1 W.1.2.2.2.1 q.1 e = k then ovr W.1.1 (W.1.1 * W.1.2.1) W.1.2.2.1 W.1.2.2.2.1 W.1.2.2.2.2 q.1 e else 0) = gmv W.1.1 (W.1.1 * W.1.2.1) W.1.2.2.1 W.1.2.2.2.1 W.1.2.2.2.2 q.1 q.2 := by
      unfold gmv
      refine sumN_cong _ fun e he => ?_
      have g := (eg_ok hA.2.1 (szs36 hA.1) hA.2.2.2.1 k2).1 e he
      have hn := szs36 hA.1
      have t36 : (eg W.1.1 (W.1.1 * W.1.2.1) W.1.2.2.1 W.1.2.2.2.1 q.1 e).2.2.2 < 36 := by omega
      have iff : mky W.1.1 (W.1.1 * W.1.2.1) W.1.2.2.1 W.1.2.2.2.1 q.1 e = k ↔ (eg W.1.1 (W.1.1 * W.1.2.1) W.1.2.2.1 W.1.2.2.2.1 q.1 e).2.2.1 * 64 + (eg W.1.1 (W.1.1 * W.1.2.1) W.1.2.2.1 W.1.2.2.2.1 q.1 e).2.2.2 = q.2 := by
        rw [k4]
        show (eg W.1.1 (W.1.1 * W.1.2.1) W.1.2.2.1 W.1.2.2.2.1 q.1 e).2.2.1 * 36 + (eg W.1.1 (W.1.1 * W.1.2.1) W.1.2.2.1 W.1.2.2.2.1 q.1 e).2.2.2 = k ↔ _ = k / 36 * 64 + k % 36
        omega
      by_cases u : mky W.1.1 (W.1.1 * W.1.2.1) W.1.2.2.1 W.1.2.2.2.1 q.1 e = k
      · rw [if_pos u, if_pos (iff.mp u)]
      · rw [if_neg u, if_neg (fun z => u (iff.mpr z))]
    rw [eg'] at gb
    rw [if_pos (show bI (some q).isNone = nW 0 from rfl), ck_wij, ck_ok h.t, k5, Option.bind_some, ck_wij, ck_ok h.t, k3, gb, Option.bind_some]
    exact MOut.mk' (e2.trans (MFm.rows fun b _ q2 => k6 b q2)) (e3.rows fun b _ q2 => k6 b q2) (by rw [k6 265 (by decide)]; exact e4)
theorem mmost_ok (h : MSh G 265) (hA : AAOK W.1) (hR : RQ x y W) : MOu G x y (fX7_mostDoubtfulNote 265 (wIJ G x y)) ((mdS W.1 W.1.2.2.2.2).1, W) := by
  have hm := hA.2.2.1
  have md : ∀ i, (mdS W.1 i).2 ≤ 2304 := fun i => by
    induction i with
    | zero => exact Nat.le_of_ble_eq_true rfl
    | succ i ih =>
      show (if _ then _ else _ : Int32 × Nat).2 ≤ 2304
      split
      · exact ih
      · exact moves_len hA
  unfold fX7_mostDoubtfulNote fX7_mostDoubtfulNote_0
  simp only [lits]
  rw [pI_wij h.t, Option.bind_some]
  obtain ⟨v, G', e1, rfl, x', rfl, e3⟩ := loop_by (f := fun (s : Int32 × Int32 × Int32) G => fX7_mostDoubtfulNote_11 265 s.1 s.2.1 s.2.2 G)
    (fun e s G' => ∃ i, e = W.1.2.2.2.2 - i ∧ i ≤ W.1.2.2.2.2 ∧ s = ((mdS W.1 i).1, nW (mdS W.1 i).2, nW i) ∧ ∃ x', G' = wIJ G x' y ∧ ∀ b, b ≠ 280 → x' b = u2 x 265 6 (nW 0) b)
    (fun (v : Int32) G' => v = (mdS W.1 W.1.2.2.2.2).1 ∧ ∃ x', G' = wIJ G x' y ∧ ∀ b, b ≠ 280 → x' b = u2 x 265 6 (nW 0) b)
    (by
      rintro e s G' ⟨i, rfl, hi, rfl, x', rfl, k1⟩
      have hR' : RQ x' y W := (hR.six (v := nW 0)).rows fun b _ q2 => k1 b q2
      show (∃ r G'', fX7_mostDoubtfulNote_11 265 (mdS W.1 i).1 (nW (mdS W.1 i).2) (nW i) (wIJ G x' y) = some (.inr r, G'') ∧ _) ∨ (∃ k' s' G'', k' < W.1.2.2.2.2 - i ∧ fX7_mostDoubtfulNote_11 265 (mdS W.1 i).1 (nW (mdS W.1 i).2) (nW i) (wIJ G x' y) = some (.inl s', G'') ∧ _)
      unfold fX7_mostDoubtfulNote_11 fX7_mostDoubtfulNote_42 fX7_mostDoubtfulNote_48
      simp only [lits]
      rw [gR_wij, h.g0, Option.bind_some, hR'.m2 h, Option.bind_some]
      by_cases q : i = W.1.2.2.2.2
      · left
        rw [if_pos (by rw [nW_le (by omega) (by omega)]; omega), q]
        exact ⟨_, _, rfl, rfl, x', rfl, k1⟩
      · right
        have hi2 : i < W.1.2.2.2.2 := by omega
        obtain ⟨x2, m1, m2, -⟩ := marks_ok h hA hR'.1 hi2
        have el : cnt 1296 (mkE W.1.1 (W.1.1 * W.1.2.1) W.1.2.2.1 W.1.2.2.2.1 W.1.2.2.2.2 i (em W.1.1 (W.1.1 * W.1.2.1) W.1.2.2.1 W.1.2.2.2.1 i)) = (oMoves W.1 i).length := by
          rw [oMoves_mks hA hi2, List.length_map, ← cnt_len]
        rw [el] at m1
        have ml : (oMoves W.1 i).length ≤ 2304 := moves_len hA
        have mi := md i
        have es : mdS W.1 (i + 1) = if (oMoves W.1 i).length ≤ (mdS W.1 i).2 then mdS W.1 i else (nW i, (oMoves W.1 i).length) := rfl
        have k2 : ∀ b, b ≠ 280 → x2 b = u2 x 265 6 (nW 0) b := fun b hb => (m2 b hb).trans (k1 b hb)
        rw [if_neg (by rw [nW_le (by omega) (by omega)]; omega), ck_wij, ck_ok h.t, m1, Option.bind_some, nW_add]
        by_cases q2 : (oMoves W.1 i).length ≤ (mdS W.1 i).2
        · rw [if_pos q2] at es
          rw [if_neg (show ¬ nW (mdS W.1 i).2 < nW (oMoves W.1 i).length by rw [nW_lt (by omega) (by omega)]; omega)]
          exact ⟨W.1.2.2.2.2 - (i + 1), _, _, by omega, rfl, i + 1, rfl, by omega, by rw [es], x2, rfl, k2⟩
        · rw [if_neg q2] at es
          rw [if_pos (show nW (mdS W.1 i).2 < nW (oMoves W.1 i).length by rw [nW_lt (by omega) (by omega)]; omega)]
          exact ⟨W.1.2.2.2.2 - (i + 1), _, _, by omega, rfl, i + 1, rfl, by omega, by rw [es], x2, rfl, k2⟩) FU W.1.2.2.2.2 (-nW 1, nW 1, nW 0) (wIJ G (u2 x 265 6 (nW 0)) y) (by show W.1.2.2.2.2 < 100000; omega) ⟨0, rfl, Nat.zero_le _, rfl, _, rfl, fun _ _ => rfl⟩
  rw [e1]
  exact ⟨x', y, rfl, MFm.u2.trans (MFm.rows fun b _ q2 => e3 b q2), (hR.six (v := nW 0)).rows fun b _ q2 => e3 b q2⟩
end MMOVES
