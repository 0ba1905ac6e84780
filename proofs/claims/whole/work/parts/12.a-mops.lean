/-! ===== the reference's public methods: guards and plain reads ===== -/
def MFm (x x' : Nat → Nat → Int32) (y y' : Nat → Nat → Int64) : Prop := ∀ b, b < 265 ∨ 281 ≤ b → x' b = x b ∧ y' b = y b
/-- what a method of the reference leaves, where the class's ends with o and hs numbers what it throws -/
def MOut {ρ : Type} (G : Mem) (x : Nat → Nat → Int32) (y : Nat → Nat → Int64) (z : Option (ρ × Mem)) (o : (ρ ⊕ Nat) × WSt) (hs : Nat → Int32) : Prop := ∃ v x' y', z = some (v, wIJ G x' y') ∧ MFm x x' y y' ∧ RQ x' y' o.2 ∧ x' 265 6 = (match o.1 with | .inl _ => nW 0 | .inr k => hs k) ∧ ∀ a, o.1 = .inl a → v = a
def MOu {ρ : Type} (G : Mem) (x : Nat → Nat → Int32) (y : Nat → Nat → Int64) (z : Option (ρ × Mem)) (o : ρ × WSt) : Prop := ∃ x' y', z = some (o.1, wIJ G x' y') ∧ MFm x x' y y' ∧ RQ x' y' o.2
theorem nW_prd {b : Nat} (hb : b < 2147483648) : (nW b - nW 1).toInt = (b : Int) - 1 := by
  rw [Int32.toInt_sub, nW_int hb, nW_int (show 1 < 2147483648 by decide), Int.bmod_eq_of_le (by omega) (by omega)]
  omega
theorem prd_lt {b : Nat} (hb : b < 2147483648) {z : Int32} : nW b - nW 1 < z ↔ ¬ z < nW b := by
  rw [Int32.lt_iff_toInt_lt, Int32.lt_iff_toInt_lt, nW_prd hb, nW_int hb]; omega
theorem isIn_ix {n : Nat} (hn : n < 2147483648) {z : Int32} {G : Mem} : fX7_isIn z (nW 0) (nW n - nW 1) G = some (bI (ixZ z n).isSome, G) := by
  unfold fX7_isIn fX7_isIn_0 fX7_isIn_14 fX7_isIn_15
  simp only [lits]
  rcases ixZ_spec (z := z) hn with ⟨j, e1, e2, e3, e4, e5⟩ | ⟨e1, e2, -⟩
  · rw [e1, if_neg e4, if_neg (fun q => (prd_lt hn).mp q e5)]; exact rz1
  · rw [e1]
    rcases e2 with e2 | e2
    · rw [if_pos e2]; exact rz0
    · rw [if_neg e2.1, if_pos ((prd_lt hn).mpr e2.2)]; exact rz0
theorem isStated_ok {b : Nat} (hb : b < 2147483648) {v : Int32} {G : Mem} : fX7_isStated v (nW b - nW 1) G = some (bI (sttd v b), G) := by
  unfold fX7_isStated fX7_isStated_0 fX7_isIn fX7_isIn_0 fX7_isIn_14 fX7_isIn_15 sttd
  simp only [lits]
  have e : (nW b - nW 1 < v) ↔ nW b ≤ v := by
    rw [prd_lt hb, Int32.lt_iff_toInt_lt, Int32.le_iff_toInt_le]; omega
  by_cases h1 : v < -nW 1
  · rw [if_pos h1, decide_eq_false (fun q => q.1 h1), rz0, Option.bind_some]; exact rz0
  · rw [if_neg h1]
    by_cases h2 : nW b ≤ v
    · rw [if_pos (e.mpr h2), decide_eq_false (fun q => q.2 h2), rz0, Option.bind_some]; exact rz0
    · rw [if_neg (fun q => h2 (e.mp q)), decide_eq_true ⟨h1, h2⟩, rz1, Option.bind_some]; exact rz1
/-- the number of what is thrown first -/
def fcd (a b c : Bool) : Int32 := if a then nW 1 else if b then nW 2 else if c then nW 3 else nW 0
section MOPS
variable {G : Mem} {W : WSt} {x : Nat → Nat → Int32} {y : Nat → Nat → Int64} {hs : Nat → Int32}
theorem MFm.rfl' : MFm x x y y := fun _ _ => ⟨rfl, rfl⟩
theorem MFm.u2 {k : Nat} {v : Int32} : MFm x (u2 x 265 k v) y y := fun b hb => ⟨u2_arow (by omega), rfl⟩
theorem MFm.trans {x' x2 : Nat → Nat → Int32} {y' y2 : Nat → Nat → Int64} (h : MFm x x' y y') (h2 : MFm x' x2 y' y2) : MFm x x2 y y2 := fun b hb => ⟨(h2 b hb).1.trans (h b hb).1, (h2 b hb).2.trans (h b hb).2⟩
theorem RQ.cell (hR : RQ x y W) {k : Nat} {v : Int32} (h5 : k ≠ 5) (h9 : k ≠ 9) (h10 : k ≠ 10) (h11 : k ≠ 11) (h12 : k ≠ 12) : RQ (u2 x 265 k v) y W := by
  obtain ⟨⟨h1, h2, h3⟩, k1, s1, t1, e1, o1⟩ := hR
  have c : ∀ j, j ≠ k → u2 x 265 k v 265 j = x 265 j := fun j hj => u2_other (fun q => hj q.2)
  have r : ∀ b, b ≠ 265 → u2 x 265 k v b = x b := fun b hb => u2_arow hb
  refine ⟨⟨h1.frame (r _ (by decide)), h2.same (r _ (by decide)) (r _ (by decide)) (r _ (by decide)) (r _ (by decide)) rfl, h3⟩, k1.same (c 5 (by omega)) (r _ (by decide)), fun j hj => ⟨by rw [r 270 (by decide)]; exact (s1 j hj).1, fun A hA => ⟨((s1 j hj).2 A hA).1.same (r _ (by decide)), ((s1 j hj).2 A hA).2⟩⟩, t1.frame (c 9 (by omega)) (r _ (by decide)), ?_, ?_⟩
  · rw [c 11 (by omega), c 12 (by omega)]; exact e1
  · rw [c 10 (by omega), r 272 (by decide)]; exact o1
theorem RQ.six (hR : RQ x y W) {v : Int32} : RQ (u2 x 265 6 v) y W := hR.cell (by decide) (by decide) (by decide) (by decide) (by decide)
theorem MOu.six {ρ : Type} {v : ρ} {c : Int32} (hR : RQ x y W) : MOu G x y (some (v, wIJ G (u2 x 265 6 c) y)) (v, W) := ⟨_, _, rfl, MFm.u2, hR.six⟩
theorem MOut.good {ρ : Type} {v : ρ} (hR : RQ x y W) : MOut G x y (some (v, wIJ G (u2 x 265 6 (nW 0)) y)) (.inl v, W) hs := ⟨v, _, _, rfl, MFm.u2, hR.six, u2_same, fun a e => Sum.inl.inj e⟩
theorem MOut.bad {ρ : Type} {v : ρ} {k : Nat} {c : Int32} (hR : RQ x y W) (hk : hs k = c) : MOut G x y (some (v, wIJ G (u2 x 265 6 c) y)) ((.inr k : ρ ⊕ Nat), W) hs := ⟨v, _, _, rfl, MFm.u2, hR.six, u2_same.trans hk.symm, fun a e => by cases e⟩
theorem told_ok (h : MSh G 265) {v : Int32} : fX7_told 265 v (wIJ G x y) = some (v, wIJ G (u2 x 265 6 (nW 0)) y) := by
  unfold fX7_told fX7_told_0
  simp only [lits]
  rw [pI_wij h.t, Option.bind_some]
theorem fails_ok (h : MSh G 265) {a b c : Bool} : fX7_fails 265 (bI a) (bI b) (bI c) (wIJ G x y) = some (bI (a || (b || c)), wIJ G (u2 x 265 6 (fcd a b c)) y) := by
  have f6 : ∀ v, fX7_fails_26 265 265 v (wIJ G x y) = (if v ≤ nW 0 then some (nW 0, wIJ G (u2 x 265 6 v) y) else some (nW 1, wIJ G (u2 x 265 6 v) y)) := fun v => by
    unfold fX7_fails_26 fX7_fails_41
    simp only [lits]
    rw [pI_wij h.t, Option.bind_some, gF_wij h.t, u2_same, Option.bind_some]
    by_cases q : v ≤ nW 0
    · rw [if_pos q, if_pos q]; exact rz0
    · rw [if_neg q, if_neg q]; exact rz1
  unfold fX7_fails fX7_fails_0 fcd
  simp only [lits]
  cases a with
  | true => rw [if_neg bIt, f6, if_neg (by decide)]; rfl
  | false =>
    rw [if_pos bIf]
    cases b with
    | true => rw [if_neg bIt, f6, if_neg (by decide)]; rfl
    | false =>
      rw [if_pos bIf]
      cases c with
      | true => rw [if_neg bIt, f6, if_neg (by decide)]; rfl
      | false => rw [if_pos bIf, f6, if_pos (by decide)]; rfl
theorem fails1_ok (h : MSh G 265) {a : Bool} : fX7_fails 265 (bI a) (nW 0) (nW 0) (wIJ G x y) = some (bI a, wIJ G (u2 x 265 6 (fcd a false false)) y) := by
  have := fails_ok (x := x) (y := y) (a := a) (b := false) (c := false) h
  rw [Bool.or_self, Bool.or_false] at this; exact this
theorem RQ.m2 (h : MSh G 265) (hR : RQ x y W) : gA (wIJ G x y) 1 (265 + 1) (nW 2) = some (nW W.1.2.2.2.2) := hR.1.s2 h
theorem RQ.c0 (h : MSh G 265) (hR : RQ x y W) : gA (wIJ G x y) 1 (265 + 1) (nW 0) = some (nW W.1.1) := by rw [h.s0 (by decide), hR.1.1.1.1]
theorem RQ.r1 (h : MSh G 265) (hR : RQ x y W) : gA (wIJ G x y) 1 (265 + 1) (nW 1) = some (nW W.1.2.1) := by rw [h.s0 (by decide), hR.1.1.1.2]
theorem noNote_ok (h : MSh G 265) (hA : AAOK W.1) (hR : RQ x y W) {z : Int32} : fX7_noNote 265 z (wIJ G x y) = some (bI (ixZ z W.1.2.2.2.2).isNone, wIJ G x y) := by
  have hm := hA.2.2.1
  unfold fX7_noNote fX7_noNote_0 fX7_noNote_21
  simp only [lits]
  rw [gR_wij, h.g0, Option.bind_some, hR.m2 h, Option.bind_some, isIn_ix (by omega), Option.bind_some]
  cases ixZ z W.1.2.2.2.2 with
  | none => rw [if_pos (show bI (none : Option Nat).isSome = nW 0 from rfl)]; exact rz1
  | some j => rw [if_neg (show ¬ bI (some j).isSome = nW 0 from bIt)]; exact rz0
theorem noPosition_ok (h : MSh G 265) (hA : AAOK W.1) (hR : RQ x y W) {z : Int32} : fX7_noPosition 265 z (wIJ G x y) = some (bI (ixZ z (pcA W.1)).isNone, wIJ G x y) := by
  have hm := hA.2.2.1
  have h40 : pcA W.1 ≤ 40 := (lyN_run hA.2.1 hA.2.2.2.1).1.1
  have e : gA (wIJ G x y) 1 (265 + 9) (nW W.1.2.2.2.2) = some (nW (pcA W.1)) := hR.1.many h hm (Nat.le_refl _)
  unfold fX7_noPosition fX7_noPosition_0 fX7_noPosition_26
  simp only [lits]
  rw [gR_wij, h.g14, Option.bind_some, gR_wij, h.g0, Option.bind_some, hR.m2 h, Option.bind_some, e, Option.bind_some, isIn_ix (by omega), Option.bind_some]
  cases ixZ z (pcA W.1) with
  | none => rw [if_pos (show bI (none : Option Nat).isSome = nW 0 from rfl)]; exact rz1
  | some j => rw [if_neg (show ¬ bI (some j).isSome = nW 0 from bIt)]; exact rz0
theorem noSquare_ok (h : MSh G 265) (hA : AAOK W.1) (hR : RQ x y W) {a b : Int32} : fX7_noSquare 265 a b (wIJ G x y) = some (bI (sqZ a b W.1.1 W.1.2.1).isNone, wIJ G x y) := by
  have h1 := hA.1.2.1
  have h2 := hA.1.2.2.2
  unfold fX7_noSquare fX7_noSquare_0 fX7_noSquare_37 fX7_noSquare_32 fX7_noSquare_37 sqZ
  simp only [lits]
  rw [gR_wij, h.g0, Option.bind_some, hR.c0 h, Option.bind_some, isIn_ix (by omega), Option.bind_some]
  cases ixZ a W.1.1 with
  | none => rw [if_pos (show bI (none : Option Nat).isSome = nW 0 from rfl)]; exact rz1
  | some j =>
    rw [if_neg (show ¬ bI (some j).isSome = nW 0 from bIt), gR_wij, h.g0, Option.bind_some, hR.r1 h, Option.bind_some, isIn_ix (by omega), Option.bind_some]
    cases ixZ b W.1.2.1 with
    | none => rw [if_pos (show bI (none : Option Nat).isSome = nW 0 from rfl)]; exact rz1
    | some k => rw [if_neg (show ¬ bI (some k).isSome = nW 0 from bIt)]; exact rz0
theorem isBad_ok (h : MSh G 265) (hA : AAOK W.1) (hR : RQ x y W) {k fx tx ty : Int32} : fX7_isBadNote 265 k fx tx ty (wIJ G x y) = some (bI (!okNote W.1 k fx tx ty), wIJ G x y) := by
  have h1 := hA.1.2.1
  have h2 := hA.1.2.2.2
  have e5 : nW 4 = nW 5 - nW 1 := by decide
  unfold fX7_isBadNote fX7_isBadNote_0 fX7_isBadNote_54 fX7_isBadNote_59 okNote
  simp only [lits]
  rw [e5, isStated_ok (by decide), Option.bind_some]
  cases sttd k 5 with
  | false => rw [if_pos bIf]; exact rz1
  | true =>
    rw [if_neg bIt, gR_wij, h.g0, Option.bind_some, hR.c0 h, Option.bind_some, isStated_ok (by omega), Option.bind_some]
    cases sttd fx W.1.1 with
    | false => rw [if_pos bIf]; exact rz1
    | true =>
      rw [if_neg bIt, gR_wij, h.g0, Option.bind_some, hR.c0 h, Option.bind_some, isStated_ok (by omega), Option.bind_some]
      cases sttd tx W.1.1 with
      | false => rw [if_pos bIf]; exact rz1
      | true =>
        rw [if_neg bIt, gR_wij, h.g0, Option.bind_some, hR.r1 h, Option.bind_some, isStated_ok (by omega), Option.bind_some]
        cases sttd ty W.1.2.1 with
        | false => rw [if_pos bIf]; exact rz1
        | true => rw [if_neg bIt]; exact rz0
/-! plain reads -/
theorem mcolumns_ok (h : MSh G 265) (hR : RQ x y W) : MOu G x y (fX7_columns 265 (wIJ G x y)) (nW W.1.1, W) := by
  unfold fX7_columns fX7_columns_0
  simp only [lits]
  rw [gR_wij, h.g0, Option.bind_some, hR.c0 h, Option.bind_some, ck_wij, ck_ok h.t, told_ok h, Option.bind_some]
  exact MOu.six hR
theorem mrows_ok (h : MSh G 265) (hR : RQ x y W) : MOu G x y (fX7_rows 265 (wIJ G x y)) (nW W.1.2.1, W) := by
  unfold fX7_rows fX7_rows_0
  simp only [lits]
  rw [gR_wij, h.g0, Option.bind_some, hR.r1 h, Option.bind_some, ck_wij, ck_ok h.t, told_ok h, Option.bind_some]
  exact MOu.six hR
theorem mcount_ok (h : MSh G 265) (hR : RQ x y W) : MOu G x y (fX7_noteCount 265 (wIJ G x y)) (nW W.1.2.2.2.2, W) := by
  unfold fX7_noteCount fX7_noteCount_0
  simp only [lits]
  rw [gR_wij, h.g0, Option.bind_some, hR.m2 h, Option.bind_some, ck_wij, ck_ok h.t, told_ok h, Option.bind_some]
  exact MOu.six hR
theorem mmover_ok (h : MSh G 265) (hA : AAOK W.1) (hR : RQ x y W) : MOu G x y (fX7_colourToMove 265 (wIJ G x y)) (nW (W.1.2.2.2.2 % 2), W) := by
  have hm := hA.2.2.1
  unfold fX7_colourToMove fX7_colourToMove_0
  simp only [lits]
  rw [gR_wij, h.g0, Option.bind_some, hR.m2 h, Option.bind_some, ck_wij, ck_ok h.t, nW_rem (by omega) (by decide), told_ok h, Option.bind_some]
  exact MOu.six hR
theorem mundoable_ok (h : MSh G 265) (hR : RQ x y W) : MOu G x y (fX7_undoableChanges 265 (wIJ G x y)) (nW W.2.1.length, W) := by
  unfold fX7_undoableChanges fX7_undoableChanges_0
  rw [gF_wij h.t, hR.2.1.1.1, Option.bind_some, ck_wij, ck_ok h.t, told_ok h, Option.bind_some]
  exact MOu.six hR
theorem merrc_ok (h : MSh G 265) (hR : RQ x y W) : MOu G x y (fX7_errorCode 265 (wIJ G x y)) (W.2.2.2.2.1.1, W) := by
  unfold fX7_errorCode fX7_errorCode_0
  rw [gF_wij h.t, hR.2.2.2.2.1.1, Option.bind_some, ck_wij, ck_ok h.t, told_ok h, Option.bind_some]
  exact MOu.six hR
theorem merro_ok (h : MSh G 265) (hR : RQ x y W) : MOu G x y (fX7_errorOffset 265 (wIJ G x y)) (W.2.2.2.2.1.2, W) := by
  unfold fX7_errorOffset fX7_errorOffset_0
  rw [gF_wij h.t, hR.2.2.2.2.1.2, Option.bind_some, ck_wij, ck_ok h.t, told_ok h, Option.bind_some]
  exact MOu.six hR
theorem mgames_ok (h : MSh G 265) (hA : AAOK W.1) (hR : RQ x y W) : MOu G x y (fX7_gameCount 265 (wIJ G x y)) (Int64.ofNat (gmA W.1), W) := by
  unfold fX7_gameCount fX7_gameCount_0
  simp only [lits]
  rw [pI_wij h.t, Option.bind_some, ck_wij, ck_ok h.t, games_ok h hA (hR.six (v := nW 0)).1, Option.bind_some]
  exact MOu.six hR
theorem misCertain_ok (h : MSh G 265) (hA : AAOK W.1) (hR : RQ x y W) : MOu G x y (fX7_isCertain 265 (wIJ G x y)) (oneG (Int64.ofNat (gmA W.1)), W) := by
  unfold fX7_isCertain fX7_isCertain_0 fX7_isCertain_19 oneG
  rw [pI_wij h.t, Option.bind_some, ck_wij, ck_ok h.t, games_ok h hA (hR.six (v := 0)).1, Option.bind_some]
  show MOu G x y (if lg_cmp (Int64.ofNat (gmA W.1)) 1 = 0 then rz (1 : Int32) (some ((1 : Int32), wIJ G (u2 x 265 6 0) y)) else rz (0 : Int32) (some ((0 : Int32), wIJ G (u2 x 265 6 0) y))) _
  by_cases q : lg_cmp (Int64.ofNat (gmA W.1)) 1 = 0
  · rw [if_pos q, if_pos q]
    have : rz (1 : Int32) (some ((1 : Int32), wIJ G (u2 x 265 6 0) y)) = some (nW 1, wIJ G (u2 x 265 6 0) y) := rz1
    rw [this]; exact MOu.six hR
  · rw [if_neg q, if_neg q]
    have : rz (0 : Int32) (some ((0 : Int32), wIJ G (u2 x 265 6 0) y)) = some (nW 0, wIJ G (u2 x 265 6 0) y) := rz0
    rw [this]; exact MOu.six hR
theorem mcertain_ok (h : MSh G 265) (hA : AAOK W.1) (hR : RQ x y W) : MOu G x y (fX7_certainSquares 265 (wIJ G x y)) (nW (smA W.1), W) := by
  unfold fX7_certainSquares fX7_certainSquares_0
  rw [ck_wij, ck_ok h.t, same_ok h hA hR.1, Option.bind_some, ck_wij, ck_ok h.t, told_ok h, Option.bind_some]
  exact MOu.six hR
theorem mmean_ok (h : MSh G 265) (hA : AAOK W.1) (hR : RQ x y W) : MOu G x y (fX7_meanGames 265 (wIJ G x y)) (mgS W.1, W) := by
  have hm := hA.2.2.1
  have h40 : pcA W.1 ≤ 40 := (lyN_run hA.2.1 hA.2.2.2.1).1.1
  have h0 : 0 < pcA W.1 := pcn_pos hA.2.2.2.1
  have hR' := hR.six (v := nW 0)
  have e : gA (wIJ G (u2 x 265 6 (nW 0)) y) 1 (265 + 9) (nW W.1.2.2.2.2) = some (nW (pcA W.1)) := hR'.1.many h hm (Nat.le_refl _)
  unfold fX7_meanGames fX7_meanGames_0
  simp only [lits]
  rw [pI_wij h.t, Option.bind_some, ck_wij, ck_ok h.t, games_ok h hA hR'.1, Option.bind_some, gR_wij, h.g14, Option.bind_some, gR_wij, h.g0, Option.bind_some, hR'.m2 h, Option.bind_some, e, Option.bind_some, nk64_ok (show pcA W.1 < 41 by omega) (show pcA W.1 ≠ 0 by omega)]
  exact MOu.six hR
theorem mshare_ok (h : MSh G 265) (hA : AAOK W.1) (hR : RQ x y W) : MOu G x y (fX7_certainShare 265 (wIJ G x y)) (csS W.1, W) := by
  have hn := szs36 hA.1
  have hc := hA.1
  have hpos : 0 < W.1.1 * W.1.2.1 := Nat.mul_pos (by have := hc.1; omega) (by have := hc.2.2.1; omega)
  have hR' := hR.six (v := nW 0)
  unfold fX7_certainShare fX7_certainShare_0
  simp only [lits]
  rw [pI_wij h.t, Option.bind_some, ck_wij, ck_ok h.t, same_ok h hA hR'.1, Option.bind_some, ck_wij, ck_ok h.t, squareMany_ok h hR'.1.1.1, Option.bind_some, nk32_ok (show W.1.1 * W.1.2.1 < 41 by omega) (show W.1.1 * W.1.2.1 ≠ 0 by omega)]
  exact MOu.six hR
end MOPS
