/-! ===== the reference loads a setup ===== -/
section MLOAD2
variable {G : Mem} {o : Nat} {x : Nat → Nat → Int32} {y : Nat → Nat → Int64} {T : Nat → Nat} {L : Nat} {c r : Nat} {P : Nat → Nat}
/-- where a setup leads: to its commands, or to something wrong -/
def MLo (G : Mem) (o : Nat) (T : Nat → Nat) (L : Nat) (x : Nat → Nat → Int32) (y : Nat → Nat → Int64) (z : Option (Int32 × Mem)) (p : (Nat × Nat) ⊕ (Nat × Nat × (Nat → Nat) × Nat)) : Prop :=
  ∃ x' y', z = fX7_load_244 o (wIJ G x' y') ∧ MCX o x x' ∧ MCY o y y' ∧ ((∃ e, p = .inl e ∧ RBd x' o e) ∨ (∃ c r P' s', p = .inr (c, r, P', s') ∧ PInv c r P' ∧ (fnd (c * r) P' 1 < c * r ∧ fnd (c * r) P' 6 < c * r) ∧ MRa x' y' o (c, r, N00, P', 0) ∧ RSt x' o T L s'))
theorem MLo.from {x1 : Nat → Nat → Int32} {y1 : Nat → Nat → Int64} {z : Option (Int32 × Mem)} {p : (Nat × Nat) ⊕ (Nat × Nat × (Nat → Nat) × Nat)} (hx : MCX o x x1) (hy : MCY o y y1) (h : MLo G o T L x1 y1 z p) : MLo G o T L x y z p := by
  obtain ⟨x', y', e1, e2, e3, e4⟩ := h
  exact ⟨x', y', e1, hx.trans e2, hy.trans e3, e4⟩
theorem MSX.mcx {x' : Nat → Nat → Int32} (h : MSX o x x') : MCX o x x' := fun b j q1 q2 _ => h b j q1 q2
theorem l217_bad (h : MSh G o) (hb : x o 25 = nW 1) : fX7_load_217 o o (nW 0) (wIJ G x y) = fX7_load_244 o (wIJ G x y) := by
  unfold fX7_load_217
  simp only [lits]
  rw [ck_wij, ck_ok h.t, wrong_no h, Option.bind_some, gF_wij h.t, hb, Option.bind_some, if_neg (by decide)]
theorem l133_bad (h : MSh G o) (hy : RBy x o T L) {s : Nat} (hk : RTk x o T L s) (hb : x o 25 = nW 1) : fX7_load_133 o (wIJ G x y) = fX7_load_244 o (wIJ G x y) := by
  have e175 : ∀ v, fX7_load_175 o v (wIJ G x y) = fX7_load_244 o (wIJ G x y) := fun v => by
    unfold fX7_load_175 fX7_load_192 fX7_load_193 fX7_load_216
    simp only [lits]
    rw [gF_wij h.t, hb, Option.bind_some, if_neg (by decide), ck_wij, ck_ok h.t, wrong_no h, Option.bind_some, gF_wij h.t, hb, Option.bind_some, if_neg (by decide), l217_bad h hb]
  unfold fX7_load_133 fX7_load_170
  simp only [lits]
  rw [gF_wij h.t, Option.bind_some, e175]
  split
  · rfl
  · rw [ck_wij, ck_ok h.t, mis_ok h hy hk (by decide), Option.bind_some]
    split
    · rw [ck_wij, ck_ok h.t, mis_ok h hy hk (by decide), Option.bind_some]
      split
      · rw [ck_wij, ck_ok h.t, mis_ok h hy hk (by decide), Option.bind_some]
        split
        · exact e175 _
        · exact e175 _
      · exact e175 _
    · exact e175 _
theorem l101_bad (h : MSh G o) {e : Nat × Nat} (hb : RBt x o T L e) {fu : Nat} : loopM (fun (s : Unit) G => fX7_load_101 o G) (fu + 1) () (wIJ G x y) = fX7_load_244 o (wIJ G x y) := by
  obtain ⟨h1, h2, s, h3⟩ := hb
  refine loopM_lift ?_
  show fX7_load_101 _ _ = _
  unfold fX7_load_101
  simp only [lits]
  rw [gF_wij h.t, h1.1, Option.bind_some, if_neg (by decide), l133_bad h h2 h3 h1.1]
/-- the end of the pieces -/
theorem l133_ok (h : MSh G o) {s : Nat} (hs : RSt x o T L s) (hI : PInv c r P) (hP : MPs x o c r N00 P 0) : MLo G o T L x y (fX7_load_133 o (wIJ G x y)) (pSetE T L c r P s) := by
  have hz := hI.1
  have hn36 := szs36 hz
  have bad : ∀ k, ∃ x', fX7_wrong o (nW 1) (nW k) (wIJ G x y) = some ((), wIJ G x' y) ∧ MTF o x x' ∧ RBd x' o (k, s) := fun k => by
    obtain ⟨x', w1, w2, w3, -⟩ := wrong_yes (y := y) (k := k) h hs
    exact ⟨x', w1, w2, w3⟩
  have no : mayE T L s = false → MLo G o T L x y (fX7_load_175 o (nW 0) (wIJ G x y)) (pSetE T L c r P s) := by
    intro hm
    obtain ⟨x', w1, w2, w3⟩ := bad 1
    refine ⟨x', y, ?_, w2.mcx, MCY.rfl', Or.inl ⟨_, if_neg (by rw [hm]; decide), w3⟩⟩
    unfold fX7_load_175 fX7_load_193 fX7_load_216
    simp only [lits]
    rw [gF_wij h.t, hs.2.2.1, Option.bind_some, if_pos rfl, if_pos trivial, ck_wij, ck_ok h.t, w1, Option.bind_some, gF_wij h.t, w3.1, Option.bind_some, if_neg (by decide), l217_bad h w3.1]
  have yes : mayE T L s = true → MLo G o T L x y (fX7_load_170 o (wIJ G x y)) (pSetE T L c r P s) := by
    intro hm
    have eS : pSetE T L c r P s = if fnd (c * r) P 1 < c * r ∧ fnd (c * r) P 6 < c * r then .inr (c, r, P, s) else .inl (5, s) := if_pos hm
    have lk : fX7_lacksKing o (wIJ G x y) = some (bI (!decide (fnd (c * r) P 1 < c * r ∧ fnd (c * r) P 6 < c * r)), wIJ G x y) := by
      unfold fX7_lacksKing fX7_lacksKing_0 fX7_lacksKing_28 fX7_lacksKing_33
      simp only [lits]
      have k0 := kingOf_ok (x := x) (y := y) h hz hP.1 h.r0 (at' := 3) (by omega) (by decide) (hP.row.mono hn36) hI.2.1 (show 0 < 2 by decide)
      have k1 := kingOf_ok (x := x) (y := y) h hz hP.1 h.r0 (at' := 3) (by omega) (by decide) (hP.row.mono hn36) hI.2.1 (show 1 < 2 by decide)
      rw [gR_wij, h.g0, Option.bind_some, ck_wij, ck_ok h.t, k0, Option.bind_some]
      have e0 : kgc 0 = 1 := rfl
      have e1 : kgc 1 = 6 := rfl
      rw [e0]
      by_cases a : fnd (c * r) P 1 < c * r
      · rw [if_pos a, if_neg (show ¬ nW (fnd (c * r) P 1) = -nW 1 from nW_m1 (by omega)), gR_wij, h.g0, Option.bind_some, ck_wij, ck_ok h.t, k1, Option.bind_some, e1]
        by_cases b : fnd (c * r) P 6 < c * r
        · rw [if_pos b, if_neg (show ¬ nW (fnd (c * r) P 6) = -nW 1 from nW_m1 (by omega)), rz0, decide_eq_true ⟨a, b⟩]; rfl
        · rw [if_neg b, if_pos (show -nW 1 = -nW 1 from rfl), rz1, decide_eq_false (fun z => b z.2)]; rfl
      · rw [if_neg a, if_pos (show -nW 1 = -nW 1 from rfl), rz1, decide_eq_false (fun z => a z.1)]; rfl
    unfold fX7_load_170 fX7_load_175 fX7_load_192 fX7_load_193 fX7_load_216
    simp only [lits]
    rw [gF_wij h.t, hs.2.2.1, Option.bind_some, if_pos rfl, if_neg (by decide), ck_wij, ck_ok h.t, wrong_no h, Option.bind_some, gF_wij h.t, hs.2.2.1, Option.bind_some, if_pos rfl, ck_wij, ck_ok h.t, lk, Option.bind_some, eS]
    by_cases q : fnd (c * r) P 1 < c * r ∧ fnd (c * r) P 6 < c * r
    · have hA : AAOK (c, r, N00, P, 0) := hI.aok q
      obtain ⟨x', y', f1, f2, f3, f4⟩ := mfinds_rep (y := y) h hA hP.kept
      have w2 : x' o 25 = nW 0 := by rw [f2 o (by omega)]; exact hs.2.2.1
      rw [decide_eq_true q, if_pos (show bI (!true) = nW 0 from rfl), if_pos q]
      refine ⟨x', y', ?_, fun b j _ _ q4 => by rw [f2 b q4], f3, Or.inr ⟨c, r, P, s, rfl, hI, q, f4, hs.same (f2 o (by omega)) (f2 (o + 6) (by omega))⟩⟩
      unfold fX7_load_217 fX7_load_241
      simp only [lits]
      rw [ck_wij, ck_ok h.t, wrong_no h, Option.bind_some, gF_wij h.t, hs.2.2.1, Option.bind_some, if_pos rfl, ck_wij, ck_ok h.t, f1, Option.bind_some, if_neg (show ¬ nW 1 = nW 0 by decide), pZ_wij (v := nW 0) h.t (Or.inl rfl), Option.bind_some, u2_id w2]
    · obtain ⟨x', w1, w2, w3⟩ := bad 5
      rw [decide_eq_false q, if_neg (show ¬ bI (!false) = nW 0 by decide), if_neg q]
      refine ⟨x', y, ?_, w2.mcx, MCY.rfl', Or.inl ⟨_, rfl, w3⟩⟩
      unfold fX7_load_217
      simp only [lits]
      rw [ck_wij, ck_ok h.t, w1, Option.bind_some, gF_wij h.t, w3.1, Option.bind_some, if_neg (by decide)]
  unfold fX7_load_133
  simp only [lits]
  rw [gF_wij h.t, Option.bind_some]
  by_cases e0 : srt T L s = 0
  · rw [if_pos (hs.2.1.done.mpr e0)]
    exact yes (by unfold mayE; rw [decide_eq_true e0]; rfl)
  · rw [if_neg (fun q => e0 (hs.2.1.done.mp q)), ck_wij, ck_ok h.t, mis_ok h hs.1 hs.2.1 (by decide), Option.bind_some]
    cases h8 : isw T L s 8 with
    | true =>
      rw [if_neg bIt]
      exact yes (by unfold mayE; rw [h8]; simp)
    | false =>
      rw [if_pos bIf, ck_wij, ck_ok h.t, mis_ok h hs.1 hs.2.1 (by decide), Option.bind_some]
      cases h9 : isw T L s 9 with
      | true =>
        rw [if_neg bIt]
        exact yes (by unfold mayE; rw [h9]; simp)
      | false =>
        rw [if_pos bIf, ck_wij, ck_ok h.t, mis_ok h hs.1 hs.2.1 (by decide), Option.bind_some]
        cases h10 : isw T L s 10 with
        | true =>
          rw [if_neg bIt]
          exact yes (by unfold mayE; rw [h10]; simp)
        | false =>
          rw [if_pos bIf]
          exact no (by unfold mayE; rw [decide_eq_false e0, h8, h9, h10]; rfl)
/-- the further pieces -/
theorem l101_ok (h : MSh G o) : ∀ (d fu : Nat) (x : Nat → Nat → Int32) (P : Nat → Nat) (s : Nat), 12 ≤ npc (c * r) P + d → d < fu → 2 ≤ npc (c * r) P → RSt x o T L s → PInv c r P → MPs x o c r N00 P 0 → MLo G o T L x y (loopM (fun (s : Unit) G => fX7_load_101 o G) fu () (wIJ G x y)) (zB (pPieces T L c r d P s) fun q => pSetE T L c r q.1 q.2) := by
  intro d
  induction d with
  | zero => intro fu x P s hd _ _ _ hI; have := hI.2.2.2.2; omega
  | succ d ih =>
    intro fu x P s hd hfu h2 hs hI hP
    obtain ⟨fu, rfl⟩ : ∃ k, fu = k + 1 := ⟨fu - 1, by omega⟩
    by_cases hc : colN T L s = 2
    · have eP : pPieces T L c r (d + 1) P s = .inr (P, s) := if_pos ⟨hc, h2⟩
      have w1 : isw T L s 1 = false := by
        cases q : isw T L s 1 with
        | false => rfl
        | true => unfold colN at hc; rw [q, if_pos rfl] at hc; cases hc
      have w2 : isw T L s 2 = false := by
        cases q : isw T L s 2 with
        | false => rfl
        | true => unfold colN at hc; rw [w1, q, if_neg (by decide), if_pos rfl] at hc; cases hc
      rw [loopM_lift (X := fX7_load_133 o (wIJ G x y)) (by
        show fX7_load_101 _ _ = _
        unfold fX7_load_101
        simp only [lits]
        rw [gF_wij h.t, hs.2.2.1, Option.bind_some, if_pos rfl, ck_wij, ck_ok h.t, mis_ok h hs.1 hs.2.1 (by decide), Option.bind_some, w1, if_pos bIf, ck_wij, ck_ok h.t, mis_ok h hs.1 hs.2.1 (by decide), Option.bind_some, w2, if_pos bIf]), zB_r eP]
      exact l133_ok h hs hI hP
    · have eP : pPieces T L c r (d + 1) P s = zB (pPiece T L c r P s) fun q => pPieces T L c r d q.1 q.2 := if_neg (fun q => hc q.1)
      obtain ⟨x1, p1, p2, p3⟩ := pieceTold_ok (y := y) h hs hI hP
      have step : fX7_load_101 o (wIJ G x y) = some (.inl (), wIJ G x1 y) := by
        unfold fX7_load_101 fX7_load_126
        simp only [lits]
        rw [gF_wij h.t, hs.2.2.1, Option.bind_some, if_pos rfl, ck_wij, ck_ok h.t, mis_ok h hs.1 hs.2.1 (by decide), Option.bind_some]
        cases w1 : isw T L s 1 with
        | true => rw [if_neg bIt, ck_wij, ck_ok h.t, p1]; rfl
        | false =>
          have w2 : isw T L s 2 = true := by
            cases w2 : isw T L s 2 with
            | true => rfl
            | false => refine absurd ?_ hc; unfold colN; rw [w1, w2]; rfl
          rw [if_pos bIf, ck_wij, ck_ok h.t, mis_ok h hs.1 hs.2.1 (by decide), Option.bind_some, w2, if_neg bIt, ck_wij, ck_ok h.t, p1]; rfl
      rw [loopM_next (f := fun (s : Unit) G => fX7_load_101 o G) step, eP]
      refine MLo.from p2.mcx MCY.rfl' ?_
      rcases p3 with ⟨e, e1, e2⟩ | ⟨P', s', e1, e2, e3⟩
      · obtain ⟨fu, rfl⟩ : ∃ k, fu = k + 1 := ⟨fu - 1, by omega⟩
        rw [l101_bad h e2, zB_l (zB_l e1 _)]
        exact ⟨x1, y, rfl, MTF.rfl'.mcx, MCY.rfl', Or.inl ⟨e, rfl, e2.1⟩⟩
      · obtain ⟨i1, i2, i3⟩ := pPiece_inv hI e1
        rw [zB_r e1]
        exact ih fu x1 P' s' (by omega) (by omega) (by omega) e2 i1 e3
/-- all pieces, behind the board -/
theorem l90_ok (h : MSh G o) {s : Nat} (hs : RSt x o T L s) (hz : szs c r) (hP : MPs x o c r N00 (fun _ => 0) 0) :
    MLo G o T L x y ((fX7_pieceTold o (wIJ G x y)).bind fun q12 => fX7_load_90 o q12.2) (zB (pPieces T L c r 12 (fun _ => 0) s) fun q => pSetE T L c r q.1 q.2) := by
  have hI := PInv.zero hz
  have z0 : npc (c * r) (fun _ => 0) = 0 := npc_zero _
  obtain ⟨x1, p1, p2, p3⟩ := pieceTold_ok (y := y) h hs hI hP
  have e12 : pPieces T L c r 12 (fun _ => 0) s = zB (pPiece T L c r (fun _ => 0) s) fun q => pPieces T L c r 11 q.1 q.2 := if_neg (fun q => by have := q.2; omega)
  rw [p1, Option.bind_some, e12]
  refine MLo.from p2.mcx MCY.rfl' ?_
  rcases p3 with ⟨e, e1, e2⟩ | ⟨P1, s1, e1, e2, e3⟩
  · rw [zB_l (zB_l e1 _)]
    refine ⟨x1, y, ?_, MTF.rfl'.mcx, MCY.rfl', Or.inl ⟨e, rfl, e2.1⟩⟩
    unfold fX7_load_90
    simp only [lits]
    rw [gF_wij h.t, e2.1.1, Option.bind_some, if_neg (by decide)]
    exact l101_bad h e2
  · obtain ⟨i1, i2, i3⟩ := pPiece_inv hI e1
    rw [zB_r e1]
    obtain ⟨x2, q1, q2, q3⟩ := pieceTold_ok (y := y) h e2 i1 e3
    have e11 : pPieces T L c r 11 P1 s1 = zB (pPiece T L c r P1 s1) fun q => pPieces T L c r 10 q.1 q.2 := if_neg (fun q => by have := q.2; omega)
    unfold fX7_load_90
    simp only [lits]
    rw [gF_wij h.t, e2.2.2.1, Option.bind_some, if_pos rfl, ck_wij, ck_ok h.t, q1, Option.bind_some]
    show MLo G o T L x1 y _ (zB (pPieces T L c r 11 P1 s1) _)
    rw [e11]
    refine MLo.from q2.mcx MCY.rfl' ?_
    rcases q3 with ⟨e, g1, g2⟩ | ⟨P2, s2, g1, g2, g3⟩
    · rw [zB_l (zB_l g1 _)]
      exact ⟨x2, y, l101_bad h g2, MTF.rfl'.mcx, MCY.rfl', Or.inl ⟨e, rfl, g2.1⟩⟩
    · obtain ⟨j1, j2, j3⟩ := pPiece_inv i1 g1
      rw [zB_r g1]
      exact l101_ok h 10 FU x2 P2 s2 (by omega) (by show 10 < 100000; decide) (by omega) g2 j1 g3
/-- a text is read as a setup, from its first token on: the row of the state is empty -/
theorem l25_ok (h : MSh G o) {s : Nat} (hs : RSt x o T L s) (h0 : ∀ j, j < 109 → x (o + 1) j = nW 0) : MLo G o T L x y (fX7_load_25 o (wIJ G x y)) (pSetup T L s) := by
  have e76 : nW 7 - nW 1 = nW 6 := by decide
  -- once something is wrong
  have l90b : ∀ (x5 : Nat → Nat → Int32) (e : Nat × Nat), RBt x5 o T L e → fX7_load_90 o (wIJ G x5 y) = fX7_load_244 o (wIJ G x5 y) := fun x5 e he => by
    unfold fX7_load_90
    simp only [lits]
    rw [gF_wij h.t, he.1.1, Option.bind_some, if_neg (by decide)]
    exact l101_bad h he
  have RB : ∀ (x5 : Nat → Nat → Int32) (e : Nat × Nat) (k : Nat) (v : Int32), RBt x5 o T L e → RBt (u2 x5 (o + 1) k v) o T L e := fun x5 e k v he => by
    obtain ⟨⟨a1, a2, a3⟩, a4, s5, a5⟩ := he
    exact ⟨⟨by rw [u2_apart (by omega)]; exact a1, by rw [u2_apart (by omega)]; exact a2, by rw [u2_apart (by omega)]; exact a3⟩, a4.frame (u2_apart (by omega)) (u2_arow (by omega)), s5, a5.frame (fun j _ _ => u2_apart (by omega))⟩
  have XM : ∀ (x5 : Nat → Nat → Int32) (k : Nat) (v : Int32), MCX o x5 (u2 x5 (o + 1) k v) := fun x5 k v b j _ q2 _ => u2_apart q2
  -- from a wrong place behind the word 'board'
  have b41 : ∀ (x5 : Nat → Nat → Int32) (e : Nat × Nat), MCX o x x5 → RBt x5 o T L e → pSetup T L s = .inl e → ∀ z, z = ((gR (wIJ G x5 y) 17 o 0).bind fun v3 => ck (wIJ G x5 y) 17 o ((fX7_number o (nW 3) (nW 6) (wIJ G x5 y)).bind fun q4 => (pA q4.2 v3 (nW 0) q4.1).bind fun G5 => (gR G5 17 o 0).bind fun v6 => ck G5 17 o ((fX7_number o (nW 3) (nW 6) G5).bind fun q7 => (pA q7.2 v6 (nW 1) q7.1).bind fun G8 => ck G8 17 o ((fX7_semicolon o G8).bind fun q9 => (gF q9.2 17 o 25).bind fun v10 => if v10 = nW 0 then ck q9.2 17 o ((fX7_pieceTold o q9.2).bind fun q12 => fX7_load_90 o q12.2) else fX7_load_90 o q9.2)))) → MLo G o T L x y z (pSetup T L s) := by
    intro x5 e f5 he hp z hz
    have r6 := RB x5 e 0 (nW 3) he
    have r7 := RB _ e 1 (nW 3) r6
    rw [hz, hp, gR_wij, h.g0, Option.bind_some, ck_wij, ck_ok h.t, number_bad h he.1.1, Option.bind_some, h.r0.wr (by decide) (by decide), Option.bind_some, gR_wij, h.g0, Option.bind_some, ck_wij, ck_ok h.t, number_bad h r6.1.1, Option.bind_some, h.r0.wr (by decide) (by decide), Option.bind_some, ck_wij, ck_ok h.t, semicolon_bad h r7.1.1, Option.bind_some, gF_wij h.t, r7.1.1, Option.bind_some, if_neg (by decide), l90b _ e r7]
    exact ⟨_, y, rfl, (f5.trans (XM _ _ _)).trans (XM _ _ _), MCY.rfl', Or.inl ⟨e, rfl, r7.1⟩⟩
  unfold fX7_load_25
  simp only [lits]
  rw [ck_wij, ck_ok h.t, mis_ok h hs.1 hs.2.1 (by decide), Option.bind_some]
  cases h1 : isw T L s 0 with
  | false =>
    obtain ⟨x1, w1, w2, w3, w4, w5⟩ := wrong_yes (y := y) (k := 1) h hs
    have eS : pSetup T L s = .inl (1, s) := by
      unfold pSetup pBoard
      rw [h1, if_neg (by decide)]; rfl
    rw [if_pos bIf]
    unfold fX7_load_41
    simp only [lits]
    rw [ck_wij, ck_ok h.t, w1, Option.bind_some, ck_wij, ck_ok h.t, go_bad h w3.1, Option.bind_some]
    exact b41 x1 (1, s) w2.mcx ⟨w3, w4, _, w5⟩ eS _ rfl
  | true =>
    obtain ⟨x1, a1, a2, a3⟩ := go_ok (y := y) h hs
    obtain ⟨v2, x2, b1, b2, b3⟩ := number_ok (y := y) (lo := 3) (hb := 7) h a3 (by decide) (by decide)
    rw [e76] at b1
    rw [if_neg bIt]
    unfold fX7_load_41
    simp only [lits]
    have eB : pSetup T L s = zB (zB (pNum T L (nx T L s) 3 7) fun q => zB (pNum T L q.2 3 7) fun q2 => if srt T L q2.2 = 4 then .inr (q.1, q2.1, nx T L q2.2) else .inl (1, q2.2)) fun q => zB (pPieces T L q.1 q.2.1 12 (fun _ => 0) q.2.2) fun q2 => pSetE T L q.1 q.2.1 q2.1 q2.2 := by
      unfold pSetup pBoard
      rw [h1, if_pos rfl]
    rw [ck_wij, ck_ok h.t, wrong_no h, Option.bind_some, ck_wij, ck_ok h.t, a1, Option.bind_some, gR_wij, h.g0, Option.bind_some, ck_wij, ck_ok h.t, b1, Option.bind_some, h.r0.wr (by decide) (by decide), Option.bind_some, gR_wij, h.g0, Option.bind_some, ck_wij, ck_ok h.t, eB]
    have fr2 : MCX o x (u2 x2 (o + 1) 0 v2) := (a2.trans b2).mcx.trans (XM _ _ _)
    rcases b3 with ⟨e, e1, e2, e3⟩ | ⟨c, s2, e1, e2, e3⟩
    · have r6 := RB x2 e 0 v2 ⟨e3.1, e3.2.1, _, e3.2.2⟩
      have r7 := RB _ e 1 (nW 3) r6
      rw [number_bad h r6.1.1, Option.bind_some, h.r0.wr (by decide) (by decide), Option.bind_some, ck_wij, ck_ok h.t, semicolon_bad h r7.1.1, Option.bind_some, gF_wij h.t, r7.1.1, Option.bind_some, if_neg (by decide), l90b _ e r7, zB_l (zB_l e1 _)]
      exact ⟨_, y, rfl, fr2.trans (XM _ _ _), MCY.rfl', Or.inl ⟨e, rfl, r7.1⟩⟩
    · have lc := pNum_lt e1
      have s6 : RSt (u2 x2 (o + 1) 0 v2) o T L s2 := e3.same (u2_arow (by omega)) (u2_arow (by omega))
      obtain ⟨v3, x3, d1, d2, d3⟩ := number_ok (y := y) (lo := 3) (hb := 7) h s6 (by decide) (by decide)
      rw [e76] at d1
      rw [d1, Option.bind_some, h.r0.wr (by decide) (by decide), Option.bind_some, ck_wij, ck_ok h.t, zB_r e1]
      have fr3 : MCX o x (u2 x3 (o + 1) 1 v3) := (fr2.trans d2.mcx).trans (XM _ _ _)
      rcases d3 with ⟨e, g1, g2, g3⟩ | ⟨r, s3, g1, g2, g3⟩
      · have r7 := RB x3 e 1 v3 ⟨g3.1, g3.2.1, _, g3.2.2⟩
        rw [semicolon_bad h r7.1.1, Option.bind_some, gF_wij h.t, r7.1.1, Option.bind_some, if_neg (by decide), l90b _ e r7, zB_l (zB_l g1 _)]
        exact ⟨_, y, rfl, fr3, MCY.rfl', Or.inl ⟨e, rfl, r7.1⟩⟩
      · have lr := pNum_lt g1
        have s7 : RSt (u2 x3 (o + 1) 1 v3) o T L s3 := g3.same (u2_arow (by omega)) (u2_arow (by omega))
        obtain ⟨x4, m1, m2, m3⟩ := semicolon_ok (y := y) h s7
        have fr4 : MCX o x x4 := fr3.trans m2.mcx
        rw [m1, Option.bind_some, gF_wij h.t, zB_r g1]
        rcases m3 with ⟨g, gs⟩ | ⟨g, gb, gy, gt⟩
        · have hz : szs c r := ⟨lc.1, lc.2.1, lr.1, lr.2.1⟩
          have row4 : ∀ j, x4 (o + 1) j = if j = 1 then v3 else if j = 0 then v2 else x (o + 1) j := fun j => by
            rw [m2.row (by omega)]
            by_cases j1 : j = 1
            · rw [j1, u2_same, if_pos rfl]
            · rw [u2_other (by omega), if_neg j1, d2.row (by omega)]
              by_cases j0 : j = 0
              · rw [j0, u2_same, if_pos rfl]
              · rw [u2_other (by omega), if_neg j0, b2.row (by omega), a2.row (by omega)]
          have hP : MPs x4 o c r N00 (fun _ => 0) 0 := ⟨⟨by rw [row4, if_neg (by decide), if_pos rfl, e2], by rw [row4, if_pos rfl, g2]⟩, by rw [row4, if_neg (by decide), if_neg (by decide), h0 2 (by decide)], fun q hq => by rw [row4, if_neg (by omega), if_neg (by omega), h0 _ (by omega)], fun i hi => absurd hi (Nat.not_lt_zero _)⟩
          rw [gs.2.2.1, Option.bind_some, if_pos rfl, ck_wij, ck_ok h.t, if_pos g]
          exact MLo.from fr4 MCY.rfl' (l90_ok h gs hz hP)
        · rw [gb.1, Option.bind_some, if_neg (by decide), l90b _ (1, s3) ⟨gb, gy, _, gt⟩, if_neg g]
          exact ⟨_, y, rfl, fr4, MCY.rfl', Or.inl ⟨_, rfl, gb⟩⟩
/-- what load answers: nothing is -1, else the number of pieces -/
theorem mload_ok (h : MSh G o) {A : ASt} (hA : AAOK A) (hR : MRa x y o A) (hb : RBy x o T L) {l : List ASt} (hK : KRep x o l) :
    ∃ v x' y', fX7_load o (wIJ G x y) = some (v, wIJ G x' y') ∧ (∀ b j, ¬ (b = o ∧ (j = 5 ∨ j = 6 ∨ j = 9 ∨ j = 11 ∨ j = 12 ∨ 21 ≤ j)) → b ≠ o + 1 → b ≠ o + 2 → b ≠ o + 4 → (b < o + 8 ∨ o + 12 < b) → x' b j = x b j) ∧ x' o 6 = nW 0 ∧ MCY o y y' ∧ MFin o x' y' A l (pLoad T L) ∧ ((∃ e, pLoad T L = .inl e ∧ v = -nW 1) ∨ (∃ A' n', pLoad T L = .inr (A', n') ∧ v = nW (npc (A'.1 * A'.2.1) A'.2.2.2.1))) := by
  have hL := hb.1
  obtain ⟨x1, a1, a2, a3, a4, a5⟩ := mstarts_ok (y := y) h hb hA.2.2.1 hR.1.kept
  -- the row of the state is emptied
  let xz : Nat → Nat → Nat → Int32 := fun i b j => if b = o + 1 ∧ j < i then nW 0 else x1 b j
  have xzr : ∀ i b, b ≠ o + 1 → xz i b = x1 b := fun i b hq => funext fun j => if_neg (fun z => hq z.1)
  have s2 : RSt (xz 109) o T L (spN T L 0) := a2.same (xzr _ _ (by omega)) (xzr _ _ (by omega))
  obtain ⟨x2, y2, b1, b2, b3, b4⟩ := l25_ok (y := y) h s2 (fun j hj => if_pos ⟨rfl, hj⟩)
  have head : fX7_load o (wIJ G x y) = fX7_load_244 o (wIJ G x2 y2) := by
    have lp : ∀ d i fu, i + d = 109 → d < fu → loopM (fun (s : Int32) G => fX7_load_6 o s G) fu (nW i) (wIJ G (xz i) y) = fX7_load_25 o (wIJ G (xz 109) y) := by
      intro d
      induction d with
      | zero =>
        intro i fu hi hfu
        obtain ⟨fu, rfl⟩ : ∃ k, fu = k + 1 := ⟨fu - 1, by omega⟩
        have : i = 109 := by omega
        subst this
        refine loopM_lift (f := fun (s : Int32) G => fX7_load_6 o s G) ?_
        show fX7_load_6 _ _ _ = _
        unfold fX7_load_6
        simp only [lits]
        rw [if_pos ((nW_le (by decide) (by decide)).mpr (Nat.le_refl _))]
      | succ d ih =>
        intro i fu hi hfu
        obtain ⟨fu, rfl⟩ : ∃ k, fu = k + 1 := ⟨fu - 1, by omega⟩
        have step : fX7_load_6 o (nW i) (wIJ G (xz i) y) = some (.inl (nW (i + 1)), wIJ G (xz (i + 1)) y) := by
          unfold fX7_load_6
          simp only [lits]
          rw [if_neg (by rw [nW_le (by decide) (by omega)]; omega), gR_wij, h.g0, Option.bind_some, h.r0.wr (by omega) (by decide), Option.bind_some, nW_add]
          have : u2 (xz i) (o + 1) i (nW 0) = xz (i + 1) := by
            funext b j
            show _ = if b = o + 1 ∧ j < i + 1 then nW 0 else x1 b j
            by_cases q : b = o + 1 ∧ j = i
            · rw [q.1, q.2, u2_same, if_pos ⟨rfl, Nat.lt_succ_self _⟩]
            · rw [u2_other q]
              show (if b = o + 1 ∧ j < i then nW 0 else x1 b j) = _
              by_cases q2 : b = o + 1 ∧ j < i
              · rw [if_pos q2, if_pos ⟨q2.1, by omega⟩]
              · rw [if_neg q2, if_neg (by omega)]
          rw [this]
        rw [loopM_next (f := fun (s : Int32) G => fX7_load_6 o s G) step]
        exact ih (i + 1) fu (by omega) (by omega)
    unfold fX7_load fX7_load_0
    simp only [lits]
    rw [ck_wij, ck_ok h.t, a1, Option.bind_some]
    have x00 : xz 0 = x1 := funext fun b => funext fun j => if_neg (by omega)
    have := lp 109 0 FU rfl (by show 109 < 100000; decide)
    rw [x00] at this
    rw [← b1, ← this]
  have fr : ∀ b j, ¬ (b = o ∧ (j = 5 ∨ j = 6 ∨ j = 9 ∨ j = 11 ∨ j = 12 ∨ 21 ≤ j)) → b ≠ o + 1 → b ≠ o + 2 → b ≠ o + 4 → (b < o + 8 ∨ o + 12 < b) → x2 b j = x b j := fun b j q1 q2 q3 q4 q5 => by
    rw [b2 b j (by omega) q2 q5, xzr _ _ q2, a5 b j (by omega) q4]
  have f6 : x2 o 6 = nW 0 := by
    rw [b2 o 6 (by omega) (by omega) (by omega), xzr _ _ (by omega)]; exact a4
  have K2 : KRep x2 o l := hK.same (by rw [b2 o 5 (by omega) (by omega) (by omega), xzr _ _ (by omega), a5 o 5 (by omega) (by omega)]) (funext fun j => by rw [b2 (o + 2) j (by omega) (by omega) (by omega), xzr _ _ (by omega), a5 (o + 2) j (by omega) (by omega)])
  have P2 : MKa x2 (o + 4) 0 A := a3.same (funext fun j => by rw [b2 (o + 4) j (by omega) (by omega) (by omega), xzr _ _ (by omega)])
  rcases b4 with ⟨e, e1, e2⟩ | ⟨c, r, P', s', e1, e2, e3, e4, e5⟩
  · obtain ⟨x3, y3, c1, c2, c3, c4, c5⟩ := mend_bad (y := y2) (v := nW 0) h hA P2 e2.1
    have run : fX7_commands o (wIJ G x2 y2) = some (-nW 1, wIJ G x3 y3) := by
      rw [← c1]
      refine loopM_lift (f := fun (s : Int32) G => fX7_commands_2 o s G) (fu := 99999) ?_
      show fX7_commands_2 _ _ _ = _
      unfold fX7_commands_2
      simp only [lits]
      rw [gF_wij h.t, e2.1, Option.bind_some, if_neg (by decide)]
    refine ⟨-nW 1, x3, y3, ?_, fun b j q1 q2 q3 q4 q5 => ?_, ?_, (MCY.trans b3 c3), ⟨c4, Or.inl ⟨e, zB_l e1 _, c2, K2.same (c5 o 5 (by omega) (by omega) (by omega)) (funext fun j => c5 (o + 2) j (by omega) (by omega) (by omega)), ?_, ?_⟩⟩, Or.inl ⟨e, zB_l e1 _, rfl⟩⟩
    · rw [head]
      unfold fX7_load_244 fX7_load_260
      simp only [lits]
      rw [ck_wij, ck_ok h.t, run, Option.bind_some, if_pos (show -nW 1 = -nW 1 from rfl)]
    · rw [c5 b j (by omega) q2 q5, fr b j q1 q2 q3 q4 q5]
    · rw [c5 o 6 (by omega) (by omega) (by omega)]; exact f6
    · rw [c5 o 11 (by omega) (by omega) (by omega)]; exact e2.2.1
    · rw [c5 o 12 (by omega) (by omega) (by omega)]; exact e2.2.2
  · obtain ⟨v, x3, y3, c1, c2, c3, c4, c5⟩ := mcommands_ok (A := (c, r, N00, P', 0)) h (e2.aok e3) e4 e5 hA P2 K2
    have eL : pLoad T L = pCmds T L (L + 1) (c, r, N00, P', 0) s' 0 := zB_r e1 _
    have fr3 : ∀ b j, ¬ (b = o ∧ (j = 5 ∨ j = 6 ∨ j = 9 ∨ j = 11 ∨ j = 12 ∨ 21 ≤ j)) → b ≠ o + 1 → b ≠ o + 2 → b ≠ o + 4 → (b < o + 8 ∨ o + 12 < b) → x3 b j = x b j := fun b j q1 q2 q3 q4 q5 => by
      rw [c2 b j (by omega) q2 q3 q5, fr b j q1 q2 q3 q4 q5]
    have f63 : x3 o 6 = nW 0 := by rw [c2 o 6 (by omega) (by omega) (by omega) (by omega)]; exact f6
    rw [eL, head]
    unfold fX7_load_244 fX7_load_260
    simp only [lits]
    rw [ck_wij, ck_ok h.t, c1, Option.bind_some]
    rcases c5 with ⟨e, g1, g2⟩ | ⟨A', n', g1, g2⟩
    · rw [g2, if_pos (show -nW 1 = -nW 1 from rfl)]
      exact ⟨_, x3, y3, rfl, fr3, f63, MCY.trans b3 c3, c4, Or.inl ⟨e, g1, rfl⟩⟩
    · have hn := (pCmds_keep _ _ _ _ g1).2
      obtain ⟨k1, k2⟩ := id c4
      rcases k2 with ⟨e', k2, -⟩ | ⟨A2, n2, k2, k3, k4, -⟩
      · rw [g1] at k2; cases k2
      · rw [g1] at k2
        cases k2
        rw [g2, if_neg (show ¬ nW n' = -nW 1 from nW_m1 (by omega)), ck_wij, ck_ok h.t, mpieces_ok h k3.1 k3.2.1.1 k4.1, Option.bind_some]
        exact ⟨_, x3, y3, rfl, fr3, f63, MCY.trans b3 c3, c4, Or.inr ⟨A', n', g1, rfl⟩⟩
end MLOAD2
