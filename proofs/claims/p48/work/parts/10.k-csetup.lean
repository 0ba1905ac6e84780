/-! ===== the class reads setups ===== -/
theorem kmk_three {n : Nat} {P : Nat → Nat} : kmk n P = 3 ↔ (fnd n P 1 < n ∧ fnd n P 6 < n) := by
  unfold kmk
  by_cases a : fnd n P 1 < n <;> by_cases b : fnd n P 6 < n <;> simp [a, b]
section CSETUP2
variable {G : Mem} {x : Nat → Nat → Int32} {y : Nat → Nat → Int64} {T : Nat → Nat} {L : Nat}
theorem isAtEnd_ok (h : PSh G) {s : Nat} (hs : CTk x T L s) : fX2_isAtEnd 1 (wIJ G x y) = some (bI (decide (srt T L s = 0)), wIJ G x y) := by
  have h4 := srt_le (T := T) (L := L) s
  unfold fX2_isAtEnd fX2_isAtEnd_0 fX2_isAtEnd_15
  simp only [lits]
  rw [gR_wij, h.g0, Option.bind_some, gF_wij h.2.1.1, hs.2.1, Option.bind_some]
  by_cases e : srt T L s = 0
  · rw [if_pos (by rw [e]), decide_eq_true e, rz1]; rfl
  · rw [if_neg (by rw [nW_eq (by omega) (by decide)]; exact e), decide_eq_false e, rz0]; rfl
/-- the end of the pieces -/
theorem setE_ok (h : PSh G) {s c r : Nat} {P : Nat → Nat} (hs : CSt x T L s) (hK : x 1 10 = nW (kmk (c * r) P)) :
    ∃ v x', fX2_readSetup_88 1 (wIJ G x y) = some (v, wIJ G x' y) ∧ (∀ d j, ¬ (d = 1 ∧ 1 ≤ j ∧ j ≤ 2) → x' d j = x d j) ∧ ((∃ e, pSetE T L c r P s = .inl e ∧ v = nW 0 ∧ CBd x' e) ∨ (pSetE T L c r P s = .inr (c, r, P, s) ∧ v = nW 1 ∧ x' = x ∧ fnd (c * r) P 1 < c * r ∧ fnd (c * r) P 6 < c * r)) := by
  have no : ∃ x', fX2_readSetup_155 1 (nW 0) (wIJ G x y) = some (nW 0, wIJ G x' y) ∧ (∀ d j, ¬ (d = 1 ∧ 1 ≤ j ∧ j ≤ 2) → x' d j = x d j) ∧ CBd x' (1, s) := by
    unfold fX2_readSetup_155 fX2_readSetup_172
    simp only [lits]
    rw [if_pos trivial, ck_wij, ck_ok h.1.1, reject_ok h hs.2.1, Option.bind_some, if_pos (show nW 0 = nW 0 from rfl), rz0]
    exact ⟨_, rfl, fun d j q => by rw [u2_other (by omega), u2_other (by omega)], by rw [u2_other (by omega), u2_same], u2_same⟩
  have yes : mayE T L s = true → ∃ v x', fX2_readSetup_131 1 (wIJ G x y) = some (v, wIJ G x' y) ∧ (∀ d j, ¬ (d = 1 ∧ 1 ≤ j ∧ j ≤ 2) → x' d j = x d j) ∧ ((∃ e, pSetE T L c r P s = .inl e ∧ v = nW 0 ∧ CBd x' e) ∨ (pSetE T L c r P s = .inr (c, r, P, s) ∧ v = nW 1 ∧ x' = x ∧ fnd (c * r) P 1 < c * r ∧ fnd (c * r) P 6 < c * r)) := by
    intro hm
    have eS : pSetE T L c r P s = if fnd (c * r) P 1 < c * r ∧ fnd (c * r) P 6 < c * r then .inr (c, r, P, s) else .inl (5, s) := if_pos hm
    unfold fX2_readSetup_131 fX2_readSetup_136 fX2_readSetup_155 fX2_readSetup_167 fX2_readSetup_172
    simp only [lits]
    rw [if_neg (by decide), gF_wij h.1.1, hK, Option.bind_some, eS]
    have k4 := kmk_lt (c * r) P
    by_cases q : fnd (c * r) P 1 < c * r ∧ fnd (c * r) P 6 < c * r
    · rw [if_pos (by rw [kmk_three.mpr q]), if_neg (by decide), rz1, if_pos q]
      exact ⟨_, x, rfl, fun _ _ _ => rfl, Or.inr ⟨rfl, rfl, rfl, q⟩⟩
    · rw [if_neg (by rw [nW_eq (by omega) (by decide)]; exact fun z => q (kmk_three.mp z)), ck_wij, ck_ok h.1.1, reject_ok h hs.2.1, Option.bind_some, rz0, if_neg q]
      exact ⟨_, _, rfl, fun d j q => by rw [u2_other (by omega), u2_other (by omega)], Or.inl ⟨_, rfl, rfl, by rw [u2_other (by omega), u2_same], u2_same⟩⟩
  unfold fX2_readSetup_88
  simp only [lits]
  rw [ck_wij, ck_ok h.1.1, isAtEnd_ok h hs.2.1, Option.bind_some]
  by_cases e0 : srt T L s = 0
  · rw [decide_eq_true e0, if_neg bIt]
    exact yes (by unfold mayE; rw [decide_eq_true e0]; rfl)
  · rw [decide_eq_false e0, if_pos bIf, gR_wij, h.g0, Option.bind_some, ck_wij, ck_ok h.2.1.1, is_ok h hs.1 hs.2.1 (by decide), Option.bind_some]
    cases h8 : isw T L s 8 with
    | true =>
      rw [if_neg bIt]
      exact yes (by unfold mayE; rw [h8]; simp)
    | false =>
      rw [if_pos bIf, gR_wij, h.g0, Option.bind_some, ck_wij, ck_ok h.2.1.1, is_ok h hs.1 hs.2.1 (by decide), Option.bind_some]
      cases h9 : isw T L s 9 with
      | true =>
        rw [if_neg bIt]
        exact yes (by unfold mayE; rw [h9]; simp)
      | false =>
        rw [if_pos bIf, gR_wij, h.g0, Option.bind_some, ck_wij, ck_ok h.2.1.1, is_ok h hs.1 hs.2.1 (by decide), Option.bind_some]
        cases h10 : isw T L s 10 with
        | true =>
          rw [if_neg bIt]
          exact yes (by unfold mayE; rw [h10]; simp)
        | false =>
          obtain ⟨x', n1, n2, n3⟩ := no
          rw [if_pos bIf]
          unfold fX2_readSetup_136
          simp only [lits]
          rw [if_pos trivial, n1]
          refine ⟨_, x', rfl, n2, Or.inl ⟨_, ?_, rfl, n3⟩⟩
          unfold pSetE mayE
          rw [decide_eq_false e0, h8, h9, h10]
          exact if_neg (by decide)
/-- what the parser may write while it reads a setup -/
def CSF (b : Nat) (x x' : Nat → Nat → Int32) : Prop := ∀ d j, ¬ (d = 2 ∧ 1 ≤ j ∧ j ≤ 4) → ¬ (d = 1 ∧ (1 ≤ j ∧ j ≤ 3 ∨ j = 10)) → ¬ (d = b ∧ (j = 0 ∨ j = 1 ∨ j = 5 ∨ j = 6)) → d ≠ b + 2 → x' d j = x d j
theorem CSF.trans {b : Nat} {x x' x2 : Nat → Nat → Int32} (h : CSF b x x') (h2 : CSF b x' x2) : CSF b x x2 := fun d j q1 q2 q3 q4 => (h2 d j q1 q2 q3 q4).trans (h d j q1 q2 q3 q4)
theorem CPF.csf {b : Nat} {x x' : Nat → Nat → Int32} (h : CPF b x x') : CSF b x x' := fun d j q1 q2 q3 q4 => h d j q1 (by omega) (by omega) q4
theorem pieces_ok (h : PSh G) {b c r : Nat} (hbs : BSh G b) (hbn : 10 ≤ b) : ∀ (d fu : Nat) (x : Nat → Nat → Int32) (P : Nat → Nat) (s : Nat), 12 ≤ npc (c * r) P + d → d ≤ fu → PInv c r P → CSt x T L s → BP c r (c * r) P x b → x 1 10 = nW (kmk (c * r) P) → x 1 3 = nW (npc (c * r) P) →
    ∃ v x', loopM (fun (s : Int32) G => fX2_readSetup_12 1 b s G) fu (nW (npc (c * r) P)) (wIJ G x y) = some (v, wIJ G x' y) ∧ CSF b x x' ∧ ((∃ e, zB (pPieces T L c r d P s) (fun q2 => pSetE T L c r q2.1 q2.2) = .inl e ∧ v = nW 0 ∧ CBd x' e) ∨ (∃ P' s', zB (pPieces T L c r d P s) (fun q2 => pSetE T L c r q2.1 q2.2) = .inr (c, r, P', s') ∧ v = nW 1 ∧ CSt x' T L s' ∧ PInv c r P' ∧ BP c r (c * r) P' x' b ∧ (fnd (c * r) P' 1 < c * r ∧ fnd (c * r) P' 6 < c * r) ∧ x' 1 3 = nW (npc (c * r) P'))) := by
  intro d
  induction d with
  | zero => intro fu x P s hd _ hI; have := hI.2.2.2.2; omega
  | succ d ih =>
    intro fu x P s hd hfu hI hs hB hK hN
    obtain ⟨fu, rfl⟩ : ∃ k, fu = k + 1 := ⟨fu - 1, by omega⟩
    have hn10 := hI.2.2.2.2
    have head : fX2_readSetup_12 1 b (nW (npc (c * r) P)) (wIJ G x y) = if colN T L s = 2 ∧ 2 ≤ npc (c * r) P then liftE (fX2_readSetup_88 1 (wIJ G x y)) else fX2_readSetup_34 1 b (nW (npc (c * r) P)) (wIJ G x y) := by
      unfold fX2_readSetup_12
      simp only [lits]
      rw [if_neg (by rw [nW_le (by decide) (by omega)]; omega), ck_wij, ck_ok h.1.1, isColour_ok h hs, Option.bind_some]
      by_cases hc : colN T L s = 2
      · rw [decide_eq_true hc, if_pos (show bI (!true) = nW 0 from rfl), gF_wij h.1.1, hN, Option.bind_some]
        by_cases h2 : 2 ≤ npc (c * r) P
        · rw [if_pos ((nW_le (by decide) (by omega)).mpr h2), if_pos ⟨hc, h2⟩]
        · rw [if_neg (by rw [nW_le (by decide) (by omega)]; exact h2), if_neg (fun q => h2 q.2)]
      · rw [decide_eq_false hc, if_neg (show ¬ bI (!false) = nW 0 by decide), if_neg (fun q => hc q.1)]
    by_cases hE : colN T L s = 2 ∧ 2 ≤ npc (c * r) P
    · rw [if_pos hE] at head
      obtain ⟨v, x', e1, e2, e3⟩ := setE_ok (y := y) (c := c) (r := r) h hs hK
      have eP : pPieces T L c r (d + 1) P s = .inr (P, s) := if_pos hE
      rw [loopM_lift (f := fun (s : Int32) G => fX2_readSetup_12 1 b s G) head, e1, zB_r eP]
      refine ⟨v, x', rfl, fun d j q1 q2 q3 q4 => e2 d j (by omega), ?_⟩
      rcases e3 with ⟨e, f1, f2, f3⟩ | ⟨f1, f2, rfl, f3⟩
      · exact Or.inl ⟨e, f1, f2, f3⟩
      · exact Or.inr ⟨P, s, f1, f2, hs, hI, hB, f3, hN⟩
    · rw [if_neg hE] at head
      have eP : pPieces T L c r (d + 1) P s = zB (pPiece T L c r P s) fun q => pPieces T L c r d q.1 q.2 := if_neg hE
      rw [eP]
      -- a wrong colour, or too many
      have rej : ∀ k, fX2_readSetup_34 1 b (nW (npc (c * r) P)) (wIJ G x y) = liftE (some (nW 0, wIJ G (u2 (u2 x 1 1 (nW k)) 1 2 (nW s)) y)) → pPiece T L c r P s = .inl (k, s) → ∃ v x', loopM (fun (s : Int32) G => fX2_readSetup_12 1 b s G) (fu + 1) (nW (npc (c * r) P)) (wIJ G x y) = some (v, wIJ G x' y) ∧ CSF b x x' ∧ ((∃ e, zB (zB (pPiece T L c r P s) fun q => pPieces T L c r d q.1 q.2) (fun q2 => pSetE T L c r q2.1 q2.2) = .inl e ∧ v = nW 0 ∧ CBd x' e) ∨ (∃ P' s', zB (zB (pPiece T L c r P s) fun q => pPieces T L c r d q.1 q.2) (fun q2 => pSetE T L c r q2.1 q2.2) = .inr (c, r, P', s') ∧ v = nW 1 ∧ CSt x' T L s' ∧ PInv c r P' ∧ BP c r (c * r) P' x' b ∧ (fnd (c * r) P' 1 < c * r ∧ fnd (c * r) P' 6 < c * r) ∧ x' 1 3 = nW (npc (c * r) P'))) := by
        intro k h34 hp
        refine ⟨nW 0, _, loopM_lift (f := fun (s : Int32) G => fX2_readSetup_12 1 b s G) (head.trans h34), fun d j q1 q2 q3 q4 => by rw [u2_other (by omega), u2_other (by omega)], Or.inl ⟨_, zB_l (zB_l hp _) _, rfl, by rw [u2_other (by omega), u2_same], u2_same⟩⟩
      by_cases hc : colN T L s = 2
      · refine rej 1 ?_ (if_pos hc)
        unfold fX2_readSetup_34 fX2_readSetup_41
        simp only [lits]
        rw [ck_wij, ck_ok h.1.1, isColour_ok h hs, Option.bind_some, decide_eq_true hc, if_pos (show bI (!true) = nW 0 from rfl), ck_wij, ck_ok h.1.1, reject_ok h hs.2.1, Option.bind_some, rz0]
      · by_cases hn : npc (c * r) P = 10
        · refine rej 4 ?_ (by unfold pPiece; rw [if_neg hc, if_pos hn])
          unfold fX2_readSetup_34 fX2_readSetup_56
          simp only [lits]
          rw [ck_wij, ck_ok h.1.1, isColour_ok h hs, Option.bind_some, decide_eq_false hc, if_neg (show ¬ bI (!false) = nW 0 by decide), gF_wij h.1.1, hN, Option.bind_some, if_pos (by rw [hn]), ck_wij, ck_ok h.1.1, reject_ok h hs.2.1, Option.bind_some, rz0]
        · obtain ⟨v, x1, p1, p2, p3⟩ := readPiece_ok (y := y) h hs hbs hbn hI hB hK hc hn
          have h34 : fX2_readSetup_34 1 b (nW (npc (c * r) P)) (wIJ G x y) = if v = nW 0 then liftE (some (nW 0, wIJ G x1 y)) else (gF (wIJ G x1 y) 12 1 3).bind fun v7 => (pI (wIJ G x1 y) 12 1 3 (v7 + nW 1)).bind fun G8 => some (.inl (nW (npc (c * r) P) + nW 1), G8) := by
            unfold fX2_readSetup_34 fX2_readSetup_70
            simp only [lits]
            rw [ck_wij, ck_ok h.1.1, isColour_ok h hs, Option.bind_some, decide_eq_false hc, if_neg (show ¬ bI (!false) = nW 0 by decide), gF_wij h.1.1, hN, Option.bind_some, if_neg (by rw [nW_eq (by omega) (by decide)]; exact hn), ck_wij, ck_ok h.1.1, p1, Option.bind_some]
          rcases p3 with ⟨e, e1, e2, e3⟩ | ⟨P1, s1, e1, e2, e3, e4, e5⟩
          · rw [e2, if_pos rfl] at h34
            exact ⟨nW 0, x1, loopM_lift (f := fun (s : Int32) G => fX2_readSetup_12 1 b s G) (head.trans h34), p2.csf, Or.inl ⟨e, zB_l (zB_l e1 _) _, rfl, e3⟩⟩
          · obtain ⟨i1, i2, i3⟩ := pPiece_inv hI e1
            have x13 : x1 1 3 = nW (npc (c * r) P) := (p2 1 3 (by omega) (by omega) (by omega) (by omega)).trans hN
            rw [e2, if_neg (by decide), gF_wij h.1.1, x13, Option.bind_some, nW_add, pI_wij h.1.1, Option.bind_some, ← i2] at h34
            have s2 : CSt (u2 x1 1 3 (nW (npc (c * r) P1))) T L s1 := e3.same (by rw [u2_arow (by omega)]) (by rw [u2_arow (by omega)]) ⟨by rw [u2_other (by omega)], by rw [u2_other (by omega)]⟩
            obtain ⟨v', x', f1, f2, f3⟩ := ih fu (u2 x1 1 3 (nW (npc (c * r) P1))) P1 s1 (by omega) (by omega) i1 s2 (e4.same (by rw [u2_arow (by omega)]) (by rw [u2_arow (by omega)])) (by rw [u2_other (by omega)]; exact e5) u2_same
            have fr : CSF b x x' := (p2.csf.trans (fun d j _ q2 _ _ => u2_other (by omega))).trans f2
            rw [zB_r e1]
            exact ⟨v', x', (loopM_next (f := fun (s : Int32) G => fX2_readSetup_12 1 b s G) (head.trans h34)).trans f1, fr, f3⟩
theorem readSetup_ok (h : PSh G) {b s : Nat} (hbs : BSh G b) (hbn : 10 ≤ b) (hs : CSt x T L s) (h10 : x 1 10 = nW 0) (h3 : x 1 3 = nW 0) :
    ∃ v x', fX2_readSetup 1 b (wIJ G x y) = some (v, wIJ G x' y) ∧ CSF b x x' ∧ ((∃ e, pSetup T L s = .inl e ∧ v = nW 0 ∧ CBd x' e) ∨ (∃ c r P' s', pSetup T L s = .inr (c, r, P', s') ∧ v = nW 1 ∧ CSt x' T L s' ∧ PInv c r P' ∧ BP c r (c * r) P' x' b ∧ (fnd (c * r) P' 1 < c * r ∧ fnd (c * r) P' 6 < c * r) ∧ x' 1 3 = nW (npc (c * r) P'))) := by
  have e76 : nW 7 - nW 1 = nW 6 := by decide
  unfold fX2_readSetup fX2_readSetup_0 fX2_readBoard fX2_readBoard_0 fX2_readBoard_60 pSetup pBoard
  simp only [lits]
  rw [gR_wij, h.g0, Option.bind_some, ck_wij, ck_ok h.1.1, ck_wij, ck_ok h.2.1.1, is_ok h hs.1 hs.2.1 (by decide), Option.bind_some]
  cases h0 : isw T L s 0 with
  | false =>
    rw [if_pos bIf, ck_wij, ck_ok h.1.1, reject_ok h hs.2.1, Option.bind_some, rz0, Option.bind_some, if_pos (show nW 0 = nW 0 from rfl), if_neg (by decide)]
    exact ⟨_, _, rfl, fun d j q1 q2 q3 q4 => by rw [u2_other (by omega), u2_other (by omega)], Or.inl ⟨_, rfl, rfl, by rw [u2_other (by omega), u2_same], u2_same⟩⟩
  | true =>
    obtain ⟨x1, a1, a2, a3⟩ := cnext (y := y) h hs
    have fr1 : CSF b x x1 := (CPF.of a2).csf
    obtain ⟨v2, x2, b1, b2, b3⟩ := cnum (y := y) (lo := 3) (hb := 7) h a3 (by decide) (by decide)
    rw [e76] at b1
    have fr2 : CSF b x x2 := fr1.trans (CPF.of2 b2).csf
    rw [if_neg bIt, gR_wij, h.g0, Option.bind_some, ck_wij, ck_ok h.2.1.1, a1, Option.bind_some, ck_wij, ck_ok h.1.1, b1, Option.bind_some, if_pos rfl]
    rcases b3 with ⟨e, e1, e2, e3⟩ | ⟨c, s2, e1, ek, e2, e3⟩
    · rw [e2, if_pos (show -nW 1 = -nW 1 from rfl), Option.bind_some, if_pos (show nW 0 = nW 0 from rfl)]
      exact ⟨_, x2, rfl, fr2, Or.inl ⟨e, zB_l (zB_l e1 _) _, rfl, e3⟩⟩
    · obtain ⟨v3, x3, d1, d2, d3⟩ := cnum (y := y) (lo := 3) (hb := 7) h e3 (by decide) (by decide)
      rw [e76] at d1
      have fr3 : CSF b x x3 := fr2.trans (CPF.of2 d2).csf
      have lc := (pNum_lt e1).1
      rw [e2, if_neg (show ¬ nW c = -nW 1 from nW_m1 (by omega)), ck_wij, ck_ok h.1.1, d1, Option.bind_some, zB_r e1]
      rcases d3 with ⟨e, g1, g2, g3⟩ | ⟨r, s3, g1, gk, g2, g3⟩
      · rw [g2, if_pos (show -nW 1 = -nW 1 from rfl), Option.bind_some, if_pos (show nW 0 = nW 0 from rfl)]
        exact ⟨_, x3, rfl, fr3, Or.inl ⟨e, zB_l (zB_l g1 _) _, rfl, g3⟩⟩
      · have lr := (pNum_lt g1).1
        obtain ⟨x4, m1, m2, m3⟩ := isSemicolon_ok (y := y) h g3.2.1
        rw [g2, if_neg (show ¬ nW r = -nW 1 from nW_m1 (by omega)), ck_wij, ck_ok h.1.1, m1, Option.bind_some, zB_r g1]
        rcases m3 with ⟨g, rfl⟩ | ⟨g, gg⟩
        · have hz : szs c r := ⟨lc, ek, lr, gk⟩
          obtain ⟨x5, n1, n2, n3⟩ := cnext (y := y) h g3
          obtain ⟨x6, r1, r2, r3⟩ := resize_ok (x := x5) (y := y) hbs hz
          have fr6 : CSF b x x6 := (fr3.trans (CPF.of n2).csf).trans fun d j q1 q2 q3 q4 => r2 d j (by omega) q4
          have s6 : CSt x6 T L (nx T L s3) := n3.same (funext fun j => r2 2 j (by omega) (by omega)) (funext fun j => r2 3 j (by omega) (by omega)) ⟨r2 1 1 (by omega) (by omega), r2 1 2 (by omega) (by omega)⟩
          have z0 : npc (c * r) (fun _ => 0) = 0 := npc_zero _
          have k0 : kmk (c * r) (fun _ => 0) = 0 := by
            have : ∀ m, m ≠ 0 → ¬ fnd (c * r) (fun _ => 0) m < c * r := fun m hm q => by
              obtain ⟨k, -, hk⟩ := fnd_iff.mp q
              exact hm hk.symm
            unfold kmk
            rw [if_neg (this 1 (by decide)), if_neg (this 6 (by decide))]
          have keep : ∀ j, j = 3 ∨ j = 10 → x6 1 j = x 1 j := fun j hj => by
            rw [r2 1 j (by omega) (by omega), n2 1 j (by omega), d2 1 j (by omega) (by omega), b2 1 j (by omega) (by omega), a2 1 j (by omega)]
          obtain ⟨v', x', f1, f2, f3⟩ := pieces_ok (T := T) (L := L) (y := y) h hbs hbn 12 FU x6 (fun _ => 0) (nx T L s3) (by rw [z0]; exact Nat.le_refl _) (by show 12 ≤ 100000; decide) (PInv.zero hz) s6 r3 (by rw [keep 10 (Or.inr rfl), h10, k0]) (by rw [keep 3 (Or.inl rfl), h3, z0])
          rw [z0] at f1
          rw [decide_eq_true g, if_neg bIt, gR_wij, h.g0, Option.bind_some, ck_wij, ck_ok h.2.1.1, n1, Option.bind_some, ck_wij, ck_ok hbs.1, r1, Option.bind_some, Option.bind_some, if_neg (show ¬ nW 1 = nW 0 by decide), f1, if_pos g]
          refine ⟨v', x', rfl, fr6.trans f2, ?_⟩
          rcases f3 with ⟨e, p1, p2, p3⟩ | ⟨P', s', p1, p2⟩
          · exact Or.inl ⟨e, p1, p2, p3⟩
          · exact Or.inr ⟨c, r, P', s', p1, p2⟩
        · rw [decide_eq_false g, if_pos bIf, Option.bind_some, if_pos (show nW 0 = nW 0 from rfl), if_neg g]
          exact ⟨_, x4, rfl, fr3.trans (fun d j q1 q2 q3 q4 => m2 d j (by omega)), Or.inl ⟨_, rfl, rfl, gg⟩⟩
end CSETUP2
