/-! ===== the grammar of commands, as mathematics ===== -/
def zB {α β : Type} (p : (Nat × Nat) ⊕ α) (f : α → (Nat × Nat) ⊕ β) : (Nat × Nat) ⊕ β := match p with
  | .inl e => .inl e
  | .inr a => f a
theorem zB_l {α β : Type} {p : (Nat × Nat) ⊕ α} {e : Nat × Nat} (h : p = .inl e) (f : α → (Nat × Nat) ⊕ β) : zB p f = .inl e := by rw [h]; rfl
theorem zB_r {α β : Type} {p : (Nat × Nat) ⊕ α} {a : α} (h : p = .inr a) (f : α → (Nat × Nat) ⊕ β) : zB p f = f a := by rw [h]; rfl
/-- what may follow the kind: from column -/
def pFrom (T : Nat → Nat) (L c s : Nat) : (Nat × Nat) ⊕ (Int32 × Nat) := if isw T L s 12 = true then zB (pNum T L (nx T L s) 0 c) (fun q => .inr (nW q.1, q.2)) else .inr (-nW 1, s)
/-- to column row -/
def pTo (T : Nat → Nat) (L c r s : Nat) : (Nat × Nat) ⊕ (Int32 × Int32 × Nat) := if isw T L s 13 = true then zB (pNum T L (nx T L s) 0 c) (fun q => zB (pNum T L q.2 0 r) fun q2 => .inr (nW q.1, nW q2.1, q2.2)) else .inr (-nW 1, -nW 1, s)
/-- behind a word that may stand here -/
def pOpt (T : Nat → Nat) (L s w : Nat) : Nat := if isw T L s w = true then nx T L s else s
def pEnd (T : Nat → Nat) (L s : Nat) : (Nat × Nat) ⊕ (Int32 × Int32 × Nat) := if srt T L (pOpt T L (pOpt T L s 14) 15) = 4 then .inr (bI (isw T L s 14), bI (isw T L (pOpt T L s 14) 15), pOpt T L (pOpt T L s 14) 15) else .inl (1, pOpt T L (pOpt T L s 14) 15)
/-- a note, from its kind to its semicolon -/
def pNote (T : Nat → Nat) (L c r s : Nat) : (Nat × Nat) ⊕ ((Nat → Int32) × Nat) := if knd T L s = -nW 1 ∧ isw T L s 11 = false then .inl (1, s) else
  zB (pFrom T L c (nx T L s)) fun q => zB (pTo T L c r q.2) fun q2 => zB (pEnd T L q2.2.2) fun q3 => .inr (ntF (knd T L s) q.1 q2.1 q2.2.1 q3.1 q3.2.1, q3.2.2)
/-- an origin, from its number to its semicolon -/
def pOrg (T : Nat → Nat) (L c r m s : Nat) : (Nat × Nat) ⊕ (Nat × Nat × Nat × Nat) := zB (pNum T L s 0 m) fun q => zB (pNum T L q.2 0 c) fun q2 => zB (pNum T L q2.2 0 r) fun q3 => if srt T L q3.2 = 4 then .inr (q.1, q2.1, q3.1, q3.2) else .inl (1, q3.2)
theorem pOpt_le {T : Nat → Nat} {L s w : Nat} (h : s ≤ L) : pOpt T L s w ≤ L := by
  unfold pOpt
  split
  · exact nx_le h
  · exact h
theorem knd_01 {T : Nat → Nat} {L s : Nat} : knd T L s = -nW 1 ∨ ∃ k, k < 5 ∧ knd T L s = nW k := by
  unfold knd
  by_cases a1 : isw T L s 3 = true
  · exact Or.inr ⟨0, by decide, if_pos a1⟩
  · rw [if_neg a1]
    by_cases a2 : isw T L s 4 = true
    · exact Or.inr ⟨1, by decide, if_pos a2⟩
    · rw [if_neg a2]
      by_cases a3 : isw T L s 5 = true
      · exact Or.inr ⟨2, by decide, if_pos a3⟩
      · rw [if_neg a3]
        by_cases a4 : isw T L s 6 = true
        · exact Or.inr ⟨3, by decide, if_pos a4⟩
        · rw [if_neg a4]
          by_cases a5 : isw T L s 7 = true
          · exact Or.inr ⟨4, by decide, if_pos a5⟩
          · exact Or.inl (if_neg a5)
/-! the class reads notes and origins -/
/-- the state of the parser's memory: nothing wrong so far, the token begins at s -/
def CSt (x : Nat → Nat → Int32) (T : Nat → Nat) (L s : Nat) : Prop := CBy x T L ∧ CTk x T L s ∧ x 1 1 = nW 0 ∧ x 1 2 = -nW 1
/-- what the parser may write while it reads a command -/
def CCF (x x' : Nat → Nat → Int32) : Prop := ∀ b j, ¬ (b = 2 ∧ 1 ≤ j ∧ j ≤ 4) → ¬ (b = 1 ∧ ((1 ≤ j ∧ j ≤ 2) ∨ (7 ≤ j ∧ j ≤ 9))) → b ≠ 4 → x' b j = x b j
theorem CCF.rfl' {x : Nat → Nat → Int32} : CCF x x := fun _ _ _ _ _ => rfl
theorem CCF.trans {x x' x2 : Nat → Nat → Int32} (h : CCF x x') (h2 : CCF x' x2) : CCF x x2 := fun b j q1 q2 q3 => (h2 b j q1 q2 q3).trans (h b j q1 q2 q3)
theorem CCF.of {x x' : Nat → Nat → Int32} (h : ∀ b j, ¬ (b = 2 ∧ 1 ≤ j ∧ j ≤ 4) → x' b j = x b j) : CCF x x' := fun b j q _ _ => h b j q
theorem CCF.of2 {x x' : Nat → Nat → Int32} (h : ∀ b j, ¬ (b = 2 ∧ 1 ≤ j ∧ j ≤ 4) → ¬ (b = 1 ∧ 1 ≤ j ∧ j ≤ 2) → x' b j = x b j) : CCF x x' := fun b j q q2 _ => h b j q (fun z => q2 ⟨z.1, Or.inl z.2⟩)
def CBd (x : Nat → Nat → Int32) (e : Nat × Nat) : Prop := x 1 1 = nW e.1 ∧ x 1 2 = nW e.2
section CPARS
variable {G : Mem} {x : Nat → Nat → Int32} {y : Nat → Nat → Int64} {T : Nat → Nat} {L : Nat}
theorem CSt.tok {x' : Nat → Nat → Int32} {s s' : Nat} (h : CSt x T L s) (hf : ∀ b j, ¬ (b = 2 ∧ 1 ≤ j ∧ j ≤ 4) → x' b j = x b j) (hk : CTk x' T L s') : CSt x' T L s' := ⟨h.1.next hf, hk, (hf 1 1 (by omega)).trans h.2.2.1, (hf 1 2 (by omega)).trans h.2.2.2⟩
theorem CSt.same {x' : Nat → Nat → Int32} {s : Nat} (h : CSt x T L s) (h2 : x' 2 = x 2) (h3 : x' 3 = x 3) (h1 : x' 1 1 = x 1 1 ∧ x' 1 2 = x 1 2) : CSt x' T L s := ⟨h.1.frame (by rw [h2]) h3, h.2.1.frame (fun j _ _ => by rw [h2]), h1.1.trans h.2.2.1, h1.2.trans h.2.2.2⟩
theorem cnext (h : PSh G) {s : Nat} (hs : CSt x T L s) : ∃ x', fX5_readNext 2 (wIJ G x y) = some ((), wIJ G x' y) ∧ (∀ b j, ¬ (b = 2 ∧ 1 ≤ j ∧ j ≤ 4) → x' b j = x b j) ∧ CSt x' T L (nx T L s) := by
  obtain ⟨x', q1, q2, q3⟩ := cnext_ok (y := y) h hs.1 hs.2.1
  exact ⟨x', q1, q2, hs.tok q2 q3⟩
theorem cpass (h : PSh G) {s w : Nat} (hs : CSt x T L s) (hw : w < 16) : ∃ x', fX2_isPassed 1 w (wIJ G x y) = some (bI (isw T L s w), wIJ G x' y) ∧ (∀ b j, ¬ (b = 2 ∧ 1 ≤ j ∧ j ≤ 4) → x' b j = x b j) ∧ CSt x' T L (pOpt T L s w) := by
  obtain ⟨x', q1, q2, q3⟩ := isPassed_ok (y := y) h hs.1 hs.2.1 hw
  exact ⟨x', q1, q2, hs.tok q2 q3⟩
theorem cnum (h : PSh G) {s lo hb : Nat} (hs : CSt x T L s) (hlo : lo < 100) (hhb : hb < 100) :
    ∃ v x', fX2_readNumber 1 (nW lo) (nW hb - nW 1) (wIJ G x y) = some (v, wIJ G x' y) ∧ (∀ b j, ¬ (b = 2 ∧ 1 ≤ j ∧ j ≤ 4) → ¬ (b = 1 ∧ 1 ≤ j ∧ j ≤ 2) → x' b j = x b j) ∧ ((∃ e, pNum T L s lo hb = .inl e ∧ v = -nW 1 ∧ CBd x' e) ∨ (∃ k s', pNum T L s lo hb = .inr (k, s') ∧ k < hb ∧ v = nW k ∧ CSt x' T L s')) := by
  obtain ⟨v, x', q1, q2, q3⟩ := readNumber_ok (y := y) h hs.1 hs.2.1 hlo hhb
  refine ⟨v, x', q1, q2, ?_⟩
  rcases q3 with ⟨e, e1, e2, e3⟩ | ⟨k, s', e1, e2, e3, e4⟩
  · exact Or.inl ⟨e, e1, e2, e3⟩
  · exact Or.inr ⟨k, s', e1, (pNum_lt e1).2.1, e2, hs.1.frame (q2 2 0 (by omega) (by omega)) (funext fun j => q2 3 j (by omega) (by omega)), e3, by rw [e4]; exact hs.2.2.1, by rw [e4]; exact hs.2.2.2⟩
theorem csemi (h : PSh G) {s : Nat} (hs : CSt x T L s) : ∃ x', fX2_isSemicolon 1 (wIJ G x y) = some (bI (decide (srt T L s = 4)), wIJ G x' y) ∧ CCF x x' ∧ ((srt T L s = 4 ∧ x' = x) ∨ (srt T L s ≠ 4 ∧ CBd x' (1, s))) := by
  obtain ⟨x', q1, q2, q3⟩ := isSemicolon_ok (y := y) h hs.2.1
  exact ⟨x', q1, fun b j _ z _ => q2 b j (fun w => z ⟨w.1, Or.inl w.2⟩), q3⟩
theorem note166_ok (h : PSh G) {s : Nat} (hs : CSt x T L s) :
    ∃ v x', fX2_readNote_166 1 (wIJ G x y) = some (v, wIJ G x' y) ∧ CCF x x' ∧ ((∃ e, pEnd T L s = .inl e ∧ v = nW 0 ∧ CBd x' e) ∨ (∃ tk ck s', pEnd T L s = .inr (tk, ck, s') ∧ v = nW 1 ∧ CSt x' T L s' ∧ srt T L s' = 4 ∧ (∀ j, j < 5 → x' 4 j = x 4 j) ∧ x' 4 5 = tk ∧ x' 4 6 = ck ∧ (tk = 0 ∨ tk = 1) ∧ (ck = 0 ∨ ck = 1))) := by
  obtain ⟨x1, a1, a2, a3⟩ := cpass (y := y) (w := 14) h hs (by decide)
  have a4 : CSt (u2 x1 4 5 (bI (isw T L s 14))) T L (pOpt T L s 14) := a3.same (by rw [u2_arow (by omega)]) (by rw [u2_arow (by omega)]) ⟨by rw [u2_other (by omega)], by rw [u2_other (by omega)]⟩
  obtain ⟨x2, b1, b2, b3⟩ := cpass (y := y) (w := 15) h a4 (by decide)
  have b4 : CSt (u2 x2 4 6 (bI (isw T L (pOpt T L s 14) 15))) T L (pOpt T L (pOpt T L s 14) 15) := b3.same (by rw [u2_arow (by omega)]) (by rw [u2_arow (by omega)]) ⟨by rw [u2_other (by omega)], by rw [u2_other (by omega)]⟩
  obtain ⟨x3, c1, c2, c3⟩ := csemi (y := y) h b4
  have fr : CCF x (u2 x2 4 6 (bI (isw T L (pOpt T L s 14) 15))) := fun b j q1 q2 q3 => by
    rw [u2_other (by omega), b2 b j q1, u2_other (by omega), a2 b j q1]
  unfold fX2_readNote_166
  rw [gR_wij, h.g6, Option.bind_some, ck_wij, ck_ok h.1.1, a1, Option.bind_some, pZ_wij h.2.2.2 (bI_01 _), Option.bind_some, gR_wij, h.g6, Option.bind_some, ck_wij, ck_ok h.1.1, b1, Option.bind_some, pZ_wij h.2.2.2 (bI_01 _), Option.bind_some, ck_wij, ck_ok h.1.1, c1, Option.bind_some, rz_ok (bI_01 _)]
  unfold pEnd
  rcases c3 with ⟨e, rfl⟩ | ⟨e, e2⟩
  · refine ⟨_, _, rfl, fr, Or.inr ⟨_, _, _, if_pos e, by rw [decide_eq_true e]; rfl, b4, e, fun j hj => ?_, ?_, u2_same, bI_01 _, bI_01 _⟩⟩
    · rw [u2_other (by omega), b2 4 j (by omega), u2_other (by omega), a2 4 j (by omega)]
    · rw [u2_other (by omega), b2 4 5 (by omega), u2_same]
  · exact ⟨_, x3, rfl, fr.trans c2, Or.inl ⟨_, if_neg e, by rw [decide_eq_false e]; rfl, e2⟩⟩
theorem note95_ok (h : PSh G) {s bd c r : Nat} (hs : CSt x T L s) (hbd : mt G bd = 10) (hbn : 10 ≤ bd) (hc : x bd 0 = nW c) (hr : x bd 1 = nW r) (hc7 : c < 7) (hr7 : r < 7) (h3 : x 4 3 = -nW 1 ∧ x 4 4 = -nW 1) :
    ∃ v x', fX2_readNote_95 1 bd (wIJ G x y) = some (v, wIJ G x' y) ∧ CCF x x' ∧ ((∃ e, zB (pTo T L c r s) (fun q2 => zB (pEnd T L q2.2.2) fun q3 => .inr (q2, q3)) = .inl e ∧ v = nW 0 ∧ CBd x' e) ∨ (∃ tx ty tk ck s0 s', zB (pTo T L c r s) (fun q2 => zB (pEnd T L q2.2.2) fun q3 => .inr (q2, q3)) = .inr ((tx, ty, s0), (tk, ck, s')) ∧ v = nW 1 ∧ CSt x' T L s' ∧ srt T L s' = 4 ∧ (∀ j, j < 3 → x' 4 j = x 4 j) ∧ x' 4 3 = tx ∧ x' 4 4 = ty ∧ x' 4 5 = tk ∧ x' 4 6 = ck ∧ (tk = 0 ∨ tk = 1) ∧ (ck = 0 ∨ ck = 1))) := by
  obtain ⟨x1, a1, a2, a3⟩ := cpass (y := y) (w := 13) h hs (by decide)
  have fr1 : CCF x x1 := CCF.of a2
  unfold fX2_readNote_95 pTo
  simp only [lits]
  rw [ck_wij, ck_ok h.1.1, a1, Option.bind_some]
  cases hw : isw T L s 13 with
  | false =>
    have es : pOpt T L s 13 = s := if_neg (by rw [hw]; decide)
    rw [es] at a3
    obtain ⟨v, x', q1, q2, q3⟩ := note166_ok (y := y) h a3
    rw [if_pos bIf, q1]
    refine ⟨v, x', rfl, fr1.trans q2, ?_⟩
    rcases q3 with ⟨e, e1, e2, e3⟩ | ⟨tk, ck, s', e1, e2, e3, e3', e4, e5, e6, e7⟩
    · exact Or.inl ⟨e, by rw [if_neg (by decide)]; exact zB_l e1 _, e2, e3⟩
    · refine Or.inr ⟨-nW 1, -nW 1, tk, ck, s, s', by rw [if_neg (by decide)]; exact zB_r e1 _, e2, e3, e3', fun j hj => (e4 j (by omega)).trans (a2 4 j (by omega)), ?_, ?_, e5, e6, e7⟩
      · rw [e4 3 (by decide), a2 4 3 (by omega)]; exact h3.1
      · rw [e4 4 (by decide), a2 4 4 (by omega)]; exact h3.2
  | true =>
    have es : pOpt T L s 13 = nx T L s := if_pos hw
    rw [es] at a3
    rw [if_neg bIt, gR_wij, h.g6, Option.bind_some, gF_wij hbd, a2 bd 0 (by omega), hc, Option.bind_some, ck_wij, ck_ok h.1.1, if_pos rfl]
    obtain ⟨v2, x2, b1, b2, b3⟩ := cnum (y := y) (lo := 0) (hb := c) h a3 (by decide) (by omega)
    have fr2 : CCF x (u2 x2 4 3 v2) := fr1.trans fun b j q1 q2 q3 => by rw [u2_other (by omega), b2 b j q1 (by omega)]
    rw [b1, Option.bind_some, pI_wij h.2.2.2, Option.bind_some, gR_wij, h.g6, Option.bind_some, gF_wij h.2.2.2, u2_same, Option.bind_some]
    rcases b3 with ⟨e, e1, e2, e3⟩ | ⟨k, s2, e1, ek, e2, e3⟩
    · rw [e2, if_pos rfl]
      rw [e2] at fr2
      refine ⟨_, _, rfl, fr2, Or.inl ⟨e, ?_, rfl, ?_, ?_⟩⟩
      · exact zB_l (zB_l e1 _) _
      · rw [u2_other (by omega)]; exact e3.1
      · rw [u2_other (by omega)]; exact e3.2
    · have e4 : CSt (u2 x2 4 3 v2) T L s2 := e3.same (by rw [u2_arow (by omega)]) (by rw [u2_arow (by omega)]) ⟨by rw [u2_other (by omega)], by rw [u2_other (by omega)]⟩
      rw [if_neg (by rw [e2]; exact nW_m1 (by omega)), Option.bind_some, gF_wij hbd, u2_other (by omega), b2 bd 1 (by omega) (by omega), a2 bd 1 (by omega), hr, Option.bind_some, ck_wij, ck_ok h.1.1]
      obtain ⟨v3, x3, c1, c2, c3⟩ := cnum (y := y) (lo := 0) (hb := r) h e4 (by decide) (by omega)
      have fr3 : CCF x (u2 x3 4 4 v3) := fr2.trans fun b j q1 q2 q3 => by rw [u2_other (by omega), c2 b j q1 (by omega)]
      rw [c1, Option.bind_some, pI_wij h.2.2.2, Option.bind_some, gR_wij, h.g6, Option.bind_some, gF_wij h.2.2.2, u2_same, Option.bind_some]
      rcases c3 with ⟨e, g1, g2, g3⟩ | ⟨k2, s3, g1, gk, g2, g3⟩
      · rw [g2, if_pos rfl]
        rw [g2] at fr3
        refine ⟨_, _, rfl, fr3, Or.inl ⟨e, ?_, rfl, ?_, ?_⟩⟩
        · exact zB_l ((zB_r e1 _).trans (zB_l g1 _)) _
        · rw [u2_other (by omega)]; exact g3.1
        · rw [u2_other (by omega)]; exact g3.2
      · have g4 : CSt (u2 x3 4 4 v3) T L s3 := g3.same (by rw [u2_arow (by omega)]) (by rw [u2_arow (by omega)]) ⟨by rw [u2_other (by omega)], by rw [u2_other (by omega)]⟩
        rw [if_neg (by rw [g2]; exact nW_m1 (by omega))]
        obtain ⟨v, x', q1, q2, q3⟩ := note166_ok (y := y) h g4
        have eP : zB (pNum T L (nx T L s) 0 c) (fun q => zB (pNum T L q.2 0 r) fun q2 => (.inr (nW q.1, nW q2.1, q2.2) : (Nat × Nat) ⊕ (Int32 × Int32 × Nat))) = .inr (nW k, nW k2, s3) := (zB_r e1 _).trans (zB_r g1 _)
        rw [q1]
        refine ⟨v, x', rfl, fr3.trans q2, ?_⟩
        rcases q3 with ⟨e, p1, p2, p3⟩ | ⟨tk, ck, s', p1, p2, p3, p3', p4, p5, p6, p7⟩
        · exact Or.inl ⟨e, (zB_r eP _).trans (zB_l p1 _), p2, p3⟩
        · refine Or.inr ⟨nW k, nW k2, tk, ck, s3, s', (zB_r eP _).trans (zB_r p1 _), p2, p3, p3', fun j hj => ?_, ?_, ?_, p5, p6, p7⟩
          · rw [p4 j (by omega), u2_other (by omega), c2 4 j (by omega) (by omega), u2_other (by omega), b2 4 j (by omega) (by omega), a2 4 j (by omega)]
          · rw [p4 3 (by decide), u2_other (by omega), c2 4 3 (by omega) (by omega), u2_same, e2]
          · rw [p4 4 (by decide), u2_same, g2]
theorem nstate_ok {nt : Nat} (hn : mt G nt = 11) {k fx tx ty tk ck : Int32} (h5 : tk = 0 ∨ tk = 1) (h6 : ck = 0 ∨ ck = 1) : ∃ x', fX1_state nt k fx tx ty tk ck (wIJ G x y) = some ((), wIJ G x' y) ∧ (∀ b, b ≠ nt → x' b = x b) ∧ ∀ j, j < 7 → x' nt j = ntF k fx tx ty tk ck j := by
  unfold fX1_state fX1_state_0
  rw [pI_wij hn, Option.bind_some, pI_wij hn, Option.bind_some, pI_wij hn, Option.bind_some, pI_wij hn, Option.bind_some, pI_wij hn, Option.bind_some, pZ_wij hn h5, Option.bind_some, pZ_wij hn h6, Option.bind_some]
  refine ⟨_, rfl, fun b hb => by rw [u2_arow hb, u2_arow hb, u2_arow hb, u2_arow hb, u2_arow hb, u2_arow hb, u2_arow hb], fun j hj => ?_⟩
  have : j = 0 ∨ j = 1 ∨ j = 2 ∨ j = 3 ∨ j = 4 ∨ j = 5 ∨ j = 6 := by omega
  rcases this with e | e | e | e | e | e | e <;> subst e
  · rw [u2_other (by omega), u2_other (by omega), u2_other (by omega), u2_other (by omega), u2_other (by omega), u2_other (by omega), u2_same]; rfl
  · rw [u2_other (by omega), u2_other (by omega), u2_other (by omega), u2_other (by omega), u2_other (by omega), u2_same]; rfl
  · rw [u2_other (by omega), u2_other (by omega), u2_other (by omega), u2_other (by omega), u2_same]; rfl
  · rw [u2_other (by omega), u2_other (by omega), u2_other (by omega), u2_same]; rfl
  · rw [u2_other (by omega), u2_other (by omega), u2_same]; rfl
  · rw [u2_other (by omega), u2_same]; rfl
  · rw [u2_same]; rfl
/-- behind the kind -/
theorem note35_ok (h : PSh G) {s bd c r : Nat} {kd : Int32} (hs : CSt x T L s) (hbd : mt G bd = 10) (hbn : 10 ≤ bd) (hc : x bd 0 = nW c) (hr : x bd 1 = nW r) (hc7 : c < 7) (hr7 : r < 7) :
    ∃ v x', fX2_readNote_35 1 bd kd (wIJ G x y) = some (v, wIJ G x' y) ∧ CCF x x' ∧ ((∃ e, zB (pFrom T L c (nx T L s)) (fun q => zB (pTo T L c r q.2) fun q2 => zB (pEnd T L q2.2.2) fun q3 => .inr (ntF kd q.1 q2.1 q2.2.1 q3.1 q3.2.1, q3.2.2)) = .inl e ∧ v = nW 0 ∧ CBd x' e) ∨ (∃ nt s', zB (pFrom T L c (nx T L s)) (fun q => zB (pTo T L c r q.2) fun q2 => zB (pEnd T L q2.2.2) fun q3 => .inr (ntF kd q.1 q2.1 q2.2.1 q3.1 q3.2.1, q3.2.2)) = .inr (nt, s') ∧ v = nW 1 ∧ CSt x' T L s' ∧ srt T L s' = 4 ∧ (∀ j, j < 7 → x' 4 j = nt j) ∧ (nt 5 = 0 ∨ nt 5 = 1) ∧ (nt 6 = 0 ∨ nt 6 = 1))) := by
  obtain ⟨x1, a1, a2, a3⟩ := cnext (y := y) h hs
  obtain ⟨x2, b1, b2, b3⟩ := nstate_ok (x := x1) (y := y) (k := kd) (fx := -nW 1) (tx := -nW 1) (ty := -nW 1) (tk := nW 0) (ck := nW 0) h.2.2.2 (Or.inl rfl) (Or.inl rfl)
  have b4 : CSt x2 T L (nx T L s) := a3.same (b2 2 (by decide)) (b2 3 (by decide)) ⟨by rw [b2 1 (by decide)], by rw [b2 1 (by decide)]⟩
  obtain ⟨x3, c1, c2, c3⟩ := cpass (y := y) (w := 12) h b4 (by decide)
  have fr3 : CCF x x3 := fun b j q1 q2 q3 => by rw [c2 b j q1, b2 b q3, a2 b j q1]
  have w3 : x3 4 3 = -nW 1 ∧ x3 4 4 = -nW 1 := ⟨by rw [c2 4 3 (by omega), b3 3 (by decide)]; rfl, by rw [c2 4 4 (by omega), b3 4 (by decide)]; rfl⟩
  -- how it ends, from a state with the kind and the column laid
  have fin : ∀ (x5 : Nat → Nat → Int32) (s5 : Nat) (fx : Int32), CCF x x5 → CSt x5 T L s5 → x5 bd 0 = nW c → x5 bd 1 = nW r → x5 4 0 = kd → x5 4 1 = fx → x5 4 2 = -1 → x5 4 3 = -nW 1 ∧ x5 4 4 = -nW 1 → pFrom T L c (nx T L s) = .inr (fx, s5) →
      ∃ v x', fX2_readNote_95 1 bd (wIJ G x5 y) = some (v, wIJ G x' y) ∧ CCF x x' ∧ ((∃ e, zB (pFrom T L c (nx T L s)) (fun q => zB (pTo T L c r q.2) fun q2 => zB (pEnd T L q2.2.2) fun q3 => (.inr (ntF kd q.1 q2.1 q2.2.1 q3.1 q3.2.1, q3.2.2) : (Nat × Nat) ⊕ ((Nat → Int32) × Nat))) = .inl e ∧ v = nW 0 ∧ CBd x' e) ∨ (∃ nt s', zB (pFrom T L c (nx T L s)) (fun q => zB (pTo T L c r q.2) fun q2 => zB (pEnd T L q2.2.2) fun q3 => .inr (ntF kd q.1 q2.1 q2.2.1 q3.1 q3.2.1, q3.2.2)) = .inr (nt, s') ∧ v = nW 1 ∧ CSt x' T L s' ∧ srt T L s' = 4 ∧ (∀ j, j < 7 → x' 4 j = nt j) ∧ (nt 5 = 0 ∨ nt 5 = 1) ∧ (nt 6 = 0 ∨ nt 6 = 1))) := by
    intro x5 s5 fx f5 g5 gc gr k0 k1 k2 k3 kp
    obtain ⟨v, x', q1, q2, q3⟩ := note95_ok (y := y) h g5 hbd hbn gc gr hc7 hr7 k3
    refine ⟨v, x', q1, f5.trans q2, ?_⟩
    rcases q3 with ⟨e, e1, e2, e3⟩ | ⟨tx, ty, tk, ck, s0, s', e1, e2, e3, e3', e4, e5, e6, e7, e8, e9, e10⟩
    · left
      refine ⟨e, ?_, e2, e3⟩
      rw [zB_r kp]
      show zB (pTo T L c r s5) _ = _
      cases hp : pTo T L c r s5 with
      | inl e' =>
        rw [hp] at e1
        cases e1
        rfl
      | inr a =>
        rw [hp] at e1
        have e1 : zB (pEnd T L a.2.2) (fun q3 => .inr (a, q3)) = .inl e := e1
        show zB (pEnd T L a.2.2) _ = _
        cases hq : pEnd T L a.2.2 with
        | inl e' => rw [hq] at e1; cases e1; rfl
        | inr b => rw [hq] at e1; cases e1
    · right
      refine ⟨ntF kd fx tx ty tk ck, s', ?_, e2, e3, e3', fun j hj => ?_, e9, e10⟩
      · rw [zB_r kp]
        show zB (pTo T L c r s5) _ = _
        cases hp : pTo T L c r s5 with
        | inl e' => rw [hp] at e1; cases e1
        | inr a =>
          rw [hp] at e1
          have e1 : zB (pEnd T L a.2.2) (fun q3 => .inr (a, q3)) = .inr ((tx, ty, s0), (tk, ck, s')) := e1
          show zB (pEnd T L a.2.2) _ = _
          cases hq : pEnd T L a.2.2 with
          | inl e' => rw [hq] at e1; cases e1
          | inr b => rw [hq] at e1; cases e1; rfl
      · have : j = 0 ∨ j = 1 ∨ j = 2 ∨ j = 3 ∨ j = 4 ∨ j = 5 ∨ j = 6 := by omega
        rcases this with q | q | q | q | q | q | q <;> subst q
        · rw [e4 0 (by decide)]; exact k0
        · rw [e4 1 (by decide)]; exact k1
        · rw [e4 2 (by decide)]; exact k2
        · exact e5
        · exact e6
        · exact e7
        · exact e8
  unfold fX2_readNote_35
  simp only [lits]
  rw [gR_wij, h.g0, Option.bind_some, ck_wij, ck_ok h.2.1.1, a1, Option.bind_some, gR_wij, h.g6, Option.bind_some, ck_wij, ck_ok h.2.2.2, b1, Option.bind_some, ck_wij, ck_ok h.1.1, c1, Option.bind_some]
  have bdr : ∀ j, x3 bd j = x bd j := fun j => fr3 bd j (by omega) (by omega) (by omega)
  cases hw : isw T L (nx T L s) 12 with
  | false =>
    have es : pOpt T L (nx T L s) 12 = nx T L s := if_neg (by rw [hw]; decide)
    rw [es] at c3
    rw [if_pos bIf]
    exact fin x3 _ _ fr3 c3 ((bdr 0).trans hc) ((bdr 1).trans hr) (by rw [c2 4 0 (by omega), b3 0 (by decide)]; rfl) (by rw [c2 4 1 (by omega), b3 1 (by decide)]; rfl) (by rw [c2 4 2 (by omega), b3 2 (by decide)]; rfl) w3 (if_neg (by rw [hw]; decide))
  | true =>
    have es : pOpt T L (nx T L s) 12 = nx T L (nx T L s) := if_pos hw
    rw [es] at c3
    have eF : pFrom T L c (nx T L s) = zB (pNum T L (nx T L (nx T L s)) 0 c) (fun q => .inr (nW q.1, q.2)) := if_pos hw
    rw [if_neg bIt, gR_wij, h.g6, Option.bind_some, gF_wij hbd, bdr, hc, Option.bind_some, ck_wij, ck_ok h.1.1]
    obtain ⟨v2, x4, d1, d2, d3⟩ := cnum (y := y) (lo := 0) (hb := c) h c3 (by decide) (by omega)
    have fr4 : CCF x (u2 x4 4 1 v2) := fr3.trans fun b j q1 q2 q3 => by rw [u2_other (by omega), d2 b j q1 (by omega)]
    rw [d1, Option.bind_some, pI_wij h.2.2.2, Option.bind_some, gR_wij, h.g6, Option.bind_some, gF_wij h.2.2.2, u2_same, Option.bind_some]
    rcases d3 with ⟨e, e1, e2, e3⟩ | ⟨k, s2, e1, ek, e2, e3⟩
    · rw [e2, if_pos rfl]
      rw [e2] at fr4
      refine ⟨_, _, rfl, fr4, Or.inl ⟨e, ?_, rfl, ?_, ?_⟩⟩
      · exact zB_l (eF.trans (zB_l e1 _)) _
      · rw [u2_other (by omega)]; exact e3.1
      · rw [u2_other (by omega)]; exact e3.2
    · have e4 : CSt (u2 x4 4 1 v2) T L s2 := e3.same (by rw [u2_arow (by omega)]) (by rw [u2_arow (by omega)]) ⟨by rw [u2_other (by omega)], by rw [u2_other (by omega)]⟩
      have r4 : ∀ j, j ≠ 1 → u2 x4 4 1 v2 4 j = x2 4 j := fun j hj => by rw [u2_other (by omega), d2 4 j (by omega) (by omega), c2 4 j (by omega)]
      rw [if_neg (by rw [e2]; exact nW_m1 (by omega))]
      exact fin (u2 x4 4 1 v2) s2 (nW k) fr4 e4 (by rw [fr4 bd 0 (by omega) (by omega) (by omega)]; exact hc) (by rw [fr4 bd 1 (by omega) (by omega) (by omega)]; exact hr) (by rw [r4 0 (by decide), b3 0 (by decide)]; rfl) (by rw [u2_same, e2]) (by rw [r4 2 (by decide), b3 2 (by decide)]; rfl) ⟨by rw [r4 3 (by decide), b3 3 (by decide)]; rfl, by rw [r4 4 (by decide), b3 4 (by decide)]; rfl⟩ (eF.trans (zB_r e1 _))
/-- the command "note": s is the token of that word -/
theorem readNote_ok (h : PSh G) {s bd c r : Nat} (hs : CSt x T L s) (hbd : mt G bd = 10) (hbn : 10 ≤ bd) (hc : x bd 0 = nW c) (hr : x bd 1 = nW r) (hc7 : c < 7) (hr7 : r < 7) :
    ∃ v x', fX2_readNote 1 bd (wIJ G x y) = some (v, wIJ G x' y) ∧ CCF x x' ∧ ((∃ e, pNote T L c r (nx T L s) = .inl e ∧ v = nW 0 ∧ CBd x' e) ∨ (∃ nt s', pNote T L c r (nx T L s) = .inr (nt, s') ∧ v = nW 1 ∧ CSt x' T L s' ∧ srt T L s' = 4 ∧ (∀ j, j < 7 → x' 4 j = nt j) ∧ (nt 5 = 0 ∨ nt 5 = 1) ∧ (nt 6 = 0 ∨ nt 6 = 1))) := by
  obtain ⟨x1, a1, a2, a3⟩ := cnext (y := y) h hs
  have fr1 : CCF x x1 := CCF.of a2
  have go : ∀ (hne : ¬ (knd T L (nx T L s) = -nW 1 ∧ isw T L (nx T L s) 11 = false)), ∃ v x', fX2_readNote_35 1 bd (knd T L (nx T L s)) (wIJ G x1 y) = some (v, wIJ G x' y) ∧ CCF x x' ∧ ((∃ e, pNote T L c r (nx T L s) = .inl e ∧ v = nW 0 ∧ CBd x' e) ∨ (∃ nt s', pNote T L c r (nx T L s) = .inr (nt, s') ∧ v = nW 1 ∧ CSt x' T L s' ∧ srt T L s' = 4 ∧ (∀ j, j < 7 → x' 4 j = nt j) ∧ (nt 5 = 0 ∨ nt 5 = 1) ∧ (nt 6 = 0 ∨ nt 6 = 1))) := by
    intro hne
    obtain ⟨v, x', q1, q2, q3⟩ := note35_ok (y := y) (kd := knd T L (nx T L s)) h a3 hbd hbn (by rw [a2 bd 0 (by omega)]; exact hc) (by rw [a2 bd 1 (by omega)]; exact hr) hc7 hr7
    refine ⟨v, x', q1, fr1.trans q2, ?_⟩
    unfold pNote
    rw [if_neg hne]
    exact q3
  unfold fX2_readNote fX2_readNote_0
  simp only [lits]
  rw [gR_wij, h.g0, Option.bind_some, ck_wij, ck_ok h.2.1.1, a1, Option.bind_some, ck_wij, ck_ok h.1.1, ckindHere_ok h a3.1 a3.2.1, Option.bind_some]
  by_cases hk : knd T L (nx T L s) = -nW 1
  · rw [if_pos hk, gR_wij, h.g0, Option.bind_some, ck_wij, ck_ok h.2.1.1, is_ok h a3.1 a3.2.1 (by decide), Option.bind_some]
    cases hw : isw T L (nx T L s) 11 with
    | false =>
      rw [if_pos bIf, ck_wij, ck_ok h.1.1, reject_ok h a3.2.1, Option.bind_some, rz0]
      refine ⟨_, _, rfl, fr1.trans fun b j q1 q2 q3 => by rw [u2_other (by omega), u2_other (by omega)], Or.inl ⟨(1, nx T L s), ?_, rfl, ?_, u2_same⟩⟩
      · unfold pNote
        rw [if_pos ⟨hk, hw⟩]
      · rw [u2_other (by omega), u2_same]
    | true =>
      rw [if_neg bIt]
      exact go (fun q => by rw [hw] at q; exact absurd q.2 (by decide))
  · rw [if_neg hk]
    exact go (fun q => hk q.1)
/-- the command "origin": s is the token of its number -/
theorem readOrigin_ok (h : PSh G) {s st bd c r m : Nat} (hs : CSt x T L s) (hst : mt G st = 13) (hsb : gR G 13 st 0 = some bd) (hsn : 9 ≤ st) (hmc : x st 1 = nW m) (hbd : mt G bd = 10) (hbn : 10 ≤ bd) (hc : x bd 0 = nW c) (hr : x bd 1 = nW r) (hc7 : c < 7) (hr7 : r < 7) (hm : m ≤ 10) :
    ∃ v x', fX2_readOrigin 1 st (wIJ G x y) = some (v, wIJ G x' y) ∧ CCF x x' ∧ ((∃ e, zB (pNum T L s 0 m) (fun q => zB (pNum T L q.2 0 c) fun q2 => zB (pNum T L q2.2 0 r) fun q3 => .inr (q.1, q2.1, q3.1, q3.2)) = .inl e ∧ v = nW 0 ∧ CBd x' e) ∨ (∃ k cx ry s', zB (pNum T L s 0 m) (fun q => zB (pNum T L q.2 0 c) fun q2 => zB (pNum T L q2.2 0 r) fun q3 => .inr (q.1, q2.1, q3.1, q3.2)) = .inr (k, cx, ry, s') ∧ k < m ∧ v = nW 1 ∧ CSt x' T L s' ∧ x' 1 7 = nW k ∧ x' 1 8 = nW cx ∧ x' 1 9 = nW ry)) := by
  unfold fX2_readOrigin fX2_readOrigin_0 fX2_readOrigin_84
  simp only [lits]
  rw [gF_wij hst, hmc, Option.bind_some, ck_wij, ck_ok h.1.1]
  obtain ⟨v1, x1, a1, a2, a3⟩ := cnum (y := y) (lo := 0) (hb := m) h hs (by decide) (by omega)
  have fr1 : CCF x (u2 x1 1 7 v1) := fun b j q1 q2 q3 => by rw [u2_other (by omega), a2 b j q1 (by omega)]
  rw [a1, Option.bind_some, pI_wij h.1.1, Option.bind_some, gF_wij h.1.1, u2_same, Option.bind_some]
  rcases a3 with ⟨e, e1, e2, e3⟩ | ⟨k, s2, e1, ek, e2, e3⟩
  · rw [e2, if_pos rfl]
    rw [e2] at fr1
    exact ⟨_, _, rfl, fr1, Or.inl ⟨e, zB_l e1 _, rfl, by rw [u2_other (by omega)]; exact e3.1, by rw [u2_other (by omega)]; exact e3.2⟩⟩
  · have e4 : CSt (u2 x1 1 7 v1) T L s2 := e3.same (by rw [u2_arow (by omega)]) (by rw [u2_arow (by omega)]) ⟨by rw [u2_other (by omega)], by rw [u2_other (by omega)]⟩
    rw [if_neg (by rw [e2]; exact nW_m1 (by omega)), gR_wij, hsb, Option.bind_some, gF_wij hbd, fr1 bd 0 (by omega) (by omega) (by omega), hc, Option.bind_some, ck_wij, ck_ok h.1.1]
    obtain ⟨v2, x2, b1, b2, b3⟩ := cnum (y := y) (lo := 0) (hb := c) h e4 (by decide) (by omega)
    have fr2 : CCF x (u2 x2 1 8 v2) := fr1.trans fun b j q1 q2 q3 => by rw [u2_other (by omega), b2 b j q1 (by omega)]
    rw [b1, Option.bind_some, pI_wij h.1.1, Option.bind_some, gF_wij h.1.1, u2_same, Option.bind_some]
    rcases b3 with ⟨e, g1, g2, g3⟩ | ⟨k2, s3, g1, gk, g2, g3⟩
    · rw [g2, if_pos rfl]
      rw [g2] at fr2
      exact ⟨_, _, rfl, fr2, Or.inl ⟨e, (zB_r e1 _).trans (zB_l g1 _), rfl, by rw [u2_other (by omega)]; exact g3.1, by rw [u2_other (by omega)]; exact g3.2⟩⟩
    · have g4 : CSt (u2 x2 1 8 v2) T L s3 := g3.same (by rw [u2_arow (by omega)]) (by rw [u2_arow (by omega)]) ⟨by rw [u2_other (by omega)], by rw [u2_other (by omega)]⟩
      rw [if_neg (by rw [g2]; exact nW_m1 (by omega)), gR_wij, hsb, Option.bind_some, gF_wij hbd, fr2 bd 1 (by omega) (by omega) (by omega), hr, Option.bind_some, ck_wij, ck_ok h.1.1]
      obtain ⟨v3, x3, c1, c2, c3⟩ := cnum (y := y) (lo := 0) (hb := r) h g4 (by decide) (by omega)
      have fr3 : CCF x (u2 x3 1 9 v3) := fr2.trans fun b j q1 q2 q3 => by rw [u2_other (by omega), c2 b j q1 (by omega)]
      rw [c1, Option.bind_some, pI_wij h.1.1, Option.bind_some, gF_wij h.1.1, u2_same, Option.bind_some]
      rcases c3 with ⟨e, p1, p2, p3⟩ | ⟨k3, s4, p1, pk, p2, p3⟩
      · rw [p2, if_pos rfl, rz0]
        rw [p2] at fr3
        exact ⟨_, _, rfl, fr3, Or.inl ⟨e, (zB_r e1 _).trans ((zB_r g1 _).trans (zB_l p1 _)), rfl, by rw [u2_other (by omega)]; exact p3.1, by rw [u2_other (by omega)]; exact p3.2⟩⟩
      · have p4 : CSt (u2 x3 1 9 v3) T L s4 := p3.same (by rw [u2_arow (by omega)]) (by rw [u2_arow (by omega)]) ⟨by rw [u2_other (by omega)], by rw [u2_other (by omega)]⟩
        rw [if_neg (by rw [p2]; exact nW_m1 (by omega)), rz1]
        refine ⟨_, _, rfl, fr3, Or.inr ⟨k, k2, k3, s4, (zB_r e1 _).trans ((zB_r g1 _).trans (zB_r p1 _)), ek, rfl, p4, ?_, ?_, ?_⟩⟩
        · rw [u2_other (by omega), c2 1 7 (by omega) (by omega), u2_other (by omega), b2 1 7 (by omega) (by omega), u2_same, e2]
        · rw [u2_other (by omega), c2 1 8 (by omega) (by omega), u2_same, g2]
        · rw [u2_same, p2]
end CPARS
