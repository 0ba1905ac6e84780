/-! ===== the reference: a move, and whether it agrees with a note ===== -/
section MMOVE
variable {G : Mem} {o : Nat} {x : Nat → Nat → Int32} {y : Nat → Nat → Int64} {c r : Nat} {P : Nat → Nat}
theorem isOpen_ok {s : Int32} {v : Nat} {G : Mem} : fX7_isOpen s (nW v) G = some (bI (opn s v), G) := by
  unfold fX7_isOpen fX7_isOpen_0 fX7_isOpen_10 fX7_isOpen_15 opn
  by_cases h1 : s = -1
  · rw [if_pos h1, decide_eq_true h1]; rfl
  · rw [if_neg h1, decide_eq_false h1]
    by_cases h2 : s = nW v
    · rw [if_pos h2, decide_eq_true (show s = Int32.ofNat v from h2)]; rfl
    · rw [if_neg h2, decide_eq_false (show ¬ s = Int32.ofNat v from h2)]; rfl
theorem MSh.g13 (h : MSh G o) : gR G 17 o 13 = some (o + 8) := gR_ok h.1.1 h.1.2.2.2.2.2.2.2.2.1
theorem MSh.g14 (h : MSh G o) : gR G 17 o 14 = some (o + 9) := gR_ok h.1.1 h.1.2.2.2.2.2.2.2.2.2.1
theorem MSh.g15 (h : MSh G o) : gR G 17 o 15 = some (o + 10) := gR_ok h.1.1 h.1.2.2.2.2.2.2.2.2.2.2.1
theorem MSh.g16 (h : MSh G o) : gR G 17 o 16 = some (o + 11) := gR_ok h.1.1 h.1.2.2.2.2.2.2.2.2.2.2.2.1
theorem MSh.g17 (h : MSh G o) : gR G 17 o 17 = some (o + 12) := gR_ok h.1.1 h.1.2.2.2.2.2.2.2.2.2.2.2.2.1
theorem MSh.g18 (h : MSh G o) : gR G 17 o 18 = some (o + 13) := gR_ok h.1.1 h.1.2.2.2.2.2.2.2.2.2.2.2.2.2.1
theorem MSh.g19 (h : MSh G o) : gR G 17 o 19 = some (o + 14) := gR_ok h.1.1 h.1.2.2.2.2.2.2.2.2.2.2.2.2.2.2.1
theorem MSh.g20 (h : MSh G o) : gR G 17 o 20 = some (o + 15) := gR_ok h.1.1 h.1.2.2.2.2.2.2.2.2.2.2.2.2.2.2.2
theorem MSh.r13 (h : MSh G o) : RW G 1 (o + 8) 15840 := h.2.2.2.2.2.2.2.2.1
theorem MSh.r14 (h : MSh G o) : RW G 1 (o + 9) 11 := h.2.2.2.2.2.2.2.2.2.1
theorem MSh.r15 (h : MSh G o) : RW G 1 (o + 10) 16000 := h.2.2.2.2.2.2.2.2.2.2.1
theorem MSh.r16 (h : MSh G o) : RW G 1 (o + 11) 10 := h.2.2.2.2.2.2.2.2.2.2.2.1
theorem MSh.r17 (h : MSh G o) : RW G 1 (o + 12) 36 := h.2.2.2.2.2.2.2.2.2.2.2.2.1
theorem MSh.r18 (h : MSh G o) : RW G 5 (o + 13) 440 := h.2.2.2.2.2.2.2.2.2.2.2.2.2.1
theorem MSh.r19 (h : MSh G o) : RW G 5 (o + 14) 440 := h.2.2.2.2.2.2.2.2.2.2.2.2.2.2.1
theorem MSh.r20 (h : MSh G o) : RW G 3 (o + 15) 1296 := h.2.2.2.2.2.2.2.2.2.2.2.2.2.2.2
theorem position_ok {i p : Nat} {G : Mem} : fX7_position (nW i) (nW p) G = some (nW ((i * 40 + p) * 36), G) := by
  unfold fX7_position fX7_position_0
  simp only [lits, nW_mul, nW_add]
theorem WFP.fnd {n : Nat} {P : Nat → Nat} (W : WFP n P) {col : Nat} (hcol : col < 2) : fnd n P (kgc col) < n := by
  obtain ⟨k, h1, h2, h3⟩ := W.king hcol
  rw [fnd_uniq h1 h2 h3]; exact h1
theorem MRow.mono {b at' n k : Nat} (h : MRow x b at' n P) (hk : k ≤ n) : MRow x b at' k P := fun q hq => h q (by omega)
/-- a move of a position, made on the board -/
theorem moves_ok (h : MSh G o) (hs : szs c r) (hz : MSz x o c r) (W : WFP (c * r) P) {i p f t col : Nat} (hi : i < 11) (hp : p < 40) (hP : MRow x (o + 8) ((i * 40 + p) * 36) 36 P) (hf : f < c * r) (ht : t < c * r) (hcol : col < 2) :
    ∃ x', fX7_moves o (nW i) (nW p) (nW f) (nW t) (nW col) (wIJ G x y) = some (bI (lgl c (c * r) P col f t), wIJ G x' y) ∧ (∀ b, b ≠ o + 12 → x' b = x b) ∧ (lgl c (c * r) P col f t = true → MRow x' (o + 12) 0 36 (mvd P f t)) := by
  have h36 := szs36 hs
  have hat : (i * 40 + p) * 36 + 36 ≤ 15840 := by omega
  have rd : ∀ k, k < 36 → gA (wIJ G x y) 1 (o + 8) (nW ((i * 40 + p) * 36) + nW k) = some (nW (P k)) := fun k hk => by
    rw [nW_add, h.r13.rd (by omega) (by decide), hP k hk]
  have hrow := hP.mono (show c * r ≤ 36 from h36)
  have w1 := W.1
  unfold fX7_moves fX7_moves_0 fX7_moves_40 fX7_moves_77
  simp only [lits]
  rw [position_ok, Option.bind_some, gR_wij, h.g13, Option.bind_some, rd f (by omega), Option.bind_some, isOf_ok (w1 f) hcol, Option.bind_some]
  unfold lgl
  by_cases ho : own (P f) col = true
  rotate_left
  · rw [show own (P f) col = false by simpa using ho, if_pos (show bI false = nW 0 from rfl), Bool.false_and]
    exact ⟨x, rfl, fun _ _ => rfl, fun q => by cases q⟩
  rw [ho, if_neg (show ¬ bI true = nW 0 from bIt0), Bool.true_and, gR_wij, h.g13, Option.bind_some, ck_wij, ck_ok h.t, reaches_ok h hs hz h.r13 (by omega) (by decide) hrow w1 hf ht (own_iff.mp ho).1, Option.bind_some]
  by_cases hr : rch c P f t = true
  rotate_left
  · rw [show rch c P f t = false by simpa using hr, if_pos (show bI false = nW 0 from rfl), Bool.false_and]
    exact ⟨x, rfl, fun _ _ => rfl, fun q => by cases q⟩
  rw [hr, if_neg (show ¬ bI true = nW 0 from bIt0), Bool.true_and, gR_wij, h.g13, Option.bind_some, rd t (by omega), Option.bind_some]
  have hne : f ≠ t := rch_ne hr
  have hpf : P f ≠ 0 := by have := (own_iff.mp ho).1; omega
  -- the move is made
  have made : ((P t - 1) % 5 ≠ 0 ∨ P t = 0) → ∃ x', fX7_moves_79 o (nW f) (nW t) (nW col) (nW ((i * 40 + p) * 36)) (wIJ G x y) = some (bI (!att c (c * r) (mvd P f t) (fnd (c * r) (mvd P f t) (kgc col)) (1 - col)), wIJ G x' y) ∧ (∀ b, b ≠ o + 12 → x' b = x b) ∧ MRow x' (o + 12) 0 36 (mvd P f t) := by
    intro htk
    have W2 := WFP_mvd W hf ht hne hpf htk
    generalize hx1 : ur x (o + 12) (va_cpy (x (o + 8)) (x (o + 12)) ((i * 40 + p) * 36) 0 36) = x1
    have b1 : ∀ k, k < 36 → x1 (o + 12) k = nW (P k) := fun k hk => by
      rw [← hx1, ur_same, cpy_in (Nat.zero_le _) (by omega), Nat.sub_zero]; exact hP k hk
    have bo : ∀ b, b ≠ o + 12 → x1 b = x b := fun b hb => by rw [← hx1, ur_arow hb]
    generalize hx2 : u2 (u2 x1 (o + 12) t (nW (P f))) (o + 12) f (nW 0) = x2
    have b2 : MRow x2 (o + 12) 0 36 (mvd P f t) := fun k hk => by
      rw [Nat.zero_add, ← hx2]
      show _ = nW (if k = f then 0 else if k = t then P f else P k)
      by_cases e1 : k = f
      · rw [if_pos e1, e1, u2_same]
      · rw [if_neg e1, u2_other (fun q => e1 q.2)]
        by_cases e2 : k = t
        · rw [if_pos e2, e2, u2_same]
        · rw [if_neg e2, u2_other (fun q => e2 q.2)]; exact b1 k hk
    have b2o : ∀ b, b ≠ o + 12 → x2 b = x b := fun b hb => by rw [← hx2, u2_arow hb, u2_arow hb]; exact bo b hb
    have hz2 : MSz x2 o c r := by
      unfold MSz
      rw [b2o _ (by omega)]; exact hz
    refine ⟨x2, ?_, b2o, b2⟩
    unfold fX7_moves_79 fX7_moves_147
    simp only [lits]
    rw [gR_wij, h.g13, Option.bind_some, gR_wij, h.g17, Option.bind_some, cpI_wij h.r13.1 h.r17.1 (by rw [h.r13.2]; omega) (by rw [h.r17.2]; decide) (by omega), hx1, Option.bind_some, gR_wij, h.g17, Option.bind_some, Option.bind_some, h.r17.rd (by omega) (by decide), b1 f (by omega), Option.bind_some, h.r17.wr (by omega) (by decide), Option.bind_some, gR_wij, h.g17, Option.bind_some, h.r17.wr (by omega) (by decide), hx2, Option.bind_some, gR_wij, h.g17, Option.bind_some, Option.bind_some, ck_wij, ck_ok h.t, kingOf_ok h hs hz2 h.r17 (by omega) (by decide) (b2.mono h36) W2.1 hcol, if_pos (W2.fnd hcol), Option.bind_some, ck_wij, ck_ok h.t]
    have e1c : nW 1 - nW col = nW (1 - col) := nW_sub (by omega)
    rw [e1c, attacks_ok h hs hz2 h.r17 (by omega) (by decide) (b2.mono h36) W2.1 (W2.fnd hcol) (show 1 - col < 2 by omega), Option.bind_some]
    cases att c (c * r) (mvd P f t) (fnd (c * r) (mvd P f t) (kgc col)) (1 - col) <;> rfl
  have wt := w1 t
  by_cases h0 : P t = 0
  · obtain ⟨x', e1, e2, e3⟩ := made (Or.inr h0)
    rw [if_pos (by rw [nW_le (by omega) (by decide)]; omega), e1]
    refine ⟨x', ?_, e2, fun _ => e3⟩
    rw [show (P t == 0) = true from beq_iff_eq.mpr h0]; simp
  · rw [if_neg (by rw [nW_le (by omega) (by decide)]; omega), isOf_ok wt hcol, Option.bind_some, show (P t == 0) = false from beq_eq_false_iff_ne.mpr h0, Bool.false_or]
    by_cases hot : own (P t) col = true
    · rw [hot, if_neg (show ¬ bI true = nW 0 from bIt0)]
      exact ⟨x, rfl, fun _ _ => rfl, fun q => by simp at q⟩
    · rw [show own (P t) col = false by simpa using hot, if_pos (show bI false = nW 0 from rfl), kindOf_ok (by omega) wt, Option.bind_some]
      by_cases hk : (P t - 1) % 5 = 0
      · rw [if_pos (by rw [hk])]
        refine ⟨x, ?_, fun _ _ => rfl, fun q => by simp [hk] at q⟩
        simp [hk]; rfl
      · obtain ⟨x', e1, e2, e3⟩ := made (Or.inl hk)
        rw [if_neg (by rw [nW_eq (by omega) (by decide)]; exact hk), e1]
        refine ⟨x', ?_, e2, fun _ => e3⟩
        simp [hk]
/-- the notes of the reference -/
def MNt (x : Nat → Nat → Int32) (o i : Nat) (N : Nat → Int32) : Prop := ∀ j, j < 7 → x (o + 1) (39 + 7 * i + j) = N j
theorem of_ok (h : MSh G o) {i j : Nat} (hi : i < 10) (hj : j < 7) {N : Nat → Int32} (hN : MNt x o i N) : fX7_of o (nW i) (nW j) (wIJ G x y) = some (N j, wIJ G x y) := by
  unfold fX7_of fX7_of_0
  simp only [lits]
  rw [gR_wij, h.g0, Option.bind_some, nW_mul, nW_add, nW_add, h.s0 (by omega), hN j hj]; rfl
theorem agrees_ok (h : MSh G o) (hs : szs c r) (hz : MSz x o c r) {f t : Nat} (W2 : WFP (c * r) (mvd P f t)) (h11 : ∀ k, P k < 11) {i p col : Nat} {N : Nat → Int32} (hN : MNt x o i N) (hi : i < 10) (hp : p < 40) (hP : MRow x (o + 8) ((i * 40 + p) * 36) 36 P) (hf : f < c * r) (ht : t < c * r) (hne : f ≠ t) (hpf : P f ≠ 0) (hcol : col < 2) (hb : MRow x (o + 12) 0 36 (mvd P f t)) :
    fX7_agrees o (nW i) (nW i) (nW p) (nW f) (nW t) (nW col) (wIJ G x y) = some (bI (agr c (c * r) N P col f t), wIJ G x y) := by
  have h36 := szs36 hs
  have c0 : 0 < c := by have := hs.1; omega
  have c7 := hs.2.1
  have et : mvd P f t t = P f := by
    show (if t = f then 0 else if t = t then P f else P t) = P f
    rw [if_neg (fun q => hne q.symm), if_pos rfl]
  have bt : x (o + 12) t = nW (P f) := by
    have := hb t (by omega)
    rw [Nat.zero_add, et] at this; exact this
  have of' : ∀ j, j < 7 → fX7_of o (nW i) (nW j) (wIJ G x y) = some (N j, wIJ G x y) := fun j hj => of_ok h hi hj hN
  have s00 : gA (wIJ G x y) 1 (o + 1) (nW 0) = some (nW c) := by
    have := h.s0 (x := x) (y := y) (i := 0) (by decide)
    rw [hz.1] at this; exact this
  unfold fX7_agrees fX7_agrees_0 fX7_agrees_98
  simp only [lits]
  rw [gR_wij, h.g0, Option.bind_some, s00, Option.bind_some, ck_wij, ck_ok h.t, of' 0 (by decide), Option.bind_some, gR_wij, h.g17, Option.bind_some, h.r17.rd (by omega) (by decide), bt, Option.bind_some, kindOf_ok (by omega) (h11 f), Option.bind_some, isOpen_ok, Option.bind_some]
  unfold agr
  cases opn (N 0) ((P f - 1) % 5) with
  | false => rw [if_pos (show bI false = nW 0 from rfl)]; rfl
  | true =>
  rw [if_neg (show ¬ bI true = nW 0 from bIt0), Bool.true_and, ck_wij, ck_ok h.t, of' 1 (by decide), Option.bind_some, dz_ok c0 (by omega), nW_rem (by omega) (by omega), isOpen_ok, Option.bind_some]
  cases opn (N 1) (f % c) with
  | false => rw [if_pos (show bI false = nW 0 from rfl)]; rfl
  | true =>
  rw [if_neg (show ¬ bI true = nW 0 from bIt0), Bool.true_and, ck_wij, ck_ok h.t, of' 2 (by decide), Option.bind_some, dz_ok c0 (by omega), nW_div (by omega) (by omega), isOpen_ok, Option.bind_some]
  cases opn (N 2) (f / c) with
  | false => rw [if_pos (show bI false = nW 0 from rfl)]; rfl
  | true =>
  rw [if_neg (show ¬ bI true = nW 0 from bIt0), Bool.true_and, ck_wij, ck_ok h.t, of' 3 (by decide), Option.bind_some, dz_ok c0 (by omega), nW_rem (by omega) (by omega), isOpen_ok, Option.bind_some]
  cases opn (N 3) (t % c) with
  | false => rw [if_pos (show bI false = nW 0 from rfl)]; rfl
  | true =>
  rw [if_neg (show ¬ bI true = nW 0 from bIt0), Bool.true_and, ck_wij, ck_ok h.t, of' 4 (by decide), Option.bind_some, dz_ok c0 (by omega), nW_div (by omega) (by omega), isOpen_ok, Option.bind_some]
  cases opn (N 4) (t / c) with
  | false => rw [if_pos (show bI false = nW 0 from rfl)]; rfl
  | true =>
  rw [if_neg (show ¬ bI true = nW 0 from bIt0), Bool.true_and, ck_wij, ck_ok h.t, of' 5 (by decide), Option.bind_some]
  have fin : fX7_agrees_128 o (nW i) (nW col) (wIJ G x y) = some (bI (decide (N 6 = 0) || att c (c * r) (mvd P f t) (fnd (c * r) (mvd P f t) (kgc (1 - col))) col), wIJ G x y) := by
    unfold fX7_agrees_128 fX7_agrees_165 fX7_agrees_170
    simp only [lits]
    rw [ck_wij, ck_ok h.t, of' 6 (by decide), Option.bind_some]
    by_cases h6 : N 6 = nW 0
    · rw [if_pos h6, decide_eq_true h6]; rfl
    · rw [if_neg h6, decide_eq_false h6, Bool.false_or, gR_wij, h.g17, Option.bind_some, Option.bind_some, ck_wij, ck_ok h.t]
      have e1c : nW 1 - nW col = nW (1 - col) := nW_sub (by omega)
      rw [e1c, kingOf_ok h hs hz h.r17 (by omega) (by decide) (hb.mono h36) W2.1 (show 1 - col < 2 by omega), if_pos (W2.fnd (show 1 - col < 2 by omega)), Option.bind_some, ck_wij, ck_ok h.t, attacks_ok h hs hz h.r17 (by omega) (by decide) (hb.mono h36) W2.1 (W2.fnd (show 1 - col < 2 by omega)) hcol, Option.bind_some]
      cases att c (c * r) (mvd P f t) (fnd (c * r) (mvd P f t) (kgc (1 - col))) col <;> rfl
  by_cases h5 : N 5 = nW 1
  · rw [if_pos h5, gR_wij, h.g13, Option.bind_some, position_ok, Option.bind_some, nW_add, h.r13.rd (by omega) (by decide), hP t (by omega), Option.bind_some]
    have wt := h11 t
    have d5 : decide (N 5 = 1) = true := decide_eq_true h5
    rw [d5]
    by_cases h0 : P t = 0
    · rw [if_pos (by rw [h0]), show (P t == 0) = true from beq_iff_eq.mpr h0]; rfl
    · rw [if_neg (by rw [nW_eq (by omega) (by decide)]; exact h0), fin, show (P t == 0) = false from beq_eq_false_iff_ne.mpr h0]; rfl
  · have d5 : decide (N 5 = 1) = false := decide_eq_false h5
    rw [if_neg h5, fin, d5]; rfl
/-- the reference asks for the same moves -/
theorem same_moves {n : Nat} {N : Nat → Int32} {col f t : Nat} (h5 : N 5 = 0 ∨ N 5 = 1) : (lgl c n P col f t && agr c n N P col f t) = ((own (P f) col && orgB c N P f) && tgtB c n N P col f t) := by
  have e5 : (!(decide (N 5 = 1) && P t == 0)) = (!(P t == 0) || decide (N 5 = 0)) := by
    rcases h5 with h5 | h5
    · rw [h5]
      cases (P t == 0) <;> decide
    · rw [h5]
      cases (P t == 0) <;> decide
  have eo : ∀ s v, opI s (nW v) = opn s v := fun _ _ => rfl
  unfold lgl agr orgB tgtB lgB
  rw [e5, eo, eo, eo, eo, eo]
  ac_rfl
end MMOVE
