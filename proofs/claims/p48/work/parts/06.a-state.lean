/-! ===== a state of the class in the memory: its shape ===== -/
def SSh (G : Mem) (a l ln : Nat) : Prop := (mt G a = 13 ∧ mP G a 0 = some (a + 1) ∧ mP G a 2 = some (a + 4) ∧ mP G a 3 = some (a + 5) ∧ mP G a 4 = some (a + 6) ∧ mP G a 5 = some (a + 7) ∧ mP G a 6 = some (a + 8) ∧ mP G a 7 = some (a + 9) ∧ mP G a 8 = some l) ∧
  BSh G (a + 1) ∧ (mt G (a + 4) = 6 ∧ mn G (a + 4) = 10) ∧ (∀ i, i < 10 → mP G (a + 4) i = some (a + 11 + i) ∧ mt G (a + 11 + i) = 11) ∧ (mt G (a + 5) = 1 ∧ mn G (a + 5) = 11) ∧ (mt G (a + 6) = 5 ∧ mn G (a + 6) = 440) ∧ (mt G (a + 7) = 5 ∧ mn G (a + 7) = 1320) ∧ (mt G (a + 8) = 5 ∧ mn G (a + 8) = 3) ∧ (mt G (a + 9) = 1 ∧ mn G (a + 9) = 11) ∧ (mt G l = 1 ∧ mn G l = ln) ∧ ln ≤ 16000
section SHAPE
variable {G : Mem} {a l ln : Nat} {x : Nat → Nat → Int32} {y : Nat → Nat → Int64}
theorem SSh.t (h : SSh G a l ln) : mt G a = 13 := h.1.1
theorem SSh.b (h : SSh G a l ln) : BSh G (a + 1) := h.2.1
theorem SSh.g0 (h : SSh G a l ln) : gR G 13 a 0 = some (a + 1) := gR_ok h.1.1 h.1.2.1
theorem SSh.g2 (h : SSh G a l ln) : gR G 13 a 2 = some (a + 4) := gR_ok h.1.1 h.1.2.2.1
theorem SSh.g3 (h : SSh G a l ln) : gR G 13 a 3 = some (a + 5) := gR_ok h.1.1 h.1.2.2.2.1
theorem SSh.g4 (h : SSh G a l ln) : gR G 13 a 4 = some (a + 6) := gR_ok h.1.1 h.1.2.2.2.2.1
theorem SSh.g5 (h : SSh G a l ln) : gR G 13 a 5 = some (a + 7) := gR_ok h.1.1 h.1.2.2.2.2.2.1
theorem SSh.g6 (h : SSh G a l ln) : gR G 13 a 6 = some (a + 8) := gR_ok h.1.1 h.1.2.2.2.2.2.2.1
theorem SSh.g7 (h : SSh G a l ln) : gR G 13 a 7 = some (a + 9) := gR_ok h.1.1 h.1.2.2.2.2.2.2.2.1
theorem SSh.g8 (h : SSh G a l ln) : gR G 13 a 8 = some l := gR_ok h.1.1 h.1.2.2.2.2.2.2.2.2
theorem SSh.nt (h : SSh G a l ln) {i : Nat} (hi : i < 10) : gQ G 6 (a + 4) (nW i) = some (a + 11 + i) := gQ_ok h.2.2.1.1 (by rw [h.2.2.1.2]; exact hi) (by rw [h.2.2.1.2]; omega) (h.2.2.2.1 i hi).1
theorem SSh.nk (h : SSh G a l ln) {i : Nat} (hi : i < 10) : mt G (a + 11 + i) = 11 := (h.2.2.2.1 i hi).2
theorem SSh.r5 (h : SSh G a l ln) {i : Nat} (hi : i < 11) : gA (wIJ G x y) 1 (a + 5) (nW i) = some (x (a + 5) i) := gA_wij h.2.2.2.2.1.1 (by rw [h.2.2.2.2.1.2]; exact hi) (by rw [h.2.2.2.2.1.2]; omega)
theorem SSh.w5 (h : SSh G a l ln) {i : Nat} {v : Int32} (hi : i < 11) : pA (wIJ G x y) (a + 5) (nW i) v = some (wIJ G (u2 x (a + 5) i v) y) := pA_wij h.2.2.2.2.1.1 (by rw [h.2.2.2.2.1.2]; exact hi) (by rw [h.2.2.2.2.1.2]; omega)
theorem SSh.r6 (h : SSh G a l ln) {i : Nat} (hi : i < 440) : gJ (wIJ G x y) (a + 6) (nW i) = some (y (a + 6) i) := gJ_wij h.2.2.2.2.2.1.1 (by rw [h.2.2.2.2.2.1.2]; exact hi) (by rw [h.2.2.2.2.2.1.2]; omega)
theorem SSh.w6 (h : SSh G a l ln) {i : Nat} {v : Int64} (hi : i < 440) : pJ (wIJ G x y) (a + 6) (nW i) v = some (wIJ G x (u2 y (a + 6) i v)) := pJ_wij h.2.2.2.2.2.1.1 (by rw [h.2.2.2.2.2.1.2]; exact hi) (by rw [h.2.2.2.2.2.1.2]; omega)
theorem SSh.r7 (h : SSh G a l ln) {i : Nat} (hi : i < 1320) : gJ (wIJ G x y) (a + 7) (nW i) = some (y (a + 7) i) := gJ_wij h.2.2.2.2.2.2.1.1 (by rw [h.2.2.2.2.2.2.1.2]; exact hi) (by rw [h.2.2.2.2.2.2.1.2]; omega)
theorem SSh.r8 (h : SSh G a l ln) {i : Nat} (hi : i < 3) : gJ (wIJ G x y) (a + 8) (nW i) = some (y (a + 8) i) := gJ_wij h.2.2.2.2.2.2.2.1.1 (by rw [h.2.2.2.2.2.2.2.1.2]; exact hi) (by rw [h.2.2.2.2.2.2.2.1.2]; omega)
theorem SSh.w8 (h : SSh G a l ln) {i : Nat} {v : Int64} (hi : i < 3) : pJ (wIJ G x y) (a + 8) (nW i) v = some (wIJ G x (u2 y (a + 8) i v)) := pJ_wij h.2.2.2.2.2.2.2.1.1 (by rw [h.2.2.2.2.2.2.2.1.2]; exact hi) (by rw [h.2.2.2.2.2.2.2.1.2]; omega)
theorem SSh.r9 (h : SSh G a l ln) {i : Nat} (hi : i < 11) : gA (wIJ G x y) 1 (a + 9) (nW i) = some (x (a + 9) i) := gA_wij h.2.2.2.2.2.2.2.2.1.1 (by rw [h.2.2.2.2.2.2.2.2.1.2]; exact hi) (by rw [h.2.2.2.2.2.2.2.2.1.2]; omega)
theorem SSh.w9 (h : SSh G a l ln) {i : Nat} {v : Int32} (hi : i < 11) : pA (wIJ G x y) (a + 9) (nW i) v = some (wIJ G (u2 x (a + 9) i v) y) := pA_wij h.2.2.2.2.2.2.2.2.1.1 (by rw [h.2.2.2.2.2.2.2.2.1.2]; exact hi) (by rw [h.2.2.2.2.2.2.2.2.1.2]; omega)
theorem SSh.lb (h : SSh G a l ln) : ln ≤ 16000 := h.2.2.2.2.2.2.2.2.2.2
theorem SSh.lt (h : SSh G a l ln) : mt G l = 1 := h.2.2.2.2.2.2.2.2.2.1.1
theorem SSh.ll (h : SSh G a l ln) : mn G l = ln := h.2.2.2.2.2.2.2.2.2.1.2
theorem SSh.rl (h : SSh G a l ln) {i : Nat} (hi : i < ln) : gA (wIJ G x y) 1 l (nW i) = some (x l i) := gA_wij h.lt (by rw [h.ll]; exact hi) (by rw [h.ll]; have := h.lb; omega)
theorem SSh.wl (h : SSh G a l ln) {i : Nat} {v : Int32} (hi : i < ln) : pA (wIJ G x y) l (nW i) v = some (wIJ G (u2 x l i v) y) := pA_wij h.lt (by rw [h.ll]; exact hi) (by rw [h.ll]; have := h.lb; omega)
theorem SSh.len7 (h : SSh G a l ln) : gL G (a + 7) = some (nW 1320) := by rw [gL_ok (Or.inr (Or.inr (Or.inr (Or.inl h.2.2.2.2.2.2.1.1)))), h.2.2.2.2.2.2.1.2]
theorem SSh.lenl (h : SSh G a l ln) : gL G l = some (nW ln) := by rw [gL_ok (Or.inl h.lt), h.ll]
theorem SSh.f (h : SSh G a l ln) {k : Nat} : gF (wIJ G x y) 13 a k = some (x a k) := gF_wij h.t
/-- where a position of a layer stands -/
theorem cellOf_ok {i p : Nat} (hi : i < 11) (hp : p < 40) : fX3_cellOf (nW i) (nW p) G = some (nW (i * 40 + p), G) := by
  have h25 : fX3_cellOf_25 (nW i) (nW p) (1 : Int32) G = some (nW i * (40 : Int32) + nW p, G) := by
    unfold fX3_cellOf_25 fX3_cellOf_40
    rw [if_neg (by decide)]
  unfold fX3_cellOf fX3_cellOf_0
  rw [h25]
  simp only [lits]
  rw [if_neg (nW_neg_lt (by omega)), if_neg (by rw [nW_le (by omega) (by omega)]; omega), if_neg (nW_neg_lt (by omega)), if_neg (by rw [nW_le (by omega) (by omega)]; omega), nW_mul, nW_add]
theorem cellOf_m1 {i : Nat} (hi : i < 11) : fX3_cellOf (nW i) (-nW 1) G = some (-nW 1, G) := by
  have h24 : ∀ x y : Int32, fX3_cellOf_24 x y G = some ((-1 : Int32), G) := fun x y => by
    unfold fX3_cellOf_24 fX3_cellOf_25 fX3_cellOf_40
    rw [if_pos rfl]
  unfold fX3_cellOf fX3_cellOf_0
  rw [h24]
  simp only [lits]
  rw [if_neg (nW_neg_lt (by omega)), if_neg (by rw [nW_le (by omega) (by omega)]; omega), if_pos m1_lt0]
theorem gamesAt_ok (h : SSh G a l ln) {i p : Nat} (hi : i < 11) (hp : p < 40) : fX3_gamesAt a (nW i) (nW p) (wIJ G x y) = some (y (a + 6) (i * 40 + p), wIJ G x y) := by
  unfold fX3_gamesAt fX3_gamesAt_0 fX3_gamesAt_21
  rw [cellOf_ok hi hp, Option.bind_some]
  simp only [lits]
  rw [if_neg (nW_m1 (by omega)), gR_wij, h.g4, Option.bind_some, h.r6 (by omega), Option.bind_some]
/-- a square of a position -/
theorem read_ok (h : SSh G a l ln) {i p q : Nat} (hi : i < 11) (hp : p < 40) (hq : q < 48) : fX3_read a (nW i) (nW p) (nW q) (wIJ G x y) = some (nW (nib (y (a + 7) ((i * 40 + p) * 3 + q / 16)) (q % 16)), wIJ G x y) := by
  unfold fX3_read fX3_read_0 fX3_shiftOf fX3_shiftOf_0
  rw [cellOf_ok hi hp, Option.bind_some]
  simp only [lits]
  rw [nW_shr (by omega) (by decide), if_neg (nW_m1 (by omega)), if_neg (nW_neg_lt (by omega)), if_pos (by rw [nW_lt (by omega) (by omega)]; omega), gR_wij, h.g5, Option.bind_some, nW_mul, nW_add, h.r7 (by omega), Option.bind_some, Option.bind_some]
  rw [nW_and15, nW_shl _ (by decide)]
  have := nib_read (y (a + 7) ((i * 40 + p) * 3 + q / 2 ^ 4)) (j := q % 16) (by omega)
  rw [show (2 : Nat) ^ 2 = 4 by decide]
  rw [this]
/-- a square of the position that is being made -/
theorem setReached_ok (h : SSh G a l ln) {q e : Nat} (hq : q < 48) (he : e < 16) : fX3_setReached a (nW q) (nW e) (wIJ G x y) = some ((), wIJ G x (u2 y (a + 8) (q / 16) ((y (a + 8) (q / 16) &&& (((15 : Int64) <<< ((nW (q % 16 * 4)).toInt64 &&& 63)) ^^^ (-1 : Int64))) ||| ((nW e).toInt64 <<< ((nW (q % 16 * 4)).toInt64 &&& 63))))) := by
  unfold fX3_setReached fX3_setReached_0 fX3_setReached_13 fX3_shiftOf fX3_shiftOf_0
  simp only [lits]
  rw [nW_shr (by omega) (by decide), show (2 : Nat) ^ 4 = 16 by decide, if_neg (nW_neg_lt (by omega)), if_pos (by rw [nW_lt (by omega) (by omega)]; omega), Option.bind_some, gR_wij, h.g6, Option.bind_some, Option.bind_some, h.r8 (by omega), Option.bind_some, nW_and15, nW_shl _ (by decide), show (2 : Nat) ^ 2 = 4 by decide, h.w8 (by omega), Option.bind_some]
theorem setReached_PK {w : Nat → Int64} {P : Nat → Nat} (hw : PK w 0 P) {q e : Nat} (hq : q < 48) (he : e < 16) {m : Nat} (hm : enc m = e) : PK (fun j => if j = q / 16 then ((w (q / 16) &&& (((15 : Int64) <<< ((nW (q % 16 * 4)).toInt64 &&& 63)) ^^^ (-1 : Int64))) ||| ((nW e).toInt64 <<< ((nW (q % 16 * 4)).toInt64 &&& 63))) else w j) 0 (upN P q m) := by
  intro k hk
  have h0 := hw k hk
  show nib (if 0 + k / 16 = q / 16 then _ else _) _ = enc (if k = q then m else P k)
  by_cases e1 : k / 16 = q / 16
  · rw [if_pos (by omega), nib_write _ (by omega) he _ (by omega)]
    by_cases e2 : k = q
    · rw [if_pos (by rw [e2]), if_pos e2, hm]
    · rw [if_neg (by omega), if_neg e2]
      rw [← h0, Nat.zero_add, e1]
  · rw [if_neg (by omega), if_neg (by intro e; exact e1 (by rw [e]))]
    exact h0
/-! the board shows a position -/
/-- what a board may change while it shows another position -/
def BF (b : Nat) (x x' : Nat → Nat → Int32) : Prop := ∀ a j, ¬ (a = b ∧ (j = 5 ∨ j = 6)) → a ≠ b + 2 → x' a j = x a j
theorem BF.rfl' {b : Nat} {x : Nat → Nat → Int32} : BF b x x := fun _ _ _ _ => rfl
theorem BF.trans {b : Nat} {x x' x2 : Nat → Nat → Int32} (h : BF b x x') (h2 : BF b x' x2) : BF b x x2 := fun a j h1 h3 => (h2 a j h1 h3).trans (h a j h1 h3)
def BOff (c r : Nat) (x : Nat → Nat → Int32) (b : Nat) : Prop := ∀ p, p < 88 → onb c r p = false → x (b + 2) p = nW 15
theorem put_ok {b : Nat} (h : BSh G b) {c r : Nat} (hs : szs c r) {row col m : Nat} (hrow : row < r) (hcol : col < c) (hm : m < 11) :
    ∃ x', fX0_put b (nW col) (nW row) (nW (enc m)) (wIJ G x y) = some ((), wIJ G x' y) ∧ BF b x x' ∧ (∀ p, p < 88 → x' (b + 2) p = if p = pl c (row * c + col) then nW (enc m) else x (b + 2) p) ∧ (x' b 5 = if m = 1 then nW (pl c (row * c + col)) else x b 5) ∧ (x' b 6 = if m = 6 then nW (pl c (row * c + col)) else x b 6) := by
  have ht := grid_lt hrow hcol
  have plt := pl_ok hs ht
  have e1 : ∀ m, m < 11 → (nW (enc m) = nW 1 ↔ m = 1) := by decide +kernel
  have e9 : ∀ m, m < 11 → (nW (enc m) = nW 9 ↔ m = 6) := by decide +kernel
  unfold fX0_put fX0_put_0 fX0_put_41
  simp only [lits]
  rw [ck_wij, ck_ok h.1, placeOf_ok hcol, Option.bind_some, ck_wij, ck_ok h.1, set_ok h (by omega), Option.bind_some]
  have cell : ∀ (z : Nat → Nat → Int32), (∀ p, z (b + 2) p = u2 x (b + 2) (pl c (row * c + col)) (nW (enc m)) (b + 2) p) → ∀ p, p < 88 → z (b + 2) p = if p = pl c (row * c + col) then nW (enc m) else x (b + 2) p := by
    intro z hz p hp
    rw [hz p]
    by_cases hpp : p = pl c (row * c + col)
    · rw [if_pos hpp, hpp, u2_same]
    · rw [if_neg hpp, u2_other (fun q => hpp q.2)]
  by_cases h1 : m = 1
  · rw [if_pos ((e1 m hm).mpr h1), pI_wij h.1, Option.bind_some]
    refine ⟨_, rfl, fun a j q1 q2 => ?_, cell _ (fun p => u2_apart (by omega)), ?_, ?_⟩
    · rw [u2_other (fun q => q1 ⟨q.1, Or.inl q.2⟩), u2_apart q2]
    · rw [u2_same, if_pos h1]
    · rw [u2_other (by omega), u2_apart (by omega), if_neg (by omega)]
  · rw [if_neg (fun e => h1 ((e1 m hm).mp e))]
    by_cases h6 : m = 6
    · rw [if_pos ((e9 m hm).mpr h6), pI_wij h.1, Option.bind_some]
      refine ⟨_, rfl, fun a j q1 q2 => ?_, cell _ (fun p => u2_apart (by omega)), ?_, ?_⟩
      · rw [u2_other (fun q => q1 ⟨q.1, Or.inr q.2⟩), u2_apart q2]
      · rw [u2_other (by omega), u2_apart (by omega), if_neg h1]
      · rw [u2_same, if_pos h6]
    · rw [if_neg (fun e => h6 ((e9 m hm).mp e))]
      refine ⟨_, rfl, fun a j q1 q2 => u2_apart q2, cell _ (fun p => rfl), ?_, ?_⟩
      · rw [u2_apart (by omega), if_neg h1]
      · rw [u2_apart (by omega), if_neg h6]
/-- a board that holds a position up to a square -/
def BP (c r k : Nat) (P : Nat → Nat) (x : Nat → Nat → Int32) (b : Nat) : Prop := (x b 0 = nW c ∧ x b 1 = nW r) ∧ BOff c r x b ∧ (∀ q, q < k → x (b + 2) (pl c q) = nW (enc (P q))) ∧ ∀ q, q < k → (P q = 1 → x b 5 = nW (pl c q)) ∧ (P q = 6 → x b 6 = nW (pl c q))
theorem BP.br {c r : Nat} (hs : szs c r) {P : Nat → Nat} {b : Nat} (h : BP c r (c * r) P x b) : BR c r P x b ∧ BK c (c * r) P x b := by
  obtain ⟨h1, h2, h3, h4⟩ := h
  refine ⟨⟨h1.1, h1.2, fun p hp => ?_⟩, h4⟩
  unfold bct
  by_cases ho : onb c r p = true
  · have g := pl_sqp hs hp ho
    rw [if_pos ho, ← h3 _ g.1, g.2]
  · rw [if_neg ho]; exact h2 p hp (by simpa using ho)
theorem BR.bp {c r : Nat} (hs : szs c r) {P : Nat → Nat} {b : Nat} (hb : BR c r P x b) (hk : BK c (c * r) P x b) : BP c r (c * r) P x b :=
  ⟨⟨hb.1, hb.2.1⟩, fun p hp ho => by rw [hb.2.2 p hp]; unfold bct; rw [if_neg (by rw [ho]; decide)], fun q hq => hb.at hs hq, hk⟩
theorem BP.put {c r k : Nat} (hs : szs c r) {P : Nat → Nat} {b : Nat} {x' : Nat → Nat → Int32} (h : BP c r k P x b) (hk : k < c * r) (hu : ∀ q, q < k → (P q = 1 → P k ≠ 1) ∧ (P q = 6 → P k ≠ 6)) (hf : BF b x x') (hc : ∀ p, p < 88 → x' (b + 2) p = if p = pl c k then nW (enc (P k)) else x (b + 2) p) (h5 : x' b 5 = if P k = 1 then nW (pl c k) else x b 5) (h6 : x' b 6 = if P k = 6 then nW (pl c k) else x b 6) : BP c r (k + 1) P x' b := by
  obtain ⟨h1, h2, h3, h4⟩ := h
  have plk := pl_ok hs hk
  refine ⟨⟨by rw [hf b 0 (by omega) (by omega)]; exact h1.1, by rw [hf b 1 (by omega) (by omega)]; exact h1.2⟩, fun p hp ho => ?_, fun q hq => ?_, fun q hq => ⟨fun e => ?_, fun e => ?_⟩⟩
  · rw [hc p hp, if_neg (by intro e; rw [e, plk.2.2.1] at ho; cases ho)]; exact h2 p hp ho
  · have plq := pl_ok hs (show q < c * r by omega)
    rw [hc _ (by omega)]
    by_cases e : q = k
    · rw [e, if_pos rfl]
    · rw [if_neg (fun e2 => e (pl_inj hs (by omega) hk e2))]; exact h3 q (by omega)
  · by_cases ek : q = k
    · rw [← ek] at h5; rw [h5, if_pos e]
    · rw [h5, if_neg ((hu q (by omega)).1 e)]; exact (h4 q (by omega)).1 e
  · by_cases ek : q = k
    · rw [← ek] at h6; rw [h6, if_pos e]
    · rw [h6, if_neg ((hu q (by omega)).2 e)]; exact (h4 q (by omega)).2 e
theorem WFP.uniq {n : Nat} {P : Nat → Nat} (W : WFP n P) {k : Nat} : ∀ q, q < k → (P q = 1 → P k ≠ 1) ∧ (P q = 6 → P k ≠ 6) := by
  obtain ⟨-, -, ⟨k1, -, -, u1⟩, ⟨k2, -, -, u2⟩, -⟩ := W
  intro q hq
  exact ⟨fun e1 e2 => by have := u1 q e1; have := u1 k e2; omega, fun e1 e2 => by have := u2 q e1; have := u2 k e2; omega⟩
/-- a loop over rows and columns that counts the squares beside -/
theorem grid2_by {ρ : Type} {fo : Int32 × Int32 → Mem → Option (((Int32 × Int32) ⊕ ρ) × Mem)} {fi : Int32 → Int32 × Int32 → Mem → Option (((Int32 × Int32) ⊕ ((Int32 × Int32) ⊕ ρ)) × Mem)} {c r : Nat} (hc : c < 7) (hr : r < 7) (Inv : Nat → Mem → Prop) (post : ρ → Mem → Prop)
    (ho : ∀ row G, row < r → Inv (row * c) G → fo (nW (row * c), nW row) G = loopM (fun s G => fi (nW row) s G) FU (nW (row * c), nW 0) G)
    (hi : ∀ row col G, row < r → col < c → Inv (row * c + col) G → ∃ G', fi (nW row) (nW (row * c + col), nW col) G = some (.inl (nW (row * c + col + 1), nW (col + 1)), G') ∧ Inv (row * c + col + 1) G')
    (he : ∀ row G, row < r → Inv (row * c + c) G → fi (nW row) (nW (row * c + c), nW c) G = some (.inr (.inl (nW (row * c + c), nW (row + 1))), G))
    (hf : ∀ G, Inv (r * c) G → ∃ res Gf, fo (nW (r * c), nW r) G = some (.inr res, Gf) ∧ post res Gf) {G : Mem} (h0 : Inv 0 G) : ∃ res Gf, loopM fo FU (nW 0, nW 0) G = some (res, Gf) ∧ post res Gf := by
  refine loop_by (f := fo) (fun k s G => ∃ row, k = r - row ∧ row ≤ r ∧ s = (nW (row * c), nW row) ∧ Inv (row * c) G) post ?_ FU r (nW 0, nW 0) G (by show r < 100000; omega) ⟨0, rfl, Nat.zero_le _, by rw [Nat.zero_mul], by rw [Nat.zero_mul]; exact h0⟩
  rintro k s G ⟨row, rfl, hrow, rfl, hI⟩
  by_cases hend : row = r
  · subst hend
    exact Or.inl (hf G hI)
  · have hrow : row < r := by omega
    rw [ho row G hrow hI]
    obtain ⟨res, Gf, e, rfl, hI2⟩ := loop_by (f := fun s G => fi (nW row) s G) (fun k s G => ∃ col, k = c - col ∧ col ≤ c ∧ s = (nW (row * c + col), nW col) ∧ Inv (row * c + col) G) (fun (q : (Int32 × Int32) ⊕ ρ) G => q = .inl (nW ((row + 1) * c), nW (row + 1)) ∧ Inv ((row + 1) * c) G) (by
      rintro k s G ⟨col, rfl, hcol, rfl, hI⟩
      by_cases hend : col = c
      · subst hend
        exact Or.inl ⟨_, _, he row G hrow hI, by rw [Nat.add_mul, Nat.one_mul], by rw [Nat.add_mul, Nat.one_mul]; exact hI⟩
      · obtain ⟨G', e, hI2⟩ := hi row col G hrow (by omega) hI
        exact Or.inr ⟨c - (col + 1), _, _, by omega, e, col + 1, rfl, by omega, rfl, hI2⟩) FU c (nW (row * c), nW 0) G (by show c < 100000; omega) ⟨0, rfl, Nat.zero_le _, rfl, hI⟩
    exact Or.inr ⟨r - (row + 1), _, _, by omega, e, row + 1, rfl, by omega, rfl, hI2⟩
theorem show_ok (h : SSh G a l ln) {c r : Nat} (hs : szs c r) {P : Nat → Nat} (W : WFP (c * r) P) {i p : Nat} (hi : i < 11) (hp : p < 40) (hx : x (a + 1) 0 = nW c ∧ x (a + 1) 1 = nW r) (ho : BOff c r x (a + 1)) (hw : PK (y (a + 7)) ((i * 40 + p) * 3) P) :
    ∃ x', fX3_show a (nW i) (nW p) (wIJ G x y) = some ((), wIJ G x' y) ∧ BF (a + 1) x x' ∧ BR c r P x' (a + 1) ∧ BK c (c * r) P x' (a + 1) := by
  unfold fX3_show fX3_show_0
  simp only [lits]
  obtain ⟨res, Gf, e1, x2, rfl, h2, h3⟩ := grid2_by (fo := fun (s : Int32 × Int32) G => fX3_show_5 a (nW i) (nW p) s.1 s.2 G) (fi := fun (s1 : Int32) (s : Int32 × Int32) G => fX3_show_20 a (nW i) (nW p) s.1 s1 s.2 G) (c := c) (r := r) hs.2.1 hs.2.2.2
    (fun k G1 => ∃ x2, G1 = wIJ G x2 y ∧ BF (a + 1) x x2 ∧ BP c r k P x2 (a + 1))
    (fun (_ : Unit) G1 => ∃ x2, G1 = wIJ G x2 y ∧ BF (a + 1) x x2 ∧ BP c r (c * r) P x2 (a + 1))
    (by
      rintro rw1 G1 hrw ⟨x2, rfl, h2, h3⟩
      show fX3_show_5 _ _ _ _ _ _ = _
      unfold fX3_show_5
      rw [gR_wij, h.g0, Option.bind_some, gF_wij h.b.1, Option.bind_some, h3.1.2, if_neg (by rw [nW_le (by have := hs.2.2.2; omega) (by have := hs.2.2.2; omega)]; omega)]
      rfl)
    (by
      rintro rw1 cl1 G1 hrw hcl1 ⟨x2, rfl, h2, h3⟩
      have ht := grid_lt hrw hcl1
      have h36 := szs36 hs
      have hc7 := hs.2.1
      have hr7 := hs.2.2.2
      show ∃ G', fX3_show_20 _ _ _ _ _ _ _ = _ ∧ _
      unfold fX3_show_20
      have hr : nib (y (a + 7) ((i * 40 + p) * 3 + (rw1 * c + cl1) / 16)) ((rw1 * c + cl1) % 16) = enc (P (rw1 * c + cl1)) := hw _ (by omega)
      rw [gR_wij, h.g0, Option.bind_some, gF_wij h.b.1, Option.bind_some, h3.1.1, if_neg (by rw [nW_le (by omega) (by omega)]; omega), Option.bind_some, ck_wij, ck_ok h.t, read_ok h hi hp (by omega), Option.bind_some, hr, ck_wij, ck_ok h.b.1]
      obtain ⟨x3, e3, f3, q1, q2, q3⟩ := put_ok (x := x2) (y := y) h.b hs hrw hcl1 (W.1 (rw1 * c + cl1))
      rw [e3, Option.bind_some]
      exact ⟨_, by simp only [lits, nW_add], x3, rfl, h2.trans f3, h3.put hs ht W.uniq f3 q1 q2 q3⟩)
    (by
      rintro rw1 G1 hrw ⟨x2, rfl, h2, h3⟩
      show fX3_show_20 _ _ _ _ _ _ _ = _
      unfold fX3_show_20 fX3_show_59
      rw [gR_wij, h.g0, Option.bind_some, gF_wij h.b.1, Option.bind_some, h3.1.1, if_pos (by rw [nW_le (by have := hs.2.1; omega) (by have := hs.2.1; omega)]; omega)]
      simp only [lits, nW_add]
      rfl)
    (by
      rintro G1 ⟨x2, rfl, h2, h3⟩
      rw [Nat.mul_comm r c] at h3
      refine ⟨(), wIJ G x2 y, ?_, x2, rfl, h2, h3⟩
      show fX3_show_5 _ _ _ _ _ _ = _
      unfold fX3_show_5 fX3_show_65
      rw [gR_wij, h.g0, Option.bind_some, gF_wij h.b.1, Option.bind_some, h3.1.2, if_pos (by rw [nW_le (by have := hs.2.2.2; omega) (by have := hs.2.2.2; omega)]; omega)]
      rfl)
    (G := wIJ G x y) ⟨x, rfl, BF.rfl', hx, ho, fun q hq => by omega, fun q hq => by omega⟩
  exact ⟨x2, e1, h2, (h3.br hs).1, (h3.br hs).2⟩
end SHAPE
