/-! ===== fills; a board gets its size; a state begins ===== -/
section FILL
variable {G : Mem} {x : Nat → Nat → Int32} {y : Nat → Nat → Int64}
/-- a row with a value from p up to q -/
def flR {α : Type} (f : Nat → α) (p q : Nat) (v : α) : Nat → α := fun j => if p ≤ j ∧ j < q then v else f j
theorem flR_one {α : Type} {f : Nat → Nat → α} {a p i : Nat} {v : α} (hi : p ≤ i) : u2 (ur f a (flR (f a) p i v)) a i v = ur f a (flR (f a) p (i + 1) v) := by
  funext b j
  by_cases hb : b = a
  · subst hb
    rw [ur_same]
    by_cases hj : j = i
    · subst hj
      rw [u2_same]
      exact (if_pos ⟨hi, Nat.lt_succ_self _⟩).symm
    · rw [u2_other (fun q => hj q.2), ur_same]
      unfold flR
      by_cases hq : p ≤ j ∧ j < i
      · rw [if_pos hq, if_pos (by omega)]
      · rw [if_neg hq, if_neg (by omega)]
  · rw [u2_apart hb, ur_apart hb, ur_apart hb]
theorem flR_nil {α : Type} {f : Nat → Nat → α} {a p : Nat} {v : α} : ur f a (flR (f a) p p v) = f := by
  funext b j
  by_cases hb : b = a
  · subst hb
    rw [ur_same]
    unfold flR
    rw [if_neg (by omega)]
  · rw [ur_apart hb]
theorem fillI_ok {a n : Nat} {v : Int32} (h1 : mt G a = 1) (h2 : mn G a = n) (hn : n < 99999) : fJ7_fill_53178 a v (wIJ G x y) = some ((), wIJ G (ur x a (flR (x a) 0 n v)) y) := by
  unfold fJ7_fill_53178 fJ7_fill_53178_0
  rw [gL_wij, gL_ok (Or.inl h1), h2, Option.bind_some]
  simp only [lits]
  have := loop_to (f := fun (s : Int32) G => fJ7_fill_53178_5 a v s (nW n) G) (fun i => nW i) (fun i => wIJ G (ur x a (flR (x a) 0 i v)) y) n () (wIJ G (ur x a (flR (x a) 0 n v)) y) (fun i hi => by
    show fJ7_fill_53178_5 _ _ _ _ _ = _
    unfold fJ7_fill_53178_5
    rw [if_neg (by rw [nW_le (by omega) (by omega)]; omega), pA_wij h1 (by omega) (by omega), Option.bind_some, flR_one (Nat.zero_le _)]
    simp only [lits, nW_add]) (by
    show fJ7_fill_53178_5 _ _ _ _ _ = _
    unfold fJ7_fill_53178_5 fJ7_fill_53178_20
    rw [if_pos (by rw [nW_le (by omega) (by omega)]; omega)]; rfl) n 0 FU (by omega) (by show n < 100000; omega)
  rw [flR_nil] at this
  exact this
theorem fillJ_ok {a n : Nat} {v : Int64} (h1 : mt G a = 5) (h2 : mn G a = n) (hn : n < 99999) : fJ7_fill_d0a16 a v (wIJ G x y) = some ((), wIJ G x (ur y a (flR (y a) 0 n v))) := by
  unfold fJ7_fill_d0a16 fJ7_fill_d0a16_0
  rw [gL_wij, gL_ok (Or.inr (Or.inr (Or.inr (Or.inl h1)))), h2, Option.bind_some]
  simp only [lits]
  have := loop_to (f := fun (s : Int32) G => fJ7_fill_d0a16_6 a v s (nW n) G) (fun i => nW i) (fun i => wIJ G x (ur y a (flR (y a) 0 i v))) n () (wIJ G x (ur y a (flR (y a) 0 n v))) (fun i hi => by
    show fJ7_fill_d0a16_6 _ _ _ _ _ = _
    unfold fJ7_fill_d0a16_6
    rw [if_neg (by rw [nW_le (by omega) (by omega)]; omega), pJ_wij h1 (by omega) (by omega), Option.bind_some, flR_one (Nat.zero_le _)]
    simp only [lits, nW_add]) (by
    show fJ7_fill_d0a16_6 _ _ _ _ _ = _
    unfold fJ7_fill_d0a16_6 fJ7_fill_d0a16_22
    rw [if_pos (by rw [nW_le (by omega) (by omega)]; omega)]; rfl) n 0 FU (by omega) (by show n < 100000; omega)
  rw [flR_nil] at this
  exact this
theorem fillR_ok {a p q : Nat} {v : Int64} (h1 : mt G a = 5) (h2 : q ≤ mn G a) (hn : mn G a < 99999) (hpq : p ≤ q) : fJ7_fill_bad5a a (nW p) (nW q) v (wIJ G x y) = some ((), wIJ G x (ur y a (flR (y a) p q v))) := by
  unfold fJ7_fill_bad5a fJ7_fill_bad5a_0 fJ7_rangeCheck_23922 fJ7_rangeCheck_23922_0
  rw [gL_wij, gL_ok (Or.inr (Or.inr (Or.inr (Or.inl h1)))), Option.bind_some]
  simp only [lits]
  rw [if_pos (by rw [nW_le (by omega) (by omega)]; omega), if_pos (by rw [nW_le (by omega) (by omega)]; omega), if_pos (by rw [nW_le (by omega) (by omega)]; omega), Option.bind_some]
  have := loop_to (f := fun (s : Int32) G => fJ7_fill_bad5a_10 a (nW q) v s G) (fun i => nW (p + i)) (fun i => wIJ G x (ur y a (flR (y a) p (p + i) v))) (q - p) () (wIJ G x (ur y a (flR (y a) p q v))) (fun i hi => by
    show fJ7_fill_bad5a_10 _ _ _ _ _ = _
    unfold fJ7_fill_bad5a_10
    rw [if_neg (by rw [nW_le (by omega) (by omega)]; omega), pJ_wij h1 (by omega) (by omega), Option.bind_some, flR_one (Nat.le_add_right _ _)]
    simp only [lits, nW_add]
    rfl) (by
    show fJ7_fill_bad5a_10 _ _ _ _ _ = _
    unfold fJ7_fill_bad5a_10 fJ7_fill_bad5a_27
    rw [if_pos (by rw [nW_le (by omega) (by omega)]; omega), show p + (q - p) = q by omega]; rfl) (q - p) 0 FU (by omega) (by show q - p < 100000; omega)
  rw [show p + 0 = p from rfl, flR_nil] at this
  exact this
end FILL
/-- what a board changes while it gets its size -/
def BZ (b : Nat) (x x' : Nat → Nat → Int32) : Prop := ∀ a j, ¬ (a = b ∧ (j = 0 ∨ j = 1 ∨ j = 5 ∨ j = 6)) → a ≠ b + 2 → x' a j = x a j
theorem BZ.of {b : Nat} {x x' x2 : Nat → Nat → Int32} (h : BZ b x x') (h2 : BF b x' x2) : BZ b x x2 := fun a j h1 h3 => (h2 a j (fun q => h1 ⟨q.1, by omega⟩) h3).trans (h a j h1 h3)
section SIZE
variable {G : Mem} {b a l ln : Nat} {x : Nat → Nat → Int32} {y : Nat → Nat → Int64}
theorem at_ok (h : BSh G b) {c r : Nat} (hs : szs c r) {row col : Nat} (hrow : row < r) (hcol : col < c) : fX0_at b (nW col) (nW row) (wIJ G x y) = some (x (b + 2) (pl c (row * c + col)), wIJ G x y) := by
  have plt := pl_ok hs (grid_lt hrow hcol)
  unfold fX0_at fX0_at_0
  rw [ck_wij, ck_ok h.1, placeOf_ok hcol, Option.bind_some, ck_wij, ck_ok h.1, on_ok h (by omega)]
  rfl
theorem resize_ok (h : BSh G b) {c r : Nat} (hs : szs c r) : ∃ x', fX0_resize b (nW c) (nW r) (wIJ G x y) = some ((), wIJ G x' y) ∧ BZ b x x' ∧ BP c r (c * r) (fun _ => 0) x' b := by
  unfold fX0_resize fX0_resize_0
  rw [pI_wij h.1, Option.bind_some, pI_wij h.1, Option.bind_some, gR_wij, gR_ok h.1 h.2.2.1, Option.bind_some]
  simp only [lits]
  rw [fillI_ok h.2.2.2.2.2.1 h.2.2.2.2.2.2 (by decide), Option.bind_some]
  generalize hx1 : ur (u2 (u2 x b 0 (nW c)) b 1 (nW r)) (b + 2) (flR (u2 (u2 x b 0 (nW c)) b 1 (nW r) (b + 2)) 0 88 (nW 15)) = x1
  have z1 : BZ b x x1 := fun a j h1 h2 => by
    rw [← hx1, ur_apart h2, u2_other (by omega), u2_other (by omega)]
  have d0 : x1 b 0 = nW c := by rw [← hx1, ur_apart (by omega), u2_other (by omega), u2_same]
  have d1 : x1 b 1 = nW r := by rw [← hx1, ur_apart (by omega), u2_same]
  have dz : ∀ p, p < 88 → x1 (b + 2) p = nW 15 := fun p hp => by rw [← hx1, ur_same]; exact if_pos ⟨Nat.zero_le _, hp⟩
  have hr7 := hs.2.2.2
  have hc7 := hs.2.1
  obtain ⟨res, Gf, e1, x2, rfl, h2, h3⟩ := grid_by (fo := fun (s : Int32) G => fX0_resize_21 b s G) (fi := fun (s1 : Int32) (s : Int32) G => fX0_resize_32 b s1 s G) (c := c) (r := r) hs.2.1 hs.2.2.2
    (fun k G1 => ∃ x2, G1 = wIJ G x2 y ∧ BF b x1 x2 ∧ BP c r k (fun _ => 0) x2 b)
    (fun (_ : Unit) G1 => ∃ x2, G1 = wIJ G x2 y ∧ BF b x1 x2 ∧ BP c r (c * r) (fun _ => 0) x2 b)
    (by
      rintro rw1 G1 hrw ⟨x2, rfl, h2, h3⟩
      show fX0_resize_21 _ _ _ = _
      unfold fX0_resize_21
      rw [gF_wij h.1, Option.bind_some, h3.1.2, if_neg (by rw [nW_le (by omega) (by omega)]; omega)]
      rfl)
    (by
      rintro rw1 cl1 G1 hrw hcl1 ⟨x2, rfl, h2, h3⟩
      have ht := grid_lt hrw hcl1
      show ∃ G', fX0_resize_32 _ _ _ _ = _ ∧ _
      unfold fX0_resize_32
      rw [gF_wij h.1, Option.bind_some, h3.1.1, if_neg (by rw [nW_le (by omega) (by omega)]; omega), ck_wij, ck_ok h.1]
      obtain ⟨x3, e3, f3, q1, q2, q3⟩ := put_ok (x := x2) (y := y) h hs hrw hcl1 (m := 0) (by decide)
      have e3' : fX0_put b (nW cl1) (nW rw1) 0 (wIJ G x2 y) = some ((), wIJ G x3 y) := e3
      rw [e3', Option.bind_some]
      refine ⟨_, by simp only [lits, nW_add], x3, rfl, h2.trans f3, h3.put hs ht (fun q _ => ⟨fun e _ => absurd (show (0 : Nat) = 1 from e) (by decide), fun e _ => absurd (show (0 : Nat) = 6 from e) (by decide)⟩) f3 q1 q2 q3⟩)
    (by
      rintro rw1 G1 hrw ⟨x2, rfl, h2, h3⟩
      show fX0_resize_32 _ _ _ _ = _
      unfold fX0_resize_32 fX0_resize_55
      rw [gF_wij h.1, Option.bind_some, h3.1.1, if_pos (by rw [nW_le (by omega) (by omega)]; omega)]
      simp only [lits, nW_add]
      rfl)
    (by
      rintro G1 ⟨x2, rfl, h2, h3⟩
      rw [Nat.mul_comm r c] at h3
      refine ⟨(), wIJ G x2 y, ?_, x2, rfl, h2, h3⟩
      show fX0_resize_21 _ _ _ = _
      unfold fX0_resize_21 fX0_resize_61
      rw [gF_wij h.1, Option.bind_some, h3.1.2, if_pos (by rw [nW_le (by omega) (by omega)]; omega)]
      rfl)
    (G := wIJ G x1 y) ⟨x1, rfl, BF.rfl', ⟨d0, d1⟩, fun p hp _ => dz p hp, fun q hq => by omega, fun q hq => by omega⟩
  exact ⟨x2, e1, z1.of h2, h3⟩
theorem PK_zero {o : Nat} : PK (fun _ => 0) o (fun _ => 0) := fun q _ => by
  show nib 0 _ = 0
  exact nib_of (by decide) (fun i _ => by simp)
/-- a state begins with what stands on its board -/
theorem begin_ok (h : SSh G a l ln) {c r : Nat} (hs : szs c r) {P : Nat → Nat} (W : WFP (c * r) P) (hb : BP c r (c * r) P x (a + 1)) :
    ∃ y', fX3_begin a (wIJ G x y) = some ((), wIJ G (u2 (u2 x a 1 (nW 0)) (a + 5) 0 (nW 1)) y') ∧ (∀ b, b ≠ a + 6 → b ≠ a + 7 → b ≠ a + 8 → y' b = y b) ∧ y' (a + 6) 0 = 1 ∧ PK (y' (a + 7)) 0 P := by
  have hr7 := hs.2.2.2
  have hc7 := hs.2.1
  have h36 := szs36 hs
  unfold fX3_begin fX3_begin_0
  rw [pI_wij h.t, Option.bind_some, gR_wij, h.g6, Option.bind_some, fillJ_ok h.2.2.2.2.2.2.2.1.1 h.2.2.2.2.2.2.2.1.2 (by decide), Option.bind_some]
  simp only [lits]
  generalize hx1 : u2 x a 1 (nW 0) = x1
  have hb1 : BP c r (c * r) P x1 (a + 1) := by
    have e : ∀ b, b ≠ a → x1 b = x b := fun b hb => by rw [← hx1, u2_arow hb]
    obtain ⟨q1, q2, q3, q4⟩ := hb
    refine ⟨?_, ?_, ?_, ?_⟩
    · rw [e _ (by omega)]; exact q1
    · unfold BOff
      rw [e _ (by omega)]; exact q2
    · rw [e _ (by omega)]; exact q3
    · rw [e _ (by omega)]; exact q4
  generalize hy1 : ur y (a + 8) (flR (y (a + 8)) 0 3 0) = y1
  obtain ⟨res, Gf, e1, y2, rfl, h2, h3⟩ := grid_by (fo := fun (s : Int32) G => fX3_begin_15 a s G) (fi := fun (s1 : Int32) (s : Int32) G => fX3_begin_28 a s1 s G) (c := c) (r := r) hs.2.1 hs.2.2.2
    (fun k G1 => ∃ y2, G1 = wIJ G x1 y2 ∧ (∀ b, b ≠ a + 8 → y2 b = y b) ∧ PK (y2 (a + 8)) 0 (fun q => if q < k then P q else 0))
    (fun (_ : Unit) G1 => ∃ y2, G1 = wIJ G (u2 x1 (a + 5) 0 (nW 1)) y2 ∧ (∀ b, b ≠ a + 6 → b ≠ a + 7 → b ≠ a + 8 → y2 b = y b) ∧ y2 (a + 6) 0 = 1 ∧ PK (y2 (a + 7)) 0 P)
    (by
      rintro rw1 G1 hrw ⟨y2, rfl, h2, h3⟩
      show fX3_begin_15 _ _ _ = _
      unfold fX3_begin_15
      rw [gR_wij, h.g0, Option.bind_some, gF_wij h.b.1, Option.bind_some, hb1.1.2, if_neg (by rw [nW_le (by omega) (by omega)]; omega)]
      rfl)
    (by
      rintro rw1 cl1 G1 hrw hcl1 ⟨y2, rfl, h2, h3⟩
      have ht := grid_lt hrw hcl1
      have hen : enc (P (rw1 * c + cl1)) < 16 := by
        have := W.1 (rw1 * c + cl1)
        unfold enc
        split <;> omega
      show ∃ G', fX3_begin_28 _ _ _ _ = _ ∧ _
      unfold fX3_begin_28
      rw [gR_wij, h.g0, Option.bind_some, gF_wij h.b.1, Option.bind_some, hb1.1.1, if_neg (by rw [nW_le (by omega) (by omega)]; omega), Option.bind_some, ck_wij, ck_ok h.b.1, squareOf_ok h.b hb1.1.1, Option.bind_some, gR_wij, h.g0, Option.bind_some, ck_wij, ck_ok h.b.1, at_ok h.b hs hrw hcl1, Option.bind_some, hb1.2.2.1 _ ht, ck_wij, ck_ok h.t, setReached_ok h (by omega) hen, Option.bind_some]
      refine ⟨_, by simp only [lits, nW_add]; rfl, _, rfl, fun b hb => by rw [u2_arow hb]; exact h2 b hb, ?_⟩
      have := setReached_PK h3 (q := rw1 * c + cl1) (by omega) hen rfl
      rw [u2_eq]
      have e : upN (fun q => if q < rw1 * c + cl1 then P q else 0) (rw1 * c + cl1) (P (rw1 * c + cl1)) = fun q => if q < rw1 * c + cl1 + 1 then P q else 0 := by
        funext q
        unfold upN
        by_cases hq : q = rw1 * c + cl1
        · rw [if_pos hq, if_pos (by omega), hq]
        · rw [if_neg hq]
          show (if q < rw1 * c + cl1 then P q else 0) = _
          by_cases hq2 : q < rw1 * c + cl1
          · rw [if_pos hq2, if_pos (by omega)]
          · rw [if_neg hq2, if_neg (by omega)]
      rw [e] at this
      exact this)
    (by
      rintro rw1 G1 hrw ⟨y2, rfl, h2, h3⟩
      show fX3_begin_28 _ _ _ _ = _
      unfold fX3_begin_28 fX3_begin_67
      rw [gR_wij, h.g0, Option.bind_some, gF_wij h.b.1, Option.bind_some, hb1.1.1, if_pos (by rw [nW_le (by omega) (by omega)]; omega)]
      simp only [lits, nW_add]
      rfl)
    (by
      rintro G1 ⟨y2, rfl, h2, h3⟩
      have eP : (fun q => if q < r * c then P q else 0) = P := by
        funext q
        by_cases hq : q < r * c
        · rw [if_pos hq]
        · rw [if_neg hq, W.2.1 q (by rw [Nat.mul_comm]; omega)]
      rw [eP] at h3
      refine ⟨(), _, ?_, u2 (ur y2 (a + 7) (va_cpy (y2 (a + 8)) (y2 (a + 7)) 0 0 3)) (a + 6) 0 1, rfl, fun b hb1 hb2 hb3 => ?_, ?_, ?_⟩
      · show fX3_begin_15 _ _ _ = _
        unfold fX3_begin_15 fX3_begin_73
        rw [gR_wij, h.g0, Option.bind_some, gF_wij h.b.1, Option.bind_some, hb1.1.2, if_pos (by rw [nW_le (by omega) (by omega)]; omega), gR_wij, h.g6, Option.bind_some, gR_wij, h.g5, Option.bind_some]
        simp only [lits]
        rw [cpJ_wij h.2.2.2.2.2.2.2.1.1 h.2.2.2.2.2.2.1.1 (by have := h.2.2.2.2.2.2.2.1.2; omega) (by rw [h.2.2.2.2.2.2.1.2]; omega) (by omega), Option.bind_some, gR_wij, h.g3, Option.bind_some, h.w5 (by omega), Option.bind_some, gR_wij, h.g4, Option.bind_some, h.w6 (by omega), Option.bind_some]
        rfl
      · rw [u2_arow hb1, ur_arow hb2]; exact h2 b hb3
      · rw [u2_same]
      · refine PK_cong h3 (fun j hj => ?_)
        rw [u2_apart (by omega), ur_same, cpy_in (Nat.zero_le _) (by omega)]
        congr 1; omega)
    (G := wIJ G x1 y1) ⟨y1, rfl, fun b hb => by rw [← hy1]; exact ur_arow hb, by
      have e : (fun q => if q < 0 then P q else 0) = fun _ => 0 := funext fun q => if_neg (Nat.not_lt_zero _)
      rw [e]
      refine PK_cong (o := 0) PK_zero (fun j hj => ?_)
      rw [← hy1, ur_same]
      exact if_pos ⟨Nat.zero_le _, by omega⟩⟩
  exact ⟨y2, e1, h2, h3⟩
end SIZE
