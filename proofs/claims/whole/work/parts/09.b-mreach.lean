/-! ===== the reference: ranges, attacks, kings ===== -/
theorem kindOf_ok {m : Nat} (h0 : 0 < m) (h1 : m < 11) {G : Mem} : fX7_kindOf (nW m) G = some (nW ((m - 1) % 5), G) := by
  unfold fX7_kindOf fX7_kindOf_0
  simp only [lits]
  rw [nW_sub h0, nW_rem (by omega) (by decide)]
theorem isOf_ok {m col : Nat} (h1 : m < 11) (hc : col < 2) {G : Mem} : fX7_isOf (nW m) (nW col) G = some (bI (own m col), G) := by
  unfold fX7_isOf fX7_isOf_0 fX7_isOf_16 fX7_isOf_17 fX7_colourOf fX7_colourOf_0
  simp only [lits]
  by_cases h0 : m = 0
  · subst h0
    rw [if_pos (by decide)]; rfl
  · have e : own m col = decide ((m - 1) / 5 = col) := by
      unfold own
      rw [decide_eq_true (show 0 < m by omega), Bool.true_and]
    rw [if_neg (by rw [nW_le (by omega) (by decide)]; omega), Option.bind_some, nW_sub (by omega), nW_div (by omega) (by decide), e]
    by_cases hq : (m - 1) / 5 = col
    · rw [if_pos (by rw [hq]), decide_eq_true hq]; rfl
    · rw [if_neg (by rw [nW_eq (by omega) (by omega)]; exact hq), decide_eq_false hq]; rfl
theorem fndF_spec {P : Nat → Nat} {m : Nat} : ∀ (d i : Nat), i ≤ fndF P m d i ∧ fndF P m d i ≤ i + d ∧ (fndF P m d i < i + d → P (fndF P m d i) = m) ∧ ∀ j, i ≤ j → j < fndF P m d i → P j ≠ m := by
  intro d
  induction d with
  | zero => intro i; exact ⟨Nat.le_refl _, Nat.le_refl _, fun h => absurd h (Nat.lt_irrefl _), fun j h1 h2 => by have : j < i := h2; omega⟩
  | succ d ih =>
    intro i
    by_cases h : P i = m
    · have e : fndF P m (d + 1) i = i := by unfold fndF; rw [if_pos h]
      rw [e]
      exact ⟨Nat.le_refl _, by omega, fun _ => h, fun j h1 h2 => by omega⟩
    · have e : fndF P m (d + 1) i = fndF P m d (i + 1) := by
        show (if P i = m then i else fndF P m d (i + 1)) = _
        rw [if_neg h]
      obtain ⟨a1, a2, a3, a4⟩ := ih (i + 1)
      rw [e]
      refine ⟨by omega, by omega, fun q => a3 (by omega), fun j h1 h2 => ?_⟩
      by_cases ej : j = i
      · rw [ej]; exact h
      · exact a4 j (by omega) h2
theorem fnd_spec {n : Nat} {P : Nat → Nat} {m : Nat} : fnd n P m ≤ n ∧ (fnd n P m < n → P (fnd n P m) = m) ∧ ∀ j, j < fnd n P m → P j ≠ m := by
  obtain ⟨-, a2, a3, a4⟩ := fndF_spec (P := P) (m := m) n 0
  rw [Nat.zero_add] at a2 a3
  exact ⟨a2, a3, fun j hj => a4 j (Nat.zero_le _) hj⟩
section MREACH
variable {G : Mem} {o : Nat} {x : Nat → Nat → Int32} {y : Nat → Nat → Int64} {c r : Nat} {b at' w : Nat} {P : Nat → Nat}
theorem reaches_ok (h : MSh G o) (hs : szs c r) (hz : MSz x o c r) (hb : RW G 1 b w) (hw : at' + c * r ≤ w) (hw2 : w ≤ 20000) (hP : MRow x b at' (c * r) P) (h11 : ∀ k, P k < 11) {f t : Nat} (hf : f < c * r) (ht : t < c * r) (h0 : 0 < P f) :
    fX7_reaches o b (nW at') (nW f) (nW t) (wIJ G x y) = some (bI (rch c P f t), wIJ G x y) := by
  have h36 := szs36 hs
  have c0 : 0 < c := by have := hs.1; omega
  have c7 := hs.2.1
  have r7 := hs.2.2.2
  have d1 : ∀ k, k < c * r → k % c < 8 ∧ k / c < 8 := fun k hk => ⟨by have := Nat.mod_lt k c0; omega, by have := Nat.div_lt_of_lt_mul (m := k) (n := c) (k := r) hk; omega⟩
  have q1 := d1 f hf
  have q2 := d1 t ht
  have fr := fun hne hl => isFree_ok (y := y) h hs hz hb hw hw2 hP h11 hf ht hne hl
  have eA : (if 0 ≤ (nW (f % c) - nW (t % c)) then (nW (f % c) - nW (t % c)) else 0 - (nW (f % c) - nW (t % c))) = nW (adx c f t) := abs_ok _ q1.1 _ q2.1
  have eB : (if 0 ≤ (nW (f / c) - nW (t / c)) then (nW (f / c) - nW (t / c)) else 0 - (nW (f / c) - nW (t / c))) = nW (ady c f t) := abs_ok _ q1.2 _ q2.2
  have a8 : adx c f t < 16 := by unfold adx; omega
  have b8 : ady c f t < 16 := by
    have u1 := q1.2
    have u2 := q2.2
    unfold ady
    clear q1 q2 d1 fr
    generalize f / c = u at *
    generalize t / c = v at *
    omega
  have ab : (adx c f t) * (ady c f t) < 256 := by
    have := Nat.mul_le_mul (show adx c f t ≤ 15 by omega) (show ady c f t ≤ 15 by omega)
    omega
  have hne : ¬ (adx c f t + ady c f t = 0) → f ≠ t := by
    intro hq e
    subst e
    apply hq
    unfold adx ady
    omega
  unfold fX7_reaches fX7_reaches_0
  simp only [gR_wij, h.g0, Option.bind_some]
  have s00 : gA (wIJ G x y) 1 (o + 1) (0 : Int32) = some (nW c) := by
    have := h.s0 (x := x) (y := y) (i := 0) (by decide)
    rw [hz.1] at this; exact this
  simp only [s00, Option.bind_some, dz_ok c0 (show c < 2147483648 by omega)]
  simp only [nW_rem (show f < 2147483648 by omega) (show c < 2147483648 by omega), nW_rem (show t < 2147483648 by omega) (show c < 2147483648 by omega)]
  simp only [nW_div (show f < 2147483648 by omega) (show c < 2147483648 by omega), nW_div (show t < 2147483648 by omega) (show c < 2147483648 by omega), eA, eB]
  have hval : gA (wIJ G x y) 1 b (nW at' + nW f) = some (nW (P f)) := by
    rw [nW_add, hb.rd (by omega) hw2, hP f hf]
  have h209 : f ≠ t → ((adx c f t = 0 ∨ ady c f t = 0) ∨ adx c f t = ady c f t) → fX7_reaches_209 o b (nW at') (nW f) (nW t) (wIJ G x y) = some (bI (clr P (btw c f t)), wIJ G x y) := by
    intro u1 u2
    unfold fX7_reaches_209 fX7_reaches_225 fX7_reaches_226
    rw [ck_wij, ck_ok h.t, fr u1 u2, Option.bind_some]
    cases clr P (btw c f t) <;> rfl
  have k5 : (P f - 1) % 5 < 5 := Nat.mod_lt _ (by decide)
  have r71 : ∀ (s : Bool), s = decide (adx c f t = 0 ∨ ady c f t = 0) → f ≠ t → fX7_reaches_71 o b (nW at') (nW f) (nW t) (nW (adx c f t)) (nW (ady c f t)) (bI s) (wIJ G x y) = some (bI (
      if (P f - 1) % 5 = 0 then decide (adx c f t ≤ 1) && decide (ady c f t ≤ 1)
      else if (P f - 1) % 5 = 4 then decide (adx c f t * ady c f t = 2)
      else if (P f - 1) % 5 = 2 then decide (adx c f t = 0 ∨ ady c f t = 0) && clr P (btw c f t)
      else if (P f - 1) % 5 = 3 then decide (adx c f t = ady c f t) && clr P (btw c f t)
      else decide ((adx c f t = 0 ∨ ady c f t = 0) ∨ adx c f t = ady c f t) && clr P (btw c f t)), wIJ G x y) := by
    intro s es u1
    unfold fX7_reaches_71
    rw [hval, Option.bind_some, kindOf_ok h0 (h11 f), Option.bind_some]
    simp only [lits]
    generalize hA : adx c f t = A at *
    generalize hB : ady c f t = B at *
    generalize hk : (P f - 1) % 5 = k at *
    have kk : k = 0 ∨ k = 1 ∨ k = 2 ∨ k = 3 ∨ k = 4 := by omega
    rcases kk with rfl | rfl | rfl | rfl | rfl
    · rw [if_pos (show nW 0 = nW 0 from rfl), if_pos (show (0 : Nat) = 0 from rfl)]
      unfold fX7_reaches_132 fX7_reaches_133
      by_cases g1 : 1 < A
      · rw [if_pos (by rw [nW_lt (by omega) (by omega)]; exact g1), decide_eq_false (show ¬ A ≤ 1 by omega)]; rfl
      · rw [if_neg (by rw [nW_lt (by omega) (by omega)]; exact g1), decide_eq_true (show A ≤ 1 by omega)]
        by_cases g2 : 1 < B
        · rw [if_pos (by rw [nW_lt (by omega) (by omega)]; exact g2), decide_eq_false (show ¬ B ≤ 1 by omega)]; rfl
        · rw [if_neg (by rw [nW_lt (by omega) (by omega)]; exact g2), decide_eq_true (show B ≤ 1 by omega)]; rfl
    · rw [if_neg (show ¬ nW 1 = nW 0 by decide), if_pos (show nW 1 = nW 1 from rfl), if_neg (show ¬ (1 : Nat) = 0 by decide), if_neg (show ¬ (1 : Nat) = 4 by decide), if_neg (show ¬ (1 : Nat) = 2 by decide), if_neg (show ¬ (1 : Nat) = 3 by decide)]
      by_cases g1 : A = 0 ∨ B = 0
      · rw [decide_eq_true g1] at es
        subst es
        rw [if_neg (by decide), h209 u1 (Or.inl g1), decide_eq_true (show (A = 0 ∨ B = 0) ∨ A = B from Or.inl g1), Bool.true_and]
      · rw [decide_eq_false g1] at es
        subst es
        rw [if_pos (by decide)]
        by_cases g2 : A = B
        · rw [if_pos (by rw [g2]), h209 u1 (Or.inr g2), decide_eq_true (show (A = 0 ∨ B = 0) ∨ A = B from Or.inr g2), Bool.true_and]
        · rw [if_neg (by rw [nW_eq (by omega) (by omega)]; exact g2), decide_eq_false (show ¬ ((A = 0 ∨ B = 0) ∨ A = B) from fun q => q.elim g1 g2), Bool.false_and]; rfl
    · rw [if_neg (show ¬ nW 2 = nW 0 by decide), if_neg (show ¬ nW 2 = nW 1 by decide), if_pos (show nW 2 = nW 2 from rfl), if_neg (show ¬ (2 : Nat) = 0 by decide), if_neg (show ¬ (2 : Nat) = 4 by decide), if_pos (show (2 : Nat) = 2 from rfl)]
      unfold fX7_reaches_170 fX7_reaches_171
      by_cases g1 : A = 0 ∨ B = 0
      · rw [decide_eq_true g1] at es
        subst es
        rw [if_neg (by decide), ck_wij, ck_ok h.t, fr u1 (Or.inl g1), Option.bind_some, decide_eq_true g1, Bool.true_and]
        cases clr P (btw c f t) <;> rfl
      · rw [decide_eq_false g1] at es
        subst es
        rw [if_pos (by decide), decide_eq_false g1, Bool.false_and]; rfl
    · rw [if_neg (show ¬ nW 3 = nW 0 by decide), if_neg (show ¬ nW 3 = nW 1 by decide), if_neg (show ¬ nW 3 = nW 2 by decide), if_pos (show nW 3 = nW 3 from rfl), if_neg (show ¬ (3 : Nat) = 0 by decide), if_neg (show ¬ (3 : Nat) = 4 by decide), if_neg (show ¬ (3 : Nat) = 2 by decide), if_pos (show (3 : Nat) = 3 from rfl)]
      unfold fX7_reaches_195 fX7_reaches_196
      by_cases g2 : A = B
      · rw [if_pos (by rw [g2]), ck_wij, ck_ok h.t, fr u1 (Or.inr g2), Option.bind_some, decide_eq_true g2, Bool.true_and]
        cases clr P (btw c f t) <;> rfl
      · rw [if_neg (by rw [nW_eq (by omega) (by omega)]; exact g2), decide_eq_false g2, Bool.false_and]; rfl
    · rw [if_neg (show ¬ nW 4 = nW 0 by decide), if_neg (show ¬ nW 4 = nW 1 by decide), if_neg (show ¬ nW 4 = nW 2 by decide), if_neg (show ¬ nW 4 = nW 3 by decide), if_pos (show nW 4 = nW 4 from rfl), if_neg (show ¬ (4 : Nat) = 0 by decide), if_pos (show (4 : Nat) = 4 from rfl)]
      unfold fX7_reaches_148
      rw [nW_mul]
      by_cases g1 : A * B = 2
      · rw [if_pos (by rw [g1]), decide_eq_true g1]; rfl
      · rw [if_neg (by rw [nW_eq (by omega) (by decide)]; exact g1), decide_eq_false g1]; rfl
  unfold rch
  rw [nW_add]
  by_cases hz0 : adx c f t + ady c f t = 0
  · rw [if_pos (by rw [hz0]; rfl), if_pos hz0]; rfl
  · rw [if_neg (by simp only [lits]; rw [nW_eq (by omega) (by decide)]; exact hz0), if_neg hz0]
    by_cases g1 : adx c f t = 0
    · rw [if_pos (by rw [g1]; rfl)]
      exact r71 true (decide_eq_true (Or.inl g1)).symm (hne hz0)
    · rw [if_neg (by simp only [lits]; rw [nW_eq (by omega) (by decide)]; exact g1)]
      by_cases g2 : ady c f t = 0
      · rw [if_pos (by rw [g2]; rfl)]
        exact r71 true (decide_eq_true (Or.inr g2)).symm (hne hz0)
      · rw [if_neg (by simp only [lits]; rw [nW_eq (by omega) (by decide)]; exact g2)]
        exact r71 false (decide_eq_false (fun q => q.elim g1 g2)).symm (hne hz0)
theorem attacks_ok (h : MSh G o) (hs : szs c r) (hz : MSz x o c r) (hb : RW G 1 b w) (hw : at' + c * r ≤ w) (hw2 : w ≤ 20000) (hP : MRow x b at' (c * r) P) (h11 : ∀ k, P k < 11) {t col : Nat} (ht : t < c * r) (hcol : col < 2) :
    fX7_attacks o b (nW at') (nW col) (nW t) (wIJ G x y) = some (bI (att c (c * r) P t col), wIJ G x y) := by
  have h36 := szs36 hs
  unfold fX7_attacks fX7_attacks_0
  simp only [lits]
  have hq := loop_find (f := fun (s : Int32) G => fX7_attacks_3 o b (nW at') (nW col) (nW t) s G) (n := c * r) (Pp := fun k => own (P k) col = true ∧ rch c P k t = true) (G := wIJ G x y) (G2 := wIJ G x y) (r1 := nW 1) (r2 := nW 0)
    (fun k hk hp => by
      show fX7_attacks_3 _ _ _ _ _ _ _ = _
      unfold fX7_attacks_3 fX7_attacks_38
      rw [ck_wij, ck_ok h.t, squareMany_ok h hz, Option.bind_some, if_neg (by rw [nW_le (by omega) (by omega)]; omega), nW_add, hb.rd (by omega) hw2, hP k hk, Option.bind_some, isOf_ok (h11 k) hcol, Option.bind_some, hp.1, if_neg (show ¬ bI true = (0 : Int32) from bIt0), ck_wij, ck_ok h.t, reaches_ok h hs hz hb hw hw2 hP h11 hk ht (own_iff.mp hp.1).1, Option.bind_some, hp.2, if_neg (show ¬ bI true = (0 : Int32) from bIt0)]
      rfl)
    (fun k hk hp => by
      show fX7_attacks_3 _ _ _ _ _ _ _ = _
      unfold fX7_attacks_3 fX7_attacks_40
      simp only [lits]
      rw [ck_wij, ck_ok h.t, squareMany_ok h hz, Option.bind_some, if_neg (by rw [nW_le (by omega) (by omega)]; omega), nW_add, hb.rd (by omega) hw2, hP k hk, Option.bind_some, isOf_ok (h11 k) hcol, Option.bind_some]
      by_cases ho : own (P k) col = true
      · have hr : rch c P k t = false := by
          cases hb : rch c P k t with
          | false => rfl
          | true => exact absurd ⟨ho, hb⟩ hp
        rw [ho, if_neg (show ¬ bI true = nW 0 from bIt0), ck_wij, ck_ok h.t, reaches_ok h hs hz hb hw hw2 hP h11 hk ht (own_iff.mp ho).1, Option.bind_some, hr, if_pos (show bI false = nW 0 from rfl), nW_add]
      · rw [show own (P k) col = false by simpa using ho, if_pos (show bI false = nW 0 from rfl), nW_add])
    (fun _ => by
      show fX7_attacks_3 _ _ _ _ _ _ _ = _
      unfold fX7_attacks_3 fX7_attacks_46
      rw [ck_wij, ck_ok h.t, squareMany_ok h hz, Option.bind_some, if_pos (by rw [nW_le (by omega) (by omega)]; omega)]
      rfl) (c * r) 0 FU (by omega) (by show c * r < 100000; omega) (fun j hj => absurd hj (Nat.not_lt_zero _))
  rcases hq with ⟨⟨k, k1, k2⟩, e⟩ | ⟨k, e⟩
  · rw [e]
    have : att c (c * r) P t col = true := att_iff.mpr ⟨k, k1, own_iff.mp k2.1, k2.2⟩
    rw [this]; rfl
  · rw [e]
    have : att c (c * r) P t col = false := by
      cases hb : att c (c * r) P t col with
      | false => rfl
      | true =>
        obtain ⟨k', k1, k2, k3⟩ := att_iff.mp hb
        exact absurd ⟨own_iff.mpr k2, k3⟩ (k k' k1)
    rw [this]; rfl
theorem kingOf_ok (h : MSh G o) (hs : szs c r) (hz : MSz x o c r) (hb : RW G 1 b w) (hw : at' + c * r ≤ w) (hw2 : w ≤ 20000) (hP : MRow x b at' (c * r) P) (h11 : ∀ k, P k < 11) {col : Nat} (hcol : col < 2) :
    fX7_kingOf o b (nW at') (nW col) (wIJ G x y) = some (if fnd (c * r) P (kgc col) < c * r then nW (fnd (c * r) P (kgc col)) else -nW 1, wIJ G x y) := by
  have h36 := szs36 hs
  obtain ⟨f1, f2, f3⟩ := fnd_spec (n := c * r) (P := P) (m := kgc col)
  have hk11 : kgc col < 11 := by unfold kgc; omega
  have step : ∀ k, k < c * r → fX7_kingOf_3 o b (nW at') (nW col) (nW k) (wIJ G x y) = if P k = kgc col then some (Sum.inr (nW k), wIJ G x y) else some (Sum.inl (nW (k + 1)), wIJ G x y) := fun k hk => by
    unfold fX7_kingOf_3 fX7_kingOf_26 fX7_pieceOf fX7_pieceOf_0
    simp only [lits]
    rw [ck_wij, ck_ok h.t, squareMany_ok h hz, Option.bind_some, if_neg (by rw [nW_le (by omega) (by omega)]; omega), nW_add, hb.rd (by omega) hw2, hP k hk, Option.bind_some, Option.bind_some, nW_mul, nW_add, nW_add]
    have e : 1 + 5 * col + 0 = kgc col := rfl
    rw [e]
    have := h11 k
    by_cases hq : P k = kgc col
    · rw [if_pos (by rw [hq]), if_pos hq]; rfl
    · rw [if_neg (by rw [nW_eq (by omega) (by omega)]; exact hq), if_neg hq, nW_add]
  unfold fX7_kingOf fX7_kingOf_0
  simp only [lits]
  by_cases hlt : fnd (c * r) P (kgc col) < c * r
  · rw [if_pos hlt]
    exact loop_to (f := fun (s : Int32) G => fX7_kingOf_3 o b (nW at') (nW col) s G) (fun i => nW i) (fun _ => wIJ G x y) (fnd (c * r) P (kgc col)) _ _ (fun i hi => by
      show fX7_kingOf_3 _ _ _ _ _ _ = _
      rw [step i (by omega), if_neg (f3 i hi)]) (by
      show fX7_kingOf_3 _ _ _ _ _ _ = _
      rw [step _ hlt, if_pos (f2 hlt)]) (fnd (c * r) P (kgc col)) 0 FU (by omega) (by show _ < 100000; omega)
  · have e : fnd (c * r) P (kgc col) = c * r := by omega
    rw [if_neg hlt]
    exact loop_to (f := fun (s : Int32) G => fX7_kingOf_3 o b (nW at') (nW col) s G) (fun i => nW i) (fun _ => wIJ G x y) (c * r) _ _ (fun i hi => by
      show fX7_kingOf_3 _ _ _ _ _ _ = _
      rw [step i hi, if_neg (f3 i (by omega))]) (by
      show fX7_kingOf_3 _ _ _ _ _ _ = _
      unfold fX7_kingOf_3 fX7_kingOf_35
      rw [ck_wij, ck_ok h.t, squareMany_ok h hz, Option.bind_some, if_pos (by rw [nW_le (by omega) (by omega)]; omega)]
      rfl) (c * r) 0 FU (by omega) (by show c * r < 100000; omega)
end MREACH
