/-! ===== the check of games: the positions ===== -/
section LCALL2
variable {G : Mem} {d : Nat} {W : WSt} {c1 c2 : Nat}
theorem key_at {A : ASt} (h : AAOK A) {i j : Nat} (hi : i < mN A) (hj : j < (oMoves A i).length) : keyZ A (nW i) (nW j) = some (i, (oMoves A i).getD j 0) := by
  have hm := (aok_sz h).2.2
  have hl := (mov_len h hi).2
  unfold keyZ
  rw [ixZ_nW hi (by omega)]
  show (match ixZ (nW j) (oMoves A i).length with | none => none | some j => some (i, (oMoves A i).getD j 0)) = _
  rw [ixZ_nW hj (by omega)]
theorem key_no {A : ASt} (h : AAOK A) {i : Nat} (hi : i < mN A) : keyZ A (nW i) (nW (oMoves A i).length) = none := by
  have hm := (aok_sz h).2.2
  have hl := (mov_len h hi).2
  unfold keyZ
  rw [ixZ_nW hi (by omega)]
  have : ixZ (nW (oMoves A i).length) (oMoves A i).length = none := by
    unfold ixZ
    rw [nW_int (by omega), if_neg (by omega)]
  show (match ixZ (nW (oMoves A i).length) (oMoves A i).length with | none => none | some j => some (i, (oMoves A i).getD j 0)) = _
  rw [this]
theorem wp_orig (hC : CI G (d + 1) W) {i j : Nat} (hi : i < mN W.1) (hj : j < (oMoves W.1 i).length) {K : Int32 → Mem → Prop} (hK : ∀ G', CI G' (d + 1) W → K (nW ((oMoves W.1 i).getD j 0 / 64)) G') : wpL (fL_moveOrigin 0 (nW i) (nW j) G) hsL_moveOrigin c1 c2 K := by
  refine wp_in ?_ (corigin_ok hC) hC.ct hK
  unfold oOrig
  rw [key_at hC.aok hi hj]
theorem wp_targ (hC : CI G (d + 1) W) {i j : Nat} (hi : i < mN W.1) (hj : j < (oMoves W.1 i).length) {K : Int32 → Mem → Prop} (hK : ∀ G', CI G' (d + 1) W → K (nW ((oMoves W.1 i).getD j 0 % 64)) G') : wpL (fL_moveTarget 0 (nW i) (nW j) G) hsL_moveTarget c1 c2 K := by
  refine wp_in ?_ (ctarget_ok hC) hC.ct hK
  unfold oTarg
  rw [key_at hC.aok hi hj]
theorem wp_with (hC : CI G (d + 1) W) {i j : Nat} (hi : i < mN W.1) (hj : j < (oMoves W.1 i).length) {K : Int64 → Mem → Prop} (hK : ∀ G', CI G' (d + 1) W → K (Int64.ofNat (gmI W.1 i ((oMoves W.1 i).getD j 0))) G') : wpL (fL_gamesWithMove 0 (nW i) (nW j) G) hsL_gamesWithMove c1 c2 K := by
  refine wp_in ?_ (cwith_ok hC) hC.ct hK
  unfold oWith
  rw [key_at hC.aok hi hj]
theorem wp_origx (hC : CI G (d + 1) W) {i : Nat} (hi : i < mN W.1) {K : Int32 → Mem → Prop} (hK : ∀ G', CI G' d W → K (-17) G') : wpL (fL_moveOrigin 0 (nW i) (nW (oMoves W.1 i).length) G) hsL_moveOrigin 600073 7301549 K := by
  refine wp_ex (k := 2) (W' := W) ?_ (corigin_ok hC) hC.ct (by decide) hK
  unfold oOrig
  rw [key_no hC.aok hi]
end LCALL2
/-! the kings of a position -/
def kst (c : Nat) (P : Nat → Nat) (m1 m2 : Nat) : Nat → Nat × Nat × Nat
  | 0 => (0, 0, 0)
  | q + 1 => if P q = m1 then ((kst c P m1 m2 q).1 + 1, q % c, q / c) else if P q = m2 then ((kst c P m1 m2 q).1 + 1, (kst c P m1 m2 q).2) else kst c P m1 m2 q
theorem kst_spec {c m1 m2 a b : Nat} {P : Nat → Nat} (hm : m1 ≠ m2) (ha : P a = m1) (ua : ∀ j, P j = m1 → j = a) (hb : P b = m2) (ub : ∀ j, P j = m2 → j = b) : ∀ q, kst c P m1 m2 q = ((if a < q then 1 else 0) + (if b < q then 1 else 0), if a < q then (a % c, a / c) else (0, 0)) := by
  intro q
  induction q with
  | zero => rfl
  | succ q ih =>
    show (if P q = m1 then ((kst c P m1 m2 q).1 + 1, q % c, q / c) else if P q = m2 then ((kst c P m1 m2 q).1 + 1, (kst c P m1 m2 q).2) else kst c P m1 m2 q) = _
    rw [ih]
    by_cases h1 : P q = m1
    · have e := ua q h1
      subst e
      have nb : q ≠ b := fun z => hm (by rw [← ha, z, hb])
      rw [if_pos h1, if_neg (Nat.lt_irrefl q), if_pos (Nat.lt_succ_self q), if_pos (Nat.lt_succ_self q)]
      by_cases h2 : b < q
      · rw [if_pos h2, if_pos (show b < q + 1 by omega)]
      · rw [if_neg h2, if_neg (show ¬ b < q + 1 by omega)]
    · have na : q ≠ a := fun z => h1 (by rw [z]; exact ha)
      rw [if_neg h1]
      by_cases h2 : P q = m2
      · have e := ub q h2
        subst e
        rw [if_pos h2, if_neg (Nat.lt_irrefl q), if_pos (Nat.lt_succ_self q)]
        by_cases h3 : a < q
        · rw [if_pos h3, if_pos h3, if_pos (show a < q + 1 by omega), if_pos (show a < q + 1 by omega)]
        · rw [if_neg h3, if_neg h3, if_neg (show ¬ a < q + 1 by omega), if_neg (show ¬ a < q + 1 by omega)]
      · have nb : q ≠ b := fun z => h2 (by rw [z]; exact hb)
        rw [if_neg h2]
        have t1 : (a < q + 1) = (a < q) := propext (by omega)
        have t2 : (b < q + 1) = (b < q) := propext (by omega)
        simp only [t1, t2]
theorem kst_all {c n col : Nat} {P : Nat → Nat} (h : WFP n P) (hcol : col < 2) : ∃ a, a < n ∧ P a = kgc col ∧ fnd n P (kgc col) = a ∧ kst c P (kgc col) (kgc (1 - col)) n = (2, a % c, a / c) := by
  obtain ⟨-, -, ⟨k1, a1, a2, a3⟩, ⟨k2, b1, b2, b3⟩, -⟩ := h
  have two : ∀ {m1 m2 a b : Nat}, m1 ≠ m2 → a < n → P a = m1 → (∀ j, P j = m1 → j = a) → b < n → P b = m2 → (∀ j, P j = m2 → j = b) → fnd n P m1 = a ∧ kst c P m1 m2 n = (2, a % c, a / c) := by
    intro m1 m2 a b hm ha e ua hb e2 ub
    obtain ⟨f1, f2, f3⟩ := fnd_spec (n := n) (P := P) (m := m1)
    constructor
    · by_cases q : fnd n P m1 < n
      · exact ua _ (f2 q)
      · exact absurd e (f3 a (by omega))
    · rw [kst_spec hm e ua e2 ub n, if_pos ha, if_pos hb, if_pos ha]
  rcases (show col = 0 ∨ col = 1 by omega) with rfl | rfl
  · obtain ⟨t1, t2⟩ := two (m1 := 1) (m2 := 6) (by decide) a1 a2 a3 b1 b2 b3
    exact ⟨k1, a1, a2, t1, t2⟩
  · obtain ⟨t1, t2⟩ := two (m1 := 6) (m2 := 1) (by decide) b1 b2 b3 a1 a2 a3
    exact ⟨k2, b1, b2, t1, t2⟩
theorem kst_le {c m1 m2 : Nat} {P : Nat → Nat} : ∀ q, (kst c P m1 m2 q).1 ≤ q ∧ (kst c P m1 m2 q).2.1 ≤ q ∧ (kst c P m1 m2 q).2.2 ≤ q := by
  intro q
  induction q with
  | zero => exact ⟨Nat.le_refl _, Nat.le_refl _, Nat.le_refl _⟩
  | succ q ih =>
    show (if P q = m1 then _ else if P q = m2 then _ else _ : Nat × Nat × Nat).1 ≤ q + 1 ∧ (if P q = m1 then _ else if P q = m2 then _ else _ : Nat × Nat × Nat).2.1 ≤ q + 1 ∧ (if P q = m1 then _ else if P q = m2 then _ else _ : Nat × Nat × Nat).2.2 ≤ q + 1
    have d1 := Nat.mod_le q c
    have d2 := Nat.div_le_self q c
    by_cases h1 : P q = m1
    · rw [if_pos h1]; exact ⟨by dsimp only; omega, by dsimp only; omega, by dsimp only; omega⟩
    · rw [if_neg h1]
      by_cases h2 : P q = m2
      · rw [if_pos h2]; exact ⟨by dsimp only; omega, by dsimp only; omega, by dsimp only; omega⟩
      · rw [if_neg h2]; omega
/-- kind and colour, as numbers -/
theorem pk_all : (allN 11 fun m => (decide (m = 0) == decide (pkd m = -1)) && ((decide (m = 0) == decide (pcl m = -1)) && ((decide (m = 1) || decide (m = 6)) == decide (pkd m = 0)))) = true := by decide +kernel
theorem pk_at {m : Nat} (hm : m < 11) : (pkd m = -1 ↔ m = 0) ∧ (pcl m = -1 ↔ m = 0) ∧ (pkd m = 0 ↔ (m = 1 ∨ m = 6)) := by
  have h := allN_at pk_all m hm
  rw [Bool.and_eq_true, Bool.and_eq_true] at h
  obtain ⟨h1, h2, h3⟩ := h
  have h1 := eq_of_beq h1
  have h2 := eq_of_beq h2
  have h3 := eq_of_beq h3
  refine ⟨?_, ?_, ?_⟩
  · rw [decide_eq_decide] at h1; exact h1.symm
  · rw [decide_eq_decide] at h2; exact h2.symm
  · constructor
    · intro h
      have a := h3.trans (decide_eq_true h)
      rw [Bool.or_eq_true] at a
      exact a.imp of_decide_eq_true of_decide_eq_true
    · intro h
      refine of_decide_eq_true (h3.symm.trans ?_)
      rw [Bool.or_eq_true]
      exact h.imp decide_eq_true decide_eq_true
theorem pcl_king {col : Nat} (hc : col < 2) : pcl (kgc col) = nW col := by
  rcases (show col = 0 ∨ col = 1 by omega) with rfl | rfl <;> decide
