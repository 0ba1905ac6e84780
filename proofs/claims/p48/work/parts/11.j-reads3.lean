/-! ===== pieces' games, consistency, output and input of the class ===== -/
/-- the letter of a piece -/
def ltr (m : Nat) : Nat := [46, 75, 81, 82, 66, 78, 107, 113, 114, 98, 110].getD m 46
/-- the byte at i of the picture of a position -/
def picB (c r : Nat) (P : Nat → Nat) (i : Nat) : Nat := if i % (c + 1) = c then 10 else ltr (P ((r - 1 - i / (c + 1)) * c + i % (c + 1)))
def oWrite (W : WSt) (p : Int32) : (Int32 ⊕ Nat) × WSt := match ixZ p (pcA W.1) with
  | none => (.inr 2, W)
  | some i => (.inl (nW ((W.1.1 + 1) * W.1.2.1 - 1)), (W.1, W.2.1, W.2.2.1, W.2.2.2.1, W.2.2.2.2.1, (picB W.1.1 W.1.2.1 (lyp (lyA W.1) i), (W.1.1 + 1) * W.1.2.1 - 1)))
def oByte (W : WSt) (z : Int32) : Int32 × WSt := (match ixZ z W.2.2.2.2.2.2 with | none => -nW 1 | some i => nW (W.2.2.2.2.2.1 i), W)
def oTrunc (W : WSt) (z : Int32) : (Int32 ⊕ Nat) × WSt := match ixZ z (W.2.2.2.1.2 + 1) with
  | none => (.inr 0, W)
  | some j => (.inl (nW j), (W.1, W.2.1, W.2.2.1, (W.2.2.2.1.1, j), W.2.2.2.2))
theorem ltr_lt : ∀ m, m < 11 → ltr m < 128 := by decide
theorem byte_keep : ∀ k, k < 128 → (nW k).toInt8.toInt32 = nW k := by decide +kernel
section CREADS3
variable {G : Mem} {ro l K : Nat → Nat} {W : WSt} {d : Nat}
theorem ctrunc_ok (hC : CI G (d + 1) W) {z : Int32} : COut G (d + 1) (fX6_truncateInput 0 z G) (oTrunc W z) := by
  obtain ⟨ro, l, K, h1, h2, h3⟩ := id hC
  obtain ⟨-, -, -, -, t1, o1, -⟩ := id h3
  have hL := t1.1.1
  have g2 : gF G 15 2 0 = some (nW W.2.2.2.1.2) := by
    have : gF G 15 2 0 = some (mI G 2 0) := if_pos h1.ps.2.1.1
    rw [this, t1.1.2.1]
  unfold fX6_truncateInput fX6_truncateInput_0 fX6_truncateInput_20 oTrunc
  simp only [lits]
  rw [h1.f0, Option.bind_some, h1.ps.g0, Option.bind_some]
  rcases ixZ_spec (z := z) (show W.2.2.2.1.2 + 1 < 2147483648 by omega) with ⟨j, e1, e2, e3, e4, e5⟩ | ⟨e1, e2, -⟩
  · subst e3
    have pi1 : pI G 15 2 0 (nW j) = some (wIJ G (u2 (mI G) 2 0 (nW j)) (mJ G)) := by
      have := pI_wij (x := mI G) (y := mJ G) h1.ps.2.1.1 (k := 0) (v := nW j)
      rw [wij_self] at this; exact this
    rw [e1, if_neg e4, g2, Option.bind_some, if_pos ((nW_le (by omega) (by omega)).mpr (by omega)), pi1, Option.bind_some]
    refine ⟨_, rfl, ⟨ro, l, K, h1, h2, h3.soft h1 (fun b hb => ⟨u2_arow (by omega), rfl⟩) ⟨u2_apart (by decide), u2_apart (by decide)⟩ (u2_arow (by decide)) rfl rfl rfl rfl ⟨⟨by show j ≤ 600; omega, u2_same, fun i hi => ?_⟩, by rw [u2_apart (by decide)]; exact t1.2.1, by rw [u2_apart (by decide)]; exact t1.2.2⟩ (by rw [u2_arow (by decide), u2_arow (by decide)]; exact o1)⟩, RKp.wij (fun b q1 q2 => ⟨u2_arow (by omega), rfl⟩)⟩
    show W.2.2.2.1.1 i < 256 ∧ u2 (mI G) 2 0 (nW j) 3 i &&& nW 255 = nW (W.2.2.2.1.1 i)
    rw [u2_apart (by decide)]
    have hi : i < j := hi
    exact t1.1.2.2 i (by omega)
  · rw [e1]
    rcases e2 with e2 | e2
    · rw [if_pos e2, h2.thw]; exact COut.same hC
    · have : ¬ z ≤ nW W.2.2.2.1.2 := by
        have := e2.2
        rw [Int32.lt_iff_toInt_lt, nW_int (by omega)] at this
        rw [Int32.le_iff_toInt_le, nW_int (by omega)]; omega
      rw [if_neg e2.1, g2, Option.bind_some, if_neg this, h2.thw]; exact COut.same hC
theorem picB_lt {c r : Nat} {P : Nat → Nat} (h : ∀ k, P k < 11) (i : Nat) : picB c r P i < 128 := by
  unfold picB
  split
  · decide
  · exact ltr_lt _ (h _)
end CREADS3
