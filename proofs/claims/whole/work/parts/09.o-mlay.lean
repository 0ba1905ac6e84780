/-! ===== the reference: a note is laid; states are kept ===== -/
def ntF (kind fx tx ty tk ck : Int32) : Nat → Int32 := fun j => match j with
  | 0 => kind
  | 1 => fx
  | 2 => -1
  | 3 => tx
  | 4 => ty
  | 5 => tk
  | _ => ck
def b01 (v : Int32) : Int32 := if v = 0 then 0 else 1
theorem b01_01 (v : Int32) : b01 v = 0 ∨ b01 v = 1 := by
  unfold b01
  split
  · exact Or.inl rfl
  · exact Or.inr rfl
section MLAYN
variable {G : Mem} {o : Nat} {c r m : Nat} {N : Nat → Nat → Int32} {P0 : Nat → Nat} {x : Nat → Nat → Int32} {y : Nat → Nat → Int64}
theorem lay_ok (h : MSh G o) (hm : m < 10) (kind fx tx ty tk ck : Int32) : ∃ x', fX7_lay o (nW m) kind fx tx ty tk ck (wIJ G x y) = some ((), wIJ G x' y) ∧ (∀ b j, ¬ (b = o + 1 ∧ 39 + 7 * m ≤ j ∧ j < 46 + 7 * m) → x' b j = x b j) ∧ MNt x' o m (ntF kind fx tx ty (b01 tk) (b01 ck)) := by
  refine ⟨u2 (u2 (u2 (u2 (u2 (u2 (u2 x (o + 1) (39 + 7 * m + 0) kind) (o + 1) (39 + 7 * m + 1) fx) (o + 1) (39 + 7 * m + 2) (-1)) (o + 1) (39 + 7 * m + 3) tx) (o + 1) (39 + 7 * m + 4) ty) (o + 1) (39 + 7 * m + 5) (b01 tk)) (o + 1) (39 + 7 * m + 6) (b01 ck), ?_, fun b j hb => ?_, fun j hj => ?_⟩
  · have e79 : ∀ (a9 : Nat) (i9 v : Int32) (G1 : Mem), fX7_lay_79 o ck (nW (39 + 7 * m)) a9 i9 v G1 = ((pA G1 a9 i9 v).bind fun G2 => (gR G2 17 o 0).bind fun v2 => (pA G2 v2 (nW (39 + 7 * m) + nW 6) (b01 ck)).bind fun G3 => some ((), G3)) := by
      intro a9 i9 v G1
      unfold fX7_lay_79 fX7_lay_99 b01
      simp only [lits]
      by_cases hc : ck = nW 0
      · simp only [if_pos hc]
      · simp only [if_neg hc]
    unfold fX7_lay fX7_lay_0
    simp only [lits, nW_mul, nW_add]
    simp only [e79]
    rw [gR_wij, h.g0, Option.bind_some, h.r0.wr (by omega) (by decide), Option.bind_some, gR_wij, h.g0, Option.bind_some, h.r0.wr (by omega) (by decide), Option.bind_some, gR_wij, h.g0, Option.bind_some, h.r0.wr (by omega) (by decide), Option.bind_some, gR_wij, h.g0, Option.bind_some, h.r0.wr (by omega) (by decide), Option.bind_some, gR_wij, h.g0, Option.bind_some, h.r0.wr (by omega) (by decide), Option.bind_some, gR_wij, h.g0, Option.bind_some]
    by_cases ht : tk = nW 0
    · rw [if_pos ht, h.r0.wr (by omega) (by decide), Option.bind_some, gR_wij, h.g0, Option.bind_some, nW_add, h.r0.wr (by omega) (by decide), Option.bind_some]
      have : b01 tk = nW 0 := if_pos ht
      rw [this]
    · rw [if_neg ht, h.r0.wr (by omega) (by decide), Option.bind_some, gR_wij, h.g0, Option.bind_some, nW_add, h.r0.wr (by omega) (by decide), Option.bind_some]
      have : b01 tk = nW 1 := if_neg ht
      rw [this]
  · rw [u2_other (by omega), u2_other (by omega), u2_other (by omega), u2_other (by omega), u2_other (by omega), u2_other (by omega), u2_other (by omega)]
  · have : j = 0 ∨ j = 1 ∨ j = 2 ∨ j = 3 ∨ j = 4 ∨ j = 5 ∨ j = 6 := by omega
    rcases this with e | e | e | e | e | e | e <;> subst e
    · rw [u2_other (by omega), u2_other (by omega), u2_other (by omega), u2_other (by omega), u2_other (by omega), u2_other (by omega), u2_same]; rfl
    · rw [u2_other (by omega), u2_other (by omega), u2_other (by omega), u2_other (by omega), u2_other (by omega), u2_same]; rfl
    · rw [u2_other (by omega), u2_other (by omega), u2_other (by omega), u2_other (by omega), u2_same]; rfl
    · rw [u2_other (by omega), u2_other (by omega), u2_other (by omega), u2_same]; rfl
    · rw [u2_other (by omega), u2_other (by omega), u2_same]; rfl
    · rw [u2_other (by omega), u2_same]; rfl
    · rw [u2_same]; rfl
/-- a note laid behind the others leaves the state as it is -/
theorem MRep.lay (hR : MRep x y o c r N P0 m) {x' : Nat → Nat → Int32} (hx : ∀ b j, ¬ (b = o + 1 ∧ 39 + 7 * m ≤ j ∧ j < 46 + 7 * m) → x' b j = x b j) : MRep x' y o c r N P0 m := by
  obtain ⟨⟨⟨h0, h1⟩, h2, h3, h4⟩, h5, h6⟩ := hR
  have ro : ∀ b, b ≠ o + 1 → x' b = x b := fun b hb => funext fun j => hx b j (fun q => hb q.1)
  refine ⟨⟨⟨?_, ?_⟩, ?_, fun q hq => ?_, fun i hi j hj => ?_⟩, h5.same (ro _ (by omega)) (ro _ (by omega)) (ro _ (by omega)) (ro _ (by omega)) rfl, h6⟩
  · rw [hx _ _ (by omega)]; exact h0
  · rw [hx _ _ (by omega)]; exact h1
  · rw [hx _ _ (by omega)]; exact h2
  · rw [hx _ _ (by omega)]; exact h3 q hq
  · rw [hx _ _ (by omega)]; exact h4 i hi j hj
end MLAYN
