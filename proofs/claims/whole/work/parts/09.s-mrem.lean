/-! ===== the reference remembers states ===== -/
abbrev ASt : Type := Nat × Nat × (Nat → Nat → Int32) × (Nat → Nat) × Nat
def as0 : ASt := (0, 0, fun _ _ => 0, fun _ => 0, 0)
abbrev MKa (x : Nat → Nat → Int32) (b at' : Nat) (A : ASt) : Prop := MKp x b at' A.1 A.2.1 A.2.2.1 A.2.2.2.1 A.2.2.2.2
def KRep (x : Nat → Nat → Int32) (o : Nat) (l : List ASt) : Prop := (x o 5 = nW l.length ∧ l.length ≤ 8) ∧ ∀ j, j < l.length → MKa x (o + 2) (j * 109) (l.getD j as0) ∧ (l.getD j as0).2.2.2.2 ≤ 10
/-- the history with one more, the oldest dropped where there are eight -/
def rem8 (l : List ASt) (A : ASt) : List ASt := if l.length = 8 then l.tail ++ [A] else l ++ [A]
section MREM
variable {G : Mem} {o : Nat} {x : Nat → Nat → Int32} {y : Nat → Nat → Int64}
theorem MSh.g1 (h : MSh G o) : gR G 17 o 1 = some (o + 2) := gR_ok h.1.1 h.1.2.2.1
theorem MSh.r1 (h : MSh G o) : RW G 1 (o + 2) 872 := h.2.2.1
theorem rem36_ok (h : MSh G o) {a : Nat} (ha : RW G 1 a 109) (ha2 : a ≠ o + 2) {A : ASt} (hA : MKa x a 0 A) (hAm : A.2.2.2.2 ≤ 10) {l : List ASt} (hl : l.length < 8) (hK : KRep x o l) :
    ∃ x', fX7_remember_36 o a (wIJ G x y) = some ((), wIJ G x' y) ∧ (∀ b, b ≠ o → b ≠ o + 2 → x' b = x b) ∧ (∀ j, j ≠ 5 → x' o j = x o j) ∧ KRep x' o (l ++ [A]) := by
  obtain ⟨⟨k1, k2⟩, k3⟩ := hK
  obtain ⟨c1, c2⟩ := copyRow_ok (x := x) (y := y) ha h.r1 (p := 0) (q := l.length * 109) (by omega) (by omega) ⟨by decide, by decide⟩
  refine ⟨u2 (ur x (o + 2) (va_cpy (x a) (x (o + 2)) 0 (l.length * 109) 109)) o 5 (nW (l.length + 1)), ?_, fun b q1 q2 => by rw [u2_arow q1, ur_arow q2], fun j hj => by rw [u2_other (fun q => hj q.2), ur_apart (by omega)], ⟨?_, ?_⟩, fun j hj => ?_⟩
  · unfold fX7_remember_36
    simp only [lits]
    rw [gR_wij, h.g1, Option.bind_some, gF_wij h.t, k1, Option.bind_some, nW_mul, c1, Option.bind_some, gF_wij h.t, ur_apart (by omega), k1, Option.bind_some, nW_add, pI_wij h.t]
    rfl
  · rw [u2_same, List.length_append]; rfl
  · rw [List.length_append]; show l.length + 1 ≤ 8; omega
  · rw [List.length_append] at hj
    have hj : j < l.length + 1 := hj
    by_cases e : j = l.length
    · have g : (l ++ [A]).getD j as0 = A := by
        rw [e, List.getD_eq_getElem?_getD, List.getElem?_append_right (Nat.le_refl _), Nat.sub_self]; rfl
      rw [g]
      refine ⟨hA.move hAm (fun k hk => ?_), hAm⟩
      rw [u2_apart (by omega), e]; exact c2 k hk
    · have hj2 : j < l.length := by omega
      have g : (l ++ [A]).getD j as0 = l.getD j as0 := by
        rw [List.getD_eq_getElem?_getD, List.getD_eq_getElem?_getD, List.getElem?_append_left hj2]
      rw [g]
      obtain ⟨q1, q2⟩ := k3 j hj2
      refine ⟨q1.move q2 (fun k hk => ?_), q2⟩
      rw [u2_apart (by omega), ur_same, cpy_out (by omega)]
theorem remember_ok (h : MSh G o) {a : Nat} (ha : RW G 1 a 109) (ha2 : a ≠ o + 2) (ha3 : a ≠ o) {A : ASt} (hA : MKa x a 0 A) (hAm : A.2.2.2.2 ≤ 10) {l : List ASt} (hK : KRep x o l) :
    ∃ x', fX7_remember o a (wIJ G x y) = some ((), wIJ G x' y) ∧ (∀ b, b ≠ o → b ≠ o + 2 → x' b = x b) ∧ (∀ j, j ≠ 5 → x' o j = x o j) ∧ KRep x' o (rem8 l A) := by
  obtain ⟨⟨k1, k2⟩, k3⟩ := id hK
  unfold fX7_remember fX7_remember_0 rem8
  simp only [lits]
  rw [gF_wij h.t, k1, Option.bind_some]
  by_cases h8 : l.length = 8
  · rw [if_pos (by rw [h8]), if_pos h8, gR_wij, h.g1, Option.bind_some, Option.bind_some, cpI_wij h.r1.1 h.r1.1 (by rw [h.r1.2]; decide) (by rw [h.r1.2]; decide) (by decide), Option.bind_some, gF_wij h.t, ur_apart (by omega), k1, h8, Option.bind_some, nW_sub (by decide), pI_wij h.t, Option.bind_some]
    generalize hx1 : u2 (ur x (o + 2) (va_cpy (x (o + 2)) (x (o + 2)) 109 0 763)) o 5 (nW (8 - 1)) = x1
    have x1o : ∀ b, b ≠ o → b ≠ o + 2 → x1 b = x b := fun b q1 q2 => by rw [← hx1, u2_arow q1, ur_arow q2]
    have x1f : ∀ j, j ≠ 5 → x1 o j = x o j := fun j hj => by rw [← hx1, u2_other (fun q => hj q.2), ur_apart (by omega)]
    have lt : l.tail.length = 7 := by rw [List.length_tail, h8]
    have hK1 : KRep x1 o l.tail := by
      refine ⟨⟨by rw [lt, ← hx1, u2_same], by omega⟩, fun j hj => ?_⟩
      have g : l.tail.getD j as0 = l.getD (j + 1) as0 := by
        rw [List.getD_eq_getElem?_getD, List.getD_eq_getElem?_getD, List.getElem?_tail]
      rw [g]
      obtain ⟨q1, q2⟩ := k3 (j + 1) (by omega)
      refine ⟨q1.move q2 (fun k hk => ?_), q2⟩
      rw [← hx1, u2_apart (by omega), ur_same, cpy_in (Nat.zero_le _) (by omega)]
      congr 1; omega
    have hA1 : MKa x1 a 0 A := hA.move hAm (fun k _ => by rw [x1o a ha3 ha2])
    obtain ⟨x', e1, e2, e3, e4⟩ := rem36_ok (y := y) h ha ha2 hA1 hAm (l := l.tail) (by omega) hK1
    exact ⟨x', e1, fun b q1 q2 => (e2 b q1 q2).trans (x1o b q1 q2), fun j hj => (e3 j hj).trans (x1f j hj), e4⟩
  · rw [if_neg (by rw [nW_eq (by omega) (by decide)]; exact h8), if_neg h8]
    exact rem36_ok h ha ha2 hA hAm (by omega) hK
end MREM
