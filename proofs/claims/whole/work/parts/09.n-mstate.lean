/-! ===== the reference: an origin is stated ===== -/
section MSTATES
variable {G : Mem} {o : Nat} {c r m : Nat} {N : Nat → Nat → Int32} {P0 : Nat → Nat} {x : Nat → Nat → Int32} {y : Nat → Nat → Int64}
theorem orgN_back {k : Nat} {cx ry : Int32} : ∀ i j, orgN (orgN N k cx ry) k (N k 1) (N k 2) i j = N i j := by
  intro i j
  unfold orgN updF
  by_cases e : i = k
  · rw [if_pos e, e]
    by_cases e1 : j = 1
    · rw [if_pos e1, e1]
    · rw [if_neg e1]
      by_cases e2 : j = 2
      · rw [if_pos e2, e2]
      · rw [if_neg e2, if_pos rfl, if_neg e1, if_neg e2]
  · rw [if_neg e, if_neg e]
theorem MPs.org (hP : MPs x o c r N P0 m) {k : Nat} (hk : k < m) (hm : m ≤ 10) {cx ry : Int32} : MPs (u2 (u2 x (o + 1) (39 + 7 * k + 1) cx) (o + 1) (39 + 7 * k + 2) ry) o c r (orgN N k cx ry) P0 m := by
  obtain ⟨⟨h0, h1⟩, h2, h3, h4⟩ := hP
  refine ⟨⟨?_, ?_⟩, ?_, fun q hq => ?_, fun i hi j hj => ?_⟩
  · rw [u2_other (by omega), u2_other (by omega)]; exact h0
  · rw [u2_other (by omega), u2_other (by omega)]; exact h1
  · rw [u2_other (by omega), u2_other (by omega)]; exact h2
  · rw [u2_other (by omega), u2_other (by omega)]; exact h3 q hq
  · unfold orgN updF
    by_cases e : i = k
    · rw [if_pos e, e]
      by_cases e2 : j = 2
      · rw [e2, u2_same, if_neg (by decide), if_pos rfl]
      · rw [u2_other (by omega)]
        by_cases e1 : j = 1
        · rw [e1, u2_same, if_pos rfl]
        · rw [u2_other (by omega), if_neg e1, if_neg e2]; exact h4 k hk j hj
    · rw [if_neg e, u2_other (by omega), u2_other (by omega)]; exact h4 i hi j hj
theorem WN.org (h : WN N m) {k : Nat} {cx ry : Int32} : WN (orgN N k cx ry) m := by
  intro i hi
  unfold orgN updF
  by_cases e : i = k
  · rw [if_pos e, ← e]; exact h i hi
  · rw [if_neg e]; exact h i hi
theorem states_ok (h : MSh G o) (hA : AOK c r N P0 m) (hR : MRep x y o c r N P0 m) {k : Nat} (hk : k < m) {cx ry : Int32} :
    ∃ v x' y', fX7_states o (nW k) cx ry (wIJ G x y) = some (v, wIJ G x' y') ∧ (∀ b, b ≠ o + 1 → (b < o + 8 ∨ o + 12 < b) → x' b = x b) ∧ (∀ b, b < o + 13 ∨ o + 14 < b → y' b = y b) ∧
      ((okN c (c * r) (orgN N k cx ry) P0 m ∧ v = nW 1 ∧ MRep x' y' o c r (orgN N k cx ry) P0 m) ∨ (¬ okN c (c * r) (orgN N k cx ry) P0 m ∧ v = nW 0 ∧ MRep x' y' o c r N P0 m)) := by
  obtain ⟨hs, W, hm, hok, hwn⟩ := id hA
  have hP1 := hR.1.org hk hm (cx := cx) (ry := ry)
  generalize hx1 : u2 (u2 x (o + 1) (39 + 7 * k + 1) cx) (o + 1) (39 + 7 * k + 2) ry = x1 at *
  have x1o : ∀ b, b ≠ o + 1 → x1 b = x b := fun b hb => by rw [← hx1, u2_arow hb, u2_arow hb]
  obtain ⟨v, x2, y2, f1, f2, f3, f4⟩ := finds_ok (y := y) h hs W hm hwn.org hP1
  have hP2 := hP1.frame (f2 (o + 1) (by omega))
  have hN := hR.1.2.2.2 k hk
  have head : fX7_states o (nW k) cx ry (wIJ G x y) = if v = nW 0 then ((fX7_finds o (wIJ G (u2 (u2 x2 (o + 1) (39 + 7 * k + 1) (N k 1)) (o + 1) (39 + 7 * k + 2) (N k 2)) y2)).bind fun q13 => if q13.1 = nW 0 then fX7_states_99 (nW 1) q13.2 else fX7_states_99 (nW 0) q13.2) else some (nW 1, wIJ G x2 y2) := by
    unfold fX7_states fX7_states_0
    simp only [lits]
    rw [ck_wij, ck_ok h.t, of_ok h (by omega) (by decide) hN, Option.bind_some, ck_wij, ck_ok h.t, of_ok h (by omega) (by decide) hN, Option.bind_some, gR_wij, h.g0, Option.bind_some, nW_mul, nW_add, nW_add, h.r0.wr (by omega) (by decide), Option.bind_some, gR_wij, h.g0, Option.bind_some, nW_add, h.r0.wr (by omega) (by decide), Option.bind_some, hx1, ck_wij, ck_ok h.t, f1, Option.bind_some]
    by_cases hv : v = nW 0
    · rw [if_pos hv, if_pos hv, gR_wij, h.g0, Option.bind_some, h.r0.wr (by omega) (by decide), Option.bind_some, gR_wij, h.g0, Option.bind_some, h.r0.wr (by omega) (by decide), Option.bind_some, ck_wij, ck_ok h.t]
    · rw [if_neg hv, if_neg hv]
  rcases f4 with ⟨n1, n2, n3, n4⟩ | ⟨n1, n2⟩
  · refine ⟨nW 1, x2, y2, by rw [head, n2, if_neg (by decide)], fun b hb hb2 => (f2 b hb2).trans (x1o b hb), f3, Or.inl ⟨n1, rfl, hP2, n3, n4⟩⟩
  · have hP3' := hP2.org hk hm (cx := N k 1) (ry := N k 2)
    have eN : orgN (orgN N k cx ry) k (N k 1) (N k 2) = N := funext fun i => funext fun j => orgN_back i j
    rw [eN] at hP3'
    generalize hx3 : u2 (u2 x2 (o + 1) (39 + 7 * k + 1) (N k 1)) (o + 1) (39 + 7 * k + 2) (N k 2) = x3 at *
    have x3o : ∀ b, b ≠ o + 1 → x3 b = x2 b := fun b hb => by rw [← hx3, u2_arow hb, u2_arow hb]
    obtain ⟨v', x4, y4, g1, g2, g3, g4⟩ := finds_ok (y := y2) h hs W hm hwn hP3'
    rcases g4 with ⟨m1, m2, m3, m4⟩ | ⟨m1, m2⟩
    · refine ⟨nW 0, x4, y4, ?_, fun b hb hb2 => (g2 b hb2).trans ((x3o b hb).trans ((f2 b hb2).trans (x1o b hb))), fun b hb => (g3 b hb).trans (f3 b hb), Or.inr ⟨n1, rfl, hP3'.frame (g2 (o + 1) (by omega)), m3, m4⟩⟩
      rw [head, if_pos n2, g1, Option.bind_some, m2, if_neg (show ¬ nW 1 = nW 0 by decide)]
      rfl
    · exact absurd hok m1
end MSTATES
