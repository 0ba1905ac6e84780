/-! ===== the reference: an origin is stated ===== -/
section MSTATES
variable {G : Mem} {o : Nat} {c r m : Nat} {N : Nat → Nat → Int32} {P0 : Nat → Nat} {x : Nat → Nat → Int32} {y : Nat → Nat → Int64}
theorem MPs.org (hP : MPs x o c r N P0 m) {k : Nat} (hk : k < m) (hm : m ≤ 10) {cx ry : Int32} : MPs (u2 (u2 x (o + 1) (39 + 7 * k + 1) cx) (o + 1) (39 + 7 * k + 2) ry) o c r (orgN N k cx ry) P0 m := by
  obtain ⟨⟨h0, h1⟩, h2, h3, h4⟩ := hP
  refine ⟨⟨?_, ?_⟩, ?_, fun q hq => ?_, fun i hi j hj => ?_⟩
  · rw [u2_other (by omega), u2_other (by omega)]; exact h0
  · rw [u2_other (by omega), u2_other (by omega)]; exact h1
  · rw [u2_other (by omega), u2_other (by omega)]; exact h2
  · rw [u2_other (by omega), u2_other (by omega)]; exact h3 q hq
  · unfold orgN updF
    by_cases e : i = k
    · rw [if_pos e, e]
      by_cases e2 : j = 2
      · rw [e2, u2_same, if_neg (by decide), if_pos rfl]
      · rw [u2_other (by omega)]
        by_cases e1 : j = 1
        · rw [e1, u2_same, if_pos rfl]
        · rw [u2_other (by omega), if_neg e1, if_neg e2]; exact h4 k hk j hj
    · rw [if_neg e, u2_other (by omega), u2_other (by omega)]; exact h4 i hi j hj
theorem WN.org (h : WN N m) {k : Nat} {cx ry : Int32} : WN (orgN N k cx ry) m := by
  intro i hi
  unfold orgN updF
  by_cases e : i = k
  · rw [if_pos e, ← e]; exact h i hi
  · rw [if_neg e]; exact h i hi
end MSTATES
