/-! ===== the reference keeps states in rows ===== -/
def MKp (x : Nat → Nat → Int32) (b at' c r : Nat) (N : Nat → Nat → Int32) (P0 : Nat → Nat) (m : Nat) : Prop := (x b at' = nW c ∧ x b (at' + 1) = nW r) ∧ x b (at' + 2) = nW m ∧ (∀ q, q < 36 → x b (at' + 3 + q) = nW (P0 q)) ∧ ∀ i, i < m → ∀ j, j < 7 → x b (at' + 39 + 7 * i + j) = N i j
section MKEPT
variable {G : Mem} {o : Nat} {c r m : Nat} {N : Nat → Nat → Int32} {P0 : Nat → Nat} {x : Nat → Nat → Int32} {y : Nat → Nat → Int64}
theorem MPs.kept (h : MPs x o c r N P0 m) : MKp x (o + 1) 0 c r N P0 m := by
  obtain ⟨h1, h2, h3, h4⟩ := h
  refine ⟨h1, h2, fun q hq => ?_, fun i hi j hj => ?_⟩
  · rw [show 0 + 3 + q = 3 + q by omega]; exact h3 q hq
  · rw [show 0 + 39 + 7 * i + j = 39 + 7 * i + j by omega]; exact h4 i hi j hj
theorem MKp.present (h : MKp x (o + 1) 0 c r N P0 m) : MPs x o c r N P0 m := by
  obtain ⟨h1, h2, h3, h4⟩ := h
  refine ⟨h1, h2, fun q hq => ?_, fun i hi j hj => ?_⟩
  · rw [show 3 + q = 0 + 3 + q by omega]; exact h3 q hq
  · rw [show 39 + 7 * i + j = 0 + 39 + 7 * i + j by omega]; exact h4 i hi j hj
theorem MKp.move {x' : Nat → Nat → Int32} {a p b q : Nat} (hm : m ≤ 10) (h : MKp x a p c r N P0 m) (hx : ∀ k, k < 109 → x' b (q + k) = x a (p + k)) : MKp x' b q c r N P0 m := by
  obtain ⟨⟨h0, h1⟩, h2, h3, h4⟩ := h
  refine ⟨⟨(hx 0 (by decide)).trans h0, (hx 1 (by decide)).trans h1⟩, (hx 2 (by decide)).trans h2, fun k hk => ?_, fun i hi j hj => ?_⟩
  · have := hx (3 + k) (by omega)
    rw [← Nat.add_assoc, ← Nat.add_assoc] at this
    exact this.trans (h3 k hk)
  · have := hx (39 + 7 * i + j) (by omega)
    rw [show q + (39 + 7 * i + j) = q + 39 + 7 * i + j by omega, show p + (39 + 7 * i + j) = p + 39 + 7 * i + j by omega] at this
    exact this.trans (h4 i hi j hj)
theorem copyRow_ok {a p b q la lb : Nat} (ha : RW G 1 a la) (hb : RW G 1 b lb) (hp : p + 109 ≤ la) (hq : q + 109 ≤ lb) (hl : la ≤ 20000 ∧ lb ≤ 20000) :
    fX7_copy a (nW p) b (nW q) (wIJ G x y) = some ((), wIJ G (ur x b (va_cpy (x a) (x b) p q 109)) y) ∧ ∀ k, k < 109 → ur x b (va_cpy (x a) (x b) p q 109) b (q + k) = x a (p + k) := by
  refine ⟨?_, fun k hk => ?_⟩
  · unfold fX7_copy fX7_copy_0
    simp only [lits]
    rw [cpI_wij ha.1 hb.1 (by rw [ha.2]; exact hp) (by rw [hb.2]; exact hq) (by omega)]
    rfl
  · rw [ur_same, cpy_in (by omega) (by omega)]
    congr 1; omega
end MKEPT
