/-! ===== class and reference, one after the other ===== -/
theorem CI.aok {G : Mem} {d : Nat} {W : WSt} (h : CI G d W) : AAOK W.1 := by
  obtain ⟨ro, l, K, h1, h2, h3⟩ := h
  exact h3.1.2
theorem CI.his {G : Mem} {d : Nat} {W : WSt} (h : CI G d W) : ∀ t, t < W.2.1.length → AAOK (W.2.1.getD t as0) := fun t ht => by
  obtain ⟨ro, l, K, h1, h2, h3⟩ := h
  obtain ⟨-, ⟨-, nw, -, -, a⟩, -⟩ := h3
  have := (a (W.2.1.length - 1 - t) (by omega)).2
  rw [show W.2.1.length - 1 - (W.2.1.length - 1 - t) = t by omega] at this
  exact this
theorem CI.slo {G : Mem} {d : Nat} {W : WSt} (h : CI G d W) : ∀ j, j < 2 → ∀ A, W.2.2.1 j = some A → AAOK A := fun j hj A hA => by
  obtain ⟨ro, l, K, h1, h2, h3⟩ := h
  exact ((h3.2.2.1 j hj).2 A hA).2
theorem CI.out {G : Mem} {d : Nat} {W : WSt} (h : CI G d W) : W.2.2.2.2.2.2 ≤ 41 := by
  obtain ⟨ro, l, K, h1, h2, h3⟩ := h
  exact h3.2.2.2.2.2.1.2.1
theorem CI.ct {G : Mem} {d : Nat} {W : WSt} (h : CI G d W) : mt G 0 = 16 := by
  obtain ⟨ro, l, K, h1, h2, h3⟩ := h
  exact h1.t
theorem CI.bump {G : Mem} {d e w : Nat} {W : WSt} (h : CI G (d + 1) W) (he : e ≤ 1) (hw : w ≤ 6) : CI (caps (bump G e w) 600073 7301549) d W := by
  obtain ⟨ro, l, K, h1, ⟨r1, r2, r3, r4⟩, h3⟩ := h
  refine ⟨ro, l, K, ?_, ⟨?_, ?_, rfl, rfl⟩, h3⟩
  · obtain ⟨a1, a2, a3, a4, a5, a6, a7, a8, a9, a10⟩ := h1
    exact ⟨a1, a2, a3, a4, a5, a6, a7, a8, fun b hb => a9 b (Nat.le_trans (Nat.le_add_right (mz G) e) hb), Nat.le_trans a10 (Nat.le_add_right _ _)⟩
  · show mz G + e + _ + d ≤ 600073
    rw [r3] at r1; omega
  · show ml G + w + _ + 6 * d ≤ 7301549
    rw [r4] at r2; omega
