/-! ===== the reference: ranges, attacks, kings ===== -/
theorem fndF_spec {P : Nat → Nat} {m : Nat} : ∀ (d i : Nat), i ≤ fndF P m d i ∧ fndF P m d i ≤ i + d ∧ (fndF P m d i < i + d → P (fndF P m d i) = m) ∧ ∀ j, i ≤ j → j < fndF P m d i → P j ≠ m := by
  intro d
  induction d with
  | zero => intro i; exact ⟨Nat.le_refl _, Nat.le_refl _, fun h => absurd h (Nat.lt_irrefl _), fun j h1 h2 => by have : j < i := h2; omega⟩
  | succ d ih =>
    intro i
    by_cases h : P i = m
    · have e : fndF P m (d + 1) i = i := by unfold fndF; rw [if_pos h]
      rw [e]
      exact ⟨Nat.le_refl _, by omega, fun _ => h, fun j h1 h2 => by omega⟩
    · have e : fndF P m (d + 1) i = fndF P m d (i + 1) := by
        show (if P i = m then i else fndF P m d (i + 1)) = _
        rw [if_neg h]
      obtain ⟨a1, a2, a3, a4⟩ := ih (i + 1)
      rw [e]
      refine ⟨by omega, by omega, fun q => a3 (by omega), fun j h1 h2 => ?_⟩
      by_cases ej : j = i
      · rw [ej]; exact h
      · exact a4 j (by omega) h2
theorem fnd_spec {n : Nat} {P : Nat → Nat} {m : Nat} : fnd n P m ≤ n ∧ (fnd n P m < n → P (fnd n P m) = m) ∧ ∀ j, j < fnd n P m → P j ≠ m := by
  obtain ⟨-, a2, a3, a4⟩ := fndF_spec (P := P) (m := m) n 0
  rw [Nat.zero_add] at a2 a3
  exact ⟨a2, a3, fun j hj => a4 j (Nat.zero_le _) hj⟩
section MREACH
variable {G : Mem} {o : Nat} {x : Nat → Nat → Int32} {y : Nat → Nat → Int64} {c r : Nat} {b at' w : Nat} {P : Nat → Nat}
end MREACH
