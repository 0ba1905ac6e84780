/-! ===== the reference keeps states in rows ===== -/
def MKp (x : Nat → Nat → Int32) (b at' c r : Nat) (N : Nat → Nat → Int32) (P0 : Nat → Nat) (m : Nat) : Prop := (x b at' = nW c ∧ x b (at' + 1) = nW r) ∧ x b (at' + 2) = nW m ∧ (∀ q, q < 36 → x b (at' + 3 + q) = nW (P0 q)) ∧ ∀ i, i < m → ∀ j, j < 7 → x b (at' + 39 + 7 * i + j) = N i j
section MKEPT
variable {G : Mem} {o : Nat} {c r m : Nat} {N : Nat → Nat → Int32} {P0 : Nat → Nat} {x : Nat → Nat → Int32} {y : Nat → Nat → Int64}
end MKEPT
