/-! ===== the reference counts the games behind ===== -/
/-- all layers and edges of the reference -/
def MLs (x : Nat → Nat → Int32) (y : Nat → Nat → Int64) (o c n : Nat) (N : Nat → Nat → Int32) (P0 : Nat → Nat) (m : Nat) : Prop := (∀ i, i ≤ m → MLay x y o i (lyN c n N P0 i).1) ∧ ∀ i, i < m → MEdg x o i (lyN c n N P0 (i + 1)).2
def MCt (y : Nat → Nat → Int64) (o c n : Nat) (N : Nat → Nat → Int32) (P0 : Nat → Nat) (m : Nat) : Prop := ∀ i, i ≤ m → ∀ p, p < lyc (lyN c n N P0 i).1 → y (o + 14) (i * 40 + p) = Int64.ofNat (ctD c n N P0 m (m - i) p)
section MBEHIND
variable {G : Mem} {o : Nat} {c r m : Nat} {N : Nat → Nat → Int32} {P0 : Nat → Nat} {x : Nat → Nat → Int32} {y : Nat → Nat → Int64}
end MBEHIND
