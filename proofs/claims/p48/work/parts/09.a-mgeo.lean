/-! ===== the reference: its shape, and its pieces' ways ===== -/
/-- a row of a kind and a length -/
def RW (G : Mem) (t b n : Nat) : Prop := mt G b = t ∧ mn G b = n
def MSh (G : Mem) (o : Nat) : Prop := (mt G o = 17 ∧ mP G o 0 = some (o + 1) ∧ mP G o 1 = some (o + 2) ∧ mP G o 2 = some (o + 3) ∧ mP G o 3 = some (o + 4) ∧ mP G o 4 = some (o + 5) ∧ mP G o 7 = some (o + 6) ∧ mP G o 8 = some (o + 7) ∧ mP G o 13 = some (o + 8) ∧ mP G o 14 = some (o + 9) ∧ mP G o 15 = some (o + 10) ∧ mP G o 16 = some (o + 11) ∧ mP G o 17 = some (o + 12) ∧ mP G o 18 = some (o + 13) ∧ mP G o 19 = some (o + 14) ∧ mP G o 20 = some (o + 15)) ∧
  (RW G 1 (o + 1) 109 ∧ RW G 1 (o + 2) 872 ∧ RW G 1 (o + 3) 218 ∧ RW G 1 (o + 4) 109 ∧ RW G 3 (o + 5) 2 ∧ RW G 1 (o + 6) 600 ∧ RW G 1 (o + 7) 60 ∧ RW G 1 (o + 8) 15840 ∧ RW G 1 (o + 9) 11 ∧ RW G 1 (o + 10) 16000 ∧ RW G 1 (o + 11) 10 ∧ RW G 1 (o + 12) 36 ∧ RW G 5 (o + 13) 440 ∧ RW G 5 (o + 14) 440 ∧ RW G 3 (o + 15) 1296)
section MSHAPE
variable {G : Mem} {o : Nat} {x : Nat → Nat → Int32} {y : Nat → Nat → Int64}
theorem MSh.t (h : MSh G o) : mt G o = 17 := h.1.1
theorem MSh.g0 (h : MSh G o) : gR G 17 o 0 = some (o + 1) := gR_ok h.1.1 h.1.2.1
theorem MSh.r0 (h : MSh G o) : RW G 1 (o + 1) 109 := h.2.1
end MSHAPE
section MBOARD
variable {G : Mem} {o : Nat} {x : Nat → Nat → Int32} {y : Nat → Nat → Int64} {c r : Nat} {b at' w : Nat} {P : Nat → Nat}
/-- the reference's size, and a position in a row of it -/
def MSz (x : Nat → Nat → Int32) (o c r : Nat) : Prop := x (o + 1) 0 = nW c ∧ x (o + 1) 1 = nW r
def MRow (x : Nat → Nat → Int32) (b at' n : Nat) (P : Nat → Nat) : Prop := ∀ q, q < n → x b (at' + q) = nW (P q)
end MBOARD
