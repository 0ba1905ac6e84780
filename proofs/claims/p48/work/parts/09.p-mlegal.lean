/-! ===== the reference: the legal moves of a position ===== -/
/-- the note that states nothing -/
def opN : Nat → Int32 := fun j => if j < 5 then -1 else 0
section MLEGAL
variable {G : Mem} {o : Nat} {c r m : Nat} {N : Nat → Nat → Int32} {P0 : Nat → Nat} {x : Nat → Nat → Int32} {y : Nat → Nat → Int64}
theorem MRep.board (hR : MRep x y o c r N P0 m) {x' : Nat → Nat → Int32} (hx : ∀ b, b ≠ o + 12 → x' b = x b) : MRep x' y o c r N P0 m :=
  ⟨hR.1.frame (hx _ (by omega)), hR.2.1.same (hx _ (by omega)) (hx _ (by omega)) (hx _ (by omega)) (hx _ (by omega)) rfl, hR.2.2⟩
end MLEGAL
