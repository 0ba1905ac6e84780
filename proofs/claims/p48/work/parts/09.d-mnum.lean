/-! ===== the reference: the number of a position ===== -/
/-- a layer of the reference -/
def MLay (x : Nat → Nat → Int32) (y : Nat → Nat → Int64) (o i : Nat) (L : Lay) : Prop := x (o + 9) i = nW (lyc L) ∧ ∀ p, p < lyc L → y (o + 13) (i * 40 + p) = Int64.ofNat (lyg L p) ∧ MRow x (o + 8) ((i * 40 + p) * 36) 36 (lyp L p)
def mlk (e : Nat × Nat × Nat × Nat) : Nat := (e.1 * 40 + e.2.1) * 1296 + (e.2.2.1 * 36 + e.2.2.2)
def MEdg (x : Nat → Nat → Int32) (o i : Nat) (E : Edg) : Prop := x (o + 11) i = nW (egc E) ∧ ∀ e, e < egc E → x (o + 10) (i * 1600 + e) = nW (mlk (egd E e))
section MNUM
variable {G : Mem} {o : Nat} {x : Nat → Nat → Int32} {y : Nat → Nat → Int64} {c r : Nat} {P : Nat → Nat}
/-- the first square at which two positions differ; n if none -/
theorem eqP_scan {n : Nat} {P Q : Nat → Nat} : (eqP n P Q = true ∧ ∀ k, k < n → P k = Q k) ∨ (eqP n P Q = false ∧ ∃ d, d < n ∧ P d ≠ Q d ∧ ∀ k, k < d → P k = Q k) := by
  have : ∀ m, (∀ k, k < m → k < n → P k = Q k) ∨ ∃ d, d < n ∧ P d ≠ Q d ∧ ∀ k, k < d → P k = Q k := by
    intro m
    induction m with
    | zero => exact Or.inl fun k hk => absurd hk (Nat.not_lt_zero _)
    | succ m ih =>
      rcases ih with ih | ih
      · by_cases hm : m < n ∧ P m ≠ Q m
        · exact Or.inr ⟨m, hm.1, hm.2, fun k hk => ih k hk (by omega)⟩
        · left
          intro k hk hkn
          by_cases e : k = m
          · subst e
            by_cases e2 : P k = Q k
            · exact e2
            · exact absurd ⟨hkn, e2⟩ hm
          · exact ih k (by omega) hkn
      · exact Or.inr ih
  rcases this n with h | h
  · exact Or.inl ⟨eqP_iff.mpr fun k hk => h k hk hk, fun k hk => h k hk hk⟩
  · right
    refine ⟨?_, h⟩
    obtain ⟨d, h1, h2, h3⟩ := h
    cases hb : eqP n P Q with
    | false => rfl
    | true => exact absurd (eqP_iff.mp hb d h1) h2
end MNUM
