/-! ===== the reference finds all positions of its state ===== -/
/-- the present state of the reference, as it is kept in its row -/
def MPs (x : Nat → Nat → Int32) (o c r : Nat) (N : Nat → Nat → Int32) (P0 : Nat → Nat) (m : Nat) : Prop := MSz x o c r ∧ x (o + 1) 2 = nW m ∧ (∀ q, q < 36 → x (o + 1) (3 + q) = nW (P0 q)) ∧ ∀ i, i < m → MNt x o i (N i)
/-- the state, with all that was found for it -/
def MRep (x : Nat → Nat → Int32) (y : Nat → Nat → Int64) (o c r : Nat) (N : Nat → Nat → Int32) (P0 : Nat → Nat) (m : Nat) : Prop := MPs x o c r N P0 m ∧ MLs x y o c (c * r) N P0 m ∧ MCt y o c (c * r) N P0 m
section MFINDS
variable {G : Mem} {o : Nat} {c r m : Nat} {N : Nat → Nat → Int32} {P0 : Nat → Nat} {x : Nat → Nat → Int32} {y : Nat → Nat → Int64}
theorem MLs.step {n i : Nat} {x' : Nat → Nat → Int32} {y' : Nat → Nat → Int64} (W : WFP n P0) (hn : n ≤ 36) (hok : okN c n N P0 i) (h : MLs x y o c n N P0 i) (hf : MFr o i x y x' y') (hL : MLay x' y' o (i + 1) (lyN c n N P0 (i + 1)).1) (hE : MEdg x' o i (lyN c n N P0 (i + 1)).2) : MLs x' y' o c n N P0 (i + 1) := by
  refine ⟨fun j hj => ?_, fun j hj => ?_⟩
  · by_cases e : j = i + 1
    · rw [e]; exact hL
    · exact (h.1 j (by omega)).low (lyN_run W (hok.mono (by omega))).1.1 (by omega) hf
  · by_cases e : j = i
    · rw [e]; exact hE
    · exact (h.2 j (by omega)).low (lyN_egc W hn (hok.mono (by omega))) (by omega) hf
theorem MPs.frame {x' : Nat → Nat → Int32} (h : MPs x o c r N P0 m) (hx : x' (o + 1) = x (o + 1)) : MPs x' o c r N P0 m := by
  obtain ⟨h1, h2, h3, h4⟩ := h
  refine ⟨?_, ?_, ?_, fun i hi j hj => ?_⟩
  · unfold MSz; rw [hx]; exact h1
  · rw [hx]; exact h2
  · rw [hx]; exact h3
  · rw [hx]; exact h4 i hi j hj
end MFINDS
