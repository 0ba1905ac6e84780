/-! ===== the reference: what follows a note ===== -/
/-- what following note i may change -/
def MFr (o i : Nat) (x : Nat → Nat → Int32) (y : Nat → Nat → Int64) (x' : Nat → Nat → Int32) (y' : Nat → Nat → Int64) : Prop := (∀ b, b < o + 8 ∨ o + 12 < b → x' b = x b) ∧ (∀ k, k < (i + 1) * 1440 → x' (o + 8) k = x (o + 8) k) ∧ (∀ k, k ≠ i + 1 → x' (o + 9) k = x (o + 9) k) ∧ (∀ k, k < i * 1600 → x' (o + 10) k = x (o + 10) k) ∧ (∀ k, k ≠ i → x' (o + 11) k = x (o + 11) k) ∧ (∀ b, b ≠ o + 13 → y' b = y b) ∧ ∀ k, k < (i + 1) * 40 → y' (o + 13) k = y (o + 13) k
theorem MFr.rfl' {o i : Nat} {x : Nat → Nat → Int32} {y : Nat → Nat → Int64} : MFr o i x y x y := ⟨fun _ _ => rfl, fun _ _ => rfl, fun _ _ => rfl, fun _ _ => rfl, fun _ _ => rfl, fun _ _ => rfl, fun _ _ => rfl⟩
theorem MFr.trans {o i : Nat} {x x' x2 : Nat → Nat → Int32} {y y' y2 : Nat → Nat → Int64} (h : MFr o i x y x' y') (h2 : MFr o i x' y' x2 y2) : MFr o i x y x2 y2 :=
  ⟨fun b q => (h2.1 b q).trans (h.1 b q), fun b q => (h2.2.1 b q).trans (h.2.1 b q), fun b q => (h2.2.2.1 b q).trans (h.2.2.1 b q), fun b q => (h2.2.2.2.1 b q).trans (h.2.2.2.1 b q), fun b q => (h2.2.2.2.2.1 b q).trans (h.2.2.2.2.1 b q), fun b q => (h2.2.2.2.2.2.1 b q).trans (h.2.2.2.2.2.1 b q), fun b q => (h2.2.2.2.2.2.2 b q).trans (h.2.2.2.2.2.2 b q)⟩
theorem MLay.low {o i q : Nat} {x x' : Nat → Nat → Int32} {y y' : Nat → Nat → Int64} {L : Lay} (h : MLay x y o q L) (hL : lyc L ≤ 40) (hq : q ≤ i) (hf : MFr o i x y x' y') : MLay x' y' o q L := by
  obtain ⟨h1, h2⟩ := h
  refine ⟨(hf.2.2.1 q (by omega)).trans h1, fun p hp => ⟨(hf.2.2.2.2.2.2 _ (by omega)).trans (h2 p hp).1, fun k hk => (hf.2.1 _ (by omega)).trans ((h2 p hp).2 k hk)⟩⟩
theorem MEdg.low {o i q : Nat} {x x' : Nat → Nat → Int32} {y y' : Nat → Nat → Int64} {E : Edg} (h : MEdg x o q E) (hE : egc E ≤ 1600) (hq : q < i) (hf : MFr o i x y x' y') : MEdg x' o q E := by
  obtain ⟨h1, h2⟩ := h
  exact ⟨(hf.2.2.2.2.1 q (by omega)).trans h1, fun e he => (hf.2.2.2.1 _ (by omega)).trans (h2 e he)⟩
section MFOL
variable {G : Mem} {o : Nat} {c r i : Nat} {N : Nat → Int32}
end MFOL
