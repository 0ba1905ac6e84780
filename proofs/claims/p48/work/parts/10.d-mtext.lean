/-! ===== the reference's text in the memory ===== -/
def RBy (x : Nat → Nat → Int32) (o : Nat) (T : Nat → Nat) (L : Nat) : Prop := L ≤ 600 ∧ x o 9 = nW L ∧ ∀ i, i < L → T i < 256 ∧ x (o + 6) i = nW (T i)
/-- the reference's numbers for the sorts -/
def rsr (k : Nat) : Nat := [0, 4, 1, 2, 3].getD k 0
def RTk (x : Nat → Nat → Int32) (o : Nat) (T : Nat → Nat) (L s : Nat) : Prop := s ≤ L ∧ x o 21 = nW (rsr (srt T L s)) ∧ x o 22 = nW s ∧ (srt T L s = 3 → x o 24 = nW (min (vlN T L s) 100000)) ∧ x o 23 = nW (stp T L s)
theorem u2_id {α : Type} {f : Nat → Nat → α} {a k : Nat} {v : α} (h : f a k = v) : u2 f a k v = f := by
  funext b j
  by_cases q : b = a ∧ j = k
  · rw [q.1, q.2, u2_same, h]
  · rw [u2_other q]
section MTEXT
variable {G : Mem} {o : Nat} {x : Nat → Nat → Int32} {y : Nat → Nat → Int64} {T : Nat → Nat} {L : Nat}
theorem MSh.g7 (h : MSh G o) : gR G 17 o 7 = some (o + 6) := gR_ok h.1.1 h.1.2.2.2.2.2.2.1
theorem MSh.r6 (h : MSh G o) : RW G 1 (o + 6) 600 := h.2.2.2.2.2.2.1
theorem RBy.frame {x' : Nat → Nat → Int32} (h : RBy x o T L) (h0 : x' o 9 = x o 9) (h3 : x' (o + 6) = x (o + 6)) : RBy x' o T L := ⟨h.1, h0.trans h.2.1, fun i hi => by rw [h3]; exact h.2.2 i hi⟩
theorem RTk.frame {x' : Nat → Nat → Int32} {s : Nat} (h : RTk x o T L s) (h2 : ∀ j, 21 ≤ j → j ≤ 24 → x' o j = x o j) : RTk x' o T L s := ⟨h.1, (h2 21 (by decide) (by decide)).trans h.2.1, (h2 22 (by decide) (by decide)).trans h.2.2.1, fun q => (h2 24 (by decide) (by decide)).trans (h.2.2.2.1 q), (h2 23 (by decide) (by decide)).trans h.2.2.2.2⟩
theorem RBy.next {x' : Nat → Nat → Int32} (hb : RBy x o T L) (hf : ∀ b j, ¬ (b = o ∧ 21 ≤ j ∧ j ≤ 24) → x' b j = x b j) : RBy x' o T L := hb.frame (hf o 9 (by omega)) (funext fun j => hf (o + 6) j (by omega))
end MTEXT
