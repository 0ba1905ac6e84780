/-! ===== the reference loads and plays ===== -/
theorem cnt_pos {f : Nat → Bool} {k : Nat} (hf : f k = true) : ∀ n, k < n → 1 ≤ cnt n f := by
  intro n
  induction n with
  | zero => intro h; exact absurd h (Nat.not_lt_zero _)
  | succ n ih =>
    intro h
    show 1 ≤ cnt n f + (if f n = true then 1 else 0)
    by_cases e : k = n
    · rw [← e, if_pos hf]; omega
    · have := ih (by omega); omega
theorem cnt_two {P : Nat → Nat} {col : Nat} (hc : col < 2) (h11 : ∀ k, P k < 11) : ∀ n, cnt n (fun k => own (P k) col) + cnt n (fun k => own (P k) (1 - col)) = npc n P := by
  intro n
  induction n with
  | zero => rfl
  | succ n ih =>
    show (cnt n _ + if own (P n) col = true then 1 else 0) + (cnt n _ + if own (P n) (1 - col) = true then 1 else 0) = cnt n _ + if (!decide (P n = 0)) = true then 1 else 0
    have e : ∀ m, m < 11 → ∀ col, col < 2 → (if own m col = true then 1 else 0) + (if own m (1 - col) = true then 1 else 0) = (if (!decide (m = 0)) = true then 1 else 0) := by decide +kernel
    have := e _ (h11 n) _ hc
    unfold npc at ih
    omega
theorem PInv.wfp {c r : Nat} {P : Nat → Nat} (h : PInv c r P) (hk : fnd (c * r) P 1 < c * r ∧ fnd (c * r) P 6 < c * r) : WFP (c * r) P := by
  obtain ⟨h1, h2, h3, h4, h5⟩ := h
  obtain ⟨k1, a1, a2⟩ := fnd_iff.mp hk.1
  obtain ⟨k6, b1, b2⟩ := fnd_iff.mp hk.2
  refine ⟨h2, h3, ⟨k1, a1, a2, fun j hj => h4 0 (by decide) j k1 hj a2⟩, ⟨k6, b1, b2, fun j hj => h4 1 (by decide) j k6 hj b2⟩, fun col hc => ?_⟩
  have e := cnt_two (P := P) hc h2 (c * r)
  have p : 1 ≤ cnt (c * r) (fun k => own (P k) (1 - col)) := by
    have : col = 0 ∨ col = 1 := by omega
    rcases this with rfl | rfl
    · exact cnt_pos (k := k6) (by show own (P k6) 1 = true; rw [b2]; decide) _ b1
    · exact cnt_pos (k := k1) (by show own (P k1) 0 = true; rw [a2]; decide) _ a1
  omega
theorem PInv.aok {c r : Nat} {P : Nat → Nat} (h : PInv c r P) (hk : fnd (c * r) P 1 < c * r ∧ fnd (c * r) P 6 < c * r) : AOK c r N00 P 0 := ⟨h.1, h.wfp hk, Nat.zero_le _, okN_zero, fun i hi => absurd hi (Nat.not_lt_zero _)⟩
theorem pCmd_keep {T : Nat → Nat} {L : Nat} {A A' : ASt} {s s' : Nat} (h : pCmd T L A s = .inr (A', s')) : A'.1 = A.1 ∧ A'.2.1 = A.2.1 ∧ A'.2.2.2.1 = A.2.2.2.1 := by
  have key : ∀ z s1, pRes T L z s1 = .inr (A', s') → (∀ B, z = some B → B.1 = A.1 ∧ B.2.1 = A.2.1 ∧ B.2.2.2.1 = A.2.2.2.1) → A'.1 = A.1 ∧ A'.2.1 = A.2.1 ∧ A'.2.2.2.1 = A.2.2.2.1 := fun z s1 h1 h2 => h2 A' (pRes_inr h1).1
  unfold pCmd at h
  split at h
  · obtain ⟨a, -, h⟩ := zB_inr h
    refine key _ _ h fun B hB => ?_
    unfold aAdd at hB
    split at hB
    · cases hB; exact ⟨rfl, rfl, rfl⟩
    · cases hB
  · split at h
    · obtain ⟨a, -, h⟩ := zB_inr h
      refine key _ _ h fun B hB => ?_
      unfold aOrg at hB
      split at hB
      · cases hB; exact ⟨rfl, rfl, rfl⟩
      · cases hB
    · split at h
      · split at h
        · refine key _ _ h fun B hB => ?_
          unfold aDrop at hB
          split at hB
          · cases hB
          · cases hB; exact ⟨rfl, rfl, rfl⟩
        · cases h
      · cases h
theorem pCmds_keep {T : Nat → Nat} {L : Nat} {A' : ASt} {n' : Nat} : ∀ (d : Nat) (A : ASt) (s n : Nat), pCmds T L d A s n = .inr (A', n') → (A'.1 = A.1 ∧ A'.2.1 = A.2.1 ∧ A'.2.2.2.1 = A.2.2.2.1) ∧ n' ≤ n + d := by
  intro d
  induction d with
  | zero => intro A s n h; cases h
  | succ d ih =>
    intro A s n h
    unfold pCmds at h
    split at h
    · cases h; exact ⟨⟨rfl, rfl, rfl⟩, by omega⟩
    · obtain ⟨q, g1, g2⟩ := zB_inr h
      obtain ⟨k1, k2⟩ := ih q.1 q.2 (n + 1) g2
      have := pCmd_keep (A' := q.1) (s' := q.2) g1
      exact ⟨⟨k1.1.trans this.1, k1.2.1.trans this.2.1, k1.2.2.trans this.2.2⟩, by omega⟩
/-- a setup with its commands -/
noncomputable def pLoad (T : Nat → Nat) (L : Nat) : (Nat × Nat) ⊕ (ASt × Nat) := zB (pSetup T L (spN T L 0)) fun q => pCmds T L (L + 1) (q.1, q.2.1, N00, q.2.2.1, 0) q.2.2.2 0
noncomputable def pPlay (T : Nat → Nat) (L : Nat) (A : ASt) : (Nat × Nat) ⊕ (ASt × Nat) := pCmds T L (L + 1) A (spN T L 0) 0
section MLOAD
variable {G : Mem} {o : Nat} {x : Nat → Nat → Int32} {y : Nat → Nat → Int64} {T : Nat → Nat} {L : Nat}
theorem MSh.g3 (h : MSh G o) : gR G 17 o 3 = some (o + 4) := gR_ok h.1.1 h.1.2.2.2.2.1
theorem KRep.same {x' : Nat → Nat → Int32} {l : List ASt} (h : KRep x o l) (h5 : x' o 5 = x o 5) (h2 : x' (o + 2) = x (o + 2)) : KRep x' o l := by
  unfold KRep MKa MKp at h ⊢
  rw [h5, h2]; exact h
theorem MKp.same {x' : Nat → Nat → Int32} {b p c r m : Nat} {N : Nat → Nat → Int32} {P0 : Nat → Nat} (h : MKp x b p c r N P0 m) (hb : x' b = x b) : MKp x' b p c r N P0 m := by
  unfold MKp at h ⊢
  rw [hb]; exact h
/-- what a whole text may change in the reference, but for the history -/
def MTX (o : Nat) (x x' : Nat → Nat → Int32) : Prop := ∀ b j, ¬ (b = o ∧ (j = 5 ∨ j = 9 ∨ j = 11 ∨ j = 12 ∨ 21 ≤ j)) → b ≠ o + 1 → b ≠ o + 2 → (b < o + 8 ∨ o + 12 < b) → x' b j = x b j
theorem MTX.trans {x' x2 : Nat → Nat → Int32} (h : MTX o x x') (h2 : MTX o x' x2) : MTX o x x2 := fun b j q1 q2 q3 q4 => (h2 b j q1 q2 q3 q4).trans (h b j q1 q2 q3 q4)
end MLOAD
