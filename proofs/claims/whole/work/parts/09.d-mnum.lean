/-! ===== the reference: the number of a position ===== -/
/-- a layer of the reference -/
def MLay (x : Nat → Nat → Int32) (y : Nat → Nat → Int64) (o i : Nat) (L : Lay) : Prop := x (o + 9) i = nW (lyc L) ∧ ∀ p, p < lyc L → y (o + 13) (i * 40 + p) = Int64.ofNat (lyg L p) ∧ MRow x (o + 8) ((i * 40 + p) * 36) 36 (lyp L p)
def mlk (e : Nat × Nat × Nat × Nat) : Nat := (e.1 * 40 + e.2.1) * 1296 + (e.2.2.1 * 36 + e.2.2.2)
def MEdg (x : Nat → Nat → Int32) (o i : Nat) (E : Edg) : Prop := x (o + 11) i = nW (egc E) ∧ ∀ e, e < egc E → x (o + 10) (i * 1600 + e) = nW (mlk (egd E e))
section MNUM
variable {G : Mem} {o : Nat} {x : Nat → Nat → Int32} {y : Nat → Nat → Int64} {c r : Nat} {P : Nat → Nat}
/-- the first square at which two positions differ; n if none -/
theorem eqP_scan {n : Nat} {P Q : Nat → Nat} : (eqP n P Q = true ∧ ∀ k, k < n → P k = Q k) ∨ (eqP n P Q = false ∧ ∃ d, d < n ∧ P d ≠ Q d ∧ ∀ k, k < d → P k = Q k) := by
  have : ∀ m, (∀ k, k < m → k < n → P k = Q k) ∨ ∃ d, d < n ∧ P d ≠ Q d ∧ ∀ k, k < d → P k = Q k := by
    intro m
    induction m with
    | zero => exact Or.inl fun k hk => absurd hk (Nat.not_lt_zero _)
    | succ m ih =>
      rcases ih with ih | ih
      · by_cases hm : m < n ∧ P m ≠ Q m
        · exact Or.inr ⟨m, hm.1, hm.2, fun k hk => ih k hk (by omega)⟩
        · left
          intro k hk hkn
          by_cases e : k = m
          · subst e
            by_cases e2 : P k = Q k
            · exact e2
            · exact absurd ⟨hkn, e2⟩ hm
          · exact ih k (by omega) hkn
      · exact Or.inr ih
  rcases this n with h | h
  · exact Or.inl ⟨eqP_iff.mpr fun k hk => h k hk hk, fun k hk => h k hk hk⟩
  · right
    refine ⟨?_, h⟩
    obtain ⟨d, h1, h2, h3⟩ := h
    cases hb : eqP n P Q with
    | false => rfl
    | true => exact absurd (eqP_iff.mp hb d h1) h2
theorem numberOf_ok (h : MSh G o) (hs : szs c r) (hz : MSz x o c r) {i1 : Nat} (hi1 : i1 < 11) {L : Lay} {Q : Nat → Nat} (h40 : lyc L ≤ 40) (hL : MLay x y o i1 L) (hb : MRow x (o + 12) 0 36 Q) (hLw : ∀ p, p < lyc L → ∀ k, lyp L p k < 11) (hQ : ∀ k, Q k < 11) :
    fX7_numberOf o (nW i1) (wIJ G x y) = (if fxi (c * r) L Q = 40 then some (-nW 1, wIJ G x y) else if fxi (c * r) L Q = lyc L then some (nW (lyc L), wIJ G (u2 (ur x (o + 8) (va_cpy (x (o + 12)) (x (o + 8)) 0 ((i1 * 40 + lyc L) * 36) 36)) (o + 9) i1 (nW (lyc L + 1))) (u2 y (o + 13) (i1 * 40 + lyc L) 0)) else some (nW (fxi (c * r) L Q), wIJ G x y)) := by
  have h36 := szs36 hs
  obtain ⟨f1, f2, f3⟩ := fxi_spec (n := c * r) (L := L) (Q := Q)
  have sq : fX7_squareMany o (wIJ G x y) = some (nW (c * r), wIJ G x y) := squareMany_ok h hz
  have cell : ∀ p, p < lyc L → ∀ k, k < c * r → fX7_numberOf_21 o (nW i1) (nW p) (nW ((i1 * 40 + p) * 36)) (nW k) (wIJ G x y) = if lyp L p k = Q k then some (Sum.inl (nW (k + 1)), wIJ G x y) else some (Sum.inr (Sum.inl (nW (p + 1))), wIJ G x y) := fun p hp k hk => by
    have r1 := (hL.2 p hp).2 k (by omega)
    have r2 := hb k (by omega)
    rw [Nat.zero_add] at r2
    have q1 := hLw p hp k
    have q2 := hQ k
    unfold fX7_numberOf_21 fX7_numberOf_55
    simp only [lits]
    rw [ck_wij, ck_ok h.t, sq, Option.bind_some, if_neg (by rw [nW_le (by omega) (by omega)]; omega), gR_wij, h.g13, Option.bind_some, nW_add, h.r13.rd (by omega) (by decide), r1, Option.bind_some, gR_wij, h.g17, Option.bind_some, h.r17.rd (by omega) (by decide), r2, Option.bind_some]
    by_cases e : lyp L p k = Q k
    · rw [if_pos (by rw [e]), if_pos e, nW_add]
    · rw [if_neg (by rw [nW_eq (by omega) (by omega)]; exact e), if_neg e, ck_wij, ck_ok h.t, sq, Option.bind_some, if_neg (by rw [nW_eq (by omega) (by omega)]; omega), nW_add]; rfl
  have row : ∀ p, p < lyc L → fX7_numberOf_2 o (nW i1) (nW p) (wIJ G x y) = if eqP (c * r) (lyp L p) Q = true then some (Sum.inr (nW p), wIJ G x y) else some (Sum.inl (nW (p + 1)), wIJ G x y) := fun p hp => by
    unfold fX7_numberOf_2
    rw [gR_wij, h.g14, Option.bind_some, h.r14.rd hi1 (by decide), hL.1, Option.bind_some, if_neg (by rw [nW_le (by omega) (by omega)]; omega), position_ok, Option.bind_some]
    simp only [lits]
    rcases eqP_scan (n := c * r) (P := lyp L p) (Q := Q) with ⟨e1, e2⟩ | ⟨e1, d, d1, d2, d3⟩
    · rw [e1, if_pos rfl]
      exact loop_to (f := fun (s : Int32) G => fX7_numberOf_21 o (nW i1) (nW p) (nW ((i1 * 40 + p) * 36)) s G) (fun k => nW k) (fun _ => wIJ G x y) (c * r) _ _ (fun k hk => by
        show fX7_numberOf_21 _ _ _ _ _ _ = _
        rw [cell p hp k hk, if_pos (e2 k hk)]) (by
        show fX7_numberOf_21 _ _ _ _ _ _ = _
        unfold fX7_numberOf_21 fX7_numberOf_55 fX7_numberOf_64
        rw [ck_wij, ck_ok h.t, sq, Option.bind_some, if_pos (by rw [nW_le (by omega) (by omega)]; omega), ck_wij, ck_ok h.t, sq, Option.bind_some, if_pos rfl]
        rfl) (c * r) 0 FU (by omega) (by show c * r < 100000; omega)
    · rw [e1, if_neg (by decide)]
      exact loop_to (f := fun (s : Int32) G => fX7_numberOf_21 o (nW i1) (nW p) (nW ((i1 * 40 + p) * 36)) s G) (fun k => nW k) (fun _ => wIJ G x y) d _ _ (fun k hk => by
        show fX7_numberOf_21 _ _ _ _ _ _ = _
        rw [cell p hp k (by omega), if_pos (d3 k hk)]) (by
        show fX7_numberOf_21 _ _ _ _ _ _ = _
        rw [cell p hp d d1, if_neg d2]) d 0 FU (by omega) (by show d < 100000; omega)
  have many : gA (wIJ G x y) 1 (o + 9) (nW i1) = some (nW (lyc L)) := by
    rw [h.r14.rd hi1 (by decide), hL.1]
  have last : fX7_numberOf_72 o (nW i1) (wIJ G x y) = if lyc L = 40 then some (-nW 1, wIJ G x y) else some (nW (lyc L), wIJ G (u2 (ur x (o + 8) (va_cpy (x (o + 12)) (x (o + 8)) 0 ((i1 * 40 + lyc L) * 36) 36)) (o + 9) i1 (nW (lyc L + 1))) (u2 y (o + 13) (i1 * 40 + lyc L) 0)) := by
    unfold fX7_numberOf_72
    simp only [lits]
    rw [gR_wij, h.g14, Option.bind_some, many, Option.bind_some]
    by_cases hc : lyc L = 40
    · rw [if_pos (by rw [hc]), if_pos hc]
    · rw [if_neg (by rw [nW_eq (by omega) (by omega)]; exact hc), if_neg hc, gR_wij, h.g17, Option.bind_some, gR_wij, h.g13, Option.bind_some, Option.bind_some, many, Option.bind_some, position_ok, Option.bind_some, cpI_wij h.r17.1 h.r13.1 (by rw [h.r17.2]; decide) (by rw [h.r13.2]; omega) (by omega), Option.bind_some, gR_wij, h.g18, Option.bind_some, gR_wij, h.g14, Option.bind_some, h.r14.rd hi1 (by decide), ur_apart (by omega), hL.1, Option.bind_some, nW_mul, nW_add, h.r18.wj (by omega) (by decide), Option.bind_some, gR_wij, h.g14, Option.bind_some, h.r14.rd hi1 (by decide), ur_apart (by omega), hL.1, Option.bind_some, nW_add, h.r14.wr hi1 (by decide), Option.bind_some, gR_wij, h.g14, Option.bind_some, h.r14.rd hi1 (by decide), u2_same, Option.bind_some, nW_sub (by omega), Nat.add_sub_cancel]
  unfold fX7_numberOf fX7_numberOf_0
  simp only [lits]
  by_cases hlt : fxi (c * r) L Q < lyc L
  · rw [if_neg (by omega), if_neg (by omega)]
    exact loop_to (f := fun (s : Int32) G => fX7_numberOf_2 o (nW i1) s G) (fun p => nW p) (fun _ => wIJ G x y) (fxi (c * r) L Q) _ _ (fun p hp => by
      show fX7_numberOf_2 _ _ _ _ = _
      rw [row p (by omega), if_neg (by rw [f3 p hp]; decide)]) (by
      show fX7_numberOf_2 _ _ _ _ = _
      rw [row _ hlt, if_pos (f2 hlt)]) (fxi (c * r) L Q) 0 FU (by omega) (by show _ < 100000; omega)
  · have e : fxi (c * r) L Q = lyc L := by omega
    rw [e]
    have go : ∀ (v : Int32) (G2 : Mem), fX7_numberOf_72 o (nW i1) (wIJ G x y) = some (v, G2) → loopM (fun (s : Int32) G => fX7_numberOf_2 o (nW i1) s G) FU (nW 0) (wIJ G x y) = some (v, G2) := by
      intro v G2 h72
      exact loop_to (f := fun (s : Int32) G => fX7_numberOf_2 o (nW i1) s G) (fun p => nW p) (fun _ => wIJ G x y) (lyc L) v G2 (fun p hp => by
        show fX7_numberOf_2 _ _ _ _ = _
        rw [row p hp, if_neg (by rw [f3 p (by omega)]; decide)]) (by
        show fX7_numberOf_2 _ _ _ _ = _
        unfold fX7_numberOf_2
        rw [gR_wij, h.g14, Option.bind_some, many, Option.bind_some, if_pos (by rw [nW_le (by omega) (by omega)]; omega), h72]; rfl) (lyc L) 0 FU (by omega) (by show lyc L < 100000; omega)
    by_cases hc : lyc L = 40
    · rw [if_pos hc] at last ⊢
      exact go _ _ last
    · rw [if_neg hc] at last ⊢
      rw [if_pos rfl]
      exact go _ _ last
end MNUM
