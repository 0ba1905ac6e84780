/-! ===== the reference finds all positions of its state ===== -/
/-- the present state of the reference, as it is kept in its row -/
def MPs (x : Nat → Nat → Int32) (o c r : Nat) (N : Nat → Nat → Int32) (P0 : Nat → Nat) (m : Nat) : Prop := MSz x o c r ∧ x (o + 1) 2 = nW m ∧ (∀ q, q < 36 → x (o + 1) (3 + q) = nW (P0 q)) ∧ ∀ i, i < m → MNt x o i (N i)
/-- the state, with all that was found for it -/
def MRep (x : Nat → Nat → Int32) (y : Nat → Nat → Int64) (o c r : Nat) (N : Nat → Nat → Int32) (P0 : Nat → Nat) (m : Nat) : Prop := MPs x o c r N P0 m ∧ MLs x y o c (c * r) N P0 m ∧ MCt y o c (c * r) N P0 m
section MFINDS
variable {G : Mem} {o : Nat} {c r m : Nat} {N : Nat → Nat → Int32} {P0 : Nat → Nat} {x : Nat → Nat → Int32} {y : Nat → Nat → Int64}
theorem MLs.step {n i : Nat} {x' : Nat → Nat → Int32} {y' : Nat → Nat → Int64} (W : WFP n P0) (hn : n ≤ 36) (hok : okN c n N P0 i) (h : MLs x y o c n N P0 i) (hf : MFr o i x y x' y') (hL : MLay x' y' o (i + 1) (lyN c n N P0 (i + 1)).1) (hE : MEdg x' o i (lyN c n N P0 (i + 1)).2) : MLs x' y' o c n N P0 (i + 1) := by
  refine ⟨fun j hj => ?_, fun j hj => ?_⟩
  · by_cases e : j = i + 1
    · rw [e]; exact hL
    · exact (h.1 j (by omega)).low (lyN_run W (hok.mono (by omega))).1.1 (by omega) hf
  · by_cases e : j = i
    · rw [e]; exact hE
    · exact (h.2 j (by omega)).low (lyN_egc W hn (hok.mono (by omega))) (by omega) hf
theorem MPs.frame {x' : Nat → Nat → Int32} (h : MPs x o c r N P0 m) (hx : x' (o + 1) = x (o + 1)) : MPs x' o c r N P0 m := by
  obtain ⟨h1, h2, h3, h4⟩ := h
  refine ⟨?_, ?_, ?_, fun i hi j hj => ?_⟩
  · unfold MSz; rw [hx]; exact h1
  · rw [hx]; exact h2
  · rw [hx]; exact h3
  · rw [hx]; exact h4 i hi j hj
theorem finds_ok (h : MSh G o) (hs : szs c r) (W : WFP (c * r) P0) (hm : m ≤ 10) (hwn : WN N m) (hP : MPs x o c r N P0 m) :
    ∃ v x' y', fX7_finds o (wIJ G x y) = some (v, wIJ G x' y') ∧ (∀ b, b < o + 8 ∨ o + 12 < b → x' b = x b) ∧ (∀ b, b < o + 13 ∨ o + 14 < b → y' b = y b) ∧ ((okN c (c * r) N P0 m ∧ v = nW 1 ∧ MLs x' y' o c (c * r) N P0 m ∧ MCt y' o c (c * r) N P0 m) ∨ (¬ okN c (c * r) N P0 m ∧ v = nW 0)) := by
  obtain ⟨p1, p2, p3, p4⟩ := id hP
  have hn := szs36 hs
  generalize hx1 : ur (u2 x (o + 9) 0 (nW 1)) (o + 8) (va_cpy (x (o + 1)) (x (o + 8)) 3 0 36) = x1
  generalize hy1 : u2 y (o + 13) 0 1 = y1
  have xo : ∀ b, b ≠ o + 8 → b ≠ o + 9 → x1 b = x b := fun b q1 q2 => by rw [← hx1, ur_arow q1, u2_arow q2]
  have L0 : MLs x1 y1 o c (c * r) N P0 0 := by
    refine ⟨fun i hi => ?_, fun i hi => absurd hi (Nat.not_lt_zero _)⟩
    have e : i = 0 := by omega
    subst e
    refine ⟨by rw [← hx1, ur_apart (by omega), u2_same]; rfl, fun p hp => ?_⟩
    have hp : p < 1 := hp
    have e : p = 0 := by omega
    subst e
    refine ⟨by rw [← hy1, u2_same]; rfl, fun q hq => ?_⟩
    show x1 (o + 8) ((0 * 40 + 0) * 36 + q) = nW (P0 q)
    rw [← hx1, ur_same, cpy_in (by omega) (by omega), ← p3 q hq]
    congr 1; omega
  obtain ⟨v, Gf, e1, x', y', rfl, e2, e3, e4⟩ := loop_by (f := fun (s : Int32) G => fX7_finds_31 o s G)
    (fun d s G' => ∃ i x' y', d = m - i ∧ i ≤ m ∧ s = nW i ∧ G' = wIJ G x' y' ∧ (∀ b, b < o + 8 ∨ o + 12 < b → x' b = x b) ∧ (∀ b, b < o + 13 ∨ o + 14 < b → y' b = y b) ∧ okN c (c * r) N P0 i ∧ MLs x' y' o c (c * r) N P0 i)
    (fun (v : Int32) G' => ∃ x' y', G' = wIJ G x' y' ∧ (∀ b, b < o + 8 ∨ o + 12 < b → x' b = x b) ∧ (∀ b, b < o + 13 ∨ o + 14 < b → y' b = y b) ∧ ((okN c (c * r) N P0 m ∧ v = nW 1 ∧ MLs x' y' o c (c * r) N P0 m ∧ MCt y' o c (c * r) N P0 m) ∨ (¬ okN c (c * r) N P0 m ∧ v = nW 0)))
    (by
      rintro d s G' ⟨i, x2, y2, rfl, hi, rfl, rfl, g1, g2, g3, g4⟩
      have hx2 : x2 (o + 1) = x (o + 1) := g1 _ (by omega)
      have hP2 := hP.frame hx2
      by_cases hend : i = m
      · left
        subst hend
        obtain ⟨y3, c1, c2, c3⟩ := countsBehind_ok h ⟨hs, W, hm, g3, hwn⟩ hP2.2.1 g4
        refine ⟨nW 1, _, ?_, x2, y3, rfl, g1, fun b hb => (c2 b (by omega)).trans (g2 b hb), Or.inl ⟨g3, rfl, ?_, c3⟩⟩
        · show fX7_finds_31 _ _ _ = _
          unfold fX7_finds_31 fX7_finds_68
          simp only [lits]
          rw [gR_wij, h.g0, Option.bind_some, h.s0 (by decide), hP2.2.1, Option.bind_some, if_pos (by rw [nW_le (by omega) (by omega)]; omega), ck_wij, ck_ok h.t, c1]
          rfl
        · exact ⟨fun j hj => ⟨(g4.1 j hj).1, fun p hp => ⟨by rw [c2 _ (by omega)]; exact ((g4.1 j hj).2 p hp).1, ((g4.1 j hj).2 p hp).2⟩⟩, g4.2⟩
      · have hi : i < m := by omega
        obtain ⟨⟨b1, b2⟩, -⟩ := lyN_run W g3
        obtain ⟨v, x3, y3, f1, f2, f3⟩ := mfollows_ok (N := N i) h hs hP2.1 (i := i) (by omega) b1 b2 (hP2.2.2.2 i hi) (hwn i hi).1 (g4.1 i (Nat.le_refl _))
        have fx : ∀ b, b < o + 8 ∨ o + 12 < b → x3 b = x b := fun b hb => (f2.1 b hb).trans (g1 b hb)
        have fy : ∀ b, b < o + 13 ∨ o + 14 < b → y3 b = y b := fun b hb => (f2.2.2.2.2.2.1 b (by omega)).trans (g2 b hb)
        have body : fX7_finds_31 o (nW i) (wIJ G x2 y2) = if v = nW 0 then some (.inr (nW 0), wIJ G x3 y3) else (if x3 (o + 9) (i + 1) = nW 0 then some (.inr (nW 0), wIJ G x3 y3) else some (.inl (nW (i + 1)), wIJ G x3 y3)) := by
          unfold fX7_finds_31 fX7_finds_60
          simp only [lits, nW_add]
          rw [gR_wij, h.g0, Option.bind_some, h.s0 (by decide), hP2.2.1, Option.bind_some, if_neg (by rw [nW_le (by omega) (by omega)]; omega), ck_wij, ck_ok h.t, f1, Option.bind_some]
          by_cases hv : v = nW 0
          · rw [if_pos hv, if_pos hv]; rfl
          · rw [if_neg hv, if_neg hv, gR_wij, h.g14, Option.bind_some, h.r14.rd (by omega) (by decide), Option.bind_some]
            rfl
        rcases f3 with ⟨n1, n2⟩ | ⟨st', n1, n2, n3, n4⟩
        · left
          refine ⟨nW 0, _, ?_, x3, y3, rfl, fx, fy, Or.inr ⟨fun q => ?_, rfl⟩⟩
          · show fX7_finds_31 _ _ _ = _
            rw [body, if_pos n2]
          · have := (q i hi).1
            rw [n1] at this; cases this
        · have e := lyN_of n1
          rw [← e] at n1 n3 n4
          have h40 := (evs_RI (Nat.mod_lt i (by decide)) b2 (Nat.le_refl _) n1).2.1
          by_cases hz : lyc (lyN c (c * r) N P0 (i + 1)).1 = 0
          · left
            refine ⟨nW 0, _, ?_, x3, y3, rfl, fx, fy, Or.inr ⟨fun q => (q i hi).2 hz, rfl⟩⟩
            show fX7_finds_31 _ _ _ = _
            rw [body, n2, if_neg (by decide), if_pos (by rw [n3.1, hz])]
          · right
            refine ⟨m - (i + 1), nW (i + 1), _, by omega, ?_, i + 1, x3, y3, rfl, hi, rfl, rfl, fx, fy, okN_succ.mpr ⟨g3, n1, hz⟩, g4.step W hn g3 f2 n3 n4⟩
            show fX7_finds_31 _ _ _ = _
            rw [body, n2, if_neg (by decide), if_neg (by rw [n3.1, nW_eq (by omega) (by decide)]; exact hz)])
    FU m (nW 0) (wIJ G x1 y1) (by show m < 100000; omega) ⟨0, x1, y1, rfl, Nat.zero_le _, rfl, rfl, fun b hb => xo b (by omega) (by omega), fun b hb => by rw [← hy1, u2_arow (by omega)], okN_zero, L0⟩
  refine ⟨v, x', y', ?_, e2, e3, e4⟩
  unfold fX7_finds fX7_finds_0
  simp only [lits]
  rw [gR_wij, h.g14, Option.bind_some, h.r14.wr (by decide) (by decide), Option.bind_some, gR_wij, h.g18, Option.bind_some, h.r18.wj (by decide) (by decide), Option.bind_some, gR_wij, h.g0, Option.bind_some, gR_wij, h.g13, Option.bind_some, cpI_wij h.r0.1 h.r13.1 (by rw [h.r0.2]; decide) (by rw [h.r13.2]; decide) (by decide), Option.bind_some, u2_arow (a := o + 9) (b := o + 1) (by omega), u2_arow (a := o + 9) (b := o + 8) (by omega), hx1]
  have hy : u2 y (o + 13) 0 (1 : Int64) = y1 := hy1
  rw [hy]
  exact e1
end MFINDS
