/-! ===== the class undoes ===== -/
section CUNDO
variable {G : Mem} {ro l K : Nat → Nat} {W : WSt} {d : Nat}
theorem dropLast_at {hs : List ASt} {t : Nat} (ht : t < hs.dropLast.length) : hs.dropLast.getD (hs.dropLast.length - 1 - t) as0 = hs.getD (hs.length - 1 - (t + 1)) as0 ∧ t + 1 < hs.length := by
  rw [List.length_dropLast] at ht ⊢
  refine ⟨?_, by omega⟩
  rw [List.getD_eq_getElem?_getD, List.getD_eq_getElem?_getD, List.getElem?_dropLast, if_pos (by omega)]
  congr 2
  omega
theorem cundo_ok (hC : CI G (d + 1) W) : COut G (d + 1) (fX6_undo 0 G) (oUndo W) := by
  obtain ⟨ro, l, K, h, h2, h3⟩ := hC
  obtain ⟨p1, ⟨⟨c1, c2⟩, nw, c3, c4, c5⟩, p3, p4⟩ := h3.split
  unfold fX6_undo fX6_undo_0 oUndo
  simp only [lits]
  rw [h.gF0, c1, Option.bind_some]
  by_cases h0 : W.2.1.length = 0
  · rw [if_pos (by rw [h0]), if_pos h0, h2.thw]
    exact ⟨G, rfl, ⟨ro, l, K, h, h2, h3⟩, RKp.rfl'⟩
  · generalize hw : (if nw = 0 then 7 else nw - 1) = nw'
    have hw8 : nw' < 8 := by rw [← hw]; split <;> omega
    have hwm : nw' = (nw + 7) % 8 := by rw [← hw]; split <;> omega
    let ro' : Nat → Nat := fun i => if i = 0 then ro (2 + nw) else if i = 2 + nw then ro 0 else ro i
    have r0 : ro' 0 = ro (2 + nw) := rfl
    have r2 : ro' (2 + nw) = ro 0 := by
      show (if 2 + nw = 0 then _ else if 2 + nw = 2 + nw then _ else _) = _
      rw [if_neg (by omega), if_pos rfl]
    have ro3 : ∀ i, i ≠ 0 → i ≠ 2 + nw → ro' i = ro i := fun i q1 q2 => by
      show (if i = 0 then _ else if i = 2 + nw then _ else _) = _
      rw [if_neg q1, if_neg q2]
    have ll := List.length_dropLast (xs := W.2.1)
    generalize hx : u2 (u2 (mI G) 0 6 (nW nw')) 0 7 (nW (W.2.1.length - 1)) = x
    generalize hP : u2 (u2 (mP G) 0 3 (some (fa (ro (2 + nw))))) 51 nw (some (fa (ro 0))) = P
    have xo : ∀ b j, ¬ (b = 0 ∧ (j = 6 ∨ j = 7)) → x b j = mI G b j := fun b j q => by rw [← hx, u2_other (by omega), u2_other (by omega)]
    have x6 : x 0 6 = nW nw' := by rw [← hx, u2_other (by omega), u2_same]
    have x7 : x 0 7 = nW (W.2.1.length - 1) := by rw [← hx, u2_same]
    have P3 : P 0 3 = some (fa (ro (2 + nw))) := by rw [← hP, u2_other (by omega), u2_same]
    have P51 : ∀ i, P 51 i = if i = nw then some (fa (ro 0)) else mP G 51 i := fun i => by
      rw [← hP]
      by_cases q : i = nw
      · rw [if_pos q, q, u2_same]
      · rw [if_neg q, u2_other (by omega), u2_other (by omega)]
    have Po : ∀ b k, ¬ (b = 51 ∧ k = nw) → ¬ (b = 0 ∧ k = 3) → P b k = mP G b k := fun b k q1 q2 => by rw [← hP, u2_other (by omega), u2_other (by omega)]
    have q51 := h.2.2.1
    have hbase : ∀ y, CSh (wA G x y P) ro' l K := fun y => by
      refine h.perm (fun k k3 k4 => Po 0 k (by omega) (by omega)) (by rw [P3, r0]) (by rw [Po 0 4 (by omega) (by omega), ro3 1 (by decide) (by omega)]; exact h.1.2.2.2.2.2.1) (fun i hi => ?_) (fun b b0 b51 => funext fun k => Po b k (by omega) (by omega)) ⟨fun i hi => ?_, fun i j hi hj hij => ?_⟩ (fun j hj => ro3 _ (by omega) (by omega))
      · rw [P51]
        by_cases q : i = nw
        · rw [if_pos q, q, r2]
        · rw [if_neg q, ro3 _ (by omega) (by omega)]; exact q51.2 i hi
      · by_cases a : i = 0
        · rw [a, r0]; exact h.r (by omega)
        · by_cases c : i = 2 + nw
          · rw [c, r2]; exact h.r (by decide)
          · rw [ro3 i a c]; exact h.r hi
      · have val : ∀ i, i < 12 → ∃ i', i' < 12 ∧ ro' i = ro i' ∧ ((i = 0 ∧ i' = 2 + nw) ∨ (i = 2 + nw ∧ i' = 0) ∨ (i ≠ 0 ∧ i ≠ 2 + nw ∧ i' = i)) := fun i hi => by
          by_cases a : i = 0
          · exact ⟨2 + nw, by omega, by rw [a, r0], Or.inl ⟨a, rfl⟩⟩
          · by_cases c : i = 2 + nw
            · exact ⟨0, by decide, by rw [c, r2], Or.inr (Or.inl ⟨c, rfl⟩)⟩
            · exact ⟨i, hi, ro3 i a c, Or.inr (Or.inr ⟨a, c, rfl⟩)⟩
        obtain ⟨i', a1, a2, a3⟩ := val i hi
        obtain ⟨j', b1, b2, b3⟩ := val j hj
        rw [a2, b2]
        exact h.rne a1 b1 (by omega)
    have hb := hbase (mJ G)
    have soft : ∀ b, ¬ (b < 9 ∨ (51 ≤ b ∧ b < 55) ∨ (265 ≤ b ∧ b < 265)) → x b = mI G b ∧ mJ G b = mJ G b := fun b q => ⟨funext fun j => xo b j (by omega), rfl⟩
    have h1 := c5 0 (by omega)
    rw [show (nw + 8 - 0) % 8 = nw by omega, show W.2.1.length - 1 - 0 = W.2.1.length - 1 by omega] at h1
    have hB : ARk (wA G x (mJ G) P) ro' l K 0 (W.2.1.getD (W.2.1.length - 1) as0) := h1.perm h (by omega) hb (by decide) r0 soft
    obtain ⟨y', e1, e2, e3⟩ := countContinuations_ok (t := 5) (g := 6) (kk := 7) hB.2 hB.1 hb.ta
    have hb' := hbase y'
    have sf : ∀ b, ¬ (b < 9 ∨ (51 ≤ b ∧ b < 55) ∨ (265 ≤ b ∧ b < 265)) → x b = mI G b ∧ y' b = mJ G b := fun b q => ⟨funext fun j => xo b j (by omega), e2 b (by omega)⟩
    rw [if_neg (by rw [nW_eq (by omega) (by decide)]; exact h0), if_neg h0]
    refine ⟨wA G x y' P, ?_, ⟨ro', l, K, hb', h2, CDt.join (h1.perm h (by omega) hb' (by decide) r0 sf) ⟨⟨?_, ?_⟩, nw', hw8, x6, fun t ht => ?_⟩ e3 (p4.perm h hb' (fun j hj => ro3 _ (by omega) (by omega)) xo e2)⟩, fun b q1 q2 => ⟨funext fun j => xo b j (by omega), e2 b (by omega), rfl, rfl, fun k => Po b k (by omega) (by omega)⟩⟩
    · have gF6 : ∀ x2 P2, gF (wA G x2 (mJ G) P2) 16 0 6 = some (x2 0 6) := fun x2 P2 => wA_gF h.t
      have gF7 : ∀ x2 P2, gF (wA G x2 (mJ G) P2) 16 0 7 = some (x2 0 7) := fun x2 P2 => wA_gF h.t
      have c64 : ∀ v, v = nW nw' → fX6_undo_64 0 0 v (wA G (mI G) (mJ G) P) = some (.inl (nW (W.2.1.length - 1)), wA G x y' P) := fun v hv => by
        subst hv
        have g1 : gR (wA G x (mJ G) P) 16 0 1 = some 5 := hb.f1
        have g3 : gR (wA G x (mJ G) P) 16 0 3 = some (fa (ro' 0)) := hb.f3
        have g7 : gF (wA G x y' P) 16 0 7 = some (x 0 7) := wA_gF h.t
        unfold fX6_undo_64
        simp only [lits]
        rw [wA_pI h.t, Option.bind_some, gF7, u2_other (by omega), c1, Option.bind_some, nW_sub (by omega), wA_pI h.t, Option.bind_some, hx, g1, Option.bind_some, g3, Option.bind_some, wA_ck h.ta.1.1, e1, Option.bind_some]
        show (gF (wA G x y' P) 16 0 7).bind _ = _
        rw [g7, x7]; rfl
      have gq : gQ G 7 51 (nW nw) = some (fa (ro (2 + nw))) := gQ_ok q51.1.1 (by rw [q51.1.2]; exact c3) (by rw [q51.1.2]; decide) (q51.2 nw c3)
      have pr : pR G 16 0 3 (fa (ro (2 + nw))) = some (wA G (mI G) (mJ G) (u2 (mP G) 0 3 (some (fa (ro (2 + nw)))))) := wA_pR (x := mI G) (y := mJ G) (P := mP G) h.t
      rw [h.f3, Option.bind_some, h.f5, Option.bind_some, h.gF0, c4, Option.bind_some, gq, Option.bind_some, pr, Option.bind_some, wA_gR h.t (by rw [u2_other (by omega)]; exact h.1.2.2.2.2.2.2.1), Option.bind_some, gF6, c4, Option.bind_some, wA_pQ q51.1.1 (h.ss (show 0 < 12 by decide)).1.t (by rw [q51.1.2]; exact c3) (by rw [q51.1.2]; decide), Option.bind_some, hP, gF6, c4, Option.bind_some]
      by_cases q : nw = 0
      · rw [if_pos q] at hw
        rw [if_pos (by rw [q])]
        exact c64 _ (by rw [hw])
      · rw [if_neg q] at hw
        rw [if_neg (by rw [nW_eq (by omega) (by decide)]; exact q), Option.bind_some, nW_sub (by omega)]
        exact c64 _ (by rw [hw])
    · show x 0 7 = nW W.2.1.dropLast.length
      rw [x7, ll]
    · show W.2.1.dropLast.length ≤ 8
      omega
    · have ht : t < W.2.1.dropLast.length := ht
      obtain ⟨z1, z2⟩ := dropLast_at ht
      show ARk _ ro' l K (2 + (nw' + 8 - t) % 8) (W.2.1.dropLast.getD (W.2.1.dropLast.length - 1 - t) as0)
      rw [z1]
      refine (c5 (t + 1) z2).perm h (by omega) hb' (by omega) ?_ sf
      rw [ro3 _ (by omega) (by omega)]
      congr 1
      omega
end CUNDO
