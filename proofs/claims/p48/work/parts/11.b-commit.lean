/-! ===== the class's states change places ===== -/
def wA (G : Mem) (x : Nat → Nat → Int32) (y : Nat → Nat → Int64) (P : Nat → Nat → Option Nat) : Mem := (mz G, ml G, mt G, mn G, x, y, P, cC G, cS G)
section WA
variable {G : Mem} {x : Nat → Nat → Int32} {y : Nat → Nat → Int64} {P : Nat → Nat → Option Nat}
theorem wA_self (G : Mem) : wA G (mI G) (mJ G) (mP G) = G := rfl
theorem wA_gF {t a k : Nat} (h : mt G a = t) : gF (wA G x y P) t a k = some (x a k) := if_pos h
theorem wA_gR {t a k v : Nat} (h : mt G a = t) (h2 : P a k = some v) : gR (wA G x y P) t a k = some v := by
  unfold gR
  rw [if_pos (show mt (wA G x y P) a = t from h)]
  exact h2
theorem wA_pI {t a k : Nat} {v : Int32} (h : mt G a = t) : pI (wA G x y P) t a k v = some (wA G (u2 x a k v) y P) := if_pos h
theorem wA_pR {t a k v : Nat} (h : mt G a = t) : pR (wA G x y P) t a k v = some (wA G x y (u2 P a k (some v))) := if_pos h
theorem wA_gQ {t a i v : Nat} (h : mt G a = t) (h2 : i < mn G a) (h3 : mn G a ≤ 2147483648) (h4 : P a i = some v) : gQ (wA G x y P) t a (nW i) = some v := by
  unfold gQ
  rw [if_pos ⟨(show mt (wA G x y P) a = t from h), (inb_nW (by omega)).mpr h2⟩, nW_clamp (by omega)]
  exact h4
theorem wA_pQ {t to a i v : Nat} (h : mt G a = t) (h1 : mt G v = to) (h2 : i < mn G a) (h3 : mn G a ≤ 2147483648) : pQ (wA G x y P) t to a (nW i) v = some (wA G x y (u2 P a i (some v))) := by
  unfold pQ
  rw [if_pos ⟨(show mt (wA G x y P) a = t from h), h1, (inb_nW (by omega)).mpr h2⟩, nW_clamp (by omega)]
  rfl
theorem wA_ck {α : Type} {t o : Nat} {v : Option α} (h : mt G o = t) : ck (wA G x y P) t o v = v := if_pos h
end WA
section COMMIT
variable {G : Mem} {ro l K : Nat → Nat} {W : WSt} {d : Nat}
theorem CSh.perm (h : CSh G ro l K) {x : Nat → Nat → Int32} {y : Nat → Nat → Int64} {P : Nat → Nat → Option Nat} {ro' : Nat → Nat} (h0 : ∀ k, k ≠ 3 → k ≠ 4 → P 0 k = mP G 0 k) (h3 : P 0 3 = some (fa (ro' 0))) (h4 : P 0 4 = some (fa (ro' 1))) (h51 : ∀ i, i < 8 → P 51 i = some (fa (ro' (2 + i)))) (ho : ∀ b, b ≠ 0 → b ≠ 51 → P b = mP G b) (hr : (∀ i, i < 12 → ro' i < 12) ∧ ∀ i j, i < 12 → j < 12 → i ≠ j → ro' i ≠ ro' j) (hs : ∀ j, j < 2 → ro' (10 + j) = ro (10 + j)) : CSh (wA G x y P) ro' l K := by
  obtain ⟨⟨a1, a2, a3, a4, a5, a6, a7, a8, a9, a10⟩, ⟨p1, p2, p3⟩, ⟨q1, q2⟩, ⟨r1, r2⟩, s1, t1, u1, v1, w1⟩ := id h
  refine ⟨⟨a1, (h0 0 (by decide) (by decide)).trans a2, (h0 1 (by decide) (by decide)).trans a3, (h0 2 (by decide) (by decide)).trans a4, h3, h4, (h0 5 (by decide) (by decide)).trans a7, (h0 8 (by decide) (by decide)).trans a8, (h0 9 (by decide) (by decide)).trans a9, (h0 10 (by decide) (by decide)).trans a10⟩, ⟨?_, ?_, p3⟩, ⟨q1, h51⟩, ⟨r1, fun j hj => ?_⟩, s1, fun e he => ?_, u1, hr, w1⟩
  · obtain ⟨⟨b1, b2, b3⟩, ⟨b4, b5⟩, b6⟩ := p1
    refine ⟨⟨b1, ?_, ?_⟩, ⟨b4, ?_⟩, b6⟩
    · show P 1 0 = _; rw [ho 1 (by decide) (by decide)]; exact b2
    · show P 1 6 = _; rw [ho 1 (by decide) (by decide)]; exact b3
    · show P 2 5 = _; rw [ho 2 (by decide) (by decide)]; exact b5
  · obtain ⟨⟨b1, b2, b3⟩, b4⟩ := p2
    refine ⟨⟨b1, ?_, ?_⟩, b4⟩
    · show P 5 0 = _; rw [ho 5 (by decide) (by decide)]; exact b2
    · show P 5 2 = _; rw [ho 5 (by decide) (by decide)]; exact b3
  · show P 52 j = _
    rw [ho 52 (by decide) (by decide), hs j hj]; exact r2 j hj
  · have f := fa_ok he
    have a := t1 e he
    exact a.relink (G' := wA G x y P) w1.1 (fun b _ => rfl) (fun b _ => rfl) (fun b j q1 q2 _ => by show P b j = _; rw [ho b (by omega) (by omega)]) (by show P (fa e) 8 = _; rw [ho _ (by omega) (by omega)]; exact a.1.1.2.2.2.2.2.2.2.2) ⟨a.1.lt, a.1.ll⟩ a.2.1 a.2.2
theorem ARep.cells {G' : Mem} {a lk k c r m : Nat} {N : Nat → Nat → Int32} {P0 : Nat → Nat} (hA : AOK c r N P0 m) (h : ARep G a lk k c r N P0 m) (hS : SS G' a lk k) (hc : ∀ z, CHa a lk z → mI G' z = mI G z ∧ mJ G' z = mJ G z) : ARep G' a lk k c r N P0 m := by
  obtain ⟨h1, h2, h3, h4, h5, h6, h7⟩ := h
  have rw1 : ∀ z, a ≤ z → z < a + 21 → mI G' z = mI G z ∧ mJ G' z = mJ G z := fun z q1 q2 => hc z (Or.inl ⟨q1, q2⟩)
  have rl : mI G' lk = mI G lk := (hc lk (Or.inr rfl)).1
  refine ⟨hS, ?_, ?_, ?_, fun i hi j hj => ?_, ?_, h7⟩
  · rw [(rw1 (a + 1) (by omega) (by omega)).1]; exact h2
  · intro p hp ho
    rw [(rw1 (a + 1 + 2) (by omega) (by omega)).1]; exact h3 p hp ho
  · rw [(rw1 a (by omega) (by omega)).1]; exact h4
  · have := hA.2.2.1
    rw [(rw1 (a + 11 + i) (by omega) (by omega)).1]; exact h5 i hi j hj
  · exact h6.copy hA.2.1 hA.2.2.2.1 (fun j _ => by rw [(rw1 (a + 5) (by omega) (by omega)).1]) (fun k _ => by rw [(rw1 (a + 6) (by omega) (by omega)).2]) (fun k _ => by rw [(rw1 (a + 7) (by omega) (by omega)).2]) (fun j _ => by rw [(rw1 (a + 9) (by omega) (by omega)).1]) (fun j _ => by rw [rl])
/-- a state under another role -/
theorem ARk.perm (h : CSh G ro l K) {i i' : Nat} {A : ASt} (hA : ARk G ro l K i' A) (hi' : i' < 12) {x : Nat → Nat → Int32} {y : Nat → Nat → Int64} {P : Nat → Nat → Option Nat} {ro' : Nat → Nat} (h2 : CSh (wA G x y P) ro' l K) (hi : i < 12) (e : ro' i = ro i') (hx : ∀ b, ¬ (b < 9 ∨ (51 ≤ b ∧ b < 55) ∨ (265 ≤ b ∧ b < 265)) → x b = mI G b ∧ y b = mJ G b) : ARk (wA G x y P) ro' l K i A := by
  have f := fa_ok (h.r hi')
  have lp := h.lp (h.r hi')
  obtain ⟨a1, a2⟩ := hA
  have hS := h2.ss hi
  unfold ARk
  rw [e] at hS ⊢
  exact ⟨a1.cells a2 hS (fun z hz => hx z (by unfold CHa at hz; omega)), a2⟩
theorem rem8_len {h : List ASt} {A : ASt} (hl : h.length ≤ 8) : (rem8 h A).length = if h.length < 8 then h.length + 1 else 8 := by
  unfold rem8
  by_cases q : h.length = 8
  · rw [if_pos q, if_neg (by omega), List.length_append, List.length_tail, q]; rfl
  · rw [if_neg q, if_pos (by omega), List.length_append]; rfl
theorem rem8_last {h : List ASt} {A : ASt} (hl : h.length ≤ 8) : (rem8 h A).getD ((rem8 h A).length - 1) as0 = A := by
  have : ∀ l : List ASt, (l ++ [A]).getD ((l ++ [A]).length - 1) as0 = A := fun l => by
    rw [List.getD_eq_getElem?_getD, List.length_append, show l.length + [A].length - 1 = l.length from by simp, List.getElem?_append_right (Nat.le_refl _), Nat.sub_self]; rfl
  unfold rem8
  split
  · exact this _
  · exact this _
theorem rem8_old {h : List ASt} {A : ASt} (hl : h.length ≤ 8) {t : Nat} (ht : t + 1 < (rem8 h A).length) : (rem8 h A).getD ((rem8 h A).length - 1 - (t + 1)) as0 = h.getD (h.length - 1 - t) as0 ∧ t < h.length := by
  have e := rem8_len (A := A) hl
  rw [e] at ht ⊢
  unfold rem8
  by_cases q : h.length = 8
  · have e' : (if h.length < 8 then h.length + 1 else 8) = 8 := if_neg (by omega)
    rw [e'] at ht ⊢
    rw [if_pos q]
    refine ⟨?_, by omega⟩
    have tl : h.tail.length = 7 := by rw [List.length_tail, q]
    rw [List.getD_eq_getElem?_getD, List.getD_eq_getElem?_getD, List.getElem?_append_left (by omega), List.getElem?_tail]
    congr 2
    omega
  · have e' : (if h.length < 8 then h.length + 1 else 8) = h.length + 1 := if_pos (by omega)
    rw [e'] at ht ⊢
    rw [if_neg q]
    refine ⟨?_, by omega⟩
    rw [List.getD_eq_getElem?_getD, List.getD_eq_getElem?_getD, List.getElem?_append_left (by omega)]
    congr 2
    omega
/-- all but the present state, the history and the games behind, of a content -/
def CRest (G : Mem) (ro l K : Nat → Nat) (W : WSt) : Prop := (∀ j, j < 2 → mI G 53 j = bI (W.2.2.1 j).isSome ∧ ∀ A, W.2.2.1 j = some A → ARk G ro l K (10 + j) A) ∧ (CBy (mI G) W.2.2.2.1.1 W.2.2.2.1.2 ∧ mI G 1 1 = W.2.2.2.2.1.1 ∧ mI G 1 2 = W.2.2.2.2.1.2) ∧ (mI G 0 11 = nW W.2.2.2.2.2.2 ∧ W.2.2.2.2.2.2 ≤ 41 ∧ ∀ i, i < W.2.2.2.2.2.2 → mI G 54 i = nW (W.2.2.2.2.2.1 i) ∧ W.2.2.2.2.2.1 i < 128) ∧ ∀ e, e < 12 → mI G (fa e + 9) 0 = nW 0
def CHis (G : Mem) (ro l K : Nat → Nat) (hs : List ASt) : Prop := (mI G 0 7 = nW hs.length ∧ hs.length ≤ 8) ∧ ∃ nw, nw < 8 ∧ mI G 0 6 = nW nw ∧ ∀ t, t < hs.length → ARk G ro l K (2 + (nw + 8 - t) % 8) (hs.getD (hs.length - 1 - t) as0)
theorem CDt.split (hD : CDt G ro l K W) : ARk G ro l K 0 W.1 ∧ CHis G ro l K W.2.1 ∧ CRa (mJ G) W.1 ∧ CRest G ro l K W := by
  obtain ⟨a1, a2, a3, a4, a5, a6, a7⟩ := hD
  exact ⟨a1, a2, a4, a3, a5, a6, a7⟩
theorem CDt.join (h1 : ARk G ro l K 0 W.1) (h2 : CHis G ro l K W.2.1) (h3 : CRa (mJ G) W.1) (h4 : CRest G ro l K W) : CDt G ro l K W := ⟨h1, h2, h4.1, h3, h4.2.1, h4.2.2.1, h4.2.2.2⟩
theorem CRest.perm (h : CSh G ro l K) (hD : CRest G ro l K W) {x : Nat → Nat → Int32} {y : Nat → Nat → Int64} {P : Nat → Nat → Option Nat} {ro' : Nat → Nat} (h2 : CSh (wA G x y P) ro' l K) (hs : ∀ j, j < 2 → ro' (10 + j) = ro (10 + j)) (hx : ∀ b j, ¬ (b = 0 ∧ (j = 6 ∨ j = 7)) → x b j = mI G b j) (hy : ∀ b, b ≠ 7 → y b = mJ G b) : CRest (wA G x y P) ro' l K W := by
  obtain ⟨a1, ⟨a2, a3, a4⟩, a5, a6⟩ := hD
  have r : ∀ b, b ≠ 0 → x b = mI G b := fun b hb => funext fun j => hx b j (fun q => hb q.1)
  refine ⟨fun j hj => ⟨by show x 53 j = _; rw [r 53 (by decide)]; exact (a1 j hj).1, fun A hA => ((a1 j hj).2 A hA).perm h (by omega) h2 (by omega) (hs j hj) (fun b hb => ⟨r b (by omega), hy b (by omega)⟩)⟩, ⟨a2.frame (by show x 2 0 = _; rw [r 2 (by decide)]) (r 3 (by decide)), by show x 1 1 = _; rw [r 1 (by decide)]; exact a3, by show x 1 2 = _; rw [r 1 (by decide)]; exact a4⟩, ?_, fun e he => ?_⟩
  · show x 0 11 = _ ∧ _ ∧ ∀ i, i < _ → x 54 i = _ ∧ _
    rw [hx 0 11 (by omega), r 54 (by decide)]; exact a5
  · have := fa_ok he
    show x (fa e + 9) 0 = _
    rw [r _ (by omega)]; exact a6 e he
/-- the work becomes the present state -/
theorem commit_ok (h : CSh G ro l K) (hR : Rom G K d) {B : ASt} (h0 : ARk G ro l K 0 W.1) (h1 : ARk G ro l K 1 B) (hH : CHis G ro l K W.2.1) (hD : CRest G ro l K W) :
    ∃ G' ro', fX6_commit 0 G = some ((), G') ∧ CSh G' ro' l K ∧ Rom G' K d ∧ CDt G' ro' l K (B, rem8 W.2.1 W.1, W.2.2) ∧ RKp G G' ∧ (∀ b j, b ≠ 0 → mI G' b j = mI G b j) := by
  obtain ⟨⟨c1, c2⟩, nw, c3, c4, c5⟩ := hH
  generalize hw : (if nw + 1 < 8 then nw + 1 else 0) = nw'
  have hw8 : nw' < 8 := by rw [← hw]; split <;> omega
  have hwm : nw' = (nw + 1) % 8 := by rw [← hw]; split <;> omega
  let ro' : Nat → Nat := fun i => if i = 0 then ro 1 else if i = 1 then ro (2 + nw') else if i = 2 + nw' then ro 0 else ro i
  have r0 : ro' 0 = ro 1 := rfl
  have r1 : ro' 1 = ro (2 + nw') := rfl
  have r2 : ro' (2 + nw') = ro 0 := by
    show (if 2 + nw' = 0 then _ else if 2 + nw' = 1 then _ else if 2 + nw' = 2 + nw' then _ else _) = _
    rw [if_neg (by omega), if_neg (by omega), if_pos rfl]
  have ro3 : ∀ i, i ≠ 0 → i ≠ 1 → i ≠ 2 + nw' → ro' i = ro i := fun i q1 q2 q3 => by
    show (if i = 0 then _ else if i = 1 then _ else if i = 2 + nw' then _ else _) = _
    rw [if_neg q1, if_neg q2, if_neg q3]
  generalize hx : u2 (u2 (mI G) 0 6 (nW nw')) 0 7 (nW (rem8 W.2.1 W.1).length) = x
  generalize hP : u2 (u2 (u2 (mP G) 51 nw' (some (fa (ro 0)))) 0 3 (some (fa (ro 1)))) 0 4 (some (fa (ro (2 + nw')))) = P
  have xo : ∀ b j, ¬ (b = 0 ∧ (j = 6 ∨ j = 7)) → x b j = mI G b j := fun b j q => by rw [← hx, u2_other (by omega), u2_other (by omega)]
  have x6 : x 0 6 = nW nw' := by rw [← hx, u2_other (by omega), u2_same]
  have x7 : x 0 7 = nW (rem8 W.2.1 W.1).length := by rw [← hx, u2_same]
  have P3 : P 0 3 = some (fa (ro 1)) := by rw [← hP, u2_other (by omega), u2_same]
  have P4 : P 0 4 = some (fa (ro (2 + nw'))) := by rw [← hP, u2_same]
  have P51 : ∀ i, P 51 i = if i = nw' then some (fa (ro 0)) else mP G 51 i := fun i => by
    rw [← hP, u2_other (by omega), u2_other (by omega)]
    by_cases q : i = nw'
    · rw [if_pos q, q, u2_same]
    · rw [if_neg q, u2_other (by omega)]
  have Po : ∀ b k, ¬ (b = 51 ∧ k = nw') → ¬ (b = 0 ∧ (k = 3 ∨ k = 4)) → P b k = mP G b k := fun b k q1 q2 => by rw [← hP, u2_other (by omega), u2_other (by omega), u2_other (by omega)]
  have q51 := h.2.2.1
  -- the tally counts on the new memory
  have hbase : ∀ y, CSh (wA G x y P) ro' l K := fun y => by
    refine h.perm (fun k k3 k4 => Po 0 k (by omega) (by omega)) (by rw [P3, r0]) (by rw [P4, r1]) (fun i hi => ?_) (fun b b0 b51 => funext fun k => Po b k (by omega) (by omega)) ⟨fun i hi => ?_, fun i j hi hj hij => ?_⟩ (fun j hj => ro3 _ (by omega) (by omega) (by omega))
    · rw [P51]
      by_cases q : i = nw'
      · rw [if_pos q, q, r2]
      · rw [if_neg q, ro3 _ (by omega) (by omega) (by omega)]; exact q51.2 i hi
    · by_cases a : i = 0
      · rw [a, r0]; exact h.r (by decide)
      · by_cases b : i = 1
        · rw [b, r1]; exact h.r (by omega)
        · by_cases c : i = 2 + nw'
          · rw [c, r2]; exact h.r (by decide)
          · rw [ro3 i a b c]; exact h.r hi
    · have val : ∀ i, i < 12 → ∃ i', i' < 12 ∧ ro' i = ro i' ∧ ((i = 0 ∧ i' = 1) ∨ (i = 1 ∧ i' = 2 + nw') ∨ (i = 2 + nw' ∧ i' = 0) ∨ (i ≠ 0 ∧ i ≠ 1 ∧ i ≠ 2 + nw' ∧ i' = i)) := fun i hi => by
        by_cases a : i = 0
        · exact ⟨1, by decide, by rw [a, r0], Or.inl ⟨a, rfl⟩⟩
        · by_cases b : i = 1
          · exact ⟨2 + nw', by omega, by rw [b, r1], Or.inr (Or.inl ⟨b, rfl⟩)⟩
          · by_cases c : i = 2 + nw'
            · exact ⟨0, by decide, by rw [c, r2], Or.inr (Or.inr (Or.inl ⟨c, rfl⟩))⟩
            · exact ⟨i, hi, ro3 i a b c, Or.inr (Or.inr (Or.inr ⟨a, b, c, rfl⟩))⟩
      obtain ⟨i', a1, a2, a3⟩ := val i hi
      obtain ⟨j', b1, b2, b3⟩ := val j hj
      rw [a2, b2]
      exact h.rne a1 b1 (by omega)
  have hb := hbase (mJ G)
  have soft : ∀ b, ¬ (b < 9 ∨ (51 ≤ b ∧ b < 55) ∨ (265 ≤ b ∧ b < 265)) → x b = mI G b ∧ mJ G b = mJ G b := fun b q => ⟨funext fun j => xo b j (by omega), rfl⟩
  have hB : ARk (wA G x (mJ G) P) ro' l K 0 B := h1.perm h (by decide) hb (by decide) r0 soft
  obtain ⟨y', e1, e2, e3⟩ := countContinuations_ok (t := 5) (g := 6) (kk := 7) hB.2 hB.1 hb.ta
  have hb' := hbase y'
  refine ⟨wA G x y' P, ro', ?_, hb', hR, CDt.join ?_ ⟨⟨x7, ?_⟩, nw', hw8, x6, fun t ht => ?_⟩ e3 ?_, fun b q1 q2 => ⟨funext fun j => xo b j (by omega), e2 b (by omega), rfl, rfl, fun k => Po b k (by omega) (by omega)⟩, fun b j q => xo b j (by omega)⟩
  · -- the run
    have c80 : ∀ x2, x2 0 7 = nW (rem8 W.2.1 W.1).length → x2 = x → fX6_commit_80 0 (wA G x2 (mJ G) P) = some ((), wA G x y' P) := fun x2 _ q => by
      subst q
      unfold fX6_commit_80
      have g1 : gR (wA G x2 (mJ G) P) 16 0 1 = some 5 := hb.f1
      have g3 : gR (wA G x2 (mJ G) P) 16 0 3 = some (fa (ro' 0)) := hb.f3
      rw [g1, Option.bind_some, g3, Option.bind_some, wA_ck h.ta.1.1, e1, Option.bind_some]
      rfl
    have c22 : ∀ v, v = nW nw' → fX6_commit_22 0 0 v G = some ((), wA G x y' P) := fun v hv => by
      subst hv
      have gF6 : ∀ x2 P2, gF (wA G x2 (mJ G) P2) 16 0 6 = some (x2 0 6) := fun x2 P2 => wA_gF h.t
      have gF7 : ∀ x2 P2, gF (wA G x2 (mJ G) P2) 16 0 7 = some (x2 0 7) := fun x2 P2 => wA_gF h.t
      unfold fX6_commit_22
      simp only [lits]
      rw [show pI G 16 0 6 (nW nw') = some (wA G (u2 (mI G) 0 6 (nW nw')) (mJ G) (mP G)) from wA_pI (x := mI G) (y := mJ G) (P := mP G) h.t, Option.bind_some, wA_gR h.t h.1.2.2.2.2.2.2.1, Option.bind_some, gF6, u2_same, Option.bind_some, wA_gQ q51.1.1 (by rw [q51.1.2]; exact hw8) (by rw [q51.1.2]; decide) (q51.2 nw' hw8), Option.bind_some, Option.bind_some, Option.bind_some, wA_gR h.t h.1.2.2.2.2.1, Option.bind_some, wA_pQ q51.1.1 (h.ss (show 0 < 12 by decide)).1.t (by rw [q51.1.2]; exact hw8) (by rw [q51.1.2]; decide), Option.bind_some, wA_gR h.t (by rw [u2_other (by omega)]; exact h.1.2.2.2.2.2.1), Option.bind_some, wA_pR h.t, Option.bind_some, wA_pR h.t, Option.bind_some, hP, gF7, u2_other (by omega), c1, Option.bind_some]
      have el := rem8_len (A := W.1) c2
      by_cases q : W.2.1.length < 8
      · rw [if_pos q] at el
        rw [if_neg (by rw [nW_le (by decide) (by omega)]; omega), Option.bind_some, nW_add, ← el, wA_pI h.t, Option.bind_some]
        exact c80 _ u2_same hx
      · rw [if_neg q] at el
        rw [if_pos (by rw [nW_le (by decide) (by omega)]; omega)]
        have eq7 : u2 (mI G) 0 6 (nW nw') 0 7 = nW (rem8 W.2.1 W.1).length := by
          rw [u2_other (by omega), c1, el, show W.2.1.length = 8 by omega]
        exact c80 _ eq7 (by rw [← hx, u2_id eq7])
    unfold fX6_commit fX6_commit_0
    simp only [lits]
    rw [h.gF0, c4, Option.bind_some, nW_add]
    by_cases q : nw + 1 < 8
    · rw [if_pos q] at hw
      rw [if_neg (by rw [nW_le (by decide) (by omega)]; omega), Option.bind_some, nW_add]
      exact c22 _ (by rw [hw])
    · rw [if_neg q] at hw
      rw [if_pos (by rw [nW_le (by decide) (by omega)]; omega)]
      exact c22 _ (by rw [hw])
  · exact h1.perm h (by decide) hb' (by decide) r0 (fun b q => ⟨funext fun j => xo b j (by omega), e2 b (by omega)⟩)
  · have := rem8_len (A := W.1) c2
    show (rem8 W.2.1 W.1).length ≤ 8
    rw [this]; split <;> omega
  · have len8 : (rem8 W.2.1 W.1).length ≤ 8 := by
      have := rem8_len (A := W.1) c2
      rw [this]; split <;> omega
    have ht : t < (rem8 W.2.1 W.1).length := ht
    show ARk _ ro' l K (2 + (nw' + 8 - t) % 8) ((rem8 W.2.1 W.1).getD ((rem8 W.2.1 W.1).length - 1 - t) as0)
    have sf : ∀ b, ¬ (b < 9 ∨ (51 ≤ b ∧ b < 55) ∨ (265 ≤ b ∧ b < 265)) → x b = mI G b ∧ y' b = mJ G b := fun b q => ⟨funext fun j => xo b j (by omega), e2 b (by omega)⟩
    cases t with
    | zero =>
      rw [show (nw' + 8 - 0) % 8 = nw' by omega, show (rem8 W.2.1 W.1).length - 1 - 0 = (rem8 W.2.1 W.1).length - 1 by omega, rem8_last c2]
      exact h0.perm h (by decide) hb' (by omega) r2 sf
    | succ t =>
      obtain ⟨z1, z2⟩ := rem8_old (A := W.1) c2 ht
      rw [z1]
      refine (c5 t z2).perm h (by omega) hb' (by omega) ?_ sf
      rw [ro3 _ (by omega) (by omega) (by omega)]
      congr 1
      omega
  · exact hD.perm h hb' (fun j hj => ro3 _ (by omega) (by omega) (by omega)) xo e2
end COMMIT
