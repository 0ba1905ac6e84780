/-! ===== what the class finds out on its board and in its tally ===== -/
def oMoves (A : ASt) (i : Nat) : List Nat := (List.range (A.1 * A.2.1 * 64)).filter fun k => !decide (gmv A.1 (A.1 * A.2.1) A.2.2.1 A.2.2.2.1 A.2.2.2.2 i k = 0)
def oDoubt (W : WSt) (z : Int32) : (Int32 ⊕ Nat) × WSt := (match ixZ z W.1.2.2.2.2 with | none => .inr 2 | some i => .inl (nW (oMoves W.1 i).length), W)
/-- the key of a move that is asked for -/
def keyZ (A : ASt) (z w : Int32) : Option (Nat × Nat) := match ixZ z A.2.2.2.2 with
  | none => none
  | some i => match ixZ w (oMoves A i).length with
    | none => none
    | some j => some (i, (oMoves A i).getD j 0)
def oOrig (W : WSt) (z w : Int32) : (Int32 ⊕ Nat) × WSt := (match keyZ W.1 z w with | none => .inr 2 | some q => .inl (nW (q.2 / 64)), W)
def oTarg (W : WSt) (z w : Int32) : (Int32 ⊕ Nat) × WSt := (match keyZ W.1 z w with | none => .inr 2 | some q => .inl (nW (q.2 % 64)), W)
def oWith (W : WSt) (z w : Int32) : (Int64 ⊕ Nat) × WSt := (match keyZ W.1 z w with | none => .inr 2 | some q => .inl (Int64.ofNat (gmv W.1.1 (W.1.1 * W.1.2.1) W.1.2.2.1 W.1.2.2.2.1 W.1.2.2.2.2 q.1 q.2)), W)
def mdS (A : ASt) : Nat → Int32 × Nat
  | 0 => (-nW 1, 1)
  | i + 1 => if (oMoves A i).length ≤ (mdS A i).2 then mdS A i else (nW i, (oMoves A i).length)
/-- the games after which a piece stands on a square -/
def gwp (A : ASt) (q m : Nat) : Nat := sumN (pcA A) fun p => if lyp (lyA A) p q = m then lyg (lyA A) p else 0
def oPiece (W : WSt) (x y co k : Int32) : (Int64 ⊕ Nat) × WSt := (match sqZ x y W.1.1 W.1.2.1 with | none => .inr 2 | some q => match ixZ co 2 with | none => .inr 0 | some a => match ixZ k 5 with | none => .inr 0 | some b => .inl (Int64.ofNat (gwp W.1 q (1 + 5 * a + b))), W)
section CREADS2
variable {G : Mem} {ro l K : Nat → Nat} {W : WSt} {d : Nat}
/-- only the present state's board has changed, and it stays a board -/
theorem CDt.board (h : CSh G ro l K) (hR : Rom G K d) (hD : CDt G ro l K W) {x : Nat → Nat → Int32} (hx : ∀ a j, ¬ (a = fa (ro 0) + 1 ∧ (j = 3 ∨ j = 5 ∨ j = 6)) → a ≠ fa (ro 0) + 2 → a ≠ fa (ro 0) + 3 → x a j = mI G a j) (ho : BOff W.1.1 W.1.2.1 x (fa (ro 0) + 1)) : CSh (wIJ G x (mJ G)) ro l K ∧ Rom (wIJ G x (mJ G)) K d ∧ CDt (wIJ G x (mJ G)) ro l K W ∧ RKp G (wIJ G x (mJ G)) := by
  obtain ⟨a1, a2, a3, a4⟩ := hD.split
  have hr := h.r (show 0 < 12 by decide)
  have fr := fa_ok hr
  have lp := h.lp hr
  have r : ∀ b, b ≠ fa (ro 0) + 1 → b ≠ fa (ro 0) + 2 → b ≠ fa (ro 0) + 3 → x b = mI G b := fun b q1 q2 q3 => funext fun j => hx b j (fun q => q1 q.1) q2 q3
  have g : Gro (fa (ro 0)) (CHa (fa (ro 0)) (l (ro 0))) G (wIJ G x (mJ G)) (K (ro 0)) (K (ro 0)) := Gro.of_wij fun b _ hn => ⟨r b (fun q => hn (Or.inl (by omega))) (fun q => hn (Or.inl (by omega))) (fun q => hn (Or.inl (by omega))), rfl⟩
  have s := sto_gro (P := fun _ => False) h hR a4.2.2.2 (show 0 < 12 by decide) (fun z q => Or.inl q) g (h.ss (show 0 < 12 by decide)) h.fr (Or.inl rfl) (by show x _ _ = _; rw [r _ (by omega) (by omega) (by omega)]; exact a4.2.2.2 _ hr)
  have u1 : upN l (ro 0) (l (ro 0)) = l := funext fun i => by
    unfold upN
    by_cases q : i = ro 0
    · rw [if_pos q, q]
    · rw [if_neg q]
  have u2' : upN K (ro 0) (K (ro 0)) = K := funext fun i => by
    unfold upN
    by_cases q : i = ro 0
    · rw [if_pos q, q]
    · rw [if_neg q]
  rw [u1, u2'] at s
  have rep : ARk (wIJ G x (mJ G)) ro l K 0 W.1 := by
    obtain ⟨⟨g1, g2, g3, g4, g5, g6, g7⟩, b2⟩ := a1
    have hm := b2.2.2.1
    refine ⟨⟨g1, ⟨?_, ?_⟩, ho, ?_, fun i hi j hj => ?_, ?_, g7⟩, b2⟩
    · show x _ 0 = _; rw [hx _ 0 (by omega) (by omega) (by omega)]; exact g2.1
    · show x _ 1 = _; rw [hx _ 1 (by omega) (by omega) (by omega)]; exact g2.2
    · show x _ 1 = _; rw [r _ (by omega) (by omega) (by omega)]; exact g4
    · show x _ j = _; rw [r _ (by omega) (by omega) (by omega)]; exact g5 i hi j hj
    · exact g6.copy b2.2.1 b2.2.2.2.1 (fun j _ => by show x _ j = _; rw [r _ (by omega) (by omega) (by omega)]) (fun _ _ => rfl) (fun _ _ => rfl) (fun j _ => by show x _ j = _; rw [r _ (by omega) (by omega) (by omega)]) (fun j _ => by show x _ j = _; rw [r _ (by omega) (by omega) (by omega)])
  exact ⟨s.1, s.2.1, CDt.join rep (a2.stp s (by decide) (fun q => q)) a3 (a4.stp s (by decide) (fun b q => q.elim)), s.2.2.2.1⟩
/-- a position is shown -/
theorem cshow_ok (h : CSh G ro l K) (hR : Rom G K d) (hD : CDt G ro l K W) {i : Nat} (hi : i < pcA W.1) : ∃ x', fX3_show (fa (ro 0)) (nW W.1.2.2.2.2) (nW i) G = some ((), wIJ G x' (mJ G)) ∧ (CSh (wIJ G x' (mJ G)) ro l K ∧ Rom (wIJ G x' (mJ G)) K d ∧ CDt (wIJ G x' (mJ G)) ro l K W ∧ RKp G (wIJ G x' (mJ G))) ∧ BR W.1.1 W.1.2.1 (lyp (lyA W.1) i) x' (fa (ro 0) + 1) ∧ BK W.1.1 (W.1.1 * W.1.2.1) (lyp (lyA W.1) i) x' (fa (ro 0) + 1) ∧ x' 8 = mI G 8 := by
  obtain ⟨a1, -⟩ := hD.split
  have hr := h.r (show 0 < 12 by decide)
  have fr := fa_ok hr
  have hrun := (lyN_run a1.2.2.1 a1.2.2.2.2.1).1
  have h40 : pcA W.1 ≤ 40 := hrun.1
  have hm := a1.2.2.2.1
  obtain ⟨g1, g2, g3, g4, g5, g6, g7⟩ := a1.1
  obtain ⟨x', e1, e2, e3, e4⟩ := show_ok (x := mI G) (y := mJ G) g1.1 a1.2.1 (hrun.2 i hi) (show W.1.2.2.2.2 < 11 by omega) (show i < 40 by omega) g2 g3 ((g6.1 _ (Nat.le_refl _)).1.2 i hi).2
  rw [wij_self] at e1
  exact ⟨x', e1, hD.board h hR (fun a j q1 q2 q3 => e2 a j (by omega) q3) (BR.bp a1.2.1 e3 e4).2.1, e3, e4, funext fun j => e2 8 j (by omega) (by omega)⟩
theorem cattacked_ok (hC : CI G (d + 1) W) {p x y co : Int32} : COut G (d + 1) (fX6_isAttacked 0 p x y co G) (oAtt W p x y co) := by
  obtain ⟨ro, l, K, h1, h2, h3⟩ := id hC
  obtain ⟨p1, -⟩ := h3.split
  obtain ⟨b0, b1, b2, b3⟩ := h1.bd p1
  have hrun := (lyN_run p1.2.2.1 p1.2.2.2.2.1).1
  have h40 : pcA W.1 ≤ 40 := hrun.1
  unfold fX6_isAttacked fX6_isAttacked_0 oAtt
  rw [ck_ok h1.t, reqPos_ok h1 h2 p1, Option.bind_some]
  rcases ixZ_spec (z := p) (show pcA W.1 < 2147483648 by omega) with ⟨i, e1, e2, rfl, -, -⟩ | ⟨e1, -, -⟩
  · rw [e1]
    show COut G (d + 1) (ck G 16 0 ((fX6_requireSquare 0 x y G).bind fun q3 => _)) _
    rw [ck_ok h1.t, reqSq_ok h1 h2 p1, Option.bind_some]
    rcases sqZ_spec (x := x) (y := y) p1.2.1 with ⟨a, b, f1, f2, f3, rfl, rfl⟩ | f1
    · have ht := grid_lt f3 f2
      rw [f1]
      show COut G (d + 1) (ck G 16 0 ((fX6_requireColour 0 co G).bind fun q5 => _)) _
      rw [ck_ok h1.t, reqCol_ok h2, Option.bind_some]
      rcases ixZ_spec (z := co) (show 2 < 2147483648 by decide) with ⟨k, k1, k2, rfl, -, -⟩ | ⟨k1, -, -⟩
      · obtain ⟨x', s1, ⟨s2, s3, s4, s5⟩, s6, s7, -⟩ := cshow_ok h1 h2 h3 e2
        rw [k1]
        show COut G (d + 1) ((gR G 16 0 3).bind fun v7 => (gR G 16 0 3).bind fun v8 => (gF G 13 v8 1).bind fun v9 => ck G 13 v7 ((fX3_show v7 v9 (nW i) G).bind fun q10 => _)) _
        have gb : gR (wIJ G x' (mJ G)) 13 (fa (ro 0)) 0 = some (fa (ro 0) + 1) := b0
        rw [h1.f3, Option.bind_some, Option.bind_some, b3, Option.bind_some, ck_ok p1.1.1.1.t, s1, Option.bind_some, s2.f3, Option.bind_some, gb, Option.bind_some, Option.bind_some, gb, Option.bind_some, ck_wij, ck_ok p1.1.1.1.b.1, placeOf_ok f2, Option.bind_some, ck_wij, ck_ok p1.1.1.1.b.1, isReached_ok p1.1.1.1.b p1.2.1 (hrun.2 i e2).1 s6 ht k2, Option.bind_some, rz_ok (bI_01 _)]
        exact ⟨_, rfl, ⟨ro, l, K, s2, s3, s4⟩, s5⟩
      · rw [k1]; exact COut.same hC
    · rw [f1]; exact COut.same hC
  · rw [e1]; exact COut.same hC
theorem ntF_open : ∀ j, j < 7 → ntF (-1) (-1) (-1) (-1) 0 0 j = opN j := by decide
/-! the tally -/
/-- the games of a note are counted by their moves -/
theorem ccg_ok (h : CSh G ro l K) (hD : CDt G ro l K W) {i : Nat} (hi : i < W.1.2.2.2.2) : ∃ x' y', fX4_countGames 5 (fa (ro 0)) (nW i) G = some ((), wIJ G x' y') ∧ CDt (wIJ G x' y') ro l K W ∧ RKp G (wIJ G x' y') ∧ x' 5 1 = nW (W.1.1 * W.1.2.1 * 64) ∧ ∀ k, k < W.1.1 * W.1.2.1 * 64 → y' 6 k = Int64.ofNat (gmv W.1.1 (W.1.1 * W.1.2.1) W.1.2.2.1 W.1.2.2.2.1 W.1.2.2.2.2 i k) := by
  obtain ⟨a1, a2, a3, a4⟩ := hD.split
  have hr := h.r (show 0 < 12 by decide)
  have fr := fa_ok hr
  have lp := h.lp hr
  obtain ⟨y', e1, e2, e3⟩ := countGames_ok a1.2 a1.1 h.ta a3 (by omega) (by omega) hi
  obtain ⟨-, -, -, -, t1, o1, -⟩ := id hD
  refine ⟨_, y', e1, hD.soft h (fun b hb => ⟨u2_arow (by omega), e2 b (by omega)⟩) ⟨u2_apart (by decide), u2_apart (by decide)⟩ (u2_arow (by decide)) (e2 7 (by decide)) rfl rfl rfl ⟨t1.1.frame (u2_apart (by decide)) (u2_arow (by decide)), by rw [u2_apart (by decide)]; exact t1.2.1, by rw [u2_apart (by decide)]; exact t1.2.2⟩ (by rw [u2_arow (by decide), u2_arow (by decide)]; exact o1), RKp.wij (fun b q1 q2 => ⟨u2_arow (by omega), e2 b (by omega)⟩), u2_same, e3⟩
theorem moves_len {A : ASt} (hA : AAOK A) {i : Nat} : (oMoves A i).length ≤ 2304 := by
  have hn := szs36 hA.1
  unfold oMoves
  refine Nat.le_trans (List.length_filter_le _ _) ?_
  rw [List.length_range]; omega
theorem cdoubt_ok (hC : CI G (d + 1) W) {z : Int32} : COut G (d + 1) (fX6_doubt 0 z G) (oDoubt W z) := by
  obtain ⟨ro, l, K, h1, h2, h3⟩ := id hC
  obtain ⟨p1, -⟩ := h3.split
  have hm := p1.2.2.2.1
  have hn := szs36 p1.2.1
  unfold fX6_doubt fX6_doubt_0 oDoubt
  rw [ck_ok h1.t, reqNote_ok h1 h2 p1, Option.bind_some]
  rcases ixZ_spec (z := z) (show W.1.2.2.2.2 < 2147483648 by omega) with ⟨i, e1, e2, rfl, -, -⟩ | ⟨e1, -, -⟩
  · obtain ⟨x', y', f1, f2, f3, f4, f5⟩ := ccg_ok h1 h3 e2
    have mc := moveCount_ok (G := G) (x := x') (y := y') h1.ta f4 (by omega) f5 (fun k _ => gmv_lt p1.2.2.1 hn hm p1.2.2.2.2.1 e2)
    have s2 : CSh (wIJ G x' y') ro l K := h1
    rw [e1]
    show COut G (d + 1) ((gR G 16 0 1).bind fun v3 => (gR G 16 0 3).bind fun v4 => ck G 14 v3 ((fX4_countGames v3 v4 (nW i) G).bind fun q5 => _)) _
    rw [h1.f1, Option.bind_some, h1.f3, Option.bind_some, ck_ok h1.ta.1.1, f1, Option.bind_some, s2.f1, Option.bind_some, ck_wij, ck_ok h1.ta.1.1, mc, Option.bind_some, cnt_filter]
    exact ⟨_, rfl, ⟨ro, l, K, s2, h2, f2⟩, f3⟩
  · rw [e1]; exact COut.same hC
/-- a move is asked for by its number -/
theorem creqMove_ok (h1 : CSh G ro l K) (h2 : Rom G K (d + 1)) (h3 : CDt G ro l K W) {z w : Int32} : ∃ x' y', fX6_requireMove 0 z w G = some (match keyZ W.1 z w with | none => .inr 2 | some q => .inl (nW q.2), wIJ G x' y') ∧ CDt (wIJ G x' y') ro l K W ∧ RKp G (wIJ G x' y') ∧ ∀ q, keyZ W.1 z w = some q → q.1 < W.1.2.2.2.2 ∧ q.2 < W.1.1 * W.1.2.1 * 64 ∧ y' 6 q.2 = Int64.ofNat (gmv W.1.1 (W.1.1 * W.1.2.1) W.1.2.2.1 W.1.2.2.2.1 W.1.2.2.2.2 q.1 q.2) := by
  obtain ⟨p1, -⟩ := h3.split
  have hm := p1.2.2.2.1
  have hn := szs36 p1.2.1
  unfold fX6_requireMove fX6_requireMove_0 keyZ
  simp only [lits]
  rw [ck_ok h1.t, reqNote_ok h1 h2 p1, Option.bind_some]
  rcases ixZ_spec (z := z) (show W.1.2.2.2.2 < 2147483648 by omega) with ⟨i, e1, e2, rfl, -, -⟩ | ⟨e1, -, -⟩
  · obtain ⟨x', y', f1, f2, f3, f4, f5⟩ := ccg_ok h1 h3 e2
    have ml : (oMoves W.1 i).length ≤ 2304 := moves_len p1.2
    have mc : fX4_moveAt 5 w (wIJ G x' y') = some (nth (oMoves W.1 i) w, wIJ G x' y') := moveAt_ok (G := G) (x := x') (y := y') h1.ta f4 (by omega) f5 (fun k _ => gmv_lt p1.2.2.1 hn hm p1.2.2.2.2.1 e2) w
    have s2 : CSh (wIJ G x' y') ro l K := h1
    have thw' : (thw 2 (wIJ G x' y') : Option ((Int32 ⊕ Nat) × Mem)) = some (.inr 2, wIJ G x' y') := (h2.wij (x := x') (y := y')).thw
    refine ⟨x', y', ?_, f2, f3, fun q hq => ?_⟩
    · rw [e1]
      show ((gR G 16 0 1).bind fun v3 => (gR G 16 0 3).bind fun v4 => ck G 14 v3 ((fX4_countGames v3 v4 (nW i) G).bind fun q5 => _)) = _
      rw [h1.f1, Option.bind_some, h1.f3, Option.bind_some, ck_ok h1.ta.1.1, f1, Option.bind_some, s2.f1, Option.bind_some, ck_wij, ck_ok h1.ta.1.1, mc, Option.bind_some]
      show (if nth (oMoves W.1 i) w = -nW 1 then thw 2 (wIJ G x' y') else some (.inl (nth (oMoves W.1 i) w), wIJ G x' y')) = some (match (match ixZ w (oMoves W.1 i).length with | none => none | some j => some (i, (oMoves W.1 i).getD j 0)) with | none => .inr 2 | some q => .inl (nW q.2), wIJ G x' y')
      rcases ixZ_spec (z := w) (show (oMoves W.1 i).length < 2147483648 by omega) with ⟨j, g1, g2, rfl, -, -⟩ | ⟨g1, -, g3⟩
      · have mem : (oMoves W.1 i).getD j 0 < W.1.1 * W.1.2.1 * 64 := by
          have hj : (oMoves W.1 i).getD j 0 ∈ oMoves W.1 i := by
            rw [List.getD_eq_getElem?_getD, List.getElem?_eq_getElem g2]; exact List.getElem_mem g2
          exact List.mem_range.mp (List.mem_filter.mp hj).1
        rw [g1, nth_in _ j (by omega) g2, if_neg (nW_m1 (by omega))]
      · rw [g1, nth_out _ w (by omega) g3, if_pos (show (-1 : Int32) = -nW 1 from rfl), thw']
    · rw [e1] at hq
      have hq : (match ixZ w (oMoves W.1 i).length with | none => none | some j => some (i, (oMoves W.1 i).getD j 0)) = some q := hq
      rcases ixZ_spec (z := w) (show (oMoves W.1 i).length < 2147483648 by omega) with ⟨j, g1, g2, rfl, -, -⟩ | ⟨g1, -, -⟩
      · rw [g1] at hq
        cases hq
        have mem : (oMoves W.1 i).getD j 0 < W.1.1 * W.1.2.1 * 64 := by
          have hj : (oMoves W.1 i).getD j 0 ∈ oMoves W.1 i := by
            rw [List.getD_eq_getElem?_getD, List.getElem?_eq_getElem g2]; exact List.getElem_mem g2
          exact List.mem_range.mp (List.mem_filter.mp hj).1
        exact ⟨e2, mem, f5 _ mem⟩
      · rw [g1] at hq; cases hq
  · rw [e1]
    exact ⟨mI G, mJ G, rfl, h3, RKp.rfl', fun q hq => by cases hq⟩
theorem corigin_ok (hC : CI G (d + 1) W) {z w : Int32} : COut G (d + 1) (fX6_moveOrigin 0 z w G) (oOrig W z w) := by
  obtain ⟨ro, l, K, h1, h2, h3⟩ := id hC
  obtain ⟨p1, -⟩ := h3.split
  have hn := szs36 p1.2.1
  obtain ⟨x', y', e1, e2, e3, e4⟩ := creqMove_ok h1 h2 h3 (z := z) (w := w)
  unfold fX6_moveOrigin fX6_moveOrigin_0 oOrig
  simp only [lits]
  rw [ck_ok h1.t, e1, Option.bind_some]
  cases hk : keyZ W.1 z w with
  | none => exact ⟨_, rfl, ⟨ro, l, K, h1, h2, e2⟩, e3⟩
  | some q =>
    have lt := (e4 q hk).2.1
    refine ⟨wIJ G x' y', ?_, ⟨ro, l, K, h1, h2, e2⟩, e3⟩
    show some (Sum.inl (nW q.2 >>> (nW 6 &&& nW 31)), wIJ G x' y') = some (Sum.inl (nW (q.2 / 64)), wIJ G x' y')
    rw [nW_shr (by omega) (by decide)]
theorem ctarget_ok (hC : CI G (d + 1) W) {z w : Int32} : COut G (d + 1) (fX6_moveTarget 0 z w G) (oTarg W z w) := by
  obtain ⟨ro, l, K, h1, h2, h3⟩ := id hC
  obtain ⟨x', y', e1, e2, e3, e4⟩ := creqMove_ok h1 h2 h3 (z := z) (w := w)
  unfold fX6_moveTarget fX6_moveTarget_0 oTarg
  simp only [lits]
  rw [ck_ok h1.t, e1, Option.bind_some]
  cases hk : keyZ W.1 z w with
  | none => exact ⟨_, rfl, ⟨ro, l, K, h1, h2, e2⟩, e3⟩
  | some q =>
    refine ⟨wIJ G x' y', ?_, ⟨ro, l, K, h1, h2, e2⟩, e3⟩
    show some (Sum.inl (nW q.2 &&& nW 63), wIJ G x' y') = some (Sum.inl (nW (q.2 % 64)), wIJ G x' y')
    rw [nW_and63]
theorem cwith_ok (hC : CI G (d + 1) W) {z w : Int32} : COut G (d + 1) (fX6_gamesWithMove 0 z w G) (oWith W z w) := by
  obtain ⟨ro, l, K, h1, h2, h3⟩ := id hC
  obtain ⟨p1, -⟩ := h3.split
  have hn := szs36 p1.2.1
  obtain ⟨x', y', e1, e2, e3, e4⟩ := creqMove_ok h1 h2 h3 (z := z) (w := w)
  have g0 : gR G 14 5 0 = some 6 := gR_ok h1.ta.1.1 h1.ta.1.2.1
  unfold fX6_gamesWithMove fX6_gamesWithMove_0 oWith
  rw [h1.f1, Option.bind_some, g0, Option.bind_some, ck_ok h1.t, e1, Option.bind_some]
  cases hk : keyZ W.1 z w with
  | none => exact ⟨_, rfl, ⟨ro, l, K, h1, h2, e2⟩, e3⟩
  | some q =>
    have lt := e4 q hk
    refine ⟨wIJ G x' y', ?_, ⟨ro, l, K, h1, h2, e2⟩, e3⟩
    show ((gJ (wIJ G x' y') 6 (nW q.2)).bind fun v5 => some (Sum.inl v5, wIJ G x' y')) = _
    rw [gJ_wij h1.ta.2.1.1 (by rw [h1.ta.2.1.2]; omega) (by rw [h1.ta.2.1.2]; decide), lt.2.2]
    rfl
theorem cmost_ok (hC : CI G d W) : COu G d (fX6_mostDoubtfulNote 0 G) ((mdS W.1 W.1.2.2.2.2).1, W) := by
  obtain ⟨ro, l, K, h1, h2, h3⟩ := hC
  obtain ⟨p1, -⟩ := h3.split
  have hm := p1.2.2.2.1
  have hn := szs36 p1.2.1
  have md : ∀ i, (mdS W.1 i).2 ≤ 2304 := fun i => by
    induction i with
    | zero => exact Nat.le_of_ble_eq_true rfl
    | succ i ih =>
      show (if _ then _ else _ : Int32 × Nat).2 ≤ 2304
      split
      · exact ih
      · exact moves_len p1.2
  obtain ⟨v, G', e1, e2, e3, e4⟩ := loop_by (f := fun (s : Int32 × Int32 × Int32) G => fX6_mostDoubtfulNote_6 0 s.1 s.2.1 s.2.2 G)
    (fun e s G' => ∃ i, e = W.1.2.2.2.2 - i ∧ i ≤ W.1.2.2.2.2 ∧ s = ((mdS W.1 i).1, nW (mdS W.1 i).2, nW i) ∧ CSh G' ro l K ∧ Rom G' K d ∧ CDt G' ro l K W ∧ RKp G G')
    (fun (v : Int32) G' => v = (mdS W.1 W.1.2.2.2.2).1 ∧ CI G' d W ∧ RKp G G')
    (by
      rintro e s G' ⟨i, rfl, hi, rfl, k1, k2, k3, k4⟩
      obtain ⟨q1, -⟩ := k3.split
      obtain ⟨-, -, -, b3⟩ := k1.bd q1
      show (∃ r G'', fX6_mostDoubtfulNote_6 0 (mdS W.1 i).1 (nW (mdS W.1 i).2) (nW i) G' = some (.inr r, G'') ∧ _) ∨ (∃ k' s' G'', k' < W.1.2.2.2.2 - i ∧ fX6_mostDoubtfulNote_6 0 (mdS W.1 i).1 (nW (mdS W.1 i).2) (nW i) G' = some (.inl s', G'') ∧ _)
      unfold fX6_mostDoubtfulNote_6 fX6_mostDoubtfulNote_49 fX6_mostDoubtfulNote_55
      simp only [lits]
      rw [k1.f3, Option.bind_some, b3, Option.bind_some]
      by_cases q : i = W.1.2.2.2.2
      · left
        rw [if_pos (by rw [nW_le (by omega) (by omega)]; omega), q]
        exact ⟨_, _, rfl, rfl, ⟨ro, l, K, k1, k2, k3⟩, k4⟩
      · right
        have hi2 : i < W.1.2.2.2.2 := by omega
        obtain ⟨x', y', f1, f2, f3, f4, f5⟩ := ccg_ok k1 k3 hi2
        have mc := moveCount_ok (G := G') (x := x') (y := y') k1.ta f4 (by omega) f5 (fun k _ => gmv_lt p1.2.2.1 hn hm p1.2.2.2.2.1 hi2)
        rw [cnt_filter] at mc
        have mc : fX4_moveCount 5 (wIJ G' x' y') = some (nW (oMoves W.1 i).length, wIJ G' x' y') := mc
        have s2 : CSh (wIJ G' x' y') ro l K := k1
        have ml : (oMoves W.1 i).length ≤ 2304 := moves_len p1.2
        have mi := md i
        rw [if_neg (by rw [nW_le (by omega) (by omega)]; omega), k1.f1, Option.bind_some, Option.bind_some, ck_ok k1.ta.1.1, f1, Option.bind_some, s2.f1, Option.bind_some, ck_wij, ck_ok k1.ta.1.1, mc, Option.bind_some, nW_add]
        have es : mdS W.1 (i + 1) = if (oMoves W.1 i).length ≤ (mdS W.1 i).2 then mdS W.1 i else (nW i, (oMoves W.1 i).length) := rfl
        by_cases q2 : (oMoves W.1 i).length ≤ (mdS W.1 i).2
        · rw [if_pos (show nW (oMoves W.1 i).length ≤ nW (mdS W.1 i).2 from (nW_le (by omega) (by omega)).mpr q2)]
          rw [if_pos q2] at es
          exact ⟨W.1.2.2.2.2 - (i + 1), _, _, by omega, rfl, i + 1, rfl, hi2, by rw [es], s2, k2, f2, k4.trans f3⟩
        · rw [if_neg (show ¬ nW (oMoves W.1 i).length ≤ nW (mdS W.1 i).2 by rw [nW_le (by omega) (by omega)]; exact q2)]
          rw [if_neg q2] at es
          exact ⟨W.1.2.2.2.2 - (i + 1), _, _, by omega, rfl, i + 1, rfl, hi2, by rw [es], s2, k2, f2, k4.trans f3⟩)
    FU W.1.2.2.2.2 (-nW 1, nW 1, nW 0) G (by show _ < 100000; omega) ⟨0, rfl, Nat.zero_le _, rfl, h1, h2, h3, RKp.rfl'⟩
  refine ⟨G', ?_, e3, e4⟩
  rw [← e2]
  unfold fX6_mostDoubtfulNote fX6_mostDoubtfulNote_0
  simp only [lits]
  exact e1
end CREADS2
