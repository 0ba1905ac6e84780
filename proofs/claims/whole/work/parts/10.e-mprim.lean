/-! ===== the reference's parser: its smallest steps ===== -/
/-- nothing is wrong so far, the token begins at s -/
def RSt (x : Nat → Nat → Int32) (o : Nat) (T : Nat → Nat) (L s : Nat) : Prop := RBy x o T L ∧ RTk x o T L s ∧ x o 25 = nW 0 ∧ x o 11 = nW 0 ∧ x o 12 = -nW 1
def RBd (x : Nat → Nat → Int32) (o : Nat) (e : Nat × Nat) : Prop := x o 25 = nW 1 ∧ x o 11 = nW e.1 ∧ x o 12 = nW e.2
/-- only what the parser writes has changed -/
def MTF (o : Nat) (x x' : Nat → Nat → Int32) : Prop := ∀ b j, ¬ (b = o ∧ (j = 11 ∨ j = 12 ∨ 21 ≤ j)) → x' b j = x b j
theorem MTF.rfl' {o : Nat} {x : Nat → Nat → Int32} : MTF o x x := fun _ _ _ => rfl
theorem MTF.trans {o : Nat} {x x' x2 : Nat → Nat → Int32} (h : MTF o x x') (h2 : MTF o x' x2) : MTF o x x2 := fun b j q => (h2 b j q).trans (h b j q)
theorem MTF.row {o b : Nat} {x x' : Nat → Nat → Int32} (h : MTF o x x') (hb : b ≠ o) : x' b = x b := funext fun j => h b j (fun q => hb q.1)
theorem misIn2_ok {v lo hb : Nat} (hv : v < 2147483648) (h1 : lo < 2147483648) (h2 : hb < 2147483648) {G : Mem} : fX7_isIn (nW v) (nW lo) (nW hb - nW 1) G = some (bI (decide (lo ≤ v ∧ v < hb)), G) := by
  by_cases h0 : hb = 0
  · unfold fX7_isIn fX7_isIn_0 fX7_isIn_14 fX7_isIn_15
    simp only [lits]
    rw [h0, decide_eq_false (by omega)]
    by_cases a : v < lo
    · rw [if_pos ((nW_lt hv h1).mpr a), rz0]; rfl
    · rw [if_neg (by rw [nW_lt hv h1]; exact a), if_pos, rz0]
      · rfl
      · rw [Int32.lt_iff_toInt_lt, nW_int hv, show (nW 0 - nW 1).toInt = -1 from by decide]; omega
  · rw [nW_sub (by omega), misIn_ok hv h1 (by omega)]
    have : (lo ≤ v ∧ v ≤ hb - 1) ↔ (lo ≤ v ∧ v < hb) := by omega
    rw [decide_eq_decide.mpr this]
section MPRIM
variable {G : Mem} {o : Nat} {x : Nat → Nat → Int32} {y : Nat → Nat → Int64} {T : Nat → Nat} {L : Nat}
theorem wrong_no (h : MSh G o) {k : Int32} : fX7_wrong o (nW 0) k (wIJ G x y) = some ((), wIJ G x y) := by
  unfold fX7_wrong fX7_wrong_0 fX7_wrong_11
  simp only [lits]
  rw [gF_wij h.t, Option.bind_some, if_pos trivial]
  by_cases e : x o 25 = nW 0
  · rw [if_pos e]
  · rw [if_neg e]
theorem wrong_bad (h : MSh G o) {k v : Int32} (hb : x o 25 = nW 1) : fX7_wrong o v k (wIJ G x y) = some ((), wIJ G x y) := by
  unfold fX7_wrong fX7_wrong_0 fX7_wrong_11
  simp only [lits]
  rw [gF_wij h.t, hb, Option.bind_some, if_neg (by decide)]
theorem wrong_yes (h : MSh G o) {s k : Nat} (hs : RSt x o T L s) : ∃ x', fX7_wrong o (nW 1) (nW k) (wIJ G x y) = some ((), wIJ G x' y) ∧ MTF o x x' ∧ RBd x' o (k, s) ∧ RBy x' o T L ∧ RTk x' o T L s := by
  obtain ⟨h1, h2, h3, h4, h5⟩ := hs
  unfold fX7_wrong fX7_wrong_0 fX7_wrong_11
  simp only [lits]
  rw [gF_wij h.t, h3, Option.bind_some, if_pos rfl, if_neg (by decide), pZ_wij (v := nW 1) h.t (Or.inr rfl), Option.bind_some, pI_wij h.t, Option.bind_some, gF_wij h.t, u2_other (by omega), u2_other (by omega), h2.2.2.1, Option.bind_some, pI_wij h.t, Option.bind_some]
  refine ⟨_, rfl, fun b j q => by rw [u2_other (by omega), u2_other (by omega), u2_other (by omega)], ⟨?_, ?_, u2_same⟩, h1.frame (by rw [u2_other (by omega), u2_other (by omega), u2_other (by omega)]) (by rw [u2_arow (by omega), u2_arow (by omega), u2_arow (by omega)]), h2.frame (fun j q1 q2 => by rw [u2_other (by omega), u2_other (by omega), u2_other (by omega)])⟩
  · rw [u2_other (by omega), u2_other (by omega), u2_same]
  · rw [u2_other (by omega), u2_same]
theorem go_bad (h : MSh G o) (hb : x o 25 = nW 1) : fX7_go o (wIJ G x y) = some ((), wIJ G x y) := by
  unfold fX7_go fX7_go_0 fX7_go_11
  simp only [lits]
  rw [gF_wij h.t, hb, Option.bind_some, if_neg (by decide)]
theorem go_ok (h : MSh G o) {s : Nat} (hs : RSt x o T L s) : ∃ x', fX7_go o (wIJ G x y) = some ((), wIJ G x' y) ∧ MTF o x x' ∧ RSt x' o T L (nx T L s) := by
  obtain ⟨h1, h2, h3, h4, h5⟩ := hs
  obtain ⟨x', q1, q2, q3⟩ := mnext_ok (y := y) h h1 (stp_le h2.1) h2.2.2.2.2
  unfold fX7_go fX7_go_0 fX7_go_11
  simp only [lits]
  rw [gF_wij h.t, h3, Option.bind_some, if_pos rfl, ck_wij, ck_ok h.t, q1, Option.bind_some]
  exact ⟨x', rfl, fun b j q => q2 b j (by omega), h1.next q2, q3, (q2 o 25 (by omega)).trans h3, (q2 o 11 (by omega)).trans h4, (q2 o 12 (by omega)).trans h5⟩
theorem here_bad (h : MSh G o) {lo hi : Int32} (hb : x o 25 = nW 1) : fX7_here o lo hi (wIJ G x y) = some (lo, wIJ G x y) := by
  have e14 : ∀ s1, fX7_here_14 o lo hi o s1 (wIJ G x y) = some (lo, wIJ G x y) := fun s1 => by
    unfold fX7_here_14 fX7_here_42 fX7_here_43 fX7_here_62
    simp only [lits]
    rw [ck_wij, ck_ok h.t, wrong_bad h hb, Option.bind_some, gF_wij h.t, hb, Option.bind_some, if_neg (by decide), wrong_no h, Option.bind_some, gF_wij h.t, hb, Option.bind_some, if_neg (by decide), ck_wij, ck_ok h.t]
  unfold fX7_here fX7_here_0
  rw [gF_wij h.t, Option.bind_some, e14, e14, ite_self]
theorem number_bad (h : MSh G o) {lo hi : Int32} (hb : x o 25 = nW 1) : fX7_number o lo hi (wIJ G x y) = some (lo, wIJ G x y) := by
  unfold fX7_number fX7_number_0
  rw [ck_wij, ck_ok h.t, here_bad h hb, Option.bind_some, ck_wij, ck_ok h.t, go_bad h hb]
  rfl
theorem column_bad (h : MSh G o) (hb : x o 25 = nW 1) : fX7_column o (wIJ G x y) = some (nW 0, wIJ G x y) := by
  unfold fX7_column fX7_column_0
  simp only [lits]
  rw [gR_wij, h.g0, Option.bind_some, h.s0 (by decide), Option.bind_some, ck_wij, ck_ok h.t, number_bad h hb]
  rfl
theorem row_bad (h : MSh G o) (hb : x o 25 = nW 1) : fX7_row o (wIJ G x y) = some (nW 0, wIJ G x y) := by
  unfold fX7_row fX7_row_0
  simp only [lits]
  rw [gR_wij, h.g0, Option.bind_some, h.s0 (by decide), Option.bind_some, ck_wij, ck_ok h.t, number_bad h hb]
  rfl
theorem semicolon_bad (h : MSh G o) (hb : x o 25 = nW 1) : fX7_semicolon o (wIJ G x y) = some ((), wIJ G x y) := by
  have e14 : ∀ s1, fX7_semicolon_14 o o s1 (wIJ G x y) = some ((), wIJ G x y) := fun s1 => by
    unfold fX7_semicolon_14
    simp only [lits]
    rw [ck_wij, ck_ok h.t, wrong_bad h hb, Option.bind_some, ck_wij, ck_ok h.t, go_bad h hb]
    rfl
  unfold fX7_semicolon fX7_semicolon_0
  rw [gF_wij h.t, Option.bind_some, e14, e14, ite_self]
theorem here_ok (h : MSh G o) {s lo hb : Nat} (hs : RSt x o T L s) (hlo : lo < 100) (hhb : hb < 100) :
    ∃ v x', fX7_here o (nW lo) (nW hb - nW 1) (wIJ G x y) = some (v, wIJ G x' y) ∧ MTF o x x' ∧ ((∃ e, pNum T L s lo hb = .inl e ∧ v = nW lo ∧ RBd x' o e ∧ RBy x' o T L ∧ RTk x' o T L s) ∨ (∃ k, pNum T L s lo hb = .inr (k, nx T L s) ∧ v = nW k ∧ x' = x)) := by
  have h4 := srt_le (T := T) (L := L) s
  have hr := rsr_eq _ (show srt T L s < 5 by omega)
  obtain ⟨h1, h2, h3, h5, h6⟩ := id hs
  have bad : ∀ x2, x2 o 25 = nW 1 → fX7_here_42 o (nW lo) o (wIJ G x2 y) = some (nW lo, wIJ G x2 y) := fun x2 q => by
    unfold fX7_here_42 fX7_here_43 fX7_here_62
    simp only [lits]
    rw [ck_wij, ck_ok h.t, wrong_no h, Option.bind_some, gF_wij h.t, q, Option.bind_some, if_neg (by decide)]
  unfold fX7_here fX7_here_0 fX7_here_14 pNum
  simp only [lits]
  rw [gF_wij h.t, h2.2.1, Option.bind_some]
  by_cases e3 : srt T L s = 3
  · rw [if_pos (by rw [hr.2.2.2.1.mpr e3]), if_pos e3, ck_wij, ck_ok h.t, wrong_no h, Option.bind_some, gF_wij h.t, h3, Option.bind_some, if_pos rfl, gF_wij h.t, h2.2.2.2.1 e3, Option.bind_some, misIn2_ok (by omega) (by omega) (by omega), Option.bind_some]
    by_cases e1 : vlN T L s < lo ∨ hb ≤ vlN T L s
    · obtain ⟨x', w1, w2, w3, w4⟩ := wrong_yes (y := y) (k := 2) h hs
      rw [decide_eq_false (by omega), if_pos bIf, if_pos e1]
      unfold fX7_here_43 fX7_here_62
      simp only [lits]
      rw [ck_wij, ck_ok h.t, w1, Option.bind_some, gF_wij h.t, w3.1, Option.bind_some, if_neg (by decide)]
      exact ⟨_, x', rfl, w2, Or.inl ⟨_, rfl, rfl, w3, w4⟩⟩
    · rw [decide_eq_true (by omega), if_neg bIt, if_neg e1]
      unfold fX7_here_42 fX7_here_43 fX7_here_62
      simp only [lits]
      rw [ck_wij, ck_ok h.t, wrong_no h, Option.bind_some, gF_wij h.t, h3, Option.bind_some, if_pos rfl, gF_wij h.t, h2.2.2.2.1 e3, Option.bind_some, Nat.min_eq_left (by omega)]
      exact ⟨_, x, rfl, MTF.rfl', Or.inr ⟨_, rfl, rfl, rfl⟩⟩
  · obtain ⟨x', w1, w2, w3, w4⟩ := wrong_yes (y := y) (k := 1) h hs
    rw [if_neg (by rw [nW_eq (by omega) (by decide)]; exact fun q => e3 (hr.2.2.2.1.mp q)), if_neg e3, ck_wij, ck_ok h.t, w1, Option.bind_some, gF_wij h.t, w3.1, Option.bind_some, if_neg (by decide), bad x' w3.1]
    exact ⟨_, x', rfl, w2, Or.inl ⟨_, rfl, rfl, w3, w4⟩⟩
theorem number_ok (h : MSh G o) {s lo hb : Nat} (hs : RSt x o T L s) (hlo : lo < 100) (hhb : hb < 100) :
    ∃ v x', fX7_number o (nW lo) (nW hb - nW 1) (wIJ G x y) = some (v, wIJ G x' y) ∧ MTF o x x' ∧ ((∃ e, pNum T L s lo hb = .inl e ∧ v = nW lo ∧ RBd x' o e ∧ RBy x' o T L ∧ RTk x' o T L s) ∨ (∃ k s', pNum T L s lo hb = .inr (k, s') ∧ v = nW k ∧ RSt x' o T L s')) := by
  obtain ⟨v, x', q1, q2, q3⟩ := here_ok (y := y) h hs hlo hhb
  unfold fX7_number fX7_number_0
  rw [ck_wij, ck_ok h.t, q1, Option.bind_some, ck_wij, ck_ok h.t]
  rcases q3 with ⟨e, e1, e2, e3, e4⟩ | ⟨k, e1, e2, rfl⟩
  · rw [go_bad h e3.1, Option.bind_some]
    exact ⟨v, x', rfl, q2, Or.inl ⟨e, e1, e2, e3, e4⟩⟩
  · obtain ⟨x2, g1, g2, g3⟩ := go_ok (y := y) h hs
    rw [g1, Option.bind_some]
    exact ⟨v, x2, rfl, g2, Or.inr ⟨k, _, e1, e2, g3⟩⟩
theorem column_ok (h : MSh G o) {s c r : Nat} (hz : MSz x o c r) (hc : c < 100) (hs : RSt x o T L s) :
    ∃ v x', fX7_column o (wIJ G x y) = some (v, wIJ G x' y) ∧ MTF o x x' ∧ ((∃ e, pNum T L s 0 c = .inl e ∧ v = nW 0 ∧ RBd x' o e ∧ RBy x' o T L ∧ RTk x' o T L s) ∨ (∃ k s', pNum T L s 0 c = .inr (k, s') ∧ v = nW k ∧ RSt x' o T L s')) := by
  obtain ⟨v, x', q1, q2⟩ := number_ok (y := y) (lo := 0) (hb := c) h hs (by decide) hc
  refine ⟨v, x', ?_, q2⟩
  unfold fX7_column fX7_column_0
  simp only [lits]
  rw [gR_wij, h.g0, Option.bind_some, h.s0 (by decide), hz.1, Option.bind_some, ck_wij, ck_ok h.t, q1]
  rfl
theorem row_ok (h : MSh G o) {s c r : Nat} (hz : MSz x o c r) (hc : r < 100) (hs : RSt x o T L s) :
    ∃ v x', fX7_row o (wIJ G x y) = some (v, wIJ G x' y) ∧ MTF o x x' ∧ ((∃ e, pNum T L s 0 r = .inl e ∧ v = nW 0 ∧ RBd x' o e ∧ RBy x' o T L ∧ RTk x' o T L s) ∨ (∃ k s', pNum T L s 0 r = .inr (k, s') ∧ v = nW k ∧ RSt x' o T L s')) := by
  obtain ⟨v, x', q1, q2⟩ := number_ok (y := y) (lo := 0) (hb := r) h hs (by decide) hc
  refine ⟨v, x', ?_, q2⟩
  unfold fX7_row fX7_row_0
  simp only [lits]
  rw [gR_wij, h.g0, Option.bind_some, h.s0 (by decide), hz.2, Option.bind_some, ck_wij, ck_ok h.t, q1]
  rfl
/-- the reference's test for a semicolon, without going on -/
theorem semi_ok (h : MSh G o) {s : Nat} (hs : RSt x o T L s) : ∃ x', fX7_wrong o (if srt T L s = 4 then nW 0 else nW 1) (nW 1) (wIJ G x y) = some ((), wIJ G x' y) ∧ MTF o x x' ∧ ((srt T L s = 4 ∧ x' = x) ∨ (srt T L s ≠ 4 ∧ RBd x' o (1, s) ∧ RBy x' o T L ∧ RTk x' o T L s)) := by
  by_cases e : srt T L s = 4
  · rw [if_pos e]
    exact ⟨x, wrong_no h, MTF.rfl', Or.inl ⟨e, rfl⟩⟩
  · obtain ⟨x', w1, w2, w3⟩ := wrong_yes (y := y) (k := 1) h hs
    rw [if_neg e]
    exact ⟨x', w1, w2, Or.inr ⟨e, w3⟩⟩
theorem RTk.semi {s : Nat} (hk : RTk x o T L s) : (x o 21 = nW 3 ↔ srt T L s = 4) := by
  have h4 := srt_le (T := T) (L := L) s
  have hr := rsr_eq _ (show srt T L s < 5 by omega)
  rw [hk.2.1, nW_eq (by omega) (by decide)]
  exact hr.2.2.2.2
theorem RTk.done {s : Nat} (hk : RTk x o T L s) : (x o 21 = nW 0 ↔ srt T L s = 0) := by
  have h4 := srt_le (T := T) (L := L) s
  have hr := rsr_eq _ (show srt T L s < 5 by omega)
  rw [hk.2.1, nW_eq (by omega) (by decide)]
  exact hr.2.1
theorem semicolon_ok (h : MSh G o) {s : Nat} (hs : RSt x o T L s) : ∃ x', fX7_semicolon o (wIJ G x y) = some ((), wIJ G x' y) ∧ MTF o x x' ∧ ((srt T L s = 4 ∧ RSt x' o T L (nx T L s)) ∨ (srt T L s ≠ 4 ∧ RBd x' o (1, s) ∧ RBy x' o T L ∧ RTk x' o T L s)) := by
  obtain ⟨x', w1, w2, w3⟩ := semi_ok (y := y) h hs
  unfold fX7_semicolon fX7_semicolon_0 fX7_semicolon_14
  simp only [lits]
  rw [gF_wij h.t, Option.bind_some]
  rcases w3 with ⟨e, rfl⟩ | ⟨e, w3, w4⟩
  · obtain ⟨x2, g1, g2, g3⟩ := go_ok (y := y) h hs
    rw [if_pos (hs.2.1.semi.mpr e), ck_wij, ck_ok h.t, wrong_no h, Option.bind_some, ck_wij, ck_ok h.t, g1, Option.bind_some]
    exact ⟨x2, rfl, g2, Or.inl ⟨e, g3⟩⟩
  · rw [if_neg e] at w1
    rw [if_neg (fun q => e (hs.2.1.semi.mp q)), ck_wij, ck_ok h.t, w1, Option.bind_some, ck_wij, ck_ok h.t, go_bad h w3.1, Option.bind_some]
    exact ⟨x', rfl, w2, Or.inr ⟨e, w3, w4⟩⟩
theorem mkindHere_ok (h : MSh G o) (hb : RBy x o T L) {s : Nat} (hk : RTk x o T L s) : fX7_kindHere o (wIJ G x y) = some (knd T L s, wIJ G x y) := by
  unfold fX7_kindHere fX7_kindHere_0 fX7_kindHere_66 knd
  simp only [lits]
  rw [ck_wij, ck_ok h.t, mis_ok h hb hk (by decide), Option.bind_some]
  cases isw T L s 3 with
  | true => rw [if_neg bIt, if_pos rfl]
  | false =>
    rw [if_pos bIf, if_neg (by decide), ck_wij, ck_ok h.t, mis_ok h hb hk (by decide), Option.bind_some]
    cases isw T L s 4 with
    | true => rw [if_neg bIt, if_pos rfl]
    | false =>
      rw [if_pos bIf, if_neg (by decide), ck_wij, ck_ok h.t, mis_ok h hb hk (by decide), Option.bind_some]
      cases isw T L s 5 with
      | true => rw [if_neg bIt, if_pos rfl]
      | false =>
        rw [if_pos bIf, if_neg (by decide), ck_wij, ck_ok h.t, mis_ok h hb hk (by decide), Option.bind_some]
        cases isw T L s 6 with
        | true => rw [if_neg bIt, if_pos rfl]
        | false =>
          rw [if_pos bIf, if_neg (by decide), ck_wij, ck_ok h.t, mis_ok h hb hk (by decide), Option.bind_some]
          cases isw T L s 7 with
          | true => rw [if_neg bIt, if_pos rfl]
          | false => rw [if_pos bIf, if_neg (by decide)]
end MPRIM
