/-! ===== lists of moves ===== -/
/-- a loop over rows and columns -/
theorem grid_by {ρ : Type} {fo : Int32 → Mem → Option ((Int32 ⊕ ρ) × Mem)} {fi : Int32 → Int32 → Mem → Option ((Int32 ⊕ (Int32 ⊕ ρ)) × Mem)} {c r : Nat} (hc : c < 7) (hr : r < 7) (Inv : Nat → Mem → Prop) (post : ρ → Mem → Prop)
    (ho : ∀ row G, row < r → Inv (row * c) G → fo (nW row) G = loopM (fun s G => fi (nW row) s G) FU (nW 0) G)
    (hi : ∀ row col G, row < r → col < c → Inv (row * c + col) G → ∃ G', fi (nW row) (nW col) G = some (.inl (nW (col + 1)), G') ∧ Inv (row * c + col + 1) G')
    (he : ∀ row G, row < r → Inv (row * c + c) G → fi (nW row) (nW c) G = some (.inr (.inl (nW (row + 1))), G))
    (hf : ∀ G, Inv (r * c) G → ∃ res Gf, fo (nW r) G = some (.inr res, Gf) ∧ post res Gf) {G : Mem} (h0 : Inv 0 G) : ∃ res Gf, loopM fo FU (nW 0) G = some (res, Gf) ∧ post res Gf := by
  refine loop_by (f := fo) (fun k s G => ∃ row, k = r - row ∧ row ≤ r ∧ s = nW row ∧ Inv (row * c) G) post ?_ FU r (nW 0) G (by show r < 100000; omega) ⟨0, rfl, Nat.zero_le _, rfl, by rw [Nat.zero_mul]; exact h0⟩
  rintro k s G ⟨row, rfl, hrow, rfl, hI⟩
  by_cases hend : row = r
  · subst hend
    exact Or.inl (hf G hI)
  · have hrow : row < r := by omega
    rw [ho row G hrow hI]
    obtain ⟨res, Gf, e, rfl, hI2⟩ := loop_by (f := fun s G => fi (nW row) s G) (fun k s G => ∃ col, k = c - col ∧ col ≤ c ∧ s = nW col ∧ Inv (row * c + col) G) (fun (q : Int32 ⊕ ρ) G => q = .inl (nW (row + 1)) ∧ Inv ((row + 1) * c) G) (by
      rintro k s G ⟨col, rfl, hcol, rfl, hI⟩
      by_cases hend : col = c
      · subst hend
        exact Or.inl ⟨_, _, he row G hrow hI, rfl, by rw [Nat.add_mul, Nat.one_mul]; exact hI⟩
      · obtain ⟨G', e, hI2⟩ := hi row col G hrow (by omega) hI
        exact Or.inr ⟨c - (col + 1), _, _, by omega, e, col + 1, rfl, by omega, rfl, hI2⟩) FU c (nW 0) G (by show c < 100000; omega) ⟨0, rfl, Nat.zero_le _, rfl, hI⟩
    exact Or.inr ⟨r - (row + 1), _, _, by omega, e, row + 1, rfl, by omega, rfl, hI2⟩
theorem grid_div {c row col : Nat} (hcol : col < c) : (row * c + col) / c = row ∧ (row * c + col) % c = col := by
  have hc : 0 < c := by omega
  rw [Nat.mul_comm]
  constructor
  · rw [Nat.mul_add_div hc, Nat.div_eq_of_lt hcol]; omega
  · rw [Nat.mul_add_mod]; exact Nat.mod_eq_of_lt hcol
theorem grid_lt {c r row col : Nat} (hrow : row < r) (hcol : col < c) : row * c + col < c * r := by
  have h : (row + 1) * c ≤ r * c := Nat.mul_le_mul_right c (by omega)
  rw [Nat.add_mul, Nat.one_mul] at h
  rw [Nat.mul_comm c r]
  omega
theorem pl_grid {c row col : Nat} (hcol : col < c) : pl c (row * c + col) = 18 + row * 8 + col := by
  unfold pl
  rw [(grid_div hcol).1, (grid_div hcol).2]
  omega
def opI (s v : Int32) : Bool := decide (s = -1) || decide (s = v)
theorem ite_opI {α : Type} (s v : Int32) (A B : α) : (if s = -1 then A else if s = v then A else B) = if opI s v = true then A else B := by
  unfold opI
  by_cases h1 : s = -1
  · rw [if_pos h1, h1]; rfl
  · rw [if_neg h1]
    by_cases h2 : s = v
    · rw [if_pos h2, if_pos (by rw [decide_eq_true h2, Bool.or_true])]
    · rw [if_neg h2, decide_eq_false h1, decide_eq_false h2]; rfl
/-- what a note asks of the origin; of the move -/
def orgB (c : Nat) (N : Nat → Int32) (P : Nat → Nat) (f : Nat) : Bool := opI (N 0) (nW ((P f - 1) % 5)) && (opI (N 1) (nW (f % c)) && opI (N 2) (nW (f / c)))
def tgtB (c n : Nat) (N : Nat → Int32) (P : Nat → Nat) (col f t : Nat) : Bool := rch c P f t && ((P t == 0 || (!own (P t) col && !decide ((P t - 1) % 5 = 0))) && (opI (N 3) (nW (t % c)) && (opI (N 4) (nW (t / c)) && ((!(P t == 0) || decide (N 5 = 0)) && lgB c n P col f t (N 6)))))
def lstT (c n : Nat) (N : Nat → Int32) (P : Nat → Nat) (col f k : Nat) : List (Nat × Nat) := ((List.range k).filter fun t => tgtB c n N P col f t).map fun t => (f, t)
def lstF (c n : Nat) (N : Nat → Int32) (P : Nat → Nat) (col k : Nat) : List (Nat × Nat) := (List.range k).flatMap fun f => if (own (P f) col && orgB c N P f) = true then lstT c n N P col f n else []
/-- the moves of a position that agree with a note, in their order -/
def mvl (c n : Nat) (N : Nat → Int32) (P : Nat → Nat) (col : Nat) : List (Nat × Nat) := lstF c n N P col n
theorem lstT_succ {c n : Nat} {N : Nat → Int32} {P : Nat → Nat} {col f k : Nat} : lstT c n N P col f (k + 1) = lstT c n N P col f k ++ if tgtB c n N P col f k = true then [(f, k)] else [] := by
  unfold lstT
  rw [List.range_succ, List.filter_append, List.map_append]
  congr 1
  by_cases h : tgtB c n N P col f k = true
  · rw [if_pos h, List.filter_cons_of_pos h]; rfl
  · rw [if_neg h, List.filter_cons_of_neg h]; rfl
theorem lstF_succ {c n : Nat} {N : Nat → Int32} {P : Nat → Nat} {col k : Nat} : lstF c n N P col (k + 1) = lstF c n N P col k ++ if (own (P k) col && orgB c N P k) = true then lstT c n N P col k n else [] := by
  unfold lstF
  rw [List.range_succ, List.flatMap_append]
  simp
theorem lstT_cnt {c n : Nat} {N : Nat → Int32} {P : Nat → Nat} {col f : Nat} : ∀ k, (lstT c n N P col f k).length ≤ k ∧ (f < k → (lstT c n N P col f k).length + 1 ≤ k) := by
  intro k
  induction k with
  | zero => exact ⟨Nat.le_refl _, fun h => by omega⟩
  | succ k ih =>
    rw [lstT_succ, List.length_append]
    by_cases h : tgtB c n N P col f k = true
    · rw [if_pos h]
      have hne : f ≠ k := by
        unfold tgtB at h
        rw [Bool.and_eq_true] at h
        exact rch_ne h.1
      have h1 : ([(f, k)] : List (Nat × Nat)).length = 1 := rfl
      rw [h1]
      exact ⟨by omega, fun hf => by have := ih.2 (by omega); omega⟩
    · rw [if_neg h]
      have h1 : ([] : List (Nat × Nat)).length = 0 := rfl
      rw [h1]
      refine ⟨by omega, fun hf => ?_⟩
      by_cases hfk : f = k
      · omega
      · have := ih.2 (by omega); omega
theorem lstF_cnt {c n : Nat} {N : Nat → Int32} {P : Nat → Nat} {col : Nat} (hn : n ≤ 36) : ∀ k, k ≤ n → (lstF c n N P col k).length ≤ 35 * cnt k (fun j => own (P j) col) := by
  intro k
  induction k with
  | zero => intro _; exact Nat.le_refl _
  | succ k ih =>
    intro hk
    have h1 := ih (by omega)
    have h2 := (lstT_cnt (c := c) (n := n) (N := N) (P := P) (col := col) (f := k) n).2 (by omega)
    rw [lstF_succ, List.length_append]
    show _ ≤ 35 * (cnt k (fun j => own (P j) col) + if own (P k) col = true then 1 else 0)
    by_cases h : own (P k) col = true
    · rw [if_pos h]
      split
      · omega
      · simp; omega
    · rw [if_neg h, if_neg (by rw [Bool.and_eq_true]; exact fun q => h q.1)]
      simp; omega
theorem cnt_mono {g : Nat → Bool} : ∀ {k n : Nat}, k ≤ n → cnt k g ≤ cnt n g := by
  intro k n h
  induction n with
  | zero => have : k = 0 := by omega
            rw [this]; exact Nat.le_refl _
  | succ n ih =>
    by_cases e : k = n + 1
    · rw [e]; exact Nat.le_refl _
    · exact Nat.le_trans (ih (by omega)) (Nat.le_add_right _ _)
theorem lst_room {c n : Nat} {N : Nat → Int32} {P : Nat → Nat} {col f t : Nat} (hn : n ≤ 36) (W : WFP n P) (hcol : col < 2) (hf : f < n) (ht : t < n) (ho : own (P f) col = true) (hT : tgtB c n N P col f t = true) : (lstF c n N P col f ++ lstT c n N P col f t).length < 315 := by
  have h1 := lstF_cnt (c := c) (N := N) (P := P) (col := col) hn f (by omega)
  have h2 := lstT_cnt (c := c) (n := n) (N := N) (P := P) (col := col) (f := f) t
  have h3 : cnt (f + 1) (fun j => own (P j) col) ≤ cnt n (fun j => own (P j) col) := cnt_mono (by omega)
  have h4 : cnt (f + 1) (fun j => own (P j) col) = cnt f (fun j => own (P j) col) + if own (P f) col = true then 1 else 0 := rfl
  rw [if_pos ho] at h4
  have h5 := W.2.2.2.2 col hcol
  have hne : f ≠ t := by
    unfold tgtB at hT
    rw [Bool.and_eq_true] at hT
    exact rch_ne hT.1
  rw [List.length_append]
  by_cases hft : f < t
  · have := h2.2 hft; omega
  · omega
def mvc (m : Nat × Nat) : Nat := m.1 * 64 + m.2
/-- the row of moves holds a list -/
def MVL (x : Nat → Nat → Int32) (b : Nat) (ml : List (Nat × Nat)) : Prop := x b 3 = nW ml.length ∧ ∀ i, i < ml.length → x (b + 1) i = nW (mvc (ml.getD i (0, 0)))
/-- nothing but the row of moves has changed -/
def FrM (b : Nat) (x x' : Nat → Nat → Int32) : Prop := ∀ a j, a ≠ b + 1 → ¬ (a = b ∧ j = 3) → x' a j = x a j
theorem bIt0 : ¬ bI true = (0 : Int32) := by decide
section FIND
variable {G : Mem} {b : Nat} {x : Nat → Nat → Int32} {y : Nat → Nat → Int64}
theorem allowsOrigin_ok {nt : Nat} (hn : mt G nt = 11) {k cx ry : Int32} : fX1_allowsOrigin nt k cx ry (wIJ G x y) = some (bI (opI (x nt 0) k && (opI (x nt 1) cx && opI (x nt 2) ry)), wIJ G x y) := by
  unfold fX1_allowsOrigin fX1_allowsOrigin_0 fX1_allowsOrigin_16 fX1_allowsOrigin_32 fX1_allowsOrigin_48 fX1_allowsOrigin_52 fX1_allowsOrigin_53
  simp only [gF_wij hn, Option.bind_some, ite_opI]
  cases opI (x nt 0) k <;> cases opI (x nt 1) cx <;> cases opI (x nt 2) ry <;> rfl
theorem allowsTarget_ok {nt : Nat} (hn : mt G nt = 11) {cx ry : Int32} {fr : Bool} : fX1_allowsTarget nt cx ry (bI (!fr)) (wIJ G x y) = some (bI (opI (x nt 3) cx && (opI (x nt 4) ry && (!fr || decide (x nt 5 = 0)))), wIJ G x y) := by
  unfold fX1_allowsTarget fX1_allowsTarget_0 fX1_allowsTarget_16 fX1_allowsTarget_32 fX1_allowsTarget_43 fX1_allowsTarget_47 fX1_allowsTarget_48
  simp only [gF_wij hn, Option.bind_some, ite_opI]
  by_cases h5 : x nt 5 = 0
  · rw [if_pos h5, decide_eq_true h5]
    cases fr <;> cases opI (x nt 3) cx <;> cases opI (x nt 4) ry <;> rfl
  · rw [if_neg h5, decide_eq_false h5]
    cases fr <;> cases opI (x nt 3) cx <;> cases opI (x nt 4) ry <;> rfl
theorem placeOf_ok {c row col : Nat} (hcol : col < c) : fX0_placeOf b (nW col) (nW row) G = some (nW (pl c (row * c + col)), G) := by
  unfold fX0_placeOf fX0_placeOf_0
  rw [pl_grid hcol]
  simp only [lits, nW_mul, nW_add]
theorem squareOf_ok (h : BSh G b) {c row col : Nat} (hx : x b 0 = nW c) : fX0_squareOf b (nW col) (nW row) (wIJ G x y) = some (nW (row * c + col), wIJ G x y) := by
  unfold fX0_squareOf fX0_squareOf_0
  rw [gF_wij h.1, Option.bind_some, hx, nW_mul, nW_add]
theorem FrM.br {c r : Nat} {P : Nat → Nat} {x x' : Nat → Nat → Int32} (h : FrM b x x') (hb : BR c r P x b) : BR c r P x' b :=
  ⟨by rw [h b 0 (by omega) (by omega)]; exact hb.1, by rw [h b 1 (by omega) (by omega)]; exact hb.2.1, fun p hp => by rw [h (b + 2) p (by omega) (by omega)]; exact hb.2.2 p hp⟩
theorem FrM.bk {c n : Nat} {P : Nat → Nat} {x x' : Nat → Nat → Int32} (h : FrM b x x') (hb : BK c n P x b) : BK c n P x' b :=
  fun q hq => ⟨fun e => by rw [h b 5 (by omega) (by omega)]; exact (hb q hq).1 e, fun e => by rw [h b 6 (by omega) (by omega)]; exact (hb q hq).2 e⟩
theorem FrM.note {nt : Nat} {x x' : Nat → Nat → Int32} (h : FrM b x x') (h1 : nt ≠ b) (h2 : nt ≠ b + 1) (j : Nat) : x' nt j = x nt j := h nt j h2 (fun q => h1 q.1)
theorem szs36 {c r : Nat} (hs : szs c r) : c * r ≤ 36 := by
  obtain ⟨-, s2, -, s4⟩ := hs
  calc c * r ≤ 6 * 6 := Nat.mul_le_mul (by omega) (by omega)
    _ = 36 := rfl
/-- one more move into the row -/
theorem push_ok (h : BSh G b) {c r : Nat} (hs : szs c r) {f t : Nat} (hf : f < c * r) (ht : t < c * r) {ml : List (Nat × Nat)} {x' : Nat → Nat → Int32} (hm : MVL x' b ml) (hl : ml.length < 315) (hfr : FrM b x x') :
    FrM b x (u2 (u2 x' b 3 (nW (ml.length + 1))) (b + 1) ml.length (nW (f * 64 + t))) ∧ MVL (u2 (u2 x' b 3 (nW (ml.length + 1))) (b + 1) ml.length (nW (f * 64 + t))) b (ml ++ [(f, t)]) := by
  refine ⟨fun a j h1 h2 => ?_, ?_, fun i hi => ?_⟩
  · rw [u2_apart h1, u2_other h2]; exact hfr a j h1 h2
  · rw [u2_apart (by omega), u2_same, List.length_append]; rfl
  · rw [List.length_append] at hi
    have hi : i < ml.length + 1 := hi
    by_cases e : i = ml.length
    · rw [e, u2_same]
      rw [List.getD_eq_getElem?_getD, List.getElem?_append_right (Nat.le_refl _), Nat.sub_self]
      rfl
    · rw [u2_other (by omega), u2_apart (by omega), hm.2 i (by omega)]
      rw [List.getD_eq_getElem?_getD, List.getD_eq_getElem?_getD, List.getElem?_append_left (by omega)]
theorem findMovesFrom_ok (h : BSh G b) {c r : Nat} (hs : szs c r) {P : Nat → Nat} (W : WFP (c * r) P) {nt : Nat} (hn : mt G nt = 11) {f col row fcol : Nat} (hfc : fcol < c) (hfe : f = row * c + fcol) (hf : f < c * r) (hcol : col < 2) (hown : own (P f) col = true) {x' : Nat → Nat → Int32}
    (hb : BR c r P x' b) (hk : BK c (c * r) P x' b) (hm : MVL x' b (lstF c (c * r) (x' nt) P col f)) :
    ∃ x2, fX0_findMovesFrom b (nW fcol) (nW row) nt (wIJ G x' y) = some ((), wIJ G x2 y) ∧ FrM b x' x2 ∧ MVL x2 b (lstF c (c * r) (x' nt) P col f ++ lstT c (c * r) (x' nt) P col f (c * r)) := by
  have n1 : nt ≠ b := fun e => by rw [e, h.1] at hn; omega
  have n2 : nt ≠ b + 1 := fun e => by rw [e, h.2.2.2.1] at hn; omega
  have hpf : P f ≠ 0 := by rw [own_iff] at hown; omega
  have hcl : (P f - 1) / 5 = col := (own_iff.mp hown).2
  have plf := pl_ok hs hf
  obtain ⟨g, hg1, hg2⟩ := rangeOf_ok (y := y) h hs W.1 hb hf hpf
  unfold fX0_findMovesFrom fX0_findMovesFrom_0
  rw [ck_wij, ck_ok h.1, placeOf_ok hfc, ← hfe, Option.bind_some, ck_wij, ck_ok h.1, on_ok h (by omega), Option.bind_some, hb.at hs hf, colour_of _ (W.1 f), Option.bind_some, ck_wij, ck_ok h.1, hg1, Option.bind_some]
  simp only [if_neg hpf, hcl]
  obtain ⟨res, Gf, e1, x2, rfl, h2, h3⟩ := grid_by (fo := fun (s : Int32) G => fX0_findMovesFrom_30 b (nW fcol) (nW row) nt (nW (pl c f)) (nW col) g s G) (fi := fun (s1 : Int32) (s : Int32) G => fX0_findMovesFrom_42 b (nW fcol) (nW row) nt (nW (pl c f)) (nW col) g s1 s G) (c := c) (r := r) hs.2.1 hs.2.2.2
    (fun k G1 => ∃ x2, G1 = wIJ G x2 y ∧ FrM b x' x2 ∧ MVL x2 b (lstF c (c * r) (x' nt) P col f ++ lstT c (c * r) (x' nt) P col f k))
    (fun (_ : Unit) G1 => ∃ x2, G1 = wIJ G x2 y ∧ FrM b x' x2 ∧ MVL x2 b (lstF c (c * r) (x' nt) P col f ++ lstT c (c * r) (x' nt) P col f (c * r)))
    (by
      rintro rw1 G1 hrw ⟨x2, rfl, h2, h3⟩
      unfold fX0_findMovesFrom_30
      rw [gF_wij h.1, Option.bind_some, (h2.br hb).2.1, if_neg (by rw [nW_le (by have := hs.2.2.2; omega) (by have := hs.2.2.2; omega)]; omega)]
      rfl)
    (by
      rintro rw1 cl1 G1 hrw hcl1 ⟨x2, rfl, h2, h3⟩
      have ht := grid_lt hrw hcl1
      obtain ⟨gd1, gd2⟩ := grid_div (row := rw1) hcl1
      have hc7 := hs.2.1
      have hr7 := hs.2.2.2
      have hb2 := h2.br hb
      have hk2 := h2.bk hk
      have plt := pl_ok hs ht
      have skip : ∀ (gg : tgtB c (c * r) (x' nt) P col f (rw1 * c + cl1) = false), ∃ G', fX0_findMovesFrom_205 b (nW fcol) (nW row) nt (nW (pl c f)) (nW col) g (nW rw1) (nW cl1) (wIJ G x2 y) = some (.inl (nW (cl1 + 1)), G') ∧ ∃ x3, G' = wIJ G x3 y ∧ FrM b x' x3 ∧ MVL x3 b (lstF c (c * r) (x' nt) P col f ++ lstT c (c * r) (x' nt) P col f (rw1 * c + cl1 + 1)) := by
        intro gg
        refine ⟨_, by unfold fX0_findMovesFrom_205; simp only [lits, nW_add], x2, rfl, h2, ?_⟩
        rw [lstT_succ, if_neg (by rw [gg]; decide), List.append_nil]
        exact h3
      unfold fX0_findMovesFrom_42
      rw [gF_wij h.1, Option.bind_some, hb2.1, if_neg (by rw [nW_le (by omega) (by omega)]; omega), ck_wij, ck_ok h.1, placeOf_ok hcl1, Option.bind_some, bitOf_ok hs ht, Option.bind_some]
      have tst : (lg_cmp (g &&& bit64 (ixq c (rw1 * c + cl1))) 0 = (0 : Int32)) ↔ rch c P f (rw1 * c + cl1) = false := by
        rw [lits.1, lgc_0, mem64_test (ix_lt hs ht), hg2 _ ht]
        cases rch c P f (rw1 * c + cl1) <;> simp
      by_cases hr : rch c P f (rw1 * c + cl1) = false
      · rw [if_pos (tst.mpr hr)]
        exact skip (by unfold tgtB; rw [hr]; rfl)
      · rw [if_neg (fun e => hr (tst.mp e))]
        have hr : rch c P f (rw1 * c + cl1) = true := by simpa using hr
        have hne := rch_ne hr
        rw [ck_wij, ck_ok h.1, on_ok h (by omega), Option.bind_some, hb2.at hs ht]
        have e138 : ∀ fr : Bool, fr = (P (rw1 * c + cl1) == 0) → (fr = true ∨ (own (P (rw1 * c + cl1)) col = false ∧ (P (rw1 * c + cl1) - 1) % 5 ≠ 0)) → ∃ G', fX0_findMovesFrom_123 b (nW fcol) (nW row) nt (nW (pl c f)) (nW col) g (nW rw1) (nW cl1) (nW (pl c (rw1 * c + cl1))) (bI fr) (wIJ G x2 y) = some (.inl (nW (cl1 + 1)), G') ∧ ∃ x3, G' = wIJ G x3 y ∧ FrM b x' x3 ∧ MVL x3 b (lstF c (c * r) (x' nt) P col f ++ lstT c (c * r) (x' nt) P col f (rw1 * c + cl1 + 1)) := by
          intro fr hfr hcap
          have e0 : fX0_findMovesFrom_123 b (nW fcol) (nW row) nt (nW (pl c f)) (nW col) g (nW rw1) (nW cl1) (nW (pl c (rw1 * c + cl1))) (bI fr) (wIJ G x2 y) = fX0_findMovesFrom_138 b (nW fcol) (nW row) nt (nW (pl c f)) (nW col) g (nW rw1) (nW cl1) (nW (pl c (rw1 * c + cl1))) nt (nW cl1) (nW rw1) (bI (!fr)) (wIJ G x2 y) := by
            unfold fX0_findMovesFrom_123
            cases fr
            · rw [if_pos (by decide)]; rfl
            · rw [if_neg (by decide)]; rfl
          rw [e0]
          unfold fX0_findMovesFrom_138
          rw [ck_wij, ck_ok hn, allowsTarget_ok hn, Option.bind_some]
          have capB : (P (rw1 * c + cl1) == 0 || (!own (P (rw1 * c + cl1)) col && !decide ((P (rw1 * c + cl1) - 1) % 5 = 0))) = true := by
            rw [← hfr]
            rcases hcap with hcap | ⟨q1, q2⟩
            · rw [hcap]; rfl
            · rw [q1, decide_eq_false q2]; simp
          have TB : tgtB c (c * r) (x' nt) P col f (rw1 * c + cl1) = (opI (x2 nt 3) (nW cl1) && (opI (x2 nt 4) (nW rw1) && ((!fr || decide (x2 nt 5 = 0)) && lgB c (c * r) P col f (rw1 * c + cl1) (x2 nt 6)))) := by
            unfold tgtB
            rw [hr, capB, gd1, gd2, ← hfr, h2.note n1 n2, h2.note n1 n2, h2.note n1 n2, h2.note n1 n2]
            rfl
          by_cases hall : (opI (x2 nt 3) (nW cl1) && (opI (x2 nt 4) (nW rw1) && (!fr || decide (x2 nt 5 = 0)))) = true
          · rw [if_neg (by rw [hall]; exact bIt0), gF_wij hn, Option.bind_some, ck_wij, ck_ok h.1]
            have htk : (P (rw1 * c + cl1) - 1) % 5 ≠ 0 ∨ P (rw1 * c + cl1) = 0 := by
              rcases hcap with q | q
              · rw [hfr] at q; exact Or.inr (by simpa using q)
              · exact Or.inl q.2
            rw [isLegal_ok h hs W hb2 hk2 hf ht hne hcol hown htk, Option.bind_some]
            have TB2 : tgtB c (c * r) (x' nt) P col f (rw1 * c + cl1) = lgB c (c * r) P col f (rw1 * c + cl1) (x2 nt 6) := by
              rw [TB]
              simp only [Bool.and_eq_true] at hall
              rw [hall.1, hall.2.1, hall.2.2]
              simp
            by_cases hl : lgB c (c * r) P col f (rw1 * c + cl1) (x2 nt 6) = true
            · have hT : tgtB c (c * r) (x' nt) P col f (rw1 * c + cl1) = true := by rw [TB2]; exact hl
              have room := lst_room (c := c) (N := x' nt) (szs36 hs) W hcol hf ht hown hT
              obtain ⟨p1, p2⟩ := push_ok h hs hf ht h3 room h2
              obtain ⟨g1, g2, g3, g4, g5, g6, g7⟩ := h
              have hh : BSh G b := ⟨g1, g2, g3, g4, g5, g6, g7⟩
              rw [if_neg (by rw [hl]; exact bIt0), gF_wij g1, Option.bind_some, gR_wij, gR_ok g1 g2, Option.bind_some, gL_wij, gL_ok (Or.inl g4), g5, Option.bind_some, h3.1, if_neg (by rw [nW_le (by omega) (by omega)]; omega), Option.bind_some, Option.bind_some, pI_wij g1, Option.bind_some, ck_wij, ck_ok g1]
              have hx0 : (u2 x2 b 3 (nW (lstF c (c * r) (x' nt) P col f ++ lstT c (c * r) (x' nt) P col f (rw1 * c + cl1)).length + 1)) b 0 = nW c := by rw [u2_other (by omega)]; exact hb2.1
              rw [squareOf_ok hh hx0, Option.bind_some, ck_wij, ck_ok g1, squareOf_ok hh hx0, Option.bind_some, pA_wij g4 (by omega) (by omega), Option.bind_some]
              have ev : ((nW (row * c + fcol) <<< (nW 6 &&& nW 31)) ||| nW (rw1 * c + cl1)) = nW (f * 64 + (rw1 * c + cl1)) := by
                have h36 := szs36 hs
                rw [nW_shl _ (by decide), ← hfe, nW_or 6 (by omega) (by omega)]
              refine ⟨wIJ G (u2 (u2 x2 b 3 (nW ((lstF c (c * r) (x' nt) P col f ++ lstT c (c * r) (x' nt) P col f (rw1 * c + cl1)).length + 1))) (b + 1) (lstF c (c * r) (x' nt) P col f ++ lstT c (c * r) (x' nt) P col f (rw1 * c + cl1)).length (nW (f * 64 + (rw1 * c + cl1)))) y, ?_, _, rfl, p1, ?_⟩
              · unfold fX0_findMovesFrom_205
                simp only [lits, nW_add]
                rw [ev]
              · rw [lstT_succ, if_pos hT, ← List.append_assoc]
                exact p2
            · have hl : lgB c (c * r) P col f (rw1 * c + cl1) (x2 nt 6) = false := by simpa using hl
              rw [if_pos (by rw [hl]; rfl)]
              exact skip (by rw [TB2]; exact hl)
          · have hall : (opI (x2 nt 3) (nW cl1) && (opI (x2 nt 4) (nW rw1) && (!fr || decide (x2 nt 5 = 0)))) = false := by simpa using hall
            rw [if_pos (by rw [hall]; rfl)]
            refine skip ?_
            rw [TB]
            rw [Bool.eq_false_iff] at hall ⊢
            intro q
            apply hall
            simp only [Bool.and_eq_true] at q ⊢
            exact ⟨q.1, q.2.1, q.2.2.1⟩
        have ez := (enc_s5 0 (by decide) _ (show P (rw1 * c + cl1) < 13 by have := W.1 (rw1 * c + cl1); omega))
        simp only [lits]
        by_cases hz : P (rw1 * c + cl1) = 0
        · rw [if_pos (ez.mpr hz)]
          unfold fX0_findMovesFrom_95
          rw [if_neg (by decide)]
          exact e138 true (by rw [hz]; rfl) (Or.inl rfl)
        · rw [if_neg (fun e => hz (ez.mp e))]
          unfold fX0_findMovesFrom_95
          rw [if_pos (show nW 0 = (0 : Int32) from rfl), colour_of _ (W.1 _), Option.bind_some]
          simp only [if_neg hz]
          have hlt := W.1 (rw1 * c + cl1)
          by_cases ho : (P (rw1 * c + cl1) - 1) / 5 = col
          · rw [if_pos (by rw [ho])]
            refine skip ?_
            unfold tgtB
            have : own (P (rw1 * c + cl1)) col = true := own_iff.mpr ⟨by omega, ho⟩
            rw [this, beq_false_of_ne hz]
            simp
          · rw [if_neg (by rw [nW_eq (by omega) (by omega)]; exact ho), kind_of _ (W.1 _), Option.bind_some]
            simp only [if_neg hz, lits]
            have hno : own (P (rw1 * c + cl1)) col = false := by
              rw [Bool.eq_false_iff]
              intro q
              exact ho (own_iff.mp q).2
            by_cases hk0 : (P (rw1 * c + cl1) - 1) % 5 = 0
            · rw [if_pos (by rw [hk0])]
              refine skip ?_
              unfold tgtB
              rw [decide_eq_true hk0, beq_false_of_ne hz]
              simp
            · rw [if_neg (by rw [nW_eq (by omega) (by omega)]; exact hk0)]
              exact e138 false (by rw [beq_false_of_ne hz]) (Or.inr ⟨hno, hk0⟩))
    (by
      rintro rw1 G1 hrw ⟨x2, rfl, h2, h3⟩
      unfold fX0_findMovesFrom_42 fX0_findMovesFrom_211
      rw [gF_wij h.1, Option.bind_some, (h2.br hb).1, if_pos (by rw [nW_le (by have := hs.2.1; omega) (by have := hs.2.1; omega)]; omega)]
      simp only [lits, nW_add]
      rfl)
    (by
      rintro G1 ⟨x2, rfl, h2, h3⟩
      refine ⟨(), wIJ G x2 y, ?_, x2, rfl, h2, by rw [Nat.mul_comm c r]; rw [Nat.mul_comm c r] at h3; exact h3⟩
      unfold fX0_findMovesFrom_30 fX0_findMovesFrom_217
      rw [gF_wij h.1, Option.bind_some, (h2.br hb).2.1, if_pos (by rw [nW_le (by have := hs.2.2.2; omega) (by have := hs.2.2.2; omega)]; omega)]
      rfl)
    (G := wIJ G x' y) ⟨x', rfl, fun a j _ _ => rfl, by
      have : lstT c (c * r) (x' nt) P col f 0 = [] := rfl
      rw [this, List.append_nil]; exact hm⟩
  exact ⟨x2, e1, h2, h3⟩
end FIND
