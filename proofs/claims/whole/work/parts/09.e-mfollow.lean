/-! ===== the reference: what follows a note ===== -/
/-- what following note i may change -/
def MFr (o i : Nat) (x : Nat → Nat → Int32) (y : Nat → Nat → Int64) (x' : Nat → Nat → Int32) (y' : Nat → Nat → Int64) : Prop := (∀ b, b < o + 8 ∨ o + 12 < b → x' b = x b) ∧ (∀ k, k < (i + 1) * 1440 → x' (o + 8) k = x (o + 8) k) ∧ (∀ k, k ≠ i + 1 → x' (o + 9) k = x (o + 9) k) ∧ (∀ k, k < i * 1600 → x' (o + 10) k = x (o + 10) k) ∧ (∀ k, k ≠ i → x' (o + 11) k = x (o + 11) k) ∧ (∀ b, b ≠ o + 13 → y' b = y b) ∧ ∀ k, k < (i + 1) * 40 → y' (o + 13) k = y (o + 13) k
theorem MFr.rfl' {o i : Nat} {x : Nat → Nat → Int32} {y : Nat → Nat → Int64} : MFr o i x y x y := ⟨fun _ _ => rfl, fun _ _ => rfl, fun _ _ => rfl, fun _ _ => rfl, fun _ _ => rfl, fun _ _ => rfl, fun _ _ => rfl⟩
theorem MFr.trans {o i : Nat} {x x' x2 : Nat → Nat → Int32} {y y' y2 : Nat → Nat → Int64} (h : MFr o i x y x' y') (h2 : MFr o i x' y' x2 y2) : MFr o i x y x2 y2 :=
  ⟨fun b q => (h2.1 b q).trans (h.1 b q), fun b q => (h2.2.1 b q).trans (h.2.1 b q), fun b q => (h2.2.2.1 b q).trans (h.2.2.1 b q), fun b q => (h2.2.2.2.1 b q).trans (h.2.2.2.1 b q), fun b q => (h2.2.2.2.2.1 b q).trans (h.2.2.2.2.1 b q), fun b q => (h2.2.2.2.2.2.1 b q).trans (h.2.2.2.2.2.1 b q), fun b q => (h2.2.2.2.2.2.2 b q).trans (h.2.2.2.2.2.2 b q)⟩
theorem MLay.low {o i q : Nat} {x x' : Nat → Nat → Int32} {y y' : Nat → Nat → Int64} {L : Lay} (h : MLay x y o q L) (hL : lyc L ≤ 40) (hq : q ≤ i) (hf : MFr o i x y x' y') : MLay x' y' o q L := by
  obtain ⟨h1, h2⟩ := h
  refine ⟨(hf.2.2.1 q (by omega)).trans h1, fun p hp => ⟨(hf.2.2.2.2.2.2 _ (by omega)).trans (h2 p hp).1, fun k hk => (hf.2.1 _ (by omega)).trans ((h2 p hp).2 k hk)⟩⟩
theorem MEdg.low {o i q : Nat} {x x' : Nat → Nat → Int32} {y y' : Nat → Nat → Int64} {E : Edg} (h : MEdg x o q E) (hE : egc E ≤ 1600) (hq : q < i) (hf : MFr o i x y x' y') : MEdg x' o q E := by
  obtain ⟨h1, h2⟩ := h
  exact ⟨(hf.2.2.2.2.1 q (by omega)).trans h1, fun e he => (hf.2.2.2.1 _ (by omega)).trans (h2 e he)⟩
/-- the moves among the first k of all pairs of squares -/
def lkP (c n : Nat) (N : Nat → Int32) (P : Nat → Nat) (col k : Nat) : List (Nat × Nat) := lstF c n N P col (k / n) ++ if (own (P (k / n)) col && orgB c N P (k / n)) = true then lstT c n N P col (k / n) (k % n) else []
theorem lstT_nil {c n : Nat} {N : Nat → Int32} {P : Nat → Nat} {col f : Nat} : lstT c n N P col f 0 = [] := rfl
theorem ite_nil {α : Type} {b : Prop} [Decidable b] : (if b then ([] : List α) else []) = [] := by split <;> rfl
theorem lkP_zero {c n : Nat} {N : Nat → Int32} {P : Nat → Nat} {col : Nat} : lkP c n N P col 0 = [] := by
  unfold lkP
  rw [Nat.zero_div, Nat.zero_mod, lstT_nil, ite_nil]; rfl
theorem lkP_end {c n : Nat} {N : Nat → Int32} {P : Nat → Nat} {col : Nat} (h0 : 0 < n) : lkP c n N P col (n * n) = mvl c n N P col := by
  unfold lkP
  rw [Nat.mul_div_cancel n h0, Nat.mul_mod_left, lstT_nil, ite_nil, List.append_nil]; rfl
theorem lkP_succ {c n : Nat} {N : Nat → Int32} {P : Nat → Nat} {col k : Nat} (h0 : 0 < n) : lkP c n N P col (k + 1) = lkP c n N P col k ++ if ((own (P (k / n)) col && orgB c N P (k / n)) && tgtB c n N P col (k / n) (k % n)) = true then [(k / n, k % n)] else [] := by
  have dm := Nat.div_add_mod k n
  have ml := Nat.mod_lt k h0
  generalize hq : k / n = q at *
  generalize hr : k % n = s at *
  have tl : (if (own (P q) col && orgB c N P q) = true then lstT c n N P col q (s + 1) else []) = (if (own (P q) col && orgB c N P q) = true then lstT c n N P col q s else []) ++ if ((own (P q) col && orgB c N P q) && tgtB c n N P col q s) = true then [(q, s)] else [] := by
    cases (own (P q) col && orgB c N P q) with
    | false => rfl
    | true => rw [if_pos rfl, if_pos rfl, Bool.true_and, lstT_succ]
  by_cases hs : s + 1 < n
  · have e1 : (k + 1) / n = q := by
      rw [← dm, Nat.add_assoc, Nat.mul_add_div h0, Nat.div_eq_of_lt hs, Nat.add_zero]
    have e2 : (k + 1) % n = s + 1 := by
      rw [← dm, Nat.add_assoc, Nat.mul_add_mod, Nat.mod_eq_of_lt hs]
    unfold lkP
    rw [e1, e2, hq, hr, tl, List.append_assoc]
  · have en : s + 1 = n := by omega
    have e0 : k + 1 = n * (q + 1) := by rw [Nat.mul_succ, ← dm]; omega
    have e1 : (k + 1) / n = q + 1 := by rw [e0, Nat.mul_div_cancel_left _ h0]
    have e2 : (k + 1) % n = 0 := by rw [e0, Nat.mul_mod_right]
    unfold lkP
    rw [e1, e2, hq, hr, lstT_nil, ite_nil, List.append_nil, lstF_succ, List.append_assoc, ← tl, en]
section MFOL
variable {G : Mem} {o : Nat} {c r i : Nat} {N : Nat → Int32}
/-- one move more -/
theorem mmove_ok (h : MSh G o) (hs : szs c r) {x : Nat → Nat → Int32} {y : Nat → Nat → Int64} (hz : MSz x o c r) (hi : i < 10) {Lp : Lay} (hp40 : lyc Lp ≤ 40) {p f t : Nat} (hp : p < lyc Lp) (W : WFP (c * r) (lyp Lp p)) (hN : MNt x o i N) (h5 : N 5 = 0 ∨ N 5 = 1) (hLp : MLay x y o i Lp) {st : Lay × Edg} (hf : f < c * r) (ht : t < c * r) (hL : MLay x y o (i + 1) st.1) (hE : MEdg x o i st.2) (hL40 : lyc st.1 ≤ 40) (hLw : ∀ p, p < lyc st.1 → WFP (c * r) (lyp st.1 p)) (he : amv (c * r) Lp (p, f, t) st ≠ none → ((own (lyp Lp p f) (i % 2) && orgB c N (lyp Lp p) f) && tgtB c (c * r) N (lyp Lp p) (i % 2) f t) = true → egc st.2 < 1600) {k : Nat} (hk : k = f * (c * r) + t) :
    ∃ x' y', MFr o i x y x' y' ∧
      ((((own (lyp Lp p f) (i % 2) && orgB c N (lyp Lp p) f) && tgtB c (c * r) N (lyp Lp p) (i % 2) f t) = false ∧ fX7_follows_35 o (nW i) (nW (i % 2)) (nW p) (nW k) (wIJ G x y) = some (.inl (nW (k + 1)), wIJ G x' y') ∧ MLay x' y' o (i + 1) st.1 ∧ MEdg x' o i st.2) ∨
       (((own (lyp Lp p f) (i % 2) && orgB c N (lyp Lp p) f) && tgtB c (c * r) N (lyp Lp p) (i % 2) f t) = true ∧ ((amv (c * r) Lp (p, f, t) st = none ∧ fX7_follows_35 o (nW i) (nW (i % 2)) (nW p) (nW k) (wIJ G x y) = some (.inr (.inr (nW 0)), wIJ G x' y')) ∨
        ∃ st', amv (c * r) Lp (p, f, t) st = some st' ∧ fX7_follows_35 o (nW i) (nW (i % 2)) (nW p) (nW k) (wIJ G x y) = some (.inl (nW (k + 1)), wIJ G x' y') ∧ MLay x' y' o (i + 1) st'.1 ∧ MEdg x' o i st'.2))) := by
  have h36 := szs36 hs
  have hcol : i % 2 < 2 := Nat.mod_lt _ (by decide)
  generalize hcl : i % 2 = col at *
  have n0 : 0 < c * r := by omega
  have hkn : k < c * r * (c * r) := by
    rw [hk]
    have : (f + 1) * (c * r) ≤ c * r * (c * r) := Nat.mul_le_mul_right _ hf
    rw [Nat.succ_mul] at this
    omega
  have hnn : c * r * (c * r) ≤ 1296 := Nat.mul_le_mul h36 h36
  have e1 : k / (c * r) = f := by rw [hk, Nat.mul_comm, Nat.mul_add_div n0, Nat.div_eq_of_lt ht, Nat.add_zero]
  have e2 : k % (c * r) = t := by rw [hk, Nat.mul_comm, Nat.mul_add_mod, Nat.mod_eq_of_lt ht]
  have hP := (hLp.2 p hp).2
  have sq : fX7_squareMany o (wIJ G x y) = some (nW (c * r), wIJ G x y) := squareMany_ok h hz
  obtain ⟨x1, m1, m2, m3⟩ := moves_ok (y := y) h hs hz W (i := i) (p := p) (f := f) (t := t) (col := col) (by omega) (by omega) hP hf ht hcol
  have head : fX7_follows_35 o (nW i) (nW col) (nW p) (nW k) (wIJ G x y) = if bI (lgl c (c * r) (lyp Lp p) col f t) = nW 0 then fX7_follows_193 o (nW i) (nW col) (nW p) (nW k) (wIJ G x1 y) else (fX7_agrees o (nW i) (nW i) (nW p) (nW f) (nW t) (nW col) (wIJ G x1 y)).bind fun q10 =>
      if q10.1 = nW 0 then fX7_follows_193 o (nW i) (nW col) (nW p) (nW k) q10.2 else ck q10.2 17 o <| (fX7_numberOf o (nW (i + 1)) q10.2).bind fun q12 =>
        if q12.1 = -nW 1 then liftE (liftE (fX7_follows_114 q12.2)) else
          (gR q12.2 17 o 18).bind fun v14 => (gJ q12.2 v14 (nW ((i + 1) * 40) + q12.1)).bind fun v15 => (gR q12.2 17 o 18).bind fun v16 => (gJ q12.2 v16 (nW (i * 40 + p))).bind fun v17 => (pJ q12.2 v14 (nW ((i + 1) * 40) + q12.1) (v15 + v17)).bind fun G18 =>
          (gR G18 17 o 15).bind fun v19 => (gR G18 17 o 16).bind fun v20 => (gA G18 1 v20 (nW i)).bind fun v21 => (pA G18 v19 (nW (i * 1600) + v21) ((((((nW (p * 40)) + q12.1) * nW 36) * nW 36) + nW (f * 36)) + nW t)).bind fun G22 =>
          (gR G22 17 o 16).bind fun v23 => (gA G22 1 v23 (nW i)).bind fun v24 => (pA G22 v23 (nW i) (v24 + nW 1)).bind fun G25 => fX7_follows_193 o (nW i) (nW col) (nW p) (nW k) G25 := by
    unfold fX7_follows_35
    simp only [lits, nW_mul, nW_add]
    rw [ck_wij, ck_ok h.t, sq, Option.bind_some, ck_wij, ck_ok h.t, sq, Option.bind_some, nW_mul, if_neg (by rw [nW_le (by omega) (by omega)]; omega), ck_wij, ck_ok h.t, sq, Option.bind_some, dz_ok n0 (by omega), ck_wij, ck_ok h.t, sq, Option.bind_some, dz_ok n0 (by omega), nW_rem (by omega) (by omega), nW_div (by omega) (by omega), e1, e2, ck_wij, ck_ok h.t, m1, Option.bind_some, ck_wij, ck_ok h.t]
    simp only [nW_mul]
  rw [head]
  have f1 : MFr o i x y x1 y := ⟨fun b hb => m2 b (by omega), fun _ _ => by rw [m2 _ (by omega)], fun _ _ => by rw [m2 _ (by omega)], fun _ _ => by rw [m2 _ (by omega)], fun _ _ => by rw [m2 _ (by omega)], fun _ _ => rfl, fun _ _ => rfl⟩
  have hL1 : MLay x1 y o (i + 1) st.1 := ⟨by rw [m2 _ (by omega)]; exact hL.1, fun q hq => ⟨(hL.2 q hq).1, fun k hk => by rw [m2 _ (by omega)]; exact (hL.2 q hq).2 k hk⟩⟩
  have hE1 : MEdg x1 o i st.2 := ⟨by rw [m2 _ (by omega)]; exact hE.1, fun e he => by rw [m2 _ (by omega)]; exact hE.2 e he⟩
  have s193 : ∀ G2, fX7_follows_193 o (nW i) (nW col) (nW p) (nW k) G2 = some (.inl (nW (k + 1)), G2) := fun G2 => by
    unfold fX7_follows_193
    simp only [lits, nW_add]
  rw [← same_moves h5] at he ⊢
  cases hlg : lgl c (c * r) (lyp Lp p) col f t with
  | false =>
    rw [if_pos (show bI false = nW 0 from rfl), s193]
    exact ⟨x1, y, f1, Or.inl ⟨rfl, rfl, hL1, hE1⟩⟩
  | true =>
  rw [if_neg (show ¬ bI true = nW 0 from bIt0)]
  have hb1 := m3 hlg
  have hlg' := hlg
  unfold lgl at hlg'
  simp only [Bool.and_eq_true, Bool.or_eq_true, Bool.not_eq_true', beq_iff_eq, decide_eq_false_iff_not] at hlg'
  obtain ⟨t1, t2, t3, -⟩ := hlg'
  have hne : f ≠ t := rch_ne t2
  have hpf : lyp Lp p f ≠ 0 := by have := (own_iff.mp t1).1; omega
  have W2 := WFP_mvd W hf ht hne hpf (t3.elim (fun q => Or.inr q) (fun q => Or.inl q.2))
  have hz1 : MSz x1 o c r := by
    unfold MSz
    rw [m2 _ (by omega)]; exact hz
  rw [agrees_ok (y := y) h hs hz1 W2 W.1 (i := i) (p := p) (N := N) (by intro j hj; rw [m2 _ (by omega)]; exact hN j hj) hi (by omega) (by intro q hq; rw [m2 _ (by omega)]; exact hP q hq) hf ht hne hpf hcol hb1, Option.bind_some]
  cases hag : agr c (c * r) N (lyp Lp p) col f t with
  | false =>
    rw [if_pos (show bI false = nW 0 from rfl), s193]
    exact ⟨x1, y, f1, Or.inl ⟨rfl, rfl, hL1, hE1⟩⟩
  | true =>
  rw [if_neg (show ¬ bI true = nW 0 from bIt0), ck_wij, ck_ok h.t]
  have nu := numberOf_ok h hs hz1 (i1 := i + 1) (by omega) (L := st.1) (Q := mvd (lyp Lp p) f t) hL40 hL1 hb1 (fun q hq => (hLw q hq).1) W2.1
  obtain ⟨fx1, fx2, fx3⟩ := fxi_spec (n := c * r) (L := st.1) (Q := mvd (lyp Lp p) f t)
  by_cases h40 : fxi (c * r) st.1 (mvd (lyp Lp p) f t) = 40
  · rw [if_pos h40] at nu
    rw [nu, Option.bind_some, if_pos rfl]
    have ea : amv (c * r) Lp (p, f, t) st = none := by unfold amv; exact if_pos h40
    exact ⟨x1, y, f1, Or.inr ⟨rfl, Or.inl ⟨ea, rfl⟩⟩⟩
  · rw [if_neg h40] at nu
    obtain ⟨x2, y2, e5, k5a, k5b, k5c, k5d, k5e, k5f⟩ : ∃ (x2 : Nat → Nat → Int32) (y2 : Nat → Nat → Int64), fX7_numberOf o (nW (i + 1)) (wIJ G x1 y) = some (nW (fxi (c * r) st.1 (mvd (lyp Lp p) f t)), wIJ G x2 y2) ∧
        (∀ b, b ≠ o + 8 → b ≠ o + 9 → x2 b = x1 b) ∧ (∀ b, b ≠ o + 13 → y2 b = y b) ∧ (x2 (o + 9) = updF (x1 (o + 9)) (i + 1) (nW (lyc (addP st.1 (mvd (lyp Lp p) f t) (fxi (c * r) st.1 (mvd (lyp Lp p) f t)) (lyg Lp p))))) ∧
        (∀ k, k ≠ (i + 1) * 40 + fxi (c * r) st.1 (mvd (lyp Lp p) f t) → y2 (o + 13) k = y (o + 13) k) ∧ (y2 (o + 13) ((i + 1) * 40 + fxi (c * r) st.1 (mvd (lyp Lp p) f t)) = if fxi (c * r) st.1 (mvd (lyp Lp p) f t) = lyc st.1 then 0 else y (o + 13) ((i + 1) * 40 + fxi (c * r) st.1 (mvd (lyp Lp p) f t))) ∧
        ((∀ k, k < ((i + 1) * 40 + lyc st.1) * 36 → x2 (o + 8) k = x1 (o + 8) k) ∧ (fxi (c * r) st.1 (mvd (lyp Lp p) f t) = lyc st.1 → MRow x2 (o + 8) (((i + 1) * 40 + lyc st.1) * 36) 36 (mvd (lyp Lp p) f t))) := by
      by_cases hnew : fxi (c * r) st.1 (mvd (lyp Lp p) f t) = lyc st.1
      · rw [if_pos hnew] at nu
        refine ⟨_, _, by rw [nu, hnew], fun b q1 q2 => by rw [u2_arow q2, ur_arow q1], fun b q1 => u2_arow q1, ?_, fun k hk => ?_, ?_, fun k hk => ?_, fun _ k hk => ?_⟩
        · rw [u2_eq, ur_arow (by omega)]
          unfold addP
          rw [if_pos hnew]
          rfl
        · rw [u2_other (fun q => hk (by rw [hnew]; exact q.2))]
        · rw [if_pos hnew, hnew, u2_same]
        · rw [u2_apart (by omega), ur_same, cpy_out (by omega)]
        · rw [u2_apart (by omega), ur_same, cpy_in (by omega) (by omega), ← hb1 k hk]
          congr 1; omega
      · rw [if_neg hnew] at nu
        refine ⟨_, _, nu, fun _ _ _ => rfl, fun _ _ => rfl, ?_, fun _ _ => rfl, by rw [if_neg hnew], fun _ _ => rfl, fun q => absurd q hnew⟩
        funext j
        unfold updF addP
        rw [if_neg hnew]
        by_cases hj : j = i + 1
        · rw [if_pos hj, hj]; exact hL1.1
        · rw [if_neg hj]
    have hidx : fxi (c * r) st.1 (mvd (lyp Lp p) f t) < 40 := by omega
    generalize hid : fxi (c * r) st.1 (mvd (lyp Lp p) f t) = idx at *
    have ea : amv (c * r) Lp (p, f, t) st = some (addP st.1 (mvd (lyp Lp p) f t) idx (lyg Lp p), addE st.2 (p, idx, f, t)) := by
      unfold amv
      show (if fxi (c * r) st.1 (mvd (lyp Lp p) f t) = 40 then none else _) = _
      rw [hid, if_neg h40]
    have hlt := he (by rw [ea]; exact fun q => by cases q) (by rw [hlg, hag]; rfl)
    rw [e5, Option.bind_some, if_neg (nW_m1 (by omega)), gR_wij, h.g18, Option.bind_some, nW_add, h.r18.rj (by omega) (by decide), Option.bind_some, Option.bind_some, h.r18.rj (by omega) (by decide), Option.bind_some, h.r18.wj (by omega) (by decide), Option.bind_some, gR_wij, h.g15, Option.bind_some, gR_wij, h.g16, Option.bind_some]
    have x11 : x2 (o + 11) i = nW (egc st.2) := by rw [k5a _ (by omega) (by omega)]; exact hE1.1
    rw [h.r16.rd hi (by decide), x11, Option.bind_some]
    have ev : ((((((nW (p * 40)) + nW idx) * nW 36) * nW 36) + nW (f * 36)) + nW t) = nW (mlk (p, idx, f, t)) := by
      simp only [nW_add, nW_mul]
      congr 1
      show (p * 40 + idx) * 36 * 36 + f * 36 + t = (p * 40 + idx) * 1296 + (f * 36 + t)
      omega
    rw [ev, nW_add, h.r15.wr (by omega) (by decide), Option.bind_some, gR_wij, h.g16, Option.bind_some, h.r16.rd hi (by decide), u2_apart (by omega), x11, Option.bind_some, nW_add, h.r16.wr hi (by decide), Option.bind_some, s193]
    generalize hx3 : u2 (u2 x2 (o + 10) (i * 1600 + egc st.2) (nW (mlk (p, idx, f, t)))) (o + 11) i (nW (egc st.2 + 1)) = x3
    generalize hy3 : u2 y2 (o + 13) ((i + 1) * 40 + idx) (y2 (o + 13) ((i + 1) * 40 + idx) + y2 (o + 13) (i * 40 + p)) = y3
    have x3o : ∀ b, b ≠ o + 10 → b ≠ o + 11 → x3 b = x2 b := fun b q1 q2 => by rw [← hx3, u2_arow q2, u2_arow q1]
    have x3m : ∀ j, x3 (o + 11) j = if j = i then nW (egc st.2 + 1) else x1 (o + 11) j := fun j => by
      rw [← hx3]
      by_cases q : j = i
      · rw [if_pos q, q, u2_same]
      · rw [if_neg q, u2_other (fun z => q z.2), u2_apart (by omega), k5a _ (by omega) (by omega)]
    have x3e : ∀ j, x3 (o + 10) j = if j = i * 1600 + egc st.2 then nW (mlk (p, idx, f, t)) else x1 (o + 10) j := fun j => by
      rw [← hx3, u2_apart (by omega)]
      by_cases q : j = i * 1600 + egc st.2
      · rw [if_pos q, q, u2_same]
      · rw [if_neg q, u2_other (fun z => q z.2), k5a _ (by omega) (by omega)]
    refine ⟨x3, y3, ⟨fun b hb => ?_, fun j hj => ?_, fun j hj => ?_, fun j hj => ?_, fun j hj => ?_, fun b hb => ?_, fun j hj => ?_⟩, Or.inr ⟨rfl, Or.inr ⟨_, ea, rfl, ⟨?_, fun q hq => ⟨?_, ?_⟩⟩, ⟨?_, fun e he2 => ?_⟩⟩⟩⟩
    · rw [x3o b (by omega) (by omega), k5a b (by omega) (by omega)]; exact m2 b (by omega)
    · rw [x3o _ (by omega) (by omega), k5f.1 j (by omega), m2 _ (by omega)]
    · rw [x3o _ (by omega) (by omega), k5c]
      show (if j = i + 1 then _ else x1 (o + 9) j) = _
      rw [if_neg hj, m2 _ (by omega)]
    · rw [x3e, if_neg (by omega), m2 _ (by omega)]
    · rw [x3m, if_neg hj, m2 _ (by omega)]
    · rw [← hy3, u2_arow hb]; exact k5b b hb
    · rw [← hy3, u2_other (by omega)]; exact k5d j (by omega)
    · rw [x3o _ (by omega) (by omega), k5c]
      show (if i + 1 = i + 1 then _ else _) = _
      rw [if_pos rfl]
    · have hq : q < lyc (addP st.1 (mvd (lyp Lp p) f t) idx (lyg Lp p)) := hq
      have hq2 : q < lyc st.1 ∨ q = idx := by
        unfold addP at hq
        by_cases hn2 : idx = lyc st.1
        · rw [if_pos hn2] at hq
          have : q < lyc st.1 + 1 := hq
          omega
        · rw [if_neg hn2] at hq
          exact Or.inl hq
      have e12 : y2 (o + 13) (i * 40 + p) = Int64.ofNat (lyg Lp p) := by rw [k5d _ (by omega)]; exact (hLp.2 p hp).1
      rw [← hy3]
      show _ = Int64.ofNat (lyg (addP st.1 (mvd (lyp Lp p) f t) idx (lyg Lp p)) q)
      by_cases hqi : q = idx
      · rw [hqi, u2_same, k5e, e12]
        unfold addP
        by_cases hn2 : idx = lyc st.1
        · rw [if_pos hn2, if_pos hn2]
          show (0 : Int64) + Int64.ofNat (lyg Lp p) = Int64.ofNat (if idx = idx then lyg Lp p else _)
          rw [if_pos rfl]
          exact Int64.zero_add _
        · rw [if_neg hn2, if_neg hn2, (hL1.2 idx (by omega)).1, ← Int64.ofNat_add]
          show _ = Int64.ofNat (if idx = idx then lyg st.1 idx + lyg Lp p else _)
          rw [if_pos rfl]
      · have hq3 : q < lyc st.1 := by omega
        rw [u2_other (by omega), k5d _ (by omega), (hL1.2 q hq3).1]
        unfold addP
        by_cases hn2 : idx = lyc st.1
        · rw [if_pos hn2]
          show _ = Int64.ofNat (if q = idx then _ else lyg st.1 q)
          rw [if_neg hqi]
        · rw [if_neg hn2]
          show _ = Int64.ofNat (if q = idx then _ else lyg st.1 q)
          rw [if_neg hqi]
    · have hq : q < lyc (addP st.1 (mvd (lyp Lp p) f t) idx (lyg Lp p)) := hq
      show MRow x3 _ _ _ (lyp (addP st.1 (mvd (lyp Lp p) f t) idx (lyg Lp p)) q)
      unfold MRow
      rw [x3o _ (by omega) (by omega)]
      unfold addP at hq ⊢
      by_cases hn2 : idx = lyc st.1
      · rw [if_pos hn2] at hq ⊢
        have hq : q < lyc st.1 + 1 := hq
        show ∀ k, k < 36 → x2 (o + 8) _ = nW ((if q = idx then mvd (lyp Lp p) f t else lyp st.1 q) k)
        by_cases hqi : q = idx
        · rw [if_pos hqi, hqi, hn2]; exact k5f.2 hn2
        · rw [if_neg hqi]
          intro k hk
          rw [k5f.1 _ (by omega)]; exact (hL1.2 q (by omega)).2 k hk
      · rw [if_neg hn2] at hq ⊢
        have hq : q < lyc st.1 := hq
        intro k hk
        rw [k5f.1 _ (by omega)]; exact (hL1.2 q hq).2 k hk
    · rw [x3m, if_pos rfl]; rfl
    · have he2 : e < egc st.2 + 1 := he2
      rw [x3e]
      show _ = nW (mlk (if e = egc st.2 then (p, idx, f, t) else egd st.2 e))
      by_cases ee : e = egc st.2
      · rw [if_pos ee, if_pos (by omega)]
      · rw [if_neg ee, if_neg (by omega)]; exact hE1.2 e (by omega)
end MFOL
