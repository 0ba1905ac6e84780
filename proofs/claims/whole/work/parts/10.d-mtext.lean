/-! ===== the reference's text in the memory ===== -/
def RBy (x : Nat → Nat → Int32) (o : Nat) (T : Nat → Nat) (L : Nat) : Prop := L ≤ 600 ∧ x o 9 = nW L ∧ ∀ i, i < L → T i < 256 ∧ x (o + 6) i = nW (T i)
/-- the reference's numbers for the sorts -/
def rsr (k : Nat) : Nat := [0, 4, 1, 2, 3].getD k 0
theorem rsr_eq : ∀ k, k < 5 → (rsr k < 5 ∧ (rsr k = 0 ↔ k = 0) ∧ (rsr k = 1 ↔ k = 2) ∧ (rsr k = 2 ↔ k = 3) ∧ (rsr k = 3 ↔ k = 4)) := by decide
def RTk (x : Nat → Nat → Int32) (o : Nat) (T : Nat → Nat) (L s : Nat) : Prop := s ≤ L ∧ x o 21 = nW (rsr (srt T L s)) ∧ x o 22 = nW s ∧ (srt T L s = 3 → x o 24 = nW (min (vlN T L s) 100000)) ∧ x o 23 = nW (stp T L s)
theorem u2_id {α : Type} {f : Nat → Nat → α} {a k : Nat} {v : α} (h : f a k = v) : u2 f a k v = f := by
  funext b j
  by_cases q : b = a ∧ j = k
  · rw [q.1, q.2, u2_same, h]
  · rw [u2_other q]
theorem misIn_ok {v lo hi : Nat} (hv : v < 2147483648) (h1 : lo < 2147483648) (h2 : hi < 2147483648) {G : Mem} : fX7_isIn (nW v) (nW lo) (nW hi) G = some (bI (decide (lo ≤ v ∧ v ≤ hi)), G) := by
  unfold fX7_isIn fX7_isIn_0 fX7_isIn_14 fX7_isIn_15
  simp only [lits]
  by_cases a : v < lo
  · rw [if_pos ((nW_lt hv h1).mpr a), decide_eq_false (by omega), rz0]; rfl
  · rw [if_neg (by rw [nW_lt hv h1]; exact a)]
    by_cases b : hi < v
    · rw [if_pos ((nW_lt h2 hv).mpr b), decide_eq_false (by omega), rz0]; rfl
    · rw [if_neg (by rw [nW_lt h2 hv]; exact b), decide_eq_true (by omega), rz1]; rfl
section MTEXT
variable {G : Mem} {o : Nat} {x : Nat → Nat → Int32} {y : Nat → Nat → Int64} {T : Nat → Nat} {L : Nat}
theorem MSh.g7 (h : MSh G o) : gR G 17 o 7 = some (o + 6) := gR_ok h.1.1 h.1.2.2.2.2.2.2.1
theorem MSh.r6 (h : MSh G o) : RW G 1 (o + 6) 600 := h.2.2.2.2.2.2.1
theorem RBy.frame {x' : Nat → Nat → Int32} (h : RBy x o T L) (h0 : x' o 9 = x o 9) (h3 : x' (o + 6) = x (o + 6)) : RBy x' o T L := ⟨h.1, h0.trans h.2.1, fun i hi => by rw [h3]; exact h.2.2 i hi⟩
theorem RTk.frame {x' : Nat → Nat → Int32} {s : Nat} (h : RTk x o T L s) (h2 : ∀ j, 21 ≤ j → j ≤ 24 → x' o j = x o j) : RTk x' o T L s := ⟨h.1, (h2 21 (by decide) (by decide)).trans h.2.1, (h2 22 (by decide) (by decide)).trans h.2.2.1, fun q => (h2 24 (by decide) (by decide)).trans (h.2.2.2.1 q), (h2 23 (by decide) (by decide)).trans h.2.2.2.2⟩
theorem RBy.next {x' : Nat → Nat → Int32} (hb : RBy x o T L) (hf : ∀ b j, ¬ (b = o ∧ 21 ≤ j ∧ j ≤ 24) → x' b j = x b j) : RBy x' o T L := hb.frame (hf o 9 (by omega)) (funext fun j => hf (o + 6) j (by omega))
theorem isLetter_ok (h : MSh G o) (hb : RBy x o T L) {i : Nat} (hi : i < 2147483648) : fX7_isLetter o (nW i) (wIJ G x y) = some (bI (decide (srt T L i = 2)), wIJ G x y) := by
  obtain ⟨h1, h2, h3⟩ := hb
  unfold fX7_isLetter fX7_isLetter_0 fX7_isLetter_28 fX7_isLetter_29 srt
  simp only [lits]
  rw [gF_wij h.t, h2, Option.bind_some]
  by_cases hL : L ≤ i
  · rw [if_pos ((nW_le (by omega) hi).mpr hL), if_pos hL, rz0]; rfl
  · have hT := h3 i (by omega)
    rw [if_neg (by rw [nW_le (by omega) hi]; exact hL), if_neg hL, gR_wij, h.g7, Option.bind_some, h.r6.rd (by omega) (by decide), hT.2, Option.bind_some, misIn_ok (by omega) (by decide) (by decide), Option.bind_some]
    by_cases e : 97 ≤ T i ∧ T i ≤ 122
    · rw [decide_eq_true e, if_neg bIt, if_pos e, rz1]; rfl
    · rw [decide_eq_false e, if_pos bIf, if_neg e, rz0]
      have : ¬ (if 48 ≤ T i ∧ T i ≤ 57 then 3 else if T i = 59 then 4 else 1) = 2 := by
        split
        · decide
        · split <;> decide
      rw [decide_eq_false this]; rfl
theorem isDigit_ok (h : MSh G o) (hb : RBy x o T L) {i : Nat} (hi : i < 2147483648) : fX7_isDigit o (nW i) (wIJ G x y) = some (bI (decide (srt T L i = 3)), wIJ G x y) := by
  obtain ⟨h1, h2, h3⟩ := hb
  unfold fX7_isDigit fX7_isDigit_0 fX7_isDigit_28 fX7_isDigit_29 srt
  simp only [lits]
  rw [gF_wij h.t, h2, Option.bind_some]
  by_cases hL : L ≤ i
  · rw [if_pos ((nW_le (by omega) hi).mpr hL), if_pos hL, rz0]; rfl
  · have hT := h3 i (by omega)
    rw [if_neg (by rw [nW_le (by omega) hi]; exact hL), if_neg hL, gR_wij, h.g7, Option.bind_some, h.r6.rd (by omega) (by decide), hT.2, Option.bind_some, misIn_ok (by omega) (by decide) (by decide), Option.bind_some]
    by_cases e : 48 ≤ T i ∧ T i ≤ 57
    · rw [decide_eq_true e, if_neg bIt, if_neg (show ¬ (97 ≤ T i ∧ T i ≤ 122) by omega), if_pos e, rz1]; rfl
    · rw [decide_eq_false e, if_pos bIf, rz0, if_neg e]
      have : ¬ (if 97 ≤ T i ∧ T i ≤ 122 then 2 else if T i = 59 then 4 else 1) = 3 := by
        split
        · decide
        · split <;> decide
      rw [decide_eq_false this]; rfl
theorem mvl_step {v t : Nat} (hv : v < 200000) (ht : 48 ≤ t ∧ t ≤ 57) : (if nW v * nW 10 + nW t - nW 48 < nW 100000 then nW v * nW 10 + nW t - nW 48 else nW 100000) = nW (min (10 * v + (t - 48)) 100000) := by
  rw [nW_mul, nW_add, nW_sub (by omega), show v * 10 + t - 48 = 10 * v + (t - 48) by omega]
  by_cases h : 10 * v + (t - 48) < 100000
  · rw [if_pos ((nW_lt (by omega) (by decide)).mpr h), Nat.min_eq_left (by omega)]
  · rw [if_neg (by rw [nW_lt (by omega) (by decide)]; exact h), Nat.min_eq_right (by omega)]
theorem mtoken_ok (h : MSh G o) (hb : RBy x o T L) {s : Nat} (sL : s ≤ L) (h3 : x o 23 = nW s) :
    ∃ x', fX7_next_38 o (wIJ G x y) = some ((), wIJ G x' y) ∧ (∀ b j, ¬ (b = o ∧ 21 ≤ j ∧ j ≤ 24) → x' b j = x b j) ∧ RTk x' o T L s := by
  have hL := hb.1
  have h4 := srt_le (T := T) (L := L) s
  have hle := stp_le (T := T) (L := L) sL
  have b1 : RBy (u2 x o 22 (nW s)) o T L := hb.frame (by rw [u2_other (by omega)]) (by rw [u2_arow (by omega)])
  unfold fX7_next_38 fX7_next_199 fX7_next_212
  simp only [lits]
  rw [gF_wij h.t, h3, Option.bind_some, pI_wij h.t, Option.bind_some, gF_wij h.t, u2_other (by omega), h3, Option.bind_some, gF_wij h.t, b1.2.1, Option.bind_some]
  by_cases e0 : srt T L s = 0
  · have := srt0.mp e0
    have es : s = L := by omega
    rw [if_pos (by rw [es]), pI_wij h.t, Option.bind_some]
    refine ⟨_, rfl, fun b j q => by rw [u2_other (by omega), u2_other (by omega)], sL, ?_, ?_, fun q => absurd (e0.symm.trans q) (by decide), ?_⟩
    · rw [u2_same, e0]; rfl
    · rw [u2_other (by omega), u2_same]
    · rw [u2_other (by omega), u2_other (by omega), stp_end e0, h3]
  · have hsL : s < L := by
      by_cases q : L ≤ s
      · exact absurd (srt0.mpr q) e0
      · omega
    rw [if_neg (by rw [nW_eq (by omega) (by omega)]; omega), Option.bind_some, ck_wij, ck_ok h.t, isLetter_ok h b1 (by omega), Option.bind_some]
    by_cases e2 : srt T L s = 2
    · rw [decide_eq_true e2, if_neg bIt, pI_wij h.t, Option.bind_some]
      obtain ⟨r1, r2, r3⟩ := stp_run (Or.inl e2)
      generalize hx0 : u2 (u2 x o 22 (nW s)) o 21 (nW 1) = x0
      have x0f : x0 o 23 = nW s := by rw [← hx0, u2_other (by omega), u2_other (by omega)]; exact h3
      have bX : ∀ k, RBy (u2 x0 o 23 (nW k)) o T L := fun k => hb.frame (by rw [← hx0, u2_other (by omega), u2_other (by omega), u2_other (by omega)]) (by rw [← hx0, u2_arow (by omega), u2_arow (by omega), u2_arow (by omega)])
      have l := loop_to (f := fun (s : Unit) G => fX7_next_81 o G) (fun _ => ()) (fun i => wIJ G (u2 x0 o 23 (nW (s + i))) y) (stp T L s - s) () (wIJ G (u2 x0 o 23 (nW (s + (stp T L s - s)))) y) (fun i hi => by
        show fX7_next_81 _ _ = _
        unfold fX7_next_81
        simp only [lits]
        rw [gF_wij h.t, u2_same, Option.bind_some, ck_wij, ck_ok h.t, isLetter_ok h (bX _) (by omega), Option.bind_some, decide_eq_true (by rw [r2 _ (by omega) (by omega), e2]), if_neg bIt, gF_wij h.t, u2_same, Option.bind_some, nW_add, pI_wij h.t, Option.bind_some, u2_twice]
        rfl) (by
        show fX7_next_81 _ _ = _
        unfold fX7_next_81 fX7_next_212
        simp only [lits]
        rw [gF_wij h.t, u2_same, Option.bind_some, ck_wij, ck_ok h.t, isLetter_ok h (bX _) (by omega), Option.bind_some, show s + (stp T L s - s) = stp T L s by omega, decide_eq_false (by rw [← e2]; exact r3), if_pos bIf]
        rfl) (stp T L s - s) 0 FU (by omega) (by show _ < 100000; omega)
      have e00 : u2 x0 o 23 (nW (s + 0)) = x0 := u2_id x0f
      rw [e00] at l
      refine ⟨_, l, fun b j q => by rw [u2_other (by omega), ← hx0, u2_other (by omega), u2_other (by omega)], sL, ?_, ?_, fun q => absurd (e2.symm.trans q) (by decide), ?_⟩
      · rw [u2_other (by omega), ← hx0, u2_same, e2]; rfl
      · rw [u2_other (by omega), ← hx0, u2_other (by omega), u2_same]
      · rw [u2_same, show s + (stp T L s - s) = stp T L s by omega]
    · rw [decide_eq_false e2, if_pos bIf, gF_wij h.t, u2_other (by omega), h3, Option.bind_some, ck_wij, ck_ok h.t, isDigit_ok h b1 (by omega), Option.bind_some]
      by_cases e3 : srt T L s = 3
      · rw [decide_eq_true e3, if_neg bIt, pI_wij h.t, Option.bind_some, pI_wij h.t, Option.bind_some]
        obtain ⟨r1, r2, r3⟩ := stp_run (Or.inr e3)
        generalize hx0 : u2 (u2 (u2 x o 22 (nW s)) o 21 (nW 2)) o 24 (nW 0) = x0
        have x0f : x0 o 23 = nW s := by rw [← hx0, u2_other (by omega), u2_other (by omega), u2_other (by omega)]; exact h3
        have x0v : x0 o 24 = nW 0 := by rw [← hx0, u2_same]
        let vm : Nat → Nat := fun i => min (vlD T s i) 100000
        let X : Nat → Nat → Nat → Int32 := fun i => u2 (u2 x0 o 24 (nW (vm i))) o 23 (nW (s + i))
        have bX : ∀ i, RBy (X i) o T L := fun k => hb.frame (by show u2 _ _ _ _ _ _ = _; rw [u2_other (by omega), u2_other (by omega), ← hx0, u2_other (by omega), u2_other (by omega), u2_other (by omega)]) (by show u2 _ _ _ _ _ = _; rw [u2_arow (by omega), u2_arow (by omega), ← hx0, u2_arow (by omega), u2_arow (by omega), u2_arow (by omega)])
        have X3 : ∀ i, X i o 23 = nW (s + i) := fun i => u2_same
        have X4 : ∀ i, X i o 24 = nW (vm i) := fun i => by show u2 _ _ _ _ _ _ = _; rw [u2_other (by omega), u2_same]
        have hvm : ∀ i, vm i < 200000 := fun i => by show min _ _ < _; omega
        have l := loop_to (f := fun (s : Unit) G => fX7_next_126 o G) (fun _ => ()) (fun i => wIJ G (X i) y) (stp T L s - s) () (wIJ G (X (stp T L s - s)) y) (fun i hi => by
          have d3 := srt3 (show srt T L (s + i) = 3 by rw [r2 _ (by omega) (by omega), e3])
          show fX7_next_126 _ _ = _
          unfold fX7_next_126
          simp only [lits]
          rw [gF_wij h.t, X3, Option.bind_some, ck_wij, ck_ok h.t, isDigit_ok h (bX _) (by omega), Option.bind_some, decide_eq_true (by rw [r2 _ (by omega) (by omega), e3]), if_neg bIt, gF_wij h.t, X4, Option.bind_some, gR_wij, h.g7, Option.bind_some, gF_wij h.t, X3, Option.bind_some, h.r6.rd (by omega) (by decide), ((bX i).2.2 _ d3.1).2, Option.bind_some, mvl_step (hvm i) d3.2, pI_wij h.t, Option.bind_some, gF_wij h.t, u2_other (by omega), X3, Option.bind_some, nW_add, pI_wij h.t, Option.bind_some]
          have eX : u2 (u2 (X i) o 24 (nW (min (10 * vm i + (T (s + i) - 48)) 100000))) o 23 (nW (s + i + 1)) = X (i + 1) := by
            show u2 (u2 (u2 (u2 x0 o 24 (nW (vm i))) o 23 (nW (s + i))) o 24 _) o 23 _ = u2 (u2 x0 o 24 (nW (vm (i + 1)))) o 23 (nW (s + (i + 1)))
            rw [u2_swap (a := o) (k := 23) (by omega), u2_twice, u2_twice]
            have : min (10 * vm i + (T (s + i) - 48)) 100000 = vm (i + 1) := by
              show min (10 * min (vlD T s i) 100000 + (T (s + i) - 48)) 100000 = min (10 * vlD T s i + (T (s + i) - 48)) 100000
              omega
            rw [this]; rfl
          rw [eX]) (by
          show fX7_next_126 _ _ = _
          unfold fX7_next_126 fX7_next_212
          simp only [lits]
          rw [gF_wij h.t, X3, Option.bind_some, ck_wij, ck_ok h.t, isDigit_ok h (bX _) (by omega), Option.bind_some, show s + (stp T L s - s) = stp T L s by omega, decide_eq_false (by rw [← e3]; exact r3), if_pos bIf]
          rfl) (stp T L s - s) 0 FU (by omega) (by show _ < 100000; omega)
        have e00 : X 0 = x0 := by
          show u2 (u2 x0 o 24 (nW (min 0 100000))) o 23 (nW (s + 0)) = x0
          rw [show min 0 100000 = 0 from rfl, u2_id x0v]; exact u2_id x0f
        rw [e00] at l
        refine ⟨_, l, fun b j q => by show u2 _ _ _ _ _ _ = _; rw [u2_other (by omega), u2_other (by omega), ← hx0, u2_other (by omega), u2_other (by omega), u2_other (by omega)], sL, ?_, ?_, fun _ => X4 _, ?_⟩
        · show u2 _ _ _ _ _ _ = _
          rw [u2_other (by omega), u2_other (by omega), ← hx0, u2_other (by omega), u2_same, e3]; rfl
        · show u2 _ _ _ _ _ _ = _
          rw [u2_other (by omega), u2_other (by omega), ← hx0, u2_other (by omega), u2_other (by omega), u2_same]
        · rw [X3, show s + (stp T L s - s) = stp T L s by omega]
      · rw [decide_eq_false e3, if_pos bIf, gR_wij, h.g7, Option.bind_some, gF_wij h.t, u2_other (by omega), h3, Option.bind_some, h.r6.rd (by omega) (by decide), (b1.2.2 s hsL).2, Option.bind_some]
        have hT := (hb.2.2 s hsL).1
        have one := stp_one (T := T) (L := L) (s := s) (by omega)
        have fin : ∀ k, rsr (srt T L s) = k → ∃ x', ((pI (wIJ G (u2 x o 22 (nW s)) y) 17 o 21 (nW k)).bind fun G1 => (gF G1 17 o 23).bind fun v2 => (pI G1 17 o 23 (v2 + nW 1)).bind fun G3 => some ((), G3)) = some ((), wIJ G x' y) ∧ (∀ b j, ¬ (b = o ∧ 21 ≤ j ∧ j ≤ 24) → x' b j = x b j) ∧ RTk x' o T L s := by
          intro k hk
          rw [pI_wij h.t, Option.bind_some, gF_wij h.t, u2_other (by omega), u2_other (by omega), h3, Option.bind_some, nW_add, pI_wij h.t, Option.bind_some]
          refine ⟨_, rfl, fun b j q => by rw [u2_other (by omega), u2_other (by omega), u2_other (by omega)], sL, ?_, ?_, fun q => absurd q e3, ?_⟩
          · rw [u2_other (by omega), u2_same, hk]
          · rw [u2_other (by omega), u2_other (by omega), u2_same]
          · rw [u2_same, one]
        by_cases e59 : T s = 59
        · rw [if_pos (by rw [e59])]
          refine fin 3 ?_
          have : srt T L s = 4 := by
            unfold srt
            rw [if_neg (by omega), if_neg (by omega), if_neg (by omega), if_pos e59]
          rw [this]; rfl
        · rw [if_neg (by rw [nW_eq (by omega) (by decide)]; exact e59)]
          refine fin 4 ?_
          have : srt T L s = 1 := by
            unfold srt at e2 e3 ⊢
            rw [if_neg (by omega)] at e2 e3 ⊢
            by_cases a1 : 97 ≤ T s ∧ T s ≤ 122
            · rw [if_pos a1] at e2; exact absurd rfl e2
            · rw [if_neg a1] at e3 ⊢
              by_cases a2 : 48 ≤ T s ∧ T s ≤ 57
              · rw [if_pos a2] at e3; exact absurd rfl e3
              · rw [if_neg a2, if_neg e59]
          rw [this]; rfl
theorem mnext_ok (h : MSh G o) (hb : RBy x o T L) {e : Nat} (he : e ≤ L) (h3 : x o 23 = nW e) :
    ∃ x', fX7_next o (wIJ G x y) = some ((), wIJ G x' y) ∧ (∀ b j, ¬ (b = o ∧ 21 ≤ j ∧ j ≤ 24) → x' b j = x b j) ∧ RTk x' o T L (spN T L e) := by
  have hL := hb.1
  obtain ⟨s1, s2, s3⟩ := spN_spec (T := T) (L := L) e
  have sL := spN_le (T := T) he
  generalize hs : spN T L e = s at *
  have bX : ∀ k, RBy (u2 x o 23 (nW k)) o T L := fun k => hb.frame (by rw [u2_other (by omega)]) (by rw [u2_arow (by omega)])
  obtain ⟨x', f1, f2, f3⟩ := mtoken_ok (y := y) h (bX s) sL u2_same
  have l := loop_to (f := fun (s : Unit) G => fX7_next_0 o G) (fun _ => ()) (fun i => wIJ G (u2 x o 23 (nW (e + i))) y) (s - e) () (wIJ G x' y) (fun i hi => by
    have hk2 := s2 (e + i) (by omega) (by omega)
    show fX7_next_0 _ _ = _
    unfold fX7_next_0
    simp only [lits]
    rw [gF_wij h.t, u2_same, Option.bind_some, gF_wij h.t, (bX _).2.1, Option.bind_some, if_neg (by rw [nW_le (by omega) (by omega)]; omega), gR_wij, h.g7, Option.bind_some, Option.bind_some, h.r6.rd (by omega) (by decide), ((bX (e + i)).2.2 _ hk2.1).2, hk2.2, Option.bind_some, if_pos rfl, Option.bind_some, nW_add, pI_wij h.t, Option.bind_some, u2_twice]
    rfl) (by
    show fX7_next_0 _ _ = _
    unfold fX7_next_0
    simp only [lits]
    rw [show e + (s - e) = s by omega, gF_wij h.t, u2_same, Option.bind_some, gF_wij h.t, (bX s).2.1, Option.bind_some]
    by_cases q : L ≤ s
    · rw [if_pos ((nW_le (by omega) (by omega)).mpr q), f1]; rfl
    · have hT := (bX s).2.2 s (by omega)
      rw [if_neg (by rw [nW_le (by omega) (by omega)]; exact q), gR_wij, h.g7, Option.bind_some, Option.bind_some, h.r6.rd (by omega) (by decide), hT.2, Option.bind_some, if_neg (by rw [nW_eq (by have := hT.1; omega) (by decide)]; exact fun q3 => s3 ⟨by omega, q3⟩), f1]; rfl) (s - e) 0 FU (by omega) (by show _ < 100000; omega)
  have e0 : u2 x o 23 (nW (e + 0)) = x := u2_id h3
  rw [e0] at l
  exact ⟨x', l, fun b j q => (f2 b j q).trans (u2_other (by omega)), f3⟩
theorem mis_ok (h : MSh G o) (hb : RBy x o T L) {s w : Nat} (hk : RTk x o T L s) (hw : w < 16) : fX7_is o w (wIJ G x y) = some (bI (isw T L s w), wIJ G x y) := by
  have hL := hb.1
  obtain ⟨sL, c1, c2, -, c4⟩ := hk
  have hge := stp_ge (T := T) (L := L) s
  have hle := stp_le (T := T) (L := L) sL
  have hw38 : w < 38 := by omega
  have h4 := srt_le (T := T) (L := L) s
  have hl := (wd_at hw).1.2
  have hr := rsr_eq _ (show srt T L s < 5 by omega)
  unfold fX7_is fX7_is_0 fX7_is_24 isw
  simp only [lits]
  rw [gF_wij h.t, c1, Option.bind_some]
  by_cases e2 : srt T L s = 2
  · rw [if_pos (by rw [hr.2.2.1.mpr e2]), gF_wij h.t, c4, Option.bind_some, gF_wij h.t, c2, Option.bind_some, ckS_ok hw38, wlen_ok hw, Option.bind_some, nW_sub hge, decide_eq_true e2]
    by_cases el : stp T L s - s = wdl w
    · rw [if_pos (by rw [el]), decide_eq_true el]
      have step : ∀ i, i < wdl w → fX7_is_28 o w (nW i) (wIJ G x y) = if T (s + i) = wdb w i then some (.inl (nW (i + 1)), wIJ G x y) else some (.inr (nW 0), wIJ G x y) := by
        intro i hi
        have b1 := ((wd_at hw).2 i hi).2
        have b2 := hb.2.2 (s + i) (by omega)
        unfold fX7_is_28 fX7_is_55
        simp only [lits]
        rw [ckS_ok hw38, wlen_ok hw, Option.bind_some, if_neg (by rw [nW_le (by omega) (by omega)]; omega), gR_wij, h.g7, Option.bind_some, gF_wij h.t, c2, Option.bind_some, nW_add, h.r6.rd (by omega) (by decide), b2.2, Option.bind_some, ckS_ok hw38, wchr_ok hw hi, Option.bind_some]
        by_cases e : T (s + i) = wdb w i
        · rw [if_pos (by rw [e]), if_pos e, nW_add]
        · rw [if_neg (by rw [nW_eq (by omega) (by omega)]; exact e), if_neg e]; rfl
      rcases eqP_scan (n := wdl w) (P := fun i => T (s + i)) (Q := wdb w) with ⟨q1, q2⟩ | ⟨q1, d, d1, d2, d3⟩
      · rw [q1]
        exact loop_to (f := fun (s : Int32) G => fX7_is_28 o w s G) (fun i => nW i) (fun _ => wIJ G x y) (wdl w) _ _ (fun i hi => by
          show fX7_is_28 _ _ _ _ = _
          rw [step i hi, if_pos (q2 i hi)]) (by
          show fX7_is_28 _ _ _ _ = _
          unfold fX7_is_28 fX7_is_63
          rw [ckS_ok hw38, wlen_ok hw, Option.bind_some, if_pos (by rw [nW_le (by omega) (by omega)]; omega)]
          rfl) (wdl w) 0 FU (by omega) (by show _ < 100000; omega)
      · rw [q1]
        exact loop_to (f := fun (s : Int32) G => fX7_is_28 o w s G) (fun i => nW i) (fun _ => wIJ G x y) d _ _ (fun i hi => by
          show fX7_is_28 _ _ _ _ = _
          rw [step i (by omega), if_pos (d3 i hi)]) (by
          show fX7_is_28 _ _ _ _ = _
          rw [step d d1, if_neg d2]
          rfl) d 0 FU (by omega) (by show _ < 100000; omega)
    · rw [if_neg (by rw [nW_eq (by omega) (by omega)]; exact el), decide_eq_false el]
      rfl
  · rw [if_neg (by rw [nW_eq (by omega) (by decide)]; exact fun q => e2 (hr.2.2.1.mp q)), decide_eq_false e2]
    rfl
end MTEXT
