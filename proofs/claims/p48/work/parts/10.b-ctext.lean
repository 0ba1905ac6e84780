/-! ===== the class's text in the memory ===== -/
/-- the parser (1), its text (2), the text's bytes (3), the parser's note (4) -/
def PSh (G : Mem) : Prop := (mt G 1 = 12 ∧ mP G 1 0 = some 2 ∧ mP G 1 6 = some 4) ∧ (mt G 2 = 15 ∧ mP G 2 5 = some 3) ∧ (mt G 3 = 2 ∧ mn G 3 = 600) ∧ mt G 4 = 11
/-- the bytes of a text of length L -/
def CBy (x : Nat → Nat → Int32) (T : Nat → Nat) (L : Nat) : Prop := L ≤ 600 ∧ x 2 0 = nW L ∧ ∀ i, i < L → T i < 256 ∧ x 3 i &&& nW 255 = nW (T i)
/-- the token that is being read begins at s -/
def CTk (x : Nat → Nat → Int32) (T : Nat → Nat) (L s : Nat) : Prop := s ≤ L ∧ x 2 1 = nW (srt T L s) ∧ x 2 2 = nW s ∧ (srt T L s = 3 → x 2 3 = nW (min (vlN T L s) 1000)) ∧ x 2 4 = nW (stp T L s)
def btW (T : Nat → Nat) (L i : Nat) : Int32 := if i < L then nW (T i) else -nW 1
section CTEXT
variable {G : Mem} {x : Nat → Nat → Int32} {y : Nat → Nat → Int64} {T : Nat → Nat} {L : Nat}
theorem PSh.g0 (h : PSh G) : gR G 12 1 0 = some 2 := gR_ok h.1.1 h.1.2.1
theorem PSh.g6 (h : PSh G) : gR G 12 1 6 = some 4 := gR_ok h.1.1 h.1.2.2
theorem PSh.t5 (h : PSh G) : gR G 15 2 5 = some 3 := gR_ok h.2.1.1 h.2.1.2
theorem PSh.l3 (h : PSh G) : gL G 3 = some (nW 600) := by rw [gL_ok (Or.inr (Or.inl h.2.2.1.1)), h.2.2.1.2]
theorem CBy.frame {x' : Nat → Nat → Int32} (h : CBy x T L) (h0 : x' 2 0 = x 2 0) (h3 : x' 3 = x 3) : CBy x' T L := ⟨h.1, h0.trans h.2.1, fun i hi => by rw [h3]; exact h.2.2 i hi⟩
theorem CTk.frame {x' : Nat → Nat → Int32} {s : Nat} (h : CTk x T L s) (h2 : ∀ j, 1 ≤ j → j ≤ 4 → x' 2 j = x 2 j) : CTk x' T L s := ⟨h.1, (h2 1 (by decide) (by decide)).trans h.2.1, (h2 2 (by decide) (by decide)).trans h.2.2.1, fun q => (h2 3 (by decide) (by decide)).trans (h.2.2.2.1 q), (h2 4 (by decide) (by decide)).trans h.2.2.2.2⟩
theorem byteAt_ok (h : PSh G) (hb : CBy x T L) {i : Nat} (hi : i < 2147483648) : fX5_byteAt 2 (nW i) (wIJ G x y) = some (btW T L i, wIJ G x y) := by
  obtain ⟨h1, h2, h3⟩ := hb
  unfold fX5_byteAt fX5_byteAt_0 fX5_byteAt_34 fX5_byteAt_35 btW
  simp only [lits]
  rw [if_neg (nW_neg_lt hi), gF_wij h.2.1.1, h2, Option.bind_some]
  by_cases hL : i < L
  · rw [if_neg (by rw [nW_le (by omega) hi]; omega), gR_wij, h.t5, Option.bind_some, gL_wij, h.l3, Option.bind_some, if_neg (by rw [nW_le (by omega) hi]; omega), Option.bind_some, gA_wij h.2.2.1.1 (by rw [h.2.2.1.2]; omega) (by rw [h.2.2.1.2]; decide), Option.bind_some, if_pos hL, (h3 i hL).2]
  · rw [if_pos (by rw [nW_le (by omega) hi]; omega), if_neg hL]
theorem sortOf_ok (hb : CBy x T L) {i : Nat} {G : Mem} : fX5_sortOf (btW T L i) G = some (nW (srt T L i), G) := by
  unfold fX5_sortOf fX5_sortOf_0 fX5_sortOf_21 fX5_sortOf_35 fX5_sortOf_46 btW srt
  simp only [lits]
  by_cases hL : i < L
  · have h2 := (hb.2.2 i hL).1
    rw [if_pos hL, if_neg (nW_m1 (by omega)), if_neg (show ¬ L ≤ i by omega)]
    by_cases e1 : 97 ≤ T i ∧ T i ≤ 122
    · rw [if_neg (by rw [nW_lt (by omega) (by decide)]; omega), if_neg (by rw [nW_lt (by decide) (by omega)]; omega), if_pos e1]
    · have c3 : (if nW (T i) < nW 48 then (if nW (T i) = nW 59 then some (nW 4, G) else some (nW 1, G)) else if nW 57 < nW (T i) then (if nW (T i) = nW 59 then some (nW 4, G) else some (nW 1, G)) else some (nW 3, G)) = some (nW (if 48 ≤ T i ∧ T i ≤ 57 then 3 else if T i = 59 then 4 else 1), G) := by
        have c4 : (if nW (T i) = nW 59 then some (nW 4, G) else some (nW 1, G)) = some (nW (if T i = 59 then 4 else 1), G) := by
          by_cases e4 : T i = 59
          · rw [if_pos (by rw [e4]), if_pos e4]
          · rw [if_neg (by rw [nW_eq (by omega) (by decide)]; exact e4), if_neg e4]
        rw [c4]
        by_cases e3 : 48 ≤ T i ∧ T i ≤ 57
        · rw [if_neg (by rw [nW_lt (by omega) (by decide)]; omega), if_neg (by rw [nW_lt (by decide) (by omega)]; omega), if_pos e3]
        · rw [if_neg e3]
          by_cases e5 : T i < 48
          · rw [if_pos ((nW_lt (by omega) (by decide)).mpr e5)]
          · rw [if_neg (by rw [nW_lt (by omega) (by decide)]; exact e5), if_pos ((nW_lt (by decide) (by omega)).mpr (by omega))]
      rw [if_neg e1, c3]
      by_cases e5 : T i < 97
      · rw [if_pos ((nW_lt (by omega) (by decide)).mpr e5)]
      · rw [if_neg (by rw [nW_lt (by omega) (by decide)]; exact e5), if_pos ((nW_lt (by decide) (by omega)).mpr (by omega))]
  · rw [if_neg hL, if_pos rfl, if_pos (show L ≤ i by omega)]
theorem vl_step {v t : Nat} (hv : v < 2000) (ht : 48 ≤ t ∧ t ≤ 57) : (if nW 1000 < nW 10 * nW v + nW t - nW 48 then nW 1000 else nW 10 * nW v + nW t - nW 48) = nW (min (10 * v + (t - 48)) 1000) := by
  rw [nW_mul, nW_add, nW_sub (by omega), show 10 * v + t - 48 = 10 * v + (t - 48) by omega]
  by_cases h : 1000 < 10 * v + (t - 48)
  · rw [if_pos ((nW_lt (by decide) (by omega)).mpr h), Nat.min_eq_right (by omega)]
  · rw [if_neg (by rw [nW_lt (by decide) (by omega)]; exact h), Nat.min_eq_left (by omega)]
theorem readNext_ok (h : PSh G) (hb : CBy x T L) {e : Nat} (he : e ≤ L) (h4 : x 2 4 = nW e) :
    ∃ x', fX5_readNext 2 (wIJ G x y) = some ((), wIJ G x' y) ∧ (∀ b j, ¬ (b = 2 ∧ 1 ≤ j ∧ j ≤ 4) → x' b j = x b j) ∧ CTk x' T L (spN T L e) := by
  have hL := hb.1
  obtain ⟨s1, s2, s3⟩ := spN_spec (T := T) (L := L) e
  have sL := spN_le (T := T) he
  generalize hs : spN T L e = s at *
  -- what follows once the spaces are passed
  let xb : Nat → Nat → Nat → Int32 := fun k => u2 x 2 2 (nW (e + k))
  have xbo : ∀ k b j, ¬ (b = 2 ∧ 1 ≤ j ∧ j ≤ 4) → xb k b j = x b j := fun k b j hq => u2_other (by omega)
  have xbb : ∀ k, CBy (xb k) T L := fun k => hb.frame (xbo k 2 0 (by omega)) (funext fun j => xbo k 3 j (by omega))
  generalize hn : stp T L s - s = n
  have hge := stp_ge (T := T) (L := L) s
  have hle := stp_le (T := T) (L := L) sL
  let x0 : Nat → Nat → Int32 := u2 (u2 (u2 (u2 x 2 2 (nW s)) 2 4 (nW s)) 2 1 (nW (srt T L s))) 2 3 (nW 0)
  let vm : Nat → Nat := fun i => if srt T L s = 3 then min (vlD T s i) 1000 else 0
  let X : Nat → Nat → Nat → Int32 := fun i => u2 (u2 x0 2 3 (nW (vm i))) 2 4 (nW (s + i))
  have x0o : ∀ b j, ¬ (b = 2 ∧ 1 ≤ j ∧ j ≤ 4) → x0 b j = x b j := fun b j hq => by
    show u2 _ _ _ _ _ _ = _
    rw [u2_other (by omega), u2_other (by omega), u2_other (by omega), u2_other (by omega)]
  have Xo : ∀ i b j, ¬ (b = 2 ∧ 1 ≤ j ∧ j ≤ 4) → X i b j = x b j := fun i b j hq => by
    show u2 _ _ _ _ _ _ = _
    rw [u2_other (by omega), u2_other (by omega)]; exact x0o b j hq
  have Xb : ∀ i, CBy (X i) T L := fun i => hb.frame (Xo i 2 0 (by omega)) (funext fun j => Xo i 3 j (by omega))
  have X1 : ∀ i, X i 2 1 = nW (srt T L s) := fun i => by
    show u2 _ _ _ _ _ _ = _
    rw [u2_other (by omega), u2_other (by omega)]
    show u2 _ _ _ _ _ _ = _
    rw [u2_other (by omega), u2_same]
  have X2 : ∀ i, X i 2 2 = nW s := fun i => by
    show u2 _ _ _ _ _ _ = _
    rw [u2_other (by omega), u2_other (by omega)]
    show u2 _ _ _ _ _ _ = _
    rw [u2_other (by omega), u2_other (by omega), u2_other (by omega), u2_same]
  have X3 : ∀ i, X i 2 3 = nW (vm i) := fun i => by
    show u2 _ _ _ _ _ _ = _
    rw [u2_other (by omega), u2_same]
  have X4 : ∀ i, X i 2 4 = nW (s + i) := fun i => u2_same
  have XX : X 0 = x0 := by
    have v0 : vm 0 = 0 := by
      show (if srt T L s = 3 then min 0 1000 else 0) = 0
      by_cases q : srt T L s = 3
      · rw [if_pos q]; rfl
      · rw [if_neg q]
    show u2 (u2 x0 2 3 (nW (vm 0))) 2 4 (nW (s + 0)) = x0
    rw [v0]
    show u2 (u2 (u2 (u2 (u2 (u2 x 2 2 (nW s)) 2 4 (nW s)) 2 1 (nW (srt T L s))) 2 3 (nW 0)) 2 3 (nW 0)) 2 4 (nW (s + 0)) = _
    rw [u2_twice, u2_swap (by omega), u2_swap (a := 2) (k := 1) (by omega), u2_twice]
    rfl
  have hvm : ∀ i, vm i < 2000 := fun i => by
    show (if srt T L s = 3 then min (vlD T s i) 1000 else 0) < 2000
    by_cases q : srt T L s = 3
    · rw [if_pos q]; omega
    · rw [if_neg q]; omega
  have step : ∀ i, i < n → fX5_readNext_89 2 (if i < n then nW 1 else nW 0) (nW i) (wIJ G (X i) y) = some (.inl (if i + 1 < n then nW 1 else nW 0, nW (i + 1)), wIJ G (X (i + 1)) y) := by
    intro i hi
    have hs0 : srt T L s ≠ 0 := fun q => by rw [stp_end q] at hn; omega
    have hs4 := srt_le (T := T) (L := L) s
    have hiL : s + i < L := by omega
    rw [if_pos hi]
    -- the rest of the step
    have tail : ∀ v, vm (i + 1) = v → fX5_readNext_137 2 (nW i) (wIJ G (u2 (X i) 2 3 (nW v)) y) = some (.inl (if i + 1 < n then nW 1 else nW 0, nW (i + 1)), wIJ G (X (i + 1)) y) := by
      intro v hv
      have eX : u2 (u2 (X i) 2 3 (nW v)) 2 4 (nW (s + i + 1)) = X (i + 1) := by
        show u2 (u2 (u2 (u2 x0 2 3 (nW (vm i))) 2 4 (nW (s + i))) 2 3 (nW v)) 2 4 (nW (s + i + 1)) = u2 (u2 x0 2 3 (nW (vm (i + 1)))) 2 4 (nW (s + (i + 1)))
        rw [u2_swap (a := 2) (k := 4) (by omega), u2_twice, u2_twice, hv]
        rfl
      have e4 : u2 (X i) 2 3 (nW v) 2 4 = nW (s + i) := by rw [u2_other (by omega)]; exact X4 i
      have h163 : fX5_readNext_163 2 (nW i) (wIJ G (X (i + 1)) y) = if nW (srt T L (s + (i + 1))) = nW (srt T L s) then some (Sum.inl (nW 1, nW (i + 1)), wIJ G (X (i + 1)) y) else some (Sum.inl (nW 0, nW (i + 1)), wIJ G (X (i + 1)) y) := by
        unfold fX5_readNext_163 fX5_readNext_185 fX5_readNext_186
        simp only [lits, nW_add]
        rw [gF_wij h.2.1.1, X4, Option.bind_some, ck_wij, ck_ok h.2.1.1, byteAt_ok h (Xb _) (by omega), Option.bind_some, sortOf_ok (Xb (i + 1)), Option.bind_some, gF_wij h.2.1.1, X1, Option.bind_some]
      unfold fX5_readNext_137
      rw [gF_wij h.2.1.1, e4, Option.bind_some]
      simp only [lits, nW_add]
      rw [pI_wij h.2.1.1, Option.bind_some, eX, gF_wij h.2.1.1, X1, Option.bind_some, Option.bind_some, h163]
      unfold fX5_readNext_185 fX5_readNext_186
      simp only [lits, nW_add]
      have run : srt T L s = 2 ∨ srt T L s = 3 → (if nW (srt T L (s + (i + 1))) = nW (srt T L s) then some (Sum.inl (nW 1, nW (i + 1)), wIJ G (X (i + 1)) y) else some (Sum.inl (nW 0, nW (i + 1)), wIJ G (X (i + 1)) y)) = (some (.inl (if i + 1 < n then nW 1 else nW 0, nW (i + 1)), wIJ G (X (i + 1)) y) : Option (((Int32 × Int32) ⊕ Unit) × Mem)) := by
        intro hr
        obtain ⟨r1, r2, r3⟩ := stp_run hr
        have b4 := srt_le (T := T) (L := L) (s + (i + 1))
        by_cases hi1 : i + 1 < n
        · rw [if_pos hi1, if_pos (by rw [r2 _ (by omega) (by omega)])]
        · rw [if_neg hi1, if_neg]
          rw [nW_eq (by omega) (by omega), show s + (i + 1) = stp T L s by omega]
          exact r3
      by_cases h2 : srt T L s = 2
      · rw [if_pos (by rw [h2])]
        exact run (Or.inl h2)
      · rw [if_neg (by rw [nW_eq (by omega) (by decide)]; exact h2)]
        by_cases h3 : srt T L s = 3
        · rw [if_pos (by rw [h3])]
          exact run (Or.inr h3)
        · rw [if_neg (by rw [nW_eq (by omega) (by decide)]; exact h3)]
          have := stp_one (T := T) (L := L) (s := s) (by omega)
          rw [if_neg (by omega)]
    unfold fX5_readNext_89
    simp only [lits]
    rw [if_neg (by rw [nW_le (by decide) (by omega)]; omega), if_neg (by decide), gF_wij h.2.1.1, X1, Option.bind_some]
    by_cases h3 : srt T L s = 3
    · obtain ⟨r1, r2, r3⟩ := stp_run (Or.inr h3)
      have d3 := srt3 (show srt T L (s + i) = 3 by rw [r2 _ (by omega) (by omega), h3])
      rw [if_pos (by rw [h3]), gF_wij h.2.1.1, X3, Option.bind_some, gF_wij h.2.1.1, X4, Option.bind_some, ck_wij, ck_ok h.2.1.1, byteAt_ok h (Xb _) (by omega), Option.bind_some]
      have ebt : btW T L (s + i) = nW (T (s + i)) := if_pos hiL
      rw [ebt, vl_step (hvm i) d3.2, pI_wij h.2.1.1, Option.bind_some]
      refine tail _ ?_
      show (if srt T L s = 3 then min (10 * vlD T s i + (T (s + i) - 48)) 1000 else 0) = min (10 * (if srt T L s = 3 then min (vlD T s i) 1000 else 0) + (T (s + i) - 48)) 1000
      rw [if_pos h3, if_pos h3]
      omega
    · rw [if_neg (by rw [nW_eq (by have := srt_le (T := T) (L := L) s; omega) (by decide)]; exact h3)]
      have ev : ∀ k, vm k = 0 := fun k => if_neg h3
      have := tail 0 (ev _)
      have e3 : u2 (X i) 2 3 (nW 0) = X i := by
        funext b j
        by_cases q : b = 2 ∧ j = 3
        · rw [q.1, q.2, u2_same, X3, ev]
        · rw [u2_other q]
      rw [e3] at this
      exact this
  have last : fX5_readNext_89 2 (if n < n then nW 1 else nW 0) (nW n) (wIJ G (X n) y) = some (.inr (), wIJ G (X n) y) := by
    unfold fX5_readNext_89 fX5_readNext_193
    simp only [lits]
    rw [if_neg (Nat.lt_irrefl n)]
    by_cases q : nW 600 ≤ nW n
    · rw [if_pos q]; rfl
    · rw [if_neg q, if_pos rfl]; rfl
  have after : fX5_readNext_46 2 (wIJ G (u2 x 2 2 (nW s)) y) = some ((), wIJ G (X n) y) := by
    have l2 := loop_to (f := fun (s : Int32 × Int32) G => fX5_readNext_89 2 s.1 s.2 G) (fun i => (if i < n then nW 1 else nW 0, nW i)) (fun i => wIJ G (X i) y) n () (wIJ G (X n) y) (fun i hi => step i hi) last n 0 FU (by omega) (by show n < 100000; omega)
    have hb2 : CBy (u2 (u2 x 2 2 (nW s)) 2 4 (nW s)) T L := hb.frame (by rw [u2_other (by omega), u2_other (by omega)]) (by rw [u2_arow (by omega), u2_arow (by omega)])
    have h4 := srt_le (T := T) (L := L) s
    unfold fX5_readNext_46 fX5_readNext_86
    simp only [lits]
    rw [gF_wij h.2.1.1, u2_same, Option.bind_some, pI_wij h.2.1.1, Option.bind_some, gF_wij h.2.1.1, u2_other (by omega), u2_same, Option.bind_some, ck_wij, ck_ok h.2.1.1, byteAt_ok h hb2 (by omega), Option.bind_some, sortOf_ok hb2, Option.bind_some, pI_wij h.2.1.1, Option.bind_some, pI_wij h.2.1.1, Option.bind_some, gF_wij h.2.1.1, u2_other (by omega), u2_same, Option.bind_some]
    have l3 : loopM (fun (s : Int32 × Int32) G => fX5_readNext_89 2 s.1 s.2 G) FU (if 0 < n then nW 1 else nW 0, nW 0) (wIJ G x0 y) = some ((), wIJ G (X n) y) := by
      rw [← XX]; exact l2
    by_cases h0 : srt T L s = 0
    · rw [if_pos (by rw [h0])]
      rw [stp_end h0, Nat.sub_self] at hn
      rw [if_neg (by omega)] at l3
      exact l3
    · rw [if_neg (by rw [nW_eq (by omega) (by decide)]; exact h0)]
      have := stp_lt h0
      rw [if_pos (by omega)] at l3
      exact l3
  refine ⟨X n, ?_, Xo n, sL, X1 n, X2 n, fun q => ?_, ?_⟩
  · have l1 := loop_to (f := fun (s : Int32) G => fX5_readNext_10 2 s G) (fun k => nW k) (fun k => wIJ G (xb k) y) (s - e) () (wIJ G (X n) y) (fun k hk => by
      have hk2 := s2 (e + k) (by omega) (by omega)
      show fX5_readNext_10 _ _ _ = _
      unfold fX5_readNext_10
      simp only [lits]
      have x2 : xb k 2 2 = nW (e + k) := u2_same
      rw [if_neg (by rw [nW_le (by decide) (by omega)]; omega), gF_wij h.2.1.1, x2, Option.bind_some, ck_wij, ck_ok h.2.1.1, byteAt_ok h (xbb k) (by omega), Option.bind_some]
      have ebt : btW T L (e + k) = nW 32 := by
        unfold btW
        rw [if_pos hk2.1, hk2.2]
      rw [ebt, if_pos rfl, gF_wij h.2.1.1, x2, Option.bind_some, nW_add, pI_wij h.2.1.1, Option.bind_some, nW_add]
      have : u2 (xb k) 2 2 (nW (e + k + 1)) = xb (k + 1) := u2_twice
      rw [this]) (by
      show fX5_readNext_10 _ _ _ = _
      unfold fX5_readNext_10
      simp only [lits]
      have es : e + (s - e) = s := by omega
      have x2 : xb (s - e) = u2 x 2 2 (nW s) := by
        show u2 x 2 2 (nW (e + (s - e))) = _
        rw [es]
      have hbs := xbb (s - e)
      rw [x2] at hbs ⊢
      by_cases q : nW 600 ≤ nW (s - e)
      · rw [if_pos q, after]; rfl
      · rw [if_neg q, gF_wij h.2.1.1, u2_same, Option.bind_some, ck_wij, ck_ok h.2.1.1, byteAt_ok h hbs (by omega), Option.bind_some, if_neg, after]
        · rfl
        · unfold btW
          by_cases q2 : s < L
          · rw [if_pos q2, nW_eq (by have := (hb.2.2 s q2).1; omega) (by decide)]
            exact fun q3 => s3 ⟨q2, q3⟩
          · rw [if_neg q2]; exact m1_nW (by decide)) (s - e) 0 FU (by omega) (by show s - e < 100000; omega)
    unfold fX5_readNext fX5_readNext_0
    simp only [lits]
    rw [gF_wij h.2.1.1, h4, Option.bind_some, pI_wij h.2.1.1, Option.bind_some]
    exact l1
  · rw [X3]
    show nW (if srt T L s = 3 then min (vlD T s n) 1000 else 0) = nW (min (vlD T s (stp T L s - s)) 1000)
    rw [if_pos q, hn]
  · rw [X4, show s + n = stp T L s by omega]
end CTEXT
