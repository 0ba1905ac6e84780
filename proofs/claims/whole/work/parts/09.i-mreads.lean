/-! ===== the reference: what it reads of its state ===== -/
section MREADS
variable {G : Mem} {o : Nat} {c r m : Nat} {N : Nat → Nat → Int32} {P0 : Nat → Nat} {x : Nat → Nat → Int32} {y : Nat → Nat → Int64}
theorem MRep.s2 (h : MSh G o) (hR : MRep x y o c r N P0 m) : gA (wIJ G x y) 1 (o + 1) (nW 2) = some (nW m) := by
  rw [h.s0 (by decide), hR.1.2.1]
theorem MRep.many (h : MSh G o) (hR : MRep x y o c r N P0 m) (hm : m ≤ 10) {i : Nat} (hi : i ≤ m) : gA (wIJ G x y) 1 (o + 9) (nW i) = some (nW (lyc (lyN c (c * r) N P0 i).1)) := by
  rw [h.r14.rd (by omega) (by decide), (hR.2.1.1 i hi).1]
theorem games_ok (h : MSh G o) (hA : AOK c r N P0 m) (hR : MRep x y o c r N P0 m) : fX7_games o (wIJ G x y) = some (Int64.ofNat (gsm (lyN c (c * r) N P0 m).1 (pcn c (c * r) N P0 m)), wIJ G x y) := by
  have hm := hA.2.2.1
  have h40 : lyc (lyN c (c * r) N P0 m).1 ≤ 40 := (lyN_run hA.2.1 hA.2.2.2.1).1.1
  have hp : pcn c (c * r) N P0 m = lyc (lyN c (c * r) N P0 m).1 := rfl
  unfold fX7_games fX7_games_0
  simp only [lits]
  exact loop_to (f := fun (s : Int64 × Int32) G => fX7_games_4 o s.1 s.2 G) (fun i => (Int64.ofNat (gsm (lyN c (c * r) N P0 m).1 i), nW i)) (fun _ => wIJ G x y) (pcn c (c * r) N P0 m) _ _ (fun i hi => by
    show fX7_games_4 _ _ _ _ = _
    unfold fX7_games_4
    simp only [lits]
    rw [gR_wij, h.g14, Option.bind_some, gR_wij, h.g0, Option.bind_some, hR.s2 h, Option.bind_some, hR.many h hm (Nat.le_refl _), Option.bind_some, if_neg (by rw [nW_le (by omega) (by omega)]; omega), gR_wij, h.g18, Option.bind_some, Option.bind_some, hR.s2 h, Option.bind_some, nW_mul, nW_add, h.r18.rj (by omega) (by decide), ((hR.2.1.1 m (Nat.le_refl _)).2 i hi).1, Option.bind_some, ← Int64.ofNat_add, nW_add]
    rfl) (by
    show fX7_games_4 _ _ _ _ = _
    unfold fX7_games_4 fX7_games_44
    simp only [lits]
    rw [gR_wij, h.g14, Option.bind_some, gR_wij, h.g0, Option.bind_some, hR.s2 h, Option.bind_some, hR.many h hm (Nat.le_refl _), Option.bind_some, if_pos (by rw [nW_le (by omega) (by omega)]; omega)]
    rfl) (pcn c (c * r) N P0 m) 0 FU (by omega) (by show _ < 100000; omega)
/-- the edges of a note in the reference's memory -/
theorem MRep.edge (hA : AOK c r N P0 m) (hR : MRep x y o c r N P0 m) {i : Nat} (hi : i < m) : x (o + 11) i = nW (em c (c * r) N P0 i) ∧ em c (c * r) N P0 i ≤ 1600 ∧ ∀ e, e < em c (c * r) N P0 i → x (o + 10) (i * 1600 + e) = nW (mlk (eg c (c * r) N P0 i e)) ∧ (eg c (c * r) N P0 i e).1 < 40 ∧ (eg c (c * r) N P0 i e).2.1 < 40 ∧ (eg c (c * r) N P0 i e).2.2.1 < 36 ∧ (eg c (c * r) N P0 i e).2.2.2 < 36 := by
  obtain ⟨hs, W, hm, hok, hwn⟩ := hA
  have hn := szs36 hs
  have b40 := (lyN_run W (hok.mono (Nat.le_of_lt hi))).1.1
  have b41 := (lyN_run W (hok.mono (show i + 1 ≤ m from hi))).1.1
  obtain ⟨w1, -, -⟩ := eg_ok W hn hok hi
  refine ⟨(hR.2.1.2 i hi).1, lyN_egc W hn (hok.mono (show i + 1 ≤ m from hi)), fun e he => ⟨(hR.2.1.2 i hi).2 e he, ?_⟩⟩
  obtain ⟨z1, z2, z3, z4⟩ := w1 e he
  exact ⟨by omega, by omega, by omega, by omega⟩
theorem over_ok (h : MSh G o) (hA : AOK c r N P0 m) (hR : MRep x y o c r N P0 m) {x' : Nat → Nat → Int32} {i e : Nat} (hi : i < m) (he : e < em c (c * r) N P0 i) : fX7_over o (nW i) (nW (mlk (eg c (c * r) N P0 i e))) (wIJ G x' y) = some (Int64.ofNat (ovr c (c * r) N P0 m i e), wIJ G x' y) := by
  have hm := hA.2.2.1
  obtain ⟨-, -, h3⟩ := hR.edge hA hi
  obtain ⟨-, q1, q2, q3, q4⟩ := h3 e he
  obtain ⟨z1, z2, -, -⟩ := (eg_ok hA.2.1 (szs36 hA.1) hA.2.2.2.1 hi).1 e he
  unfold fX7_over fX7_over_0
  simp only [lits, nW_add]
  rw [gR_wij, h.g18, Option.bind_some, mlk_from q1 q2 q3 q4, Option.bind_some, nW_mul, nW_add, h.r18.rj (by omega) (by decide), ((hR.2.1.1 i (by omega)).2 _ z1).1, Option.bind_some, gR_wij, h.g19, Option.bind_some, mlk_to q1 q2 q3 q4, Option.bind_some, nW_mul, nW_add, h.r19.rj (by omega) (by decide), hR.2.2 (i + 1) (by omega) _ z2, Option.bind_some, ← Int64.ofNat_mul]
  rfl
/-- the key of an edge's move -/
abbrev mky (c n : Nat) (N : Nat → Nat → Int32) (P0 : Nat → Nat) (i e : Nat) : Nat := (eg c n N P0 i e).2.2.1 * 36 + (eg c n N P0 i e).2.2.2
theorem gamesBy_ok (h : MSh G o) (hA : AOK c r N P0 m) (hR : MRep x y o c r N P0 m) {x' : Nat → Nat → Int32} (hx : ∀ b, b ≠ o + 15 → x' b = x b) {i k : Nat} (hi : i < m) (hk : k < 1296) : fX7_gamesBy o (nW i) (nW k) (wIJ G x' y) = some (Int64.ofNat (sumN (em c (c * r) N P0 i) fun e => if mky c (c * r) N P0 i e = k then ovr c (c * r) N P0 m i e else 0), wIJ G x' y) := by
  have hm := hA.2.2.1
  obtain ⟨h1, h2, h3⟩ := hR.edge hA hi
  unfold fX7_gamesBy fX7_gamesBy_0
  simp only [lits]
  exact loop_to (f := fun (s : Int64 × Int32) G => fX7_gamesBy_5 o (nW i) (nW k) s.1 s.2 G) (fun e => (Int64.ofNat (sumN e fun e => if mky c (c * r) N P0 i e = k then ovr c (c * r) N P0 m i e else 0), nW e)) (fun _ => wIJ G x' y) (em c (c * r) N P0 i) _ _ (fun e he => by
    obtain ⟨q0, q1, q2, q3, q4⟩ := h3 e he
    show fX7_gamesBy_5 _ _ _ _ _ _ = _
    unfold fX7_gamesBy_5 fX7_gamesBy_59
    simp only [lits]
    rw [gR_wij, h.g16, Option.bind_some, h.r16.rd (by omega) (by decide), hx _ (by omega), h1, Option.bind_some, if_neg (by rw [nW_le (by omega) (by omega)]; omega), gR_wij, h.g15, Option.bind_some, nW_mul, nW_add, h.r15.rd (by omega) (by decide), hx _ (by omega), q0, Option.bind_some, mlk_origin q1 q2 q3 q4, Option.bind_some, mlk_target q1 q2 q3 q4, Option.bind_some, nW_mul, nW_add, nW_add]
    by_cases hq : mky c (c * r) N P0 i e = k
    · rw [if_pos (by show nW (mky c (c * r) N P0 i e) = nW k; rw [hq]), ck_wij, ck_ok h.t, over_ok h hA hR hi he, Option.bind_some, ← Int64.ofNat_add]
      show _ = some (Sum.inl (Int64.ofNat (sumN e _ + (if mky c (c * r) N P0 i e = k then _ else 0)), _), _)
      rw [if_pos hq]
    · rw [if_neg (by rw [nW_eq (by omega) (by omega)]; exact hq)]
      show _ = some (Sum.inl (Int64.ofNat (sumN e _ + (if mky c (c * r) N P0 i e = k then _ else 0)), _), _)
      rw [if_neg hq]; rfl) (by
    show fX7_gamesBy_5 _ _ _ _ _ _ = _
    unfold fX7_gamesBy_5 fX7_gamesBy_65
    rw [gR_wij, h.g16, Option.bind_some, h.r16.rd (by omega) (by decide), hx _ (by omega), h1, Option.bind_some, if_pos (by rw [nW_le (by omega) (by omega)]; omega)]
    rfl) (em c (c * r) N P0 i) 0 FU (by omega) (by show _ < 100000; omega)
theorem last_ok (h : MSh G o) (hA : AOK c r N P0 m) (hR : MRep x y o c r N P0 m) {p q : Nat} (hp : p < pcn c (c * r) N P0 m) (hq : q < 36) : fX7_last o (nW p) (nW q) (wIJ G x y) = some (nW (lyp (lyN c (c * r) N P0 m).1 p q), wIJ G x y) := by
  have hm := hA.2.2.1
  have h40 := (lyN_run hA.2.1 hA.2.2.2.1).1.1
  have hp : p < lyc (lyN c (c * r) N P0 m).1 := hp
  unfold fX7_last fX7_last_0
  simp only [lits]
  rw [gR_wij, h.g13, Option.bind_some, gR_wij, h.g0, Option.bind_some, hR.s2 h, Option.bind_some, position_ok, Option.bind_some, nW_add, h.r13.rd (by omega) (by decide), ((hR.2.1.1 m (Nat.le_refl _)).2 p hp).2 q hq]
  rfl
theorem isSame_ok (h : MSh G o) (hA : AOK c r N P0 m) (hR : MRep x y o c r N P0 m) {q : Nat} (hq : q < 36) : fX7_isSame o (nW q) (wIJ G x y) = some (bI (smE (lyN c (c * r) N P0 m).1 q), wIJ G x y) := by
  have hm := hA.2.2.1
  obtain ⟨h40, hW⟩ := (lyN_run hA.2.1 hA.2.2.2.1).1
  have hp0 : 0 < lyc (lyN c (c * r) N P0 m).1 := pcn_pos (N := N) (P0 := P0) hA.2.2.2.1
  have lst : ∀ p, p < lyc (lyN c (c * r) N P0 m).1 → fX7_last o (nW p) (nW q) (wIJ G x y) = some (nW (lyp (lyN c (c * r) N P0 m).1 p q), wIJ G x y) := fun p hp => last_ok h hA hR hp hq
  have mn' := hR.many h hm (Nat.le_refl m)
  generalize hL : (lyN c (c * r) N P0 m).1 = L at *
  have step : ∀ p, p < lyc L → fX7_isSame_2 o (nW q) (nW p) (wIJ G x y) = if lyp L p q = lyp L 0 q then some (Sum.inl (nW (p + 1)), wIJ G x y) else some (Sum.inr (nW 0), wIJ G x y) := fun p hp => by
    have w1 := (hW p hp).1 q
    have w2 := (hW 0 hp0).1 q
    unfold fX7_isSame_2 fX7_isSame_32
    simp only [lits]
    rw [gR_wij, h.g14, Option.bind_some, gR_wij, h.g0, Option.bind_some, hR.s2 h, Option.bind_some, mn', Option.bind_some, if_neg (by rw [nW_le (by omega) (by omega)]; omega), ck_wij, ck_ok h.t, lst p hp, Option.bind_some, ck_wij, ck_ok h.t, lst 0 hp0, Option.bind_some]
    by_cases hh : lyp L p q = lyp L 0 q
    · rw [if_pos hh, if_pos (by rw [hh]), nW_add]
    · rw [if_neg hh, if_neg (by rw [nW_eq (by omega) (by omega)]; exact hh)]; rfl
  unfold fX7_isSame fX7_isSame_0
  simp only [lits]
  by_cases hall : ∀ p, p < lyc L → lyp L p q = lyp L 0 q
  · have hs : smE L q = true := allN_mk fun p hp => decide_eq_true (hall p hp)
    rw [hs]
    exact loop_to (f := fun (s : Int32) G => fX7_isSame_2 o (nW q) s G) (fun i => nW (1 + i)) (fun _ => wIJ G x y) (lyc L - 1) _ _ (fun i hi => by
      show fX7_isSame_2 _ _ _ _ = _
      rw [step (1 + i) (by omega), if_pos (hall _ (by omega))]
      rfl) (by
      show fX7_isSame_2 _ _ _ _ = _
      unfold fX7_isSame_2 fX7_isSame_40
      simp only [lits]
      rw [gR_wij, h.g14, Option.bind_some, gR_wij, h.g0, Option.bind_some, hR.s2 h, Option.bind_some, mn', Option.bind_some, if_pos (by rw [nW_le (by omega) (by omega)]; omega)]
      rfl) (lyc L - 1) 0 FU (by omega) (by show _ < 100000; omega)
  · have hs : smE L q = false := by
      cases hb : smE L q with
      | false => rfl
      | true => exact absurd (fun p hp => of_decide_eq_true (allN_at hb p hp)) hall
    rw [hs]
    have ex : ∃ d, 1 + d < lyc L ∧ lyp L (1 + d) q ≠ lyp L 0 q ∧ ∀ i, i < d → lyp L (1 + i) q = lyp L 0 q := by
      have : ∀ k, (∀ i, i < k → 1 + i < lyc L → lyp L (1 + i) q = lyp L 0 q) ∨ ∃ d, 1 + d < lyc L ∧ lyp L (1 + d) q ≠ lyp L 0 q ∧ ∀ i, i < d → lyp L (1 + i) q = lyp L 0 q := by
        intro k
        induction k with
        | zero => exact Or.inl fun i hi => absurd hi (Nat.not_lt_zero _)
        | succ k ih =>
          rcases ih with ih | ih
          · by_cases hk : 1 + k < lyc L ∧ lyp L (1 + k) q ≠ lyp L 0 q
            · exact Or.inr ⟨k, hk.1, hk.2, fun i hi => ih i hi (by omega)⟩
            · left
              intro i hi hi2
              by_cases e : i = k
              · subst e
                by_cases e2 : lyp L (1 + i) q = lyp L 0 q
                · exact e2
                · exact absurd ⟨hi2, e2⟩ hk
              · exact ih i (by omega) hi2
          · exact Or.inr ih
      rcases this (lyc L) with q1 | q1
      · refine absurd (fun p hp => ?_) hall
        by_cases e : p = 0
        · rw [e]
        · have := q1 (p - 1) (by omega) (by omega)
          rw [show 1 + (p - 1) = p by omega] at this
          exact this
      · exact q1
    obtain ⟨d, d1, d2, d3⟩ := ex
    exact loop_to (f := fun (s : Int32) G => fX7_isSame_2 o (nW q) s G) (fun i => nW (1 + i)) (fun _ => wIJ G x y) d _ _ (fun i hi => by
      show fX7_isSame_2 _ _ _ _ = _
      rw [step (1 + i) (by omega), if_pos (d3 i hi)]
      rfl) (by
      show fX7_isSame_2 _ _ _ _ = _
      rw [step (1 + d) (by omega), if_neg d2]
      rfl) d 0 FU (by omega) (by show _ < 100000; omega)
theorem same_ok (h : MSh G o) (hA : AOK c r N P0 m) (hR : MRep x y o c r N P0 m) : fX7_same o (wIJ G x y) = some (nW (cnt (c * r) (smE (lyN c (c * r) N P0 m).1)), wIJ G x y) := by
  have hn := szs36 hA.1
  have sq : fX7_squareMany o (wIJ G x y) = some (nW (c * r), wIJ G x y) := squareMany_ok h hR.1.1
  unfold fX7_same fX7_same_0
  simp only [lits]
  exact loop_to (f := fun (s : Int32 × Int32) G => fX7_same_4 o s.1 s.2 G) (fun k => (nW (cnt k (smE (lyN c (c * r) N P0 m).1)), nW k)) (fun _ => wIJ G x y) (c * r) _ _ (fun k hk => by
    show fX7_same_4 _ _ _ _ = _
    unfold fX7_same_4 fX7_same_23
    simp only [lits]
    rw [ck_wij, ck_ok h.t, sq, Option.bind_some, if_neg (by rw [nW_le (by omega) (by omega)]; omega), ck_wij, ck_ok h.t, isSame_ok h hA hR (by omega), Option.bind_some]
    show _ = some (Sum.inl (nW (cnt k _ + if smE (lyN c (c * r) N P0 m).1 k = true then 1 else 0), _), _)
    cases smE (lyN c (c * r) N P0 m).1 k with
    | false => rw [if_pos (show bI false = nW 0 from rfl), nW_add]; rfl
    | true => rw [if_neg (show ¬ bI true = nW 0 from bIt0), nW_add, nW_add]; rfl) (by
    show fX7_same_4 _ _ _ _ = _
    unfold fX7_same_4 fX7_same_29
    rw [ck_wij, ck_ok h.t, sq, Option.bind_some, if_pos (by rw [nW_le (by omega) (by omega)]; omega)]
    rfl) (c * r) 0 FU (by omega) (by show c * r < 100000; omega)
end MREADS
