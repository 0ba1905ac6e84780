/-! ===== the reference: a note more, a note less ===== -/
section MADD
variable {G : Mem} {o : Nat} {c r m : Nat} {N : Nat → Nat → Int32} {P0 : Nat → Nat} {x : Nat → Nat → Int32} {y : Nat → Nat → Int64}
theorem MLs.cong {n : Nat} {N' : Nat → Nat → Int32} (hq : ∀ k, k < m → ∀ j, j < 7 → N k j = N' k j) (h : MLs x y o c n N P0 m) : MLs x y o c n N' P0 m := by
  refine ⟨fun i hi => ?_, fun i hi => ?_⟩
  · rw [← lyN_cong (N := N) (fun k hk => hq k (by omega))]; exact h.1 i hi
  · rw [← lyN_cong (N := N) (fun k hk => hq k (by omega))]; exact h.2 i hi
theorem MLs.mono {n k : Nat} (h : MLs x y o c n N P0 m) (hk : k ≤ m) : MLs x y o c n N P0 k := ⟨fun i hi => h.1 i (by omega), fun i hi => h.2 i (by omega)⟩
theorem MLs.same {n : Nat} {x' : Nat → Nat → Int32} {y' : Nat → Nat → Int64} (h : MLs x y o c n N P0 m) (h8 : x' (o + 8) = x (o + 8)) (h9 : x' (o + 9) = x (o + 9)) (h10 : x' (o + 10) = x (o + 10)) (h11 : x' (o + 11) = x (o + 11)) (h13 : y' (o + 13) = y (o + 13)) : MLs x' y' o c n N P0 m := by
  refine ⟨fun i hi => ⟨?_, fun p hp => ⟨?_, fun q hq => ?_⟩⟩, fun i hi => ⟨?_, fun e he => ?_⟩⟩
  · rw [h9]; exact (h.1 i hi).1
  · rw [h13]; exact ((h.1 i hi).2 p hp).1
  · rw [h8]; exact ((h.1 i hi).2 p hp).2 q hq
  · rw [h11]; exact (h.2 i hi).1
  · rw [h10]; exact (h.2 i hi).2 e he
/-- following note m leaves the state of m notes as it was -/
theorem MRep.fr (hA : AOK c r N P0 m) (hR : MRep x y o c r N P0 m) {x' : Nat → Nat → Int32} {y' : Nat → Nat → Int64} (hf : MFr o m x y x' y') : MRep x' y' o c r N P0 m := by
  obtain ⟨hs, W, hm, hok, hwn⟩ := hA
  obtain ⟨h1, h2, h3⟩ := hR
  refine ⟨h1.frame (hf.1 _ (by omega)), ⟨fun i hi => (h2.1 i hi).low (lyN_run W (hok.mono hi)).1.1 hi hf, fun i hi => (h2.2 i hi).low (lyN_egc W (szs36 hs) (hok.mono (show i + 1 ≤ m from hi))) hi hf⟩, fun i hi p hp => ?_⟩
  rw [hf.2.2.2.2.2.1 _ (by omega)]; exact h3 i hi p hp
theorem isPossible_ok (h : MSh G o) (hA : AOK c r N P0 m) (hR : MRep x y o c r N P0 m) {nt : Nat → Int32} (hm : m < 10) (hnt : MNt x o m nt) (h5 : nt 5 = 0 ∨ nt 5 = 1) :
    ∃ v x' y', fX7_isPossible o (wIJ G x y) = some (v, wIJ G x' y') ∧ MFr o m x y x' y' ∧ ((okN c (c * r) (addN N m nt) P0 (m + 1) ∧ v = nW 1 ∧ MLs x' y' o c (c * r) (addN N m nt) P0 (m + 1)) ∨ (¬ okN c (c * r) (addN N m nt) P0 (m + 1) ∧ v = nW 0)) := by
  obtain ⟨hs, W, hm10, hok, hwn⟩ := id hA
  have hn := szs36 hs
  obtain ⟨⟨b1, b2⟩, -⟩ := lyN_run W hok
  have low := addN_low (m := m) (N := N) (nt := nt)
  have hokN := okN_cong low hok
  have eN : addN N m nt m = nt := if_pos rfl
  have eL : lyN c (c * r) (addN N m nt) P0 m = lyN c (c * r) N P0 m := (lyN_cong low).symm
  obtain ⟨v, x3, y3, f1, f2, f3⟩ := mfollows_ok (N := nt) h hs hR.1.1 (i := m) hm b1 b2 hnt h5 (hR.2.1.1 m (Nat.le_refl _))
  have hR3 := hR.fr hA f2
  have body : fX7_isPossible o (wIJ G x y) = if v = nW 0 then some (nW 0, wIJ G x3 y3) else if x3 (o + 9) (m + 1) ≤ nW 0 then some (nW 0, wIJ G x3 y3) else some (nW 1, wIJ G x3 y3) := by
    unfold fX7_isPossible fX7_isPossible_0 fX7_isPossible_46 fX7_isPossible_47
    simp only [lits]
    rw [gR_wij, h.g0, Option.bind_some, hR.s2 h, Option.bind_some, if_neg (by rw [nW_eq (by omega) (by decide)]; omega), Option.bind_some, hR.s2 h, Option.bind_some, ck_wij, ck_ok h.t, f1, Option.bind_some]
    by_cases hv : v = nW 0
    · rw [if_pos hv, if_pos hv]; rfl
    · rw [if_neg hv, if_neg hv, gR_wij, h.g14, Option.bind_some, gR_wij, h.g0, Option.bind_some, hR3.s2 h, Option.bind_some, nW_add, h.r14.rd (by omega) (by decide), Option.bind_some]
      rfl
  rcases f3 with ⟨n1, n2⟩ | ⟨st', n1, n2, n3, n4⟩
  · refine ⟨nW 0, x3, y3, by rw [body, if_pos n2], f2, Or.inr ⟨fun q => ?_, rfl⟩⟩
    have := (q m (Nat.lt_succ_self _)).1
    rw [eN, eL, n1] at this; cases this
  · have n1' : stepL c (c * r) (addN N m nt m) (m % 2) (lyN c (c * r) (addN N m nt) P0 m).1 = some st' := by rw [eN, eL]; exact n1
    have e := lyN_of n1'
    have h40 := (evs_RI (Nat.mod_lt m (by decide)) b2 (Nat.le_refl _) n1).2.1
    by_cases hz : lyc st'.1 = 0
    · refine ⟨nW 0, x3, y3, ?_, f2, Or.inr ⟨fun q => ?_, rfl⟩⟩
      · rw [body, n2, if_neg (by decide), if_pos (by rw [n3.1, hz]; decide)]
      · have := (q m (Nat.lt_succ_self _)).2
        rw [e] at this; exact this hz
    · refine ⟨nW 1, x3, y3, ?_, f2, Or.inl ⟨okN_succ.mpr ⟨hokN, by rw [e]; exact n1', by rw [e]; exact hz⟩, rfl, ?_⟩⟩
      · rw [body, n2, if_neg (by decide), if_neg (by rw [n3.1, nW_le (by omega) (by decide)]; omega)]
      · exact (hR.2.1.cong low).step W hn hokN f2 (by rw [e]; exact n3) (by rw [e]; exact n4)
/-- the number of notes is set, and the games behind are counted -/
theorem setMany_ok (h : MSh G o) {k : Nat} (hA : AOK c r N P0 k) (hP : MPs x o c r N P0 m) (hn : ∀ i, i < k → MNt x o i (N i)) (hL : MLs x y o c (c * r) N P0 k) :
    ∃ y', fX7_countsBehind o (wIJ G (u2 x (o + 1) 2 (nW k)) y) = some ((), wIJ G (u2 x (o + 1) 2 (nW k)) y') ∧ (∀ b, b ≠ o + 14 → y' b = y b) ∧ MRep (u2 x (o + 1) 2 (nW k)) y' o c r N P0 k := by
  have xo : ∀ b, b ≠ o + 1 → u2 x (o + 1) 2 (nW k) b = x b := fun b hb => u2_arow hb
  have hL2 : MLs (u2 x (o + 1) 2 (nW k)) y o c (c * r) N P0 k := hL.same (xo _ (by omega)) (xo _ (by omega)) (xo _ (by omega)) (xo _ (by omega)) rfl
  obtain ⟨y', c1, c2, c3⟩ := countsBehind_ok h hA (x := u2 x (o + 1) 2 (nW k)) u2_same hL2
  refine ⟨y', c1, c2, ⟨⟨?_, ?_⟩, u2_same, fun q hq => ?_, fun i hi j hj => ?_⟩, hL2.same rfl rfl rfl rfl (c2 _ (by omega)), c3⟩
  · rw [u2_other (by omega)]; exact hP.1.1
  · rw [u2_other (by omega)]; exact hP.1.2
  · rw [u2_other (by omega)]; exact hP.2.2.1 q hq
  · rw [u2_other (by omega)]; exact hn i hi j hj
theorem adds_ok (h : MSh G o) {k : Nat} (hk : k = m + 1) (hA : AOK c r N P0 k) (hP : MPs x o c r N P0 m) (hn : ∀ i, i < k → MNt x o i (N i)) (hL : MLs x y o c (c * r) N P0 k) :
    ∃ x' y', fX7_adds o (wIJ G x y) = some (nW (pcn c (c * r) N P0 k), wIJ G x' y') ∧ (∀ b, b ≠ o + 1 → x' b = x b) ∧ (∀ b, b ≠ o + 14 → y' b = y b) ∧ MRep x' y' o c r N P0 k := by
  obtain ⟨y', c1, c2, c3⟩ := setMany_ok h hA hP hn hL
  refine ⟨_, y', ?_, fun b hb => u2_arow hb, c2, c3⟩
  have hm := hA.2.2.1
  unfold fX7_adds fX7_adds_0
  simp only [lits]
  rw [gR_wij, h.g0, Option.bind_some, h.s0 (by decide), hP.2.1, Option.bind_some, nW_add, h.r0.wr (by decide) (by decide), Option.bind_some, ck_wij, ck_ok h.t, ← hk, c1, Option.bind_some, gR_wij, h.g14, Option.bind_some, gR_wij, h.g0, Option.bind_some, c3.s2 h, Option.bind_some, c3.many h hm (Nat.le_refl _)]
  rfl
theorem drops_ok (h : MSh G o) {k : Nat} (hk : m = k + 1) (hA : AOK c r N P0 m) (hR : MRep x y o c r N P0 m) :
    ∃ x' y', fX7_drops o (wIJ G x y) = some (nW k, wIJ G x' y') ∧ (∀ b, b ≠ o + 1 → x' b = x b) ∧ (∀ b, b ≠ o + 14 → y' b = y b) ∧ MRep x' y' o c r N P0 k := by
  obtain ⟨y', c1, c2, c3⟩ := setMany_ok h (hA.mono (show k ≤ m by omega)) hR.1 (fun i hi => hR.1.2.2.2 i (by omega)) (hR.2.1.mono (by omega))
  refine ⟨_, y', ?_, fun b hb => u2_arow hb, c2, c3⟩
  have hm := hA.2.2.1
  unfold fX7_drops fX7_drops_0
  simp only [lits]
  rw [gR_wij, h.g0, Option.bind_some, h.s0 (by decide), hR.1.2.1, Option.bind_some, nW_sub (by omega), h.r0.wr (by decide) (by decide), Option.bind_some, ck_wij, ck_ok h.t, show m - 1 = k by omega, c1, Option.bind_some, gR_wij, h.g0, Option.bind_some, c3.s2 h]
  rfl
end MADD
