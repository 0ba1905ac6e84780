/-! ===== the class counts games ===== -/
def TSh (G : Mem) (t g k : Nat) : Prop := (mt G t = 14 ∧ mP G t 0 = some g ∧ mP G t 2 = some k) ∧ (mt G g = 5 ∧ mn G g = 2304) ∧ (mt G k = 5 ∧ mn G k = 440) ∧ g ≠ k
theorem Z_ofNat_0 {k : Nat} (h : k < 9223372036854775808) : Int64.ofNat k = 0 ↔ k = 0 := by
  constructor
  · intro e
    have := congrArg Int64.toInt e
    rw [Int64.toInt_ofNat_of_lt h] at this
    have z : (0 : Int64).toInt = 0 := by decide
    rw [z] at this
    omega
  · intro e; rw [e]; rfl
theorem lnk_from {e : Nat × Nat × Nat × Nat} {G : Mem} (h1 : e.1 < 40) (h2 : e.2.1 < 40) (h3 : e.2.2.1 < 36) (h4 : e.2.2.2 < 36) : fX3_linkFrom (nW (lnk e)) G = some (nW e.1, G) := by
  unfold fX3_linkFrom fX3_linkFrom_0 lnk
  simp only [lits]
  rw [nW_shr (by omega) (by decide), nW_and63]
  congr 3
  show ((e.2.1 * 64 + e.1) * 4096 + (e.2.2.1 * 64 + e.2.2.2)) / 4096 % 64 = e.1
  omega
theorem lnk_to {e : Nat × Nat × Nat × Nat} {G : Mem} (h1 : e.1 < 40) (h2 : e.2.1 < 40) (h3 : e.2.2.1 < 36) (h4 : e.2.2.2 < 36) : fX3_linkTo (nW (lnk e)) G = some (nW e.2.1, G) := by
  unfold fX3_linkTo fX3_linkTo_0 lnk
  simp only [lits]
  rw [nW_shr (by omega) (by decide)]
  congr 3
  show ((e.2.1 * 64 + e.1) * 4096 + (e.2.2.1 * 64 + e.2.2.2)) / 262144 = e.2.1
  omega
theorem lnk_move {e : Nat × Nat × Nat × Nat} {G : Mem} (h3 : e.2.2.1 < 36) (h4 : e.2.2.2 < 36) : fX3_linkMove (nW (lnk e)) G = some (nW (e.2.2.1 * 64 + e.2.2.2), G) := by
  unfold fX3_linkMove fX3_linkMove_0 lnk
  simp only [lits]
  rw [nW_and4095]
  congr 3
  omega
theorem contAt_ok {G : Mem} {t kk i p : Nat} {x : Nat → Nat → Int32} {y : Nat → Nat → Int64} (g2 : gR G 14 t 2 = some kk) (t6 : mt G kk = 5) (t7 : mn G kk = 440) (hi : i < 11) (hp : p < 40) : fX4_continuationsAt t (nW i) (nW p) (wIJ G x y) = some (y kk (i * 40 + p), wIJ G x y) := by
  unfold fX4_continuationsAt fX4_continuationsAt_0 fX4_continuationsAt_21
  rw [cellOf_ok hi hp, Option.bind_some]
  simp only [lits]
  rw [if_neg (nW_m1 (by omega)), gR_wij, g2, Option.bind_some, gJ_wij t6 (by rw [t7]; omega) (by rw [t7]; decide), Option.bind_some]
section TALLY
variable {G : Mem} {a l K c r m : Nat} {N : Nat → Nat → Int32} {P0 : Nat → Nat} {t g kk : Nat}
theorem ctD_at {n i : Nat} (hi : i < m) (p : Nat) : ctD c n N P0 m (m - i) p = sumN (em c n N P0 i) fun e => if (eg c n N P0 i e).1 = p then ctD c n N P0 m (m - (i + 1)) (eg c n N P0 i e).2.1 else 0 := by
  rw [show m - i = (m - (i + 1)) + 1 by omega]
  show (sumN (em c n N P0 (m - (m - (i + 1) + 1))) fun e => if (eg c n N P0 (m - (m - (i + 1) + 1)) e).1 = p then ctD c n N P0 m (m - (i + 1)) (eg c n N P0 (m - (m - (i + 1) + 1)) e).2.1 else 0) = _
  rw [show m - (m - (i + 1) + 1) = i by omega]
theorem ARep.ends (hA : AOK c r N P0 m) (h : ARep G a l K c r N P0 m) {i : Nat} (hi : i ≤ m) : gA G 1 (a + 9) (nW i) = some (nW (ofs c (c * r) N P0 i)) := by
  have hm := hA.2.2.1
  have := h.1.1.r9 (x := mI G) (y := mJ G) (i := i) (by omega)
  rw [wij_self, (h.2.2.2.2.2.1.1 i hi).2] at this; exact this
theorem ARep.link (hA : AOK c r N P0 m) (h : ARep G a l K c r N P0 m) {i e : Nat} (hi : i < m) (he : e < em c (c * r) N P0 i) : gA G 1 l (nW (ofs c (c * r) N P0 i + e)) = some (nW (lnk (eg c (c * r) N P0 i e))) := by
  have h7 := h.2.2.2.2.2.2
  have hm : ofs c (c * r) N P0 (i + 1) ≤ ofs c (c * r) N P0 m := ofs_mono hi
  have hs : ofs c (c * r) N P0 (i + 1) = ofs c (c * r) N P0 i + em c (c * r) N P0 i := rfl
  have := h.1.1.rl (x := mI G) (y := mJ G) (i := ofs c (c * r) N P0 i + e) (by omega)
  rw [wij_self, h.2.2.2.2.2.1.2 i hi e he] at this; exact this
theorem gA_self {x y} {t a : Nat} {i v : Int32} (h : gA G t a i = some v) (hx : x a = mI G a) : gA (wIJ G x y) t a i = some v := by
  unfold gA at h ⊢
  show (if mt G a = t ∧ inb i (mn G a) then some (x a i.toNatClampNeg) else none) = _
  rw [hx]; exact h
def CRep (y : Nat → Nat → Int64) (kk c n : Nat) (N : Nat → Nat → Int32) (P0 : Nat → Nat) (m : Nat) : Prop := ∀ i, i ≤ m → ∀ p, p < 40 → y kk (i * 40 + p) = Int64.ofNat (ctD c n N P0 m (m - i) p)
theorem countContinuations_ok (hA : AOK c r N P0 m) (h : ARep G a l K c r N P0 m) (hT : TSh G t g kk) : ∃ y', fX4_countContinuations t a G = some ((), wIJ G (mI G) y') ∧ (∀ b, b ≠ kk → y' b = mJ G b) ∧ CRep y' kk c (c * r) N P0 m := by
  obtain ⟨hs, W, hm, hok, hwn⟩ := id hA
  have hn := szs36 hs
  obtain ⟨⟨t1, t2, t3⟩, ⟨t4, t5⟩, ⟨t6, t7⟩, t8⟩ := hT
  have h40 := (lyN_run W hok).1.1
  have g2 : gR G 14 t 2 = some kk := gR_ok t1 t3
  have hpc : pcn c (c * r) N P0 m ≤ 40 := h40
  generalize hy0 : ur (mJ G) kk (flR (mJ G kk) 0 440 0) = y0
  have fl1 : fJ7_fill_d0a16 kk 0 G = some ((), wIJ G (mI G) y0) := by
    have := fillJ_ok (G := G) (x := mI G) (y := mJ G) (v := 0) t6 t7 (by decide)
    rw [wij_self, hy0] at this; exact this
  generalize hy1 : ur y0 kk (flR (y0 kk) (m * 40) (m * 40 + pcn c (c * r) N P0 m) 1) = y1
  have fl2 : fJ7_fill_bad5a kk (nW (m * 40)) (nW (m * 40 + pcn c (c * r) N P0 m)) 1 (wIJ G (mI G) y0) = some ((), wIJ G (mI G) y1) := by
    have := fillR_ok (G := G) (x := mI G) (y := y0) (v := 1) (p := m * 40) (q := m * 40 + pcn c (c * r) N P0 m) t6 (by rw [t7]; omega) (by rw [t7]; decide) (Nat.le_add_right _ _)
    rw [hy1] at this; exact this
  have yo : ∀ b, b ≠ kk → y1 b = mJ G b := fun b hb => by rw [← hy1, ur_arow hb, ← hy0, ur_arow hb]
  have yz : ∀ k, k < m * 40 → y1 kk k = 0 := fun k hk => by
    rw [← hy1, ur_same]
    show (if _ then _ else y0 kk k) = 0
    rw [if_neg (by omega), ← hy0, ur_same]
    exact if_pos ⟨Nat.zero_le _, by omega⟩
  have yl : ∀ p, p < 40 → y1 kk (m * 40 + p) = Int64.ofNat (ctD c (c * r) N P0 m (m - m) p) := fun p hp => by
    rw [Nat.sub_self, ← hy1, ur_same]
    show (if _ then _ else y0 kk (m * 40 + p)) = Int64.ofNat (if p < lyc (lyN c (c * r) N P0 m).1 then 1 else 0)
    by_cases hq : p < lyc (lyN c (c * r) N P0 m).1
    · rw [if_pos hq, if_pos ⟨Nat.le_add_right _ _, Nat.add_lt_add_left hq _⟩]; rfl
    · rw [if_neg hq, if_neg (fun z => hq (Nat.lt_of_add_lt_add_left z.2)), ← hy0, ur_same]
      exact if_pos ⟨Nat.zero_le _, by omega⟩
  have main := loop_by (f := fun (s : Int32) G => fX4_countContinuations_38 t a s G)
    (fun d s G' => ∃ y', G' = wIJ G (mI G) y' ∧ s = nW d - nW 1 ∧ d ≤ m ∧ (∀ b, b ≠ kk → y' b = mJ G b) ∧ (∀ k, k < d * 40 → y' kk k = 0) ∧ ∀ i, d ≤ i → i ≤ m → ∀ p, p < 40 → y' kk (i * 40 + p) = Int64.ofNat (ctD c (c * r) N P0 m (m - i) p))
    (fun (_ : Unit) G' => ∃ y', G' = wIJ G (mI G) y' ∧ (∀ b, b ≠ kk → y' b = mJ G b) ∧ CRep y' kk c (c * r) N P0 m) ?_ FU m (nW m - nW 1) (wIJ G (mI G) y1) (by show m < 100000; omega)
    ⟨y1, rfl, rfl, Nat.le_refl _, yo, yz, fun i h1 h2 p hp => by
      have : i = m := by omega
      rw [this]; exact yl p hp⟩
  · obtain ⟨res, Gf, e1, y', rfl, e2, e3⟩ := main
    refine ⟨y', ?_, e2, e3⟩
    unfold fX4_countContinuations fX4_countContinuations_0
    simp only [lits]
    have f0 : fJ7_fill_d0a16 kk (0 : Int64) G = some ((), wIJ G (mI G) y0) := fl1
    rw [g2, Option.bind_some, f0, Option.bind_some, gF_wij h.1.1.t, h.2.2.2.1, Option.bind_some, gR_wij, g2, Option.bind_some, ck_wij, ck_ok h.1.1.t]
    have pc : fX3_positionCount a (wIJ G (mI G) y0) = some (nW (pcn c (c * r) N P0 m), wIJ G (mI G) y0) := by
      unfold fX3_positionCount fX3_positionCount_0
      rw [gR_wij, h.1.1.g3, Option.bind_some, gF_wij h.1.1.t, h.2.2.2.1, Option.bind_some, gA_self (h.poss hA (Nat.le_refl _)) rfl]; rfl
    rw [pc, Option.bind_some, nW_mul, nW_add, fl2, Option.bind_some, gF_wij h.1.1.t, h.2.2.2.1, Option.bind_some]
    exact e1
  · rintro d s G' ⟨y', rfl, rfl, hd, q1, q2, q3⟩
    by_cases h0 : d = 0
    · left
      subst h0
      refine ⟨(), _, ?_, y', rfl, q1, fun i hi p hp => q3 i (Nat.zero_le _) hi p hp⟩
      show fX4_countContinuations_38 _ _ _ _ = _
      unfold fX4_countContinuations_38 fX4_countContinuations_123
      rw [if_pos (by decide)]; rfl
    · right
      obtain ⟨i, rfl⟩ : ∃ i, d = i + 1 := ⟨d - 1, by omega⟩
      have hi : i < m := by omega
      obtain ⟨w1, w2, w3⟩ := eg_ok W hn hok hi
      have b40 := (lyN_run W (hok.mono (Nat.le_of_lt hi))).1.1
      have b41 := (lyN_run W (hok.mono (show i + 1 ≤ m from hi))).1.1
      have es : nW (i + 1) - nW 1 = nW i := by rw [nW_sub (by omega), Nat.add_sub_cancel]
      rw [es]
      let ye : Nat → Nat → Nat → Int64 := fun e => ur y' kk (fun k => if i * 40 ≤ k ∧ k < i * 40 + 40 then Int64.ofNat (sumN e fun e' => if (eg c (c * r) N P0 i e').1 = k - i * 40 then ctD c (c * r) N P0 m (m - (i + 1)) (eg c (c * r) N P0 i e').2.1 else 0) else y' kk k)
      have ye0 : ye 0 = y' := by
        funext b k
        show ur y' kk _ b k = _
        by_cases hb : b = kk
        · subst hb
          rw [ur_same]
          by_cases hk : i * 40 ≤ k ∧ k < i * 40 + 40
          · rw [if_pos hk, q2 k (by omega)]; rfl
          · rw [if_neg hk]
        · rw [ur_apart hb]
      have yin : ∀ e k, k < 40 → ye e kk (i * 40 + k) = Int64.ofNat (sumN e fun e' => if (eg c (c * r) N P0 i e').1 = k then ctD c (c * r) N P0 m (m - (i + 1)) (eg c (c * r) N P0 i e').2.1 else 0) := fun e k hk => by
        show ur y' kk _ kk (i * 40 + k) = _
        rw [ur_same, if_pos (by omega), show i * 40 + k - i * 40 = k by omega]
      have yout : ∀ e k, ¬ (i * 40 ≤ k ∧ k < i * 40 + 40) → ye e kk k = y' kk k := fun e k hk => by
        show ur y' kk _ kk k = _
        rw [ur_same, if_neg hk]
      have yst : ∀ e, e < em c (c * r) N P0 i → u2 (ye e) kk (i * 40 + (eg c (c * r) N P0 i e).1) (ye e kk (i * 40 + (eg c (c * r) N P0 i e).1) + ye e kk (i * 40 + 40 + (eg c (c * r) N P0 i e).2.1)) = ye (e + 1) := fun e he => by
        obtain ⟨z1, z2, z3, z4⟩ := w1 e he
        have ct : ye e kk (i * 40 + 40 + (eg c (c * r) N P0 i e).2.1) = Int64.ofNat (ctD c (c * r) N P0 m (m - (i + 1)) (eg c (c * r) N P0 i e).2.1) := by
          rw [yout e _ (by omega)]
          have := q3 (i + 1) (Nat.le_refl _) (by omega) (eg c (c * r) N P0 i e).2.1 (by omega)
          rw [show (i + 1) * 40 = i * 40 + 40 by omega] at this
          exact this
        funext b k
        by_cases hb : b = kk
        · subst hb
          by_cases hk : k = i * 40 + (eg c (c * r) N P0 i e).1
          · rw [hk, u2_same, ct, yin e _ (by omega), yin (e + 1) _ (by omega), ← Int64.ofNat_add]
            congr 1
            show _ = sumN e _ + (if (eg c (c * r) N P0 i e).1 = (eg c (c * r) N P0 i e).1 then _ else 0)
            rw [if_pos rfl]
          · rw [u2_other (fun z => hk z.2)]
            by_cases hr : i * 40 ≤ k ∧ k < i * 40 + 40
            · obtain ⟨p, rfl⟩ : ∃ p, k = i * 40 + p := ⟨k - i * 40, by omega⟩
              rw [yin e p (by omega), yin (e + 1) p (by omega)]
              congr 1
              show _ = sumN e _ + (if (eg c (c * r) N P0 i e).1 = p then _ else 0)
              rw [if_neg (by omega)]; rfl
            · rw [yout e k hr, yout (e + 1) k hr]
        · rw [u2_apart hb]
          show ur y' kk _ b k = ur y' kk _ b k
          rw [ur_apart hb, ur_apart hb]
      have inner := loop_to (f := fun (s : Int32) G => fX4_countContinuations_50 t a (nW i) s G) (fun e => nW (ofs c (c * r) N P0 i + e)) (fun e => wIJ G (mI G) (ye e)) (em c (c * r) N P0 i) (.inl (nW i + (-1 : Int32))) (wIJ G (mI G) (ye (em c (c * r) N P0 i))) (fun e he => by
        obtain ⟨z1, z2, z3, z4⟩ := w1 e he
        have hofs : ofs c (c * r) N P0 (i + 1) = ofs c (c * r) N P0 i + em c (c * r) N P0 i := rfl
        have hol := ofs_le W hn (hok.mono (show i + 1 ≤ m from hi))
        show fX4_countContinuations_50 _ _ _ _ _ = _
        unfold fX4_countContinuations_50 fX4_countContinuations_111
        simp only [lits, nW_add]
        rw [gR_wij, h.1.1.g7, Option.bind_some, gA_self (h.ends hA (i := i + 1) (by omega)) rfl, Option.bind_some, if_neg (by rw [nW_le (by omega) (by omega)]; omega), gR_wij, h.1.1.g8, Option.bind_some, gA_self (h.link hA hi he) rfl, Option.bind_some, lnk_from (by omega) (by omega) (by omega) (by omega), Option.bind_some, cellOf_ok (by omega) (by omega), Option.bind_some, if_neg (nW_m1 (by omega)), gR_wij, g2, Option.bind_some, gJ_wij t6 (by rw [t7]; omega) (by rw [t7]; decide), Option.bind_some, lnk_to (by omega) (by omega) (by omega) (by omega), Option.bind_some, ck_wij, ck_ok t1, contAt_ok g2 t6 t7 (by omega) (by omega), Option.bind_some, pJ_wij t6 (by rw [t7]; omega) (by rw [t7]; decide), Option.bind_some, show (i + 1) * 40 = i * 40 + 40 by omega, yst e he]
        rfl) (by
        have hol := ofs_le W hn (hok.mono (show i + 1 ≤ m from hi))
        have hofs : ofs c (c * r) N P0 (i + 1) = ofs c (c * r) N P0 i + em c (c * r) N P0 i := rfl
        show fX4_countContinuations_50 _ _ _ _ _ = _
        unfold fX4_countContinuations_50 fX4_countContinuations_117
        rw [gR_wij, h.1.1.g7, Option.bind_some]
        have e1 : nW i + (1 : Int32) = nW (i + 1) := by simp only [lits, nW_add]
        rw [e1, gA_self (h.ends hA (i := i + 1) (by omega)) rfl, Option.bind_some, if_pos (by rw [nW_le (by omega) (by omega)]; omega)]
        rfl) (em c (c * r) N P0 i) 0 FU (by omega) (by
        have hol := ofs_le W hn (hok.mono (show i + 1 ≤ m from hi))
        have hofs : ofs c (c * r) N P0 (i + 1) = ofs c (c * r) N P0 i + em c (c * r) N P0 i := rfl
        show _ < 100000
        omega)
      rw [ye0, Nat.add_zero] at inner
      refine ⟨i, nW i + (-1 : Int32), wIJ G (mI G) (ye (em c (c * r) N P0 i)), Nat.lt_succ_self _, ?_, _, rfl, ?_, by omega, fun b hb => ?_, fun k hk => ?_, fun i' h1 h2 p hp => ?_⟩
      · show fX4_countContinuations_38 _ _ _ _ = _
        unfold fX4_countContinuations_38
        simp only [lits]
        rw [if_neg (nW_neg_lt (by omega)), gR_wij, h.1.1.g7, Option.bind_some, gA_self (h.ends hA (i := i) (by omega)) rfl, Option.bind_some, inner]
        simp only [lits]
      · rw [Int32.sub_eq_add_neg]; rfl
      · show ur y' kk _ b = _
        rw [ur_arow hb]; exact q1 b hb
      · rw [yout _ k (by omega)]; exact q2 k (by omega)
      · by_cases e : i' = i
        · rw [e, yin _ p hp, ctD_at hi]
        · rw [yout _ _ (by omega)]; exact q3 i' (by omega) h2 p hp
end TALLY
