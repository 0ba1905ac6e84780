/-! ===== the reference counts the games behind ===== -/
theorem mlk_from {e : Nat × Nat × Nat × Nat} {G : Mem} (h1 : e.1 < 40) (h2 : e.2.1 < 40) (h3 : e.2.2.1 < 36) (h4 : e.2.2.2 < 36) : fX7_fromOf (nW (mlk e)) G = some (nW e.1, G) := by
  unfold fX7_fromOf fX7_fromOf_0 mlk
  simp only [lits]
  rw [nW_div (by omega) (by decide), nW_div (by omega) (by decide)]
  congr 3
  omega
theorem mlk_to {e : Nat × Nat × Nat × Nat} {G : Mem} (h1 : e.1 < 40) (h2 : e.2.1 < 40) (h3 : e.2.2.1 < 36) (h4 : e.2.2.2 < 36) : fX7_toOf (nW (mlk e)) G = some (nW e.2.1, G) := by
  unfold fX7_toOf fX7_toOf_0 mlk
  simp only [lits]
  rw [nW_div (by omega) (by decide), nW_rem (by omega) (by decide)]
  congr 3
  omega
theorem mlk_origin {e : Nat × Nat × Nat × Nat} {G : Mem} (h1 : e.1 < 40) (h2 : e.2.1 < 40) (h3 : e.2.2.1 < 36) (h4 : e.2.2.2 < 36) : fX7_originOf (nW (mlk e)) G = some (nW e.2.2.1, G) := by
  unfold fX7_originOf fX7_originOf_0 mlk
  simp only [lits]
  rw [nW_div (by omega) (by decide), nW_rem (by omega) (by decide)]
  congr 3
  omega
theorem mlk_target {e : Nat × Nat × Nat × Nat} {G : Mem} (h1 : e.1 < 40) (h2 : e.2.1 < 40) (h3 : e.2.2.1 < 36) (h4 : e.2.2.2 < 36) : fX7_targetOf (nW (mlk e)) G = some (nW e.2.2.2, G) := by
  unfold fX7_targetOf fX7_targetOf_0 mlk
  simp only [lits]
  rw [nW_rem (by omega) (by decide)]
  congr 3
  omega
/-- all layers and edges of the reference -/
def MLs (x : Nat → Nat → Int32) (y : Nat → Nat → Int64) (o c n : Nat) (N : Nat → Nat → Int32) (P0 : Nat → Nat) (m : Nat) : Prop := (∀ i, i ≤ m → MLay x y o i (lyN c n N P0 i).1) ∧ ∀ i, i < m → MEdg x o i (lyN c n N P0 (i + 1)).2
def MCt (y : Nat → Nat → Int64) (o c n : Nat) (N : Nat → Nat → Int32) (P0 : Nat → Nat) (m : Nat) : Prop := ∀ i, i ≤ m → ∀ p, p < lyc (lyN c n N P0 i).1 → y (o + 14) (i * 40 + p) = Int64.ofNat (ctD c n N P0 m (m - i) p)
section MBEHIND
variable {G : Mem} {o : Nat} {c r m : Nat} {N : Nat → Nat → Int32} {P0 : Nat → Nat} {x : Nat → Nat → Int32} {y : Nat → Nat → Int64}
theorem countsBehind_ok (h : MSh G o) (hA : AOK c r N P0 m) (hm2 : x (o + 1) 2 = nW m) (hL : MLs x y o c (c * r) N P0 m) : ∃ y', fX7_countsBehind o (wIJ G x y) = some ((), wIJ G x y') ∧ (∀ b, b ≠ o + 14 → y' b = y b) ∧ MCt y' o c (c * r) N P0 m := by
  obtain ⟨hs, W, hm, hok, hwn⟩ := id hA
  have hn := szs36 hs
  have l40 : ∀ i, i ≤ m → lyc (lyN c (c * r) N P0 i).1 ≤ 40 := fun i hi => (lyN_run W (hok.mono hi)).1.1
  have many : ∀ i, i ≤ m → ∀ y2, gA (wIJ G x y2) 1 (o + 9) (nW i) = some (nW (lyc (lyN c (c * r) N P0 i).1)) := fun i hi y2 => by
    rw [h.r14.rd (by omega) (by decide), (hL.1 i hi).1]
  -- the last layer
  have fst := loop_to (f := fun (s : Int32) G => fX7_countsBehind_9 o (nW m) s G) (fun p => nW p) (fun p => wIJ G x (ur y (o + 14) (flR (y (o + 14)) (m * 40) (m * 40 + p) 1))) (lyc (lyN c (c * r) N P0 m).1)
  generalize hy1 : ur y (o + 14) (flR (y (o + 14)) (m * 40) (m * 40 + lyc (lyN c (c * r) N P0 m).1) 1) = y1
  have yo : ∀ b, b ≠ o + 14 → y1 b = y b := fun b hb => by rw [← hy1, ur_arow hb]
  have yl : ∀ p, p < lyc (lyN c (c * r) N P0 m).1 → y1 (o + 14) (m * 40 + p) = Int64.ofNat (ctD c (c * r) N P0 m (m - m) p) := fun p hp => by
    rw [Nat.sub_self, ← hy1, ur_same]
    show (if _ then _ else _) = Int64.ofNat (if p < lyc (lyN c (c * r) N P0 m).1 then 1 else 0)
    rw [if_pos hp, if_pos ⟨Nat.le_add_right _ _, Nat.add_lt_add_left hp _⟩]; rfl
  obtain ⟨res, Gf, e1, y', rfl, e2, e3⟩ := loop_by (f := fun (s : Int32) G => fX7_countsBehind_41 o s G)
    (fun d s G' => ∃ y', G' = wIJ G x y' ∧ s = nW d - nW 1 ∧ d ≤ m ∧ (∀ b, b ≠ o + 14 → y' b = y b) ∧ ∀ i, d ≤ i → i ≤ m → ∀ p, p < lyc (lyN c (c * r) N P0 i).1 → y' (o + 14) (i * 40 + p) = Int64.ofNat (ctD c (c * r) N P0 m (m - i) p))
    (fun (_ : Unit) G' => ∃ y', G' = wIJ G x y' ∧ (∀ b, b ≠ o + 14 → y' b = y b) ∧ MCt y' o c (c * r) N P0 m) (by
    rintro d s G' ⟨y', rfl, rfl, hd, q1, q3⟩
    by_cases h0 : d = 0
    · left
      subst h0
      refine ⟨(), _, ?_, y', rfl, q1, fun i hi p hp => q3 i (Nat.zero_le _) hi p hp⟩
      show fX7_countsBehind_41 _ _ _ = _
      unfold fX7_countsBehind_41 fX7_countsBehind_148
      rw [if_pos (by decide)]; rfl
    · right
      obtain ⟨i, rfl⟩ : ∃ i, d = i + 1 := ⟨d - 1, by omega⟩
      have hi : i < m := by omega
      obtain ⟨w1, w2, w3⟩ := eg_ok W hn hok hi
      have b40 := l40 i (by omega)
      have b41 := l40 (i + 1) (by omega)
      have em6 : em c (c * r) N P0 i ≤ 1600 := lyN_egc W hn (hok.mono (show i + 1 ≤ m from hi))
      have es : nW (i + 1) - nW 1 = nW i := by rw [nW_sub (by omega), Nat.add_sub_cancel]
      rw [es]
      have hE : x (o + 11) i = nW (em c (c * r) N P0 i) ∧ ∀ e, e < em c (c * r) N P0 i → x (o + 10) (i * 1600 + e) = nW (mlk (eg c (c * r) N P0 i e)) := hL.2 i hi
      generalize hli : lyc (lyN c (c * r) N P0 i).1 = li at *
      generalize hlj : lyc (lyN c (c * r) N P0 (i + 1)).1 = lj at *
      let ye : Nat → Nat → Nat → Int64 := fun e => ur y' (o + 14) (fun k => if i * 40 ≤ k ∧ k < i * 40 + li then Int64.ofNat (sumN e fun e' => if (eg c (c * r) N P0 i e').1 = k - i * 40 then ctD c (c * r) N P0 m (m - (i + 1)) (eg c (c * r) N P0 i e').2.1 else 0) else y' (o + 14) k)
      have ye0 : ye 0 = ur y' (o + 14) (flR (y' (o + 14)) (i * 40) (i * 40 + li) 0) := rfl
      have yin : ∀ e k, k < li → ye e (o + 14) (i * 40 + k) = Int64.ofNat (sumN e fun e' => if (eg c (c * r) N P0 i e').1 = k then ctD c (c * r) N P0 m (m - (i + 1)) (eg c (c * r) N P0 i e').2.1 else 0) := fun e k hk => by
        show ur y' (o + 14) _ (o + 14) (i * 40 + k) = _
        rw [ur_same, if_pos (by omega), show i * 40 + k - i * 40 = k by omega]
      have yout : ∀ e k, ¬ (i * 40 ≤ k ∧ k < i * 40 + li) → ye e (o + 14) k = y' (o + 14) k := fun e k hk => by
        show ur y' (o + 14) _ (o + 14) k = _
        rw [ur_same, if_neg hk]
      have yst : ∀ e, e < em c (c * r) N P0 i → u2 (ye e) (o + 14) (i * 40 + (eg c (c * r) N P0 i e).1) (ye e (o + 14) (i * 40 + (eg c (c * r) N P0 i e).1) + ye e (o + 14) ((i + 1) * 40 + (eg c (c * r) N P0 i e).2.1)) = ye (e + 1) := fun e he => by
        obtain ⟨z1, z2, z3, z4⟩ := w1 e he
        have ct : ye e (o + 14) ((i + 1) * 40 + (eg c (c * r) N P0 i e).2.1) = Int64.ofNat (ctD c (c * r) N P0 m (m - (i + 1)) (eg c (c * r) N P0 i e).2.1) := by
          rw [yout e _ (by omega)]
          exact q3 (i + 1) (Nat.le_refl _) (by omega) (eg c (c * r) N P0 i e).2.1 (by rw [hlj]; exact z2)
        funext b k
        by_cases hb : b = o + 14
        · subst hb
          by_cases hk : k = i * 40 + (eg c (c * r) N P0 i e).1
          · rw [hk, u2_same, ct, yin e _ z1, yin (e + 1) _ z1, ← Int64.ofNat_add]
            congr 1
            show _ = sumN e _ + (if (eg c (c * r) N P0 i e).1 = (eg c (c * r) N P0 i e).1 then _ else 0)
            rw [if_pos rfl]
          · rw [u2_other (fun z => hk z.2)]
            by_cases hr : i * 40 ≤ k ∧ k < i * 40 + li
            · obtain ⟨p, rfl⟩ : ∃ p, k = i * 40 + p := ⟨k - i * 40, by omega⟩
              rw [yin e p (by omega), yin (e + 1) p (by omega)]
              congr 1
              show _ = sumN e _ + (if (eg c (c * r) N P0 i e).1 = p then _ else 0)
              rw [if_neg (by omega)]; rfl
            · rw [yout e k hr, yout (e + 1) k hr]
        · rw [u2_apart hb]
          show ur y' (o + 14) _ b k = ur y' (o + 14) _ b k
          rw [ur_apart hb, ur_apart hb]
      have inner := loop_to (f := fun (s : Int32) G => fX7_countsBehind_77 o (nW i) s G) (fun e => nW e) (fun e => wIJ G x (ye e)) (em c (c * r) N P0 i) (.inl (nW i + (-1 : Int32))) (wIJ G x (ye (em c (c * r) N P0 i))) (fun e he => by
        obtain ⟨z1, z2, z3, z4⟩ := w1 e he
        show fX7_countsBehind_77 _ _ _ _ = _
        unfold fX7_countsBehind_77
        simp only [lits, nW_add]
        rw [gR_wij, h.g16, Option.bind_some, h.r16.rd (by omega) (by decide), hE.1, Option.bind_some, if_neg (by rw [nW_le (by omega) (by omega)]; show ¬ em c (c * r) N P0 i ≤ e; omega), gR_wij, h.g15, Option.bind_some, nW_mul, nW_add, h.r15.rd (by omega) (by decide), hE.2 e he, Option.bind_some, gR_wij, h.g19, Option.bind_some, mlk_from (by omega) (by omega) (by omega) (by omega), Option.bind_some, nW_mul, nW_add, h.r19.rj (by omega) (by decide), Option.bind_some, gR_wij, h.g19, Option.bind_some, mlk_to (by omega) (by omega) (by omega) (by omega), Option.bind_some, nW_mul, nW_add, h.r19.rj (by omega) (by decide), Option.bind_some, h.r19.wj (by omega) (by decide), Option.bind_some, yst e he]) (by
        show fX7_countsBehind_77 _ _ _ _ = _
        unfold fX7_countsBehind_77 fX7_countsBehind_142
        rw [gR_wij, h.g16, Option.bind_some, h.r16.rd (by omega) (by decide), hE.1, Option.bind_some, if_pos (by rw [nW_le (by omega) (by omega)]; show em c (c * r) N P0 i ≤ em c (c * r) N P0 i; omega)]
        rfl) (em c (c * r) N P0 i) 0 FU (by omega) (by show _ < 100000; omega)
      have zero := loop_to (f := fun (s : Int32) G => fX7_countsBehind_47 o (nW i) s G) (fun p => nW p) (fun p => wIJ G x (ur y' (o + 14) (flR (y' (o + 14)) (i * 40) (i * 40 + p) 0))) li (.inl (nW i + (-1 : Int32))) (wIJ G x (ye (em c (c * r) N P0 i))) (fun p hp => by
        show fX7_countsBehind_47 _ _ _ _ = _
        unfold fX7_countsBehind_47
        simp only [lits, nW_add]
        rw [gR_wij, h.g14, Option.bind_some, many i (by omega), hli, Option.bind_some, if_neg (by rw [nW_le (by omega) (by omega)]; omega), gR_wij, h.g19, Option.bind_some, nW_mul, nW_add, h.r19.wj (by omega) (by decide), Option.bind_some, flR_one (by omega)]
        rfl) (by
        show fX7_countsBehind_47 _ _ _ _ = _
        unfold fX7_countsBehind_47 fX7_countsBehind_75
        simp only [lits]
        rw [gR_wij, h.g14, Option.bind_some, many i (by omega), hli, Option.bind_some, if_pos (by rw [nW_le (by omega) (by omega)]; omega), ← ye0, inner]
        rfl) li 0 FU (by omega) (by show _ < 100000; omega)
      have s0 : ur y' (o + 14) (flR (y' (o + 14)) (i * 40) (i * 40 + 0) 0) = y' := flR_nil
      rw [s0] at zero
      refine ⟨i, nW i + (-1 : Int32), wIJ G x (ye (em c (c * r) N P0 i)), Nat.lt_succ_self _, ?_, _, rfl, ?_, by omega, fun b hb => ?_, fun i' h1 h2 p hp => ?_⟩
      · show fX7_countsBehind_41 _ _ _ = _
        unfold fX7_countsBehind_41
        simp only [lits]
        rw [if_neg (nW_neg_lt (by omega))]
        exact zero
      · rw [Int32.sub_eq_add_neg]; rfl
      · show ur y' (o + 14) _ b = _
        rw [ur_arow hb]; exact q1 b hb
      · by_cases e : i' = i
        · rw [e] at hp ⊢
          rw [hli] at hp
          rw [yin _ p hp, ctD_at hi]
        · have := l40 i' h2
          rw [yout _ _ (by omega)]; exact q3 i' (by omega) h2 p hp)
    FU m (nW m - nW 1) (wIJ G x y1) (by show m < 100000; omega) ⟨y1, rfl, rfl, Nat.le_refl _, yo, fun i h1 h2 p hp => by
      have e : i = m := by omega
      rw [e] at hp ⊢
      exact yl p hp⟩
  refine ⟨y', ?_, e2, e3⟩
  have b40 := l40 m (Nat.le_refl _)
  have := fst () (wIJ G x y') (fun p hp => by
    show fX7_countsBehind_9 _ _ _ _ = _
    unfold fX7_countsBehind_9
    simp only [lits, nW_add]
    rw [gR_wij, h.g14, Option.bind_some, many m (Nat.le_refl _), Option.bind_some, if_neg (by rw [nW_le (by omega) (by omega)]; omega), gR_wij, h.g19, Option.bind_some, nW_mul, nW_add, h.r19.wj (by omega) (by decide), Option.bind_some, flR_one (by omega)]
    rfl) (by
    show fX7_countsBehind_9 _ _ _ _ = _
    unfold fX7_countsBehind_9 fX7_countsBehind_37
    rw [gR_wij, h.g14, Option.bind_some, many m (Nat.le_refl _), Option.bind_some, if_pos (by rw [nW_le (by omega) (by omega)]; omega), hy1]
    simp only [lits]
    rw [e1]
    rfl) (lyc (lyN c (c * r) N P0 m).1) 0 FU (by omega) (by show _ < 100000; omega)
  have s0 : ur y (o + 14) (flR (y (o + 14)) (m * 40) (m * 40 + 0) 1) = y := flR_nil
  rw [s0] at this
  unfold fX7_countsBehind fX7_countsBehind_0
  simp only [lits]
  rw [gR_wij, h.g0, Option.bind_some, h.s0 (by decide), hm2, Option.bind_some]
  exact this
end MBEHIND
