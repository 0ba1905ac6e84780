/-! ===== the reference marks the moves of a note ===== -/
theorem anyN_iff {f : Nat → Bool} {n : Nat} : anyN n f = true ↔ ∃ i, i < n ∧ f i = true := by
  refine ⟨anyN_at, ?_⟩
  rintro ⟨i, hi, h⟩
  induction n with
  | zero => omega
  | succ n ih =>
    show (anyN n f || f n) = true
    by_cases e : i = n
    · rw [← e, h, Bool.or_true]
    · rw [ih (by omega), Bool.true_or]
/-- the moves that games make among the first edges of a note, by their keys -/
def mkE (c n : Nat) (N : Nat → Nat → Int32) (P0 : Nat → Nat) (m i e : Nat) (k : Nat) : Bool := anyN e fun e' => decide (mky c n N P0 i e' = k) && !decide (ovr c n N P0 m i e' = 0)
theorem cnt_cong {f g : Nat → Bool} : ∀ n, (∀ i, i < n → f i = g i) → cnt n f = cnt n g := by
  intro n
  induction n with
  | zero => intro _; rfl
  | succ n ih =>
    intro h
    show cnt n f + (if f n = true then 1 else 0) = cnt n g + (if g n = true then 1 else 0)
    rw [ih (fun i hi => h i (by omega)), h n (by omega)]
theorem cnt_none {f : Nat → Bool} : ∀ n, (∀ i, i < n → f i = false) → cnt n f = 0 := by
  intro n
  induction n with
  | zero => intro _; rfl
  | succ n ih =>
    intro h
    show cnt n f + (if f n = true then 1 else 0) = 0
    rw [ih (fun i hi => h i (by omega)), h n (by omega)]; rfl
theorem cnt_le {f : Nat → Bool} : ∀ n, cnt n f ≤ n := by
  intro n
  induction n with
  | zero => exact Nat.le_refl _
  | succ n ih =>
    show cnt n f + (if f n = true then 1 else 0) ≤ n + 1
    split <;> omega
section MMARKS
variable {G : Mem} {o : Nat} {c r m : Nat} {N : Nat → Nat → Int32} {P0 : Nat → Nat} {x : Nat → Nat → Int32} {y : Nat → Nat → Int64}
theorem RW.wt {b n i : Nat} {v : Int32} (h : RW G 3 b n) (hi : i < n) (hn : n ≤ 20000) (hv : v = 0 ∨ v = 1) : pT (wIJ G x y) b (nW i) v = some (wIJ G (u2 x b i v) y) := pT_wij h.1 (by rw [h.2]; exact hi) (by rw [h.2]; omega) hv
theorem marks_ok (h : MSh G o) (hA : AOK c r N P0 m) (hR : MRep x y o c r N P0 m) {i : Nat} (hi : i < m) :
    ∃ x', fX7_marks o (nW i) (wIJ G x y) = some (nW (cnt 1296 (mkE c (c * r) N P0 m i (em c (c * r) N P0 i))), wIJ G x' y) ∧ (∀ b, b ≠ o + 15 → x' b = x b) ∧ ∀ k, k < 1296 → x' (o + 15) k = bI (mkE c (c * r) N P0 m i (em c (c * r) N P0 i) k) := by
  have hm := hA.2.2.1
  have hn := szs36 hA.1
  obtain ⟨h1, h2, h3⟩ := hR.edge hA hi
  let xe : Nat → Nat → Nat → Int32 := fun e => ur x (o + 15) (fun k => if k < 1296 then bI (mkE c (c * r) N P0 m i e k) else x (o + 15) k)
  have xo : ∀ e b, b ≠ o + 15 → xe e b = x b := fun e b hb => ur_arow hb
  have xin : ∀ e k, k < 1296 → xe e (o + 15) k = bI (mkE c (c * r) N P0 m i e k) := fun e k hk => by
    show ur x (o + 15) _ (o + 15) k = _
    rw [ur_same, if_pos hk]
  have xe0 : ur x (o + 15) (flR (x (o + 15)) 0 1296 (nW 0)) = xe 0 := by
    funext b k
    by_cases hb : b = o + 15
    · subst hb
      show _ = ur x (o + 15) _ (o + 15) k
      rw [ur_same, ur_same]
      show (if _ then _ else _) = _
      by_cases hk : k < 1296
      · rw [if_pos ⟨Nat.zero_le _, hk⟩, if_pos hk]; rfl
      · rw [if_neg (fun q => hk q.2), if_neg hk]
    · rw [ur_apart hb]; exact (congrFun (xo 0 b hb) k).symm
  have same : ∀ e, mkE c (c * r) N P0 m i (e + 1) = mkE c (c * r) N P0 m i e → xe (e + 1) = xe e := fun e hq => by
    show ur x (o + 15) _ = ur x (o + 15) _
    rw [hq]
  have hsame : ∀ e, ovr c (c * r) N P0 m i e = 0 ∨ mkE c (c * r) N P0 m i e (mky c (c * r) N P0 i e) = true → mkE c (c * r) N P0 m i (e + 1) = mkE c (c * r) N P0 m i e := fun e hq => by
    funext k
    show (mkE c (c * r) N P0 m i e k || (decide (mky c (c * r) N P0 i e = k) && !decide (ovr c (c * r) N P0 m i e = 0))) = _
    rcases hq with hq | hq
    · rw [decide_eq_true hq]; simp
    · by_cases hk : mky c (c * r) N P0 i e = k
      · rw [← hk, hq, Bool.true_or]
      · rw [decide_eq_false hk, Bool.false_and, Bool.or_false]
  have hnew : ∀ e, ovr c (c * r) N P0 m i e ≠ 0 → mkE c (c * r) N P0 m i (e + 1) = fun k => if k = mky c (c * r) N P0 i e then true else mkE c (c * r) N P0 m i e k := fun e hq => by
    funext k
    show (mkE c (c * r) N P0 m i e k || (decide (mky c (c * r) N P0 i e = k) && !decide (ovr c (c * r) N P0 m i e = 0))) = _
    rw [decide_eq_false hq]
    by_cases hk : k = mky c (c * r) N P0 i e
    · rw [if_pos hk, decide_eq_true hk.symm]; simp
    · rw [if_neg hk, decide_eq_false (fun q => hk q.symm), Bool.false_and, Bool.or_false]
  have edges := loop_to (f := fun (s : Int32 × Int32) G => fX7_marks_26 o (nW i) s.1 s.2 G) (fun e => (nW (cnt 1296 (mkE c (c * r) N P0 m i e)), nW e)) (fun e => wIJ G (xe e) y) (em c (c * r) N P0 i) (nW (cnt 1296 (mkE c (c * r) N P0 m i (em c (c * r) N P0 i)))) (wIJ G (xe (em c (c * r) N P0 i)) y) (fun e he => by
    obtain ⟨q0, q1, q2, q3, q4⟩ := h3 e he
    have hol := ovr_lt hA.2.1 hn hm hA.2.2.2.1 hi he
    have hmk : mky c (c * r) N P0 i e < 1296 := by
      show (eg c (c * r) N P0 i e).2.2.1 * 36 + (eg c (c * r) N P0 i e).2.2.2 < 1296
      omega
    show fX7_marks_26 _ _ _ _ _ = _
    unfold fX7_marks_26 fX7_marks_102
    simp only [lgc_t]
    simp only [lits]
    rw [gR_wij, h.g16, Option.bind_some, h.r16.rd (by omega) (by decide), xo e _ (by omega), h1, Option.bind_some, if_neg (by rw [nW_le (by omega) (by omega)]; omega), gR_wij, h.g15, Option.bind_some, nW_mul, nW_add, h.r15.rd (by omega) (by decide), xo e _ (by omega), q0, Option.bind_some, mlk_origin q1 q2 q3 q4, Option.bind_some, mlk_target q1 q2 q3 q4, Option.bind_some, ck_wij, ck_ok h.t, over_ok h hA hR hi he, Option.bind_some]
    by_cases h0 : ovr c (c * r) N P0 m i e = 0
    · rw [if_pos ((Z_ofNat_0 hol).mpr h0), hsame e (Or.inl h0), same e (hsame e (Or.inl h0)), nW_add]
    · rw [if_neg (fun w => h0 ((Z_ofNat_0 hol).mp w)), gR_wij, h.g20, Option.bind_some, nW_mul, nW_add]
      have e1 : gA (wIJ G (xe e) y) 3 (o + 15) (nW ((eg c (c * r) N P0 i e).2.2.1 * 36 + (eg c (c * r) N P0 i e).2.2.2)) = some (bI (mkE c (c * r) N P0 m i e (mky c (c * r) N P0 i e))) := by
        rw [h.r20.rd hmk (by decide), xin e _ hmk]
      rw [e1, Option.bind_some]
      cases hb : mkE c (c * r) N P0 m i e (mky c (c * r) N P0 i e) with
      | true =>
        rw [if_neg (show ¬ bI true = nW 0 from bIt0), hsame e (Or.inr hb), same e (hsame e (Or.inr hb)), nW_add]
      | false =>
        rw [if_pos (show bI false = nW 0 from rfl), Option.bind_some, h.r20.wt (v := nW 1) hmk (by decide) (Or.inr rfl), Option.bind_some, nW_add, nW_add]
        have hc := cnt_up (g := mkE c (c * r) N P0 m i e) (k := mky c (c * r) N P0 i e) (b := true) 1296 hmk
        rw [hb, ← hnew e h0, if_neg (by decide), if_pos rfl] at hc
        have hx : u2 (xe e) (o + 15) (mky c (c * r) N P0 i e) (nW 1) = xe (e + 1) := by
          funext b k
          by_cases hbb : b = o + 15
          · subst hbb
            by_cases hk : k = mky c (c * r) N P0 i e
            · rw [hk, u2_same, xin (e + 1) _ hmk, hnew e h0]
              show nW 1 = bI (if _ then true else _)
              rw [if_pos rfl]; rfl
            · rw [u2_other (fun q => hk q.2)]
              by_cases hr : k < 1296
              · rw [xin e k hr, xin (e + 1) k hr, hnew e h0]
                show _ = bI (if k = _ then true else _)
                rw [if_neg hk]
              · show ur x (o + 15) _ (o + 15) k = ur x (o + 15) _ (o + 15) k
                rw [ur_same, ur_same, if_neg hr, if_neg hr]
          · rw [u2_apart hbb, xo e b hbb, xo (e + 1) b hbb]
        rw [hx, show cnt 1296 (mkE c (c * r) N P0 m i (e + 1)) = cnt 1296 (mkE c (c * r) N P0 m i e) + 1 by omega]) (by
    show fX7_marks_26 _ _ _ _ _ = _
    unfold fX7_marks_26 fX7_marks_108
    rw [gR_wij, h.g16, Option.bind_some, h.r16.rd (by omega) (by decide), xo _ _ (by omega), h1, Option.bind_some, if_pos (by rw [nW_le (by omega) (by omega)]; omega)]
    rfl) (em c (c * r) N P0 i) 0 FU (by omega) (by show _ < 100000; omega)
  have c0 : cnt 1296 (mkE c (c * r) N P0 m i 0) = 0 := cnt_none 1296 (fun _ _ => rfl)
  rw [c0] at edges
  refine ⟨xe (em c (c * r) N P0 i), ?_, xo _, xin _⟩
  unfold fX7_marks fX7_marks_0
  simp only [lits]
  have := loop_to (f := fun (s : Int32) G => fX7_marks_2 o (nW i) s G) (fun k => nW k) (fun k => wIJ G (ur x (o + 15) (flR (x (o + 15)) 0 k (nW 0))) y) 1296 (nW (cnt 1296 (mkE c (c * r) N P0 m i (em c (c * r) N P0 i)))) (wIJ G (xe (em c (c * r) N P0 i)) y) (fun k hk => by
    show fX7_marks_2 _ _ _ _ = _
    unfold fX7_marks_2
    simp only [lits]
    rw [if_neg (by rw [nW_le (by decide) (by omega)]; omega), gR_wij, h.g20, Option.bind_some, h.r20.wt (v := nW 0) hk (by decide) (Or.inl rfl), Option.bind_some, flR_one (Nat.zero_le _), nW_add]) (by
    show fX7_marks_2 _ _ _ _ = _
    unfold fX7_marks_2 fX7_marks_22
    simp only [lits]
    rw [if_pos (by rw [nW_le (by decide) (by decide)]; omega), xe0, edges]
    rfl) 1296 0 FU (by omega) (by show 1296 < 100000; omega)
  rw [flR_nil] at this
  exact this
end MMARKS
