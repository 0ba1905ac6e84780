/-! ===== the class counts the games of a note by their moves ===== -/
theorem cnt_filter {f : Nat → Bool} : ∀ n, cnt n f = ((List.range n).filter f).length := by
  intro n
  induction n with
  | zero => rfl
  | succ n ih =>
    rw [List.range_succ, List.filter_append, List.length_append, ← ih]
    show cnt n f + (if f n = true then 1 else 0) = cnt n f + ([n].filter f).length
    cases h : f n with
    | true => rw [List.filter_cons_of_pos h]; rfl
    | false => rw [List.filter_cons_of_neg (by rw [h]; decide)]; rfl
/-- the answer for a move's number -/
def nth (l : List Nat) (z : Int32) : Int32 := match l with
  | [] => -1
  | k :: l => if z = 0 then nW k else nth l (z - 1)
section GAMES
variable {G : Mem} {a l K c r m : Nat} {N : Nat → Nat → Int32} {P0 : Nat → Nat} {t g kk : Nat}
theorem countGames_ok (hA : AOK c r N P0 m) (h : ARep G a l K c r N P0 m) (hT : TSh G t g kk) (hC : CRep (mJ G) kk c (c * r) N P0 m) (hd : t ≠ a ∧ t ≠ a + 9 ∧ t ≠ l) (hg : g ≠ a + 6) {i : Nat} (hi : i < m) :
    ∃ y', fX4_countGames t a (nW i) G = some ((), wIJ G (u2 (mI G) t 1 (nW (c * r * 64))) y') ∧ (∀ b, b ≠ g → y' b = mJ G b) ∧ ∀ k, k < c * r * 64 → y' g k = Int64.ofNat (gmv c (c * r) N P0 m i k) := by
  obtain ⟨hs, W, hm, hok, hwn⟩ := id hA
  have hn := szs36 hs
  obtain ⟨⟨t1, t2, t3⟩, ⟨t4, t5⟩, ⟨t6, t7⟩, t8⟩ := hT
  have g0 : gR G 14 t 0 = some g := gR_ok t1 t2
  have g2 : gR G 14 t 2 = some kk := gR_ok t1 t3
  have b40 := (lyN_run W (hok.mono (Nat.le_of_lt hi))).1.1
  have b41 := (lyN_run W (hok.mono (show i + 1 ≤ m from hi))).1.1
  obtain ⟨w1, w2, w3⟩ := eg_ok W hn hok hi
  have hol := ofs_le W hn (hok.mono (show i + 1 ≤ m from hi))
  have hofs : ofs c (c * r) N P0 (i + 1) = ofs c (c * r) N P0 i + em c (c * r) N P0 i := rfl
  have hta : t ≠ a + 1 := fun e => by
    have := h.1.1.b.1
    rw [← e, t1] at this; cases this
  generalize hx1 : u2 (mI G) t 1 (nW (c * r * 64)) = x1
  have xo : ∀ b, b ≠ t → x1 b = mI G b := fun b hb => by rw [← hx1, u2_arow hb]
  let ye : Nat → Nat → Nat → Int64 := fun e => ur (mJ G) g (fun k => if k < c * r * 64 then Int64.ofNat (sumN e fun e' => if (eg c (c * r) N P0 i e').2.2.1 * 64 + (eg c (c * r) N P0 i e').2.2.2 = k then ovr c (c * r) N P0 m i e' else 0) else mJ G g k)
  have yin : ∀ e k, k < c * r * 64 → ye e g k = Int64.ofNat (sumN e fun e' => if (eg c (c * r) N P0 i e').2.2.1 * 64 + (eg c (c * r) N P0 i e').2.2.2 = k then ovr c (c * r) N P0 m i e' else 0) := fun e k hk => by
    show ur _ g _ g k = _
    rw [ur_same, if_pos hk]
  have yo : ∀ e b, b ≠ g → ye e b = mJ G b := fun e b hb => ur_arow hb
  have yst : ∀ e, e < em c (c * r) N P0 i → u2 (ye e) g ((eg c (c * r) N P0 i e).2.2.1 * 64 + (eg c (c * r) N P0 i e).2.2.2) (ye e g ((eg c (c * r) N P0 i e).2.2.1 * 64 + (eg c (c * r) N P0 i e).2.2.2) + Int64.ofNat (lyg (lyN c (c * r) N P0 i).1 (eg c (c * r) N P0 i e).1) * Int64.ofNat (ctD c (c * r) N P0 m (m - (i + 1)) (eg c (c * r) N P0 i e).2.1)) = ye (e + 1) := fun e he => by
    obtain ⟨z1, z2, z3, z4⟩ := w1 e he
    have hmv : (eg c (c * r) N P0 i e).2.2.1 * 64 + (eg c (c * r) N P0 i e).2.2.2 < c * r * 64 := by omega
    funext b k
    by_cases hb : b = g
    · subst hb
      by_cases hk : k = (eg c (c * r) N P0 i e).2.2.1 * 64 + (eg c (c * r) N P0 i e).2.2.2
      · rw [hk, u2_same, yin e _ hmv, yin (e + 1) _ hmv, ← Int64.ofNat_mul, ← Int64.ofNat_add]
        congr 1
        show _ = sumN e _ + (if (eg c (c * r) N P0 i e).2.2.1 * 64 + (eg c (c * r) N P0 i e).2.2.2 = (eg c (c * r) N P0 i e).2.2.1 * 64 + (eg c (c * r) N P0 i e).2.2.2 then _ else 0)
        rw [if_pos rfl]; rfl
      · rw [u2_other (fun z => hk z.2)]
        by_cases hr : k < c * r * 64
        · rw [yin e k hr, yin (e + 1) k hr]
          congr 1
          show _ = sumN e _ + (if (eg c (c * r) N P0 i e).2.2.1 * 64 + (eg c (c * r) N P0 i e).2.2.2 = k then _ else 0)
          rw [if_neg (fun z => hk z.symm)]; rfl
        · show ur _ b _ b k = ur _ b _ b k
          rw [ur_same, ur_same, if_neg hr, if_neg hr]
    · rw [u2_apart hb, yo e b hb, yo (e + 1) b hb]
  have y0 : ur (mJ G) g (flR (mJ G g) 0 (c * r * 64) 0) = ye 0 := by
    funext b k
    by_cases hb : b = g
    · subst hb
      rw [ur_same]
      show (if _ then _ else _) = ur _ b _ b k
      rw [ur_same]
      by_cases hr : k < c * r * 64
      · rw [if_pos ⟨Nat.zero_le _, hr⟩, if_pos hr]; rfl
      · rw [if_neg (fun z => hr z.2), if_neg hr]
    · rw [ur_apart hb, yo 0 b hb]
  have hI9 : x1 (a + 9) = mI G (a + 9) := xo _ (fun e => hd.2.1 e.symm)
  have hIl : x1 l = mI G l := xo _ (fun e => hd.2.2 e.symm)
  have x11 : x1 t 1 = nW (c * r * 64) := by rw [← hx1, u2_same]
  have inner := loop_to (f := fun (s : Int32) G => fX4_countGames_34 t a (nW i) s G) (fun e => nW (ofs c (c * r) N P0 i + e)) (fun e => wIJ G x1 (ye e)) (em c (c * r) N P0 i) () (wIJ G x1 (ye (em c (c * r) N P0 i))) (fun e he => by
    obtain ⟨z1, z2, z3, z4⟩ := w1 e he
    have hmv : (eg c (c * r) N P0 i e).2.2.1 * 64 + (eg c (c * r) N P0 i e).2.2.2 < c * r * 64 := by omega
    have r6 : ye e (a + 6) (i * 40 + (eg c (c * r) N P0 i e).1) = Int64.ofNat (lyg (lyN c (c * r) N P0 i).1 (eg c (c * r) N P0 i e).1) := by
      rw [yo e _ (fun z => hg z.symm)]
      exact ((h.2.2.2.2.2.1.1 i (by omega)).1.2 _ z1).1
    have rk : ye e kk (i * 40 + 40 + (eg c (c * r) N P0 i e).2.1) = Int64.ofNat (ctD c (c * r) N P0 m (m - (i + 1)) (eg c (c * r) N P0 i e).2.1) := by
      rw [yo e _ (fun z => t8 z.symm)]
      have := hC (i + 1) (by omega) (eg c (c * r) N P0 i e).2.1 (by omega)
      rw [show (i + 1) * 40 = i * 40 + 40 by omega] at this
      exact this
    show fX4_countGames_34 _ _ _ _ _ = _
    unfold fX4_countGames_34 fX4_countGames_103
    simp only [lits, nW_add]
    rw [gR_wij, h.1.1.g7, Option.bind_some, gA_self (h.ends hA (i := i + 1) (by omega)) hI9, Option.bind_some, if_neg (by rw [nW_le (by omega) (by omega)]; omega), gR_wij, h.1.1.g8, Option.bind_some, gA_self (h.link hA hi he) hIl, Option.bind_some, lnk_move (by omega) (by omega), Option.bind_some, gF_wij t1, x11, Option.bind_some, if_neg (by rw [nW_le (by omega) (by omega)]; omega), gR_wij, g0, Option.bind_some, gJ_wij t4 (by rw [t5]; omega) (by rw [t5]; decide), Option.bind_some, lnk_from (by omega) (by omega) (by omega) (by omega), Option.bind_some, ck_wij, ck_ok h.1.1.t, gamesAt_ok h.1.1 (by omega) (by omega), r6, Option.bind_some, lnk_to (by omega) (by omega) (by omega) (by omega), Option.bind_some, ck_wij, ck_ok t1, contAt_ok g2 t6 t7 (by omega) (by omega), show (i + 1) * 40 = i * 40 + 40 by omega, rk, Option.bind_some, pJ_wij t4 (by rw [t5]; omega) (by rw [t5]; decide), Option.bind_some, yst e he]
    rfl) (by
    show fX4_countGames_34 _ _ _ _ _ = _
    unfold fX4_countGames_34 fX4_countGames_109
    simp only [lits, nW_add]
    rw [gR_wij, h.1.1.g7, Option.bind_some, gA_self (h.ends hA (i := i + 1) (by omega)) hI9, Option.bind_some, if_pos (by rw [nW_le (by omega) (by omega)]; omega)]
    rfl) (em c (c * r) N P0 i) 0 FU (by omega) (by show _ < 100000; omega)
  refine ⟨ye (em c (c * r) N P0 i), ?_, yo _, fun k hk => yin _ k hk⟩
  have d0 : gF G 10 (a + 1) 0 = some (nW c) := by
    have := gF_wij (x := mI G) (y := mJ G) h.1.1.b.1 (k := 0)
    rw [wij_self, h.2.1.1] at this; exact this
  have d1 : gF G 10 (a + 1) 1 = some (nW r) := by
    have := gF_wij (x := mI G) (y := mJ G) h.1.1.b.1 (k := 1)
    rw [wij_self, h.2.1.2] at this; exact this
  have p1 : ∀ v, pI G 14 t 1 v = some (wIJ G (u2 (mI G) t 1 v) (mJ G)) := fun v => by
    have := pI_wij (x := mI G) (y := mJ G) t1 (k := 1) (v := v)
    rw [wij_self] at this; exact this
  unfold fX4_countGames fX4_countGames_0 fX0_squareCount fX0_squareCount_0
  simp only [lits]
  rw [h.1.1.g0, Option.bind_some, ck_ok h.1.1.b.1, d0, Option.bind_some, d1, Option.bind_some, Option.bind_some]
  have sh : (nW c * nW r) <<< (nW 6 &&& nW 31) = nW (c * r * 64) := by
    rw [nW_mul, nW_shl _ (by decide)]
  have fl : fJ7_fill_bad5a g (nW 0) (nW (c * r * 64)) 0 (wIJ G x1 (mJ G)) = some ((), wIJ G x1 (ye 0)) := by
    have := fillR_ok (G := G) (x := x1) (y := mJ G) (v := 0) (p := 0) (q := c * r * 64) t4 (by rw [t5]; omega) (by rw [t5]; decide) (Nat.zero_le _)
    rw [y0] at this; exact this
  rw [sh, p1, Option.bind_some, hx1, gR_wij, g0, Option.bind_some, gF_wij t1, x11, Option.bind_some, fl, Option.bind_some, gR_wij, h.1.1.g7, Option.bind_some, gA_self (h.ends hA (i := i) (by omega)) hI9, Option.bind_some]
  exact inner
variable {x : Nat → Nat → Int32} {y : Nat → Nat → Int64} {M : Nat} {f : Nat → Nat}
/-- how many moves have games -/
theorem moveCount_ok (hT : TSh G t g kk) (hx : x t 1 = nW M) (hM : M ≤ 2304) (hy : ∀ k, k < M → y g k = Int64.ofNat (f k)) (hf : ∀ k, k < M → f k < 9223372036854775808) : fX4_moveCount t (wIJ G x y) = some (nW (cnt M fun k => !decide (f k = 0)), wIJ G x y) := by
  obtain ⟨⟨t1, t2, t3⟩, ⟨t4, t5⟩, ⟨t6, t7⟩, t8⟩ := hT
  have g0 : gR G 14 t 0 = some g := gR_ok t1 t2
  unfold fX4_moveCount fX4_moveCount_0
  simp only [lits]
  exact loop_to (f := fun (s : Int32 × Int32) G => fX4_moveCount_4 t s.1 s.2 G) (fun k => (nW (cnt k fun k => !decide (f k = 0)), nW k)) (fun _ => wIJ G x y) M _ _ (fun k hk => by
    show fX4_moveCount_4 _ _ _ _ = _
    unfold fX4_moveCount_4 fX4_moveCount_26
    simp only [lgc_t]
    rw [gF_wij t1, hx, Option.bind_some, if_neg (by rw [nW_le (by omega) (by omega)]; omega), gR_wij, g0, Option.bind_some, gJ_wij t4 (by rw [t5]; omega) (by rw [t5]; decide), Option.bind_some, hy k hk]
    simp only [lits, nW_add]
    by_cases h0 : f k = 0
    · rw [if_pos ((Z_ofNat_0 (hf k hk)).mpr h0)]
      show _ = some (Sum.inl (nW (cnt k _ + if (!decide (f k = 0)) = true then 1 else 0), _), _)
      rw [if_neg (by rw [decide_eq_true h0]; decide)]; rfl
    · rw [if_neg (fun z => h0 ((Z_ofNat_0 (hf k hk)).mp z))]
      show _ = some (Sum.inl (nW (cnt k _ + if (!decide (f k = 0)) = true then 1 else 0), _), _)
      rw [if_pos (by rw [decide_eq_false h0]; rfl)]) (by
    show fX4_moveCount_4 _ _ _ _ = _
    unfold fX4_moveCount_4 fX4_moveCount_32
    rw [gF_wij t1, hx, Option.bind_some, if_pos (by rw [nW_le (by omega) (by omega)]; omega)]
    rfl) M 0 FU (by omega) (by show _ < 100000; omega)
theorem total_ok (hT : TSh G t g kk) (hx : x t 1 = nW M) (hM : M ≤ 2304) (hy : ∀ k, k < M → y g k = Int64.ofNat (f k)) : fX4_total t (wIJ G x y) = some (Int64.ofNat (sumN M f), wIJ G x y) := by
  obtain ⟨⟨t1, t2, t3⟩, ⟨t4, t5⟩, ⟨t6, t7⟩, t8⟩ := hT
  have g0 : gR G 14 t 0 = some g := gR_ok t1 t2
  unfold fX4_total fX4_total_0
  simp only [lits]
  exact loop_to (f := fun (s : Int64 × Int32) G => fX4_total_4 t s.1 s.2 G) (fun k => (Int64.ofNat (sumN k f), nW k)) (fun _ => wIJ G x y) M _ _ (fun k hk => by
    show fX4_total_4 _ _ _ _ = _
    unfold fX4_total_4
    rw [gF_wij t1, hx, Option.bind_some, if_neg (by rw [nW_le (by omega) (by omega)]; omega), gR_wij, g0, Option.bind_some, gJ_wij t4 (by rw [t5]; omega) (by rw [t5]; decide), Option.bind_some, hy k hk]
    simp only [lits, nW_add]
    rw [← Int64.ofNat_add]
    rfl) (by
    show fX4_total_4 _ _ _ _ = _
    unfold fX4_total_4 fX4_total_27
    rw [gF_wij t1, hx, Option.bind_some, if_pos (by rw [nW_le (by omega) (by omega)]; omega)]
    rfl) M 0 FU (by omega) (by show _ < 100000; omega)
/-- the move with a number -/
theorem moveAt_ok (hT : TSh G t g kk) (hx : x t 1 = nW M) (hM : M ≤ 2304) (hy : ∀ k, k < M → y g k = Int64.ofNat (f k)) (hf : ∀ k, k < M → f k < 9223372036854775808) (z : Int32) : fX4_moveAt t z (wIJ G x y) = some (nth ((List.range M).filter fun k => !decide (f k = 0)) z, wIJ G x y) := by
  obtain ⟨⟨t1, t2, t3⟩, ⟨t4, t5⟩, ⟨t6, t7⟩, t8⟩ := hT
  have g0 : gR G 14 t 0 = some g := gR_ok t1 t2
  unfold fX4_moveAt fX4_moveAt_0
  simp only [lits]
  have st : ∀ k q, k < M → fX4_moveAt_4 t z (nW q) (nW k) (wIJ G x y) = if f k = 0 then some (Sum.inl (nW q, nW (k + 1)), wIJ G x y) else if nW q = z then some (Sum.inr (nW k), wIJ G x y) else some (Sum.inl (nW (q + 1), nW (k + 1)), wIJ G x y) := by
    intro k q hkM
    unfold fX4_moveAt_4 fX4_moveAt_33 fX4_moveAt_28
    simp only [lgc_t]
    rw [gF_wij t1, hx, Option.bind_some, if_neg (by rw [nW_le (by omega) (by omega)]; omega), gR_wij, g0, Option.bind_some, gJ_wij t4 (by rw [t5]; omega) (by rw [t5]; decide), Option.bind_some, hy k hkM]
    simp only [lits, nW_add]
    by_cases h0 : f k = 0
    · rw [if_pos ((Z_ofNat_0 (hf k hkM)).mpr h0), if_pos h0]
    · rw [if_neg (fun w => h0 ((Z_ofNat_0 (hf k hkM)).mp w)), if_neg h0]
      rfl
  have main : ∀ d k q fu, k + d = M → d < fu → loopM (fun (s : Int32 × Int32) G => fX4_moveAt_4 t z s.1 s.2 G) fu (nW q, nW k) (wIJ G x y) = some (nth ((List.range' k d).filter fun k => !decide (f k = 0)) (z - nW q), wIJ G x y) := by
    intro d
    induction d with
    | zero =>
      intro k q fu hk hfu
      obtain ⟨fu, rfl⟩ : ∃ j, fu = j + 1 := ⟨fu - 1, by omega⟩
      unfold loopM
      show (fX4_moveAt_4 t z (nW q) (nW k) (wIJ G x y)).bind _ = _
      unfold fX4_moveAt_4 fX4_moveAt_39
      rw [gF_wij t1, hx, Option.bind_some, if_pos (by rw [nW_le (by omega) (by omega)]; omega)]
      rfl
    | succ d ih =>
      intro k q fu hk hfu
      obtain ⟨fu, rfl⟩ : ∃ j, fu = j + 1 := ⟨fu - 1, by omega⟩
      have hkM : k < M := by omega
      rw [List.range'_succ]
      unfold loopM
      show (fX4_moveAt_4 t z (nW q) (nW k) (wIJ G x y)).bind _ = _
      rw [st k q hkM]
      by_cases h0 : f k = 0
      · rw [if_pos h0, List.filter_cons_of_neg (by rw [decide_eq_true h0]; decide)]
        exact ih (k + 1) q fu (by omega) (by omega)
      · rw [if_neg h0, List.filter_cons_of_pos (by rw [decide_eq_false h0]; rfl)]
        show _ = some (if z - nW q = 0 then nW k else nth _ (z - nW q - 1), _)
        by_cases hq : nW q = z
        · rw [if_pos hq, if_pos (by rw [hq]; exact Int32.sub_self z)]; rfl
        · rw [if_neg hq, if_neg (fun w => hq (by
            have := Int32.sub_add_cancel z (nW q)
            rw [w, Int32.zero_add] at this
            exact this))]
          have := ih (k + 1) (q + 1) fu (by omega) (by omega)
          have e1 : z - nW (q + 1) = z - nW q - 1 := by
            rw [← nW_add]
            show z - (nW q + nW 1) = z - nW q - nW 1
            simp only [Int32.sub_eq_add_neg, Int32.neg_add, Int32.add_assoc]
          rw [e1] at this
          exact this
  have := main M 0 0 FU (by omega) (by show _ < 100000; omega)
  rw [show z - nW 0 = z from Int32.sub_zero z, ← List.range_eq_range'] at this
  exact this
end GAMES
