/-! ===== class and reference, one after the other ===== -/
theorem CI.aok {G : Mem} {d : Nat} {W : WSt} (h : CI G d W) : AAOK W.1 := by
  obtain ⟨ro, l, K, h1, h2, h3⟩ := h
  exact h3.1.2
theorem CI.his {G : Mem} {d : Nat} {W : WSt} (h : CI G d W) : ∀ t, t < W.2.1.length → AAOK (W.2.1.getD t as0) := fun t ht => by
  obtain ⟨ro, l, K, h1, h2, h3⟩ := h
  obtain ⟨-, ⟨-, nw, -, -, a⟩, -⟩ := h3
  have := (a (W.2.1.length - 1 - t) (by omega)).2
  rw [show W.2.1.length - 1 - (W.2.1.length - 1 - t) = t by omega] at this
  exact this
theorem CI.slo {G : Mem} {d : Nat} {W : WSt} (h : CI G d W) : ∀ j, j < 2 → ∀ A, W.2.2.1 j = some A → AAOK A := fun j hj A hA => by
  obtain ⟨ro, l, K, h1, h2, h3⟩ := h
  exact ((h3.2.2.1 j hj).2 A hA).2
theorem CI.out {G : Mem} {d : Nat} {W : WSt} (h : CI G d W) : W.2.2.2.2.2.2 ≤ 41 := by
  obtain ⟨ro, l, K, h1, h2, h3⟩ := h
  exact h3.2.2.2.2.2.1.2.1
theorem CI.ct {G : Mem} {d : Nat} {W : WSt} (h : CI G d W) : mt G 0 = 16 := by
  obtain ⟨ro, l, K, h1, h2, h3⟩ := h
  exact h1.t
theorem CI.ot {G : Mem} {d : Nat} {W : WSt} (h : CI G d W) : mt G 281 = 5 ∧ mn G 281 = 1 := by
  obtain ⟨ro, l, K, h1, h2, h3⟩ := h
  exact h1.2.2.2.2.1.2.2
theorem CI.bump {G : Mem} {d e w : Nat} {W : WSt} (h : CI G (d + 1) W) (he : e ≤ 1) (hw : w ≤ 6) : CI (caps (bump G e w) 601024 7293034) d W := by
  obtain ⟨ro, l, K, h1, ⟨r1, r2, r3, r4⟩, h3⟩ := h
  refine ⟨ro, l, K, ?_, ⟨?_, ?_, rfl, rfl⟩, h3⟩
  · obtain ⟨a1, a2, a3, a4, a5, a6, a7, a8, a9, a10⟩ := h1
    exact ⟨a1, a2, a3, a4, a5, a6, a7, a8, fun b hb => a9 b (Nat.le_trans (Nat.le_add_right (mz G) e) hb), Nat.le_trans a10 (Nat.le_add_right _ _)⟩
  · show mz G + e + _ + d ≤ 601024
    rw [r3] at r1; omega
  · show ml G + w + _ + 6 * d ≤ 7293034
    rw [r4] at r2; omega
/-- what holds before the law's step j -/
def Inv (j : Nat) (G : Mem) : Prop := MSh G 265 ∧ ∃ W, CI G (512 - j) W ∧ RQ (mI G) (mJ G) W
theorem wpL_mono {z : Option ((Int32 ⊕ Nat) × Mem)} {hs : Nat → Int32} {c1 c2 : Nat} {K K' : Int32 → Mem → Prop} (h : wpL z hs c1 c2 K) (hK : ∀ v G, K v G → K' v G) : wpL z hs c1 c2 K' := by
  obtain ⟨q, e, h⟩ := h
  refine ⟨q, e, ?_⟩
  cases hq : q.1 with
  | inl a => rw [hq] at h; exact hK _ _ h
  | inr k => rw [hq] at h; exact fun d w hd hw => hK _ _ (h d w hd hw)
theorem RQ.after {G G' : Mem} {W : WSt} (hR : RQ (mI G) (mJ G) W) (hk : RKp G G') : RQ (mI G') (mJ G') W := hR.keep fun b q1 q2 => ⟨(hk b q1 (by omega)).1, (hk b q1 (by omega)).2.1⟩
theorem MSh.wij' {G : Mem} {x : Nat → Nat → Int32} {y : Nat → Nat → Int64} (h : MSh G 265) : MSh (wIJ G x y) 265 := h
/-- both run: no exception is foreseen -/
theorem both_ok {ρ : Type} {G : Mem} {d : Nat} {W : WSt} (hM : MSh G 265) (hR : RQ (mI G) (mJ G) W) {c : Option (ρ × Mem)} {o : ρ × WSt} (hc : COu G d c o) {f : Mem → Option (ρ × Mem)} (hf : ∀ G', MSh G' 265 → RQ (mI G') (mJ G') W → MOu G' (mI G') (mJ G') (f (wIJ G' (mI G') (mJ G'))) o) : ∃ q1, c = some q1 ∧ (mt q1.2 265 = 17 ∧ ∃ q2, f q1.2 = some q2 ∧ (q1.1 = q2.1 ∧ (MSh q2.2 265 ∧ ∃ W', CI q2.2 d W' ∧ RQ (mI q2.2) (mJ q2.2) W') ∧ q1.1 = o.1)) := by
  obtain ⟨G', e1, e2, e3⟩ := hc
  have M' := hM.keep e3
  obtain ⟨x', y', f1, f2, f3⟩ := hf G' M' (hR.after e3)
  rw [wij_self] at f1
  exact ⟨_, e1, M'.t, _, f1, rfl, ⟨M', o.2, e2.ref fun b hb => f2 b (by omega), f3⟩, rfl⟩
theorem bothE_ok {ρ : Type} {G : Mem} {d : Nat} {W : WSt} (hM : MSh G 265) (hR : RQ (mI G) (mJ G) W) {c : Option ((ρ ⊕ Nat) × Mem)} {o : (ρ ⊕ Nat) × WSt} (hC : COut G (d + 1) c o) {f : Mem → Option (ρ × Mem)} {hs : Nat → Int32} (hf : ∀ G', MSh G' 265 → RQ (mI G') (mJ G') W → MOut G' (mI G') (mJ G') (f (wIJ G' (mI G') (mJ G'))) o hs) {ks : List Nat} (hk : ∀ k, o.1 = .inr k → k ∈ ks) (hh : ∀ k, k ∈ ks → hs k ≠ 0) (hG : mt G 0 = 16) {cv : ρ → Int64} {P : Mem → Prop} (hP : ∀ G', MSh G' 265 → (∃ W', CI G' d W' ∧ RQ (mI G') (mJ G') W') → P G') :
    wpL (ck G 16 0 (c.bind fun q1 => thrC ks q1.1 (fun v => (pJ q1.2 281 (0 : Int32) (cv v)).bind fun G2 => some (.inl (0 : Int32), G2)) q1.2)) hs 601024 7293034 (fun v2 G3 => mt G3 265 = 17 ∧ ∃ q6, f G3 = some q6 ∧ (mt q6.2 265 = 17 ∧ ∃ q7, fX7_thrown 265 q6.2 = some q7 ∧ ((q7.1 = v2 → ((v2 = (0 : Int32) → (∃ v10, gJ q7.2 281 (0 : Int32) = some v10 ∧ ((lg_cmp v10 (cv q6.1) = (0 : Int32) → P q7.2) ∧ (¬ lg_cmp v10 (cv q6.1) = (0 : Int32) → False)))) ∧ (¬ v2 = (0 : Int32) → P q7.2))) ∧ (¬ q7.1 = v2 → False)))) := by
  obtain ⟨G', e1, e2, e3⟩ := hC
  have M' := hM.keep e3
  have R' := hR.after e3
  have ot := e2.ot
  have th : ∀ (G : Mem), MSh G 265 → ∀ (x : Nat → Nat → Int32) (y : Nat → Nat → Int64), fX7_thrown 265 (wIJ G x y) = some (x 265 6, wIJ G x y) := fun G hG x y => by
    unfold fX7_thrown fX7_thrown_0
    rw [gF_wij hG.t, Option.bind_some]
  rw [ck_ok hG, e1, Option.bind_some]
  cases hz : o.1 with
  | inl v =>
    have pj : pJ G' 281 (0 : Int32) (cv v) = some (wIJ G' (mI G') (u2 (mJ G') 281 0 (cv v))) := by
      unfold pJ
      rw [if_pos ⟨ot.1, (inb_nW (a := 0) (by decide)).mpr (by rw [ot.2]; decide)⟩]; rfl
    refine ⟨(.inl 0, wIJ G' (mI G') (u2 (mJ G') 281 0 (cv v))), ?_, ?_⟩
    · show (pJ G' 281 (0 : Int32) (cv v)).bind _ = _
      rw [pj, Option.bind_some]
    · have R2 : RQ (mI G') (u2 (mJ G') 281 0 (cv v)) W := R'.keep fun b q1 q2 => ⟨rfl, u2_arow (by omega)⟩
      obtain ⟨v7, x', y', f1, f2, f3, f4, f5⟩ := hf (wIJ G' (mI G') (u2 (mJ G') 281 0 (cv v))) M'.wij' R2
      rw [hz] at f4
      have ev := f5 v hz
      subst ev
      have y281 : y' 281 0 = cv v7 := by rw [(f2 281 (by decide)).2]; show u2 (mJ G') 281 0 (cv v7) 281 0 = _; exact u2_same
      have gj : gJ (wIJ G' x' y') 281 (0 : Int32) = some (cv v7) := by
        have := gJ_wij (G := G') (x := x') (y := y') ot.1 (i := 0) (by rw [ot.2]; decide) (by rw [ot.2]; decide)
        rw [y281] at this; exact this
      have fin : P (wIJ G' x' y') := hP _ M'.wij' ⟨o.2, ((e2.le (Nat.le_succ d))).ref (fun b hb => by
        by_cases q : b = 281
        · omega
        · have := f2 b (by omega)
          exact ⟨this.1, this.2.trans (u2_arow q)⟩), f3⟩
      refine ⟨M'.t, (v7, wIJ G' x' y'), f1, M'.t, (x' 265 6, wIJ G' x' y'), th G' M' x' y', fun _ => ⟨fun _ => ⟨_, gj, fun _ => fin, fun z => z ((lgc_t _ _).mpr rfl)⟩, fun _ => fin⟩, fun z => z f4⟩
  | inr k =>
    have hk2 := hk k hz
    refine ⟨(.inr k, G'), ?_, fun e w he hw => ?_⟩
    · show (if k ∈ ks then some ((Sum.inr k : Int32 ⊕ Nat), G') else none) = _
      rw [if_pos hk2]
    · have e4 := e2.bump he hw
      have M4 : MSh (caps (bump G' e w) 601024 7293034) 265 := M'
      have R4 : RQ (mI (caps (bump G' e w) 601024 7293034)) (mJ (caps (bump G' e w) 601024 7293034)) W := R'
      obtain ⟨v7, x', y', f1, f2, f3, f4, f5⟩ := hf _ M4 R4
      rw [hz] at f4
      rw [wij_self] at f1
      have fin : P (wIJ (caps (bump G' e w) 601024 7293034) x' y') := hP _ M4.wij' ⟨o.2, e4.ref fun b hb => f2 b (by omega), f3⟩
      exact ⟨M'.t, (v7, wIJ (caps (bump G' e w) 601024 7293034) x' y'), f1, M'.t, _, th _ M4 x' y', fun _ => ⟨fun z => absurd z (hh k hk2), fun _ => fin⟩, fun z => z f4⟩
