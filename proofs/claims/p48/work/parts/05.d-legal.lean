/-! ===== the class's board: legal moves, lists of moves ===== -/
def cnt : Nat → (Nat → Bool) → Nat
  | 0, _ => 0
  | n + 1, g => cnt n g + (if g n = true then 1 else 0)
def WFP (n : Nat) (P : Nat → Nat) : Prop := (∀ k, P k < 11) ∧ (∀ k, n ≤ k → P k = 0) ∧ (∃ k, k < n ∧ P k = 1 ∧ ∀ j, P j = 1 → j = k) ∧ (∃ k, k < n ∧ P k = 6 ∧ ∀ j, P j = 6 → j = k) ∧ ∀ col, col < 2 → cnt n (fun k => own (P k) col) ≤ 9
theorem fndF_uniq {P : Nat → Nat} {m k : Nat} (hk : P k = m) (hu : ∀ j, P j = m → j = k) : ∀ (d i : Nat), i ≤ k → k < i + d → fndF P m d i = k := by
  intro d
  induction d with
  | zero => intro i h1 h2; omega
  | succ d ih =>
    intro i h1 h2
    unfold fndF
    by_cases hp : P i = m
    · rw [if_pos hp]; exact hu i hp
    · rw [if_neg hp]
      exact ih (i + 1) (by
        by_cases e : i = k
        · rw [e] at hp; exact absurd hk hp
        · omega) (by omega)
theorem fnd_uniq {n : Nat} {P : Nat → Nat} {m k : Nat} (hn : k < n) (hk : P k = m) (hu : ∀ j, P j = m → j = k) : fnd n P m = k := fndF_uniq hk hu n 0 (Nat.zero_le _) (by omega)
theorem WFP.king {n : Nat} {P : Nat → Nat} (W : WFP n P) {col : Nat} (hcol : col < 2) : ∃ k, k < n ∧ P k = kgc col ∧ ∀ j, P j = kgc col → j = k := by
  rcases (show col = 0 ∨ col = 1 by omega) with rfl | rfl
  · exact W.2.2.1
  · exact W.2.2.2.1
/-- where a king stands behind a move -/
theorem king_mvd {n : Nat} {P : Nat → Nat} (W : WFP n P) {f t col : Nat} (hf : f < n) (ht : t < n) (hne : f ≠ t) (hk : (P t - 1) % 5 ≠ 0 ∨ P t = 0) (hcol : col < 2) (hpf : P f ≠ 0) : ∃ k, k < n ∧ fnd n (mvd P f t) (kgc col) = k ∧ mvd P f t k = kgc col ∧ (P f = kgc col → k = t) ∧ (P f ≠ kgc col → P k = kgc col ∧ k ≠ f ∧ k ≠ t) ∧ ∀ j, mvd P f t j = kgc col → j = k := by
  obtain ⟨k, h1, h2, h3⟩ := W.king hcol
  have hkg : kgc col ≠ 0 := by unfold kgc; omega
  have ht5 : P t ≠ kgc col := by
    intro e
    rcases hk with hk | hk
    · rw [e] at hk; unfold kgc at hk; omega
    · rw [e] at hk; exact hkg hk
  have mv : ∀ j, mvd P f t j = if j = f then 0 else if j = t then P f else P j := fun j => rfl
  by_cases e : P f = kgc col
  · have ef : f = k := h3 f e
    have hu : ∀ j, mvd P f t j = kgc col → j = t := by
      intro j hj
      rw [mv] at hj
      by_cases jf : j = f
      · rw [if_pos jf] at hj; exact absurd hj.symm hkg
      · rw [if_neg jf] at hj
        by_cases jt : j = t
        · exact jt
        · rw [if_neg jt] at hj
          exact absurd ((h3 j hj).trans ef.symm) jf
    have hv : mvd P f t t = kgc col := by rw [mv, if_neg (fun q => hne q.symm), if_pos rfl]; exact e
    exact ⟨t, ht, fnd_uniq ht hv hu, hv, fun _ => rfl, fun q => absurd e q, hu⟩
  · have kf : k ≠ f := fun q => e (by rw [← q]; exact h2)
    have kt : k ≠ t := fun q => ht5 (by rw [← q]; exact h2)
    have hu : ∀ j, mvd P f t j = kgc col → j = k := by
      intro j hj
      rw [mv] at hj
      by_cases jf : j = f
      · rw [if_pos jf] at hj; exact absurd hj.symm hkg
      · rw [if_neg jf] at hj
        by_cases jt : j = t
        · rw [if_pos jt] at hj; exact absurd hj e
        · rw [if_neg jt] at hj; exact h3 j hj
    have hv : mvd P f t k = kgc col := by rw [mv, if_neg kf, if_neg kt]; exact h2
    exact ⟨k, h1, fnd_uniq h1 hv hu, hv, fun q => absurd q e, fun _ => ⟨h2, kf, kt⟩, hu⟩
theorem rch_ne {c : Nat} {P : Nat → Nat} {f t : Nat} (h : rch c P f t = true) : f ≠ t := by
  rintro rfl
  unfold rch adx ady at h
  rw [if_pos (by omega)] at h
  cases h
theorem mvd_lt {P : Nat → Nat} (hP : ∀ k, P k < 11) {f t : Nat} : ∀ k, mvd P f t k < 11 := fun k => by
  show (if k = f then 0 else if k = t then P f else P k) < 11
  split
  · omega
  · split
    · exact hP f
    · exact hP k
theorem bIt : ¬ bI true = nW 0 := by decide
theorem bIf : bI false = nW 0 := rfl
section LEGAL
variable {G : Mem} {b : Nat} {x : Nat → Nat → Int32} {y : Nat → Nat → Int64}
theorem rangeOf_ok (h : BSh G b) {c r : Nat} (hs : szs c r) {P : Nat → Nat} (hP : ∀ k, P k < 11) (hb : BR c r P x b) {f : Nat} (hf : f < c * r) (hp : P f ≠ 0) :
    ∃ g, fX0_rangeOf b (nW (pl c f)) (wIJ G x y) = some (g, wIJ G x y) ∧ ∀ q, q < c * r → (mem64 g (ixq c q) ↔ rch c P f q = true) := by
  have lt5 : (P f - 1) % 5 < 5 := Nat.mod_lt _ (by decide)
  have plf := pl_ok hs hf
  have gJ := geoJ c hs.2.1 hs.1 r hs.2.2.2 hs.2.2.1 f hf
  unfold fX0_rangeOf fX0_rangeOf_0
  rw [ck_wij, ck_ok h.1, on_ok h (by omega), Option.bind_some, hb.at hs hf, kind_of _ (hP f), Option.bind_some]
  simp only [if_neg hp, lits]
  by_cases k4 : (P f - 1) % 5 = 4
  · rw [if_pos (by rw [k4])]
    obtain ⟨r1, G1, e1, rfl, hg⟩ := loop_by (f := fun (s : Int64 × Int32) G => fX0_rangeOf_19 b (nW (pl c f)) s.1 s.2 G)
      (fun k s G1 => G1 = wIJ G x y ∧ ∃ i g1, k = 8 - i ∧ i ≤ 8 ∧ s = (g1, nW i) ∧ ∀ q, q < c * r → (mem64 g1 (ixq c q) ↔ ∃ j, j < i ∧ (pl c q : Int) = pl c f + Jd j))
      (fun (g : Int64) G1 => G1 = wIJ G x y ∧ ∀ q, q < c * r → (mem64 g (ixq c q) ↔ rch c P f q = true))
      (by
        rintro k s G1 ⟨rfl, i, g1, rfl, hi, rfl, hg⟩
        dsimp only
        unfold fX0_rangeOf_19 fX0_rangeOf_63 fX0_rangeOf_57
        simp only [lits]
        by_cases h8 : i = 8
        · rw [if_pos (by rw [nW_le (by omega) (by omega)]; omega)]
          refine Or.inl ⟨_, _, rfl, rfl, fun q hq => ?_⟩
          rw [hg q hq]
          unfold rch
          constructor
          · rintro ⟨j, hj, e⟩
            obtain ⟨a1, a2, a3⟩ := gJ.1 j (by omega)
            have en : ((pl c f : Int) + Jd j).toNat = pl c q := by rw [← e]; omega
            rw [en] at a3
            obtain ⟨b1, b2, b3⟩ := a3 (pl_ok hs hq).2.2.1
            rw [(pl_ok hs hq).2.2.2] at b2
            rw [adx_sym, ady_sym] at b2
            have h0 : ¬ adx c f q + ady c f q = 0 := by
              intro z
              have z1 : adx c f q = 0 := by omega
              rw [z1] at b2; omega
            rw [if_neg h0, if_neg (by omega), if_pos k4, decide_eq_true_iff]
            exact b2
          · intro hr
            by_cases h0 : adx c f q + ady c f q = 0
            · rw [if_pos h0] at hr; cases hr
            rw [if_neg h0, if_neg (by omega), if_pos k4, decide_eq_true_iff] at hr
            rw [adx_sym, ady_sym] at hr
            obtain ⟨j, hj, e⟩ := gJ.2 q hq hr
            exact ⟨j, by omega, e⟩
        · rw [if_neg (by rw [nW_le (by omega) (by omega)]; omega), tb2 i (by omega), Option.bind_some, ck_wij, ck_ok h.1]
          obtain ⟨a1, a2, a3⟩ := jmp_at hs hb.2.2 hf (j := i) (by omega)
          rw [nW_oI (pl c f), oI_add, on_int h a1 a2, Option.bind_some, a3]
          have ec : nW (enc (if onb c r ((pl c f : Int) + Jd i).toNat = true then P (sqp c ((pl c f : Int) + Jd i).toNat) else 12)) = nW 15 ↔ ¬ onb c r ((pl c f : Int) + Jd i).toNat = true := by
            rw [enc_s6 0 (by decide) _ (by split; (have := hP (sqp c ((pl c f : Int) + Jd i).toNat); omega); omega)]
            constructor
            · intro e ho
              rw [if_pos ho] at e
              have := hP (sqp c ((pl c f : Int) + Jd i).toNat)
              omega
            · intro ho; rw [if_neg ho]
          by_cases ho : onb c r ((pl c f : Int) + Jd i).toNat = true
          · rw [if_neg (fun e => (ec.mp e) ho)]
            obtain ⟨b1, b2, b3⟩ := (gJ.1 i (by omega)).2.2 ho
            have en : Int32.ofInt ((pl c f : Int) + Jd i) = nW (pl c (sqp c ((pl c f : Int) + Jd i).toNat)) := by rw [b3, oI_nat a1]
            rw [en, bitOf_ok hs b1, Option.bind_some]
            refine Or.inr ⟨8 - (i + 1), _, _, by omega, rfl, rfl, i + 1, _, rfl, by omega, by rw [nW_add], fun q hq => ?_⟩
            rw [mem64_or (ix_lt hs b1), hg q hq, ix_inj hs b1 hq]
            constructor
            · rintro (⟨j, hj, e⟩ | e)
              · exact ⟨j, by omega, e⟩
              · exact ⟨i, by omega, by rw [← e, b3]; omega⟩
            · rintro ⟨j, hj, e⟩
              by_cases hji : j < i
              · exact Or.inl ⟨j, hji, e⟩
              · have : j = i := by omega
                subst this
                right
                have en2 : ((pl c f : Int) + Jd j).toNat = pl c q := by rw [← e]; omega
                rw [en2]; exact (pl_ok hs hq).2.2.2
          · rw [if_pos (ec.mpr ho)]
            refine Or.inr ⟨8 - (i + 1), _, _, by omega, rfl, rfl, i + 1, _, rfl, by omega, by rw [nW_add], fun q hq => ?_⟩
            rw [hg q hq]
            constructor
            · rintro ⟨j, hj, e⟩
              exact ⟨j, by omega, e⟩
            · rintro ⟨j, hj, e⟩
              by_cases hji : j < i
              · exact ⟨j, hji, e⟩
              · have : j = i := by omega
                subst this
                have en2 : ((pl c f : Int) + Jd j).toNat = pl c q := by rw [← e]; omega
                rw [en2] at ho
                exact absurd (pl_ok hs hq).2.2.1 ho)
      FU 8 (0, nW 0) (wIJ G x y) (by decide) ⟨rfl, 0, 0, rfl, by omega, rfl, fun q hq => ⟨fun z => absurd z (mem64_0 _), fun ⟨j, hj, _⟩ => by omega⟩⟩
    exact ⟨r1, e1, hg⟩
  · rw [if_neg (by rw [nW_eq (by omega) (by omega)]; exact k4)]
    have ways : ∀ a e st : Nat, a ≤ e → e ≤ 8 → st < 6 → ∃ g, fX0_rangeOf_101 b (nW (pl c f)) 0 (nW a) (nW e) (nW st) (wIJ G x y) = some (g, wIJ G x y) ∧ ∀ q, q < c * r → (mem64 g (ixq c q) ↔ ∃ w, a ≤ w ∧ w < e ∧ rayQ c r P f w st q) := by
      intro a e st hae he8 hst
      unfold fX0_rangeOf_101
      obtain ⟨r1, G1, e1, rfl, hg⟩ := loop_by (f := fun (s : Int64 × Int32) G => fX0_rangeOf_107 b (nW (pl c f)) s.1 (nW e) (nW st) s.2 G)
        (fun k s G1 => G1 = wIJ G x y ∧ ∃ w g1, k = 8 - w ∧ a ≤ w ∧ w ≤ e ∧ s = (g1, nW w) ∧ ∀ q, q < c * r → (mem64 g1 (ixq c q) ↔ ∃ w', a ≤ w' ∧ w' < w ∧ rayQ c r P f w' st q))
        (fun (g : Int64) G1 => G1 = wIJ G x y ∧ ∀ q, q < c * r → (mem64 g (ixq c q) ↔ ∃ w, a ≤ w ∧ w < e ∧ rayQ c r P f w st q))
        (by
          rintro k s G1 ⟨rfl, w, g1, rfl, haw, hwe, rfl, hg⟩
          dsimp only
          unfold fX0_rangeOf_107 fX0_rangeOf_181
          simp only [lits]
          by_cases hend : w = e
          · rw [if_pos (by rw [nW_le (by omega) (by omega)]; omega)]
            subst hend
            exact Or.inl ⟨_, _, rfl, rfl, hg⟩
          · rw [if_neg (by rw [nW_le (by omega) (by omega)]; omega)]
            obtain ⟨g2, e2, hg2⟩ := range_way (y := y) h hs hP hb hf (w := w) (e8 := e) (st := st) (by omega) hst (by omega) g1
            refine Or.inr ⟨8 - (w + 1), _, _, by omega, e2, rfl, w + 1, g2, rfl, by omega, by omega, rfl, fun q hq => ?_⟩
            rw [hg2 q hq, hg q hq]
            constructor
            · rintro (⟨w', h1, h2, h3⟩ | h3)
              · exact ⟨w', h1, by omega, h3⟩
              · exact ⟨w, haw, by omega, h3⟩
            · rintro ⟨w', h1, h2, h3⟩
              by_cases hww : w' < w
              · exact Or.inl ⟨w', h1, hww, h3⟩
              · rw [show w' = w by omega] at h3; exact Or.inr h3)
        FU (8 - a) (0, nW a) (wIJ G x y) (by show 8 - a < 100000; omega) ⟨rfl, a, 0, rfl, Nat.le_refl _, hae, rfl, fun q hq => ⟨fun z => absurd z (mem64_0 _), fun ⟨w', h1, h2, _⟩ => by omega⟩⟩
      exact ⟨r1, e1, hg⟩
    have fin : ∀ a e st, a = (if (P f - 1) % 5 = 3 then 4 else 0) → e = (if (P f - 1) % 5 = 2 then 4 else 8) → st = (if (P f - 1) % 5 = 0 then 1 else 5) → ∃ g, fX0_rangeOf_101 b (nW (pl c f)) 0 (nW a) (nW e) (nW st) (wIJ G x y) = some (g, wIJ G x y) ∧ ∀ q, q < c * r → (mem64 g (ixq c q) ↔ rch c P f q = true) := by
      intro a e st ha he hst
      obtain ⟨g, e1, hg⟩ := ways a e st (by rw [ha, he]; split <;> split <;> omega) (by rw [he]; split <;> omega) (by rw [hst]; split <;> omega)
      refine ⟨g, e1, fun q hq => ?_⟩
      rw [hg q hq, rch_ways hs hf hq k4, ha, he, hst]
    have e75 : ∀ a : Nat, fX0_rangeOf_75 b (nW (pl c f)) (nW ((P f - 1) % 5)) 0 (nW a) (wIJ G x y) = fX0_rangeOf_101 b (nW (pl c f)) 0 (nW a) (nW (if (P f - 1) % 5 = 2 then 4 else 8)) (nW (if (P f - 1) % 5 = 0 then 1 else 5)) (wIJ G x y) := by
      intro a
      unfold fX0_rangeOf_75 fX0_rangeOf_90
      simp only [lits]
      by_cases k2 : (P f - 1) % 5 = 2
      · rw [if_pos (by rw [k2]), if_pos k2, if_neg (by rw [nW_eq (by omega) (by omega)]; omega), if_neg (by omega)]
      · rw [if_neg (by rw [nW_eq (by omega) (by omega)]; exact k2), if_neg k2]
        by_cases k0 : (P f - 1) % 5 = 0
        · rw [if_pos (by rw [k0]), if_pos k0]
        · rw [if_neg (by rw [nW_eq (by omega) (by omega)]; exact k0), if_neg k0]
    by_cases k3 : (P f - 1) % 5 = 3
    · rw [if_pos (by rw [k3]), e75]
      exact fin 4 _ _ (by rw [if_pos k3]) rfl rfl
    · rw [if_neg (by rw [nW_eq (by omega) (by omega)]; exact k3), e75]
      exact fin 0 _ _ (by rw [if_neg k3]) rfl rfl
/-- the board while a move is tried -/
theorem BR_mvd {c r : Nat} (hs : szs c r) {P : Nat → Nat} (hb : BR c r P x b) {f t : Nat} (hf : f < c * r) (ht : t < c * r) : BR c r (mvd P f t) (u2 (u2 x (b + 2) (pl c t) (nW (enc (P f)))) (b + 2) (pl c f) (nW 0)) b := by
  refine ⟨?_, ?_, fun p hp => ?_⟩
  · rw [u2_apart (by omega), u2_apart (by omega)]; exact hb.1
  · rw [u2_apart (by omega), u2_apart (by omega)]; exact hb.2.1
  · have plf := pl_ok hs hf
    have plt := pl_ok hs ht
    show (if b + 2 = b + 2 ∧ p = pl c f then nW 0 else if b + 2 = b + 2 ∧ p = pl c t then nW (enc (P f)) else x (b + 2) p) = _
    unfold bct
    by_cases e1 : p = pl c f
    · rw [if_pos ⟨rfl, e1⟩, e1, if_pos plf.2.2.1, plf.2.2.2]
      show nW 0 = nW (enc (if f = f then 0 else _))
      rw [if_pos rfl]; rfl
    · rw [if_neg (fun q => e1 q.2)]
      by_cases e2 : p = pl c t
      · rw [if_pos ⟨rfl, e2⟩, e2, if_pos plt.2.2.1, plt.2.2.2]
        have hne : ¬ t = f := fun q => e1 (by rw [e2, q])
        show _ = nW (enc (if t = f then 0 else if t = t then P f else P t))
        rw [if_neg hne, if_pos rfl]
      · rw [if_neg (fun q => e2 q.2), hb.2.2 p hp]
        unfold bct
        by_cases ho : onb c r p = true
        · rw [if_pos ho, if_pos ho]
          have g := pl_sqp hs hp ho
          have n1 : ¬ sqp c p = f := fun q => e1 (by rw [← q]; exact g.2.symm)
          have n2 : ¬ sqp c p = t := fun q => e2 (by rw [← q]; exact g.2.symm)
          show _ = nW (enc (if sqp c p = f then 0 else if sqp c p = t then P f else P (sqp c p)))
          rw [if_neg n1, if_neg n2]
        · rw [if_neg ho, if_neg ho]
theorem kingPlace_ok (h : BSh G b) {col : Nat} (hcol : col < 2) : fX0_kingPlace b (nW col) (wIJ G x y) = some (x b (5 + col), wIJ G x y) := by
  unfold fX0_kingPlace fX0_kingPlace_0 fX0_kingPlace_15
  simp only [lits]
  rcases (show col = 0 ∨ col = 1 by omega) with rfl | rfl
  · rw [if_pos rfl, gF_wij h.1]; rfl
  · rw [if_neg (by decide), gF_wij h.1]; rfl
/-- what the class calls legal: the own king stands safe, and a check is given where one is wanted -/
def lgB (c n : Nat) (P : Nat → Nat) (col f t : Nat) (mc : Int32) : Bool := !att c n (mvd P f t) (fnd n (mvd P f t) (kgc col)) (1 - col) && (decide (mc = 0) || att c n (mvd P f t) (fnd n (mvd P f t) (kgc (1 - col))) col)
theorem isLegal_ok (h : BSh G b) {c r : Nat} (hs : szs c r) {P : Nat → Nat} (W : WFP (c * r) P) (hb : BR c r P x b) (hk : BK c (c * r) P x b) {f t col : Nat} (hf : f < c * r) (ht : t < c * r) (hne : f ≠ t) (hcol : col < 2) (hown : own (P f) col = true) (htk : (P t - 1) % 5 ≠ 0 ∨ P t = 0) (mc : Int32) :
    fX0_isLegal b (nW (pl c f)) (nW (pl c t)) mc (wIJ G x y) = some (bI (lgB c (c * r) P col f t mc), wIJ G x y) := by
  have plf := pl_ok hs hf
  have plt := pl_ok hs ht
  rw [own_iff] at hown
  have hpf : P f ≠ 0 := by omega
  obtain ⟨k1, a1, a2, a3, a4, a5, a6⟩ := king_mvd W hf ht hne htk hcol hpf
  obtain ⟨k2, b1, b2, b3, b4, b5, b6⟩ := king_mvd W hf ht hne htk (show 1 - col < 2 by omega) hpf
  have hm := BR_mvd hs hb hf ht
  have col1 : nW 1 - nW col = nW (1 - col) := nW_sub (by omega)
  have kf2 : P f ≠ kgc (1 - col) := by
    intro e
    rw [e] at hown
    unfold kgc at hown
    omega
  have kp : ∀ (k cl : Nat), cl < 2 → P k = kgc cl → k < c * r → x b (5 + cl) = nW (pl c k) := by
    intro k cl hcl hpk hkn
    rcases (show cl = 0 ∨ cl = 1 by omega) with rfl | rfl
    · exact (hk k hkn).1 hpk
    · exact (hk k hkn).2 hpk
  have reach1 := isReached_ok (y := y) h hs (mvd_lt W.1) hm a1 (show 1 - col < 2 by omega)
  have reach2 := isReached_ok (y := y) h hs (mvd_lt W.1) hm b1 hcol
  have back : wIJ G (u2 (u2 (u2 (u2 x (b + 2) (pl c t) (nW (enc (P f)))) (b + 2) (pl c f) (nW 0)) (b + 2) (pl c f) (nW (enc (P f)))) (b + 2) (pl c t) (nW (enc (P t)))) y = wIJ G x y := by
    congr 1
    funext a k
    show (if a = b + 2 ∧ k = pl c t then _ else if a = b + 2 ∧ k = pl c f then _ else if a = b + 2 ∧ k = pl c f then _ else if a = b + 2 ∧ k = pl c t then _ else x a k) = x a k
    by_cases e1 : a = b + 2 ∧ k = pl c t
    · rw [if_pos e1, e1.1, e1.2, hb.at hs ht]
    · rw [if_neg e1]
      by_cases e2 : a = b + 2 ∧ k = pl c f
      · rw [if_pos e2, e2.1, e2.2, hb.at hs hf]
      · rw [if_neg e2, if_neg e2, if_neg e1]
  have done : ∀ bb : Bool, fX0_isLegal_93 b (nW (pl c f)) (nW (pl c t)) (nW (enc (P f))) (nW (enc (P t))) (bI bb) (wIJ G (u2 (u2 x (b + 2) (pl c t) (nW (enc (P f)))) (b + 2) (pl c f) (nW 0)) y) = some (bI bb, wIJ G x y) := by
    intro bb
    unfold fX0_isLegal_93
    rw [ck_wij, ck_ok h.1, set_ok h (by omega), Option.bind_some, ck_wij, ck_ok h.1, set_ok h (by omega), Option.bind_some, rz_b, back]
  have e52 : fX0_isLegal_52 b (nW (pl c f)) (nW (pl c t)) mc (nW (enc (P f))) (nW (enc (P t))) (nW col) (nW (pl c k1)) (wIJ G (u2 (u2 x (b + 2) (pl c t) (nW (enc (P f)))) (b + 2) (pl c f) (nW 0)) y) = some (bI (lgB c (c * r) P col f t mc), wIJ G x y) := by
    unfold fX0_isLegal_52 fX0_isLegal_88 fX0_isLegal_92
    simp only [lits]
    rw [ck_wij, ck_ok h.1, col1, reach1, Option.bind_some]
    unfold lgB
    rw [a2, b2]
    cases hA : att c (c * r) (mvd P f t) k1 (1 - col) with
    | true =>
      rw [if_neg bIt]
      exact done false
    | false =>
      rw [if_pos bIf]
      by_cases hmc : mc = nW 0
      · rw [if_pos hmc]
        have : (decide (mc = 0)) = true := decide_eq_true hmc
        rw [this]
        exact done true
      · rw [if_neg hmc]
        have : (decide (mc = 0)) = false := decide_eq_false hmc
        rw [this, ck_wij, ck_ok h.1, kingPlace_ok h (by omega), Option.bind_some, ck_wij, ck_ok h.1]
        rw [u2_apart (by omega), u2_apart (by omega), kp k2 (1 - col) (by omega) (b5 kf2).1 b1, reach2, Option.bind_some]
        cases hB : att c (c * r) (mvd P f t) k2 col with
        | true => rw [if_neg bIt]; exact done true
        | false => rw [if_pos bIf]; exact done false
  unfold fX0_isLegal fX0_isLegal_0
  simp only [lits]
  rw [ck_wij, ck_ok h.1, on_ok h (by omega), Option.bind_some, ck_wij, ck_ok h.1, on_ok h (by omega), Option.bind_some, hb.at hs hf, hb.at hs ht, colour_of _ (W.1 f), Option.bind_some]
  simp only [if_neg hpf, hown.2]
  rw [ck_wij, ck_ok h.1, set_ok h (by omega), Option.bind_some, ck_wij, ck_ok h.1, set_ok h (by omega), Option.bind_some, kind_of _ (W.1 f), Option.bind_some]
  simp only [if_neg hpf]
  by_cases k0 : (P f - 1) % 5 = 0
  · have ek : P f = kgc col := by unfold kgc; omega
    rw [if_pos (by rw [k0])]
    rw [a4 ek] at e52
    exact e52
  · have ek : P f ≠ kgc col := by intro e; rw [e] at k0; unfold kgc at k0; omega
    rw [if_neg (by rw [nW_eq (by omega) (by omega)]; exact k0), ck_wij, ck_ok h.1, kingPlace_ok h hcol, Option.bind_some]
    rw [u2_apart (by omega), u2_apart (by omega), kp k1 col hcol (a5 ek).1 a1]
    exact e52
end LEGAL
