/-! ===== the class's board: reading ===== -/
def bI (b : Bool) : Int32 := if b = true then nW 1 else nW 0
theorem bI_0 {b : Bool} : bI b = nW 0 ↔ b = false := by cases b <;> simp [bI] <;> decide
theorem bI_lit0 {b : Bool} : bI b = (0 : Int32) ↔ b = false := bI_0
theorem bI_lit1 {b : Bool} : bI b = (1 : Int32) ↔ b = true := by cases b <;> simp [bI] <;> decide
theorem bI_01 (b : Bool) : bI b = 0 ∨ bI b = 1 := by cases b <;> decide
theorem rz_b {α : Type} {b : Bool} {z : Option α} : rz (bI b) z = z := if_pos (bI_01 b)
theorem oI_nat {z : Int} (h : 0 ≤ z) : Int32.ofInt z = nW z.toNat := by
  obtain ⟨n, rfl⟩ := Int.eq_ofNat_of_zero_le h
  apply Int32.toBitVec_inj.mp
  show BitVec.ofInt 32 (n : Int) = BitVec.ofNat 32 n
  simp
theorem oI_add (a b : Int) : Int32.ofInt a + Int32.ofInt b = Int32.ofInt (a + b) := (Int32.ofInt_add a b).symm
theorem nW_oI (n : Nat) : nW n = Int32.ofInt n := by rw [oI_nat (Int.natCast_nonneg n)]; rfl
def BSh (G : Mem) (b : Nat) : Prop := mt G b = 10 ∧ mP G b 2 = some (b + 1) ∧ mP G b 4 = some (b + 2) ∧ mt G (b + 1) = 1 ∧ mn G (b + 1) = 315 ∧ mt G (b + 2) = 1 ∧ mn G (b + 2) = 88
def bct (c r : Nat) (P : Nat → Nat) (p : Nat) : Int32 := if onb c r p = true then nW (enc (P (sqp c p))) else nW 15
def BR (c r : Nat) (P : Nat → Nat) (x : Nat → Nat → Int32) (b : Nat) : Prop := x b 0 = nW c ∧ x b 1 = nW r ∧ ∀ p, p < 88 → x (b + 2) p = bct c r P p
def BK (c n : Nat) (P : Nat → Nat) (x : Nat → Nat → Int32) (b : Nat) : Prop := ∀ q, q < n → (P q = 1 → x b 5 = nW (pl c q)) ∧ (P q = 6 → x b 6 = nW (pl c q))
section BOARD
variable {G : Mem} {b : Nat} {x : Nat → Nat → Int32} {y : Nat → Nat → Int64}
theorem on_ok (h : BSh G b) {p : Nat} (hp : p < 88) : fX0_on b (nW p) (wIJ G x y) = some (x (b + 2) p, wIJ G x y) := by
  obtain ⟨h1, h2, h3, h4, h5, h6, h7⟩ := h
  simp (disch := omega) only [fX0_on, fX0_on_0, fX0_on_22, fX0_on_24, lits, gR_wij, gL_wij, gR_ok h1 h3, gL_ok (Or.inl h6), h7, Option.bind_some, nW_lt, nW_le, gA_wij h6, if_pos, if_neg]
theorem on_int (h : BSh G b) {z : Int} (h0 : 0 ≤ z) (h1 : z < 88) : fX0_on b (Int32.ofInt z) (wIJ G x y) = some (x (b + 2) z.toNat, wIJ G x y) := by
  rw [oI_nat h0]; exact on_ok h (by omega)
theorem set_ok (h : BSh G b) {p : Nat} {v : Int32} (hp : p < 88) : fX0_set b (nW p) v (wIJ G x y) = some ((), wIJ G (u2 x (b + 2) p v) y) := by
  obtain ⟨h1, h2, h3, h4, h5, h6, h7⟩ := h
  simp (disch := omega) only [fX0_set, fX0_set_0, fX0_set_20, lits, gR_wij, gL_wij, gR_ok h1 h3, gL_ok (Or.inl h6), h7, Option.bind_some, nW_lt, nW_le, pA_wij h6, if_pos, if_neg]
theorem tb1 : ∀ w, w < 8 → tb 1 (nW w) = some (Int32.ofInt (wyd w)) := by decide +kernel
theorem tb2 : ∀ w, w < 8 → tb 2 (nW w) = some (Int32.ofInt (Jd w)) := by decide +kernel
theorem loop_find {ρ : Type} {f : Int32 → Mem → Option ((Int32 ⊕ ρ) × Mem)} {n : Nat} {Pp : Nat → Prop} {G G2 : Mem} {r1 r2 : ρ} (h1 : ∀ i, i < n → Pp i → f (nW i) G = some (.inr r1, G)) (h2 : ∀ i, i < n → ¬ Pp i → f (nW i) G = some (.inl (nW (i + 1)), G)) (h3 : (∀ i, i < n → ¬ Pp i) → f (nW n) G = some (.inr r2, G2)) :
    ∀ (d i fu : Nat), i + d = n → d < fu → (∀ j, j < i → ¬ Pp j) → ((∃ j, j < n ∧ Pp j) ∧ loopM f fu (nW i) G = some (r1, G)) ∨ ((∀ j, j < n → ¬ Pp j) ∧ loopM f fu (nW i) G = some (r2, G2)) := by
  intro d
  induction d with
  | zero =>
    intro i fu h hf hj
    obtain ⟨fu, rfl⟩ : ∃ k, fu = k + 1 := ⟨fu - 1, by omega⟩
    have : i = n := by omega
    subst this
    refine Or.inr ⟨hj, ?_⟩
    unfold loopM
    rw [h3 hj]; rfl
  | succ d ih =>
    intro i fu h hf hj
    obtain ⟨fu, rfl⟩ : ∃ k, fu = k + 1 := ⟨fu - 1, by omega⟩
    by_cases hp : Pp i
    · refine Or.inl ⟨⟨i, by omega, hp⟩, ?_⟩
      unfold loopM
      rw [h1 i (by omega) hp]; rfl
    · have e : loopM f (fu + 1) (nW i) G = loopM f fu (nW (i + 1)) G := by
        show (f (nW i) G).bind _ = _
        rw [h2 i (by omega) hp]; rfl
      rw [e]
      exact ih (i + 1) fu (by omega) (by omega) (fun j hj2 => by
        by_cases e : j = i
        · rw [e]; exact hp
        · exact hj j (by omega))
/-- what stands along a ray -/
def cdr (c r : Nat) (P : Nat → Nat) (t w i : Nat) : Nat := if i < (ray c r t w).length then P ((ray c r t w).getD i 0) else 12
theorem cdr_hit {c r : Nat} {P : Nat → Nat} {t w : Nat} : ∃ n, n ≤ (ray c r t w).length ∧ (∀ i, i < n → cdr c r P t w i = 0) ∧ cdr c r P t w n ≠ 0 ∧ hitL P (ray c r t w) = cdr c r P t w n := by
  have key : ∀ (l : List Nat) (j : Nat), clr P l = true → j < l.length → P (l.getD j 0) = 0 := by
    intro l j h hj
    unfold clr at h
    rw [List.all_eq_true] at h
    have := h (l.getD j 0) (by rw [List.getD_eq_getElem?_getD, List.getElem?_eq_getElem hj]; exact List.getElem_mem hj)
    simpa using this
  rcases hit_at (P := P) (ray c r t w) with ⟨h1, h2⟩ | ⟨i, k, h0, h1, h2, h3, h4⟩
  · refine ⟨(ray c r t w).length, Nat.le_refl _, fun i hi => ?_, ?_, ?_⟩
    · unfold cdr; rw [if_pos hi]; exact key _ i h2 hi
    · unfold cdr; rw [if_neg (by omega)]; decide
    · unfold cdr; rw [if_neg (by omega)]; exact h1
  · have ek : (ray c r t w).getD i 0 = k := by rw [List.getD_eq_getElem?_getD, h1]; rfl
    refine ⟨i, by omega, fun j hj => ?_, ?_, ?_⟩
    · unfold cdr
      rw [if_pos (by omega)]
      have := key _ j h2 (by rw [List.length_take]; omega)
      rw [List.getD_eq_getElem?_getD, List.getElem?_take_of_lt hj, ← List.getD_eq_getElem?_getD] at this
      exact this
    · unfold cdr; rw [if_pos h0, ek]; exact h3
    · unfold cdr; rw [if_pos h0, ek]; exact h4
def zr (c t w i : Nat) : Int := (pl c t : Int) + ((i : Int) + 1) * wyd w
theorem zr_next (c t w i : Nat) : zr c t w i + wyd w = zr c t w (i + 1) := by
  unfold zr
  rw [show ((i + 1 : Nat) : Int) + 1 = ((i : Int) + 1) + 1 by omega, Int.add_mul ((i : Int) + 1) 1, Int.one_mul, Int.add_assoc]
theorem ray_at {c r : Nat} (hs : szs c r) {P : Nat → Nat} {ct : Nat → Int32} (hb : ∀ p, p < 88 → ct p = bct c r P p) {t w : Nat} (ht : t < c * r) (hw : w < 8) {i : Nat} (hi : i ≤ (ray c r t w).length) : 0 ≤ zr c t w i ∧ zr c t w i < 88 ∧ ct (zr c t w i).toNat = nW (enc (cdr c r P t w i)) := by
  obtain ⟨s1, s2, s3, s4⟩ := hs
  obtain ⟨p1, p2, p3, p4, p5⟩ := geoP c s2 s1 r s4 s3 t ht
  obtain ⟨q1, q2, q3, q4⟩ := p5 w hw
  by_cases hl : i < (ray c r t w).length
  · have e := q1 i hl
    have b1 := ((geoB c s2 s1 r s4 s3 t ht w hw).2 i hl).1
    obtain ⟨g1, g2, g3, g4, -⟩ := geoP c s2 s1 r s4 s3 _ b1
    have ez : zr c t w i = (pl c ((ray c r t w).getD i 0) : Int) := e.symm
    have en : (zr c t w i).toNat = pl c ((ray c r t w).getD i 0) := by rw [ez]; omega
    refine ⟨by omega, by omega, ?_⟩
    rw [en, hb _ (by omega)]
    unfold bct cdr
    rw [if_pos g3, if_pos hl, g4]
  · have e : i = (ray c r t w).length := by omega
    subst e
    refine ⟨q2, q3, ?_⟩
    rw [hb _ (by show (zr c t w _).toNat < 88; unfold zr; omega)]
    unfold bct cdr
    rw [if_neg (by rw [show (zr c t w (ray c r t w).length) = (pl c t : Int) + (((ray c r t w).length : Int) + 1) * wyd w from rfl, q4]; decide), if_neg (by omega)]
    rfl
/-- a way that meets an attacker -/
def wayA (c r : Nat) (P : Nat → Nat) (t col w : Nat) : Prop := (∃ k, (ray c r t w)[0]? = some k ∧ P k = kgc col) ∨ hitL P (ray c r t w) = kgc col + 1 ∨ (w < 4 ∧ hitL P (ray c r t w) = kgc col + 2) ∨ (4 ≤ w ∧ hitL P (ray c r t w) = kgc col + 3)
theorem enc_s0 : ∀ col, col < 2 → ∀ m, m < 13 → (nW (enc m) = nW (enc (kgc col)) ↔ m = kgc col) := by decide +kernel
theorem enc_s1 : ∀ col, col < 2 → ∀ m, m < 13 → (nW (enc m) - nW (enc (kgc col)) = nW 1 ↔ m = kgc col + 1) := by decide +kernel
theorem enc_s2 : ∀ col, col < 2 → ∀ m, m < 13 → (nW (enc m) - nW (enc (kgc col)) = nW 2 ↔ m = kgc col + 2) := by decide +kernel
theorem enc_s3 : ∀ col, col < 2 → ∀ m, m < 13 → (nW (enc m) - nW (enc (kgc col)) = nW 3 ↔ m = kgc col + 3) := by decide +kernel
theorem enc_s4 : ∀ col, col < 2 → ∀ m, m < 13 → (nW (enc m) - nW (enc (kgc col)) = nW 4 ↔ m = kgc col + 4) := by decide +kernel
theorem enc_s5 : ∀ col, col < 2 → ∀ m, m < 13 → (nW (enc m) = nW 0 ↔ m = 0) := by decide +kernel
theorem enc_s6 : ∀ col, col < 2 → ∀ m, m < 13 → (nW (enc m) = nW 15 ↔ m = 12) := by decide +kernel
theorem enc_sub : ∀ col, col < 2 → ∀ m, m < 13 → (nW (enc m) = nW (enc (kgc col)) ↔ m = kgc col) ∧ (nW (enc m) - nW (enc (kgc col)) = nW 1 ↔ m = kgc col + 1) ∧ (nW (enc m) - nW (enc (kgc col)) = nW 2 ↔ m = kgc col + 2) ∧ (nW (enc m) - nW (enc (kgc col)) = nW 3 ↔ m = kgc col + 3) ∧ (nW (enc m) - nW (enc (kgc col)) = nW 4 ↔ m = kgc col + 4) ∧ (nW (enc m) = nW 0 ↔ m = 0) ∧ (nW (enc m) = nW 15 ↔ m = 12) :=
  fun col hc m hm => ⟨enc_s0 col hc m hm, enc_s1 col hc m hm, enc_s2 col hc m hm, enc_s3 col hc m hm, enc_s4 col hc m hm, enc_s5 col hc m hm, enc_s6 col hc m hm⟩
theorem cdr_lt {c r : Nat} {P : Nat → Nat} (hP : ∀ k, P k < 11) {t w i : Nat} : cdr c r P t w i < 13 := by
  unfold cdr
  split
  · have := hP ((ray c r t w).getD i 0); omega
  · omega
theorem cdr_0 {c r : Nat} {P : Nat → Nat} {t w col : Nat} (hcol : col < 2) : cdr c r P t w 0 = kgc col ↔ ∃ k, (ray c r t w)[0]? = some k ∧ P k = kgc col := by
  unfold cdr
  cases hl : ray c r t w with
  | nil => simp [kgc]; omega
  | cons a l => simp
theorem way_ok (h : BSh G b) {c r : Nat} (hs : szs c r) {P : Nat → Nat} (hP : ∀ k, P k < 11) (hb : BR c r P x b) {t w col : Nat} (ht : t < c * r) (hw : w < 8) (hcol : col < 2) :
    (wayA c r P t col w → fX0_isReached_14 b (nW (pl c t)) (nW (enc (kgc col))) (nW w) (wIJ G x y) = some (.inr (nW 1), wIJ G x y)) ∧
    (¬ wayA c r P t col w → fX0_isReached_14 b (nW (pl c t)) (nW (enc (kgc col))) (nW w) (wIJ G x y) = some (.inl (nW (w + 1)), wIJ G x y)) := by
  obtain ⟨n, n1, n2, n3, n4⟩ := cdr_hit (c := c) (r := r) (P := P) (t := t) (w := w)
  have len6 := (geoB c hs.2.1 hs.1 r hs.2.2.2 hs.2.2.1 t ht w hw).1
  have at0 := ray_at hs hb.2.2 ht hw (Nat.zero_le (ray c r t w).length)
  have e0 : nW (pl c t) + Int32.ofInt (wyd w) = Int32.ofInt (zr c t w 0) := by
    rw [nW_oI, oI_add]; congr 1; unfold zr; omega
  have es := enc_sub col hcol
  have loop : ∀ K : Int32, loopM (fun (s : Int32 × Int32 × Int32) G => fX0_isReached_52 b (nW (pl c t)) K (nW w) s.1 s.2.1 s.2.2 G) FU (Int32.ofInt (zr c t w 0), nW (enc (cdr c r P t w 0)), nW 1) (wIJ G x y) = fX0_isReached_89 b (nW (pl c t)) K (nW w) (nW (enc (cdr c r P t w n))) (wIJ G x y) := by
    intro K
    obtain ⟨⟨v, G2⟩, hv⟩ : ∃ q, fX0_isReached_89 b (nW (pl c t)) K (nW w) (nW (enc (cdr c r P t w n))) (wIJ G x y) = some q := by
      unfold fX0_isReached_89 fX0_isReached_114 fX0_isReached_117
      split
      · exact ⟨_, rfl⟩
      · split
        · split
          · exact ⟨_, rfl⟩
          · exact ⟨_, rfl⟩
        · split
          · exact ⟨_, rfl⟩
          · exact ⟨_, rfl⟩
    rw [hv]
    refine loop_to (fun i => (Int32.ofInt (zr c t w i), nW (enc (cdr c r P t w i)), nW (i + 1))) (fun _ => wIJ G x y) n v G2 (fun i hi => ?_) ?_ n 0 FU (by omega) (by show n < 100000; omega)
    · obtain ⟨a1, a2, a3⟩ := ray_at hs hb.2.2 ht hw (i := i + 1) (by omega)
      have hz := n2 i hi
      dsimp only
      unfold fX0_isReached_52
      rw [lits.2.2.2.2.2.2.1, if_neg (by rw [nW_le (by omega) (by omega)]; omega), hz, if_pos (by decide), tb1 w hw, Option.bind_some, ck_wij, ck_ok h.1, oI_add, zr_next, on_int h a1 a2, Option.bind_some, a3, lits.2.1, nW_add]
    · dsimp only
      unfold fX0_isReached_52
      rw [hv]
      by_cases h6 : (6 : Int32) ≤ nW (n + 1)
      · rw [if_pos h6]; rfl
      · rw [if_neg h6, if_neg (by rw [lits.1, (es _ (cdr_lt hP)).2.2.2.2.2.1]; exact n3)]; rfl
  have head : fX0_isReached_14 b (nW (pl c t)) (nW (enc (kgc col))) (nW w) (wIJ G x y) = if nW (enc (cdr c r P t w 0)) = nW (enc (kgc col)) then some (.inr (nW 1), wIJ G x y) else fX0_isReached_89 b (nW (pl c t)) (nW (enc (kgc col))) (nW w) (nW (enc (cdr c r P t w n))) (wIJ G x y) := by
    unfold fX0_isReached_14
    rw [lits.2.2.2.2.2.2.2.2.1, if_neg (by rw [nW_le (by omega) (by omega)]; omega), tb1 w hw, Option.bind_some, ck_wij, ck_ok h.1, e0, on_int h at0.1 at0.2.1, Option.bind_some, at0.2.2]
    by_cases hk : nW (enc (cdr c r P t w 0)) = nW (enc (kgc col))
    · rw [if_pos hk, if_pos hk]; rfl
    · rw [if_neg hk, if_neg hk]; exact loop _
  have e14 : fX0_isReached_89 b (nW (pl c t)) (nW (enc (kgc col))) (nW w) (nW (enc (cdr c r P t w n))) (wIJ G x y) = if (cdr c r P t w n = kgc col + 1 ∨ (w < 4 ∧ cdr c r P t w n = kgc col + 2) ∨ (4 ≤ w ∧ cdr c r P t w n = kgc col + 3)) then some (.inr (nW 1), wIJ G x y) else some (.inl (nW (w + 1)), wIJ G x y) := by
    obtain ⟨-, q1, q2, q3, -⟩ := es _ (cdr_lt hP (c := c) (r := r) (t := t) (w := w) (i := n))
    unfold fX0_isReached_89 fX0_isReached_114 fX0_isReached_117
    simp only [lits, q1, q2, q3, nW_add]
    by_cases c1 : cdr c r P t w n = kgc col + 1
    · rw [if_pos c1, if_pos (Or.inl c1)]; rfl
    · rw [if_neg c1]
      by_cases w4 : w < 4
      · rw [if_neg (by rw [nW_le (by omega) (by omega)]; omega)]
        by_cases c2 : cdr c r P t w n = kgc col + 2
        · rw [if_pos c2, if_pos (Or.inr (Or.inl ⟨w4, c2⟩))]; rfl
        · rw [if_neg c2, if_neg (by omega)]
      · rw [if_pos (by rw [nW_le (by omega) (by omega)]; omega)]
        by_cases c3 : cdr c r P t w n = kgc col + 3
        · rw [if_pos c3, if_pos (Or.inr (Or.inr ⟨by omega, c3⟩))]; rfl
        · rw [if_neg c3, if_neg (by omega)]
  have q0 := (es _ (cdr_lt hP (c := c) (r := r) (t := t) (w := w) (i := 0))).1
  have z0 := cdr_0 (c := c) (r := r) (P := P) (t := t) (w := w) hcol
  constructor
  · intro ha
    rw [head]
    by_cases hk : nW (enc (cdr c r P t w 0)) = nW (enc (kgc col))
    · rw [if_pos hk]
    · rw [if_neg hk, e14, if_pos]
      rw [← n4]
      rcases ha with ha | ha
      · exact absurd (q0.mpr (z0.mpr ha)) hk
      · exact ha
  · intro ha
    rw [head, if_neg (fun hk => ha (Or.inl (z0.mp (q0.mp hk)))), e14, if_neg (fun hk => ha (Or.inr (by rw [← n4] at hk; exact hk)))]
/-- a jump that meets an attacker -/
theorem jmp_at {c r : Nat} (hs : szs c r) {P : Nat → Nat} {ct : Nat → Int32} (hb : ∀ p, p < 88 → ct p = bct c r P p) {t j : Nat} (ht : t < c * r) (hj : j < 8) : 0 ≤ (pl c t : Int) + Jd j ∧ (pl c t : Int) + Jd j < 88 ∧ ct ((pl c t : Int) + Jd j).toNat = nW (enc (if onb c r ((pl c t : Int) + Jd j).toNat = true then P (sqp c ((pl c t : Int) + Jd j).toNat) else 12)) := by
  obtain ⟨s1, s2, s3, s4⟩ := hs
  obtain ⟨g1, g2, -⟩ := (geoJ c s2 s1 r s4 s3 t ht).1 j hj
  refine ⟨g1, g2, ?_⟩
  rw [hb _ (by omega)]
  unfold bct
  split <;> rfl
theorem isReached_ok (h : BSh G b) {c r : Nat} (hs : szs c r) {P : Nat → Nat} (hP : ∀ k, P k < 11) (hb : BR c r P x b) {t col : Nat} (ht : t < c * r) (hcol : col < 2) :
    fX0_isReached b (nW (pl c t)) (nW col) (wIJ G x y) = some (bI (att c (c * r) P t col), wIJ G x y) := by
  have hs2 := hs
  obtain ⟨s1, s2, s3, s4⟩ := hs2
  have gJ := geoJ c s2 s1 r s4 s3 t ht
  have es := enc_sub col hcol
  have k12 : ∀ j, (if onb c r ((pl c t : Int) + Jd j).toNat = true then P (sqp c ((pl c t : Int) + Jd j).toNat) else 12) < 13 := fun j => by
    split
    · have := hP (sqp c ((pl c t : Int) + Jd j).toNat); omega
    · omega
  let JP : Nat → Prop := fun j => (if onb c r ((pl c t : Int) + Jd j).toNat = true then P (sqp c ((pl c t : Int) + Jd j).toNat) else 12) = kgc col + 4
  have j1 : ∀ j, j < 8 → fX0_isReached_128 b (nW (pl c t)) (nW (enc (kgc col))) (nW j) (wIJ G x y) = if (if onb c r ((pl c t : Int) + Jd j).toNat = true then P (sqp c ((pl c t : Int) + Jd j).toNat) else 12) = kgc col + 4 then some (.inr (nW 1), wIJ G x y) else some (.inl (nW (j + 1)), wIJ G x y) := by
    intro j hj
    obtain ⟨a1, a2, a3⟩ := jmp_at hs hb.2.2 ht hj
    unfold fX0_isReached_128 fX0_isReached_155
    rw [lits.2.2.2.2.2.2.2.2.1, if_neg (by rw [nW_le (by omega) (by omega)]; omega), tb2 j hj, Option.bind_some, ck_wij, ck_ok h.1, nW_oI (pl c t), oI_add, on_int h a1 a2, Option.bind_some, a3]
    simp only [lits, (es _ (k12 j)).2.2.2.2.1, nW_add]
    split <;> rfl
  have tail := loop_find (f := fun (s : Int32) G => fX0_isReached_128 b (nW (pl c t)) (nW (enc (kgc col))) s G) (n := 8) (Pp := JP) (G := wIJ G x y) (G2 := wIJ G x y) (r1 := nW 1) (r2 := nW 0) (fun i hi hp => by rw [j1 i hi]; exact if_pos hp) (fun i hi hp => by rw [j1 i hi]; exact if_neg hp) (fun _ => by
    unfold fX0_isReached_128 fX0_isReached_163
    rw [if_pos (by decide)]; rfl) 8 0 FU (by omega) (by decide) (fun j hj => by omega)
  have jj : (∃ j, j < 8 ∧ JP j) ↔ ∃ k, k < c * r ∧ adx c k t * ady c k t = 2 ∧ P k = kgc col + 4 := by
    constructor
    · rintro ⟨j, hj, hp⟩
      by_cases ho : onb c r ((pl c t : Int) + Jd j).toNat = true
      · obtain ⟨a1, a2, a3⟩ := ((gJ.1 j hj).2.2) ho
        have hp : (if onb c r ((pl c t : Int) + Jd j).toNat = true then P (sqp c ((pl c t : Int) + Jd j).toNat) else 12) = kgc col + 4 := hp
        rw [if_pos ho] at hp
        exact ⟨_, a1, a2, hp⟩
      · have hp : (if onb c r ((pl c t : Int) + Jd j).toNat = true then P (sqp c ((pl c t : Int) + Jd j).toNat) else 12) = kgc col + 4 := hp
        rw [if_neg ho] at hp
        unfold kgc at hp; omega
    · rintro ⟨k, hk, h2, hp⟩
      obtain ⟨j, hj, e⟩ := gJ.2 k hk h2
      obtain ⟨g1, g2, g3, g4, -⟩ := geoP c s2 s1 r s4 s3 k hk
      refine ⟨j, hj, ?_⟩
      show (if onb c r ((pl c t : Int) + Jd j).toNat = true then P (sqp c ((pl c t : Int) + Jd j).toNat) else 12) = kgc col + 4
      have en : ((pl c t : Int) + Jd j).toNat = pl c k := by rw [← e]; omega
      rw [en, if_pos g3, g4]; exact hp
  have e10 : fX0_isReached b (nW (pl c t)) (nW col) (wIJ G x y) = fX0_isReached_10 b (nW (pl c t)) (nW (enc (kgc col))) (wIJ G x y) := by
    unfold fX0_isReached fX0_isReached_0
    rcases (show col = 0 ∨ col = 1 by omega) with rfl | rfl
    · rw [if_pos (by decide)]; rfl
    · rw [if_neg (by decide)]; rfl
  rw [e10]
  unfold fX0_isReached_10
  have fin := att_attW hs hP ht hcol
  rcases tail with ⟨t1, t2⟩ | ⟨t1, t2⟩
  · have main := loop_find (f := fun (s : Int32) G => fX0_isReached_14 b (nW (pl c t)) (nW (enc (kgc col))) s G) (n := 8) (Pp := wayA c r P t col) (G := wIJ G x y) (G2 := wIJ G x y) (r1 := nW 1) (r2 := nW 1) (fun i hi hp => (way_ok h hs hP hb ht hi hcol).1 hp) (fun i hi hp => (way_ok h hs hP hb ht hi hcol).2 hp) (fun _ => by
      unfold fX0_isReached_14
      rw [if_pos (by decide)]
      unfold fX0_isReached_125
      rw [lits.1, t2]; rfl) 8 0 FU (by omega) (by decide) (fun j hj => by omega)
    have ha : att c (c * r) P t col = true := fin.mpr (Or.inr (jj.mp t1))
    rw [ha]
    rcases main with ⟨-, m2⟩ | ⟨-, m2⟩ <;> exact m2
  · have main := loop_find (f := fun (s : Int32) G => fX0_isReached_14 b (nW (pl c t)) (nW (enc (kgc col))) s G) (n := 8) (Pp := wayA c r P t col) (G := wIJ G x y) (G2 := wIJ G x y) (r1 := nW 1) (r2 := nW 0) (fun i hi hp => (way_ok h hs hP hb ht hi hcol).1 hp) (fun i hi hp => (way_ok h hs hP hb ht hi hcol).2 hp) (fun _ => by
      unfold fX0_isReached_14
      rw [if_pos (by decide)]
      unfold fX0_isReached_125
      rw [lits.1, t2]; rfl) 8 0 FU (by omega) (by decide) (fun j hj => by omega)
    rcases main with ⟨m1, m2⟩ | ⟨m1, m2⟩
    · have ha : att c (c * r) P t col = true := fin.mpr (Or.inl m1)
      rw [ha]; exact m2
    · have ha : att c (c * r) P t col = false := by
        cases hb2 : att c (c * r) P t col with
        | false => rfl
        | true =>
          rcases fin.mp hb2 with ⟨w, hw, q⟩ | q
          · exact absurd q (m1 w hw)
          · obtain ⟨j, hj, q2⟩ := jj.mpr q
            exact absurd q2 (t1 j hj)
      rw [ha]; exact m2
end BOARD
