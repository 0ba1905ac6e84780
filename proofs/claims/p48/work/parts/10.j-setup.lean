/-! ===== setups, as mathematics; the class reads them ===== -/
def kdN (T : Nat → Nat) (L s : Nat) : Nat := if isw T L s 3 = true then 0 else if isw T L s 4 = true then 1 else if isw T L s 5 = true then 2 else if isw T L s 6 = true then 3 else if isw T L s 7 = true then 4 else 5
def colN (T : Nat → Nat) (L s : Nat) : Nat := if isw T L s 1 = true then 0 else if isw T L s 2 = true then 1 else 2
def npc (n : Nat) (P : Nat → Nat) : Nat := cnt n fun q => !decide (P q = 0)
theorem knd_kdN {T : Nat → Nat} {L s : Nat} : (kdN T L s < 5 ∧ knd T L s = nW (kdN T L s)) ∨ (kdN T L s = 5 ∧ knd T L s = -nW 1) := by
  unfold kdN knd
  by_cases a1 : isw T L s 3 = true
  · rw [if_pos a1, if_pos a1]; exact Or.inl ⟨by decide, rfl⟩
  · rw [if_neg a1, if_neg a1]
    by_cases a2 : isw T L s 4 = true
    · rw [if_pos a2, if_pos a2]; exact Or.inl ⟨by decide, rfl⟩
    · rw [if_neg a2, if_neg a2]
      by_cases a3 : isw T L s 5 = true
      · rw [if_pos a3, if_pos a3]; exact Or.inl ⟨by decide, rfl⟩
      · rw [if_neg a3, if_neg a3]
        by_cases a4 : isw T L s 6 = true
        · rw [if_pos a4, if_pos a4]; exact Or.inl ⟨by decide, rfl⟩
        · rw [if_neg a4, if_neg a4]
          by_cases a5 : isw T L s 7 = true
          · rw [if_pos a5, if_pos a5]; exact Or.inl ⟨by decide, rfl⟩
          · rw [if_neg a5, if_neg a5]; exact Or.inr ⟨rfl, rfl⟩
/-- one piece, whose colour's word stands at s -/
def pPiece (T : Nat → Nat) (L c r : Nat) (P : Nat → Nat) (s : Nat) : (Nat × Nat) ⊕ ((Nat → Nat) × Nat) :=
  if colN T L s = 2 then .inl (1, s) else if npc (c * r) P = 10 then .inl (4, s) else if kdN T L (nx T L s) = 5 then .inl (1, nx T L s)
  else if kdN T L (nx T L s) = 0 ∧ fnd (c * r) P (kgc (colN T L s)) < c * r then .inl (4, nx T L s)
  else zB (pNum T L (nx T L (nx T L s)) 0 c) fun q => zB (pNum T L q.2 0 r) fun q2 => if P (q2.1 * c + q.1) = 0 then (if srt T L q2.2 = 4 then .inr (upN P (q2.1 * c + q.1) (1 + 5 * colN T L s + kdN T L (nx T L s)), nx T L q2.2) else .inl (1, q2.2)) else .inl (3, q.2)
def pPieces (T : Nat → Nat) (L c r : Nat) : Nat → (Nat → Nat) → Nat → (Nat × Nat) ⊕ ((Nat → Nat) × Nat)
  | 0, _, _ => .inl (0, 0)
  | d + 1, P, s => if colN T L s = 2 ∧ 2 ≤ npc (c * r) P then .inr (P, s) else zB (pPiece T L c r P s) fun q => pPieces T L c r d q.1 q.2
def pBoard (T : Nat → Nat) (L s : Nat) : (Nat × Nat) ⊕ (Nat × Nat × Nat) := if isw T L s 0 = true then zB (pNum T L (nx T L s) 3 7) fun q => zB (pNum T L q.2 3 7) fun q2 => if srt T L q2.2 = 4 then .inr (q.1, q2.1, nx T L q2.2) else .inl (1, q2.2) else .inl (1, s)
/-- the pieces may end at s -/
def mayE (T : Nat → Nat) (L s : Nat) : Bool := decide (srt T L s = 0) || (isw T L s 8 || (isw T L s 9 || isw T L s 10))
def pSetE (T : Nat → Nat) (L c r : Nat) (P : Nat → Nat) (s : Nat) : (Nat × Nat) ⊕ (Nat × Nat × (Nat → Nat) × Nat) := if mayE T L s = true then (if fnd (c * r) P 1 < c * r ∧ fnd (c * r) P 6 < c * r then .inr (c, r, P, s) else .inl (5, s)) else .inl (1, s)
def pSetup (T : Nat → Nat) (L s : Nat) : (Nat × Nat) ⊕ (Nat × Nat × (Nat → Nat) × Nat) := zB (pBoard T L s) fun q => zB (pPieces T L q.1 q.2.1 12 (fun _ => 0) q.2.2) fun q2 => pSetE T L q.1 q.2.1 q2.1 q2.2
/-- what holds of the pieces that stand so far -/
def PInv (c r : Nat) (P : Nat → Nat) : Prop := szs c r ∧ (∀ k, P k < 11) ∧ (∀ k, c * r ≤ k → P k = 0) ∧ (∀ col, col < 2 → ∀ i j, P i = kgc col → P j = kgc col → i = j) ∧ npc (c * r) P ≤ 10
theorem fnd_iff {n : Nat} {P : Nat → Nat} {m : Nat} : fnd n P m < n ↔ ∃ k, k < n ∧ P k = m := by
  obtain ⟨f1, f2, f3⟩ := fnd_spec (n := n) (P := P) (m := m)
  constructor
  · intro h; exact ⟨_, h, f2 h⟩
  · rintro ⟨k, hk, hp⟩
    by_cases q : fnd n P m < n
    · exact q
    · exact absurd hp (f3 k (by omega))
theorem npc_up {n : Nat} {P : Nat → Nat} {t v : Nat} (ht : t < n) (h0 : P t = 0) (hv : v ≠ 0) : npc n (upN P t v) = npc n P + 1 := by
  have := cnt_up (g := fun q => !decide (P q = 0)) (k := t) (b := true) n ht
  have e : (fun q => !decide (upN P t v q = 0)) = fun j => if j = t then true else !decide (P j = 0) := by
    funext j
    unfold upN
    by_cases q : j = t
    · rw [if_pos q, if_pos q, decide_eq_false hv]; rfl
    · rw [if_neg q, if_neg q]
  unfold npc
  rw [e]
  rw [h0] at this
  have z : (if (!decide ((0 : Nat) = 0)) = true then 1 else 0) = 0 := by decide
  rw [z, if_pos rfl] at this
  exact this
theorem npc_zero (n : Nat) : npc n (fun _ => 0) = 0 := cnt_none n fun i _ => rfl
theorem PInv.zero {c r : Nat} (hs : szs c r) : PInv c r fun _ => 0 := ⟨hs, fun _ => Nat.succ_pos 10, fun _ _ => rfl, fun col _ i j h _ => by (have h : 0 = 1 + 5 * col := h); omega, by rw [npc_zero]; decide⟩
theorem PInv.up {c r t col kd : Nat} {P : Nat → Nat} (h : PInv c r P) (ht : t < c * r) (h0 : P t = 0) (hc : col < 2) (hk : kd < 5) (hn : npc (c * r) P ≠ 10) (hu : ¬ (kd = 0 ∧ fnd (c * r) P (kgc col) < c * r)) : PInv c r (upN P t (1 + 5 * col + kd)) ∧ npc (c * r) (upN P t (1 + 5 * col + kd)) = npc (c * r) P + 1 := by
  obtain ⟨h1, h2, h3, h4, h5⟩ := h
  have e := npc_up (n := c * r) (v := 1 + 5 * col + kd) ht h0 (by omega)
  have no : ∀ i, kd = 0 → P i ≠ kgc col := fun i hk0 hi => by
    refine hu ⟨hk0, fnd_iff.mpr ⟨i, ?_, hi⟩⟩
    by_cases q : i < c * r
    · exact q
    · have := h3 i (by omega)
      unfold kgc at hi; omega
  refine ⟨⟨h1, fun k => ?_, fun k hk2 => ?_, fun col' hc' i j hi hj => ?_, by omega⟩, e⟩
  · unfold upN
    by_cases q : k = t
    · rw [if_pos q]; omega
    · rw [if_neg q]; exact h2 k
  · unfold upN
    rw [if_neg (by omega)]; exact h3 k hk2
  · unfold upN at hi hj
    by_cases q : i = t
    · rw [if_pos q] at hi
      by_cases q2 : j = t
      · rw [q, q2]
      · rw [if_neg q2] at hj
        unfold kgc at hi hj
        have : col = col' := by omega
        subst this
        exact absurd hj (no j (by omega))
    · rw [if_neg q] at hi
      by_cases q2 : j = t
      · rw [if_pos q2] at hj
        unfold kgc at hi hj
        have : col = col' := by omega
        subst this
        exact absurd hi (no i (by omega))
      · rw [if_neg q2] at hj
        exact h4 col' hc' i j hi hj
theorem pPiece_inv {T : Nat → Nat} {L c r s s' : Nat} {P P' : Nat → Nat} (h : PInv c r P) (hp : pPiece T L c r P s = .inr (P', s')) : PInv c r P' ∧ npc (c * r) P' = npc (c * r) P + 1 ∧ s < s' := by
  unfold pPiece at hp
  split at hp
  · cases hp
  · next e1 =>
    split at hp
    · cases hp
    · next e2 =>
      split at hp
      · cases hp
      · next e3 =>
        split at hp
        · cases hp
        · next e4 =>
          obtain ⟨q, g1, hp⟩ := zB_inr hp
          obtain ⟨q2, g2, hp⟩ := zB_inr hp
          have b1 := pNum_lt (k := q.1) (s' := q.2) g1
          have b2 := pNum_lt (k := q2.1) (s' := q2.2) g2
          split at hp
          · next e5 =>
            split at hp
            · next e6 =>
              cases hp
              have hcol : colN T L s < 2 := by
                unfold colN at e1 ⊢
                split
                · decide
                · split
                  · decide
                  · next q3 q4 => rw [if_neg q3, if_neg q4] at e1; exact absurd rfl e1
              have hkd : kdN T L (nx T L s) < 5 := by
                rcases knd_kdN (T := T) (L := L) (s := nx T L s) with z | z
                · exact z.1
                · exact absurd z.1 e3
              obtain ⟨i1, i2⟩ := h.up (grid_lt b2.2.1 b1.2.1) e5 hcol hkd e2 e4
              refine ⟨i1, i2, ?_⟩
              have := nx_ge (T := T) (L := L) s
              have := nx_ge (T := T) (L := L) (nx T L s)
              have := nx_ge (T := T) (L := L) q2.2
              show s < nx T L q2.2
              omega
            · cases hp
          · cases hp
/-- the kings that stand, in two bits -/
def kmk (n : Nat) (P : Nat → Nat) : Nat := (if fnd n P 1 < n then 1 else 0) + (if fnd n P 6 < n then 2 else 0)
theorem kmk_lt (n : Nat) (P : Nat → Nat) : kmk n P < 4 := by
  unfold kmk
  split <;> split <;> decide
theorem kmk_bits : ∀ k, k < 4 → ∀ col, col < 2 → ((nW k &&& (nW 1 <<< (nW col &&& nW 31))) = nW 0 ↔ k / 2 ^ col % 2 = 0) ∧ (k / 2 ^ col % 2 = 0 → (nW k ||| (nW 1 <<< (nW col &&& nW 31))) = nW (k + 2 ^ col)) := by decide +kernel
theorem kmk_has {n : Nat} {P : Nat → Nat} {col : Nat} (hc : col < 2) : kmk n P / 2 ^ col % 2 = 0 ↔ ¬ fnd n P (kgc col) < n := by
  unfold kmk
  have : col = 0 ∨ col = 1 := by omega
  rcases this with rfl | rfl
  · show _ ↔ ¬ fnd n P 1 < n
    by_cases a : fnd n P 1 < n <;> by_cases b : fnd n P 6 < n <;> simp [a, b]
  · show _ ↔ ¬ fnd n P 6 < n
    by_cases a : fnd n P 1 < n <;> by_cases b : fnd n P 6 < n <;> simp [a, b]
theorem kmk_up {n t v : Nat} {P : Nat → Nat} (ht : t < n) (h0 : P t = 0) : kmk n (upN P t v) = (if fnd n P 1 < n ∨ v = 1 then 1 else 0) + (if fnd n P 6 < n ∨ v = 6 then 2 else 0) := by
  have e : ∀ m, m ≠ 0 → (fnd n (upN P t v) m < n ↔ fnd n P m < n ∨ v = m) := by
    intro m hm
    rw [fnd_iff, fnd_iff]
    unfold upN
    constructor
    · rintro ⟨k, hk, hp⟩
      by_cases q : k = t
      · rw [if_pos q] at hp; exact Or.inr hp
      · rw [if_neg q] at hp; exact Or.inl ⟨k, hk, hp⟩
    · rintro (⟨k, hk, hp⟩ | hp)
      · exact ⟨k, hk, by rw [if_neg (fun q => hm (by rw [← hp, q, h0]))]; exact hp⟩
      · exact ⟨t, ht, by rw [if_pos rfl]; exact hp⟩
  unfold kmk
  have e1 := e 1 (by decide)
  have e6 := e 6 (by decide)
  congr 1
  · by_cases q : fnd n P 1 < n ∨ v = 1
    · rw [if_pos (e1.mpr q), if_pos q]
    · rw [if_neg (fun z => q (e1.mp z)), if_neg q]
  · by_cases q : fnd n P 6 < n ∨ v = 6
    · rw [if_pos (e6.mpr q), if_pos q]
    · rw [if_neg (fun z => q (e6.mp z)), if_neg q]
theorem enc_piece : ∀ col, col < 2 → ∀ kd, kd < 5 → nW 8 * nW col + nW kd + nW 1 = nW (enc (1 + 5 * col + kd)) := by decide +kernel
section CSETUP
variable {G : Mem} {x : Nat → Nat → Int32} {y : Nat → Nat → Int64} {T : Nat → Nat} {L : Nat}
theorem BP.up {c r b t v : Nat} {P : Nat → Nat} {x' : Nat → Nat → Int32} (hs : szs c r) (h : BP c r (c * r) P x b) (ht : t < c * r) (hu : ∀ i j, upN P t v i = 1 → upN P t v j = 1 → i = j) (hu6 : ∀ i j, upN P t v i = 6 → upN P t v j = 6 → i = j) (hf : BF b x x') (hc : ∀ p, p < 88 → x' (b + 2) p = if p = pl c t then nW (enc v) else x (b + 2) p) (h5 : x' b 5 = if v = 1 then nW (pl c t) else x b 5) (h6 : x' b 6 = if v = 6 then nW (pl c t) else x b 6) : BP c r (c * r) (upN P t v) x' b := by
  obtain ⟨h1, h2, h3, h4⟩ := h
  have plt := pl_ok hs ht
  have ut : upN P t v t = v := if_pos rfl
  have uo : ∀ q, q ≠ t → upN P t v q = P q := fun q hq => if_neg hq
  refine ⟨⟨by rw [hf b 0 (by omega) (by omega)]; exact h1.1, by rw [hf b 1 (by omega) (by omega)]; exact h1.2⟩, fun p hp ho => ?_, fun q hq => ?_, fun q hq => ⟨fun e => ?_, fun e => ?_⟩⟩
  · rw [hc p hp, if_neg (by intro e; rw [e, plt.2.2.1] at ho; cases ho)]; exact h2 p hp ho
  · have plq := pl_ok hs hq
    rw [hc _ (by omega)]
    by_cases e : q = t
    · rw [e, if_pos rfl, ut]
    · rw [if_neg (fun e2 => e (pl_inj hs hq ht e2)), uo q e]; exact h3 q hq
  · by_cases q2 : q = t
    · rw [h5, q2, if_pos (show v = 1 by rw [← ut]; rw [q2] at e; exact e)]
    · rw [h5, if_neg (fun z => q2 (hu q t e (by rw [ut]; exact z)))]
      exact (h4 q hq).1 (by rw [← uo q q2]; exact e)
  · by_cases q2 : q = t
    · rw [h6, q2, if_pos (show v = 6 by rw [← ut]; rw [q2] at e; exact e)]
    · rw [h6, if_neg (fun z => q2 (hu6 q t e (by rw [ut]; exact z)))]
      exact (h4 q hq).2 (by rw [← uo q q2]; exact e)
theorem BP.same {c r k b : Nat} {P : Nat → Nat} {x' : Nat → Nat → Int32} (h : BP c r k P x b) (hb : x' b = x b) (h2 : x' (b + 2) = x (b + 2)) : BP c r k P x' b := by
  unfold BP BOff at h ⊢
  rw [hb, h2]; exact h
/-- what the parser may write while it reads a piece -/
def CPF (b : Nat) (x x' : Nat → Nat → Int32) : Prop := ∀ d j, ¬ (d = 2 ∧ 1 ≤ j ∧ j ≤ 4) → ¬ (d = 1 ∧ (1 ≤ j ∧ j ≤ 2 ∨ j = 10)) → ¬ (d = b ∧ (j = 5 ∨ j = 6)) → d ≠ b + 2 → x' d j = x d j
theorem CPF.trans {b : Nat} {x x' x2 : Nat → Nat → Int32} (h : CPF b x x') (h2 : CPF b x' x2) : CPF b x x2 := fun d j q1 q2 q3 q4 => (h2 d j q1 q2 q3 q4).trans (h d j q1 q2 q3 q4)
theorem CPF.of {b : Nat} {x x' : Nat → Nat → Int32} (h : ∀ d j, ¬ (d = 2 ∧ 1 ≤ j ∧ j ≤ 4) → x' d j = x d j) : CPF b x x' := fun d j q _ _ _ => h d j q
theorem CPF.of2 {b : Nat} {x x' : Nat → Nat → Int32} (h : ∀ d j, ¬ (d = 2 ∧ 1 ≤ j ∧ j ≤ 4) → ¬ (d = 1 ∧ 1 ≤ j ∧ j ≤ 2) → x' d j = x d j) : CPF b x x' := fun d j q q2 _ _ => h d j q (fun z => q2 ⟨z.1, Or.inl z.2⟩)
theorem CPF.of3 {b : Nat} {x x' : Nat → Nat → Int32} (h : ∀ d j, ¬ (d = 1 ∧ 1 ≤ j ∧ j ≤ 2) → x' d j = x d j) : CPF b x x' := fun d j _ q2 _ _ => h d j (fun z => q2 ⟨z.1, Or.inl z.2⟩)
/-- the column, the row and what follows -/
theorem piece74_ok (h : PSh G) {s b c r col kd : Nat} {P : Nat → Nat} (hs : CSt x T L s) (hbs : BSh G b) (hbn : 10 ≤ b) (hI : PInv c r P) (hB : BP c r (c * r) P x b) (hc : col < 2) (hk : kd < 5) (hn : npc (c * r) P ≠ 10) (hu : ¬ (kd = 0 ∧ fnd (c * r) P (kgc col) < c * r)) :
    ∃ v x', fX2_readPiece_74 1 b (nW col) (nW kd) (wIJ G x y) = some (v, wIJ G x' y) ∧ CPF b x x' ∧ ((∃ e, zB (pNum T L (nx T L s) 0 c) (fun q => zB (pNum T L q.2 0 r) fun q2 => if P (q2.1 * c + q.1) = 0 then (if srt T L q2.2 = 4 then .inr (upN P (q2.1 * c + q.1) (1 + 5 * col + kd), nx T L q2.2) else .inl (1, q2.2)) else .inl (3, q.2)) = .inl e ∧ v = nW 0 ∧ CBd x' e) ∨ (∃ P' s', zB (pNum T L (nx T L s) 0 c) (fun q => zB (pNum T L q.2 0 r) fun q2 => if P (q2.1 * c + q.1) = 0 then (if srt T L q2.2 = 4 then .inr (upN P (q2.1 * c + q.1) (1 + 5 * col + kd), nx T L q2.2) else .inl (1, q2.2)) else .inl (3, q.2)) = .inr (P', s') ∧ v = nW 1 ∧ CSt x' T L s' ∧ BP c r (c * r) P' x' b ∧ x' 1 10 = x 1 10 ∧ ∃ t, t < c * r ∧ P t = 0 ∧ P' = upN P t (1 + 5 * col + kd))) := by
  obtain ⟨hz, i2, i3, i4, i5⟩ := id hI
  obtain ⟨c3, c7, r3, r7⟩ := id hz
  obtain ⟨x1, a1, a2, a3⟩ := cnext (y := y) h hs
  have fr1 : CPF b x x1 := CPF.of a2
  have B1 : BP c r (c * r) P x1 b := hB.same (funext fun j => a2 b j (by omega)) (funext fun j => a2 (b + 2) j (by omega))
  unfold fX2_readPiece_74
  simp only [lits]
  rw [gR_wij, h.g0, Option.bind_some, ck_wij, ck_ok h.2.1.1, a1, Option.bind_some, gF_wij hbs.1, B1.1.1, Option.bind_some, ck_wij, ck_ok h.1.1]
  obtain ⟨v2, x2, b1, b2, b3⟩ := cnum (y := y) (lo := 0) (hb := c) h a3 (by decide) (by omega)
  have fr2 : CPF b x x2 := fr1.trans (CPF.of2 b2)
  have B2 : BP c r (c * r) P x2 b := B1.same (funext fun j => b2 b j (by omega) (by omega)) (funext fun j => b2 (b + 2) j (by omega) (by omega))
  rw [b1, Option.bind_some]
  rcases b3 with ⟨e, e1, e2, e3⟩ | ⟨k, s2, e1, ek, e2, e3⟩
  · rw [e2, if_pos (show -nW 1 = -nW 1 from rfl)]
    exact ⟨_, x2, rfl, fr2, Or.inl ⟨e, zB_l e1 _, rfl, e3⟩⟩
  · rw [e2, if_neg (show ¬ nW k = -nW 1 from nW_m1 (by omega)), gR_wij, h.g0, Option.bind_some, gF_wij h.2.1.1, e3.2.1.2.2.1, Option.bind_some, gF_wij hbs.1, B2.1.2, Option.bind_some, ck_wij, ck_ok h.1.1]
    obtain ⟨v3, x3, d1, d2, d3⟩ := cnum (y := y) (lo := 0) (hb := r) h e3 (by decide) (by omega)
    have fr3 : CPF b x x3 := fr2.trans (CPF.of2 d2)
    have B3 : BP c r (c * r) P x3 b := B2.same (funext fun j => d2 b j (by omega) (by omega)) (funext fun j => d2 (b + 2) j (by omega) (by omega))
    rw [d1, Option.bind_some, zB_r e1]
    rcases d3 with ⟨e, g1, g2, g3⟩ | ⟨k2, s3, g1, gk, g2, g3⟩
    · rw [g2, if_pos (show -nW 1 = -nW 1 from rfl)]
      exact ⟨_, x3, rfl, fr3, Or.inl ⟨e, zB_l g1 _, rfl, g3⟩⟩
    · have ht := grid_lt gk ek
      have p11 := i2 (k2 * c + k)
      rw [g2, if_neg (show ¬ nW k2 = -nW 1 from nW_m1 (by omega)), zB_r g1, ck_wij, ck_ok hbs.1, at_ok hbs hz gk ek, Option.bind_some, B3.2.2.1 _ ht]
      have e0 := enc_s5 0 (by decide) _ (show P (k2 * c + k) < 13 by omega)
      by_cases hP : P (k2 * c + k) = 0
      · rw [if_pos (show nW (enc (P (k2 * c + k))) = nW 0 from e0.mpr hP), if_pos hP]
        unfold fX6_contentOf fX6_contentOf_0
        simp only [lits]
        rw [Option.bind_some, enc_piece col hc kd hk, ck_wij, ck_ok hbs.1]
        obtain ⟨x4, f1, f2, f3, f4, f5⟩ := put_ok (x := x3) (y := y) hbs hz gk ek (show 1 + 5 * col + kd < 11 by omega)
        obtain ⟨j1, j2⟩ := hI.up ht hP hc hk hn hu
        have B4 : BP c r (c * r) (upN P (k2 * c + k) (1 + 5 * col + kd)) x4 b := B3.up hz ht (j1.2.2.2.1 0 (by decide)) (j1.2.2.2.1 1 (by decide)) f2 f3 f4 f5
        have s4 : CSt x4 T L s3 := g3.same (funext fun j => f2 2 j (by omega) (by omega)) (funext fun j => f2 3 j (by omega) (by omega)) ⟨f2 1 1 (by omega) (by omega), f2 1 2 (by omega) (by omega)⟩
        have fr4 : CPF b x x4 := fr3.trans fun d j q1 q2 q3 q4 => f2 d j q3 q4
        rw [f1, Option.bind_some, ck_wij, ck_ok h.1.1]
        obtain ⟨x5, m1, m2, m3⟩ := isSemicolon_ok (y := y) h s4.2.1
        rw [m1, Option.bind_some]
        rcases m3 with ⟨g, rfl⟩ | ⟨g, gg⟩
        · obtain ⟨x6, n1, n2, n3⟩ := cnext (y := y) h s4
          rw [decide_eq_true g, if_neg bIt, gR_wij, h.g0, Option.bind_some, ck_wij, ck_ok h.2.1.1, n1, Option.bind_some, if_pos g]
          refine ⟨_, x6, rfl, fr4.trans (CPF.of n2), Or.inr ⟨_, _, rfl, rfl, n3, B4.same (funext fun j => n2 b j (by omega)) (funext fun j => n2 (b + 2) j (by omega)), ?_, _, ht, hP, rfl⟩⟩
          rw [n2 1 10 (by omega), f2 1 10 (by omega) (by omega), d2 1 10 (by omega) (by omega), b2 1 10 (by omega) (by omega), a2 1 10 (by omega)]
        · rw [decide_eq_false g, if_pos bIf, if_neg g]
          exact ⟨_, x5, rfl, fr4.trans (CPF.of3 m2), Or.inl ⟨_, rfl, rfl, gg⟩⟩
      · rw [if_neg (show ¬ nW (enc (P (k2 * c + k))) = nW 0 from fun z => hP (e0.mp z)), if_neg hP, ck_wij, ck_ok h.1.1]
        unfold fX2_rejectAt fX2_rejectAt_0
        simp only [lits]
        rw [pI_wij h.1.1, Option.bind_some, pI_wij h.1.1, Option.bind_some, Option.bind_some, rz0]
        exact ⟨_, _, rfl, fr3.trans (CPF.of3 fun d j q => by rw [u2_other (by omega), u2_other (by omega)]), Or.inl ⟨_, rfl, rfl, by rw [u2_other (by omega), u2_same], u2_same⟩⟩
theorem piece17_ok (h : PSh G) {s b c r col : Nat} {P : Nat → Nat} (hs : CSt x T L s) (hbs : BSh G b) (hbn : 10 ≤ b) (hI : PInv c r P) (hB : BP c r (c * r) P x b) (hK : x 1 10 = nW (kmk (c * r) P)) (hc : colN T L s = col) (hc2 : col < 2) (hn : npc (c * r) P ≠ 10) :
    ∃ v x', fX2_readPiece_17 1 b (nW col) (wIJ G x y) = some (v, wIJ G x' y) ∧ CPF b x x' ∧ ((∃ e, pPiece T L c r P s = .inl e ∧ v = nW 0 ∧ CBd x' e) ∨ (∃ P' s', pPiece T L c r P s = .inr (P', s') ∧ v = nW 1 ∧ CSt x' T L s' ∧ BP c r (c * r) P' x' b ∧ x' 1 10 = nW (kmk (c * r) P'))) := by
  obtain ⟨x1, a1, a2, a3⟩ := cnext (y := y) h hs
  have fr1 : CPF b x x1 := CPF.of a2
  have B1 : BP c r (c * r) P x1 b := hB.same (funext fun j => a2 b j (by omega)) (funext fun j => a2 (b + 2) j (by omega))
  have K1 : x1 1 10 = nW (kmk (c * r) P) := (a2 1 10 (by omega)).trans hK
  unfold fX2_readPiece_17
  simp only [lits]
  rw [gR_wij, h.g0, Option.bind_some, ck_wij, ck_ok h.2.1.1, a1, Option.bind_some, ck_wij, ck_ok h.1.1, ckindHere_ok h a3.1 a3.2.1, Option.bind_some]
  have eP : pPiece T L c r P s = if kdN T L (nx T L s) = 5 then .inl (1, nx T L s) else if kdN T L (nx T L s) = 0 ∧ fnd (c * r) P (kgc col) < c * r then .inl (4, nx T L s) else zB (pNum T L (nx T L (nx T L s)) 0 c) fun q => zB (pNum T L q.2 0 r) fun q2 => if P (q2.1 * c + q.1) = 0 then (if srt T L q2.2 = 4 then .inr (upN P (q2.1 * c + q.1) (1 + 5 * col + kdN T L (nx T L s)), nx T L q2.2) else .inl (1, q2.2)) else .inl (3, q.2) := by
    unfold pPiece
    rw [hc, if_neg (by omega), if_neg hn]
  rcases knd_kdN (T := T) (L := L) (s := nx T L s) with ⟨z1, z2⟩ | ⟨z1, z2⟩
  · rw [z2, if_neg (show ¬ nW (kdN T L (nx T L s)) = -nW 1 from nW_m1 (by omega))]
    rw [if_neg (by omega)] at eP
    have km := kmk_bits _ (kmk_lt (c * r) P) col hc2
    have kh := kmk_has (n := c * r) (P := P) hc2
    by_cases hk0 : kdN T L (nx T L s) = 0
    · rw [if_pos (show nW (kdN T L (nx T L s)) = nW 0 by rw [hk0]), gF_wij h.1.1, K1, Option.bind_some]
      by_cases hh : fnd (c * r) P (kgc col) < c * r
      · rw [if_neg (fun z => (kh.mp (km.1.mp z)) hh), ck_wij, ck_ok h.1.1, reject_ok h a3.2.1, Option.bind_some, rz0, eP, if_pos ⟨hk0, hh⟩]
        exact ⟨_, _, rfl, fr1.trans (CPF.of3 fun d j q => by rw [u2_other (by omega), u2_other (by omega)]), Or.inl ⟨_, rfl, rfl, by rw [u2_other (by omega), u2_same], u2_same⟩⟩
      · have hkm := kh.mpr hh
        rw [if_pos (km.1.mpr hkm), Option.bind_some, km.2 hkm, pI_wij h.1.1, Option.bind_some]
        have s2 : CSt (u2 x1 1 10 (nW (kmk (c * r) P + 2 ^ col))) T L (nx T L s) := a3.same (by rw [u2_arow (by omega)]) (by rw [u2_arow (by omega)]) ⟨by rw [u2_other (by omega)], by rw [u2_other (by omega)]⟩
        obtain ⟨v, x', q1, q2, q3⟩ := piece74_ok (y := y) (col := col) (kd := kdN T L (nx T L s)) h s2 hbs hbn hI (B1.same (by rw [u2_arow (by omega)]) (by rw [u2_arow (by omega)])) hc2 z1 hn (fun z => hh z.2)
        rw [eP, if_neg (fun z => hh z.2), q1]
        have fr : CPF b x x' := (fr1.trans (fun d j _ p2 _ _ => u2_other (by omega))).trans q2
        refine ⟨v, x', rfl, fr, ?_⟩
        rcases q3 with ⟨e, e1, e2, e3⟩ | ⟨P', s', e1, e2, e3, e4, e5, t, e6, e7, e8⟩
        · exact Or.inl ⟨e, e1, e2, e3⟩
        · refine Or.inr ⟨P', s', e1, e2, e3, e4, ?_⟩
          rw [e5, u2_same, e8, kmk_up e6 e7, hk0]
          congr 1
          have kh0 := kh.mpr hh
          unfold kmk at kh0 ⊢
          have : col = 0 ∨ col = 1 := by omega
          rcases this with rfl | rfl
          · have hh : ¬ fnd (c * r) P 1 < c * r := hh
            by_cases g6 : fnd (c * r) P 6 < c * r <;> simp [hh, g6]
          · have hh : ¬ fnd (c * r) P 6 < c * r := hh
            by_cases g1 : fnd (c * r) P 1 < c * r <;> simp [hh, g1]
    · obtain ⟨v, x', q1, q2, q3⟩ := piece74_ok (y := y) (col := col) (kd := kdN T L (nx T L s)) h a3 hbs hbn hI B1 hc2 z1 hn (fun z => hk0 z.1)
      rw [if_neg (show ¬ nW (kdN T L (nx T L s)) = nW 0 by rw [nW_eq (by omega) (by decide)]; exact hk0), eP, if_neg (fun z => hk0 z.1), q1]
      refine ⟨v, x', rfl, fr1.trans q2, ?_⟩
      rcases q3 with ⟨e, e1, e2, e3⟩ | ⟨P', s', e1, e2, e3, e4, e5, t, e6, e7, e8⟩
      · exact Or.inl ⟨e, e1, e2, e3⟩
      · refine Or.inr ⟨P', s', e1, e2, e3, e4, ?_⟩
        rw [e5, K1, e8, kmk_up e6 e7]
        congr 1
        unfold kmk
        have n1 : ¬ 1 + 5 * col + kdN T L (nx T L s) = 1 := by omega
        have n6 : ¬ 1 + 5 * col + kdN T L (nx T L s) = 6 := by omega
        simp only [n1, n6, or_false]
  · rw [z2, if_pos (show -nW 1 = -nW 1 from rfl), ck_wij, ck_ok h.1.1, reject_ok h a3.2.1, Option.bind_some, rz0, eP, if_pos z1]
    exact ⟨_, _, rfl, fr1.trans (CPF.of3 fun d j q => by rw [u2_other (by omega), u2_other (by omega)]), Or.inl ⟨_, rfl, rfl, by rw [u2_other (by omega), u2_same], u2_same⟩⟩
theorem isColour_ok (h : PSh G) {s : Nat} (hs : CSt x T L s) : fX2_isColour 1 (wIJ G x y) = some (bI (!decide (colN T L s = 2)), wIJ G x y) := by
  unfold fX2_isColour fX2_isColour_0 fX2_isColour_24 fX2_isColour_29 colN
  simp only [lits]
  rw [gR_wij, h.g0, Option.bind_some, ck_wij, ck_ok h.2.1.1, is_ok h hs.1 hs.2.1 (by decide), Option.bind_some]
  cases h1 : isw T L s 1 with
  | true => rw [if_neg bIt, if_pos rfl, rz1]; rfl
  | false =>
    rw [if_pos bIf, if_neg (by decide), gR_wij, h.g0, Option.bind_some, ck_wij, ck_ok h.2.1.1, is_ok h hs.1 hs.2.1 (by decide), Option.bind_some]
    cases h2 : isw T L s 2 with
    | true => rw [if_neg bIt, if_pos rfl, rz1]; rfl
    | false => rw [if_pos bIf, if_neg (by decide), rz0]; rfl
theorem readPiece_ok (h : PSh G) {s b c r : Nat} {P : Nat → Nat} (hs : CSt x T L s) (hbs : BSh G b) (hbn : 10 ≤ b) (hI : PInv c r P) (hB : BP c r (c * r) P x b) (hK : x 1 10 = nW (kmk (c * r) P)) (hc : colN T L s ≠ 2) (hn : npc (c * r) P ≠ 10) :
    ∃ v x', fX2_readPiece 1 b (wIJ G x y) = some (v, wIJ G x' y) ∧ CPF b x x' ∧ ((∃ e, pPiece T L c r P s = .inl e ∧ v = nW 0 ∧ CBd x' e) ∨ (∃ P' s', pPiece T L c r P s = .inr (P', s') ∧ v = nW 1 ∧ CSt x' T L s' ∧ BP c r (c * r) P' x' b ∧ x' 1 10 = nW (kmk (c * r) P'))) := by
  unfold fX2_readPiece fX2_readPiece_0
  simp only [lits]
  rw [gR_wij, h.g0, Option.bind_some, ck_wij, ck_ok h.2.1.1, is_ok h hs.1 hs.2.1 (by decide), Option.bind_some]
  cases h1 : isw T L s 1 with
  | true =>
    rw [if_neg bIt]
    exact piece17_ok h hs hbs hbn hI hB hK (if_pos h1) (by decide) hn
  | false =>
    have h2 : isw T L s 2 = true := by
      cases h2 : isw T L s 2 with
      | true => rfl
      | false =>
        refine absurd ?_ hc
        unfold colN
        rw [h1, h2, if_neg (by decide), if_neg (by decide)]
    rw [if_pos bIf]
    refine piece17_ok h hs hbs hbn hI hB hK ?_ (by decide) hn
    unfold colN
    rw [h1, h2, if_neg (by decide), if_pos rfl]
end CSETUP
