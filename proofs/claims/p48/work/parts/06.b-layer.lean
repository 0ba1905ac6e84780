/-! ===== layers of positions, as mathematics ===== -/
abbrev Lay : Type := Nat × (Nat → Nat → Nat) × (Nat → Nat)
abbrev Edg : Type := Nat × (Nat → Nat × Nat × Nat × Nat)
def lyc (L : Lay) : Nat := L.1
def lyp (L : Lay) : Nat → Nat → Nat := L.2.1
def lyg (L : Lay) : Nat → Nat := L.2.2
def egc (E : Edg) : Nat := E.1
def egd (E : Edg) : Nat → Nat × Nat × Nat × Nat := E.2
def updF {α : Type} (f : Nat → α) (i : Nat) (v : α) : Nat → α := fun j => if j = i then v else f j
def eqP (n : Nat) (P Q : Nat → Nat) : Bool := allN n fun k => decide (P k = Q k)
theorem allN_mk {f : Nat → Bool} : ∀ {n : Nat}, (∀ i, i < n → f i = true) → allN n f = true := by
  intro n
  induction n with
  | zero => intro _; rfl
  | succ n ih =>
    intro h
    show (allN n f && f n) = true
    rw [ih (fun i hi => h i (by omega)), h n (by omega)]; rfl
theorem eqP_iff {n : Nat} {P Q : Nat → Nat} : eqP n P Q = true ↔ ∀ k, k < n → P k = Q k :=
  ⟨fun h k hk => of_decide_eq_true (allN_at h k hk), fun h => allN_mk fun k hk => decide_eq_true (h k hk)⟩
def fxF (n : Nat) (L : Lay) (Q : Nat → Nat) : Nat → Nat → Nat
  | 0, i => i
  | d + 1, i => if eqP n (lyp L i) Q = true then i else fxF n L Q d (i + 1)
/-- the number of a position in a layer; the number of positions if it is new -/
def fxi (n : Nat) (L : Lay) (Q : Nat → Nat) : Nat := fxF n L Q (lyc L) 0
theorem fxF_spec {n : Nat} {L : Lay} {Q : Nat → Nat} : ∀ (d i : Nat), i ≤ fxF n L Q d i ∧ fxF n L Q d i ≤ i + d ∧ (fxF n L Q d i < i + d → eqP n (lyp L (fxF n L Q d i)) Q = true) ∧ ∀ j, i ≤ j → j < fxF n L Q d i → eqP n (lyp L j) Q = false := by
  intro d
  induction d with
  | zero => intro i; exact ⟨Nat.le_refl _, Nat.le_refl _, fun h => absurd h (Nat.lt_irrefl _), fun j h1 h2 => by have : j < i := h2; omega⟩
  | succ d ih =>
    intro i
    by_cases h : eqP n (lyp L i) Q = true
    · have e : fxF n L Q (d + 1) i = i := by unfold fxF; rw [if_pos h]
      rw [e]
      exact ⟨Nat.le_refl _, by omega, fun _ => h, fun j h1 h2 => by omega⟩
    · have e : fxF n L Q (d + 1) i = fxF n L Q d (i + 1) := by
        show (if eqP n (lyp L i) Q = true then i else fxF n L Q d (i + 1)) = _
        rw [if_neg h]
      obtain ⟨a1, a2, a3, a4⟩ := ih (i + 1)
      rw [e]
      refine ⟨by omega, by omega, fun q => a3 (by omega), fun j h1 h2 => ?_⟩
      by_cases ej : j = i
      · rw [ej]; simpa using h
      · exact a4 j (by omega) h2
theorem fxi_spec {n : Nat} {L : Lay} {Q : Nat → Nat} : fxi n L Q ≤ lyc L ∧ (fxi n L Q < lyc L → eqP n (lyp L (fxi n L Q)) Q = true) ∧ ∀ j, j < fxi n L Q → eqP n (lyp L j) Q = false := by
  obtain ⟨-, a2, a3, a4⟩ := fxF_spec (n := n) (L := L) (Q := Q) (lyc L) 0
  rw [Nat.zero_add] at a2 a3
  exact ⟨a2, a3, fun j hj => a4 j (Nat.zero_le _) hj⟩
/-- a position gets games, and is added if it is new -/
def addP (L : Lay) (Q : Nat → Nat) (i g : Nat) : Lay := if i = lyc L then (lyc L + 1, updF (lyp L) i Q, updF (lyg L) i g) else (lyc L, lyp L, updF (lyg L) i (lyg L i + g))
def addE (E : Edg) (e : Nat × Nat × Nat × Nat) : Edg := (egc E + 1, updF (egd E) (egc E) e)
def amv (n : Nat) (Lp : Lay) (m : Nat × Nat × Nat) (st : Lay × Edg) : Option (Lay × Edg) :=
  if fxi n st.1 (mvd (lyp Lp m.1) m.2.1 m.2.2) = 40 then none
  else some (addP st.1 (mvd (lyp Lp m.1) m.2.1 m.2.2) (fxi n st.1 (mvd (lyp Lp m.1) m.2.1 m.2.2)) (lyg Lp m.1), addE st.2 (m.1, fxi n st.1 (mvd (lyp Lp m.1) m.2.1 m.2.2), m.2.1, m.2.2))
def runL (n : Nat) (Lp : Lay) : List (Nat × Nat × Nat) → Lay × Edg → Option (Lay × Edg)
  | [], st => some st
  | m :: l, st => (amv n Lp m st).bind (runL n Lp l)
theorem runL_app {n : Nat} {Lp : Lay} : ∀ (l1 l2 : List (Nat × Nat × Nat)) (st : Lay × Edg), runL n Lp (l1 ++ l2) st = (runL n Lp l1 st).bind (runL n Lp l2) := by
  intro l1
  induction l1 with
  | nil => intro l2 st; rfl
  | cons m l ih =>
    intro l2 st
    show (amv n Lp m st).bind (runL n Lp (l ++ l2)) = ((amv n Lp m st).bind (runL n Lp l)).bind _
    cases amv n Lp m st with
    | none => rfl
    | some s => exact ih l2 s
/-- the moves of one position of a layer -/
def evP (c n : Nat) (N : Nat → Int32) (col : Nat) (Lp : Lay) (p : Nat) : List (Nat × Nat × Nat) := (mvl c n N (lyp Lp p) col).map fun m => (p, m.1, m.2)
def evs (c n : Nat) (N : Nat → Int32) (col : Nat) (Lp : Lay) (k : Nat) : List (Nat × Nat × Nat) := (List.range k).flatMap (evP c n N col Lp)
theorem evs_succ {c n : Nat} {N : Nat → Int32} {col : Nat} {Lp : Lay} {k : Nat} : evs c n N col Lp (k + 1) = evs c n N col Lp k ++ evP c n N col Lp k := by
  unfold evs
  rw [List.range_succ, List.flatMap_append]
  simp
def Ly0 : Lay := (0, fun _ _ => 0, fun _ => 0)
def Eg0 : Edg := (0, fun _ => (0, 0, 0, 0))
/-- the layer behind a note -/
def stepL (c n : Nat) (N : Nat → Int32) (col : Nat) (Lp : Lay) : Option (Lay × Edg) := runL n Lp (evs c n N col Lp (lyc Lp)) (Ly0, Eg0)
/-! ===== copies of rows ===== -/
theorem cpI_wij {G : Mem} {x : Nat → Nat → Int32} {y : Nat → Nat → Int64} {a b p q n : Nat} (ha : mt G a = 1) (hb : mt G b = 1) (h1 : p + n ≤ mn G a) (h2 : q + n ≤ mn G b) (h3 : p + n + q < 2147483648) : cpI (wIJ G x y) a (nW p) b (nW q) (nW n) = some (wIJ G (ur x b (va_cpy (x a) (x b) p q n)) y) := by
  unfold cpI
  rw [nW_int (by omega), nW_int (by omega), nW_int (by omega), nW_clamp (by omega), nW_clamp (by omega), nW_clamp (by omega), if_pos ⟨ha, hb, by omega, by omega, by omega, h1, h2⟩]
  rfl
theorem cpJ_wij {G : Mem} {x : Nat → Nat → Int32} {y : Nat → Nat → Int64} {a b p q n : Nat} (ha : mt G a = 5) (hb : mt G b = 5) (h1 : p + n ≤ mn G a) (h2 : q + n ≤ mn G b) (h3 : p + n + q < 2147483648) : cpJ (wIJ G x y) a (nW p) b (nW q) (nW n) = some (wIJ G x (ur y b (va_cpy (y a) (y b) p q n))) := by
  unfold cpJ
  rw [nW_int (by omega), nW_int (by omega), nW_int (by omega), nW_clamp (by omega), nW_clamp (by omega), nW_clamp (by omega), if_pos ⟨ha, hb, by omega, by omega, by omega, h1, h2⟩]
  rfl
theorem ur_same {α : Type} {f : Nat → Nat → α} {a : Nat} {g : Nat → α} {j : Nat} : ur f a g a j = g j := if_pos rfl
theorem ur_apart {α : Type} {f : Nat → Nat → α} {a b : Nat} {g : Nat → α} {j : Nat} (h : b ≠ a) : ur f a g b j = f b j := if_neg h
theorem ur_row {α : Type} {f : Nat → Nat → α} {a : Nat} {g : Nat → α} : ur f a g a = g := funext fun _ => if_pos rfl
theorem ur_arow {α : Type} {f : Nat → Nat → α} {a b : Nat} {g : Nat → α} (h : b ≠ a) : ur f a g b = f b := funext fun _ => if_neg h
theorem u2_arow {α : Type} {f : Nat → Nat → α} {a b k : Nat} {v : α} (h : b ≠ a) : u2 f a k v b = f b := funext fun _ => if_neg fun q => h q.1
theorem cpy_in {α : Type} {f g : Nat → α} {p q n k : Nat} (h1 : q ≤ k) (h2 : k < q + n) : va_cpy f g p q n k = f (p + (k - q)) := if_pos ⟨h1, h2⟩
theorem cpy_out {α : Type} {f g : Nat → α} {p q n k : Nat} (h : k < q ∨ q + n ≤ k) : va_cpy f g p q n k = g k := if_neg (by omega)
section REACH
variable {G : Mem} {a l ln : Nat} {x : Nat → Nat → Int32} {y : Nat → Nat → Int64}
theorem lgc_t (v w : Int64) : (lg_cmp v w = (0 : Int32)) ↔ v = w := lgc_0 v w
/-- the number of the position that was reached -/
theorem findReached_ok (h : SSh G a l ln) {n i1 : Nat} (hi1 : i1 < 11) {L : Lay} {Q : Nat → Nat} (hn : n ≤ 36) (h40 : lyc L ≤ 40) (hx : x (a + 5) i1 = nW (lyc L)) (hw : ∀ p, p < lyc L → PK (y (a + 7)) ((i1 * 40 + p) * 3) (lyp L p)) (hr : PK (y (a + 8)) 0 Q)
    (hL : ∀ p, p < lyc L → (∀ k, lyp L p k < 11) ∧ ∀ k, n ≤ k → lyp L p k = 0) (hQ : (∀ k, Q k < 11) ∧ ∀ k, n ≤ k → Q k = 0) :
    fX3_findReached a (nW i1) (wIJ G x y) = (if fxi n L Q = 40 then some (-nW 1, wIJ G x y) else if fxi n L Q = lyc L then some (nW (lyc L), wIJ G (u2 x (a + 5) i1 (nW (lyc L + 1))) (u2 (ur y (a + 7) (va_cpy (y (a + 8)) (y (a + 7)) 0 ((i1 * 40 + lyc L) * 3) 3)) (a + 6) (i1 * 40 + lyc L) 0)) else some (nW (fxi n L Q), wIJ G x y)) := by
  obtain ⟨f1, f2, f3⟩ := fxi_spec (n := n) (L := L) (Q := Q)
  have same : ∀ p, p < lyc L → ((y (a + 7) ((i1 * 40 + p) * 3) = y (a + 8) 0 ∧ y (a + 7) ((i1 * 40 + p) * 3 + 1) = y (a + 8) (0 + 1) ∧ y (a + 7) ((i1 * 40 + p) * 3 + 2) = y (a + 8) (0 + 2)) ↔ eqP n (lyp L p) Q = true) := by
    intro p hp
    rw [PK_eq (hw p hp) hr (hL p hp).1 hQ.1, eqP_iff]
    refine ⟨fun e k hk => e k (by omega), fun e k _ => ?_⟩
    by_cases hk : k < n
    · exact e k hk
    · rw [(hL p hp).2 k (by omega), hQ.2 k (by omega)]
  have step : ∀ p, p < lyc L → fX3_findReached_29 a (nW i1) (nW (lyc L)) (nW ((i1 * 40 + p) * 3)) (nW p) (wIJ G x y) = if eqP n (lyp L p) Q = true then some (.inr (nW p), wIJ G x y) else some (.inl (nW ((i1 * 40 + (p + 1)) * 3), nW (p + 1)), wIJ G x y) := by
    intro p hp
    have nxt : fX3_findReached_90 a (nW i1) (nW (lyc L)) (nW ((i1 * 40 + p) * 3)) (nW p) (wIJ G x y) = some (.inl (nW ((i1 * 40 + (p + 1)) * 3), nW (p + 1)), wIJ G x y) := by
      unfold fX3_findReached_90
      simp only [lits, nW_add]
      rw [show (i1 * 40 + p) * 3 + 3 = (i1 * 40 + (p + 1)) * 3 by omega]
    unfold fX3_findReached_29 fX3_findReached_87
    rw [nxt]
    simp only [gR_wij, h.g5, h.g6, Option.bind_some, lgc_t]
    simp only [lits, nW_add]
    rw [if_neg (by rw [nW_le (by omega) (by omega)]; omega), h.r7 (by omega), Option.bind_some, h.r8 (by omega), Option.bind_some]
    by_cases e0 : y (a + 7) ((i1 * 40 + p) * 3) = y (a + 8) 0
    · rw [if_pos e0, h.r7 (by omega), Option.bind_some, h.r8 (by omega), Option.bind_some]
      by_cases e1 : y (a + 7) ((i1 * 40 + p) * 3 + 1) = y (a + 8) 1
      · rw [if_pos e1, h.r7 (by omega), Option.bind_some, h.r8 (by omega), Option.bind_some]
        by_cases e2 : y (a + 7) ((i1 * 40 + p) * 3 + 2) = y (a + 8) 2
        · rw [if_pos e2, if_pos ((same p hp).mp ⟨e0, e1, e2⟩)]; rfl
        · rw [if_neg e2, if_neg (fun q => e2 ((same p hp).mpr q).2.2)]
      · rw [if_neg e1, if_neg (fun q => e1 ((same p hp).mpr q).2.1)]
    · rw [if_neg e0, if_neg (fun q => e0 ((same p hp).mpr q).1)]
  have last : fX3_findReached_99 a (nW i1) (nW (lyc L)) (nW ((i1 * 40 + lyc L) * 3)) (wIJ G x y) = if lyc L = 40 then some (-nW 1, wIJ G x y) else some (nW (lyc L), wIJ G (u2 x (a + 5) i1 (nW (lyc L + 1))) (u2 (ur y (a + 7) (va_cpy (y (a + 8)) (y (a + 7)) 0 ((i1 * 40 + lyc L) * 3) 3)) (a + 6) (i1 * 40 + lyc L) 0)) := by
    unfold fX3_findReached_99
    simp only [lits]
    by_cases hc : lyc L = 40
    · rw [if_neg (by rw [nW_lt (by omega) (by omega)]; omega), if_pos hc]
    · rw [if_pos (by rw [nW_lt (by omega) (by omega)]; omega), if_neg hc, gR_wij, h.g6, Option.bind_some, gR_wij, h.g5, Option.bind_some, cpJ_wij h.2.2.2.2.2.2.2.1.1 h.2.2.2.2.2.2.1.1 (by have := h.2.2.2.2.2.2.2.1.2; omega) (by rw [h.2.2.2.2.2.2.1.2]; omega) (by omega), Option.bind_some, gR_wij, h.g4, Option.bind_some, nW_mul, nW_add, h.w6 (by omega), Option.bind_some, gR_wij, h.g3, Option.bind_some, nW_add, h.w5 hi1, Option.bind_some]
  unfold fX3_findReached fX3_findReached_0
  rw [if_neg (show ¬ nW i1 < (0 : Int32) from nW_neg_lt (by omega)), if_pos (show nW i1 < (11 : Int32) from (nW_lt (by omega) (by decide)).mpr hi1)]
  rw [gR_wij, h.g3, Option.bind_some, h.r5 hi1, Option.bind_some, hx]
  simp only [lits, nW_mul]
  have start : (nW (i1 * 40 * 3), nW 0) = ((fun p : Nat => ((nW ((i1 * 40 + p) * 3), nW p) : Int32 × Int32)) 0) := rfl
  rw [start]
  by_cases hlt : fxi n L Q < lyc L
  · rw [if_neg (by omega), if_neg (by omega)]
    exact loop_to (f := fun (s : Int32 × Int32) G => fX3_findReached_29 a (nW i1) (nW (lyc L)) s.1 s.2 G) (fun p => (nW ((i1 * 40 + p) * 3), nW p)) (fun _ => wIJ G x y) (fxi n L Q) (nW (fxi n L Q)) (wIJ G x y) (fun i hi => by
      show fX3_findReached_29 _ _ _ _ _ _ = _
      rw [step i (by omega), if_neg (by rw [f3 i hi]; decide)]) (by
      show fX3_findReached_29 _ _ _ _ _ _ = _
      rw [step _ hlt, if_pos (f2 hlt)]) (fxi n L Q) 0 FU (by omega) (by show fxi n L Q < 100000; omega)
  · have e : fxi n L Q = lyc L := by omega
    rw [e]
    have go : ∀ (v : Int32) (G2 : Mem), fX3_findReached_99 a (nW i1) (nW (lyc L)) (nW ((i1 * 40 + lyc L) * 3)) (wIJ G x y) = some (v, G2) → loopM (fun (s : Int32 × Int32) G => fX3_findReached_29 a (nW i1) (nW (lyc L)) s.1 s.2 G) FU ((fun p : Nat => ((nW ((i1 * 40 + p) * 3), nW p) : Int32 × Int32)) 0) (wIJ G x y) = some (v, G2) := by
      intro v G2 h87
      exact loop_to (f := fun (s : Int32 × Int32) G => fX3_findReached_29 a (nW i1) (nW (lyc L)) s.1 s.2 G) (fun p => (nW ((i1 * 40 + p) * 3), nW p)) (fun _ => wIJ G x y) (lyc L) v G2 (fun i hi => by
        show fX3_findReached_29 _ _ _ _ _ _ = _
        rw [step i hi, if_neg (by rw [f3 i (by omega)]; decide)]) (by
        show fX3_findReached_29 _ _ _ _ _ _ = _
        unfold fX3_findReached_29
        rw [if_pos (by rw [nW_le (by omega) (by omega)]; omega), h87]; rfl) (lyc L) 0 FU (by omega) (by show lyc L < 100000; omega)
    by_cases hc : lyc L = 40
    · rw [if_pos hc] at last ⊢
      exact go _ _ last
    · rw [if_neg hc] at last ⊢
      rw [if_pos rfl]
      exact go _ _ last
end REACH
