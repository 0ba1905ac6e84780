/-! ===== the reference: its shape, and its pieces' ways ===== -/
/-- a row of a kind and a length -/
def RW (G : Mem) (t b n : Nat) : Prop := mt G b = t ∧ mn G b = n
def MSh (G : Mem) (o : Nat) : Prop := (mt G o = 17 ∧ mP G o 0 = some (o + 1) ∧ mP G o 1 = some (o + 2) ∧ mP G o 2 = some (o + 3) ∧ mP G o 3 = some (o + 4) ∧ mP G o 4 = some (o + 5) ∧ mP G o 7 = some (o + 6) ∧ mP G o 8 = some (o + 7) ∧ mP G o 13 = some (o + 8) ∧ mP G o 14 = some (o + 9) ∧ mP G o 15 = some (o + 10) ∧ mP G o 16 = some (o + 11) ∧ mP G o 17 = some (o + 12) ∧ mP G o 18 = some (o + 13) ∧ mP G o 19 = some (o + 14) ∧ mP G o 20 = some (o + 15)) ∧
  (RW G 1 (o + 1) 109 ∧ RW G 1 (o + 2) 872 ∧ RW G 1 (o + 3) 218 ∧ RW G 1 (o + 4) 109 ∧ RW G 3 (o + 5) 2 ∧ RW G 1 (o + 6) 600 ∧ RW G 1 (o + 7) 60 ∧ RW G 1 (o + 8) 15840 ∧ RW G 1 (o + 9) 11 ∧ RW G 1 (o + 10) 16000 ∧ RW G 1 (o + 11) 10 ∧ RW G 1 (o + 12) 36 ∧ RW G 5 (o + 13) 440 ∧ RW G 5 (o + 14) 440 ∧ RW G 3 (o + 15) 1296)
section MSHAPE
variable {G : Mem} {o : Nat} {x : Nat → Nat → Int32} {y : Nat → Nat → Int64}
theorem RW.rd {t b n i : Nat} (h : RW G t b n) (hi : i < n) (hn : n ≤ 20000) : gA (wIJ G x y) t b (nW i) = some (x b i) := gA_wij h.1 (by rw [h.2]; exact hi) (by rw [h.2]; omega)
theorem RW.wr {b n i : Nat} {v : Int32} (h : RW G 1 b n) (hi : i < n) (hn : n ≤ 20000) : pA (wIJ G x y) b (nW i) v = some (wIJ G (u2 x b i v) y) := pA_wij h.1 (by rw [h.2]; exact hi) (by rw [h.2]; omega)
theorem RW.rj {b n i : Nat} (h : RW G 5 b n) (hi : i < n) (hn : n ≤ 20000) : gJ (wIJ G x y) b (nW i) = some (y b i) := gJ_wij h.1 (by rw [h.2]; exact hi) (by rw [h.2]; omega)
theorem RW.wj {b n i : Nat} {v : Int64} (h : RW G 5 b n) (hi : i < n) (hn : n ≤ 20000) : pJ (wIJ G x y) b (nW i) v = some (wIJ G x (u2 y b i v)) := pJ_wij h.1 (by rw [h.2]; exact hi) (by rw [h.2]; omega)
theorem MSh.t (h : MSh G o) : mt G o = 17 := h.1.1
theorem MSh.g0 (h : MSh G o) : gR G 17 o 0 = some (o + 1) := gR_ok h.1.1 h.1.2.1
theorem MSh.r0 (h : MSh G o) : RW G 1 (o + 1) 109 := h.2.1
theorem MSh.s0 (h : MSh G o) {i : Nat} (hi : i < 109) : gA (wIJ G x y) 1 (o + 1) (nW i) = some (x (o + 1) i) := h.r0.rd hi (by decide)
end MSHAPE
def sgI (a b : Nat) : Int := if a < b then 1 else if b < a then -1 else 0
def dlt (c f t : Nat) : Int := sgI (f % c) (t % c) + sgI (f / c) (t / c) * c
def gcM (c r f t : Nat) : Bool := decide (f = t) || (!(onLn c f t || decide (adx c f t = ady c f t)) || (decide ((btw c f t).length < 5) && ((allN ((btw c f t).length + 1) fun i => decide (((btw c f t ++ [t]).getD i 0 : Int) = f + (i + 1) * dlt c f t)) && allN (btw c f t).length fun i => decide ((btw c f t).getD i 0 < c * r) && !decide ((btw c f t).getD i 0 = t))))
set_option maxRecDepth 100000 in
theorem gcM_all : (allN 4 fun c => allN 4 fun r => (fun c r => allN (c * r) fun f => allN (c * r) fun t => gcM c r f t) (c + 3) (r + 3)) = true := by decide +kernel
theorem geoM {c r : Nat} (hs : szs c r) {f t : Nat} (hf : f < c * r) (ht : t < c * r) (hne : f ≠ t) (hl : (adx c f t = 0 ∨ ady c f t = 0) ∨ adx c f t = ady c f t) :
    (btw c f t).length < 5 ∧ (∀ i, i < (btw c f t).length + 1 → ((btw c f t ++ [t]).getD i 0 : Int) = f + (i + 1) * dlt c f t) ∧ ∀ i, i < (btw c f t).length → (btw c f t).getD i 0 < c * r ∧ (btw c f t).getD i 0 ≠ t := by
  obtain ⟨c2, c1, r2, r1⟩ := hs
  have h : gcM c r f t = true := allN_at (allN_at (sz_at (f := fun c r => allN (c * r) fun f => allN (c * r) fun t => gcM c r f t) gcM_all c1 c2 r1 r2) f hf) t ht
  unfold gcM at h
  rw [Bool.or_eq_true] at h
  rcases h with h | h
  · exact absurd (of_decide_eq_true h) hne
  have h := imp_at h (by
    rw [Bool.or_eq_true, onLn_iff]
    exact hl.elim Or.inl (fun q => Or.inr (decide_eq_true q)))
  rw [Bool.and_eq_true, Bool.and_eq_true] at h
  refine ⟨of_decide_eq_true h.1, fun i hi => of_decide_eq_true (allN_at h.2.1 i hi), fun i hi => ?_⟩
  have := allN_at h.2.2 i hi
  rw [Bool.and_eq_true] at this
  exact ⟨of_decide_eq_true this.1, by simpa using this.2⟩
theorem sgn_ok : ∀ a, a < 8 → ∀ b, b < 8 → (((nW a - nW b) >>> ((31 : Int32) &&& 31)) ||| (((-(nW a - nW b)).toUInt32 >>> ((31 : Int32).toUInt32 &&& Int32.toUInt32 31)).toInt32)) = Int32.ofInt (sgI b a) := by decide +kernel
theorem abs_ok : ∀ a, a < 8 → ∀ b, b < 8 → (if 0 ≤ (nW a - nW b) then (nW a - nW b) else 0 - (nW a - nW b)) = nW ((a - b) + (b - a)) := by decide +kernel
theorem signum_ok {a b : Nat} (ha : a < 8) (hb : b < 8) {G : Mem} : fJ6_signum_0f7a4 (nW a - nW b) G = some (Int32.ofInt (sgI b a), G) := by
  unfold fJ6_signum_0f7a4 fJ6_signum_0f7a4_0
  rw [sgn_ok a ha b hb]
theorem nW_ofInt (a : Nat) : nW a = Int32.ofInt (a : Int) := rfl
section MBOARD
variable {G : Mem} {o : Nat} {x : Nat → Nat → Int32} {y : Nat → Nat → Int64} {c r : Nat} {b at' w : Nat} {P : Nat → Nat}
/-- the reference's size, and a position in a row of it -/
def MSz (x : Nat → Nat → Int32) (o c r : Nat) : Prop := x (o + 1) 0 = nW c ∧ x (o + 1) 1 = nW r
def MRow (x : Nat → Nat → Int32) (b at' n : Nat) (P : Nat → Nat) : Prop := ∀ q, q < n → x b (at' + q) = nW (P q)
theorem squareMany_ok (h : MSh G o) (hz : MSz x o c r) : fX7_squareMany o (wIJ G x y) = some (nW (c * r), wIJ G x y) := by
  unfold fX7_squareMany fX7_squareMany_0
  simp only [lits]
  rw [gR_wij, h.g0, Option.bind_some, h.s0 (by decide), Option.bind_some, Option.bind_some, h.s0 (by decide), Option.bind_some, hz.1, hz.2, nW_mul]
theorem isFree_ok (h : MSh G o) (hs : szs c r) (hz : MSz x o c r) (hb : RW G 1 b w) (hw : at' + c * r ≤ w) (hw2 : w ≤ 20000) (hP : MRow x b at' (c * r) P) (h11 : ∀ k, P k < 11) {f t : Nat} (hf : f < c * r) (ht : t < c * r) (hne : f ≠ t) (hl : (adx c f t = 0 ∨ ady c f t = 0) ∨ adx c f t = ady c f t) :
    fX7_isFree o b (nW at') (nW f) (nW t) (wIJ G x y) = some (bI (clr P (btw c f t)), wIJ G x y) := by
  have h36 := szs36 hs
  obtain ⟨m1, m2, m3⟩ := geoM hs hf ht hne hl
  obtain ⟨c2, c1, r2, r1⟩ := hs
  have c0 : 0 < c := by omega
  have d1 : ∀ k, k < c * r → k % c < 8 ∧ k / c < 8 := fun k hk => ⟨by have := Nat.mod_lt k c0; omega, by have := Nat.div_lt_of_lt_mul (m := k) (n := c) (k := r) hk; omega⟩
  generalize hL : btw c f t = L at *
  have nxt : ∀ i, i < L.length → nW ((L ++ [t]).getD i 0) + (Int32.ofInt (sgI (f % c) (t % c)) + Int32.ofInt (sgI (f / c) (t / c)) * nW c) = nW ((L ++ [t]).getD (i + 1) 0) := fun i hi => by
    have e1 := m2 i (by omega)
    have e2 := m2 (i + 1) (by omega)
    rw [nW_ofInt, nW_ofInt, nW_ofInt, ← Int32.ofInt_mul, ← Int32.ofInt_add, ← Int32.ofInt_add]
    congr 1
    show ((L ++ [t]).getD i 0 : Int) + dlt c f t = ((L ++ [t]).getD (i + 1) 0 : Int)
    rw [e1, e2]
    have : ((i + 1 : Nat) : Int) + 1 = ((i : Int) + 1) + 1 := by omega
    rw [this, Int.add_mul ((i : Int) + 1) 1, Int.one_mul, Int.add_assoc]
  have fst : (nW f + Int32.ofInt (sgI (f % c) (t % c))) + Int32.ofInt (sgI (f / c) (t / c)) * nW c = nW ((L ++ [t]).getD 0 0) := by
    have e1 := m2 0 (by omega)
    rw [nW_ofInt, nW_ofInt, nW_ofInt, ← Int32.ofInt_mul, ← Int32.ofInt_add, ← Int32.ofInt_add]
    congr 1
    rw [e1]
    show (f : Int) + sgI (f % c) (t % c) + sgI (f / c) (t / c) * c = f + ((0 : Nat) + 1 : Int) * dlt c f t
    rw [show ((0 : Nat) + 1 : Int) = 1 by rfl, Int.one_mul]
    unfold dlt
    rw [Int.add_assoc]
  have inL : ∀ i, i < L.length → (L ++ [t]).getD i 0 = L.getD i 0 := fun i hi => by
    rw [List.getD_eq_getElem?_getD, List.getD_eq_getElem?_getD, List.getElem?_append_left hi]
  have atL : (L ++ [t]).getD L.length 0 = t := by
    rw [List.getD_eq_getElem?_getD, List.getElem?_append_right (Nat.le_refl _), Nat.sub_self]; rfl
  have step : ∀ i, i < L.length → fX7_isFree_70 o b (nW at') (nW t) (Int32.ofInt (sgI (f % c) (t % c))) (Int32.ofInt (sgI (f / c) (t / c))) (nW ((L ++ [t]).getD i 0)) (wIJ G x y) = if P (L.getD i 0) = 0 then some (Sum.inl (nW ((L ++ [t]).getD (i + 1) 0)), wIJ G x y) else some (Sum.inr (nW 0), wIJ G x y) := fun i hi => by
    obtain ⟨q1, q2⟩ := m3 i hi
    unfold fX7_isFree_70 fX7_isFree_106 fX7_isFree_118
    rw [inL i hi]
    simp only [lits, nW_add]
    have ne : ¬ nW (L.getD i 0) = nW t := by rw [nW_eq (by omega) (by omega)]; exact q2
    rw [if_neg ne, if_neg ne, hb.rd (by omega) hw2, hP _ q1, Option.bind_some]
    have h11' := h11 (L.getD i 0)
    by_cases h0 : P (L.getD i 0) = 0
    · rw [if_pos (by rw [h0]), if_pos h0, gR_wij, h.g0, Option.bind_some, h.s0 (by decide), hz.1, Option.bind_some]
      have := nxt i hi
      rw [inL i hi] at this
      rw [this]
    · rw [if_neg (by rw [nW_eq (by omega) (by decide)]; exact h0), if_neg h0]; rfl
  have last : fX7_isFree_70 o b (nW at') (nW t) (Int32.ofInt (sgI (f % c) (t % c))) (Int32.ofInt (sgI (f / c) (t / c))) (nW t) (wIJ G x y) = some (Sum.inr (nW 1), wIJ G x y) := by
    unfold fX7_isFree_70 fX7_isFree_106 fX7_isFree_118
    rw [if_pos rfl, if_pos rfl]; rfl
  have head : fX7_isFree o b (nW at') (nW f) (nW t) (wIJ G x y) = loopM (fun (s : Int32) G => fX7_isFree_70 o b (nW at') (nW t) (Int32.ofInt (sgI (f % c) (t % c))) (Int32.ofInt (sgI (f / c) (t / c))) s G) FU (nW ((L ++ [t]).getD 0 0)) (wIJ G x y) := by
    have q1 := d1 f hf
    have q2 := d1 t ht
    unfold fX7_isFree fX7_isFree_0
    simp only [lits]
    simp only [gR_wij, h.g0, Option.bind_some, h.s0 (show 0 < 109 by decide), hz.1, dz_ok c0 (show c < 2147483648 by omega)]
    rw [nW_rem (by omega) (by omega), nW_rem (by omega) (by omega), signum_ok q2.1 q1.1, Option.bind_some, gR_wij, h.g0, Option.bind_some, h.s0 (by decide), hz.1, Option.bind_some, dz_ok c0 (by omega), nW_div (by omega) (by omega), nW_div (by omega) (by omega), signum_ok q2.2 q1.2, Option.bind_some, gR_wij, h.g0, Option.bind_some, h.s0 (by decide), hz.1, Option.bind_some]
    show loopM _ FU ((nW f + Int32.ofInt (sgI (f % c) (t % c))) + Int32.ofInt (sgI (f / c) (t / c)) * nW c) _ = _
    rw [fst]
  rw [head]
  by_cases hall : ∀ i, i < L.length → P (L.getD i 0) = 0
  · have hc : clr P L = true := by
      unfold clr
      rw [List.all_eq_true]
      intro k hk
      obtain ⟨i, hi, e⟩ := List.getElem_of_mem hk
      have := hall i hi
      rw [List.getD_eq_getElem?_getD, List.getElem?_eq_getElem hi] at this
      rw [← e]
      exact beq_iff_eq.mpr this
    rw [hc]
    exact loop_to (f := fun (s : Int32) G => fX7_isFree_70 o b (nW at') (nW t) (Int32.ofInt (sgI (f % c) (t % c))) (Int32.ofInt (sgI (f / c) (t / c))) s G) (fun i => nW ((L ++ [t]).getD i 0)) (fun _ => wIJ G x y) L.length (nW 1) _ (fun i hi => by
      show fX7_isFree_70 _ _ _ _ _ _ _ _ = _
      rw [step i hi, if_pos (hall i hi)]) (by
      show fX7_isFree_70 _ _ _ _ _ _ _ _ = _
      rw [atL]; exact last) L.length 0 FU (by omega) (by show L.length < 100000; omega)
  · have ex : ∃ d, d < L.length ∧ P (L.getD d 0) ≠ 0 ∧ ∀ i, i < d → P (L.getD i 0) = 0 := by
      have : ∀ k, (∀ i, i < k → i < L.length → P (L.getD i 0) = 0) ∨ ∃ d, d < L.length ∧ P (L.getD d 0) ≠ 0 ∧ ∀ i, i < d → P (L.getD i 0) = 0 := by
        intro k
        induction k with
        | zero => exact Or.inl fun i hi => absurd hi (Nat.not_lt_zero _)
        | succ k ih =>
          rcases ih with ih | ih
          · by_cases hk : k < L.length ∧ P (L.getD k 0) ≠ 0
            · exact Or.inr ⟨k, hk.1, hk.2, fun i hi => ih i hi (by omega)⟩
            · left
              intro i hi hi2
              by_cases e : i = k
              · subst e
                by_cases e2 : P (L.getD i 0) = 0
                · exact e2
                · exact absurd ⟨hi2, e2⟩ hk
              · exact ih i (by omega) hi2
          · exact Or.inr ih
      rcases this L.length with q1 | q1
      · exact absurd (fun i hi => q1 i hi hi) hall
      · exact q1
    obtain ⟨d, e1, e2, e3⟩ := ex
    have hc : clr P L = false := by
      cases hb : clr P L with
      | false => rfl
      | true =>
        unfold clr at hb
        rw [List.all_eq_true] at hb
        have := hb L[d] (List.getElem_mem e1)
        rw [List.getD_eq_getElem?_getD, List.getElem?_eq_getElem e1] at e2
        exact absurd (beq_iff_eq.mp this) e2
    rw [hc]
    exact loop_to (f := fun (s : Int32) G => fX7_isFree_70 o b (nW at') (nW t) (Int32.ofInt (sgI (f % c) (t % c))) (Int32.ofInt (sgI (f / c) (t / c))) s G) (fun i => nW ((L ++ [t]).getD i 0)) (fun _ => wIJ G x y) d (nW 0) _ (fun i hi => by
      show fX7_isFree_70 _ _ _ _ _ _ _ _ = _
      rw [step i (by omega), if_pos (e3 i hi)]) (by
      show fX7_isFree_70 _ _ _ _ _ _ _ _ = _
      rw [step d e1, if_neg e2]) d 0 FU (by omega) (by show d < 100000; omega)
end MBOARD
