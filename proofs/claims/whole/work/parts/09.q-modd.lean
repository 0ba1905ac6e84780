/-! ===== the reference: no position is odd ===== -/
theorem cnt_uniq {g : Nat → Bool} {k : Nat} (hg : g k = true) (hu : ∀ j, g j = true → j = k) : ∀ n, cnt n g = if k < n then 1 else 0 := by
  intro n
  induction n with
  | zero => rfl
  | succ n ih =>
    show cnt n g + (if g n = true then 1 else 0) = _
    rw [ih]
    by_cases e : n = k
    · rw [e, hg, if_neg (by omega), if_pos rfl, if_pos (by omega)]
    · have : g n ≠ true := fun q => e (hu n q)
      rw [if_neg this]
      by_cases h : k < n
      · rw [if_pos h, if_pos (by omega)]
      · rw [if_neg h, if_neg (by omega)]
section MODD
variable {G : Mem} {o : Nat} {c r m : Nat} {N : Nat → Nat → Int32} {P0 : Nat → Nat} {x : Nat → Nat → Int32} {y : Nat → Nat → Int64}
theorem kings_ok (h : MSh G o) (hA : AOK c r N P0 m) (hR : MRep x y o c r N P0 m) {p col : Nat} (hp : p < pcn c (c * r) N P0 m) (hcol : col < 2) : fX7_kings o (nW p) (nW col) (wIJ G x y) = some (nW 1, wIJ G x y) := by
  have hn := szs36 hA.1
  have sq : fX7_squareMany o (wIJ G x y) = some (nW (c * r), wIJ G x y) := squareMany_ok h hR.1.1
  have W := (lyN_run hA.2.1 hA.2.2.2.1).1.2 p hp
  have lst : ∀ q, q < 36 → fX7_last o (nW p) (nW q) (wIJ G x y) = some (nW (lyp (lyN c (c * r) N P0 m).1 p q), wIJ G x y) := fun q hq => last_ok h hA hR hp hq
  generalize lyp (lyN c (c * r) N P0 m).1 p = P at *
  have hk11 : kgc col < 11 := by unfold kgc; omega
  obtain ⟨k, k1, k2, k3⟩ := W.king hcol
  have one : cnt (c * r) (fun q => decide (P q = kgc col)) = 1 := by
    rw [cnt_uniq (k := k) (decide_eq_true k2) (fun j hj => k3 j (of_decide_eq_true hj)), if_pos k1]
  unfold fX7_kings fX7_kings_0
  simp only [lits]
  have := loop_to (f := fun (s : Int32 × Int32) G => fX7_kings_5 o (nW p) (nW col) s.1 s.2 G) (fun q => (nW (cnt q fun q => decide (P q = kgc col)), nW q)) (fun _ => wIJ G x y) (c * r) (nW (cnt (c * r) fun q => decide (P q = kgc col))) (wIJ G x y) (fun q hq => by
    show fX7_kings_5 _ _ _ _ _ _ = _
    unfold fX7_kings_5 fX7_kings_32 fX7_pieceOf fX7_pieceOf_0
    simp only [lits]
    rw [ck_wij, ck_ok h.t, sq, Option.bind_some, if_neg (by rw [nW_le (by omega) (by omega)]; omega), ck_wij, ck_ok h.t, lst q (by omega), Option.bind_some, Option.bind_some, nW_mul, nW_add, nW_add]
    have w := W.1 q
    show (if nW (P q) = nW (kgc col) then _ else _) = some (Sum.inl (nW (cnt q _ + if decide (P q = kgc col) = true then 1 else 0), nW (q + 1)), _)
    by_cases e : P q = kgc col
    · rw [if_pos (by rw [e]), decide_eq_true e, nW_add, nW_add]; rfl
    · rw [if_neg (by rw [nW_eq (by omega) (by omega)]; exact e), decide_eq_false e, nW_add]; rfl) (by
    show fX7_kings_5 _ _ _ _ _ _ = _
    unfold fX7_kings_5 fX7_kings_38
    rw [ck_wij, ck_ok h.t, sq, Option.bind_some, if_pos (by rw [nW_le (by omega) (by omega)]; omega)]
    rfl) (c * r) 0 FU (by omega) (by show c * r < 100000; omega)
  rw [one] at this
  exact this
theorem isOdd_ok (h : MSh G o) (hA : AOK c r N P0 m) (hR : MRep x y o c r N P0 m) {p : Nat} (hp : p < pcn c (c * r) N P0 m) : fX7_isOdd o (nW p) (wIJ G x y) = some (nW 0, wIJ G x y) := by
  obtain ⟨hs, W0, hm, hok, hwn⟩ := id hA
  have hn := szs36 hs
  obtain ⟨⟨h40, hW⟩, hRI⟩ := lyN_run W0 hok
  have hp' : p < lyc (lyN c (c * r) N P0 m).1 := hp
  have W := hW p hp'
  have hrow := ((hR.2.1.1 m (Nat.le_refl _)).2 p hp').2
  unfold fX7_isOdd fX7_isOdd_0 fX7_isOdd_82 fX7_isOdd_83
  simp only [lits]
  rw [ck_wij, ck_ok h.t, kings_ok h hA hR hp (by decide), Option.bind_some, if_pos rfl, ck_wij, ck_ok h.t, kings_ok h hA hR hp (by decide), Option.bind_some, if_pos rfl, gR_wij, h.g0, Option.bind_some, hR.s2 h, Option.bind_some, position_ok, Option.bind_some, gR_wij, h.g0, Option.bind_some, hR.s2 h, Option.bind_some, Option.bind_some, hR.s2 h, Option.bind_some]
  by_cases h0 : m = 0
  · rw [if_pos (by rw [nW_le (by omega) (by decide)]; omega)]; rfl
  · have hmv : 1 - m % 2 = (m - 1) % 2 := by omega
    have hg := (hRI (m - 1) (by omega)).2.2.1
    rw [show m - 1 + 1 = m by omega] at hg
    have hg := (hg p hp').2
    have c1 : (m - 1) % 2 < 2 := Nat.mod_lt _ (by decide)
    rw [if_neg (by rw [nW_le (by omega) (by decide)]; omega), gR_wij, h.g13, Option.bind_some, Option.bind_some, ck_wij, ck_ok h.t, nW_rem (by omega) (by decide), nW_sub (by omega), hmv, kingOf_ok h hs hR.1.1 h.r13 (by omega) (by decide) (hrow.mono hn) W.1 c1, if_pos (W.fnd c1), Option.bind_some, ck_wij, ck_ok h.t, nW_sub (by omega), attacks_ok h hs hR.1.1 h.r13 (by omega) (by decide) (hrow.mono hn) W.1 (W.fnd c1) (show 1 - (m - 1) % 2 < 2 by omega), hg, Option.bind_some, if_pos (show bI false = nW 0 from rfl)]
    rfl
end MODD
