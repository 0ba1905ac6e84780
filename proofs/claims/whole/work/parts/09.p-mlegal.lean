/-! ===== the reference: the legal moves of a position ===== -/
/-- the note that states nothing -/
def opN : Nat → Int32 := fun j => if j < 5 then -1 else 0
theorem agr_open {c n : Nat} {P : Nat → Nat} {col f t : Nat} : agr c n opN P col f t = true := by
  unfold agr opn
  simp [opN]
section MLEGAL
variable {G : Mem} {o : Nat} {c r m : Nat} {N : Nat → Nat → Int32} {P0 : Nat → Nat} {x : Nat → Nat → Int32} {y : Nat → Nat → Int64}
theorem MRep.board (hR : MRep x y o c r N P0 m) {x' : Nat → Nat → Int32} (hx : ∀ b, b ≠ o + 12 → x' b = x b) : MRep x' y o c r N P0 m :=
  ⟨hR.1.frame (hx _ (by omega)), hR.2.1.same (hx _ (by omega)) (hx _ (by omega)) (hx _ (by omega)) (hx _ (by omega)) rfl, hR.2.2⟩
theorem mlegal_ok (h : MSh G o) (hA : AOK c r N P0 m) (hR : MRep x y o c r N P0 m) {p : Nat} (hp : p < pcn c (c * r) N P0 m) :
    ∃ x', loopM (fun (s : Int32 × Int32) G => fX7_legalMoves_20 o (nW p) s.1 s.2 G) FU (nW 0, nW 0) (wIJ G x y) = some (nW (mvl c (c * r) opN (lyp (lyN c (c * r) N P0 m).1 p) (m % 2)).length, wIJ G x' y) ∧ ∀ b, b ≠ o + 12 → x' b = x b := by
  obtain ⟨hs, W0, hm, hok, hwn⟩ := id hA
  have hn := szs36 hs
  have n0 : 0 < c * r := Nat.mul_pos (by have := hs.1; omega) (by have := hs.2.2.1; omega)
  have hnn : c * r * (c * r) ≤ 1296 := Nat.mul_le_mul hn hn
  have hcol : m % 2 < 2 := Nat.mod_lt _ (by decide)
  obtain ⟨⟨h40, hW⟩, -⟩ := lyN_run W0 hok
  have hp : p < lyc (lyN c (c * r) N P0 m).1 := hp
  have W := hW p hp
  generalize hP : lyp (lyN c (c * r) N P0 m).1 p = P at *
  have len : ∀ k, (lkP c (c * r) opN P (m % 2) (k + 1)).length = (lkP c (c * r) opN P (m % 2) k).length + if lgl c (c * r) P (m % 2) (k / (c * r)) (k % (c * r)) = true then 1 else 0 := fun k => by
    rw [lkP_succ n0, ← same_moves (Or.inl rfl), agr_open, Bool.and_true, List.length_append]
    cases lgl c (c * r) P (m % 2) (k / (c * r)) (k % (c * r)) <;> rfl
  obtain ⟨res, Gf, e1, x', e2, rfl, e3⟩ := loop_by (f := fun (s : Int32 × Int32) G => fX7_legalMoves_20 o (nW p) s.1 s.2 G)
    (fun d s G' => ∃ k x', d = c * r * (c * r) - k ∧ k ≤ c * r * (c * r) ∧ s = (nW (lkP c (c * r) opN P (m % 2) k).length, nW k) ∧ G' = wIJ G x' y ∧ ∀ b, b ≠ o + 12 → x' b = x b)
    (fun (res : Int32) G' => ∃ x', res = nW (mvl c (c * r) opN P (m % 2)).length ∧ G' = wIJ G x' y ∧ ∀ b, b ≠ o + 12 → x' b = x b)
    (by
      rintro d s G' ⟨k, x1, rfl, hk, rfl, rfl, g1⟩
      have hR1 := hR.board g1
      have sq : fX7_squareMany o (wIJ G x1 y) = some (nW (c * r), wIJ G x1 y) := squareMany_ok h hR1.1.1
      by_cases hend : k = c * r * (c * r)
      · left
        subst hend
        refine ⟨_, _, ?_, x1, rfl, rfl, g1⟩
        show fX7_legalMoves_20 _ _ _ _ _ = _
        unfold fX7_legalMoves_20 fX7_legalMoves_76
        rw [ck_wij, ck_ok h.t, sq, Option.bind_some, ck_wij, ck_ok h.t, sq, Option.bind_some, nW_mul, if_pos (by rw [nW_le (by omega) (by omega)]; omega), lkP_end n0]
        rfl
      · right
        have hk : k < c * r * (c * r) := by omega
        have hf : k / (c * r) < c * r := Nat.div_lt_of_lt_mul hk
        have ht : k % (c * r) < c * r := Nat.mod_lt k n0
        obtain ⟨x2, m1, m2, -⟩ := moves_ok (y := y) h hs hR1.1.1 W (i := m) (p := p) (by omega) (by omega) (by
          have := ((hR1.2.1.1 m (Nat.le_refl _)).2 p hp).2
          rw [hP] at this; exact this) hf ht hcol
        refine ⟨c * r * (c * r) - (k + 1), _, wIJ G x2 y, by omega, ?_, k + 1, x2, rfl, hk, rfl, rfl, fun b hb => (m2 b hb).trans (g1 b hb)⟩
        show fX7_legalMoves_20 _ _ _ _ _ = _
        unfold fX7_legalMoves_20 fX7_legalMoves_70
        simp only [lits]
        rw [ck_wij, ck_ok h.t, sq, Option.bind_some, ck_wij, ck_ok h.t, sq, Option.bind_some, nW_mul, if_neg (by rw [nW_le (by omega) (by omega)]; omega), gR_wij, h.g0, Option.bind_some, hR1.s2 h, Option.bind_some, ck_wij, ck_ok h.t, sq, Option.bind_some, dz_ok n0 (by omega), ck_wij, ck_ok h.t, sq, Option.bind_some, dz_ok n0 (by omega), gR_wij, h.g0, Option.bind_some, hR1.s2 h, Option.bind_some, nW_rem (by omega) (by omega), nW_div (by omega) (by omega), nW_rem (by omega) (by decide), ck_wij, ck_ok h.t, m1, Option.bind_some, len k]
        cases lgl c (c * r) P (m % 2) (k / (c * r)) (k % (c * r)) with
        | false => rw [if_pos (show bI false = nW 0 from rfl), nW_add]; rfl
        | true => rw [if_neg (show ¬ bI true = nW 0 from bIt0), nW_add, nW_add]; rfl)
    FU (c * r * (c * r)) (nW 0, nW 0) (wIJ G x y) (by show c * r * (c * r) < 100000; omega) ⟨0, x, rfl, Nat.zero_le _, by rw [lkP_zero]; rfl, rfl, fun _ _ => rfl⟩
  exact ⟨x', by rw [e1, e2], e3⟩
end MLEGAL
