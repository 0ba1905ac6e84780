/-! ===== all moves of a position ===== -/
theorem bIf0 : bI false = (0 : Int32) := rfl
section FIND2
variable {G : Mem} {b : Nat} {x : Nat → Nat → Int32} {y : Nat → Nat → Int64}
theorem FrM.trans {x x' x2 : Nat → Nat → Int32} (h : FrM b x x') (h2 : FrM b x' x2) : FrM b x x2 := fun a j h1 h3 => (h2 a j h1 h3).trans (h a j h1 h3)
theorem findMoves_ok (h : BSh G b) {c r : Nat} (hs : szs c r) {P : Nat → Nat} (W : WFP (c * r) P) {nt : Nat} (hn : mt G nt = 11) {col : Nat} (hcol : col < 2) (hb : BR c r P x b) (hk : BK c (c * r) P x b) :
    ∃ x2, fX0_findMoves b nt (nW col) (wIJ G x y) = some (nW (mvl c (c * r) (x nt) P col).length, wIJ G x2 y) ∧ FrM b x x2 ∧ MVL x2 b (mvl c (c * r) (x nt) P col) := by
  have n1 : nt ≠ b := fun e => by rw [e, h.1] at hn; omega
  have n2 : nt ≠ b + 1 := fun e => by rw [e, h.2.2.2.1] at hn; omega
  unfold fX0_findMoves fX0_findMoves_0
  rw [pI_wij h.1, Option.bind_some]
  obtain ⟨res, Gf, e1, x2, rfl, rfl, h2, h3⟩ := grid_by (fo := fun (s : Int32) G => fX0_findMoves_7 b nt (nW col) s G) (fi := fun (s1 : Int32) (s : Int32) G => fX0_findMoves_18 b nt (nW col) s1 s G) (c := c) (r := r) hs.2.1 hs.2.2.2
    (fun k G1 => ∃ x2, G1 = wIJ G x2 y ∧ FrM b x x2 ∧ MVL x2 b (lstF c (c * r) (x nt) P col k))
    (fun (res : Int32) G1 => ∃ x2, res = nW (mvl c (c * r) (x nt) P col).length ∧ G1 = wIJ G x2 y ∧ FrM b x x2 ∧ MVL x2 b (mvl c (c * r) (x nt) P col))
    (by
      rintro rw1 G1 hrw ⟨x2, rfl, h2, h3⟩
      unfold fX0_findMoves_7
      rw [gF_wij h.1, Option.bind_some, (h2.br hb).2.1, if_neg (by rw [nW_le (by have := hs.2.2.2; omega) (by have := hs.2.2.2; omega)]; omega)]
      rfl)
    (by
      rintro rw1 cl1 G1 hrw hcl1 ⟨x2, rfl, h2, h3⟩
      have ht := grid_lt hrw hcl1
      obtain ⟨gd1, gd2⟩ := grid_div (row := rw1) hcl1
      have hc7 := hs.2.1
      have hr7 := hs.2.2.2
      have hb2 := h2.br hb
      have hk2 := h2.bk hk
      have plt := pl_ok hs ht
      have hnt : x2 nt = x nt := funext fun j => h2.note n1 n2 j
      have skip : ∀ (gg : (own (P (rw1 * c + cl1)) col && orgB c (x nt) P (rw1 * c + cl1)) = false), ∃ G', fX0_findMoves_68 b nt (nW col) (nW rw1) (nW cl1) (wIJ G x2 y) = some (.inl (nW (cl1 + 1)), G') ∧ ∃ x3, G' = wIJ G x3 y ∧ FrM b x x3 ∧ MVL x3 b (lstF c (c * r) (x nt) P col (rw1 * c + cl1 + 1)) := by
        intro gg
        refine ⟨_, by unfold fX0_findMoves_68; simp only [lits, nW_add], x2, rfl, h2, ?_⟩
        rw [lstF_succ, if_neg (by rw [gg]; decide), List.append_nil]
        exact h3
      unfold fX0_findMoves_18 fX0_at fX0_at_0
      rw [gF_wij h.1, Option.bind_some, hb2.1, if_neg (by rw [nW_le (by omega) (by omega)]; omega), ck_wij, ck_ok h.1, ck_wij, ck_ok h.1, placeOf_ok hcl1, Option.bind_some, ck_wij, ck_ok h.1, on_ok h (by omega), Option.bind_some, Option.bind_some, hb2.at hs ht, colour_of _ (W.1 _), Option.bind_some]
      by_cases hz : P (rw1 * c + cl1) = 0
      · rw [if_neg (show ¬ (if P (rw1 * c + cl1) = 0 then -nW 1 else nW ((P (rw1 * c + cl1) - 1) / 5)) = nW col by rw [if_pos hz]; exact m1_nW (by omega))]
        exact skip (by rw [hz]; rfl)
      · have hlt := W.1 (rw1 * c + cl1)
        by_cases ho : (P (rw1 * c + cl1) - 1) / 5 = col
        · rw [if_pos (show (if P (rw1 * c + cl1) = 0 then -nW 1 else nW ((P (rw1 * c + cl1) - 1) / 5)) = nW col by rw [if_neg hz, ho]), kind_of _ (W.1 _), Option.bind_some]
          simp only [if_neg hz]
          have hown : own (P (rw1 * c + cl1)) col = true := own_iff.mpr ⟨by omega, ho⟩
          rw [ck_wij, ck_ok hn, allowsOrigin_ok hn, Option.bind_some]
          have eo : (opI (x2 nt 0) (nW ((P (rw1 * c + cl1) - 1) % 5)) && (opI (x2 nt 1) (nW cl1) && opI (x2 nt 2) (nW rw1))) = orgB c (x nt) P (rw1 * c + cl1) := by
            unfold orgB; rw [hnt, gd1, gd2]
          rw [eo]
          by_cases hO : orgB c (x nt) P (rw1 * c + cl1) = true
          · rw [hO, if_neg bIt0, ck_wij, ck_ok h.1]
            rw [← hnt] at h3
            obtain ⟨x3, e3, f3, m3⟩ := findMovesFrom_ok (y := y) h hs W hn hcl1 rfl ht hcol hown hb2 hk2 h3
            rw [e3, Option.bind_some]
            refine ⟨_, by unfold fX0_findMoves_68; simp only [lits, nW_add], x3, rfl, h2.trans f3, ?_⟩
            rw [lstF_succ, hown, hO]
            rw [hnt] at m3
            exact m3
          · have hO : orgB c (x nt) P (rw1 * c + cl1) = false := by simpa using hO
            rw [hO, if_pos bIf0]
            exact skip (by rw [hO]; simp)
        · rw [if_neg (show ¬ (if P (rw1 * c + cl1) = 0 then -nW 1 else nW ((P (rw1 * c + cl1) - 1) / 5)) = nW col by rw [if_neg hz, nW_eq (by omega) (by omega)]; exact ho)]
          refine skip ?_
          have hno : own (P (rw1 * c + cl1)) col = false := by
            rw [Bool.eq_false_iff]
            intro q
            exact ho (own_iff.mp q).2
          rw [hno]; rfl)
    (by
      rintro rw1 G1 hrw ⟨x2, rfl, h2, h3⟩
      unfold fX0_findMoves_18 fX0_findMoves_74
      rw [gF_wij h.1, Option.bind_some, (h2.br hb).1, if_pos (by rw [nW_le (by have := hs.2.1; omega) (by have := hs.2.1; omega)]; omega)]
      simp only [lits, nW_add]
      rfl)
    (by
      rintro G1 ⟨x2, rfl, h2, h3⟩
      rw [Nat.mul_comm r c] at h3
      refine ⟨nW (mvl c (c * r) (x nt) P col).length, wIJ G x2 y, ?_, x2, rfl, rfl, h2, h3⟩
      unfold fX0_findMoves_7 fX0_findMoves_80
      rw [gF_wij h.1, Option.bind_some, (h2.br hb).2.1, if_pos (by rw [nW_le (by have := hs.2.2.2; omega) (by have := hs.2.2.2; omega)]; omega), gF_wij h.1, Option.bind_some, h3.1]
      rfl)
    (G := wIJ G (u2 x b 3 0) y) ⟨u2 x b 3 0, rfl, fun a j h1 h2 => u2_other h2, by
      refine ⟨u2_same, fun i hi => ?_⟩
      have : (lstF c (c * r) (x nt) P col 0).length = 0 := rfl
      omega⟩
  exact ⟨x2, e1, h2, h3⟩
end FIND2
/-! ===== positions as words of bits ===== -/
def nib (w : Int64) (j : Nat) : Nat := (w.toBitVec.extractLsb' (4 * j) 4).toNat
theorem nib_lt (w : Int64) (j : Nat) : nib w j < 16 := BitVec.isLt _
theorem nib_bit (w : Int64) (j i : Nat) (hi : i < 4) : (BitVec.ofNat 4 (nib w j)).getLsbD i = w.toBitVec.getLsbD (4 * j + i) := by
  unfold nib
  rw [BitVec.ofNat_toNat, BitVec.setWidth_eq, BitVec.getLsbD_extractLsb']
  simp [hi]
theorem nib_ext {v w : Int64} (h : ∀ j, j < 16 → nib v j = nib w j) : v = w := by
  apply Int64.toBitVec_inj.mp
  apply BitVec.eq_of_getLsbD_eq
  intro k hk
  have e : k = 4 * (k / 4) + k % 4 := by omega
  have hj := h (k / 4) (by omega)
  rw [e, ← nib_bit v (k / 4) (k % 4) (by omega), ← nib_bit w (k / 4) (k % 4) (by omega), hj]
theorem nib_of {w : Int64} {j e : Nat} (he : e < 16) (h : ∀ i, i < 4 → w.toBitVec.getLsbD (4 * j + i) = e.testBit i) : nib w j = e := by
  unfold nib
  have : w.toBitVec.extractLsb' (4 * j) 4 = BitVec.ofNat 4 e := by
    apply BitVec.eq_of_getLsbD_eq
    intro i hi
    rw [BitVec.getLsbD_extractLsb', BitVec.getLsbD_ofNat, h i hi]
    try simp [hi]
  rw [this, BitVec.toNat_ofNat]
  omega
theorem nib_get {w : Int64} {j i : Nat} (hi : i < 4) : w.toBitVec.getLsbD (4 * j + i) = (nib w j).testBit i := by
  rw [← nib_bit w j i hi, BitVec.getLsbD_ofNat]
  try simp [hi]
theorem shift_r : ∀ j, j < 16 → ((nW (j * 4)).toInt64.toUInt64 &&& Int64.toUInt64 63).toBitVec = BitVec.ofNat 64 (4 * j) := by decide +kernel
theorem shift_l : ∀ j, j < 16 → ((nW (j * 4)).toInt64 &&& 63).toBitVec = BitVec.ofNat 64 (4 * j) := by decide +kernel
theorem nib_read (w : Int64) {j : Nat} (hj : j < 16) : (((w.toUInt64 >>> ((nW (j * 4)).toInt64.toUInt64 &&& Int64.toUInt64 63)).toInt64) &&& (15 : Int64)).toInt32 = nW (nib w j) := by
  apply Int32.toBitVec_inj.mp
  show ((((w.toBitVec >>> (((nW (j * 4)).toInt64.toUInt64 &&& Int64.toUInt64 63).toBitVec % 64#64)) &&& 15#64).signExtend 32) : BitVec 32) = BitVec.ofNat 32 (nib w j)
  rw [shift_r j hj]
  have e : ∀ j, j < 16 → (BitVec.ofNat 64 (4 * j)) % 64#64 = BitVec.ofNat 64 (4 * j) := by decide +kernel
  rw [e j hj]
  apply BitVec.eq_of_getLsbD_eq
  intro k hk
  rw [BitVec.signExtend_eq_setWidth_of_le _ (by decide), BitVec.getLsbD_setWidth, BitVec.getLsbD_and, BitVec.ushiftRight_eq', BitVec.getLsbD_ushiftRight, BitVec.toNat_ofNat, Nat.mod_eq_of_lt (by omega)]
  have h15 : ∀ k, k < 32 → (15#64).getLsbD k = decide (k < 4) := by decide +kernel
  rw [h15 k hk, BitVec.getLsbD_ofNat]
  by_cases h4 : k < 4
  · rw [nib_get h4]; simp [h4, hk]
  · have : (nib w j).testBit k = false := Nat.testBit_lt_two_pow (Nat.lt_of_lt_of_le (nib_lt w j) (by
      have : 2 ^ 4 ≤ 2 ^ k := Nat.pow_le_pow_right (by decide) (by omega)
      omega))
    rw [this]; simp [h4]
theorem nib_write (w : Int64) {j e : Nat} (hj : j < 16) (he : e < 16) : ∀ i, i < 16 → nib ((w &&& (((15 : Int64) <<< ((nW (j * 4)).toInt64 &&& 63)) ^^^ (-1 : Int64))) ||| ((nW e).toInt64 <<< ((nW (j * 4)).toInt64 &&& 63))) i = if i = j then e else nib w i := by
  intro i hi
  have e64 : ∀ e, e < 16 → (nW e).toInt64.toBitVec = BitVec.ofNat 64 e := by decide +kernel
  have es : ∀ j, j < 16 → (BitVec.ofNat 64 (4 * j)).smod 64#64 = BitVec.ofNat 64 (4 * j) := by decide +kernel
  have hbv : ((w &&& (((15 : Int64) <<< ((nW (j * 4)).toInt64 &&& 63)) ^^^ (-1 : Int64))) ||| ((nW e).toInt64 <<< ((nW (j * 4)).toInt64 &&& 63))).toBitVec = (w.toBitVec &&& ((15#64 <<< (4 * j)) ^^^ BitVec.allOnes 64)) ||| (BitVec.ofNat 64 e <<< (4 * j)) := by
    show (w.toBitVec &&& ((15#64 <<< (((nW (j * 4)).toInt64 &&& 63).toBitVec.smod 64#64)) ^^^ (-1 : Int64).toBitVec)) ||| ((nW e).toInt64.toBitVec <<< (((nW (j * 4)).toInt64 &&& 63).toBitVec.smod 64#64)) = _
    rw [shift_l j hj, es j hj, e64 e he, BitVec.shiftLeft_eq', BitVec.shiftLeft_eq', BitVec.toNat_ofNat, Nat.mod_eq_of_lt (by omega)]
    rfl
  refine nib_of (by split; exact he; exact nib_lt w i) (fun k hk => ?_)
  rw [hbv, BitVec.getLsbD_or, BitVec.getLsbD_and, BitVec.getLsbD_xor, BitVec.getLsbD_shiftLeft, BitVec.getLsbD_shiftLeft, BitVec.getLsbD_allOnes]
  have h15 : ∀ k, k < 64 → (15#64).getLsbD k = decide (k < 4) := by decide +kernel
  rw [h15 _ (by omega), BitVec.getLsbD_ofNat]
  by_cases hij : i = j
  · subst hij
    rw [if_pos rfl]
    have h1 : ¬ (4 * i + k < 4 * i) := by omega
    have h2 : 4 * i + k - 4 * i = k := by omega
    simp [h1, h2, hk, show 4 * i + k < 64 by omega, show k < 64 by omega]
  · rw [if_neg hij, nib_get hk]
    by_cases hlt : 4 * i + k < 4 * j
    · simp [hlt, show 4 * i + k < 64 by omega]
    · have h4 : ¬ (4 * i + k - 4 * j < 4) := by omega
      have ht : e.testBit (4 * i + k - 4 * j) = false := Nat.testBit_lt_two_pow (Nat.lt_of_lt_of_le he (by
        have : 2 ^ 4 ≤ 2 ^ (4 * i + k - 4 * j) := Nat.pow_le_pow_right (by decide) (by omega)
        omega))
      simp [hlt, h4, ht, show 4 * i + k < 64 by omega]
/-- three words hold a position -/
def PK (w : Nat → Int64) (o : Nat) (P : Nat → Nat) : Prop := ∀ q, q < 48 → nib (w (o + q / 16)) (q % 16) = enc (P q)
theorem PK_eq {v w : Nat → Int64} {o o' : Nat} {P Q : Nat → Nat} (hv : PK v o P) (hw : PK w o' Q) (hP : ∀ k, P k < 11) (hQ : ∀ k, Q k < 11) : (v o = w o' ∧ v (o + 1) = w (o' + 1) ∧ v (o + 2) = w (o' + 2)) ↔ ∀ q, q < 48 → P q = Q q := by
  constructor
  · rintro ⟨e0, e1, e2⟩ q hq
    have a := hv q hq
    have b := hw q hq
    have e : v (o + q / 16) = w (o' + q / 16) := by
      rcases (show q / 16 = 0 ∨ q / 16 = 1 ∨ q / 16 = 2 by omega) with h | h | h <;> rw [h]
      · exact e0
      · exact e1
      · exact e2
    rw [e, b] at a
    exact (enc_inj _ (by have := hQ q; omega) _ (by have := hP q; omega) a).symm
  · intro h
    have key : ∀ d, d < 3 → v (o + d) = w (o' + d) := by
      intro d hd
      apply nib_ext
      intro j hj
      have a := hv (16 * d + j) (by omega)
      have b := hw (16 * d + j) (by omega)
      rw [show (16 * d + j) / 16 = d by omega, show (16 * d + j) % 16 = j by omega] at a b
      rw [a, b, h _ (by omega)]
    exact ⟨key 0 (by omega), key 1 (by omega), key 2 (by omega)⟩
