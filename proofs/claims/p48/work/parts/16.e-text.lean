/-! ===== what lies above stays while a text is written ===== -/
def KP (G G' : Mem) : Prop := ∀ b, 265 ≤ b → mt G' b = mt G b ∧ mn G' b = mn G b ∧ mI G' b = mI G b ∧ mP G' b = mP G b
def CO2 {ρ : Type} (G : Mem) (d : Nat) (z : Option (ρ × Mem)) (o : ρ × WSt) : Prop := ∃ G', z = some (o.1, G') ∧ CI G' d o.2 ∧ KP G G'
section KEEP
variable {G : Mem} {W : WSt} {d : Nat}
theorem KP.rfl' : KP G G := fun _ _ => ⟨rfl, rfl, rfl, rfl⟩
theorem KP.wij {x : Nat → Nat → Int32} {y : Nat → Nat → Int64} (h : ∀ b, 265 ≤ b → x b = mI G b) : KP G (wIJ G x y) := fun b hb => ⟨rfl, rfl, h b hb, rfl⟩
theorem CO2.same {ρ : Type} {v : ρ} (hC : CI G d W) : CO2 G d (some (v, G)) (v, W) := ⟨G, rfl, hC, KP.rfl'⟩
theorem ctrunc2_ok (hC : CI G (d + 1) W) {z : Int32} : CO2 G (d + 1) (fX6_truncateInput 0 z G) (oTrunc W z) := by
  obtain ⟨ro, l, K, h1, h2, h3⟩ := id hC
  obtain ⟨-, -, -, -, t1, o1, -⟩ := id h3
  have hL := t1.1.1
  have g2 : gF G 15 2 0 = some (nW W.2.2.2.1.2) := by
    have : gF G 15 2 0 = some (mI G 2 0) := if_pos h1.ps.2.1.1
    rw [this, t1.1.2.1]
  unfold fX6_truncateInput fX6_truncateInput_0 fX6_truncateInput_20 oTrunc
  simp only [lits]
  rw [h1.f0, Option.bind_some, h1.ps.g0, Option.bind_some]
  rcases ixZ_spec (z := z) (show W.2.2.2.1.2 + 1 < 2147483648 by omega) with ⟨j, e1, e2, e3, e4, e5⟩ | ⟨e1, e2, -⟩
  · subst e3
    have pi1 : pI G 15 2 0 (nW j) = some (wIJ G (u2 (mI G) 2 0 (nW j)) (mJ G)) := by
      have := pI_wij (x := mI G) (y := mJ G) h1.ps.2.1.1 (k := 0) (v := nW j)
      rw [wij_self] at this; exact this
    rw [e1, if_neg e4, g2, Option.bind_some, if_pos ((nW_le (by omega) (by omega)).mpr (by omega)), pi1, Option.bind_some]
    refine ⟨_, rfl, ⟨ro, l, K, h1, h2, h3.soft h1 (fun b hb => ⟨u2_arow (by omega), rfl⟩) ⟨u2_apart (by decide), u2_apart (by decide)⟩ (u2_arow (by decide)) rfl rfl rfl rfl ⟨⟨by show j ≤ 600; omega, u2_same, fun i hi => ?_⟩, by rw [u2_apart (by decide)]; exact t1.2.1, by rw [u2_apart (by decide)]; exact t1.2.2⟩ (by rw [u2_arow (by decide), u2_arow (by decide)]; exact o1)⟩, KP.wij (fun b q1 => u2_arow (by omega))⟩
    show W.2.2.2.1.1 i < 256 ∧ u2 (mI G) 2 0 (nW j) 3 i &&& nW 255 = nW (W.2.2.2.1.1 i)
    rw [u2_apart (by decide)]
    have hi : i < j := hi
    exact t1.1.2.2 i (by omega)
  · rw [e1]
    rcases e2 with e2 | e2
    · rw [if_pos e2, h2.thw]; exact CO2.same hC
    · have : ¬ z ≤ nW W.2.2.2.1.2 := by
        have := e2.2
        rw [Int32.lt_iff_toInt_lt, nW_int (by omega)] at this
        rw [Int32.le_iff_toInt_le, nW_int (by omega)]; omega
      rw [if_neg e2.1, g2, Option.bind_some, if_neg this, h2.thw]; exact CO2.same hC
theorem capp2_ok (hC : CI G d W) {a b c e f : Int32} : CO2 G d (fX6_append 0 a b c e f G) (oApp W a b c e f) := by
  obtain ⟨ro, l, K, h1, h2, h3⟩ := id hC
  obtain ⟨-, -, -, -, t1, o1, -⟩ := id h3
  have hp := h1.ps
  have hL := t1.1.1
  have g0 : gF (wIJ G (mI G) (mJ G)) 15 2 0 = some (nW W.2.2.2.1.2) := by rw [gF_wij hp.2.1.1, t1.1.2.1]
  have g5 : gR (wIJ G (mI G) (mJ G)) 15 2 5 = some 3 := hp.t5
  have hr : fX5_hasRoom 2 G = some (bI (!decide (600 < W.2.2.2.1.2 + 20)), G) := by
    unfold fX5_hasRoom fX5_hasRoom_0 fX5_hasRoom_20
    simp only [lits]
    rw [wij_self] at g0
    rw [g0, Option.bind_some, hp.t5, Option.bind_some, hp.l3, Option.bind_some, nW_add]
    by_cases q : 600 < W.2.2.2.1.2 + 20
    · rw [if_pos ((nW_lt (by decide) (by omega)).mpr q), decide_eq_true q]; exact rz0
    · rw [if_neg (fun z => q ((nW_lt (by decide) (by omega)).mp z)), decide_eq_false q]; exact rz1
  unfold fX6_append fX6_append_0 oApp
  simp only [lits]
  rw [h1.f0, Option.bind_some, hp.g0, Option.bind_some, ck_ok hp.2.1.1, hr, Option.bind_some]
  by_cases q : 600 < W.2.2.2.1.2 + 20
  · rw [if_pos (show bI (!decide (600 < W.2.2.2.1.2 + 20)) = nW 0 by rw [decide_eq_true q]; rfl), if_pos q]
    exact CO2.same hC
  · rw [if_neg (show ¬ bI (!decide (600 < W.2.2.2.1.2 + 20)) = nW 0 by rw [decide_eq_false q]; exact bIt), if_neg q]
    obtain ⟨x1, p1, f1, c1⟩ := cput_ok (G := G) (x := mI G) (y := mJ G) (v := a) hp t1.1 (by omega)
    obtain ⟨x2, p2, f2, c2⟩ := cput_ok (G := G) (x := x1) (y := mJ G) (v := b) hp c1 (by omega)
    obtain ⟨x3, p3, f3, c3⟩ := cput_ok (G := G) (x := x2) (y := mJ G) (v := c) hp c2 (by omega)
    obtain ⟨x4, p4, f4, c4⟩ := cput_ok (G := G) (x := x3) (y := mJ G) (v := e) hp c3 (by omega)
    obtain ⟨x5, p5, f5, c5⟩ := cput_ok (G := G) (x := x4) (y := mJ G) (v := f) hp c4 (by omega)
    rw [wij_self] at p1
    have F : ∀ b j, ¬ (b = 2 ∧ j = 0) → b ≠ 3 → x5 b j = mI G b j := fun b j q1 q2 => by rw [f5 b j q1 q2, f4 b j q1 q2, f3 b j q1 q2, f2 b j q1 q2, f1 b j q1 q2]
    have R : ∀ b, b ≠ 2 → b ≠ 3 → x5 b = mI G b := fun b q1 q2 => funext fun j => F b j (fun z => q1 z.1) q2
    have gl : gF (wIJ G x5 (mJ G)) 15 2 0 = some (nW (W.2.2.2.1.2 + 20)) := by rw [gF_wij hp.2.1.1, c5.2.1]
    rw [ck_ok hp.2.1.1, p1, Option.bind_some, ck_wij, ck_ok hp.2.1.1, p2, Option.bind_some, ck_wij, ck_ok hp.2.1.1, p3, Option.bind_some, ck_wij, ck_ok hp.2.1.1, p4, Option.bind_some, ck_wij, ck_ok hp.2.1.1, p5, Option.bind_some, gl, Option.bind_some]
    exact ⟨_, rfl, ⟨ro, l, K, h1, h2, h3.soft h1 (fun b hb => ⟨R b (by omega) (by omega), rfl⟩) ⟨F 0 6 (by omega) (by decide), F 0 7 (by omega) (by decide)⟩ (R 53 (by decide) (by decide)) rfl rfl rfl rfl ⟨c5, (F 1 1 (by omega) (by decide)).trans t1.2.1, (F 1 2 (by omega) (by decide)).trans t1.2.2⟩ (by rw [R 0 (by decide) (by decide), R 54 (by decide) (by decide)]; exact o1)⟩, KP.wij (fun b q1 => R b (by omega) (by omega))⟩
end KEEP
theorem STR.kp {G G' : Mem} {s w : Nat} {B : List Nat} (h : STR G s w B) (hk : KP G G') : STR G' s w B := by
  obtain ⟨⟨a1, a2, a3⟩, ⟨a4, a5⟩, a6, a7, a8, a9⟩ := h
  obtain ⟨s1, s2, s3, s4⟩ := hk s a8
  obtain ⟨w1, w2, w3, w4⟩ := hk w a9
  exact ⟨⟨s1.trans a1, by rw [s4]; exact a2, by rw [s3]; exact a3⟩, ⟨w1.trans a4, w2.trans a5⟩, fun i hi => by rw [w3]; exact a6 i hi, a7, a8, a9⟩
theorem CI.text {G : Mem} {d : Nat} {W : WSt} (h : CI G d W) {T' : Nat → Nat} (hT : ∀ i, i < W.2.2.2.1.2 → T' i = W.2.2.2.1.1 i) : CI G d (W.1, W.2.1, W.2.2.1, (T', W.2.2.2.1.2), W.2.2.2.2) := by
  obtain ⟨ro, l, K, h1, h2, a1, a2, a3, a4, ⟨⟨b1, b2, b3⟩, b4⟩, a6⟩ := h
  exact ⟨ro, l, K, h1, h2, a1, a2, a3, a4, ⟨⟨b1, b2, fun i hi => by
    have hi : i < W.2.2.2.1.2 := hi
    rw [show (W.1, W.2.1, W.2.2.1, (T', W.2.2.2.1.2), W.2.2.2.2).2.2.2.1.1 i = W.2.2.2.1.1 i from hT i hi]; exact b3 i hi⟩, b4⟩, a6⟩
/-! a String above is read -/
theorem nW_and255 (a : Nat) : nW a &&& nW 255 = nW (a % 256) := by
  apply bv_inj
  show ((BitVec.ofNat 32 a) &&& (BitVec.ofNat 32 255)).toNat = (BitVec.ofNat 32 (a % 256)).toNat
  rw [BitVec.toNat_and, BitVec.toNat_ofNat, BitVec.toNat_ofNat, BitVec.toNat_ofNat]
  rw [show 255 % 2 ^ 32 = 2 ^ 8 - 1 from by decide, Nat.and_two_pow_sub_one_eq_mod]
  omega
theorem c16_ok : (allN 128 fun b => decide (((nW b &&& (255 : Int32)).toUInt32 % 65536).toInt32 = nW b) && decide (0 ≤ (nW b).toInt ∧ (nW b).toInt ≤ 65535)) = true := by decide +kernel
section RDS
variable {G : Mem} {s w : Nat} {B : List Nat}
theorem STR.len (h : STR G s w B) (hB : B.length ≤ 114) : fJ0_length_8abf5h s G = some (nW B.length, G) := by
  obtain ⟨⟨a1, a2, a3⟩, ⟨a4, a5⟩, -⟩ := h
  unfold fJ0_length_8abf5h fJ0_length_8abf5h_0 fJ0_coder_7d493h fJ0_coder_7d493h_0 fJ0_coder_7d493h_14
  rw [gR_ok a1 a2, Option.bind_some, gL_ok (Or.inr (Or.inl a4)), a5, Option.bind_some, show ck G 17 s _ = _ from if_pos a1, if_neg (by decide), show gF G 17 s 1 = some (nW 0) from (if_pos a1).trans (congrArg some a3), Option.bind_some, show rz (nW 0) (some (nW 0, G)) = some (nW 0, G) from if_pos (Or.inl rfl), Option.bind_some]
  show some (nW B.length >>> (nW 0 &&& (31 : Int32)), G) = _
  rw [shr0 (by omega)]
theorem STR.chr (h : STR G s w B) (hB : B.length ≤ 114) {k : Nat} (hk : k < B.length) : fJ0_charAt_5068eh s (nW k) G = some (nW (B.getD k 0), G) := by
  obtain ⟨⟨a1, a2, a3⟩, ⟨a4, a5⟩, a6, a7, -⟩ := h
  have hb := allN_at c16_ok _ (a7 k hk)
  rw [Bool.and_eq_true] at hb
  have hb1 := of_decide_eq_true hb.1
  have hb2 := of_decide_eq_true hb.2
  have rc0 : ∀ z : Option (Int32 × Mem), rc (nW (B.getD k 0)) z = z := fun z => if_pos hb2
  have la : fJ0_isLatin1_aae02h s G = some (nW 1, G) := by
    unfold fJ0_isLatin1_aae02h fJ0_isLatin1_aae02h_0 fJ0_isLatin1_aae02h_18
    rw [if_neg (by decide), show gF G 17 s 1 = some (nW 0) from (if_pos a1).trans (congrArg some a3), Option.bind_some, if_pos (show nW 0 = (0 : Int32) from rfl)]
    exact if_pos (Or.inr rfl)
  have gb : gA G 2 w (nW k) = some (nW (B.getD k 0)) := by
    unfold gA inb
    rw [nW_int (by omega), nW_clamp (by omega), if_pos ⟨a4, by omega, by rw [a5]; omega⟩, a6 k hk]
  unfold fJ0_charAt_5068eh fJ0_charAt_5068eh_0 fJ1_charAt_3b067h fJ1_charAt_3b067h_0 fJ0_checkIndex_df160 fJ0_checkIndex_df160_0 fJ3_checkIndex_8e157 fJ3_checkIndex_8e157_0
  rw [show ck G 17 s _ = _ from if_pos a1, la, Option.bind_some, if_neg (show ¬ (nW 1, G).1 = (0 : Int32) from (by decide : ¬ nW 1 = (0 : Int32))), gR_ok a1 a2, Option.bind_some, gL_ok (Or.inr (Or.inl a4)), a5, Option.bind_some, if_neg (show ¬ nW k < (0 : Int32) from nW_neg_lt (by omega)), if_pos ((nW_lt (by omega) (by omega)).mpr hk), Option.bind_some, Option.bind_some, gb, Option.bind_some, hb1, rc0, Option.bind_some, rc0]
/-- four bytes as a number -/
def pv (B : List Nat) (p : Nat) : Nat → Nat
  | 0 => 0
  | j + 1 => pv B p j * 256 + B.getD (p + j) 0
theorem b128 (h : STR G s w B) (k : Nat) : B.getD k 0 < 128 := by
  by_cases hk : k < B.length
  · exact h.2.2.2.1 k hk
  · rw [List.getD_eq_getElem?_getD, List.getElem?_eq_none (by omega)]; decide
theorem pv_lt (h : STR G s w B) (p : Nat) : ∀ j, j ≤ 4 → pv B p j < 2147483648 ∧ (j ≤ 3 → pv B p j < 16777216) := by
  intro j hj
  have b0 := b128 h (p + 0)
  have b1 := b128 h (p + 1)
  have b2 := b128 h (p + 2)
  have b3 := b128 h (p + 3)
  rcases (show j = 0 ∨ j = 1 ∨ j = 2 ∨ j = 3 ∨ j = 4 by omega) with rfl | rfl | rfl | rfl | rfl <;> simp only [pv] <;> omega
theorem bv4_pv (h : STR G s w B) (p : Nat) {i : Nat} (hi : i < 4) : bv4 (nW (pv B p 4)) i = B.getD (p + i) 0 := by
  have hl := (pv_lt h p 4 (Nat.le_refl _)).1
  have b0 := b128 h (p + 0)
  have b1 := b128 h (p + 1)
  have b2 := b128 h (p + 2)
  have b3 := b128 h (p + 3)
  unfold bv4
  rw [nW_shr hl (by omega), nW_and255, nW_int (by omega)]
  have e : pv B p 4 = ((B.getD (p + 0) 0 * 256 + B.getD (p + 1) 0) * 256 + B.getD (p + 2) 0) * 256 + B.getD (p + 3) 0 := by simp only [pv]; omega
  rw [Int.toNat_natCast, e]
  rcases (show i = 0 ∨ i = 1 ∨ i = 2 ∨ i = 3 by omega) with rfl | rfl | rfl | rfl
  · show (((B.getD (p + 0) 0 * 256 + B.getD (p + 1) 0) * 256 + B.getD (p + 2) 0) * 256 + B.getD (p + 3) 0) / 16777216 % 256 = B.getD (p + 0) 0
    omega
  · show (((B.getD (p + 0) 0 * 256 + B.getD (p + 1) 0) * 256 + B.getD (p + 2) 0) * 256 + B.getD (p + 3) 0) / 65536 % 256 = B.getD (p + 1) 0
    omega
  · show (((B.getD (p + 0) 0 * 256 + B.getD (p + 1) 0) * 256 + B.getD (p + 2) 0) * 256 + B.getD (p + 3) 0) / 256 % 256 = B.getD (p + 2) 0
    omega
  · show (((B.getD (p + 0) 0 * 256 + B.getD (p + 1) 0) * 256 + B.getD (p + 2) 0) * 256 + B.getD (p + 3) 0) / 1 % 256 = B.getD (p + 3) 0
    omega
/-- four bytes of the String -/
theorem word_ok (h : STR G s w B) (hB : B.length ≤ 114) {p : Nat} (hp : p < 1000) {c1 c2 : Nat} {K : Int32 → Mem → Prop} (hK : K (nW (pv B p 4)) G) : wL_word s (nW p) G c1 c2 K := by
  unfold wL_word wL_word_0
  refine loopW_by (fun k z G' => ∃ j, j ≤ 4 ∧ k = 4 - j ∧ z = (nW (pv B p j), nW (p + j)) ∧ G' = G) K (fun k z G' hi Q h1 h2 => ?_) FU 4 _ G (by decide) ⟨0, Nat.zero_le _, rfl, rfl, rfl⟩
  obtain ⟨j, hj, rfl, rfl, rfl⟩ := hi
  unfold wL_word_4
  dsimp only
  rw [show (4 : Int32) = nW 4 from rfl, nW_add]
  by_cases e : j < 4
  · have b := b128 h (p + j)
    have v := (pv_lt h p j hj).2 (by omega)
    rw [if_neg (by rw [nW_le (by omega) (by omega)]; omega)]
    refine ⟨h.1.1, _, h.len hB, ?_⟩
    dsimp only
    have e8 : nW (pv B p j) <<< ((8 : Int32) &&& 31) = nW (pv B p j * 2 ^ 8) := nW_shl (pv B p j) (k := 8) (by decide)
    have st : ∀ v2, v2 = nW (B.getD (p + j) 0) → wL_word_32 s (nW p) (nW (p + j)) (nW (pv B p j) <<< ((8 : Int32) &&& 31)) v2 G' c1 c2 Q := by
      intro v2 hv
      unfold wL_word_32
      rw [hv, e8, nW_or 8 (by omega) (by omega), show (1 : Int32) = nW 1 from rfl, nW_add]
      exact h1 (4 - (j + 1)) _ _ (by omega) ⟨j + 1, by omega, rfl, rfl, rfl⟩
    by_cases q : p + j < B.length
    · rw [if_neg (by rw [nW_le (by omega) (by omega)]; omega)]
      exact ⟨h.1.1, _, h.chr hB q, st _ rfl⟩
    · rw [if_pos ((nW_le (by omega) (by omega)).mpr (by omega))]
      refine st 0 ?_
      rw [List.getD_eq_getElem?_getD, List.getElem?_eq_none (by omega)]; rfl
  · have e : j = 4 := by omega
    subst e
    rw [if_pos ((nW_le (by omega) (by omega)).mpr (Nat.le_refl _))]
    unfold wL_word_40
    exact h2 _ _ hK
end RDS
/-- the text is written into the class's object -/
theorem write_ok {G : Mem} {s w d : Nat} {B : List Nat} {A : ASt} {hs : List ASt} {sl : Nat → Option ASt} {er : Int32 × Int32} {ou : (Nat → Nat) × Nat} {T0 : Nat → Nat} {L0 : Nat} (hC : CI G (d + 1) (A, hs, sl, (T0, L0), er, ou)) (h : STR G s w B) (hB : B.length ≤ 114) {c1 c2 : Nat} {K : Int32 → Mem → Prop}
    (hK : ∀ G', CI G' (d + 1) (A, hs, sl, ((fun i => B.getD i 0), B.length), er, ou) → K 1 G') : wL_write 0 s G c1 c2 K := by
  have tr : ∀ {G1 : Mem} {T : Nat → Nat} {L j : Nat}, CI G1 (d + 1) (A, hs, sl, (T, L), er, ou) → j ≤ L → L ≤ 600 → STR G1 s w B → ∀ {K2 : Int32 → Mem → Prop}, (∀ G2, CI G2 (d + 1) (A, hs, sl, (T, j), er, ou) → STR G2 s w B → K2 (nW j) G2) → wpL (fL_truncateInput 0 (nW j) G1) hsL_truncateInput c1 c2 K2 := by
    intro G1 T L j C hj hL hS K2 hK2
    obtain ⟨G2, e, C2, kp⟩ := ctrunc2_ok C (z := nW j)
    have ot : oTrunc (A, hs, sl, (T, L), er, ou) (nW j) = (.inl (nW j), (A, hs, sl, (T, j), er, ou)) := by
      unfold oTrunc
      rw [ixZ_nW (show j < L + 1 by omega) (by show L + 1 < _; omega)]
    rw [ot] at e C2
    refine ⟨(.inl (nW j), G2), ?_, hK2 G2 C2 (hS.kp kp)⟩
    unfold fL_truncateInput
    rw [show ck G1 16 0 _ = _ from if_pos C.ct, e]
    rfl
  have hL0 : L0 ≤ 600 := by
    obtain ⟨ro, l, K, -, -, -, -, -, -, ⟨⟨b1, -⟩, -⟩, -⟩ := hC
    exact b1
  unfold wL_write wL_write_0
  refine tr (j := 0) hC (Nat.zero_le _) hL0 h (fun G1 C1 S1 => ?_)
  rw [if_pos (show nW 0 = (0 : Int32) from rfl)]
  refine loopW_by (fun k z G' => ∃ j T, j ≤ 6 ∧ k = 6 - j ∧ z = nW (20 * j) ∧ (j = 0 ∨ 20 * (j - 1) < B.length) ∧ (∀ i, i < 20 * j → T i = B.getD i 0) ∧ CI G' (d + 1) (A, hs, sl, (T, 20 * j), er, ou) ∧ STR G' s w B) K (fun k z G' hi Q h1 h2 => ?_) FU 6 _ G1 (by decide) ⟨0, T0, Nat.zero_le _, rfl, rfl, Or.inl rfl, fun i hi => absurd hi (Nat.not_lt_zero _), C1, S1⟩
  obtain ⟨j, T, hj, rfl, rfl, hlast, hT, C, S⟩ := hi
  unfold wL_write_12
  refine ⟨S.1.1, _, S.len hB, ?_⟩
  dsimp only
  by_cases e : 20 * j < B.length
  · rw [if_neg (by rw [nW_le (by omega) (by omega)]; omega)]
    refine word_ok S hB (by omega) ?_
    rw [show (4 : Int32) = nW 4 from rfl, nW_add]
    refine word_ok S hB (by omega) ?_
    rw [show (8 : Int32) = nW 8 from rfl, nW_add]
    refine word_ok S hB (by omega) ?_
    rw [show (12 : Int32) = nW 12 from rfl, nW_add]
    refine word_ok S hB (by omega) ?_
    rw [show (16 : Int32) = nW 16 from rfl, nW_add]
    refine word_ok S hB (by omega) ?_
    obtain ⟨G2, ea, C2, kp⟩ := capp2_ok C (a := nW (pv B (20 * j) 4)) (b := nW (pv B (20 * j + 4) 4)) (c := nW (pv B (20 * j + 8) 4)) (e := nW (pv B (20 * j + 12) 4)) (f := nW (pv B (20 * j + 16) 4))
    have oa : ∀ a b c e f, oApp (A, hs, sl, (T, 20 * j), er, ou) a b c e f = (nW (20 * j + 20), (A, hs, sl, (app4 (app4 (app4 (app4 (app4 T (20 * j) a) (20 * j + 4) b) (20 * j + 8) c) (20 * j + 12) e) (20 * j + 16) f, 20 * j + 20), er, ou)) := fun a b c e f => by
      unfold oApp
      rw [if_neg (show ¬ 600 < 20 * j + 20 by omega)]
    rw [oa] at ea C2
    refine ⟨C.ct, _, ea, ?_⟩
    dsimp only
    rw [show (20 : Int32) = nW 20 from rfl, nW_add, if_pos rfl]
    refine h1 (6 - (j + 1)) _ _ (by omega) ⟨j + 1, _, by omega, rfl, by rw [Nat.mul_succ], Or.inr (by rw [Nat.add_sub_cancel]; exact e), fun i hi => ?_, (show CI G2 (d + 1) _ from by rw [Nat.mul_succ]; exact C2), S.kp kp⟩
    have ap : ∀ (T : Nat → Nat) (L p i : Nat), app4 T L (nW (pv B p 4)) i = if L ≤ i ∧ i < L + 4 then bv4 (nW (pv B p 4)) (i - L) else T i := fun _ _ _ _ => rfl
    rw [ap, ap, ap, ap, ap]
    by_cases q4 : 20 * j + 16 ≤ i ∧ i < 20 * j + 16 + 4
    · rw [if_pos q4, bv4_pv S _ (by omega), show 20 * j + 16 + (i - (20 * j + 16)) = i by omega]
    rw [if_neg q4]
    by_cases q3 : 20 * j + 12 ≤ i ∧ i < 20 * j + 12 + 4
    · rw [if_pos q3, bv4_pv S _ (by omega), show 20 * j + 12 + (i - (20 * j + 12)) = i by omega]
    rw [if_neg q3]
    by_cases q2 : 20 * j + 8 ≤ i ∧ i < 20 * j + 8 + 4
    · rw [if_pos q2, bv4_pv S _ (by omega), show 20 * j + 8 + (i - (20 * j + 8)) = i by omega]
    rw [if_neg q2]
    by_cases q1 : 20 * j + 4 ≤ i ∧ i < 20 * j + 4 + 4
    · rw [if_pos q1, bv4_pv S _ (by omega), show 20 * j + 4 + (i - (20 * j + 4)) = i by omega]
    rw [if_neg q1]
    by_cases q0 : 20 * j ≤ i ∧ i < 20 * j + 4
    · rw [if_pos q0, bv4_pv S _ (by omega), show 20 * j + (i - 20 * j) = i by omega]
    rw [if_neg q0]
    exact hT i (by omega)
  · rw [if_pos ((nW_le (by omega) (by omega)).mpr (by omega))]
    unfold wL_write_75
    refine ⟨S.1.1, _, S.len hB, ?_⟩
    dsimp only
    refine tr C (j := B.length) (by omega) (by omega) S (fun G2 C2 S2 => ?_)
    refine ⟨S2.1.1, _, S2.len hB, ?_⟩
    dsimp only
    rw [if_pos rfl]
    unfold wL_write_95
    refine ⟨Or.inr rfl, h2 _ _ (hK G2 ?_)⟩
    exact C2.text (T' := fun i => B.getD i 0) (fun i hi => (hT i (by have hi : i < B.length := hi; omega)).symm)
