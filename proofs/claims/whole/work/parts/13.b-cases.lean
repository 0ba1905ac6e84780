/-! ===== the law's cases ===== -/
theorem bz_01 (x : Int32) : bz x = 0 ∨ bz x = 1 := by
  unfold bz
  split
  · exact Or.inl rfl
  · exact Or.inr rfl
theorem inb_k {n j k : Nat} (hn : n ≤ 3584) (hj : 7 * j + 7 ≤ n) (hk : k < 7) : inb (nW (7 * j) + nW k) n := by
  rw [nW_add]
  exact (inb_nW (by omega)).mpr (by omega)
theorem f2d_n64 {a : UInt32} (h : FP.Core.decode FP.Core.b32 a.toNat ≠ .nan) : vf_n64 (FP.f2d a) := by
  have e : ∀ d : FP.Core.Datum, d ≠ .nan → NCf FP.Core.b64 (FP.Core.round FP.Core.b64 d) := fun d hd => by
    cases d with
    | nan => exact absurd rfl hd
    | inf s => trivial
    | fin s c q => exact nc_ratio two64.1 two64.2.1 two64.2.2
  have b := nc64 (e _ h)
  have ef : FP.f2d a = FP.Core.f2d a := by
    have hn : FP.Core.fIsNaN a = false := by
      show decide (FP.Core.decode FP.Core.b32 a.toNat = .nan) = false
      exact decide_eq_false h
    show (if FP.Core.fIsNaN a = true then _ else FP.Core.f2d a) = _
    rw [hn, if_neg (by decide)]
  rw [ef]
  show FP.Core.f2d a &&& 0x7fffffffffffffff ≤ 0x7ff0000000000000
  rw [UInt64.le_iff_toNat_le, UInt64.toNat_and]
  show (FP.Core.encode FP.Core.b64 (FP.Core.round FP.Core.b64 (FP.Core.decode FP.Core.b32 a.toNat)) % 2 ^ 64) &&& (2 ^ 63 - 1) ≤ 9218868437227405312
  rw [Nat.and_two_pow_sub_one_eq_mod]
  generalize FP.Core.encode FP.Core.b64 (FP.Core.round FP.Core.b64 (FP.Core.decode FP.Core.b32 a.toNat)) = u at *
  omega
theorem csS_n {A : ASt} (hA : AAOK A) : vf_n64 (FP.f2d (csS A)) := by
  have hn := szs36 hA.1
  have hpos : 0 < A.1 * A.2.1 := Nat.mul_pos (by have := hA.1.1; omega) (by have := hA.1.2.2.1; omega)
  have a := nc32 (nc_ratio two32.1 two32.2.1 two32.2.2 (s := decide ((nW (smA A)).toInt < 0)) (a := (nW (smA A)).toInt.natAbs) (b := 1) (e := 0))
  have en : FP.Core.decode FP.Core.b32 (FP.Core.i2f (nW (smA A))).toNat ≠ .nan := by
    apply dec32
    show (FP.Core.encode FP.Core.b32 (FP.Core.round FP.Core.b32 (FP.Core.ofInt (nW (smA A)).toInt)) % 2 ^ 32) % _ ≤ _
    have : FP.Core.round FP.Core.b32 (FP.Core.ofInt (nW (smA A)).toInt) = FP.Core.roundRatio FP.Core.b32 (decide ((nW (smA A)).toInt < 0)) (nW (smA A)).toInt.natAbs 1 0 := rfl
    rw [this]; omega
  have b := nc32 (nc_quot two32.1 two32.2.1 two32.2.2 en (den32 (A.1 * A.2.1) (by omega) (by omega)))
  refine f2d_n64 (dec32 ?_)
  show (FP.Core.encode FP.Core.b32 (FP.Core.quotient FP.Core.b32 (FP.Core.decode FP.Core.b32 (FP.Core.i2f (nW (smA A))).toNat) (FP.Core.decode FP.Core.b32 (FP.Core.i2f (nW (A.1 * A.2.1))).toNat)) % 2 ^ 32) % _ ≤ _
  omega
section WCP
variable {xs : Nat → Int32} {n j : Nat} {G : Mem}
theorem wcp_0 (hn : n ≤ 3584) (hj : 7 * j + 7 ≤ n) (hI : Inv j G) : wc_0 xs n 0 265 281 (Int32.ofNat (7 * j)) 601024 7293034 G (Inv (j + 1)) := by
  obtain ⟨hM, W, hC, hR⟩ := hI
  obtain ⟨d, hd⟩ : ∃ d, 512 - j = d + 1 := ⟨511 - j, by omega⟩
  rw [hd] at hC
  have hd2 : 512 - (j + 1) = d := by omega
  have hA := hC.aok
  have hi : ∀ k, k < 7 → inb (Int32.ofNat (7 * j) + Int32.ofNat k) n := fun k hk => inb_k hn hj hk
  unfold wc_0
  obtain ⟨q1, e1, m1, q2, e2, e3, e4, e5⟩ := both_ok hM hR (c := fX6_append 0 (xs ((Int32.ofNat (7 * j) + (1 : Int32))).toNatClampNeg) (xs ((Int32.ofNat (7 * j) + (2 : Int32))).toNatClampNeg) (xs ((Int32.ofNat (7 * j) + (3 : Int32))).toNatClampNeg) (xs ((Int32.ofNat (7 * j) + (4 : Int32))).toNatClampNeg) (xs ((Int32.ofNat (7 * j) + (5 : Int32))).toNatClampNeg) G) (capp_ok hC) (f := fun G => fX7_append 265 (xs ((Int32.ofNat (7 * j) + (1 : Int32))).toNatClampNeg) (xs ((Int32.ofNat (7 * j) + (2 : Int32))).toNatClampNeg) (xs ((Int32.ofNat (7 * j) + (3 : Int32))).toNatClampNeg) (xs ((Int32.ofNat (7 * j) + (4 : Int32))).toNatClampNeg) (xs ((Int32.ofNat (7 * j) + (5 : Int32))).toNatClampNeg) G) (fun G' h r => mapp_ok h r)
  have fin : Inv (j + 1) q2.2 := ⟨e4.1, by rw [hd2]; obtain ⟨W', a, b⟩ := e4.2; exact ⟨W', a.le (Nat.le_succ d), b⟩⟩
  exact ⟨hi 1 (by decide), hi 2 (by decide), hi 3 (by decide), hi 4 (by decide), hi 5 (by decide), hC.ct, q1, e1, hi 1 (by decide), hi 2 (by decide), hi 3 (by decide), hi 4 (by decide), hi 5 (by decide), m1, q2, e2, fun _ => fin, fun z => z e3⟩
theorem wcp_1 (hn : n ≤ 3584) (hj : 7 * j + 7 ≤ n) (hI : Inv j G) : wc_1 xs n 0 265 281 (Int32.ofNat (7 * j)) 601024 7293034 G (Inv (j + 1)) := by
  obtain ⟨hM, W, hC, hR⟩ := hI
  obtain ⟨d, hd⟩ : ∃ d, 512 - j = d + 1 := ⟨511 - j, by omega⟩
  rw [hd] at hC
  have hd2 : 512 - (j + 1) = d := by omega
  have hA := hC.aok
  have hi : ∀ k, k < 7 → inb (Int32.ofNat (7 * j) + Int32.ofNat k) n := fun k hk => inb_k hn hj hk
  unfold wc_1
  exact ⟨hi 1 (by decide), wpL_mono (bothE_ok hM hR (ctrunc_ok hC) (f := fun G => fX7_truncateInput 265 (xs ((Int32.ofNat (7 * j) + (1 : Int32))).toNatClampNeg) G) (hs := hsL_truncateInput) (fun G' h r => mtrunc_ok h r rfl) (ks := [0]) (by intro k hk; unfold oTrunc at hk; (try dsimp only at hk); first | (first | (have e := Sum.inr.inj hk; subst e; decide) | exact absurd hk Sum.inl_ne_inr) | (split at hk <;> first | (first | (have e := Sum.inr.inj hk; subst e; decide) | exact absurd hk Sum.inl_ne_inr) | (split at hk <;> first | (first | (have e := Sum.inr.inj hk; subst e; decide) | exact absurd hk Sum.inl_ne_inr) | (split at hk <;> first | (first | (have e := Sum.inr.inj hk; subst e; decide) | exact absurd hk Sum.inl_ne_inr))))) (by decide) hC.ct (cv := fun v => v.toInt64) (P := Inv (j + 1)) (fun G' h q => ⟨h, by rw [hd2]; exact q⟩)) (fun v G3 h => ⟨hi 1 (by decide), h⟩)⟩
theorem wcp_2 (hn : n ≤ 3584) (hj : 7 * j + 7 ≤ n) (hI : Inv j G) : wc_2 xs n 0 265 281 (Int32.ofNat (7 * j)) 601024 7293034 G (Inv (j + 1)) := by
  obtain ⟨hM, W, hC, hR⟩ := hI
  obtain ⟨d, hd⟩ : ∃ d, 512 - j = d + 1 := ⟨511 - j, by omega⟩
  rw [hd] at hC
  have hd2 : 512 - (j + 1) = d := by omega
  have hA := hC.aok
  have hi : ∀ k, k < 7 → inb (Int32.ofNat (7 * j) + Int32.ofNat k) n := fun k hk => inb_k hn hj hk
  unfold wc_2
  obtain ⟨q1, e1, m1, q2, e2, e3, e4, e5⟩ := both_ok hM hR (c := fX6_load 0 G) (cload_ok hC) (f := fun G => fX7_load 265 G) (fun G' h r => mload2_ok h hA r)
  have fin : Inv (j + 1) q2.2 := ⟨e4.1, by rw [hd2]; obtain ⟨W', a, b⟩ := e4.2; exact ⟨W', a.le (Nat.le_succ d), b⟩⟩
  exact ⟨hC.ct, q1, e1, m1, q2, e2, fun _ => fin, fun z => z e3⟩
theorem wcp_3 (hn : n ≤ 3584) (hj : 7 * j + 7 ≤ n) (hI : Inv j G) : wc_3 xs n 0 265 281 (Int32.ofNat (7 * j)) 601024 7293034 G (Inv (j + 1)) := by
  obtain ⟨hM, W, hC, hR⟩ := hI
  obtain ⟨d, hd⟩ : ∃ d, 512 - j = d + 1 := ⟨511 - j, by omega⟩
  rw [hd] at hC
  have hd2 : 512 - (j + 1) = d := by omega
  have hA := hC.aok
  have hi : ∀ k, k < 7 → inb (Int32.ofNat (7 * j) + Int32.ofNat k) n := fun k hk => inb_k hn hj hk
  unfold wc_3
  obtain ⟨q1, e1, m1, q2, e2, e3, e4, e5⟩ := both_ok hM hR (c := fX6_play 0 G) (cplay_ok hC) (f := fun G => fX7_play 265 G) (fun G' h r => mplay2_ok h hA r)
  have fin : Inv (j + 1) q2.2 := ⟨e4.1, by rw [hd2]; obtain ⟨W', a, b⟩ := e4.2; exact ⟨W', a.le (Nat.le_succ d), b⟩⟩
  exact ⟨hC.ct, q1, e1, m1, q2, e2, fun _ => fin, fun z => z e3⟩
theorem wcp_4 (hn : n ≤ 3584) (hj : 7 * j + 7 ≤ n) (hI : Inv j G) : wc_4 xs n 0 265 281 (Int32.ofNat (7 * j)) 601024 7293034 G (Inv (j + 1)) := by
  obtain ⟨hM, W, hC, hR⟩ := hI
  obtain ⟨d, hd⟩ : ∃ d, 512 - j = d + 1 := ⟨511 - j, by omega⟩
  rw [hd] at hC
  have hd2 : 512 - (j + 1) = d := by omega
  have hA := hC.aok
  have hi : ∀ k, k < 7 → inb (Int32.ofNat (7 * j) + Int32.ofNat k) n := fun k hk => inb_k hn hj hk
  unfold wc_4
  obtain ⟨q1, e1, m1, q2, e2, e3, e4, e5⟩ := both_ok hM hR (c := fX6_errorCode 0 G) (cerrc_ok hC) (f := fun G => fX7_errorCode 265 G) (fun G' h r => merrc_ok h r)
  have fin : Inv (j + 1) q2.2 := ⟨e4.1, by rw [hd2]; obtain ⟨W', a, b⟩ := e4.2; exact ⟨W', a.le (Nat.le_succ d), b⟩⟩
  exact ⟨hC.ct, q1, e1, m1, q2, e2, fun _ => fin, fun z => z e3⟩
theorem wcp_5 (hn : n ≤ 3584) (hj : 7 * j + 7 ≤ n) (hI : Inv j G) : wc_5 xs n 0 265 281 (Int32.ofNat (7 * j)) 601024 7293034 G (Inv (j + 1)) := by
  obtain ⟨hM, W, hC, hR⟩ := hI
  obtain ⟨d, hd⟩ : ∃ d, 512 - j = d + 1 := ⟨511 - j, by omega⟩
  rw [hd] at hC
  have hd2 : 512 - (j + 1) = d := by omega
  have hA := hC.aok
  have hi : ∀ k, k < 7 → inb (Int32.ofNat (7 * j) + Int32.ofNat k) n := fun k hk => inb_k hn hj hk
  unfold wc_5
  obtain ⟨q1, e1, m1, q2, e2, e3, e4, e5⟩ := both_ok hM hR (c := fX6_errorOffset 0 G) (cerro_ok hC) (f := fun G => fX7_errorOffset 265 G) (fun G' h r => merro_ok h r)
  have fin : Inv (j + 1) q2.2 := ⟨e4.1, by rw [hd2]; obtain ⟨W', a, b⟩ := e4.2; exact ⟨W', a.le (Nat.le_succ d), b⟩⟩
  exact ⟨hC.ct, q1, e1, m1, q2, e2, fun _ => fin, fun z => z e3⟩
theorem wcp_6 (hn : n ≤ 3584) (hj : 7 * j + 7 ≤ n) (hI : Inv j G) : wc_6 xs n 0 265 281 (Int32.ofNat (7 * j)) 601024 7293034 G (Inv (j + 1)) := by
  obtain ⟨hM, W, hC, hR⟩ := hI
  obtain ⟨d, hd⟩ : ∃ d, 512 - j = d + 1 := ⟨511 - j, by omega⟩
  rw [hd] at hC
  have hd2 : 512 - (j + 1) = d := by omega
  have hA := hC.aok
  have hi : ∀ k, k < 7 → inb (Int32.ofNat (7 * j) + Int32.ofNat k) n := fun k hk => inb_k hn hj hk
  unfold wc_6
  exact ⟨hi 1 (by decide), hi 2 (by decide), hi 3 (by decide), hi 4 (by decide), hi 5 (by decide), hi 6 (by decide), wpL_mono (bothE_ok hM hR (caddNote_ok hC (bz_01 _) (bz_01 _)) (f := fun G => fX7_addNote 265 (xs ((Int32.ofNat (7 * j) + (1 : Int32))).toNatClampNeg) (xs ((Int32.ofNat (7 * j) + (2 : Int32))).toNatClampNeg) (xs ((Int32.ofNat (7 * j) + (3 : Int32))).toNatClampNeg) (xs ((Int32.ofNat (7 * j) + (4 : Int32))).toNatClampNeg) (bz (xs ((Int32.ofNat (7 * j) + (5 : Int32))).toNatClampNeg)) (bz (xs ((Int32.ofNat (7 * j) + (6 : Int32))).toNatClampNeg)) G) (hs := hsL_addNote) (fun G' h r => madd_ok h hA r (bz_01 _) (bz_01 _) rfl rfl) (ks := [0, 1]) (by intro k hk; unfold oAdd at hk; (try dsimp only at hk); first | (first | (have e := Sum.inr.inj hk; subst e; decide) | exact absurd hk Sum.inl_ne_inr) | (split at hk <;> first | (first | (have e := Sum.inr.inj hk; subst e; decide) | exact absurd hk Sum.inl_ne_inr) | (split at hk <;> first | (first | (have e := Sum.inr.inj hk; subst e; decide) | exact absurd hk Sum.inl_ne_inr) | (split at hk <;> first | (first | (have e := Sum.inr.inj hk; subst e; decide) | exact absurd hk Sum.inl_ne_inr))))) (by decide) hC.ct (cv := fun v => v.toInt64) (P := Inv (j + 1)) (fun G' h q => ⟨h, by rw [hd2]; exact q⟩)) (fun v G3 h => ⟨hi 1 (by decide), hi 2 (by decide), hi 3 (by decide), hi 4 (by decide), hi 5 (by decide), hi 6 (by decide), h⟩)⟩
theorem wcp_7 (hn : n ≤ 3584) (hj : 7 * j + 7 ≤ n) (hI : Inv j G) : wc_7 xs n 0 265 281 (Int32.ofNat (7 * j)) 601024 7293034 G (Inv (j + 1)) := by
  obtain ⟨hM, W, hC, hR⟩ := hI
  obtain ⟨d, hd⟩ : ∃ d, 512 - j = d + 1 := ⟨511 - j, by omega⟩
  rw [hd] at hC
  have hd2 : 512 - (j + 1) = d := by omega
  have hA := hC.aok
  have hi : ∀ k, k < 7 → inb (Int32.ofNat (7 * j) + Int32.ofNat k) n := fun k hk => inb_k hn hj hk
  unfold wc_7
  exact ⟨hi 1 (by decide), hi 2 (by decide), hi 3 (by decide), wpL_mono (bothE_ok hM hR (cclarify_ok hC) (f := fun G => fX7_clarify 265 (xs ((Int32.ofNat (7 * j) + (1 : Int32))).toNatClampNeg) (xs ((Int32.ofNat (7 * j) + (2 : Int32))).toNatClampNeg) (xs ((Int32.ofNat (7 * j) + (3 : Int32))).toNatClampNeg) G) (hs := hsL_clarify) (fun G' h r => mclar_ok h hA r rfl rfl rfl) (ks := [2, 0, 1]) (by intro k hk; unfold oClar at hk; (try dsimp only at hk); first | (first | (have e := Sum.inr.inj hk; subst e; decide) | exact absurd hk Sum.inl_ne_inr) | (split at hk <;> first | (first | (have e := Sum.inr.inj hk; subst e; decide) | exact absurd hk Sum.inl_ne_inr) | (split at hk <;> first | (first | (have e := Sum.inr.inj hk; subst e; decide) | exact absurd hk Sum.inl_ne_inr) | (split at hk <;> first | (first | (have e := Sum.inr.inj hk; subst e; decide) | exact absurd hk Sum.inl_ne_inr))))) (by decide) hC.ct (cv := fun v => v.toInt64) (P := Inv (j + 1)) (fun G' h q => ⟨h, by rw [hd2]; exact q⟩)) (fun v G3 h => ⟨hi 1 (by decide), hi 2 (by decide), hi 3 (by decide), h⟩)⟩
theorem wcp_8 (hn : n ≤ 3584) (hj : 7 * j + 7 ≤ n) (hI : Inv j G) : wc_8 xs n 0 265 281 (Int32.ofNat (7 * j)) 601024 7293034 G (Inv (j + 1)) := by
  obtain ⟨hM, W, hC, hR⟩ := hI
  obtain ⟨d, hd⟩ : ∃ d, 512 - j = d + 1 := ⟨511 - j, by omega⟩
  rw [hd] at hC
  have hd2 : 512 - (j + 1) = d := by omega
  have hA := hC.aok
  have hi : ∀ k, k < 7 → inb (Int32.ofNat (7 * j) + Int32.ofNat k) n := fun k hk => inb_k hn hj hk
  unfold wc_8
  exact wpL_mono (bothE_ok hM hR (cdrop_ok hC) (f := fun G => fX7_dropNote 265 G) (hs := hsL_dropNote) (fun G' h r => mdrop_ok h hA r rfl) (ks := [1]) (by intro k hk; unfold oDrop at hk; (try dsimp only at hk); first | (first | (have e := Sum.inr.inj hk; subst e; decide) | exact absurd hk Sum.inl_ne_inr) | (split at hk <;> first | (first | (have e := Sum.inr.inj hk; subst e; decide) | exact absurd hk Sum.inl_ne_inr) | (split at hk <;> first | (first | (have e := Sum.inr.inj hk; subst e; decide) | exact absurd hk Sum.inl_ne_inr) | (split at hk <;> first | (first | (have e := Sum.inr.inj hk; subst e; decide) | exact absurd hk Sum.inl_ne_inr))))) (by decide) hC.ct (cv := fun v => v.toInt64) (P := Inv (j + 1)) (fun G' h q => ⟨h, by rw [hd2]; exact q⟩)) (fun v G3 h => h)
theorem wcp_9 (hn : n ≤ 3584) (hj : 7 * j + 7 ≤ n) (hI : Inv j G) : wc_9 xs n 0 265 281 (Int32.ofNat (7 * j)) 601024 7293034 G (Inv (j + 1)) := by
  obtain ⟨hM, W, hC, hR⟩ := hI
  obtain ⟨d, hd⟩ : ∃ d, 512 - j = d + 1 := ⟨511 - j, by omega⟩
  rw [hd] at hC
  have hd2 : 512 - (j + 1) = d := by omega
  have hA := hC.aok
  have hi : ∀ k, k < 7 → inb (Int32.ofNat (7 * j) + Int32.ofNat k) n := fun k hk => inb_k hn hj hk
  unfold wc_9
  exact wpL_mono (bothE_ok hM hR (cundo_ok hC) (f := fun G => fX7_undo 265 G) (hs := hsL_undo) (fun G' h r => mundo_ok h r hC.his rfl) (ks := [1]) (by intro k hk; unfold oUndo at hk; (try dsimp only at hk); first | (first | (have e := Sum.inr.inj hk; subst e; decide) | exact absurd hk Sum.inl_ne_inr) | (split at hk <;> first | (first | (have e := Sum.inr.inj hk; subst e; decide) | exact absurd hk Sum.inl_ne_inr) | (split at hk <;> first | (first | (have e := Sum.inr.inj hk; subst e; decide) | exact absurd hk Sum.inl_ne_inr) | (split at hk <;> first | (first | (have e := Sum.inr.inj hk; subst e; decide) | exact absurd hk Sum.inl_ne_inr))))) (by decide) hC.ct (cv := fun v => v.toInt64) (P := Inv (j + 1)) (fun G' h q => ⟨h, by rw [hd2]; exact q⟩)) (fun v G3 h => h)
theorem wcp_10 (hn : n ≤ 3584) (hj : 7 * j + 7 ≤ n) (hI : Inv j G) : wc_10 xs n 0 265 281 (Int32.ofNat (7 * j)) 601024 7293034 G (Inv (j + 1)) := by
  obtain ⟨hM, W, hC, hR⟩ := hI
  obtain ⟨d, hd⟩ : ∃ d, 512 - j = d + 1 := ⟨511 - j, by omega⟩
  rw [hd] at hC
  have hd2 : 512 - (j + 1) = d := by omega
  have hA := hC.aok
  have hi : ∀ k, k < 7 → inb (Int32.ofNat (7 * j) + Int32.ofNat k) n := fun k hk => inb_k hn hj hk
  unfold wc_10
  exact ⟨hi 1 (by decide), wpL_mono (bothE_ok hM hR (csave_ok hC) (f := fun G => fX7_save 265 (xs ((Int32.ofNat (7 * j) + (1 : Int32))).toNatClampNeg) G) (hs := hsL_save) (fun G' h r => msave_ok h hA r rfl) (ks := [0]) (by intro k hk; unfold oSave at hk; (try dsimp only at hk); first | (first | (have e := Sum.inr.inj hk; subst e; decide) | exact absurd hk Sum.inl_ne_inr) | (split at hk <;> first | (first | (have e := Sum.inr.inj hk; subst e; decide) | exact absurd hk Sum.inl_ne_inr) | (split at hk <;> first | (first | (have e := Sum.inr.inj hk; subst e; decide) | exact absurd hk Sum.inl_ne_inr) | (split at hk <;> first | (first | (have e := Sum.inr.inj hk; subst e; decide) | exact absurd hk Sum.inl_ne_inr))))) (by decide) hC.ct (cv := fun v => v.toInt64) (P := Inv (j + 1)) (fun G' h q => ⟨h, by rw [hd2]; exact q⟩)) (fun v G3 h => ⟨hi 1 (by decide), h⟩)⟩
theorem wcp_11 (hn : n ≤ 3584) (hj : 7 * j + 7 ≤ n) (hI : Inv j G) : wc_11 xs n 0 265 281 (Int32.ofNat (7 * j)) 601024 7293034 G (Inv (j + 1)) := by
  obtain ⟨hM, W, hC, hR⟩ := hI
  obtain ⟨d, hd⟩ : ∃ d, 512 - j = d + 1 := ⟨511 - j, by omega⟩
  rw [hd] at hC
  have hd2 : 512 - (j + 1) = d := by omega
  have hA := hC.aok
  have hi : ∀ k, k < 7 → inb (Int32.ofNat (7 * j) + Int32.ofNat k) n := fun k hk => inb_k hn hj hk
  unfold wc_11
  exact ⟨hi 1 (by decide), wpL_mono (bothE_ok hM hR (crest_ok hC) (f := fun G => fX7_restore 265 (xs ((Int32.ofNat (7 * j) + (1 : Int32))).toNatClampNeg) G) (hs := hsL_restore) (fun G' h r => mrest_ok h hA r hC.slo rfl rfl) (ks := [0, 1]) (by intro k hk; unfold oRest at hk; (try dsimp only at hk); first | (first | (have e := Sum.inr.inj hk; subst e; decide) | exact absurd hk Sum.inl_ne_inr) | (split at hk <;> first | (first | (have e := Sum.inr.inj hk; subst e; decide) | exact absurd hk Sum.inl_ne_inr) | (split at hk <;> first | (first | (have e := Sum.inr.inj hk; subst e; decide) | exact absurd hk Sum.inl_ne_inr) | (split at hk <;> first | (first | (have e := Sum.inr.inj hk; subst e; decide) | exact absurd hk Sum.inl_ne_inr))))) (by decide) hC.ct (cv := fun v => v.toInt64) (P := Inv (j + 1)) (fun G' h q => ⟨h, by rw [hd2]; exact q⟩)) (fun v G3 h => ⟨hi 1 (by decide), h⟩)⟩
theorem wcp_12 (hn : n ≤ 3584) (hj : 7 * j + 7 ≤ n) (hI : Inv j G) : wc_12 xs n 0 265 281 (Int32.ofNat (7 * j)) 601024 7293034 G (Inv (j + 1)) := by
  obtain ⟨hM, W, hC, hR⟩ := hI
  obtain ⟨d, hd⟩ : ∃ d, 512 - j = d + 1 := ⟨511 - j, by omega⟩
  rw [hd] at hC
  have hd2 : 512 - (j + 1) = d := by omega
  have hA := hC.aok
  have hi : ∀ k, k < 7 → inb (Int32.ofNat (7 * j) + Int32.ofNat k) n := fun k hk => inb_k hn hj hk
  unfold wc_12
  obtain ⟨q1, e1, m1, q2, e2, e3, e4, e5⟩ := both_ok hM hR (c := fX6_columns 0 G) (ccolumns_ok hC) (f := fun G => fX7_columns 265 G) (fun G' h r => mcolumns_ok h r)
  have fin : Inv (j + 1) q2.2 := ⟨e4.1, by rw [hd2]; obtain ⟨W', a, b⟩ := e4.2; exact ⟨W', a.le (Nat.le_succ d), b⟩⟩
  exact ⟨hC.ct, q1, e1, m1, q2, e2, fun _ => fin, fun z => z e3⟩
theorem wcp_13 (hn : n ≤ 3584) (hj : 7 * j + 7 ≤ n) (hI : Inv j G) : wc_13 xs n 0 265 281 (Int32.ofNat (7 * j)) 601024 7293034 G (Inv (j + 1)) := by
  obtain ⟨hM, W, hC, hR⟩ := hI
  obtain ⟨d, hd⟩ : ∃ d, 512 - j = d + 1 := ⟨511 - j, by omega⟩
  rw [hd] at hC
  have hd2 : 512 - (j + 1) = d := by omega
  have hA := hC.aok
  have hi : ∀ k, k < 7 → inb (Int32.ofNat (7 * j) + Int32.ofNat k) n := fun k hk => inb_k hn hj hk
  unfold wc_13
  obtain ⟨q1, e1, m1, q2, e2, e3, e4, e5⟩ := both_ok hM hR (c := fX6_rows 0 G) (crows_ok hC) (f := fun G => fX7_rows 265 G) (fun G' h r => mrows_ok h r)
  have fin : Inv (j + 1) q2.2 := ⟨e4.1, by rw [hd2]; obtain ⟨W', a, b⟩ := e4.2; exact ⟨W', a.le (Nat.le_succ d), b⟩⟩
  exact ⟨hC.ct, q1, e1, m1, q2, e2, fun _ => fin, fun z => z e3⟩
theorem wcp_14 (hn : n ≤ 3584) (hj : 7 * j + 7 ≤ n) (hI : Inv j G) : wc_14 xs n 0 265 281 (Int32.ofNat (7 * j)) 601024 7293034 G (Inv (j + 1)) := by
  obtain ⟨hM, W, hC, hR⟩ := hI
  obtain ⟨d, hd⟩ : ∃ d, 512 - j = d + 1 := ⟨511 - j, by omega⟩
  rw [hd] at hC
  have hd2 : 512 - (j + 1) = d := by omega
  have hA := hC.aok
  have hi : ∀ k, k < 7 → inb (Int32.ofNat (7 * j) + Int32.ofNat k) n := fun k hk => inb_k hn hj hk
  unfold wc_14
  obtain ⟨q1, e1, m1, q2, e2, e3, e4, e5⟩ := both_ok hM hR (c := fX6_noteCount 0 G) (ccount_ok hC) (f := fun G => fX7_noteCount 265 G) (fun G' h r => mcount_ok h r)
  have fin : Inv (j + 1) q2.2 := ⟨e4.1, by rw [hd2]; obtain ⟨W', a, b⟩ := e4.2; exact ⟨W', a.le (Nat.le_succ d), b⟩⟩
  exact ⟨hC.ct, q1, e1, m1, q2, e2, fun _ => fin, fun z => z e3⟩
theorem wcp_15 (hn : n ≤ 3584) (hj : 7 * j + 7 ≤ n) (hI : Inv j G) : wc_15 xs n 0 265 281 (Int32.ofNat (7 * j)) 601024 7293034 G (Inv (j + 1)) := by
  obtain ⟨hM, W, hC, hR⟩ := hI
  obtain ⟨d, hd⟩ : ∃ d, 512 - j = d + 1 := ⟨511 - j, by omega⟩
  rw [hd] at hC
  have hd2 : 512 - (j + 1) = d := by omega
  have hA := hC.aok
  have hi : ∀ k, k < 7 → inb (Int32.ofNat (7 * j) + Int32.ofNat k) n := fun k hk => inb_k hn hj hk
  unfold wc_15
  obtain ⟨q1, e1, m1, q2, e2, e3, e4, e5⟩ := both_ok hM hR (c := fX6_colourToMove 0 G) (cmover_ok hC) (f := fun G => fX7_colourToMove 265 G) (fun G' h r => mmover_ok h hA r)
  have fin : Inv (j + 1) q2.2 := ⟨e4.1, by rw [hd2]; obtain ⟨W', a, b⟩ := e4.2; exact ⟨W', a.le (Nat.le_succ d), b⟩⟩
  exact ⟨hC.ct, q1, e1, m1, q2, e2, fun _ => fin, fun z => z e3⟩
theorem wcp_16 (hn : n ≤ 3584) (hj : 7 * j + 7 ≤ n) (hI : Inv j G) : wc_16 xs n 0 265 281 (Int32.ofNat (7 * j)) 601024 7293034 G (Inv (j + 1)) := by
  obtain ⟨hM, W, hC, hR⟩ := hI
  obtain ⟨d, hd⟩ : ∃ d, 512 - j = d + 1 := ⟨511 - j, by omega⟩
  rw [hd] at hC
  have hd2 : 512 - (j + 1) = d := by omega
  have hA := hC.aok
  have hi : ∀ k, k < 7 → inb (Int32.ofNat (7 * j) + Int32.ofNat k) n := fun k hk => inb_k hn hj hk
  unfold wc_16
  obtain ⟨q1, e1, m1, q2, e2, e3, e4, e5⟩ := both_ok hM hR (c := fX6_undoableChanges 0 G) (cundoable_ok hC) (f := fun G => fX7_undoableChanges 265 G) (fun G' h r => mundoable_ok h r)
  have fin : Inv (j + 1) q2.2 := ⟨e4.1, by rw [hd2]; obtain ⟨W', a, b⟩ := e4.2; exact ⟨W', a.le (Nat.le_succ d), b⟩⟩
  exact ⟨hC.ct, q1, e1, m1, q2, e2, fun _ => fin, fun z => z e3⟩
theorem wcp_17 (hn : n ≤ 3584) (hj : 7 * j + 7 ≤ n) (hI : Inv j G) : wc_17 xs n 0 265 281 (Int32.ofNat (7 * j)) 601024 7293034 G (Inv (j + 1)) := by
  obtain ⟨hM, W, hC, hR⟩ := hI
  obtain ⟨d, hd⟩ : ∃ d, 512 - j = d + 1 := ⟨511 - j, by omega⟩
  rw [hd] at hC
  have hd2 : 512 - (j + 1) = d := by omega
  have hA := hC.aok
  have hi : ∀ k, k < 7 → inb (Int32.ofNat (7 * j) + Int32.ofNat k) n := fun k hk => inb_k hn hj hk
  unfold wc_17
  exact ⟨hi 1 (by decide), wpL_mono (bothE_ok hM hR (cnoteI_ok hC (k := 0) (by decide) (f := fX6_noteKind) rfl) (f := fun G => fX7_noteKind 265 (xs ((Int32.ofNat (7 * j) + (1 : Int32))).toNatClampNeg) G) (hs := hsL_noteKind) (fun G' h r => mnoteI_ok h hA r (k := 0) (by decide) rfl (f := fX7_noteKind) rfl) (ks := [2]) (by intro k hk; unfold oNote at hk; (try dsimp only at hk); first | (first | (have e := Sum.inr.inj hk; subst e; decide) | exact absurd hk Sum.inl_ne_inr) | (split at hk <;> first | (first | (have e := Sum.inr.inj hk; subst e; decide) | exact absurd hk Sum.inl_ne_inr) | (split at hk <;> first | (first | (have e := Sum.inr.inj hk; subst e; decide) | exact absurd hk Sum.inl_ne_inr) | (split at hk <;> first | (first | (have e := Sum.inr.inj hk; subst e; decide) | exact absurd hk Sum.inl_ne_inr))))) (by decide) hC.ct (cv := fun v => v.toInt64) (P := Inv (j + 1)) (fun G' h q => ⟨h, by rw [hd2]; exact q⟩)) (fun v G3 h => ⟨hi 1 (by decide), h⟩)⟩
theorem wcp_18 (hn : n ≤ 3584) (hj : 7 * j + 7 ≤ n) (hI : Inv j G) : wc_18 xs n 0 265 281 (Int32.ofNat (7 * j)) 601024 7293034 G (Inv (j + 1)) := by
  obtain ⟨hM, W, hC, hR⟩ := hI
  obtain ⟨d, hd⟩ : ∃ d, 512 - j = d + 1 := ⟨511 - j, by omega⟩
  rw [hd] at hC
  have hd2 : 512 - (j + 1) = d := by omega
  have hA := hC.aok
  have hi : ∀ k, k < 7 → inb (Int32.ofNat (7 * j) + Int32.ofNat k) n := fun k hk => inb_k hn hj hk
  unfold wc_18
  exact ⟨hi 1 (by decide), wpL_mono (bothE_ok hM hR (cnoteI_ok hC (k := 1) (by decide) (f := fX6_noteFromColumn) rfl) (f := fun G => fX7_noteFromColumn 265 (xs ((Int32.ofNat (7 * j) + (1 : Int32))).toNatClampNeg) G) (hs := hsL_noteFromColumn) (fun G' h r => mnoteI_ok h hA r (k := 1) (by decide) rfl (f := fX7_noteFromColumn) rfl) (ks := [2]) (by intro k hk; unfold oNote at hk; (try dsimp only at hk); first | (first | (have e := Sum.inr.inj hk; subst e; decide) | exact absurd hk Sum.inl_ne_inr) | (split at hk <;> first | (first | (have e := Sum.inr.inj hk; subst e; decide) | exact absurd hk Sum.inl_ne_inr) | (split at hk <;> first | (first | (have e := Sum.inr.inj hk; subst e; decide) | exact absurd hk Sum.inl_ne_inr) | (split at hk <;> first | (first | (have e := Sum.inr.inj hk; subst e; decide) | exact absurd hk Sum.inl_ne_inr))))) (by decide) hC.ct (cv := fun v => v.toInt64) (P := Inv (j + 1)) (fun G' h q => ⟨h, by rw [hd2]; exact q⟩)) (fun v G3 h => ⟨hi 1 (by decide), h⟩)⟩
theorem wcp_19 (hn : n ≤ 3584) (hj : 7 * j + 7 ≤ n) (hI : Inv j G) : wc_19 xs n 0 265 281 (Int32.ofNat (7 * j)) 601024 7293034 G (Inv (j + 1)) := by
  obtain ⟨hM, W, hC, hR⟩ := hI
  obtain ⟨d, hd⟩ : ∃ d, 512 - j = d + 1 := ⟨511 - j, by omega⟩
  rw [hd] at hC
  have hd2 : 512 - (j + 1) = d := by omega
  have hA := hC.aok
  have hi : ∀ k, k < 7 → inb (Int32.ofNat (7 * j) + Int32.ofNat k) n := fun k hk => inb_k hn hj hk
  unfold wc_19
  exact ⟨hi 1 (by decide), wpL_mono (bothE_ok hM hR (cnoteI_ok hC (k := 2) (by decide) (f := fX6_noteFromRow) rfl) (f := fun G => fX7_noteFromRow 265 (xs ((Int32.ofNat (7 * j) + (1 : Int32))).toNatClampNeg) G) (hs := hsL_noteFromRow) (fun G' h r => mnoteI_ok h hA r (k := 2) (by decide) rfl (f := fX7_noteFromRow) rfl) (ks := [2]) (by intro k hk; unfold oNote at hk; (try dsimp only at hk); first | (first | (have e := Sum.inr.inj hk; subst e; decide) | exact absurd hk Sum.inl_ne_inr) | (split at hk <;> first | (first | (have e := Sum.inr.inj hk; subst e; decide) | exact absurd hk Sum.inl_ne_inr) | (split at hk <;> first | (first | (have e := Sum.inr.inj hk; subst e; decide) | exact absurd hk Sum.inl_ne_inr) | (split at hk <;> first | (first | (have e := Sum.inr.inj hk; subst e; decide) | exact absurd hk Sum.inl_ne_inr))))) (by decide) hC.ct (cv := fun v => v.toInt64) (P := Inv (j + 1)) (fun G' h q => ⟨h, by rw [hd2]; exact q⟩)) (fun v G3 h => ⟨hi 1 (by decide), h⟩)⟩
theorem wcp_20 (hn : n ≤ 3584) (hj : 7 * j + 7 ≤ n) (hI : Inv j G) : wc_20 xs n 0 265 281 (Int32.ofNat (7 * j)) 601024 7293034 G (Inv (j + 1)) := by
  obtain ⟨hM, W, hC, hR⟩ := hI
  obtain ⟨d, hd⟩ : ∃ d, 512 - j = d + 1 := ⟨511 - j, by omega⟩
  rw [hd] at hC
  have hd2 : 512 - (j + 1) = d := by omega
  have hA := hC.aok
  have hi : ∀ k, k < 7 → inb (Int32.ofNat (7 * j) + Int32.ofNat k) n := fun k hk => inb_k hn hj hk
  unfold wc_20
  exact ⟨hi 1 (by decide), wpL_mono (bothE_ok hM hR (cnoteI_ok hC (k := 3) (by decide) (f := fX6_noteToColumn) rfl) (f := fun G => fX7_noteToColumn 265 (xs ((Int32.ofNat (7 * j) + (1 : Int32))).toNatClampNeg) G) (hs := hsL_noteToColumn) (fun G' h r => mnoteI_ok h hA r (k := 3) (by decide) rfl (f := fX7_noteToColumn) rfl) (ks := [2]) (by intro k hk; unfold oNote at hk; (try dsimp only at hk); first | (first | (have e := Sum.inr.inj hk; subst e; decide) | exact absurd hk Sum.inl_ne_inr) | (split at hk <;> first | (first | (have e := Sum.inr.inj hk; subst e; decide) | exact absurd hk Sum.inl_ne_inr) | (split at hk <;> first | (first | (have e := Sum.inr.inj hk; subst e; decide) | exact absurd hk Sum.inl_ne_inr) | (split at hk <;> first | (first | (have e := Sum.inr.inj hk; subst e; decide) | exact absurd hk Sum.inl_ne_inr))))) (by decide) hC.ct (cv := fun v => v.toInt64) (P := Inv (j + 1)) (fun G' h q => ⟨h, by rw [hd2]; exact q⟩)) (fun v G3 h => ⟨hi 1 (by decide), h⟩)⟩
theorem wcp_21 (hn : n ≤ 3584) (hj : 7 * j + 7 ≤ n) (hI : Inv j G) : wc_21 xs n 0 265 281 (Int32.ofNat (7 * j)) 601024 7293034 G (Inv (j + 1)) := by
  obtain ⟨hM, W, hC, hR⟩ := hI
  obtain ⟨d, hd⟩ : ∃ d, 512 - j = d + 1 := ⟨511 - j, by omega⟩
  rw [hd] at hC
  have hd2 : 512 - (j + 1) = d := by omega
  have hA := hC.aok
  have hi : ∀ k, k < 7 → inb (Int32.ofNat (7 * j) + Int32.ofNat k) n := fun k hk => inb_k hn hj hk
  unfold wc_21
  exact ⟨hi 1 (by decide), wpL_mono (bothE_ok hM hR (cnoteI_ok hC (k := 4) (by decide) (f := fX6_noteToRow) rfl) (f := fun G => fX7_noteToRow 265 (xs ((Int32.ofNat (7 * j) + (1 : Int32))).toNatClampNeg) G) (hs := hsL_noteToRow) (fun G' h r => mnoteI_ok h hA r (k := 4) (by decide) rfl (f := fX7_noteToRow) rfl) (ks := [2]) (by intro k hk; unfold oNote at hk; (try dsimp only at hk); first | (first | (have e := Sum.inr.inj hk; subst e; decide) | exact absurd hk Sum.inl_ne_inr) | (split at hk <;> first | (first | (have e := Sum.inr.inj hk; subst e; decide) | exact absurd hk Sum.inl_ne_inr) | (split at hk <;> first | (first | (have e := Sum.inr.inj hk; subst e; decide) | exact absurd hk Sum.inl_ne_inr) | (split at hk <;> first | (first | (have e := Sum.inr.inj hk; subst e; decide) | exact absurd hk Sum.inl_ne_inr))))) (by decide) hC.ct (cv := fun v => v.toInt64) (P := Inv (j + 1)) (fun G' h q => ⟨h, by rw [hd2]; exact q⟩)) (fun v G3 h => ⟨hi 1 (by decide), h⟩)⟩
theorem wcp_22 (hn : n ≤ 3584) (hj : 7 * j + 7 ≤ n) (hI : Inv j G) : wc_22 xs n 0 265 281 (Int32.ofNat (7 * j)) 601024 7293034 G (Inv (j + 1)) := by
  obtain ⟨hM, W, hC, hR⟩ := hI
  obtain ⟨d, hd⟩ : ∃ d, 512 - j = d + 1 := ⟨511 - j, by omega⟩
  rw [hd] at hC
  have hd2 : 512 - (j + 1) = d := by omega
  have hA := hC.aok
  have hi : ∀ k, k < 7 → inb (Int32.ofNat (7 * j) + Int32.ofNat k) n := fun k hk => inb_k hn hj hk
  unfold wc_22
  exact ⟨hi 1 (by decide), wpL_mono (bothE_ok hM hR (cnoteB_ok hC (k := 5) (by decide) (f := fX6_noteTakes) rfl) (f := fun G => fX7_noteTakes 265 (xs ((Int32.ofNat (7 * j) + (1 : Int32))).toNatClampNeg) G) (hs := hsL_noteTakes) (fun G' h r => mnoteB_ok h hA r (k := 5) (by decide) rfl (f := fX7_noteTakes) rfl) (ks := [2]) (by intro k hk; unfold oNote at hk; (try dsimp only at hk); first | (first | (have e := Sum.inr.inj hk; subst e; decide) | exact absurd hk Sum.inl_ne_inr) | (split at hk <;> first | (first | (have e := Sum.inr.inj hk; subst e; decide) | exact absurd hk Sum.inl_ne_inr) | (split at hk <;> first | (first | (have e := Sum.inr.inj hk; subst e; decide) | exact absurd hk Sum.inl_ne_inr) | (split at hk <;> first | (first | (have e := Sum.inr.inj hk; subst e; decide) | exact absurd hk Sum.inl_ne_inr))))) (by decide) hC.ct (cv := bzl) (P := Inv (j + 1)) (fun G' h q => ⟨h, by rw [hd2]; exact q⟩)) (fun v G3 h => ⟨hi 1 (by decide), h⟩)⟩
theorem wcp_23 (hn : n ≤ 3584) (hj : 7 * j + 7 ≤ n) (hI : Inv j G) : wc_23 xs n 0 265 281 (Int32.ofNat (7 * j)) 601024 7293034 G (Inv (j + 1)) := by
  obtain ⟨hM, W, hC, hR⟩ := hI
  obtain ⟨d, hd⟩ : ∃ d, 512 - j = d + 1 := ⟨511 - j, by omega⟩
  rw [hd] at hC
  have hd2 : 512 - (j + 1) = d := by omega
  have hA := hC.aok
  have hi : ∀ k, k < 7 → inb (Int32.ofNat (7 * j) + Int32.ofNat k) n := fun k hk => inb_k hn hj hk
  unfold wc_23
  exact ⟨hi 1 (by decide), wpL_mono (bothE_ok hM hR (cnoteB_ok hC (k := 6) (by decide) (f := fX6_noteChecks) rfl) (f := fun G => fX7_noteChecks 265 (xs ((Int32.ofNat (7 * j) + (1 : Int32))).toNatClampNeg) G) (hs := hsL_noteChecks) (fun G' h r => mnoteB_ok h hA r (k := 6) (by decide) rfl (f := fX7_noteChecks) rfl) (ks := [2]) (by intro k hk; unfold oNote at hk; (try dsimp only at hk); first | (first | (have e := Sum.inr.inj hk; subst e; decide) | exact absurd hk Sum.inl_ne_inr) | (split at hk <;> first | (first | (have e := Sum.inr.inj hk; subst e; decide) | exact absurd hk Sum.inl_ne_inr) | (split at hk <;> first | (first | (have e := Sum.inr.inj hk; subst e; decide) | exact absurd hk Sum.inl_ne_inr) | (split at hk <;> first | (first | (have e := Sum.inr.inj hk; subst e; decide) | exact absurd hk Sum.inl_ne_inr))))) (by decide) hC.ct (cv := bzl) (P := Inv (j + 1)) (fun G' h q => ⟨h, by rw [hd2]; exact q⟩)) (fun v G3 h => ⟨hi 1 (by decide), h⟩)⟩
theorem wcp_24 (hn : n ≤ 3584) (hj : 7 * j + 7 ≤ n) (hI : Inv j G) : wc_24 xs n 0 265 281 (Int32.ofNat (7 * j)) 601024 7293034 G (Inv (j + 1)) := by
  obtain ⟨hM, W, hC, hR⟩ := hI
  obtain ⟨d, hd⟩ : ∃ d, 512 - j = d + 1 := ⟨511 - j, by omega⟩
  rw [hd] at hC
  have hd2 : 512 - (j + 1) = d := by omega
  have hA := hC.aok
  have hi : ∀ k, k < 7 → inb (Int32.ofNat (7 * j) + Int32.ofNat k) n := fun k hk => inb_k hn hj hk
  unfold wc_24
  exact ⟨hi 1 (by decide), wpL_mono (bothE_ok hM hR (cafter_ok hC) (f := fun G => fX7_positionsAfter 265 (xs ((Int32.ofNat (7 * j) + (1 : Int32))).toNatClampNeg) G) (hs := hsL_positionsAfter) (fun G' h r => mafter_ok h hA r rfl) (ks := [0]) (by intro k hk; unfold oAfter at hk; (try dsimp only at hk); first | (first | (have e := Sum.inr.inj hk; subst e; decide) | exact absurd hk Sum.inl_ne_inr) | (split at hk <;> first | (first | (have e := Sum.inr.inj hk; subst e; decide) | exact absurd hk Sum.inl_ne_inr) | (split at hk <;> first | (first | (have e := Sum.inr.inj hk; subst e; decide) | exact absurd hk Sum.inl_ne_inr) | (split at hk <;> first | (first | (have e := Sum.inr.inj hk; subst e; decide) | exact absurd hk Sum.inl_ne_inr))))) (by decide) hC.ct (cv := fun v => v.toInt64) (P := Inv (j + 1)) (fun G' h q => ⟨h, by rw [hd2]; exact q⟩)) (fun v G3 h => ⟨hi 1 (by decide), h⟩)⟩
theorem wcp_25 (hn : n ≤ 3584) (hj : 7 * j + 7 ≤ n) (hI : Inv j G) : wc_25 xs n 0 265 281 (Int32.ofNat (7 * j)) 601024 7293034 G (Inv (j + 1)) := by
  obtain ⟨hM, W, hC, hR⟩ := hI
  obtain ⟨d, hd⟩ : ∃ d, 512 - j = d + 1 := ⟨511 - j, by omega⟩
  rw [hd] at hC
  have hd2 : 512 - (j + 1) = d := by omega
  have hA := hC.aok
  have hi : ∀ k, k < 7 → inb (Int32.ofNat (7 * j) + Int32.ofNat k) n := fun k hk => inb_k hn hj hk
  unfold wc_25
  exact ⟨hi 1 (by decide), hi 2 (by decide), hi 3 (by decide), wpL_mono (bothE_ok hM hR (ckindAt_ok hC) (f := fun G => fX7_kindAt 265 (xs ((Int32.ofNat (7 * j) + (1 : Int32))).toNatClampNeg) (xs ((Int32.ofNat (7 * j) + (2 : Int32))).toNatClampNeg) (xs ((Int32.ofNat (7 * j) + (3 : Int32))).toNatClampNeg) G) (hs := hsL_kindAt) (fun G' h r => mkindAt_ok h hA r rfl) (ks := [2]) (by intro k hk; unfold oAt at hk; (try dsimp only at hk); first | (first | (have e := Sum.inr.inj hk; subst e; decide) | exact absurd hk Sum.inl_ne_inr) | (split at hk <;> first | (first | (have e := Sum.inr.inj hk; subst e; decide) | exact absurd hk Sum.inl_ne_inr) | (split at hk <;> first | (first | (have e := Sum.inr.inj hk; subst e; decide) | exact absurd hk Sum.inl_ne_inr) | (split at hk <;> first | (first | (have e := Sum.inr.inj hk; subst e; decide) | exact absurd hk Sum.inl_ne_inr))))) (by decide) hC.ct (cv := fun v => v.toInt64) (P := Inv (j + 1)) (fun G' h q => ⟨h, by rw [hd2]; exact q⟩)) (fun v G3 h => ⟨hi 1 (by decide), hi 2 (by decide), hi 3 (by decide), h⟩)⟩
theorem wcp_26 (hn : n ≤ 3584) (hj : 7 * j + 7 ≤ n) (hI : Inv j G) : wc_26 xs n 0 265 281 (Int32.ofNat (7 * j)) 601024 7293034 G (Inv (j + 1)) := by
  obtain ⟨hM, W, hC, hR⟩ := hI
  obtain ⟨d, hd⟩ : ∃ d, 512 - j = d + 1 := ⟨511 - j, by omega⟩
  rw [hd] at hC
  have hd2 : 512 - (j + 1) = d := by omega
  have hA := hC.aok
  have hi : ∀ k, k < 7 → inb (Int32.ofNat (7 * j) + Int32.ofNat k) n := fun k hk => inb_k hn hj hk
  unfold wc_26
  exact ⟨hi 1 (by decide), hi 2 (by decide), hi 3 (by decide), wpL_mono (bothE_ok hM hR (ccolAt_ok hC) (f := fun G => fX7_colourAt 265 (xs ((Int32.ofNat (7 * j) + (1 : Int32))).toNatClampNeg) (xs ((Int32.ofNat (7 * j) + (2 : Int32))).toNatClampNeg) (xs ((Int32.ofNat (7 * j) + (3 : Int32))).toNatClampNeg) G) (hs := hsL_colourAt) (fun G' h r => mcolAt_ok h hA r rfl) (ks := [2]) (by intro k hk; unfold oAt at hk; (try dsimp only at hk); first | (first | (have e := Sum.inr.inj hk; subst e; decide) | exact absurd hk Sum.inl_ne_inr) | (split at hk <;> first | (first | (have e := Sum.inr.inj hk; subst e; decide) | exact absurd hk Sum.inl_ne_inr) | (split at hk <;> first | (first | (have e := Sum.inr.inj hk; subst e; decide) | exact absurd hk Sum.inl_ne_inr) | (split at hk <;> first | (first | (have e := Sum.inr.inj hk; subst e; decide) | exact absurd hk Sum.inl_ne_inr))))) (by decide) hC.ct (cv := fun v => v.toInt64) (P := Inv (j + 1)) (fun G' h q => ⟨h, by rw [hd2]; exact q⟩)) (fun v G3 h => ⟨hi 1 (by decide), hi 2 (by decide), hi 3 (by decide), h⟩)⟩
theorem wcp_27 (hn : n ≤ 3584) (hj : 7 * j + 7 ≤ n) (hI : Inv j G) : wc_27 xs n 0 265 281 (Int32.ofNat (7 * j)) 601024 7293034 G (Inv (j + 1)) := by
  obtain ⟨hM, W, hC, hR⟩ := hI
  obtain ⟨d, hd⟩ : ∃ d, 512 - j = d + 1 := ⟨511 - j, by omega⟩
  rw [hd] at hC
  have hd2 : 512 - (j + 1) = d := by omega
  have hA := hC.aok
  have hi : ∀ k, k < 7 → inb (Int32.ofNat (7 * j) + Int32.ofNat k) n := fun k hk => inb_k hn hj hk
  unfold wc_27
  exact ⟨hi 1 (by decide), hi 2 (by decide), hi 3 (by decide), hi 4 (by decide), wpL_mono (bothE_ok hM hR (cattacked_ok hC) (f := fun G => fX7_isAttacked 265 (xs ((Int32.ofNat (7 * j) + (1 : Int32))).toNatClampNeg) (xs ((Int32.ofNat (7 * j) + (2 : Int32))).toNatClampNeg) (xs ((Int32.ofNat (7 * j) + (3 : Int32))).toNatClampNeg) (xs ((Int32.ofNat (7 * j) + (4 : Int32))).toNatClampNeg) G) (hs := hsL_isAttacked) (fun G' h r => mattacked_ok h hA r rfl rfl) (ks := [2, 0]) (by intro k hk; unfold oAtt at hk; (try dsimp only at hk); first | (first | (have e := Sum.inr.inj hk; subst e; decide) | exact absurd hk Sum.inl_ne_inr) | (split at hk <;> first | (first | (have e := Sum.inr.inj hk; subst e; decide) | exact absurd hk Sum.inl_ne_inr) | (split at hk <;> first | (first | (have e := Sum.inr.inj hk; subst e; decide) | exact absurd hk Sum.inl_ne_inr) | (split at hk <;> first | (first | (have e := Sum.inr.inj hk; subst e; decide) | exact absurd hk Sum.inl_ne_inr))))) (by decide) hC.ct (cv := bzl) (P := Inv (j + 1)) (fun G' h q => ⟨h, by rw [hd2]; exact q⟩)) (fun v G3 h => ⟨hi 1 (by decide), hi 2 (by decide), hi 3 (by decide), hi 4 (by decide), h⟩)⟩
theorem wcp_28 (hn : n ≤ 3584) (hj : 7 * j + 7 ≤ n) (hI : Inv j G) : wc_28 xs n 0 265 281 (Int32.ofNat (7 * j)) 601024 7293034 G (Inv (j + 1)) := by
  obtain ⟨hM, W, hC, hR⟩ := hI
  obtain ⟨d, hd⟩ : ∃ d, 512 - j = d + 1 := ⟨511 - j, by omega⟩
  rw [hd] at hC
  have hd2 : 512 - (j + 1) = d := by omega
  have hA := hC.aok
  have hi : ∀ k, k < 7 → inb (Int32.ofNat (7 * j) + Int32.ofNat k) n := fun k hk => inb_k hn hj hk
  unfold wc_28
  exact ⟨hi 1 (by decide), wpL_mono (bothE_ok hM hR (clegal_ok hC) (f := fun G => fX7_legalMoves 265 (xs ((Int32.ofNat (7 * j) + (1 : Int32))).toNatClampNeg) G) (hs := hsL_legalMoves) (fun G' h r => mlegal2_ok h hA r rfl) (ks := [2]) (by intro k hk; unfold oLegal at hk; (try dsimp only at hk); first | (first | (have e := Sum.inr.inj hk; subst e; decide) | exact absurd hk Sum.inl_ne_inr) | (split at hk <;> first | (first | (have e := Sum.inr.inj hk; subst e; decide) | exact absurd hk Sum.inl_ne_inr) | (split at hk <;> first | (first | (have e := Sum.inr.inj hk; subst e; decide) | exact absurd hk Sum.inl_ne_inr) | (split at hk <;> first | (first | (have e := Sum.inr.inj hk; subst e; decide) | exact absurd hk Sum.inl_ne_inr))))) (by decide) hC.ct (cv := fun v => v.toInt64) (P := Inv (j + 1)) (fun G' h q => ⟨h, by rw [hd2]; exact q⟩)) (fun v G3 h => ⟨hi 1 (by decide), h⟩)⟩
theorem wcp_29 (hn : n ≤ 3584) (hj : 7 * j + 7 ≤ n) (hI : Inv j G) : wc_29 xs n 0 265 281 (Int32.ofNat (7 * j)) 601024 7293034 G (Inv (j + 1)) := by
  obtain ⟨hM, W, hC, hR⟩ := hI
  obtain ⟨d, hd⟩ : ∃ d, 512 - j = d + 1 := ⟨511 - j, by omega⟩
  rw [hd] at hC
  have hd2 : 512 - (j + 1) = d := by omega
  have hA := hC.aok
  have hi : ∀ k, k < 7 → inb (Int32.ofNat (7 * j) + Int32.ofNat k) n := fun k hk => inb_k hn hj hk
  unfold wc_29
  exact ⟨hi 1 (by decide), wpL_mono (bothE_ok hM hR (cto_ok hC) (f := fun G => fX7_gamesTo 265 (xs ((Int32.ofNat (7 * j) + (1 : Int32))).toNatClampNeg) G) (hs := hsL_gamesTo) (fun G' h r => mto_ok h hA r rfl) (ks := [2]) (by intro k hk; unfold oTo at hk; (try dsimp only at hk); first | (first | (have e := Sum.inr.inj hk; subst e; decide) | exact absurd hk Sum.inl_ne_inr) | (split at hk <;> first | (first | (have e := Sum.inr.inj hk; subst e; decide) | exact absurd hk Sum.inl_ne_inr) | (split at hk <;> first | (first | (have e := Sum.inr.inj hk; subst e; decide) | exact absurd hk Sum.inl_ne_inr) | (split at hk <;> first | (first | (have e := Sum.inr.inj hk; subst e; decide) | exact absurd hk Sum.inl_ne_inr))))) (by decide) hC.ct (cv := fun v => v) (P := Inv (j + 1)) (fun G' h q => ⟨h, by rw [hd2]; exact q⟩)) (fun v G3 h => ⟨hi 1 (by decide), h⟩)⟩
theorem wcp_30 (hn : n ≤ 3584) (hj : 7 * j + 7 ≤ n) (hI : Inv j G) : wc_30 xs n 0 265 281 (Int32.ofNat (7 * j)) 601024 7293034 G (Inv (j + 1)) := by
  obtain ⟨hM, W, hC, hR⟩ := hI
  obtain ⟨d, hd⟩ : ∃ d, 512 - j = d + 1 := ⟨511 - j, by omega⟩
  rw [hd] at hC
  have hd2 : 512 - (j + 1) = d := by omega
  have hA := hC.aok
  have hi : ∀ k, k < 7 → inb (Int32.ofNat (7 * j) + Int32.ofNat k) n := fun k hk => inb_k hn hj hk
  unfold wc_30
  obtain ⟨q1, e1, m1, q2, e2, e3, e4, e5⟩ := both_ok hM hR (c := fX6_certainSquares 0 G) (ccertain_ok hC) (f := fun G => fX7_certainSquares 265 G) (fun G' h r => mcertain_ok h hA r)
  have fin : Inv (j + 1) q2.2 := ⟨e4.1, by rw [hd2]; obtain ⟨W', a, b⟩ := e4.2; exact ⟨W', a.le (Nat.le_succ d), b⟩⟩
  exact ⟨hC.ct, q1, e1, m1, q2, e2, fun _ => fin, fun z => z e3⟩
theorem wcp_31 (hn : n ≤ 3584) (hj : 7 * j + 7 ≤ n) (hI : Inv j G) : wc_31 xs n 0 265 281 (Int32.ofNat (7 * j)) 601024 7293034 G (Inv (j + 1)) := by
  obtain ⟨hM, W, hC, hR⟩ := hI
  obtain ⟨d, hd⟩ : ∃ d, 512 - j = d + 1 := ⟨511 - j, by omega⟩
  rw [hd] at hC
  have hd2 : 512 - (j + 1) = d := by omega
  have hA := hC.aok
  have hi : ∀ k, k < 7 → inb (Int32.ofNat (7 * j) + Int32.ofNat k) n := fun k hk => inb_k hn hj hk
  unfold wc_31
  obtain ⟨q1, e1, m1, q2, e2, e3, e4, e5⟩ := both_ok hM hR (c := fX6_gameCount 0 G) (cgames_ok hC) (f := fun G => fX7_gameCount 265 G) (fun G' h r => mgames_ok h hA r)
  have fin : Inv (j + 1) q2.2 := ⟨e4.1, by rw [hd2]; obtain ⟨W', a, b⟩ := e4.2; exact ⟨W', a.le (Nat.le_succ d), b⟩⟩
  exact ⟨hC.ct, q1, e1, m1, q2, e2, fun _ => fin, fun z => z ((lgc_t _ _).mpr e3)⟩
theorem wcp_32 (hn : n ≤ 3584) (hj : 7 * j + 7 ≤ n) (hI : Inv j G) : wc_32 xs n 0 265 281 (Int32.ofNat (7 * j)) 601024 7293034 G (Inv (j + 1)) := by
  obtain ⟨hM, W, hC, hR⟩ := hI
  obtain ⟨d, hd⟩ : ∃ d, 512 - j = d + 1 := ⟨511 - j, by omega⟩
  rw [hd] at hC
  have hd2 : 512 - (j + 1) = d := by omega
  have hA := hC.aok
  have hi : ∀ k, k < 7 → inb (Int32.ofNat (7 * j) + Int32.ofNat k) n := fun k hk => inb_k hn hj hk
  unfold wc_32
  obtain ⟨q1, e1, m1, q2, e2, e3, e4, e5⟩ := both_ok hM hR (c := fX6_isCertain 0 G) (cisCertain_ok hC) (f := fun G => fX7_isCertain 265 G) (fun G' h r => misCertain_ok h hA r)
  have fin : Inv (j + 1) q2.2 := ⟨e4.1, by rw [hd2]; obtain ⟨W', a, b⟩ := e4.2; exact ⟨W', a.le (Nat.le_succ d), b⟩⟩
  exact ⟨hC.ct, q1, e1, m1, q2, e2, fun _ => fin, fun z => z e3⟩
theorem wcp_33 (hn : n ≤ 3584) (hj : 7 * j + 7 ≤ n) (hI : Inv j G) : wc_33 xs n 0 265 281 (Int32.ofNat (7 * j)) 601024 7293034 G (Inv (j + 1)) := by
  obtain ⟨hM, W, hC, hR⟩ := hI
  obtain ⟨d, hd⟩ : ∃ d, 512 - j = d + 1 := ⟨511 - j, by omega⟩
  rw [hd] at hC
  have hd2 : 512 - (j + 1) = d := by omega
  have hA := hC.aok
  have hi : ∀ k, k < 7 → inb (Int32.ofNat (7 * j) + Int32.ofNat k) n := fun k hk => inb_k hn hj hk
  unfold wc_33
  exact ⟨hi 1 (by decide), wpL_mono (bothE_ok hM hR (cdoubt_ok hC) (f := fun G => fX7_doubt 265 (xs ((Int32.ofNat (7 * j) + (1 : Int32))).toNatClampNeg) G) (hs := hsL_doubt) (fun G' h r => mdoubt_ok h hA r rfl) (ks := [2]) (by intro k hk; unfold oDoubt at hk; (try dsimp only at hk); first | (first | (have e := Sum.inr.inj hk; subst e; decide) | exact absurd hk Sum.inl_ne_inr) | (split at hk <;> first | (first | (have e := Sum.inr.inj hk; subst e; decide) | exact absurd hk Sum.inl_ne_inr) | (split at hk <;> first | (first | (have e := Sum.inr.inj hk; subst e; decide) | exact absurd hk Sum.inl_ne_inr) | (split at hk <;> first | (first | (have e := Sum.inr.inj hk; subst e; decide) | exact absurd hk Sum.inl_ne_inr))))) (by decide) hC.ct (cv := fun v => v.toInt64) (P := Inv (j + 1)) (fun G' h q => ⟨h, by rw [hd2]; exact q⟩)) (fun v G3 h => ⟨hi 1 (by decide), h⟩)⟩
theorem wcp_34 (hn : n ≤ 3584) (hj : 7 * j + 7 ≤ n) (hI : Inv j G) : wc_34 xs n 0 265 281 (Int32.ofNat (7 * j)) 601024 7293034 G (Inv (j + 1)) := by
  obtain ⟨hM, W, hC, hR⟩ := hI
  obtain ⟨d, hd⟩ : ∃ d, 512 - j = d + 1 := ⟨511 - j, by omega⟩
  rw [hd] at hC
  have hd2 : 512 - (j + 1) = d := by omega
  have hA := hC.aok
  have hi : ∀ k, k < 7 → inb (Int32.ofNat (7 * j) + Int32.ofNat k) n := fun k hk => inb_k hn hj hk
  unfold wc_34
  exact ⟨hi 1 (by decide), hi 2 (by decide), wpL_mono (bothE_ok hM hR (corigin_ok hC) (f := fun G => fX7_moveOrigin 265 (xs ((Int32.ofNat (7 * j) + (1 : Int32))).toNatClampNeg) (xs ((Int32.ofNat (7 * j) + (2 : Int32))).toNatClampNeg) G) (hs := hsL_moveOrigin) (fun G' h r => morigin_ok h hA r rfl) (ks := [2]) (by intro k hk; unfold oOrig at hk; (try dsimp only at hk); first | (first | (have e := Sum.inr.inj hk; subst e; decide) | exact absurd hk Sum.inl_ne_inr) | (split at hk <;> first | (first | (have e := Sum.inr.inj hk; subst e; decide) | exact absurd hk Sum.inl_ne_inr) | (split at hk <;> first | (first | (have e := Sum.inr.inj hk; subst e; decide) | exact absurd hk Sum.inl_ne_inr) | (split at hk <;> first | (first | (have e := Sum.inr.inj hk; subst e; decide) | exact absurd hk Sum.inl_ne_inr))))) (by decide) hC.ct (cv := fun v => v.toInt64) (P := Inv (j + 1)) (fun G' h q => ⟨h, by rw [hd2]; exact q⟩)) (fun v G3 h => ⟨hi 1 (by decide), hi 2 (by decide), h⟩)⟩
theorem wcp_35 (hn : n ≤ 3584) (hj : 7 * j + 7 ≤ n) (hI : Inv j G) : wc_35 xs n 0 265 281 (Int32.ofNat (7 * j)) 601024 7293034 G (Inv (j + 1)) := by
  obtain ⟨hM, W, hC, hR⟩ := hI
  obtain ⟨d, hd⟩ : ∃ d, 512 - j = d + 1 := ⟨511 - j, by omega⟩
  rw [hd] at hC
  have hd2 : 512 - (j + 1) = d := by omega
  have hA := hC.aok
  have hi : ∀ k, k < 7 → inb (Int32.ofNat (7 * j) + Int32.ofNat k) n := fun k hk => inb_k hn hj hk
  unfold wc_35
  exact ⟨hi 1 (by decide), hi 2 (by decide), wpL_mono (bothE_ok hM hR (ctarget_ok hC) (f := fun G => fX7_moveTarget 265 (xs ((Int32.ofNat (7 * j) + (1 : Int32))).toNatClampNeg) (xs ((Int32.ofNat (7 * j) + (2 : Int32))).toNatClampNeg) G) (hs := hsL_moveTarget) (fun G' h r => mtarget_ok h hA r rfl) (ks := [2]) (by intro k hk; unfold oTarg at hk; (try dsimp only at hk); first | (first | (have e := Sum.inr.inj hk; subst e; decide) | exact absurd hk Sum.inl_ne_inr) | (split at hk <;> first | (first | (have e := Sum.inr.inj hk; subst e; decide) | exact absurd hk Sum.inl_ne_inr) | (split at hk <;> first | (first | (have e := Sum.inr.inj hk; subst e; decide) | exact absurd hk Sum.inl_ne_inr) | (split at hk <;> first | (first | (have e := Sum.inr.inj hk; subst e; decide) | exact absurd hk Sum.inl_ne_inr))))) (by decide) hC.ct (cv := fun v => v.toInt64) (P := Inv (j + 1)) (fun G' h q => ⟨h, by rw [hd2]; exact q⟩)) (fun v G3 h => ⟨hi 1 (by decide), hi 2 (by decide), h⟩)⟩
theorem wcp_36 (hn : n ≤ 3584) (hj : 7 * j + 7 ≤ n) (hI : Inv j G) : wc_36 xs n 0 265 281 (Int32.ofNat (7 * j)) 601024 7293034 G (Inv (j + 1)) := by
  obtain ⟨hM, W, hC, hR⟩ := hI
  obtain ⟨d, hd⟩ : ∃ d, 512 - j = d + 1 := ⟨511 - j, by omega⟩
  rw [hd] at hC
  have hd2 : 512 - (j + 1) = d := by omega
  have hA := hC.aok
  have hi : ∀ k, k < 7 → inb (Int32.ofNat (7 * j) + Int32.ofNat k) n := fun k hk => inb_k hn hj hk
  unfold wc_36
  exact ⟨hi 1 (by decide), hi 2 (by decide), wpL_mono (bothE_ok hM hR (cwith_ok hC) (f := fun G => fX7_gamesWithMove 265 (xs ((Int32.ofNat (7 * j) + (1 : Int32))).toNatClampNeg) (xs ((Int32.ofNat (7 * j) + (2 : Int32))).toNatClampNeg) G) (hs := hsL_gamesWithMove) (fun G' h r => mwith_ok h hA r rfl) (ks := [2]) (by intro k hk; unfold oWith at hk; (try dsimp only at hk); first | (first | (have e := Sum.inr.inj hk; subst e; decide) | exact absurd hk Sum.inl_ne_inr) | (split at hk <;> first | (first | (have e := Sum.inr.inj hk; subst e; decide) | exact absurd hk Sum.inl_ne_inr) | (split at hk <;> first | (first | (have e := Sum.inr.inj hk; subst e; decide) | exact absurd hk Sum.inl_ne_inr) | (split at hk <;> first | (first | (have e := Sum.inr.inj hk; subst e; decide) | exact absurd hk Sum.inl_ne_inr))))) (by decide) hC.ct (cv := fun v => v) (P := Inv (j + 1)) (fun G' h q => ⟨h, by rw [hd2]; exact q⟩)) (fun v G3 h => ⟨hi 1 (by decide), hi 2 (by decide), h⟩)⟩
theorem wcp_37 (hn : n ≤ 3584) (hj : 7 * j + 7 ≤ n) (hI : Inv j G) : wc_37 xs n 0 265 281 (Int32.ofNat (7 * j)) 601024 7293034 G (Inv (j + 1)) := by
  obtain ⟨hM, W, hC, hR⟩ := hI
  obtain ⟨d, hd⟩ : ∃ d, 512 - j = d + 1 := ⟨511 - j, by omega⟩
  rw [hd] at hC
  have hd2 : 512 - (j + 1) = d := by omega
  have hA := hC.aok
  have hi : ∀ k, k < 7 → inb (Int32.ofNat (7 * j) + Int32.ofNat k) n := fun k hk => inb_k hn hj hk
  unfold wc_37
  exact ⟨hi 1 (by decide), hi 2 (by decide), hi 3 (by decide), hi 4 (by decide), wpL_mono (bothE_ok hM hR (cpiece_ok hC) (f := fun G => fX7_gamesWithPiece 265 (xs ((Int32.ofNat (7 * j) + (1 : Int32))).toNatClampNeg) (xs ((Int32.ofNat (7 * j) + (2 : Int32))).toNatClampNeg) (xs ((Int32.ofNat (7 * j) + (3 : Int32))).toNatClampNeg) (xs ((Int32.ofNat (7 * j) + (4 : Int32))).toNatClampNeg) G) (hs := hsL_gamesWithPiece) (fun G' h r => mpiece_ok h hA r rfl rfl) (ks := [2, 0]) (by intro k hk; unfold oPiece at hk; (try dsimp only at hk); first | (first | (have e := Sum.inr.inj hk; subst e; decide) | exact absurd hk Sum.inl_ne_inr) | (split at hk <;> first | (first | (have e := Sum.inr.inj hk; subst e; decide) | exact absurd hk Sum.inl_ne_inr) | (split at hk <;> first | (first | (have e := Sum.inr.inj hk; subst e; decide) | exact absurd hk Sum.inl_ne_inr) | (split at hk <;> first | (first | (have e := Sum.inr.inj hk; subst e; decide) | exact absurd hk Sum.inl_ne_inr))))) (by decide) hC.ct (cv := fun v => v) (P := Inv (j + 1)) (fun G' h q => ⟨h, by rw [hd2]; exact q⟩)) (fun v G3 h => ⟨hi 1 (by decide), hi 2 (by decide), hi 3 (by decide), hi 4 (by decide), h⟩)⟩
theorem wcp_38 (hn : n ≤ 3584) (hj : 7 * j + 7 ≤ n) (hI : Inv j G) : wc_38 xs n 0 265 281 (Int32.ofNat (7 * j)) 601024 7293034 G (Inv (j + 1)) := by
  obtain ⟨hM, W, hC, hR⟩ := hI
  obtain ⟨d, hd⟩ : ∃ d, 512 - j = d + 1 := ⟨511 - j, by omega⟩
  rw [hd] at hC
  have hd2 : 512 - (j + 1) = d := by omega
  have hA := hC.aok
  have hi : ∀ k, k < 7 → inb (Int32.ofNat (7 * j) + Int32.ofNat k) n := fun k hk => inb_k hn hj hk
  unfold wc_38
  obtain ⟨q1, e1, m1, q2, e2, e3, e4, e5⟩ := both_ok hM hR (c := fX6_mostDoubtfulNote 0 G) (cmost_ok hC) (f := fun G => fX7_mostDoubtfulNote 265 G) (fun G' h r => mmost_ok h hA r)
  have fin : Inv (j + 1) q2.2 := ⟨e4.1, by rw [hd2]; obtain ⟨W', a, b⟩ := e4.2; exact ⟨W', a.le (Nat.le_succ d), b⟩⟩
  exact ⟨hC.ct, q1, e1, m1, q2, e2, fun _ => fin, fun z => z e3⟩
theorem wcp_39 (hn : n ≤ 3584) (hj : 7 * j + 7 ≤ n) (hI : Inv j G) : wc_39 xs n 0 265 281 (Int32.ofNat (7 * j)) 601024 7293034 G (Inv (j + 1)) := by
  obtain ⟨hM, W, hC, hR⟩ := hI
  obtain ⟨d, hd⟩ : ∃ d, 512 - j = d + 1 := ⟨511 - j, by omega⟩
  rw [hd] at hC
  have hd2 : 512 - (j + 1) = d := by omega
  have hA := hC.aok
  have hi : ∀ k, k < 7 → inb (Int32.ofNat (7 * j) + Int32.ofNat k) n := fun k hk => inb_k hn hj hk
  unfold wc_39
  exact ⟨hi 1 (by decide), hi 2 (by decide), hi 3 (by decide), hi 4 (by decide), hi 5 (by decide), hi 6 (by decide), wpL_mono (bothE_ok hM hR (cgamesIf_ok hC (bz_01 _) (bz_01 _)) (f := fun G => fX7_gamesIfNoted 265 (xs ((Int32.ofNat (7 * j) + (1 : Int32))).toNatClampNeg) (xs ((Int32.ofNat (7 * j) + (2 : Int32))).toNatClampNeg) (xs ((Int32.ofNat (7 * j) + (3 : Int32))).toNatClampNeg) (xs ((Int32.ofNat (7 * j) + (4 : Int32))).toNatClampNeg) (bz (xs ((Int32.ofNat (7 * j) + (5 : Int32))).toNatClampNeg)) (bz (xs ((Int32.ofNat (7 * j) + (6 : Int32))).toNatClampNeg)) G) (hs := hsL_gamesIfNoted) (fun G' h r => mif_ok h hA r (bz_01 _) (bz_01 _) rfl) (ks := [0]) (by intro k hk; unfold oIf at hk; (try dsimp only at hk); first | (first | (have e := Sum.inr.inj hk; subst e; decide) | exact absurd hk Sum.inl_ne_inr) | (split at hk <;> first | (first | (have e := Sum.inr.inj hk; subst e; decide) | exact absurd hk Sum.inl_ne_inr) | (split at hk <;> first | (first | (have e := Sum.inr.inj hk; subst e; decide) | exact absurd hk Sum.inl_ne_inr) | (split at hk <;> first | (first | (have e := Sum.inr.inj hk; subst e; decide) | exact absurd hk Sum.inl_ne_inr))))) (by decide) hC.ct (cv := fun v => v) (P := Inv (j + 1)) (fun G' h q => ⟨h, by rw [hd2]; exact q⟩)) (fun v G3 h => ⟨hi 1 (by decide), hi 2 (by decide), hi 3 (by decide), hi 4 (by decide), hi 5 (by decide), hi 6 (by decide), h⟩)⟩
theorem wcp_40 (hn : n ≤ 3584) (hj : 7 * j + 7 ≤ n) (hI : Inv j G) : wc_40 xs n 0 265 281 (Int32.ofNat (7 * j)) 601024 7293034 G (Inv (j + 1)) := by
  obtain ⟨hM, W, hC, hR⟩ := hI
  obtain ⟨d, hd⟩ : ∃ d, 512 - j = d + 1 := ⟨511 - j, by omega⟩
  rw [hd] at hC
  have hd2 : 512 - (j + 1) = d := by omega
  have hA := hC.aok
  have hi : ∀ k, k < 7 → inb (Int32.ofNat (7 * j) + Int32.ofNat k) n := fun k hk => inb_k hn hj hk
  unfold wc_40
  obtain ⟨q1, e1, m1, q2, e2, e3, e4, e5⟩ := both_ok hM hR (c := fX6_inconsistencies 0 G) (ccons_ok hC) (f := fun G => fX7_inconsistencies 265 G) (fun G' h r => mcons_ok h hA r)
  have fin : Inv (j + 1) q2.2 := ⟨e4.1, by rw [hd2]; obtain ⟨W', a, b⟩ := e4.2; exact ⟨W', a.le (Nat.le_succ d), b⟩⟩
  exact ⟨hC.ct, q1, e1, m1, q2, e2, fun _ => fin, fun z => z e3⟩
theorem wcp_41 (hn : n ≤ 3584) (hj : 7 * j + 7 ≤ n) (hI : Inv j G) : wc_41 xs n 0 265 281 (Int32.ofNat (7 * j)) 601024 7293034 G (Inv (j + 1)) := by
  obtain ⟨hM, W, hC, hR⟩ := hI
  obtain ⟨d, hd⟩ : ∃ d, 512 - j = d + 1 := ⟨511 - j, by omega⟩
  rw [hd] at hC
  have hd2 : 512 - (j + 1) = d := by omega
  have hA := hC.aok
  have hi : ∀ k, k < 7 → inb (Int32.ofNat (7 * j) + Int32.ofNat k) n := fun k hk => inb_k hn hj hk
  unfold wc_41
  obtain ⟨q1, e1, m1, q2, e2, e3, e4, e5⟩ := both_ok hM hR (c := fX6_meanGames 0 G) (cmean_ok hC) (f := fun G => fX7_meanGames 265 G) (fun G' h r => mmean_ok h hA r)
  have fin : Inv (j + 1) q2.2 := ⟨e4.1, by rw [hd2]; obtain ⟨W', a, b⟩ := e4.2; exact ⟨W', a.le (Nat.le_succ d), b⟩⟩
  exact ⟨hC.ct, q1, e1, m1, q2, e2, fun _ => fin, fun z1 => ⟨fun z2 => z1 (by rw [← e3]; exact z2), fun _ => ⟨fun z2 => z1 (by rw [e3]; exact z2), fun _ => fin⟩⟩⟩
theorem wcp_42 (hn : n ≤ 3584) (hj : 7 * j + 7 ≤ n) (hI : Inv j G) : wc_42 xs n 0 265 281 (Int32.ofNat (7 * j)) 601024 7293034 G (Inv (j + 1)) := by
  obtain ⟨hM, W, hC, hR⟩ := hI
  obtain ⟨d, hd⟩ : ∃ d, 512 - j = d + 1 := ⟨511 - j, by omega⟩
  rw [hd] at hC
  have hd2 : 512 - (j + 1) = d := by omega
  have hA := hC.aok
  have hi : ∀ k, k < 7 → inb (Int32.ofNat (7 * j) + Int32.ofNat k) n := fun k hk => inb_k hn hj hk
  unfold wc_42
  obtain ⟨q1, e1, m1, q2, e2, e3, e4, e5⟩ := both_ok hM hR (c := fX6_certainShare 0 G) (cshare_ok hC) (f := fun G => fX7_certainShare 265 G) (fun G' h r => mshare_ok h hA r)
  have fin : Inv (j + 1) q2.2 := ⟨e4.1, by rw [hd2]; obtain ⟨W', a, b⟩ := e4.2; exact ⟨W', a.le (Nat.le_succ d), b⟩⟩
  have e6 : vf_n64 (FP.f2d q1.1) := by rw [e5]; exact csS_n hA
  exact ⟨hC.ct, q1, e1, e6, m1, q2, e2, by rw [← e3]; exact e6, fun _ => fin, fun z1 => ⟨fun z2 => z1 (by rw [← e3]; exact z2), fun _ => ⟨fun z2 => z1 (by rw [e3]; exact z2), fun _ => fin⟩⟩⟩
theorem wcp_43 (hn : n ≤ 3584) (hj : 7 * j + 7 ≤ n) (hI : Inv j G) : wc_43 xs n 0 265 281 (Int32.ofNat (7 * j)) 601024 7293034 G (Inv (j + 1)) := by
  obtain ⟨hM, W, hC, hR⟩ := hI
  obtain ⟨d, hd⟩ : ∃ d, 512 - j = d + 1 := ⟨511 - j, by omega⟩
  rw [hd] at hC
  have hd2 : 512 - (j + 1) = d := by omega
  have hA := hC.aok
  have hi : ∀ k, k < 7 → inb (Int32.ofNat (7 * j) + Int32.ofNat k) n := fun k hk => inb_k hn hj hk
  unfold wc_43
  exact ⟨hi 1 (by decide), wpL_mono (bothE_ok hM hR (cwrite_ok hC) (f := fun G => fX7_writePosition 265 (xs ((Int32.ofNat (7 * j) + (1 : Int32))).toNatClampNeg) G) (hs := hsL_writePosition) (fun G' h r => mwrite_ok h hA r rfl) (ks := [2]) (by intro k hk; unfold oWrite at hk; (try dsimp only at hk); first | (first | (have e := Sum.inr.inj hk; subst e; decide) | exact absurd hk Sum.inl_ne_inr) | (split at hk <;> first | (first | (have e := Sum.inr.inj hk; subst e; decide) | exact absurd hk Sum.inl_ne_inr) | (split at hk <;> first | (first | (have e := Sum.inr.inj hk; subst e; decide) | exact absurd hk Sum.inl_ne_inr) | (split at hk <;> first | (first | (have e := Sum.inr.inj hk; subst e; decide) | exact absurd hk Sum.inl_ne_inr))))) (by decide) hC.ct (cv := fun v => v.toInt64) (P := Inv (j + 1)) (fun G' h q => ⟨h, by rw [hd2]; exact q⟩)) (fun v G3 h => ⟨hi 1 (by decide), h⟩)⟩
theorem wcp_44 (hn : n ≤ 3584) (hj : 7 * j + 7 ≤ n) (hI : Inv j G) : wc_44 xs n 0 265 281 (Int32.ofNat (7 * j)) 601024 7293034 G (Inv (j + 1)) := by
  obtain ⟨hM, W, hC, hR⟩ := hI
  obtain ⟨d, hd⟩ : ∃ d, 512 - j = d + 1 := ⟨511 - j, by omega⟩
  rw [hd] at hC
  have hd2 : 512 - (j + 1) = d := by omega
  have hA := hC.aok
  have hi : ∀ k, k < 7 → inb (Int32.ofNat (7 * j) + Int32.ofNat k) n := fun k hk => inb_k hn hj hk
  unfold wc_44
  obtain ⟨q1, e1, m1, q2, e2, e3, e4, e5⟩ := both_ok hM hR (c := fX6_outputByte 0 (xs ((Int32.ofNat (7 * j) + (1 : Int32))).toNatClampNeg) G) (cbyte_ok hC) (f := fun G => fX7_outputByte 265 (xs ((Int32.ofNat (7 * j) + (1 : Int32))).toNatClampNeg) G) (fun G' h r => mbyte_ok h r hC.out)
  have fin : Inv (j + 1) q2.2 := ⟨e4.1, by rw [hd2]; obtain ⟨W', a, b⟩ := e4.2; exact ⟨W', a.le (Nat.le_succ d), b⟩⟩
  exact ⟨hi 1 (by decide), hC.ct, q1, e1, hi 1 (by decide), m1, q2, e2, fun _ => fin, fun z => z e3⟩
theorem wcp (hn : n ≤ 3584) (hj : 7 * j + 7 ≤ n) (hI : Inv j G) (k : Nat) (hk : xs (7 * j) &&& 63 = Int32.ofNat k) : wc k xs n 0 265 281 (Int32.ofNat (7 * j)) 601024 7293034 G (Inv (j + 1)) := by
  have skip : Inv (j + 1) G := by
    obtain ⟨hM, W, hC, hR⟩ := hI
    exact ⟨hM, W, hC.le (by omega), hR⟩
  unfold wc
  split
  · exact wcp_0 hn hj hI
  · exact wcp_1 hn hj hI
  · exact wcp_2 hn hj hI
  · exact wcp_3 hn hj hI
  · exact wcp_4 hn hj hI
  · exact wcp_5 hn hj hI
  · exact wcp_6 hn hj hI
  · exact wcp_7 hn hj hI
  · exact wcp_8 hn hj hI
  · exact wcp_9 hn hj hI
  · exact wcp_10 hn hj hI
  · exact wcp_11 hn hj hI
  · exact wcp_12 hn hj hI
  · exact wcp_13 hn hj hI
  · exact wcp_14 hn hj hI
  · exact wcp_15 hn hj hI
  · exact wcp_16 hn hj hI
  · exact wcp_17 hn hj hI
  · exact wcp_18 hn hj hI
  · exact wcp_19 hn hj hI
  · exact wcp_20 hn hj hI
  · exact wcp_21 hn hj hI
  · exact wcp_22 hn hj hI
  · exact wcp_23 hn hj hI
  · exact wcp_24 hn hj hI
  · exact wcp_25 hn hj hI
  · exact wcp_26 hn hj hI
  · exact wcp_27 hn hj hI
  · exact wcp_28 hn hj hI
  · exact wcp_29 hn hj hI
  · exact wcp_30 hn hj hI
  · exact wcp_31 hn hj hI
  · exact wcp_32 hn hj hI
  · exact wcp_33 hn hj hI
  · exact wcp_34 hn hj hI
  · exact wcp_35 hn hj hI
  · exact wcp_36 hn hj hI
  · exact wcp_37 hn hj hI
  · exact wcp_38 hn hj hI
  · exact wcp_39 hn hj hI
  · exact wcp_40 hn hj hI
  · exact wcp_41 hn hj hI
  · exact wcp_42 hn hj hI
  · exact wcp_43 hn hj hI
  · exact wcp_44 hn hj hI
  · exact skip
end WCP
