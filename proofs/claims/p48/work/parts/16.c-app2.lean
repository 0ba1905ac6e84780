/-! ===== appends ===== -/
theorem sB_all : (allN 37 fun a => decide ((sB a).length = strLen.getD a 0) && (decide ((sB a).length < 115) && allN (sB a).length fun i => decide ((strByt.getD a []).getD i 0 = nW ((sB a).getD i 0)) && decide ((sB a).getD i 0 < 128))) = true := by decide +kernel
theorem sB_ok {a : Nat} (ha : a < 37) : (sB a).length = strLen.getD a 0 ∧ (sB a).length < 115 ∧ ∀ i, i < (sB a).length → (strByt.getD a []).getD i 0 = nW ((sB a).getD i 0) ∧ (sB a).getD i 0 < 128 := by
  have h := allN_at sB_all a ha
  rw [Bool.and_eq_true, Bool.and_eq_true] at h
  refine ⟨of_decide_eq_true h.1, of_decide_eq_true h.2.1, fun i hi => ?_⟩
  have := allN_at h.2.2 i hi
  rw [Bool.and_eq_true] at this
  exact ⟨of_decide_eq_true this.1, of_decide_eq_true this.2⟩
theorem scod_ok {a : Nat} (ha : a < 37) {G : Mem} : fJ0_coder_7d493 a G = some (nW 0, G) := by
  unfold fJ0_coder_7d493 fJ0_coder_7d493_0 fJ0_coder_7d493_14
  rw [if_neg (by decide), ckS_ok ha]
  exact if_pos (Or.inl rfl)
theorem slen_ok {a : Nat} (ha : a < 37) : slen a = some (nW (sB a).length) := by
  rw [(sB_ok ha).1]
  exact if_pos ha
theorem slen2_ok {a : Nat} (ha : a < 37) {G : Mem} : fJ0_length_8abf5 a G = some (nW (sB a).length, G) := by
  have := (sB_ok ha).2.1
  unfold fJ0_length_8abf5 fJ0_length_8abf5_0
  rw [ckS_ok ha, slen_ok ha, Option.bind_some, ckS_ok ha, scod_ok ha, Option.bind_some]
  show some (nW (sB a).length >>> (nW 0 &&& (31 : Int32)), G) = _
  rw [shr0 (by omega)]
section SBC
variable {G : Mem} {o v cap : Nat} {B : List Nat}
theorem SBs.str (h : SBs G o v cap B) {a : Nat} (ha : a < 37) (hcap : cap = 56 ∨ cap = 114) (hl : B.length + (sB a).length ≤ 114) (hr : mz G + 1 ≤ cC G ∧ ml G + 114 ≤ cS G) : ∃ G' v' cap', fJ4_append_15ec4 o a G = some (o, G') ∧ SBs G' o v' cap' (B ++ sB a) ∧ (cap' = 56 ∨ cap' = 114) ∧ Frm 266 1 114 G G' := by
  obtain ⟨G1, v1, cap1, e1, s1, c1, c2, f1⟩ := h.ens hl hcap hr
  obtain ⟨b1, b2, b3⟩ := sB_ok ha
  have hl1 := s1.lt
  have hcp : cpS G1 a 0 v1 (nW B.length) (nW (sB a).length) = some (wI G1 (ur (mI G1) v1 (va_cpy (fun j => (strByt.getD a []).getD j 0) (mI G1 v1) 0 B.length (sB a).length))) := by
    unfold cpS
    rw [nW_int (by omega), nW_int (by omega), nW_clamp (by omega), nW_clamp (by omega), if_pos ⟨ha, s1.2.1.1, by decide, by omega, by omega, by rw [← b1]; show 0 + _ ≤ _; omega, by rw [s1.2.1.2]; exact c2⟩]
    rfl
  generalize hx1 : ur (mI G1) v1 (va_cpy (fun j => (strByt.getD a []).getD j 0) (mI G1 v1) 0 B.length (sB a).length) = x1 at hcp
  have x1o : ∀ b, b ≠ v1 → x1 b = mI G1 b := fun b hb => by rw [← hx1]; exact ur_arow hb
  have t1 : mt (wI G1 x1) o = 18 := s1.t
  have hput := s1.put (C := sB a) (x := u2 x1 o 3 (nW (B.length + (sB a).length))) c2 (fun i hi => (b3 i hi).2) (fun i hi => by
      rw [u2_apart hl1.2.2.symm, ← hx1, ur_same, cpy_in (by omega) (by omega), show 0 + (B.length + i - B.length) = i by omega]
      exact (b3 i hi).1) (fun i hi => by
      rw [u2_apart hl1.2.2.symm, ← hx1, ur_same, cpy_out (Or.inl hi)]) u2_same (fun j hj => by
      rw [u2_other (fun q => hj q.2), x1o o hl1.2.2]) (fun b q1 q2 => by
      rw [u2_arow q1, x1o b q2])
  refine ⟨_, v1, cap1, ?_, hput.1, c1, f1.trans hput.2⟩
  unfold fJ4_append_15ec4 fJ4_append_15ec4_0 fJ5_append_cf1ce fJ5_append_cf1ce_0
  rw [show ck G 18 o _ = _ from if_pos h.t, ckS_ok ha, slen2_ok ha, Option.bind_some, h.f3, Option.bind_some, show ck G 18 o _ = _ from if_pos h.t, nW_add, e1, Option.bind_some, s1.f3, Option.bind_some, show ck G1 18 o _ = _ from if_pos s1.t]
  have pu : fJ5_putStringAt_47b60 o (nW B.length) a G1 = some ((), wI G1 x1) := by
    unfold fJ5_putStringAt_47b60 fJ5_putStringAt_47b60_0 fJ5_inflateIfNeededFor_a7421 fJ5_inflateIfNeededFor_a7421_0 fJ5_inflateIfNeededFor_a7421_21 fJ0_getBytes_840e7 fJ0_getBytes_840e7_0
    rw [show ck G1 18 o _ = _ from if_pos s1.t, if_neg (by decide), s1.f1, Option.bind_some, ckS_ok ha, scod_ok ha, Option.bind_some, if_pos rfl, Option.bind_some, s1.f0, Option.bind_some, s1.f1, Option.bind_some, ckS_ok ha, ckS_ok ha, scod_ok ha, Option.bind_some, if_pos rfl, ckS_ok ha, ckS_ok ha, slen_ok ha, Option.bind_some, shl0]
    show ((cpS G1 a 0 v1 (nW B.length) (nW (sB a).length)).bind fun G6 => some ((), G6)).bind _ = _
    rw [hcp]; rfl
  rw [pu, Option.bind_some]
  have g3 : gF (wI G1 x1) 18 o 3 = some (nW B.length) := by
    rw [show gF (wI G1 x1) 18 o 3 = some (x1 o 3) from if_pos t1, x1o o hl1.2.2, s1.1.2.2.2]
  rw [g3, Option.bind_some, nW_add, show pI (wI G1 x1) 18 o 3 (nW (B.length + (sB a).length)) = some (sI (wI G1 x1) o 3 (nW (B.length + (sB a).length))) from if_pos t1]
  rfl
theorem chr_ok : (allN 128 fun c => decide ((nW c).toInt8.toInt32 = nW c) && decide (¬ (255 : Int32) < nW c)) = true := by decide +kernel
theorem SBs.chr (h : SBs G o v cap B) {c : Nat} (hc : c < 128) (hcap : cap = 56 ∨ cap = 114) (hl : B.length + 1 ≤ 114) (hr : mz G + 1 ≤ cC G ∧ ml G + 114 ≤ cS G) : ∃ G' v' cap', fJ4_append_cf468 o (nW c) G = some (o, G') ∧ SBs G' o v' cap' (B ++ [c]) ∧ (cap' = 56 ∨ cap' = 114) ∧ Frm 266 1 114 G G' := by
  obtain ⟨G1, v1, cap1, e1, s1, c1, c2, f1⟩ := h.ens hl hcap hr
  have hc2 := allN_at chr_ok c hc
  rw [Bool.and_eq_true] at hc2
  have hl1 := s1.lt
  have t1 := s1.t
  have hput := s1.put (C := [c]) (x := u2 (u2 (mI G1) o 3 (nW (B.length + 1))) v1 B.length (nW c)) c2 (fun i hi => by
      obtain rfl : i = 0 := by have : i < 1 := hi; omega
      exact hc) (fun i hi => by
      obtain rfl : i = 0 := by have : i < 1 := hi; omega
      exact u2_same) (fun i hi => by
      rw [u2_other (by omega), u2_apart hl1.2.2.symm]) (by rw [u2_apart hl1.2.2, u2_same]; rfl) (fun j hj => by
      rw [u2_apart hl1.2.2, u2_other (fun q => hj q.2)]) (fun b q1 q2 => by
      rw [u2_arow q2, u2_arow q1])
  refine ⟨_, v1, cap1, ?_, hput.1, c1, f1.trans hput.2⟩
  unfold fJ4_append_cf468 fJ4_append_cf468_0 fJ5_append_3fe6f fJ5_append_3fe6f_0 fJ1_canEncode_fc78d fJ1_canEncode_fc78d_0 fJ1_canEncode_fc78d_12
  rw [show ck G 18 o _ = _ from if_pos h.t, h.f3, Option.bind_some, show ck G 18 o _ = _ from if_pos h.t, show (1 : Int32) = nW 1 from rfl, nW_add, e1, Option.bind_some, show ck G1 18 o _ = _ from if_pos t1, s1.latin, Option.bind_some, if_neg (show ¬ (nW 1, G1).1 = (0 : Int32) from (by decide : ¬ nW 1 = (0 : Int32))), if_neg (of_decide_eq_true hc2.2)]
  rw [show rz (nW 1) (some (nW 1, G1)) = some (nW 1, G1) from if_pos (Or.inr rfl), Option.bind_some, if_neg (show ¬ (nW 1, G1).1 = (0 : Int32) from (by decide : ¬ nW 1 = (0 : Int32))), s1.f0, Option.bind_some, s1.f3, Option.bind_some, nW_add, show pI G1 18 o 3 (nW (B.length + 1)) = some (sI G1 o 3 (nW (B.length + 1))) from if_pos t1, Option.bind_some]
  have pb : pB (sI G1 o 3 (nW (B.length + 1))) v1 (nW B.length) ((nW c).toInt8.toInt32) = some (wI G1 (u2 (u2 (mI G1) o 3 (nW (B.length + 1))) v1 B.length (nW c))) := by
    unfold pB inb
    rw [nW_int (by omega), nW_clamp (by omega), if_pos ⟨s1.2.1.1, by omega, by show _ < ((mn G1 v1 : Nat) : Int); rw [s1.2.1.2]; omega⟩, of_decide_eq_true hc2.1, of_decide_eq_true hc2.1]
    rfl
  rw [pb]
  rfl
theorem size1 {k : Nat} (hk : k < 3) {G : Mem} : fJ6_stringSize_0f7a4 (nW k) G = some (nW 1, G) := by
  rcases (show k = 0 ∨ k = 1 ∨ k = 2 by omega) with rfl | rfl | rfl <;> rfl
theorem SBs.int (h : SBs G o v cap B) {k : Nat} (hk : k < 3) (hcap : cap = 56 ∨ cap = 114) (hl : B.length + 1 ≤ 114) (hr : mz G + 1 ≤ cC G ∧ ml G + 114 ≤ cS G) : ∃ G' v' cap', fJ4_append_bf812 o (nW k) G = some (o, G') ∧ SBs G' o v' cap' (B ++ [48 + k]) ∧ (cap' = 56 ∨ cap' = 114) ∧ Frm 266 1 114 G G' := by
  obtain ⟨G1, v1, cap1, e1, s1, c1, c2, f1⟩ := h.ens hl hcap hr
  have hl1 := s1.lt
  have t1 := s1.t
  have hput := s1.put (C := [48 + k]) (x := u2 (u2 (mI G1) v1 B.length (nW (48 + k))) o 3 (nW (B.length + 1))) c2 (fun i hi => by
      obtain rfl : i = 0 := by have : i < 1 := hi; omega
      show 48 + k < 128
      omega) (fun i hi => by
      obtain rfl : i = 0 := by have : i < 1 := hi; omega
      rw [u2_apart hl1.2.2.symm]
      exact u2_same) (fun i hi => by
      rw [u2_apart hl1.2.2.symm, u2_other (by omega)]) (by rw [u2_same]; rfl) (fun j hj => by
      rw [u2_other (fun q => hj q.2), u2_apart hl1.2.2]) (fun b q1 q2 => by
      rw [u2_arow q1, u2_arow q2])
  refine ⟨_, v1, cap1, ?_, hput.1, c1, f1.trans hput.2⟩
  unfold fJ4_append_bf812 fJ4_append_bf812_0 fJ5_append_c97b9 fJ5_append_c97b9_0
  rw [show ck G 18 o _ = _ from if_pos h.t, h.f3, Option.bind_some, size1 hk, Option.bind_some, show ck G 18 o _ = _ from if_pos h.t, nW_add, e1, Option.bind_some, show ck G1 18 o _ = _ from if_pos t1, s1.latin, Option.bind_some, if_neg (show ¬ (nW 1, G1).1 = (0 : Int32) from (by decide : ¬ nW 1 = (0 : Int32))), s1.f0, Option.bind_some]
  have gc : fJ6_getChars_ba4f3 (nW k) (nW (B.length + 1)) v1 G1 = some (nW B.length, wI G1 (u2 (mI G1) v1 B.length (nW (48 + k)))) := by
    have dec : nW (B.length + 1) + (-1 : Int32) = nW B.length := by
      rw [← nW_add, Int32.add_assoc, show nW 1 + (-1 : Int32) = 0 from by decide, Int32.add_zero]
    have pb : pB G1 v1 (nW B.length) (nW (48 + k)) = some (wI G1 (u2 (mI G1) v1 B.length (nW (48 + k)))) := by
      have hc2 := allN_at chr_ok (48 + k) (by omega)
      rw [Bool.and_eq_true] at hc2
      unfold pB inb
      rw [nW_int (by omega), nW_clamp (by omega), if_pos ⟨s1.2.1.1, by omega, by rw [s1.2.1.2]; omega⟩, of_decide_eq_true hc2.1]
      rfl
    unfold fJ6_getChars_ba4f3 fJ6_getChars_ba4f3_0 fJ6_getChars_ba4f3_12 fJ6_getChars_ba4f3_22 fJ6_getChars_ba4f3_118
    rw [dec]
    rcases (show k = 0 ∨ k = 1 ∨ k = 2 by omega) with rfl | rfl | rfl
    · rw [if_pos (by decide), if_pos (by decide), if_pos (by decide), show tb 0 (-(-nW 0)) = some (nW (48 + 0)) from by decide +kernel, Option.bind_some, pb, Option.bind_some, if_pos (by decide), if_pos rfl]
    · rw [if_pos (by decide), if_pos (by decide), if_pos (by decide), show tb 0 (-(-nW 1)) = some (nW (48 + 1)) from by decide +kernel, Option.bind_some, pb, Option.bind_some, if_pos (by decide), if_pos rfl]
    · rw [if_pos (by decide), if_pos (by decide), if_pos (by decide), show tb 0 (-(-nW 2)) = some (nW (48 + 2)) from by decide +kernel, Option.bind_some, pb, Option.bind_some, if_pos (by decide), if_pos rfl]
  show ((fJ6_getChars_ba4f3 (nW k) (nW (B.length + 1)) v1 G1).bind _).bind _ = _
  rw [gc, Option.bind_some]
  rw [show pI (wI G1 (u2 (mI G1) v1 B.length (nW (48 + k)))) 18 o 3 (nW (B.length + 1)) = some (sI (wI G1 (u2 (mI G1) v1 B.length (nW (48 + k)))) o 3 (nW (B.length + 1))) from if_pos t1]
  rfl
end SBC
