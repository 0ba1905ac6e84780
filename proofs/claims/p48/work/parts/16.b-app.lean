/-! ===== what is done to a StringBuilder ===== -/
theorem sub_all : (allN 115 fun a => allN 115 fun b => decide (nW a - nW b ≤ 0) == decide (a ≤ b)) = true := by decide +kernel
theorem sub_le0 {a b : Nat} (ha : a < 115) (hb : b < 115) : nW a - nW b ≤ (0 : Int32) ↔ a ≤ b := by
  have h := eq_of_beq (allN_at (allN_at sub_all a ha) b hb)
  rwa [decide_eq_decide] at h
theorem shr0 {a : Nat} (ha : a < 2147483648) : nW a >>> (nW 0 &&& (31 : Int32)) = nW a := by
  rw [show (31 : Int32) = nW 31 from rfl, nW_shr ha (by decide), Nat.pow_zero, Nat.div_one]
theorem shl0 {a : Nat} : nW a <<< (nW 0 &&& (31 : Int32)) = nW a := by
  rw [show (31 : Int32) = nW 31 from rfl, nW_shl a (by decide), Nat.pow_zero, Nat.mul_one]
section SBA
variable {G : Mem} {o v cap : Nat} {B : List Nat}
theorem SBs.ens (h : SBs G o v cap B) {min : Nat} (hmin : min ≤ 114) (hcap : cap = 56 ∨ cap = 114) (hr : mz G + 1 ≤ cC G ∧ ml G + 114 ≤ cS G) : ∃ G' v' cap', fJ5_ensureCapacityInternal_d00df o (nW min) G = some ((), G') ∧ SBs G' o v' cap' B ∧ (cap' = 56 ∨ cap' = 114) ∧ min ≤ cap' ∧ Frm 266 1 114 G G' := by
  have hl := h.lt
  unfold fJ5_ensureCapacityInternal_d00df fJ5_ensureCapacityInternal_d00df_0 fJ5_ensureCapacityInternal_d00df_38
  rw [h.f0, Option.bind_some, h.len, Option.bind_some, h.f1, Option.bind_some, shr0 (by omega)]
  by_cases hle : min ≤ cap
  · rw [if_pos ((sub_le0 (by omega) (by omega)).mpr hle)]
    exact ⟨G, v, cap, rfl, h, hcap, hle, ⟨⟨Nat.le_refl _, Nat.le_succ _, Nat.le_add_right _ _, rfl, rfl⟩, fun _ _ => ⟨rfl, rfl, rfl, rfl, rfl⟩⟩⟩
  · have e56 : cap = 56 := by omega
    subst e56
    rw [if_neg (fun q => hle ((sub_le0 (by omega) (by omega)).mp q)), Option.bind_some]
    have nc : fJ5_newCapacity_0f7a4 o (nW min) G = some (nW 114, G) := by
      unfold fJ5_newCapacity_0f7a4 fJ5_newCapacity_0f7a4_0 fJ8_newLength_cabcc fJ8_newLength_cabcc_0
      rw [h.f0, Option.bind_some, h.len, Option.bind_some, h.f1, Option.bind_some, Option.bind_some, shl0, nW_sub (by omega), show (2 : Int32) = nW 2 from rfl, shl0, nW_add]
      have mx : (if nW (min - 56) < nW (56 + 2) then nW (56 + 2) else nW (min - 56)) = nW 58 := by
        by_cases q : min - 56 < 58
        · rw [if_pos ((nW_lt (by omega) (by decide)).mpr q)]
        · rw [if_neg (by rw [nW_lt (by omega) (by decide)]; exact q), show min - 56 = 58 by omega]
      rw [mx, nW_add, if_neg (by decide), if_neg (by decide), Option.bind_some]
      rw [if_neg (show ¬ (nW (56 + 58), G).1 = (2147483647 : Int32) from (by decide : ¬ nW (56 + 58) = (2147483647 : Int32))), h.f1, Option.bind_some]
      show some (nW 114 >>> (nW 0 &&& (31 : Int32)), G) = _
      rw [shr0 (by decide)]
    rw [show ck G 18 o _ = _ from if_pos h.t, nc, Option.bind_some, h.f1, Option.bind_some, shl0]
    have nov : mz G ≠ v := by omega
    have noo : mz G ≠ o := by omega
    obtain ⟨⟨a1, a2, a3, a4⟩, ⟨a5, a5n⟩, ⟨a6, a7⟩, a8, a9, ⟨hF, ho, hv⟩⟩ := id h
    have m1 : mt (mk G 2 114 114) v = 2 := (if_neg (fun q => nov q.symm)).trans a5
    have m2 : mn (mk G 2 114 114) v = 56 := (if_neg (fun q => nov q.symm)).trans a5n
    have m3 : mt (mk G 2 114 114) (mz G) = 2 := if_pos rfl
    have m4 : mn (mk G 2 114 114) (mz G) = 114 := if_pos rfl
    have cp : fJ7_copyOf_9075b v (nW 114) G = some (mz G, wI (mk G 2 114 114) (ur (mI (mk G 2 114 114)) (mz G) (va_cpy (mI (mk G 2 114 114) v) (mI (mk G 2 114 114) (mz G)) 0 0 56))) := by
      unfold fJ7_copyOf_9075b fJ7_copyOf_9075b_0
      rw [h.len, Option.bind_some, if_neg (by decide)]
      have na : nA G 2 (nW 114) = some (mz G, mk G 2 114 114) := by
        unfold nA
        rw [nW_int (by decide), nW_clamp (by decide), if_pos ⟨by decide, hr.1, hr.2⟩]
      rw [na, Option.bind_some]
      have gl : gL (mk G 2 114 114) v = some (nW 56) := by rw [gL_ok (Or.inr (Or.inl m1)), m2]
      rw [gl, Option.bind_some, if_neg (by decide)]
      have cb : cpB (mk G 2 114 114) v 0 (mz G) 0 (nW 56) = some (wI (mk G 2 114 114) (ur (mI (mk G 2 114 114)) (mz G) (va_cpy (mI (mk G 2 114 114) v) (mI (mk G 2 114 114) (mz G)) 0 0 56))) := by
        unfold cpB
        rw [m1, m2, m3, m4, if_pos (by decide)]
        rfl
      rw [cb, Option.bind_some]
    rw [cp, Option.bind_some]
    generalize hx : ur (mI (mk G 2 114 114)) (mz G) (va_cpy (mI (mk G 2 114 114) v) (mI (mk G 2 114 114) (mz G)) 0 0 56) = x
    have xo : ∀ b, b ≠ mz G → x b = mI G b := fun b hb => by rw [← hx, ur_arow hb]; exact ur_arow hb
    have mo : mt (wI (mk G 2 114 114) x) o = 18 := (if_neg (fun q => noo q.symm)).trans a1
    rw [show pR (wI (mk G 2 114 114) x) 18 o 0 (mz G) = some (sP (wI (mk G 2 114 114) x) o 0 (some (mz G))) from if_pos mo, Option.bind_some]
    refine ⟨_, mz G, 114, rfl, ⟨⟨mo, if_pos ⟨rfl, rfl⟩, ?_, ?_⟩, ⟨m3, m4⟩, ⟨by omega, Nat.le_refl _⟩, fun i hi => ?_, a9, ⟨fun b hb => ?_, ho, by omega⟩⟩, Or.inr rfl, hmin, ⟨⟨Nat.le_succ _, Nat.le_refl _, Nat.le_refl _, rfl, rfl⟩, fun b hb => ⟨if_neg (by omega), if_neg (by omega), xo b (by omega), ?_, ?_⟩⟩⟩
    · show x o 1 = _; rw [xo o (by omega)]; exact a3
    · show x o 3 = _; rw [xo o (by omega)]; exact a4
    · show x (mz G) i = _
      rw [← hx, ur_same, cpy_in (Nat.zero_le _) (by omega), show 0 + (i - 0) = i by omega, ← a8 i hi]
      exact congrFun (ur_arow (f := mI G) (a := mz G) (b := v) (g := fun _ => 0) (fun q => nov q.symm)) i
    · have hb : mz G + 1 ≤ b := hb
      exact (if_neg (by omega)).trans (hF b (by omega))
    · exact ur_arow (by omega)
    · funext k
      show u2 (mP (mk G 2 114 114)) o 0 (some (mz G)) b k = _
      rw [u2_apart (by omega)]
      exact congrFun (ur_arow (f := mP G) (a := mz G) (b := b) (g := fun _ => none) (by omega)) k
end SBA
