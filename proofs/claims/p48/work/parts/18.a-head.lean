/-! ===== the law's head ===== -/
theorem wl_L_8 : Cond.classLink RL 8 RX6 ∈ WT := wt_in 62 (by decide +kernel) (by decide +kernel)
theorem wx_X6 : Cond.instantiable RX6 12 ∈ WT := wt_in 63 (by decide +kernel) (by decide +kernel)
theorem df_X6 : ∀ j, j < 12 → defaultValue (tyX6 j) = if (fk (6 + 10)).getD j false = true then .null else .int 0 := fun j hj => by
  rcases (show j = 0 ∨ j = 1 ∨ j = 2 ∨ j = 3 ∨ j = 4 ∨ j = 5 ∨ j = 6 ∨ j = 7 ∨ j = 8 ∨ j = 9 ∨ j = 10 ∨ j = 11 by omega) with rfl | rfl | rfl | rfl | rfl | rfl | rfl | rfl | rfl | rfl | rfl | rfl <;> rfl
theorem wm_L_195 : Cond.methodLink RL 195 yX6_init ∈ WT := wt_in 64 (by decide +kernel) (by decide +kernel)
theorem wc_X6_init : Cond.code yX6_init cX6_init 2 none ∈ WT := wt_in 66 (by decide +kernel) (by decide +kernel)
theorem hy_X6_init : (yX6_init.cls = RX6 ∧ yX6_init.cls ≠ "java/lang/invoke/MethodHandle" ∧ yX6_init.cls ≠ "java/lang/invoke/VarHandle" ∧ (parseMethodDescriptor yX6_init.desc).map (fun d => d.parameters.length) = some 0) := by decide +kernel
theorem wi_X6_init : Cond.instanceMethod yX6_init ∈ WT := wt_in 65 (by decide +kernel) (by decide +kernel)
theorem kl_L_195 : CLI RL 195 yX6_init cX6_init 2 0 := ⟨Or.inl wm_L_195, wi_X6_init, wn_X6, wc_X6_init, rfl, hy_X6_init.2⟩
/-- the empty memory -/
def G00 : Mem := (0, 0, fun _ => 0, fun _ => 0, fun _ _ => 0, fun _ _ => 0, fun _ _ => none, 600074, 7301550)
theorem up0 (w : Int32) : sI (mk G00 1 1 1) 0 0 w = up w G0c := by
  have e1 : u1 (mt G00) 0 1 = pfx 1 (mt G0c) := by
    funext b; cases b with
    | zero => rfl
    | succ b => exact if_neg (by omega)
  have e2 : u1 (mn G00) 0 1 = pfx 1 (mn G0c) := by
    funext b; cases b with
    | zero => rfl
    | succ b => exact if_neg (by omega)
  have e3 : u2 (ur (mI G00) 0 (fun _ => 0)) 0 0 w = pfx (stF w) (mI G0c) := by
    funext b j; cases b with
    | zero =>
      show (if 0 = 0 ∧ j = 0 then w else if 0 = 0 then 0 else 0) = if j = 0 then w else 0
      by_cases h : j = 0
      · rw [if_pos ⟨rfl, h⟩, if_pos h]
      · rw [if_neg (fun q => h q.2), if_neg h, if_pos rfl]
    | succ b =>
      show (if b + 1 = 0 ∧ j = 0 then w else if b + 1 = 0 then (0 : Int32) else 0) = 0
      rw [if_neg (by omega), if_neg (by omega)]
  have e4 : ur (mJ G00) 0 (fun _ => 0) = pfx (fun _ => 0) (mJ G0c) := by
    funext b j; cases b with
    | zero => rfl
    | succ b => exact if_neg (by omega)
  have e5 : ur (mP G00) 0 (fun _ => none) = pfx (fun _ => none) (fun a k => if mt G0c a = 8 then mP G0c a k else (mP G0c a k).map (· + 1)) := by
    funext b j; cases b with
    | zero => rfl
    | succ b => exact if_neg (by omega)
  show (1, 1, u1 (mt G00) 0 1, u1 (mn G00) 0 1, u2 (ur (mI G00) 0 (fun _ => 0)) 0 0 w, ur (mJ G00) 0 (fun _ => 0), ur (mP G00) 0 (fun _ => none), 600074, 7301550) = (1, 1, pfx 1 (mt G0c), pfx 1 (mn G0c), pfx (stF w) (mI G0c), pfx (fun _ => 0) (mJ G0c), pfx (fun _ => none) (fun a k => if mt G0c a = 8 then mP G0c a k else (mP G0c a k).map (· + 1)), 600074, 7301550)
  rw [e1, e2, e3, e4, e5]
theorem Rel.frsh {B : Nat} {H0 : Heap} {D : va_G} {cy : Nat → ClassId} {cc cs : Nat} {G : Mem} {H : Heap} (h : Rel B H0 D cy cc cs G H) : Frsh G := fun b hb => by
  by_cases hz : mt G b = 0
  · exact hz
  · have h1 := h.lt hz
    have h2 : H.size = B + mz G := h.2.1
    omega
theorem up_frsh {w : Int32} {G : Mem} (h : Frsh (up w G)) : Frsh G := fun b hb => h (b + 1) (Nat.succ_le_succ hb)
set_option maxRecDepth 100000 in
set_option maxHeartbeats 4000000 in
theorem lw_head {X : Cx} (ok : OK X cL_law RL (some .boolean) 8 LFR LLO) {b n : Nat} (hn : n ≤ 260) {xs : Nat → Int32} (hscr : SC X b n xs) (uB : X.V.H0.size = X.V.B) (hcc : X.V.cc = 600074) (hcs : X.V.cs = 7301550) (fin : ∀ G, J X 8 325 [] [.int 1] G) : J X 8 0 [(0, .ref b)] [] G00 := by
  have uc : 1 ≤ X.V.cc := by omega
  have us : 1 ≤ X.V.cs := by omega
  have hn32 : (Int32.ofNat n).toInt = n := Int32.toInt_ofNat_of_lt (by omega)
  refine j_iconst (v := 0) ok dL_law_0 (by decide) ?_
  refine j_istore_n (L' := [(1, .int (0 : Int32)), (0, .ref b)]) ok dL_law_1 rfl (by decide) rfl ?_
  refine j_iload_n ok dL_law_2 rfl 0 rfl ?_
  refine j_aload_n ok dL_law_3 rfl 1 rfl ?_
  refine j_sclen ok hscr dL_law_4 ?_
  by_cases c1 : Int32.ofNat n ≤ (0 : Int32)
  · refine j_icmp_ge (tgt := 324) ok dL_law_5 (by decide) (fun _ => ?_) (fun z => absurd c1 z)
    refine j_iconst (v := 1) ok dL_law_324 (by decide) ?_
    exact J.sub [] rfl (fin _)
  · refine j_icmp_ge (tgt := 324) ok dL_law_5 (by decide) (fun z => absurd z c1) (fun _ => ?_)
    have n0 : 0 < n := by
      rw [Int32.le_iff_toInt_le, hn32] at c1
      have : (0 : Int32).toInt = 0 := rfl
      omega
    refine j_iload_n ok dL_law_8 rfl 0 rfl ?_
    refine j_iconst (v := 1) ok dL_law_9 (by decide) ?_
    refine j_icmp_ge (tgt := 324) ok dL_law_10 (by decide) (fun z => absurd z (by decide)) (fun _ => ?_)
    refine j_iconst (v := 1) ok dL_law_13 (by decide) ?_
    have na : nA G00 1 (1 : Int32) = some (0, mk G00 1 1 1) := if_pos ⟨by decide, by decide, by decide⟩
    refine k_newaT ok (t := 1) (Or.inl ⟨rfl, rfl⟩) wa_1 na dL_law_14 ?_
    refine j_dup ok dL_law_16 rfl ?_
    refine j_iconst (v := 0) ok dL_law_17 (by decide) ?_
    refine j_aload_n ok dL_law_18 rfl 1 rfl ?_
    refine j_iload_n ok dL_law_19 rfl 0 rfl ?_
    have hin : inb (0 : Int32) n := ⟨by decide, by show (0 : Int) < n; omega⟩
    refine j_scr ok hscr hin dL_law_20 ?_
    have pa : pA (mk G00 1 1 1) 0 (0 : Int32) (xs (0 : Int32).toNatClampNeg) = some (up (xs (0 : Int32).toNatClampNeg) G0c) := by
      rw [← up0]
      exact if_pos ⟨rfl, by decide, by decide⟩
    refine j_iast ok pa dL_law_21 ?_
    generalize xs (0 : Int32).toNatClampNeg = w
    refine j_astore_n (L' := [(2, .ref (X.B + 0)), (1, .int (0 : Int32)), (0, .ref b)]) ok dL_law_22 rfl (by decide) rfl ?_
    obtain ⟨s1, z1, z2, z3, z4⟩ := s1_some
    unfold S1 at s1
    cases hq6 : nO G0c 16 12 with
    | none => rw [hq6] at s1; cases s1
    | some q6 =>
      rw [hq6, Option.bind_some] at s1
      cases hq7 : fX6_init q6.1 q6.2 with
      | none => rw [hq7] at s1; cases s1
      | some q7 =>
        rw [hq7] at s1
        have s1 := Option.some.inj s1
        have e61 : q6.1 = 0 := congrArg Prod.fst s1
        have e72 : q7.2 = G1 := congrArg Prod.snd s1
        refine k_new ok (ci := 6) in_X6 fp_X6 rfl rfl df_X6 wl_L_8 wx_X6 wn_X6 (up_nO hq6) dL_law_23 ?_
        refine j_dup ok dL_law_26 rfl ?_
        have hi : fX6_init q6.1 q6.2 = some ((), G1) := by rw [hq7, ← e72]
        refine k_I ok kl_L_195 ⟨Nat.le_of_ble_eq_true rfl, Nat.le_of_ble_eq_true rfl⟩ [] rfl rfl (Nat.le_of_ble_eq_true rfl) (by have z := mx_up (V := X.V) (w := w) uB uc us (tX6_init ok.fl (upV X.V w) q6.1 q6.2 hi); simp only [ref_up] at z; exact z) dL_law_27 ?_
        rw [e61]
        refine j_astore_n (L' := [(3, .ref (X.B + (0 + 1))), (2, .ref (X.B + 0)), (1, .int (0 : Int32)), (0, .ref b)]) ok dL_law_30 rfl (by decide) rfl ?_
        have hK : ∀ (r : Unit) (w' : Int32) (G' : Mem), True → (fun (_ : Unit) w G => J X 8 318 [(0, .ref b), (1, .int (0 : Int32))] [] (up w G)) r w' G' := fun _ w' G' _ => by
          show J X 8 318 [(0, .ref b), (1, .int (0 : Int32))] [] (up w' G')
          refine j_iinc (L' := [(1, .int (0 + (1 : Int32))), (0, .ref b)]) (v := (0 + (1 : Int32))) ok dL_law_318 (q := 1) rfl rfl (by decide) rfl ?_
          refine j_goto (tgt := 2) ok dL_law_321 (by decide) ?_
          refine j_iload_n ok dL_law_2 rfl 0 rfl ?_
          refine j_aload_n ok dL_law_3 rfl 1 rfl ?_
          refine j_sclen ok hscr dL_law_4 ?_
          by_cases c3 : Int32.ofNat n ≤ (0 + 1 : Int32)
          · refine j_icmp_ge (tgt := 324) ok dL_law_5 (by decide) (fun _ => ?_) (fun z => absurd c3 z)
            refine j_iconst (v := 1) ok dL_law_324 (by decide) ?_
            exact J.sub [] rfl (fin _)
          · refine j_icmp_ge (tgt := 324) ok dL_law_5 (by decide) (fun z => absurd z c3) (fun _ => ?_)
            refine j_iload_n ok dL_law_8 rfl 0 rfl ?_
            refine j_iconst (v := 1) ok dL_law_9 (by decide) ?_
            refine j_icmp_ge (tgt := 324) ok dL_law_10 (by decide) (fun _ => ?_) (fun z => absurd (by decide) z)
            refine j_iconst (v := 1) ok dL_law_324 (by decide) ?_
            exact J.sub [] rfl (fin _)
        have main : J X 8 31 [(0, .ref b), (1, .int (0 : Int32)), (2, .ref (X.B + 0)), (3, .ref (X.B + (0 + 1)))] [] (up w G1) := fun H locs ls hR hcl hl =>
          jS_law_31 ok uB uc us (c1 := 600073) (c2 := 7301549) (by omega) (by omega) 0 0 w G1 (fun _ _ => True) (lw_31 (l1 := 0) (fun _ _ => ⟨rfl, rfl, rfl, rfl, rfl⟩) (up_frsh (Rel.frsh hR)) ⟨z1, z2, z3, z4⟩ (fun _ => trivial)) hK H locs ls hR hcl hl
        exact J.sub [3, 2, 1, 0] rfl main
