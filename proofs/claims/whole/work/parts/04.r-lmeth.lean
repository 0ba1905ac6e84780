abbrev LFR : Nat := 2048
abbrev LLO : Nat := 84000
def fL_addNote (l0 : Nat) (l1 : Int32) (l2 : Int32) (l3 : Int32) (l4 : Int32) (l5 : Int32) (l6 : Int32) (l7 : Nat) (G : Mem) : Option ((Int32 ⊕ Nat) × Mem) :=
  ck G 16 l0 <| (fX6_addNote l0 l1 l2 l3 l4 l5 l6 G).bind fun q1 => thrC [0, 1] q1.1 (fun v =>
    (pJ q1.2 l7 (0 : Int32) v.toInt64).bind fun G2 => some (.inl (0 : Int32), G2)) q1.2
def hsL_addNote : Nat → Int32
  | 0 => 1
  | 1 => 2
  | _ => 0
set_option maxRecDepth 100000 in
set_option maxHeartbeats 4000000 in
theorem tL_addNote {l : Launch} (hfl : l.stackTraces = false) (V : Wd) (l0 : Nat) (l1 : Int32) (l2 : Int32) (l3 : Int32) (l4 : Int32) (l5 : Int32) (l6 : Int32) (l7 : Nat) (G : Mem) (hq : (fL_addNote l0 l1 l2 l3 l4 l5 l6 l7 G).isSome = true) : ML l yL_addNote cL_addNote 9 [(0, 18, 21, 13), (0, 18, 25, 19)] 10 264 V [.ref (V.B + l0), .int l1, .int l2, .int l3, .int l4, .int l5, .int l6, .ref (V.B + l7)] G (PL (fL_addNote l0 l1 l2 l3 l4 l5 l6 l7 G) hsL_addNote V.cc V.cs) :=
  ml_of (L := [(0, .ref (V.B + l0)), (1, .int l1), (2, .int l2), (3, .int l3), (4, .int l4), (5, .int l5), (6, .int l6), (7, .ref (V.B + l7))]) hfl (by decide +kernel) (Nat.le_of_ble_eq_true rfl) rfl (fun X hl hV ok htb he => by
    subst hl; subst hV
    obtain ⟨q9, h9⟩ := Option.isSome_iff_exists.mp hq
    have h0 := h9
    unfold fL_addNote at h9
    refine j_aload ok dL_addNote_0 7 rfl ?_
    refine j_iconst (v := 0) ok dL_addNote_2 (by decide) ?_
    refine j_aload_n ok dL_addNote_3 rfl 0 rfl ?_
    refine j_iload_n ok dL_addNote_4 rfl 1 rfl ?_
    refine j_iload_n ok dL_addNote_5 rfl 2 rfl ?_
    refine j_iload_n ok dL_addNote_6 rfl 3 rfl ?_
    refine j_iload ok dL_addNote_7 4 rfl ?_
    refine j_iload ok dL_addNote_9 5 rfl ?_
    refine j_iload ok dL_addNote_11 6 rfl ?_
    obtain ⟨k1, h9⟩ := ck_some h9
    obtain ⟨q1, hq1, h9⟩ := obind h9
    refine k_VC ok kl_L_15 ⟨Nat.le_of_ble_eq_true rfl, Nat.le_of_ble_eq_true rfl⟩ [.int l1, .int l2, .int l3, .int l4, .int l5, .int l6] k1 rfl rfl (Nat.le_of_ble_eq_true rfl) (tX6_addNote ok.fl X.V l0 l1 l2 l3 l4 l5 l6 G hq1) dL_addNote_13 (fun v hv => ?_) (fun k hk => ?_)
    · cases e1 : q1.1 with
      | inr z => rw [e1] at hv; cases hv
      | inl z =>
        rw [e1] at hv h9
        cases hv
        dsimp only [thrC] at h9
        obtain ⟨G2, hG2, h9⟩ := obind h9
        refine j_i2l ok dL_addNote_16 ?_
        refine j_last ok hG2 dL_addNote_17 ?_
        refine j_goto (tgt := 29) ok dL_addNote_18 (by decide) ?_
        refine j_iconst (v := 0) ok dL_addNote_29 (by decide) ?_
        refine J.sub [] rfl (jl_iret ok (P := PL (fL_addNote l0 l1 l2 l3 l4 l5 l6 l7 G) hsL_addNote X.V.cc X.V.cs) ⟨q9, h0, ?_⟩ dL_addNote_30 he)
        cases h9
        exact ⟨rfl, rfl⟩
    · cases e1 : q1.1 with
      | inl z => rw [e1] at hk; cases hk
      | inr z =>
        rw [e1] at hk h9
        cases hk
        dsimp only [thrC] at h9
        obtain ⟨hm, h9⟩ := ite_get2 h9
        cases h9
        simp only [List.mem_cons, List.not_mem_nil, or_false] at hm
        rcases hm with rfl | rfl
        · refine ⟨21, ⟨by decide, [], ⟨0, 18, 21, 13⟩, [⟨0, 18, 25, 19⟩], (by rw [htb]; rfl), (fun z hz => by cases hz), rfl, by decide, wl_L_13, rfl⟩, fun d w q hd hw => ?_⟩
          refine j_astore (L' := [(8, .ref q), (0, .ref (X.B + l0)), (1, .int l1), (2, .int l2), (3, .int l3), (4, .int l4), (5, .int l5), (6, .int l6), (7, .ref (X.B + l7))]) ok dL_addNote_21 (by decide) rfl ?_
          refine j_iconst (v := 1) ok dL_addNote_23 (by decide) ?_
          exact J.sub [] rfl (jl_iret ok (P := PL (fL_addNote l0 l1 l2 l3 l4 l5 l6 l7 G) hsL_addNote X.V.cc X.V.cs) ⟨_, h0, rfl, d, w, hd, hw, rfl⟩ dL_addNote_24 he)
        · refine ⟨25, ⟨by decide, [⟨0, 18, 21, 13⟩], ⟨0, 18, 25, 19⟩, [], (by rw [htb]; rfl), (fun z hz => by
            rw [List.mem_singleton] at hz
            subst hz
            · exact ⟨by decide, 0, by decide, by decide, wl_L_13⟩
            ), rfl, by decide, wl_L_19, rfl⟩, fun d w q hd hw => ?_⟩
          refine j_astore (L' := [(8, .ref q), (0, .ref (X.B + l0)), (1, .int l1), (2, .int l2), (3, .int l3), (4, .int l4), (5, .int l5), (6, .int l6), (7, .ref (X.B + l7))]) ok dL_addNote_25 (by decide) rfl ?_
          refine j_iconst (v := 2) ok dL_addNote_27 (by decide) ?_
          exact J.sub [] rfl (jl_iret ok (P := PL (fL_addNote l0 l1 l2 l3 l4 l5 l6 l7 G) hsL_addNote X.V.cc X.V.cs) ⟨_, h0, rfl, d, w, hd, hw, rfl⟩ dL_addNote_28 he))

def fL_clarify (l0 : Nat) (l1 : Int32) (l2 : Int32) (l3 : Int32) (l4 : Nat) (G : Mem) : Option ((Int32 ⊕ Nat) × Mem) :=
  ck G 16 l0 <| (fX6_clarify l0 l1 l2 l3 G).bind fun q1 => thrC [2, 0, 1] q1.1 (fun v =>
    (pJ q1.2 l4 (0 : Int32) v.toInt64).bind fun G2 => some (.inl (0 : Int32), G2)) q1.2
def hsL_clarify : Nat → Int32
  | 2 => 1
  | 0 => 2
  | 1 => 3
  | _ => 0
set_option maxRecDepth 100000 in
set_option maxHeartbeats 4000000 in
theorem tL_clarify {l : Launch} (hfl : l.stackTraces = false) (V : Wd) (l0 : Nat) (l1 : Int32) (l2 : Int32) (l3 : Int32) (l4 : Nat) (G : Mem) (hq : (fL_clarify l0 l1 l2 l3 l4 G).isSome = true) : ML l yL_clarify cL_clarify 6 [(0, 12, 15, 25), (0, 12, 19, 13), (0, 12, 23, 19)] 10 241 V [.ref (V.B + l0), .int l1, .int l2, .int l3, .ref (V.B + l4)] G (PL (fL_clarify l0 l1 l2 l3 l4 G) hsL_clarify V.cc V.cs) :=
  ml_of (L := [(0, .ref (V.B + l0)), (1, .int l1), (2, .int l2), (3, .int l3), (4, .ref (V.B + l4))]) hfl (by decide +kernel) (Nat.le_of_ble_eq_true rfl) rfl (fun X hl hV ok htb he => by
    subst hl; subst hV
    obtain ⟨q9, h9⟩ := Option.isSome_iff_exists.mp hq
    have h0 := h9
    unfold fL_clarify at h9
    refine j_aload ok dL_clarify_0 4 rfl ?_
    refine j_iconst (v := 0) ok dL_clarify_2 (by decide) ?_
    refine j_aload_n ok dL_clarify_3 rfl 0 rfl ?_
    refine j_iload_n ok dL_clarify_4 rfl 1 rfl ?_
    refine j_iload_n ok dL_clarify_5 rfl 2 rfl ?_
    refine j_iload_n ok dL_clarify_6 rfl 3 rfl ?_
    obtain ⟨k1, h9⟩ := ck_some h9
    obtain ⟨q1, hq1, h9⟩ := obind h9
    refine k_VC ok kl_L_21 ⟨Nat.le_of_ble_eq_true rfl, Nat.le_of_ble_eq_true rfl⟩ [.int l1, .int l2, .int l3] k1 rfl rfl (Nat.le_of_ble_eq_true rfl) (tX6_clarify ok.fl X.V l0 l1 l2 l3 G hq1) dL_clarify_7 (fun v hv => ?_) (fun k hk => ?_)
    · cases e1 : q1.1 with
      | inr z => rw [e1] at hv; cases hv
      | inl z =>
        rw [e1] at hv h9
        cases hv
        dsimp only [thrC] at h9
        obtain ⟨G2, hG2, h9⟩ := obind h9
        refine j_i2l ok dL_clarify_10 ?_
        refine j_last ok hG2 dL_clarify_11 ?_
        refine j_goto (tgt := 27) ok dL_clarify_12 (by decide) ?_
        refine j_iconst (v := 0) ok dL_clarify_27 (by decide) ?_
        refine J.sub [] rfl (jl_iret ok (P := PL (fL_clarify l0 l1 l2 l3 l4 G) hsL_clarify X.V.cc X.V.cs) ⟨q9, h0, ?_⟩ dL_clarify_28 he)
        cases h9
        exact ⟨rfl, rfl⟩
    · cases e1 : q1.1 with
      | inl z => rw [e1] at hk; cases hk
      | inr z =>
        rw [e1] at hk h9
        cases hk
        dsimp only [thrC] at h9
        obtain ⟨hm, h9⟩ := ite_get2 h9
        cases h9
        simp only [List.mem_cons, List.not_mem_nil, or_false] at hm
        rcases hm with rfl | rfl | rfl
        · refine ⟨15, ⟨by decide, [], ⟨0, 12, 15, 25⟩, [⟨0, 12, 19, 13⟩, ⟨0, 12, 23, 19⟩], (by rw [htb]; rfl), (fun z hz => by cases hz), rfl, by decide, wl_L_25, rfl⟩, fun d w q hd hw => ?_⟩
          refine j_astore (L' := [(5, .ref q), (0, .ref (X.B + l0)), (1, .int l1), (2, .int l2), (3, .int l3), (4, .ref (X.B + l4))]) ok dL_clarify_15 (by decide) rfl ?_
          refine j_iconst (v := 1) ok dL_clarify_17 (by decide) ?_
          exact J.sub [] rfl (jl_iret ok (P := PL (fL_clarify l0 l1 l2 l3 l4 G) hsL_clarify X.V.cc X.V.cs) ⟨_, h0, rfl, d, w, hd, hw, rfl⟩ dL_clarify_18 he)
        · refine ⟨19, ⟨by decide, [⟨0, 12, 15, 25⟩], ⟨0, 12, 19, 13⟩, [⟨0, 12, 23, 19⟩], (by rw [htb]; rfl), (fun z hz => by
            rw [List.mem_singleton] at hz
            subst hz
            · exact ⟨by decide, 2, by decide, by decide, wl_L_25⟩
            ), rfl, by decide, wl_L_13, rfl⟩, fun d w q hd hw => ?_⟩
          refine j_astore (L' := [(5, .ref q), (0, .ref (X.B + l0)), (1, .int l1), (2, .int l2), (3, .int l3), (4, .ref (X.B + l4))]) ok dL_clarify_19 (by decide) rfl ?_
          refine j_iconst (v := 2) ok dL_clarify_21 (by decide) ?_
          exact J.sub [] rfl (jl_iret ok (P := PL (fL_clarify l0 l1 l2 l3 l4 G) hsL_clarify X.V.cc X.V.cs) ⟨_, h0, rfl, d, w, hd, hw, rfl⟩ dL_clarify_22 he)
        · refine ⟨23, ⟨by decide, [⟨0, 12, 15, 25⟩, ⟨0, 12, 19, 13⟩], ⟨0, 12, 23, 19⟩, [], (by rw [htb]; rfl), (fun z hz => by
            simp only [List.mem_cons, List.not_mem_nil, or_false] at hz
            rcases hz with rfl | rfl
            · exact ⟨by decide, 2, by decide, by decide, wl_L_25⟩
            · exact ⟨by decide, 0, by decide, by decide, wl_L_13⟩
            ), rfl, by decide, wl_L_19, rfl⟩, fun d w q hd hw => ?_⟩
          refine j_astore (L' := [(5, .ref q), (0, .ref (X.B + l0)), (1, .int l1), (2, .int l2), (3, .int l3), (4, .ref (X.B + l4))]) ok dL_clarify_23 (by decide) rfl ?_
          refine j_iconst (v := 3) ok dL_clarify_25 (by decide) ?_
          exact J.sub [] rfl (jl_iret ok (P := PL (fL_clarify l0 l1 l2 l3 l4 G) hsL_clarify X.V.cc X.V.cs) ⟨_, h0, rfl, d, w, hd, hw, rfl⟩ dL_clarify_26 he))

def fL_colourAt (l0 : Nat) (l1 : Int32) (l2 : Int32) (l3 : Int32) (l4 : Nat) (G : Mem) : Option ((Int32 ⊕ Nat) × Mem) :=
  ck G 16 l0 <| (fX6_colourAt l0 l1 l2 l3 G).bind fun q1 => thrC [2] q1.1 (fun v =>
    (pJ q1.2 l4 (0 : Int32) v.toInt64).bind fun G2 => some (.inl (0 : Int32), G2)) q1.2
def hsL_colourAt : Nat → Int32
  | 2 => 1
  | _ => 0
set_option maxRecDepth 100000 in
set_option maxHeartbeats 4000000 in
theorem tL_colourAt {l : Launch} (hfl : l.stackTraces = false) (V : Wd) (l0 : Nat) (l1 : Int32) (l2 : Int32) (l3 : Int32) (l4 : Nat) (G : Mem) (hq : (fL_colourAt l0 l1 l2 l3 l4 G).isSome = true) : ML l yL_colourAt cL_colourAt 6 [(0, 12, 15, 25)] 10 205 V [.ref (V.B + l0), .int l1, .int l2, .int l3, .ref (V.B + l4)] G (PL (fL_colourAt l0 l1 l2 l3 l4 G) hsL_colourAt V.cc V.cs) :=
  ml_of (L := [(0, .ref (V.B + l0)), (1, .int l1), (2, .int l2), (3, .int l3), (4, .ref (V.B + l4))]) hfl (by decide +kernel) (Nat.le_of_ble_eq_true rfl) rfl (fun X hl hV ok htb he => by
    subst hl; subst hV
    obtain ⟨q9, h9⟩ := Option.isSome_iff_exists.mp hq
    have h0 := h9
    unfold fL_colourAt at h9
    refine j_aload ok dL_colourAt_0 4 rfl ?_
    refine j_iconst (v := 0) ok dL_colourAt_2 (by decide) ?_
    refine j_aload_n ok dL_colourAt_3 rfl 0 rfl ?_
    refine j_iload_n ok dL_colourAt_4 rfl 1 rfl ?_
    refine j_iload_n ok dL_colourAt_5 rfl 2 rfl ?_
    refine j_iload_n ok dL_colourAt_6 rfl 3 rfl ?_
    obtain ⟨k1, h9⟩ := ck_some h9
    obtain ⟨q1, hq1, h9⟩ := obind h9
    refine k_VC ok kl_L_68 ⟨Nat.le_of_ble_eq_true rfl, Nat.le_of_ble_eq_true rfl⟩ [.int l1, .int l2, .int l3] k1 rfl rfl (Nat.le_of_ble_eq_true rfl) (tX6_colourAt ok.fl X.V l0 l1 l2 l3 G hq1) dL_colourAt_7 (fun v hv => ?_) (fun k hk => ?_)
    · cases e1 : q1.1 with
      | inr z => rw [e1] at hv; cases hv
      | inl z =>
        rw [e1] at hv h9
        cases hv
        dsimp only [thrC] at h9
        obtain ⟨G2, hG2, h9⟩ := obind h9
        refine j_i2l ok dL_colourAt_10 ?_
        refine j_last ok hG2 dL_colourAt_11 ?_
        refine j_goto (tgt := 19) ok dL_colourAt_12 (by decide) ?_
        refine j_iconst (v := 0) ok dL_colourAt_19 (by decide) ?_
        refine J.sub [] rfl (jl_iret ok (P := PL (fL_colourAt l0 l1 l2 l3 l4 G) hsL_colourAt X.V.cc X.V.cs) ⟨q9, h0, ?_⟩ dL_colourAt_20 he)
        cases h9
        exact ⟨rfl, rfl⟩
    · cases e1 : q1.1 with
      | inl z => rw [e1] at hk; cases hk
      | inr z =>
        rw [e1] at hk h9
        cases hk
        dsimp only [thrC] at h9
        obtain ⟨hm, h9⟩ := ite_get2 h9
        cases h9
        simp only [List.mem_cons, List.not_mem_nil, or_false] at hm
        subst hm
        · refine ⟨15, ⟨by decide, [], ⟨0, 12, 15, 25⟩, [], (by rw [htb]; rfl), (fun z hz => by cases hz), rfl, by decide, wl_L_25, rfl⟩, fun d w q hd hw => ?_⟩
          refine j_astore (L' := [(5, .ref q), (0, .ref (X.B + l0)), (1, .int l1), (2, .int l2), (3, .int l3), (4, .ref (X.B + l4))]) ok dL_colourAt_15 (by decide) rfl ?_
          refine j_iconst (v := 1) ok dL_colourAt_17 (by decide) ?_
          exact J.sub [] rfl (jl_iret ok (P := PL (fL_colourAt l0 l1 l2 l3 l4 G) hsL_colourAt X.V.cc X.V.cs) ⟨_, h0, rfl, d, w, hd, hw, rfl⟩ dL_colourAt_18 he))

def fL_doubt (l0 : Nat) (l1 : Int32) (l2 : Nat) (G : Mem) : Option ((Int32 ⊕ Nat) × Mem) :=
  ck G 16 l0 <| (fX6_doubt l0 l1 G).bind fun q1 => thrC [2] q1.1 (fun v =>
    (pJ q1.2 l2 (0 : Int32) v.toInt64).bind fun G2 => some (.inl (0 : Int32), G2)) q1.2
def hsL_doubt : Nat → Int32
  | 2 => 1
  | _ => 0
set_option maxRecDepth 100000 in
set_option maxHeartbeats 4000000 in
theorem tL_doubt {l : Launch} (hfl : l.stackTraces = false) (V : Wd) (l0 : Nat) (l1 : Int32) (l2 : Nat) (G : Mem) (hq : (fL_doubt l0 l1 l2 G).isSome = true) : ML l yL_doubt cL_doubt 4 [(0, 9, 12, 25)] 10 202 V [.ref (V.B + l0), .int l1, .ref (V.B + l2)] G (PL (fL_doubt l0 l1 l2 G) hsL_doubt V.cc V.cs) :=
  ml_of (L := [(0, .ref (V.B + l0)), (1, .int l1), (2, .ref (V.B + l2))]) hfl (by decide +kernel) (Nat.le_of_ble_eq_true rfl) rfl (fun X hl hV ok htb he => by
    subst hl; subst hV
    obtain ⟨q9, h9⟩ := Option.isSome_iff_exists.mp hq
    have h0 := h9
    unfold fL_doubt at h9
    refine j_aload_n ok dL_doubt_0 rfl 2 rfl ?_
    refine j_iconst (v := 0) ok dL_doubt_1 (by decide) ?_
    refine j_aload_n ok dL_doubt_2 rfl 0 rfl ?_
    refine j_iload_n ok dL_doubt_3 rfl 1 rfl ?_
    obtain ⟨k1, h9⟩ := ck_some h9
    obtain ⟨q1, hq1, h9⟩ := obind h9
    refine k_VC ok kl_L_82 ⟨Nat.le_of_ble_eq_true rfl, Nat.le_of_ble_eq_true rfl⟩ [.int l1] k1 rfl rfl (Nat.le_of_ble_eq_true rfl) (tX6_doubt ok.fl X.V l0 l1 G hq1) dL_doubt_4 (fun v hv => ?_) (fun k hk => ?_)
    · cases e1 : q1.1 with
      | inr z => rw [e1] at hv; cases hv
      | inl z =>
        rw [e1] at hv h9
        cases hv
        dsimp only [thrC] at h9
        obtain ⟨G2, hG2, h9⟩ := obind h9
        refine j_i2l ok dL_doubt_7 ?_
        refine j_last ok hG2 dL_doubt_8 ?_
        refine j_goto (tgt := 15) ok dL_doubt_9 (by decide) ?_
        refine j_iconst (v := 0) ok dL_doubt_15 (by decide) ?_
        refine J.sub [] rfl (jl_iret ok (P := PL (fL_doubt l0 l1 l2 G) hsL_doubt X.V.cc X.V.cs) ⟨q9, h0, ?_⟩ dL_doubt_16 he)
        cases h9
        exact ⟨rfl, rfl⟩
    · cases e1 : q1.1 with
      | inl z => rw [e1] at hk; cases hk
      | inr z =>
        rw [e1] at hk h9
        cases hk
        dsimp only [thrC] at h9
        obtain ⟨hm, h9⟩ := ite_get2 h9
        cases h9
        simp only [List.mem_cons, List.not_mem_nil, or_false] at hm
        subst hm
        · refine ⟨12, ⟨by decide, [], ⟨0, 9, 12, 25⟩, [], (by rw [htb]; rfl), (fun z hz => by cases hz), rfl, by decide, wl_L_25, rfl⟩, fun d w q hd hw => ?_⟩
          refine j_astore_n (L' := [(3, .ref q), (0, .ref (X.B + l0)), (1, .int l1), (2, .ref (X.B + l2))]) ok dL_doubt_12 rfl (by decide) rfl ?_
          refine j_iconst (v := 1) ok dL_doubt_13 (by decide) ?_
          exact J.sub [] rfl (jl_iret ok (P := PL (fL_doubt l0 l1 l2 G) hsL_doubt X.V.cc X.V.cs) ⟨_, h0, rfl, d, w, hd, hw, rfl⟩ dL_doubt_14 he))

def fL_dropNote (l0 : Nat) (l1 : Nat) (G : Mem) : Option ((Int32 ⊕ Nat) × Mem) :=
  ck G 16 l0 <| (fX6_dropNote l0  G).bind fun q1 => thrC [1] q1.1 (fun v =>
    (pJ q1.2 l1 (0 : Int32) v.toInt64).bind fun G2 => some (.inl (0 : Int32), G2)) q1.2
def hsL_dropNote : Nat → Int32
  | 1 => 1
  | _ => 0
set_option maxRecDepth 100000 in
set_option maxHeartbeats 4000000 in
theorem tL_dropNote {l : Launch} (hfl : l.stackTraces = false) (V : Wd) (l0 : Nat) (l1 : Nat) (G : Mem) (hq : (fL_dropNote l0 l1 G).isSome = true) : ML l yL_dropNote cL_dropNote 3 [(0, 8, 11, 19)] 9 180 V [.ref (V.B + l0), .ref (V.B + l1)] G (PL (fL_dropNote l0 l1 G) hsL_dropNote V.cc V.cs) :=
  ml_of (L := [(0, .ref (V.B + l0)), (1, .ref (V.B + l1))]) hfl (by decide +kernel) (Nat.le_of_ble_eq_true rfl) rfl (fun X hl hV ok htb he => by
    subst hl; subst hV
    obtain ⟨q9, h9⟩ := Option.isSome_iff_exists.mp hq
    have h0 := h9
    unfold fL_dropNote at h9
    refine j_aload_n ok dL_dropNote_0 rfl 1 rfl ?_
    refine j_iconst (v := 0) ok dL_dropNote_1 (by decide) ?_
    refine j_aload_n ok dL_dropNote_2 rfl 0 rfl ?_
    obtain ⟨k1, h9⟩ := ck_some h9
    obtain ⟨q1, hq1, h9⟩ := obind h9
    refine k_VC ok kl_L_27 ⟨Nat.le_of_ble_eq_true rfl, Nat.le_of_ble_eq_true rfl⟩ [] k1 rfl rfl (Nat.le_of_ble_eq_true rfl) (tX6_dropNote ok.fl X.V l0  G hq1) dL_dropNote_3 (fun v hv => ?_) (fun k hk => ?_)
    · cases e1 : q1.1 with
      | inr z => rw [e1] at hv; cases hv
      | inl z =>
        rw [e1] at hv h9
        cases hv
        dsimp only [thrC] at h9
        obtain ⟨G2, hG2, h9⟩ := obind h9
        refine j_i2l ok dL_dropNote_6 ?_
        refine j_last ok hG2 dL_dropNote_7 ?_
        refine j_goto (tgt := 14) ok dL_dropNote_8 (by decide) ?_
        refine j_iconst (v := 0) ok dL_dropNote_14 (by decide) ?_
        refine J.sub [] rfl (jl_iret ok (P := PL (fL_dropNote l0 l1 G) hsL_dropNote X.V.cc X.V.cs) ⟨q9, h0, ?_⟩ dL_dropNote_15 he)
        cases h9
        exact ⟨rfl, rfl⟩
    · cases e1 : q1.1 with
      | inl z => rw [e1] at hk; cases hk
      | inr z =>
        rw [e1] at hk h9
        cases hk
        dsimp only [thrC] at h9
        obtain ⟨hm, h9⟩ := ite_get2 h9
        cases h9
        simp only [List.mem_cons, List.not_mem_nil, or_false] at hm
        subst hm
        · refine ⟨11, ⟨by decide, [], ⟨0, 8, 11, 19⟩, [], (by rw [htb]; rfl), (fun z hz => by cases hz), rfl, by decide, wl_L_19, rfl⟩, fun d w q hd hw => ?_⟩
          refine j_astore_n (L' := [(2, .ref q), (0, .ref (X.B + l0)), (1, .ref (X.B + l1))]) ok dL_dropNote_11 rfl (by decide) rfl ?_
          refine j_iconst (v := 1) ok dL_dropNote_12 (by decide) ?_
          exact J.sub [] rfl (jl_iret ok (P := PL (fL_dropNote l0 l1 G) hsL_dropNote X.V.cc X.V.cs) ⟨_, h0, rfl, d, w, hd, hw, rfl⟩ dL_dropNote_13 he))

def fL_gamesIfNoted (l0 : Nat) (l1 : Int32) (l2 : Int32) (l3 : Int32) (l4 : Int32) (l5 : Int32) (l6 : Int32) (l7 : Nat) (G : Mem) : Option ((Int32 ⊕ Nat) × Mem) :=
  ck G 16 l0 <| (fX6_gamesIfNoted l0 l1 l2 l3 l4 l5 l6 G).bind fun q1 => thrC [0] q1.1 (fun v =>
    (pJ q1.2 l7 (0 : Int32) v).bind fun G2 => some (.inl (0 : Int32), G2)) q1.2
def hsL_gamesIfNoted : Nat → Int32
  | 0 => 1
  | _ => 0
set_option maxRecDepth 100000 in
set_option maxHeartbeats 4000000 in
theorem tL_gamesIfNoted {l : Launch} (hfl : l.stackTraces = false) (V : Wd) (l0 : Nat) (l1 : Int32) (l2 : Int32) (l3 : Int32) (l4 : Int32) (l5 : Int32) (l6 : Int32) (l7 : Nat) (G : Mem) (hq : (fL_gamesIfNoted l0 l1 l2 l3 l4 l5 l6 l7 G).isSome = true) : ML l yL_gamesIfNoted cL_gamesIfNoted 9 [(0, 17, 20, 13)] 10 264 V [.ref (V.B + l0), .int l1, .int l2, .int l3, .int l4, .int l5, .int l6, .ref (V.B + l7)] G (PL (fL_gamesIfNoted l0 l1 l2 l3 l4 l5 l6 l7 G) hsL_gamesIfNoted V.cc V.cs) :=
  ml_of (L := [(0, .ref (V.B + l0)), (1, .int l1), (2, .int l2), (3, .int l3), (4, .int l4), (5, .int l5), (6, .int l6), (7, .ref (V.B + l7))]) hfl (by decide +kernel) (Nat.le_of_ble_eq_true rfl) rfl (fun X hl hV ok htb he => by
    subst hl; subst hV
    obtain ⟨q9, h9⟩ := Option.isSome_iff_exists.mp hq
    have h0 := h9
    unfold fL_gamesIfNoted at h9
    refine j_aload ok dL_gamesIfNoted_0 7 rfl ?_
    refine j_iconst (v := 0) ok dL_gamesIfNoted_2 (by decide) ?_
    refine j_aload_n ok dL_gamesIfNoted_3 rfl 0 rfl ?_
    refine j_iload_n ok dL_gamesIfNoted_4 rfl 1 rfl ?_
    refine j_iload_n ok dL_gamesIfNoted_5 rfl 2 rfl ?_
    refine j_iload_n ok dL_gamesIfNoted_6 rfl 3 rfl ?_
    refine j_iload ok dL_gamesIfNoted_7 4 rfl ?_
    refine j_iload ok dL_gamesIfNoted_9 5 rfl ?_
    refine j_iload ok dL_gamesIfNoted_11 6 rfl ?_
    obtain ⟨k1, h9⟩ := ck_some h9
    obtain ⟨q1, hq1, h9⟩ := obind h9
    refine k_VC ok kl_L_100 ⟨Nat.le_of_ble_eq_true rfl, Nat.le_of_ble_eq_true rfl⟩ [.int l1, .int l2, .int l3, .int l4, .int l5, .int l6] k1 rfl rfl (Nat.le_of_ble_eq_true rfl) (tX6_gamesIfNoted ok.fl X.V l0 l1 l2 l3 l4 l5 l6 G hq1) dL_gamesIfNoted_13 (fun v hv => ?_) (fun k hk => ?_)
    · cases e1 : q1.1 with
      | inr z => rw [e1] at hv; cases hv
      | inl z =>
        rw [e1] at hv h9
        cases hv
        dsimp only [thrC] at h9
        obtain ⟨G2, hG2, h9⟩ := obind h9
        refine j_last ok hG2 dL_gamesIfNoted_16 ?_
        refine j_goto (tgt := 24) ok dL_gamesIfNoted_17 (by decide) ?_
        refine j_iconst (v := 0) ok dL_gamesIfNoted_24 (by decide) ?_
        refine J.sub [] rfl (jl_iret ok (P := PL (fL_gamesIfNoted l0 l1 l2 l3 l4 l5 l6 l7 G) hsL_gamesIfNoted X.V.cc X.V.cs) ⟨q9, h0, ?_⟩ dL_gamesIfNoted_25 he)
        cases h9
        exact ⟨rfl, rfl⟩
    · cases e1 : q1.1 with
      | inl z => rw [e1] at hk; cases hk
      | inr z =>
        rw [e1] at hk h9
        cases hk
        dsimp only [thrC] at h9
        obtain ⟨hm, h9⟩ := ite_get2 h9
        cases h9
        simp only [List.mem_cons, List.not_mem_nil, or_false] at hm
        subst hm
        · refine ⟨20, ⟨by decide, [], ⟨0, 17, 20, 13⟩, [], (by rw [htb]; rfl), (fun z hz => by cases hz), rfl, by decide, wl_L_13, rfl⟩, fun d w q hd hw => ?_⟩
          refine j_astore (L' := [(8, .ref q), (0, .ref (X.B + l0)), (1, .int l1), (2, .int l2), (3, .int l3), (4, .int l4), (5, .int l5), (6, .int l6), (7, .ref (X.B + l7))]) ok dL_gamesIfNoted_20 (by decide) rfl ?_
          refine j_iconst (v := 1) ok dL_gamesIfNoted_22 (by decide) ?_
          exact J.sub [] rfl (jl_iret ok (P := PL (fL_gamesIfNoted l0 l1 l2 l3 l4 l5 l6 l7 G) hsL_gamesIfNoted X.V.cc X.V.cs) ⟨_, h0, rfl, d, w, hd, hw, rfl⟩ dL_gamesIfNoted_23 he))

def fL_gamesTo (l0 : Nat) (l1 : Int32) (l2 : Nat) (G : Mem) : Option ((Int32 ⊕ Nat) × Mem) :=
  ck G 16 l0 <| (fX6_gamesTo l0 l1 G).bind fun q1 => thrC [2] q1.1 (fun v =>
    (pJ q1.2 l2 (0 : Int32) v).bind fun G2 => some (.inl (0 : Int32), G2)) q1.2
def hsL_gamesTo : Nat → Int32
  | 2 => 1
  | _ => 0
set_option maxRecDepth 100000 in
set_option maxHeartbeats 4000000 in
theorem tL_gamesTo {l : Launch} (hfl : l.stackTraces = false) (V : Wd) (l0 : Nat) (l1 : Int32) (l2 : Nat) (G : Mem) (hq : (fL_gamesTo l0 l1 l2 G).isSome = true) : ML l yL_gamesTo cL_gamesTo 4 [(0, 8, 11, 25)] 10 202 V [.ref (V.B + l0), .int l1, .ref (V.B + l2)] G (PL (fL_gamesTo l0 l1 l2 G) hsL_gamesTo V.cc V.cs) :=
  ml_of (L := [(0, .ref (V.B + l0)), (1, .int l1), (2, .ref (V.B + l2))]) hfl (by decide +kernel) (Nat.le_of_ble_eq_true rfl) rfl (fun X hl hV ok htb he => by
    subst hl; subst hV
    obtain ⟨q9, h9⟩ := Option.isSome_iff_exists.mp hq
    have h0 := h9
    unfold fL_gamesTo at h9
    refine j_aload_n ok dL_gamesTo_0 rfl 2 rfl ?_
    refine j_iconst (v := 0) ok dL_gamesTo_1 (by decide) ?_
    refine j_aload_n ok dL_gamesTo_2 rfl 0 rfl ?_
    refine j_iload_n ok dL_gamesTo_3 rfl 1 rfl ?_
    obtain ⟨k1, h9⟩ := ck_some h9
    obtain ⟨q1, hq1, h9⟩ := obind h9
    refine k_VC ok kl_L_78 ⟨Nat.le_of_ble_eq_true rfl, Nat.le_of_ble_eq_true rfl⟩ [.int l1] k1 rfl rfl (Nat.le_of_ble_eq_true rfl) (tX6_gamesTo ok.fl X.V l0 l1 G hq1) dL_gamesTo_4 (fun v hv => ?_) (fun k hk => ?_)
    · cases e1 : q1.1 with
      | inr z => rw [e1] at hv; cases hv
      | inl z =>
        rw [e1] at hv h9
        cases hv
        dsimp only [thrC] at h9
        obtain ⟨G2, hG2, h9⟩ := obind h9
        refine j_last ok hG2 dL_gamesTo_7 ?_
        refine j_goto (tgt := 14) ok dL_gamesTo_8 (by decide) ?_
        refine j_iconst (v := 0) ok dL_gamesTo_14 (by decide) ?_
        refine J.sub [] rfl (jl_iret ok (P := PL (fL_gamesTo l0 l1 l2 G) hsL_gamesTo X.V.cc X.V.cs) ⟨q9, h0, ?_⟩ dL_gamesTo_15 he)
        cases h9
        exact ⟨rfl, rfl⟩
    · cases e1 : q1.1 with
      | inl z => rw [e1] at hk; cases hk
      | inr z =>
        rw [e1] at hk h9
        cases hk
        dsimp only [thrC] at h9
        obtain ⟨hm, h9⟩ := ite_get2 h9
        cases h9
        simp only [List.mem_cons, List.not_mem_nil, or_false] at hm
        subst hm
        · refine ⟨11, ⟨by decide, [], ⟨0, 8, 11, 25⟩, [], (by rw [htb]; rfl), (fun z hz => by cases hz), rfl, by decide, wl_L_25, rfl⟩, fun d w q hd hw => ?_⟩
          refine j_astore_n (L' := [(3, .ref q), (0, .ref (X.B + l0)), (1, .int l1), (2, .ref (X.B + l2))]) ok dL_gamesTo_11 rfl (by decide) rfl ?_
          refine j_iconst (v := 1) ok dL_gamesTo_12 (by decide) ?_
          exact J.sub [] rfl (jl_iret ok (P := PL (fL_gamesTo l0 l1 l2 G) hsL_gamesTo X.V.cc X.V.cs) ⟨_, h0, rfl, d, w, hd, hw, rfl⟩ dL_gamesTo_13 he))

def fL_gamesWithMove (l0 : Nat) (l1 : Int32) (l2 : Int32) (l3 : Nat) (G : Mem) : Option ((Int32 ⊕ Nat) × Mem) :=
  ck G 16 l0 <| (fX6_gamesWithMove l0 l1 l2 G).bind fun q1 => thrC [2] q1.1 (fun v =>
    (pJ q1.2 l3 (0 : Int32) v).bind fun G2 => some (.inl (0 : Int32), G2)) q1.2
def hsL_gamesWithMove : Nat → Int32
  | 2 => 1
  | _ => 0
set_option maxRecDepth 100000 in
set_option maxHeartbeats 4000000 in
theorem tL_gamesWithMove {l : Launch} (hfl : l.stackTraces = false) (V : Wd) (l0 : Nat) (l1 : Int32) (l2 : Int32) (l3 : Nat) (G : Mem) (hq : (fL_gamesWithMove l0 l1 l2 l3 G).isSome = true) : ML l yL_gamesWithMove cL_gamesWithMove 5 [(0, 9, 12, 25)] 11 226 V [.ref (V.B + l0), .int l1, .int l2, .ref (V.B + l3)] G (PL (fL_gamesWithMove l0 l1 l2 l3 G) hsL_gamesWithMove V.cc V.cs) :=
  ml_of (L := [(0, .ref (V.B + l0)), (1, .int l1), (2, .int l2), (3, .ref (V.B + l3))]) hfl (by decide +kernel) (Nat.le_of_ble_eq_true rfl) rfl (fun X hl hV ok htb he => by
    subst hl; subst hV
    obtain ⟨q9, h9⟩ := Option.isSome_iff_exists.mp hq
    have h0 := h9
    unfold fL_gamesWithMove at h9
    refine j_aload_n ok dL_gamesWithMove_0 rfl 3 rfl ?_
    refine j_iconst (v := 0) ok dL_gamesWithMove_1 (by decide) ?_
    refine j_aload_n ok dL_gamesWithMove_2 rfl 0 rfl ?_
    refine j_iload_n ok dL_gamesWithMove_3 rfl 1 rfl ?_
    refine j_iload_n ok dL_gamesWithMove_4 rfl 2 rfl ?_
    obtain ⟨k1, h9⟩ := ck_some h9
    obtain ⟨q1, hq1, h9⟩ := obind h9
    refine k_VC ok kl_L_92 ⟨Nat.le_of_ble_eq_true rfl, Nat.le_of_ble_eq_true rfl⟩ [.int l1, .int l2] k1 rfl rfl (Nat.le_of_ble_eq_true rfl) (tX6_gamesWithMove ok.fl X.V l0 l1 l2 G hq1) dL_gamesWithMove_5 (fun v hv => ?_) (fun k hk => ?_)
    · cases e1 : q1.1 with
      | inr z => rw [e1] at hv; cases hv
      | inl z =>
        rw [e1] at hv h9
        cases hv
        dsimp only [thrC] at h9
        obtain ⟨G2, hG2, h9⟩ := obind h9
        refine j_last ok hG2 dL_gamesWithMove_8 ?_
        refine j_goto (tgt := 16) ok dL_gamesWithMove_9 (by decide) ?_
        refine j_iconst (v := 0) ok dL_gamesWithMove_16 (by decide) ?_
        refine J.sub [] rfl (jl_iret ok (P := PL (fL_gamesWithMove l0 l1 l2 l3 G) hsL_gamesWithMove X.V.cc X.V.cs) ⟨q9, h0, ?_⟩ dL_gamesWithMove_17 he)
        cases h9
        exact ⟨rfl, rfl⟩
    · cases e1 : q1.1 with
      | inl z => rw [e1] at hk; cases hk
      | inr z =>
        rw [e1] at hk h9
        cases hk
        dsimp only [thrC] at h9
        obtain ⟨hm, h9⟩ := ite_get2 h9
        cases h9
        simp only [List.mem_cons, List.not_mem_nil, or_false] at hm
        subst hm
        · refine ⟨12, ⟨by decide, [], ⟨0, 9, 12, 25⟩, [], (by rw [htb]; rfl), (fun z hz => by cases hz), rfl, by decide, wl_L_25, rfl⟩, fun d w q hd hw => ?_⟩
          refine j_astore (L' := [(4, .ref q), (0, .ref (X.B + l0)), (1, .int l1), (2, .int l2), (3, .ref (X.B + l3))]) ok dL_gamesWithMove_12 (by decide) rfl ?_
          refine j_iconst (v := 1) ok dL_gamesWithMove_14 (by decide) ?_
          exact J.sub [] rfl (jl_iret ok (P := PL (fL_gamesWithMove l0 l1 l2 l3 G) hsL_gamesWithMove X.V.cc X.V.cs) ⟨_, h0, rfl, d, w, hd, hw, rfl⟩ dL_gamesWithMove_15 he))

def fL_gamesWithPiece (l0 : Nat) (l1 : Int32) (l2 : Int32) (l3 : Int32) (l4 : Int32) (l5 : Nat) (G : Mem) : Option ((Int32 ⊕ Nat) × Mem) :=
  ck G 16 l0 <| (fX6_gamesWithPiece l0 l1 l2 l3 l4 G).bind fun q1 => thrC [2, 0] q1.1 (fun v =>
    (pJ q1.2 l5 (0 : Int32) v).bind fun G2 => some (.inl (0 : Int32), G2)) q1.2
def hsL_gamesWithPiece : Nat → Int32
  | 2 => 1
  | 0 => 2
  | _ => 0
set_option maxRecDepth 100000 in
set_option maxHeartbeats 4000000 in
theorem tL_gamesWithPiece {l : Launch} (hfl : l.stackTraces = false) (V : Wd) (l0 : Nat) (l1 : Int32) (l2 : Int32) (l3 : Int32) (l4 : Int32) (l5 : Nat) (G : Mem) (hq : (fL_gamesWithPiece l0 l1 l2 l3 l4 l5 G).isSome = true) : ML l yL_gamesWithPiece cL_gamesWithPiece 7 [(0, 13, 16, 25), (0, 13, 20, 13)] 10 211 V [.ref (V.B + l0), .int l1, .int l2, .int l3, .int l4, .ref (V.B + l5)] G (PL (fL_gamesWithPiece l0 l1 l2 l3 l4 l5 G) hsL_gamesWithPiece V.cc V.cs) :=
  ml_of (L := [(0, .ref (V.B + l0)), (1, .int l1), (2, .int l2), (3, .int l3), (4, .int l4), (5, .ref (V.B + l5))]) hfl (by decide +kernel) (Nat.le_of_ble_eq_true rfl) rfl (fun X hl hV ok htb he => by
    subst hl; subst hV
    obtain ⟨q9, h9⟩ := Option.isSome_iff_exists.mp hq
    have h0 := h9
    unfold fL_gamesWithPiece at h9
    refine j_aload ok dL_gamesWithPiece_0 5 rfl ?_
    refine j_iconst (v := 0) ok dL_gamesWithPiece_2 (by decide) ?_
    refine j_aload_n ok dL_gamesWithPiece_3 rfl 0 rfl ?_
    refine j_iload_n ok dL_gamesWithPiece_4 rfl 1 rfl ?_
    refine j_iload_n ok dL_gamesWithPiece_5 rfl 2 rfl ?_
    refine j_iload_n ok dL_gamesWithPiece_6 rfl 3 rfl ?_
    refine j_iload ok dL_gamesWithPiece_7 4 rfl ?_
    obtain ⟨k1, h9⟩ := ck_some h9
    obtain ⟨q1, hq1, h9⟩ := obind h9
    refine k_VC ok kl_L_96 ⟨Nat.le_of_ble_eq_true rfl, Nat.le_of_ble_eq_true rfl⟩ [.int l1, .int l2, .int l3, .int l4] k1 rfl rfl (Nat.le_of_ble_eq_true rfl) (tX6_gamesWithPiece ok.fl X.V l0 l1 l2 l3 l4 G hq1) dL_gamesWithPiece_9 (fun v hv => ?_) (fun k hk => ?_)
    · cases e1 : q1.1 with
      | inr z => rw [e1] at hv; cases hv
      | inl z =>
        rw [e1] at hv h9
        cases hv
        dsimp only [thrC] at h9
        obtain ⟨G2, hG2, h9⟩ := obind h9
        refine j_last ok hG2 dL_gamesWithPiece_12 ?_
        refine j_goto (tgt := 24) ok dL_gamesWithPiece_13 (by decide) ?_
        refine j_iconst (v := 0) ok dL_gamesWithPiece_24 (by decide) ?_
        refine J.sub [] rfl (jl_iret ok (P := PL (fL_gamesWithPiece l0 l1 l2 l3 l4 l5 G) hsL_gamesWithPiece X.V.cc X.V.cs) ⟨q9, h0, ?_⟩ dL_gamesWithPiece_25 he)
        cases h9
        exact ⟨rfl, rfl⟩
    · cases e1 : q1.1 with
      | inl z => rw [e1] at hk; cases hk
      | inr z =>
        rw [e1] at hk h9
        cases hk
        dsimp only [thrC] at h9
        obtain ⟨hm, h9⟩ := ite_get2 h9
        cases h9
        simp only [List.mem_cons, List.not_mem_nil, or_false] at hm
        rcases hm with rfl | rfl
        · refine ⟨16, ⟨by decide, [], ⟨0, 13, 16, 25⟩, [⟨0, 13, 20, 13⟩], (by rw [htb]; rfl), (fun z hz => by cases hz), rfl, by decide, wl_L_25, rfl⟩, fun d w q hd hw => ?_⟩
          refine j_astore (L' := [(6, .ref q), (0, .ref (X.B + l0)), (1, .int l1), (2, .int l2), (3, .int l3), (4, .int l4), (5, .ref (X.B + l5))]) ok dL_gamesWithPiece_16 (by decide) rfl ?_
          refine j_iconst (v := 1) ok dL_gamesWithPiece_18 (by decide) ?_
          exact J.sub [] rfl (jl_iret ok (P := PL (fL_gamesWithPiece l0 l1 l2 l3 l4 l5 G) hsL_gamesWithPiece X.V.cc X.V.cs) ⟨_, h0, rfl, d, w, hd, hw, rfl⟩ dL_gamesWithPiece_19 he)
        · refine ⟨20, ⟨by decide, [⟨0, 13, 16, 25⟩], ⟨0, 13, 20, 13⟩, [], (by rw [htb]; rfl), (fun z hz => by
            rw [List.mem_singleton] at hz
            subst hz
            · exact ⟨by decide, 2, by decide, by decide, wl_L_25⟩
            ), rfl, by decide, wl_L_13, rfl⟩, fun d w q hd hw => ?_⟩
          refine j_astore (L' := [(6, .ref q), (0, .ref (X.B + l0)), (1, .int l1), (2, .int l2), (3, .int l3), (4, .int l4), (5, .ref (X.B + l5))]) ok dL_gamesWithPiece_20 (by decide) rfl ?_
          refine j_iconst (v := 2) ok dL_gamesWithPiece_22 (by decide) ?_
          exact J.sub [] rfl (jl_iret ok (P := PL (fL_gamesWithPiece l0 l1 l2 l3 l4 l5 G) hsL_gamesWithPiece X.V.cc X.V.cs) ⟨_, h0, rfl, d, w, hd, hw, rfl⟩ dL_gamesWithPiece_23 he))

def fL_isAttacked (l0 : Nat) (l1 : Int32) (l2 : Int32) (l3 : Int32) (l4 : Int32) (l5 : Nat) (G : Mem) : Option ((Int32 ⊕ Nat) × Mem) :=
  ck G 16 l0 <| (fX6_isAttacked l0 l1 l2 l3 l4 G).bind fun q1 => thrC [2, 0] q1.1 (fun v =>
    (pJ q1.2 l5 (0 : Int32) (bzl v)).bind fun G2 => some (.inl (0 : Int32), G2)) q1.2
def hsL_isAttacked : Nat → Int32
  | 2 => 1
  | 0 => 2
  | _ => 0
set_option maxRecDepth 100000 in
set_option maxHeartbeats 4000000 in
theorem tL_isAttacked {l : Launch} (hfl : l.stackTraces = false) (V : Wd) (l0 : Nat) (l1 : Int32) (l2 : Int32) (l3 : Int32) (l4 : Int32) (l5 : Nat) (G : Mem) (hq : (fL_isAttacked l0 l1 l2 l3 l4 l5 G).isSome = true) : ML l yL_isAttacked cL_isAttacked 7 [(0, 21, 24, 25), (0, 21, 28, 13)] 10 206 V [.ref (V.B + l0), .int l1, .int l2, .int l3, .int l4, .ref (V.B + l5)] G (PL (fL_isAttacked l0 l1 l2 l3 l4 l5 G) hsL_isAttacked V.cc V.cs) :=
  ml_of (L := [(0, .ref (V.B + l0)), (1, .int l1), (2, .int l2), (3, .int l3), (4, .int l4), (5, .ref (V.B + l5))]) hfl (by decide +kernel) (Nat.le_of_ble_eq_true rfl) rfl (fun X hl hV ok htb he => by
    subst hl; subst hV
    obtain ⟨q9, h9⟩ := Option.isSome_iff_exists.mp hq
    have h0 := h9
    unfold fL_isAttacked at h9
    refine j_aload ok dL_isAttacked_0 5 rfl ?_
    refine j_iconst (v := 0) ok dL_isAttacked_2 (by decide) ?_
    refine j_aload_n ok dL_isAttacked_3 rfl 0 rfl ?_
    refine j_iload_n ok dL_isAttacked_4 rfl 1 rfl ?_
    refine j_iload_n ok dL_isAttacked_5 rfl 2 rfl ?_
    refine j_iload_n ok dL_isAttacked_6 rfl 3 rfl ?_
    refine j_iload ok dL_isAttacked_7 4 rfl ?_
    obtain ⟨k1, h9⟩ := ck_some h9
    obtain ⟨q1, hq1, h9⟩ := obind h9
    refine k_VC ok kl_L_71 ⟨Nat.le_of_ble_eq_true rfl, Nat.le_of_ble_eq_true rfl⟩ [.int l1, .int l2, .int l3, .int l4] k1 rfl rfl (Nat.le_of_ble_eq_true rfl) (tX6_isAttacked ok.fl X.V l0 l1 l2 l3 l4 G hq1) dL_isAttacked_9 (fun v hv => ?_) (fun k hk => ?_)
    · cases e1 : q1.1 with
      | inr z => rw [e1] at hv; cases hv
      | inl z =>
        rw [e1] at hv h9
        cases hv
        dsimp only [thrC] at h9
        obtain ⟨G2, hG2, h9⟩ := obind h9
        refine j_nzl ok dL_isAttacked_12 dL_isAttacked_15 dL_isAttacked_16 dL_isAttacked_19 ?_
        refine j_last ok hG2 dL_isAttacked_20 ?_
        refine j_goto (tgt := 32) ok dL_isAttacked_21 (by decide) ?_
        refine j_iconst (v := 0) ok dL_isAttacked_32 (by decide) ?_
        refine J.sub [] rfl (jl_iret ok (P := PL (fL_isAttacked l0 l1 l2 l3 l4 l5 G) hsL_isAttacked X.V.cc X.V.cs) ⟨q9, h0, ?_⟩ dL_isAttacked_33 he)
        cases h9
        exact ⟨rfl, rfl⟩
    · cases e1 : q1.1 with
      | inl z => rw [e1] at hk; cases hk
      | inr z =>
        rw [e1] at hk h9
        cases hk
        dsimp only [thrC] at h9
        obtain ⟨hm, h9⟩ := ite_get2 h9
        cases h9
        simp only [List.mem_cons, List.not_mem_nil, or_false] at hm
        rcases hm with rfl | rfl
        · refine ⟨24, ⟨by decide, [], ⟨0, 21, 24, 25⟩, [⟨0, 21, 28, 13⟩], (by rw [htb]; rfl), (fun z hz => by cases hz), rfl, by decide, wl_L_25, rfl⟩, fun d w q hd hw => ?_⟩
          refine j_astore (L' := [(6, .ref q), (0, .ref (X.B + l0)), (1, .int l1), (2, .int l2), (3, .int l3), (4, .int l4), (5, .ref (X.B + l5))]) ok dL_isAttacked_24 (by decide) rfl ?_
          refine j_iconst (v := 1) ok dL_isAttacked_26 (by decide) ?_
          exact J.sub [] rfl (jl_iret ok (P := PL (fL_isAttacked l0 l1 l2 l3 l4 l5 G) hsL_isAttacked X.V.cc X.V.cs) ⟨_, h0, rfl, d, w, hd, hw, rfl⟩ dL_isAttacked_27 he)
        · refine ⟨28, ⟨by decide, [⟨0, 21, 24, 25⟩], ⟨0, 21, 28, 13⟩, [], (by rw [htb]; rfl), (fun z hz => by
            rw [List.mem_singleton] at hz
            subst hz
            · exact ⟨by decide, 2, by decide, by decide, wl_L_25⟩
            ), rfl, by decide, wl_L_13, rfl⟩, fun d w q hd hw => ?_⟩
          refine j_astore (L' := [(6, .ref q), (0, .ref (X.B + l0)), (1, .int l1), (2, .int l2), (3, .int l3), (4, .int l4), (5, .ref (X.B + l5))]) ok dL_isAttacked_28 (by decide) rfl ?_
          refine j_iconst (v := 2) ok dL_isAttacked_30 (by decide) ?_
          exact J.sub [] rfl (jl_iret ok (P := PL (fL_isAttacked l0 l1 l2 l3 l4 l5 G) hsL_isAttacked X.V.cc X.V.cs) ⟨_, h0, rfl, d, w, hd, hw, rfl⟩ dL_isAttacked_31 he))

def fL_kindAt (l0 : Nat) (l1 : Int32) (l2 : Int32) (l3 : Int32) (l4 : Nat) (G : Mem) : Option ((Int32 ⊕ Nat) × Mem) :=
  ck G 16 l0 <| (fX6_kindAt l0 l1 l2 l3 G).bind fun q1 => thrC [2] q1.1 (fun v =>
    (pJ q1.2 l4 (0 : Int32) v.toInt64).bind fun G2 => some (.inl (0 : Int32), G2)) q1.2
def hsL_kindAt : Nat → Int32
  | 2 => 1
  | _ => 0
set_option maxRecDepth 100000 in
set_option maxHeartbeats 4000000 in
theorem tL_kindAt {l : Launch} (hfl : l.stackTraces = false) (V : Wd) (l0 : Nat) (l1 : Int32) (l2 : Int32) (l3 : Int32) (l4 : Nat) (G : Mem) (hq : (fL_kindAt l0 l1 l2 l3 l4 G).isSome = true) : ML l yL_kindAt cL_kindAt 6 [(0, 12, 15, 25)] 10 205 V [.ref (V.B + l0), .int l1, .int l2, .int l3, .ref (V.B + l4)] G (PL (fL_kindAt l0 l1 l2 l3 l4 G) hsL_kindAt V.cc V.cs) :=
  ml_of (L := [(0, .ref (V.B + l0)), (1, .int l1), (2, .int l2), (3, .int l3), (4, .ref (V.B + l4))]) hfl (by decide +kernel) (Nat.le_of_ble_eq_true rfl) rfl (fun X hl hV ok htb he => by
    subst hl; subst hV
    obtain ⟨q9, h9⟩ := Option.isSome_iff_exists.mp hq
    have h0 := h9
    unfold fL_kindAt at h9
    refine j_aload ok dL_kindAt_0 4 rfl ?_
    refine j_iconst (v := 0) ok dL_kindAt_2 (by decide) ?_
    refine j_aload_n ok dL_kindAt_3 rfl 0 rfl ?_
    refine j_iload_n ok dL_kindAt_4 rfl 1 rfl ?_
    refine j_iload_n ok dL_kindAt_5 rfl 2 rfl ?_
    refine j_iload_n ok dL_kindAt_6 rfl 3 rfl ?_
    obtain ⟨k1, h9⟩ := ck_some h9
    obtain ⟨q1, hq1, h9⟩ := obind h9
    refine k_VC ok kl_L_65 ⟨Nat.le_of_ble_eq_true rfl, Nat.le_of_ble_eq_true rfl⟩ [.int l1, .int l2, .int l3] k1 rfl rfl (Nat.le_of_ble_eq_true rfl) (tX6_kindAt ok.fl X.V l0 l1 l2 l3 G hq1) dL_kindAt_7 (fun v hv => ?_) (fun k hk => ?_)
    · cases e1 : q1.1 with
      | inr z => rw [e1] at hv; cases hv
      | inl z =>
        rw [e1] at hv h9
        cases hv
        dsimp only [thrC] at h9
        obtain ⟨G2, hG2, h9⟩ := obind h9
        refine j_i2l ok dL_kindAt_10 ?_
        refine j_last ok hG2 dL_kindAt_11 ?_
        refine j_goto (tgt := 19) ok dL_kindAt_12 (by decide) ?_
        refine j_iconst (v := 0) ok dL_kindAt_19 (by decide) ?_
        refine J.sub [] rfl (jl_iret ok (P := PL (fL_kindAt l0 l1 l2 l3 l4 G) hsL_kindAt X.V.cc X.V.cs) ⟨q9, h0, ?_⟩ dL_kindAt_20 he)
        cases h9
        exact ⟨rfl, rfl⟩
    · cases e1 : q1.1 with
      | inl z => rw [e1] at hk; cases hk
      | inr z =>
        rw [e1] at hk h9
        cases hk
        dsimp only [thrC] at h9
        obtain ⟨hm, h9⟩ := ite_get2 h9
        cases h9
        simp only [List.mem_cons, List.not_mem_nil, or_false] at hm
        subst hm
        · refine ⟨15, ⟨by decide, [], ⟨0, 12, 15, 25⟩, [], (by rw [htb]; rfl), (fun z hz => by cases hz), rfl, by decide, wl_L_25, rfl⟩, fun d w q hd hw => ?_⟩
          refine j_astore (L' := [(5, .ref q), (0, .ref (X.B + l0)), (1, .int l1), (2, .int l2), (3, .int l3), (4, .ref (X.B + l4))]) ok dL_kindAt_15 (by decide) rfl ?_
          refine j_iconst (v := 1) ok dL_kindAt_17 (by decide) ?_
          exact J.sub [] rfl (jl_iret ok (P := PL (fL_kindAt l0 l1 l2 l3 l4 G) hsL_kindAt X.V.cc X.V.cs) ⟨_, h0, rfl, d, w, hd, hw, rfl⟩ dL_kindAt_18 he))

def fL_legalMoves (l0 : Nat) (l1 : Int32) (l2 : Nat) (G : Mem) : Option ((Int32 ⊕ Nat) × Mem) :=
  ck G 16 l0 <| (fX6_legalMoves l0 l1 G).bind fun q1 => thrC [2] q1.1 (fun v =>
    (pJ q1.2 l2 (0 : Int32) v.toInt64).bind fun G2 => some (.inl (0 : Int32), G2)) q1.2
def hsL_legalMoves : Nat → Int32
  | 2 => 1
  | _ => 0
set_option maxRecDepth 100000 in
set_option maxHeartbeats 4000000 in
theorem tL_legalMoves {l : Launch} (hfl : l.stackTraces = false) (V : Wd) (l0 : Nat) (l1 : Int32) (l2 : Nat) (G : Mem) (hq : (fL_legalMoves l0 l1 l2 G).isSome = true) : ML l yL_legalMoves cL_legalMoves 4 [(0, 9, 12, 25)] 10 202 V [.ref (V.B + l0), .int l1, .ref (V.B + l2)] G (PL (fL_legalMoves l0 l1 l2 G) hsL_legalMoves V.cc V.cs) :=
  ml_of (L := [(0, .ref (V.B + l0)), (1, .int l1), (2, .ref (V.B + l2))]) hfl (by decide +kernel) (Nat.le_of_ble_eq_true rfl) rfl (fun X hl hV ok htb he => by
    subst hl; subst hV
    obtain ⟨q9, h9⟩ := Option.isSome_iff_exists.mp hq
    have h0 := h9
    unfold fL_legalMoves at h9
    refine j_aload_n ok dL_legalMoves_0 rfl 2 rfl ?_
    refine j_iconst (v := 0) ok dL_legalMoves_1 (by decide) ?_
    refine j_aload_n ok dL_legalMoves_2 rfl 0 rfl ?_
    refine j_iload_n ok dL_legalMoves_3 rfl 1 rfl ?_
    obtain ⟨k1, h9⟩ := ck_some h9
    obtain ⟨q1, hq1, h9⟩ := obind h9
    refine k_VC ok kl_L_75 ⟨Nat.le_of_ble_eq_true rfl, Nat.le_of_ble_eq_true rfl⟩ [.int l1] k1 rfl rfl (Nat.le_of_ble_eq_true rfl) (tX6_legalMoves ok.fl X.V l0 l1 G hq1) dL_legalMoves_4 (fun v hv => ?_) (fun k hk => ?_)
    · cases e1 : q1.1 with
      | inr z => rw [e1] at hv; cases hv
      | inl z =>
        rw [e1] at hv h9
        cases hv
        dsimp only [thrC] at h9
        obtain ⟨G2, hG2, h9⟩ := obind h9
        refine j_i2l ok dL_legalMoves_7 ?_
        refine j_last ok hG2 dL_legalMoves_8 ?_
        refine j_goto (tgt := 15) ok dL_legalMoves_9 (by decide) ?_
        refine j_iconst (v := 0) ok dL_legalMoves_15 (by decide) ?_
        refine J.sub [] rfl (jl_iret ok (P := PL (fL_legalMoves l0 l1 l2 G) hsL_legalMoves X.V.cc X.V.cs) ⟨q9, h0, ?_⟩ dL_legalMoves_16 he)
        cases h9
        exact ⟨rfl, rfl⟩
    · cases e1 : q1.1 with
      | inl z => rw [e1] at hk; cases hk
      | inr z =>
        rw [e1] at hk h9
        cases hk
        dsimp only [thrC] at h9
        obtain ⟨hm, h9⟩ := ite_get2 h9
        cases h9
        simp only [List.mem_cons, List.not_mem_nil, or_false] at hm
        subst hm
        · refine ⟨12, ⟨by decide, [], ⟨0, 9, 12, 25⟩, [], (by rw [htb]; rfl), (fun z hz => by cases hz), rfl, by decide, wl_L_25, rfl⟩, fun d w q hd hw => ?_⟩
          refine j_astore_n (L' := [(3, .ref q), (0, .ref (X.B + l0)), (1, .int l1), (2, .ref (X.B + l2))]) ok dL_legalMoves_12 rfl (by decide) rfl ?_
          refine j_iconst (v := 1) ok dL_legalMoves_13 (by decide) ?_
          exact J.sub [] rfl (jl_iret ok (P := PL (fL_legalMoves l0 l1 l2 G) hsL_legalMoves X.V.cc X.V.cs) ⟨_, h0, rfl, d, w, hd, hw, rfl⟩ dL_legalMoves_14 he))

def fL_moveOrigin (l0 : Nat) (l1 : Int32) (l2 : Int32) (l3 : Nat) (G : Mem) : Option ((Int32 ⊕ Nat) × Mem) :=
  ck G 16 l0 <| (fX6_moveOrigin l0 l1 l2 G).bind fun q1 => thrC [2] q1.1 (fun v =>
    (pJ q1.2 l3 (0 : Int32) v.toInt64).bind fun G2 => some (.inl (0 : Int32), G2)) q1.2
def hsL_moveOrigin : Nat → Int32
  | 2 => 1
  | _ => 0
set_option maxRecDepth 100000 in
set_option maxHeartbeats 4000000 in
theorem tL_moveOrigin {l : Launch} (hfl : l.stackTraces = false) (V : Wd) (l0 : Nat) (l1 : Int32) (l2 : Int32) (l3 : Nat) (G : Mem) (hq : (fL_moveOrigin l0 l1 l2 l3 G).isSome = true) : ML l yL_moveOrigin cL_moveOrigin 5 [(0, 10, 13, 25)] 11 226 V [.ref (V.B + l0), .int l1, .int l2, .ref (V.B + l3)] G (PL (fL_moveOrigin l0 l1 l2 l3 G) hsL_moveOrigin V.cc V.cs) :=
  ml_of (L := [(0, .ref (V.B + l0)), (1, .int l1), (2, .int l2), (3, .ref (V.B + l3))]) hfl (by decide +kernel) (Nat.le_of_ble_eq_true rfl) rfl (fun X hl hV ok htb he => by
    subst hl; subst hV
    obtain ⟨q9, h9⟩ := Option.isSome_iff_exists.mp hq
    have h0 := h9
    unfold fL_moveOrigin at h9
    refine j_aload_n ok dL_moveOrigin_0 rfl 3 rfl ?_
    refine j_iconst (v := 0) ok dL_moveOrigin_1 (by decide) ?_
    refine j_aload_n ok dL_moveOrigin_2 rfl 0 rfl ?_
    refine j_iload_n ok dL_moveOrigin_3 rfl 1 rfl ?_
    refine j_iload_n ok dL_moveOrigin_4 rfl 2 rfl ?_
    obtain ⟨k1, h9⟩ := ck_some h9
    obtain ⟨q1, hq1, h9⟩ := obind h9
    refine k_VC ok kl_L_85 ⟨Nat.le_of_ble_eq_true rfl, Nat.le_of_ble_eq_true rfl⟩ [.int l1, .int l2] k1 rfl rfl (Nat.le_of_ble_eq_true rfl) (tX6_moveOrigin ok.fl X.V l0 l1 l2 G hq1) dL_moveOrigin_5 (fun v hv => ?_) (fun k hk => ?_)
    · cases e1 : q1.1 with
      | inr z => rw [e1] at hv; cases hv
      | inl z =>
        rw [e1] at hv h9
        cases hv
        dsimp only [thrC] at h9
        obtain ⟨G2, hG2, h9⟩ := obind h9
        refine j_i2l ok dL_moveOrigin_8 ?_
        refine j_last ok hG2 dL_moveOrigin_9 ?_
        refine j_goto (tgt := 17) ok dL_moveOrigin_10 (by decide) ?_
        refine j_iconst (v := 0) ok dL_moveOrigin_17 (by decide) ?_
        refine J.sub [] rfl (jl_iret ok (P := PL (fL_moveOrigin l0 l1 l2 l3 G) hsL_moveOrigin X.V.cc X.V.cs) ⟨q9, h0, ?_⟩ dL_moveOrigin_18 he)
        cases h9
        exact ⟨rfl, rfl⟩
    · cases e1 : q1.1 with
      | inl z => rw [e1] at hk; cases hk
      | inr z =>
        rw [e1] at hk h9
        cases hk
        dsimp only [thrC] at h9
        obtain ⟨hm, h9⟩ := ite_get2 h9
        cases h9
        simp only [List.mem_cons, List.not_mem_nil, or_false] at hm
        subst hm
        · refine ⟨13, ⟨by decide, [], ⟨0, 10, 13, 25⟩, [], (by rw [htb]; rfl), (fun z hz => by cases hz), rfl, by decide, wl_L_25, rfl⟩, fun d w q hd hw => ?_⟩
          refine j_astore (L' := [(4, .ref q), (0, .ref (X.B + l0)), (1, .int l1), (2, .int l2), (3, .ref (X.B + l3))]) ok dL_moveOrigin_13 (by decide) rfl ?_
          refine j_iconst (v := 1) ok dL_moveOrigin_15 (by decide) ?_
          exact J.sub [] rfl (jl_iret ok (P := PL (fL_moveOrigin l0 l1 l2 l3 G) hsL_moveOrigin X.V.cc X.V.cs) ⟨_, h0, rfl, d, w, hd, hw, rfl⟩ dL_moveOrigin_16 he))

def fL_moveTarget (l0 : Nat) (l1 : Int32) (l2 : Int32) (l3 : Nat) (G : Mem) : Option ((Int32 ⊕ Nat) × Mem) :=
  ck G 16 l0 <| (fX6_moveTarget l0 l1 l2 G).bind fun q1 => thrC [2] q1.1 (fun v =>
    (pJ q1.2 l3 (0 : Int32) v.toInt64).bind fun G2 => some (.inl (0 : Int32), G2)) q1.2
def hsL_moveTarget : Nat → Int32
  | 2 => 1
  | _ => 0
set_option maxRecDepth 100000 in
set_option maxHeartbeats 4000000 in
theorem tL_moveTarget {l : Launch} (hfl : l.stackTraces = false) (V : Wd) (l0 : Nat) (l1 : Int32) (l2 : Int32) (l3 : Nat) (G : Mem) (hq : (fL_moveTarget l0 l1 l2 l3 G).isSome = true) : ML l yL_moveTarget cL_moveTarget 5 [(0, 10, 13, 25)] 11 226 V [.ref (V.B + l0), .int l1, .int l2, .ref (V.B + l3)] G (PL (fL_moveTarget l0 l1 l2 l3 G) hsL_moveTarget V.cc V.cs) :=
  ml_of (L := [(0, .ref (V.B + l0)), (1, .int l1), (2, .int l2), (3, .ref (V.B + l3))]) hfl (by decide +kernel) (Nat.le_of_ble_eq_true rfl) rfl (fun X hl hV ok htb he => by
    subst hl; subst hV
    obtain ⟨q9, h9⟩ := Option.isSome_iff_exists.mp hq
    have h0 := h9
    unfold fL_moveTarget at h9
    refine j_aload_n ok dL_moveTarget_0 rfl 3 rfl ?_
    refine j_iconst (v := 0) ok dL_moveTarget_1 (by decide) ?_
    refine j_aload_n ok dL_moveTarget_2 rfl 0 rfl ?_
    refine j_iload_n ok dL_moveTarget_3 rfl 1 rfl ?_
    refine j_iload_n ok dL_moveTarget_4 rfl 2 rfl ?_
    obtain ⟨k1, h9⟩ := ck_some h9
    obtain ⟨q1, hq1, h9⟩ := obind h9
    refine k_VC ok kl_L_89 ⟨Nat.le_of_ble_eq_true rfl, Nat.le_of_ble_eq_true rfl⟩ [.int l1, .int l2] k1 rfl rfl (Nat.le_of_ble_eq_true rfl) (tX6_moveTarget ok.fl X.V l0 l1 l2 G hq1) dL_moveTarget_5 (fun v hv => ?_) (fun k hk => ?_)
    · cases e1 : q1.1 with
      | inr z => rw [e1] at hv; cases hv
      | inl z =>
        rw [e1] at hv h9
        cases hv
        dsimp only [thrC] at h9
        obtain ⟨G2, hG2, h9⟩ := obind h9
        refine j_i2l ok dL_moveTarget_8 ?_
        refine j_last ok hG2 dL_moveTarget_9 ?_
        refine j_goto (tgt := 17) ok dL_moveTarget_10 (by decide) ?_
        refine j_iconst (v := 0) ok dL_moveTarget_17 (by decide) ?_
        refine J.sub [] rfl (jl_iret ok (P := PL (fL_moveTarget l0 l1 l2 l3 G) hsL_moveTarget X.V.cc X.V.cs) ⟨q9, h0, ?_⟩ dL_moveTarget_18 he)
        cases h9
        exact ⟨rfl, rfl⟩
    · cases e1 : q1.1 with
      | inl z => rw [e1] at hk; cases hk
      | inr z =>
        rw [e1] at hk h9
        cases hk
        dsimp only [thrC] at h9
        obtain ⟨hm, h9⟩ := ite_get2 h9
        cases h9
        simp only [List.mem_cons, List.not_mem_nil, or_false] at hm
        subst hm
        · refine ⟨13, ⟨by decide, [], ⟨0, 10, 13, 25⟩, [], (by rw [htb]; rfl), (fun z hz => by cases hz), rfl, by decide, wl_L_25, rfl⟩, fun d w q hd hw => ?_⟩
          refine j_astore (L' := [(4, .ref q), (0, .ref (X.B + l0)), (1, .int l1), (2, .int l2), (3, .ref (X.B + l3))]) ok dL_moveTarget_13 (by decide) rfl ?_
          refine j_iconst (v := 1) ok dL_moveTarget_15 (by decide) ?_
          exact J.sub [] rfl (jl_iret ok (P := PL (fL_moveTarget l0 l1 l2 l3 G) hsL_moveTarget X.V.cc X.V.cs) ⟨_, h0, rfl, d, w, hd, hw, rfl⟩ dL_moveTarget_16 he))

def fL_noteChecks (l0 : Nat) (l1 : Int32) (l2 : Nat) (G : Mem) : Option ((Int32 ⊕ Nat) × Mem) :=
  ck G 16 l0 <| (fX6_noteChecks l0 l1 G).bind fun q1 => thrC [2] q1.1 (fun v =>
    (pJ q1.2 l2 (0 : Int32) (bzl v)).bind fun G2 => some (.inl (0 : Int32), G2)) q1.2
def hsL_noteChecks : Nat → Int32
  | 2 => 1
  | _ => 0
set_option maxRecDepth 100000 in
set_option maxHeartbeats 4000000 in
theorem tL_noteChecks {l : Launch} (hfl : l.stackTraces = false) (V : Wd) (l0 : Nat) (l1 : Int32) (l2 : Nat) (G : Mem) (hq : (fL_noteChecks l0 l1 l2 G).isSome = true) : ML l yL_noteChecks cL_noteChecks 4 [(0, 16, 19, 25)] 10 202 V [.ref (V.B + l0), .int l1, .ref (V.B + l2)] G (PL (fL_noteChecks l0 l1 l2 G) hsL_noteChecks V.cc V.cs) :=
  ml_of (L := [(0, .ref (V.B + l0)), (1, .int l1), (2, .ref (V.B + l2))]) hfl (by decide +kernel) (Nat.le_of_ble_eq_true rfl) rfl (fun X hl hV ok htb he => by
    subst hl; subst hV
    obtain ⟨q9, h9⟩ := Option.isSome_iff_exists.mp hq
    have h0 := h9
    unfold fL_noteChecks at h9
    refine j_aload_n ok dL_noteChecks_0 rfl 2 rfl ?_
    refine j_iconst (v := 0) ok dL_noteChecks_1 (by decide) ?_
    refine j_aload_n ok dL_noteChecks_2 rfl 0 rfl ?_
    refine j_iload_n ok dL_noteChecks_3 rfl 1 rfl ?_
    obtain ⟨k1, h9⟩ := ck_some h9
    obtain ⟨q1, hq1, h9⟩ := obind h9
    refine k_VC ok kl_L_59 ⟨Nat.le_of_ble_eq_true rfl, Nat.le_of_ble_eq_true rfl⟩ [.int l1] k1 rfl rfl (Nat.le_of_ble_eq_true rfl) (tX6_noteChecks ok.fl X.V l0 l1 G hq1) dL_noteChecks_4 (fun v hv => ?_) (fun k hk => ?_)
    · cases e1 : q1.1 with
      | inr z => rw [e1] at hv; cases hv
      | inl z =>
        rw [e1] at hv h9
        cases hv
        dsimp only [thrC] at h9
        obtain ⟨G2, hG2, h9⟩ := obind h9
        refine j_nzl ok dL_noteChecks_7 dL_noteChecks_10 dL_noteChecks_11 dL_noteChecks_14 ?_
        refine j_last ok hG2 dL_noteChecks_15 ?_
        refine j_goto (tgt := 22) ok dL_noteChecks_16 (by decide) ?_
        refine j_iconst (v := 0) ok dL_noteChecks_22 (by decide) ?_
        refine J.sub [] rfl (jl_iret ok (P := PL (fL_noteChecks l0 l1 l2 G) hsL_noteChecks X.V.cc X.V.cs) ⟨q9, h0, ?_⟩ dL_noteChecks_23 he)
        cases h9
        exact ⟨rfl, rfl⟩
    · cases e1 : q1.1 with
      | inl z => rw [e1] at hk; cases hk
      | inr z =>
        rw [e1] at hk h9
        cases hk
        dsimp only [thrC] at h9
        obtain ⟨hm, h9⟩ := ite_get2 h9
        cases h9
        simp only [List.mem_cons, List.not_mem_nil, or_false] at hm
        subst hm
        · refine ⟨19, ⟨by decide, [], ⟨0, 16, 19, 25⟩, [], (by rw [htb]; rfl), (fun z hz => by cases hz), rfl, by decide, wl_L_25, rfl⟩, fun d w q hd hw => ?_⟩
          refine j_astore_n (L' := [(3, .ref q), (0, .ref (X.B + l0)), (1, .int l1), (2, .ref (X.B + l2))]) ok dL_noteChecks_19 rfl (by decide) rfl ?_
          refine j_iconst (v := 1) ok dL_noteChecks_20 (by decide) ?_
          exact J.sub [] rfl (jl_iret ok (P := PL (fL_noteChecks l0 l1 l2 G) hsL_noteChecks X.V.cc X.V.cs) ⟨_, h0, rfl, d, w, hd, hw, rfl⟩ dL_noteChecks_21 he))

def fL_noteFromColumn (l0 : Nat) (l1 : Int32) (l2 : Nat) (G : Mem) : Option ((Int32 ⊕ Nat) × Mem) :=
  ck G 16 l0 <| (fX6_noteFromColumn l0 l1 G).bind fun q1 => thrC [2] q1.1 (fun v =>
    (pJ q1.2 l2 (0 : Int32) v.toInt64).bind fun G2 => some (.inl (0 : Int32), G2)) q1.2
def hsL_noteFromColumn : Nat → Int32
  | 2 => 1
  | _ => 0
set_option maxRecDepth 100000 in
set_option maxHeartbeats 4000000 in
theorem tL_noteFromColumn {l : Launch} (hfl : l.stackTraces = false) (V : Wd) (l0 : Nat) (l1 : Int32) (l2 : Nat) (G : Mem) (hq : (fL_noteFromColumn l0 l1 l2 G).isSome = true) : ML l yL_noteFromColumn cL_noteFromColumn 4 [(0, 9, 12, 25)] 10 202 V [.ref (V.B + l0), .int l1, .ref (V.B + l2)] G (PL (fL_noteFromColumn l0 l1 l2 G) hsL_noteFromColumn V.cc V.cs) :=
  ml_of (L := [(0, .ref (V.B + l0)), (1, .int l1), (2, .ref (V.B + l2))]) hfl (by decide +kernel) (Nat.le_of_ble_eq_true rfl) rfl (fun X hl hV ok htb he => by
    subst hl; subst hV
    obtain ⟨q9, h9⟩ := Option.isSome_iff_exists.mp hq
    have h0 := h9
    unfold fL_noteFromColumn at h9
    refine j_aload_n ok dL_noteFromColumn_0 rfl 2 rfl ?_
    refine j_iconst (v := 0) ok dL_noteFromColumn_1 (by decide) ?_
    refine j_aload_n ok dL_noteFromColumn_2 rfl 0 rfl ?_
    refine j_iload_n ok dL_noteFromColumn_3 rfl 1 rfl ?_
    obtain ⟨k1, h9⟩ := ck_some h9
    obtain ⟨q1, hq1, h9⟩ := obind h9
    refine k_VC ok kl_L_43 ⟨Nat.le_of_ble_eq_true rfl, Nat.le_of_ble_eq_true rfl⟩ [.int l1] k1 rfl rfl (Nat.le_of_ble_eq_true rfl) (tX6_noteFromColumn ok.fl X.V l0 l1 G hq1) dL_noteFromColumn_4 (fun v hv => ?_) (fun k hk => ?_)
    · cases e1 : q1.1 with
      | inr z => rw [e1] at hv; cases hv
      | inl z =>
        rw [e1] at hv h9
        cases hv
        dsimp only [thrC] at h9
        obtain ⟨G2, hG2, h9⟩ := obind h9
        refine j_i2l ok dL_noteFromColumn_7 ?_
        refine j_last ok hG2 dL_noteFromColumn_8 ?_
        refine j_goto (tgt := 15) ok dL_noteFromColumn_9 (by decide) ?_
        refine j_iconst (v := 0) ok dL_noteFromColumn_15 (by decide) ?_
        refine J.sub [] rfl (jl_iret ok (P := PL (fL_noteFromColumn l0 l1 l2 G) hsL_noteFromColumn X.V.cc X.V.cs) ⟨q9, h0, ?_⟩ dL_noteFromColumn_16 he)
        cases h9
        exact ⟨rfl, rfl⟩
    · cases e1 : q1.1 with
      | inl z => rw [e1] at hk; cases hk
      | inr z =>
        rw [e1] at hk h9
        cases hk
        dsimp only [thrC] at h9
        obtain ⟨hm, h9⟩ := ite_get2 h9
        cases h9
        simp only [List.mem_cons, List.not_mem_nil, or_false] at hm
        subst hm
        · refine ⟨12, ⟨by decide, [], ⟨0, 9, 12, 25⟩, [], (by rw [htb]; rfl), (fun z hz => by cases hz), rfl, by decide, wl_L_25, rfl⟩, fun d w q hd hw => ?_⟩
          refine j_astore_n (L' := [(3, .ref q), (0, .ref (X.B + l0)), (1, .int l1), (2, .ref (X.B + l2))]) ok dL_noteFromColumn_12 rfl (by decide) rfl ?_
          refine j_iconst (v := 1) ok dL_noteFromColumn_13 (by decide) ?_
          exact J.sub [] rfl (jl_iret ok (P := PL (fL_noteFromColumn l0 l1 l2 G) hsL_noteFromColumn X.V.cc X.V.cs) ⟨_, h0, rfl, d, w, hd, hw, rfl⟩ dL_noteFromColumn_14 he))

def fL_noteFromRow (l0 : Nat) (l1 : Int32) (l2 : Nat) (G : Mem) : Option ((Int32 ⊕ Nat) × Mem) :=
  ck G 16 l0 <| (fX6_noteFromRow l0 l1 G).bind fun q1 => thrC [2] q1.1 (fun v =>
    (pJ q1.2 l2 (0 : Int32) v.toInt64).bind fun G2 => some (.inl (0 : Int32), G2)) q1.2
def hsL_noteFromRow : Nat → Int32
  | 2 => 1
  | _ => 0
set_option maxRecDepth 100000 in
set_option maxHeartbeats 4000000 in
theorem tL_noteFromRow {l : Launch} (hfl : l.stackTraces = false) (V : Wd) (l0 : Nat) (l1 : Int32) (l2 : Nat) (G : Mem) (hq : (fL_noteFromRow l0 l1 l2 G).isSome = true) : ML l yL_noteFromRow cL_noteFromRow 4 [(0, 9, 12, 25)] 10 202 V [.ref (V.B + l0), .int l1, .ref (V.B + l2)] G (PL (fL_noteFromRow l0 l1 l2 G) hsL_noteFromRow V.cc V.cs) :=
  ml_of (L := [(0, .ref (V.B + l0)), (1, .int l1), (2, .ref (V.B + l2))]) hfl (by decide +kernel) (Nat.le_of_ble_eq_true rfl) rfl (fun X hl hV ok htb he => by
    subst hl; subst hV
    obtain ⟨q9, h9⟩ := Option.isSome_iff_exists.mp hq
    have h0 := h9
    unfold fL_noteFromRow at h9
    refine j_aload_n ok dL_noteFromRow_0 rfl 2 rfl ?_
    refine j_iconst (v := 0) ok dL_noteFromRow_1 (by decide) ?_
    refine j_aload_n ok dL_noteFromRow_2 rfl 0 rfl ?_
    refine j_iload_n ok dL_noteFromRow_3 rfl 1 rfl ?_
    obtain ⟨k1, h9⟩ := ck_some h9
    obtain ⟨q1, hq1, h9⟩ := obind h9
    refine k_VC ok kl_L_46 ⟨Nat.le_of_ble_eq_true rfl, Nat.le_of_ble_eq_true rfl⟩ [.int l1] k1 rfl rfl (Nat.le_of_ble_eq_true rfl) (tX6_noteFromRow ok.fl X.V l0 l1 G hq1) dL_noteFromRow_4 (fun v hv => ?_) (fun k hk => ?_)
    · cases e1 : q1.1 with
      | inr z => rw [e1] at hv; cases hv
      | inl z =>
        rw [e1] at hv h9
        cases hv
        dsimp only [thrC] at h9
        obtain ⟨G2, hG2, h9⟩ := obind h9
        refine j_i2l ok dL_noteFromRow_7 ?_
        refine j_last ok hG2 dL_noteFromRow_8 ?_
        refine j_goto (tgt := 15) ok dL_noteFromRow_9 (by decide) ?_
        refine j_iconst (v := 0) ok dL_noteFromRow_15 (by decide) ?_
        refine J.sub [] rfl (jl_iret ok (P := PL (fL_noteFromRow l0 l1 l2 G) hsL_noteFromRow X.V.cc X.V.cs) ⟨q9, h0, ?_⟩ dL_noteFromRow_16 he)
        cases h9
        exact ⟨rfl, rfl⟩
    · cases e1 : q1.1 with
      | inl z => rw [e1] at hk; cases hk
      | inr z =>
        rw [e1] at hk h9
        cases hk
        dsimp only [thrC] at h9
        obtain ⟨hm, h9⟩ := ite_get2 h9
        cases h9
        simp only [List.mem_cons, List.not_mem_nil, or_false] at hm
        subst hm
        · refine ⟨12, ⟨by decide, [], ⟨0, 9, 12, 25⟩, [], (by rw [htb]; rfl), (fun z hz => by cases hz), rfl, by decide, wl_L_25, rfl⟩, fun d w q hd hw => ?_⟩
          refine j_astore_n (L' := [(3, .ref q), (0, .ref (X.B + l0)), (1, .int l1), (2, .ref (X.B + l2))]) ok dL_noteFromRow_12 rfl (by decide) rfl ?_
          refine j_iconst (v := 1) ok dL_noteFromRow_13 (by decide) ?_
          exact J.sub [] rfl (jl_iret ok (P := PL (fL_noteFromRow l0 l1 l2 G) hsL_noteFromRow X.V.cc X.V.cs) ⟨_, h0, rfl, d, w, hd, hw, rfl⟩ dL_noteFromRow_14 he))

def fL_noteKind (l0 : Nat) (l1 : Int32) (l2 : Nat) (G : Mem) : Option ((Int32 ⊕ Nat) × Mem) :=
  ck G 16 l0 <| (fX6_noteKind l0 l1 G).bind fun q1 => thrC [2] q1.1 (fun v =>
    (pJ q1.2 l2 (0 : Int32) v.toInt64).bind fun G2 => some (.inl (0 : Int32), G2)) q1.2
def hsL_noteKind : Nat → Int32
  | 2 => 1
  | _ => 0
set_option maxRecDepth 100000 in
set_option maxHeartbeats 4000000 in
theorem tL_noteKind {l : Launch} (hfl : l.stackTraces = false) (V : Wd) (l0 : Nat) (l1 : Int32) (l2 : Nat) (G : Mem) (hq : (fL_noteKind l0 l1 l2 G).isSome = true) : ML l yL_noteKind cL_noteKind 4 [(0, 9, 12, 25)] 10 202 V [.ref (V.B + l0), .int l1, .ref (V.B + l2)] G (PL (fL_noteKind l0 l1 l2 G) hsL_noteKind V.cc V.cs) :=
  ml_of (L := [(0, .ref (V.B + l0)), (1, .int l1), (2, .ref (V.B + l2))]) hfl (by decide +kernel) (Nat.le_of_ble_eq_true rfl) rfl (fun X hl hV ok htb he => by
    subst hl; subst hV
    obtain ⟨q9, h9⟩ := Option.isSome_iff_exists.mp hq
    have h0 := h9
    unfold fL_noteKind at h9
    refine j_aload_n ok dL_noteKind_0 rfl 2 rfl ?_
    refine j_iconst (v := 0) ok dL_noteKind_1 (by decide) ?_
    refine j_aload_n ok dL_noteKind_2 rfl 0 rfl ?_
    refine j_iload_n ok dL_noteKind_3 rfl 1 rfl ?_
    obtain ⟨k1, h9⟩ := ck_some h9
    obtain ⟨q1, hq1, h9⟩ := obind h9
    refine k_VC ok kl_L_40 ⟨Nat.le_of_ble_eq_true rfl, Nat.le_of_ble_eq_true rfl⟩ [.int l1] k1 rfl rfl (Nat.le_of_ble_eq_true rfl) (tX6_noteKind ok.fl X.V l0 l1 G hq1) dL_noteKind_4 (fun v hv => ?_) (fun k hk => ?_)
    · cases e1 : q1.1 with
      | inr z => rw [e1] at hv; cases hv
      | inl z =>
        rw [e1] at hv h9
        cases hv
        dsimp only [thrC] at h9
        obtain ⟨G2, hG2, h9⟩ := obind h9
        refine j_i2l ok dL_noteKind_7 ?_
        refine j_last ok hG2 dL_noteKind_8 ?_
        refine j_goto (tgt := 15) ok dL_noteKind_9 (by decide) ?_
        refine j_iconst (v := 0) ok dL_noteKind_15 (by decide) ?_
        refine J.sub [] rfl (jl_iret ok (P := PL (fL_noteKind l0 l1 l2 G) hsL_noteKind X.V.cc X.V.cs) ⟨q9, h0, ?_⟩ dL_noteKind_16 he)
        cases h9
        exact ⟨rfl, rfl⟩
    · cases e1 : q1.1 with
      | inl z => rw [e1] at hk; cases hk
      | inr z =>
        rw [e1] at hk h9
        cases hk
        dsimp only [thrC] at h9
        obtain ⟨hm, h9⟩ := ite_get2 h9
        cases h9
        simp only [List.mem_cons, List.not_mem_nil, or_false] at hm
        subst hm
        · refine ⟨12, ⟨by decide, [], ⟨0, 9, 12, 25⟩, [], (by rw [htb]; rfl), (fun z hz => by cases hz), rfl, by decide, wl_L_25, rfl⟩, fun d w q hd hw => ?_⟩
          refine j_astore_n (L' := [(3, .ref q), (0, .ref (X.B + l0)), (1, .int l1), (2, .ref (X.B + l2))]) ok dL_noteKind_12 rfl (by decide) rfl ?_
          refine j_iconst (v := 1) ok dL_noteKind_13 (by decide) ?_
          exact J.sub [] rfl (jl_iret ok (P := PL (fL_noteKind l0 l1 l2 G) hsL_noteKind X.V.cc X.V.cs) ⟨_, h0, rfl, d, w, hd, hw, rfl⟩ dL_noteKind_14 he))

def fL_noteTakes (l0 : Nat) (l1 : Int32) (l2 : Nat) (G : Mem) : Option ((Int32 ⊕ Nat) × Mem) :=
  ck G 16 l0 <| (fX6_noteTakes l0 l1 G).bind fun q1 => thrC [2] q1.1 (fun v =>
    (pJ q1.2 l2 (0 : Int32) (bzl v)).bind fun G2 => some (.inl (0 : Int32), G2)) q1.2
def hsL_noteTakes : Nat → Int32
  | 2 => 1
  | _ => 0
set_option maxRecDepth 100000 in
set_option maxHeartbeats 4000000 in
theorem tL_noteTakes {l : Launch} (hfl : l.stackTraces = false) (V : Wd) (l0 : Nat) (l1 : Int32) (l2 : Nat) (G : Mem) (hq : (fL_noteTakes l0 l1 l2 G).isSome = true) : ML l yL_noteTakes cL_noteTakes 4 [(0, 16, 19, 25)] 10 202 V [.ref (V.B + l0), .int l1, .ref (V.B + l2)] G (PL (fL_noteTakes l0 l1 l2 G) hsL_noteTakes V.cc V.cs) :=
  ml_of (L := [(0, .ref (V.B + l0)), (1, .int l1), (2, .ref (V.B + l2))]) hfl (by decide +kernel) (Nat.le_of_ble_eq_true rfl) rfl (fun X hl hV ok htb he => by
    subst hl; subst hV
    obtain ⟨q9, h9⟩ := Option.isSome_iff_exists.mp hq
    have h0 := h9
    unfold fL_noteTakes at h9
    refine j_aload_n ok dL_noteTakes_0 rfl 2 rfl ?_
    refine j_iconst (v := 0) ok dL_noteTakes_1 (by decide) ?_
    refine j_aload_n ok dL_noteTakes_2 rfl 0 rfl ?_
    refine j_iload_n ok dL_noteTakes_3 rfl 1 rfl ?_
    obtain ⟨k1, h9⟩ := ck_some h9
    obtain ⟨q1, hq1, h9⟩ := obind h9
    refine k_VC ok kl_L_55 ⟨Nat.le_of_ble_eq_true rfl, Nat.le_of_ble_eq_true rfl⟩ [.int l1] k1 rfl rfl (Nat.le_of_ble_eq_true rfl) (tX6_noteTakes ok.fl X.V l0 l1 G hq1) dL_noteTakes_4 (fun v hv => ?_) (fun k hk => ?_)
    · cases e1 : q1.1 with
      | inr z => rw [e1] at hv; cases hv
      | inl z =>
        rw [e1] at hv h9
        cases hv
        dsimp only [thrC] at h9
        obtain ⟨G2, hG2, h9⟩ := obind h9
        refine j_nzl ok dL_noteTakes_7 dL_noteTakes_10 dL_noteTakes_11 dL_noteTakes_14 ?_
        refine j_last ok hG2 dL_noteTakes_15 ?_
        refine j_goto (tgt := 22) ok dL_noteTakes_16 (by decide) ?_
        refine j_iconst (v := 0) ok dL_noteTakes_22 (by decide) ?_
        refine J.sub [] rfl (jl_iret ok (P := PL (fL_noteTakes l0 l1 l2 G) hsL_noteTakes X.V.cc X.V.cs) ⟨q9, h0, ?_⟩ dL_noteTakes_23 he)
        cases h9
        exact ⟨rfl, rfl⟩
    · cases e1 : q1.1 with
      | inl z => rw [e1] at hk; cases hk
      | inr z =>
        rw [e1] at hk h9
        cases hk
        dsimp only [thrC] at h9
        obtain ⟨hm, h9⟩ := ite_get2 h9
        cases h9
        simp only [List.mem_cons, List.not_mem_nil, or_false] at hm
        subst hm
        · refine ⟨19, ⟨by decide, [], ⟨0, 16, 19, 25⟩, [], (by rw [htb]; rfl), (fun z hz => by cases hz), rfl, by decide, wl_L_25, rfl⟩, fun d w q hd hw => ?_⟩
          refine j_astore_n (L' := [(3, .ref q), (0, .ref (X.B + l0)), (1, .int l1), (2, .ref (X.B + l2))]) ok dL_noteTakes_19 rfl (by decide) rfl ?_
          refine j_iconst (v := 1) ok dL_noteTakes_20 (by decide) ?_
          exact J.sub [] rfl (jl_iret ok (P := PL (fL_noteTakes l0 l1 l2 G) hsL_noteTakes X.V.cc X.V.cs) ⟨_, h0, rfl, d, w, hd, hw, rfl⟩ dL_noteTakes_21 he))

def fL_noteToColumn (l0 : Nat) (l1 : Int32) (l2 : Nat) (G : Mem) : Option ((Int32 ⊕ Nat) × Mem) :=
  ck G 16 l0 <| (fX6_noteToColumn l0 l1 G).bind fun q1 => thrC [2] q1.1 (fun v =>
    (pJ q1.2 l2 (0 : Int32) v.toInt64).bind fun G2 => some (.inl (0 : Int32), G2)) q1.2
def hsL_noteToColumn : Nat → Int32
  | 2 => 1
  | _ => 0
set_option maxRecDepth 100000 in
set_option maxHeartbeats 4000000 in
theorem tL_noteToColumn {l : Launch} (hfl : l.stackTraces = false) (V : Wd) (l0 : Nat) (l1 : Int32) (l2 : Nat) (G : Mem) (hq : (fL_noteToColumn l0 l1 l2 G).isSome = true) : ML l yL_noteToColumn cL_noteToColumn 4 [(0, 9, 12, 25)] 10 202 V [.ref (V.B + l0), .int l1, .ref (V.B + l2)] G (PL (fL_noteToColumn l0 l1 l2 G) hsL_noteToColumn V.cc V.cs) :=
  ml_of (L := [(0, .ref (V.B + l0)), (1, .int l1), (2, .ref (V.B + l2))]) hfl (by decide +kernel) (Nat.le_of_ble_eq_true rfl) rfl (fun X hl hV ok htb he => by
    subst hl; subst hV
    obtain ⟨q9, h9⟩ := Option.isSome_iff_exists.mp hq
    have h0 := h9
    unfold fL_noteToColumn at h9
    refine j_aload_n ok dL_noteToColumn_0 rfl 2 rfl ?_
    refine j_iconst (v := 0) ok dL_noteToColumn_1 (by decide) ?_
    refine j_aload_n ok dL_noteToColumn_2 rfl 0 rfl ?_
    refine j_iload_n ok dL_noteToColumn_3 rfl 1 rfl ?_
    obtain ⟨k1, h9⟩ := ck_some h9
    obtain ⟨q1, hq1, h9⟩ := obind h9
    refine k_VC ok kl_L_49 ⟨Nat.le_of_ble_eq_true rfl, Nat.le_of_ble_eq_true rfl⟩ [.int l1] k1 rfl rfl (Nat.le_of_ble_eq_true rfl) (tX6_noteToColumn ok.fl X.V l0 l1 G hq1) dL_noteToColumn_4 (fun v hv => ?_) (fun k hk => ?_)
    · cases e1 : q1.1 with
      | inr z => rw [e1] at hv; cases hv
      | inl z =>
        rw [e1] at hv h9
        cases hv
        dsimp only [thrC] at h9
        obtain ⟨G2, hG2, h9⟩ := obind h9
        refine j_i2l ok dL_noteToColumn_7 ?_
        refine j_last ok hG2 dL_noteToColumn_8 ?_
        refine j_goto (tgt := 15) ok dL_noteToColumn_9 (by decide) ?_
        refine j_iconst (v := 0) ok dL_noteToColumn_15 (by decide) ?_
        refine J.sub [] rfl (jl_iret ok (P := PL (fL_noteToColumn l0 l1 l2 G) hsL_noteToColumn X.V.cc X.V.cs) ⟨q9, h0, ?_⟩ dL_noteToColumn_16 he)
        cases h9
        exact ⟨rfl, rfl⟩
    · cases e1 : q1.1 with
      | inl z => rw [e1] at hk; cases hk
      | inr z =>
        rw [e1] at hk h9
        cases hk
        dsimp only [thrC] at h9
        obtain ⟨hm, h9⟩ := ite_get2 h9
        cases h9
        simp only [List.mem_cons, List.not_mem_nil, or_false] at hm
        subst hm
        · refine ⟨12, ⟨by decide, [], ⟨0, 9, 12, 25⟩, [], (by rw [htb]; rfl), (fun z hz => by cases hz), rfl, by decide, wl_L_25, rfl⟩, fun d w q hd hw => ?_⟩
          refine j_astore_n (L' := [(3, .ref q), (0, .ref (X.B + l0)), (1, .int l1), (2, .ref (X.B + l2))]) ok dL_noteToColumn_12 rfl (by decide) rfl ?_
          refine j_iconst (v := 1) ok dL_noteToColumn_13 (by decide) ?_
          exact J.sub [] rfl (jl_iret ok (P := PL (fL_noteToColumn l0 l1 l2 G) hsL_noteToColumn X.V.cc X.V.cs) ⟨_, h0, rfl, d, w, hd, hw, rfl⟩ dL_noteToColumn_14 he))

def fL_noteToRow (l0 : Nat) (l1 : Int32) (l2 : Nat) (G : Mem) : Option ((Int32 ⊕ Nat) × Mem) :=
  ck G 16 l0 <| (fX6_noteToRow l0 l1 G).bind fun q1 => thrC [2] q1.1 (fun v =>
    (pJ q1.2 l2 (0 : Int32) v.toInt64).bind fun G2 => some (.inl (0 : Int32), G2)) q1.2
def hsL_noteToRow : Nat → Int32
  | 2 => 1
  | _ => 0
set_option maxRecDepth 100000 in
set_option maxHeartbeats 4000000 in
theorem tL_noteToRow {l : Launch} (hfl : l.stackTraces = false) (V : Wd) (l0 : Nat) (l1 : Int32) (l2 : Nat) (G : Mem) (hq : (fL_noteToRow l0 l1 l2 G).isSome = true) : ML l yL_noteToRow cL_noteToRow 4 [(0, 9, 12, 25)] 10 202 V [.ref (V.B + l0), .int l1, .ref (V.B + l2)] G (PL (fL_noteToRow l0 l1 l2 G) hsL_noteToRow V.cc V.cs) :=
  ml_of (L := [(0, .ref (V.B + l0)), (1, .int l1), (2, .ref (V.B + l2))]) hfl (by decide +kernel) (Nat.le_of_ble_eq_true rfl) rfl (fun X hl hV ok htb he => by
    subst hl; subst hV
    obtain ⟨q9, h9⟩ := Option.isSome_iff_exists.mp hq
    have h0 := h9
    unfold fL_noteToRow at h9
    refine j_aload_n ok dL_noteToRow_0 rfl 2 rfl ?_
    refine j_iconst (v := 0) ok dL_noteToRow_1 (by decide) ?_
    refine j_aload_n ok dL_noteToRow_2 rfl 0 rfl ?_
    refine j_iload_n ok dL_noteToRow_3 rfl 1 rfl ?_
    obtain ⟨k1, h9⟩ := ck_some h9
    obtain ⟨q1, hq1, h9⟩ := obind h9
    refine k_VC ok kl_L_52 ⟨Nat.le_of_ble_eq_true rfl, Nat.le_of_ble_eq_true rfl⟩ [.int l1] k1 rfl rfl (Nat.le_of_ble_eq_true rfl) (tX6_noteToRow ok.fl X.V l0 l1 G hq1) dL_noteToRow_4 (fun v hv => ?_) (fun k hk => ?_)
    · cases e1 : q1.1 with
      | inr z => rw [e1] at hv; cases hv
      | inl z =>
        rw [e1] at hv h9
        cases hv
        dsimp only [thrC] at h9
        obtain ⟨G2, hG2, h9⟩ := obind h9
        refine j_i2l ok dL_noteToRow_7 ?_
        refine j_last ok hG2 dL_noteToRow_8 ?_
        refine j_goto (tgt := 15) ok dL_noteToRow_9 (by decide) ?_
        refine j_iconst (v := 0) ok dL_noteToRow_15 (by decide) ?_
        refine J.sub [] rfl (jl_iret ok (P := PL (fL_noteToRow l0 l1 l2 G) hsL_noteToRow X.V.cc X.V.cs) ⟨q9, h0, ?_⟩ dL_noteToRow_16 he)
        cases h9
        exact ⟨rfl, rfl⟩
    · cases e1 : q1.1 with
      | inl z => rw [e1] at hk; cases hk
      | inr z =>
        rw [e1] at hk h9
        cases hk
        dsimp only [thrC] at h9
        obtain ⟨hm, h9⟩ := ite_get2 h9
        cases h9
        simp only [List.mem_cons, List.not_mem_nil, or_false] at hm
        subst hm
        · refine ⟨12, ⟨by decide, [], ⟨0, 9, 12, 25⟩, [], (by rw [htb]; rfl), (fun z hz => by cases hz), rfl, by decide, wl_L_25, rfl⟩, fun d w q hd hw => ?_⟩
          refine j_astore_n (L' := [(3, .ref q), (0, .ref (X.B + l0)), (1, .int l1), (2, .ref (X.B + l2))]) ok dL_noteToRow_12 rfl (by decide) rfl ?_
          refine j_iconst (v := 1) ok dL_noteToRow_13 (by decide) ?_
          exact J.sub [] rfl (jl_iret ok (P := PL (fL_noteToRow l0 l1 l2 G) hsL_noteToRow X.V.cc X.V.cs) ⟨_, h0, rfl, d, w, hd, hw, rfl⟩ dL_noteToRow_14 he))

def fL_positionsAfter (l0 : Nat) (l1 : Int32) (l2 : Nat) (G : Mem) : Option ((Int32 ⊕ Nat) × Mem) :=
  ck G 16 l0 <| (fX6_positionsAfter l0 l1 G).bind fun q1 => thrC [0] q1.1 (fun v =>
    (pJ q1.2 l2 (0 : Int32) v.toInt64).bind fun G2 => some (.inl (0 : Int32), G2)) q1.2
def hsL_positionsAfter : Nat → Int32
  | 0 => 1
  | _ => 0
set_option maxRecDepth 100000 in
set_option maxHeartbeats 4000000 in
theorem tL_positionsAfter {l : Launch} (hfl : l.stackTraces = false) (V : Wd) (l0 : Nat) (l1 : Int32) (l2 : Nat) (G : Mem) (hq : (fL_positionsAfter l0 l1 l2 G).isSome = true) : ML l yL_positionsAfter cL_positionsAfter 4 [(0, 9, 12, 13)] 9 181 V [.ref (V.B + l0), .int l1, .ref (V.B + l2)] G (PL (fL_positionsAfter l0 l1 l2 G) hsL_positionsAfter V.cc V.cs) :=
  ml_of (L := [(0, .ref (V.B + l0)), (1, .int l1), (2, .ref (V.B + l2))]) hfl (by decide +kernel) (Nat.le_of_ble_eq_true rfl) rfl (fun X hl hV ok htb he => by
    subst hl; subst hV
    obtain ⟨q9, h9⟩ := Option.isSome_iff_exists.mp hq
    have h0 := h9
    unfold fL_positionsAfter at h9
    refine j_aload_n ok dL_positionsAfter_0 rfl 2 rfl ?_
    refine j_iconst (v := 0) ok dL_positionsAfter_1 (by decide) ?_
    refine j_aload_n ok dL_positionsAfter_2 rfl 0 rfl ?_
    refine j_iload_n ok dL_positionsAfter_3 rfl 1 rfl ?_
    obtain ⟨k1, h9⟩ := ck_some h9
    obtain ⟨q1, hq1, h9⟩ := obind h9
    refine k_VC ok kl_L_62 ⟨Nat.le_of_ble_eq_true rfl, Nat.le_of_ble_eq_true rfl⟩ [.int l1] k1 rfl rfl (Nat.le_of_ble_eq_true rfl) (tX6_positionsAfter ok.fl X.V l0 l1 G hq1) dL_positionsAfter_4 (fun v hv => ?_) (fun k hk => ?_)
    · cases e1 : q1.1 with
      | inr z => rw [e1] at hv; cases hv
      | inl z =>
        rw [e1] at hv h9
        cases hv
        dsimp only [thrC] at h9
        obtain ⟨G2, hG2, h9⟩ := obind h9
        refine j_i2l ok dL_positionsAfter_7 ?_
        refine j_last ok hG2 dL_positionsAfter_8 ?_
        refine j_goto (tgt := 15) ok dL_positionsAfter_9 (by decide) ?_
        refine j_iconst (v := 0) ok dL_positionsAfter_15 (by decide) ?_
        refine J.sub [] rfl (jl_iret ok (P := PL (fL_positionsAfter l0 l1 l2 G) hsL_positionsAfter X.V.cc X.V.cs) ⟨q9, h0, ?_⟩ dL_positionsAfter_16 he)
        cases h9
        exact ⟨rfl, rfl⟩
    · cases e1 : q1.1 with
      | inl z => rw [e1] at hk; cases hk
      | inr z =>
        rw [e1] at hk h9
        cases hk
        dsimp only [thrC] at h9
        obtain ⟨hm, h9⟩ := ite_get2 h9
        cases h9
        simp only [List.mem_cons, List.not_mem_nil, or_false] at hm
        subst hm
        · refine ⟨12, ⟨by decide, [], ⟨0, 9, 12, 13⟩, [], (by rw [htb]; rfl), (fun z hz => by cases hz), rfl, by decide, wl_L_13, rfl⟩, fun d w q hd hw => ?_⟩
          refine j_astore_n (L' := [(3, .ref q), (0, .ref (X.B + l0)), (1, .int l1), (2, .ref (X.B + l2))]) ok dL_positionsAfter_12 rfl (by decide) rfl ?_
          refine j_iconst (v := 1) ok dL_positionsAfter_13 (by decide) ?_
          exact J.sub [] rfl (jl_iret ok (P := PL (fL_positionsAfter l0 l1 l2 G) hsL_positionsAfter X.V.cc X.V.cs) ⟨_, h0, rfl, d, w, hd, hw, rfl⟩ dL_positionsAfter_14 he))

def fL_restore (l0 : Nat) (l1 : Int32) (l2 : Nat) (G : Mem) : Option ((Int32 ⊕ Nat) × Mem) :=
  ck G 16 l0 <| (fX6_restore l0 l1 G).bind fun q1 => thrC [0, 1] q1.1 (fun v =>
    (pJ q1.2 l2 (0 : Int32) v.toInt64).bind fun G2 => some (.inl (0 : Int32), G2)) q1.2
def hsL_restore : Nat → Int32
  | 0 => 1
  | 1 => 2
  | _ => 0
set_option maxRecDepth 100000 in
set_option maxHeartbeats 4000000 in
theorem tL_restore {l : Launch} (hfl : l.stackTraces = false) (V : Wd) (l0 : Nat) (l1 : Int32) (l2 : Nat) (G : Mem) (hq : (fL_restore l0 l1 l2 G).isSome = true) : ML l yL_restore cL_restore 4 [(0, 9, 12, 13), (0, 9, 15, 19)] 10 202 V [.ref (V.B + l0), .int l1, .ref (V.B + l2)] G (PL (fL_restore l0 l1 l2 G) hsL_restore V.cc V.cs) :=
  ml_of (L := [(0, .ref (V.B + l0)), (1, .int l1), (2, .ref (V.B + l2))]) hfl (by decide +kernel) (Nat.le_of_ble_eq_true rfl) rfl (fun X hl hV ok htb he => by
    subst hl; subst hV
    obtain ⟨q9, h9⟩ := Option.isSome_iff_exists.mp hq
    have h0 := h9
    unfold fL_restore at h9
    refine j_aload_n ok dL_restore_0 rfl 2 rfl ?_
    refine j_iconst (v := 0) ok dL_restore_1 (by decide) ?_
    refine j_aload_n ok dL_restore_2 rfl 0 rfl ?_
    refine j_iload_n ok dL_restore_3 rfl 1 rfl ?_
    obtain ⟨k1, h9⟩ := ck_some h9
    obtain ⟨q1, hq1, h9⟩ := obind h9
    refine k_VC ok kl_L_37 ⟨Nat.le_of_ble_eq_true rfl, Nat.le_of_ble_eq_true rfl⟩ [.int l1] k1 rfl rfl (Nat.le_of_ble_eq_true rfl) (tX6_restore ok.fl X.V l0 l1 G hq1) dL_restore_4 (fun v hv => ?_) (fun k hk => ?_)
    · cases e1 : q1.1 with
      | inr z => rw [e1] at hv; cases hv
      | inl z =>
        rw [e1] at hv h9
        cases hv
        dsimp only [thrC] at h9
        obtain ⟨G2, hG2, h9⟩ := obind h9
        refine j_i2l ok dL_restore_7 ?_
        refine j_last ok hG2 dL_restore_8 ?_
        refine j_goto (tgt := 18) ok dL_restore_9 (by decide) ?_
        refine j_iconst (v := 0) ok dL_restore_18 (by decide) ?_
        refine J.sub [] rfl (jl_iret ok (P := PL (fL_restore l0 l1 l2 G) hsL_restore X.V.cc X.V.cs) ⟨q9, h0, ?_⟩ dL_restore_19 he)
        cases h9
        exact ⟨rfl, rfl⟩
    · cases e1 : q1.1 with
      | inl z => rw [e1] at hk; cases hk
      | inr z =>
        rw [e1] at hk h9
        cases hk
        dsimp only [thrC] at h9
        obtain ⟨hm, h9⟩ := ite_get2 h9
        cases h9
        simp only [List.mem_cons, List.not_mem_nil, or_false] at hm
        rcases hm with rfl | rfl
        · refine ⟨12, ⟨by decide, [], ⟨0, 9, 12, 13⟩, [⟨0, 9, 15, 19⟩], (by rw [htb]; rfl), (fun z hz => by cases hz), rfl, by decide, wl_L_13, rfl⟩, fun d w q hd hw => ?_⟩
          refine j_astore_n (L' := [(3, .ref q), (0, .ref (X.B + l0)), (1, .int l1), (2, .ref (X.B + l2))]) ok dL_restore_12 rfl (by decide) rfl ?_
          refine j_iconst (v := 1) ok dL_restore_13 (by decide) ?_
          exact J.sub [] rfl (jl_iret ok (P := PL (fL_restore l0 l1 l2 G) hsL_restore X.V.cc X.V.cs) ⟨_, h0, rfl, d, w, hd, hw, rfl⟩ dL_restore_14 he)
        · refine ⟨15, ⟨by decide, [⟨0, 9, 12, 13⟩], ⟨0, 9, 15, 19⟩, [], (by rw [htb]; rfl), (fun z hz => by
            rw [List.mem_singleton] at hz
            subst hz
            · exact ⟨by decide, 0, by decide, by decide, wl_L_13⟩
            ), rfl, by decide, wl_L_19, rfl⟩, fun d w q hd hw => ?_⟩
          refine j_astore_n (L' := [(3, .ref q), (0, .ref (X.B + l0)), (1, .int l1), (2, .ref (X.B + l2))]) ok dL_restore_15 rfl (by decide) rfl ?_
          refine j_iconst (v := 2) ok dL_restore_16 (by decide) ?_
          exact J.sub [] rfl (jl_iret ok (P := PL (fL_restore l0 l1 l2 G) hsL_restore X.V.cc X.V.cs) ⟨_, h0, rfl, d, w, hd, hw, rfl⟩ dL_restore_17 he))

def fL_save (l0 : Nat) (l1 : Int32) (l2 : Nat) (G : Mem) : Option ((Int32 ⊕ Nat) × Mem) :=
  ck G 16 l0 <| (fX6_save l0 l1 G).bind fun q1 => thrC [0] q1.1 (fun v =>
    (pJ q1.2 l2 (0 : Int32) v.toInt64).bind fun G2 => some (.inl (0 : Int32), G2)) q1.2
def hsL_save : Nat → Int32
  | 0 => 1
  | _ => 0
set_option maxRecDepth 100000 in
set_option maxHeartbeats 4000000 in
theorem tL_save {l : Launch} (hfl : l.stackTraces = false) (V : Wd) (l0 : Nat) (l1 : Int32) (l2 : Nat) (G : Mem) (hq : (fL_save l0 l1 l2 G).isSome = true) : ML l yL_save cL_save 4 [(0, 9, 12, 13)] 10 202 V [.ref (V.B + l0), .int l1, .ref (V.B + l2)] G (PL (fL_save l0 l1 l2 G) hsL_save V.cc V.cs) :=
  ml_of (L := [(0, .ref (V.B + l0)), (1, .int l1), (2, .ref (V.B + l2))]) hfl (by decide +kernel) (Nat.le_of_ble_eq_true rfl) rfl (fun X hl hV ok htb he => by
    subst hl; subst hV
    obtain ⟨q9, h9⟩ := Option.isSome_iff_exists.mp hq
    have h0 := h9
    unfold fL_save at h9
    refine j_aload_n ok dL_save_0 rfl 2 rfl ?_
    refine j_iconst (v := 0) ok dL_save_1 (by decide) ?_
    refine j_aload_n ok dL_save_2 rfl 0 rfl ?_
    refine j_iload_n ok dL_save_3 rfl 1 rfl ?_
    obtain ⟨k1, h9⟩ := ck_some h9
    obtain ⟨q1, hq1, h9⟩ := obind h9
    refine k_VC ok kl_L_34 ⟨Nat.le_of_ble_eq_true rfl, Nat.le_of_ble_eq_true rfl⟩ [.int l1] k1 rfl rfl (Nat.le_of_ble_eq_true rfl) (tX6_save ok.fl X.V l0 l1 G hq1) dL_save_4 (fun v hv => ?_) (fun k hk => ?_)
    · cases e1 : q1.1 with
      | inr z => rw [e1] at hv; cases hv
      | inl z =>
        rw [e1] at hv h9
        cases hv
        dsimp only [thrC] at h9
        obtain ⟨G2, hG2, h9⟩ := obind h9
        refine j_i2l ok dL_save_7 ?_
        refine j_last ok hG2 dL_save_8 ?_
        refine j_goto (tgt := 15) ok dL_save_9 (by decide) ?_
        refine j_iconst (v := 0) ok dL_save_15 (by decide) ?_
        refine J.sub [] rfl (jl_iret ok (P := PL (fL_save l0 l1 l2 G) hsL_save X.V.cc X.V.cs) ⟨q9, h0, ?_⟩ dL_save_16 he)
        cases h9
        exact ⟨rfl, rfl⟩
    · cases e1 : q1.1 with
      | inl z => rw [e1] at hk; cases hk
      | inr z =>
        rw [e1] at hk h9
        cases hk
        dsimp only [thrC] at h9
        obtain ⟨hm, h9⟩ := ite_get2 h9
        cases h9
        simp only [List.mem_cons, List.not_mem_nil, or_false] at hm
        subst hm
        · refine ⟨12, ⟨by decide, [], ⟨0, 9, 12, 13⟩, [], (by rw [htb]; rfl), (fun z hz => by cases hz), rfl, by decide, wl_L_13, rfl⟩, fun d w q hd hw => ?_⟩
          refine j_astore_n (L' := [(3, .ref q), (0, .ref (X.B + l0)), (1, .int l1), (2, .ref (X.B + l2))]) ok dL_save_12 rfl (by decide) rfl ?_
          refine j_iconst (v := 1) ok dL_save_13 (by decide) ?_
          exact J.sub [] rfl (jl_iret ok (P := PL (fL_save l0 l1 l2 G) hsL_save X.V.cc X.V.cs) ⟨_, h0, rfl, d, w, hd, hw, rfl⟩ dL_save_14 he))

def fL_truncateInput (l0 : Nat) (l1 : Int32) (l2 : Nat) (G : Mem) : Option ((Int32 ⊕ Nat) × Mem) :=
  ck G 16 l0 <| (fX6_truncateInput l0 l1 G).bind fun q1 => thrC [0] q1.1 (fun v =>
    (pJ q1.2 l2 (0 : Int32) v.toInt64).bind fun G2 => some (.inl (0 : Int32), G2)) q1.2
def hsL_truncateInput : Nat → Int32
  | 0 => 1
  | _ => 0
set_option maxRecDepth 100000 in
set_option maxHeartbeats 4000000 in
theorem tL_truncateInput {l : Launch} (hfl : l.stackTraces = false) (V : Wd) (l0 : Nat) (l1 : Int32) (l2 : Nat) (G : Mem) (hq : (fL_truncateInput l0 l1 l2 G).isSome = true) : ML l yL_truncateInput cL_truncateInput 4 [(0, 9, 12, 13)] 9 182 V [.ref (V.B + l0), .int l1, .ref (V.B + l2)] G (PL (fL_truncateInput l0 l1 l2 G) hsL_truncateInput V.cc V.cs) :=
  ml_of (L := [(0, .ref (V.B + l0)), (1, .int l1), (2, .ref (V.B + l2))]) hfl (by decide +kernel) (Nat.le_of_ble_eq_true rfl) rfl (fun X hl hV ok htb he => by
    subst hl; subst hV
    obtain ⟨q9, h9⟩ := Option.isSome_iff_exists.mp hq
    have h0 := h9
    unfold fL_truncateInput at h9
    refine j_aload_n ok dL_truncateInput_0 rfl 2 rfl ?_
    refine j_iconst (v := 0) ok dL_truncateInput_1 (by decide) ?_
    refine j_aload_n ok dL_truncateInput_2 rfl 0 rfl ?_
    refine j_iload_n ok dL_truncateInput_3 rfl 1 rfl ?_
    obtain ⟨k1, h9⟩ := ck_some h9
    obtain ⟨q1, hq1, h9⟩ := obind h9
    refine k_VC ok kl_L_7 ⟨Nat.le_of_ble_eq_true rfl, Nat.le_of_ble_eq_true rfl⟩ [.int l1] k1 rfl rfl (Nat.le_of_ble_eq_true rfl) (tX6_truncateInput ok.fl X.V l0 l1 G hq1) dL_truncateInput_4 (fun v hv => ?_) (fun k hk => ?_)
    · cases e1 : q1.1 with
      | inr z => rw [e1] at hv; cases hv
      | inl z =>
        rw [e1] at hv h9
        cases hv
        dsimp only [thrC] at h9
        obtain ⟨G2, hG2, h9⟩ := obind h9
        refine j_i2l ok dL_truncateInput_7 ?_
        refine j_last ok hG2 dL_truncateInput_8 ?_
        refine j_goto (tgt := 15) ok dL_truncateInput_9 (by decide) ?_
        refine j_iconst (v := 0) ok dL_truncateInput_15 (by decide) ?_
        refine J.sub [] rfl (jl_iret ok (P := PL (fL_truncateInput l0 l1 l2 G) hsL_truncateInput X.V.cc X.V.cs) ⟨q9, h0, ?_⟩ dL_truncateInput_16 he)
        cases h9
        exact ⟨rfl, rfl⟩
    · cases e1 : q1.1 with
      | inl z => rw [e1] at hk; cases hk
      | inr z =>
        rw [e1] at hk h9
        cases hk
        dsimp only [thrC] at h9
        obtain ⟨hm, h9⟩ := ite_get2 h9
        cases h9
        simp only [List.mem_cons, List.not_mem_nil, or_false] at hm
        subst hm
        · refine ⟨12, ⟨by decide, [], ⟨0, 9, 12, 13⟩, [], (by rw [htb]; rfl), (fun z hz => by cases hz), rfl, by decide, wl_L_13, rfl⟩, fun d w q hd hw => ?_⟩
          refine j_astore_n (L' := [(3, .ref q), (0, .ref (X.B + l0)), (1, .int l1), (2, .ref (X.B + l2))]) ok dL_truncateInput_12 rfl (by decide) rfl ?_
          refine j_iconst (v := 1) ok dL_truncateInput_13 (by decide) ?_
          exact J.sub [] rfl (jl_iret ok (P := PL (fL_truncateInput l0 l1 l2 G) hsL_truncateInput X.V.cc X.V.cs) ⟨_, h0, rfl, d, w, hd, hw, rfl⟩ dL_truncateInput_14 he))

def fL_undo (l0 : Nat) (l1 : Nat) (G : Mem) : Option ((Int32 ⊕ Nat) × Mem) :=
  ck G 16 l0 <| (fX6_undo l0  G).bind fun q1 => thrC [1] q1.1 (fun v =>
    (pJ q1.2 l1 (0 : Int32) v.toInt64).bind fun G2 => some (.inl (0 : Int32), G2)) q1.2
def hsL_undo : Nat → Int32
  | 1 => 1
  | _ => 0
set_option maxRecDepth 100000 in
set_option maxHeartbeats 4000000 in
theorem tL_undo {l : Launch} (hfl : l.stackTraces = false) (V : Wd) (l0 : Nat) (l1 : Nat) (G : Mem) (hq : (fL_undo l0 l1 G).isSome = true) : ML l yL_undo cL_undo 3 [(0, 8, 11, 19)] 9 181 V [.ref (V.B + l0), .ref (V.B + l1)] G (PL (fL_undo l0 l1 G) hsL_undo V.cc V.cs) :=
  ml_of (L := [(0, .ref (V.B + l0)), (1, .ref (V.B + l1))]) hfl (by decide +kernel) (Nat.le_of_ble_eq_true rfl) rfl (fun X hl hV ok htb he => by
    subst hl; subst hV
    obtain ⟨q9, h9⟩ := Option.isSome_iff_exists.mp hq
    have h0 := h9
    unfold fL_undo at h9
    refine j_aload_n ok dL_undo_0 rfl 1 rfl ?_
    refine j_iconst (v := 0) ok dL_undo_1 (by decide) ?_
    refine j_aload_n ok dL_undo_2 rfl 0 rfl ?_
    obtain ⟨k1, h9⟩ := ck_some h9
    obtain ⟨q1, hq1, h9⟩ := obind h9
    refine k_VC ok kl_L_31 ⟨Nat.le_of_ble_eq_true rfl, Nat.le_of_ble_eq_true rfl⟩ [] k1 rfl rfl (Nat.le_of_ble_eq_true rfl) (tX6_undo ok.fl X.V l0  G hq1) dL_undo_3 (fun v hv => ?_) (fun k hk => ?_)
    · cases e1 : q1.1 with
      | inr z => rw [e1] at hv; cases hv
      | inl z =>
        rw [e1] at hv h9
        cases hv
        dsimp only [thrC] at h9
        obtain ⟨G2, hG2, h9⟩ := obind h9
        refine j_i2l ok dL_undo_6 ?_
        refine j_last ok hG2 dL_undo_7 ?_
        refine j_goto (tgt := 14) ok dL_undo_8 (by decide) ?_
        refine j_iconst (v := 0) ok dL_undo_14 (by decide) ?_
        refine J.sub [] rfl (jl_iret ok (P := PL (fL_undo l0 l1 G) hsL_undo X.V.cc X.V.cs) ⟨q9, h0, ?_⟩ dL_undo_15 he)
        cases h9
        exact ⟨rfl, rfl⟩
    · cases e1 : q1.1 with
      | inl z => rw [e1] at hk; cases hk
      | inr z =>
        rw [e1] at hk h9
        cases hk
        dsimp only [thrC] at h9
        obtain ⟨hm, h9⟩ := ite_get2 h9
        cases h9
        simp only [List.mem_cons, List.not_mem_nil, or_false] at hm
        subst hm
        · refine ⟨11, ⟨by decide, [], ⟨0, 8, 11, 19⟩, [], (by rw [htb]; rfl), (fun z hz => by cases hz), rfl, by decide, wl_L_19, rfl⟩, fun d w q hd hw => ?_⟩
          refine j_astore_n (L' := [(2, .ref q), (0, .ref (X.B + l0)), (1, .ref (X.B + l1))]) ok dL_undo_11 rfl (by decide) rfl ?_
          refine j_iconst (v := 1) ok dL_undo_12 (by decide) ?_
          exact J.sub [] rfl (jl_iret ok (P := PL (fL_undo l0 l1 G) hsL_undo X.V.cc X.V.cs) ⟨_, h0, rfl, d, w, hd, hw, rfl⟩ dL_undo_13 he))

def fL_writePosition (l0 : Nat) (l1 : Int32) (l2 : Nat) (G : Mem) : Option ((Int32 ⊕ Nat) × Mem) :=
  ck G 16 l0 <| (fX6_writePosition l0 l1 G).bind fun q1 => thrC [2] q1.1 (fun v =>
    (pJ q1.2 l2 (0 : Int32) v.toInt64).bind fun G2 => some (.inl (0 : Int32), G2)) q1.2
def hsL_writePosition : Nat → Int32
  | 2 => 1
  | _ => 0
set_option maxRecDepth 100000 in
set_option maxHeartbeats 4000000 in
theorem tL_writePosition {l : Launch} (hfl : l.stackTraces = false) (V : Wd) (l0 : Nat) (l1 : Int32) (l2 : Nat) (G : Mem) (hq : (fL_writePosition l0 l1 l2 G).isSome = true) : ML l yL_writePosition cL_writePosition 4 [(0, 9, 12, 25)] 10 205 V [.ref (V.B + l0), .int l1, .ref (V.B + l2)] G (PL (fL_writePosition l0 l1 l2 G) hsL_writePosition V.cc V.cs) :=
  ml_of (L := [(0, .ref (V.B + l0)), (1, .int l1), (2, .ref (V.B + l2))]) hfl (by decide +kernel) (Nat.le_of_ble_eq_true rfl) rfl (fun X hl hV ok htb he => by
    subst hl; subst hV
    obtain ⟨q9, h9⟩ := Option.isSome_iff_exists.mp hq
    have h0 := h9
    unfold fL_writePosition at h9
    refine j_aload_n ok dL_writePosition_0 rfl 2 rfl ?_
    refine j_iconst (v := 0) ok dL_writePosition_1 (by decide) ?_
    refine j_aload_n ok dL_writePosition_2 rfl 0 rfl ?_
    refine j_iload_n ok dL_writePosition_3 rfl 1 rfl ?_
    obtain ⟨k1, h9⟩ := ck_some h9
    obtain ⟨q1, hq1, h9⟩ := obind h9
    refine k_VC ok kl_L_104 ⟨Nat.le_of_ble_eq_true rfl, Nat.le_of_ble_eq_true rfl⟩ [.int l1] k1 rfl rfl (Nat.le_of_ble_eq_true rfl) (tX6_writePosition ok.fl X.V l0 l1 G hq1) dL_writePosition_4 (fun v hv => ?_) (fun k hk => ?_)
    · cases e1 : q1.1 with
      | inr z => rw [e1] at hv; cases hv
      | inl z =>
        rw [e1] at hv h9
        cases hv
        dsimp only [thrC] at h9
        obtain ⟨G2, hG2, h9⟩ := obind h9
        refine j_i2l ok dL_writePosition_7 ?_
        refine j_last ok hG2 dL_writePosition_8 ?_
        refine j_goto (tgt := 15) ok dL_writePosition_9 (by decide) ?_
        refine j_iconst (v := 0) ok dL_writePosition_15 (by decide) ?_
        refine J.sub [] rfl (jl_iret ok (P := PL (fL_writePosition l0 l1 l2 G) hsL_writePosition X.V.cc X.V.cs) ⟨q9, h0, ?_⟩ dL_writePosition_16 he)
        cases h9
        exact ⟨rfl, rfl⟩
    · cases e1 : q1.1 with
      | inl z => rw [e1] at hk; cases hk
      | inr z =>
        rw [e1] at hk h9
        cases hk
        dsimp only [thrC] at h9
        obtain ⟨hm, h9⟩ := ite_get2 h9
        cases h9
        simp only [List.mem_cons, List.not_mem_nil, or_false] at hm
        subst hm
        · refine ⟨12, ⟨by decide, [], ⟨0, 9, 12, 25⟩, [], (by rw [htb]; rfl), (fun z hz => by cases hz), rfl, by decide, wl_L_25, rfl⟩, fun d w q hd hw => ?_⟩
          refine j_astore_n (L' := [(3, .ref q), (0, .ref (X.B + l0)), (1, .int l1), (2, .ref (X.B + l2))]) ok dL_writePosition_12 rfl (by decide) rfl ?_
          refine j_iconst (v := 1) ok dL_writePosition_13 (by decide) ?_
          exact J.sub [] rfl (jl_iret ok (P := PL (fL_writePosition l0 l1 l2 G) hsL_writePosition X.V.cc X.V.cs) ⟨_, h0, rfl, d, w, hd, hw, rfl⟩ dL_writePosition_14 he))
