abbrev LFR : Nat := 2048
abbrev LLO : Nat := 84000
def fL_truncateInput (l0 : Nat) (l1 : Int32) (G : Mem) : Option ((Int32 ⊕ Nat) × Mem) :=
  ck G 16 l0 <| (fX6_truncateInput l0 l1 G).bind fun q1 => thrC [0] q1.1 (fun v => some (.inl v, q1.2)) q1.2
def hsL_truncateInput : Nat → Int32
  | 0 => -18
  | _ => 0
set_option maxRecDepth 100000 in
set_option maxHeartbeats 4000000 in
theorem tL_truncateInput {l : Launch} (hfl : l.stackTraces = false) (V : Wd) (l0 : Nat) (l1 : Int32) (G : Mem) (hq : (fL_truncateInput l0 l1 G).isSome = true) : ML l yL_truncateInput (Cond.codeWith yL_truncateInput cL_truncateInput 3 (some .int) [(0, 5, 6, 13)]) 9 182 V [.ref (V.B + l0), .int l1] G Value.int (PL (fL_truncateInput l0 l1 G) hsL_truncateInput V.cc V.cs) :=
  ml_of (L := [(0, .ref (V.B + l0)), (1, .int l1)]) hfl (by decide +kernel) (Nat.le_of_ble_eq_true rfl) rfl (fun X hl hV ok htb he => by
    subst hl; subst hV
    obtain ⟨q9, h9⟩ := Option.isSome_iff_exists.mp hq
    have h0 := h9
    unfold fL_truncateInput at h9
    refine j_aload_n ok dL_truncateInput_0 rfl 0 rfl ?_
    refine j_iload_n ok dL_truncateInput_1 rfl 1 rfl ?_
    obtain ⟨k1, h9⟩ := ck_some h9
    obtain ⟨q1, hq1, h9⟩ := obind h9
    refine k_VC ok kl_L_7 ⟨Nat.le_of_ble_eq_true rfl, Nat.le_of_ble_eq_true rfl⟩ [.int l1] k1 rfl rfl (Nat.le_of_ble_eq_true rfl) (tX6_truncateInput ok.fl X.V l0 l1 G hq1) dL_truncateInput_2 (fun v hv => ?_) (fun k hk => ?_)
    · cases e1 : q1.1 with
      | inr z => rw [e1] at hv; cases hv
      | inl z =>
        rw [e1] at hv h9
        cases hv
        dsimp only [thrC] at h9
        refine J.sub [] rfl (jl_iret ok (P := PL (fL_truncateInput l0 l1 G) hsL_truncateInput X.V.cc X.V.cs) ⟨q9, h0, ?_⟩ dL_truncateInput_5 he)
        cases h9
        exact ⟨rfl, rfl⟩
    · cases e1 : q1.1 with
      | inl z => rw [e1] at hk; cases hk
      | inr z =>
        rw [e1] at hk h9
        cases hk
        dsimp only [thrC] at h9
        obtain ⟨hm, h9⟩ := ite_get2 h9
        cases h9
        simp only [List.mem_cons, List.not_mem_nil, or_false] at hm
        subst hm
        · refine ⟨6, ⟨by decide, [], ⟨0, 5, 6, 13⟩, [], (by rw [htb]; rfl), (fun z hz => by cases hz), rfl, by decide, wl_L_13, rfl⟩, fun d w q hd hw => ?_⟩
          refine j_astore_n (L' := [(2, .ref q), (0, .ref (X.B + l0)), (1, .int l1)]) ok dL_truncateInput_6 rfl (by decide) rfl ?_
          refine j_bipush (v := -18) ok dL_truncateInput_7 (by decide) ?_
          exact J.sub [] rfl (jl_iret ok (P := PL (fL_truncateInput l0 l1 G) hsL_truncateInput X.V.cc X.V.cs) ⟨_, h0, rfl, d, w, hd, hw, rfl⟩ dL_truncateInput_9 he))

def fL_addNote (l0 : Nat) (l1 : Int32) (l2 : Int32) (l3 : Int32) (l4 : Int32) (l5 : Int32) (l6 : Int32) (G : Mem) : Option ((Int32 ⊕ Nat) × Mem) :=
  ck G 16 l0 <| (fX6_addNote l0 l1 l2 l3 l4 l5 l6 G).bind fun q1 => thrC [0, 1] q1.1 (fun v => some (.inl v, q1.2)) q1.2
def hsL_addNote : Nat → Int32
  | 0 => -18
  | 1 => -19
  | _ => 0
set_option maxRecDepth 100000 in
set_option maxHeartbeats 4000000 in
theorem tL_addNote {l : Launch} (hfl : l.stackTraces = false) (V : Wd) (l0 : Nat) (l1 : Int32) (l2 : Int32) (l3 : Int32) (l4 : Int32) (l5 : Int32) (l6 : Int32) (G : Mem) (hq : (fL_addNote l0 l1 l2 l3 l4 l5 l6 G).isSome = true) : ML l yL_addNote (Cond.codeWith yL_addNote cL_addNote 8 (some .int) [(0, 13, 14, 13), (0, 13, 19, 19)]) 10 264 V [.ref (V.B + l0), .int l1, .int l2, .int l3, .int l4, .int l5, .int l6] G Value.int (PL (fL_addNote l0 l1 l2 l3 l4 l5 l6 G) hsL_addNote V.cc V.cs) :=
  ml_of (L := [(0, .ref (V.B + l0)), (1, .int l1), (2, .int l2), (3, .int l3), (4, .int l4), (5, .int l5), (6, .int l6)]) hfl (by decide +kernel) (Nat.le_of_ble_eq_true rfl) rfl (fun X hl hV ok htb he => by
    subst hl; subst hV
    obtain ⟨q9, h9⟩ := Option.isSome_iff_exists.mp hq
    have h0 := h9
    unfold fL_addNote at h9
    refine j_aload_n ok dL_addNote_0 rfl 0 rfl ?_
    refine j_iload_n ok dL_addNote_1 rfl 1 rfl ?_
    refine j_iload_n ok dL_addNote_2 rfl 2 rfl ?_
    refine j_iload_n ok dL_addNote_3 rfl 3 rfl ?_
    refine j_iload ok dL_addNote_4 4 rfl ?_
    refine j_iload ok dL_addNote_6 5 rfl ?_
    refine j_iload ok dL_addNote_8 6 rfl ?_
    obtain ⟨k1, h9⟩ := ck_some h9
    obtain ⟨q1, hq1, h9⟩ := obind h9
    refine k_VC ok kl_L_15 ⟨Nat.le_of_ble_eq_true rfl, Nat.le_of_ble_eq_true rfl⟩ [.int l1, .int l2, .int l3, .int l4, .int l5, .int l6] k1 rfl rfl (Nat.le_of_ble_eq_true rfl) (tX6_addNote ok.fl X.V l0 l1 l2 l3 l4 l5 l6 G hq1) dL_addNote_10 (fun v hv => ?_) (fun k hk => ?_)
    · cases e1 : q1.1 with
      | inr z => rw [e1] at hv; cases hv
      | inl z =>
        rw [e1] at hv h9
        cases hv
        dsimp only [thrC] at h9
        refine J.sub [] rfl (jl_iret ok (P := PL (fL_addNote l0 l1 l2 l3 l4 l5 l6 G) hsL_addNote X.V.cc X.V.cs) ⟨q9, h0, ?_⟩ dL_addNote_13 he)
        cases h9
        exact ⟨rfl, rfl⟩
    · cases e1 : q1.1 with
      | inl z => rw [e1] at hk; cases hk
      | inr z =>
        rw [e1] at hk h9
        cases hk
        dsimp only [thrC] at h9
        obtain ⟨hm, h9⟩ := ite_get2 h9
        cases h9
        simp only [List.mem_cons, List.not_mem_nil, or_false] at hm
        rcases hm with rfl | rfl
        · refine ⟨14, ⟨by decide, [], ⟨0, 13, 14, 13⟩, [⟨0, 13, 19, 19⟩], (by rw [htb]; rfl), (fun z hz => by cases hz), rfl, by decide, wl_L_13, rfl⟩, fun d w q hd hw => ?_⟩
          refine j_astore (L' := [(7, .ref q), (0, .ref (X.B + l0)), (1, .int l1), (2, .int l2), (3, .int l3), (4, .int l4), (5, .int l5), (6, .int l6)]) ok dL_addNote_14 (by decide) rfl ?_
          refine j_bipush (v := -18) ok dL_addNote_16 (by decide) ?_
          exact J.sub [] rfl (jl_iret ok (P := PL (fL_addNote l0 l1 l2 l3 l4 l5 l6 G) hsL_addNote X.V.cc X.V.cs) ⟨_, h0, rfl, d, w, hd, hw, rfl⟩ dL_addNote_18 he)
        · refine ⟨19, ⟨by decide, [⟨0, 13, 14, 13⟩], ⟨0, 13, 19, 19⟩, [], (by rw [htb]; rfl), (fun z hz => by
            rw [List.mem_singleton] at hz
            subst hz
            · exact ⟨by decide, 0, by decide, by decide, wl_L_13⟩
            ), rfl, by decide, wl_L_19, rfl⟩, fun d w q hd hw => ?_⟩
          refine j_astore (L' := [(7, .ref q), (0, .ref (X.B + l0)), (1, .int l1), (2, .int l2), (3, .int l3), (4, .int l4), (5, .int l5), (6, .int l6)]) ok dL_addNote_19 (by decide) rfl ?_
          refine j_bipush (v := -19) ok dL_addNote_21 (by decide) ?_
          exact J.sub [] rfl (jl_iret ok (P := PL (fL_addNote l0 l1 l2 l3 l4 l5 l6 G) hsL_addNote X.V.cc X.V.cs) ⟨_, h0, rfl, d, w, hd, hw, rfl⟩ dL_addNote_23 he))

def fL_clarify (l0 : Nat) (l1 : Int32) (l2 : Int32) (l3 : Int32) (G : Mem) : Option ((Int32 ⊕ Nat) × Mem) :=
  ck G 16 l0 <| (fX6_clarify l0 l1 l2 l3 G).bind fun q1 => thrC [2, 0, 1] q1.1 (fun v => some (.inl v, q1.2)) q1.2
def hsL_clarify : Nat → Int32
  | 2 => -17
  | 0 => -18
  | 1 => -19
  | _ => 0
set_option maxRecDepth 100000 in
set_option maxHeartbeats 4000000 in
theorem tL_clarify {l : Launch} (hfl : l.stackTraces = false) (V : Wd) (l0 : Nat) (l1 : Int32) (l2 : Int32) (l3 : Int32) (G : Mem) (hq : (fL_clarify l0 l1 l2 l3 G).isSome = true) : ML l yL_clarify (Cond.codeWith yL_clarify cL_clarify 5 (some .int) [(0, 7, 8, 25), (0, 7, 13, 13), (0, 7, 18, 19)]) 10 241 V [.ref (V.B + l0), .int l1, .int l2, .int l3] G Value.int (PL (fL_clarify l0 l1 l2 l3 G) hsL_clarify V.cc V.cs) :=
  ml_of (L := [(0, .ref (V.B + l0)), (1, .int l1), (2, .int l2), (3, .int l3)]) hfl (by decide +kernel) (Nat.le_of_ble_eq_true rfl) rfl (fun X hl hV ok htb he => by
    subst hl; subst hV
    obtain ⟨q9, h9⟩ := Option.isSome_iff_exists.mp hq
    have h0 := h9
    unfold fL_clarify at h9
    refine j_aload_n ok dL_clarify_0 rfl 0 rfl ?_
    refine j_iload_n ok dL_clarify_1 rfl 1 rfl ?_
    refine j_iload_n ok dL_clarify_2 rfl 2 rfl ?_
    refine j_iload_n ok dL_clarify_3 rfl 3 rfl ?_
    obtain ⟨k1, h9⟩ := ck_some h9
    obtain ⟨q1, hq1, h9⟩ := obind h9
    refine k_VC ok kl_L_21 ⟨Nat.le_of_ble_eq_true rfl, Nat.le_of_ble_eq_true rfl⟩ [.int l1, .int l2, .int l3] k1 rfl rfl (Nat.le_of_ble_eq_true rfl) (tX6_clarify ok.fl X.V l0 l1 l2 l3 G hq1) dL_clarify_4 (fun v hv => ?_) (fun k hk => ?_)
    · cases e1 : q1.1 with
      | inr z => rw [e1] at hv; cases hv
      | inl z =>
        rw [e1] at hv h9
        cases hv
        dsimp only [thrC] at h9
        refine J.sub [] rfl (jl_iret ok (P := PL (fL_clarify l0 l1 l2 l3 G) hsL_clarify X.V.cc X.V.cs) ⟨q9, h0, ?_⟩ dL_clarify_7 he)
        cases h9
        exact ⟨rfl, rfl⟩
    · cases e1 : q1.1 with
      | inl z => rw [e1] at hk; cases hk
      | inr z =>
        rw [e1] at hk h9
        cases hk
        dsimp only [thrC] at h9
        obtain ⟨hm, h9⟩ := ite_get2 h9
        cases h9
        simp only [List.mem_cons, List.not_mem_nil, or_false] at hm
        rcases hm with rfl | rfl | rfl
        · refine ⟨8, ⟨by decide, [], ⟨0, 7, 8, 25⟩, [⟨0, 7, 13, 13⟩, ⟨0, 7, 18, 19⟩], (by rw [htb]; rfl), (fun z hz => by cases hz), rfl, by decide, wl_L_25, rfl⟩, fun d w q hd hw => ?_⟩
          refine j_astore (L' := [(4, .ref q), (0, .ref (X.B + l0)), (1, .int l1), (2, .int l2), (3, .int l3)]) ok dL_clarify_8 (by decide) rfl ?_
          refine j_bipush (v := -17) ok dL_clarify_10 (by decide) ?_
          exact J.sub [] rfl (jl_iret ok (P := PL (fL_clarify l0 l1 l2 l3 G) hsL_clarify X.V.cc X.V.cs) ⟨_, h0, rfl, d, w, hd, hw, rfl⟩ dL_clarify_12 he)
        · refine ⟨13, ⟨by decide, [⟨0, 7, 8, 25⟩], ⟨0, 7, 13, 13⟩, [⟨0, 7, 18, 19⟩], (by rw [htb]; rfl), (fun z hz => by
            rw [List.mem_singleton] at hz
            subst hz
            · exact ⟨by decide, 2, by decide, by decide, wl_L_25⟩
            ), rfl, by decide, wl_L_13, rfl⟩, fun d w q hd hw => ?_⟩
          refine j_astore (L' := [(4, .ref q), (0, .ref (X.B + l0)), (1, .int l1), (2, .int l2), (3, .int l3)]) ok dL_clarify_13 (by decide) rfl ?_
          refine j_bipush (v := -18) ok dL_clarify_15 (by decide) ?_
          exact J.sub [] rfl (jl_iret ok (P := PL (fL_clarify l0 l1 l2 l3 G) hsL_clarify X.V.cc X.V.cs) ⟨_, h0, rfl, d, w, hd, hw, rfl⟩ dL_clarify_17 he)
        · refine ⟨18, ⟨by decide, [⟨0, 7, 8, 25⟩, ⟨0, 7, 13, 13⟩], ⟨0, 7, 18, 19⟩, [], (by rw [htb]; rfl), (fun z hz => by
            simp only [List.mem_cons, List.not_mem_nil, or_false] at hz
            rcases hz with rfl | rfl
            · exact ⟨by decide, 2, by decide, by decide, wl_L_25⟩
            · exact ⟨by decide, 0, by decide, by decide, wl_L_13⟩
            ), rfl, by decide, wl_L_19, rfl⟩, fun d w q hd hw => ?_⟩
          refine j_astore (L' := [(4, .ref q), (0, .ref (X.B + l0)), (1, .int l1), (2, .int l2), (3, .int l3)]) ok dL_clarify_18 (by decide) rfl ?_
          refine j_bipush (v := -19) ok dL_clarify_20 (by decide) ?_
          exact J.sub [] rfl (jl_iret ok (P := PL (fL_clarify l0 l1 l2 l3 G) hsL_clarify X.V.cc X.V.cs) ⟨_, h0, rfl, d, w, hd, hw, rfl⟩ dL_clarify_22 he))

def fL_dropNote (l0 : Nat) (G : Mem) : Option ((Int32 ⊕ Nat) × Mem) :=
  ck G 16 l0 <| (fX6_dropNote l0  G).bind fun q1 => thrC [1] q1.1 (fun v => some (.inl v, q1.2)) q1.2
def hsL_dropNote : Nat → Int32
  | 1 => -19
  | _ => 0
set_option maxRecDepth 100000 in
set_option maxHeartbeats 4000000 in
theorem tL_dropNote {l : Launch} (hfl : l.stackTraces = false) (V : Wd) (l0 : Nat) (G : Mem) (hq : (fL_dropNote l0 G).isSome = true) : ML l yL_dropNote (Cond.codeWith yL_dropNote cL_dropNote 2 (some .int) [(0, 4, 5, 19)]) 9 180 V [.ref (V.B + l0)] G Value.int (PL (fL_dropNote l0 G) hsL_dropNote V.cc V.cs) :=
  ml_of (L := [(0, .ref (V.B + l0))]) hfl (by decide +kernel) (Nat.le_of_ble_eq_true rfl) rfl (fun X hl hV ok htb he => by
    subst hl; subst hV
    obtain ⟨q9, h9⟩ := Option.isSome_iff_exists.mp hq
    have h0 := h9
    unfold fL_dropNote at h9
    refine j_aload_n ok dL_dropNote_0 rfl 0 rfl ?_
    obtain ⟨k1, h9⟩ := ck_some h9
    obtain ⟨q1, hq1, h9⟩ := obind h9
    refine k_VC ok kl_L_27 ⟨Nat.le_of_ble_eq_true rfl, Nat.le_of_ble_eq_true rfl⟩ [] k1 rfl rfl (Nat.le_of_ble_eq_true rfl) (tX6_dropNote ok.fl X.V l0  G hq1) dL_dropNote_1 (fun v hv => ?_) (fun k hk => ?_)
    · cases e1 : q1.1 with
      | inr z => rw [e1] at hv; cases hv
      | inl z =>
        rw [e1] at hv h9
        cases hv
        dsimp only [thrC] at h9
        refine J.sub [] rfl (jl_iret ok (P := PL (fL_dropNote l0 G) hsL_dropNote X.V.cc X.V.cs) ⟨q9, h0, ?_⟩ dL_dropNote_4 he)
        cases h9
        exact ⟨rfl, rfl⟩
    · cases e1 : q1.1 with
      | inl z => rw [e1] at hk; cases hk
      | inr z =>
        rw [e1] at hk h9
        cases hk
        dsimp only [thrC] at h9
        obtain ⟨hm, h9⟩ := ite_get2 h9
        cases h9
        simp only [List.mem_cons, List.not_mem_nil, or_false] at hm
        subst hm
        · refine ⟨5, ⟨by decide, [], ⟨0, 4, 5, 19⟩, [], (by rw [htb]; rfl), (fun z hz => by cases hz), rfl, by decide, wl_L_19, rfl⟩, fun d w q hd hw => ?_⟩
          refine j_astore_n (L' := [(1, .ref q), (0, .ref (X.B + l0))]) ok dL_dropNote_5 rfl (by decide) rfl ?_
          refine j_bipush (v := -19) ok dL_dropNote_6 (by decide) ?_
          exact J.sub [] rfl (jl_iret ok (P := PL (fL_dropNote l0 G) hsL_dropNote X.V.cc X.V.cs) ⟨_, h0, rfl, d, w, hd, hw, rfl⟩ dL_dropNote_8 he))

def fL_undo (l0 : Nat) (G : Mem) : Option ((Int32 ⊕ Nat) × Mem) :=
  ck G 16 l0 <| (fX6_undo l0  G).bind fun q1 => thrC [1] q1.1 (fun v => some (.inl v, q1.2)) q1.2
def hsL_undo : Nat → Int32
  | 1 => -19
  | _ => 0
set_option maxRecDepth 100000 in
set_option maxHeartbeats 4000000 in
theorem tL_undo {l : Launch} (hfl : l.stackTraces = false) (V : Wd) (l0 : Nat) (G : Mem) (hq : (fL_undo l0 G).isSome = true) : ML l yL_undo (Cond.codeWith yL_undo cL_undo 2 (some .int) [(0, 4, 5, 19)]) 9 181 V [.ref (V.B + l0)] G Value.int (PL (fL_undo l0 G) hsL_undo V.cc V.cs) :=
  ml_of (L := [(0, .ref (V.B + l0))]) hfl (by decide +kernel) (Nat.le_of_ble_eq_true rfl) rfl (fun X hl hV ok htb he => by
    subst hl; subst hV
    obtain ⟨q9, h9⟩ := Option.isSome_iff_exists.mp hq
    have h0 := h9
    unfold fL_undo at h9
    refine j_aload_n ok dL_undo_0 rfl 0 rfl ?_
    obtain ⟨k1, h9⟩ := ck_some h9
    obtain ⟨q1, hq1, h9⟩ := obind h9
    refine k_VC ok kl_L_31 ⟨Nat.le_of_ble_eq_true rfl, Nat.le_of_ble_eq_true rfl⟩ [] k1 rfl rfl (Nat.le_of_ble_eq_true rfl) (tX6_undo ok.fl X.V l0  G hq1) dL_undo_1 (fun v hv => ?_) (fun k hk => ?_)
    · cases e1 : q1.1 with
      | inr z => rw [e1] at hv; cases hv
      | inl z =>
        rw [e1] at hv h9
        cases hv
        dsimp only [thrC] at h9
        refine J.sub [] rfl (jl_iret ok (P := PL (fL_undo l0 G) hsL_undo X.V.cc X.V.cs) ⟨q9, h0, ?_⟩ dL_undo_4 he)
        cases h9
        exact ⟨rfl, rfl⟩
    · cases e1 : q1.1 with
      | inl z => rw [e1] at hk; cases hk
      | inr z =>
        rw [e1] at hk h9
        cases hk
        dsimp only [thrC] at h9
        obtain ⟨hm, h9⟩ := ite_get2 h9
        cases h9
        simp only [List.mem_cons, List.not_mem_nil, or_false] at hm
        subst hm
        · refine ⟨5, ⟨by decide, [], ⟨0, 4, 5, 19⟩, [], (by rw [htb]; rfl), (fun z hz => by cases hz), rfl, by decide, wl_L_19, rfl⟩, fun d w q hd hw => ?_⟩
          refine j_astore_n (L' := [(1, .ref q), (0, .ref (X.B + l0))]) ok dL_undo_5 rfl (by decide) rfl ?_
          refine j_bipush (v := -19) ok dL_undo_6 (by decide) ?_
          exact J.sub [] rfl (jl_iret ok (P := PL (fL_undo l0 G) hsL_undo X.V.cc X.V.cs) ⟨_, h0, rfl, d, w, hd, hw, rfl⟩ dL_undo_8 he))

def fL_noteKind (l0 : Nat) (l1 : Int32) (G : Mem) : Option ((Int32 ⊕ Nat) × Mem) :=
  ck G 16 l0 <| (fX6_noteKind l0 l1 G).bind fun q1 => thrC [2] q1.1 (fun v => some (.inl v, q1.2)) q1.2
def hsL_noteKind : Nat → Int32
  | 2 => -17
  | _ => 0
set_option maxRecDepth 100000 in
set_option maxHeartbeats 4000000 in
theorem tL_noteKind {l : Launch} (hfl : l.stackTraces = false) (V : Wd) (l0 : Nat) (l1 : Int32) (G : Mem) (hq : (fL_noteKind l0 l1 G).isSome = true) : ML l yL_noteKind (Cond.codeWith yL_noteKind cL_noteKind 3 (some .int) [(0, 5, 6, 25)]) 10 202 V [.ref (V.B + l0), .int l1] G Value.int (PL (fL_noteKind l0 l1 G) hsL_noteKind V.cc V.cs) :=
  ml_of (L := [(0, .ref (V.B + l0)), (1, .int l1)]) hfl (by decide +kernel) (Nat.le_of_ble_eq_true rfl) rfl (fun X hl hV ok htb he => by
    subst hl; subst hV
    obtain ⟨q9, h9⟩ := Option.isSome_iff_exists.mp hq
    have h0 := h9
    unfold fL_noteKind at h9
    refine j_aload_n ok dL_noteKind_0 rfl 0 rfl ?_
    refine j_iload_n ok dL_noteKind_1 rfl 1 rfl ?_
    obtain ⟨k1, h9⟩ := ck_some h9
    obtain ⟨q1, hq1, h9⟩ := obind h9
    refine k_VC ok kl_L_34 ⟨Nat.le_of_ble_eq_true rfl, Nat.le_of_ble_eq_true rfl⟩ [.int l1] k1 rfl rfl (Nat.le_of_ble_eq_true rfl) (tX6_noteKind ok.fl X.V l0 l1 G hq1) dL_noteKind_2 (fun v hv => ?_) (fun k hk => ?_)
    · cases e1 : q1.1 with
      | inr z => rw [e1] at hv; cases hv
      | inl z =>
        rw [e1] at hv h9
        cases hv
        dsimp only [thrC] at h9
        refine J.sub [] rfl (jl_iret ok (P := PL (fL_noteKind l0 l1 G) hsL_noteKind X.V.cc X.V.cs) ⟨q9, h0, ?_⟩ dL_noteKind_5 he)
        cases h9
        exact ⟨rfl, rfl⟩
    · cases e1 : q1.1 with
      | inl z => rw [e1] at hk; cases hk
      | inr z =>
        rw [e1] at hk h9
        cases hk
        dsimp only [thrC] at h9
        obtain ⟨hm, h9⟩ := ite_get2 h9
        cases h9
        simp only [List.mem_cons, List.not_mem_nil, or_false] at hm
        subst hm
        · refine ⟨6, ⟨by decide, [], ⟨0, 5, 6, 25⟩, [], (by rw [htb]; rfl), (fun z hz => by cases hz), rfl, by decide, wl_L_25, rfl⟩, fun d w q hd hw => ?_⟩
          refine j_astore_n (L' := [(2, .ref q), (0, .ref (X.B + l0)), (1, .int l1)]) ok dL_noteKind_6 rfl (by decide) rfl ?_
          refine j_bipush (v := -17) ok dL_noteKind_7 (by decide) ?_
          exact J.sub [] rfl (jl_iret ok (P := PL (fL_noteKind l0 l1 G) hsL_noteKind X.V.cc X.V.cs) ⟨_, h0, rfl, d, w, hd, hw, rfl⟩ dL_noteKind_9 he))

def fL_noteFromColumn (l0 : Nat) (l1 : Int32) (G : Mem) : Option ((Int32 ⊕ Nat) × Mem) :=
  ck G 16 l0 <| (fX6_noteFromColumn l0 l1 G).bind fun q1 => thrC [2] q1.1 (fun v => some (.inl v, q1.2)) q1.2
def hsL_noteFromColumn : Nat → Int32
  | 2 => -17
  | _ => 0
set_option maxRecDepth 100000 in
set_option maxHeartbeats 4000000 in
theorem tL_noteFromColumn {l : Launch} (hfl : l.stackTraces = false) (V : Wd) (l0 : Nat) (l1 : Int32) (G : Mem) (hq : (fL_noteFromColumn l0 l1 G).isSome = true) : ML l yL_noteFromColumn (Cond.codeWith yL_noteFromColumn cL_noteFromColumn 3 (some .int) [(0, 5, 6, 25)]) 10 202 V [.ref (V.B + l0), .int l1] G Value.int (PL (fL_noteFromColumn l0 l1 G) hsL_noteFromColumn V.cc V.cs) :=
  ml_of (L := [(0, .ref (V.B + l0)), (1, .int l1)]) hfl (by decide +kernel) (Nat.le_of_ble_eq_true rfl) rfl (fun X hl hV ok htb he => by
    subst hl; subst hV
    obtain ⟨q9, h9⟩ := Option.isSome_iff_exists.mp hq
    have h0 := h9
    unfold fL_noteFromColumn at h9
    refine j_aload_n ok dL_noteFromColumn_0 rfl 0 rfl ?_
    refine j_iload_n ok dL_noteFromColumn_1 rfl 1 rfl ?_
    obtain ⟨k1, h9⟩ := ck_some h9
    obtain ⟨q1, hq1, h9⟩ := obind h9
    refine k_VC ok kl_L_37 ⟨Nat.le_of_ble_eq_true rfl, Nat.le_of_ble_eq_true rfl⟩ [.int l1] k1 rfl rfl (Nat.le_of_ble_eq_true rfl) (tX6_noteFromColumn ok.fl X.V l0 l1 G hq1) dL_noteFromColumn_2 (fun v hv => ?_) (fun k hk => ?_)
    · cases e1 : q1.1 with
      | inr z => rw [e1] at hv; cases hv
      | inl z =>
        rw [e1] at hv h9
        cases hv
        dsimp only [thrC] at h9
        refine J.sub [] rfl (jl_iret ok (P := PL (fL_noteFromColumn l0 l1 G) hsL_noteFromColumn X.V.cc X.V.cs) ⟨q9, h0, ?_⟩ dL_noteFromColumn_5 he)
        cases h9
        exact ⟨rfl, rfl⟩
    · cases e1 : q1.1 with
      | inl z => rw [e1] at hk; cases hk
      | inr z =>
        rw [e1] at hk h9
        cases hk
        dsimp only [thrC] at h9
        obtain ⟨hm, h9⟩ := ite_get2 h9
        cases h9
        simp only [List.mem_cons, List.not_mem_nil, or_false] at hm
        subst hm
        · refine ⟨6, ⟨by decide, [], ⟨0, 5, 6, 25⟩, [], (by rw [htb]; rfl), (fun z hz => by cases hz), rfl, by decide, wl_L_25, rfl⟩, fun d w q hd hw => ?_⟩
          refine j_astore_n (L' := [(2, .ref q), (0, .ref (X.B + l0)), (1, .int l1)]) ok dL_noteFromColumn_6 rfl (by decide) rfl ?_
          refine j_bipush (v := -17) ok dL_noteFromColumn_7 (by decide) ?_
          exact J.sub [] rfl (jl_iret ok (P := PL (fL_noteFromColumn l0 l1 G) hsL_noteFromColumn X.V.cc X.V.cs) ⟨_, h0, rfl, d, w, hd, hw, rfl⟩ dL_noteFromColumn_9 he))

def fL_noteFromRow (l0 : Nat) (l1 : Int32) (G : Mem) : Option ((Int32 ⊕ Nat) × Mem) :=
  ck G 16 l0 <| (fX6_noteFromRow l0 l1 G).bind fun q1 => thrC [2] q1.1 (fun v => some (.inl v, q1.2)) q1.2
def hsL_noteFromRow : Nat → Int32
  | 2 => -17
  | _ => 0
set_option maxRecDepth 100000 in
set_option maxHeartbeats 4000000 in
theorem tL_noteFromRow {l : Launch} (hfl : l.stackTraces = false) (V : Wd) (l0 : Nat) (l1 : Int32) (G : Mem) (hq : (fL_noteFromRow l0 l1 G).isSome = true) : ML l yL_noteFromRow (Cond.codeWith yL_noteFromRow cL_noteFromRow 3 (some .int) [(0, 5, 6, 25)]) 10 202 V [.ref (V.B + l0), .int l1] G Value.int (PL (fL_noteFromRow l0 l1 G) hsL_noteFromRow V.cc V.cs) :=
  ml_of (L := [(0, .ref (V.B + l0)), (1, .int l1)]) hfl (by decide +kernel) (Nat.le_of_ble_eq_true rfl) rfl (fun X hl hV ok htb he => by
    subst hl; subst hV
    obtain ⟨q9, h9⟩ := Option.isSome_iff_exists.mp hq
    have h0 := h9
    unfold fL_noteFromRow at h9
    refine j_aload_n ok dL_noteFromRow_0 rfl 0 rfl ?_
    refine j_iload_n ok dL_noteFromRow_1 rfl 1 rfl ?_
    obtain ⟨k1, h9⟩ := ck_some h9
    obtain ⟨q1, hq1, h9⟩ := obind h9
    refine k_VC ok kl_L_40 ⟨Nat.le_of_ble_eq_true rfl, Nat.le_of_ble_eq_true rfl⟩ [.int l1] k1 rfl rfl (Nat.le_of_ble_eq_true rfl) (tX6_noteFromRow ok.fl X.V l0 l1 G hq1) dL_noteFromRow_2 (fun v hv => ?_) (fun k hk => ?_)
    · cases e1 : q1.1 with
      | inr z => rw [e1] at hv; cases hv
      | inl z =>
        rw [e1] at hv h9
        cases hv
        dsimp only [thrC] at h9
        refine J.sub [] rfl (jl_iret ok (P := PL (fL_noteFromRow l0 l1 G) hsL_noteFromRow X.V.cc X.V.cs) ⟨q9, h0, ?_⟩ dL_noteFromRow_5 he)
        cases h9
        exact ⟨rfl, rfl⟩
    · cases e1 : q1.1 with
      | inl z => rw [e1] at hk; cases hk
      | inr z =>
        rw [e1] at hk h9
        cases hk
        dsimp only [thrC] at h9
        obtain ⟨hm, h9⟩ := ite_get2 h9
        cases h9
        simp only [List.mem_cons, List.not_mem_nil, or_false] at hm
        subst hm
        · refine ⟨6, ⟨by decide, [], ⟨0, 5, 6, 25⟩, [], (by rw [htb]; rfl), (fun z hz => by cases hz), rfl, by decide, wl_L_25, rfl⟩, fun d w q hd hw => ?_⟩
          refine j_astore_n (L' := [(2, .ref q), (0, .ref (X.B + l0)), (1, .int l1)]) ok dL_noteFromRow_6 rfl (by decide) rfl ?_
          refine j_bipush (v := -17) ok dL_noteFromRow_7 (by decide) ?_
          exact J.sub [] rfl (jl_iret ok (P := PL (fL_noteFromRow l0 l1 G) hsL_noteFromRow X.V.cc X.V.cs) ⟨_, h0, rfl, d, w, hd, hw, rfl⟩ dL_noteFromRow_9 he))

def fL_noteToColumn (l0 : Nat) (l1 : Int32) (G : Mem) : Option ((Int32 ⊕ Nat) × Mem) :=
  ck G 16 l0 <| (fX6_noteToColumn l0 l1 G).bind fun q1 => thrC [2] q1.1 (fun v => some (.inl v, q1.2)) q1.2
def hsL_noteToColumn : Nat → Int32
  | 2 => -17
  | _ => 0
set_option maxRecDepth 100000 in
set_option maxHeartbeats 4000000 in
theorem tL_noteToColumn {l : Launch} (hfl : l.stackTraces = false) (V : Wd) (l0 : Nat) (l1 : Int32) (G : Mem) (hq : (fL_noteToColumn l0 l1 G).isSome = true) : ML l yL_noteToColumn (Cond.codeWith yL_noteToColumn cL_noteToColumn 3 (some .int) [(0, 5, 6, 25)]) 10 202 V [.ref (V.B + l0), .int l1] G Value.int (PL (fL_noteToColumn l0 l1 G) hsL_noteToColumn V.cc V.cs) :=
  ml_of (L := [(0, .ref (V.B + l0)), (1, .int l1)]) hfl (by decide +kernel) (Nat.le_of_ble_eq_true rfl) rfl (fun X hl hV ok htb he => by
    subst hl; subst hV
    obtain ⟨q9, h9⟩ := Option.isSome_iff_exists.mp hq
    have h0 := h9
    unfold fL_noteToColumn at h9
    refine j_aload_n ok dL_noteToColumn_0 rfl 0 rfl ?_
    refine j_iload_n ok dL_noteToColumn_1 rfl 1 rfl ?_
    obtain ⟨k1, h9⟩ := ck_some h9
    obtain ⟨q1, hq1, h9⟩ := obind h9
    refine k_VC ok kl_L_43 ⟨Nat.le_of_ble_eq_true rfl, Nat.le_of_ble_eq_true rfl⟩ [.int l1] k1 rfl rfl (Nat.le_of_ble_eq_true rfl) (tX6_noteToColumn ok.fl X.V l0 l1 G hq1) dL_noteToColumn_2 (fun v hv => ?_) (fun k hk => ?_)
    · cases e1 : q1.1 with
      | inr z => rw [e1] at hv; cases hv
      | inl z =>
        rw [e1] at hv h9
        cases hv
        dsimp only [thrC] at h9
        refine J.sub [] rfl (jl_iret ok (P := PL (fL_noteToColumn l0 l1 G) hsL_noteToColumn X.V.cc X.V.cs) ⟨q9, h0, ?_⟩ dL_noteToColumn_5 he)
        cases h9
        exact ⟨rfl, rfl⟩
    · cases e1 : q1.1 with
      | inl z => rw [e1] at hk; cases hk
      | inr z =>
        rw [e1] at hk h9
        cases hk
        dsimp only [thrC] at h9
        obtain ⟨hm, h9⟩ := ite_get2 h9
        cases h9
        simp only [List.mem_cons, List.not_mem_nil, or_false] at hm
        subst hm
        · refine ⟨6, ⟨by decide, [], ⟨0, 5, 6, 25⟩, [], (by rw [htb]; rfl), (fun z hz => by cases hz), rfl, by decide, wl_L_25, rfl⟩, fun d w q hd hw => ?_⟩
          refine j_astore_n (L' := [(2, .ref q), (0, .ref (X.B + l0)), (1, .int l1)]) ok dL_noteToColumn_6 rfl (by decide) rfl ?_
          refine j_bipush (v := -17) ok dL_noteToColumn_7 (by decide) ?_
          exact J.sub [] rfl (jl_iret ok (P := PL (fL_noteToColumn l0 l1 G) hsL_noteToColumn X.V.cc X.V.cs) ⟨_, h0, rfl, d, w, hd, hw, rfl⟩ dL_noteToColumn_9 he))

def fL_noteToRow (l0 : Nat) (l1 : Int32) (G : Mem) : Option ((Int32 ⊕ Nat) × Mem) :=
  ck G 16 l0 <| (fX6_noteToRow l0 l1 G).bind fun q1 => thrC [2] q1.1 (fun v => some (.inl v, q1.2)) q1.2
def hsL_noteToRow : Nat → Int32
  | 2 => -17
  | _ => 0
set_option maxRecDepth 100000 in
set_option maxHeartbeats 4000000 in
theorem tL_noteToRow {l : Launch} (hfl : l.stackTraces = false) (V : Wd) (l0 : Nat) (l1 : Int32) (G : Mem) (hq : (fL_noteToRow l0 l1 G).isSome = true) : ML l yL_noteToRow (Cond.codeWith yL_noteToRow cL_noteToRow 3 (some .int) [(0, 5, 6, 25)]) 10 202 V [.ref (V.B + l0), .int l1] G Value.int (PL (fL_noteToRow l0 l1 G) hsL_noteToRow V.cc V.cs) :=
  ml_of (L := [(0, .ref (V.B + l0)), (1, .int l1)]) hfl (by decide +kernel) (Nat.le_of_ble_eq_true rfl) rfl (fun X hl hV ok htb he => by
    subst hl; subst hV
    obtain ⟨q9, h9⟩ := Option.isSome_iff_exists.mp hq
    have h0 := h9
    unfold fL_noteToRow at h9
    refine j_aload_n ok dL_noteToRow_0 rfl 0 rfl ?_
    refine j_iload_n ok dL_noteToRow_1 rfl 1 rfl ?_
    obtain ⟨k1, h9⟩ := ck_some h9
    obtain ⟨q1, hq1, h9⟩ := obind h9
    refine k_VC ok kl_L_46 ⟨Nat.le_of_ble_eq_true rfl, Nat.le_of_ble_eq_true rfl⟩ [.int l1] k1 rfl rfl (Nat.le_of_ble_eq_true rfl) (tX6_noteToRow ok.fl X.V l0 l1 G hq1) dL_noteToRow_2 (fun v hv => ?_) (fun k hk => ?_)
    · cases e1 : q1.1 with
      | inr z => rw [e1] at hv; cases hv
      | inl z =>
        rw [e1] at hv h9
        cases hv
        dsimp only [thrC] at h9
        refine J.sub [] rfl (jl_iret ok (P := PL (fL_noteToRow l0 l1 G) hsL_noteToRow X.V.cc X.V.cs) ⟨q9, h0, ?_⟩ dL_noteToRow_5 he)
        cases h9
        exact ⟨rfl, rfl⟩
    · cases e1 : q1.1 with
      | inl z => rw [e1] at hk; cases hk
      | inr z =>
        rw [e1] at hk h9
        cases hk
        dsimp only [thrC] at h9
        obtain ⟨hm, h9⟩ := ite_get2 h9
        cases h9
        simp only [List.mem_cons, List.not_mem_nil, or_false] at hm
        subst hm
        · refine ⟨6, ⟨by decide, [], ⟨0, 5, 6, 25⟩, [], (by rw [htb]; rfl), (fun z hz => by cases hz), rfl, by decide, wl_L_25, rfl⟩, fun d w q hd hw => ?_⟩
          refine j_astore_n (L' := [(2, .ref q), (0, .ref (X.B + l0)), (1, .int l1)]) ok dL_noteToRow_6 rfl (by decide) rfl ?_
          refine j_bipush (v := -17) ok dL_noteToRow_7 (by decide) ?_
          exact J.sub [] rfl (jl_iret ok (P := PL (fL_noteToRow l0 l1 G) hsL_noteToRow X.V.cc X.V.cs) ⟨_, h0, rfl, d, w, hd, hw, rfl⟩ dL_noteToRow_9 he))

def fL_doubt (l0 : Nat) (l1 : Int32) (G : Mem) : Option ((Int32 ⊕ Nat) × Mem) :=
  ck G 16 l0 <| (fX6_doubt l0 l1 G).bind fun q1 => thrC [2] q1.1 (fun v => some (.inl v, q1.2)) q1.2
def hsL_doubt : Nat → Int32
  | 2 => -17
  | _ => 0
set_option maxRecDepth 100000 in
set_option maxHeartbeats 4000000 in
theorem tL_doubt {l : Launch} (hfl : l.stackTraces = false) (V : Wd) (l0 : Nat) (l1 : Int32) (G : Mem) (hq : (fL_doubt l0 l1 G).isSome = true) : ML l yL_doubt (Cond.codeWith yL_doubt cL_doubt 3 (some .int) [(0, 5, 6, 25)]) 10 202 V [.ref (V.B + l0), .int l1] G Value.int (PL (fL_doubt l0 l1 G) hsL_doubt V.cc V.cs) :=
  ml_of (L := [(0, .ref (V.B + l0)), (1, .int l1)]) hfl (by decide +kernel) (Nat.le_of_ble_eq_true rfl) rfl (fun X hl hV ok htb he => by
    subst hl; subst hV
    obtain ⟨q9, h9⟩ := Option.isSome_iff_exists.mp hq
    have h0 := h9
    unfold fL_doubt at h9
    refine j_aload_n ok dL_doubt_0 rfl 0 rfl ?_
    refine j_iload_n ok dL_doubt_1 rfl 1 rfl ?_
    obtain ⟨k1, h9⟩ := ck_some h9
    obtain ⟨q1, hq1, h9⟩ := obind h9
    refine k_VC ok kl_L_49 ⟨Nat.le_of_ble_eq_true rfl, Nat.le_of_ble_eq_true rfl⟩ [.int l1] k1 rfl rfl (Nat.le_of_ble_eq_true rfl) (tX6_doubt ok.fl X.V l0 l1 G hq1) dL_doubt_2 (fun v hv => ?_) (fun k hk => ?_)
    · cases e1 : q1.1 with
      | inr z => rw [e1] at hv; cases hv
      | inl z =>
        rw [e1] at hv h9
        cases hv
        dsimp only [thrC] at h9
        refine J.sub [] rfl (jl_iret ok (P := PL (fL_doubt l0 l1 G) hsL_doubt X.V.cc X.V.cs) ⟨q9, h0, ?_⟩ dL_doubt_5 he)
        cases h9
        exact ⟨rfl, rfl⟩
    · cases e1 : q1.1 with
      | inl z => rw [e1] at hk; cases hk
      | inr z =>
        rw [e1] at hk h9
        cases hk
        dsimp only [thrC] at h9
        obtain ⟨hm, h9⟩ := ite_get2 h9
        cases h9
        simp only [List.mem_cons, List.not_mem_nil, or_false] at hm
        subst hm
        · refine ⟨6, ⟨by decide, [], ⟨0, 5, 6, 25⟩, [], (by rw [htb]; rfl), (fun z hz => by cases hz), rfl, by decide, wl_L_25, rfl⟩, fun d w q hd hw => ?_⟩
          refine j_astore_n (L' := [(2, .ref q), (0, .ref (X.B + l0)), (1, .int l1)]) ok dL_doubt_6 rfl (by decide) rfl ?_
          refine j_bipush (v := -17) ok dL_doubt_7 (by decide) ?_
          exact J.sub [] rfl (jl_iret ok (P := PL (fL_doubt l0 l1 G) hsL_doubt X.V.cc X.V.cs) ⟨_, h0, rfl, d, w, hd, hw, rfl⟩ dL_doubt_9 he))

def fL_noteTakes (l0 : Nat) (l1 : Int32) (G : Mem) : Option ((Int32 ⊕ Nat) × Mem) :=
  ck G 16 l0 <| (fX6_noteTakes l0 l1 G).bind fun q1 => thrC [2] q1.1 (fun v => some (.inl (bz v), q1.2)) q1.2
def hsL_noteTakes : Nat → Int32
  | 2 => -17
  | _ => 0
set_option maxRecDepth 100000 in
set_option maxHeartbeats 4000000 in
theorem tL_noteTakes {l : Launch} (hfl : l.stackTraces = false) (V : Wd) (l0 : Nat) (l1 : Int32) (G : Mem) (hq : (fL_noteTakes l0 l1 G).isSome = true) : ML l yL_noteTakes (Cond.codeWith yL_noteTakes cL_noteTakes 3 (some .int) [(0, 13, 14, 25)]) 10 202 V [.ref (V.B + l0), .int l1] G Value.int (PL (fL_noteTakes l0 l1 G) hsL_noteTakes V.cc V.cs) :=
  ml_of (L := [(0, .ref (V.B + l0)), (1, .int l1)]) hfl (by decide +kernel) (Nat.le_of_ble_eq_true rfl) rfl (fun X hl hV ok htb he => by
    subst hl; subst hV
    obtain ⟨q9, h9⟩ := Option.isSome_iff_exists.mp hq
    have h0 := h9
    unfold fL_noteTakes at h9
    refine j_aload_n ok dL_noteTakes_0 rfl 0 rfl ?_
    refine j_iload_n ok dL_noteTakes_1 rfl 1 rfl ?_
    obtain ⟨k1, h9⟩ := ck_some h9
    obtain ⟨q1, hq1, h9⟩ := obind h9
    refine k_VC ok kl_L_52 ⟨Nat.le_of_ble_eq_true rfl, Nat.le_of_ble_eq_true rfl⟩ [.int l1] k1 rfl rfl (Nat.le_of_ble_eq_true rfl) (tX6_noteTakes ok.fl X.V l0 l1 G hq1) dL_noteTakes_2 (fun v hv => ?_) (fun k hk => ?_)
    · cases e1 : q1.1 with
      | inr z => rw [e1] at hv; cases hv
      | inl z =>
        rw [e1] at hv h9
        cases hv
        dsimp only [thrC] at h9
        refine j_nz ok dL_noteTakes_5 dL_noteTakes_8 dL_noteTakes_9 dL_noteTakes_12 ?_
        refine J.sub [] rfl (jl_iret ok (P := PL (fL_noteTakes l0 l1 G) hsL_noteTakes X.V.cc X.V.cs) ⟨q9, h0, ?_⟩ dL_noteTakes_13 he)
        cases h9
        exact ⟨rfl, rfl⟩
    · cases e1 : q1.1 with
      | inl z => rw [e1] at hk; cases hk
      | inr z =>
        rw [e1] at hk h9
        cases hk
        dsimp only [thrC] at h9
        obtain ⟨hm, h9⟩ := ite_get2 h9
        cases h9
        simp only [List.mem_cons, List.not_mem_nil, or_false] at hm
        subst hm
        · refine ⟨14, ⟨by decide, [], ⟨0, 13, 14, 25⟩, [], (by rw [htb]; rfl), (fun z hz => by cases hz), rfl, by decide, wl_L_25, rfl⟩, fun d w q hd hw => ?_⟩
          refine j_astore_n (L' := [(2, .ref q), (0, .ref (X.B + l0)), (1, .int l1)]) ok dL_noteTakes_14 rfl (by decide) rfl ?_
          refine j_bipush (v := -17) ok dL_noteTakes_15 (by decide) ?_
          exact J.sub [] rfl (jl_iret ok (P := PL (fL_noteTakes l0 l1 G) hsL_noteTakes X.V.cc X.V.cs) ⟨_, h0, rfl, d, w, hd, hw, rfl⟩ dL_noteTakes_17 he))

def fL_positionsAfter (l0 : Nat) (l1 : Int32) (G : Mem) : Option ((Int32 ⊕ Nat) × Mem) :=
  ck G 16 l0 <| (fX6_positionsAfter l0 l1 G).bind fun q1 => thrC [0] q1.1 (fun v => some (.inl v, q1.2)) q1.2
def hsL_positionsAfter : Nat → Int32
  | 0 => -18
  | _ => 0
set_option maxRecDepth 100000 in
set_option maxHeartbeats 4000000 in
theorem tL_positionsAfter {l : Launch} (hfl : l.stackTraces = false) (V : Wd) (l0 : Nat) (l1 : Int32) (G : Mem) (hq : (fL_positionsAfter l0 l1 G).isSome = true) : ML l yL_positionsAfter (Cond.codeWith yL_positionsAfter cL_positionsAfter 3 (some .int) [(0, 5, 6, 13)]) 9 181 V [.ref (V.B + l0), .int l1] G Value.int (PL (fL_positionsAfter l0 l1 G) hsL_positionsAfter V.cc V.cs) :=
  ml_of (L := [(0, .ref (V.B + l0)), (1, .int l1)]) hfl (by decide +kernel) (Nat.le_of_ble_eq_true rfl) rfl (fun X hl hV ok htb he => by
    subst hl; subst hV
    obtain ⟨q9, h9⟩ := Option.isSome_iff_exists.mp hq
    have h0 := h9
    unfold fL_positionsAfter at h9
    refine j_aload_n ok dL_positionsAfter_0 rfl 0 rfl ?_
    refine j_iload_n ok dL_positionsAfter_1 rfl 1 rfl ?_
    obtain ⟨k1, h9⟩ := ck_some h9
    obtain ⟨q1, hq1, h9⟩ := obind h9
    refine k_VC ok kl_L_56 ⟨Nat.le_of_ble_eq_true rfl, Nat.le_of_ble_eq_true rfl⟩ [.int l1] k1 rfl rfl (Nat.le_of_ble_eq_true rfl) (tX6_positionsAfter ok.fl X.V l0 l1 G hq1) dL_positionsAfter_2 (fun v hv => ?_) (fun k hk => ?_)
    · cases e1 : q1.1 with
      | inr z => rw [e1] at hv; cases hv
      | inl z =>
        rw [e1] at hv h9
        cases hv
        dsimp only [thrC] at h9
        refine J.sub [] rfl (jl_iret ok (P := PL (fL_positionsAfter l0 l1 G) hsL_positionsAfter X.V.cc X.V.cs) ⟨q9, h0, ?_⟩ dL_positionsAfter_5 he)
        cases h9
        exact ⟨rfl, rfl⟩
    · cases e1 : q1.1 with
      | inl z => rw [e1] at hk; cases hk
      | inr z =>
        rw [e1] at hk h9
        cases hk
        dsimp only [thrC] at h9
        obtain ⟨hm, h9⟩ := ite_get2 h9
        cases h9
        simp only [List.mem_cons, List.not_mem_nil, or_false] at hm
        subst hm
        · refine ⟨6, ⟨by decide, [], ⟨0, 5, 6, 13⟩, [], (by rw [htb]; rfl), (fun z hz => by cases hz), rfl, by decide, wl_L_13, rfl⟩, fun d w q hd hw => ?_⟩
          refine j_astore_n (L' := [(2, .ref q), (0, .ref (X.B + l0)), (1, .int l1)]) ok dL_positionsAfter_6 rfl (by decide) rfl ?_
          refine j_bipush (v := -18) ok dL_positionsAfter_7 (by decide) ?_
          exact J.sub [] rfl (jl_iret ok (P := PL (fL_positionsAfter l0 l1 G) hsL_positionsAfter X.V.cc X.V.cs) ⟨_, h0, rfl, d, w, hd, hw, rfl⟩ dL_positionsAfter_9 he))

def fL_kindAt (l0 : Nat) (l1 : Int32) (l2 : Int32) (l3 : Int32) (G : Mem) : Option ((Int32 ⊕ Nat) × Mem) :=
  ck G 16 l0 <| (fX6_kindAt l0 l1 l2 l3 G).bind fun q1 => thrC [2] q1.1 (fun v => some (.inl v, q1.2)) q1.2
def hsL_kindAt : Nat → Int32
  | 2 => -17
  | _ => 0
set_option maxRecDepth 100000 in
set_option maxHeartbeats 4000000 in
theorem tL_kindAt {l : Launch} (hfl : l.stackTraces = false) (V : Wd) (l0 : Nat) (l1 : Int32) (l2 : Int32) (l3 : Int32) (G : Mem) (hq : (fL_kindAt l0 l1 l2 l3 G).isSome = true) : ML l yL_kindAt (Cond.codeWith yL_kindAt cL_kindAt 5 (some .int) [(0, 7, 8, 25)]) 10 205 V [.ref (V.B + l0), .int l1, .int l2, .int l3] G Value.int (PL (fL_kindAt l0 l1 l2 l3 G) hsL_kindAt V.cc V.cs) :=
  ml_of (L := [(0, .ref (V.B + l0)), (1, .int l1), (2, .int l2), (3, .int l3)]) hfl (by decide +kernel) (Nat.le_of_ble_eq_true rfl) rfl (fun X hl hV ok htb he => by
    subst hl; subst hV
    obtain ⟨q9, h9⟩ := Option.isSome_iff_exists.mp hq
    have h0 := h9
    unfold fL_kindAt at h9
    refine j_aload_n ok dL_kindAt_0 rfl 0 rfl ?_
    refine j_iload_n ok dL_kindAt_1 rfl 1 rfl ?_
    refine j_iload_n ok dL_kindAt_2 rfl 2 rfl ?_
    refine j_iload_n ok dL_kindAt_3 rfl 3 rfl ?_
    obtain ⟨k1, h9⟩ := ck_some h9
    obtain ⟨q1, hq1, h9⟩ := obind h9
    refine k_VC ok kl_L_59 ⟨Nat.le_of_ble_eq_true rfl, Nat.le_of_ble_eq_true rfl⟩ [.int l1, .int l2, .int l3] k1 rfl rfl (Nat.le_of_ble_eq_true rfl) (tX6_kindAt ok.fl X.V l0 l1 l2 l3 G hq1) dL_kindAt_4 (fun v hv => ?_) (fun k hk => ?_)
    · cases e1 : q1.1 with
      | inr z => rw [e1] at hv; cases hv
      | inl z =>
        rw [e1] at hv h9
        cases hv
        dsimp only [thrC] at h9
        refine J.sub [] rfl (jl_iret ok (P := PL (fL_kindAt l0 l1 l2 l3 G) hsL_kindAt X.V.cc X.V.cs) ⟨q9, h0, ?_⟩ dL_kindAt_7 he)
        cases h9
        exact ⟨rfl, rfl⟩
    · cases e1 : q1.1 with
      | inl z => rw [e1] at hk; cases hk
      | inr z =>
        rw [e1] at hk h9
        cases hk
        dsimp only [thrC] at h9
        obtain ⟨hm, h9⟩ := ite_get2 h9
        cases h9
        simp only [List.mem_cons, List.not_mem_nil, or_false] at hm
        subst hm
        · refine ⟨8, ⟨by decide, [], ⟨0, 7, 8, 25⟩, [], (by rw [htb]; rfl), (fun z hz => by cases hz), rfl, by decide, wl_L_25, rfl⟩, fun d w q hd hw => ?_⟩
          refine j_astore (L' := [(4, .ref q), (0, .ref (X.B + l0)), (1, .int l1), (2, .int l2), (3, .int l3)]) ok dL_kindAt_8 (by decide) rfl ?_
          refine j_bipush (v := -17) ok dL_kindAt_10 (by decide) ?_
          exact J.sub [] rfl (jl_iret ok (P := PL (fL_kindAt l0 l1 l2 l3 G) hsL_kindAt X.V.cc X.V.cs) ⟨_, h0, rfl, d, w, hd, hw, rfl⟩ dL_kindAt_12 he))

def fL_colourAt (l0 : Nat) (l1 : Int32) (l2 : Int32) (l3 : Int32) (G : Mem) : Option ((Int32 ⊕ Nat) × Mem) :=
  ck G 16 l0 <| (fX6_colourAt l0 l1 l2 l3 G).bind fun q1 => thrC [2] q1.1 (fun v => some (.inl v, q1.2)) q1.2
def hsL_colourAt : Nat → Int32
  | 2 => -17
  | _ => 0
set_option maxRecDepth 100000 in
set_option maxHeartbeats 4000000 in
theorem tL_colourAt {l : Launch} (hfl : l.stackTraces = false) (V : Wd) (l0 : Nat) (l1 : Int32) (l2 : Int32) (l3 : Int32) (G : Mem) (hq : (fL_colourAt l0 l1 l2 l3 G).isSome = true) : ML l yL_colourAt (Cond.codeWith yL_colourAt cL_colourAt 5 (some .int) [(0, 7, 8, 25)]) 10 205 V [.ref (V.B + l0), .int l1, .int l2, .int l3] G Value.int (PL (fL_colourAt l0 l1 l2 l3 G) hsL_colourAt V.cc V.cs) :=
  ml_of (L := [(0, .ref (V.B + l0)), (1, .int l1), (2, .int l2), (3, .int l3)]) hfl (by decide +kernel) (Nat.le_of_ble_eq_true rfl) rfl (fun X hl hV ok htb he => by
    subst hl; subst hV
    obtain ⟨q9, h9⟩ := Option.isSome_iff_exists.mp hq
    have h0 := h9
    unfold fL_colourAt at h9
    refine j_aload_n ok dL_colourAt_0 rfl 0 rfl ?_
    refine j_iload_n ok dL_colourAt_1 rfl 1 rfl ?_
    refine j_iload_n ok dL_colourAt_2 rfl 2 rfl ?_
    refine j_iload_n ok dL_colourAt_3 rfl 3 rfl ?_
    obtain ⟨k1, h9⟩ := ck_some h9
    obtain ⟨q1, hq1, h9⟩ := obind h9
    refine k_VC ok kl_L_62 ⟨Nat.le_of_ble_eq_true rfl, Nat.le_of_ble_eq_true rfl⟩ [.int l1, .int l2, .int l3] k1 rfl rfl (Nat.le_of_ble_eq_true rfl) (tX6_colourAt ok.fl X.V l0 l1 l2 l3 G hq1) dL_colourAt_4 (fun v hv => ?_) (fun k hk => ?_)
    · cases e1 : q1.1 with
      | inr z => rw [e1] at hv; cases hv
      | inl z =>
        rw [e1] at hv h9
        cases hv
        dsimp only [thrC] at h9
        refine J.sub [] rfl (jl_iret ok (P := PL (fL_colourAt l0 l1 l2 l3 G) hsL_colourAt X.V.cc X.V.cs) ⟨q9, h0, ?_⟩ dL_colourAt_7 he)
        cases h9
        exact ⟨rfl, rfl⟩
    · cases e1 : q1.1 with
      | inl z => rw [e1] at hk; cases hk
      | inr z =>
        rw [e1] at hk h9
        cases hk
        dsimp only [thrC] at h9
        obtain ⟨hm, h9⟩ := ite_get2 h9
        cases h9
        simp only [List.mem_cons, List.not_mem_nil, or_false] at hm
        subst hm
        · refine ⟨8, ⟨by decide, [], ⟨0, 7, 8, 25⟩, [], (by rw [htb]; rfl), (fun z hz => by cases hz), rfl, by decide, wl_L_25, rfl⟩, fun d w q hd hw => ?_⟩
          refine j_astore (L' := [(4, .ref q), (0, .ref (X.B + l0)), (1, .int l1), (2, .int l2), (3, .int l3)]) ok dL_colourAt_8 (by decide) rfl ?_
          refine j_bipush (v := -17) ok dL_colourAt_10 (by decide) ?_
          exact J.sub [] rfl (jl_iret ok (P := PL (fL_colourAt l0 l1 l2 l3 G) hsL_colourAt X.V.cc X.V.cs) ⟨_, h0, rfl, d, w, hd, hw, rfl⟩ dL_colourAt_12 he))

def fL_isAttacked (l0 : Nat) (l1 : Int32) (l2 : Int32) (l3 : Int32) (l4 : Int32) (G : Mem) : Option ((Int32 ⊕ Nat) × Mem) :=
  ck G 16 l0 <| (fX6_isAttacked l0 l1 l2 l3 l4 G).bind fun q1 => thrC [2, 0] q1.1 (fun v => some (.inl (bz v), q1.2)) q1.2
def hsL_isAttacked : Nat → Int32
  | 2 => -17
  | 0 => -18
  | _ => 0
set_option maxRecDepth 100000 in
set_option maxHeartbeats 4000000 in
theorem tL_isAttacked {l : Launch} (hfl : l.stackTraces = false) (V : Wd) (l0 : Nat) (l1 : Int32) (l2 : Int32) (l3 : Int32) (l4 : Int32) (G : Mem) (hq : (fL_isAttacked l0 l1 l2 l3 l4 G).isSome = true) : ML l yL_isAttacked (Cond.codeWith yL_isAttacked cL_isAttacked 6 (some .int) [(0, 17, 18, 25), (0, 17, 23, 13)]) 10 206 V [.ref (V.B + l0), .int l1, .int l2, .int l3, .int l4] G Value.int (PL (fL_isAttacked l0 l1 l2 l3 l4 G) hsL_isAttacked V.cc V.cs) :=
  ml_of (L := [(0, .ref (V.B + l0)), (1, .int l1), (2, .int l2), (3, .int l3), (4, .int l4)]) hfl (by decide +kernel) (Nat.le_of_ble_eq_true rfl) rfl (fun X hl hV ok htb he => by
    subst hl; subst hV
    obtain ⟨q9, h9⟩ := Option.isSome_iff_exists.mp hq
    have h0 := h9
    unfold fL_isAttacked at h9
    refine j_aload_n ok dL_isAttacked_0 rfl 0 rfl ?_
    refine j_iload_n ok dL_isAttacked_1 rfl 1 rfl ?_
    refine j_iload_n ok dL_isAttacked_2 rfl 2 rfl ?_
    refine j_iload_n ok dL_isAttacked_3 rfl 3 rfl ?_
    refine j_iload ok dL_isAttacked_4 4 rfl ?_
    obtain ⟨k1, h9⟩ := ck_some h9
    obtain ⟨q1, hq1, h9⟩ := obind h9
    refine k_VC ok kl_L_65 ⟨Nat.le_of_ble_eq_true rfl, Nat.le_of_ble_eq_true rfl⟩ [.int l1, .int l2, .int l3, .int l4] k1 rfl rfl (Nat.le_of_ble_eq_true rfl) (tX6_isAttacked ok.fl X.V l0 l1 l2 l3 l4 G hq1) dL_isAttacked_6 (fun v hv => ?_) (fun k hk => ?_)
    · cases e1 : q1.1 with
      | inr z => rw [e1] at hv; cases hv
      | inl z =>
        rw [e1] at hv h9
        cases hv
        dsimp only [thrC] at h9
        refine j_nz ok dL_isAttacked_9 dL_isAttacked_12 dL_isAttacked_13 dL_isAttacked_16 ?_
        refine J.sub [] rfl (jl_iret ok (P := PL (fL_isAttacked l0 l1 l2 l3 l4 G) hsL_isAttacked X.V.cc X.V.cs) ⟨q9, h0, ?_⟩ dL_isAttacked_17 he)
        cases h9
        exact ⟨rfl, rfl⟩
    · cases e1 : q1.1 with
      | inl z => rw [e1] at hk; cases hk
      | inr z =>
        rw [e1] at hk h9
        cases hk
        dsimp only [thrC] at h9
        obtain ⟨hm, h9⟩ := ite_get2 h9
        cases h9
        simp only [List.mem_cons, List.not_mem_nil, or_false] at hm
        rcases hm with rfl | rfl
        · refine ⟨18, ⟨by decide, [], ⟨0, 17, 18, 25⟩, [⟨0, 17, 23, 13⟩], (by rw [htb]; rfl), (fun z hz => by cases hz), rfl, by decide, wl_L_25, rfl⟩, fun d w q hd hw => ?_⟩
          refine j_astore (L' := [(5, .ref q), (0, .ref (X.B + l0)), (1, .int l1), (2, .int l2), (3, .int l3), (4, .int l4)]) ok dL_isAttacked_18 (by decide) rfl ?_
          refine j_bipush (v := -17) ok dL_isAttacked_20 (by decide) ?_
          exact J.sub [] rfl (jl_iret ok (P := PL (fL_isAttacked l0 l1 l2 l3 l4 G) hsL_isAttacked X.V.cc X.V.cs) ⟨_, h0, rfl, d, w, hd, hw, rfl⟩ dL_isAttacked_22 he)
        · refine ⟨23, ⟨by decide, [⟨0, 17, 18, 25⟩], ⟨0, 17, 23, 13⟩, [], (by rw [htb]; rfl), (fun z hz => by
            rw [List.mem_singleton] at hz
            subst hz
            · exact ⟨by decide, 2, by decide, by decide, wl_L_25⟩
            ), rfl, by decide, wl_L_13, rfl⟩, fun d w q hd hw => ?_⟩
          refine j_astore (L' := [(5, .ref q), (0, .ref (X.B + l0)), (1, .int l1), (2, .int l2), (3, .int l3), (4, .int l4)]) ok dL_isAttacked_23 (by decide) rfl ?_
          refine j_bipush (v := -18) ok dL_isAttacked_25 (by decide) ?_
          exact J.sub [] rfl (jl_iret ok (P := PL (fL_isAttacked l0 l1 l2 l3 l4 G) hsL_isAttacked X.V.cc X.V.cs) ⟨_, h0, rfl, d, w, hd, hw, rfl⟩ dL_isAttacked_27 he))

def fL_gamesTo (l0 : Nat) (l1 : Int32) (G : Mem) : Option ((Int64 ⊕ Nat) × Mem) :=
  ck G 16 l0 <| (fX6_gamesTo l0 l1 G).bind fun q1 => thrC [2] q1.1 (fun v => some (.inl v, q1.2)) q1.2
def hsL_gamesTo : Nat → Int64
  | 2 => -17
  | _ => 0
set_option maxRecDepth 100000 in
set_option maxHeartbeats 4000000 in
theorem tL_gamesTo {l : Launch} (hfl : l.stackTraces = false) (V : Wd) (l0 : Nat) (l1 : Int32) (G : Mem) (hq : (fL_gamesTo l0 l1 G).isSome = true) : ML l yL_gamesTo (Cond.codeWith yL_gamesTo cL_gamesTo 3 (some .long) [(0, 5, 6, 25)]) 10 202 V [.ref (V.B + l0), .int l1] G Value.long (PL (fL_gamesTo l0 l1 G) hsL_gamesTo V.cc V.cs) :=
  ml_of (L := [(0, .ref (V.B + l0)), (1, .int l1)]) hfl (by decide +kernel) (Nat.le_of_ble_eq_true rfl) rfl (fun X hl hV ok htb he => by
    subst hl; subst hV
    obtain ⟨q9, h9⟩ := Option.isSome_iff_exists.mp hq
    have h0 := h9
    unfold fL_gamesTo at h9
    refine j_aload_n ok dL_gamesTo_0 rfl 0 rfl ?_
    refine j_iload_n ok dL_gamesTo_1 rfl 1 rfl ?_
    obtain ⟨k1, h9⟩ := ck_some h9
    obtain ⟨q1, hq1, h9⟩ := obind h9
    refine k_VC ok kl_L_69 ⟨Nat.le_of_ble_eq_true rfl, Nat.le_of_ble_eq_true rfl⟩ [.int l1] k1 rfl rfl (Nat.le_of_ble_eq_true rfl) (tX6_gamesTo ok.fl X.V l0 l1 G hq1) dL_gamesTo_2 (fun v hv => ?_) (fun k hk => ?_)
    · cases e1 : q1.1 with
      | inr z => rw [e1] at hv; cases hv
      | inl z =>
        rw [e1] at hv h9
        cases hv
        dsimp only [thrC] at h9
        refine J.sub [] rfl (jl_lret ok (P := PL (fL_gamesTo l0 l1 G) hsL_gamesTo X.V.cc X.V.cs) ⟨q9, h0, ?_⟩ dL_gamesTo_5 he)
        cases h9
        exact ⟨rfl, rfl⟩
    · cases e1 : q1.1 with
      | inl z => rw [e1] at hk; cases hk
      | inr z =>
        rw [e1] at hk h9
        cases hk
        dsimp only [thrC] at h9
        obtain ⟨hm, h9⟩ := ite_get2 h9
        cases h9
        simp only [List.mem_cons, List.not_mem_nil, or_false] at hm
        subst hm
        · refine ⟨6, ⟨by decide, [], ⟨0, 5, 6, 25⟩, [], (by rw [htb]; rfl), (fun z hz => by cases hz), rfl, by decide, wl_L_25, rfl⟩, fun d w q hd hw => ?_⟩
          refine j_astore_n (L' := [(2, .ref q), (0, .ref (X.B + l0)), (1, .int l1)]) ok dL_gamesTo_6 rfl (by decide) rfl ?_
          refine j_ldc2 ok wK_L_73 dL_gamesTo_7 ?_
          exact J.sub [] rfl (jl_lret ok (P := PL (fL_gamesTo l0 l1 G) hsL_gamesTo X.V.cc X.V.cs) ⟨_, h0, rfl, d, w, hd, hw, rfl⟩ dL_gamesTo_10 he))

def fL_moveOrigin (l0 : Nat) (l1 : Int32) (l2 : Int32) (G : Mem) : Option ((Int32 ⊕ Nat) × Mem) :=
  ck G 16 l0 <| (fX6_moveOrigin l0 l1 l2 G).bind fun q1 => thrC [2] q1.1 (fun v => some (.inl v, q1.2)) q1.2
def hsL_moveOrigin : Nat → Int32
  | 2 => -17
  | _ => 0
set_option maxRecDepth 100000 in
set_option maxHeartbeats 4000000 in
theorem tL_moveOrigin {l : Launch} (hfl : l.stackTraces = false) (V : Wd) (l0 : Nat) (l1 : Int32) (l2 : Int32) (G : Mem) (hq : (fL_moveOrigin l0 l1 l2 G).isSome = true) : ML l yL_moveOrigin (Cond.codeWith yL_moveOrigin cL_moveOrigin 4 (some .int) [(0, 6, 7, 25)]) 11 226 V [.ref (V.B + l0), .int l1, .int l2] G Value.int (PL (fL_moveOrigin l0 l1 l2 G) hsL_moveOrigin V.cc V.cs) :=
  ml_of (L := [(0, .ref (V.B + l0)), (1, .int l1), (2, .int l2)]) hfl (by decide +kernel) (Nat.le_of_ble_eq_true rfl) rfl (fun X hl hV ok htb he => by
    subst hl; subst hV
    obtain ⟨q9, h9⟩ := Option.isSome_iff_exists.mp hq
    have h0 := h9
    unfold fL_moveOrigin at h9
    refine j_aload_n ok dL_moveOrigin_0 rfl 0 rfl ?_
    refine j_iload_n ok dL_moveOrigin_1 rfl 1 rfl ?_
    refine j_iload_n ok dL_moveOrigin_2 rfl 2 rfl ?_
    obtain ⟨k1, h9⟩ := ck_some h9
    obtain ⟨q1, hq1, h9⟩ := obind h9
    refine k_VC ok kl_L_75 ⟨Nat.le_of_ble_eq_true rfl, Nat.le_of_ble_eq_true rfl⟩ [.int l1, .int l2] k1 rfl rfl (Nat.le_of_ble_eq_true rfl) (tX6_moveOrigin ok.fl X.V l0 l1 l2 G hq1) dL_moveOrigin_3 (fun v hv => ?_) (fun k hk => ?_)
    · cases e1 : q1.1 with
      | inr z => rw [e1] at hv; cases hv
      | inl z =>
        rw [e1] at hv h9
        cases hv
        dsimp only [thrC] at h9
        refine J.sub [] rfl (jl_iret ok (P := PL (fL_moveOrigin l0 l1 l2 G) hsL_moveOrigin X.V.cc X.V.cs) ⟨q9, h0, ?_⟩ dL_moveOrigin_6 he)
        cases h9
        exact ⟨rfl, rfl⟩
    · cases e1 : q1.1 with
      | inl z => rw [e1] at hk; cases hk
      | inr z =>
        rw [e1] at hk h9
        cases hk
        dsimp only [thrC] at h9
        obtain ⟨hm, h9⟩ := ite_get2 h9
        cases h9
        simp only [List.mem_cons, List.not_mem_nil, or_false] at hm
        subst hm
        · refine ⟨7, ⟨by decide, [], ⟨0, 6, 7, 25⟩, [], (by rw [htb]; rfl), (fun z hz => by cases hz), rfl, by decide, wl_L_25, rfl⟩, fun d w q hd hw => ?_⟩
          refine j_astore_n (L' := [(3, .ref q), (0, .ref (X.B + l0)), (1, .int l1), (2, .int l2)]) ok dL_moveOrigin_7 rfl (by decide) rfl ?_
          refine j_bipush (v := -17) ok dL_moveOrigin_8 (by decide) ?_
          exact J.sub [] rfl (jl_iret ok (P := PL (fL_moveOrigin l0 l1 l2 G) hsL_moveOrigin X.V.cc X.V.cs) ⟨_, h0, rfl, d, w, hd, hw, rfl⟩ dL_moveOrigin_10 he))

def fL_moveTarget (l0 : Nat) (l1 : Int32) (l2 : Int32) (G : Mem) : Option ((Int32 ⊕ Nat) × Mem) :=
  ck G 16 l0 <| (fX6_moveTarget l0 l1 l2 G).bind fun q1 => thrC [2] q1.1 (fun v => some (.inl v, q1.2)) q1.2
def hsL_moveTarget : Nat → Int32
  | 2 => -17
  | _ => 0
set_option maxRecDepth 100000 in
set_option maxHeartbeats 4000000 in
theorem tL_moveTarget {l : Launch} (hfl : l.stackTraces = false) (V : Wd) (l0 : Nat) (l1 : Int32) (l2 : Int32) (G : Mem) (hq : (fL_moveTarget l0 l1 l2 G).isSome = true) : ML l yL_moveTarget (Cond.codeWith yL_moveTarget cL_moveTarget 4 (some .int) [(0, 6, 7, 25)]) 11 226 V [.ref (V.B + l0), .int l1, .int l2] G Value.int (PL (fL_moveTarget l0 l1 l2 G) hsL_moveTarget V.cc V.cs) :=
  ml_of (L := [(0, .ref (V.B + l0)), (1, .int l1), (2, .int l2)]) hfl (by decide +kernel) (Nat.le_of_ble_eq_true rfl) rfl (fun X hl hV ok htb he => by
    subst hl; subst hV
    obtain ⟨q9, h9⟩ := Option.isSome_iff_exists.mp hq
    have h0 := h9
    unfold fL_moveTarget at h9
    refine j_aload_n ok dL_moveTarget_0 rfl 0 rfl ?_
    refine j_iload_n ok dL_moveTarget_1 rfl 1 rfl ?_
    refine j_iload_n ok dL_moveTarget_2 rfl 2 rfl ?_
    obtain ⟨k1, h9⟩ := ck_some h9
    obtain ⟨q1, hq1, h9⟩ := obind h9
    refine k_VC ok kl_L_79 ⟨Nat.le_of_ble_eq_true rfl, Nat.le_of_ble_eq_true rfl⟩ [.int l1, .int l2] k1 rfl rfl (Nat.le_of_ble_eq_true rfl) (tX6_moveTarget ok.fl X.V l0 l1 l2 G hq1) dL_moveTarget_3 (fun v hv => ?_) (fun k hk => ?_)
    · cases e1 : q1.1 with
      | inr z => rw [e1] at hv; cases hv
      | inl z =>
        rw [e1] at hv h9
        cases hv
        dsimp only [thrC] at h9
        refine J.sub [] rfl (jl_iret ok (P := PL (fL_moveTarget l0 l1 l2 G) hsL_moveTarget X.V.cc X.V.cs) ⟨q9, h0, ?_⟩ dL_moveTarget_6 he)
        cases h9
        exact ⟨rfl, rfl⟩
    · cases e1 : q1.1 with
      | inl z => rw [e1] at hk; cases hk
      | inr z =>
        rw [e1] at hk h9
        cases hk
        dsimp only [thrC] at h9
        obtain ⟨hm, h9⟩ := ite_get2 h9
        cases h9
        simp only [List.mem_cons, List.not_mem_nil, or_false] at hm
        subst hm
        · refine ⟨7, ⟨by decide, [], ⟨0, 6, 7, 25⟩, [], (by rw [htb]; rfl), (fun z hz => by cases hz), rfl, by decide, wl_L_25, rfl⟩, fun d w q hd hw => ?_⟩
          refine j_astore_n (L' := [(3, .ref q), (0, .ref (X.B + l0)), (1, .int l1), (2, .int l2)]) ok dL_moveTarget_7 rfl (by decide) rfl ?_
          refine j_bipush (v := -17) ok dL_moveTarget_8 (by decide) ?_
          exact J.sub [] rfl (jl_iret ok (P := PL (fL_moveTarget l0 l1 l2 G) hsL_moveTarget X.V.cc X.V.cs) ⟨_, h0, rfl, d, w, hd, hw, rfl⟩ dL_moveTarget_10 he))

def fL_gamesWithMove (l0 : Nat) (l1 : Int32) (l2 : Int32) (G : Mem) : Option ((Int64 ⊕ Nat) × Mem) :=
  ck G 16 l0 <| (fX6_gamesWithMove l0 l1 l2 G).bind fun q1 => thrC [2] q1.1 (fun v => some (.inl v, q1.2)) q1.2
def hsL_gamesWithMove : Nat → Int64
  | 2 => -17
  | _ => 0
set_option maxRecDepth 100000 in
set_option maxHeartbeats 4000000 in
theorem tL_gamesWithMove {l : Launch} (hfl : l.stackTraces = false) (V : Wd) (l0 : Nat) (l1 : Int32) (l2 : Int32) (G : Mem) (hq : (fL_gamesWithMove l0 l1 l2 G).isSome = true) : ML l yL_gamesWithMove (Cond.codeWith yL_gamesWithMove cL_gamesWithMove 4 (some .long) [(0, 6, 7, 25)]) 11 226 V [.ref (V.B + l0), .int l1, .int l2] G Value.long (PL (fL_gamesWithMove l0 l1 l2 G) hsL_gamesWithMove V.cc V.cs) :=
  ml_of (L := [(0, .ref (V.B + l0)), (1, .int l1), (2, .int l2)]) hfl (by decide +kernel) (Nat.le_of_ble_eq_true rfl) rfl (fun X hl hV ok htb he => by
    subst hl; subst hV
    obtain ⟨q9, h9⟩ := Option.isSome_iff_exists.mp hq
    have h0 := h9
    unfold fL_gamesWithMove at h9
    refine j_aload_n ok dL_gamesWithMove_0 rfl 0 rfl ?_
    refine j_iload_n ok dL_gamesWithMove_1 rfl 1 rfl ?_
    refine j_iload_n ok dL_gamesWithMove_2 rfl 2 rfl ?_
    obtain ⟨k1, h9⟩ := ck_some h9
    obtain ⟨q1, hq1, h9⟩ := obind h9
    refine k_VC ok kl_L_82 ⟨Nat.le_of_ble_eq_true rfl, Nat.le_of_ble_eq_true rfl⟩ [.int l1, .int l2] k1 rfl rfl (Nat.le_of_ble_eq_true rfl) (tX6_gamesWithMove ok.fl X.V l0 l1 l2 G hq1) dL_gamesWithMove_3 (fun v hv => ?_) (fun k hk => ?_)
    · cases e1 : q1.1 with
      | inr z => rw [e1] at hv; cases hv
      | inl z =>
        rw [e1] at hv h9
        cases hv
        dsimp only [thrC] at h9
        refine J.sub [] rfl (jl_lret ok (P := PL (fL_gamesWithMove l0 l1 l2 G) hsL_gamesWithMove X.V.cc X.V.cs) ⟨q9, h0, ?_⟩ dL_gamesWithMove_6 he)
        cases h9
        exact ⟨rfl, rfl⟩
    · cases e1 : q1.1 with
      | inl z => rw [e1] at hk; cases hk
      | inr z =>
        rw [e1] at hk h9
        cases hk
        dsimp only [thrC] at h9
        obtain ⟨hm, h9⟩ := ite_get2 h9
        cases h9
        simp only [List.mem_cons, List.not_mem_nil, or_false] at hm
        subst hm
        · refine ⟨7, ⟨by decide, [], ⟨0, 6, 7, 25⟩, [], (by rw [htb]; rfl), (fun z hz => by cases hz), rfl, by decide, wl_L_25, rfl⟩, fun d w q hd hw => ?_⟩
          refine j_astore_n (L' := [(3, .ref q), (0, .ref (X.B + l0)), (1, .int l1), (2, .int l2)]) ok dL_gamesWithMove_7 rfl (by decide) rfl ?_
          refine j_ldc2 ok wK_L_73 dL_gamesWithMove_8 ?_
          exact J.sub [] rfl (jl_lret ok (P := PL (fL_gamesWithMove l0 l1 l2 G) hsL_gamesWithMove X.V.cc X.V.cs) ⟨_, h0, rfl, d, w, hd, hw, rfl⟩ dL_gamesWithMove_11 he))

def fL_gamesIfNoted (l0 : Nat) (l1 : Int32) (l2 : Int32) (l3 : Int32) (l4 : Int32) (l5 : Int32) (l6 : Int32) (G : Mem) : Option ((Int64 ⊕ Nat) × Mem) :=
  ck G 16 l0 <| (fX6_gamesIfNoted l0 l1 l2 l3 l4 l5 l6 G).bind fun q1 => thrC [0] q1.1 (fun v => some (.inl v, q1.2)) q1.2
def hsL_gamesIfNoted : Nat → Int64
  | 0 => -18
  | _ => 0
set_option maxRecDepth 100000 in
set_option maxHeartbeats 4000000 in
theorem tL_gamesIfNoted {l : Launch} (hfl : l.stackTraces = false) (V : Wd) (l0 : Nat) (l1 : Int32) (l2 : Int32) (l3 : Int32) (l4 : Int32) (l5 : Int32) (l6 : Int32) (G : Mem) (hq : (fL_gamesIfNoted l0 l1 l2 l3 l4 l5 l6 G).isSome = true) : ML l yL_gamesIfNoted (Cond.codeWith yL_gamesIfNoted cL_gamesIfNoted 8 (some .long) [(0, 13, 14, 13)]) 10 264 V [.ref (V.B + l0), .int l1, .int l2, .int l3, .int l4, .int l5, .int l6] G Value.long (PL (fL_gamesIfNoted l0 l1 l2 l3 l4 l5 l6 G) hsL_gamesIfNoted V.cc V.cs) :=
  ml_of (L := [(0, .ref (V.B + l0)), (1, .int l1), (2, .int l2), (3, .int l3), (4, .int l4), (5, .int l5), (6, .int l6)]) hfl (by decide +kernel) (Nat.le_of_ble_eq_true rfl) rfl (fun X hl hV ok htb he => by
    subst hl; subst hV
    obtain ⟨q9, h9⟩ := Option.isSome_iff_exists.mp hq
    have h0 := h9
    unfold fL_gamesIfNoted at h9
    refine j_aload_n ok dL_gamesIfNoted_0 rfl 0 rfl ?_
    refine j_iload_n ok dL_gamesIfNoted_1 rfl 1 rfl ?_
    refine j_iload_n ok dL_gamesIfNoted_2 rfl 2 rfl ?_
    refine j_iload_n ok dL_gamesIfNoted_3 rfl 3 rfl ?_
    refine j_iload ok dL_gamesIfNoted_4 4 rfl ?_
    refine j_iload ok dL_gamesIfNoted_6 5 rfl ?_
    refine j_iload ok dL_gamesIfNoted_8 6 rfl ?_
    obtain ⟨k1, h9⟩ := ck_some h9
    obtain ⟨q1, hq1, h9⟩ := obind h9
    refine k_VC ok kl_L_86 ⟨Nat.le_of_ble_eq_true rfl, Nat.le_of_ble_eq_true rfl⟩ [.int l1, .int l2, .int l3, .int l4, .int l5, .int l6] k1 rfl rfl (Nat.le_of_ble_eq_true rfl) (tX6_gamesIfNoted ok.fl X.V l0 l1 l2 l3 l4 l5 l6 G hq1) dL_gamesIfNoted_10 (fun v hv => ?_) (fun k hk => ?_)
    · cases e1 : q1.1 with
      | inr z => rw [e1] at hv; cases hv
      | inl z =>
        rw [e1] at hv h9
        cases hv
        dsimp only [thrC] at h9
        refine J.sub [] rfl (jl_lret ok (P := PL (fL_gamesIfNoted l0 l1 l2 l3 l4 l5 l6 G) hsL_gamesIfNoted X.V.cc X.V.cs) ⟨q9, h0, ?_⟩ dL_gamesIfNoted_13 he)
        cases h9
        exact ⟨rfl, rfl⟩
    · cases e1 : q1.1 with
      | inl z => rw [e1] at hk; cases hk
      | inr z =>
        rw [e1] at hk h9
        cases hk
        dsimp only [thrC] at h9
        obtain ⟨hm, h9⟩ := ite_get2 h9
        cases h9
        simp only [List.mem_cons, List.not_mem_nil, or_false] at hm
        subst hm
        · refine ⟨14, ⟨by decide, [], ⟨0, 13, 14, 13⟩, [], (by rw [htb]; rfl), (fun z hz => by cases hz), rfl, by decide, wl_L_13, rfl⟩, fun d w q hd hw => ?_⟩
          refine j_astore (L' := [(7, .ref q), (0, .ref (X.B + l0)), (1, .int l1), (2, .int l2), (3, .int l3), (4, .int l4), (5, .int l5), (6, .int l6)]) ok dL_gamesIfNoted_14 (by decide) rfl ?_
          refine j_ldc2 ok wK_L_90 dL_gamesIfNoted_16 ?_
          exact J.sub [] rfl (jl_lret ok (P := PL (fL_gamesIfNoted l0 l1 l2 l3 l4 l5 l6 G) hsL_gamesIfNoted X.V.cc X.V.cs) ⟨_, h0, rfl, d, w, hd, hw, rfl⟩ dL_gamesIfNoted_19 he))
