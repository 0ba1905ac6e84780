theorem ite_prop {c a b : Prop} [Decidable c] (h : if c then a else b) : (c ∧ a) ∨ (¬ c ∧ b) := by
  by_cases hc : c
  · rw [if_pos hc] at h; exact Or.inl ⟨hc, h⟩
  · rw [if_neg hc] at h; exact Or.inr ⟨hc, h⟩
def wL_draw_0 (l0 : Nat) (l1 : Int32)  (G : Mem) (c1 c2 : Nat) (K : Int32 → Mem → Prop) : Prop :=
  ∃ v1, gA G 1 l0 (0 : Int32) = some v1 ∧
  ∃ G2, pA G l0 (0 : Int32) ((v1 * (1103515245 : Int32)) + (12345 : Int32)) = some G2 ∧
  ∃ v3, gA G2 1 l0 (0 : Int32) = some v3 ∧
  ¬ l1 = 0 ∧
  K (((v3.toUInt32 >>> ((8 : Int32).toUInt32 &&& Int32.toUInt32 31)).toInt32) - ((v3.toUInt32 >>> ((8 : Int32).toUInt32 &&& Int32.toUInt32 31)).toInt32) / l1 * l1) G2

set_option maxRecDepth 100000 in
set_option maxHeartbeats 4000000 in
theorem jL_draw_0 {X : Cx} (ok : OK X cL_draw RL (some .int) 2 0 0) {P : Int32 → Mem → Prop} {c1 c2 : Nat} (hcc : X.V.cc = c1) (hcs : X.V.cs = c2) (he : EndP X Value.int P) (l0 : Nat) (l1 : Int32)  (G : Mem) (K : Int32 → Mem → Prop) (h : wL_draw_0 l0 l1 G c1 c2 K) (hK : ∀ r G', K r G' → P r G') : J X 2 0 [(0, .ref (X.B + l0)), (1, .int l1)] [] G := by
  unfold wL_draw_0 at h
  refine j_aload_n ok dL_draw_0 rfl 0 rfl ?_
  refine j_iconst (v := 0) ok dL_draw_1 (by decide) ?_
  refine j_aload_n ok dL_draw_2 rfl 0 rfl ?_
  refine j_iconst (v := 0) ok dL_draw_3 (by decide) ?_
  obtain ⟨v1, hv1, h⟩ := h
  refine j_iald ok hv1 dL_draw_4 ?_
  refine j_ldc ok wk_L_114 dL_draw_5 ?_
  refine j_imul ok dL_draw_7 ?_
  refine j_sipush (v := 12345) ok dL_draw_8 (by decide) ?_
  refine j_iadd ok dL_draw_11 ?_
  obtain ⟨G2, hG2, h⟩ := h
  refine j_iast ok hG2 dL_draw_12 ?_
  refine j_aload_n ok dL_draw_13 rfl 0 rfl ?_
  refine j_iconst (v := 0) ok dL_draw_14 (by decide) ?_
  obtain ⟨v3, hv3, h⟩ := h
  refine j_iald ok hv3 dL_draw_15 ?_
  refine j_bipush (v := 8) ok dL_draw_16 (by decide) ?_
  refine j_iushr ok dL_draw_18 ?_
  refine j_iload_n ok dL_draw_19 rfl 1 rfl ?_
  obtain ⟨hz3, h⟩ := h
  refine j_irem ok dL_draw_20 hz3 ?_
  exact jl_iret ok (hK _ _ h) dL_draw_21 he

def wL_draw (l0 : Nat) (l1 : Int32) (G : Mem) (c1 c2 : Nat) (K : Int32 → Mem → Prop) : Prop := wL_draw_0 l0 l1 G c1 c2 K
set_option maxRecDepth 100000 in
theorem tL_draw {l : Launch} (hfl : l.stackTraces = false) (V : Wd) (l0 : Nat) (l1 : Int32) (G : Mem) {P : Int32 → Mem → Prop} (h : wL_draw l0 l1 G V.cc V.cs P) : ML l yL_draw (Cond.code yL_draw cL_draw 2 (some .int)) 0 0 V [.ref (V.B + l0), .int l1] G Value.int P :=
  mp_of (L := [(0, .ref (V.B + l0)), (1, .int l1)]) hfl (by decide +kernel) (Nat.le_of_ble_eq_true rfl) rfl (fun X hl hV ok he => by
    subst hl; subst hV
    exact J.sub [0, 1] rfl (jL_draw_0 ok rfl rfl he l0 l1 G _ h (fun _ _ z => z)))

def wL_word_40 (l2 : Int32)  (G : Mem) (c1 c2 : Nat) (K : Int32 → Mem → Prop) : Prop :=
  K l2 G

set_option maxRecDepth 100000 in
set_option maxHeartbeats 4000000 in
theorem jL_word_40 {X : Cx} (ok : OK X cL_word RL (some .int) 4 4 85) {P : Int32 → Mem → Prop} {c1 c2 : Nat} (hcc : X.V.cc = c1) (hcs : X.V.cs = c2) (he : EndP X Value.int P) (l2 : Int32)  (G : Mem) (K : Int32 → Mem → Prop) (h : wL_word_40 l2 G c1 c2 K) (hK : ∀ r G', K r G' → P r G') : J X 4 40 [(2, .int l2)] [] G := by
  unfold wL_word_40 at h
  refine j_iload_n ok dL_word_40 rfl 0 rfl ?_
  exact jl_iret ok (hK _ _ h) dL_word_41 he

def wL_word_32 (l0 : Nat) (l1 : Int32) (l3 : Int32) (s0 : Int32) (s1 : Int32) (G : Mem) (c1 c2 : Nat) (K : ((Int32 × Int32) ⊕ Int32) → Mem → Prop) : Prop :=
  K (.inl ((s0 ||| s1), (l3 + (1 : Int32)))) G

set_option maxRecDepth 100000 in
set_option maxHeartbeats 4000000 in
theorem jL_word_32 {X : Cx} (ok : OK X cL_word RL (some .int) 4 4 85) {P : Int32 → Mem → Prop} {c1 c2 : Nat} (hcc : X.V.cc = c1) (hcs : X.V.cs = c2) (he : EndP X Value.int P) (l0 : Nat) (l1 : Int32) (l3 : Int32) (s0 : Int32) (s1 : Int32) (G : Mem) (K : ((Int32 × Int32) ⊕ Int32) → Mem → Prop) (h : wL_word_32 l0 l1 l3 s0 s1 G c1 c2 K) (hK : ∀ r G', K r G' → (finL X 4 4 (fun s : Int32 × Int32 => [(0, .ref (X.B + l0)), (1, .int l1), (2, .int s.1), (3, .int s.2)]) P) r G') : J X 4 32 [(0, .ref (X.B + l0)), (1, .int l1), (3, .int l3)] [.int s1, .int s0] G := by
  unfold wL_word_32 at h
  refine j_ior ok dL_word_32 ?_
  refine j_istore_n (L' := [(2, .int (s0 ||| s1)), (0, .ref (X.B + l0)), (1, .int l1), (3, .int l3)]) ok dL_word_33 rfl (by decide) rfl ?_
  refine j_iinc (L' := [(3, .int (l3 + (1 : Int32))), (2, .int (s0 ||| s1)), (0, .ref (X.B + l0)), (1, .int l1)]) (v := (l3 + (1 : Int32))) ok dL_word_34 (q := 3) rfl rfl (by decide) rfl ?_
  refine j_goto (tgt := 4) ok dL_word_37 (by decide) ?_
  have hJ : J X 4 4 [(0, .ref (X.B + l0)), (1, .int l1), (2, .int (s0 ||| s1)), (3, .int (l3 + (1 : Int32)))] [] G := hK _ _ h
  exact J.sub [2, 3, 1, 0] rfl hJ

def wL_word_4 (l0 : Nat) (l1 : Int32) (l2 : Int32) (l3 : Int32)  (G : Mem) (c1 c2 : Nat) (K : ((Int32 × Int32) ⊕ Int32) → Mem → Prop) : Prop :=
  if (l1 + (4 : Int32)) ≤ l3 then
    wL_word_40 l2 G c1 c2 (fun r G => K (.inr r) G)
  else
    mt G l0 = 17 ∧ ∃ q2, fJ0_length_8abf5h l0 G = some q2 ∧
    if q2.1 ≤ l3 then
      wL_word_32 l0 l1 l3 (l2 <<< ((8 : Int32) &&& 31)) (0 : Int32) q2.2 c1 c2 K
    else
      mt q2.2 l0 = 17 ∧ ∃ q4, fJ0_charAt_5068eh l0 l3 q2.2 = some q4 ∧
      wL_word_32 l0 l1 l3 (l2 <<< ((8 : Int32) &&& 31)) q4.1 q4.2 c1 c2 K

set_option maxRecDepth 100000 in
set_option maxHeartbeats 4000000 in
theorem jL_word_4 {X : Cx} (ok : OK X cL_word RL (some .int) 4 4 85) {P : Int32 → Mem → Prop} {c1 c2 : Nat} (hcc : X.V.cc = c1) (hcs : X.V.cs = c2) (he : EndP X Value.int P) (l0 : Nat) (l1 : Int32) (l2 : Int32) (l3 : Int32)  (G : Mem) (K : ((Int32 × Int32) ⊕ Int32) → Mem → Prop) (h : wL_word_4 l0 l1 l2 l3 G c1 c2 K) (hK : ∀ r G', K r G' → (finL X 4 4 (fun s : Int32 × Int32 => [(0, .ref (X.B + l0)), (1, .int l1), (2, .int s.1), (3, .int s.2)]) P) r G') : J X 4 4 [(0, .ref (X.B + l0)), (1, .int l1), (2, .int l2), (3, .int l3)] [] G := by
  unfold wL_word_4 at h
  refine j_iload_n ok dL_word_4 rfl 3 rfl ?_
  refine j_iload_n ok dL_word_5 rfl 1 rfl ?_
  refine j_iconst (v := 4) ok dL_word_6 (by decide) ?_
  refine j_iadd ok dL_word_7 ?_
  rcases ite_prop h with ⟨c1, h⟩ | ⟨c1, h⟩
  · refine j_icmp_ge (tgt := 40) ok dL_word_8 (by decide) (fun _ => ?_) (fun z => absurd c1 z)
    exact J.sub [2] rfl (jL_word_40 ok hcc hcs he l2 G _ h (fun r G hr => hK (.inr r) G hr))
  · refine j_icmp_ge (tgt := 40) ok dL_word_8 (by decide) (fun z => absurd z c1) (fun _ => ?_)
    refine j_iload_n ok dL_word_11 rfl 2 rfl ?_
    refine j_bipush (v := 8) ok dL_word_12 (by decide) ?_
    refine j_ishl ok dL_word_14 ?_
    refine j_iload_n ok dL_word_15 rfl 3 rfl ?_
    refine j_aload_n ok dL_word_16 rfl 0 rfl ?_
    obtain ⟨kq2, h⟩ := h
    obtain ⟨q2, hq2, h⟩ := h
    refine k_V1 ok klh_L_92 ⟨Nat.le_of_ble_eq_true rfl, Nat.le_of_ble_eq_true rfl⟩ [] kq2 rfl rfl (Nat.le_of_ble_eq_true rfl) (tJ0_length_8abf5h ok.fl X.V l0 G hq2) dL_word_17 ?_
    rcases ite_prop h with ⟨c3, h⟩ | ⟨c3, h⟩
    · refine j_icmp_ge (tgt := 31) ok dL_word_20 (by decide) (fun _ => ?_) (fun z => absurd c3 z)
      refine j_iconst (v := 0) ok dL_word_31 (by decide) ?_
      exact J.sub [0, 1, 3] rfl (jL_word_32 ok hcc hcs he l0 l1 l3 (l2 <<< ((8 : Int32) &&& 31)) (0 : Int32) q2.2 _ h hK)
    · refine j_icmp_ge (tgt := 31) ok dL_word_20 (by decide) (fun z => absurd z c3) (fun _ => ?_)
      refine j_aload_n ok dL_word_23 rfl 0 rfl ?_
      refine j_iload_n ok dL_word_24 rfl 3 rfl ?_
      obtain ⟨kq4, h⟩ := h
      obtain ⟨q4, hq4, h⟩ := h
      refine k_V1 ok klh_L_97 ⟨Nat.le_of_ble_eq_true rfl, Nat.le_of_ble_eq_true rfl⟩ [.int l3] kq4 rfl rfl (Nat.le_of_ble_eq_true rfl) (tJ0_charAt_5068eh ok.fl X.V l0 l3 q2.2 hq4) dL_word_25 ?_
      refine j_goto (tgt := 32) ok dL_word_28 (by decide) ?_
      exact J.sub [0, 1, 3] rfl (jL_word_32 ok hcc hcs he l0 l1 l3 (l2 <<< ((8 : Int32) &&& 31)) q4.1 q4.2 _ h hK)

def wL_word_0 (l0 : Nat) (l1 : Int32)  (G : Mem) (c1 c2 : Nat) (K : Int32 → Mem → Prop) : Prop :=
  loopW (fun (s : Int32 × Int32) G K => wL_word_4 l0 l1 s.1 s.2 G c1 c2 K) FU ((0 : Int32), l1) G K

set_option maxRecDepth 100000 in
set_option maxHeartbeats 4000000 in
theorem jL_word_0 {X : Cx} (ok : OK X cL_word RL (some .int) 4 4 85) {P : Int32 → Mem → Prop} {c1 c2 : Nat} (hcc : X.V.cc = c1) (hcs : X.V.cs = c2) (he : EndP X Value.int P) (l0 : Nat) (l1 : Int32)  (G : Mem) (K : Int32 → Mem → Prop) (h : wL_word_0 l0 l1 G c1 c2 K) (hK : ∀ r G', K r G' → P r G') : J X 4 0 [(0, .ref (X.B + l0)), (1, .int l1)] [] G := by
  unfold wL_word_0 at h
  refine j_iconst (v := 0) ok dL_word_0 (by decide) ?_
  refine j_istore_n (L' := [(2, .int (0 : Int32)), (0, .ref (X.B + l0)), (1, .int l1)]) ok dL_word_1 rfl (by decide) rfl ?_
  refine j_iload_n ok dL_word_2 rfl 2 rfl ?_
  refine j_istore_n (L' := [(3, .int l1), (2, .int (0 : Int32)), (0, .ref (X.B + l0)), (1, .int l1)]) ok dL_word_3 rfl (by decide) rfl ?_
  have hJ : J X 4 4 [(0, .ref (X.B + l0)), (1, .int l1), (2, .int (0 : Int32)), (3, .int l1)] [] G := jw_loop (loc := fun s : Int32 × Int32 => [(0, .ref (X.B + l0)), (1, .int l1), (2, .int s.1), (3, .int s.2)]) (F := P) (fun s G K hb hk => jL_word_4 ok hcc hcs he l0 l1 s.1 s.2 G K hb hk) _ _ _ _ h hK
  exact J.sub [2, 3, 1, 0] rfl hJ

def wL_word (l0 : Nat) (l1 : Int32) (G : Mem) (c1 c2 : Nat) (K : Int32 → Mem → Prop) : Prop := wL_word_0 l0 l1 G c1 c2 K
set_option maxRecDepth 100000 in
theorem tL_word {l : Launch} (hfl : l.stackTraces = false) (V : Wd) (l0 : Nat) (l1 : Int32) (G : Mem) {P : Int32 → Mem → Prop} (h : wL_word l0 l1 G V.cc V.cs P) : ML l yL_word (Cond.code yL_word cL_word 4 (some .int)) 4 85 V [.ref (V.B + l0), .int l1] G Value.int P :=
  mp_of (L := [(0, .ref (V.B + l0)), (1, .int l1)]) hfl (by decide +kernel) (Nat.le_of_ble_eq_true rfl) rfl (fun X hl hV ok he => by
    subst hl; subst hV
    exact J.sub [0, 1] rfl (jL_word_0 ok rfl rfl he l0 l1 G _ h (fun _ _ z => z)))

def wL_write_95  (s0 : Int32) (G : Mem) (c1 c2 : Nat) (K : Int32 → Mem → Prop) : Prop :=
  (s0 = 0 ∨ s0 = 1) ∧
  K s0 G

set_option maxRecDepth 100000 in
set_option maxHeartbeats 4000000 in
theorem jL_write_95 {X : Cx} (ok : OK X cL_write RL (some .boolean) 3 10 204) {P : Int32 → Mem → Prop} {c1 c2 : Nat} (hcc : X.V.cc = c1) (hcs : X.V.cs = c2) (he : EndP X Value.int P)  (s0 : Int32) (G : Mem) (K : Int32 → Mem → Prop) (h : wL_write_95 s0 G c1 c2 K) (hK : ∀ r G', K r G' → P r G') : J X 3 95 [] [.int s0] G := by
  unfold wL_write_95 at h
  obtain ⟨hz1, h⟩ := h
  exact jl_zret ok (hK _ _ h) hz1 dL_write_95 he

def wL_write_75 (l0 : Nat) (l1 : Nat)  (G : Mem) (c1 c2 : Nat) (K : Int32 → Mem → Prop) : Prop :=
  mt G l1 = 17 ∧ ∃ q1, fJ0_length_8abf5h l1 G = some q1 ∧
  wpL (fL_truncateInput l0 q1.1 q1.2) hsL_truncateInput c1 c2 fun v2 G3 =>
  mt G3 l1 = 17 ∧ ∃ q5, fJ0_length_8abf5h l1 G3 = some q5 ∧
  if v2 = q5.1 then
    wL_write_95 (1 : Int32) q5.2 c1 c2 K
  else
    wL_write_95 (0 : Int32) q5.2 c1 c2 K

set_option maxRecDepth 100000 in
set_option maxHeartbeats 4000000 in
theorem jL_write_75 {X : Cx} (ok : OK X cL_write RL (some .boolean) 3 10 204) {P : Int32 → Mem → Prop} {c1 c2 : Nat} (hcc : X.V.cc = c1) (hcs : X.V.cs = c2) (he : EndP X Value.int P) (l0 : Nat) (l1 : Nat)  (G : Mem) (K : Int32 → Mem → Prop) (h : wL_write_75 l0 l1 G c1 c2 K) (hK : ∀ r G', K r G' → P r G') : J X 3 75 [(0, .ref (X.B + l0)), (1, .ref (X.B + l1))] [] G := by
  unfold wL_write_75 at h
  refine j_aload_n ok dL_write_75 rfl 0 rfl ?_
  refine j_aload_n ok dL_write_76 rfl 1 rfl ?_
  obtain ⟨kq1, h⟩ := h
  obtain ⟨q1, hq1, h⟩ := h
  refine k_V1 ok klh_L_92 ⟨Nat.le_of_ble_eq_true rfl, Nat.le_of_ble_eq_true rfl⟩ [] kq1 rfl rfl (Nat.le_of_ble_eq_true rfl) (tJ0_length_8abf5h ok.fl X.V l1 G hq1) dL_write_77 ?_
  have hw4 := h
  obtain ⟨q0, hq0, -⟩ := h
  refine k_L ok kl_L_101 ⟨Nat.le_of_ble_eq_true rfl, Nat.le_of_ble_eq_true rfl⟩ [.ref (X.B + l0), .int q1.1] rfl rfl (Nat.le_of_ble_eq_true rfl) (tL_truncateInput ok.fl X.V l0 q1.1 q1.2 (by rw [hq0]; rfl)) dL_write_80 (fun v2 G3 hP => ?_)
  rw [hcc, hcs] at hP
  have h := pl_wp hw4 hP
  clear hw4 hP hq0
  refine j_aload_n ok dL_write_83 rfl 1 rfl ?_
  obtain ⟨kq5, h⟩ := h
  obtain ⟨q5, hq5, h⟩ := h
  refine k_V1 ok klh_L_92 ⟨Nat.le_of_ble_eq_true rfl, Nat.le_of_ble_eq_true rfl⟩ [] kq5 rfl rfl (Nat.le_of_ble_eq_true rfl) (tJ0_length_8abf5h ok.fl X.V l1 G3 hq5) dL_write_84 ?_
  rcases ite_prop h with ⟨c6, h⟩ | ⟨c6, h⟩
  · refine j_icmp_ne (tgt := 94) ok dL_write_87 (by decide) (fun z => absurd c6 z) (fun _ => ?_)
    refine j_iconst (v := 1) ok dL_write_90 (by decide) ?_
    refine j_goto (tgt := 95) ok dL_write_91 (by decide) ?_
    exact J.sub [] rfl (jL_write_95 ok hcc hcs he (1 : Int32) q5.2 _ h hK)
  · refine j_icmp_ne (tgt := 94) ok dL_write_87 (by decide) (fun _ => ?_) (fun z => absurd z c6)
    refine j_iconst (v := 0) ok dL_write_94 (by decide) ?_
    exact J.sub [] rfl (jL_write_95 ok hcc hcs he (0 : Int32) q5.2 _ h hK)

def wL_write_67   (G : Mem) (c1 c2 : Nat) (K : Int32 → Mem → Prop) : Prop :=
  K (0 : Int32) G

set_option maxRecDepth 100000 in
set_option maxHeartbeats 4000000 in
theorem jL_write_67 {X : Cx} (ok : OK X cL_write RL (some .boolean) 3 10 204) {P : Int32 → Mem → Prop} {c1 c2 : Nat} (hcc : X.V.cc = c1) (hcs : X.V.cs = c2) (he : EndP X Value.int P)   (G : Mem) (K : Int32 → Mem → Prop) (h : wL_write_67  G c1 c2 K) (hK : ∀ r G', K r G' → P r G') : J X 3 67 [] [] G := by
  unfold wL_write_67 at h
  refine j_iconst (v := 0) ok dL_write_67 (by decide) ?_
  exact jl_zret ok (hK _ _ h) (Or.inl rfl) dL_write_68 he

def wL_write_12 (l0 : Nat) (l1 : Nat) (l2 : Int32)  (G : Mem) (c1 c2 : Nat) (K : ((Int32) ⊕ Int32) → Mem → Prop) : Prop :=
  mt G l1 = 17 ∧ ∃ q1, fJ0_length_8abf5h l1 G = some q1 ∧
  if q1.1 ≤ l2 then
    wL_write_75 l0 l1 q1.2 c1 c2 (fun r G => K (.inr r) G)
  else
    wL_word l1 l2 q1.2 c1 c2 fun v3 G4 =>
    wL_word l1 (l2 + (4 : Int32)) G4 c1 c2 fun v5 G6 =>
    wL_word l1 (l2 + (8 : Int32)) G6 c1 c2 fun v7 G8 =>
    wL_word l1 (l2 + (12 : Int32)) G8 c1 c2 fun v9 G10 =>
    wL_word l1 (l2 + (16 : Int32)) G10 c1 c2 fun v11 G12 =>
    mt G12 l0 = 16 ∧ ∃ q13, fX6_append l0 v3 v5 v7 v9 v11 G12 = some q13 ∧
    if q13.1 = (l2 + (20 : Int32)) then
      K (.inl ((l2 + (20 : Int32)))) q13.2
    else
      wL_write_67 q13.2 c1 c2 (fun r G => K (.inr r) G)

set_option maxRecDepth 100000 in
set_option maxHeartbeats 4000000 in
theorem jL_write_12 {X : Cx} (ok : OK X cL_write RL (some .boolean) 3 10 204) {P : Int32 → Mem → Prop} {c1 c2 : Nat} (hcc : X.V.cc = c1) (hcs : X.V.cs = c2) (he : EndP X Value.int P) (l0 : Nat) (l1 : Nat) (l2 : Int32)  (G : Mem) (K : ((Int32) ⊕ Int32) → Mem → Prop) (h : wL_write_12 l0 l1 l2 G c1 c2 K) (hK : ∀ r G', K r G' → (finL X 3 12 (fun s : Int32 => [(0, .ref (X.B + l0)), (1, .ref (X.B + l1)), (2, .int s)]) P) r G') : J X 3 12 [(0, .ref (X.B + l0)), (1, .ref (X.B + l1)), (2, .int l2)] [] G := by
  unfold wL_write_12 at h
  refine j_iload_n ok dL_write_12 rfl 2 rfl ?_
  refine j_aload_n ok dL_write_13 rfl 1 rfl ?_
  obtain ⟨kq1, h⟩ := h
  obtain ⟨q1, hq1, h⟩ := h
  refine k_V1 ok klh_L_92 ⟨Nat.le_of_ble_eq_true rfl, Nat.le_of_ble_eq_true rfl⟩ [] kq1 rfl rfl (Nat.le_of_ble_eq_true rfl) (tJ0_length_8abf5h ok.fl X.V l1 G hq1) dL_write_14 ?_
  rcases ite_prop h with ⟨c2, h⟩ | ⟨c2, h⟩
  · refine j_icmp_ge (tgt := 75) ok dL_write_17 (by decide) (fun _ => ?_) (fun z => absurd c2 z)
    exact J.sub [0, 1] rfl (jL_write_75 ok hcc hcs he l0 l1 q1.2 _ h (fun r G hr => hK (.inr r) G hr))
  · refine j_icmp_ge (tgt := 75) ok dL_write_17 (by decide) (fun z => absurd z c2) (fun _ => ?_)
    refine j_aload_n ok dL_write_20 rfl 0 rfl ?_
    refine j_aload_n ok dL_write_21 rfl 1 rfl ?_
    refine j_iload_n ok dL_write_22 rfl 2 rfl ?_
    refine k_Q ok kl_L_106 ⟨Nat.le_of_ble_eq_true rfl, Nat.le_of_ble_eq_true rfl⟩ [.ref (X.B + l1), .int l2] rfl rfl (Nat.le_of_ble_eq_true rfl) (tL_word ok.fl X.V l1 l2 q1.2 (by rw [hcc, hcs]; exact h)) dL_write_23 (fun v3 G4 h => ?_)
    refine j_aload_n ok dL_write_26 rfl 1 rfl ?_
    refine j_iload_n ok dL_write_27 rfl 2 rfl ?_
    refine j_iconst (v := 4) ok dL_write_28 (by decide) ?_
    refine j_iadd ok dL_write_29 ?_
    refine k_Q ok kl_L_106 ⟨Nat.le_of_ble_eq_true rfl, Nat.le_of_ble_eq_true rfl⟩ [.ref (X.B + l1), .int (l2 + (4 : Int32))] rfl rfl (Nat.le_of_ble_eq_true rfl) (tL_word ok.fl X.V l1 (l2 + (4 : Int32)) G4 (by rw [hcc, hcs]; exact h)) dL_write_30 (fun v5 G6 h => ?_)
    refine j_aload_n ok dL_write_33 rfl 1 rfl ?_
    refine j_iload_n ok dL_write_34 rfl 2 rfl ?_
    refine j_bipush (v := 8) ok dL_write_35 (by decide) ?_
    refine j_iadd ok dL_write_37 ?_
    refine k_Q ok kl_L_106 ⟨Nat.le_of_ble_eq_true rfl, Nat.le_of_ble_eq_true rfl⟩ [.ref (X.B + l1), .int (l2 + (8 : Int32))] rfl rfl (Nat.le_of_ble_eq_true rfl) (tL_word ok.fl X.V l1 (l2 + (8 : Int32)) G6 (by rw [hcc, hcs]; exact h)) dL_write_38 (fun v7 G8 h => ?_)
    refine j_aload_n ok dL_write_41 rfl 1 rfl ?_
    refine j_iload_n ok dL_write_42 rfl 2 rfl ?_
    refine j_bipush (v := 12) ok dL_write_43 (by decide) ?_
    refine j_iadd ok dL_write_45 ?_
    refine k_Q ok kl_L_106 ⟨Nat.le_of_ble_eq_true rfl, Nat.le_of_ble_eq_true rfl⟩ [.ref (X.B + l1), .int (l2 + (12 : Int32))] rfl rfl (Nat.le_of_ble_eq_true rfl) (tL_word ok.fl X.V l1 (l2 + (12 : Int32)) G8 (by rw [hcc, hcs]; exact h)) dL_write_46 (fun v9 G10 h => ?_)
    refine j_aload_n ok dL_write_49 rfl 1 rfl ?_
    refine j_iload_n ok dL_write_50 rfl 2 rfl ?_
    refine j_bipush (v := 16) ok dL_write_51 (by decide) ?_
    refine j_iadd ok dL_write_53 ?_
    refine k_Q ok kl_L_106 ⟨Nat.le_of_ble_eq_true rfl, Nat.le_of_ble_eq_true rfl⟩ [.ref (X.B + l1), .int (l2 + (16 : Int32))] rfl rfl (Nat.le_of_ble_eq_true rfl) (tL_word ok.fl X.V l1 (l2 + (16 : Int32)) G10 (by rw [hcc, hcs]; exact h)) dL_write_54 (fun v11 G12 h => ?_)
    obtain ⟨kq13, h⟩ := h
    obtain ⟨q13, hq13, h⟩ := h
    refine k_V1 ok kl_L_110 ⟨Nat.le_of_ble_eq_true rfl, Nat.le_of_ble_eq_true rfl⟩ [.int v3, .int v5, .int v7, .int v9, .int v11] kq13 rfl rfl (Nat.le_of_ble_eq_true rfl) (tX6_append ok.fl X.V l0 v3 v5 v7 v9 v11 G12 hq13) dL_write_57 ?_
    refine j_iload_n ok dL_write_60 rfl 2 rfl ?_
    refine j_bipush (v := 20) ok dL_write_61 (by decide) ?_
    refine j_iadd ok dL_write_63 ?_
    rcases ite_prop h with ⟨c14, h⟩ | ⟨c14, h⟩
    · refine j_icmp_eq (tgt := 69) ok dL_write_64 (by decide) (fun _ => ?_) (fun z => absurd c14 z)
      refine j_iinc (L' := [(2, .int (l2 + (20 : Int32))), (0, .ref (X.B + l0)), (1, .ref (X.B + l1))]) (v := (l2 + (20 : Int32))) ok dL_write_69 (q := 2) rfl rfl (by decide) rfl ?_
      refine j_goto (tgt := 12) ok dL_write_72 (by decide) ?_
      have hJ : J X 3 12 [(0, .ref (X.B + l0)), (1, .ref (X.B + l1)), (2, .int (l2 + (20 : Int32)))] [] q13.2 := hK _ _ h
      exact J.sub [1, 2, 0] rfl hJ
    · refine j_icmp_eq (tgt := 69) ok dL_write_64 (by decide) (fun z => absurd z c14) (fun _ => ?_)
      exact J.sub [] rfl (jL_write_67 ok hcc hcs he q13.2 _ h (fun r G hr => hK (.inr r) G hr))

def wL_write_0 (l0 : Nat) (l1 : Nat)  (G : Mem) (c1 c2 : Nat) (K : Int32 → Mem → Prop) : Prop :=
  wpL (fL_truncateInput l0 (0 : Int32) G) hsL_truncateInput c1 c2 fun v1 G2 =>
  if v1 = (0 : Int32) then
    loopW (fun (s : Int32) G K => wL_write_12 l0 l1 s G c1 c2 K) FU ((0 : Int32)) G2 K
  else
    K (0 : Int32) G2

set_option maxRecDepth 100000 in
set_option maxHeartbeats 4000000 in
theorem jL_write_0 {X : Cx} (ok : OK X cL_write RL (some .boolean) 3 10 204) {P : Int32 → Mem → Prop} {c1 c2 : Nat} (hcc : X.V.cc = c1) (hcs : X.V.cs = c2) (he : EndP X Value.int P) (l0 : Nat) (l1 : Nat)  (G : Mem) (K : Int32 → Mem → Prop) (h : wL_write_0 l0 l1 G c1 c2 K) (hK : ∀ r G', K r G' → P r G') : J X 3 0 [(0, .ref (X.B + l0)), (1, .ref (X.B + l1))] [] G := by
  unfold wL_write_0 at h
  refine j_aload_n ok dL_write_0 rfl 0 rfl ?_
  refine j_iconst (v := 0) ok dL_write_1 (by decide) ?_
  have hw3 := h
  obtain ⟨q0, hq0, -⟩ := h
  refine k_L ok kl_L_101 ⟨Nat.le_of_ble_eq_true rfl, Nat.le_of_ble_eq_true rfl⟩ [.ref (X.B + l0), .int (0 : Int32)] rfl rfl (Nat.le_of_ble_eq_true rfl) (tL_truncateInput ok.fl X.V l0 (0 : Int32) G (by rw [hq0]; rfl)) dL_write_2 (fun v1 G2 hP => ?_)
  rw [hcc, hcs] at hP
  have h := pl_wp hw3 hP
  clear hw3 hP hq0
  rcases ite_prop h with ⟨c4, h⟩ | ⟨c4, h⟩
  · refine j_if_eq (tgt := 10) ok dL_write_5 (by decide) (fun _ => ?_) (fun z => absurd c4 z)
    refine j_iconst (v := 0) ok dL_write_10 (by decide) ?_
    refine j_istore_n (L' := [(2, .int (0 : Int32)), (0, .ref (X.B + l0)), (1, .ref (X.B + l1))]) ok dL_write_11 rfl (by decide) rfl ?_
    have hJ : J X 3 12 [(0, .ref (X.B + l0)), (1, .ref (X.B + l1)), (2, .int (0 : Int32))] [] G2 := jw_loop (loc := fun s : Int32 => [(0, .ref (X.B + l0)), (1, .ref (X.B + l1)), (2, .int s)]) (F := P) (fun s G K hb hk => jL_write_12 ok hcc hcs he l0 l1 s G K hb hk) _ _ _ _ h hK
    exact J.sub [1, 2, 0] rfl hJ
  · refine j_if_eq (tgt := 10) ok dL_write_5 (by decide) (fun z => absurd z c4) (fun _ => ?_)
    refine j_iconst (v := 0) ok dL_write_8 (by decide) ?_
    exact jl_zret ok (hK _ _ h) (Or.inl rfl) dL_write_9 he

def wL_write (l0 : Nat) (l1 : Nat) (G : Mem) (c1 c2 : Nat) (K : Int32 → Mem → Prop) : Prop := wL_write_0 l0 l1 G c1 c2 K
set_option maxRecDepth 100000 in
theorem tL_write {l : Launch} (hfl : l.stackTraces = false) (V : Wd) (l0 : Nat) (l1 : Nat) (G : Mem) {P : Int32 → Mem → Prop} (h : wL_write l0 l1 G V.cc V.cs P) : ML l yL_write (Cond.code yL_write cL_write 3 (some .boolean)) 10 204 V [.ref (V.B + l0), .ref (V.B + l1)] G Value.int P :=
  mp_of (L := [(0, .ref (V.B + l0)), (1, .ref (V.B + l1))]) hfl (by decide +kernel) (Nat.le_of_ble_eq_true rfl) rfl (fun X hl hV ok he => by
    subst hl; subst hV
    exact J.sub [0, 1] rfl (jL_write_0 ok rfl rfl he l0 l1 G _ h (fun _ _ z => z)))

def wL_isGame_233   (G : Mem) (c1 c2 : Nat) (K : Int32 → Mem → Prop) : Prop :=
  K (0 : Int32) G

set_option maxRecDepth 100000 in
set_option maxHeartbeats 4000000 in
theorem jL_isGame_233 {X : Cx} (ok : OK X cL_isGame RL (some .boolean) 14 12 249) {P : Int32 → Mem → Prop} {c1 c2 : Nat} (hcc : X.V.cc = c1) (hcs : X.V.cs = c2) (he : EndP X Value.int P)   (G : Mem) (K : Int32 → Mem → Prop) (h : wL_isGame_233  G c1 c2 K) (hK : ∀ r G', K r G' → P r G') : J X 14 233 [] [] G := by
  unfold wL_isGame_233 at h
  refine j_iconst (v := 0) ok dL_isGame_233 (by decide) ?_
  exact jl_zret ok (hK _ _ h) (Or.inl rfl) dL_isGame_234 he

def wL_isGame_517  (s0 : Int32) (G : Mem) (c1 c2 : Nat) (K : Int32 → Mem → Prop) : Prop :=
  (s0 = 0 ∨ s0 = 1) ∧
  K s0 G

set_option maxRecDepth 100000 in
set_option maxHeartbeats 4000000 in
theorem jL_isGame_517 {X : Cx} (ok : OK X cL_isGame RL (some .boolean) 14 12 249) {P : Int32 → Mem → Prop} {c1 c2 : Nat} (hcc : X.V.cc = c1) (hcs : X.V.cs = c2) (he : EndP X Value.int P)  (s0 : Int32) (G : Mem) (K : Int32 → Mem → Prop) (h : wL_isGame_517 s0 G c1 c2 K) (hK : ∀ r G', K r G' → P r G') : J X 14 517 [] [.int s0] G := by
  unfold wL_isGame_517 at h
  obtain ⟨hz1, h⟩ := h
  exact jl_zret ok (hK _ _ h) hz1 dL_isGame_517 he

def wL_isGame_516   (G : Mem) (c1 c2 : Nat) (K : Int32 → Mem → Prop) : Prop :=
  wL_isGame_517 (0 : Int32) G c1 c2 K

set_option maxRecDepth 100000 in
set_option maxHeartbeats 4000000 in
theorem jL_isGame_516 {X : Cx} (ok : OK X cL_isGame RL (some .boolean) 14 12 249) {P : Int32 → Mem → Prop} {c1 c2 : Nat} (hcc : X.V.cc = c1) (hcs : X.V.cs = c2) (he : EndP X Value.int P)   (G : Mem) (K : Int32 → Mem → Prop) (h : wL_isGame_516  G c1 c2 K) (hK : ∀ r G', K r G' → P r G') : J X 14 516 [] [] G := by
  unfold wL_isGame_516 at h
  refine j_iconst (v := 0) ok dL_isGame_516 (by decide) ?_
  exact J.sub [] rfl (jL_isGame_517 ok hcc hcs he (0 : Int32) G _ h hK)

def wL_isGame_496 (l0 : Nat) (l5 : Int32)  (G : Mem) (c1 c2 : Nat) (K : Int32 → Mem → Prop) : Prop :=
  mt G l0 = 16 ∧ ∃ q1, fX6_mostDoubtfulNote l0 G = some q1 ∧
  if q1.1 = l5 then
    mt q1.2 l0 = 16 ∧ ∃ q3, fX6_inconsistencies l0 q1.2 = some q3 ∧
    if q3.1 = (0 : Int32) then
      wL_isGame_517 (1 : Int32) q3.2 c1 c2 K
    else
      wL_isGame_516 q3.2 c1 c2 K
  else
    wL_isGame_516 q1.2 c1 c2 K

set_option maxRecDepth 100000 in
set_option maxHeartbeats 4000000 in
theorem jL_isGame_496 {X : Cx} (ok : OK X cL_isGame RL (some .boolean) 14 12 249) {P : Int32 → Mem → Prop} {c1 c2 : Nat} (hcc : X.V.cc = c1) (hcs : X.V.cs = c2) (he : EndP X Value.int P) (l0 : Nat) (l5 : Int32)  (G : Mem) (K : Int32 → Mem → Prop) (h : wL_isGame_496 l0 l5 G c1 c2 K) (hK : ∀ r G', K r G' → P r G') : J X 14 496 [(0, .ref (X.B + l0)), (5, .int l5)] [] G := by
  unfold wL_isGame_496 at h
  refine j_aload_n ok dL_isGame_496 rfl 0 rfl ?_
  obtain ⟨kq1, h⟩ := h
  obtain ⟨q1, hq1, h⟩ := h
  refine k_V1 ok kl_L_166 ⟨Nat.le_of_ble_eq_true rfl, Nat.le_of_ble_eq_true rfl⟩ [] kq1 rfl rfl (Nat.le_of_ble_eq_true rfl) (tX6_mostDoubtfulNote ok.fl X.V l0 G hq1) dL_isGame_497 ?_
  refine j_iload ok dL_isGame_500 1 rfl ?_
  rcases ite_prop h with ⟨c2, h⟩ | ⟨c2, h⟩
  · refine j_icmp_ne (tgt := 516) ok dL_isGame_502 (by decide) (fun z => absurd c2 z) (fun _ => ?_)
    refine j_aload_n ok dL_isGame_505 rfl 0 rfl ?_
    obtain ⟨kq3, h⟩ := h
    obtain ⟨q3, hq3, h⟩ := h
    refine k_V1 ok kl_L_169 ⟨Nat.le_of_ble_eq_true rfl, Nat.le_of_ble_eq_true rfl⟩ [] kq3 rfl rfl (Nat.le_of_ble_eq_true rfl) (tX6_inconsistencies ok.fl X.V l0 q1.2 hq3) dL_isGame_506 ?_
    rcases ite_prop h with ⟨c4, h⟩ | ⟨c4, h⟩
    · refine j_if_ne (tgt := 516) ok dL_isGame_509 (by decide) (fun z => absurd c4 z) (fun _ => ?_)
      refine j_iconst (v := 1) ok dL_isGame_512 (by decide) ?_
      refine j_goto (tgt := 517) ok dL_isGame_513 (by decide) ?_
      exact J.sub [] rfl (jL_isGame_517 ok hcc hcs he (1 : Int32) q3.2 _ h hK)
    · refine j_if_ne (tgt := 516) ok dL_isGame_509 (by decide) (fun _ => ?_) (fun z => absurd z c4)
      exact J.sub [] rfl (jL_isGame_516 ok hcc hcs he q3.2 _ h hK)
  · refine j_icmp_ne (tgt := 516) ok dL_isGame_502 (by decide) (fun _ => ?_) (fun z => absurd z c2)
    exact J.sub [] rfl (jL_isGame_516 ok hcc hcs he q1.2 _ h hK)

def wL_isGame_473   (G : Mem) (c1 c2 : Nat) (K : Int32 → Mem → Prop) : Prop :=
  K (0 : Int32) G

set_option maxRecDepth 100000 in
set_option maxHeartbeats 4000000 in
theorem jL_isGame_473 {X : Cx} (ok : OK X cL_isGame RL (some .boolean) 14 12 249) {P : Int32 → Mem → Prop} {c1 c2 : Nat} (hcc : X.V.cc = c1) (hcs : X.V.cs = c2) (he : EndP X Value.int P)   (G : Mem) (K : Int32 → Mem → Prop) (h : wL_isGame_473  G c1 c2 K) (hK : ∀ r G', K r G' → P r G') : J X 14 473 [] [] G := by
  unfold wL_isGame_473 at h
  refine j_iconst (v := 0) ok dL_isGame_473 (by decide) ?_
  exact jl_zret ok (hK _ _ h) (Or.inl rfl) dL_isGame_474 he

def wL_isGame_490 (l0 : Nat) (l1 : Int64) (l3 : Int32) (l4 : Int32) (l5 : Int32) (l6 : Int32)  (G : Mem) (c1 c2 : Nat) (K : ((Int32 × Int32 × Int32) ⊕ Int32) → Mem → Prop) : Prop :=
  K (.inl (l4, l5, (l6 + (1 : Int32)))) G

set_option maxRecDepth 100000 in
set_option maxHeartbeats 4000000 in
theorem jL_isGame_490 {X : Cx} (ok : OK X cL_isGame RL (some .boolean) 14 12 249) {P : Int32 → Mem → Prop} {c1 c2 : Nat} (hcc : X.V.cc = c1) (hcs : X.V.cs = c2) (he : EndP X Value.int P) (l0 : Nat) (l1 : Int64) (l3 : Int32) (l4 : Int32) (l5 : Int32) (l6 : Int32)  (G : Mem) (K : ((Int32 × Int32 × Int32) ⊕ Int32) → Mem → Prop) (h : wL_isGame_490 l0 l1 l3 l4 l5 l6 G c1 c2 K) (hK : ∀ r G', K r G' → (finL X 14 244 (fun s : Int32 × Int32 × Int32 => [(0, .ref (X.B + l0)), (1, .long l1), (3, .int l3), (4, .int s.1), (5, .int s.2.1), (6, .int s.2.2)]) P) r G') : J X 14 490 [(0, .ref (X.B + l0)), (1, .long l1), (3, .int l3), (4, .int l4), (5, .int l5), (6, .int l6)] [] G := by
  unfold wL_isGame_490 at h
  refine j_iinc (L' := [(6, .int (l6 + (1 : Int32))), (0, .ref (X.B + l0)), (1, .long l1), (3, .int l3), (4, .int l4), (5, .int l5)]) (v := (l6 + (1 : Int32))) ok dL_isGame_490 (q := 5) rfl rfl (by decide) rfl ?_
  refine j_goto (tgt := 244) ok dL_isGame_493 (by decide) ?_
  have hJ : J X 14 244 [(0, .ref (X.B + l0)), (1, .long l1), (3, .int l3), (4, .int l4), (5, .int l5), (6, .int (l6 + (1 : Int32)))] [] G := hK _ _ h
  exact J.sub [1, 2, 3, 4, 5, 0] rfl hJ

def wL_isGame_453 (l0 : Nat) (l1 : Int64) (l3 : Int32) (l4 : Int32) (l5 : Int32) (l6 : Int32) (l7 : Int32) (l8 : Int64)  (G : Mem) (c1 c2 : Nat) (K : ((Int32 × Int32 × Int32) ⊕ Int32) → Mem → Prop) : Prop :=
  if (lg_cmp l8 l1) = (0 : Int32) then
    wpL (fL_moveOrigin l0 l6 l7 G) hsL_moveOrigin c1 c2 fun v2 G3 =>
    if v2 = (-17 : Int32) then
      if l7 ≤ l4 then
        wL_isGame_490 l0 l1 l3 l4 l5 l6 G3 c1 c2 K
      else
        wL_isGame_490 l0 l1 l3 l7 l6 l6 G3 c1 c2 K
    else
      wL_isGame_473 G3 c1 c2 (fun r G => K (.inr r) G)
  else
    wL_isGame_473 G c1 c2 (fun r G => K (.inr r) G)

set_option maxRecDepth 100000 in
set_option maxHeartbeats 4000000 in
theorem jL_isGame_453 {X : Cx} (ok : OK X cL_isGame RL (some .boolean) 14 12 249) {P : Int32 → Mem → Prop} {c1 c2 : Nat} (hcc : X.V.cc = c1) (hcs : X.V.cs = c2) (he : EndP X Value.int P) (l0 : Nat) (l1 : Int64) (l3 : Int32) (l4 : Int32) (l5 : Int32) (l6 : Int32) (l7 : Int32) (l8 : Int64)  (G : Mem) (K : ((Int32 × Int32 × Int32) ⊕ Int32) → Mem → Prop) (h : wL_isGame_453 l0 l1 l3 l4 l5 l6 l7 l8 G c1 c2 K) (hK : ∀ r G', K r G' → (finL X 14 244 (fun s : Int32 × Int32 × Int32 => [(0, .ref (X.B + l0)), (1, .long l1), (3, .int l3), (4, .int s.1), (5, .int s.2.1), (6, .int s.2.2)]) P) r G') : J X 14 453 [(0, .ref (X.B + l0)), (1, .long l1), (3, .int l3), (4, .int l4), (5, .int l5), (6, .int l6), (7, .int l7), (8, .long l8)] [] G := by
  unfold wL_isGame_453 at h
  refine j_lload ok dL_isGame_453 7 rfl ?_
  refine j_lload_n ok dL_isGame_455 rfl 1 rfl ?_
  refine j_lcmp ok dL_isGame_456 ?_
  rcases ite_prop h with ⟨c1, h⟩ | ⟨c1, h⟩
  · refine j_if_ne (tgt := 473) ok dL_isGame_457 (by decide) (fun z => absurd c1 z) (fun _ => ?_)
    refine j_aload_n ok dL_isGame_460 rfl 0 rfl ?_
    refine j_iload ok dL_isGame_461 5 rfl ?_
    refine j_iload ok dL_isGame_463 6 rfl ?_
    have hw4 := h
    obtain ⟨q0, hq0, -⟩ := h
    refine k_L ok kl_L_150 ⟨Nat.le_of_ble_eq_true rfl, Nat.le_of_ble_eq_true rfl⟩ [.ref (X.B + l0), .int l6, .int l7] rfl rfl (Nat.le_of_ble_eq_true rfl) (tL_moveOrigin ok.fl X.V l0 l6 l7 G (by rw [hq0]; rfl)) dL_isGame_465 (fun v2 G3 hP => ?_)
    rw [hcc, hcs] at hP
    have h := pl_wp hw4 hP
    clear hw4 hP hq0
    refine j_bipush (v := -17) ok dL_isGame_468 (by decide) ?_
    rcases ite_prop h with ⟨c5, h⟩ | ⟨c5, h⟩
    · refine j_icmp_eq (tgt := 475) ok dL_isGame_470 (by decide) (fun _ => ?_) (fun z => absurd c5 z)
      refine j_iload ok dL_isGame_475 6 rfl ?_
      refine j_iload ok dL_isGame_477 3 rfl ?_
      rcases ite_prop h with ⟨c6, h⟩ | ⟨c6, h⟩
      · refine j_icmp_le (tgt := 490) ok dL_isGame_479 (by decide) (fun _ => ?_) (fun z => absurd c6 z)
        exact J.sub [0, 1, 2, 3, 4, 5] rfl (jL_isGame_490 ok hcc hcs he l0 l1 l3 l4 l5 l6 G3 _ h hK)
      · refine j_icmp_le (tgt := 490) ok dL_isGame_479 (by decide) (fun z => absurd z c6) (fun _ => ?_)
        refine j_iload ok dL_isGame_482 6 rfl ?_
        refine j_istore (L' := [(4, .int l7), (0, .ref (X.B + l0)), (1, .long l1), (3, .int l3), (5, .int l5), (6, .int l6), (7, .int l7), (8, .long l8)]) ok dL_isGame_484 (by decide) rfl ?_
        refine j_iload ok dL_isGame_486 5 rfl ?_
        refine j_istore (L' := [(5, .int l6), (4, .int l7), (0, .ref (X.B + l0)), (1, .long l1), (3, .int l3), (6, .int l6), (7, .int l7), (8, .long l8)]) ok dL_isGame_488 (by decide) rfl ?_
        exact J.sub [2, 3, 4, 1, 0, 5] rfl (jL_isGame_490 ok hcc hcs he l0 l1 l3 l7 l6 l6 G3 _ h hK)
    · refine j_icmp_eq (tgt := 475) ok dL_isGame_470 (by decide) (fun z => absurd z c5) (fun _ => ?_)
      exact J.sub [] rfl (jL_isGame_473 ok hcc hcs he G3 _ h (fun r G hr => hK (.inr r) G hr))
  · refine j_if_ne (tgt := 473) ok dL_isGame_457 (by decide) (fun _ => ?_) (fun z => absurd z c1)
    exact J.sub [] rfl (jL_isGame_473 ok hcc hcs he G _ h (fun r G hr => hK (.inr r) G hr))

def wL_isGame_320   (G : Mem) (c1 c2 : Nat) (K : Int32 → Mem → Prop) : Prop :=
  K (0 : Int32) G

set_option maxRecDepth 100000 in
set_option maxHeartbeats 4000000 in
theorem jL_isGame_320 {X : Cx} (ok : OK X cL_isGame RL (some .boolean) 14 12 249) {P : Int32 → Mem → Prop} {c1 c2 : Nat} (hcc : X.V.cc = c1) (hcs : X.V.cs = c2) (he : EndP X Value.int P)   (G : Mem) (K : Int32 → Mem → Prop) (h : wL_isGame_320  G c1 c2 K) (hK : ∀ r G', K r G' → P r G') : J X 14 320 [] [] G := by
  unfold wL_isGame_320 at h
  refine j_iconst (v := 0) ok dL_isGame_320 (by decide) ?_
  exact jl_zret ok (hK _ _ h) (Or.inl rfl) dL_isGame_321 he

def wL_isGame_447 (l0 : Nat) (l1 : Int64) (l3 : Int32) (l4 : Int32) (l5 : Int32) (l6 : Int32) (l7 : Int32) (l8 : Int64) (l10 : Int32) (l11 : Int32)  (G : Mem) (c1 c2 : Nat) (K : ((Int64 × Int32 × Int32) ⊕ ((Int32 × Int32 × Int32) ⊕ Int32)) → Mem → Prop) : Prop :=
  K (.inl (l8, l10, (l11 + (1 : Int32)))) G

set_option maxRecDepth 100000 in
set_option maxHeartbeats 4000000 in
theorem jL_isGame_447 {X : Cx} (ok : OK X cL_isGame RL (some .boolean) 14 12 249) {P : Int32 → Mem → Prop} {c1 c2 : Nat} (hcc : X.V.cc = c1) (hcs : X.V.cs = c2) (he : EndP X Value.int P) (l0 : Nat) (l1 : Int64) (l3 : Int32) (l4 : Int32) (l5 : Int32) (l6 : Int32) (l7 : Int32) (l8 : Int64) (l10 : Int32) (l11 : Int32)  (G : Mem) (K : ((Int64 × Int32 × Int32) ⊕ ((Int32 × Int32 × Int32) ⊕ Int32)) → Mem → Prop) (h : wL_isGame_447 l0 l1 l3 l4 l5 l6 l7 l8 l10 l11 G c1 c2 K) (hK : ∀ r G', K r G' → (finL X 14 267 (fun s : Int64 × Int32 × Int32 => [(0, .ref (X.B + l0)), (1, .long l1), (3, .int l3), (4, .int l4), (5, .int l5), (6, .int l6), (7, .int l7), (8, .long s.1), (10, .int s.2.1), (11, .int s.2.2)]) (finL X 14 244 (fun s : Int32 × Int32 × Int32 => [(0, .ref (X.B + l0)), (1, .long l1), (3, .int l3), (4, .int s.1), (5, .int s.2.1), (6, .int s.2.2)]) P)) r G') : J X 14 447 [(0, .ref (X.B + l0)), (1, .long l1), (3, .int l3), (4, .int l4), (5, .int l5), (6, .int l6), (7, .int l7), (8, .long l8), (10, .int l10), (11, .int l11)] [] G := by
  unfold wL_isGame_447 at h
  refine j_iinc (L' := [(11, .int (l11 + (1 : Int32))), (0, .ref (X.B + l0)), (1, .long l1), (3, .int l3), (4, .int l4), (5, .int l5), (6, .int l6), (7, .int l7), (8, .long l8), (10, .int l10)]) (v := (l11 + (1 : Int32))) ok dL_isGame_447 (q := 9) rfl rfl (by decide) rfl ?_
  refine j_goto (tgt := 267) ok dL_isGame_450 (by decide) ?_
  have hJ : J X 14 267 [(0, .ref (X.B + l0)), (1, .long l1), (3, .int l3), (4, .int l4), (5, .int l5), (6, .int l6), (7, .int l7), (8, .long l8), (10, .int l10), (11, .int (l11 + (1 : Int32)))] [] G := hK _ _ h
  exact J.sub [1, 2, 3, 4, 5, 6, 7, 8, 9, 0] rfl hJ

def wL_isGame_445   (G : Mem) (c1 c2 : Nat) (K : Int32 → Mem → Prop) : Prop :=
  K (0 : Int32) G

set_option maxRecDepth 100000 in
set_option maxHeartbeats 4000000 in
theorem jL_isGame_445 {X : Cx} (ok : OK X cL_isGame RL (some .boolean) 14 12 249) {P : Int32 → Mem → Prop} {c1 c2 : Nat} (hcc : X.V.cc = c1) (hcs : X.V.cs = c2) (he : EndP X Value.int P)   (G : Mem) (K : Int32 → Mem → Prop) (h : wL_isGame_445  G c1 c2 K) (hK : ∀ r G', K r G' → P r G') : J X 14 445 [] [] G := by
  unfold wL_isGame_445 at h
  refine j_iconst (v := 0) ok dL_isGame_445 (by decide) ?_
  exact jl_zret ok (hK _ _ h) (Or.inl rfl) dL_isGame_446 he

def wL_isGame_420 (l0 : Nat) (l1 : Int64) (l3 : Int32) (l4 : Int32) (l5 : Int32) (l6 : Int32) (l7 : Int32) (l8 : Int64) (l10 : Int32) (l11 : Int32) (l13 : Int32)  (G : Mem) (c1 c2 : Nat) (K : ((Int64 × Int32 × Int32) ⊕ ((Int32 × Int32 × Int32) ⊕ Int32)) → Mem → Prop) : Prop :=
  wpL (fL_noteToRow l0 l6 G) hsL_noteToRow c1 c2 fun v1 G2 =>
  if v1 < (0 : Int32) then
    wL_isGame_447 l0 l1 l3 l4 l5 l6 l7 l8 l10 l11 G2 c1 c2 K
  else
    mt G2 l0 = 16 ∧ ∃ q5, fX6_columns l0 G2 = some q5 ∧
    ¬ q5.1 = 0 ∧
    wpL (fL_noteToRow l0 l6 q5.2) hsL_noteToRow c1 c2 fun v7 G8 =>
    if (l13 / q5.1) = v7 then
      wL_isGame_447 l0 l1 l3 l4 l5 l6 l7 l8 l10 l11 G8 c1 c2 K
    else
      wL_isGame_445 G8 c1 c2 (fun r G => K (.inr (.inr r)) G)

set_option maxRecDepth 100000 in
set_option maxHeartbeats 4000000 in
theorem jL_isGame_420 {X : Cx} (ok : OK X cL_isGame RL (some .boolean) 14 12 249) {P : Int32 → Mem → Prop} {c1 c2 : Nat} (hcc : X.V.cc = c1) (hcs : X.V.cs = c2) (he : EndP X Value.int P) (l0 : Nat) (l1 : Int64) (l3 : Int32) (l4 : Int32) (l5 : Int32) (l6 : Int32) (l7 : Int32) (l8 : Int64) (l10 : Int32) (l11 : Int32) (l13 : Int32)  (G : Mem) (K : ((Int64 × Int32 × Int32) ⊕ ((Int32 × Int32 × Int32) ⊕ Int32)) → Mem → Prop) (h : wL_isGame_420 l0 l1 l3 l4 l5 l6 l7 l8 l10 l11 l13 G c1 c2 K) (hK : ∀ r G', K r G' → (finL X 14 267 (fun s : Int64 × Int32 × Int32 => [(0, .ref (X.B + l0)), (1, .long l1), (3, .int l3), (4, .int l4), (5, .int l5), (6, .int l6), (7, .int l7), (8, .long s.1), (10, .int s.2.1), (11, .int s.2.2)]) (finL X 14 244 (fun s : Int32 × Int32 × Int32 => [(0, .ref (X.B + l0)), (1, .long l1), (3, .int l3), (4, .int s.1), (5, .int s.2.1), (6, .int s.2.2)]) P)) r G') : J X 14 420 [(0, .ref (X.B + l0)), (1, .long l1), (3, .int l3), (4, .int l4), (5, .int l5), (6, .int l6), (7, .int l7), (8, .long l8), (10, .int l10), (11, .int l11), (13, .int l13)] [] G := by
  unfold wL_isGame_420 at h
  refine j_aload_n ok dL_isGame_420 rfl 0 rfl ?_
  refine j_iload ok dL_isGame_421 5 rfl ?_
  have hw3 := h
  obtain ⟨q0, hq0, -⟩ := h
  refine k_L ok kl_L_164 ⟨Nat.le_of_ble_eq_true rfl, Nat.le_of_ble_eq_true rfl⟩ [.ref (X.B + l0), .int l6] rfl rfl (Nat.le_of_ble_eq_true rfl) (tL_noteToRow ok.fl X.V l0 l6 G (by rw [hq0]; rfl)) dL_isGame_423 (fun v1 G2 hP => ?_)
  rw [hcc, hcs] at hP
  have h := pl_wp hw3 hP
  clear hw3 hP hq0
  rcases ite_prop h with ⟨c4, h⟩ | ⟨c4, h⟩
  · refine j_if_lt (tgt := 447) ok dL_isGame_426 (by decide) (fun _ => ?_) (fun z => absurd c4 z)
    exact J.sub [0, 1, 2, 3, 4, 5, 6, 7, 8, 9] rfl (jL_isGame_447 ok hcc hcs he l0 l1 l3 l4 l5 l6 l7 l8 l10 l11 G2 _ h hK)
  · refine j_if_lt (tgt := 447) ok dL_isGame_426 (by decide) (fun z => absurd z c4) (fun _ => ?_)
    refine j_iload ok dL_isGame_429 10 rfl ?_
    refine j_aload_n ok dL_isGame_431 rfl 0 rfl ?_
    obtain ⟨kq5, h⟩ := h
    obtain ⟨q5, hq5, h⟩ := h
    refine k_V1 ok kl_L_123 ⟨Nat.le_of_ble_eq_true rfl, Nat.le_of_ble_eq_true rfl⟩ [] kq5 rfl rfl (Nat.le_of_ble_eq_true rfl) (tX6_columns ok.fl X.V l0 G2 hq5) dL_isGame_432 ?_
    obtain ⟨hz5, h⟩ := h
    refine j_idiv ok dL_isGame_435 hz5 ?_
    refine j_aload_n ok dL_isGame_436 rfl 0 rfl ?_
    refine j_iload ok dL_isGame_437 5 rfl ?_
    have hw9 := h
    obtain ⟨q0, hq0, -⟩ := h
    refine k_L ok kl_L_164 ⟨Nat.le_of_ble_eq_true rfl, Nat.le_of_ble_eq_true rfl⟩ [.ref (X.B + l0), .int l6] rfl rfl (Nat.le_of_ble_eq_true rfl) (tL_noteToRow ok.fl X.V l0 l6 q5.2 (by rw [hq0]; rfl)) dL_isGame_439 (fun v7 G8 hP => ?_)
    rw [hcc, hcs] at hP
    have h := pl_wp hw9 hP
    clear hw9 hP hq0
    rcases ite_prop h with ⟨c10, h⟩ | ⟨c10, h⟩
    · refine j_icmp_eq (tgt := 447) ok dL_isGame_442 (by decide) (fun _ => ?_) (fun z => absurd c10 z)
      exact J.sub [0, 1, 2, 3, 4, 5, 6, 7, 8, 9] rfl (jL_isGame_447 ok hcc hcs he l0 l1 l3 l4 l5 l6 l7 l8 l10 l11 G8 _ h hK)
    · refine j_icmp_eq (tgt := 447) ok dL_isGame_442 (by decide) (fun z => absurd z c10) (fun _ => ?_)
      exact J.sub [] rfl (jL_isGame_445 ok hcc hcs he G8 _ h (fun r G hr => hK (.inr (.inr r)) G hr))

def wL_isGame_395 (l0 : Nat) (l1 : Int64) (l3 : Int32) (l4 : Int32) (l5 : Int32) (l6 : Int32) (l7 : Int32) (l8 : Int64) (l10 : Int32) (l11 : Int32) (l13 : Int32)  (G : Mem) (c1 c2 : Nat) (K : ((Int64 × Int32 × Int32) ⊕ ((Int32 × Int32 × Int32) ⊕ Int32)) → Mem → Prop) : Prop :=
  wpL (fL_noteToColumn l0 l6 G) hsL_noteToColumn c1 c2 fun v1 G2 =>
  if v1 < (0 : Int32) then
    wL_isGame_420 l0 l1 l3 l4 l5 l6 l7 l8 l10 l11 l13 G2 c1 c2 K
  else
    mt G2 l0 = 16 ∧ ∃ q5, fX6_columns l0 G2 = some q5 ∧
    ¬ q5.1 = 0 ∧
    wpL (fL_noteToColumn l0 l6 q5.2) hsL_noteToColumn c1 c2 fun v7 G8 =>
    if (l13 - l13 / q5.1 * q5.1) = v7 then
      wL_isGame_420 l0 l1 l3 l4 l5 l6 l7 l8 l10 l11 l13 G8 c1 c2 K
    else
      wL_isGame_445 G8 c1 c2 (fun r G => K (.inr (.inr r)) G)

set_option maxRecDepth 100000 in
set_option maxHeartbeats 4000000 in
theorem jL_isGame_395 {X : Cx} (ok : OK X cL_isGame RL (some .boolean) 14 12 249) {P : Int32 → Mem → Prop} {c1 c2 : Nat} (hcc : X.V.cc = c1) (hcs : X.V.cs = c2) (he : EndP X Value.int P) (l0 : Nat) (l1 : Int64) (l3 : Int32) (l4 : Int32) (l5 : Int32) (l6 : Int32) (l7 : Int32) (l8 : Int64) (l10 : Int32) (l11 : Int32) (l13 : Int32)  (G : Mem) (K : ((Int64 × Int32 × Int32) ⊕ ((Int32 × Int32 × Int32) ⊕ Int32)) → Mem → Prop) (h : wL_isGame_395 l0 l1 l3 l4 l5 l6 l7 l8 l10 l11 l13 G c1 c2 K) (hK : ∀ r G', K r G' → (finL X 14 267 (fun s : Int64 × Int32 × Int32 => [(0, .ref (X.B + l0)), (1, .long l1), (3, .int l3), (4, .int l4), (5, .int l5), (6, .int l6), (7, .int l7), (8, .long s.1), (10, .int s.2.1), (11, .int s.2.2)]) (finL X 14 244 (fun s : Int32 × Int32 × Int32 => [(0, .ref (X.B + l0)), (1, .long l1), (3, .int l3), (4, .int s.1), (5, .int s.2.1), (6, .int s.2.2)]) P)) r G') : J X 14 395 [(0, .ref (X.B + l0)), (1, .long l1), (3, .int l3), (4, .int l4), (5, .int l5), (6, .int l6), (7, .int l7), (8, .long l8), (10, .int l10), (11, .int l11), (13, .int l13)] [] G := by
  unfold wL_isGame_395 at h
  refine j_aload_n ok dL_isGame_395 rfl 0 rfl ?_
  refine j_iload ok dL_isGame_396 5 rfl ?_
  have hw3 := h
  obtain ⟨q0, hq0, -⟩ := h
  refine k_L ok kl_L_162 ⟨Nat.le_of_ble_eq_true rfl, Nat.le_of_ble_eq_true rfl⟩ [.ref (X.B + l0), .int l6] rfl rfl (Nat.le_of_ble_eq_true rfl) (tL_noteToColumn ok.fl X.V l0 l6 G (by rw [hq0]; rfl)) dL_isGame_398 (fun v1 G2 hP => ?_)
  rw [hcc, hcs] at hP
  have h := pl_wp hw3 hP
  clear hw3 hP hq0
  rcases ite_prop h with ⟨c4, h⟩ | ⟨c4, h⟩
  · refine j_if_lt (tgt := 420) ok dL_isGame_401 (by decide) (fun _ => ?_) (fun z => absurd c4 z)
    exact J.sub [0, 1, 2, 3, 4, 5, 6, 7, 8, 9, 10] rfl (jL_isGame_420 ok hcc hcs he l0 l1 l3 l4 l5 l6 l7 l8 l10 l11 l13 G2 _ h hK)
  · refine j_if_lt (tgt := 420) ok dL_isGame_401 (by decide) (fun z => absurd z c4) (fun _ => ?_)
    refine j_iload ok dL_isGame_404 10 rfl ?_
    refine j_aload_n ok dL_isGame_406 rfl 0 rfl ?_
    obtain ⟨kq5, h⟩ := h
    obtain ⟨q5, hq5, h⟩ := h
    refine k_V1 ok kl_L_123 ⟨Nat.le_of_ble_eq_true rfl, Nat.le_of_ble_eq_true rfl⟩ [] kq5 rfl rfl (Nat.le_of_ble_eq_true rfl) (tX6_columns ok.fl X.V l0 G2 hq5) dL_isGame_407 ?_
    obtain ⟨hz5, h⟩ := h
    refine j_irem ok dL_isGame_410 hz5 ?_
    refine j_aload_n ok dL_isGame_411 rfl 0 rfl ?_
    refine j_iload ok dL_isGame_412 5 rfl ?_
    have hw9 := h
    obtain ⟨q0, hq0, -⟩ := h
    refine k_L ok kl_L_162 ⟨Nat.le_of_ble_eq_true rfl, Nat.le_of_ble_eq_true rfl⟩ [.ref (X.B + l0), .int l6] rfl rfl (Nat.le_of_ble_eq_true rfl) (tL_noteToColumn ok.fl X.V l0 l6 q5.2 (by rw [hq0]; rfl)) dL_isGame_414 (fun v7 G8 hP => ?_)
    rw [hcc, hcs] at hP
    have h := pl_wp hw9 hP
    clear hw9 hP hq0
    rcases ite_prop h with ⟨c10, h⟩ | ⟨c10, h⟩
    · refine j_icmp_ne (tgt := 445) ok dL_isGame_417 (by decide) (fun z => absurd c10 z) (fun _ => ?_)
      exact J.sub [0, 1, 2, 3, 4, 5, 6, 7, 8, 9, 10] rfl (jL_isGame_420 ok hcc hcs he l0 l1 l3 l4 l5 l6 l7 l8 l10 l11 l13 G8 _ h hK)
    · refine j_icmp_ne (tgt := 445) ok dL_isGame_417 (by decide) (fun _ => ?_) (fun z => absurd z c10)
      exact J.sub [] rfl (jL_isGame_445 ok hcc hcs he G8 _ h (fun r G hr => hK (.inr (.inr r)) G hr))

def wL_isGame_370 (l0 : Nat) (l1 : Int64) (l3 : Int32) (l4 : Int32) (l5 : Int32) (l6 : Int32) (l7 : Int32) (l8 : Int64) (l10 : Int32) (l11 : Int32) (l12 : Int32) (l13 : Int32)  (G : Mem) (c1 c2 : Nat) (K : ((Int64 × Int32 × Int32) ⊕ ((Int32 × Int32 × Int32) ⊕ Int32)) → Mem → Prop) : Prop :=
  wpL (fL_noteFromRow l0 l6 G) hsL_noteFromRow c1 c2 fun v1 G2 =>
  if v1 < (0 : Int32) then
    wL_isGame_395 l0 l1 l3 l4 l5 l6 l7 l8 l10 l11 l13 G2 c1 c2 K
  else
    mt G2 l0 = 16 ∧ ∃ q5, fX6_columns l0 G2 = some q5 ∧
    ¬ q5.1 = 0 ∧
    wpL (fL_noteFromRow l0 l6 q5.2) hsL_noteFromRow c1 c2 fun v7 G8 =>
    if (l12 / q5.1) = v7 then
      wL_isGame_395 l0 l1 l3 l4 l5 l6 l7 l8 l10 l11 l13 G8 c1 c2 K
    else
      wL_isGame_445 G8 c1 c2 (fun r G => K (.inr (.inr r)) G)

set_option maxRecDepth 100000 in
set_option maxHeartbeats 4000000 in
theorem jL_isGame_370 {X : Cx} (ok : OK X cL_isGame RL (some .boolean) 14 12 249) {P : Int32 → Mem → Prop} {c1 c2 : Nat} (hcc : X.V.cc = c1) (hcs : X.V.cs = c2) (he : EndP X Value.int P) (l0 : Nat) (l1 : Int64) (l3 : Int32) (l4 : Int32) (l5 : Int32) (l6 : Int32) (l7 : Int32) (l8 : Int64) (l10 : Int32) (l11 : Int32) (l12 : Int32) (l13 : Int32)  (G : Mem) (K : ((Int64 × Int32 × Int32) ⊕ ((Int32 × Int32 × Int32) ⊕ Int32)) → Mem → Prop) (h : wL_isGame_370 l0 l1 l3 l4 l5 l6 l7 l8 l10 l11 l12 l13 G c1 c2 K) (hK : ∀ r G', K r G' → (finL X 14 267 (fun s : Int64 × Int32 × Int32 => [(0, .ref (X.B + l0)), (1, .long l1), (3, .int l3), (4, .int l4), (5, .int l5), (6, .int l6), (7, .int l7), (8, .long s.1), (10, .int s.2.1), (11, .int s.2.2)]) (finL X 14 244 (fun s : Int32 × Int32 × Int32 => [(0, .ref (X.B + l0)), (1, .long l1), (3, .int l3), (4, .int s.1), (5, .int s.2.1), (6, .int s.2.2)]) P)) r G') : J X 14 370 [(0, .ref (X.B + l0)), (1, .long l1), (3, .int l3), (4, .int l4), (5, .int l5), (6, .int l6), (7, .int l7), (8, .long l8), (10, .int l10), (11, .int l11), (12, .int l12), (13, .int l13)] [] G := by
  unfold wL_isGame_370 at h
  refine j_aload_n ok dL_isGame_370 rfl 0 rfl ?_
  refine j_iload ok dL_isGame_371 5 rfl ?_
  have hw3 := h
  obtain ⟨q0, hq0, -⟩ := h
  refine k_L ok kl_L_160 ⟨Nat.le_of_ble_eq_true rfl, Nat.le_of_ble_eq_true rfl⟩ [.ref (X.B + l0), .int l6] rfl rfl (Nat.le_of_ble_eq_true rfl) (tL_noteFromRow ok.fl X.V l0 l6 G (by rw [hq0]; rfl)) dL_isGame_373 (fun v1 G2 hP => ?_)
  rw [hcc, hcs] at hP
  have h := pl_wp hw3 hP
  clear hw3 hP hq0
  rcases ite_prop h with ⟨c4, h⟩ | ⟨c4, h⟩
  · refine j_if_lt (tgt := 395) ok dL_isGame_376 (by decide) (fun _ => ?_) (fun z => absurd c4 z)
    exact J.sub [0, 1, 2, 3, 4, 5, 6, 7, 8, 9, 11] rfl (jL_isGame_395 ok hcc hcs he l0 l1 l3 l4 l5 l6 l7 l8 l10 l11 l13 G2 _ h hK)
  · refine j_if_lt (tgt := 395) ok dL_isGame_376 (by decide) (fun z => absurd z c4) (fun _ => ?_)
    refine j_iload ok dL_isGame_379 10 rfl ?_
    refine j_aload_n ok dL_isGame_381 rfl 0 rfl ?_
    obtain ⟨kq5, h⟩ := h
    obtain ⟨q5, hq5, h⟩ := h
    refine k_V1 ok kl_L_123 ⟨Nat.le_of_ble_eq_true rfl, Nat.le_of_ble_eq_true rfl⟩ [] kq5 rfl rfl (Nat.le_of_ble_eq_true rfl) (tX6_columns ok.fl X.V l0 G2 hq5) dL_isGame_382 ?_
    obtain ⟨hz5, h⟩ := h
    refine j_idiv ok dL_isGame_385 hz5 ?_
    refine j_aload_n ok dL_isGame_386 rfl 0 rfl ?_
    refine j_iload ok dL_isGame_387 5 rfl ?_
    have hw9 := h
    obtain ⟨q0, hq0, -⟩ := h
    refine k_L ok kl_L_160 ⟨Nat.le_of_ble_eq_true rfl, Nat.le_of_ble_eq_true rfl⟩ [.ref (X.B + l0), .int l6] rfl rfl (Nat.le_of_ble_eq_true rfl) (tL_noteFromRow ok.fl X.V l0 l6 q5.2 (by rw [hq0]; rfl)) dL_isGame_389 (fun v7 G8 hP => ?_)
    rw [hcc, hcs] at hP
    have h := pl_wp hw9 hP
    clear hw9 hP hq0
    rcases ite_prop h with ⟨c10, h⟩ | ⟨c10, h⟩
    · refine j_icmp_ne (tgt := 445) ok dL_isGame_392 (by decide) (fun z => absurd c10 z) (fun _ => ?_)
      exact J.sub [0, 1, 2, 3, 4, 5, 6, 7, 8, 9, 11] rfl (jL_isGame_395 ok hcc hcs he l0 l1 l3 l4 l5 l6 l7 l8 l10 l11 l13 G8 _ h hK)
    · refine j_icmp_ne (tgt := 445) ok dL_isGame_392 (by decide) (fun _ => ?_) (fun z => absurd z c10)
      exact J.sub [] rfl (jL_isGame_445 ok hcc hcs he G8 _ h (fun r G hr => hK (.inr (.inr r)) G hr))

def wL_isGame_267 (l0 : Nat) (l1 : Int64) (l3 : Int32) (l4 : Int32) (l5 : Int32) (l6 : Int32) (l7 : Int32) (l8 : Int64) (l10 : Int32) (l11 : Int32)  (G : Mem) (c1 c2 : Nat) (K : ((Int64 × Int32 × Int32) ⊕ ((Int32 × Int32 × Int32) ⊕ Int32)) → Mem → Prop) : Prop :=
  if l7 ≤ l11 then
    wL_isGame_453 l0 l1 l3 l4 l5 l6 l7 l8 G c1 c2 (fun r G => K (.inr r) G)
  else
    wpL (fL_moveOrigin l0 l6 l11 G) hsL_moveOrigin c1 c2 fun v2 G3 =>
    wpL (fL_moveTarget l0 l6 l11 G3) hsL_moveTarget c1 c2 fun v5 G6 =>
    if ((v2 * (36 : Int32)) + v5) ≤ l10 then
      wL_isGame_320 G6 c1 c2 (fun r G => K (.inr (.inr r)) G)
    else
      wpL (fL_gamesWithMove l0 l6 l11 G6) hsL_gamesWithMove c1 c2 fun v9 G10 =>
      if (0 : Int32) ≤ (lg_cmp v9 (1 : Int64)) then
        wpL (fL_gamesWithMove l0 l6 l11 G10) hsL_gamesWithMove c1 c2 fun v13 G14 =>
        wpL (fL_noteFromColumn l0 l6 G14) hsL_noteFromColumn c1 c2 fun v16 G17 =>
        if v16 < (0 : Int32) then
          wL_isGame_370 l0 l1 l3 l4 l5 l6 l7 (l8 + v13) ((v2 * (36 : Int32)) + v5) l11 v2 v5 G17 c1 c2 K
        else
          mt G17 l0 = 16 ∧ ∃ q20, fX6_columns l0 G17 = some q20 ∧
          ¬ q20.1 = 0 ∧
          wpL (fL_noteFromColumn l0 l6 q20.2) hsL_noteFromColumn c1 c2 fun v22 G23 =>
          if (v2 - v2 / q20.1 * q20.1) = v22 then
            wL_isGame_370 l0 l1 l3 l4 l5 l6 l7 (l8 + v13) ((v2 * (36 : Int32)) + v5) l11 v2 v5 G23 c1 c2 K
          else
            wL_isGame_445 G23 c1 c2 (fun r G => K (.inr (.inr r)) G)
      else
        wL_isGame_320 G10 c1 c2 (fun r G => K (.inr (.inr r)) G)

set_option maxRecDepth 100000 in
set_option maxHeartbeats 4000000 in
theorem jL_isGame_267 {X : Cx} (ok : OK X cL_isGame RL (some .boolean) 14 12 249) {P : Int32 → Mem → Prop} {c1 c2 : Nat} (hcc : X.V.cc = c1) (hcs : X.V.cs = c2) (he : EndP X Value.int P) (l0 : Nat) (l1 : Int64) (l3 : Int32) (l4 : Int32) (l5 : Int32) (l6 : Int32) (l7 : Int32) (l8 : Int64) (l10 : Int32) (l11 : Int32)  (G : Mem) (K : ((Int64 × Int32 × Int32) ⊕ ((Int32 × Int32 × Int32) ⊕ Int32)) → Mem → Prop) (h : wL_isGame_267 l0 l1 l3 l4 l5 l6 l7 l8 l10 l11 G c1 c2 K) (hK : ∀ r G', K r G' → (finL X 14 267 (fun s : Int64 × Int32 × Int32 => [(0, .ref (X.B + l0)), (1, .long l1), (3, .int l3), (4, .int l4), (5, .int l5), (6, .int l6), (7, .int l7), (8, .long s.1), (10, .int s.2.1), (11, .int s.2.2)]) (finL X 14 244 (fun s : Int32 × Int32 × Int32 => [(0, .ref (X.B + l0)), (1, .long l1), (3, .int l3), (4, .int s.1), (5, .int s.2.1), (6, .int s.2.2)]) P)) r G') : J X 14 267 [(0, .ref (X.B + l0)), (1, .long l1), (3, .int l3), (4, .int l4), (5, .int l5), (6, .int l6), (7, .int l7), (8, .long l8), (10, .int l10), (11, .int l11)] [] G := by
  unfold wL_isGame_267 at h
  refine j_iload ok dL_isGame_267 9 rfl ?_
  refine j_iload ok dL_isGame_269 6 rfl ?_
  rcases ite_prop h with ⟨c1, h⟩ | ⟨c1, h⟩
  · refine j_icmp_ge (tgt := 453) ok dL_isGame_271 (by decide) (fun _ => ?_) (fun z => absurd c1 z)
    exact J.sub [0, 1, 2, 3, 4, 5, 6, 7] rfl (jL_isGame_453 ok hcc hcs he l0 l1 l3 l4 l5 l6 l7 l8 G _ h (fun r G hr => hK (.inr r) G hr))
  · refine j_icmp_ge (tgt := 453) ok dL_isGame_271 (by decide) (fun z => absurd z c1) (fun _ => ?_)
    refine j_aload_n ok dL_isGame_274 rfl 0 rfl ?_
    refine j_iload ok dL_isGame_275 5 rfl ?_
    refine j_iload ok dL_isGame_277 9 rfl ?_
    have hw4 := h
    obtain ⟨q0, hq0, -⟩ := h
    refine k_L ok kl_L_150 ⟨Nat.le_of_ble_eq_true rfl, Nat.le_of_ble_eq_true rfl⟩ [.ref (X.B + l0), .int l6, .int l11] rfl rfl (Nat.le_of_ble_eq_true rfl) (tL_moveOrigin ok.fl X.V l0 l6 l11 G (by rw [hq0]; rfl)) dL_isGame_279 (fun v2 G3 hP => ?_)
    rw [hcc, hcs] at hP
    have h := pl_wp hw4 hP
    clear hw4 hP hq0
    refine j_istore (L' := [(12, .int v2), (0, .ref (X.B + l0)), (1, .long l1), (3, .int l3), (4, .int l4), (5, .int l5), (6, .int l6), (7, .int l7), (8, .long l8), (10, .int l10), (11, .int l11)]) ok dL_isGame_282 (by decide) rfl ?_
    refine j_aload_n ok dL_isGame_284 rfl 1 rfl ?_
    refine j_iload ok dL_isGame_285 6 rfl ?_
    refine j_iload ok dL_isGame_287 10 rfl ?_
    have hw7 := h
    obtain ⟨q0, hq0, -⟩ := h
    refine k_L ok kl_L_153 ⟨Nat.le_of_ble_eq_true rfl, Nat.le_of_ble_eq_true rfl⟩ [.ref (X.B + l0), .int l6, .int l11] rfl rfl (Nat.le_of_ble_eq_true rfl) (tL_moveTarget ok.fl X.V l0 l6 l11 G3 (by rw [hq0]; rfl)) dL_isGame_289 (fun v5 G6 hP => ?_)
    rw [hcc, hcs] at hP
    have h := pl_wp hw7 hP
    clear hw7 hP hq0
    refine j_istore (L' := [(13, .int v5), (12, .int v2), (0, .ref (X.B + l0)), (1, .long l1), (3, .int l3), (4, .int l4), (5, .int l5), (6, .int l6), (7, .int l7), (8, .long l8), (10, .int l10), (11, .int l11)]) ok dL_isGame_292 (by decide) rfl ?_
    refine j_iload ok dL_isGame_294 1 rfl ?_
    refine j_bipush (v := 36) ok dL_isGame_296 (by decide) ?_
    refine j_imul ok dL_isGame_298 ?_
    refine j_iload ok dL_isGame_299 0 rfl ?_
    refine j_iadd ok dL_isGame_301 ?_
    refine j_iload ok dL_isGame_302 10 rfl ?_
    rcases ite_prop h with ⟨c8, h⟩ | ⟨c8, h⟩
    · refine j_icmp_le (tgt := 320) ok dL_isGame_304 (by decide) (fun _ => ?_) (fun z => absurd c8 z)
      exact J.sub [] rfl (jL_isGame_320 ok hcc hcs he G6 _ h (fun r G hr => hK (.inr (.inr r)) G hr))
    · refine j_icmp_le (tgt := 320) ok dL_isGame_304 (by decide) (fun z => absurd z c8) (fun _ => ?_)
      refine j_aload_n ok dL_isGame_307 rfl 2 rfl ?_
      refine j_iload ok dL_isGame_308 7 rfl ?_
      refine j_iload ok dL_isGame_310 11 rfl ?_
      have hw11 := h
      obtain ⟨q0, hq0, -⟩ := h
      refine k_L ok kl_L_155 ⟨Nat.le_of_ble_eq_true rfl, Nat.le_of_ble_eq_true rfl⟩ [.ref (X.B + l0), .int l6, .int l11] rfl rfl (Nat.le_of_ble_eq_true rfl) (tL_gamesWithMove ok.fl X.V l0 l6 l11 G6 (by rw [hq0]; rfl)) dL_isGame_312 (fun v9 G10 hP => ?_)
      rw [hcc, hcs] at hP
      have h := pl_wp hw11 hP
      clear hw11 hP hq0
      refine j_lconst (v := 1) ok dL_isGame_315 (by decide) ?_
      refine j_lcmp ok dL_isGame_316 ?_
      rcases ite_prop h with ⟨c12, h⟩ | ⟨c12, h⟩
      · refine j_if_ge (tgt := 322) ok dL_isGame_317 (by decide) (fun _ => ?_) (fun z => absurd c12 z)
        refine j_iload ok dL_isGame_322 1 rfl ?_
        refine j_bipush (v := 36) ok dL_isGame_324 (by decide) ?_
        refine j_imul ok dL_isGame_326 ?_
        refine j_iload ok dL_isGame_327 0 rfl ?_
        refine j_iadd ok dL_isGame_329 ?_
        refine j_istore (L' := [(10, .int ((v2 * (36 : Int32)) + v5)), (13, .int v5), (12, .int v2), (0, .ref (X.B + l0)), (1, .long l1), (3, .int l3), (4, .int l4), (5, .int l5), (6, .int l6), (7, .int l7), (8, .long l8), (11, .int l11)]) ok dL_isGame_330 (by decide) rfl ?_
        refine j_lload ok dL_isGame_332 10 rfl ?_
        refine j_aload_n ok dL_isGame_334 rfl 3 rfl ?_
        refine j_iload ok dL_isGame_335 8 rfl ?_
        refine j_iload ok dL_isGame_337 11 rfl ?_
        have hw15 := h
        obtain ⟨q0, hq0, -⟩ := h
        refine k_L ok kl_L_155 ⟨Nat.le_of_ble_eq_true rfl, Nat.le_of_ble_eq_true rfl⟩ [.ref (X.B + l0), .int l6, .int l11] rfl rfl (Nat.le_of_ble_eq_true rfl) (tL_gamesWithMove ok.fl X.V l0 l6 l11 G10 (by rw [hq0]; rfl)) dL_isGame_339 (fun v13 G14 hP => ?_)
        rw [hcc, hcs] at hP
        have h := pl_wp hw15 hP
        clear hw15 hP hq0
        refine j_ladd ok dL_isGame_342 ?_
        refine j_lstore (L' := [(8, .long (l8 + v13)), (10, .int ((v2 * (36 : Int32)) + v5)), (13, .int v5), (12, .int v2), (0, .ref (X.B + l0)), (1, .long l1), (3, .int l3), (4, .int l4), (5, .int l5), (6, .int l6), (7, .int l7), (11, .int l11)]) ok dL_isGame_343 (by decide) rfl ?_
        refine j_aload_n ok dL_isGame_345 rfl 4 rfl ?_
        refine j_iload ok dL_isGame_346 9 rfl ?_
        have hw18 := h
        obtain ⟨q0, hq0, -⟩ := h
        refine k_L ok kl_L_158 ⟨Nat.le_of_ble_eq_true rfl, Nat.le_of_ble_eq_true rfl⟩ [.ref (X.B + l0), .int l6] rfl rfl (Nat.le_of_ble_eq_true rfl) (tL_noteFromColumn ok.fl X.V l0 l6 G14 (by rw [hq0]; rfl)) dL_isGame_348 (fun v16 G17 hP => ?_)
        rw [hcc, hcs] at hP
        have h := pl_wp hw18 hP
        clear hw18 hP hq0
        rcases ite_prop h with ⟨c19, h⟩ | ⟨c19, h⟩
        · refine j_if_lt (tgt := 370) ok dL_isGame_351 (by decide) (fun _ => ?_) (fun z => absurd c19 z)
          exact J.sub [4, 5, 6, 7, 8, 9, 10, 0, 1, 11, 3, 2] rfl (jL_isGame_370 ok hcc hcs he l0 l1 l3 l4 l5 l6 l7 (l8 + v13) ((v2 * (36 : Int32)) + v5) l11 v2 v5 G17 _ h hK)
        · refine j_if_lt (tgt := 370) ok dL_isGame_351 (by decide) (fun z => absurd z c19) (fun _ => ?_)
          refine j_iload ok dL_isGame_354 3 rfl ?_
          refine j_aload_n ok dL_isGame_356 rfl 4 rfl ?_
          obtain ⟨kq20, h⟩ := h
          obtain ⟨q20, hq20, h⟩ := h
          refine k_V1 ok kl_L_123 ⟨Nat.le_of_ble_eq_true rfl, Nat.le_of_ble_eq_true rfl⟩ [] kq20 rfl rfl (Nat.le_of_ble_eq_true rfl) (tX6_columns ok.fl X.V l0 G17 hq20) dL_isGame_357 ?_
          obtain ⟨hz20, h⟩ := h
          refine j_irem ok dL_isGame_360 hz20 ?_
          refine j_aload_n ok dL_isGame_361 rfl 4 rfl ?_
          refine j_iload ok dL_isGame_362 9 rfl ?_
          have hw24 := h
          obtain ⟨q0, hq0, -⟩ := h
          refine k_L ok kl_L_158 ⟨Nat.le_of_ble_eq_true rfl, Nat.le_of_ble_eq_true rfl⟩ [.ref (X.B + l0), .int l6] rfl rfl (Nat.le_of_ble_eq_true rfl) (tL_noteFromColumn ok.fl X.V l0 l6 q20.2 (by rw [hq0]; rfl)) dL_isGame_364 (fun v22 G23 hP => ?_)
          rw [hcc, hcs] at hP
          have h := pl_wp hw24 hP
          clear hw24 hP hq0
          rcases ite_prop h with ⟨c25, h⟩ | ⟨c25, h⟩
          · refine j_icmp_ne (tgt := 445) ok dL_isGame_367 (by decide) (fun z => absurd c25 z) (fun _ => ?_)
            exact J.sub [4, 5, 6, 7, 8, 9, 10, 0, 1, 11, 3, 2] rfl (jL_isGame_370 ok hcc hcs he l0 l1 l3 l4 l5 l6 l7 (l8 + v13) ((v2 * (36 : Int32)) + v5) l11 v2 v5 G23 _ h hK)
          · refine j_icmp_ne (tgt := 445) ok dL_isGame_367 (by decide) (fun _ => ?_) (fun z => absurd z c25)
            exact J.sub [] rfl (jL_isGame_445 ok hcc hcs he G23 _ h (fun r G hr => hK (.inr (.inr r)) G hr))
      · refine j_if_ge (tgt := 322) ok dL_isGame_317 (by decide) (fun z => absurd z c12) (fun _ => ?_)
        exact J.sub [] rfl (jL_isGame_320 ok hcc hcs he G10 _ h (fun r G hr => hK (.inr (.inr r)) G hr))

def wL_isGame_244 (l0 : Nat) (l1 : Int64) (l3 : Int32) (l4 : Int32) (l5 : Int32) (l6 : Int32)  (G : Mem) (c1 c2 : Nat) (K : ((Int32 × Int32 × Int32) ⊕ Int32) → Mem → Prop) : Prop :=
  if l3 ≤ l6 then
    wL_isGame_496 l0 l5 G c1 c2 (fun r G => K (.inr r) G)
  else
    wpL (fL_doubt l0 l6 G) hsL_doubt c1 c2 fun v2 G3 =>
    loopW (fun (s : Int64 × Int32 × Int32) G K => wL_isGame_267 l0 l1 l3 l4 l5 l6 v2 s.1 s.2.1 s.2.2 G c1 c2 K) FU ((0 : Int64), (-1 : Int32), (0 : Int32)) G3 K

set_option maxRecDepth 100000 in
set_option maxHeartbeats 4000000 in
theorem jL_isGame_244 {X : Cx} (ok : OK X cL_isGame RL (some .boolean) 14 12 249) {P : Int32 → Mem → Prop} {c1 c2 : Nat} (hcc : X.V.cc = c1) (hcs : X.V.cs = c2) (he : EndP X Value.int P) (l0 : Nat) (l1 : Int64) (l3 : Int32) (l4 : Int32) (l5 : Int32) (l6 : Int32)  (G : Mem) (K : ((Int32 × Int32 × Int32) ⊕ Int32) → Mem → Prop) (h : wL_isGame_244 l0 l1 l3 l4 l5 l6 G c1 c2 K) (hK : ∀ r G', K r G' → (finL X 14 244 (fun s : Int32 × Int32 × Int32 => [(0, .ref (X.B + l0)), (1, .long l1), (3, .int l3), (4, .int s.1), (5, .int s.2.1), (6, .int s.2.2)]) P) r G') : J X 14 244 [(0, .ref (X.B + l0)), (1, .long l1), (3, .int l3), (4, .int l4), (5, .int l5), (6, .int l6)] [] G := by
  unfold wL_isGame_244 at h
  refine j_iload ok dL_isGame_244 5 rfl ?_
  refine j_iload_n ok dL_isGame_246 rfl 2 rfl ?_
  rcases ite_prop h with ⟨c1, h⟩ | ⟨c1, h⟩
  · refine j_icmp_ge (tgt := 496) ok dL_isGame_247 (by decide) (fun _ => ?_) (fun z => absurd c1 z)
    exact J.sub [0, 4] rfl (jL_isGame_496 ok hcc hcs he l0 l5 G _ h (fun r G hr => hK (.inr r) G hr))
  · refine j_icmp_ge (tgt := 496) ok dL_isGame_247 (by decide) (fun z => absurd z c1) (fun _ => ?_)
    refine j_aload_n ok dL_isGame_250 rfl 0 rfl ?_
    refine j_iload ok dL_isGame_251 5 rfl ?_
    have hw4 := h
    obtain ⟨q0, hq0, -⟩ := h
    refine k_L ok kl_L_148 ⟨Nat.le_of_ble_eq_true rfl, Nat.le_of_ble_eq_true rfl⟩ [.ref (X.B + l0), .int l6] rfl rfl (Nat.le_of_ble_eq_true rfl) (tL_doubt ok.fl X.V l0 l6 G (by rw [hq0]; rfl)) dL_isGame_253 (fun v2 G3 hP => ?_)
    rw [hcc, hcs] at hP
    have h := pl_wp hw4 hP
    clear hw4 hP hq0
    refine j_istore (L' := [(7, .int v2), (0, .ref (X.B + l0)), (1, .long l1), (3, .int l3), (4, .int l4), (5, .int l5), (6, .int l6)]) ok dL_isGame_256 (by decide) rfl ?_
    refine j_lconst (v := 0) ok dL_isGame_258 (by decide) ?_
    refine j_lstore (L' := [(8, .long (0 : Int64)), (7, .int v2), (0, .ref (X.B + l0)), (1, .long l1), (3, .int l3), (4, .int l4), (5, .int l5), (6, .int l6)]) ok dL_isGame_259 (by decide) rfl ?_
    refine j_iconst (v := -1) ok dL_isGame_261 (by decide) ?_
    refine j_istore (L' := [(10, .int (-1 : Int32)), (8, .long (0 : Int64)), (7, .int v2), (0, .ref (X.B + l0)), (1, .long l1), (3, .int l3), (4, .int l4), (5, .int l5), (6, .int l6)]) ok dL_isGame_262 (by decide) rfl ?_
    refine j_iconst (v := 0) ok dL_isGame_264 (by decide) ?_
    refine j_istore (L' := [(11, .int (0 : Int32)), (10, .int (-1 : Int32)), (8, .long (0 : Int64)), (7, .int v2), (0, .ref (X.B + l0)), (1, .long l1), (3, .int l3), (4, .int l4), (5, .int l5), (6, .int l6)]) ok dL_isGame_265 (by decide) rfl ?_
    have hJ : J X 14 267 [(0, .ref (X.B + l0)), (1, .long l1), (3, .int l3), (4, .int l4), (5, .int l5), (6, .int l6), (7, .int v2), (8, .long (0 : Int64)), (10, .int (-1 : Int32)), (11, .int (0 : Int32))] [] G3 := jw_loop (loc := fun s : Int64 × Int32 × Int32 => [(0, .ref (X.B + l0)), (1, .long l1), (3, .int l3), (4, .int l4), (5, .int l5), (6, .int l6), (7, .int v2), (8, .long s.1), (10, .int s.2.1), (11, .int s.2.2)]) (F := (finL X 14 244 (fun s : Int32 × Int32 × Int32 => [(0, .ref (X.B + l0)), (1, .long l1), (3, .int l3), (4, .int s.1), (5, .int s.2.1), (6, .int s.2.2)]) P)) (fun s G K hb hk => jL_isGame_267 ok hcc hcs he l0 l1 l3 l4 l5 l6 v2 s.1 s.2.1 s.2.2 G K hb hk) _ _ _ _ h hK
    exact J.sub [4, 5, 6, 7, 8, 9, 3, 2, 1, 0] rfl hJ

def wL_isGame_230 (l0 : Nat) (l1 : Int64) (l3 : Int32) (s0 : Int32) (s1 : Int32) (G : Mem) (c1 c2 : Nat) (K : Int32 → Mem → Prop) : Prop :=
  if s0 = s1 then
    loopW (fun (s : Int32 × Int32 × Int32) G K => wL_isGame_244 l0 l1 l3 s.1 s.2.1 s.2.2 G c1 c2 K) FU ((1 : Int32), (-1 : Int32), (0 : Int32)) G K
  else
    wL_isGame_233 G c1 c2 K

set_option maxRecDepth 100000 in
set_option maxHeartbeats 4000000 in
theorem jL_isGame_230 {X : Cx} (ok : OK X cL_isGame RL (some .boolean) 14 12 249) {P : Int32 → Mem → Prop} {c1 c2 : Nat} (hcc : X.V.cc = c1) (hcs : X.V.cs = c2) (he : EndP X Value.int P) (l0 : Nat) (l1 : Int64) (l3 : Int32) (s0 : Int32) (s1 : Int32) (G : Mem) (K : Int32 → Mem → Prop) (h : wL_isGame_230 l0 l1 l3 s0 s1 G c1 c2 K) (hK : ∀ r G', K r G' → P r G') : J X 14 230 [(0, .ref (X.B + l0)), (1, .long l1), (3, .int l3)] [.int s1, .int s0] G := by
  unfold wL_isGame_230 at h
  rcases ite_prop h with ⟨c1, h⟩ | ⟨c1, h⟩
  · refine j_icmp_eq (tgt := 235) ok dL_isGame_230 (by decide) (fun _ => ?_) (fun z => absurd c1 z)
    refine j_iconst (v := 1) ok dL_isGame_235 (by decide) ?_
    refine j_istore (L' := [(4, .int (1 : Int32)), (0, .ref (X.B + l0)), (1, .long l1), (3, .int l3)]) ok dL_isGame_236 (by decide) rfl ?_
    refine j_iconst (v := -1) ok dL_isGame_238 (by decide) ?_
    refine j_istore (L' := [(5, .int (-1 : Int32)), (4, .int (1 : Int32)), (0, .ref (X.B + l0)), (1, .long l1), (3, .int l3)]) ok dL_isGame_239 (by decide) rfl ?_
    refine j_iconst (v := 0) ok dL_isGame_241 (by decide) ?_
    refine j_istore (L' := [(6, .int (0 : Int32)), (5, .int (-1 : Int32)), (4, .int (1 : Int32)), (0, .ref (X.B + l0)), (1, .long l1), (3, .int l3)]) ok dL_isGame_242 (by decide) rfl ?_
    have hJ : J X 14 244 [(0, .ref (X.B + l0)), (1, .long l1), (3, .int l3), (4, .int (1 : Int32)), (5, .int (-1 : Int32)), (6, .int (0 : Int32))] [] G := jw_loop (loc := fun s : Int32 × Int32 × Int32 => [(0, .ref (X.B + l0)), (1, .long l1), (3, .int l3), (4, .int s.1), (5, .int s.2.1), (6, .int s.2.2)]) (F := P) (fun s G K hb hk => jL_isGame_244 ok hcc hcs he l0 l1 l3 s.1 s.2.1 s.2.2 G K hb hk) _ _ _ _ h hK
    exact J.sub [3, 4, 5, 2, 1, 0] rfl hJ
  · refine j_icmp_eq (tgt := 235) ok dL_isGame_230 (by decide) (fun z => absurd z c1) (fun _ => ?_)
    exact J.sub [] rfl (jL_isGame_233 ok hcc hcs he G _ h hK)

def wL_isGame_206 (l0 : Nat) (l1 : Int64) (l3 : Int32)  (G : Mem) (c1 c2 : Nat) (K : Int32 → Mem → Prop) : Prop :=
  mt G l0 = 16 ∧ ∃ q1, fX6_gameCount l0 G = some q1 ∧
  if (lg_cmp l1 q1.1) = (0 : Int32) then
    mt q1.2 l0 = 16 ∧ ∃ q3, fX6_isCertain l0 q1.2 = some q3 ∧
    if (lg_cmp l1 (1 : Int64)) = (0 : Int32) then
      wL_isGame_230 l0 l1 l3 q3.1 (1 : Int32) q3.2 c1 c2 K
    else
      wL_isGame_230 l0 l1 l3 q3.1 (0 : Int32) q3.2 c1 c2 K
  else
    wL_isGame_233 q1.2 c1 c2 K

set_option maxRecDepth 100000 in
set_option maxHeartbeats 4000000 in
theorem jL_isGame_206 {X : Cx} (ok : OK X cL_isGame RL (some .boolean) 14 12 249) {P : Int32 → Mem → Prop} {c1 c2 : Nat} (hcc : X.V.cc = c1) (hcs : X.V.cs = c2) (he : EndP X Value.int P) (l0 : Nat) (l1 : Int64) (l3 : Int32)  (G : Mem) (K : Int32 → Mem → Prop) (h : wL_isGame_206 l0 l1 l3 G c1 c2 K) (hK : ∀ r G', K r G' → P r G') : J X 14 206 [(0, .ref (X.B + l0)), (1, .long l1), (3, .int l3)] [] G := by
  unfold wL_isGame_206 at h
  refine j_lload_n ok dL_isGame_206 rfl 1 rfl ?_
  refine j_aload_n ok dL_isGame_207 rfl 0 rfl ?_
  obtain ⟨kq1, h⟩ := h
  obtain ⟨q1, hq1, h⟩ := h
  refine k_V1 ok kl_L_140 ⟨Nat.le_of_ble_eq_true rfl, Nat.le_of_ble_eq_true rfl⟩ [] kq1 rfl rfl (Nat.le_of_ble_eq_true rfl) (tX6_gameCount ok.fl X.V l0 G hq1) dL_isGame_208 ?_
  refine j_lcmp ok dL_isGame_211 ?_
  rcases ite_prop h with ⟨c2, h⟩ | ⟨c2, h⟩
  · refine j_if_ne (tgt := 233) ok dL_isGame_212 (by decide) (fun z => absurd c2 z) (fun _ => ?_)
    refine j_aload_n ok dL_isGame_215 rfl 0 rfl ?_
    obtain ⟨kq3, h⟩ := h
    obtain ⟨q3, hq3, h⟩ := h
    refine k_V1 ok kl_L_144 ⟨Nat.le_of_ble_eq_true rfl, Nat.le_of_ble_eq_true rfl⟩ [] kq3 rfl rfl (Nat.le_of_ble_eq_true rfl) (tX6_isCertain ok.fl X.V l0 q1.2 hq3) dL_isGame_216 ?_
    refine j_lload_n ok dL_isGame_219 rfl 1 rfl ?_
    refine j_lconst (v := 1) ok dL_isGame_220 (by decide) ?_
    refine j_lcmp ok dL_isGame_221 ?_
    rcases ite_prop h with ⟨c4, h⟩ | ⟨c4, h⟩
    · refine j_if_ne (tgt := 229) ok dL_isGame_222 (by decide) (fun z => absurd c4 z) (fun _ => ?_)
      refine j_iconst (v := 1) ok dL_isGame_225 (by decide) ?_
      refine j_goto (tgt := 230) ok dL_isGame_226 (by decide) ?_
      exact J.sub [0, 1, 2] rfl (jL_isGame_230 ok hcc hcs he l0 l1 l3 q3.1 (1 : Int32) q3.2 _ h hK)
    · refine j_if_ne (tgt := 229) ok dL_isGame_222 (by decide) (fun _ => ?_) (fun z => absurd z c4)
      refine j_iconst (v := 0) ok dL_isGame_229 (by decide) ?_
      exact J.sub [0, 1, 2] rfl (jL_isGame_230 ok hcc hcs he l0 l1 l3 q3.1 (0 : Int32) q3.2 _ h hK)
  · refine j_if_ne (tgt := 233) ok dL_isGame_212 (by decide) (fun _ => ?_) (fun z => absurd z c2)
    exact J.sub [] rfl (jL_isGame_233 ok hcc hcs he q1.2 _ h hK)

def wL_isGame_176   (G : Mem) (c1 c2 : Nat) (K : Int32 → Mem → Prop) : Prop :=
  K (0 : Int32) G

set_option maxRecDepth 100000 in
set_option maxHeartbeats 4000000 in
theorem jL_isGame_176 {X : Cx} (ok : OK X cL_isGame RL (some .boolean) 14 12 249) {P : Int32 → Mem → Prop} {c1 c2 : Nat} (hcc : X.V.cc = c1) (hcs : X.V.cs = c2) (he : EndP X Value.int P)   (G : Mem) (K : Int32 → Mem → Prop) (h : wL_isGame_176  G c1 c2 K) (hK : ∀ r G', K r G' → P r G') : J X 14 176 [] [] G := by
  unfold wL_isGame_176 at h
  refine j_iconst (v := 0) ok dL_isGame_176 (by decide) ?_
  exact jl_zret ok (hK _ _ h) (Or.inl rfl) dL_isGame_177 he

def wL_isGame_189   (G : Mem) (c1 c2 : Nat) (K : Int32 → Mem → Prop) : Prop :=
  K (0 : Int32) G

set_option maxRecDepth 100000 in
set_option maxHeartbeats 4000000 in
theorem jL_isGame_189 {X : Cx} (ok : OK X cL_isGame RL (some .boolean) 14 12 249) {P : Int32 → Mem → Prop} {c1 c2 : Nat} (hcc : X.V.cc = c1) (hcs : X.V.cs = c2) (he : EndP X Value.int P)   (G : Mem) (K : Int32 → Mem → Prop) (h : wL_isGame_189  G c1 c2 K) (hK : ∀ r G', K r G' → P r G') : J X 14 189 [] [] G := by
  unfold wL_isGame_189 at h
  refine j_iconst (v := 0) ok dL_isGame_189 (by decide) ?_
  exact jl_zret ok (hK _ _ h) (Or.inl rfl) dL_isGame_190 he

def wL_isGame_178 (l0 : Nat) (l1 : Int64) (l3 : Int32) (l4 : Int32)  (G : Mem) (c1 c2 : Nat) (K : ((Int64 × Int32) ⊕ Int32) → Mem → Prop) : Prop :=
  wpL (fL_gamesTo l0 l4 G) hsL_gamesTo c1 c2 fun v1 G2 =>
  if (0 : Int32) ≤ (lg_cmp v1 (1 : Int64)) then
    wpL (fL_gamesTo l0 l4 G2) hsL_gamesTo c1 c2 fun v5 G6 =>
    K (.inl ((l1 + v5), (l4 + (1 : Int32)))) G6
  else
    wL_isGame_189 G2 c1 c2 (fun r G => K (.inr r) G)

set_option maxRecDepth 100000 in
set_option maxHeartbeats 4000000 in
theorem jL_isGame_178 {X : Cx} (ok : OK X cL_isGame RL (some .boolean) 14 12 249) {P : Int32 → Mem → Prop} {c1 c2 : Nat} (hcc : X.V.cc = c1) (hcs : X.V.cs = c2) (he : EndP X Value.int P) (l0 : Nat) (l1 : Int64) (l3 : Int32) (l4 : Int32)  (G : Mem) (K : ((Int64 × Int32) ⊕ Int32) → Mem → Prop) (h : wL_isGame_178 l0 l1 l3 l4 G c1 c2 K) (hK : ∀ r G', K r G' → (finL X 14 10 (fun s : Int64 × Int32 => [(0, .ref (X.B + l0)), (1, .long s.1), (3, .int l3), (4, .int s.2)]) P) r G') : J X 14 178 [(0, .ref (X.B + l0)), (1, .long l1), (3, .int l3), (4, .int l4)] [] G := by
  unfold wL_isGame_178 at h
  refine j_aload_n ok dL_isGame_178 rfl 0 rfl ?_
  refine j_iload ok dL_isGame_179 3 rfl ?_
  have hw3 := h
  obtain ⟨q0, hq0, -⟩ := h
  refine k_L ok kl_L_137 ⟨Nat.le_of_ble_eq_true rfl, Nat.le_of_ble_eq_true rfl⟩ [.ref (X.B + l0), .int l4] rfl rfl (Nat.le_of_ble_eq_true rfl) (tL_gamesTo ok.fl X.V l0 l4 G (by rw [hq0]; rfl)) dL_isGame_181 (fun v1 G2 hP => ?_)
  rw [hcc, hcs] at hP
  have h := pl_wp hw3 hP
  clear hw3 hP hq0
  refine j_lconst (v := 1) ok dL_isGame_184 (by decide) ?_
  refine j_lcmp ok dL_isGame_185 ?_
  rcases ite_prop h with ⟨c4, h⟩ | ⟨c4, h⟩
  · refine j_if_ge (tgt := 191) ok dL_isGame_186 (by decide) (fun _ => ?_) (fun z => absurd c4 z)
    refine j_lload_n ok dL_isGame_191 rfl 1 rfl ?_
    refine j_aload_n ok dL_isGame_192 rfl 0 rfl ?_
    refine j_iload ok dL_isGame_193 3 rfl ?_
    have hw7 := h
    obtain ⟨q0, hq0, -⟩ := h
    refine k_L ok kl_L_137 ⟨Nat.le_of_ble_eq_true rfl, Nat.le_of_ble_eq_true rfl⟩ [.ref (X.B + l0), .int l4] rfl rfl (Nat.le_of_ble_eq_true rfl) (tL_gamesTo ok.fl X.V l0 l4 G2 (by rw [hq0]; rfl)) dL_isGame_195 (fun v5 G6 hP => ?_)
    rw [hcc, hcs] at hP
    have h := pl_wp hw7 hP
    clear hw7 hP hq0
    refine j_ladd ok dL_isGame_198 ?_
    refine j_lstore_n (L' := [(1, .long (l1 + v5)), (0, .ref (X.B + l0)), (3, .int l3), (4, .int l4)]) ok dL_isGame_199 rfl (by decide) rfl ?_
    refine j_iinc (L' := [(4, .int (l4 + (1 : Int32))), (1, .long (l1 + v5)), (0, .ref (X.B + l0)), (3, .int l3)]) (v := (l4 + (1 : Int32))) ok dL_isGame_200 (q := 3) rfl rfl (by decide) rfl ?_
    refine j_goto (tgt := 10) ok dL_isGame_203 (by decide) ?_
    have hJ : J X 14 10 [(0, .ref (X.B + l0)), (1, .long (l1 + v5)), (3, .int l3), (4, .int (l4 + (1 : Int32)))] [] G6 := hK _ _ h
    exact J.sub [2, 1, 3, 0] rfl hJ
  · refine j_if_ge (tgt := 191) ok dL_isGame_186 (by decide) (fun z => absurd z c4) (fun _ => ?_)
    exact J.sub [] rfl (jL_isGame_189 ok hcc hcs he G2 _ h (fun r G hr => hK (.inr r) G hr))

def wL_isGame_148 (l0 : Nat) (l1 : Int64) (l3 : Int32) (l4 : Int32) (l5 : Int32) (l6 : Int32) (l7 : Int32)  (G : Mem) (c1 c2 : Nat) (K : ((Int64 × Int32) ⊕ Int32) → Mem → Prop) : Prop :=
  if l5 = (2 : Int32) then
    if l3 ≤ (0 : Int32) then
      wL_isGame_178 l0 l1 l3 l4 G c1 c2 K
    else
      mt G l0 = 16 ∧ ∃ q3, fX6_colourToMove l0 G = some q3 ∧
      wpL (fL_isAttacked l0 l4 l6 l7 q3.1 q3.2) hsL_isAttacked c1 c2 fun v4 G5 =>
      if v4 = (1 : Int32) then
        wL_isGame_176 G5 c1 c2 (fun r G => K (.inr r) G)
      else
        wL_isGame_178 l0 l1 l3 l4 G5 c1 c2 K
  else
    wL_isGame_176 G c1 c2 (fun r G => K (.inr r) G)

set_option maxRecDepth 100000 in
set_option maxHeartbeats 4000000 in
theorem jL_isGame_148 {X : Cx} (ok : OK X cL_isGame RL (some .boolean) 14 12 249) {P : Int32 → Mem → Prop} {c1 c2 : Nat} (hcc : X.V.cc = c1) (hcs : X.V.cs = c2) (he : EndP X Value.int P) (l0 : Nat) (l1 : Int64) (l3 : Int32) (l4 : Int32) (l5 : Int32) (l6 : Int32) (l7 : Int32)  (G : Mem) (K : ((Int64 × Int32) ⊕ Int32) → Mem → Prop) (h : wL_isGame_148 l0 l1 l3 l4 l5 l6 l7 G c1 c2 K) (hK : ∀ r G', K r G' → (finL X 14 10 (fun s : Int64 × Int32 => [(0, .ref (X.B + l0)), (1, .long s.1), (3, .int l3), (4, .int s.2)]) P) r G') : J X 14 148 [(0, .ref (X.B + l0)), (1, .long l1), (3, .int l3), (4, .int l4), (5, .int l5), (6, .int l6), (7, .int l7)] [] G := by
  unfold wL_isGame_148 at h
  refine j_iload ok dL_isGame_148 4 rfl ?_
  refine j_iconst (v := 2) ok dL_isGame_150 (by decide) ?_
  rcases ite_prop h with ⟨c1, h⟩ | ⟨c1, h⟩
  · refine j_icmp_ne (tgt := 176) ok dL_isGame_151 (by decide) (fun z => absurd c1 z) (fun _ => ?_)
    refine j_iload_n ok dL_isGame_154 rfl 2 rfl ?_
    rcases ite_prop h with ⟨c2, h⟩ | ⟨c2, h⟩
    · refine j_if_le (tgt := 178) ok dL_isGame_155 (by decide) (fun _ => ?_) (fun z => absurd c2 z)
      exact J.sub [0, 1, 2, 3] rfl (jL_isGame_178 ok hcc hcs he l0 l1 l3 l4 G _ h hK)
    · refine j_if_le (tgt := 178) ok dL_isGame_155 (by decide) (fun z => absurd z c2) (fun _ => ?_)
      refine j_aload_n ok dL_isGame_158 rfl 0 rfl ?_
      refine j_iload ok dL_isGame_159 3 rfl ?_
      refine j_iload ok dL_isGame_161 5 rfl ?_
      refine j_iload ok dL_isGame_163 6 rfl ?_
      refine j_aload_n ok dL_isGame_165 rfl 0 rfl ?_
      obtain ⟨kq3, h⟩ := h
      obtain ⟨q3, hq3, h⟩ := h
      refine k_V1 ok kl_L_131 ⟨Nat.le_of_ble_eq_true rfl, Nat.le_of_ble_eq_true rfl⟩ [] kq3 rfl rfl (Nat.le_of_ble_eq_true rfl) (tX6_colourToMove ok.fl X.V l0 G hq3) dL_isGame_166 ?_
      have hw6 := h
      obtain ⟨q0, hq0, -⟩ := h
      refine k_L ok kl_L_134 ⟨Nat.le_of_ble_eq_true rfl, Nat.le_of_ble_eq_true rfl⟩ [.ref (X.B + l0), .int l4, .int l6, .int l7, .int q3.1] rfl rfl (Nat.le_of_ble_eq_true rfl) (tL_isAttacked ok.fl X.V l0 l4 l6 l7 q3.1 q3.2 (by rw [hq0]; rfl)) dL_isGame_169 (fun v4 G5 hP => ?_)
      rw [hcc, hcs] at hP
      have h := pl_wp hw6 hP
      clear hw6 hP hq0
      refine j_iconst (v := 1) ok dL_isGame_172 (by decide) ?_
      rcases ite_prop h with ⟨c7, h⟩ | ⟨c7, h⟩
      · refine j_icmp_ne (tgt := 178) ok dL_isGame_173 (by decide) (fun z => absurd c7 z) (fun _ => ?_)
        exact J.sub [] rfl (jL_isGame_176 ok hcc hcs he G5 _ h (fun r G hr => hK (.inr r) G hr))
      · refine j_icmp_ne (tgt := 178) ok dL_isGame_173 (by decide) (fun _ => ?_) (fun z => absurd z c7)
        exact J.sub [0, 1, 2, 3] rfl (jL_isGame_178 ok hcc hcs he l0 l1 l3 l4 G5 _ h hK)
  · refine j_icmp_ne (tgt := 176) ok dL_isGame_151 (by decide) (fun _ => ?_) (fun z => absurd z c1)
    exact J.sub [] rfl (jL_isGame_176 ok hcc hcs he G _ h (fun r G hr => hK (.inr r) G hr))

def wL_isGame_142 (l0 : Nat) (l1 : Int64) (l3 : Int32) (l4 : Int32) (l5 : Int32) (l6 : Int32) (l7 : Int32) (l8 : Int32)  (G : Mem) (c1 c2 : Nat) (K : ((Int32 × Int32 × Int32 × Int32) ⊕ ((Int64 × Int32) ⊕ Int32)) → Mem → Prop) : Prop :=
  K (.inl (l5, l6, l7, (l8 + (1 : Int32)))) G

set_option maxRecDepth 100000 in
set_option maxHeartbeats 4000000 in
theorem jL_isGame_142 {X : Cx} (ok : OK X cL_isGame RL (some .boolean) 14 12 249) {P : Int32 → Mem → Prop} {c1 c2 : Nat} (hcc : X.V.cc = c1) (hcs : X.V.cs = c2) (he : EndP X Value.int P) (l0 : Nat) (l1 : Int64) (l3 : Int32) (l4 : Int32) (l5 : Int32) (l6 : Int32) (l7 : Int32) (l8 : Int32)  (G : Mem) (K : ((Int32 × Int32 × Int32 × Int32) ⊕ ((Int64 × Int32) ⊕ Int32)) → Mem → Prop) (h : wL_isGame_142 l0 l1 l3 l4 l5 l6 l7 l8 G c1 c2 K) (hK : ∀ r G', K r G' → (finL X 14 32 (fun s : Int32 × Int32 × Int32 × Int32 => [(0, .ref (X.B + l0)), (1, .long l1), (3, .int l3), (4, .int l4), (5, .int s.1), (6, .int s.2.1), (7, .int s.2.2.1), (8, .int s.2.2.2)]) (finL X 14 10 (fun s : Int64 × Int32 => [(0, .ref (X.B + l0)), (1, .long s.1), (3, .int l3), (4, .int s.2)]) P)) r G') : J X 14 142 [(0, .ref (X.B + l0)), (1, .long l1), (3, .int l3), (4, .int l4), (5, .int l5), (6, .int l6), (7, .int l7), (8, .int l8)] [] G := by
  unfold wL_isGame_142 at h
  refine j_iinc (L' := [(8, .int (l8 + (1 : Int32))), (0, .ref (X.B + l0)), (1, .long l1), (3, .int l3), (4, .int l4), (5, .int l5), (6, .int l6), (7, .int l7)]) (v := (l8 + (1 : Int32))) ok dL_isGame_142 (q := 7) rfl rfl (by decide) rfl ?_
  refine j_goto (tgt := 32) ok dL_isGame_145 (by decide) ?_
  have hJ : J X 14 32 [(0, .ref (X.B + l0)), (1, .long l1), (3, .int l3), (4, .int l4), (5, .int l5), (6, .int l6), (7, .int l7), (8, .int (l8 + (1 : Int32)))] [] G := hK _ _ h
  exact J.sub [1, 2, 3, 4, 5, 6, 7, 0] rfl hJ

def wL_isGame_136 (l0 : Nat) (l1 : Int64) (l3 : Int32) (l4 : Int32) (l5 : Int32) (l6 : Int32) (l7 : Int32) (l8 : Int32) (l9 : Int32)  (G : Mem) (c1 c2 : Nat) (K : ((Int32 × Int32 × Int32 × Int32) ⊕ ((Int32 × Int32 × Int32 × Int32) ⊕ ((Int64 × Int32) ⊕ Int32))) → Mem → Prop) : Prop :=
  K (.inl (l5, l6, l7, (l9 + (1 : Int32)))) G

set_option maxRecDepth 100000 in
set_option maxHeartbeats 4000000 in
theorem jL_isGame_136 {X : Cx} (ok : OK X cL_isGame RL (some .boolean) 14 12 249) {P : Int32 → Mem → Prop} {c1 c2 : Nat} (hcc : X.V.cc = c1) (hcs : X.V.cs = c2) (he : EndP X Value.int P) (l0 : Nat) (l1 : Int64) (l3 : Int32) (l4 : Int32) (l5 : Int32) (l6 : Int32) (l7 : Int32) (l8 : Int32) (l9 : Int32)  (G : Mem) (K : ((Int32 × Int32 × Int32 × Int32) ⊕ ((Int32 × Int32 × Int32 × Int32) ⊕ ((Int64 × Int32) ⊕ Int32))) → Mem → Prop) (h : wL_isGame_136 l0 l1 l3 l4 l5 l6 l7 l8 l9 G c1 c2 K) (hK : ∀ r G', K r G' → (finL X 14 44 (fun s : Int32 × Int32 × Int32 × Int32 => [(0, .ref (X.B + l0)), (1, .long l1), (3, .int l3), (4, .int l4), (5, .int s.1), (6, .int s.2.1), (7, .int s.2.2.1), (8, .int l8), (9, .int s.2.2.2)]) (finL X 14 32 (fun s : Int32 × Int32 × Int32 × Int32 => [(0, .ref (X.B + l0)), (1, .long l1), (3, .int l3), (4, .int l4), (5, .int s.1), (6, .int s.2.1), (7, .int s.2.2.1), (8, .int s.2.2.2)]) (finL X 14 10 (fun s : Int64 × Int32 => [(0, .ref (X.B + l0)), (1, .long s.1), (3, .int l3), (4, .int s.2)]) P))) r G') : J X 14 136 [(0, .ref (X.B + l0)), (1, .long l1), (3, .int l3), (4, .int l4), (5, .int l5), (6, .int l6), (7, .int l7), (8, .int l8), (9, .int l9)] [] G := by
  unfold wL_isGame_136 at h
  refine j_iinc (L' := [(9, .int (l9 + (1 : Int32))), (0, .ref (X.B + l0)), (1, .long l1), (3, .int l3), (4, .int l4), (5, .int l5), (6, .int l6), (7, .int l7), (8, .int l8)]) (v := (l9 + (1 : Int32))) ok dL_isGame_136 (q := 8) rfl rfl (by decide) rfl ?_
  refine j_goto (tgt := 44) ok dL_isGame_139 (by decide) ?_
  have hJ : J X 14 44 [(0, .ref (X.B + l0)), (1, .long l1), (3, .int l3), (4, .int l4), (5, .int l5), (6, .int l6), (7, .int l7), (8, .int l8), (9, .int (l9 + (1 : Int32)))] [] G := hK _ _ h
  exact J.sub [1, 2, 3, 4, 5, 6, 7, 8, 0] rfl hJ

def wL_isGame_98   (G : Mem) (c1 c2 : Nat) (K : Int32 → Mem → Prop) : Prop :=
  K (0 : Int32) G

set_option maxRecDepth 100000 in
set_option maxHeartbeats 4000000 in
theorem jL_isGame_98 {X : Cx} (ok : OK X cL_isGame RL (some .boolean) 14 12 249) {P : Int32 → Mem → Prop} {c1 c2 : Nat} (hcc : X.V.cc = c1) (hcs : X.V.cs = c2) (he : EndP X Value.int P)   (G : Mem) (K : Int32 → Mem → Prop) (h : wL_isGame_98  G c1 c2 K) (hK : ∀ r G', K r G' → P r G') : J X 14 98 [] [] G := by
  unfold wL_isGame_98 at h
  refine j_iconst (v := 0) ok dL_isGame_98 (by decide) ?_
  exact jl_zret ok (hK _ _ h) (Or.inl rfl) dL_isGame_99 he

def wL_isGame_95 (l0 : Nat) (l1 : Int64) (l3 : Int32) (l4 : Int32) (l5 : Int32) (l6 : Int32) (l7 : Int32) (l8 : Int32) (l9 : Int32) (l10 : Int32) (s0 : Int32) (s1 : Int32) (G : Mem) (c1 c2 : Nat) (K : ((Int32 × Int32 × Int32 × Int32) ⊕ ((Int32 × Int32 × Int32 × Int32) ⊕ ((Int64 × Int32) ⊕ Int32))) → Mem → Prop) : Prop :=
  if s0 = s1 then
    if l10 = (0 : Int32) then
      wpL (fL_colourAt l0 l4 l9 l8 G) hsL_colourAt c1 c2 fun v3 G4 =>
      mt G4 l0 = 16 ∧ ∃ q6, fX6_colourToMove l0 G4 = some q6 ∧
      if v3 = q6.1 then
        wL_isGame_136 l0 l1 l3 l4 (l5 + (1 : Int32)) l6 l7 l8 l9 q6.2 c1 c2 K
      else
        wL_isGame_136 l0 l1 l3 l4 (l5 + (1 : Int32)) l9 l8 l8 l9 q6.2 c1 c2 K
    else
      wL_isGame_136 l0 l1 l3 l4 l5 l6 l7 l8 l9 G c1 c2 K
  else
    wL_isGame_98 G c1 c2 (fun r G => K (.inr (.inr (.inr r))) G)

set_option maxRecDepth 100000 in
set_option maxHeartbeats 4000000 in
theorem jL_isGame_95 {X : Cx} (ok : OK X cL_isGame RL (some .boolean) 14 12 249) {P : Int32 → Mem → Prop} {c1 c2 : Nat} (hcc : X.V.cc = c1) (hcs : X.V.cs = c2) (he : EndP X Value.int P) (l0 : Nat) (l1 : Int64) (l3 : Int32) (l4 : Int32) (l5 : Int32) (l6 : Int32) (l7 : Int32) (l8 : Int32) (l9 : Int32) (l10 : Int32) (s0 : Int32) (s1 : Int32) (G : Mem) (K : ((Int32 × Int32 × Int32 × Int32) ⊕ ((Int32 × Int32 × Int32 × Int32) ⊕ ((Int64 × Int32) ⊕ Int32))) → Mem → Prop) (h : wL_isGame_95 l0 l1 l3 l4 l5 l6 l7 l8 l9 l10 s0 s1 G c1 c2 K) (hK : ∀ r G', K r G' → (finL X 14 44 (fun s : Int32 × Int32 × Int32 × Int32 => [(0, .ref (X.B + l0)), (1, .long l1), (3, .int l3), (4, .int l4), (5, .int s.1), (6, .int s.2.1), (7, .int s.2.2.1), (8, .int l8), (9, .int s.2.2.2)]) (finL X 14 32 (fun s : Int32 × Int32 × Int32 × Int32 => [(0, .ref (X.B + l0)), (1, .long l1), (3, .int l3), (4, .int l4), (5, .int s.1), (6, .int s.2.1), (7, .int s.2.2.1), (8, .int s.2.2.2)]) (finL X 14 10 (fun s : Int64 × Int32 => [(0, .ref (X.B + l0)), (1, .long s.1), (3, .int l3), (4, .int s.2)]) P))) r G') : J X 14 95 [(0, .ref (X.B + l0)), (1, .long l1), (3, .int l3), (4, .int l4), (5, .int l5), (6, .int l6), (7, .int l7), (8, .int l8), (9, .int l9), (10, .int l10)] [.int s1, .int s0] G := by
  unfold wL_isGame_95 at h
  rcases ite_prop h with ⟨c1, h⟩ | ⟨c1, h⟩
  · refine j_icmp_eq (tgt := 100) ok dL_isGame_95 (by decide) (fun _ => ?_) (fun z => absurd c1 z)
    refine j_iload ok dL_isGame_100 9 rfl ?_
    rcases ite_prop h with ⟨c2, h⟩ | ⟨c2, h⟩
    · refine j_if_eq (tgt := 108) ok dL_isGame_102 (by decide) (fun _ => ?_) (fun z => absurd c2 z)
      refine j_iinc (L' := [(5, .int (l5 + (1 : Int32))), (0, .ref (X.B + l0)), (1, .long l1), (3, .int l3), (4, .int l4), (6, .int l6), (7, .int l7), (8, .int l8), (9, .int l9), (10, .int l10)]) (v := (l5 + (1 : Int32))) ok dL_isGame_108 (q := 4) rfl rfl (by decide) rfl ?_
      refine j_aload_n ok dL_isGame_111 rfl 1 rfl ?_
      refine j_iload ok dL_isGame_112 4 rfl ?_
      refine j_iload ok dL_isGame_114 8 rfl ?_
      refine j_iload ok dL_isGame_116 7 rfl ?_
      have hw5 := h
      obtain ⟨q0, hq0, -⟩ := h
      refine k_L ok kl_L_129 ⟨Nat.le_of_ble_eq_true rfl, Nat.le_of_ble_eq_true rfl⟩ [.ref (X.B + l0), .int l4, .int l9, .int l8] rfl rfl (Nat.le_of_ble_eq_true rfl) (tL_colourAt ok.fl X.V l0 l4 l9 l8 G (by rw [hq0]; rfl)) dL_isGame_118 (fun v3 G4 hP => ?_)
      rw [hcc, hcs] at hP
      have h := pl_wp hw5 hP
      clear hw5 hP hq0
      refine j_aload_n ok dL_isGame_121 rfl 1 rfl ?_
      obtain ⟨kq6, h⟩ := h
      obtain ⟨q6, hq6, h⟩ := h
      refine k_V1 ok kl_L_131 ⟨Nat.le_of_ble_eq_true rfl, Nat.le_of_ble_eq_true rfl⟩ [] kq6 rfl rfl (Nat.le_of_ble_eq_true rfl) (tX6_colourToMove ok.fl X.V l0 G4 hq6) dL_isGame_122 ?_
      rcases ite_prop h with ⟨c7, h⟩ | ⟨c7, h⟩
      · refine j_icmp_eq (tgt := 136) ok dL_isGame_125 (by decide) (fun _ => ?_) (fun z => absurd c7 z)
        exact J.sub [1, 2, 3, 4, 0, 5, 6, 7, 8] rfl (jL_isGame_136 ok hcc hcs he l0 l1 l3 l4 (l5 + (1 : Int32)) l6 l7 l8 l9 q6.2 _ h hK)
      · refine j_icmp_eq (tgt := 136) ok dL_isGame_125 (by decide) (fun z => absurd z c7) (fun _ => ?_)
        refine j_iload ok dL_isGame_128 8 rfl ?_
        refine j_istore (L' := [(6, .int l9), (5, .int (l5 + (1 : Int32))), (0, .ref (X.B + l0)), (1, .long l1), (3, .int l3), (4, .int l4), (7, .int l7), (8, .int l8), (9, .int l9), (10, .int l10)]) ok dL_isGame_130 (by decide) rfl ?_
        refine j_iload ok dL_isGame_132 7 rfl ?_
        refine j_istore (L' := [(7, .int l8), (6, .int l9), (5, .int (l5 + (1 : Int32))), (0, .ref (X.B + l0)), (1, .long l1), (3, .int l3), (4, .int l4), (8, .int l8), (9, .int l9), (10, .int l10)]) ok dL_isGame_134 (by decide) rfl ?_
        exact J.sub [3, 4, 5, 6, 2, 1, 0, 7, 8] rfl (jL_isGame_136 ok hcc hcs he l0 l1 l3 l4 (l5 + (1 : Int32)) l9 l8 l8 l9 q6.2 _ h hK)
    · refine j_if_eq (tgt := 108) ok dL_isGame_102 (by decide) (fun z => absurd z c2) (fun _ => ?_)
      refine j_goto (tgt := 136) ok dL_isGame_105 (by decide) ?_
      exact J.sub [0, 1, 2, 3, 4, 5, 6, 7, 8] rfl (jL_isGame_136 ok hcc hcs he l0 l1 l3 l4 l5 l6 l7 l8 l9 G _ h hK)
  · refine j_icmp_eq (tgt := 100) ok dL_isGame_95 (by decide) (fun z => absurd z c1) (fun _ => ?_)
    exact J.sub [] rfl (jL_isGame_98 ok hcc hcs he G _ h (fun r G hr => hK (.inr (.inr (.inr r))) G hr))

def wL_isGame_76 (l0 : Nat) (l1 : Int64) (l3 : Int32) (l4 : Int32) (l5 : Int32) (l6 : Int32) (l7 : Int32) (l8 : Int32) (l9 : Int32) (l10 : Int32) (s0 : Int32) (G : Mem) (c1 c2 : Nat) (K : ((Int32 × Int32 × Int32 × Int32) ⊕ ((Int32 × Int32 × Int32 × Int32) ⊕ ((Int64 × Int32) ⊕ Int32))) → Mem → Prop) : Prop :=
  wpL (fL_colourAt l0 l4 l9 l8 G) hsL_colourAt c1 c2 fun v1 G2 =>
  if v1 = (-1 : Int32) then
    wL_isGame_95 l0 l1 l3 l4 l5 l6 l7 l8 l9 l10 s0 (1 : Int32) G2 c1 c2 K
  else
    wL_isGame_95 l0 l1 l3 l4 l5 l6 l7 l8 l9 l10 s0 (0 : Int32) G2 c1 c2 K

set_option maxRecDepth 100000 in
set_option maxHeartbeats 4000000 in
theorem jL_isGame_76 {X : Cx} (ok : OK X cL_isGame RL (some .boolean) 14 12 249) {P : Int32 → Mem → Prop} {c1 c2 : Nat} (hcc : X.V.cc = c1) (hcs : X.V.cs = c2) (he : EndP X Value.int P) (l0 : Nat) (l1 : Int64) (l3 : Int32) (l4 : Int32) (l5 : Int32) (l6 : Int32) (l7 : Int32) (l8 : Int32) (l9 : Int32) (l10 : Int32) (s0 : Int32) (G : Mem) (K : ((Int32 × Int32 × Int32 × Int32) ⊕ ((Int32 × Int32 × Int32 × Int32) ⊕ ((Int64 × Int32) ⊕ Int32))) → Mem → Prop) (h : wL_isGame_76 l0 l1 l3 l4 l5 l6 l7 l8 l9 l10 s0 G c1 c2 K) (hK : ∀ r G', K r G' → (finL X 14 44 (fun s : Int32 × Int32 × Int32 × Int32 => [(0, .ref (X.B + l0)), (1, .long l1), (3, .int l3), (4, .int l4), (5, .int s.1), (6, .int s.2.1), (7, .int s.2.2.1), (8, .int l8), (9, .int s.2.2.2)]) (finL X 14 32 (fun s : Int32 × Int32 × Int32 × Int32 => [(0, .ref (X.B + l0)), (1, .long l1), (3, .int l3), (4, .int l4), (5, .int s.1), (6, .int s.2.1), (7, .int s.2.2.1), (8, .int s.2.2.2)]) (finL X 14 10 (fun s : Int64 × Int32 => [(0, .ref (X.B + l0)), (1, .long s.1), (3, .int l3), (4, .int s.2)]) P))) r G') : J X 14 76 [(0, .ref (X.B + l0)), (1, .long l1), (3, .int l3), (4, .int l4), (5, .int l5), (6, .int l6), (7, .int l7), (8, .int l8), (9, .int l9), (10, .int l10)] [.int s0] G := by
  unfold wL_isGame_76 at h
  refine j_aload_n ok dL_isGame_76 rfl 0 rfl ?_
  refine j_iload ok dL_isGame_77 3 rfl ?_
  refine j_iload ok dL_isGame_79 8 rfl ?_
  refine j_iload ok dL_isGame_81 7 rfl ?_
  have hw3 := h
  obtain ⟨q0, hq0, -⟩ := h
  refine k_L ok kl_L_129 ⟨Nat.le_of_ble_eq_true rfl, Nat.le_of_ble_eq_true rfl⟩ [.ref (X.B + l0), .int l4, .int l9, .int l8] rfl rfl (Nat.le_of_ble_eq_true rfl) (tL_colourAt ok.fl X.V l0 l4 l9 l8 G (by rw [hq0]; rfl)) dL_isGame_83 (fun v1 G2 hP => ?_)
  rw [hcc, hcs] at hP
  have h := pl_wp hw3 hP
  clear hw3 hP hq0
  refine j_iconst (v := -1) ok dL_isGame_86 (by decide) ?_
  rcases ite_prop h with ⟨c4, h⟩ | ⟨c4, h⟩
  · refine j_icmp_ne (tgt := 94) ok dL_isGame_87 (by decide) (fun z => absurd c4 z) (fun _ => ?_)
    refine j_iconst (v := 1) ok dL_isGame_90 (by decide) ?_
    refine j_goto (tgt := 95) ok dL_isGame_91 (by decide) ?_
    exact J.sub [0, 1, 2, 3, 4, 5, 6, 7, 8, 9] rfl (jL_isGame_95 ok hcc hcs he l0 l1 l3 l4 l5 l6 l7 l8 l9 l10 s0 (1 : Int32) G2 _ h hK)
  · refine j_icmp_ne (tgt := 94) ok dL_isGame_87 (by decide) (fun _ => ?_) (fun z => absurd z c4)
    refine j_iconst (v := 0) ok dL_isGame_94 (by decide) ?_
    exact J.sub [0, 1, 2, 3, 4, 5, 6, 7, 8, 9] rfl (jL_isGame_95 ok hcc hcs he l0 l1 l3 l4 l5 l6 l7 l8 l9 l10 s0 (0 : Int32) G2 _ h hK)

def wL_isGame_44 (l0 : Nat) (l1 : Int64) (l3 : Int32) (l4 : Int32) (l5 : Int32) (l6 : Int32) (l7 : Int32) (l8 : Int32) (l9 : Int32)  (G : Mem) (c1 c2 : Nat) (K : ((Int32 × Int32 × Int32 × Int32) ⊕ ((Int32 × Int32 × Int32 × Int32) ⊕ ((Int64 × Int32) ⊕ Int32))) → Mem → Prop) : Prop :=
  mt G l0 = 16 ∧ ∃ q1, fX6_columns l0 G = some q1 ∧
  if q1.1 ≤ l9 then
    wL_isGame_142 l0 l1 l3 l4 l5 l6 l7 l8 q1.2 c1 c2 (fun r G => K (.inr r) G)
  else
    wpL (fL_kindAt l0 l4 l9 l8 q1.2) hsL_kindAt c1 c2 fun v3 G4 =>
    if v3 = (-1 : Int32) then
      wL_isGame_76 l0 l1 l3 l4 l5 l6 l7 l8 l9 v3 (1 : Int32) G4 c1 c2 K
    else
      wL_isGame_76 l0 l1 l3 l4 l5 l6 l7 l8 l9 v3 (0 : Int32) G4 c1 c2 K

set_option maxRecDepth 100000 in
set_option maxHeartbeats 4000000 in
theorem jL_isGame_44 {X : Cx} (ok : OK X cL_isGame RL (some .boolean) 14 12 249) {P : Int32 → Mem → Prop} {c1 c2 : Nat} (hcc : X.V.cc = c1) (hcs : X.V.cs = c2) (he : EndP X Value.int P) (l0 : Nat) (l1 : Int64) (l3 : Int32) (l4 : Int32) (l5 : Int32) (l6 : Int32) (l7 : Int32) (l8 : Int32) (l9 : Int32)  (G : Mem) (K : ((Int32 × Int32 × Int32 × Int32) ⊕ ((Int32 × Int32 × Int32 × Int32) ⊕ ((Int64 × Int32) ⊕ Int32))) → Mem → Prop) (h : wL_isGame_44 l0 l1 l3 l4 l5 l6 l7 l8 l9 G c1 c2 K) (hK : ∀ r G', K r G' → (finL X 14 44 (fun s : Int32 × Int32 × Int32 × Int32 => [(0, .ref (X.B + l0)), (1, .long l1), (3, .int l3), (4, .int l4), (5, .int s.1), (6, .int s.2.1), (7, .int s.2.2.1), (8, .int l8), (9, .int s.2.2.2)]) (finL X 14 32 (fun s : Int32 × Int32 × Int32 × Int32 => [(0, .ref (X.B + l0)), (1, .long l1), (3, .int l3), (4, .int l4), (5, .int s.1), (6, .int s.2.1), (7, .int s.2.2.1), (8, .int s.2.2.2)]) (finL X 14 10 (fun s : Int64 × Int32 => [(0, .ref (X.B + l0)), (1, .long s.1), (3, .int l3), (4, .int s.2)]) P))) r G') : J X 14 44 [(0, .ref (X.B + l0)), (1, .long l1), (3, .int l3), (4, .int l4), (5, .int l5), (6, .int l6), (7, .int l7), (8, .int l8), (9, .int l9)] [] G := by
  unfold wL_isGame_44 at h
  refine j_iload ok dL_isGame_44 8 rfl ?_
  refine j_aload_n ok dL_isGame_46 rfl 0 rfl ?_
  obtain ⟨kq1, h⟩ := h
  obtain ⟨q1, hq1, h⟩ := h
  refine k_V1 ok kl_L_123 ⟨Nat.le_of_ble_eq_true rfl, Nat.le_of_ble_eq_true rfl⟩ [] kq1 rfl rfl (Nat.le_of_ble_eq_true rfl) (tX6_columns ok.fl X.V l0 G hq1) dL_isGame_47 ?_
  rcases ite_prop h with ⟨c2, h⟩ | ⟨c2, h⟩
  · refine j_icmp_ge (tgt := 142) ok dL_isGame_50 (by decide) (fun _ => ?_) (fun z => absurd c2 z)
    exact J.sub [0, 1, 2, 3, 4, 5, 6, 7] rfl (jL_isGame_142 ok hcc hcs he l0 l1 l3 l4 l5 l6 l7 l8 q1.2 _ h (fun r G hr => hK (.inr r) G hr))
  · refine j_icmp_ge (tgt := 142) ok dL_isGame_50 (by decide) (fun z => absurd z c2) (fun _ => ?_)
    refine j_aload_n ok dL_isGame_53 rfl 0 rfl ?_
    refine j_iload ok dL_isGame_54 3 rfl ?_
    refine j_iload ok dL_isGame_56 8 rfl ?_
    refine j_iload ok dL_isGame_58 7 rfl ?_
    have hw5 := h
    obtain ⟨q0, hq0, -⟩ := h
    refine k_L ok kl_L_126 ⟨Nat.le_of_ble_eq_true rfl, Nat.le_of_ble_eq_true rfl⟩ [.ref (X.B + l0), .int l4, .int l9, .int l8] rfl rfl (Nat.le_of_ble_eq_true rfl) (tL_kindAt ok.fl X.V l0 l4 l9 l8 q1.2 (by rw [hq0]; rfl)) dL_isGame_60 (fun v3 G4 hP => ?_)
    rw [hcc, hcs] at hP
    have h := pl_wp hw5 hP
    clear hw5 hP hq0
    refine j_istore (L' := [(10, .int v3), (0, .ref (X.B + l0)), (1, .long l1), (3, .int l3), (4, .int l4), (5, .int l5), (6, .int l6), (7, .int l7), (8, .int l8), (9, .int l9)]) ok dL_isGame_63 (by decide) rfl ?_
    refine j_iload ok dL_isGame_65 0 rfl ?_
    refine j_iconst (v := -1) ok dL_isGame_67 (by decide) ?_
    rcases ite_prop h with ⟨c6, h⟩ | ⟨c6, h⟩
    · refine j_icmp_ne (tgt := 75) ok dL_isGame_68 (by decide) (fun z => absurd c6 z) (fun _ => ?_)
      refine j_iconst (v := 1) ok dL_isGame_71 (by decide) ?_
      refine j_goto (tgt := 76) ok dL_isGame_72 (by decide) ?_
      exact J.sub [1, 2, 3, 4, 5, 6, 7, 8, 9, 0] rfl (jL_isGame_76 ok hcc hcs he l0 l1 l3 l4 l5 l6 l7 l8 l9 v3 (1 : Int32) G4 _ h hK)
    · refine j_icmp_ne (tgt := 75) ok dL_isGame_68 (by decide) (fun _ => ?_) (fun z => absurd z c6)
      refine j_iconst (v := 0) ok dL_isGame_75 (by decide) ?_
      exact J.sub [1, 2, 3, 4, 5, 6, 7, 8, 9, 0] rfl (jL_isGame_76 ok hcc hcs he l0 l1 l3 l4 l5 l6 l7 l8 l9 v3 (0 : Int32) G4 _ h hK)

def wL_isGame_32 (l0 : Nat) (l1 : Int64) (l3 : Int32) (l4 : Int32) (l5 : Int32) (l6 : Int32) (l7 : Int32) (l8 : Int32)  (G : Mem) (c1 c2 : Nat) (K : ((Int32 × Int32 × Int32 × Int32) ⊕ ((Int64 × Int32) ⊕ Int32)) → Mem → Prop) : Prop :=
  mt G l0 = 16 ∧ ∃ q1, fX6_rows l0 G = some q1 ∧
  if q1.1 ≤ l8 then
    wL_isGame_148 l0 l1 l3 l4 l5 l6 l7 q1.2 c1 c2 (fun r G => K (.inr r) G)
  else
    loopW (fun (s : Int32 × Int32 × Int32 × Int32) G K => wL_isGame_44 l0 l1 l3 l4 s.1 s.2.1 s.2.2.1 l8 s.2.2.2 G c1 c2 K) FU (l5, l6, l7, (0 : Int32)) q1.2 K

set_option maxRecDepth 100000 in
set_option maxHeartbeats 4000000 in
theorem jL_isGame_32 {X : Cx} (ok : OK X cL_isGame RL (some .boolean) 14 12 249) {P : Int32 → Mem → Prop} {c1 c2 : Nat} (hcc : X.V.cc = c1) (hcs : X.V.cs = c2) (he : EndP X Value.int P) (l0 : Nat) (l1 : Int64) (l3 : Int32) (l4 : Int32) (l5 : Int32) (l6 : Int32) (l7 : Int32) (l8 : Int32)  (G : Mem) (K : ((Int32 × Int32 × Int32 × Int32) ⊕ ((Int64 × Int32) ⊕ Int32)) → Mem → Prop) (h : wL_isGame_32 l0 l1 l3 l4 l5 l6 l7 l8 G c1 c2 K) (hK : ∀ r G', K r G' → (finL X 14 32 (fun s : Int32 × Int32 × Int32 × Int32 => [(0, .ref (X.B + l0)), (1, .long l1), (3, .int l3), (4, .int l4), (5, .int s.1), (6, .int s.2.1), (7, .int s.2.2.1), (8, .int s.2.2.2)]) (finL X 14 10 (fun s : Int64 × Int32 => [(0, .ref (X.B + l0)), (1, .long s.1), (3, .int l3), (4, .int s.2)]) P)) r G') : J X 14 32 [(0, .ref (X.B + l0)), (1, .long l1), (3, .int l3), (4, .int l4), (5, .int l5), (6, .int l6), (7, .int l7), (8, .int l8)] [] G := by
  unfold wL_isGame_32 at h
  refine j_iload ok dL_isGame_32 7 rfl ?_
  refine j_aload_n ok dL_isGame_34 rfl 0 rfl ?_
  obtain ⟨kq1, h⟩ := h
  obtain ⟨q1, hq1, h⟩ := h
  refine k_V1 ok kl_L_120 ⟨Nat.le_of_ble_eq_true rfl, Nat.le_of_ble_eq_true rfl⟩ [] kq1 rfl rfl (Nat.le_of_ble_eq_true rfl) (tX6_rows ok.fl X.V l0 G hq1) dL_isGame_35 ?_
  rcases ite_prop h with ⟨c2, h⟩ | ⟨c2, h⟩
  · refine j_icmp_ge (tgt := 148) ok dL_isGame_38 (by decide) (fun _ => ?_) (fun z => absurd c2 z)
    exact J.sub [0, 1, 2, 3, 4, 5, 6] rfl (jL_isGame_148 ok hcc hcs he l0 l1 l3 l4 l5 l6 l7 q1.2 _ h (fun r G hr => hK (.inr r) G hr))
  · refine j_icmp_ge (tgt := 148) ok dL_isGame_38 (by decide) (fun z => absurd z c2) (fun _ => ?_)
    refine j_iconst (v := 0) ok dL_isGame_41 (by decide) ?_
    refine j_istore (L' := [(9, .int (0 : Int32)), (0, .ref (X.B + l0)), (1, .long l1), (3, .int l3), (4, .int l4), (5, .int l5), (6, .int l6), (7, .int l7), (8, .int l8)]) ok dL_isGame_42 (by decide) rfl ?_
    have hJ : J X 14 44 [(0, .ref (X.B + l0)), (1, .long l1), (3, .int l3), (4, .int l4), (5, .int l5), (6, .int l6), (7, .int l7), (8, .int l8), (9, .int (0 : Int32))] [] q1.2 := jw_loop (loc := fun s : Int32 × Int32 × Int32 × Int32 => [(0, .ref (X.B + l0)), (1, .long l1), (3, .int l3), (4, .int l4), (5, .int s.1), (6, .int s.2.1), (7, .int s.2.2.1), (8, .int l8), (9, .int s.2.2.2)]) (F := (finL X 14 32 (fun s : Int32 × Int32 × Int32 × Int32 => [(0, .ref (X.B + l0)), (1, .long l1), (3, .int l3), (4, .int l4), (5, .int s.1), (6, .int s.2.1), (7, .int s.2.2.1), (8, .int s.2.2.2)]) (finL X 14 10 (fun s : Int64 × Int32 => [(0, .ref (X.B + l0)), (1, .long s.1), (3, .int l3), (4, .int s.2)]) P))) (fun s G K hb hk => jL_isGame_44 ok hcc hcs he l0 l1 l3 l4 s.1 s.2.1 s.2.2.1 l8 s.2.2.2 G K hb hk) _ _ _ _ h hK
    exact J.sub [1, 2, 3, 4, 5, 6, 7, 8, 0] rfl hJ

def wL_isGame_10 (l0 : Nat) (l1 : Int64) (l3 : Int32) (l4 : Int32)  (G : Mem) (c1 c2 : Nat) (K : ((Int64 × Int32) ⊕ Int32) → Mem → Prop) : Prop :=
  wpL (fL_positionsAfter l0 l3 G) hsL_positionsAfter c1 c2 fun v1 G2 =>
  if v1 ≤ l4 then
    wL_isGame_206 l0 l1 l3 G2 c1 c2 (fun r G => K (.inr r) G)
  else
    loopW (fun (s : Int32 × Int32 × Int32 × Int32) G K => wL_isGame_32 l0 l1 l3 l4 s.1 s.2.1 s.2.2.1 s.2.2.2 G c1 c2 K) FU ((0 : Int32), (0 : Int32), (0 : Int32), (0 : Int32)) G2 K

set_option maxRecDepth 100000 in
set_option maxHeartbeats 4000000 in
theorem jL_isGame_10 {X : Cx} (ok : OK X cL_isGame RL (some .boolean) 14 12 249) {P : Int32 → Mem → Prop} {c1 c2 : Nat} (hcc : X.V.cc = c1) (hcs : X.V.cs = c2) (he : EndP X Value.int P) (l0 : Nat) (l1 : Int64) (l3 : Int32) (l4 : Int32)  (G : Mem) (K : ((Int64 × Int32) ⊕ Int32) → Mem → Prop) (h : wL_isGame_10 l0 l1 l3 l4 G c1 c2 K) (hK : ∀ r G', K r G' → (finL X 14 10 (fun s : Int64 × Int32 => [(0, .ref (X.B + l0)), (1, .long s.1), (3, .int l3), (4, .int s.2)]) P) r G') : J X 14 10 [(0, .ref (X.B + l0)), (1, .long l1), (3, .int l3), (4, .int l4)] [] G := by
  unfold wL_isGame_10 at h
  refine j_iload ok dL_isGame_10 3 rfl ?_
  refine j_aload_n ok dL_isGame_12 rfl 0 rfl ?_
  refine j_iload_n ok dL_isGame_13 rfl 2 rfl ?_
  have hw3 := h
  obtain ⟨q0, hq0, -⟩ := h
  refine k_L ok kl_L_118 ⟨Nat.le_of_ble_eq_true rfl, Nat.le_of_ble_eq_true rfl⟩ [.ref (X.B + l0), .int l3] rfl rfl (Nat.le_of_ble_eq_true rfl) (tL_positionsAfter ok.fl X.V l0 l3 G (by rw [hq0]; rfl)) dL_isGame_14 (fun v1 G2 hP => ?_)
  rw [hcc, hcs] at hP
  have h := pl_wp hw3 hP
  clear hw3 hP hq0
  rcases ite_prop h with ⟨c4, h⟩ | ⟨c4, h⟩
  · refine j_icmp_ge (tgt := 206) ok dL_isGame_17 (by decide) (fun _ => ?_) (fun z => absurd c4 z)
    exact J.sub [0, 1, 2] rfl (jL_isGame_206 ok hcc hcs he l0 l1 l3 G2 _ h (fun r G hr => hK (.inr r) G hr))
  · refine j_icmp_ge (tgt := 206) ok dL_isGame_17 (by decide) (fun z => absurd z c4) (fun _ => ?_)
    refine j_iconst (v := 0) ok dL_isGame_20 (by decide) ?_
    refine j_istore (L' := [(5, .int (0 : Int32)), (0, .ref (X.B + l0)), (1, .long l1), (3, .int l3), (4, .int l4)]) ok dL_isGame_21 (by decide) rfl ?_
    refine j_iconst (v := 0) ok dL_isGame_23 (by decide) ?_
    refine j_istore (L' := [(6, .int (0 : Int32)), (5, .int (0 : Int32)), (0, .ref (X.B + l0)), (1, .long l1), (3, .int l3), (4, .int l4)]) ok dL_isGame_24 (by decide) rfl ?_
    refine j_iconst (v := 0) ok dL_isGame_26 (by decide) ?_
    refine j_istore (L' := [(7, .int (0 : Int32)), (6, .int (0 : Int32)), (5, .int (0 : Int32)), (0, .ref (X.B + l0)), (1, .long l1), (3, .int l3), (4, .int l4)]) ok dL_isGame_27 (by decide) rfl ?_
    refine j_iconst (v := 0) ok dL_isGame_29 (by decide) ?_
    refine j_istore (L' := [(8, .int (0 : Int32)), (7, .int (0 : Int32)), (6, .int (0 : Int32)), (5, .int (0 : Int32)), (0, .ref (X.B + l0)), (1, .long l1), (3, .int l3), (4, .int l4)]) ok dL_isGame_30 (by decide) rfl ?_
    have hJ : J X 14 32 [(0, .ref (X.B + l0)), (1, .long l1), (3, .int l3), (4, .int l4), (5, .int (0 : Int32)), (6, .int (0 : Int32)), (7, .int (0 : Int32)), (8, .int (0 : Int32))] [] G2 := jw_loop (loc := fun s : Int32 × Int32 × Int32 × Int32 => [(0, .ref (X.B + l0)), (1, .long l1), (3, .int l3), (4, .int l4), (5, .int s.1), (6, .int s.2.1), (7, .int s.2.2.1), (8, .int s.2.2.2)]) (F := (finL X 14 10 (fun s : Int64 × Int32 => [(0, .ref (X.B + l0)), (1, .long s.1), (3, .int l3), (4, .int s.2)]) P)) (fun s G K hb hk => jL_isGame_32 ok hcc hcs he l0 l1 l3 l4 s.1 s.2.1 s.2.2.1 s.2.2.2 G K hb hk) _ _ _ _ h hK
    exact J.sub [4, 5, 6, 7, 3, 2, 1, 0] rfl hJ

def wL_isGame_0 (l0 : Nat)  (G : Mem) (c1 c2 : Nat) (K : Int32 → Mem → Prop) : Prop :=
  mt G l0 = 16 ∧ ∃ q1, fX6_noteCount l0 G = some q1 ∧
  loopW (fun (s : Int64 × Int32) G K => wL_isGame_10 l0 s.1 q1.1 s.2 G c1 c2 K) FU ((0 : Int64), (0 : Int32)) q1.2 K

set_option maxRecDepth 100000 in
set_option maxHeartbeats 4000000 in
theorem jL_isGame_0 {X : Cx} (ok : OK X cL_isGame RL (some .boolean) 14 12 249) {P : Int32 → Mem → Prop} {c1 c2 : Nat} (hcc : X.V.cc = c1) (hcs : X.V.cs = c2) (he : EndP X Value.int P) (l0 : Nat)  (G : Mem) (K : Int32 → Mem → Prop) (h : wL_isGame_0 l0 G c1 c2 K) (hK : ∀ r G', K r G' → P r G') : J X 14 0 [(0, .ref (X.B + l0))] [] G := by
  unfold wL_isGame_0 at h
  refine j_lconst (v := 0) ok dL_isGame_0 (by decide) ?_
  refine j_lstore_n (L' := [(1, .long (0 : Int64)), (0, .ref (X.B + l0))]) ok dL_isGame_1 rfl (by decide) rfl ?_
  refine j_aload_n ok dL_isGame_2 rfl 1 rfl ?_
  obtain ⟨kq1, h⟩ := h
  obtain ⟨q1, hq1, h⟩ := h
  refine k_V1 ok kl_L_115 ⟨Nat.le_of_ble_eq_true rfl, Nat.le_of_ble_eq_true rfl⟩ [] kq1 rfl rfl (Nat.le_of_ble_eq_true rfl) (tX6_noteCount ok.fl X.V l0 G hq1) dL_isGame_3 ?_
  refine j_istore_n (L' := [(3, .int q1.1), (1, .long (0 : Int64)), (0, .ref (X.B + l0))]) ok dL_isGame_6 rfl (by decide) rfl ?_
  refine j_iconst (v := 0) ok dL_isGame_7 (by decide) ?_
  refine j_istore (L' := [(4, .int (0 : Int32)), (3, .int q1.1), (1, .long (0 : Int64)), (0, .ref (X.B + l0))]) ok dL_isGame_8 (by decide) rfl ?_
  have hJ : J X 14 10 [(0, .ref (X.B + l0)), (1, .long (0 : Int64)), (3, .int q1.1), (4, .int (0 : Int32))] [] q1.2 := jw_loop (loc := fun s : Int64 × Int32 => [(0, .ref (X.B + l0)), (1, .long s.1), (3, .int q1.1), (4, .int s.2)]) (F := P) (fun s G K hb hk => jL_isGame_10 ok hcc hcs he l0 s.1 q1.1 s.2 G K hb hk) _ _ _ _ h hK
  exact J.sub [3, 2, 1, 0] rfl hJ

def wL_isGame (l0 : Nat) (G : Mem) (c1 c2 : Nat) (K : Int32 → Mem → Prop) : Prop := wL_isGame_0 l0 G c1 c2 K
set_option maxRecDepth 100000 in
theorem tL_isGame {l : Launch} (hfl : l.stackTraces = false) (V : Wd) (l0 : Nat) (G : Mem) {P : Int32 → Mem → Prop} (h : wL_isGame l0 G V.cc V.cs P) : ML l yL_isGame (Cond.code yL_isGame cL_isGame 14 (some .boolean)) 12 249 V [.ref (V.B + l0)] G Value.int P :=
  mp_of (L := [(0, .ref (V.B + l0))]) hfl (by decide +kernel) (Nat.le_of_ble_eq_true rfl) rfl (fun X hl hV ok he => by
    subst hl; subst hV
    exact J.sub [0] rfl (jL_isGame_0 ok rfl rfl he l0 G _ h (fun _ _ z => z)))
