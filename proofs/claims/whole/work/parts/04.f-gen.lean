def fX6_rows_0 (l0 : Nat)  (G : Mem) : Option (Int32 × Mem) :=
  (gR G 16 l0 3).bind fun v1 =>
  (gR G 13 v1 0).bind fun v2 =>
  (gF G 10 v2 1).bind fun v3 =>
  some (v3, G)

set_option maxRecDepth 100000 in
set_option maxHeartbeats 4000000 in
theorem jX6_rows_0 {X : Cx} (ok : OK X cX6_rows RX6 (some .int) 1 0 0) (l0 : Nat)  (G : Mem) {r : Int32} {G' : Mem} (h : fX6_rows_0 l0 G = some (r, G')) (hK : (finI X) r G') : J X 1 0 [(0, .ref (X.B + l0))] [] G := by
  unfold fX6_rows_0 at h
  refine j_aload_n ok dX6_rows_0 rfl 0 rfl ?_
  obtain ⟨v1, hv1, h⟩ := obind h
  refine k_getR ok fl_X6_33 hv1 dX6_rows_1 ?_
  obtain ⟨v2, hv2, h⟩ := obind h
  refine k_getR ok fl_X6_95 hv2 dX6_rows_4 ?_
  obtain ⟨v3, hv3, h⟩ := obind h
  refine k_getI ok fl_X6_159 hv3 dX6_rows_7 ?_
  obtain ⟨er, eG⟩ := inj2 h
  subst er; subst eG
  exact j_iret ok rfl dX6_rows_10 hK

def fX6_rows (l0 : Nat) (G : Mem) : Option (Int32 × Mem) := fX6_rows_0 l0 G
set_option maxRecDepth 100000 in
theorem tX6_rows {l : Launch} (hfl : l.stackTraces = false) (V : Wd) (l0 : Nat) (G : Mem) {r : Int32} {G' : Mem} (h : fX6_rows l0 G = some (r, G')) : Mx l yX6_rows cX6_rows 1 (some .int) 0 0 V [.ref (V.B + l0)] G (.inl (some (.int r))) G' :=
  mx_of (L := [(0, .ref (V.B + l0))]) hfl (by decide +kernel) (Nat.le_of_ble_eq_true rfl) rfl (fun X hl hV hin ok he => by
    subst hl; subst hV
    exact J.sub [0] rfl (jX6_rows_0 ok l0 G h he))
def fX6_save_0 (l0 : Nat) (l1 : Int32)  (G : Mem) : Option ((Int32 ⊕ Nat) × Mem) :=
  ck G 16 l0 <| (fX6_requireSlot l0 l1 G).bind fun q1 => thr q1.1 (fun v2 =>
    (gR q1.2 16 l0 8).bind fun v3 =>
    (gQ q1.2 7 v3 l1).bind fun v4 =>
    (gR q1.2 16 l0 3).bind fun v5 =>
    ck q1.2 13 v4 <| (fX3_copyFrom v4 v5 q1.2).bind fun q6 =>
    (gR q6.2 16 l0 9).bind fun v7 =>
    (pT q6.2 v7 l1 (1 : Int32)).bind fun G8 =>
    (gR G8 16 l0 3).bind fun v9 =>
    (gF G8 13 v9 1).bind fun v10 =>
    some (.inl v10, G8)) q1.2

set_option maxRecDepth 100000 in
set_option maxHeartbeats 4000000 in
theorem jX6_save_0 {X : Cx} (ok : OK X cX6_save RX6 (some .int) 2 9 181) (l0 : Nat) (l1 : Int32)  (G : Mem) {r : (Int32 ⊕ Nat)} {G' : Mem} (h : fX6_save_0 l0 l1 G = some (r, G')) (hK : (finT X (finI X)) r G') : J X 2 0 [(0, .ref (X.B + l0)), (1, .int l1)] [] G := by
  unfold fX6_save_0 at h
  refine j_aload_n ok dX6_save_0 rfl 0 rfl ?_
  refine j_iload_n ok dX6_save_1 rfl 1 rfl ?_
  obtain ⟨kq1, h⟩ := ck_some h
  obtain ⟨q1, hq1, h⟩ := obind h
  cases eq1 : q1.1 with
  | inr v2 =>
    rw [eq1] at h; dsimp only [thr] at h
    obtain ⟨er, eG⟩ := inj2 h
    subst er; subst eG
    exact k_VX ok kl_X6_184 ⟨Nat.le_of_ble_eq_true rfl, Nat.le_of_ble_eq_true rfl⟩ [.int l1] kq1 rfl rfl (Nat.le_of_ble_eq_true rfl) (by have z := tX6_requireSlot ok.fl X.V l0 l1 G hq1; rw [eq1] at z; exact z) dX6_save_2 hK
  | inl v2 =>
    rw [eq1] at h; dsimp only [thr] at h
    refine k_V0 ok kl_X6_184 ⟨Nat.le_of_ble_eq_true rfl, Nat.le_of_ble_eq_true rfl⟩ [.int l1] kq1 rfl rfl (Nat.le_of_ble_eq_true rfl) (by have z := tX6_requireSlot ok.fl X.V l0 l1 G hq1; rw [eq1] at z; exact z) dX6_save_2 ?_
    refine j_aload_n ok dX6_save_5 rfl 0 rfl ?_
    obtain ⟨v3, hv3, h⟩ := obind h
    refine k_getR ok fl_X6_51 hv3 dX6_save_6 ?_
    refine j_iload_n ok dX6_save_9 rfl 1 rfl ?_
    obtain ⟨v4, hv4, h⟩ := obind h
    refine j_aald ok (Or.inr rfl) hv4 dX6_save_10 ?_
    refine j_aload_n ok dX6_save_11 rfl 0 rfl ?_
    obtain ⟨v5, hv5, h⟩ := obind h
    refine k_getR ok fl_X6_33 hv5 dX6_save_12 ?_
    obtain ⟨kq6, h⟩ := ck_some h
    obtain ⟨q6, hq6, h⟩ := obind h
    refine k_V0 ok kl_X6_114 ⟨Nat.le_of_ble_eq_true rfl, Nat.le_of_ble_eq_true rfl⟩ [.ref (X.B + v5)] kq6 rfl rfl (Nat.le_of_ble_eq_true rfl) (tX3_copyFrom ok.fl X.V v4 v5 q1.2 hq6) dX6_save_15 ?_
    refine j_aload_n ok dX6_save_18 rfl 0 rfl ?_
    obtain ⟨v7, hv7, h⟩ := obind h
    refine k_getR ok fl_X6_54 hv7 dX6_save_19 ?_
    refine j_iload_n ok dX6_save_22 rfl 1 rfl ?_
    refine j_iconst (v := 1) ok dX6_save_23 (by decide) ?_
    obtain ⟨G8, hG8, h⟩ := obind h
    refine j_zast ok hG8 dX6_save_24 ?_
    refine j_aload_n ok dX6_save_25 rfl 0 rfl ?_
    obtain ⟨v9, hv9, h⟩ := obind h
    refine k_getR ok fl_X6_33 hv9 dX6_save_26 ?_
    obtain ⟨v10, hv10, h⟩ := obind h
    refine k_getI ok fl_X6_174 hv10 dX6_save_29 ?_
    obtain ⟨er, eG⟩ := inj2 h
    subst er; subst eG
    exact j_iret ok rfl dX6_save_32 hK

def fX6_save (l0 : Nat) (l1 : Int32) (G : Mem) : Option ((Int32 ⊕ Nat) × Mem) := fX6_save_0 l0 l1 G
set_option maxRecDepth 100000 in
theorem tX6_save {l : Launch} (hfl : l.stackTraces = false) (V : Wd) (l0 : Nat) (l1 : Int32) (G : Mem) {r : (Int32 ⊕ Nat)} {G' : Mem} (h : fX6_save l0 l1 G = some (r, G')) : Mx l yX6_save cX6_save 2 (some .int) 9 181 V [.ref (V.B + l0), .int l1] G (rzI r) G' :=
  mx_of (L := [(0, .ref (V.B + l0)), (1, .int l1)]) hfl (by decide +kernel) (Nat.le_of_ble_eq_true rfl) rfl (fun X hl hV hin ok he => by
    subst hl; subst hV
    exact J.sub [0, 1] rfl (jX6_save_0 ok l0 l1 G h (by cases r <;> exact he)))
def fX6_truncateInput_20   (G : Mem) : Option ((Int32 ⊕ Nat) × Mem) :=
  thw 0 G

set_option maxRecDepth 100000 in
set_option maxHeartbeats 4000000 in
theorem jX6_truncateInput_20 {X : Cx} (ok : OK X cX6_truncateInput RX6 (some .int) 3 8 160)   (G : Mem) {r : (Int32 ⊕ Nat)} {G' : Mem} (h : fX6_truncateInput_20  G = some (r, G')) (hK : (finT X (finI X)) r G') : J X 3 20 [] [] G := by
  unfold fX6_truncateInput_20 at h
  obtain ⟨hcap, h⟩ := thw_some h
  obtain ⟨er, eG⟩ := inj2 h
  subst er; subst eG
  exact k_throw ok kt_X6_85 st_X6_87 dX6_truncateInput_20 dX6_truncateInput_23 dX6_truncateInput_24 dX6_truncateInput_26 dX6_truncateInput_29 hcap (by decide) (by decide) (Nat.le_of_ble_eq_true rfl) hK

def fX6_truncateInput_0 (l0 : Nat) (l1 : Int32)  (G : Mem) : Option ((Int32 ⊕ Nat) × Mem) :=
  (gR G 16 l0 0).bind fun v1 =>
  (gR G 12 v1 0).bind fun v2 =>
  if l1 < (0 : Int32) then
    fX6_truncateInput_20 G
  else
    (gF G 15 v2 0).bind fun v4 =>
    if l1 ≤ v4 then
      (pI G 15 v2 0 l1).bind fun G6 =>
      some (.inl l1, G6)
    else
      fX6_truncateInput_20 G

set_option maxRecDepth 100000 in
set_option maxHeartbeats 4000000 in
theorem jX6_truncateInput_0 {X : Cx} (ok : OK X cX6_truncateInput RX6 (some .int) 3 8 160) (l0 : Nat) (l1 : Int32)  (G : Mem) {r : (Int32 ⊕ Nat)} {G' : Mem} (h : fX6_truncateInput_0 l0 l1 G = some (r, G')) (hK : (finT X (finI X)) r G') : J X 3 0 [(0, .ref (X.B + l0)), (1, .int l1)] [] G := by
  unfold fX6_truncateInput_0 at h
  refine j_aload_n ok dX6_truncateInput_0 rfl 0 rfl ?_
  obtain ⟨v1, hv1, h⟩ := obind h
  refine k_getR ok fl_X6_12 hv1 dX6_truncateInput_1 ?_
  obtain ⟨v2, hv2, h⟩ := obind h
  refine k_getR ok fl_X6_68 hv2 dX6_truncateInput_4 ?_
  refine j_astore_n (L' := [(2, .ref (X.B + v2)), (0, .ref (X.B + l0)), (1, .int l1)]) ok dX6_truncateInput_7 rfl (by decide) rfl ?_
  refine j_iload_n ok dX6_truncateInput_8 rfl 2 rfl ?_
  rcases ite_some h with ⟨c3, h⟩ | ⟨c3, h⟩
  · refine j_if_lt (tgt := 20) ok dX6_truncateInput_9 (by decide) (fun _ => ?_) (fun z => absurd c3 z)
    exact J.sub [] rfl (jX6_truncateInput_20 ok G h hK)
  · refine j_if_lt (tgt := 20) ok dX6_truncateInput_9 (by decide) (fun z => absurd z c3) (fun _ => ?_)
    refine j_iload_n ok dX6_truncateInput_12 rfl 2 rfl ?_
    refine j_aload_n ok dX6_truncateInput_13 rfl 0 rfl ?_
    obtain ⟨v4, hv4, h⟩ := obind h
    refine k_getI ok fl_X6_82 hv4 dX6_truncateInput_14 ?_
    rcases ite_some h with ⟨c5, h⟩ | ⟨c5, h⟩
    · refine j_icmp_le (tgt := 30) ok dX6_truncateInput_17 (by decide) (fun _ => ?_) (fun z => absurd c5 z)
      refine j_aload_n ok dX6_truncateInput_30 rfl 0 rfl ?_
      refine j_iload_n ok dX6_truncateInput_31 rfl 2 rfl ?_
      obtain ⟨G6, hG6, h⟩ := obind h
      refine k_putI ok fl_X6_82 fp_X5 rfl (Or.inl rfl) hG6 dX6_truncateInput_32 ?_
      refine j_iload_n ok dX6_truncateInput_35 rfl 2 rfl ?_
      obtain ⟨er, eG⟩ := inj2 h
      subst er; subst eG
      exact j_iret ok rfl dX6_truncateInput_36 hK
    · refine j_icmp_le (tgt := 30) ok dX6_truncateInput_17 (by decide) (fun z => absurd z c5) (fun _ => ?_)
      exact J.sub [] rfl (jX6_truncateInput_20 ok G h hK)

def fX6_truncateInput (l0 : Nat) (l1 : Int32) (G : Mem) : Option ((Int32 ⊕ Nat) × Mem) := fX6_truncateInput_0 l0 l1 G
set_option maxRecDepth 100000 in
theorem tX6_truncateInput {l : Launch} (hfl : l.stackTraces = false) (V : Wd) (l0 : Nat) (l1 : Int32) (G : Mem) {r : (Int32 ⊕ Nat)} {G' : Mem} (h : fX6_truncateInput l0 l1 G = some (r, G')) : Mx l yX6_truncateInput cX6_truncateInput 3 (some .int) 8 160 V [.ref (V.B + l0), .int l1] G (rzI r) G' :=
  mx_of (L := [(0, .ref (V.B + l0)), (1, .int l1)]) hfl (by decide +kernel) (Nat.le_of_ble_eq_true rfl) rfl (fun X hl hV hin ok he => by
    subst hl; subst hV
    exact J.sub [0, 1] rfl (jX6_truncateInput_0 ok l0 l1 G h (by cases r <;> exact he)))
def fX6_undo_64 (l0 : Nat) (s0 : Nat) (s1 : Int32) (G : Mem) : Option ((Int32 ⊕ Nat) × Mem) :=
  (pI G 16 s0 6 s1).bind fun G1 =>
  (gF G1 16 l0 7).bind fun v2 =>
  (pI G1 16 l0 7 (v2 - (1 : Int32))).bind fun G3 =>
  (gR G3 16 l0 1).bind fun v4 =>
  (gR G3 16 l0 3).bind fun v5 =>
  ck G3 14 v4 <| (fX4_countContinuations v4 v5 G3).bind fun q6 =>
  (gF q6.2 16 l0 7).bind fun v7 =>
  some (.inl v7, q6.2)

set_option maxRecDepth 100000 in
set_option maxHeartbeats 4000000 in
theorem jX6_undo_64 {X : Cx} (ok : OK X cX6_undo RX6 (some .int) 2 8 160) (l0 : Nat) (s0 : Nat) (s1 : Int32) (G : Mem) {r : (Int32 ⊕ Nat)} {G' : Mem} (h : fX6_undo_64 l0 s0 s1 G = some (r, G')) (hK : (finT X (finI X)) r G') : J X 2 64 [(0, .ref (X.B + l0))] [.int s1, .ref (X.B + s0)] G := by
  unfold fX6_undo_64 at h
  obtain ⟨G1, hG1, h⟩ := obind h
  refine k_putI ok fl_X6_44 fp_X6 rfl (Or.inl rfl) hG1 dX6_undo_64 ?_
  refine j_aload_n ok dX6_undo_67 rfl 0 rfl ?_
  refine j_dup ok dX6_undo_68 rfl ?_
  obtain ⟨v2, hv2, h⟩ := obind h
  refine k_getI ok fl_X6_48 hv2 dX6_undo_69 ?_
  refine j_iconst (v := 1) ok dX6_undo_72 (by decide) ?_
  refine j_isub ok dX6_undo_73 ?_
  obtain ⟨G3, hG3, h⟩ := obind h
  refine k_putI ok fl_X6_48 fp_X6 rfl (Or.inl rfl) hG3 dX6_undo_74 ?_
  refine j_aload_n ok dX6_undo_77 rfl 0 rfl ?_
  obtain ⟨v4, hv4, h⟩ := obind h
  refine k_getR ok fl_X6_19 hv4 dX6_undo_78 ?_
  refine j_aload_n ok dX6_undo_81 rfl 0 rfl ?_
  obtain ⟨v5, hv5, h⟩ := obind h
  refine k_getR ok fl_X6_33 hv5 dX6_undo_82 ?_
  obtain ⟨kq6, h⟩ := ck_some h
  obtain ⟨q6, hq6, h⟩ := obind h
  refine k_V0 ok kl_X6_181 ⟨Nat.le_of_ble_eq_true rfl, Nat.le_of_ble_eq_true rfl⟩ [.ref (X.B + v5)] kq6 rfl rfl (Nat.le_of_ble_eq_true rfl) (tX4_countContinuations ok.fl X.V v4 v5 G3 hq6) dX6_undo_85 ?_
  refine j_aload_n ok dX6_undo_88 rfl 0 rfl ?_
  obtain ⟨v7, hv7, h⟩ := obind h
  refine k_getI ok fl_X6_48 hv7 dX6_undo_89 ?_
  obtain ⟨er, eG⟩ := inj2 h
  subst er; subst eG
  exact j_iret ok rfl dX6_undo_92 hK

def fX6_undo_0 (l0 : Nat)  (G : Mem) : Option ((Int32 ⊕ Nat) × Mem) :=
  (gF G 16 l0 7).bind fun v1 =>
  if v1 = (0 : Int32) then
    thw 1 G
  else
    (gR G 16 l0 3).bind fun v3 =>
    (gR G 16 l0 5).bind fun v4 =>
    (gF G 16 l0 6).bind fun v5 =>
    (gQ G 7 v4 v5).bind fun v6 =>
    (pR G 16 l0 3 v6).bind fun G7 =>
    (gR G7 16 l0 5).bind fun v8 =>
    (gF G7 16 l0 6).bind fun v9 =>
    (pQ G7 7 13 v8 v9 v3).bind fun G10 =>
    (gF G10 16 l0 6).bind fun v11 =>
    if v11 = (0 : Int32) then
      fX6_undo_64 l0 l0 (7 : Int32) G10
    else
      (gF G10 16 l0 6).bind fun v13 =>
      fX6_undo_64 l0 l0 (v13 - (1 : Int32)) G10

set_option maxRecDepth 100000 in
set_option maxHeartbeats 4000000 in
theorem jX6_undo_0 {X : Cx} (ok : OK X cX6_undo RX6 (some .int) 2 8 160) (l0 : Nat)  (G : Mem) {r : (Int32 ⊕ Nat)} {G' : Mem} (h : fX6_undo_0 l0 G = some (r, G')) (hK : (finT X (finI X)) r G') : J X 2 0 [(0, .ref (X.B + l0))] [] G := by
  unfold fX6_undo_0 at h
  refine j_aload_n ok dX6_undo_0 rfl 0 rfl ?_
  obtain ⟨v1, hv1, h⟩ := obind h
  refine k_getI ok fl_X6_48 hv1 dX6_undo_1 ?_
  rcases ite_some h with ⟨c2, h⟩ | ⟨c2, h⟩
  · refine j_if_ne (tgt := 17) ok dX6_undo_4 (by decide) (fun z => absurd c2 z) (fun _ => ?_)
    obtain ⟨hcap, h⟩ := thw_some h
    obtain ⟨er, eG⟩ := inj2 h
    subst er; subst eG
    exact k_throw ok kt_X6_139 st_X6_179 dX6_undo_7 dX6_undo_10 dX6_undo_11 dX6_undo_13 dX6_undo_16 hcap (by decide) (by decide) (Nat.le_of_ble_eq_true rfl) hK
  · refine j_if_ne (tgt := 17) ok dX6_undo_4 (by decide) (fun _ => ?_) (fun z => absurd z c2)
    refine j_aload_n ok dX6_undo_17 rfl 0 rfl ?_
    obtain ⟨v3, hv3, h⟩ := obind h
    refine k_getR ok fl_X6_33 hv3 dX6_undo_18 ?_
    refine j_astore_n (L' := [(1, .ref (X.B + v3)), (0, .ref (X.B + l0))]) ok dX6_undo_21 rfl (by decide) rfl ?_
    refine j_aload_n ok dX6_undo_22 rfl 1 rfl ?_
    refine j_aload_n ok dX6_undo_23 rfl 1 rfl ?_
    obtain ⟨v4, hv4, h⟩ := obind h
    refine k_getR ok fl_X6_40 hv4 dX6_undo_24 ?_
    refine j_aload_n ok dX6_undo_27 rfl 1 rfl ?_
    obtain ⟨v5, hv5, h⟩ := obind h
    refine k_getI ok fl_X6_44 hv5 dX6_undo_28 ?_
    obtain ⟨v6, hv6, h⟩ := obind h
    refine j_aald ok (Or.inr rfl) hv6 dX6_undo_31 ?_
    obtain ⟨G7, hG7, h⟩ := obind h
    refine k_putR ok fl_X6_33 fp_X6 rfl (Or.inl ⟨_, rfl⟩) (Or.inl rfl) hG7 dX6_undo_32 ?_
    refine j_aload_n ok dX6_undo_35 rfl 1 rfl ?_
    obtain ⟨v8, hv8, h⟩ := obind h
    refine k_getR ok fl_X6_40 hv8 dX6_undo_36 ?_
    refine j_aload_n ok dX6_undo_39 rfl 1 rfl ?_
    obtain ⟨v9, hv9, h⟩ := obind h
    refine k_getI ok fl_X6_44 hv9 dX6_undo_40 ?_
    refine j_aload_n ok dX6_undo_43 rfl 0 rfl ?_
    obtain ⟨G10, hG10, h⟩ := obind h
    refine j_aast ok (r := (RX0, TX0, 0)) (ci := 3) (Or.inr ⟨rfl, rfl, rfl⟩) hG10 dX6_undo_44 ?_
    refine j_aload_n ok dX6_undo_45 rfl 1 rfl ?_
    refine j_aload_n ok dX6_undo_46 rfl 1 rfl ?_
    obtain ⟨v11, hv11, h⟩ := obind h
    refine k_getI ok fl_X6_44 hv11 dX6_undo_47 ?_
    rcases ite_some h with ⟨c12, h⟩ | ⟨c12, h⟩
    · refine j_if_ne (tgt := 58) ok dX6_undo_50 (by decide) (fun z => absurd c12 z) (fun _ => ?_)
      refine j_bipush (v := 7) ok dX6_undo_53 (by decide) ?_
      refine j_goto (tgt := 64) ok dX6_undo_55 (by decide) ?_
      exact J.sub [1] rfl (jX6_undo_64 ok l0 l0 (7 : Int32) G10 h hK)
    · refine j_if_ne (tgt := 58) ok dX6_undo_50 (by decide) (fun _ => ?_) (fun z => absurd z c12)
      refine j_aload_n ok dX6_undo_58 rfl 1 rfl ?_
      obtain ⟨v13, hv13, h⟩ := obind h
      refine k_getI ok fl_X6_44 hv13 dX6_undo_59 ?_
      refine j_iconst (v := 1) ok dX6_undo_62 (by decide) ?_
      refine j_isub ok dX6_undo_63 ?_
      exact J.sub [1] rfl (jX6_undo_64 ok l0 l0 (v13 - (1 : Int32)) G10 h hK)

def fX6_undo (l0 : Nat) (G : Mem) : Option ((Int32 ⊕ Nat) × Mem) := fX6_undo_0 l0 G
set_option maxRecDepth 100000 in
theorem tX6_undo {l : Launch} (hfl : l.stackTraces = false) (V : Wd) (l0 : Nat) (G : Mem) {r : (Int32 ⊕ Nat)} {G' : Mem} (h : fX6_undo l0 G = some (r, G')) : Mx l yX6_undo cX6_undo 2 (some .int) 8 160 V [.ref (V.B + l0)] G (rzI r) G' :=
  mx_of (L := [(0, .ref (V.B + l0))]) hfl (by decide +kernel) (Nat.le_of_ble_eq_true rfl) rfl (fun X hl hV hin ok he => by
    subst hl; subst hV
    exact J.sub [0] rfl (jX6_undo_0 ok l0 G h (by cases r <;> exact he)))
def fX6_undoableChanges_0 (l0 : Nat)  (G : Mem) : Option (Int32 × Mem) :=
  (gF G 16 l0 7).bind fun v1 =>
  some (v1, G)

set_option maxRecDepth 100000 in
set_option maxHeartbeats 4000000 in
theorem jX6_undoableChanges_0 {X : Cx} (ok : OK X cX6_undoableChanges RX6 (some .int) 1 0 0) (l0 : Nat)  (G : Mem) {r : Int32} {G' : Mem} (h : fX6_undoableChanges_0 l0 G = some (r, G')) (hK : (finI X) r G') : J X 1 0 [(0, .ref (X.B + l0))] [] G := by
  unfold fX6_undoableChanges_0 at h
  refine j_aload_n ok dX6_undoableChanges_0 rfl 0 rfl ?_
  obtain ⟨v1, hv1, h⟩ := obind h
  refine k_getI ok fl_X6_48 hv1 dX6_undoableChanges_1 ?_
  obtain ⟨er, eG⟩ := inj2 h
  subst er; subst eG
  exact j_iret ok rfl dX6_undoableChanges_4 hK

def fX6_undoableChanges (l0 : Nat) (G : Mem) : Option (Int32 × Mem) := fX6_undoableChanges_0 l0 G
set_option maxRecDepth 100000 in
theorem tX6_undoableChanges {l : Launch} (hfl : l.stackTraces = false) (V : Wd) (l0 : Nat) (G : Mem) {r : Int32} {G' : Mem} (h : fX6_undoableChanges l0 G = some (r, G')) : Mx l yX6_undoableChanges cX6_undoableChanges 1 (some .int) 0 0 V [.ref (V.B + l0)] G (.inl (some (.int r))) G' :=
  mx_of (L := [(0, .ref (V.B + l0))]) hfl (by decide +kernel) (Nat.le_of_ble_eq_true rfl) rfl (fun X hl hV hin ok he => by
    subst hl; subst hV
    exact J.sub [0] rfl (jX6_undoableChanges_0 ok l0 G h he))
def fX6_writeByte_30   (G : Mem) : Option (Unit × Mem) :=
  some ((), G)

set_option maxRecDepth 100000 in
set_option maxHeartbeats 4000000 in
theorem jX6_writeByte_30 {X : Cx} (ok : OK X cX6_writeByte RX6 none 2 0 0)   (G : Mem) {r : Unit} {G' : Mem} (h : fX6_writeByte_30  G = some (r, G')) (hK : (finV X) r G') : J X 2 30 [] [] G := by
  unfold fX6_writeByte_30 at h
  obtain ⟨er, eG⟩ := inj2 h
  subst er; subst eG
  exact j_vret ok rfl dX6_writeByte_30 hK

def fX6_writeByte_0 (l0 : Nat) (l1 : Int32)  (G : Mem) : Option (Unit × Mem) :=
  (gF G 16 l0 11).bind fun v1 =>
  (gR G 16 l0 10).bind fun v2 =>
  (gL G v2).bind fun v3 =>
  if v3 ≤ v1 then
    fX6_writeByte_30 G
  else
    (gR G 16 l0 10).bind fun v5 =>
    (gF G 16 l0 11).bind fun v6 =>
    (pI G 16 l0 11 (v6 + (1 : Int32))).bind fun G7 =>
    (pB G7 v5 v6 (l1.toInt8.toInt32)).bind fun G8 =>
    fX6_writeByte_30 G8

set_option maxRecDepth 100000 in
set_option maxHeartbeats 4000000 in
theorem jX6_writeByte_0 {X : Cx} (ok : OK X cX6_writeByte RX6 none 2 0 0) (l0 : Nat) (l1 : Int32)  (G : Mem) {r : Unit} {G' : Mem} (h : fX6_writeByte_0 l0 l1 G = some (r, G')) (hK : (finV X) r G') : J X 2 0 [(0, .ref (X.B + l0)), (1, .int l1)] [] G := by
  unfold fX6_writeByte_0 at h
  refine j_aload_n ok dX6_writeByte_0 rfl 0 rfl ?_
  obtain ⟨v1, hv1, h⟩ := obind h
  refine k_getI ok fl_X6_62 hv1 dX6_writeByte_1 ?_
  refine j_aload_n ok dX6_writeByte_4 rfl 0 rfl ?_
  obtain ⟨v2, hv2, h⟩ := obind h
  refine k_getR ok fl_X6_58 hv2 dX6_writeByte_5 ?_
  obtain ⟨v3, hv3, h⟩ := obind h
  refine j_alen ok hv3 dX6_writeByte_8 ?_
  rcases ite_some h with ⟨c4, h⟩ | ⟨c4, h⟩
  · refine j_icmp_ge (tgt := 30) ok dX6_writeByte_9 (by decide) (fun _ => ?_) (fun z => absurd c4 z)
    exact J.sub [] rfl (jX6_writeByte_30 ok G h hK)
  · refine j_icmp_ge (tgt := 30) ok dX6_writeByte_9 (by decide) (fun z => absurd z c4) (fun _ => ?_)
    refine j_aload_n ok dX6_writeByte_12 rfl 0 rfl ?_
    obtain ⟨v5, hv5, h⟩ := obind h
    refine k_getR ok fl_X6_58 hv5 dX6_writeByte_13 ?_
    refine j_aload_n ok dX6_writeByte_16 rfl 0 rfl ?_
    refine j_dup ok dX6_writeByte_17 rfl ?_
    obtain ⟨v6, hv6, h⟩ := obind h
    refine k_getI ok fl_X6_62 hv6 dX6_writeByte_18 ?_
    refine j_dup_x1 ok dX6_writeByte_21 rfl rfl ?_
    refine j_iconst (v := 1) ok dX6_writeByte_22 (by decide) ?_
    refine j_iadd ok dX6_writeByte_23 ?_
    obtain ⟨G7, hG7, h⟩ := obind h
    refine k_putI ok fl_X6_62 fp_X6 rfl (Or.inl rfl) hG7 dX6_writeByte_24 ?_
    refine j_iload_n ok dX6_writeByte_27 rfl 1 rfl ?_
    refine j_i2b ok dX6_writeByte_28 ?_
    obtain ⟨G8, hG8, h⟩ := obind h
    refine j_bast ok hG8 dX6_writeByte_29 ?_
    exact J.sub [] rfl (jX6_writeByte_30 ok G8 h hK)

def fX6_writeByte (l0 : Nat) (l1 : Int32) (G : Mem) : Option (Unit × Mem) := fX6_writeByte_0 l0 l1 G
set_option maxRecDepth 100000 in
theorem tX6_writeByte {l : Launch} (hfl : l.stackTraces = false) (V : Wd) (l0 : Nat) (l1 : Int32) (G : Mem) {r : Unit} {G' : Mem} (h : fX6_writeByte l0 l1 G = some (r, G')) : Mx l yX6_writeByte cX6_writeByte 2 none 0 0 V [.ref (V.B + l0), .int l1] G (.inl none) G' :=
  mx_of (L := [(0, .ref (V.B + l0)), (1, .int l1)]) hfl (by decide +kernel) (Nat.le_of_ble_eq_true rfl) rfl (fun X hl hV hin ok he => by
    subst hl; subst hV
    exact J.sub [0, 1] rfl (jX6_writeByte_0 ok l0 l1 G h he))
def fX6_writePosition_85 (l0 : Nat)  (G : Mem) : Option ((Int32 ⊕ Nat) × Mem) :=
  (gF G 16 l0 11).bind fun v1 =>
  some (.inl v1, G)

set_option maxRecDepth 100000 in
set_option maxHeartbeats 4000000 in
theorem jX6_writePosition_85 {X : Cx} (ok : OK X cX6_writePosition RX6 (some .int) 5 9 181) (l0 : Nat)  (G : Mem) {r : (Int32 ⊕ Nat)} {G' : Mem} (h : fX6_writePosition_85 l0 G = some (r, G')) (hK : (finT X (finI X)) r G') : J X 5 85 [(0, .ref (X.B + l0))] [] G := by
  unfold fX6_writePosition_85 at h
  refine j_aload_n ok dX6_writePosition_85 rfl 0 rfl ?_
  obtain ⟨v1, hv1, h⟩ := obind h
  refine k_getI ok fl_X6_62 hv1 dX6_writePosition_86 ?_
  obtain ⟨er, eG⟩ := inj2 h
  subst er; subst eG
  exact j_iret ok rfl dX6_writePosition_89 hK

def fX6_writePosition_79 (l0 : Nat) (l1 : Int32) (l2 : Nat) (l3 : Int32)  (G : Mem) : Option (((Int32) ⊕ (Int32 ⊕ Nat)) × Mem) :=
  some (.inl ((l3 + (-1 : Int32))), G)

set_option maxRecDepth 100000 in
set_option maxHeartbeats 4000000 in
theorem jX6_writePosition_79 {X : Cx} (ok : OK X cX6_writePosition RX6 (some .int) 5 9 181) (l0 : Nat) (l1 : Int32) (l2 : Nat) (l3 : Int32)  (G : Mem) {r : ((Int32) ⊕ (Int32 ⊕ Nat))} {G' : Mem} (h : fX6_writePosition_79 l0 l1 l2 l3 G = some (r, G')) (hK : (finL X 5 25 (fun s : Int32 => [(0, .ref (X.B + l0)), (1, .int l1), (2, .ref (X.B + l2)), (3, .int s)]) (finT X (finI X))) r G') : J X 5 79 [(0, .ref (X.B + l0)), (1, .int l1), (2, .ref (X.B + l2)), (3, .int l3)] [] G := by
  unfold fX6_writePosition_79 at h
  refine j_iinc (L' := [(3, .int (l3 + (-1 : Int32))), (0, .ref (X.B + l0)), (1, .int l1), (2, .ref (X.B + l2))]) (v := (l3 + (-1 : Int32))) ok dX6_writePosition_79 (q := 3) rfl rfl (by decide) rfl ?_
  refine j_goto (tgt := 25) ok dX6_writePosition_82 (by decide) ?_
  obtain ⟨er, eG⟩ := inj2 h
  subst er; subst eG
  have hJ : J X 5 25 [(0, .ref (X.B + l0)), (1, .int l1), (2, .ref (X.B + l2)), (3, .int (l3 + (-1 : Int32)))] [] G := hK
  exact J.sub [1, 2, 3, 0] rfl hJ

def fX6_writePosition_69 (l0 : Nat) (l1 : Int32) (l2 : Nat) (l3 : Int32)  (G : Mem) : Option (((Int32) ⊕ (Int32 ⊕ Nat)) × Mem) :=
  if l3 ≤ (0 : Int32) then
    fX6_writePosition_79 l0 l1 l2 l3 G
  else
    ck G 16 l0 <| (fX6_writeByte l0 (10 : Int32) G).bind fun q2 =>
    fX6_writePosition_79 l0 l1 l2 l3 q2.2

set_option maxRecDepth 100000 in
set_option maxHeartbeats 4000000 in
theorem jX6_writePosition_69 {X : Cx} (ok : OK X cX6_writePosition RX6 (some .int) 5 9 181) (l0 : Nat) (l1 : Int32) (l2 : Nat) (l3 : Int32)  (G : Mem) {r : ((Int32) ⊕ (Int32 ⊕ Nat))} {G' : Mem} (h : fX6_writePosition_69 l0 l1 l2 l3 G = some (r, G')) (hK : (finL X 5 25 (fun s : Int32 => [(0, .ref (X.B + l0)), (1, .int l1), (2, .ref (X.B + l2)), (3, .int s)]) (finT X (finI X))) r G') : J X 5 69 [(0, .ref (X.B + l0)), (1, .int l1), (2, .ref (X.B + l2)), (3, .int l3)] [] G := by
  unfold fX6_writePosition_69 at h
  refine j_iload_n ok dX6_writePosition_69 rfl 3 rfl ?_
  rcases ite_some h with ⟨c1, h⟩ | ⟨c1, h⟩
  · refine j_if_le (tgt := 79) ok dX6_writePosition_70 (by decide) (fun _ => ?_) (fun z => absurd c1 z)
    exact J.sub [0, 1, 2, 3] rfl (jX6_writePosition_79 ok l0 l1 l2 l3 G h hK)
  · refine j_if_le (tgt := 79) ok dX6_writePosition_70 (by decide) (fun z => absurd z c1) (fun _ => ?_)
    refine j_aload_n ok dX6_writePosition_73 rfl 0 rfl ?_
    refine j_bipush (v := 10) ok dX6_writePosition_74 (by decide) ?_
    obtain ⟨kq2, h⟩ := ck_some h
    obtain ⟨q2, hq2, h⟩ := obind h
    refine k_V0 ok kl_X6_312 ⟨Nat.le_of_ble_eq_true rfl, Nat.le_of_ble_eq_true rfl⟩ [.int (10 : Int32)] kq2 rfl rfl (Nat.le_of_ble_eq_true rfl) (tX6_writeByte ok.fl X.V l0 (10 : Int32) G hq2) dX6_writePosition_76 ?_
    exact J.sub [0, 1, 2, 3] rfl (jX6_writePosition_79 ok l0 l1 l2 l3 q2.2 h hK)

def fX6_writePosition_32 (l0 : Nat) (l1 : Int32) (l2 : Nat) (l3 : Int32) (l4 : Int32)  (G : Mem) : Option (((Int32) ⊕ ((Int32) ⊕ (Int32 ⊕ Nat))) × Mem) :=
  (gF G 10 l2 0).bind fun v1 =>
  if v1 ≤ l4 then
    liftE (fX6_writePosition_69 l0 l1 l2 l3 G)
  else
    (gR G 16 l0 3).bind fun v3 =>
    ck G 10 l2 <| (fX0_squareOf l2 l4 l3 G).bind fun q4 =>
    ck q4.2 13 v3 <| (fX3_contentAt v3 l1 q4.1 q4.2).bind fun q5 =>
    (fX6_letterOf q5.1 q5.2).bind fun q6 =>
    ck q6.2 16 l0 <| (fX6_writeByte l0 q6.1 q6.2).bind fun q7 =>
    some (.inl ((l4 + (1 : Int32))), q7.2)

set_option maxRecDepth 100000 in
set_option maxHeartbeats 4000000 in
theorem jX6_writePosition_32 {X : Cx} (ok : OK X cX6_writePosition RX6 (some .int) 5 9 181) (l0 : Nat) (l1 : Int32) (l2 : Nat) (l3 : Int32) (l4 : Int32)  (G : Mem) {r : ((Int32) ⊕ ((Int32) ⊕ (Int32 ⊕ Nat)))} {G' : Mem} (h : fX6_writePosition_32 l0 l1 l2 l3 l4 G = some (r, G')) (hK : (finL X 5 32 (fun s : Int32 => [(0, .ref (X.B + l0)), (1, .int l1), (2, .ref (X.B + l2)), (3, .int l3), (4, .int s)]) (finL X 5 25 (fun s : Int32 => [(0, .ref (X.B + l0)), (1, .int l1), (2, .ref (X.B + l2)), (3, .int s)]) (finT X (finI X)))) r G') : J X 5 32 [(0, .ref (X.B + l0)), (1, .int l1), (2, .ref (X.B + l2)), (3, .int l3), (4, .int l4)] [] G := by
  unfold fX6_writePosition_32 at h
  refine j_iload ok dX6_writePosition_32 4 rfl ?_
  refine j_aload_n ok dX6_writePosition_34 rfl 2 rfl ?_
  obtain ⟨v1, hv1, h⟩ := obind h
  refine k_getI ok fl_X6_150 hv1 dX6_writePosition_35 ?_
  rcases ite_some h with ⟨c2, h⟩ | ⟨c2, h⟩
  · refine j_icmp_ge (tgt := 69) ok dX6_writePosition_38 (by decide) (fun _ => ?_) (fun z => absurd c2 z)
    obtain ⟨r1, e1, h1⟩ := lift_some h
    subst e1
    exact J.sub [0, 1, 2, 3] rfl (jX6_writePosition_69 ok l0 l1 l2 l3 G h1 hK)
  · refine j_icmp_ge (tgt := 69) ok dX6_writePosition_38 (by decide) (fun z => absurd z c2) (fun _ => ?_)
    refine j_aload_n ok dX6_writePosition_41 rfl 0 rfl ?_
    refine j_aload_n ok dX6_writePosition_42 rfl 0 rfl ?_
    obtain ⟨v3, hv3, h⟩ := obind h
    refine k_getR ok fl_X6_33 hv3 dX6_writePosition_43 ?_
    refine j_iload_n ok dX6_writePosition_46 rfl 1 rfl ?_
    refine j_aload_n ok dX6_writePosition_47 rfl 2 rfl ?_
    refine j_iload ok dX6_writePosition_48 4 rfl ?_
    refine j_iload_n ok dX6_writePosition_50 rfl 3 rfl ?_
    obtain ⟨kq4, h⟩ := ck_some h
    obtain ⟨q4, hq4, h⟩ := obind h
    refine k_V1 ok kl_X6_231 ⟨Nat.le_of_ble_eq_true rfl, Nat.le_of_ble_eq_true rfl⟩ [.int l4, .int l3] kq4 rfl rfl (Nat.le_of_ble_eq_true rfl) (tX0_squareOf ok.fl X.V l2 l4 l3 G hq4) dX6_writePosition_51 ?_
    obtain ⟨kq5, h⟩ := ck_some h
    obtain ⟨q5, hq5, h⟩ := obind h
    refine k_V1 ok kl_X6_235 ⟨Nat.le_of_ble_eq_true rfl, Nat.le_of_ble_eq_true rfl⟩ [.int l1, .int q4.1] kq5 rfl rfl (Nat.le_of_ble_eq_true rfl) (tX3_contentAt ok.fl X.V v3 l1 q4.1 q4.2 hq5) dX6_writePosition_54 ?_
    obtain ⟨q6, hq6, h⟩ := obind h
    refine k_S1 ok kl_X6_309 ⟨Nat.le_of_ble_eq_true rfl, Nat.le_of_ble_eq_true rfl⟩ [.int q5.1] rfl rfl (Nat.le_of_ble_eq_true rfl) (tX6_letterOf ok.fl X.V q5.1 q5.2 hq6) dX6_writePosition_57 ?_
    obtain ⟨kq7, h⟩ := ck_some h
    obtain ⟨q7, hq7, h⟩ := obind h
    refine k_V0 ok kl_X6_312 ⟨Nat.le_of_ble_eq_true rfl, Nat.le_of_ble_eq_true rfl⟩ [.int q6.1] kq7 rfl rfl (Nat.le_of_ble_eq_true rfl) (tX6_writeByte ok.fl X.V l0 q6.1 q6.2 hq7) dX6_writePosition_60 ?_
    refine j_iinc (L' := [(4, .int (l4 + (1 : Int32))), (0, .ref (X.B + l0)), (1, .int l1), (2, .ref (X.B + l2)), (3, .int l3)]) (v := (l4 + (1 : Int32))) ok dX6_writePosition_63 (q := 4) rfl rfl (by decide) rfl ?_
    refine j_goto (tgt := 32) ok dX6_writePosition_66 (by decide) ?_
    obtain ⟨er, eG⟩ := inj2 h
    subst er; subst eG
    have hJ : J X 5 32 [(0, .ref (X.B + l0)), (1, .int l1), (2, .ref (X.B + l2)), (3, .int l3), (4, .int (l4 + (1 : Int32)))] [] q7.2 := hK
    exact J.sub [1, 2, 3, 4, 0] rfl hJ

def fX6_writePosition_25 (l0 : Nat) (l1 : Int32) (l2 : Nat) (l3 : Int32)  (G : Mem) : Option (((Int32) ⊕ (Int32 ⊕ Nat)) × Mem) :=
  if l3 < (0 : Int32) then
    liftE (fX6_writePosition_85 l0 G)
  else
    loopM (fun (s : Int32) G => fX6_writePosition_32 l0 l1 l2 l3 s G) FU ((0 : Int32)) G

set_option maxRecDepth 100000 in
set_option maxHeartbeats 4000000 in
theorem jX6_writePosition_25 {X : Cx} (ok : OK X cX6_writePosition RX6 (some .int) 5 9 181) (l0 : Nat) (l1 : Int32) (l2 : Nat) (l3 : Int32)  (G : Mem) {r : ((Int32) ⊕ (Int32 ⊕ Nat))} {G' : Mem} (h : fX6_writePosition_25 l0 l1 l2 l3 G = some (r, G')) (hK : (finL X 5 25 (fun s : Int32 => [(0, .ref (X.B + l0)), (1, .int l1), (2, .ref (X.B + l2)), (3, .int s)]) (finT X (finI X))) r G') : J X 5 25 [(0, .ref (X.B + l0)), (1, .int l1), (2, .ref (X.B + l2)), (3, .int l3)] [] G := by
  unfold fX6_writePosition_25 at h
  refine j_iload_n ok dX6_writePosition_25 rfl 3 rfl ?_
  rcases ite_some h with ⟨c1, h⟩ | ⟨c1, h⟩
  · refine j_if_lt (tgt := 85) ok dX6_writePosition_26 (by decide) (fun _ => ?_) (fun z => absurd c1 z)
    obtain ⟨r1, e1, h1⟩ := lift_some h
    subst e1
    exact J.sub [0] rfl (jX6_writePosition_85 ok l0 G h1 hK)
  · refine j_if_lt (tgt := 85) ok dX6_writePosition_26 (by decide) (fun z => absurd z c1) (fun _ => ?_)
    refine j_iconst (v := 0) ok dX6_writePosition_29 (by decide) ?_
    refine j_istore (L' := [(4, .int (0 : Int32)), (0, .ref (X.B + l0)), (1, .int l1), (2, .ref (X.B + l2)), (3, .int l3)]) ok dX6_writePosition_30 (by decide) rfl ?_
    have hJ : J X 5 32 [(0, .ref (X.B + l0)), (1, .int l1), (2, .ref (X.B + l2)), (3, .int l3), (4, .int (0 : Int32))] [] G := j_loop (loc := fun s : Int32 => [(0, .ref (X.B + l0)), (1, .int l1), (2, .ref (X.B + l2)), (3, .int l3), (4, .int s)]) (F := (finL X 5 25 (fun s : Int32 => [(0, .ref (X.B + l0)), (1, .int l1), (2, .ref (X.B + l2)), (3, .int s)]) (finT X (finI X)))) (fun s G r G' hb hk => jX6_writePosition_32 ok l0 l1 l2 l3 s G hb hk) _ _ _ _ _ h hK
    exact J.sub [1, 2, 3, 4, 0] rfl hJ

def fX6_writePosition_0 (l0 : Nat) (l1 : Int32)  (G : Mem) : Option ((Int32 ⊕ Nat) × Mem) :=
  ck G 16 l0 <| (fX6_requirePosition l0 l1 G).bind fun q1 => thr q1.1 (fun v2 =>
    (gR q1.2 16 l0 3).bind fun v3 =>
    (gR q1.2 13 v3 0).bind fun v4 =>
    (pI q1.2 16 l0 11 (0 : Int32)).bind fun G5 =>
    (gF G5 10 v4 1).bind fun v6 =>
    loopM (fun (s : Int32) G => fX6_writePosition_25 l0 l1 v4 s G) FU ((v6 - (1 : Int32))) G5) q1.2

set_option maxRecDepth 100000 in
set_option maxHeartbeats 4000000 in
theorem jX6_writePosition_0 {X : Cx} (ok : OK X cX6_writePosition RX6 (some .int) 5 9 181) (l0 : Nat) (l1 : Int32)  (G : Mem) {r : (Int32 ⊕ Nat)} {G' : Mem} (h : fX6_writePosition_0 l0 l1 G = some (r, G')) (hK : (finT X (finI X)) r G') : J X 5 0 [(0, .ref (X.B + l0)), (1, .int l1)] [] G := by
  unfold fX6_writePosition_0 at h
  refine j_aload_n ok dX6_writePosition_0 rfl 0 rfl ?_
  refine j_iload_n ok dX6_writePosition_1 rfl 1 rfl ?_
  obtain ⟨kq1, h⟩ := ck_some h
  obtain ⟨q1, hq1, h⟩ := obind h
  cases eq1 : q1.1 with
  | inr v2 =>
    rw [eq1] at h; dsimp only [thr] at h
    obtain ⟨er, eG⟩ := inj2 h
    subst er; subst eG
    exact k_VX ok kl_X6_224 ⟨Nat.le_of_ble_eq_true rfl, Nat.le_of_ble_eq_true rfl⟩ [.int l1] kq1 rfl rfl (Nat.le_of_ble_eq_true rfl) (by have z := tX6_requirePosition ok.fl X.V l0 l1 G hq1; rw [eq1] at z; exact z) dX6_writePosition_2 hK
  | inl v2 =>
    rw [eq1] at h; dsimp only [thr] at h
    refine k_V0 ok kl_X6_224 ⟨Nat.le_of_ble_eq_true rfl, Nat.le_of_ble_eq_true rfl⟩ [.int l1] kq1 rfl rfl (Nat.le_of_ble_eq_true rfl) (by have z := tX6_requirePosition ok.fl X.V l0 l1 G hq1; rw [eq1] at z; exact z) dX6_writePosition_2 ?_
    refine j_aload_n ok dX6_writePosition_5 rfl 0 rfl ?_
    obtain ⟨v3, hv3, h⟩ := obind h
    refine k_getR ok fl_X6_33 hv3 dX6_writePosition_6 ?_
    obtain ⟨v4, hv4, h⟩ := obind h
    refine k_getR ok fl_X6_95 hv4 dX6_writePosition_9 ?_
    refine j_astore_n (L' := [(2, .ref (X.B + v4)), (0, .ref (X.B + l0)), (1, .int l1)]) ok dX6_writePosition_12 rfl (by decide) rfl ?_
    refine j_aload_n ok dX6_writePosition_13 rfl 1 rfl ?_
    refine j_iconst (v := 0) ok dX6_writePosition_14 (by decide) ?_
    obtain ⟨G5, hG5, h⟩ := obind h
    refine k_putI ok fl_X6_62 fp_X6 rfl (Or.inl rfl) hG5 dX6_writePosition_15 ?_
    refine j_aload_n ok dX6_writePosition_18 rfl 0 rfl ?_
    obtain ⟨v6, hv6, h⟩ := obind h
    refine k_getI ok fl_X6_159 hv6 dX6_writePosition_19 ?_
    refine j_iconst (v := 1) ok dX6_writePosition_22 (by decide) ?_
    refine j_isub ok dX6_writePosition_23 ?_
    refine j_istore_n (L' := [(3, .int (v6 - (1 : Int32))), (2, .ref (X.B + v4)), (0, .ref (X.B + l0)), (1, .int l1)]) ok dX6_writePosition_24 rfl (by decide) rfl ?_
    have hJ : J X 5 25 [(0, .ref (X.B + l0)), (1, .int l1), (2, .ref (X.B + v4)), (3, .int (v6 - (1 : Int32)))] [] G5 := j_loop (loc := fun s : Int32 => [(0, .ref (X.B + l0)), (1, .int l1), (2, .ref (X.B + v4)), (3, .int s)]) (F := (finT X (finI X))) (fun s G r G' hb hk => jX6_writePosition_25 ok l0 l1 v4 s G hb hk) _ _ _ _ _ h hK
    exact J.sub [2, 3, 1, 0] rfl hJ

def fX6_writePosition (l0 : Nat) (l1 : Int32) (G : Mem) : Option ((Int32 ⊕ Nat) × Mem) := fX6_writePosition_0 l0 l1 G
set_option maxRecDepth 100000 in
theorem tX6_writePosition {l : Launch} (hfl : l.stackTraces = false) (V : Wd) (l0 : Nat) (l1 : Int32) (G : Mem) {r : (Int32 ⊕ Nat)} {G' : Mem} (h : fX6_writePosition l0 l1 G = some (r, G')) : Mx l yX6_writePosition cX6_writePosition 5 (some .int) 9 181 V [.ref (V.B + l0), .int l1] G (rzI r) G' :=
  mx_of (L := [(0, .ref (V.B + l0)), (1, .int l1)]) hfl (by decide +kernel) (Nat.le_of_ble_eq_true rfl) rfl (fun X hl hV hin ok he => by
    subst hl; subst hV
    exact J.sub [0, 1] rfl (jX6_writePosition_0 ok l0 l1 G h (by cases r <;> exact he)))
def fX7_isIn_15  (s0 : Int32) (G : Mem) : Option (Int32 × Mem) :=
  rz s0 <|
  some (s0, G)

set_option maxRecDepth 100000 in
set_option maxHeartbeats 4000000 in
theorem jX7_isIn_15 {X : Cx} (ok : OK X cX7_isIn RX7 (some .boolean) 3 0 0)  (s0 : Int32) (G : Mem) {r : Int32} {G' : Mem} (h : fX7_isIn_15 s0 G = some (r, G')) (hK : (finI X) r G') : J X 3 15 [] [.int s0] G := by
  unfold fX7_isIn_15 at h
  obtain ⟨hz1, h⟩ := rz_some h
  obtain ⟨er, eG⟩ := inj2 h
  subst er; subst eG
  exact j_zret ok rfl hz1 dX7_isIn_15 hK

def fX7_isIn_14   (G : Mem) : Option (Int32 × Mem) :=
  fX7_isIn_15 (0 : Int32) G

set_option maxRecDepth 100000 in
set_option maxHeartbeats 4000000 in
theorem jX7_isIn_14 {X : Cx} (ok : OK X cX7_isIn RX7 (some .boolean) 3 0 0)   (G : Mem) {r : Int32} {G' : Mem} (h : fX7_isIn_14  G = some (r, G')) (hK : (finI X) r G') : J X 3 14 [] [] G := by
  unfold fX7_isIn_14 at h
  refine j_iconst (v := 0) ok dX7_isIn_14 (by decide) ?_
  exact J.sub [] rfl (jX7_isIn_15 ok (0 : Int32) G h hK)

def fX7_isIn_0 (l0 : Int32) (l1 : Int32) (l2 : Int32)  (G : Mem) : Option (Int32 × Mem) :=
  if l0 < l1 then
    fX7_isIn_14 G
  else
    if l2 < l0 then
      fX7_isIn_14 G
    else
      fX7_isIn_15 (1 : Int32) G

set_option maxRecDepth 100000 in
set_option maxHeartbeats 4000000 in
theorem jX7_isIn_0 {X : Cx} (ok : OK X cX7_isIn RX7 (some .boolean) 3 0 0) (l0 : Int32) (l1 : Int32) (l2 : Int32)  (G : Mem) {r : Int32} {G' : Mem} (h : fX7_isIn_0 l0 l1 l2 G = some (r, G')) (hK : (finI X) r G') : J X 3 0 [(0, .int l0), (1, .int l1), (2, .int l2)] [] G := by
  unfold fX7_isIn_0 at h
  refine j_iload_n ok dX7_isIn_0 rfl 0 rfl ?_
  refine j_iload_n ok dX7_isIn_1 rfl 1 rfl ?_
  rcases ite_some h with ⟨c1, h⟩ | ⟨c1, h⟩
  · refine j_icmp_lt (tgt := 14) ok dX7_isIn_2 (by decide) (fun _ => ?_) (fun z => absurd c1 z)
    exact J.sub [] rfl (jX7_isIn_14 ok G h hK)
  · refine j_icmp_lt (tgt := 14) ok dX7_isIn_2 (by decide) (fun z => absurd z c1) (fun _ => ?_)
    refine j_iload_n ok dX7_isIn_5 rfl 0 rfl ?_
    refine j_iload_n ok dX7_isIn_6 rfl 2 rfl ?_
    rcases ite_some h with ⟨c2, h⟩ | ⟨c2, h⟩
    · refine j_icmp_gt (tgt := 14) ok dX7_isIn_7 (by decide) (fun _ => ?_) (fun z => absurd c2 z)
      exact J.sub [] rfl (jX7_isIn_14 ok G h hK)
    · refine j_icmp_gt (tgt := 14) ok dX7_isIn_7 (by decide) (fun z => absurd z c2) (fun _ => ?_)
      refine j_iconst (v := 1) ok dX7_isIn_10 (by decide) ?_
      refine j_goto (tgt := 15) ok dX7_isIn_11 (by decide) ?_
      exact J.sub [] rfl (jX7_isIn_15 ok (1 : Int32) G h hK)

def fX7_isIn (l0 : Int32) (l1 : Int32) (l2 : Int32) (G : Mem) : Option (Int32 × Mem) := fX7_isIn_0 l0 l1 l2 G
set_option maxRecDepth 100000 in
theorem tX7_isIn {l : Launch} (hfl : l.stackTraces = false) (V : Wd) (l0 : Int32) (l1 : Int32) (l2 : Int32) (G : Mem) {r : Int32} {G' : Mem} (h : fX7_isIn l0 l1 l2 G = some (r, G')) : Mx l yX7_isIn cX7_isIn 3 (some .boolean) 0 0 V [.int l0, .int l1, .int l2] G (.inl (some (.int r))) G' :=
  mx_of (L := [(0, .int l0), (1, .int l1), (2, .int l2)]) hfl (by decide +kernel) (Nat.le_of_ble_eq_true rfl) rfl (fun X hl hV hin ok he => by
    subst hl; subst hV
    exact J.sub [0, 1, 2] rfl (jX7_isIn_0 ok l0 l1 l2 G h he))
def fX7_isStated_0 (l0 : Int32) (l1 : Int32)  (G : Mem) : Option (Int32 × Mem) :=
  (fX7_isIn l0 (-1 : Int32) l1 G).bind fun q1 =>
  rz q1.1 <|
  some (q1.1, q1.2)

set_option maxRecDepth 100000 in
set_option maxHeartbeats 4000000 in
theorem jX7_isStated_0 {X : Cx} (ok : OK X cX7_isStated RX7 (some .boolean) 2 1 22) (l0 : Int32) (l1 : Int32)  (G : Mem) {r : Int32} {G' : Mem} (h : fX7_isStated_0 l0 l1 G = some (r, G')) (hK : (finI X) r G') : J X 2 0 [(0, .int l0), (1, .int l1)] [] G := by
  unfold fX7_isStated_0 at h
  refine j_iload_n ok dX7_isStated_0 rfl 0 rfl ?_
  refine j_iconst (v := -1) ok dX7_isStated_1 (by decide) ?_
  refine j_iload_n ok dX7_isStated_2 rfl 1 rfl ?_
  obtain ⟨q1, hq1, h⟩ := obind h
  refine k_S1 ok kl_X7_182 ⟨Nat.le_of_ble_eq_true rfl, Nat.le_of_ble_eq_true rfl⟩ [.int l0, .int (-1 : Int32), .int l1] rfl rfl (Nat.le_of_ble_eq_true rfl) (tX7_isIn ok.fl X.V l0 (-1 : Int32) l1 G hq1) dX7_isStated_3 ?_
  obtain ⟨hz2, h⟩ := rz_some h
  obtain ⟨er, eG⟩ := inj2 h
  subst er; subst eG
  exact j_zret ok rfl hz2 dX7_isStated_6 hK

def fX7_isStated (l0 : Int32) (l1 : Int32) (G : Mem) : Option (Int32 × Mem) := fX7_isStated_0 l0 l1 G
set_option maxRecDepth 100000 in
theorem tX7_isStated {l : Launch} (hfl : l.stackTraces = false) (V : Wd) (l0 : Int32) (l1 : Int32) (G : Mem) {r : Int32} {G' : Mem} (h : fX7_isStated l0 l1 G = some (r, G')) : Mx l yX7_isStated cX7_isStated 2 (some .boolean) 1 22 V [.int l0, .int l1] G (.inl (some (.int r))) G' :=
  mx_of (L := [(0, .int l0), (1, .int l1)]) hfl (by decide +kernel) (Nat.le_of_ble_eq_true rfl) rfl (fun X hl hV hin ok he => by
    subst hl; subst hV
    exact J.sub [0, 1] rfl (jX7_isStated_0 ok l0 l1 G h he))
def fX7_isBadNote_59  (s0 : Int32) (G : Mem) : Option (Int32 × Mem) :=
  rz s0 <|
  some (s0, G)

set_option maxRecDepth 100000 in
set_option maxHeartbeats 4000000 in
theorem jX7_isBadNote_59 {X : Cx} (ok : OK X cX7_isBadNote RX7 (some .boolean) 5 2 43)  (s0 : Int32) (G : Mem) {r : Int32} {G' : Mem} (h : fX7_isBadNote_59 s0 G = some (r, G')) (hK : (finI X) r G') : J X 5 59 [] [.int s0] G := by
  unfold fX7_isBadNote_59 at h
  obtain ⟨hz1, h⟩ := rz_some h
  obtain ⟨er, eG⟩ := inj2 h
  subst er; subst eG
  exact j_zret ok rfl hz1 dX7_isBadNote_59 hK

def fX7_isBadNote_54   (G : Mem) : Option (Int32 × Mem) :=
  fX7_isBadNote_59 (1 : Int32) G

set_option maxRecDepth 100000 in
set_option maxHeartbeats 4000000 in
theorem jX7_isBadNote_54 {X : Cx} (ok : OK X cX7_isBadNote RX7 (some .boolean) 5 2 43)   (G : Mem) {r : Int32} {G' : Mem} (h : fX7_isBadNote_54  G = some (r, G')) (hK : (finI X) r G') : J X 5 54 [] [] G := by
  unfold fX7_isBadNote_54 at h
  refine j_iconst (v := 1) ok dX7_isBadNote_54 (by decide) ?_
  refine j_goto (tgt := 59) ok dX7_isBadNote_55 (by decide) ?_
  exact J.sub [] rfl (jX7_isBadNote_59 ok (1 : Int32) G h hK)

def fX7_isBadNote_0 (l0 : Nat) (l1 : Int32) (l2 : Int32) (l3 : Int32) (l4 : Int32)  (G : Mem) : Option (Int32 × Mem) :=
  (fX7_isStated l1 (4 : Int32) G).bind fun q1 =>
  if q1.1 = (0 : Int32) then
    fX7_isBadNote_54 q1.2
  else
    (gR q1.2 17 l0 0).bind fun v3 =>
    (gA q1.2 1 v3 (0 : Int32)).bind fun v4 =>
    (fX7_isStated l2 (v4 - (1 : Int32)) q1.2).bind fun q5 =>
    if q5.1 = (0 : Int32) then
      fX7_isBadNote_54 q5.2
    else
      (gR q5.2 17 l0 0).bind fun v7 =>
      (gA q5.2 1 v7 (0 : Int32)).bind fun v8 =>
      (fX7_isStated l3 (v8 - (1 : Int32)) q5.2).bind fun q9 =>
      if q9.1 = (0 : Int32) then
        fX7_isBadNote_54 q9.2
      else
        (gR q9.2 17 l0 0).bind fun v11 =>
        (gA q9.2 1 v11 (1 : Int32)).bind fun v12 =>
        (fX7_isStated l4 (v12 - (1 : Int32)) q9.2).bind fun q13 =>
        if q13.1 = (0 : Int32) then
          fX7_isBadNote_54 q13.2
        else
          fX7_isBadNote_59 (0 : Int32) q13.2

set_option maxRecDepth 100000 in
set_option maxHeartbeats 4000000 in
theorem jX7_isBadNote_0 {X : Cx} (ok : OK X cX7_isBadNote RX7 (some .boolean) 5 2 43) (l0 : Nat) (l1 : Int32) (l2 : Int32) (l3 : Int32) (l4 : Int32)  (G : Mem) {r : Int32} {G' : Mem} (h : fX7_isBadNote_0 l0 l1 l2 l3 l4 G = some (r, G')) (hK : (finI X) r G') : J X 5 0 [(0, .ref (X.B + l0)), (1, .int l1), (2, .int l2), (3, .int l3), (4, .int l4)] [] G := by
  unfold fX7_isBadNote_0 at h
  refine j_iload_n ok dX7_isBadNote_0 rfl 1 rfl ?_
  refine j_iconst (v := 4) ok dX7_isBadNote_1 (by decide) ?_
  obtain ⟨q1, hq1, h⟩ := obind h
  refine k_S1 ok kl_X7_330 ⟨Nat.le_of_ble_eq_true rfl, Nat.le_of_ble_eq_true rfl⟩ [.int l1, .int (4 : Int32)] rfl rfl (Nat.le_of_ble_eq_true rfl) (tX7_isStated ok.fl X.V l1 (4 : Int32) G hq1) dX7_isBadNote_2 ?_
  rcases ite_some h with ⟨c2, h⟩ | ⟨c2, h⟩
  · refine j_if_eq (tgt := 54) ok dX7_isBadNote_5 (by decide) (fun _ => ?_) (fun z => absurd c2 z)
    exact J.sub [] rfl (jX7_isBadNote_54 ok q1.2 h hK)
  · refine j_if_eq (tgt := 54) ok dX7_isBadNote_5 (by decide) (fun z => absurd z c2) (fun _ => ?_)
    refine j_iload_n ok dX7_isBadNote_8 rfl 2 rfl ?_
    refine j_aload_n ok dX7_isBadNote_9 rfl 0 rfl ?_
    obtain ⟨v3, hv3, h⟩ := obind h
    refine k_getR ok fl_X7_9 hv3 dX7_isBadNote_10 ?_
    refine j_iconst (v := 0) ok dX7_isBadNote_13 (by decide) ?_
    obtain ⟨v4, hv4, h⟩ := obind h
    refine j_iald ok hv4 dX7_isBadNote_14 ?_
    refine j_iconst (v := 1) ok dX7_isBadNote_15 (by decide) ?_
    refine j_isub ok dX7_isBadNote_16 ?_
    obtain ⟨q5, hq5, h⟩ := obind h
    refine k_S1 ok kl_X7_330 ⟨Nat.le_of_ble_eq_true rfl, Nat.le_of_ble_eq_true rfl⟩ [.int l2, .int (v4 - (1 : Int32))] rfl rfl (Nat.le_of_ble_eq_true rfl) (tX7_isStated ok.fl X.V l2 (v4 - (1 : Int32)) q1.2 hq5) dX7_isBadNote_17 ?_
    rcases ite_some h with ⟨c6, h⟩ | ⟨c6, h⟩
    · refine j_if_eq (tgt := 54) ok dX7_isBadNote_20 (by decide) (fun _ => ?_) (fun z => absurd c6 z)
      exact J.sub [] rfl (jX7_isBadNote_54 ok q5.2 h hK)
    · refine j_if_eq (tgt := 54) ok dX7_isBadNote_20 (by decide) (fun z => absurd z c6) (fun _ => ?_)
      refine j_iload_n ok dX7_isBadNote_23 rfl 3 rfl ?_
      refine j_aload_n ok dX7_isBadNote_24 rfl 0 rfl ?_
      obtain ⟨v7, hv7, h⟩ := obind h
      refine k_getR ok fl_X7_9 hv7 dX7_isBadNote_25 ?_
      refine j_iconst (v := 0) ok dX7_isBadNote_28 (by decide) ?_
      obtain ⟨v8, hv8, h⟩ := obind h
      refine j_iald ok hv8 dX7_isBadNote_29 ?_
      refine j_iconst (v := 1) ok dX7_isBadNote_30 (by decide) ?_
      refine j_isub ok dX7_isBadNote_31 ?_
      obtain ⟨q9, hq9, h⟩ := obind h
      refine k_S1 ok kl_X7_330 ⟨Nat.le_of_ble_eq_true rfl, Nat.le_of_ble_eq_true rfl⟩ [.int l3, .int (v8 - (1 : Int32))] rfl rfl (Nat.le_of_ble_eq_true rfl) (tX7_isStated ok.fl X.V l3 (v8 - (1 : Int32)) q5.2 hq9) dX7_isBadNote_32 ?_
      rcases ite_some h with ⟨c10, h⟩ | ⟨c10, h⟩
      · refine j_if_eq (tgt := 54) ok dX7_isBadNote_35 (by decide) (fun _ => ?_) (fun z => absurd c10 z)
        exact J.sub [] rfl (jX7_isBadNote_54 ok q9.2 h hK)
      · refine j_if_eq (tgt := 54) ok dX7_isBadNote_35 (by decide) (fun z => absurd z c10) (fun _ => ?_)
        refine j_iload ok dX7_isBadNote_38 4 rfl ?_
        refine j_aload_n ok dX7_isBadNote_40 rfl 0 rfl ?_
        obtain ⟨v11, hv11, h⟩ := obind h
        refine k_getR ok fl_X7_9 hv11 dX7_isBadNote_41 ?_
        refine j_iconst (v := 1) ok dX7_isBadNote_44 (by decide) ?_
        obtain ⟨v12, hv12, h⟩ := obind h
        refine j_iald ok hv12 dX7_isBadNote_45 ?_
        refine j_iconst (v := 1) ok dX7_isBadNote_46 (by decide) ?_
        refine j_isub ok dX7_isBadNote_47 ?_
        obtain ⟨q13, hq13, h⟩ := obind h
        refine k_S1 ok kl_X7_330 ⟨Nat.le_of_ble_eq_true rfl, Nat.le_of_ble_eq_true rfl⟩ [.int l4, .int (v12 - (1 : Int32))] rfl rfl (Nat.le_of_ble_eq_true rfl) (tX7_isStated ok.fl X.V l4 (v12 - (1 : Int32)) q9.2 hq13) dX7_isBadNote_48 ?_
        rcases ite_some h with ⟨c14, h⟩ | ⟨c14, h⟩
        · refine j_if_ne (tgt := 58) ok dX7_isBadNote_51 (by decide) (fun z => absurd c14 z) (fun _ => ?_)
          exact J.sub [] rfl (jX7_isBadNote_54 ok q13.2 h hK)
        · refine j_if_ne (tgt := 58) ok dX7_isBadNote_51 (by decide) (fun _ => ?_) (fun z => absurd z c14)
          refine j_iconst (v := 0) ok dX7_isBadNote_58 (by decide) ?_
          exact J.sub [] rfl (jX7_isBadNote_59 ok (0 : Int32) q13.2 h hK)

def fX7_isBadNote (l0 : Nat) (l1 : Int32) (l2 : Int32) (l3 : Int32) (l4 : Int32) (G : Mem) : Option (Int32 × Mem) := fX7_isBadNote_0 l0 l1 l2 l3 l4 G
set_option maxRecDepth 100000 in
theorem tX7_isBadNote {l : Launch} (hfl : l.stackTraces = false) (V : Wd) (l0 : Nat) (l1 : Int32) (l2 : Int32) (l3 : Int32) (l4 : Int32) (G : Mem) {r : Int32} {G' : Mem} (h : fX7_isBadNote l0 l1 l2 l3 l4 G = some (r, G')) : Mx l yX7_isBadNote cX7_isBadNote 5 (some .boolean) 2 43 V [.ref (V.B + l0), .int l1, .int l2, .int l3, .int l4] G (.inl (some (.int r))) G' :=
  mx_of (L := [(0, .ref (V.B + l0)), (1, .int l1), (2, .int l2), (3, .int l3), (4, .int l4)]) hfl (by decide +kernel) (Nat.le_of_ble_eq_true rfl) rfl (fun X hl hV hin ok he => by
    subst hl; subst hV
    exact J.sub [0, 1, 2, 3, 4] rfl (jX7_isBadNote_0 ok l0 l1 l2 l3 l4 G h he))
def fX7_lay_99  (s0 : Nat) (s1 : Int32) (s2 : Int32) (G : Mem) : Option (Unit × Mem) :=
  (pA G s0 s1 s2).bind fun G1 =>
  some ((), G1)

set_option maxRecDepth 100000 in
set_option maxHeartbeats 4000000 in
theorem jX7_lay_99 {X : Cx} (ok : OK X cX7_lay RX7 none 9 0 0)  (s0 : Nat) (s1 : Int32) (s2 : Int32) (G : Mem) {r : Unit} {G' : Mem} (h : fX7_lay_99 s0 s1 s2 G = some (r, G')) (hK : (finV X) r G') : J X 9 99 [] [.int s2, .int s1, .ref (X.B + s0)] G := by
  unfold fX7_lay_99 at h
  obtain ⟨G1, hG1, h⟩ := obind h
  refine j_iast ok hG1 dX7_lay_99 ?_
  obtain ⟨er, eG⟩ := inj2 h
  subst er; subst eG
  exact j_vret ok rfl dX7_lay_100 hK

def fX7_lay_79 (l0 : Nat) (l7 : Int32) (l8 : Int32) (s0 : Nat) (s1 : Int32) (s2 : Int32) (G : Mem) : Option (Unit × Mem) :=
  (pA G s0 s1 s2).bind fun G1 =>
  (gR G1 17 l0 0).bind fun v2 =>
  if l7 = (0 : Int32) then
    fX7_lay_99 v2 (l8 + (6 : Int32)) (0 : Int32) G1
  else
    fX7_lay_99 v2 (l8 + (6 : Int32)) (1 : Int32) G1

set_option maxRecDepth 100000 in
set_option maxHeartbeats 4000000 in
theorem jX7_lay_79 {X : Cx} (ok : OK X cX7_lay RX7 none 9 0 0) (l0 : Nat) (l7 : Int32) (l8 : Int32) (s0 : Nat) (s1 : Int32) (s2 : Int32) (G : Mem) {r : Unit} {G' : Mem} (h : fX7_lay_79 l0 l7 l8 s0 s1 s2 G = some (r, G')) (hK : (finV X) r G') : J X 9 79 [(0, .ref (X.B + l0)), (7, .int l7), (8, .int l8)] [.int s2, .int s1, .ref (X.B + s0)] G := by
  unfold fX7_lay_79 at h
  obtain ⟨G1, hG1, h⟩ := obind h
  refine j_iast ok hG1 dX7_lay_79 ?_
  refine j_aload_n ok dX7_lay_80 rfl 0 rfl ?_
  obtain ⟨v2, hv2, h⟩ := obind h
  refine k_getR ok fl_X7_9 hv2 dX7_lay_81 ?_
  refine j_iload ok dX7_lay_84 2 rfl ?_
  refine j_bipush (v := 6) ok dX7_lay_86 (by decide) ?_
  refine j_iadd ok dX7_lay_88 ?_
  refine j_iload ok dX7_lay_89 1 rfl ?_
  rcases ite_some h with ⟨c3, h⟩ | ⟨c3, h⟩
  · refine j_if_eq (tgt := 98) ok dX7_lay_91 (by decide) (fun _ => ?_) (fun z => absurd c3 z)
    refine j_iconst (v := 0) ok dX7_lay_98 (by decide) ?_
    exact J.sub [] rfl (jX7_lay_99 ok v2 (l8 + (6 : Int32)) (0 : Int32) G1 h hK)
  · refine j_if_eq (tgt := 98) ok dX7_lay_91 (by decide) (fun z => absurd z c3) (fun _ => ?_)
    refine j_iconst (v := 1) ok dX7_lay_94 (by decide) ?_
    refine j_goto (tgt := 99) ok dX7_lay_95 (by decide) ?_
    exact J.sub [] rfl (jX7_lay_99 ok v2 (l8 + (6 : Int32)) (1 : Int32) G1 h hK)

def fX7_lay_0 (l0 : Nat) (l1 : Int32) (l2 : Int32) (l3 : Int32) (l4 : Int32) (l5 : Int32) (l6 : Int32) (l7 : Int32)  (G : Mem) : Option (Unit × Mem) :=
  (gR G 17 l0 0).bind fun v1 =>
  (pA G v1 (((39 : Int32) + ((7 : Int32) * l1)) + (0 : Int32)) l2).bind fun G2 =>
  (gR G2 17 l0 0).bind fun v3 =>
  (pA G2 v3 (((39 : Int32) + ((7 : Int32) * l1)) + (1 : Int32)) l3).bind fun G4 =>
  (gR G4 17 l0 0).bind fun v5 =>
  (pA G4 v5 (((39 : Int32) + ((7 : Int32) * l1)) + (2 : Int32)) (-1 : Int32)).bind fun G6 =>
  (gR G6 17 l0 0).bind fun v7 =>
  (pA G6 v7 (((39 : Int32) + ((7 : Int32) * l1)) + (3 : Int32)) l4).bind fun G8 =>
  (gR G8 17 l0 0).bind fun v9 =>
  (pA G8 v9 (((39 : Int32) + ((7 : Int32) * l1)) + (4 : Int32)) l5).bind fun G10 =>
  (gR G10 17 l0 0).bind fun v11 =>
  if l6 = (0 : Int32) then
    fX7_lay_79 l0 l7 ((39 : Int32) + ((7 : Int32) * l1)) v11 (((39 : Int32) + ((7 : Int32) * l1)) + (5 : Int32)) (0 : Int32) G10
  else
    fX7_lay_79 l0 l7 ((39 : Int32) + ((7 : Int32) * l1)) v11 (((39 : Int32) + ((7 : Int32) * l1)) + (5 : Int32)) (1 : Int32) G10

set_option maxRecDepth 100000 in
set_option maxHeartbeats 4000000 in
theorem jX7_lay_0 {X : Cx} (ok : OK X cX7_lay RX7 none 9 0 0) (l0 : Nat) (l1 : Int32) (l2 : Int32) (l3 : Int32) (l4 : Int32) (l5 : Int32) (l6 : Int32) (l7 : Int32)  (G : Mem) {r : Unit} {G' : Mem} (h : fX7_lay_0 l0 l1 l2 l3 l4 l5 l6 l7 G = some (r, G')) (hK : (finV X) r G') : J X 9 0 [(0, .ref (X.B + l0)), (1, .int l1), (2, .int l2), (3, .int l3), (4, .int l4), (5, .int l5), (6, .int l6), (7, .int l7)] [] G := by
  unfold fX7_lay_0 at h
  refine j_bipush (v := 39) ok dX7_lay_0 (by decide) ?_
  refine j_bipush (v := 7) ok dX7_lay_2 (by decide) ?_
  refine j_iload_n ok dX7_lay_4 rfl 1 rfl ?_
  refine j_imul ok dX7_lay_5 ?_
  refine j_iadd ok dX7_lay_6 ?_
  refine j_istore (L' := [(8, .int ((39 : Int32) + ((7 : Int32) * l1))), (0, .ref (X.B + l0)), (1, .int l1), (2, .int l2), (3, .int l3), (4, .int l4), (5, .int l5), (6, .int l6), (7, .int l7)]) ok dX7_lay_7 (by decide) rfl ?_
  refine j_aload_n ok dX7_lay_9 rfl 1 rfl ?_
  obtain ⟨v1, hv1, h⟩ := obind h
  refine k_getR ok fl_X7_9 hv1 dX7_lay_10 ?_
  refine j_iload ok dX7_lay_13 0 rfl ?_
  refine j_iconst (v := 0) ok dX7_lay_15 (by decide) ?_
  refine j_iadd ok dX7_lay_16 ?_
  refine j_iload_n ok dX7_lay_17 rfl 3 rfl ?_
  obtain ⟨G2, hG2, h⟩ := obind h
  refine j_iast ok hG2 dX7_lay_18 ?_
  refine j_aload_n ok dX7_lay_19 rfl 1 rfl ?_
  obtain ⟨v3, hv3, h⟩ := obind h
  refine k_getR ok fl_X7_9 hv3 dX7_lay_20 ?_
  refine j_iload ok dX7_lay_23 0 rfl ?_
  refine j_iconst (v := 1) ok dX7_lay_25 (by decide) ?_
  refine j_iadd ok dX7_lay_26 ?_
  refine j_iload_n ok dX7_lay_27 rfl 4 rfl ?_
  obtain ⟨G4, hG4, h⟩ := obind h
  refine j_iast ok hG4 dX7_lay_28 ?_
  refine j_aload_n ok dX7_lay_29 rfl 1 rfl ?_
  obtain ⟨v5, hv5, h⟩ := obind h
  refine k_getR ok fl_X7_9 hv5 dX7_lay_30 ?_
  refine j_iload ok dX7_lay_33 0 rfl ?_
  refine j_iconst (v := 2) ok dX7_lay_35 (by decide) ?_
  refine j_iadd ok dX7_lay_36 ?_
  refine j_iconst (v := -1) ok dX7_lay_37 (by decide) ?_
  obtain ⟨G6, hG6, h⟩ := obind h
  refine j_iast ok hG6 dX7_lay_38 ?_
  refine j_aload_n ok dX7_lay_39 rfl 1 rfl ?_
  obtain ⟨v7, hv7, h⟩ := obind h
  refine k_getR ok fl_X7_9 hv7 dX7_lay_40 ?_
  refine j_iload ok dX7_lay_43 0 rfl ?_
  refine j_iconst (v := 3) ok dX7_lay_45 (by decide) ?_
  refine j_iadd ok dX7_lay_46 ?_
  refine j_iload ok dX7_lay_47 5 rfl ?_
  obtain ⟨G8, hG8, h⟩ := obind h
  refine j_iast ok hG8 dX7_lay_49 ?_
  refine j_aload_n ok dX7_lay_50 rfl 1 rfl ?_
  obtain ⟨v9, hv9, h⟩ := obind h
  refine k_getR ok fl_X7_9 hv9 dX7_lay_51 ?_
  refine j_iload ok dX7_lay_54 0 rfl ?_
  refine j_iconst (v := 4) ok dX7_lay_56 (by decide) ?_
  refine j_iadd ok dX7_lay_57 ?_
  refine j_iload ok dX7_lay_58 6 rfl ?_
  obtain ⟨G10, hG10, h⟩ := obind h
  refine j_iast ok hG10 dX7_lay_60 ?_
  refine j_aload_n ok dX7_lay_61 rfl 1 rfl ?_
  obtain ⟨v11, hv11, h⟩ := obind h
  refine k_getR ok fl_X7_9 hv11 dX7_lay_62 ?_
  refine j_iload ok dX7_lay_65 0 rfl ?_
  refine j_iconst (v := 5) ok dX7_lay_67 (by decide) ?_
  refine j_iadd ok dX7_lay_68 ?_
  refine j_iload ok dX7_lay_69 7 rfl ?_
  rcases ite_some h with ⟨c12, h⟩ | ⟨c12, h⟩
  · refine j_if_eq (tgt := 78) ok dX7_lay_71 (by decide) (fun _ => ?_) (fun z => absurd c12 z)
    refine j_iconst (v := 0) ok dX7_lay_78 (by decide) ?_
    exact J.sub [1, 8, 0] rfl (jX7_lay_79 ok l0 l7 ((39 : Int32) + ((7 : Int32) * l1)) v11 (((39 : Int32) + ((7 : Int32) * l1)) + (5 : Int32)) (0 : Int32) G10 h hK)
  · refine j_if_eq (tgt := 78) ok dX7_lay_71 (by decide) (fun z => absurd z c12) (fun _ => ?_)
    refine j_iconst (v := 1) ok dX7_lay_74 (by decide) ?_
    refine j_goto (tgt := 79) ok dX7_lay_75 (by decide) ?_
    exact J.sub [1, 8, 0] rfl (jX7_lay_79 ok l0 l7 ((39 : Int32) + ((7 : Int32) * l1)) v11 (((39 : Int32) + ((7 : Int32) * l1)) + (5 : Int32)) (1 : Int32) G10 h hK)

def fX7_lay (l0 : Nat) (l1 : Int32) (l2 : Int32) (l3 : Int32) (l4 : Int32) (l5 : Int32) (l6 : Int32) (l7 : Int32) (G : Mem) : Option (Unit × Mem) := fX7_lay_0 l0 l1 l2 l3 l4 l5 l6 l7 G
set_option maxRecDepth 100000 in
theorem tX7_lay {l : Launch} (hfl : l.stackTraces = false) (V : Wd) (l0 : Nat) (l1 : Int32) (l2 : Int32) (l3 : Int32) (l4 : Int32) (l5 : Int32) (l6 : Int32) (l7 : Int32) (G : Mem) {r : Unit} {G' : Mem} (h : fX7_lay l0 l1 l2 l3 l4 l5 l6 l7 G = some (r, G')) : Mx l yX7_lay cX7_lay 9 none 0 0 V [.ref (V.B + l0), .int l1, .int l2, .int l3, .int l4, .int l5, .int l6, .int l7] G (.inl none) G' :=
  mx_of (L := [(0, .ref (V.B + l0)), (1, .int l1), (2, .int l2), (3, .int l3), (4, .int l4), (5, .int l5), (6, .int l6), (7, .int l7)]) hfl (by decide +kernel) (Nat.le_of_ble_eq_true rfl) rfl (fun X hl hV hin ok he => by
    subst hl; subst hV
    exact J.sub [0, 1, 2, 3, 4, 5, 6, 7] rfl (jX7_lay_0 ok l0 l1 l2 l3 l4 l5 l6 l7 G h he))
def fX7_squareMany_0 (l0 : Nat)  (G : Mem) : Option (Int32 × Mem) :=
  (gR G 17 l0 0).bind fun v1 =>
  (gA G 1 v1 (0 : Int32)).bind fun v2 =>
  (gR G 17 l0 0).bind fun v3 =>
  (gA G 1 v3 (1 : Int32)).bind fun v4 =>
  some ((v2 * v4), G)

set_option maxRecDepth 100000 in
set_option maxHeartbeats 4000000 in
theorem jX7_squareMany_0 {X : Cx} (ok : OK X cX7_squareMany RX7 (some .int) 1 0 0) (l0 : Nat)  (G : Mem) {r : Int32} {G' : Mem} (h : fX7_squareMany_0 l0 G = some (r, G')) (hK : (finI X) r G') : J X 1 0 [(0, .ref (X.B + l0))] [] G := by
  unfold fX7_squareMany_0 at h
  refine j_aload_n ok dX7_squareMany_0 rfl 0 rfl ?_
  obtain ⟨v1, hv1, h⟩ := obind h
  refine k_getR ok fl_X7_9 hv1 dX7_squareMany_1 ?_
  refine j_iconst (v := 0) ok dX7_squareMany_4 (by decide) ?_
  obtain ⟨v2, hv2, h⟩ := obind h
  refine j_iald ok hv2 dX7_squareMany_5 ?_
  refine j_aload_n ok dX7_squareMany_6 rfl 0 rfl ?_
  obtain ⟨v3, hv3, h⟩ := obind h
  refine k_getR ok fl_X7_9 hv3 dX7_squareMany_7 ?_
  refine j_iconst (v := 1) ok dX7_squareMany_10 (by decide) ?_
  obtain ⟨v4, hv4, h⟩ := obind h
  refine j_iald ok hv4 dX7_squareMany_11 ?_
  refine j_imul ok dX7_squareMany_12 ?_
  obtain ⟨er, eG⟩ := inj2 h
  subst er; subst eG
  exact j_iret ok rfl dX7_squareMany_13 hK

def fX7_squareMany (l0 : Nat) (G : Mem) : Option (Int32 × Mem) := fX7_squareMany_0 l0 G
set_option maxRecDepth 100000 in
theorem tX7_squareMany {l : Launch} (hfl : l.stackTraces = false) (V : Wd) (l0 : Nat) (G : Mem) {r : Int32} {G' : Mem} (h : fX7_squareMany l0 G = some (r, G')) : Mx l yX7_squareMany cX7_squareMany 1 (some .int) 0 0 V [.ref (V.B + l0)] G (.inl (some (.int r))) G' :=
  mx_of (L := [(0, .ref (V.B + l0))]) hfl (by decide +kernel) (Nat.le_of_ble_eq_true rfl) rfl (fun X hl hV hin ok he => by
    subst hl; subst hV
    exact J.sub [0] rfl (jX7_squareMany_0 ok l0 G h he))
def fX7_position_0 (l0 : Int32) (l1 : Int32)  (G : Mem) : Option (Int32 × Mem) :=
  some ((((l0 * (40 : Int32)) + l1) * (36 : Int32)), G)

set_option maxRecDepth 100000 in
set_option maxHeartbeats 4000000 in
theorem jX7_position_0 {X : Cx} (ok : OK X cX7_position RX7 (some .int) 2 0 0) (l0 : Int32) (l1 : Int32)  (G : Mem) {r : Int32} {G' : Mem} (h : fX7_position_0 l0 l1 G = some (r, G')) (hK : (finI X) r G') : J X 2 0 [(0, .int l0), (1, .int l1)] [] G := by
  unfold fX7_position_0 at h
  refine j_iload_n ok dX7_position_0 rfl 0 rfl ?_
  refine j_bipush (v := 40) ok dX7_position_1 (by decide) ?_
  refine j_imul ok dX7_position_3 ?_
  refine j_iload_n ok dX7_position_4 rfl 1 rfl ?_
  refine j_iadd ok dX7_position_5 ?_
  refine j_bipush (v := 36) ok dX7_position_6 (by decide) ?_
  refine j_imul ok dX7_position_8 ?_
  obtain ⟨er, eG⟩ := inj2 h
  subst er; subst eG
  exact j_iret ok rfl dX7_position_9 hK

def fX7_position (l0 : Int32) (l1 : Int32) (G : Mem) : Option (Int32 × Mem) := fX7_position_0 l0 l1 G
set_option maxRecDepth 100000 in
theorem tX7_position {l : Launch} (hfl : l.stackTraces = false) (V : Wd) (l0 : Int32) (l1 : Int32) (G : Mem) {r : Int32} {G' : Mem} (h : fX7_position l0 l1 G = some (r, G')) : Mx l yX7_position cX7_position 2 (some .int) 0 0 V [.int l0, .int l1] G (.inl (some (.int r))) G' :=
  mx_of (L := [(0, .int l0), (1, .int l1)]) hfl (by decide +kernel) (Nat.le_of_ble_eq_true rfl) rfl (fun X hl hV hin ok he => by
    subst hl; subst hV
    exact J.sub [0, 1] rfl (jX7_position_0 ok l0 l1 G h he))
def fX7_colourOf_0 (l0 : Int32)  (G : Mem) : Option (Int32 × Mem) :=
  some (((l0 - (1 : Int32)) / (5 : Int32)), G)

set_option maxRecDepth 100000 in
set_option maxHeartbeats 4000000 in
theorem jX7_colourOf_0 {X : Cx} (ok : OK X cX7_colourOf RX7 (some .int) 1 0 0) (l0 : Int32)  (G : Mem) {r : Int32} {G' : Mem} (h : fX7_colourOf_0 l0 G = some (r, G')) (hK : (finI X) r G') : J X 1 0 [(0, .int l0)] [] G := by
  unfold fX7_colourOf_0 at h
  refine j_iload_n ok dX7_colourOf_0 rfl 0 rfl ?_
  refine j_iconst (v := 1) ok dX7_colourOf_1 (by decide) ?_
  refine j_isub ok dX7_colourOf_2 ?_
  refine j_iconst (v := 5) ok dX7_colourOf_3 (by decide) ?_
  refine j_idiv ok dX7_colourOf_4 (by decide) ?_
  obtain ⟨er, eG⟩ := inj2 h
  subst er; subst eG
  exact j_iret ok rfl dX7_colourOf_5 hK

def fX7_colourOf (l0 : Int32) (G : Mem) : Option (Int32 × Mem) := fX7_colourOf_0 l0 G
set_option maxRecDepth 100000 in
theorem tX7_colourOf {l : Launch} (hfl : l.stackTraces = false) (V : Wd) (l0 : Int32) (G : Mem) {r : Int32} {G' : Mem} (h : fX7_colourOf l0 G = some (r, G')) : Mx l yX7_colourOf cX7_colourOf 1 (some .int) 0 0 V [.int l0] G (.inl (some (.int r))) G' :=
  mx_of (L := [(0, .int l0)]) hfl (by decide +kernel) (Nat.le_of_ble_eq_true rfl) rfl (fun X hl hV hin ok he => by
    subst hl; subst hV
    exact J.sub [0] rfl (jX7_colourOf_0 ok l0 G h he))
def fX7_isOf_17  (s0 : Int32) (G : Mem) : Option (Int32 × Mem) :=
  rz s0 <|
  some (s0, G)

set_option maxRecDepth 100000 in
set_option maxHeartbeats 4000000 in
theorem jX7_isOf_17 {X : Cx} (ok : OK X cX7_isOf RX7 (some .boolean) 2 1 20)  (s0 : Int32) (G : Mem) {r : Int32} {G' : Mem} (h : fX7_isOf_17 s0 G = some (r, G')) (hK : (finI X) r G') : J X 2 17 [] [.int s0] G := by
  unfold fX7_isOf_17 at h
  obtain ⟨hz1, h⟩ := rz_some h
  obtain ⟨er, eG⟩ := inj2 h
  subst er; subst eG
  exact j_zret ok rfl hz1 dX7_isOf_17 hK

def fX7_isOf_16   (G : Mem) : Option (Int32 × Mem) :=
  fX7_isOf_17 (0 : Int32) G

set_option maxRecDepth 100000 in
set_option maxHeartbeats 4000000 in
theorem jX7_isOf_16 {X : Cx} (ok : OK X cX7_isOf RX7 (some .boolean) 2 1 20)   (G : Mem) {r : Int32} {G' : Mem} (h : fX7_isOf_16  G = some (r, G')) (hK : (finI X) r G') : J X 2 16 [] [] G := by
  unfold fX7_isOf_16 at h
  refine j_iconst (v := 0) ok dX7_isOf_16 (by decide) ?_
  exact J.sub [] rfl (jX7_isOf_17 ok (0 : Int32) G h hK)

def fX7_isOf_0 (l0 : Int32) (l1 : Int32)  (G : Mem) : Option (Int32 × Mem) :=
  if l0 ≤ (0 : Int32) then
    fX7_isOf_16 G
  else
    (fX7_colourOf l0 G).bind fun q2 =>
    if q2.1 = l1 then
      fX7_isOf_17 (1 : Int32) q2.2
    else
      fX7_isOf_16 q2.2

set_option maxRecDepth 100000 in
set_option maxHeartbeats 4000000 in
theorem jX7_isOf_0 {X : Cx} (ok : OK X cX7_isOf RX7 (some .boolean) 2 1 20) (l0 : Int32) (l1 : Int32)  (G : Mem) {r : Int32} {G' : Mem} (h : fX7_isOf_0 l0 l1 G = some (r, G')) (hK : (finI X) r G') : J X 2 0 [(0, .int l0), (1, .int l1)] [] G := by
  unfold fX7_isOf_0 at h
  refine j_iload_n ok dX7_isOf_0 rfl 0 rfl ?_
  rcases ite_some h with ⟨c1, h⟩ | ⟨c1, h⟩
  · refine j_if_le (tgt := 16) ok dX7_isOf_1 (by decide) (fun _ => ?_) (fun z => absurd c1 z)
    exact J.sub [] rfl (jX7_isOf_16 ok G h hK)
  · refine j_if_le (tgt := 16) ok dX7_isOf_1 (by decide) (fun z => absurd z c1) (fun _ => ?_)
    refine j_iload_n ok dX7_isOf_4 rfl 0 rfl ?_
    obtain ⟨q2, hq2, h⟩ := obind h
    refine k_S1 ok kl_X7_99 ⟨Nat.le_of_ble_eq_true rfl, Nat.le_of_ble_eq_true rfl⟩ [.int l0] rfl rfl (Nat.le_of_ble_eq_true rfl) (tX7_colourOf ok.fl X.V l0 G hq2) dX7_isOf_5 ?_
    refine j_iload_n ok dX7_isOf_8 rfl 1 rfl ?_
    rcases ite_some h with ⟨c3, h⟩ | ⟨c3, h⟩
    · refine j_icmp_ne (tgt := 16) ok dX7_isOf_9 (by decide) (fun z => absurd c3 z) (fun _ => ?_)
      refine j_iconst (v := 1) ok dX7_isOf_12 (by decide) ?_
      refine j_goto (tgt := 17) ok dX7_isOf_13 (by decide) ?_
      exact J.sub [] rfl (jX7_isOf_17 ok (1 : Int32) q2.2 h hK)
    · refine j_icmp_ne (tgt := 16) ok dX7_isOf_9 (by decide) (fun _ => ?_) (fun z => absurd z c3)
      exact J.sub [] rfl (jX7_isOf_16 ok q2.2 h hK)

def fX7_isOf (l0 : Int32) (l1 : Int32) (G : Mem) : Option (Int32 × Mem) := fX7_isOf_0 l0 l1 G
set_option maxRecDepth 100000 in
theorem tX7_isOf {l : Launch} (hfl : l.stackTraces = false) (V : Wd) (l0 : Int32) (l1 : Int32) (G : Mem) {r : Int32} {G' : Mem} (h : fX7_isOf l0 l1 G = some (r, G')) : Mx l yX7_isOf cX7_isOf 2 (some .boolean) 1 20 V [.int l0, .int l1] G (.inl (some (.int r))) G' :=
  mx_of (L := [(0, .int l0), (1, .int l1)]) hfl (by decide +kernel) (Nat.le_of_ble_eq_true rfl) rfl (fun X hl hV hin ok he => by
    subst hl; subst hV
    exact J.sub [0, 1] rfl (jX7_isOf_0 ok l0 l1 G h he))
def fX7_kindOf_0 (l0 : Int32)  (G : Mem) : Option (Int32 × Mem) :=
  some (((l0 - (1 : Int32)) - (l0 - (1 : Int32)) / (5 : Int32) * (5 : Int32)), G)

set_option maxRecDepth 100000 in
set_option maxHeartbeats 4000000 in
theorem jX7_kindOf_0 {X : Cx} (ok : OK X cX7_kindOf RX7 (some .int) 1 0 0) (l0 : Int32)  (G : Mem) {r : Int32} {G' : Mem} (h : fX7_kindOf_0 l0 G = some (r, G')) (hK : (finI X) r G') : J X 1 0 [(0, .int l0)] [] G := by
  unfold fX7_kindOf_0 at h
  refine j_iload_n ok dX7_kindOf_0 rfl 0 rfl ?_
  refine j_iconst (v := 1) ok dX7_kindOf_1 (by decide) ?_
  refine j_isub ok dX7_kindOf_2 ?_
  refine j_iconst (v := 5) ok dX7_kindOf_3 (by decide) ?_
  refine j_irem ok dX7_kindOf_4 (by decide) ?_
  obtain ⟨er, eG⟩ := inj2 h
  subst er; subst eG
  exact j_iret ok rfl dX7_kindOf_5 hK

def fX7_kindOf (l0 : Int32) (G : Mem) : Option (Int32 × Mem) := fX7_kindOf_0 l0 G
set_option maxRecDepth 100000 in
theorem tX7_kindOf {l : Launch} (hfl : l.stackTraces = false) (V : Wd) (l0 : Int32) (G : Mem) {r : Int32} {G' : Mem} (h : fX7_kindOf l0 G = some (r, G')) : Mx l yX7_kindOf cX7_kindOf 1 (some .int) 0 0 V [.int l0] G (.inl (some (.int r))) G' :=
  mx_of (L := [(0, .int l0)]) hfl (by decide +kernel) (Nat.le_of_ble_eq_true rfl) rfl (fun X hl hV hin ok he => by
    subst hl; subst hV
    exact J.sub [0] rfl (jX7_kindOf_0 ok l0 G h he))
def fX7_isFree_118  (s0 : Int32) (G : Mem) : Option (Int32 × Mem) :=
  rz s0 <|
  some (s0, G)

set_option maxRecDepth 100000 in
set_option maxHeartbeats 4000000 in
theorem jX7_isFree_118 {X : Cx} (ok : OK X cX7_isFree RX7 (some .boolean) 10 1 20)  (s0 : Int32) (G : Mem) {r : Int32} {G' : Mem} (h : fX7_isFree_118 s0 G = some (r, G')) (hK : (finI X) r G') : J X 10 118 [] [.int s0] G := by
  unfold fX7_isFree_118 at h
  obtain ⟨hz1, h⟩ := rz_some h
  obtain ⟨er, eG⟩ := inj2 h
  subst er; subst eG
  exact j_zret ok rfl hz1 dX7_isFree_118 hK

def fX7_isFree_106 (l4 : Int32) (l9 : Int32)  (G : Mem) : Option (Int32 × Mem) :=
  if l9 = l4 then
    fX7_isFree_118 (1 : Int32) G
  else
    fX7_isFree_118 (0 : Int32) G

set_option maxRecDepth 100000 in
set_option maxHeartbeats 4000000 in
theorem jX7_isFree_106 {X : Cx} (ok : OK X cX7_isFree RX7 (some .boolean) 10 1 20) (l4 : Int32) (l9 : Int32)  (G : Mem) {r : Int32} {G' : Mem} (h : fX7_isFree_106 l4 l9 G = some (r, G')) (hK : (finI X) r G') : J X 10 106 [(4, .int l4), (9, .int l9)] [] G := by
  unfold fX7_isFree_106 at h
  refine j_iload ok dX7_isFree_106 1 rfl ?_
  refine j_iload ok dX7_isFree_108 0 rfl ?_
  rcases ite_some h with ⟨c1, h⟩ | ⟨c1, h⟩
  · refine j_icmp_ne (tgt := 117) ok dX7_isFree_110 (by decide) (fun z => absurd c1 z) (fun _ => ?_)
    refine j_iconst (v := 1) ok dX7_isFree_113 (by decide) ?_
    refine j_goto (tgt := 118) ok dX7_isFree_114 (by decide) ?_
    exact J.sub [] rfl (jX7_isFree_118 ok (1 : Int32) G h hK)
  · refine j_icmp_ne (tgt := 117) ok dX7_isFree_110 (by decide) (fun _ => ?_) (fun z => absurd z c1)
    refine j_iconst (v := 0) ok dX7_isFree_117 (by decide) ?_
    exact J.sub [] rfl (jX7_isFree_118 ok (0 : Int32) G h hK)

def fX7_isFree_70 (l0 : Nat) (l1 : Nat) (l2 : Int32) (l4 : Int32) (l7 : Int32) (l8 : Int32) (l9 : Int32)  (G : Mem) : Option (((Int32) ⊕ Int32) × Mem) :=
  if l9 = l4 then
    liftE (fX7_isFree_106 l4 l9 G)
  else
    (gA G 1 l1 (l2 + l9)).bind fun v2 =>
    if v2 = (0 : Int32) then
      (gR G 17 l0 0).bind fun v4 =>
      (gA G 1 v4 (0 : Int32)).bind fun v5 =>
      some (.inl ((l9 + (l7 + (l8 * v5)))), G)
    else
      liftE (fX7_isFree_106 l4 l9 G)

set_option maxRecDepth 100000 in
set_option maxHeartbeats 4000000 in
theorem jX7_isFree_70 {X : Cx} (ok : OK X cX7_isFree RX7 (some .boolean) 10 1 20) (l0 : Nat) (l1 : Nat) (l2 : Int32) (l4 : Int32) (l7 : Int32) (l8 : Int32) (l9 : Int32)  (G : Mem) {r : ((Int32) ⊕ Int32)} {G' : Mem} (h : fX7_isFree_70 l0 l1 l2 l4 l7 l8 l9 G = some (r, G')) (hK : (finL X 10 70 (fun s : Int32 => [(0, .ref (X.B + l0)), (1, .ref (X.B + l1)), (2, .int l2), (4, .int l4), (7, .int l7), (8, .int l8), (9, .int s)]) (finI X)) r G') : J X 10 70 [(0, .ref (X.B + l0)), (1, .ref (X.B + l1)), (2, .int l2), (4, .int l4), (7, .int l7), (8, .int l8), (9, .int l9)] [] G := by
  unfold fX7_isFree_70 at h
  refine j_iload ok dX7_isFree_70 6 rfl ?_
  refine j_iload ok dX7_isFree_72 3 rfl ?_
  rcases ite_some h with ⟨c1, h⟩ | ⟨c1, h⟩
  · refine j_icmp_eq (tgt := 106) ok dX7_isFree_74 (by decide) (fun _ => ?_) (fun z => absurd c1 z)
    obtain ⟨r1, e1, h1⟩ := lift_some h
    subst e1
    exact J.sub [3, 6] rfl (jX7_isFree_106 ok l4 l9 G h1 hK)
  · refine j_icmp_eq (tgt := 106) ok dX7_isFree_74 (by decide) (fun z => absurd z c1) (fun _ => ?_)
    refine j_aload_n ok dX7_isFree_77 rfl 1 rfl ?_
    refine j_iload_n ok dX7_isFree_78 rfl 2 rfl ?_
    refine j_iload ok dX7_isFree_79 6 rfl ?_
    refine j_iadd ok dX7_isFree_81 ?_
    obtain ⟨v2, hv2, h⟩ := obind h
    refine j_iald ok hv2 dX7_isFree_82 ?_
    rcases ite_some h with ⟨c3, h⟩ | ⟨c3, h⟩
    · refine j_if_ne (tgt := 106) ok dX7_isFree_83 (by decide) (fun z => absurd c3 z) (fun _ => ?_)
      refine j_iload ok dX7_isFree_86 6 rfl ?_
      refine j_iload ok dX7_isFree_88 4 rfl ?_
      refine j_iload ok dX7_isFree_90 5 rfl ?_
      refine j_aload_n ok dX7_isFree_92 rfl 0 rfl ?_
      obtain ⟨v4, hv4, h⟩ := obind h
      refine k_getR ok fl_X7_9 hv4 dX7_isFree_93 ?_
      refine j_iconst (v := 0) ok dX7_isFree_96 (by decide) ?_
      obtain ⟨v5, hv5, h⟩ := obind h
      refine j_iald ok hv5 dX7_isFree_97 ?_
      refine j_imul ok dX7_isFree_98 ?_
      refine j_iadd ok dX7_isFree_99 ?_
      refine j_iadd ok dX7_isFree_100 ?_
      refine j_istore (L' := [(9, .int (l9 + (l7 + (l8 * v5)))), (0, .ref (X.B + l0)), (1, .ref (X.B + l1)), (2, .int l2), (4, .int l4), (7, .int l7), (8, .int l8)]) ok dX7_isFree_101 (by decide) rfl ?_
      refine j_goto (tgt := 70) ok dX7_isFree_103 (by decide) ?_
      obtain ⟨er, eG⟩ := inj2 h
      subst er; subst eG
      have hJ : J X 10 70 [(0, .ref (X.B + l0)), (1, .ref (X.B + l1)), (2, .int l2), (4, .int l4), (7, .int l7), (8, .int l8), (9, .int (l9 + (l7 + (l8 * v5))))] [] G := hK
      exact J.sub [1, 2, 3, 4, 5, 6, 0] rfl hJ
    · refine j_if_ne (tgt := 106) ok dX7_isFree_83 (by decide) (fun _ => ?_) (fun z => absurd z c3)
      obtain ⟨r1, e1, h1⟩ := lift_some h
      subst e1
      exact J.sub [3, 6] rfl (jX7_isFree_106 ok l4 l9 G h1 hK)

def fX7_isFree_0 (l0 : Nat) (l1 : Nat) (l2 : Int32) (l3 : Int32) (l4 : Int32)  (G : Mem) : Option (Int32 × Mem) :=
  (gR G 17 l0 0).bind fun v1 =>
  (gA G 1 v1 (0 : Int32)).bind fun v2 =>
  dz v2 <|
  (gR G 17 l0 0).bind fun v4 =>
  (gA G 1 v4 (0 : Int32)).bind fun v5 =>
  dz v5 <|
  (gR G 17 l0 0).bind fun v7 =>
  (gA G 1 v7 (0 : Int32)).bind fun v8 =>
  dz v8 <|
  (fJ6_signum_0f7a4 ((l4 - l4 / v8 * v8) - (l3 - l3 / v2 * v2)) G).bind fun q10 =>
  (gR q10.2 17 l0 0).bind fun v11 =>
  (gA q10.2 1 v11 (0 : Int32)).bind fun v12 =>
  dz v12 <|
  (fJ6_signum_0f7a4 ((l4 / v12) - (l3 / v5)) q10.2).bind fun q14 =>
  (gR q14.2 17 l0 0).bind fun v15 =>
  (gA q14.2 1 v15 (0 : Int32)).bind fun v16 =>
  loopM (fun (s : Int32) G => fX7_isFree_70 l0 l1 l2 l4 q10.1 q14.1 s G) FU (((l3 + q10.1) + (q14.1 * v16))) q14.2

set_option maxRecDepth 100000 in
set_option maxHeartbeats 4000000 in
theorem jX7_isFree_0 {X : Cx} (ok : OK X cX7_isFree RX7 (some .boolean) 10 1 20) (l0 : Nat) (l1 : Nat) (l2 : Int32) (l3 : Int32) (l4 : Int32)  (G : Mem) {r : Int32} {G' : Mem} (h : fX7_isFree_0 l0 l1 l2 l3 l4 G = some (r, G')) (hK : (finI X) r G') : J X 10 0 [(0, .ref (X.B + l0)), (1, .ref (X.B + l1)), (2, .int l2), (3, .int l3), (4, .int l4)] [] G := by
  unfold fX7_isFree_0 at h
  refine j_iload_n ok dX7_isFree_0 rfl 3 rfl ?_
  refine j_aload_n ok dX7_isFree_1 rfl 0 rfl ?_
  obtain ⟨v1, hv1, h⟩ := obind h
  refine k_getR ok fl_X7_9 hv1 dX7_isFree_2 ?_
  refine j_iconst (v := 0) ok dX7_isFree_5 (by decide) ?_
  obtain ⟨v2, hv2, h⟩ := obind h
  refine j_iald ok hv2 dX7_isFree_6 ?_
  obtain ⟨hz2, h⟩ := dz_some h
  refine j_irem ok dX7_isFree_7 hz2 ?_
  refine j_istore (L' := [(5, .int (l3 - l3 / v2 * v2)), (0, .ref (X.B + l0)), (1, .ref (X.B + l1)), (2, .int l2), (3, .int l3), (4, .int l4)]) ok dX7_isFree_8 (by decide) rfl ?_
  refine j_iload_n ok dX7_isFree_10 rfl 4 rfl ?_
  refine j_aload_n ok dX7_isFree_11 rfl 1 rfl ?_
  obtain ⟨v4, hv4, h⟩ := obind h
  refine k_getR ok fl_X7_9 hv4 dX7_isFree_12 ?_
  refine j_iconst (v := 0) ok dX7_isFree_15 (by decide) ?_
  obtain ⟨v5, hv5, h⟩ := obind h
  refine j_iald ok hv5 dX7_isFree_16 ?_
  obtain ⟨hz5, h⟩ := dz_some h
  refine j_idiv ok dX7_isFree_17 hz5 ?_
  refine j_istore (L' := [(6, .int (l3 / v5)), (5, .int (l3 - l3 / v2 * v2)), (0, .ref (X.B + l0)), (1, .ref (X.B + l1)), (2, .int l2), (3, .int l3), (4, .int l4)]) ok dX7_isFree_18 (by decide) rfl ?_
  refine j_iload ok dX7_isFree_20 6 rfl ?_
  refine j_aload_n ok dX7_isFree_22 rfl 2 rfl ?_
  obtain ⟨v7, hv7, h⟩ := obind h
  refine k_getR ok fl_X7_9 hv7 dX7_isFree_23 ?_
  refine j_iconst (v := 0) ok dX7_isFree_26 (by decide) ?_
  obtain ⟨v8, hv8, h⟩ := obind h
  refine j_iald ok hv8 dX7_isFree_27 ?_
  obtain ⟨hz8, h⟩ := dz_some h
  refine j_irem ok dX7_isFree_28 hz8 ?_
  refine j_iload ok dX7_isFree_29 1 rfl ?_
  refine j_isub ok dX7_isFree_31 ?_
  obtain ⟨q10, hq10, h⟩ := obind h
  refine k_S1 ok kl_X7_103 ⟨Nat.le_of_ble_eq_true rfl, Nat.le_of_ble_eq_true rfl⟩ [.int ((l4 - l4 / v8 * v8) - (l3 - l3 / v2 * v2))] rfl rfl (Nat.le_of_ble_eq_true rfl) (tJ6_signum_0f7a4 ok.fl X.V ((l4 - l4 / v8 * v8) - (l3 - l3 / v2 * v2)) G hq10) dX7_isFree_32 ?_
  refine j_istore (L' := [(7, .int q10.1), (6, .int (l3 / v5)), (5, .int (l3 - l3 / v2 * v2)), (0, .ref (X.B + l0)), (1, .ref (X.B + l1)), (2, .int l2), (3, .int l3), (4, .int l4)]) ok dX7_isFree_35 (by decide) rfl ?_
  refine j_iload ok dX7_isFree_37 7 rfl ?_
  refine j_aload_n ok dX7_isFree_39 rfl 3 rfl ?_
  obtain ⟨v11, hv11, h⟩ := obind h
  refine k_getR ok fl_X7_9 hv11 dX7_isFree_40 ?_
  refine j_iconst (v := 0) ok dX7_isFree_43 (by decide) ?_
  obtain ⟨v12, hv12, h⟩ := obind h
  refine j_iald ok hv12 dX7_isFree_44 ?_
  obtain ⟨hz12, h⟩ := dz_some h
  refine j_idiv ok dX7_isFree_45 hz12 ?_
  refine j_iload ok dX7_isFree_46 1 rfl ?_
  refine j_isub ok dX7_isFree_48 ?_
  obtain ⟨q14, hq14, h⟩ := obind h
  refine k_S1 ok kl_X7_103 ⟨Nat.le_of_ble_eq_true rfl, Nat.le_of_ble_eq_true rfl⟩ [.int ((l4 / v12) - (l3 / v5))] rfl rfl (Nat.le_of_ble_eq_true rfl) (tJ6_signum_0f7a4 ok.fl X.V ((l4 / v12) - (l3 / v5)) q10.2 hq14) dX7_isFree_49 ?_
  refine j_istore (L' := [(8, .int q14.1), (7, .int q10.1), (6, .int (l3 / v5)), (5, .int (l3 - l3 / v2 * v2)), (0, .ref (X.B + l0)), (1, .ref (X.B + l1)), (2, .int l2), (3, .int l3), (4, .int l4)]) ok dX7_isFree_52 (by decide) rfl ?_
  refine j_iload_n ok dX7_isFree_54 rfl 7 rfl ?_
  refine j_iload ok dX7_isFree_55 1 rfl ?_
  refine j_iadd ok dX7_isFree_57 ?_
  refine j_iload ok dX7_isFree_58 0 rfl ?_
  refine j_aload_n ok dX7_isFree_60 rfl 4 rfl ?_
  obtain ⟨v15, hv15, h⟩ := obind h
  refine k_getR ok fl_X7_9 hv15 dX7_isFree_61 ?_
  refine j_iconst (v := 0) ok dX7_isFree_64 (by decide) ?_
  obtain ⟨v16, hv16, h⟩ := obind h
  refine j_iald ok hv16 dX7_isFree_65 ?_
  refine j_imul ok dX7_isFree_66 ?_
  refine j_iadd ok dX7_isFree_67 ?_
  refine j_istore (L' := [(9, .int ((l3 + q10.1) + (q14.1 * v16))), (8, .int q14.1), (7, .int q10.1), (6, .int (l3 / v5)), (5, .int (l3 - l3 / v2 * v2)), (0, .ref (X.B + l0)), (1, .ref (X.B + l1)), (2, .int l2), (3, .int l3), (4, .int l4)]) ok dX7_isFree_68 (by decide) rfl ?_
  have hJ : J X 10 70 [(0, .ref (X.B + l0)), (1, .ref (X.B + l1)), (2, .int l2), (4, .int l4), (7, .int q10.1), (8, .int q14.1), (9, .int ((l3 + q10.1) + (q14.1 * v16)))] [] q14.2 := j_loop (loc := fun s : Int32 => [(0, .ref (X.B + l0)), (1, .ref (X.B + l1)), (2, .int l2), (4, .int l4), (7, .int q10.1), (8, .int q14.1), (9, .int s)]) (F := (finI X)) (fun s G r G' hb hk => jX7_isFree_70 ok l0 l1 l2 l4 q10.1 q14.1 s G hb hk) _ _ _ _ _ h hK
  exact J.sub [5, 6, 7, 9, 2, 1, 0] rfl hJ

def fX7_isFree (l0 : Nat) (l1 : Nat) (l2 : Int32) (l3 : Int32) (l4 : Int32) (G : Mem) : Option (Int32 × Mem) := fX7_isFree_0 l0 l1 l2 l3 l4 G
set_option maxRecDepth 100000 in
theorem tX7_isFree {l : Launch} (hfl : l.stackTraces = false) (V : Wd) (l0 : Nat) (l1 : Nat) (l2 : Int32) (l3 : Int32) (l4 : Int32) (G : Mem) {r : Int32} {G' : Mem} (h : fX7_isFree l0 l1 l2 l3 l4 G = some (r, G')) : Mx l yX7_isFree cX7_isFree 10 (some .boolean) 1 20 V [.ref (V.B + l0), .ref (V.B + l1), .int l2, .int l3, .int l4] G (.inl (some (.int r))) G' :=
  mx_of (L := [(0, .ref (V.B + l0)), (1, .ref (V.B + l1)), (2, .int l2), (3, .int l3), (4, .int l4)]) hfl (by decide +kernel) (Nat.le_of_ble_eq_true rfl) rfl (fun X hl hV hin ok he => by
    subst hl; subst hV
    exact J.sub [0, 1, 2, 3, 4] rfl (jX7_isFree_0 ok l0 l1 l2 l3 l4 G h he))
def fX7_reaches_133  (s0 : Int32) (G : Mem) : Option (Int32 × Mem) :=
  rz s0 <|
  some (s0, G)

set_option maxRecDepth 100000 in
set_option maxHeartbeats 4000000 in
theorem jX7_reaches_133 {X : Cx} (ok : OK X cX7_reaches RX7 (some .boolean) 8 2 120)  (s0 : Int32) (G : Mem) {r : Int32} {G' : Mem} (h : fX7_reaches_133 s0 G = some (r, G')) (hK : (finI X) r G') : J X 8 133 [] [.int s0] G := by
  unfold fX7_reaches_133 at h
  obtain ⟨hz1, h⟩ := rz_some h
  obtain ⟨er, eG⟩ := inj2 h
  subst er; subst eG
  exact j_zret ok rfl hz1 dX7_reaches_133 hK

def fX7_reaches_132   (G : Mem) : Option (Int32 × Mem) :=
  fX7_reaches_133 (0 : Int32) G

set_option maxRecDepth 100000 in
set_option maxHeartbeats 4000000 in
theorem jX7_reaches_132 {X : Cx} (ok : OK X cX7_reaches RX7 (some .boolean) 8 2 120)   (G : Mem) {r : Int32} {G' : Mem} (h : fX7_reaches_132  G = some (r, G')) (hK : (finI X) r G') : J X 8 132 [] [] G := by
  unfold fX7_reaches_132 at h
  refine j_iconst (v := 0) ok dX7_reaches_132 (by decide) ?_
  exact J.sub [] rfl (jX7_reaches_133 ok (0 : Int32) G h hK)

def fX7_reaches_226  (s0 : Int32) (G : Mem) : Option (Int32 × Mem) :=
  rz s0 <|
  some (s0, G)

set_option maxRecDepth 100000 in
set_option maxHeartbeats 4000000 in
theorem jX7_reaches_226 {X : Cx} (ok : OK X cX7_reaches RX7 (some .boolean) 8 2 120)  (s0 : Int32) (G : Mem) {r : Int32} {G' : Mem} (h : fX7_reaches_226 s0 G = some (r, G')) (hK : (finI X) r G') : J X 8 226 [] [.int s0] G := by
  unfold fX7_reaches_226 at h
  obtain ⟨hz1, h⟩ := rz_some h
  obtain ⟨er, eG⟩ := inj2 h
  subst er; subst eG
  exact j_zret ok rfl hz1 dX7_reaches_226 hK

def fX7_reaches_225   (G : Mem) : Option (Int32 × Mem) :=
  fX7_reaches_226 (0 : Int32) G

set_option maxRecDepth 100000 in
set_option maxHeartbeats 4000000 in
theorem jX7_reaches_225 {X : Cx} (ok : OK X cX7_reaches RX7 (some .boolean) 8 2 120)   (G : Mem) {r : Int32} {G' : Mem} (h : fX7_reaches_225  G = some (r, G')) (hK : (finI X) r G') : J X 8 225 [] [] G := by
  unfold fX7_reaches_225 at h
  refine j_iconst (v := 0) ok dX7_reaches_225 (by decide) ?_
  exact J.sub [] rfl (jX7_reaches_226 ok (0 : Int32) G h hK)

def fX7_reaches_209 (l0 : Nat) (l1 : Nat) (l2 : Int32) (l3 : Int32) (l4 : Int32)  (G : Mem) : Option (Int32 × Mem) :=
  ck G 17 l0 <| (fX7_isFree l0 l1 l2 l3 l4 G).bind fun q1 =>
  if q1.1 = (0 : Int32) then
    fX7_reaches_225 q1.2
  else
    fX7_reaches_226 (1 : Int32) q1.2

set_option maxRecDepth 100000 in
set_option maxHeartbeats 4000000 in
theorem jX7_reaches_209 {X : Cx} (ok : OK X cX7_reaches RX7 (some .boolean) 8 2 120) (l0 : Nat) (l1 : Nat) (l2 : Int32) (l3 : Int32) (l4 : Int32)  (G : Mem) {r : Int32} {G' : Mem} (h : fX7_reaches_209 l0 l1 l2 l3 l4 G = some (r, G')) (hK : (finI X) r G') : J X 8 209 [(0, .ref (X.B + l0)), (1, .ref (X.B + l1)), (2, .int l2), (3, .int l3), (4, .int l4)] [] G := by
  unfold fX7_reaches_209 at h
  refine j_aload_n ok dX7_reaches_209 rfl 0 rfl ?_
  refine j_aload_n ok dX7_reaches_210 rfl 1 rfl ?_
  refine j_iload_n ok dX7_reaches_211 rfl 2 rfl ?_
  refine j_iload_n ok dX7_reaches_212 rfl 3 rfl ?_
  refine j_iload ok dX7_reaches_213 4 rfl ?_
  obtain ⟨kq1, h⟩ := ck_some h
  obtain ⟨q1, hq1, h⟩ := obind h
  refine k_V1 ok kl_X7_116 ⟨Nat.le_of_ble_eq_true rfl, Nat.le_of_ble_eq_true rfl⟩ [.ref (X.B + l1), .int l2, .int l3, .int l4] kq1 rfl rfl (Nat.le_of_ble_eq_true rfl) (tX7_isFree ok.fl X.V l0 l1 l2 l3 l4 G hq1) dX7_reaches_215 ?_
  rcases ite_some h with ⟨c2, h⟩ | ⟨c2, h⟩
  · refine j_if_eq (tgt := 225) ok dX7_reaches_218 (by decide) (fun _ => ?_) (fun z => absurd c2 z)
    exact J.sub [] rfl (jX7_reaches_225 ok q1.2 h hK)
  · refine j_if_eq (tgt := 225) ok dX7_reaches_218 (by decide) (fun z => absurd z c2) (fun _ => ?_)
    refine j_iconst (v := 1) ok dX7_reaches_221 (by decide) ?_
    refine j_goto (tgt := 226) ok dX7_reaches_222 (by decide) ?_
    exact J.sub [] rfl (jX7_reaches_226 ok (1 : Int32) q1.2 h hK)

def fX7_reaches_171  (s0 : Int32) (G : Mem) : Option (Int32 × Mem) :=
  rz s0 <|
  some (s0, G)

set_option maxRecDepth 100000 in
set_option maxHeartbeats 4000000 in
theorem jX7_reaches_171 {X : Cx} (ok : OK X cX7_reaches RX7 (some .boolean) 8 2 120)  (s0 : Int32) (G : Mem) {r : Int32} {G' : Mem} (h : fX7_reaches_171 s0 G = some (r, G')) (hK : (finI X) r G') : J X 8 171 [] [.int s0] G := by
  unfold fX7_reaches_171 at h
  obtain ⟨hz1, h⟩ := rz_some h
  obtain ⟨er, eG⟩ := inj2 h
  subst er; subst eG
  exact j_zret ok rfl hz1 dX7_reaches_171 hK

def fX7_reaches_170   (G : Mem) : Option (Int32 × Mem) :=
  fX7_reaches_171 (0 : Int32) G

set_option maxRecDepth 100000 in
set_option maxHeartbeats 4000000 in
theorem jX7_reaches_170 {X : Cx} (ok : OK X cX7_reaches RX7 (some .boolean) 8 2 120)   (G : Mem) {r : Int32} {G' : Mem} (h : fX7_reaches_170  G = some (r, G')) (hK : (finI X) r G') : J X 8 170 [] [] G := by
  unfold fX7_reaches_170 at h
  refine j_iconst (v := 0) ok dX7_reaches_170 (by decide) ?_
  exact J.sub [] rfl (jX7_reaches_171 ok (0 : Int32) G h hK)

def fX7_reaches_196  (s0 : Int32) (G : Mem) : Option (Int32 × Mem) :=
  rz s0 <|
  some (s0, G)

set_option maxRecDepth 100000 in
set_option maxHeartbeats 4000000 in
theorem jX7_reaches_196 {X : Cx} (ok : OK X cX7_reaches RX7 (some .boolean) 8 2 120)  (s0 : Int32) (G : Mem) {r : Int32} {G' : Mem} (h : fX7_reaches_196 s0 G = some (r, G')) (hK : (finI X) r G') : J X 8 196 [] [.int s0] G := by
  unfold fX7_reaches_196 at h
  obtain ⟨hz1, h⟩ := rz_some h
  obtain ⟨er, eG⟩ := inj2 h
  subst er; subst eG
  exact j_zret ok rfl hz1 dX7_reaches_196 hK

def fX7_reaches_195   (G : Mem) : Option (Int32 × Mem) :=
  fX7_reaches_196 (0 : Int32) G

set_option maxRecDepth 100000 in
set_option maxHeartbeats 4000000 in
theorem jX7_reaches_195 {X : Cx} (ok : OK X cX7_reaches RX7 (some .boolean) 8 2 120)   (G : Mem) {r : Int32} {G' : Mem} (h : fX7_reaches_195  G = some (r, G')) (hK : (finI X) r G') : J X 8 195 [] [] G := by
  unfold fX7_reaches_195 at h
  refine j_iconst (v := 0) ok dX7_reaches_195 (by decide) ?_
  exact J.sub [] rfl (jX7_reaches_196 ok (0 : Int32) G h hK)

def fX7_reaches_148  (s0 : Int32) (G : Mem) : Option (Int32 × Mem) :=
  rz s0 <|
  some (s0, G)

set_option maxRecDepth 100000 in
set_option maxHeartbeats 4000000 in
theorem jX7_reaches_148 {X : Cx} (ok : OK X cX7_reaches RX7 (some .boolean) 8 2 120)  (s0 : Int32) (G : Mem) {r : Int32} {G' : Mem} (h : fX7_reaches_148 s0 G = some (r, G')) (hK : (finI X) r G') : J X 8 148 [] [.int s0] G := by
  unfold fX7_reaches_148 at h
  obtain ⟨hz1, h⟩ := rz_some h
  obtain ⟨er, eG⟩ := inj2 h
  subst er; subst eG
  exact j_zret ok rfl hz1 dX7_reaches_148 hK

def fX7_reaches_71 (l0 : Nat) (l1 : Nat) (l2 : Int32) (l3 : Int32) (l4 : Int32) (l5 : Int32) (l6 : Int32) (s0 : Int32) (G : Mem) : Option (Int32 × Mem) :=
  (gA G 1 l1 (l2 + l3)).bind fun v1 =>
  (fX7_kindOf v1 G).bind fun q2 =>
  if q2.1 = (0 : Int32) then
    if (1 : Int32) < l5 then
      fX7_reaches_132 q2.2
    else
      if (1 : Int32) < l6 then
        fX7_reaches_132 q2.2
      else
        fX7_reaches_133 (1 : Int32) q2.2
  else
  if q2.1 = (1 : Int32) then
    if s0 = (0 : Int32) then
      if l5 = l6 then
        fX7_reaches_209 l0 l1 l2 l3 l4 q2.2
      else
        fX7_reaches_225 q2.2
    else
      fX7_reaches_209 l0 l1 l2 l3 l4 q2.2
  else
  if q2.1 = (2 : Int32) then
    if s0 = (0 : Int32) then
      fX7_reaches_170 q2.2
    else
      ck q2.2 17 l0 <| (fX7_isFree l0 l1 l2 l3 l4 q2.2).bind fun q11 =>
      if q11.1 = (0 : Int32) then
        fX7_reaches_170 q11.2
      else
        fX7_reaches_171 (1 : Int32) q11.2
  else
  if q2.1 = (3 : Int32) then
    if l5 = l6 then
      ck q2.2 17 l0 <| (fX7_isFree l0 l1 l2 l3 l4 q2.2).bind fun q15 =>
      if q15.1 = (0 : Int32) then
        fX7_reaches_195 q15.2
      else
        fX7_reaches_196 (1 : Int32) q15.2
    else
      fX7_reaches_195 q2.2
  else
  if q2.1 = (4 : Int32) then
    if (l5 * l6) = (2 : Int32) then
      fX7_reaches_148 (1 : Int32) q2.2
    else
      fX7_reaches_148 (0 : Int32) q2.2
  else
  if s0 = (0 : Int32) then
    if l5 = l6 then
      fX7_reaches_209 l0 l1 l2 l3 l4 q2.2
    else
      fX7_reaches_225 q2.2
  else
    fX7_reaches_209 l0 l1 l2 l3 l4 q2.2

set_option maxRecDepth 100000 in
set_option maxHeartbeats 4000000 in
theorem jX7_reaches_71 {X : Cx} (ok : OK X cX7_reaches RX7 (some .boolean) 8 2 120) (l0 : Nat) (l1 : Nat) (l2 : Int32) (l3 : Int32) (l4 : Int32) (l5 : Int32) (l6 : Int32) (s0 : Int32) (G : Mem) {r : Int32} {G' : Mem} (h : fX7_reaches_71 l0 l1 l2 l3 l4 l5 l6 s0 G = some (r, G')) (hK : (finI X) r G') : J X 8 71 [(0, .ref (X.B + l0)), (1, .ref (X.B + l1)), (2, .int l2), (3, .int l3), (4, .int l4), (5, .int l5), (6, .int l6)] [.int s0] G := by
  unfold fX7_reaches_71 at h
  refine j_istore (L' := [(7, .int s0), (0, .ref (X.B + l0)), (1, .ref (X.B + l1)), (2, .int l2), (3, .int l3), (4, .int l4), (5, .int l5), (6, .int l6)]) ok dX7_reaches_71 (by decide) rfl ?_
  refine j_aload_n ok dX7_reaches_73 rfl 2 rfl ?_
  refine j_iload_n ok dX7_reaches_74 rfl 3 rfl ?_
  refine j_iload_n ok dX7_reaches_75 rfl 4 rfl ?_
  refine j_iadd ok dX7_reaches_76 ?_
  obtain ⟨v1, hv1, h⟩ := obind h
  refine j_iald ok hv1 dX7_reaches_77 ?_
  obtain ⟨q2, hq2, h⟩ := obind h
  refine k_S1 ok kl_X7_113 ⟨Nat.le_of_ble_eq_true rfl, Nat.le_of_ble_eq_true rfl⟩ [.int v1] rfl rfl (Nat.le_of_ble_eq_true rfl) (tX7_kindOf ok.fl X.V v1 G hq2) dX7_reaches_78 ?_
  rcases ite_some h with ⟨c3, h⟩ | ⟨c3, h⟩
  · refine j_tsw_in (tgt := 116) (off := 35) ok dX7_reaches_81 (by rw [c3]; decide) (by rw [c3]; decide) (by rw [c3]; rfl) (by decide) ?_
    refine j_iload ok dX7_reaches_116 6 rfl ?_
    refine j_iconst (v := 1) ok dX7_reaches_118 (by decide) ?_
    rcases ite_some h with ⟨c4, h⟩ | ⟨c4, h⟩
    · refine j_icmp_gt (tgt := 132) ok dX7_reaches_119 (by decide) (fun _ => ?_) (fun z => absurd c4 z)
      exact J.sub [] rfl (jX7_reaches_132 ok q2.2 h hK)
    · refine j_icmp_gt (tgt := 132) ok dX7_reaches_119 (by decide) (fun z => absurd z c4) (fun _ => ?_)
      refine j_iload ok dX7_reaches_122 7 rfl ?_
      refine j_iconst (v := 1) ok dX7_reaches_124 (by decide) ?_
      rcases ite_some h with ⟨c5, h⟩ | ⟨c5, h⟩
      · refine j_icmp_gt (tgt := 132) ok dX7_reaches_125 (by decide) (fun _ => ?_) (fun z => absurd c5 z)
        exact J.sub [] rfl (jX7_reaches_132 ok q2.2 h hK)
      · refine j_icmp_gt (tgt := 132) ok dX7_reaches_125 (by decide) (fun z => absurd z c5) (fun _ => ?_)
        refine j_iconst (v := 1) ok dX7_reaches_128 (by decide) ?_
        refine j_goto (tgt := 133) ok dX7_reaches_129 (by decide) ?_
        exact J.sub [] rfl (jX7_reaches_133 ok (1 : Int32) q2.2 h hK)
  rcases ite_some h with ⟨c6, h⟩ | ⟨c6, h⟩
  · refine j_tsw_in (tgt := 197) (off := 116) ok dX7_reaches_81 (by rw [c6]; decide) (by rw [c6]; decide) (by rw [c6]; rfl) (by decide) ?_
    refine j_iload ok dX7_reaches_197 0 rfl ?_
    rcases ite_some h with ⟨c7, h⟩ | ⟨c7, h⟩
    · refine j_if_ne (tgt := 209) ok dX7_reaches_199 (by decide) (fun z => absurd c7 z) (fun _ => ?_)
      refine j_iload ok dX7_reaches_202 6 rfl ?_
      refine j_iload ok dX7_reaches_204 7 rfl ?_
      rcases ite_some h with ⟨c8, h⟩ | ⟨c8, h⟩
      · refine j_icmp_ne (tgt := 225) ok dX7_reaches_206 (by decide) (fun z => absurd c8 z) (fun _ => ?_)
        exact J.sub [1, 2, 3, 4, 5] rfl (jX7_reaches_209 ok l0 l1 l2 l3 l4 q2.2 h hK)
      · refine j_icmp_ne (tgt := 225) ok dX7_reaches_206 (by decide) (fun _ => ?_) (fun z => absurd z c8)
        exact J.sub [] rfl (jX7_reaches_225 ok q2.2 h hK)
    · refine j_if_ne (tgt := 209) ok dX7_reaches_199 (by decide) (fun _ => ?_) (fun z => absurd z c7)
      exact J.sub [1, 2, 3, 4, 5] rfl (jX7_reaches_209 ok l0 l1 l2 l3 l4 q2.2 h hK)
  rcases ite_some h with ⟨c9, h⟩ | ⟨c9, h⟩
  · refine j_tsw_in (tgt := 149) (off := 68) ok dX7_reaches_81 (by rw [c9]; decide) (by rw [c9]; decide) (by rw [c9]; rfl) (by decide) ?_
    refine j_iload ok dX7_reaches_149 0 rfl ?_
    rcases ite_some h with ⟨c10, h⟩ | ⟨c10, h⟩
    · refine j_if_eq (tgt := 170) ok dX7_reaches_151 (by decide) (fun _ => ?_) (fun z => absurd c10 z)
      exact J.sub [] rfl (jX7_reaches_170 ok q2.2 h hK)
    · refine j_if_eq (tgt := 170) ok dX7_reaches_151 (by decide) (fun z => absurd z c10) (fun _ => ?_)
      refine j_aload_n ok dX7_reaches_154 rfl 1 rfl ?_
      refine j_aload_n ok dX7_reaches_155 rfl 2 rfl ?_
      refine j_iload_n ok dX7_reaches_156 rfl 3 rfl ?_
      refine j_iload_n ok dX7_reaches_157 rfl 4 rfl ?_
      refine j_iload ok dX7_reaches_158 5 rfl ?_
      obtain ⟨kq11, h⟩ := ck_some h
      obtain ⟨q11, hq11, h⟩ := obind h
      refine k_V1 ok kl_X7_116 ⟨Nat.le_of_ble_eq_true rfl, Nat.le_of_ble_eq_true rfl⟩ [.ref (X.B + l1), .int l2, .int l3, .int l4] kq11 rfl rfl (Nat.le_of_ble_eq_true rfl) (tX7_isFree ok.fl X.V l0 l1 l2 l3 l4 q2.2 hq11) dX7_reaches_160 ?_
      rcases ite_some h with ⟨c12, h⟩ | ⟨c12, h⟩
      · refine j_if_eq (tgt := 170) ok dX7_reaches_163 (by decide) (fun _ => ?_) (fun z => absurd c12 z)
        exact J.sub [] rfl (jX7_reaches_170 ok q11.2 h hK)
      · refine j_if_eq (tgt := 170) ok dX7_reaches_163 (by decide) (fun z => absurd z c12) (fun _ => ?_)
        refine j_iconst (v := 1) ok dX7_reaches_166 (by decide) ?_
        refine j_goto (tgt := 171) ok dX7_reaches_167 (by decide) ?_
        exact J.sub [] rfl (jX7_reaches_171 ok (1 : Int32) q11.2 h hK)
  rcases ite_some h with ⟨c13, h⟩ | ⟨c13, h⟩
  · refine j_tsw_in (tgt := 172) (off := 91) ok dX7_reaches_81 (by rw [c13]; decide) (by rw [c13]; decide) (by rw [c13]; rfl) (by decide) ?_
    refine j_iload ok dX7_reaches_172 6 rfl ?_
    refine j_iload ok dX7_reaches_174 7 rfl ?_
    rcases ite_some h with ⟨c14, h⟩ | ⟨c14, h⟩
    · refine j_icmp_ne (tgt := 195) ok dX7_reaches_176 (by decide) (fun z => absurd c14 z) (fun _ => ?_)
      refine j_aload_n ok dX7_reaches_179 rfl 1 rfl ?_
      refine j_aload_n ok dX7_reaches_180 rfl 2 rfl ?_
      refine j_iload_n ok dX7_reaches_181 rfl 3 rfl ?_
      refine j_iload_n ok dX7_reaches_182 rfl 4 rfl ?_
      refine j_iload ok dX7_reaches_183 5 rfl ?_
      obtain ⟨kq15, h⟩ := ck_some h
      obtain ⟨q15, hq15, h⟩ := obind h
      refine k_V1 ok kl_X7_116 ⟨Nat.le_of_ble_eq_true rfl, Nat.le_of_ble_eq_true rfl⟩ [.ref (X.B + l1), .int l2, .int l3, .int l4] kq15 rfl rfl (Nat.le_of_ble_eq_true rfl) (tX7_isFree ok.fl X.V l0 l1 l2 l3 l4 q2.2 hq15) dX7_reaches_185 ?_
      rcases ite_some h with ⟨c16, h⟩ | ⟨c16, h⟩
      · refine j_if_eq (tgt := 195) ok dX7_reaches_188 (by decide) (fun _ => ?_) (fun z => absurd c16 z)
        exact J.sub [] rfl (jX7_reaches_195 ok q15.2 h hK)
      · refine j_if_eq (tgt := 195) ok dX7_reaches_188 (by decide) (fun z => absurd z c16) (fun _ => ?_)
        refine j_iconst (v := 1) ok dX7_reaches_191 (by decide) ?_
        refine j_goto (tgt := 196) ok dX7_reaches_192 (by decide) ?_
        exact J.sub [] rfl (jX7_reaches_196 ok (1 : Int32) q15.2 h hK)
    · refine j_icmp_ne (tgt := 195) ok dX7_reaches_176 (by decide) (fun _ => ?_) (fun z => absurd z c14)
      exact J.sub [] rfl (jX7_reaches_195 ok q2.2 h hK)
  rcases ite_some h with ⟨c17, h⟩ | ⟨c17, h⟩
  · refine j_tsw_in (tgt := 134) (off := 53) ok dX7_reaches_81 (by rw [c17]; decide) (by rw [c17]; decide) (by rw [c17]; rfl) (by decide) ?_
    refine j_iload ok dX7_reaches_134 6 rfl ?_
    refine j_iload ok dX7_reaches_136 7 rfl ?_
    refine j_imul ok dX7_reaches_138 ?_
    refine j_iconst (v := 2) ok dX7_reaches_139 (by decide) ?_
    rcases ite_some h with ⟨c18, h⟩ | ⟨c18, h⟩
    · refine j_icmp_ne (tgt := 147) ok dX7_reaches_140 (by decide) (fun z => absurd c18 z) (fun _ => ?_)
      refine j_iconst (v := 1) ok dX7_reaches_143 (by decide) ?_
      refine j_goto (tgt := 148) ok dX7_reaches_144 (by decide) ?_
      exact J.sub [] rfl (jX7_reaches_148 ok (1 : Int32) q2.2 h hK)
    · refine j_icmp_ne (tgt := 147) ok dX7_reaches_140 (by decide) (fun _ => ?_) (fun z => absurd z c18)
      refine j_iconst (v := 0) ok dX7_reaches_147 (by decide) ?_
      exact J.sub [] rfl (jX7_reaches_148 ok (0 : Int32) q2.2 h hK)
  refine j_tsw_out (tgt := 197) ok dX7_reaches_81 (sw_out5 c3 c6 c9 c13 c17) (by decide) ?_
  refine j_iload ok dX7_reaches_197 0 rfl ?_
  rcases ite_some h with ⟨c19, h⟩ | ⟨c19, h⟩
  · refine j_if_ne (tgt := 209) ok dX7_reaches_199 (by decide) (fun z => absurd c19 z) (fun _ => ?_)
    refine j_iload ok dX7_reaches_202 6 rfl ?_
    refine j_iload ok dX7_reaches_204 7 rfl ?_
    rcases ite_some h with ⟨c20, h⟩ | ⟨c20, h⟩
    · refine j_icmp_ne (tgt := 225) ok dX7_reaches_206 (by decide) (fun z => absurd c20 z) (fun _ => ?_)
      exact J.sub [1, 2, 3, 4, 5] rfl (jX7_reaches_209 ok l0 l1 l2 l3 l4 q2.2 h hK)
    · refine j_icmp_ne (tgt := 225) ok dX7_reaches_206 (by decide) (fun _ => ?_) (fun z => absurd z c20)
      exact J.sub [] rfl (jX7_reaches_225 ok q2.2 h hK)
  · refine j_if_ne (tgt := 209) ok dX7_reaches_199 (by decide) (fun _ => ?_) (fun z => absurd z c19)
    exact J.sub [1, 2, 3, 4, 5] rfl (jX7_reaches_209 ok l0 l1 l2 l3 l4 q2.2 h hK)

def fX7_reaches_66 (l0 : Nat) (l1 : Nat) (l2 : Int32) (l3 : Int32) (l4 : Int32) (l5 : Int32) (l6 : Int32)  (G : Mem) : Option (Int32 × Mem) :=
  fX7_reaches_71 l0 l1 l2 l3 l4 l5 l6 (1 : Int32) G

set_option maxRecDepth 100000 in
set_option maxHeartbeats 4000000 in
theorem jX7_reaches_66 {X : Cx} (ok : OK X cX7_reaches RX7 (some .boolean) 8 2 120) (l0 : Nat) (l1 : Nat) (l2 : Int32) (l3 : Int32) (l4 : Int32) (l5 : Int32) (l6 : Int32)  (G : Mem) {r : Int32} {G' : Mem} (h : fX7_reaches_66 l0 l1 l2 l3 l4 l5 l6 G = some (r, G')) (hK : (finI X) r G') : J X 8 66 [(0, .ref (X.B + l0)), (1, .ref (X.B + l1)), (2, .int l2), (3, .int l3), (4, .int l4), (5, .int l5), (6, .int l6)] [] G := by
  unfold fX7_reaches_66 at h
  refine j_iconst (v := 1) ok dX7_reaches_66 (by decide) ?_
  refine j_goto (tgt := 71) ok dX7_reaches_67 (by decide) ?_
  exact J.sub [0, 1, 2, 3, 4, 5, 6] rfl (jX7_reaches_71 ok l0 l1 l2 l3 l4 l5 l6 (1 : Int32) G h hK)

def fX7_reaches_0 (l0 : Nat) (l1 : Nat) (l2 : Int32) (l3 : Int32) (l4 : Int32)  (G : Mem) : Option (Int32 × Mem) :=
  (gR G 17 l0 0).bind fun v1 =>
  (gA G 1 v1 (0 : Int32)).bind fun v2 =>
  dz v2 <|
  (gR G 17 l0 0).bind fun v4 =>
  (gA G 1 v4 (0 : Int32)).bind fun v5 =>
  dz v5 <|
  (gR G 17 l0 0).bind fun v7 =>
  (gA G 1 v7 (0 : Int32)).bind fun v8 =>
  dz v8 <|
  (gR G 17 l0 0).bind fun v10 =>
  (gA G 1 v10 (0 : Int32)).bind fun v11 =>
  dz v11 <|
  if ((if 0 ≤ ((l3 - l3 / v2 * v2) - (l4 - l4 / v5 * v5)) then ((l3 - l3 / v2 * v2) - (l4 - l4 / v5 * v5)) else 0 - ((l3 - l3 / v2 * v2) - (l4 - l4 / v5 * v5))) + (if 0 ≤ ((l3 / v8) - (l4 / v11)) then ((l3 / v8) - (l4 / v11)) else 0 - ((l3 / v8) - (l4 / v11)))) = (0 : Int32) then
    some ((0 : Int32), G)
  else
    if (if 0 ≤ ((l3 - l3 / v2 * v2) - (l4 - l4 / v5 * v5)) then ((l3 - l3 / v2 * v2) - (l4 - l4 / v5 * v5)) else 0 - ((l3 - l3 / v2 * v2) - (l4 - l4 / v5 * v5))) = (0 : Int32) then
      fX7_reaches_66 l0 l1 l2 l3 l4 (if 0 ≤ ((l3 - l3 / v2 * v2) - (l4 - l4 / v5 * v5)) then ((l3 - l3 / v2 * v2) - (l4 - l4 / v5 * v5)) else 0 - ((l3 - l3 / v2 * v2) - (l4 - l4 / v5 * v5))) (if 0 ≤ ((l3 / v8) - (l4 / v11)) then ((l3 / v8) - (l4 / v11)) else 0 - ((l3 / v8) - (l4 / v11))) G
    else
      if (if 0 ≤ ((l3 / v8) - (l4 / v11)) then ((l3 / v8) - (l4 / v11)) else 0 - ((l3 / v8) - (l4 / v11))) = (0 : Int32) then
        fX7_reaches_66 l0 l1 l2 l3 l4 (if 0 ≤ ((l3 - l3 / v2 * v2) - (l4 - l4 / v5 * v5)) then ((l3 - l3 / v2 * v2) - (l4 - l4 / v5 * v5)) else 0 - ((l3 - l3 / v2 * v2) - (l4 - l4 / v5 * v5))) (if 0 ≤ ((l3 / v8) - (l4 / v11)) then ((l3 / v8) - (l4 / v11)) else 0 - ((l3 / v8) - (l4 / v11))) G
      else
        fX7_reaches_71 l0 l1 l2 l3 l4 (if 0 ≤ ((l3 - l3 / v2 * v2) - (l4 - l4 / v5 * v5)) then ((l3 - l3 / v2 * v2) - (l4 - l4 / v5 * v5)) else 0 - ((l3 - l3 / v2 * v2) - (l4 - l4 / v5 * v5))) (if 0 ≤ ((l3 / v8) - (l4 / v11)) then ((l3 / v8) - (l4 / v11)) else 0 - ((l3 / v8) - (l4 / v11))) (0 : Int32) G

set_option maxRecDepth 100000 in
set_option maxHeartbeats 4000000 in
theorem jX7_reaches_0 {X : Cx} (ok : OK X cX7_reaches RX7 (some .boolean) 8 2 120) (l0 : Nat) (l1 : Nat) (l2 : Int32) (l3 : Int32) (l4 : Int32)  (G : Mem) {r : Int32} {G' : Mem} (h : fX7_reaches_0 l0 l1 l2 l3 l4 G = some (r, G')) (hK : (finI X) r G') : J X 8 0 [(0, .ref (X.B + l0)), (1, .ref (X.B + l1)), (2, .int l2), (3, .int l3), (4, .int l4)] [] G := by
  unfold fX7_reaches_0 at h
  refine j_iload_n ok dX7_reaches_0 rfl 3 rfl ?_
  refine j_aload_n ok dX7_reaches_1 rfl 0 rfl ?_
  obtain ⟨v1, hv1, h⟩ := obind h
  refine k_getR ok fl_X7_9 hv1 dX7_reaches_2 ?_
  refine j_iconst (v := 0) ok dX7_reaches_5 (by decide) ?_
  obtain ⟨v2, hv2, h⟩ := obind h
  refine j_iald ok hv2 dX7_reaches_6 ?_
  obtain ⟨hz2, h⟩ := dz_some h
  refine j_irem ok dX7_reaches_7 hz2 ?_
  refine j_iload ok dX7_reaches_8 4 rfl ?_
  refine j_aload_n ok dX7_reaches_10 rfl 0 rfl ?_
  obtain ⟨v4, hv4, h⟩ := obind h
  refine k_getR ok fl_X7_9 hv4 dX7_reaches_11 ?_
  refine j_iconst (v := 0) ok dX7_reaches_14 (by decide) ?_
  obtain ⟨v5, hv5, h⟩ := obind h
  refine j_iald ok hv5 dX7_reaches_15 ?_
  obtain ⟨hz5, h⟩ := dz_some h
  refine j_irem ok dX7_reaches_16 hz5 ?_
  refine j_isub ok dX7_reaches_17 ?_
  refine k_mabs ok wm_X7_108 (Nat.le_of_ble_eq_true rfl) (Nat.le_of_ble_eq_true rfl) (Nat.le_of_ble_eq_true rfl) dX7_reaches_18 ?_
  refine j_istore (L' := [(5, .int (if 0 ≤ ((l3 - l3 / v2 * v2) - (l4 - l4 / v5 * v5)) then ((l3 - l3 / v2 * v2) - (l4 - l4 / v5 * v5)) else 0 - ((l3 - l3 / v2 * v2) - (l4 - l4 / v5 * v5)))), (0, .ref (X.B + l0)), (1, .ref (X.B + l1)), (2, .int l2), (3, .int l3), (4, .int l4)]) ok dX7_reaches_21 (by decide) rfl ?_
  refine j_iload_n ok dX7_reaches_23 rfl 4 rfl ?_
  refine j_aload_n ok dX7_reaches_24 rfl 1 rfl ?_
  obtain ⟨v7, hv7, h⟩ := obind h
  refine k_getR ok fl_X7_9 hv7 dX7_reaches_25 ?_
  refine j_iconst (v := 0) ok dX7_reaches_28 (by decide) ?_
  obtain ⟨v8, hv8, h⟩ := obind h
  refine j_iald ok hv8 dX7_reaches_29 ?_
  obtain ⟨hz8, h⟩ := dz_some h
  refine j_idiv ok dX7_reaches_30 hz8 ?_
  refine j_iload ok dX7_reaches_31 5 rfl ?_
  refine j_aload_n ok dX7_reaches_33 rfl 1 rfl ?_
  obtain ⟨v10, hv10, h⟩ := obind h
  refine k_getR ok fl_X7_9 hv10 dX7_reaches_34 ?_
  refine j_iconst (v := 0) ok dX7_reaches_37 (by decide) ?_
  obtain ⟨v11, hv11, h⟩ := obind h
  refine j_iald ok hv11 dX7_reaches_38 ?_
  obtain ⟨hz11, h⟩ := dz_some h
  refine j_idiv ok dX7_reaches_39 hz11 ?_
  refine j_isub ok dX7_reaches_40 ?_
  refine k_mabs ok wm_X7_108 (Nat.le_of_ble_eq_true rfl) (Nat.le_of_ble_eq_true rfl) (Nat.le_of_ble_eq_true rfl) dX7_reaches_41 ?_
  refine j_istore (L' := [(6, .int (if 0 ≤ ((l3 / v8) - (l4 / v11)) then ((l3 / v8) - (l4 / v11)) else 0 - ((l3 / v8) - (l4 / v11)))), (5, .int (if 0 ≤ ((l3 - l3 / v2 * v2) - (l4 - l4 / v5 * v5)) then ((l3 - l3 / v2 * v2) - (l4 - l4 / v5 * v5)) else 0 - ((l3 - l3 / v2 * v2) - (l4 - l4 / v5 * v5)))), (0, .ref (X.B + l0)), (1, .ref (X.B + l1)), (2, .int l2), (3, .int l3), (4, .int l4)]) ok dX7_reaches_44 (by decide) rfl ?_
  refine j_iload ok dX7_reaches_46 1 rfl ?_
  refine j_iload ok dX7_reaches_48 0 rfl ?_
  refine j_iadd ok dX7_reaches_50 ?_
  rcases ite_some h with ⟨c13, h⟩ | ⟨c13, h⟩
  · refine j_if_ne (tgt := 56) ok dX7_reaches_51 (by decide) (fun z => absurd c13 z) (fun _ => ?_)
    refine j_iconst (v := 0) ok dX7_reaches_54 (by decide) ?_
    obtain ⟨er, eG⟩ := inj2 h
    subst er; subst eG
    exact j_zret ok rfl (Or.inl rfl) dX7_reaches_55 hK
  · refine j_if_ne (tgt := 56) ok dX7_reaches_51 (by decide) (fun _ => ?_) (fun z => absurd z c13)
    refine j_iload ok dX7_reaches_56 1 rfl ?_
    rcases ite_some h with ⟨c14, h⟩ | ⟨c14, h⟩
    · refine j_if_eq (tgt := 66) ok dX7_reaches_58 (by decide) (fun _ => ?_) (fun z => absurd c14 z)
      exact J.sub [2, 3, 4, 5, 6, 1, 0] rfl (jX7_reaches_66 ok l0 l1 l2 l3 l4 (if 0 ≤ ((l3 - l3 / v2 * v2) - (l4 - l4 / v5 * v5)) then ((l3 - l3 / v2 * v2) - (l4 - l4 / v5 * v5)) else 0 - ((l3 - l3 / v2 * v2) - (l4 - l4 / v5 * v5))) (if 0 ≤ ((l3 / v8) - (l4 / v11)) then ((l3 / v8) - (l4 / v11)) else 0 - ((l3 / v8) - (l4 / v11))) G h hK)
    · refine j_if_eq (tgt := 66) ok dX7_reaches_58 (by decide) (fun z => absurd z c14) (fun _ => ?_)
      refine j_iload ok dX7_reaches_61 0 rfl ?_
      rcases ite_some h with ⟨c15, h⟩ | ⟨c15, h⟩
      · refine j_if_ne (tgt := 70) ok dX7_reaches_63 (by decide) (fun z => absurd c15 z) (fun _ => ?_)
        exact J.sub [2, 3, 4, 5, 6, 1, 0] rfl (jX7_reaches_66 ok l0 l1 l2 l3 l4 (if 0 ≤ ((l3 - l3 / v2 * v2) - (l4 - l4 / v5 * v5)) then ((l3 - l3 / v2 * v2) - (l4 - l4 / v5 * v5)) else 0 - ((l3 - l3 / v2 * v2) - (l4 - l4 / v5 * v5))) (if 0 ≤ ((l3 / v8) - (l4 / v11)) then ((l3 / v8) - (l4 / v11)) else 0 - ((l3 / v8) - (l4 / v11))) G h hK)
      · refine j_if_ne (tgt := 70) ok dX7_reaches_63 (by decide) (fun _ => ?_) (fun z => absurd z c15)
        refine j_iconst (v := 0) ok dX7_reaches_70 (by decide) ?_
        exact J.sub [2, 3, 4, 5, 6, 1, 0] rfl (jX7_reaches_71 ok l0 l1 l2 l3 l4 (if 0 ≤ ((l3 - l3 / v2 * v2) - (l4 - l4 / v5 * v5)) then ((l3 - l3 / v2 * v2) - (l4 - l4 / v5 * v5)) else 0 - ((l3 - l3 / v2 * v2) - (l4 - l4 / v5 * v5))) (if 0 ≤ ((l3 / v8) - (l4 / v11)) then ((l3 / v8) - (l4 / v11)) else 0 - ((l3 / v8) - (l4 / v11))) (0 : Int32) G h hK)

def fX7_reaches (l0 : Nat) (l1 : Nat) (l2 : Int32) (l3 : Int32) (l4 : Int32) (G : Mem) : Option (Int32 × Mem) := fX7_reaches_0 l0 l1 l2 l3 l4 G
set_option maxRecDepth 100000 in
theorem tX7_reaches {l : Launch} (hfl : l.stackTraces = false) (V : Wd) (l0 : Nat) (l1 : Nat) (l2 : Int32) (l3 : Int32) (l4 : Int32) (G : Mem) {r : Int32} {G' : Mem} (h : fX7_reaches l0 l1 l2 l3 l4 G = some (r, G')) : Mx l yX7_reaches cX7_reaches 8 (some .boolean) 2 120 V [.ref (V.B + l0), .ref (V.B + l1), .int l2, .int l3, .int l4] G (.inl (some (.int r))) G' :=
  mx_of (L := [(0, .ref (V.B + l0)), (1, .ref (V.B + l1)), (2, .int l2), (3, .int l3), (4, .int l4)]) hfl (by decide +kernel) (Nat.le_of_ble_eq_true rfl) rfl (fun X hl hV hin ok he => by
    subst hl; subst hV
    exact J.sub [0, 1, 2, 3, 4] rfl (jX7_reaches_0 ok l0 l1 l2 l3 l4 G h he))
def fX7_pieceOf_0 (l0 : Int32) (l1 : Int32)  (G : Mem) : Option (Int32 × Mem) :=
  some ((((1 : Int32) + ((5 : Int32) * l0)) + l1), G)

set_option maxRecDepth 100000 in
set_option maxHeartbeats 4000000 in
theorem jX7_pieceOf_0 {X : Cx} (ok : OK X cX7_pieceOf RX7 (some .int) 2 0 0) (l0 : Int32) (l1 : Int32)  (G : Mem) {r : Int32} {G' : Mem} (h : fX7_pieceOf_0 l0 l1 G = some (r, G')) (hK : (finI X) r G') : J X 2 0 [(0, .int l0), (1, .int l1)] [] G := by
  unfold fX7_pieceOf_0 at h
  refine j_iconst (v := 1) ok dX7_pieceOf_0 (by decide) ?_
  refine j_iconst (v := 5) ok dX7_pieceOf_1 (by decide) ?_
  refine j_iload_n ok dX7_pieceOf_2 rfl 0 rfl ?_
  refine j_imul ok dX7_pieceOf_3 ?_
  refine j_iadd ok dX7_pieceOf_4 ?_
  refine j_iload_n ok dX7_pieceOf_5 rfl 1 rfl ?_
  refine j_iadd ok dX7_pieceOf_6 ?_
  obtain ⟨er, eG⟩ := inj2 h
  subst er; subst eG
  exact j_iret ok rfl dX7_pieceOf_7 hK

def fX7_pieceOf (l0 : Int32) (l1 : Int32) (G : Mem) : Option (Int32 × Mem) := fX7_pieceOf_0 l0 l1 G
set_option maxRecDepth 100000 in
theorem tX7_pieceOf {l : Launch} (hfl : l.stackTraces = false) (V : Wd) (l0 : Int32) (l1 : Int32) (G : Mem) {r : Int32} {G' : Mem} (h : fX7_pieceOf l0 l1 G = some (r, G')) : Mx l yX7_pieceOf cX7_pieceOf 2 (some .int) 0 0 V [.int l0, .int l1] G (.inl (some (.int r))) G' :=
  mx_of (L := [(0, .int l0), (1, .int l1)]) hfl (by decide +kernel) (Nat.le_of_ble_eq_true rfl) rfl (fun X hl hV hin ok he => by
    subst hl; subst hV
    exact J.sub [0, 1] rfl (jX7_pieceOf_0 ok l0 l1 G h he))
def fX7_kingOf_35   (G : Mem) : Option (Int32 × Mem) :=
  some ((-1 : Int32), G)

set_option maxRecDepth 100000 in
set_option maxHeartbeats 4000000 in
theorem jX7_kingOf_35 {X : Cx} (ok : OK X cX7_kingOf RX7 (some .int) 5 1 21)   (G : Mem) {r : Int32} {G' : Mem} (h : fX7_kingOf_35  G = some (r, G')) (hK : (finI X) r G') : J X 5 35 [] [] G := by
  unfold fX7_kingOf_35 at h
  refine j_iconst (v := -1) ok dX7_kingOf_35 (by decide) ?_
  obtain ⟨er, eG⟩ := inj2 h
  subst er; subst eG
  exact j_iret ok rfl dX7_kingOf_36 hK

def fX7_kingOf_26 (l4 : Int32)  (G : Mem) : Option (Int32 × Mem) :=
  some (l4, G)

set_option maxRecDepth 100000 in
set_option maxHeartbeats 4000000 in
theorem jX7_kingOf_26 {X : Cx} (ok : OK X cX7_kingOf RX7 (some .int) 5 1 21) (l4 : Int32)  (G : Mem) {r : Int32} {G' : Mem} (h : fX7_kingOf_26 l4 G = some (r, G')) (hK : (finI X) r G') : J X 5 26 [(4, .int l4)] [] G := by
  unfold fX7_kingOf_26 at h
  refine j_iload ok dX7_kingOf_26 0 rfl ?_
  obtain ⟨er, eG⟩ := inj2 h
  subst er; subst eG
  exact j_iret ok rfl dX7_kingOf_28 hK

def fX7_kingOf_3 (l0 : Nat) (l1 : Nat) (l2 : Int32) (l3 : Int32) (l4 : Int32)  (G : Mem) : Option (((Int32) ⊕ Int32) × Mem) :=
  ck G 17 l0 <| (fX7_squareMany l0 G).bind fun q1 =>
  if q1.1 ≤ l4 then
    liftE (fX7_kingOf_35 q1.2)
  else
    (gA q1.2 1 l1 (l2 + l4)).bind fun v3 =>
    (fX7_pieceOf l3 (0 : Int32) q1.2).bind fun q4 =>
    if v3 = q4.1 then
      liftE (fX7_kingOf_26 l4 q4.2)
    else
      some (.inl ((l4 + (1 : Int32))), q4.2)

set_option maxRecDepth 100000 in
set_option maxHeartbeats 4000000 in
theorem jX7_kingOf_3 {X : Cx} (ok : OK X cX7_kingOf RX7 (some .int) 5 1 21) (l0 : Nat) (l1 : Nat) (l2 : Int32) (l3 : Int32) (l4 : Int32)  (G : Mem) {r : ((Int32) ⊕ Int32)} {G' : Mem} (h : fX7_kingOf_3 l0 l1 l2 l3 l4 G = some (r, G')) (hK : (finL X 5 3 (fun s : Int32 => [(0, .ref (X.B + l0)), (1, .ref (X.B + l1)), (2, .int l2), (3, .int l3), (4, .int s)]) (finI X)) r G') : J X 5 3 [(0, .ref (X.B + l0)), (1, .ref (X.B + l1)), (2, .int l2), (3, .int l3), (4, .int l4)] [] G := by
  unfold fX7_kingOf_3 at h
  refine j_iload ok dX7_kingOf_3 4 rfl ?_
  refine j_aload_n ok dX7_kingOf_5 rfl 0 rfl ?_
  obtain ⟨kq1, h⟩ := ck_some h
  obtain ⟨q1, hq1, h⟩ := obind h
  refine k_V1 ok kl_X7_120 ⟨Nat.le_of_ble_eq_true rfl, Nat.le_of_ble_eq_true rfl⟩ [] kq1 rfl rfl (Nat.le_of_ble_eq_true rfl) (tX7_squareMany ok.fl X.V l0 G hq1) dX7_kingOf_6 ?_
  rcases ite_some h with ⟨c2, h⟩ | ⟨c2, h⟩
  · refine j_icmp_ge (tgt := 35) ok dX7_kingOf_9 (by decide) (fun _ => ?_) (fun z => absurd c2 z)
    obtain ⟨r1, e1, h1⟩ := lift_some h
    subst e1
    exact J.sub [] rfl (jX7_kingOf_35 ok q1.2 h1 hK)
  · refine j_icmp_ge (tgt := 35) ok dX7_kingOf_9 (by decide) (fun z => absurd z c2) (fun _ => ?_)
    refine j_aload_n ok dX7_kingOf_12 rfl 1 rfl ?_
    refine j_iload_n ok dX7_kingOf_13 rfl 2 rfl ?_
    refine j_iload ok dX7_kingOf_14 4 rfl ?_
    refine j_iadd ok dX7_kingOf_16 ?_
    obtain ⟨v3, hv3, h⟩ := obind h
    refine j_iald ok hv3 dX7_kingOf_17 ?_
    refine j_iload_n ok dX7_kingOf_18 rfl 3 rfl ?_
    refine j_iconst (v := 0) ok dX7_kingOf_19 (by decide) ?_
    obtain ⟨q4, hq4, h⟩ := obind h
    refine k_S1 ok kl_X7_130 ⟨Nat.le_of_ble_eq_true rfl, Nat.le_of_ble_eq_true rfl⟩ [.int l3, .int (0 : Int32)] rfl rfl (Nat.le_of_ble_eq_true rfl) (tX7_pieceOf ok.fl X.V l3 (0 : Int32) q1.2 hq4) dX7_kingOf_20 ?_
    rcases ite_some h with ⟨c5, h⟩ | ⟨c5, h⟩
    · refine j_icmp_ne (tgt := 29) ok dX7_kingOf_23 (by decide) (fun z => absurd c5 z) (fun _ => ?_)
      obtain ⟨r1, e1, h1⟩ := lift_some h
      subst e1
      exact J.sub [4] rfl (jX7_kingOf_26 ok l4 q4.2 h1 hK)
    · refine j_icmp_ne (tgt := 29) ok dX7_kingOf_23 (by decide) (fun _ => ?_) (fun z => absurd z c5)
      refine j_iinc (L' := [(4, .int (l4 + (1 : Int32))), (0, .ref (X.B + l0)), (1, .ref (X.B + l1)), (2, .int l2), (3, .int l3)]) (v := (l4 + (1 : Int32))) ok dX7_kingOf_29 (q := 4) rfl rfl (by decide) rfl ?_
      refine j_goto (tgt := 3) ok dX7_kingOf_32 (by decide) ?_
      obtain ⟨er, eG⟩ := inj2 h
      subst er; subst eG
      have hJ : J X 5 3 [(0, .ref (X.B + l0)), (1, .ref (X.B + l1)), (2, .int l2), (3, .int l3), (4, .int (l4 + (1 : Int32)))] [] q4.2 := hK
      exact J.sub [1, 2, 3, 4, 0] rfl hJ

def fX7_kingOf_0 (l0 : Nat) (l1 : Nat) (l2 : Int32) (l3 : Int32)  (G : Mem) : Option (Int32 × Mem) :=
  loopM (fun (s : Int32) G => fX7_kingOf_3 l0 l1 l2 l3 s G) FU ((0 : Int32)) G

set_option maxRecDepth 100000 in
set_option maxHeartbeats 4000000 in
theorem jX7_kingOf_0 {X : Cx} (ok : OK X cX7_kingOf RX7 (some .int) 5 1 21) (l0 : Nat) (l1 : Nat) (l2 : Int32) (l3 : Int32)  (G : Mem) {r : Int32} {G' : Mem} (h : fX7_kingOf_0 l0 l1 l2 l3 G = some (r, G')) (hK : (finI X) r G') : J X 5 0 [(0, .ref (X.B + l0)), (1, .ref (X.B + l1)), (2, .int l2), (3, .int l3)] [] G := by
  unfold fX7_kingOf_0 at h
  refine j_iconst (v := 0) ok dX7_kingOf_0 (by decide) ?_
  refine j_istore (L' := [(4, .int (0 : Int32)), (0, .ref (X.B + l0)), (1, .ref (X.B + l1)), (2, .int l2), (3, .int l3)]) ok dX7_kingOf_1 (by decide) rfl ?_
  have hJ : J X 5 3 [(0, .ref (X.B + l0)), (1, .ref (X.B + l1)), (2, .int l2), (3, .int l3), (4, .int (0 : Int32))] [] G := j_loop (loc := fun s : Int32 => [(0, .ref (X.B + l0)), (1, .ref (X.B + l1)), (2, .int l2), (3, .int l3), (4, .int s)]) (F := (finI X)) (fun s G r G' hb hk => jX7_kingOf_3 ok l0 l1 l2 l3 s G hb hk) _ _ _ _ _ h hK
  exact J.sub [1, 2, 3, 4, 0] rfl hJ

def fX7_kingOf (l0 : Nat) (l1 : Nat) (l2 : Int32) (l3 : Int32) (G : Mem) : Option (Int32 × Mem) := fX7_kingOf_0 l0 l1 l2 l3 G
set_option maxRecDepth 100000 in
theorem tX7_kingOf {l : Launch} (hfl : l.stackTraces = false) (V : Wd) (l0 : Nat) (l1 : Nat) (l2 : Int32) (l3 : Int32) (G : Mem) {r : Int32} {G' : Mem} (h : fX7_kingOf l0 l1 l2 l3 G = some (r, G')) : Mx l yX7_kingOf cX7_kingOf 5 (some .int) 1 21 V [.ref (V.B + l0), .ref (V.B + l1), .int l2, .int l3] G (.inl (some (.int r))) G' :=
  mx_of (L := [(0, .ref (V.B + l0)), (1, .ref (V.B + l1)), (2, .int l2), (3, .int l3)]) hfl (by decide +kernel) (Nat.le_of_ble_eq_true rfl) rfl (fun X hl hV hin ok he => by
    subst hl; subst hV
    exact J.sub [0, 1, 2, 3] rfl (jX7_kingOf_0 ok l0 l1 l2 l3 G h he))
def fX7_attacks_46   (G : Mem) : Option (Int32 × Mem) :=
  some ((0 : Int32), G)

set_option maxRecDepth 100000 in
set_option maxHeartbeats 4000000 in
theorem jX7_attacks_46 {X : Cx} (ok : OK X cX7_attacks RX7 (some .boolean) 6 3 147)   (G : Mem) {r : Int32} {G' : Mem} (h : fX7_attacks_46  G = some (r, G')) (hK : (finI X) r G') : J X 6 46 [] [] G := by
  unfold fX7_attacks_46 at h
  refine j_iconst (v := 0) ok dX7_attacks_46 (by decide) ?_
  obtain ⟨er, eG⟩ := inj2 h
  subst er; subst eG
  exact j_zret ok rfl (Or.inl rfl) dX7_attacks_47 hK

def fX7_attacks_40 (l0 : Nat) (l1 : Nat) (l2 : Int32) (l3 : Int32) (l4 : Int32) (l5 : Int32)  (G : Mem) : Option (((Int32) ⊕ Int32) × Mem) :=
  some (.inl ((l5 + (1 : Int32))), G)

set_option maxRecDepth 100000 in
set_option maxHeartbeats 4000000 in
theorem jX7_attacks_40 {X : Cx} (ok : OK X cX7_attacks RX7 (some .boolean) 6 3 147) (l0 : Nat) (l1 : Nat) (l2 : Int32) (l3 : Int32) (l4 : Int32) (l5 : Int32)  (G : Mem) {r : ((Int32) ⊕ Int32)} {G' : Mem} (h : fX7_attacks_40 l0 l1 l2 l3 l4 l5 G = some (r, G')) (hK : (finL X 6 3 (fun s : Int32 => [(0, .ref (X.B + l0)), (1, .ref (X.B + l1)), (2, .int l2), (3, .int l3), (4, .int l4), (5, .int s)]) (finI X)) r G') : J X 6 40 [(0, .ref (X.B + l0)), (1, .ref (X.B + l1)), (2, .int l2), (3, .int l3), (4, .int l4), (5, .int l5)] [] G := by
  unfold fX7_attacks_40 at h
  refine j_iinc (L' := [(5, .int (l5 + (1 : Int32))), (0, .ref (X.B + l0)), (1, .ref (X.B + l1)), (2, .int l2), (3, .int l3), (4, .int l4)]) (v := (l5 + (1 : Int32))) ok dX7_attacks_40 (q := 5) rfl rfl (by decide) rfl ?_
  refine j_goto (tgt := 3) ok dX7_attacks_43 (by decide) ?_
  obtain ⟨er, eG⟩ := inj2 h
  subst er; subst eG
  have hJ : J X 6 3 [(0, .ref (X.B + l0)), (1, .ref (X.B + l1)), (2, .int l2), (3, .int l3), (4, .int l4), (5, .int (l5 + (1 : Int32)))] [] G := hK
  exact J.sub [1, 2, 3, 4, 5, 0] rfl hJ

def fX7_attacks_38   (G : Mem) : Option (Int32 × Mem) :=
  some ((1 : Int32), G)

set_option maxRecDepth 100000 in
set_option maxHeartbeats 4000000 in
theorem jX7_attacks_38 {X : Cx} (ok : OK X cX7_attacks RX7 (some .boolean) 6 3 147)   (G : Mem) {r : Int32} {G' : Mem} (h : fX7_attacks_38  G = some (r, G')) (hK : (finI X) r G') : J X 6 38 [] [] G := by
  unfold fX7_attacks_38 at h
  refine j_iconst (v := 1) ok dX7_attacks_38 (by decide) ?_
  obtain ⟨er, eG⟩ := inj2 h
  subst er; subst eG
  exact j_zret ok rfl (Or.inr rfl) dX7_attacks_39 hK

def fX7_attacks_3 (l0 : Nat) (l1 : Nat) (l2 : Int32) (l3 : Int32) (l4 : Int32) (l5 : Int32)  (G : Mem) : Option (((Int32) ⊕ Int32) × Mem) :=
  ck G 17 l0 <| (fX7_squareMany l0 G).bind fun q1 =>
  if q1.1 ≤ l5 then
    liftE (fX7_attacks_46 q1.2)
  else
    (gA q1.2 1 l1 (l2 + l5)).bind fun v3 =>
    (fX7_isOf v3 l3 q1.2).bind fun q4 =>
    if q4.1 = (0 : Int32) then
      fX7_attacks_40 l0 l1 l2 l3 l4 l5 q4.2
    else
      ck q4.2 17 l0 <| (fX7_reaches l0 l1 l2 l5 l4 q4.2).bind fun q6 =>
      if q6.1 = (0 : Int32) then
        fX7_attacks_40 l0 l1 l2 l3 l4 l5 q6.2
      else
        liftE (fX7_attacks_38 q6.2)

set_option maxRecDepth 100000 in
set_option maxHeartbeats 4000000 in
theorem jX7_attacks_3 {X : Cx} (ok : OK X cX7_attacks RX7 (some .boolean) 6 3 147) (l0 : Nat) (l1 : Nat) (l2 : Int32) (l3 : Int32) (l4 : Int32) (l5 : Int32)  (G : Mem) {r : ((Int32) ⊕ Int32)} {G' : Mem} (h : fX7_attacks_3 l0 l1 l2 l3 l4 l5 G = some (r, G')) (hK : (finL X 6 3 (fun s : Int32 => [(0, .ref (X.B + l0)), (1, .ref (X.B + l1)), (2, .int l2), (3, .int l3), (4, .int l4), (5, .int s)]) (finI X)) r G') : J X 6 3 [(0, .ref (X.B + l0)), (1, .ref (X.B + l1)), (2, .int l2), (3, .int l3), (4, .int l4), (5, .int l5)] [] G := by
  unfold fX7_attacks_3 at h
  refine j_iload ok dX7_attacks_3 5 rfl ?_
  refine j_aload_n ok dX7_attacks_5 rfl 0 rfl ?_
  obtain ⟨kq1, h⟩ := ck_some h
  obtain ⟨q1, hq1, h⟩ := obind h
  refine k_V1 ok kl_X7_120 ⟨Nat.le_of_ble_eq_true rfl, Nat.le_of_ble_eq_true rfl⟩ [] kq1 rfl rfl (Nat.le_of_ble_eq_true rfl) (tX7_squareMany ok.fl X.V l0 G hq1) dX7_attacks_6 ?_
  rcases ite_some h with ⟨c2, h⟩ | ⟨c2, h⟩
  · refine j_icmp_ge (tgt := 46) ok dX7_attacks_9 (by decide) (fun _ => ?_) (fun z => absurd c2 z)
    obtain ⟨r1, e1, h1⟩ := lift_some h
    subst e1
    exact J.sub [] rfl (jX7_attacks_46 ok q1.2 h1 hK)
  · refine j_icmp_ge (tgt := 46) ok dX7_attacks_9 (by decide) (fun z => absurd z c2) (fun _ => ?_)
    refine j_aload_n ok dX7_attacks_12 rfl 1 rfl ?_
    refine j_iload_n ok dX7_attacks_13 rfl 2 rfl ?_
    refine j_iload ok dX7_attacks_14 5 rfl ?_
    refine j_iadd ok dX7_attacks_16 ?_
    obtain ⟨v3, hv3, h⟩ := obind h
    refine j_iald ok hv3 dX7_attacks_17 ?_
    refine j_iload_n ok dX7_attacks_18 rfl 3 rfl ?_
    obtain ⟨q4, hq4, h⟩ := obind h
    refine k_S1 ok kl_X7_123 ⟨Nat.le_of_ble_eq_true rfl, Nat.le_of_ble_eq_true rfl⟩ [.int v3, .int l3] rfl rfl (Nat.le_of_ble_eq_true rfl) (tX7_isOf ok.fl X.V v3 l3 q1.2 hq4) dX7_attacks_19 ?_
    rcases ite_some h with ⟨c5, h⟩ | ⟨c5, h⟩
    · refine j_if_eq (tgt := 40) ok dX7_attacks_22 (by decide) (fun _ => ?_) (fun z => absurd c5 z)
      exact J.sub [0, 1, 2, 3, 4, 5] rfl (jX7_attacks_40 ok l0 l1 l2 l3 l4 l5 q4.2 h hK)
    · refine j_if_eq (tgt := 40) ok dX7_attacks_22 (by decide) (fun z => absurd z c5) (fun _ => ?_)
      refine j_aload_n ok dX7_attacks_25 rfl 0 rfl ?_
      refine j_aload_n ok dX7_attacks_26 rfl 1 rfl ?_
      refine j_iload_n ok dX7_attacks_27 rfl 2 rfl ?_
      refine j_iload ok dX7_attacks_28 5 rfl ?_
      refine j_iload ok dX7_attacks_30 4 rfl ?_
      obtain ⟨kq6, h⟩ := ck_some h
      obtain ⟨q6, hq6, h⟩ := obind h
      refine k_V1 ok kl_X7_127 ⟨Nat.le_of_ble_eq_true rfl, Nat.le_of_ble_eq_true rfl⟩ [.ref (X.B + l1), .int l2, .int l5, .int l4] kq6 rfl rfl (Nat.le_of_ble_eq_true rfl) (tX7_reaches ok.fl X.V l0 l1 l2 l5 l4 q4.2 hq6) dX7_attacks_32 ?_
      rcases ite_some h with ⟨c7, h⟩ | ⟨c7, h⟩
      · refine j_if_eq (tgt := 40) ok dX7_attacks_35 (by decide) (fun _ => ?_) (fun z => absurd c7 z)
        exact J.sub [0, 1, 2, 3, 4, 5] rfl (jX7_attacks_40 ok l0 l1 l2 l3 l4 l5 q6.2 h hK)
      · refine j_if_eq (tgt := 40) ok dX7_attacks_35 (by decide) (fun z => absurd z c7) (fun _ => ?_)
        obtain ⟨r1, e1, h1⟩ := lift_some h
        subst e1
        exact J.sub [] rfl (jX7_attacks_38 ok q6.2 h1 hK)

def fX7_attacks_0 (l0 : Nat) (l1 : Nat) (l2 : Int32) (l3 : Int32) (l4 : Int32)  (G : Mem) : Option (Int32 × Mem) :=
  loopM (fun (s : Int32) G => fX7_attacks_3 l0 l1 l2 l3 l4 s G) FU ((0 : Int32)) G

set_option maxRecDepth 100000 in
set_option maxHeartbeats 4000000 in
theorem jX7_attacks_0 {X : Cx} (ok : OK X cX7_attacks RX7 (some .boolean) 6 3 147) (l0 : Nat) (l1 : Nat) (l2 : Int32) (l3 : Int32) (l4 : Int32)  (G : Mem) {r : Int32} {G' : Mem} (h : fX7_attacks_0 l0 l1 l2 l3 l4 G = some (r, G')) (hK : (finI X) r G') : J X 6 0 [(0, .ref (X.B + l0)), (1, .ref (X.B + l1)), (2, .int l2), (3, .int l3), (4, .int l4)] [] G := by
  unfold fX7_attacks_0 at h
  refine j_iconst (v := 0) ok dX7_attacks_0 (by decide) ?_
  refine j_istore (L' := [(5, .int (0 : Int32)), (0, .ref (X.B + l0)), (1, .ref (X.B + l1)), (2, .int l2), (3, .int l3), (4, .int l4)]) ok dX7_attacks_1 (by decide) rfl ?_
  have hJ : J X 6 3 [(0, .ref (X.B + l0)), (1, .ref (X.B + l1)), (2, .int l2), (3, .int l3), (4, .int l4), (5, .int (0 : Int32))] [] G := j_loop (loc := fun s : Int32 => [(0, .ref (X.B + l0)), (1, .ref (X.B + l1)), (2, .int l2), (3, .int l3), (4, .int l4), (5, .int s)]) (F := (finI X)) (fun s G r G' hb hk => jX7_attacks_3 ok l0 l1 l2 l3 l4 s G hb hk) _ _ _ _ _ h hK
  exact J.sub [1, 2, 3, 4, 5, 0] rfl hJ

def fX7_attacks (l0 : Nat) (l1 : Nat) (l2 : Int32) (l3 : Int32) (l4 : Int32) (G : Mem) : Option (Int32 × Mem) := fX7_attacks_0 l0 l1 l2 l3 l4 G
set_option maxRecDepth 100000 in
theorem tX7_attacks {l : Launch} (hfl : l.stackTraces = false) (V : Wd) (l0 : Nat) (l1 : Nat) (l2 : Int32) (l3 : Int32) (l4 : Int32) (G : Mem) {r : Int32} {G' : Mem} (h : fX7_attacks l0 l1 l2 l3 l4 G = some (r, G')) : Mx l yX7_attacks cX7_attacks 6 (some .boolean) 3 147 V [.ref (V.B + l0), .ref (V.B + l1), .int l2, .int l3, .int l4] G (.inl (some (.int r))) G' :=
  mx_of (L := [(0, .ref (V.B + l0)), (1, .ref (V.B + l1)), (2, .int l2), (3, .int l3), (4, .int l4)]) hfl (by decide +kernel) (Nat.le_of_ble_eq_true rfl) rfl (fun X hl hV hin ok he => by
    subst hl; subst hV
    exact J.sub [0, 1, 2, 3, 4] rfl (jX7_attacks_0 ok l0 l1 l2 l3 l4 G h he))
def fX7_moves_40   (G : Mem) : Option (Int32 × Mem) :=
  some ((0 : Int32), G)

set_option maxRecDepth 100000 in
set_option maxHeartbeats 4000000 in
theorem jX7_moves_40 {X : Cx} (ok : OK X cX7_moves RX7 (some .boolean) 8 4 172)   (G : Mem) {r : Int32} {G' : Mem} (h : fX7_moves_40  G = some (r, G')) (hK : (finI X) r G') : J X 8 40 [] [] G := by
  unfold fX7_moves_40 at h
  refine j_iconst (v := 0) ok dX7_moves_40 (by decide) ?_
  obtain ⟨er, eG⟩ := inj2 h
  subst er; subst eG
  exact j_zret ok rfl (Or.inl rfl) dX7_moves_41 hK

def fX7_moves_147  (s0 : Int32) (G : Mem) : Option (Int32 × Mem) :=
  rz s0 <|
  some (s0, G)

set_option maxRecDepth 100000 in
set_option maxHeartbeats 4000000 in
theorem jX7_moves_147 {X : Cx} (ok : OK X cX7_moves RX7 (some .boolean) 8 4 172)  (s0 : Int32) (G : Mem) {r : Int32} {G' : Mem} (h : fX7_moves_147 s0 G = some (r, G')) (hK : (finI X) r G') : J X 8 147 [] [.int s0] G := by
  unfold fX7_moves_147 at h
  obtain ⟨hz1, h⟩ := rz_some h
  obtain ⟨er, eG⟩ := inj2 h
  subst er; subst eG
  exact j_zret ok rfl hz1 dX7_moves_147 hK

def fX7_moves_79 (l0 : Nat) (l3 : Int32) (l4 : Int32) (l5 : Int32) (l6 : Int32)  (G : Mem) : Option (Int32 × Mem) :=
  (gR G 17 l0 13).bind fun v1 =>
  (gR G 17 l0 17).bind fun v2 =>
  (cpI G v1 l6 v2 (0 : Int32) (36 : Int32)).bind fun G3 =>
  (gR G3 17 l0 17).bind fun v4 =>
  (gR G3 17 l0 17).bind fun v5 =>
  (gA G3 1 v5 l3).bind fun v6 =>
  (pA G3 v4 l4 v6).bind fun G7 =>
  (gR G7 17 l0 17).bind fun v8 =>
  (pA G7 v8 l3 (0 : Int32)).bind fun G9 =>
  (gR G9 17 l0 17).bind fun v10 =>
  (gR G9 17 l0 17).bind fun v11 =>
  ck G9 17 l0 <| (fX7_kingOf l0 v11 (0 : Int32) l5 G9).bind fun q12 =>
  ck q12.2 17 l0 <| (fX7_attacks l0 v10 (0 : Int32) ((1 : Int32) - l5) q12.1 q12.2).bind fun q13 =>
  if q13.1 = (0 : Int32) then
    fX7_moves_147 (1 : Int32) q13.2
  else
    fX7_moves_147 (0 : Int32) q13.2

set_option maxRecDepth 100000 in
set_option maxHeartbeats 4000000 in
theorem jX7_moves_79 {X : Cx} (ok : OK X cX7_moves RX7 (some .boolean) 8 4 172) (l0 : Nat) (l3 : Int32) (l4 : Int32) (l5 : Int32) (l6 : Int32)  (G : Mem) {r : Int32} {G' : Mem} (h : fX7_moves_79 l0 l3 l4 l5 l6 G = some (r, G')) (hK : (finI X) r G') : J X 8 79 [(0, .ref (X.B + l0)), (3, .int l3), (4, .int l4), (5, .int l5), (6, .int l6)] [] G := by
  unfold fX7_moves_79 at h
  refine j_aload_n ok dX7_moves_79 rfl 0 rfl ?_
  obtain ⟨v1, hv1, h⟩ := obind h
  refine k_getR ok fl_X7_36 hv1 dX7_moves_80 ?_
  refine j_iload ok dX7_moves_83 4 rfl ?_
  refine j_aload_n ok dX7_moves_85 rfl 0 rfl ?_
  obtain ⟨v2, hv2, h⟩ := obind h
  refine k_getR ok fl_X7_48 hv2 dX7_moves_86 ?_
  refine j_iconst (v := 0) ok dX7_moves_89 (by decide) ?_
  refine j_bipush (v := 36) ok dX7_moves_90 (by decide) ?_
  obtain ⟨G3, hG3, h⟩ := obind h
  refine k_cpI ok wm_X7_89 (Nat.le_of_ble_eq_true rfl) (Nat.le_of_ble_eq_true rfl) (Nat.le_of_ble_eq_true rfl) hG3 dX7_moves_92 ?_
  refine j_aload_n ok dX7_moves_95 rfl 0 rfl ?_
  obtain ⟨v4, hv4, h⟩ := obind h
  refine k_getR ok fl_X7_48 hv4 dX7_moves_96 ?_
  refine j_iload ok dX7_moves_99 2 rfl ?_
  refine j_aload_n ok dX7_moves_101 rfl 0 rfl ?_
  obtain ⟨v5, hv5, h⟩ := obind h
  refine k_getR ok fl_X7_48 hv5 dX7_moves_102 ?_
  refine j_iload_n ok dX7_moves_105 rfl 1 rfl ?_
  obtain ⟨v6, hv6, h⟩ := obind h
  refine j_iald ok hv6 dX7_moves_106 ?_
  obtain ⟨G7, hG7, h⟩ := obind h
  refine j_iast ok hG7 dX7_moves_107 ?_
  refine j_aload_n ok dX7_moves_108 rfl 0 rfl ?_
  obtain ⟨v8, hv8, h⟩ := obind h
  refine k_getR ok fl_X7_48 hv8 dX7_moves_109 ?_
  refine j_iload_n ok dX7_moves_112 rfl 1 rfl ?_
  refine j_iconst (v := 0) ok dX7_moves_113 (by decide) ?_
  obtain ⟨G9, hG9, h⟩ := obind h
  refine j_iast ok hG9 dX7_moves_114 ?_
  refine j_aload_n ok dX7_moves_115 rfl 0 rfl ?_
  refine j_aload_n ok dX7_moves_116 rfl 0 rfl ?_
  obtain ⟨v10, hv10, h⟩ := obind h
  refine k_getR ok fl_X7_48 hv10 dX7_moves_117 ?_
  refine j_iconst (v := 0) ok dX7_moves_120 (by decide) ?_
  refine j_iconst (v := 1) ok dX7_moves_121 (by decide) ?_
  refine j_iload ok dX7_moves_122 3 rfl ?_
  refine j_isub ok dX7_moves_124 ?_
  refine j_aload_n ok dX7_moves_125 rfl 0 rfl ?_
  refine j_aload_n ok dX7_moves_126 rfl 0 rfl ?_
  obtain ⟨v11, hv11, h⟩ := obind h
  refine k_getR ok fl_X7_48 hv11 dX7_moves_127 ?_
  refine j_iconst (v := 0) ok dX7_moves_130 (by decide) ?_
  refine j_iload ok dX7_moves_131 3 rfl ?_
  obtain ⟨kq12, h⟩ := ck_some h
  obtain ⟨q12, hq12, h⟩ := obind h
  refine k_V1 ok kl_X7_137 ⟨Nat.le_of_ble_eq_true rfl, Nat.le_of_ble_eq_true rfl⟩ [.ref (X.B + v11), .int (0 : Int32), .int l5] kq12 rfl rfl (Nat.le_of_ble_eq_true rfl) (tX7_kingOf ok.fl X.V l0 v11 (0 : Int32) l5 G9 hq12) dX7_moves_133 ?_
  obtain ⟨kq13, h⟩ := ck_some h
  obtain ⟨q13, hq13, h⟩ := obind h
  refine k_V1 ok kl_X7_141 ⟨Nat.le_of_ble_eq_true rfl, Nat.le_of_ble_eq_true rfl⟩ [.ref (X.B + v10), .int (0 : Int32), .int ((1 : Int32) - l5), .int q12.1] kq13 rfl rfl (Nat.le_of_ble_eq_true rfl) (tX7_attacks ok.fl X.V l0 v10 (0 : Int32) ((1 : Int32) - l5) q12.1 q12.2 hq13) dX7_moves_136 ?_
  rcases ite_some h with ⟨c14, h⟩ | ⟨c14, h⟩
  · refine j_if_ne (tgt := 146) ok dX7_moves_139 (by decide) (fun z => absurd c14 z) (fun _ => ?_)
    refine j_iconst (v := 1) ok dX7_moves_142 (by decide) ?_
    refine j_goto (tgt := 147) ok dX7_moves_143 (by decide) ?_
    exact J.sub [] rfl (jX7_moves_147 ok (1 : Int32) q13.2 h hK)
  · refine j_if_ne (tgt := 146) ok dX7_moves_139 (by decide) (fun _ => ?_) (fun z => absurd z c14)
    refine j_iconst (v := 0) ok dX7_moves_146 (by decide) ?_
    exact J.sub [] rfl (jX7_moves_147 ok (0 : Int32) q13.2 h hK)

def fX7_moves_77   (G : Mem) : Option (Int32 × Mem) :=
  some ((0 : Int32), G)

set_option maxRecDepth 100000 in
set_option maxHeartbeats 4000000 in
theorem jX7_moves_77 {X : Cx} (ok : OK X cX7_moves RX7 (some .boolean) 8 4 172)   (G : Mem) {r : Int32} {G' : Mem} (h : fX7_moves_77  G = some (r, G')) (hK : (finI X) r G') : J X 8 77 [] [] G := by
  unfold fX7_moves_77 at h
  refine j_iconst (v := 0) ok dX7_moves_77 (by decide) ?_
  obtain ⟨er, eG⟩ := inj2 h
  subst er; subst eG
  exact j_zret ok rfl (Or.inl rfl) dX7_moves_78 hK

def fX7_moves_0 (l0 : Nat) (l1 : Int32) (l2 : Int32) (l3 : Int32) (l4 : Int32) (l5 : Int32)  (G : Mem) : Option (Int32 × Mem) :=
  (fX7_position l1 l2 G).bind fun q1 =>
  (gR q1.2 17 l0 13).bind fun v2 =>
  (gA q1.2 1 v2 (q1.1 + l3)).bind fun v3 =>
  (fX7_isOf v3 l5 q1.2).bind fun q4 =>
  if q4.1 = (0 : Int32) then
    fX7_moves_40 q4.2
  else
    (gR q4.2 17 l0 13).bind fun v6 =>
    ck q4.2 17 l0 <| (fX7_reaches l0 v6 q1.1 l3 l4 q4.2).bind fun q7 =>
    if q7.1 = (0 : Int32) then
      fX7_moves_40 q7.2
    else
      (gR q7.2 17 l0 13).bind fun v9 =>
      (gA q7.2 1 v9 (q1.1 + l4)).bind fun v10 =>
      if v10 ≤ (0 : Int32) then
        fX7_moves_79 l0 l3 l4 l5 q1.1 q7.2
      else
        (fX7_isOf v10 l5 q7.2).bind fun q12 =>
        if q12.1 = (0 : Int32) then
          (fX7_kindOf v10 q12.2).bind fun q14 =>
          if q14.1 = (0 : Int32) then
            fX7_moves_77 q14.2
          else
            fX7_moves_79 l0 l3 l4 l5 q1.1 q14.2
        else
          fX7_moves_77 q12.2

set_option maxRecDepth 100000 in
set_option maxHeartbeats 4000000 in
theorem jX7_moves_0 {X : Cx} (ok : OK X cX7_moves RX7 (some .boolean) 8 4 172) (l0 : Nat) (l1 : Int32) (l2 : Int32) (l3 : Int32) (l4 : Int32) (l5 : Int32)  (G : Mem) {r : Int32} {G' : Mem} (h : fX7_moves_0 l0 l1 l2 l3 l4 l5 G = some (r, G')) (hK : (finI X) r G') : J X 8 0 [(0, .ref (X.B + l0)), (1, .int l1), (2, .int l2), (3, .int l3), (4, .int l4), (5, .int l5)] [] G := by
  unfold fX7_moves_0 at h
  refine j_iload_n ok dX7_moves_0 rfl 1 rfl ?_
  refine j_iload_n ok dX7_moves_1 rfl 2 rfl ?_
  obtain ⟨q1, hq1, h⟩ := obind h
  refine k_S1 ok kl_X7_134 ⟨Nat.le_of_ble_eq_true rfl, Nat.le_of_ble_eq_true rfl⟩ [.int l1, .int l2] rfl rfl (Nat.le_of_ble_eq_true rfl) (tX7_position ok.fl X.V l1 l2 G hq1) dX7_moves_2 ?_
  refine j_istore (L' := [(6, .int q1.1), (0, .ref (X.B + l0)), (1, .int l1), (2, .int l2), (3, .int l3), (4, .int l4), (5, .int l5)]) ok dX7_moves_5 (by decide) rfl ?_
  refine j_aload_n ok dX7_moves_7 rfl 1 rfl ?_
  obtain ⟨v2, hv2, h⟩ := obind h
  refine k_getR ok fl_X7_36 hv2 dX7_moves_8 ?_
  refine j_iload ok dX7_moves_11 0 rfl ?_
  refine j_iload_n ok dX7_moves_13 rfl 4 rfl ?_
  refine j_iadd ok dX7_moves_14 ?_
  obtain ⟨v3, hv3, h⟩ := obind h
  refine j_iald ok hv3 dX7_moves_15 ?_
  refine j_iload ok dX7_moves_16 6 rfl ?_
  obtain ⟨q4, hq4, h⟩ := obind h
  refine k_S1 ok kl_X7_123 ⟨Nat.le_of_ble_eq_true rfl, Nat.le_of_ble_eq_true rfl⟩ [.int v3, .int l5] rfl rfl (Nat.le_of_ble_eq_true rfl) (tX7_isOf ok.fl X.V v3 l5 q1.2 hq4) dX7_moves_18 ?_
  rcases ite_some h with ⟨c5, h⟩ | ⟨c5, h⟩
  · refine j_if_eq (tgt := 40) ok dX7_moves_21 (by decide) (fun _ => ?_) (fun z => absurd c5 z)
    exact J.sub [] rfl (jX7_moves_40 ok q4.2 h hK)
  · refine j_if_eq (tgt := 40) ok dX7_moves_21 (by decide) (fun z => absurd z c5) (fun _ => ?_)
    refine j_aload_n ok dX7_moves_24 rfl 1 rfl ?_
    refine j_aload_n ok dX7_moves_25 rfl 1 rfl ?_
    obtain ⟨v6, hv6, h⟩ := obind h
    refine k_getR ok fl_X7_36 hv6 dX7_moves_26 ?_
    refine j_iload ok dX7_moves_29 0 rfl ?_
    refine j_iload_n ok dX7_moves_31 rfl 4 rfl ?_
    refine j_iload ok dX7_moves_32 5 rfl ?_
    obtain ⟨kq7, h⟩ := ck_some h
    obtain ⟨q7, hq7, h⟩ := obind h
    refine k_V1 ok kl_X7_127 ⟨Nat.le_of_ble_eq_true rfl, Nat.le_of_ble_eq_true rfl⟩ [.ref (X.B + v6), .int q1.1, .int l3, .int l4] kq7 rfl rfl (Nat.le_of_ble_eq_true rfl) (tX7_reaches ok.fl X.V l0 v6 q1.1 l3 l4 q4.2 hq7) dX7_moves_34 ?_
    rcases ite_some h with ⟨c8, h⟩ | ⟨c8, h⟩
    · refine j_if_ne (tgt := 42) ok dX7_moves_37 (by decide) (fun z => absurd c8 z) (fun _ => ?_)
      exact J.sub [] rfl (jX7_moves_40 ok q7.2 h hK)
    · refine j_if_ne (tgt := 42) ok dX7_moves_37 (by decide) (fun _ => ?_) (fun z => absurd z c8)
      refine j_aload_n ok dX7_moves_42 rfl 1 rfl ?_
      obtain ⟨v9, hv9, h⟩ := obind h
      refine k_getR ok fl_X7_36 hv9 dX7_moves_43 ?_
      refine j_iload ok dX7_moves_46 0 rfl ?_
      refine j_iload ok dX7_moves_48 5 rfl ?_
      refine j_iadd ok dX7_moves_50 ?_
      obtain ⟨v10, hv10, h⟩ := obind h
      refine j_iald ok hv10 dX7_moves_51 ?_
      refine j_istore (L' := [(7, .int v10), (6, .int q1.1), (0, .ref (X.B + l0)), (1, .int l1), (2, .int l2), (3, .int l3), (4, .int l4), (5, .int l5)]) ok dX7_moves_52 (by decide) rfl ?_
      refine j_iload ok dX7_moves_54 0 rfl ?_
      rcases ite_some h with ⟨c11, h⟩ | ⟨c11, h⟩
      · refine j_if_le (tgt := 79) ok dX7_moves_56 (by decide) (fun _ => ?_) (fun z => absurd c11 z)
        exact J.sub [2, 5, 6, 7, 1] rfl (jX7_moves_79 ok l0 l3 l4 l5 q1.1 q7.2 h hK)
      · refine j_if_le (tgt := 79) ok dX7_moves_56 (by decide) (fun z => absurd z c11) (fun _ => ?_)
        refine j_iload ok dX7_moves_59 0 rfl ?_
        refine j_iload ok dX7_moves_61 7 rfl ?_
        obtain ⟨q12, hq12, h⟩ := obind h
        refine k_S1 ok kl_X7_123 ⟨Nat.le_of_ble_eq_true rfl, Nat.le_of_ble_eq_true rfl⟩ [.int v10, .int l5] rfl rfl (Nat.le_of_ble_eq_true rfl) (tX7_isOf ok.fl X.V v10 l5 q7.2 hq12) dX7_moves_63 ?_
        rcases ite_some h with ⟨c13, h⟩ | ⟨c13, h⟩
        · refine j_if_ne (tgt := 77) ok dX7_moves_66 (by decide) (fun z => absurd c13 z) (fun _ => ?_)
          refine j_iload ok dX7_moves_69 0 rfl ?_
          obtain ⟨q14, hq14, h⟩ := obind h
          refine k_S1 ok kl_X7_113 ⟨Nat.le_of_ble_eq_true rfl, Nat.le_of_ble_eq_true rfl⟩ [.int v10] rfl rfl (Nat.le_of_ble_eq_true rfl) (tX7_kindOf ok.fl X.V v10 q12.2 hq14) dX7_moves_71 ?_
          rcases ite_some h with ⟨c15, h⟩ | ⟨c15, h⟩
          · refine j_if_ne (tgt := 79) ok dX7_moves_74 (by decide) (fun z => absurd c15 z) (fun _ => ?_)
            exact J.sub [] rfl (jX7_moves_77 ok q14.2 h hK)
          · refine j_if_ne (tgt := 79) ok dX7_moves_74 (by decide) (fun _ => ?_) (fun z => absurd z c15)
            exact J.sub [2, 5, 6, 7, 1] rfl (jX7_moves_79 ok l0 l3 l4 l5 q1.1 q14.2 h hK)
        · refine j_if_ne (tgt := 77) ok dX7_moves_66 (by decide) (fun _ => ?_) (fun z => absurd z c13)
          exact J.sub [] rfl (jX7_moves_77 ok q12.2 h hK)

def fX7_moves (l0 : Nat) (l1 : Int32) (l2 : Int32) (l3 : Int32) (l4 : Int32) (l5 : Int32) (G : Mem) : Option (Int32 × Mem) := fX7_moves_0 l0 l1 l2 l3 l4 l5 G
set_option maxRecDepth 100000 in
theorem tX7_moves {l : Launch} (hfl : l.stackTraces = false) (V : Wd) (l0 : Nat) (l1 : Int32) (l2 : Int32) (l3 : Int32) (l4 : Int32) (l5 : Int32) (G : Mem) {r : Int32} {G' : Mem} (h : fX7_moves l0 l1 l2 l3 l4 l5 G = some (r, G')) : Mx l yX7_moves cX7_moves 8 (some .boolean) 4 172 V [.ref (V.B + l0), .int l1, .int l2, .int l3, .int l4, .int l5] G (.inl (some (.int r))) G' :=
  mx_of (L := [(0, .ref (V.B + l0)), (1, .int l1), (2, .int l2), (3, .int l3), (4, .int l4), (5, .int l5)]) hfl (by decide +kernel) (Nat.le_of_ble_eq_true rfl) rfl (fun X hl hV hin ok he => by
    subst hl; subst hV
    exact J.sub [0, 1, 2, 3, 4, 5] rfl (jX7_moves_0 ok l0 l1 l2 l3 l4 l5 G h he))
def fX7_of_0 (l0 : Nat) (l1 : Int32) (l2 : Int32)  (G : Mem) : Option (Int32 × Mem) :=
  (gR G 17 l0 0).bind fun v1 =>
  (gA G 1 v1 (((39 : Int32) + ((7 : Int32) * l1)) + l2)).bind fun v2 =>
  some (v2, G)

set_option maxRecDepth 100000 in
set_option maxHeartbeats 4000000 in
theorem jX7_of_0 {X : Cx} (ok : OK X cX7_of RX7 (some .int) 3 0 0) (l0 : Nat) (l1 : Int32) (l2 : Int32)  (G : Mem) {r : Int32} {G' : Mem} (h : fX7_of_0 l0 l1 l2 G = some (r, G')) (hK : (finI X) r G') : J X 3 0 [(0, .ref (X.B + l0)), (1, .int l1), (2, .int l2)] [] G := by
  unfold fX7_of_0 at h
  refine j_aload_n ok dX7_of_0 rfl 0 rfl ?_
  obtain ⟨v1, hv1, h⟩ := obind h
  refine k_getR ok fl_X7_9 hv1 dX7_of_1 ?_
  refine j_bipush (v := 39) ok dX7_of_4 (by decide) ?_
  refine j_bipush (v := 7) ok dX7_of_6 (by decide) ?_
  refine j_iload_n ok dX7_of_8 rfl 1 rfl ?_
  refine j_imul ok dX7_of_9 ?_
  refine j_iadd ok dX7_of_10 ?_
  refine j_iload_n ok dX7_of_11 rfl 2 rfl ?_
  refine j_iadd ok dX7_of_12 ?_
  obtain ⟨v2, hv2, h⟩ := obind h
  refine j_iald ok hv2 dX7_of_13 ?_
  obtain ⟨er, eG⟩ := inj2 h
  subst er; subst eG
  exact j_iret ok rfl dX7_of_14 hK

def fX7_of (l0 : Nat) (l1 : Int32) (l2 : Int32) (G : Mem) : Option (Int32 × Mem) := fX7_of_0 l0 l1 l2 G
set_option maxRecDepth 100000 in
theorem tX7_of {l : Launch} (hfl : l.stackTraces = false) (V : Wd) (l0 : Nat) (l1 : Int32) (l2 : Int32) (G : Mem) {r : Int32} {G' : Mem} (h : fX7_of l0 l1 l2 G = some (r, G')) : Mx l yX7_of cX7_of 3 (some .int) 0 0 V [.ref (V.B + l0), .int l1, .int l2] G (.inl (some (.int r))) G' :=
  mx_of (L := [(0, .ref (V.B + l0)), (1, .int l1), (2, .int l2)]) hfl (by decide +kernel) (Nat.le_of_ble_eq_true rfl) rfl (fun X hl hV hin ok he => by
    subst hl; subst hV
    exact J.sub [0, 1, 2] rfl (jX7_of_0 ok l0 l1 l2 G h he))
def fX7_isOpen_15  (s0 : Int32) (G : Mem) : Option (Int32 × Mem) :=
  rz s0 <|
  some (s0, G)

set_option maxRecDepth 100000 in
set_option maxHeartbeats 4000000 in
theorem jX7_isOpen_15 {X : Cx} (ok : OK X cX7_isOpen RX7 (some .boolean) 2 0 0)  (s0 : Int32) (G : Mem) {r : Int32} {G' : Mem} (h : fX7_isOpen_15 s0 G = some (r, G')) (hK : (finI X) r G') : J X 2 15 [] [.int s0] G := by
  unfold fX7_isOpen_15 at h
  obtain ⟨hz1, h⟩ := rz_some h
  obtain ⟨er, eG⟩ := inj2 h
  subst er; subst eG
  exact j_zret ok rfl hz1 dX7_isOpen_15 hK

def fX7_isOpen_10   (G : Mem) : Option (Int32 × Mem) :=
  fX7_isOpen_15 (1 : Int32) G

set_option maxRecDepth 100000 in
set_option maxHeartbeats 4000000 in
theorem jX7_isOpen_10 {X : Cx} (ok : OK X cX7_isOpen RX7 (some .boolean) 2 0 0)   (G : Mem) {r : Int32} {G' : Mem} (h : fX7_isOpen_10  G = some (r, G')) (hK : (finI X) r G') : J X 2 10 [] [] G := by
  unfold fX7_isOpen_10 at h
  refine j_iconst (v := 1) ok dX7_isOpen_10 (by decide) ?_
  refine j_goto (tgt := 15) ok dX7_isOpen_11 (by decide) ?_
  exact J.sub [] rfl (jX7_isOpen_15 ok (1 : Int32) G h hK)

def fX7_isOpen_0 (l0 : Int32) (l1 : Int32)  (G : Mem) : Option (Int32 × Mem) :=
  if l0 = (-1 : Int32) then
    fX7_isOpen_10 G
  else
    if l0 = l1 then
      fX7_isOpen_10 G
    else
      fX7_isOpen_15 (0 : Int32) G

set_option maxRecDepth 100000 in
set_option maxHeartbeats 4000000 in
theorem jX7_isOpen_0 {X : Cx} (ok : OK X cX7_isOpen RX7 (some .boolean) 2 0 0) (l0 : Int32) (l1 : Int32)  (G : Mem) {r : Int32} {G' : Mem} (h : fX7_isOpen_0 l0 l1 G = some (r, G')) (hK : (finI X) r G') : J X 2 0 [(0, .int l0), (1, .int l1)] [] G := by
  unfold fX7_isOpen_0 at h
  refine j_iload_n ok dX7_isOpen_0 rfl 0 rfl ?_
  refine j_iconst (v := -1) ok dX7_isOpen_1 (by decide) ?_
  rcases ite_some h with ⟨c1, h⟩ | ⟨c1, h⟩
  · refine j_icmp_eq (tgt := 10) ok dX7_isOpen_2 (by decide) (fun _ => ?_) (fun z => absurd c1 z)
    exact J.sub [] rfl (jX7_isOpen_10 ok G h hK)
  · refine j_icmp_eq (tgt := 10) ok dX7_isOpen_2 (by decide) (fun z => absurd z c1) (fun _ => ?_)
    refine j_iload_n ok dX7_isOpen_5 rfl 0 rfl ?_
    refine j_iload_n ok dX7_isOpen_6 rfl 1 rfl ?_
    rcases ite_some h with ⟨c2, h⟩ | ⟨c2, h⟩
    · refine j_icmp_ne (tgt := 14) ok dX7_isOpen_7 (by decide) (fun z => absurd c2 z) (fun _ => ?_)
      exact J.sub [] rfl (jX7_isOpen_10 ok G h hK)
    · refine j_icmp_ne (tgt := 14) ok dX7_isOpen_7 (by decide) (fun _ => ?_) (fun z => absurd z c2)
      refine j_iconst (v := 0) ok dX7_isOpen_14 (by decide) ?_
      exact J.sub [] rfl (jX7_isOpen_15 ok (0 : Int32) G h hK)

def fX7_isOpen (l0 : Int32) (l1 : Int32) (G : Mem) : Option (Int32 × Mem) := fX7_isOpen_0 l0 l1 G
set_option maxRecDepth 100000 in
theorem tX7_isOpen {l : Launch} (hfl : l.stackTraces = false) (V : Wd) (l0 : Int32) (l1 : Int32) (G : Mem) {r : Int32} {G' : Mem} (h : fX7_isOpen l0 l1 G = some (r, G')) : Mx l yX7_isOpen cX7_isOpen 2 (some .boolean) 0 0 V [.int l0, .int l1] G (.inl (some (.int r))) G' :=
  mx_of (L := [(0, .int l0), (1, .int l1)]) hfl (by decide +kernel) (Nat.le_of_ble_eq_true rfl) rfl (fun X hl hV hin ok he => by
    subst hl; subst hV
    exact J.sub [0, 1] rfl (jX7_isOpen_0 ok l0 l1 G h he))
def fX7_agrees_98   (G : Mem) : Option (Int32 × Mem) :=
  some ((0 : Int32), G)

set_option maxRecDepth 100000 in
set_option maxHeartbeats 4000000 in
theorem jX7_agrees_98 {X : Cx} (ok : OK X cX7_agrees RX7 (some .boolean) 8 4 172)   (G : Mem) {r : Int32} {G' : Mem} (h : fX7_agrees_98  G = some (r, G')) (hK : (finI X) r G') : J X 8 98 [] [] G := by
  unfold fX7_agrees_98 at h
  refine j_iconst (v := 0) ok dX7_agrees_98 (by decide) ?_
  obtain ⟨er, eG⟩ := inj2 h
  subst er; subst eG
  exact j_zret ok rfl (Or.inl rfl) dX7_agrees_99 hK

def fX7_agrees_170  (s0 : Int32) (G : Mem) : Option (Int32 × Mem) :=
  rz s0 <|
  some (s0, G)

set_option maxRecDepth 100000 in
set_option maxHeartbeats 4000000 in
theorem jX7_agrees_170 {X : Cx} (ok : OK X cX7_agrees RX7 (some .boolean) 8 4 172)  (s0 : Int32) (G : Mem) {r : Int32} {G' : Mem} (h : fX7_agrees_170 s0 G = some (r, G')) (hK : (finI X) r G') : J X 8 170 [] [.int s0] G := by
  unfold fX7_agrees_170 at h
  obtain ⟨hz1, h⟩ := rz_some h
  obtain ⟨er, eG⟩ := inj2 h
  subst er; subst eG
  exact j_zret ok rfl hz1 dX7_agrees_170 hK

def fX7_agrees_165   (G : Mem) : Option (Int32 × Mem) :=
  fX7_agrees_170 (1 : Int32) G

set_option maxRecDepth 100000 in
set_option maxHeartbeats 4000000 in
theorem jX7_agrees_165 {X : Cx} (ok : OK X cX7_agrees RX7 (some .boolean) 8 4 172)   (G : Mem) {r : Int32} {G' : Mem} (h : fX7_agrees_165  G = some (r, G')) (hK : (finI X) r G') : J X 8 165 [] [] G := by
  unfold fX7_agrees_165 at h
  refine j_iconst (v := 1) ok dX7_agrees_165 (by decide) ?_
  refine j_goto (tgt := 170) ok dX7_agrees_166 (by decide) ?_
  exact J.sub [] rfl (jX7_agrees_170 ok (1 : Int32) G h hK)

def fX7_agrees_128 (l0 : Nat) (l1 : Int32) (l6 : Int32)  (G : Mem) : Option (Int32 × Mem) :=
  ck G 17 l0 <| (fX7_of l0 l1 (6 : Int32) G).bind fun q1 =>
  if q1.1 = (0 : Int32) then
    fX7_agrees_165 q1.2
  else
    (gR q1.2 17 l0 17).bind fun v3 =>
    (gR q1.2 17 l0 17).bind fun v4 =>
    ck q1.2 17 l0 <| (fX7_kingOf l0 v4 (0 : Int32) ((1 : Int32) - l6) q1.2).bind fun q5 =>
    ck q5.2 17 l0 <| (fX7_attacks l0 v3 (0 : Int32) l6 q5.1 q5.2).bind fun q6 =>
    if q6.1 = (0 : Int32) then
      fX7_agrees_170 (0 : Int32) q6.2
    else
      fX7_agrees_165 q6.2

set_option maxRecDepth 100000 in
set_option maxHeartbeats 4000000 in
theorem jX7_agrees_128 {X : Cx} (ok : OK X cX7_agrees RX7 (some .boolean) 8 4 172) (l0 : Nat) (l1 : Int32) (l6 : Int32)  (G : Mem) {r : Int32} {G' : Mem} (h : fX7_agrees_128 l0 l1 l6 G = some (r, G')) (hK : (finI X) r G') : J X 8 128 [(0, .ref (X.B + l0)), (1, .int l1), (6, .int l6)] [] G := by
  unfold fX7_agrees_128 at h
  refine j_aload_n ok dX7_agrees_128 rfl 0 rfl ?_
  refine j_iload_n ok dX7_agrees_129 rfl 1 rfl ?_
  refine j_bipush (v := 6) ok dX7_agrees_130 (by decide) ?_
  obtain ⟨kq1, h⟩ := ck_some h
  obtain ⟨q1, hq1, h⟩ := obind h
  refine k_V1 ok kl_X7_144 ⟨Nat.le_of_ble_eq_true rfl, Nat.le_of_ble_eq_true rfl⟩ [.int l1, .int (6 : Int32)] kq1 rfl rfl (Nat.le_of_ble_eq_true rfl) (tX7_of ok.fl X.V l0 l1 (6 : Int32) G hq1) dX7_agrees_132 ?_
  rcases ite_some h with ⟨c2, h⟩ | ⟨c2, h⟩
  · refine j_if_eq (tgt := 165) ok dX7_agrees_135 (by decide) (fun _ => ?_) (fun z => absurd c2 z)
    exact J.sub [] rfl (jX7_agrees_165 ok q1.2 h hK)
  · refine j_if_eq (tgt := 165) ok dX7_agrees_135 (by decide) (fun z => absurd z c2) (fun _ => ?_)
    refine j_aload_n ok dX7_agrees_138 rfl 0 rfl ?_
    refine j_aload_n ok dX7_agrees_139 rfl 0 rfl ?_
    obtain ⟨v3, hv3, h⟩ := obind h
    refine k_getR ok fl_X7_48 hv3 dX7_agrees_140 ?_
    refine j_iconst (v := 0) ok dX7_agrees_143 (by decide) ?_
    refine j_iload ok dX7_agrees_144 2 rfl ?_
    refine j_aload_n ok dX7_agrees_146 rfl 0 rfl ?_
    refine j_aload_n ok dX7_agrees_147 rfl 0 rfl ?_
    obtain ⟨v4, hv4, h⟩ := obind h
    refine k_getR ok fl_X7_48 hv4 dX7_agrees_148 ?_
    refine j_iconst (v := 0) ok dX7_agrees_151 (by decide) ?_
    refine j_iconst (v := 1) ok dX7_agrees_152 (by decide) ?_
    refine j_iload ok dX7_agrees_153 2 rfl ?_
    refine j_isub ok dX7_agrees_155 ?_
    obtain ⟨kq5, h⟩ := ck_some h
    obtain ⟨q5, hq5, h⟩ := obind h
    refine k_V1 ok kl_X7_137 ⟨Nat.le_of_ble_eq_true rfl, Nat.le_of_ble_eq_true rfl⟩ [.ref (X.B + v4), .int (0 : Int32), .int ((1 : Int32) - l6)] kq5 rfl rfl (Nat.le_of_ble_eq_true rfl) (tX7_kingOf ok.fl X.V l0 v4 (0 : Int32) ((1 : Int32) - l6) q1.2 hq5) dX7_agrees_156 ?_
    obtain ⟨kq6, h⟩ := ck_some h
    obtain ⟨q6, hq6, h⟩ := obind h
    refine k_V1 ok kl_X7_141 ⟨Nat.le_of_ble_eq_true rfl, Nat.le_of_ble_eq_true rfl⟩ [.ref (X.B + v3), .int (0 : Int32), .int l6, .int q5.1] kq6 rfl rfl (Nat.le_of_ble_eq_true rfl) (tX7_attacks ok.fl X.V l0 v3 (0 : Int32) l6 q5.1 q5.2 hq6) dX7_agrees_159 ?_
    rcases ite_some h with ⟨c7, h⟩ | ⟨c7, h⟩
    · refine j_if_eq (tgt := 169) ok dX7_agrees_162 (by decide) (fun _ => ?_) (fun z => absurd c7 z)
      refine j_iconst (v := 0) ok dX7_agrees_169 (by decide) ?_
      exact J.sub [] rfl (jX7_agrees_170 ok (0 : Int32) q6.2 h hK)
    · refine j_if_eq (tgt := 169) ok dX7_agrees_162 (by decide) (fun z => absurd z c7) (fun _ => ?_)
      exact J.sub [] rfl (jX7_agrees_165 ok q6.2 h hK)

def fX7_agrees_0 (l0 : Nat) (l1 : Int32) (l2 : Int32) (l3 : Int32) (l4 : Int32) (l5 : Int32) (l6 : Int32)  (G : Mem) : Option (Int32 × Mem) :=
  (gR G 17 l0 0).bind fun v1 =>
  (gA G 1 v1 (0 : Int32)).bind fun v2 =>
  ck G 17 l0 <| (fX7_of l0 l1 (0 : Int32) G).bind fun q3 =>
  (gR q3.2 17 l0 17).bind fun v4 =>
  (gA q3.2 1 v4 l5).bind fun v5 =>
  (fX7_kindOf v5 q3.2).bind fun q6 =>
  (fX7_isOpen q3.1 q6.1 q6.2).bind fun q7 =>
  if q7.1 = (0 : Int32) then
    fX7_agrees_98 q7.2
  else
    ck q7.2 17 l0 <| (fX7_of l0 l1 (1 : Int32) q7.2).bind fun q9 =>
    dz v2 <|
    (fX7_isOpen q9.1 (l4 - l4 / v2 * v2) q9.2).bind fun q11 =>
    if q11.1 = (0 : Int32) then
      fX7_agrees_98 q11.2
    else
      ck q11.2 17 l0 <| (fX7_of l0 l1 (2 : Int32) q11.2).bind fun q13 =>
      dz v2 <|
      (fX7_isOpen q13.1 (l4 / v2) q13.2).bind fun q15 =>
      if q15.1 = (0 : Int32) then
        fX7_agrees_98 q15.2
      else
        ck q15.2 17 l0 <| (fX7_of l0 l1 (3 : Int32) q15.2).bind fun q17 =>
        dz v2 <|
        (fX7_isOpen q17.1 (l5 - l5 / v2 * v2) q17.2).bind fun q19 =>
        if q19.1 = (0 : Int32) then
          fX7_agrees_98 q19.2
        else
          ck q19.2 17 l0 <| (fX7_of l0 l1 (4 : Int32) q19.2).bind fun q21 =>
          dz v2 <|
          (fX7_isOpen q21.1 (l5 / v2) q21.2).bind fun q23 =>
          if q23.1 = (0 : Int32) then
            fX7_agrees_98 q23.2
          else
            ck q23.2 17 l0 <| (fX7_of l0 l1 (5 : Int32) q23.2).bind fun q25 =>
            if q25.1 = (1 : Int32) then
              (gR q25.2 17 l0 13).bind fun v27 =>
              (fX7_position l2 l3 q25.2).bind fun q28 =>
              (gA q28.2 1 v27 (q28.1 + l5)).bind fun v29 =>
              if v29 = (0 : Int32) then
                some ((0 : Int32), q28.2)
              else
                fX7_agrees_128 l0 l1 l6 q28.2
            else
              fX7_agrees_128 l0 l1 l6 q25.2

set_option maxRecDepth 100000 in
set_option maxHeartbeats 4000000 in
theorem jX7_agrees_0 {X : Cx} (ok : OK X cX7_agrees RX7 (some .boolean) 8 4 172) (l0 : Nat) (l1 : Int32) (l2 : Int32) (l3 : Int32) (l4 : Int32) (l5 : Int32) (l6 : Int32)  (G : Mem) {r : Int32} {G' : Mem} (h : fX7_agrees_0 l0 l1 l2 l3 l4 l5 l6 G = some (r, G')) (hK : (finI X) r G') : J X 8 0 [(0, .ref (X.B + l0)), (1, .int l1), (2, .int l2), (3, .int l3), (4, .int l4), (5, .int l5), (6, .int l6)] [] G := by
  unfold fX7_agrees_0 at h
  refine j_aload_n ok dX7_agrees_0 rfl 0 rfl ?_
  obtain ⟨v1, hv1, h⟩ := obind h
  refine k_getR ok fl_X7_9 hv1 dX7_agrees_1 ?_
  refine j_iconst (v := 0) ok dX7_agrees_4 (by decide) ?_
  obtain ⟨v2, hv2, h⟩ := obind h
  refine j_iald ok hv2 dX7_agrees_5 ?_
  refine j_istore (L' := [(7, .int v2), (0, .ref (X.B + l0)), (1, .int l1), (2, .int l2), (3, .int l3), (4, .int l4), (5, .int l5), (6, .int l6)]) ok dX7_agrees_6 (by decide) rfl ?_
  refine j_aload_n ok dX7_agrees_8 rfl 1 rfl ?_
  refine j_iload_n ok dX7_agrees_9 rfl 2 rfl ?_
  refine j_iconst (v := 0) ok dX7_agrees_10 (by decide) ?_
  obtain ⟨kq3, h⟩ := ck_some h
  obtain ⟨q3, hq3, h⟩ := obind h
  refine k_V1 ok kl_X7_144 ⟨Nat.le_of_ble_eq_true rfl, Nat.le_of_ble_eq_true rfl⟩ [.int l1, .int (0 : Int32)] kq3 rfl rfl (Nat.le_of_ble_eq_true rfl) (tX7_of ok.fl X.V l0 l1 (0 : Int32) G hq3) dX7_agrees_11 ?_
  refine j_aload_n ok dX7_agrees_14 rfl 1 rfl ?_
  obtain ⟨v4, hv4, h⟩ := obind h
  refine k_getR ok fl_X7_48 hv4 dX7_agrees_15 ?_
  refine j_iload ok dX7_agrees_18 6 rfl ?_
  obtain ⟨v5, hv5, h⟩ := obind h
  refine j_iald ok hv5 dX7_agrees_20 ?_
  obtain ⟨q6, hq6, h⟩ := obind h
  refine k_S1 ok kl_X7_113 ⟨Nat.le_of_ble_eq_true rfl, Nat.le_of_ble_eq_true rfl⟩ [.int v5] rfl rfl (Nat.le_of_ble_eq_true rfl) (tX7_kindOf ok.fl X.V v5 q3.2 hq6) dX7_agrees_21 ?_
  obtain ⟨q7, hq7, h⟩ := obind h
  refine k_S1 ok kl_X7_147 ⟨Nat.le_of_ble_eq_true rfl, Nat.le_of_ble_eq_true rfl⟩ [.int q3.1, .int q6.1] rfl rfl (Nat.le_of_ble_eq_true rfl) (tX7_isOpen ok.fl X.V q3.1 q6.1 q6.2 hq7) dX7_agrees_24 ?_
  rcases ite_some h with ⟨c8, h⟩ | ⟨c8, h⟩
  · refine j_if_eq (tgt := 98) ok dX7_agrees_27 (by decide) (fun _ => ?_) (fun z => absurd c8 z)
    exact J.sub [] rfl (jX7_agrees_98 ok q7.2 h hK)
  · refine j_if_eq (tgt := 98) ok dX7_agrees_27 (by decide) (fun z => absurd z c8) (fun _ => ?_)
    refine j_aload_n ok dX7_agrees_30 rfl 1 rfl ?_
    refine j_iload_n ok dX7_agrees_31 rfl 2 rfl ?_
    refine j_iconst (v := 1) ok dX7_agrees_32 (by decide) ?_
    obtain ⟨kq9, h⟩ := ck_some h
    obtain ⟨q9, hq9, h⟩ := obind h
    refine k_V1 ok kl_X7_144 ⟨Nat.le_of_ble_eq_true rfl, Nat.le_of_ble_eq_true rfl⟩ [.int l1, .int (1 : Int32)] kq9 rfl rfl (Nat.le_of_ble_eq_true rfl) (tX7_of ok.fl X.V l0 l1 (1 : Int32) q7.2 hq9) dX7_agrees_33 ?_
    refine j_iload ok dX7_agrees_36 5 rfl ?_
    refine j_iload ok dX7_agrees_38 0 rfl ?_
    obtain ⟨hz9, h⟩ := dz_some h
    refine j_irem ok dX7_agrees_40 hz9 ?_
    obtain ⟨q11, hq11, h⟩ := obind h
    refine k_S1 ok kl_X7_147 ⟨Nat.le_of_ble_eq_true rfl, Nat.le_of_ble_eq_true rfl⟩ [.int q9.1, .int (l4 - l4 / v2 * v2)] rfl rfl (Nat.le_of_ble_eq_true rfl) (tX7_isOpen ok.fl X.V q9.1 (l4 - l4 / v2 * v2) q9.2 hq11) dX7_agrees_41 ?_
    rcases ite_some h with ⟨c12, h⟩ | ⟨c12, h⟩
    · refine j_if_eq (tgt := 98) ok dX7_agrees_44 (by decide) (fun _ => ?_) (fun z => absurd c12 z)
      exact J.sub [] rfl (jX7_agrees_98 ok q11.2 h hK)
    · refine j_if_eq (tgt := 98) ok dX7_agrees_44 (by decide) (fun z => absurd z c12) (fun _ => ?_)
      refine j_aload_n ok dX7_agrees_47 rfl 1 rfl ?_
      refine j_iload_n ok dX7_agrees_48 rfl 2 rfl ?_
      refine j_iconst (v := 2) ok dX7_agrees_49 (by decide) ?_
      obtain ⟨kq13, h⟩ := ck_some h
      obtain ⟨q13, hq13, h⟩ := obind h
      refine k_V1 ok kl_X7_144 ⟨Nat.le_of_ble_eq_true rfl, Nat.le_of_ble_eq_true rfl⟩ [.int l1, .int (2 : Int32)] kq13 rfl rfl (Nat.le_of_ble_eq_true rfl) (tX7_of ok.fl X.V l0 l1 (2 : Int32) q11.2 hq13) dX7_agrees_50 ?_
      refine j_iload ok dX7_agrees_53 5 rfl ?_
      refine j_iload ok dX7_agrees_55 0 rfl ?_
      obtain ⟨hz13, h⟩ := dz_some h
      refine j_idiv ok dX7_agrees_57 hz13 ?_
      obtain ⟨q15, hq15, h⟩ := obind h
      refine k_S1 ok kl_X7_147 ⟨Nat.le_of_ble_eq_true rfl, Nat.le_of_ble_eq_true rfl⟩ [.int q13.1, .int (l4 / v2)] rfl rfl (Nat.le_of_ble_eq_true rfl) (tX7_isOpen ok.fl X.V q13.1 (l4 / v2) q13.2 hq15) dX7_agrees_58 ?_
      rcases ite_some h with ⟨c16, h⟩ | ⟨c16, h⟩
      · refine j_if_eq (tgt := 98) ok dX7_agrees_61 (by decide) (fun _ => ?_) (fun z => absurd c16 z)
        exact J.sub [] rfl (jX7_agrees_98 ok q15.2 h hK)
      · refine j_if_eq (tgt := 98) ok dX7_agrees_61 (by decide) (fun z => absurd z c16) (fun _ => ?_)
        refine j_aload_n ok dX7_agrees_64 rfl 1 rfl ?_
        refine j_iload_n ok dX7_agrees_65 rfl 2 rfl ?_
        refine j_iconst (v := 3) ok dX7_agrees_66 (by decide) ?_
        obtain ⟨kq17, h⟩ := ck_some h
        obtain ⟨q17, hq17, h⟩ := obind h
        refine k_V1 ok kl_X7_144 ⟨Nat.le_of_ble_eq_true rfl, Nat.le_of_ble_eq_true rfl⟩ [.int l1, .int (3 : Int32)] kq17 rfl rfl (Nat.le_of_ble_eq_true rfl) (tX7_of ok.fl X.V l0 l1 (3 : Int32) q15.2 hq17) dX7_agrees_67 ?_
        refine j_iload ok dX7_agrees_70 6 rfl ?_
        refine j_iload ok dX7_agrees_72 0 rfl ?_
        obtain ⟨hz17, h⟩ := dz_some h
        refine j_irem ok dX7_agrees_74 hz17 ?_
        obtain ⟨q19, hq19, h⟩ := obind h
        refine k_S1 ok kl_X7_147 ⟨Nat.le_of_ble_eq_true rfl, Nat.le_of_ble_eq_true rfl⟩ [.int q17.1, .int (l5 - l5 / v2 * v2)] rfl rfl (Nat.le_of_ble_eq_true rfl) (tX7_isOpen ok.fl X.V q17.1 (l5 - l5 / v2 * v2) q17.2 hq19) dX7_agrees_75 ?_
        rcases ite_some h with ⟨c20, h⟩ | ⟨c20, h⟩
        · refine j_if_eq (tgt := 98) ok dX7_agrees_78 (by decide) (fun _ => ?_) (fun z => absurd c20 z)
          exact J.sub [] rfl (jX7_agrees_98 ok q19.2 h hK)
        · refine j_if_eq (tgt := 98) ok dX7_agrees_78 (by decide) (fun z => absurd z c20) (fun _ => ?_)
          refine j_aload_n ok dX7_agrees_81 rfl 1 rfl ?_
          refine j_iload_n ok dX7_agrees_82 rfl 2 rfl ?_
          refine j_iconst (v := 4) ok dX7_agrees_83 (by decide) ?_
          obtain ⟨kq21, h⟩ := ck_some h
          obtain ⟨q21, hq21, h⟩ := obind h
          refine k_V1 ok kl_X7_144 ⟨Nat.le_of_ble_eq_true rfl, Nat.le_of_ble_eq_true rfl⟩ [.int l1, .int (4 : Int32)] kq21 rfl rfl (Nat.le_of_ble_eq_true rfl) (tX7_of ok.fl X.V l0 l1 (4 : Int32) q19.2 hq21) dX7_agrees_84 ?_
          refine j_iload ok dX7_agrees_87 6 rfl ?_
          refine j_iload ok dX7_agrees_89 0 rfl ?_
          obtain ⟨hz21, h⟩ := dz_some h
          refine j_idiv ok dX7_agrees_91 hz21 ?_
          obtain ⟨q23, hq23, h⟩ := obind h
          refine k_S1 ok kl_X7_147 ⟨Nat.le_of_ble_eq_true rfl, Nat.le_of_ble_eq_true rfl⟩ [.int q21.1, .int (l5 / v2)] rfl rfl (Nat.le_of_ble_eq_true rfl) (tX7_isOpen ok.fl X.V q21.1 (l5 / v2) q21.2 hq23) dX7_agrees_92 ?_
          rcases ite_some h with ⟨c24, h⟩ | ⟨c24, h⟩
          · refine j_if_ne (tgt := 100) ok dX7_agrees_95 (by decide) (fun z => absurd c24 z) (fun _ => ?_)
            exact J.sub [] rfl (jX7_agrees_98 ok q23.2 h hK)
          · refine j_if_ne (tgt := 100) ok dX7_agrees_95 (by decide) (fun _ => ?_) (fun z => absurd z c24)
            refine j_aload_n ok dX7_agrees_100 rfl 1 rfl ?_
            refine j_iload_n ok dX7_agrees_101 rfl 2 rfl ?_
            refine j_iconst (v := 5) ok dX7_agrees_102 (by decide) ?_
            obtain ⟨kq25, h⟩ := ck_some h
            obtain ⟨q25, hq25, h⟩ := obind h
            refine k_V1 ok kl_X7_144 ⟨Nat.le_of_ble_eq_true rfl, Nat.le_of_ble_eq_true rfl⟩ [.int l1, .int (5 : Int32)] kq25 rfl rfl (Nat.le_of_ble_eq_true rfl) (tX7_of ok.fl X.V l0 l1 (5 : Int32) q23.2 hq25) dX7_agrees_103 ?_
            refine j_iconst (v := 1) ok dX7_agrees_106 (by decide) ?_
            rcases ite_some h with ⟨c26, h⟩ | ⟨c26, h⟩
            · refine j_icmp_ne (tgt := 128) ok dX7_agrees_107 (by decide) (fun z => absurd c26 z) (fun _ => ?_)
              refine j_aload_n ok dX7_agrees_110 rfl 1 rfl ?_
              obtain ⟨v27, hv27, h⟩ := obind h
              refine k_getR ok fl_X7_36 hv27 dX7_agrees_111 ?_
              refine j_iload_n ok dX7_agrees_114 rfl 3 rfl ?_
              refine j_iload_n ok dX7_agrees_115 rfl 4 rfl ?_
              obtain ⟨q28, hq28, h⟩ := obind h
              refine k_S1 ok kl_X7_134 ⟨Nat.le_of_ble_eq_true rfl, Nat.le_of_ble_eq_true rfl⟩ [.int l2, .int l3] rfl rfl (Nat.le_of_ble_eq_true rfl) (tX7_position ok.fl X.V l2 l3 q25.2 hq28) dX7_agrees_116 ?_
              refine j_iload ok dX7_agrees_119 6 rfl ?_
              refine j_iadd ok dX7_agrees_121 ?_
              obtain ⟨v29, hv29, h⟩ := obind h
              refine j_iald ok hv29 dX7_agrees_122 ?_
              rcases ite_some h with ⟨c30, h⟩ | ⟨c30, h⟩
              · refine j_if_ne (tgt := 128) ok dX7_agrees_123 (by decide) (fun z => absurd c30 z) (fun _ => ?_)
                refine j_iconst (v := 0) ok dX7_agrees_126 (by decide) ?_
                obtain ⟨er, eG⟩ := inj2 h
                subst er; subst eG
                exact j_zret ok rfl (Or.inl rfl) dX7_agrees_127 hK
              · refine j_if_ne (tgt := 128) ok dX7_agrees_123 (by decide) (fun _ => ?_) (fun z => absurd z c30)
                exact J.sub [1, 2, 7] rfl (jX7_agrees_128 ok l0 l1 l6 q28.2 h hK)
            · refine j_icmp_ne (tgt := 128) ok dX7_agrees_107 (by decide) (fun _ => ?_) (fun z => absurd z c26)
              exact J.sub [1, 2, 7] rfl (jX7_agrees_128 ok l0 l1 l6 q25.2 h hK)

def fX7_agrees (l0 : Nat) (l1 : Int32) (l2 : Int32) (l3 : Int32) (l4 : Int32) (l5 : Int32) (l6 : Int32) (G : Mem) : Option (Int32 × Mem) := fX7_agrees_0 l0 l1 l2 l3 l4 l5 l6 G
set_option maxRecDepth 100000 in
theorem tX7_agrees {l : Launch} (hfl : l.stackTraces = false) (V : Wd) (l0 : Nat) (l1 : Int32) (l2 : Int32) (l3 : Int32) (l4 : Int32) (l5 : Int32) (l6 : Int32) (G : Mem) {r : Int32} {G' : Mem} (h : fX7_agrees l0 l1 l2 l3 l4 l5 l6 G = some (r, G')) : Mx l yX7_agrees cX7_agrees 8 (some .boolean) 4 172 V [.ref (V.B + l0), .int l1, .int l2, .int l3, .int l4, .int l5, .int l6] G (.inl (some (.int r))) G' :=
  mx_of (L := [(0, .ref (V.B + l0)), (1, .int l1), (2, .int l2), (3, .int l3), (4, .int l4), (5, .int l5), (6, .int l6)]) hfl (by decide +kernel) (Nat.le_of_ble_eq_true rfl) rfl (fun X hl hV hin ok he => by
    subst hl; subst hV
    exact J.sub [0, 1, 2, 3, 4, 5, 6] rfl (jX7_agrees_0 ok l0 l1 l2 l3 l4 l5 l6 G h he))
def fX7_numberOf_72 (l0 : Nat) (l1 : Int32)  (G : Mem) : Option (Int32 × Mem) :=
  (gR G 17 l0 14).bind fun v1 =>
  (gA G 1 v1 l1).bind fun v2 =>
  if v2 = (40 : Int32) then
    some ((-1 : Int32), G)
  else
    (gR G 17 l0 17).bind fun v4 =>
    (gR G 17 l0 13).bind fun v5 =>
    (gR G 17 l0 14).bind fun v6 =>
    (gA G 1 v6 l1).bind fun v7 =>
    (fX7_position l1 v7 G).bind fun q8 =>
    (cpI q8.2 v4 (0 : Int32) v5 q8.1 (36 : Int32)).bind fun G9 =>
    (gR G9 17 l0 18).bind fun v10 =>
    (gR G9 17 l0 14).bind fun v11 =>
    (gA G9 1 v11 l1).bind fun v12 =>
    (pJ G9 v10 ((l1 * (40 : Int32)) + v12) (0 : Int64)).bind fun G13 =>
    (gR G13 17 l0 14).bind fun v14 =>
    (gA G13 1 v14 l1).bind fun v15 =>
    (pA G13 v14 l1 (v15 + (1 : Int32))).bind fun G16 =>
    (gR G16 17 l0 14).bind fun v17 =>
    (gA G16 1 v17 l1).bind fun v18 =>
    some ((v18 - (1 : Int32)), G16)

set_option maxRecDepth 100000 in
set_option maxHeartbeats 4000000 in
theorem jX7_numberOf_72 {X : Cx} (ok : OK X cX7_numberOf RX7 (some .int) 5 1 120) (l0 : Nat) (l1 : Int32)  (G : Mem) {r : Int32} {G' : Mem} (h : fX7_numberOf_72 l0 l1 G = some (r, G')) (hK : (finI X) r G') : J X 5 72 [(0, .ref (X.B + l0)), (1, .int l1)] [] G := by
  unfold fX7_numberOf_72 at h
  refine j_aload_n ok dX7_numberOf_72 rfl 0 rfl ?_
  obtain ⟨v1, hv1, h⟩ := obind h
  refine k_getR ok fl_X7_39 hv1 dX7_numberOf_73 ?_
  refine j_iload_n ok dX7_numberOf_76 rfl 1 rfl ?_
  obtain ⟨v2, hv2, h⟩ := obind h
  refine j_iald ok hv2 dX7_numberOf_77 ?_
  refine j_bipush (v := 40) ok dX7_numberOf_78 (by decide) ?_
  rcases ite_some h with ⟨c3, h⟩ | ⟨c3, h⟩
  · refine j_icmp_ne (tgt := 85) ok dX7_numberOf_80 (by decide) (fun z => absurd c3 z) (fun _ => ?_)
    refine j_iconst (v := -1) ok dX7_numberOf_83 (by decide) ?_
    obtain ⟨er, eG⟩ := inj2 h
    subst er; subst eG
    exact j_iret ok rfl dX7_numberOf_84 hK
  · refine j_icmp_ne (tgt := 85) ok dX7_numberOf_80 (by decide) (fun _ => ?_) (fun z => absurd z c3)
    refine j_aload_n ok dX7_numberOf_85 rfl 0 rfl ?_
    obtain ⟨v4, hv4, h⟩ := obind h
    refine k_getR ok fl_X7_48 hv4 dX7_numberOf_86 ?_
    refine j_iconst (v := 0) ok dX7_numberOf_89 (by decide) ?_
    refine j_aload_n ok dX7_numberOf_90 rfl 0 rfl ?_
    obtain ⟨v5, hv5, h⟩ := obind h
    refine k_getR ok fl_X7_36 hv5 dX7_numberOf_91 ?_
    refine j_iload_n ok dX7_numberOf_94 rfl 1 rfl ?_
    refine j_aload_n ok dX7_numberOf_95 rfl 0 rfl ?_
    obtain ⟨v6, hv6, h⟩ := obind h
    refine k_getR ok fl_X7_39 hv6 dX7_numberOf_96 ?_
    refine j_iload_n ok dX7_numberOf_99 rfl 1 rfl ?_
    obtain ⟨v7, hv7, h⟩ := obind h
    refine j_iald ok hv7 dX7_numberOf_100 ?_
    obtain ⟨q8, hq8, h⟩ := obind h
    refine k_S1 ok kl_X7_134 ⟨Nat.le_of_ble_eq_true rfl, Nat.le_of_ble_eq_true rfl⟩ [.int l1, .int v7] rfl rfl (Nat.le_of_ble_eq_true rfl) (tX7_position ok.fl X.V l1 v7 G hq8) dX7_numberOf_101 ?_
    refine j_bipush (v := 36) ok dX7_numberOf_104 (by decide) ?_
    obtain ⟨G9, hG9, h⟩ := obind h
    refine k_cpI ok wm_X7_89 (Nat.le_of_ble_eq_true rfl) (Nat.le_of_ble_eq_true rfl) (Nat.le_of_ble_eq_true rfl) hG9 dX7_numberOf_106 ?_
    refine j_aload_n ok dX7_numberOf_109 rfl 0 rfl ?_
    obtain ⟨v10, hv10, h⟩ := obind h
    refine k_getR ok fl_X7_51 hv10 dX7_numberOf_110 ?_
    refine j_iload_n ok dX7_numberOf_113 rfl 1 rfl ?_
    refine j_bipush (v := 40) ok dX7_numberOf_114 (by decide) ?_
    refine j_imul ok dX7_numberOf_116 ?_
    refine j_aload_n ok dX7_numberOf_117 rfl 0 rfl ?_
    obtain ⟨v11, hv11, h⟩ := obind h
    refine k_getR ok fl_X7_39 hv11 dX7_numberOf_118 ?_
    refine j_iload_n ok dX7_numberOf_121 rfl 1 rfl ?_
    obtain ⟨v12, hv12, h⟩ := obind h
    refine j_iald ok hv12 dX7_numberOf_122 ?_
    refine j_iadd ok dX7_numberOf_123 ?_
    refine j_lconst (v := 0) ok dX7_numberOf_124 (by decide) ?_
    obtain ⟨G13, hG13, h⟩ := obind h
    refine j_last ok hG13 dX7_numberOf_125 ?_
    refine j_aload_n ok dX7_numberOf_126 rfl 0 rfl ?_
    obtain ⟨v14, hv14, h⟩ := obind h
    refine k_getR ok fl_X7_39 hv14 dX7_numberOf_127 ?_
    refine j_iload_n ok dX7_numberOf_130 rfl 1 rfl ?_
    refine j_dup2 ok dX7_numberOf_131 rfl rfl ?_
    obtain ⟨v15, hv15, h⟩ := obind h
    refine j_iald ok hv15 dX7_numberOf_132 ?_
    refine j_iconst (v := 1) ok dX7_numberOf_133 (by decide) ?_
    refine j_iadd ok dX7_numberOf_134 ?_
    obtain ⟨G16, hG16, h⟩ := obind h
    refine j_iast ok hG16 dX7_numberOf_135 ?_
    refine j_aload_n ok dX7_numberOf_136 rfl 0 rfl ?_
    obtain ⟨v17, hv17, h⟩ := obind h
    refine k_getR ok fl_X7_39 hv17 dX7_numberOf_137 ?_
    refine j_iload_n ok dX7_numberOf_140 rfl 1 rfl ?_
    obtain ⟨v18, hv18, h⟩ := obind h
    refine j_iald ok hv18 dX7_numberOf_141 ?_
    refine j_iconst (v := 1) ok dX7_numberOf_142 (by decide) ?_
    refine j_isub ok dX7_numberOf_143 ?_
    obtain ⟨er, eG⟩ := inj2 h
    subst er; subst eG
    exact j_iret ok rfl dX7_numberOf_144 hK

def fX7_numberOf_64 (l2 : Int32)  (G : Mem) : Option (Int32 × Mem) :=
  some (l2, G)

set_option maxRecDepth 100000 in
set_option maxHeartbeats 4000000 in
theorem jX7_numberOf_64 {X : Cx} (ok : OK X cX7_numberOf RX7 (some .int) 5 1 120) (l2 : Int32)  (G : Mem) {r : Int32} {G' : Mem} (h : fX7_numberOf_64 l2 G = some (r, G')) (hK : (finI X) r G') : J X 5 64 [(2, .int l2)] [] G := by
  unfold fX7_numberOf_64 at h
  refine j_iload_n ok dX7_numberOf_64 rfl 0 rfl ?_
  obtain ⟨er, eG⟩ := inj2 h
  subst er; subst eG
  exact j_iret ok rfl dX7_numberOf_65 hK

def fX7_numberOf_55 (l0 : Nat) (l1 : Int32) (l2 : Int32) (l4 : Int32)  (G : Mem) : Option (((Int32) ⊕ Int32) × Mem) :=
  ck G 17 l0 <| (fX7_squareMany l0 G).bind fun q1 =>
  if l4 = q1.1 then
    liftE (fX7_numberOf_64 l2 q1.2)
  else
    some (.inl ((l2 + (1 : Int32))), q1.2)

set_option maxRecDepth 100000 in
set_option maxHeartbeats 4000000 in
theorem jX7_numberOf_55 {X : Cx} (ok : OK X cX7_numberOf RX7 (some .int) 5 1 120) (l0 : Nat) (l1 : Int32) (l2 : Int32) (l4 : Int32)  (G : Mem) {r : ((Int32) ⊕ Int32)} {G' : Mem} (h : fX7_numberOf_55 l0 l1 l2 l4 G = some (r, G')) (hK : (finL X 5 2 (fun s : Int32 => [(0, .ref (X.B + l0)), (1, .int l1), (2, .int s)]) (finI X)) r G') : J X 5 55 [(0, .ref (X.B + l0)), (1, .int l1), (2, .int l2), (4, .int l4)] [] G := by
  unfold fX7_numberOf_55 at h
  refine j_iload ok dX7_numberOf_55 3 rfl ?_
  refine j_aload_n ok dX7_numberOf_57 rfl 0 rfl ?_
  obtain ⟨kq1, h⟩ := ck_some h
  obtain ⟨q1, hq1, h⟩ := obind h
  refine k_V1 ok kl_X7_120 ⟨Nat.le_of_ble_eq_true rfl, Nat.le_of_ble_eq_true rfl⟩ [] kq1 rfl rfl (Nat.le_of_ble_eq_true rfl) (tX7_squareMany ok.fl X.V l0 G hq1) dX7_numberOf_58 ?_
  rcases ite_some h with ⟨c2, h⟩ | ⟨c2, h⟩
  · refine j_icmp_ne (tgt := 66) ok dX7_numberOf_61 (by decide) (fun z => absurd c2 z) (fun _ => ?_)
    obtain ⟨r1, e1, h1⟩ := lift_some h
    subst e1
    exact J.sub [2] rfl (jX7_numberOf_64 ok l2 q1.2 h1 hK)
  · refine j_icmp_ne (tgt := 66) ok dX7_numberOf_61 (by decide) (fun _ => ?_) (fun z => absurd z c2)
    refine j_iinc (L' := [(2, .int (l2 + (1 : Int32))), (0, .ref (X.B + l0)), (1, .int l1), (4, .int l4)]) (v := (l2 + (1 : Int32))) ok dX7_numberOf_66 (q := 2) rfl rfl (by decide) rfl ?_
    refine j_goto (tgt := 2) ok dX7_numberOf_69 (by decide) ?_
    obtain ⟨er, eG⟩ := inj2 h
    subst er; subst eG
    have hJ : J X 5 2 [(0, .ref (X.B + l0)), (1, .int l1), (2, .int (l2 + (1 : Int32)))] [] q1.2 := hK
    exact J.sub [1, 2, 0] rfl hJ

def fX7_numberOf_21 (l0 : Nat) (l1 : Int32) (l2 : Int32) (l3 : Int32) (l4 : Int32)  (G : Mem) : Option (((Int32) ⊕ ((Int32) ⊕ Int32)) × Mem) :=
  ck G 17 l0 <| (fX7_squareMany l0 G).bind fun q1 =>
  if q1.1 ≤ l4 then
    liftE (fX7_numberOf_55 l0 l1 l2 l4 q1.2)
  else
    (gR q1.2 17 l0 13).bind fun v3 =>
    (gA q1.2 1 v3 (l3 + l4)).bind fun v4 =>
    (gR q1.2 17 l0 17).bind fun v5 =>
    (gA q1.2 1 v5 l4).bind fun v6 =>
    if v4 = v6 then
      some (.inl ((l4 + (1 : Int32))), q1.2)
    else
      liftE (fX7_numberOf_55 l0 l1 l2 l4 q1.2)

set_option maxRecDepth 100000 in
set_option maxHeartbeats 4000000 in
theorem jX7_numberOf_21 {X : Cx} (ok : OK X cX7_numberOf RX7 (some .int) 5 1 120) (l0 : Nat) (l1 : Int32) (l2 : Int32) (l3 : Int32) (l4 : Int32)  (G : Mem) {r : ((Int32) ⊕ ((Int32) ⊕ Int32))} {G' : Mem} (h : fX7_numberOf_21 l0 l1 l2 l3 l4 G = some (r, G')) (hK : (finL X 5 21 (fun s : Int32 => [(0, .ref (X.B + l0)), (1, .int l1), (2, .int l2), (3, .int l3), (4, .int s)]) (finL X 5 2 (fun s : Int32 => [(0, .ref (X.B + l0)), (1, .int l1), (2, .int s)]) (finI X))) r G') : J X 5 21 [(0, .ref (X.B + l0)), (1, .int l1), (2, .int l2), (3, .int l3), (4, .int l4)] [] G := by
  unfold fX7_numberOf_21 at h
  refine j_iload ok dX7_numberOf_21 4 rfl ?_
  refine j_aload_n ok dX7_numberOf_23 rfl 0 rfl ?_
  obtain ⟨kq1, h⟩ := ck_some h
  obtain ⟨q1, hq1, h⟩ := obind h
  refine k_V1 ok kl_X7_120 ⟨Nat.le_of_ble_eq_true rfl, Nat.le_of_ble_eq_true rfl⟩ [] kq1 rfl rfl (Nat.le_of_ble_eq_true rfl) (tX7_squareMany ok.fl X.V l0 G hq1) dX7_numberOf_24 ?_
  rcases ite_some h with ⟨c2, h⟩ | ⟨c2, h⟩
  · refine j_icmp_ge (tgt := 55) ok dX7_numberOf_27 (by decide) (fun _ => ?_) (fun z => absurd c2 z)
    obtain ⟨r1, e1, h1⟩ := lift_some h
    subst e1
    exact J.sub [0, 1, 2, 4] rfl (jX7_numberOf_55 ok l0 l1 l2 l4 q1.2 h1 hK)
  · refine j_icmp_ge (tgt := 55) ok dX7_numberOf_27 (by decide) (fun z => absurd z c2) (fun _ => ?_)
    refine j_aload_n ok dX7_numberOf_30 rfl 0 rfl ?_
    obtain ⟨v3, hv3, h⟩ := obind h
    refine k_getR ok fl_X7_36 hv3 dX7_numberOf_31 ?_
    refine j_iload_n ok dX7_numberOf_34 rfl 3 rfl ?_
    refine j_iload ok dX7_numberOf_35 4 rfl ?_
    refine j_iadd ok dX7_numberOf_37 ?_
    obtain ⟨v4, hv4, h⟩ := obind h
    refine j_iald ok hv4 dX7_numberOf_38 ?_
    refine j_aload_n ok dX7_numberOf_39 rfl 0 rfl ?_
    obtain ⟨v5, hv5, h⟩ := obind h
    refine k_getR ok fl_X7_48 hv5 dX7_numberOf_40 ?_
    refine j_iload ok dX7_numberOf_43 4 rfl ?_
    obtain ⟨v6, hv6, h⟩ := obind h
    refine j_iald ok hv6 dX7_numberOf_45 ?_
    rcases ite_some h with ⟨c7, h⟩ | ⟨c7, h⟩
    · refine j_icmp_ne (tgt := 55) ok dX7_numberOf_46 (by decide) (fun z => absurd c7 z) (fun _ => ?_)
      refine j_iinc (L' := [(4, .int (l4 + (1 : Int32))), (0, .ref (X.B + l0)), (1, .int l1), (2, .int l2), (3, .int l3)]) (v := (l4 + (1 : Int32))) ok dX7_numberOf_49 (q := 4) rfl rfl (by decide) rfl ?_
      refine j_goto (tgt := 21) ok dX7_numberOf_52 (by decide) ?_
      obtain ⟨er, eG⟩ := inj2 h
      subst er; subst eG
      have hJ : J X 5 21 [(0, .ref (X.B + l0)), (1, .int l1), (2, .int l2), (3, .int l3), (4, .int (l4 + (1 : Int32)))] [] q1.2 := hK
      exact J.sub [1, 2, 3, 4, 0] rfl hJ
    · refine j_icmp_ne (tgt := 55) ok dX7_numberOf_46 (by decide) (fun _ => ?_) (fun z => absurd z c7)
      obtain ⟨r1, e1, h1⟩ := lift_some h
      subst e1
      exact J.sub [0, 1, 2, 4] rfl (jX7_numberOf_55 ok l0 l1 l2 l4 q1.2 h1 hK)

def fX7_numberOf_2 (l0 : Nat) (l1 : Int32) (l2 : Int32)  (G : Mem) : Option (((Int32) ⊕ Int32) × Mem) :=
  (gR G 17 l0 14).bind fun v1 =>
  (gA G 1 v1 l1).bind fun v2 =>
  if v2 ≤ l2 then
    liftE (fX7_numberOf_72 l0 l1 G)
  else
    (fX7_position l1 l2 G).bind fun q4 =>
    loopM (fun (s : Int32) G => fX7_numberOf_21 l0 l1 l2 q4.1 s G) FU ((0 : Int32)) q4.2

set_option maxRecDepth 100000 in
set_option maxHeartbeats 4000000 in
theorem jX7_numberOf_2 {X : Cx} (ok : OK X cX7_numberOf RX7 (some .int) 5 1 120) (l0 : Nat) (l1 : Int32) (l2 : Int32)  (G : Mem) {r : ((Int32) ⊕ Int32)} {G' : Mem} (h : fX7_numberOf_2 l0 l1 l2 G = some (r, G')) (hK : (finL X 5 2 (fun s : Int32 => [(0, .ref (X.B + l0)), (1, .int l1), (2, .int s)]) (finI X)) r G') : J X 5 2 [(0, .ref (X.B + l0)), (1, .int l1), (2, .int l2)] [] G := by
  unfold fX7_numberOf_2 at h
  refine j_iload_n ok dX7_numberOf_2 rfl 2 rfl ?_
  refine j_aload_n ok dX7_numberOf_3 rfl 0 rfl ?_
  obtain ⟨v1, hv1, h⟩ := obind h
  refine k_getR ok fl_X7_39 hv1 dX7_numberOf_4 ?_
  refine j_iload_n ok dX7_numberOf_7 rfl 1 rfl ?_
  obtain ⟨v2, hv2, h⟩ := obind h
  refine j_iald ok hv2 dX7_numberOf_8 ?_
  rcases ite_some h with ⟨c3, h⟩ | ⟨c3, h⟩
  · refine j_icmp_ge (tgt := 72) ok dX7_numberOf_9 (by decide) (fun _ => ?_) (fun z => absurd c3 z)
    obtain ⟨r1, e1, h1⟩ := lift_some h
    subst e1
    exact J.sub [0, 1] rfl (jX7_numberOf_72 ok l0 l1 G h1 hK)
  · refine j_icmp_ge (tgt := 72) ok dX7_numberOf_9 (by decide) (fun z => absurd z c3) (fun _ => ?_)
    refine j_iload_n ok dX7_numberOf_12 rfl 1 rfl ?_
    refine j_iload_n ok dX7_numberOf_13 rfl 2 rfl ?_
    obtain ⟨q4, hq4, h⟩ := obind h
    refine k_S1 ok kl_X7_134 ⟨Nat.le_of_ble_eq_true rfl, Nat.le_of_ble_eq_true rfl⟩ [.int l1, .int l2] rfl rfl (Nat.le_of_ble_eq_true rfl) (tX7_position ok.fl X.V l1 l2 G hq4) dX7_numberOf_14 ?_
    refine j_istore_n (L' := [(3, .int q4.1), (0, .ref (X.B + l0)), (1, .int l1), (2, .int l2)]) ok dX7_numberOf_17 rfl (by decide) rfl ?_
    refine j_iconst (v := 0) ok dX7_numberOf_18 (by decide) ?_
    refine j_istore (L' := [(4, .int (0 : Int32)), (3, .int q4.1), (0, .ref (X.B + l0)), (1, .int l1), (2, .int l2)]) ok dX7_numberOf_19 (by decide) rfl ?_
    have hJ : J X 5 21 [(0, .ref (X.B + l0)), (1, .int l1), (2, .int l2), (3, .int q4.1), (4, .int (0 : Int32))] [] q4.2 := j_loop (loc := fun s : Int32 => [(0, .ref (X.B + l0)), (1, .int l1), (2, .int l2), (3, .int q4.1), (4, .int s)]) (F := (finL X 5 2 (fun s : Int32 => [(0, .ref (X.B + l0)), (1, .int l1), (2, .int s)]) (finI X))) (fun s G r G' hb hk => jX7_numberOf_21 ok l0 l1 l2 q4.1 s G hb hk) _ _ _ _ _ h hK
    exact J.sub [2, 3, 4, 1, 0] rfl hJ

def fX7_numberOf_0 (l0 : Nat) (l1 : Int32)  (G : Mem) : Option (Int32 × Mem) :=
  loopM (fun (s : Int32) G => fX7_numberOf_2 l0 l1 s G) FU ((0 : Int32)) G

set_option maxRecDepth 100000 in
set_option maxHeartbeats 4000000 in
theorem jX7_numberOf_0 {X : Cx} (ok : OK X cX7_numberOf RX7 (some .int) 5 1 120) (l0 : Nat) (l1 : Int32)  (G : Mem) {r : Int32} {G' : Mem} (h : fX7_numberOf_0 l0 l1 G = some (r, G')) (hK : (finI X) r G') : J X 5 0 [(0, .ref (X.B + l0)), (1, .int l1)] [] G := by
  unfold fX7_numberOf_0 at h
  refine j_iconst (v := 0) ok dX7_numberOf_0 (by decide) ?_
  refine j_istore_n (L' := [(2, .int (0 : Int32)), (0, .ref (X.B + l0)), (1, .int l1)]) ok dX7_numberOf_1 rfl (by decide) rfl ?_
  have hJ : J X 5 2 [(0, .ref (X.B + l0)), (1, .int l1), (2, .int (0 : Int32))] [] G := j_loop (loc := fun s : Int32 => [(0, .ref (X.B + l0)), (1, .int l1), (2, .int s)]) (F := (finI X)) (fun s G r G' hb hk => jX7_numberOf_2 ok l0 l1 s G hb hk) _ _ _ _ _ h hK
  exact J.sub [1, 2, 0] rfl hJ

def fX7_numberOf (l0 : Nat) (l1 : Int32) (G : Mem) : Option (Int32 × Mem) := fX7_numberOf_0 l0 l1 G
set_option maxRecDepth 100000 in
theorem tX7_numberOf {l : Launch} (hfl : l.stackTraces = false) (V : Wd) (l0 : Nat) (l1 : Int32) (G : Mem) {r : Int32} {G' : Mem} (h : fX7_numberOf l0 l1 G = some (r, G')) : Mx l yX7_numberOf cX7_numberOf 5 (some .int) 1 120 V [.ref (V.B + l0), .int l1] G (.inl (some (.int r))) G' :=
  mx_of (L := [(0, .ref (V.B + l0)), (1, .int l1)]) hfl (by decide +kernel) (Nat.le_of_ble_eq_true rfl) rfl (fun X hl hV hin ok he => by
    subst hl; subst hV
    exact J.sub [0, 1] rfl (jX7_numberOf_0 ok l0 l1 G h he))
def fX7_follows_205   (G : Mem) : Option (Int32 × Mem) :=
  some ((1 : Int32), G)

set_option maxRecDepth 100000 in
set_option maxHeartbeats 4000000 in
theorem jX7_follows_205 {X : Cx} (ok : OK X cX7_follows RX7 (some .boolean) 8 5 199)   (G : Mem) {r : Int32} {G' : Mem} (h : fX7_follows_205  G = some (r, G')) (hK : (finI X) r G') : J X 8 205 [] [] G := by
  unfold fX7_follows_205 at h
  refine j_iconst (v := 1) ok dX7_follows_205 (by decide) ?_
  obtain ⟨er, eG⟩ := inj2 h
  subst er; subst eG
  exact j_zret ok rfl (Or.inr rfl) dX7_follows_206 hK

def fX7_follows_199 (l0 : Nat) (l1 : Int32) (l2 : Int32) (l3 : Int32)  (G : Mem) : Option (((Int32) ⊕ Int32) × Mem) :=
  some (.inl ((l3 + (1 : Int32))), G)

set_option maxRecDepth 100000 in
set_option maxHeartbeats 4000000 in
theorem jX7_follows_199 {X : Cx} (ok : OK X cX7_follows RX7 (some .boolean) 8 5 199) (l0 : Nat) (l1 : Int32) (l2 : Int32) (l3 : Int32)  (G : Mem) {r : ((Int32) ⊕ Int32)} {G' : Mem} (h : fX7_follows_199 l0 l1 l2 l3 G = some (r, G')) (hK : (finL X 8 22 (fun s : Int32 => [(0, .ref (X.B + l0)), (1, .int l1), (2, .int l2), (3, .int s)]) (finI X)) r G') : J X 8 199 [(0, .ref (X.B + l0)), (1, .int l1), (2, .int l2), (3, .int l3)] [] G := by
  unfold fX7_follows_199 at h
  refine j_iinc (L' := [(3, .int (l3 + (1 : Int32))), (0, .ref (X.B + l0)), (1, .int l1), (2, .int l2)]) (v := (l3 + (1 : Int32))) ok dX7_follows_199 (q := 3) rfl rfl (by decide) rfl ?_
  refine j_goto (tgt := 22) ok dX7_follows_202 (by decide) ?_
  obtain ⟨er, eG⟩ := inj2 h
  subst er; subst eG
  have hJ : J X 8 22 [(0, .ref (X.B + l0)), (1, .int l1), (2, .int l2), (3, .int (l3 + (1 : Int32)))] [] G := hK
  exact J.sub [1, 2, 3, 0] rfl hJ

def fX7_follows_193 (l0 : Nat) (l1 : Int32) (l2 : Int32) (l3 : Int32) (l4 : Int32)  (G : Mem) : Option (((Int32) ⊕ ((Int32) ⊕ Int32)) × Mem) :=
  some (.inl ((l4 + (1 : Int32))), G)

set_option maxRecDepth 100000 in
set_option maxHeartbeats 4000000 in
theorem jX7_follows_193 {X : Cx} (ok : OK X cX7_follows RX7 (some .boolean) 8 5 199) (l0 : Nat) (l1 : Int32) (l2 : Int32) (l3 : Int32) (l4 : Int32)  (G : Mem) {r : ((Int32) ⊕ ((Int32) ⊕ Int32))} {G' : Mem} (h : fX7_follows_193 l0 l1 l2 l3 l4 G = some (r, G')) (hK : (finL X 8 35 (fun s : Int32 => [(0, .ref (X.B + l0)), (1, .int l1), (2, .int l2), (3, .int l3), (4, .int s)]) (finL X 8 22 (fun s : Int32 => [(0, .ref (X.B + l0)), (1, .int l1), (2, .int l2), (3, .int s)]) (finI X))) r G') : J X 8 193 [(0, .ref (X.B + l0)), (1, .int l1), (2, .int l2), (3, .int l3), (4, .int l4)] [] G := by
  unfold fX7_follows_193 at h
  refine j_iinc (L' := [(4, .int (l4 + (1 : Int32))), (0, .ref (X.B + l0)), (1, .int l1), (2, .int l2), (3, .int l3)]) (v := (l4 + (1 : Int32))) ok dX7_follows_193 (q := 4) rfl rfl (by decide) rfl ?_
  refine j_goto (tgt := 35) ok dX7_follows_196 (by decide) ?_
  obtain ⟨er, eG⟩ := inj2 h
  subst er; subst eG
  have hJ : J X 8 35 [(0, .ref (X.B + l0)), (1, .int l1), (2, .int l2), (3, .int l3), (4, .int (l4 + (1 : Int32)))] [] G := hK
  exact J.sub [1, 2, 3, 4, 0] rfl hJ

def fX7_follows_114   (G : Mem) : Option (Int32 × Mem) :=
  some ((0 : Int32), G)

set_option maxRecDepth 100000 in
set_option maxHeartbeats 4000000 in
theorem jX7_follows_114 {X : Cx} (ok : OK X cX7_follows RX7 (some .boolean) 8 5 199)   (G : Mem) {r : Int32} {G' : Mem} (h : fX7_follows_114  G = some (r, G')) (hK : (finI X) r G') : J X 8 114 [] [] G := by
  unfold fX7_follows_114 at h
  refine j_iconst (v := 0) ok dX7_follows_114 (by decide) ?_
  obtain ⟨er, eG⟩ := inj2 h
  subst er; subst eG
  exact j_zret ok rfl (Or.inl rfl) dX7_follows_115 hK

def fX7_follows_35 (l0 : Nat) (l1 : Int32) (l2 : Int32) (l3 : Int32) (l4 : Int32)  (G : Mem) : Option (((Int32) ⊕ ((Int32) ⊕ Int32)) × Mem) :=
  ck G 17 l0 <| (fX7_squareMany l0 G).bind fun q1 =>
  ck q1.2 17 l0 <| (fX7_squareMany l0 q1.2).bind fun q2 =>
  if (q1.1 * q2.1) ≤ l4 then
    liftE (fX7_follows_199 l0 l1 l2 l3 q2.2)
  else
    ck q2.2 17 l0 <| (fX7_squareMany l0 q2.2).bind fun q4 =>
    dz q4.1 <|
    ck q4.2 17 l0 <| (fX7_squareMany l0 q4.2).bind fun q6 =>
    dz q6.1 <|
    ck q6.2 17 l0 <| (fX7_moves l0 l1 l3 (l4 / q4.1) (l4 - l4 / q6.1 * q6.1) l2 q6.2).bind fun q8 =>
    if q8.1 = (0 : Int32) then
      fX7_follows_193 l0 l1 l2 l3 l4 q8.2
    else
      ck q8.2 17 l0 <| (fX7_agrees l0 l1 l1 l3 (l4 / q4.1) (l4 - l4 / q6.1 * q6.1) l2 q8.2).bind fun q10 =>
      if q10.1 = (0 : Int32) then
        fX7_follows_193 l0 l1 l2 l3 l4 q10.2
      else
        ck q10.2 17 l0 <| (fX7_numberOf l0 (l1 + (1 : Int32)) q10.2).bind fun q12 =>
        if q12.1 = (-1 : Int32) then
          liftE (liftE (fX7_follows_114 q12.2))
        else
          (gR q12.2 17 l0 18).bind fun v14 =>
          (gJ q12.2 v14 (((l1 + (1 : Int32)) * (40 : Int32)) + q12.1)).bind fun v15 =>
          (gR q12.2 17 l0 18).bind fun v16 =>
          (gJ q12.2 v16 ((l1 * (40 : Int32)) + l3)).bind fun v17 =>
          (pJ q12.2 v14 (((l1 + (1 : Int32)) * (40 : Int32)) + q12.1) (v15 + v17)).bind fun G18 =>
          (gR G18 17 l0 15).bind fun v19 =>
          (gR G18 17 l0 16).bind fun v20 =>
          (gA G18 1 v20 l1).bind fun v21 =>
          (pA G18 v19 ((l1 * (1600 : Int32)) + v21) ((((((l3 * (40 : Int32)) + q12.1) * (36 : Int32)) * (36 : Int32)) + ((l4 / q4.1) * (36 : Int32))) + (l4 - l4 / q6.1 * q6.1))).bind fun G22 =>
          (gR G22 17 l0 16).bind fun v23 =>
          (gA G22 1 v23 l1).bind fun v24 =>
          (pA G22 v23 l1 (v24 + (1 : Int32))).bind fun G25 =>
          fX7_follows_193 l0 l1 l2 l3 l4 G25

set_option maxRecDepth 100000 in
set_option maxHeartbeats 4000000 in
theorem jX7_follows_35 {X : Cx} (ok : OK X cX7_follows RX7 (some .boolean) 8 5 199) (l0 : Nat) (l1 : Int32) (l2 : Int32) (l3 : Int32) (l4 : Int32)  (G : Mem) {r : ((Int32) ⊕ ((Int32) ⊕ Int32))} {G' : Mem} (h : fX7_follows_35 l0 l1 l2 l3 l4 G = some (r, G')) (hK : (finL X 8 35 (fun s : Int32 => [(0, .ref (X.B + l0)), (1, .int l1), (2, .int l2), (3, .int l3), (4, .int s)]) (finL X 8 22 (fun s : Int32 => [(0, .ref (X.B + l0)), (1, .int l1), (2, .int l2), (3, .int s)]) (finI X))) r G') : J X 8 35 [(0, .ref (X.B + l0)), (1, .int l1), (2, .int l2), (3, .int l3), (4, .int l4)] [] G := by
  unfold fX7_follows_35 at h
  refine j_iload ok dX7_follows_35 4 rfl ?_
  refine j_aload_n ok dX7_follows_37 rfl 0 rfl ?_
  obtain ⟨kq1, h⟩ := ck_some h
  obtain ⟨q1, hq1, h⟩ := obind h
  refine k_V1 ok kl_X7_120 ⟨Nat.le_of_ble_eq_true rfl, Nat.le_of_ble_eq_true rfl⟩ [] kq1 rfl rfl (Nat.le_of_ble_eq_true rfl) (tX7_squareMany ok.fl X.V l0 G hq1) dX7_follows_38 ?_
  refine j_aload_n ok dX7_follows_41 rfl 0 rfl ?_
  obtain ⟨kq2, h⟩ := ck_some h
  obtain ⟨q2, hq2, h⟩ := obind h
  refine k_V1 ok kl_X7_120 ⟨Nat.le_of_ble_eq_true rfl, Nat.le_of_ble_eq_true rfl⟩ [] kq2 rfl rfl (Nat.le_of_ble_eq_true rfl) (tX7_squareMany ok.fl X.V l0 q1.2 hq2) dX7_follows_42 ?_
  refine j_imul ok dX7_follows_45 ?_
  rcases ite_some h with ⟨c3, h⟩ | ⟨c3, h⟩
  · refine j_icmp_ge (tgt := 199) ok dX7_follows_46 (by decide) (fun _ => ?_) (fun z => absurd c3 z)
    obtain ⟨r1, e1, h1⟩ := lift_some h
    subst e1
    exact J.sub [0, 1, 2, 3] rfl (jX7_follows_199 ok l0 l1 l2 l3 q2.2 h1 hK)
  · refine j_icmp_ge (tgt := 199) ok dX7_follows_46 (by decide) (fun z => absurd z c3) (fun _ => ?_)
    refine j_iload ok dX7_follows_49 4 rfl ?_
    refine j_aload_n ok dX7_follows_51 rfl 0 rfl ?_
    obtain ⟨kq4, h⟩ := ck_some h
    obtain ⟨q4, hq4, h⟩ := obind h
    refine k_V1 ok kl_X7_120 ⟨Nat.le_of_ble_eq_true rfl, Nat.le_of_ble_eq_true rfl⟩ [] kq4 rfl rfl (Nat.le_of_ble_eq_true rfl) (tX7_squareMany ok.fl X.V l0 q2.2 hq4) dX7_follows_52 ?_
    obtain ⟨hz4, h⟩ := dz_some h
    refine j_idiv ok dX7_follows_55 hz4 ?_
    refine j_istore (L' := [(5, .int (l4 / q4.1)), (0, .ref (X.B + l0)), (1, .int l1), (2, .int l2), (3, .int l3), (4, .int l4)]) ok dX7_follows_56 (by decide) rfl ?_
    refine j_iload ok dX7_follows_58 5 rfl ?_
    refine j_aload_n ok dX7_follows_60 rfl 1 rfl ?_
    obtain ⟨kq6, h⟩ := ck_some h
    obtain ⟨q6, hq6, h⟩ := obind h
    refine k_V1 ok kl_X7_120 ⟨Nat.le_of_ble_eq_true rfl, Nat.le_of_ble_eq_true rfl⟩ [] kq6 rfl rfl (Nat.le_of_ble_eq_true rfl) (tX7_squareMany ok.fl X.V l0 q4.2 hq6) dX7_follows_61 ?_
    obtain ⟨hz6, h⟩ := dz_some h
    refine j_irem ok dX7_follows_64 hz6 ?_
    refine j_istore (L' := [(6, .int (l4 - l4 / q6.1 * q6.1)), (5, .int (l4 / q4.1)), (0, .ref (X.B + l0)), (1, .int l1), (2, .int l2), (3, .int l3), (4, .int l4)]) ok dX7_follows_65 (by decide) rfl ?_
    refine j_aload_n ok dX7_follows_67 rfl 2 rfl ?_
    refine j_iload_n ok dX7_follows_68 rfl 3 rfl ?_
    refine j_iload_n ok dX7_follows_69 rfl 5 rfl ?_
    refine j_iload ok dX7_follows_70 1 rfl ?_
    refine j_iload ok dX7_follows_72 0 rfl ?_
    refine j_iload_n ok dX7_follows_74 rfl 4 rfl ?_
    obtain ⟨kq8, h⟩ := ck_some h
    obtain ⟨q8, hq8, h⟩ := obind h
    refine k_V1 ok kl_X7_150 ⟨Nat.le_of_ble_eq_true rfl, Nat.le_of_ble_eq_true rfl⟩ [.int l1, .int l3, .int (l4 / q4.1), .int (l4 - l4 / q6.1 * q6.1), .int l2] kq8 rfl rfl (Nat.le_of_ble_eq_true rfl) (tX7_moves ok.fl X.V l0 l1 l3 (l4 / q4.1) (l4 - l4 / q6.1 * q6.1) l2 q6.2 hq8) dX7_follows_75 ?_
    rcases ite_some h with ⟨c9, h⟩ | ⟨c9, h⟩
    · refine j_if_eq (tgt := 193) ok dX7_follows_78 (by decide) (fun _ => ?_) (fun z => absurd c9 z)
      exact J.sub [2, 3, 4, 5, 6] rfl (jX7_follows_193 ok l0 l1 l2 l3 l4 q8.2 h hK)
    · refine j_if_eq (tgt := 193) ok dX7_follows_78 (by decide) (fun z => absurd z c9) (fun _ => ?_)
      refine j_aload_n ok dX7_follows_81 rfl 2 rfl ?_
      refine j_iload_n ok dX7_follows_82 rfl 3 rfl ?_
      refine j_iload_n ok dX7_follows_83 rfl 3 rfl ?_
      refine j_iload_n ok dX7_follows_84 rfl 5 rfl ?_
      refine j_iload ok dX7_follows_85 1 rfl ?_
      refine j_iload ok dX7_follows_87 0 rfl ?_
      refine j_iload_n ok dX7_follows_89 rfl 4 rfl ?_
      obtain ⟨kq10, h⟩ := ck_some h
      obtain ⟨q10, hq10, h⟩ := obind h
      refine k_V1 ok kl_X7_154 ⟨Nat.le_of_ble_eq_true rfl, Nat.le_of_ble_eq_true rfl⟩ [.int l1, .int l1, .int l3, .int (l4 / q4.1), .int (l4 - l4 / q6.1 * q6.1), .int l2] kq10 rfl rfl (Nat.le_of_ble_eq_true rfl) (tX7_agrees ok.fl X.V l0 l1 l1 l3 (l4 / q4.1) (l4 - l4 / q6.1 * q6.1) l2 q8.2 hq10) dX7_follows_90 ?_
      rcases ite_some h with ⟨c11, h⟩ | ⟨c11, h⟩
      · refine j_if_ne (tgt := 99) ok dX7_follows_93 (by decide) (fun z => absurd c11 z) (fun _ => ?_)
        refine j_goto (tgt := 193) ok dX7_follows_96 (by decide) ?_
        exact J.sub [2, 3, 4, 5, 6] rfl (jX7_follows_193 ok l0 l1 l2 l3 l4 q10.2 h hK)
      · refine j_if_ne (tgt := 99) ok dX7_follows_93 (by decide) (fun _ => ?_) (fun z => absurd z c11)
        refine j_aload_n ok dX7_follows_99 rfl 2 rfl ?_
        refine j_iload_n ok dX7_follows_100 rfl 3 rfl ?_
        refine j_iconst (v := 1) ok dX7_follows_101 (by decide) ?_
        refine j_iadd ok dX7_follows_102 ?_
        obtain ⟨kq12, h⟩ := ck_some h
        obtain ⟨q12, hq12, h⟩ := obind h
        refine k_V1 ok kl_X7_158 ⟨Nat.le_of_ble_eq_true rfl, Nat.le_of_ble_eq_true rfl⟩ [.int (l1 + (1 : Int32))] kq12 rfl rfl (Nat.le_of_ble_eq_true rfl) (tX7_numberOf ok.fl X.V l0 (l1 + (1 : Int32)) q10.2 hq12) dX7_follows_103 ?_
        refine j_istore (L' := [(7, .int q12.1), (6, .int (l4 - l4 / q6.1 * q6.1)), (5, .int (l4 / q4.1)), (0, .ref (X.B + l0)), (1, .int l1), (2, .int l2), (3, .int l3), (4, .int l4)]) ok dX7_follows_106 (by decide) rfl ?_
        refine j_iload ok dX7_follows_108 0 rfl ?_
        refine j_iconst (v := -1) ok dX7_follows_110 (by decide) ?_
        rcases ite_some h with ⟨c13, h⟩ | ⟨c13, h⟩
        · refine j_icmp_ne (tgt := 116) ok dX7_follows_111 (by decide) (fun z => absurd c13 z) (fun _ => ?_)
          obtain ⟨r1, e1, h1⟩ := lift_some h
          subst e1
          obtain ⟨r2, e2, h2⟩ := lift_some h1
          subst e2
          exact J.sub [] rfl (jX7_follows_114 ok q12.2 h2 hK)
        · refine j_icmp_ne (tgt := 116) ok dX7_follows_111 (by decide) (fun _ => ?_) (fun z => absurd z c13)
          refine j_aload_n ok dX7_follows_116 rfl 3 rfl ?_
          obtain ⟨v14, hv14, h⟩ := obind h
          refine k_getR ok fl_X7_51 hv14 dX7_follows_117 ?_
          refine j_iload_n ok dX7_follows_120 rfl 4 rfl ?_
          refine j_iconst (v := 1) ok dX7_follows_121 (by decide) ?_
          refine j_iadd ok dX7_follows_122 ?_
          refine j_bipush (v := 40) ok dX7_follows_123 (by decide) ?_
          refine j_imul ok dX7_follows_125 ?_
          refine j_iload ok dX7_follows_126 0 rfl ?_
          refine j_iadd ok dX7_follows_128 ?_
          refine j_dup2 ok dX7_follows_129 rfl rfl ?_
          obtain ⟨v15, hv15, h⟩ := obind h
          refine j_lald ok hv15 dX7_follows_130 ?_
          refine j_aload_n ok dX7_follows_131 rfl 3 rfl ?_
          obtain ⟨v16, hv16, h⟩ := obind h
          refine k_getR ok fl_X7_51 hv16 dX7_follows_132 ?_
          refine j_iload_n ok dX7_follows_135 rfl 4 rfl ?_
          refine j_bipush (v := 40) ok dX7_follows_136 (by decide) ?_
          refine j_imul ok dX7_follows_138 ?_
          refine j_iload_n ok dX7_follows_139 rfl 6 rfl ?_
          refine j_iadd ok dX7_follows_140 ?_
          obtain ⟨v17, hv17, h⟩ := obind h
          refine j_lald ok hv17 dX7_follows_141 ?_
          refine j_ladd ok dX7_follows_142 ?_
          obtain ⟨G18, hG18, h⟩ := obind h
          refine j_last ok hG18 dX7_follows_143 ?_
          refine j_aload_n ok dX7_follows_144 rfl 3 rfl ?_
          obtain ⟨v19, hv19, h⟩ := obind h
          refine k_getR ok fl_X7_42 hv19 dX7_follows_145 ?_
          refine j_iload_n ok dX7_follows_148 rfl 4 rfl ?_
          refine j_sipush (v := 1600) ok dX7_follows_149 (by decide) ?_
          refine j_imul ok dX7_follows_152 ?_
          refine j_aload_n ok dX7_follows_153 rfl 3 rfl ?_
          obtain ⟨v20, hv20, h⟩ := obind h
          refine k_getR ok fl_X7_45 hv20 dX7_follows_154 ?_
          refine j_iload_n ok dX7_follows_157 rfl 4 rfl ?_
          obtain ⟨v21, hv21, h⟩ := obind h
          refine j_iald ok hv21 dX7_follows_158 ?_
          refine j_iadd ok dX7_follows_159 ?_
          refine j_iload_n ok dX7_follows_160 rfl 6 rfl ?_
          refine j_bipush (v := 40) ok dX7_follows_161 (by decide) ?_
          refine j_imul ok dX7_follows_163 ?_
          refine j_iload ok dX7_follows_164 0 rfl ?_
          refine j_iadd ok dX7_follows_166 ?_
          refine j_bipush (v := 36) ok dX7_follows_167 (by decide) ?_
          refine j_imul ok dX7_follows_169 ?_
          refine j_bipush (v := 36) ok dX7_follows_170 (by decide) ?_
          refine j_imul ok dX7_follows_172 ?_
          refine j_iload ok dX7_follows_173 2 rfl ?_
          refine j_bipush (v := 36) ok dX7_follows_175 (by decide) ?_
          refine j_imul ok dX7_follows_177 ?_
          refine j_iadd ok dX7_follows_178 ?_
          refine j_iload ok dX7_follows_179 1 rfl ?_
          refine j_iadd ok dX7_follows_181 ?_
          obtain ⟨G22, hG22, h⟩ := obind h
          refine j_iast ok hG22 dX7_follows_182 ?_
          refine j_aload_n ok dX7_follows_183 rfl 3 rfl ?_
          obtain ⟨v23, hv23, h⟩ := obind h
          refine k_getR ok fl_X7_45 hv23 dX7_follows_184 ?_
          refine j_iload_n ok dX7_follows_187 rfl 4 rfl ?_
          refine j_dup2 ok dX7_follows_188 rfl rfl ?_
          obtain ⟨v24, hv24, h⟩ := obind h
          refine j_iald ok hv24 dX7_follows_189 ?_
          refine j_iconst (v := 1) ok dX7_follows_190 (by decide) ?_
          refine j_iadd ok dX7_follows_191 ?_
          obtain ⟨G25, hG25, h⟩ := obind h
          refine j_iast ok hG25 dX7_follows_192 ?_
          exact J.sub [3, 4, 5, 6, 7] rfl (jX7_follows_193 ok l0 l1 l2 l3 l4 G25 h hK)

def fX7_follows_22 (l0 : Nat) (l1 : Int32) (l2 : Int32) (l3 : Int32)  (G : Mem) : Option (((Int32) ⊕ Int32) × Mem) :=
  (gR G 17 l0 14).bind fun v1 =>
  (gA G 1 v1 l1).bind fun v2 =>
  if v2 ≤ l3 then
    liftE (fX7_follows_205 G)
  else
    loopM (fun (s : Int32) G => fX7_follows_35 l0 l1 l2 l3 s G) FU ((0 : Int32)) G

set_option maxRecDepth 100000 in
set_option maxHeartbeats 4000000 in
theorem jX7_follows_22 {X : Cx} (ok : OK X cX7_follows RX7 (some .boolean) 8 5 199) (l0 : Nat) (l1 : Int32) (l2 : Int32) (l3 : Int32)  (G : Mem) {r : ((Int32) ⊕ Int32)} {G' : Mem} (h : fX7_follows_22 l0 l1 l2 l3 G = some (r, G')) (hK : (finL X 8 22 (fun s : Int32 => [(0, .ref (X.B + l0)), (1, .int l1), (2, .int l2), (3, .int s)]) (finI X)) r G') : J X 8 22 [(0, .ref (X.B + l0)), (1, .int l1), (2, .int l2), (3, .int l3)] [] G := by
  unfold fX7_follows_22 at h
  refine j_iload_n ok dX7_follows_22 rfl 3 rfl ?_
  refine j_aload_n ok dX7_follows_23 rfl 0 rfl ?_
  obtain ⟨v1, hv1, h⟩ := obind h
  refine k_getR ok fl_X7_39 hv1 dX7_follows_24 ?_
  refine j_iload_n ok dX7_follows_27 rfl 1 rfl ?_
  obtain ⟨v2, hv2, h⟩ := obind h
  refine j_iald ok hv2 dX7_follows_28 ?_
  rcases ite_some h with ⟨c3, h⟩ | ⟨c3, h⟩
  · refine j_icmp_ge (tgt := 205) ok dX7_follows_29 (by decide) (fun _ => ?_) (fun z => absurd c3 z)
    obtain ⟨r1, e1, h1⟩ := lift_some h
    subst e1
    exact J.sub [] rfl (jX7_follows_205 ok G h1 hK)
  · refine j_icmp_ge (tgt := 205) ok dX7_follows_29 (by decide) (fun z => absurd z c3) (fun _ => ?_)
    refine j_iconst (v := 0) ok dX7_follows_32 (by decide) ?_
    refine j_istore (L' := [(4, .int (0 : Int32)), (0, .ref (X.B + l0)), (1, .int l1), (2, .int l2), (3, .int l3)]) ok dX7_follows_33 (by decide) rfl ?_
    have hJ : J X 8 35 [(0, .ref (X.B + l0)), (1, .int l1), (2, .int l2), (3, .int l3), (4, .int (0 : Int32))] [] G := j_loop (loc := fun s : Int32 => [(0, .ref (X.B + l0)), (1, .int l1), (2, .int l2), (3, .int l3), (4, .int s)]) (F := (finL X 8 22 (fun s : Int32 => [(0, .ref (X.B + l0)), (1, .int l1), (2, .int l2), (3, .int s)]) (finI X))) (fun s G r G' hb hk => jX7_follows_35 ok l0 l1 l2 l3 s G hb hk) _ _ _ _ _ h hK
    exact J.sub [1, 2, 3, 4, 0] rfl hJ

def fX7_follows_0 (l0 : Nat) (l1 : Int32)  (G : Mem) : Option (Int32 × Mem) :=
  (gR G 17 l0 14).bind fun v1 =>
  (pA G v1 (l1 + (1 : Int32)) (0 : Int32)).bind fun G2 =>
  (gR G2 17 l0 16).bind fun v3 =>
  (pA G2 v3 l1 (0 : Int32)).bind fun G4 =>
  loopM (fun (s : Int32) G => fX7_follows_22 l0 l1 (l1 - l1 / (2 : Int32) * (2 : Int32)) s G) FU ((0 : Int32)) G4

set_option maxRecDepth 100000 in
set_option maxHeartbeats 4000000 in
theorem jX7_follows_0 {X : Cx} (ok : OK X cX7_follows RX7 (some .boolean) 8 5 199) (l0 : Nat) (l1 : Int32)  (G : Mem) {r : Int32} {G' : Mem} (h : fX7_follows_0 l0 l1 G = some (r, G')) (hK : (finI X) r G') : J X 8 0 [(0, .ref (X.B + l0)), (1, .int l1)] [] G := by
  unfold fX7_follows_0 at h
  refine j_aload_n ok dX7_follows_0 rfl 0 rfl ?_
  obtain ⟨v1, hv1, h⟩ := obind h
  refine k_getR ok fl_X7_39 hv1 dX7_follows_1 ?_
  refine j_iload_n ok dX7_follows_4 rfl 1 rfl ?_
  refine j_iconst (v := 1) ok dX7_follows_5 (by decide) ?_
  refine j_iadd ok dX7_follows_6 ?_
  refine j_iconst (v := 0) ok dX7_follows_7 (by decide) ?_
  obtain ⟨G2, hG2, h⟩ := obind h
  refine j_iast ok hG2 dX7_follows_8 ?_
  refine j_aload_n ok dX7_follows_9 rfl 0 rfl ?_
  obtain ⟨v3, hv3, h⟩ := obind h
  refine k_getR ok fl_X7_45 hv3 dX7_follows_10 ?_
  refine j_iload_n ok dX7_follows_13 rfl 1 rfl ?_
  refine j_iconst (v := 0) ok dX7_follows_14 (by decide) ?_
  obtain ⟨G4, hG4, h⟩ := obind h
  refine j_iast ok hG4 dX7_follows_15 ?_
  refine j_iload_n ok dX7_follows_16 rfl 1 rfl ?_
  refine j_iconst (v := 2) ok dX7_follows_17 (by decide) ?_
  refine j_irem ok dX7_follows_18 (by decide) ?_
  refine j_istore_n (L' := [(2, .int (l1 - l1 / (2 : Int32) * (2 : Int32))), (0, .ref (X.B + l0)), (1, .int l1)]) ok dX7_follows_19 rfl (by decide) rfl ?_
  refine j_iconst (v := 0) ok dX7_follows_20 (by decide) ?_
  refine j_istore_n (L' := [(3, .int (0 : Int32)), (2, .int (l1 - l1 / (2 : Int32) * (2 : Int32))), (0, .ref (X.B + l0)), (1, .int l1)]) ok dX7_follows_21 rfl (by decide) rfl ?_
  have hJ : J X 8 22 [(0, .ref (X.B + l0)), (1, .int l1), (2, .int (l1 - l1 / (2 : Int32) * (2 : Int32))), (3, .int (0 : Int32))] [] G4 := j_loop (loc := fun s : Int32 => [(0, .ref (X.B + l0)), (1, .int l1), (2, .int (l1 - l1 / (2 : Int32) * (2 : Int32))), (3, .int s)]) (F := (finI X)) (fun s G r G' hb hk => jX7_follows_22 ok l0 l1 (l1 - l1 / (2 : Int32) * (2 : Int32)) s G hb hk) _ _ _ _ _ h hK
  exact J.sub [2, 3, 1, 0] rfl hJ

def fX7_follows (l0 : Nat) (l1 : Int32) (G : Mem) : Option (Int32 × Mem) := fX7_follows_0 l0 l1 G
set_option maxRecDepth 100000 in
theorem tX7_follows {l : Launch} (hfl : l.stackTraces = false) (V : Wd) (l0 : Nat) (l1 : Int32) (G : Mem) {r : Int32} {G' : Mem} (h : fX7_follows l0 l1 G = some (r, G')) : Mx l yX7_follows cX7_follows 8 (some .boolean) 5 199 V [.ref (V.B + l0), .int l1] G (.inl (some (.int r))) G' :=
  mx_of (L := [(0, .ref (V.B + l0)), (1, .int l1)]) hfl (by decide +kernel) (Nat.le_of_ble_eq_true rfl) rfl (fun X hl hV hin ok he => by
    subst hl; subst hV
    exact J.sub [0, 1] rfl (jX7_follows_0 ok l0 l1 G h he))
def fX7_isPossible_47  (s0 : Int32) (G : Mem) : Option (Int32 × Mem) :=
  rz s0 <|
  some (s0, G)

set_option maxRecDepth 100000 in
set_option maxHeartbeats 4000000 in
theorem jX7_isPossible_47 {X : Cx} (ok : OK X cX7_isPossible RX7 (some .boolean) 1 6 226)  (s0 : Int32) (G : Mem) {r : Int32} {G' : Mem} (h : fX7_isPossible_47 s0 G = some (r, G')) (hK : (finI X) r G') : J X 1 47 [] [.int s0] G := by
  unfold fX7_isPossible_47 at h
  obtain ⟨hz1, h⟩ := rz_some h
  obtain ⟨er, eG⟩ := inj2 h
  subst er; subst eG
  exact j_zret ok rfl hz1 dX7_isPossible_47 hK

def fX7_isPossible_46   (G : Mem) : Option (Int32 × Mem) :=
  fX7_isPossible_47 (0 : Int32) G

set_option maxRecDepth 100000 in
set_option maxHeartbeats 4000000 in
theorem jX7_isPossible_46 {X : Cx} (ok : OK X cX7_isPossible RX7 (some .boolean) 1 6 226)   (G : Mem) {r : Int32} {G' : Mem} (h : fX7_isPossible_46  G = some (r, G')) (hK : (finI X) r G') : J X 1 46 [] [] G := by
  unfold fX7_isPossible_46 at h
  refine j_iconst (v := 0) ok dX7_isPossible_46 (by decide) ?_
  exact J.sub [] rfl (jX7_isPossible_47 ok (0 : Int32) G h hK)

def fX7_isPossible_0 (l0 : Nat)  (G : Mem) : Option (Int32 × Mem) :=
  (gR G 17 l0 0).bind fun v1 =>
  (gA G 1 v1 (2 : Int32)).bind fun v2 =>
  if v2 = (10 : Int32) then
    some ((0 : Int32), G)
  else
    (gR G 17 l0 0).bind fun v4 =>
    (gA G 1 v4 (2 : Int32)).bind fun v5 =>
    ck G 17 l0 <| (fX7_follows l0 v5 G).bind fun q6 =>
    if q6.1 = (0 : Int32) then
      fX7_isPossible_46 q6.2
    else
      (gR q6.2 17 l0 14).bind fun v8 =>
      (gR q6.2 17 l0 0).bind fun v9 =>
      (gA q6.2 1 v9 (2 : Int32)).bind fun v10 =>
      (gA q6.2 1 v8 (v10 + (1 : Int32))).bind fun v11 =>
      if v11 ≤ (0 : Int32) then
        fX7_isPossible_46 q6.2
      else
        fX7_isPossible_47 (1 : Int32) q6.2

set_option maxRecDepth 100000 in
set_option maxHeartbeats 4000000 in
theorem jX7_isPossible_0 {X : Cx} (ok : OK X cX7_isPossible RX7 (some .boolean) 1 6 226) (l0 : Nat)  (G : Mem) {r : Int32} {G' : Mem} (h : fX7_isPossible_0 l0 G = some (r, G')) (hK : (finI X) r G') : J X 1 0 [(0, .ref (X.B + l0))] [] G := by
  unfold fX7_isPossible_0 at h
  refine j_aload_n ok dX7_isPossible_0 rfl 0 rfl ?_
  obtain ⟨v1, hv1, h⟩ := obind h
  refine k_getR ok fl_X7_9 hv1 dX7_isPossible_1 ?_
  refine j_iconst (v := 2) ok dX7_isPossible_4 (by decide) ?_
  obtain ⟨v2, hv2, h⟩ := obind h
  refine j_iald ok hv2 dX7_isPossible_5 ?_
  refine j_bipush (v := 10) ok dX7_isPossible_6 (by decide) ?_
  rcases ite_some h with ⟨c3, h⟩ | ⟨c3, h⟩
  · refine j_icmp_ne (tgt := 13) ok dX7_isPossible_8 (by decide) (fun z => absurd c3 z) (fun _ => ?_)
    refine j_iconst (v := 0) ok dX7_isPossible_11 (by decide) ?_
    obtain ⟨er, eG⟩ := inj2 h
    subst er; subst eG
    exact j_zret ok rfl (Or.inl rfl) dX7_isPossible_12 hK
  · refine j_icmp_ne (tgt := 13) ok dX7_isPossible_8 (by decide) (fun _ => ?_) (fun z => absurd z c3)
    refine j_aload_n ok dX7_isPossible_13 rfl 0 rfl ?_
    refine j_aload_n ok dX7_isPossible_14 rfl 0 rfl ?_
    obtain ⟨v4, hv4, h⟩ := obind h
    refine k_getR ok fl_X7_9 hv4 dX7_isPossible_15 ?_
    refine j_iconst (v := 2) ok dX7_isPossible_18 (by decide) ?_
    obtain ⟨v5, hv5, h⟩ := obind h
    refine j_iald ok hv5 dX7_isPossible_19 ?_
    obtain ⟨kq6, h⟩ := ck_some h
    obtain ⟨q6, hq6, h⟩ := obind h
    refine k_V1 ok kl_X7_167 ⟨Nat.le_of_ble_eq_true rfl, Nat.le_of_ble_eq_true rfl⟩ [.int v5] kq6 rfl rfl (Nat.le_of_ble_eq_true rfl) (tX7_follows ok.fl X.V l0 v5 G hq6) dX7_isPossible_20 ?_
    rcases ite_some h with ⟨c7, h⟩ | ⟨c7, h⟩
    · refine j_if_eq (tgt := 46) ok dX7_isPossible_23 (by decide) (fun _ => ?_) (fun z => absurd c7 z)
      exact J.sub [] rfl (jX7_isPossible_46 ok q6.2 h hK)
    · refine j_if_eq (tgt := 46) ok dX7_isPossible_23 (by decide) (fun z => absurd z c7) (fun _ => ?_)
      refine j_aload_n ok dX7_isPossible_26 rfl 0 rfl ?_
      obtain ⟨v8, hv8, h⟩ := obind h
      refine k_getR ok fl_X7_39 hv8 dX7_isPossible_27 ?_
      refine j_aload_n ok dX7_isPossible_30 rfl 0 rfl ?_
      obtain ⟨v9, hv9, h⟩ := obind h
      refine k_getR ok fl_X7_9 hv9 dX7_isPossible_31 ?_
      refine j_iconst (v := 2) ok dX7_isPossible_34 (by decide) ?_
      obtain ⟨v10, hv10, h⟩ := obind h
      refine j_iald ok hv10 dX7_isPossible_35 ?_
      refine j_iconst (v := 1) ok dX7_isPossible_36 (by decide) ?_
      refine j_iadd ok dX7_isPossible_37 ?_
      obtain ⟨v11, hv11, h⟩ := obind h
      refine j_iald ok hv11 dX7_isPossible_38 ?_
      rcases ite_some h with ⟨c12, h⟩ | ⟨c12, h⟩
      · refine j_if_le (tgt := 46) ok dX7_isPossible_39 (by decide) (fun _ => ?_) (fun z => absurd c12 z)
        exact J.sub [] rfl (jX7_isPossible_46 ok q6.2 h hK)
      · refine j_if_le (tgt := 46) ok dX7_isPossible_39 (by decide) (fun z => absurd z c12) (fun _ => ?_)
        refine j_iconst (v := 1) ok dX7_isPossible_42 (by decide) ?_
        refine j_goto (tgt := 47) ok dX7_isPossible_43 (by decide) ?_
        exact J.sub [] rfl (jX7_isPossible_47 ok (1 : Int32) q6.2 h hK)

def fX7_isPossible (l0 : Nat) (G : Mem) : Option (Int32 × Mem) := fX7_isPossible_0 l0 G
set_option maxRecDepth 100000 in
theorem tX7_isPossible {l : Launch} (hfl : l.stackTraces = false) (V : Wd) (l0 : Nat) (G : Mem) {r : Int32} {G' : Mem} (h : fX7_isPossible l0 G = some (r, G')) : Mx l yX7_isPossible cX7_isPossible 1 (some .boolean) 6 226 V [.ref (V.B + l0)] G (.inl (some (.int r))) G' :=
  mx_of (L := [(0, .ref (V.B + l0))]) hfl (by decide +kernel) (Nat.le_of_ble_eq_true rfl) rfl (fun X hl hV hin ok he => by
    subst hl; subst hV
    exact J.sub [0] rfl (jX7_isPossible_0 ok l0 G h he))
def fX7_fails_41  (s0 : Int32) (G : Mem) : Option (Int32 × Mem) :=
  rz s0 <|
  some (s0, G)

set_option maxRecDepth 100000 in
set_option maxHeartbeats 4000000 in
theorem jX7_fails_41 {X : Cx} (ok : OK X cX7_fails RX7 (some .boolean) 4 0 0)  (s0 : Int32) (G : Mem) {r : Int32} {G' : Mem} (h : fX7_fails_41 s0 G = some (r, G')) (hK : (finI X) r G') : J X 4 41 [] [.int s0] G := by
  unfold fX7_fails_41 at h
  obtain ⟨hz1, h⟩ := rz_some h
  obtain ⟨er, eG⟩ := inj2 h
  subst er; subst eG
  exact j_zret ok rfl hz1 dX7_fails_41 hK

def fX7_fails_26 (l0 : Nat) (s0 : Nat) (s1 : Int32) (G : Mem) : Option (Int32 × Mem) :=
  (pI G 17 s0 6 s1).bind fun G1 =>
  (gF G1 17 l0 6).bind fun v2 =>
  if v2 ≤ (0 : Int32) then
    fX7_fails_41 (0 : Int32) G1
  else
    fX7_fails_41 (1 : Int32) G1

set_option maxRecDepth 100000 in
set_option maxHeartbeats 4000000 in
theorem jX7_fails_26 {X : Cx} (ok : OK X cX7_fails RX7 (some .boolean) 4 0 0) (l0 : Nat) (s0 : Nat) (s1 : Int32) (G : Mem) {r : Int32} {G' : Mem} (h : fX7_fails_26 l0 s0 s1 G = some (r, G')) (hK : (finI X) r G') : J X 4 26 [(0, .ref (X.B + l0))] [.int s1, .ref (X.B + s0)] G := by
  unfold fX7_fails_26 at h
  obtain ⟨G1, hG1, h⟩ := obind h
  refine k_putI ok fl_X7_86 fp_X7 rfl (Or.inl rfl) hG1 dX7_fails_26 ?_
  refine j_aload_n ok dX7_fails_29 rfl 0 rfl ?_
  obtain ⟨v2, hv2, h⟩ := obind h
  refine k_getI ok fl_X7_86 hv2 dX7_fails_30 ?_
  rcases ite_some h with ⟨c3, h⟩ | ⟨c3, h⟩
  · refine j_if_le (tgt := 40) ok dX7_fails_33 (by decide) (fun _ => ?_) (fun z => absurd c3 z)
    refine j_iconst (v := 0) ok dX7_fails_40 (by decide) ?_
    exact J.sub [] rfl (jX7_fails_41 ok (0 : Int32) G1 h hK)
  · refine j_if_le (tgt := 40) ok dX7_fails_33 (by decide) (fun z => absurd z c3) (fun _ => ?_)
    refine j_iconst (v := 1) ok dX7_fails_36 (by decide) ?_
    refine j_goto (tgt := 41) ok dX7_fails_37 (by decide) ?_
    exact J.sub [] rfl (jX7_fails_41 ok (1 : Int32) G1 h hK)

def fX7_fails_0 (l0 : Nat) (l1 : Int32) (l2 : Int32) (l3 : Int32)  (G : Mem) : Option (Int32 × Mem) :=
  if l1 = (0 : Int32) then
    if l2 = (0 : Int32) then
      if l3 = (0 : Int32) then
        fX7_fails_26 l0 l0 (0 : Int32) G
      else
        fX7_fails_26 l0 l0 (3 : Int32) G
    else
      fX7_fails_26 l0 l0 (2 : Int32) G
  else
    fX7_fails_26 l0 l0 (1 : Int32) G

set_option maxRecDepth 100000 in
set_option maxHeartbeats 4000000 in
theorem jX7_fails_0 {X : Cx} (ok : OK X cX7_fails RX7 (some .boolean) 4 0 0) (l0 : Nat) (l1 : Int32) (l2 : Int32) (l3 : Int32)  (G : Mem) {r : Int32} {G' : Mem} (h : fX7_fails_0 l0 l1 l2 l3 G = some (r, G')) (hK : (finI X) r G') : J X 4 0 [(0, .ref (X.B + l0)), (1, .int l1), (2, .int l2), (3, .int l3)] [] G := by
  unfold fX7_fails_0 at h
  refine j_aload_n ok dX7_fails_0 rfl 0 rfl ?_
  refine j_iload_n ok dX7_fails_1 rfl 1 rfl ?_
  rcases ite_some h with ⟨c1, h⟩ | ⟨c1, h⟩
  · refine j_if_eq (tgt := 9) ok dX7_fails_2 (by decide) (fun _ => ?_) (fun z => absurd c1 z)
    refine j_iload_n ok dX7_fails_9 rfl 2 rfl ?_
    rcases ite_some h with ⟨c2, h⟩ | ⟨c2, h⟩
    · refine j_if_eq (tgt := 17) ok dX7_fails_10 (by decide) (fun _ => ?_) (fun z => absurd c2 z)
      refine j_iload_n ok dX7_fails_17 rfl 3 rfl ?_
      rcases ite_some h with ⟨c3, h⟩ | ⟨c3, h⟩
      · refine j_if_eq (tgt := 25) ok dX7_fails_18 (by decide) (fun _ => ?_) (fun z => absurd c3 z)
        refine j_iconst (v := 0) ok dX7_fails_25 (by decide) ?_
        exact J.sub [0] rfl (jX7_fails_26 ok l0 l0 (0 : Int32) G h hK)
      · refine j_if_eq (tgt := 25) ok dX7_fails_18 (by decide) (fun z => absurd z c3) (fun _ => ?_)
        refine j_iconst (v := 3) ok dX7_fails_21 (by decide) ?_
        refine j_goto (tgt := 26) ok dX7_fails_22 (by decide) ?_
        exact J.sub [0] rfl (jX7_fails_26 ok l0 l0 (3 : Int32) G h hK)
    · refine j_if_eq (tgt := 17) ok dX7_fails_10 (by decide) (fun z => absurd z c2) (fun _ => ?_)
      refine j_iconst (v := 2) ok dX7_fails_13 (by decide) ?_
      refine j_goto (tgt := 26) ok dX7_fails_14 (by decide) ?_
      exact J.sub [0] rfl (jX7_fails_26 ok l0 l0 (2 : Int32) G h hK)
  · refine j_if_eq (tgt := 9) ok dX7_fails_2 (by decide) (fun z => absurd z c1) (fun _ => ?_)
    refine j_iconst (v := 1) ok dX7_fails_5 (by decide) ?_
    refine j_goto (tgt := 26) ok dX7_fails_6 (by decide) ?_
    exact J.sub [0] rfl (jX7_fails_26 ok l0 l0 (1 : Int32) G h hK)

def fX7_fails (l0 : Nat) (l1 : Int32) (l2 : Int32) (l3 : Int32) (G : Mem) : Option (Int32 × Mem) := fX7_fails_0 l0 l1 l2 l3 G
set_option maxRecDepth 100000 in
theorem tX7_fails {l : Launch} (hfl : l.stackTraces = false) (V : Wd) (l0 : Nat) (l1 : Int32) (l2 : Int32) (l3 : Int32) (G : Mem) {r : Int32} {G' : Mem} (h : fX7_fails l0 l1 l2 l3 G = some (r, G')) : Mx l yX7_fails cX7_fails 4 (some .boolean) 0 0 V [.ref (V.B + l0), .int l1, .int l2, .int l3] G (.inl (some (.int r))) G' :=
  mx_of (L := [(0, .ref (V.B + l0)), (1, .int l1), (2, .int l2), (3, .int l3)]) hfl (by decide +kernel) (Nat.le_of_ble_eq_true rfl) rfl (fun X hl hV hin ok he => by
    subst hl; subst hV
    exact J.sub [0, 1, 2, 3] rfl (jX7_fails_0 ok l0 l1 l2 l3 G h he))
def fX7_copy_0 (l0 : Nat) (l1 : Int32) (l2 : Nat) (l3 : Int32)  (G : Mem) : Option (Unit × Mem) :=
  (cpI G l0 l1 l2 l3 (109 : Int32)).bind fun G1 =>
  some ((), G1)

set_option maxRecDepth 100000 in
set_option maxHeartbeats 4000000 in
theorem jX7_copy_0 {X : Cx} (ok : OK X cX7_copy RX7 none 4 1 120) (l0 : Nat) (l1 : Int32) (l2 : Nat) (l3 : Int32)  (G : Mem) {r : Unit} {G' : Mem} (h : fX7_copy_0 l0 l1 l2 l3 G = some (r, G')) (hK : (finV X) r G') : J X 4 0 [(0, .ref (X.B + l0)), (1, .int l1), (2, .ref (X.B + l2)), (3, .int l3)] [] G := by
  unfold fX7_copy_0 at h
  refine j_aload_n ok dX7_copy_0 rfl 0 rfl ?_
  refine j_iload_n ok dX7_copy_1 rfl 1 rfl ?_
  refine j_aload_n ok dX7_copy_2 rfl 2 rfl ?_
  refine j_iload_n ok dX7_copy_3 rfl 3 rfl ?_
  refine j_bipush (v := 109) ok dX7_copy_4 (by decide) ?_
  obtain ⟨G1, hG1, h⟩ := obind h
  refine k_cpI ok wm_X7_89 (Nat.le_of_ble_eq_true rfl) (Nat.le_of_ble_eq_true rfl) (Nat.le_of_ble_eq_true rfl) hG1 dX7_copy_6 ?_
  obtain ⟨er, eG⟩ := inj2 h
  subst er; subst eG
  exact j_vret ok rfl dX7_copy_9 hK

def fX7_copy (l0 : Nat) (l1 : Int32) (l2 : Nat) (l3 : Int32) (G : Mem) : Option (Unit × Mem) := fX7_copy_0 l0 l1 l2 l3 G
set_option maxRecDepth 100000 in
theorem tX7_copy {l : Launch} (hfl : l.stackTraces = false) (V : Wd) (l0 : Nat) (l1 : Int32) (l2 : Nat) (l3 : Int32) (G : Mem) {r : Unit} {G' : Mem} (h : fX7_copy l0 l1 l2 l3 G = some (r, G')) : Mx l yX7_copy cX7_copy 4 none 1 120 V [.ref (V.B + l0), .int l1, .ref (V.B + l2), .int l3] G (.inl none) G' :=
  mx_of (L := [(0, .ref (V.B + l0)), (1, .int l1), (2, .ref (V.B + l2)), (3, .int l3)]) hfl (by decide +kernel) (Nat.le_of_ble_eq_true rfl) rfl (fun X hl hV hin ok he => by
    subst hl; subst hV
    exact J.sub [0, 1, 2, 3] rfl (jX7_copy_0 ok l0 l1 l2 l3 G h he))
