def fX7_restore_35 (l0 : Nat) (l1 : Int32) (s0 : Nat) (s1 : Int32) (s2 : Int32) (G : Mem) : Option (Int32 × Mem) :=
  ck G 17 s0 <| (fX7_fails s0 s1 s2 (0 : Int32) G).bind fun q1 =>
  if q1.1 = (0 : Int32) then
    (gR q1.2 17 l0 0).bind fun v3 =>
    ck q1.2 17 l0 <| (fX7_remember l0 v3 q1.2).bind fun q4 =>
    (gR q4.2 17 l0 2).bind fun v5 =>
    (gR q4.2 17 l0 0).bind fun v6 =>
    (fX7_copy v5 (l1 * (109 : Int32)) v6 (0 : Int32) q4.2).bind fun q7 =>
    ck q7.2 17 l0 <| (fX7_finds l0 q7.2).bind fun q8 =>
    (gR q8.2 17 l0 0).bind fun v9 =>
    (gA q8.2 1 v9 (2 : Int32)).bind fun v10 =>
    some (v10, q8.2)
  else
    some ((0 : Int32), q1.2)

set_option maxRecDepth 100000 in
set_option maxHeartbeats 4000000 in
theorem jX7_restore_35 {X : Cx} (ok : OK X cX7_restore RX7 (some .int) 4 7 247) (l0 : Nat) (l1 : Int32) (s0 : Nat) (s1 : Int32) (s2 : Int32) (G : Mem) {r : Int32} {G' : Mem} (h : fX7_restore_35 l0 l1 s0 s1 s2 G = some (r, G')) (hK : (finI X) r G') : J X 4 35 [(0, .ref (X.B + l0)), (1, .int l1)] [.int s2, .int s1, .ref (X.B + s0)] G := by
  unfold fX7_restore_35 at h
  refine j_iconst (v := 0) ok dX7_restore_35 (by decide) ?_
  obtain ⟨kq1, h⟩ := ck_some h
  obtain ⟨q1, hq1, h⟩ := obind h
  refine k_V1 ok kl_X7_186 ⟨Nat.le_of_ble_eq_true rfl, Nat.le_of_ble_eq_true rfl⟩ [.int s1, .int s2, .int (0 : Int32)] kq1 rfl rfl (Nat.le_of_ble_eq_true rfl) (tX7_fails ok.fl X.V s0 s1 s2 (0 : Int32) G hq1) dX7_restore_36 ?_
  rcases ite_some h with ⟨c2, h⟩ | ⟨c2, h⟩
  · refine j_if_eq (tgt := 44) ok dX7_restore_39 (by decide) (fun _ => ?_) (fun z => absurd c2 z)
    refine j_aload_n ok dX7_restore_44 rfl 0 rfl ?_
    refine j_aload_n ok dX7_restore_45 rfl 0 rfl ?_
    obtain ⟨v3, hv3, h⟩ := obind h
    refine k_getR ok fl_X7_9 hv3 dX7_restore_46 ?_
    obtain ⟨kq4, h⟩ := ck_some h
    obtain ⟨q4, hq4, h⟩ := obind h
    refine k_V0 ok kl_X7_310 ⟨Nat.le_of_ble_eq_true rfl, Nat.le_of_ble_eq_true rfl⟩ [.ref (X.B + v3)] kq4 rfl rfl (Nat.le_of_ble_eq_true rfl) (tX7_remember ok.fl X.V l0 v3 q1.2 hq4) dX7_restore_49 ?_
    refine j_aload_n ok dX7_restore_52 rfl 0 rfl ?_
    obtain ⟨v5, hv5, h⟩ := obind h
    refine k_getR ok fl_X7_16 hv5 dX7_restore_53 ?_
    refine j_iload_n ok dX7_restore_56 rfl 1 rfl ?_
    refine j_bipush (v := 109) ok dX7_restore_57 (by decide) ?_
    refine j_imul ok dX7_restore_59 ?_
    refine j_aload_n ok dX7_restore_60 rfl 0 rfl ?_
    obtain ⟨v6, hv6, h⟩ := obind h
    refine k_getR ok fl_X7_9 hv6 dX7_restore_61 ?_
    refine j_iconst (v := 0) ok dX7_restore_64 (by decide) ?_
    obtain ⟨q7, hq7, h⟩ := obind h
    refine k_S0 ok kl_X7_95 ⟨Nat.le_of_ble_eq_true rfl, Nat.le_of_ble_eq_true rfl⟩ [.ref (X.B + v5), .int (l1 * (109 : Int32)), .ref (X.B + v6), .int (0 : Int32)] rfl rfl (Nat.le_of_ble_eq_true rfl) (tX7_copy ok.fl X.V v5 (l1 * (109 : Int32)) v6 (0 : Int32) q4.2 hq7) dX7_restore_65 ?_
    refine j_aload_n ok dX7_restore_68 rfl 0 rfl ?_
    obtain ⟨kq8, h⟩ := ck_some h
    obtain ⟨q8, hq8, h⟩ := obind h
    refine k_V1 ok kl_X7_174 ⟨Nat.le_of_ble_eq_true rfl, Nat.le_of_ble_eq_true rfl⟩ [] kq8 rfl rfl (Nat.le_of_ble_eq_true rfl) (tX7_finds ok.fl X.V l0 q7.2 hq8) dX7_restore_69 ?_
    refine j_istore_n (L' := [(3, .int q8.1), (0, .ref (X.B + l0)), (1, .int l1)]) ok dX7_restore_72 rfl (by decide) rfl ?_
    refine j_aload_n ok dX7_restore_73 rfl 1 rfl ?_
    obtain ⟨v9, hv9, h⟩ := obind h
    refine k_getR ok fl_X7_9 hv9 dX7_restore_74 ?_
    refine j_iconst (v := 2) ok dX7_restore_77 (by decide) ?_
    obtain ⟨v10, hv10, h⟩ := obind h
    refine j_iald ok hv10 dX7_restore_78 ?_
    obtain ⟨er, eG⟩ := inj2 h
    subst er; subst eG
    exact j_iret ok rfl dX7_restore_79 hK
  · refine j_if_eq (tgt := 44) ok dX7_restore_39 (by decide) (fun z => absurd z c2) (fun _ => ?_)
    refine j_iconst (v := 0) ok dX7_restore_42 (by decide) ?_
    obtain ⟨er, eG⟩ := inj2 h
    subst er; subst eG
    exact j_iret ok rfl dX7_restore_43 hK

def fX7_restore_34 (l0 : Nat) (l1 : Int32) (s0 : Nat) (s1 : Int32) (G : Mem) : Option (Int32 × Mem) :=
  fX7_restore_35 l0 l1 s0 s1 (0 : Int32) G

set_option maxRecDepth 100000 in
set_option maxHeartbeats 4000000 in
theorem jX7_restore_34 {X : Cx} (ok : OK X cX7_restore RX7 (some .int) 4 7 247) (l0 : Nat) (l1 : Int32) (s0 : Nat) (s1 : Int32) (G : Mem) {r : Int32} {G' : Mem} (h : fX7_restore_34 l0 l1 s0 s1 G = some (r, G')) (hK : (finI X) r G') : J X 4 34 [(0, .ref (X.B + l0)), (1, .int l1)] [.int s1, .ref (X.B + s0)] G := by
  unfold fX7_restore_34 at h
  refine j_iconst (v := 0) ok dX7_restore_34 (by decide) ?_
  exact J.sub [0, 1] rfl (jX7_restore_35 ok l0 l1 s0 s1 (0 : Int32) G h hK)

def fX7_restore_14 (l0 : Nat) (l1 : Int32) (s0 : Int32) (G : Mem) : Option (Int32 × Mem) :=
  if s0 = (0 : Int32) then
    (gR G 17 l0 4).bind fun v2 =>
    (gA G 3 v2 l1).bind fun v3 =>
    if v3 = (0 : Int32) then
      fX7_restore_35 l0 l1 l0 s0 (1 : Int32) G
    else
      fX7_restore_34 l0 l1 l0 s0 G
  else
    fX7_restore_34 l0 l1 l0 s0 G

set_option maxRecDepth 100000 in
set_option maxHeartbeats 4000000 in
theorem jX7_restore_14 {X : Cx} (ok : OK X cX7_restore RX7 (some .int) 4 7 247) (l0 : Nat) (l1 : Int32) (s0 : Int32) (G : Mem) {r : Int32} {G' : Mem} (h : fX7_restore_14 l0 l1 s0 G = some (r, G')) (hK : (finI X) r G') : J X 4 14 [(0, .ref (X.B + l0)), (1, .int l1)] [.int s0] G := by
  unfold fX7_restore_14 at h
  refine j_istore_n (L' := [(2, .int s0), (0, .ref (X.B + l0)), (1, .int l1)]) ok dX7_restore_14 rfl (by decide) rfl ?_
  refine j_aload_n ok dX7_restore_15 rfl 1 rfl ?_
  refine j_iload_n ok dX7_restore_16 rfl 0 rfl ?_
  refine j_iload_n ok dX7_restore_17 rfl 0 rfl ?_
  rcases ite_some h with ⟨c1, h⟩ | ⟨c1, h⟩
  · refine j_if_ne (tgt := 34) ok dX7_restore_18 (by decide) (fun z => absurd c1 z) (fun _ => ?_)
    refine j_aload_n ok dX7_restore_21 rfl 1 rfl ?_
    obtain ⟨v2, hv2, h⟩ := obind h
    refine k_getR ok fl_X7_22 hv2 dX7_restore_22 ?_
    refine j_iload_n ok dX7_restore_25 rfl 2 rfl ?_
    obtain ⟨v3, hv3, h⟩ := obind h
    refine j_zald ok hv3 dX7_restore_26 ?_
    rcases ite_some h with ⟨c4, h⟩ | ⟨c4, h⟩
    · refine j_if_ne (tgt := 34) ok dX7_restore_27 (by decide) (fun z => absurd c4 z) (fun _ => ?_)
      refine j_iconst (v := 1) ok dX7_restore_30 (by decide) ?_
      refine j_goto (tgt := 35) ok dX7_restore_31 (by decide) ?_
      exact J.sub [1, 2] rfl (jX7_restore_35 ok l0 l1 l0 s0 (1 : Int32) G h hK)
    · refine j_if_ne (tgt := 34) ok dX7_restore_27 (by decide) (fun _ => ?_) (fun z => absurd z c4)
      exact J.sub [1, 2] rfl (jX7_restore_34 ok l0 l1 l0 s0 G h hK)
  · refine j_if_ne (tgt := 34) ok dX7_restore_18 (by decide) (fun _ => ?_) (fun z => absurd z c1)
    exact J.sub [1, 2] rfl (jX7_restore_34 ok l0 l1 l0 s0 G h hK)

def fX7_restore_0 (l0 : Nat) (l1 : Int32)  (G : Mem) : Option (Int32 × Mem) :=
  (fX7_isIn l1 (0 : Int32) (1 : Int32) G).bind fun q1 =>
  if q1.1 = (0 : Int32) then
    fX7_restore_14 l0 l1 (1 : Int32) q1.2
  else
    fX7_restore_14 l0 l1 (0 : Int32) q1.2

set_option maxRecDepth 100000 in
set_option maxHeartbeats 4000000 in
theorem jX7_restore_0 {X : Cx} (ok : OK X cX7_restore RX7 (some .int) 4 7 247) (l0 : Nat) (l1 : Int32)  (G : Mem) {r : Int32} {G' : Mem} (h : fX7_restore_0 l0 l1 G = some (r, G')) (hK : (finI X) r G') : J X 4 0 [(0, .ref (X.B + l0)), (1, .int l1)] [] G := by
  unfold fX7_restore_0 at h
  refine j_iload_n ok dX7_restore_0 rfl 1 rfl ?_
  refine j_iconst (v := 0) ok dX7_restore_1 (by decide) ?_
  refine j_iconst (v := 1) ok dX7_restore_2 (by decide) ?_
  obtain ⟨q1, hq1, h⟩ := obind h
  refine k_S1 ok kl_X7_182 ⟨Nat.le_of_ble_eq_true rfl, Nat.le_of_ble_eq_true rfl⟩ [.int l1, .int (0 : Int32), .int (1 : Int32)] rfl rfl (Nat.le_of_ble_eq_true rfl) (tX7_isIn ok.fl X.V l1 (0 : Int32) (1 : Int32) G hq1) dX7_restore_3 ?_
  rcases ite_some h with ⟨c2, h⟩ | ⟨c2, h⟩
  · refine j_if_ne (tgt := 13) ok dX7_restore_6 (by decide) (fun z => absurd c2 z) (fun _ => ?_)
    refine j_iconst (v := 1) ok dX7_restore_9 (by decide) ?_
    refine j_goto (tgt := 14) ok dX7_restore_10 (by decide) ?_
    exact J.sub [0, 1] rfl (jX7_restore_14 ok l0 l1 (1 : Int32) q1.2 h hK)
  · refine j_if_ne (tgt := 13) ok dX7_restore_6 (by decide) (fun _ => ?_) (fun z => absurd z c2)
    refine j_iconst (v := 0) ok dX7_restore_13 (by decide) ?_
    exact J.sub [0, 1] rfl (jX7_restore_14 ok l0 l1 (0 : Int32) q1.2 h hK)

def fX7_restore (l0 : Nat) (l1 : Int32) (G : Mem) : Option (Int32 × Mem) := fX7_restore_0 l0 l1 G
set_option maxRecDepth 100000 in
theorem tX7_restore {l : Launch} (hfl : l.stackTraces = false) (V : Wd) (l0 : Nat) (l1 : Int32) (G : Mem) {r : Int32} {G' : Mem} (h : fX7_restore l0 l1 G = some (r, G')) : Mx l yX7_restore cX7_restore 4 (some .int) 7 247 V [.ref (V.B + l0), .int l1] G (.inl (some (.int r))) G' :=
  mx_of (L := [(0, .ref (V.B + l0)), (1, .int l1)]) hfl (by decide +kernel) (Nat.le_of_ble_eq_true rfl) rfl (fun X hl hV hin ok he => by
    subst hl; subst hV
    exact J.sub [0, 1] rfl (jX7_restore_0 ok l0 l1 G h he))
def fX7_rows_0 (l0 : Nat)  (G : Mem) : Option (Int32 × Mem) :=
  (gR G 17 l0 0).bind fun v1 =>
  (gA G 1 v1 (1 : Int32)).bind fun v2 =>
  ck G 17 l0 <| (fX7_told l0 v2 G).bind fun q3 =>
  some (q3.1, q3.2)

set_option maxRecDepth 100000 in
set_option maxHeartbeats 4000000 in
theorem jX7_rows_0 {X : Cx} (ok : OK X cX7_rows RX7 (some .int) 1 1 21) (l0 : Nat)  (G : Mem) {r : Int32} {G' : Mem} (h : fX7_rows_0 l0 G = some (r, G')) (hK : (finI X) r G') : J X 1 0 [(0, .ref (X.B + l0))] [] G := by
  unfold fX7_rows_0 at h
  refine j_aload_n ok dX7_rows_0 rfl 0 rfl ?_
  refine j_aload_n ok dX7_rows_1 rfl 0 rfl ?_
  obtain ⟨v1, hv1, h⟩ := obind h
  refine k_getR ok fl_X7_9 hv1 dX7_rows_2 ?_
  refine j_iconst (v := 1) ok dX7_rows_5 (by decide) ?_
  obtain ⟨v2, hv2, h⟩ := obind h
  refine j_iald ok hv2 dX7_rows_6 ?_
  obtain ⟨kq3, h⟩ := ck_some h
  obtain ⟨q3, hq3, h⟩ := obind h
  refine k_V1 ok kl_X7_327 ⟨Nat.le_of_ble_eq_true rfl, Nat.le_of_ble_eq_true rfl⟩ [.int v2] kq3 rfl rfl (Nat.le_of_ble_eq_true rfl) (tX7_told ok.fl X.V l0 v2 G hq3) dX7_rows_7 ?_
  obtain ⟨er, eG⟩ := inj2 h
  subst er; subst eG
  exact j_iret ok rfl dX7_rows_10 hK

def fX7_rows (l0 : Nat) (G : Mem) : Option (Int32 × Mem) := fX7_rows_0 l0 G
set_option maxRecDepth 100000 in
theorem tX7_rows {l : Launch} (hfl : l.stackTraces = false) (V : Wd) (l0 : Nat) (G : Mem) {r : Int32} {G' : Mem} (h : fX7_rows l0 G = some (r, G')) : Mx l yX7_rows cX7_rows 1 (some .int) 1 21 V [.ref (V.B + l0)] G (.inl (some (.int r))) G' :=
  mx_of (L := [(0, .ref (V.B + l0))]) hfl (by decide +kernel) (Nat.le_of_ble_eq_true rfl) rfl (fun X hl hV hin ok he => by
    subst hl; subst hV
    exact J.sub [0] rfl (jX7_rows_0 ok l0 G h he))
def fX7_save_15 (l0 : Nat) (l1 : Int32) (s0 : Nat) (s1 : Int32) (G : Mem) : Option (Int32 × Mem) :=
  ck G 17 s0 <| (fX7_fails s0 s1 (0 : Int32) (0 : Int32) G).bind fun q1 =>
  if q1.1 = (0 : Int32) then
    (gR q1.2 17 l0 0).bind fun v3 =>
    (gR q1.2 17 l0 2).bind fun v4 =>
    (fX7_copy v3 (0 : Int32) v4 (l1 * (109 : Int32)) q1.2).bind fun q5 =>
    (gR q5.2 17 l0 4).bind fun v6 =>
    (pT q5.2 v6 l1 (1 : Int32)).bind fun G7 =>
    (gR G7 17 l0 0).bind fun v8 =>
    (gA G7 1 v8 (2 : Int32)).bind fun v9 =>
    some (v9, G7)
  else
    some ((0 : Int32), q1.2)

set_option maxRecDepth 100000 in
set_option maxHeartbeats 4000000 in
theorem jX7_save_15 {X : Cx} (ok : OK X cX7_save RX7 (some .int) 2 2 143) (l0 : Nat) (l1 : Int32) (s0 : Nat) (s1 : Int32) (G : Mem) {r : Int32} {G' : Mem} (h : fX7_save_15 l0 l1 s0 s1 G = some (r, G')) (hK : (finI X) r G') : J X 2 15 [(0, .ref (X.B + l0)), (1, .int l1)] [.int s1, .ref (X.B + s0)] G := by
  unfold fX7_save_15 at h
  refine j_iconst (v := 0) ok dX7_save_15 (by decide) ?_
  refine j_iconst (v := 0) ok dX7_save_16 (by decide) ?_
  obtain ⟨kq1, h⟩ := ck_some h
  obtain ⟨q1, hq1, h⟩ := obind h
  refine k_V1 ok kl_X7_186 ⟨Nat.le_of_ble_eq_true rfl, Nat.le_of_ble_eq_true rfl⟩ [.int s1, .int (0 : Int32), .int (0 : Int32)] kq1 rfl rfl (Nat.le_of_ble_eq_true rfl) (tX7_fails ok.fl X.V s0 s1 (0 : Int32) (0 : Int32) G hq1) dX7_save_17 ?_
  rcases ite_some h with ⟨c2, h⟩ | ⟨c2, h⟩
  · refine j_if_eq (tgt := 25) ok dX7_save_20 (by decide) (fun _ => ?_) (fun z => absurd c2 z)
    refine j_aload_n ok dX7_save_25 rfl 0 rfl ?_
    obtain ⟨v3, hv3, h⟩ := obind h
    refine k_getR ok fl_X7_9 hv3 dX7_save_26 ?_
    refine j_iconst (v := 0) ok dX7_save_29 (by decide) ?_
    refine j_aload_n ok dX7_save_30 rfl 0 rfl ?_
    obtain ⟨v4, hv4, h⟩ := obind h
    refine k_getR ok fl_X7_16 hv4 dX7_save_31 ?_
    refine j_iload_n ok dX7_save_34 rfl 1 rfl ?_
    refine j_bipush (v := 109) ok dX7_save_35 (by decide) ?_
    refine j_imul ok dX7_save_37 ?_
    obtain ⟨q5, hq5, h⟩ := obind h
    refine k_S0 ok kl_X7_95 ⟨Nat.le_of_ble_eq_true rfl, Nat.le_of_ble_eq_true rfl⟩ [.ref (X.B + v3), .int (0 : Int32), .ref (X.B + v4), .int (l1 * (109 : Int32))] rfl rfl (Nat.le_of_ble_eq_true rfl) (tX7_copy ok.fl X.V v3 (0 : Int32) v4 (l1 * (109 : Int32)) q1.2 hq5) dX7_save_38 ?_
    refine j_aload_n ok dX7_save_41 rfl 0 rfl ?_
    obtain ⟨v6, hv6, h⟩ := obind h
    refine k_getR ok fl_X7_22 hv6 dX7_save_42 ?_
    refine j_iload_n ok dX7_save_45 rfl 1 rfl ?_
    refine j_iconst (v := 1) ok dX7_save_46 (by decide) ?_
    obtain ⟨G7, hG7, h⟩ := obind h
    refine j_zast ok hG7 dX7_save_47 ?_
    refine j_aload_n ok dX7_save_48 rfl 0 rfl ?_
    obtain ⟨v8, hv8, h⟩ := obind h
    refine k_getR ok fl_X7_9 hv8 dX7_save_49 ?_
    refine j_iconst (v := 2) ok dX7_save_52 (by decide) ?_
    obtain ⟨v9, hv9, h⟩ := obind h
    refine j_iald ok hv9 dX7_save_53 ?_
    obtain ⟨er, eG⟩ := inj2 h
    subst er; subst eG
    exact j_iret ok rfl dX7_save_54 hK
  · refine j_if_eq (tgt := 25) ok dX7_save_20 (by decide) (fun z => absurd z c2) (fun _ => ?_)
    refine j_iconst (v := 0) ok dX7_save_23 (by decide) ?_
    obtain ⟨er, eG⟩ := inj2 h
    subst er; subst eG
    exact j_iret ok rfl dX7_save_24 hK

def fX7_save_0 (l0 : Nat) (l1 : Int32)  (G : Mem) : Option (Int32 × Mem) :=
  (fX7_isIn l1 (0 : Int32) (1 : Int32) G).bind fun q1 =>
  if q1.1 = (0 : Int32) then
    fX7_save_15 l0 l1 l0 (1 : Int32) q1.2
  else
    fX7_save_15 l0 l1 l0 (0 : Int32) q1.2

set_option maxRecDepth 100000 in
set_option maxHeartbeats 4000000 in
theorem jX7_save_0 {X : Cx} (ok : OK X cX7_save RX7 (some .int) 2 2 143) (l0 : Nat) (l1 : Int32)  (G : Mem) {r : Int32} {G' : Mem} (h : fX7_save_0 l0 l1 G = some (r, G')) (hK : (finI X) r G') : J X 2 0 [(0, .ref (X.B + l0)), (1, .int l1)] [] G := by
  unfold fX7_save_0 at h
  refine j_aload_n ok dX7_save_0 rfl 0 rfl ?_
  refine j_iload_n ok dX7_save_1 rfl 1 rfl ?_
  refine j_iconst (v := 0) ok dX7_save_2 (by decide) ?_
  refine j_iconst (v := 1) ok dX7_save_3 (by decide) ?_
  obtain ⟨q1, hq1, h⟩ := obind h
  refine k_S1 ok kl_X7_182 ⟨Nat.le_of_ble_eq_true rfl, Nat.le_of_ble_eq_true rfl⟩ [.int l1, .int (0 : Int32), .int (1 : Int32)] rfl rfl (Nat.le_of_ble_eq_true rfl) (tX7_isIn ok.fl X.V l1 (0 : Int32) (1 : Int32) G hq1) dX7_save_4 ?_
  rcases ite_some h with ⟨c2, h⟩ | ⟨c2, h⟩
  · refine j_if_ne (tgt := 14) ok dX7_save_7 (by decide) (fun z => absurd c2 z) (fun _ => ?_)
    refine j_iconst (v := 1) ok dX7_save_10 (by decide) ?_
    refine j_goto (tgt := 15) ok dX7_save_11 (by decide) ?_
    exact J.sub [0, 1] rfl (jX7_save_15 ok l0 l1 l0 (1 : Int32) q1.2 h hK)
  · refine j_if_ne (tgt := 14) ok dX7_save_7 (by decide) (fun _ => ?_) (fun z => absurd z c2)
    refine j_iconst (v := 0) ok dX7_save_14 (by decide) ?_
    exact J.sub [0, 1] rfl (jX7_save_15 ok l0 l1 l0 (0 : Int32) q1.2 h hK)

def fX7_save (l0 : Nat) (l1 : Int32) (G : Mem) : Option (Int32 × Mem) := fX7_save_0 l0 l1 G
set_option maxRecDepth 100000 in
theorem tX7_save {l : Launch} (hfl : l.stackTraces = false) (V : Wd) (l0 : Nat) (l1 : Int32) (G : Mem) {r : Int32} {G' : Mem} (h : fX7_save l0 l1 G = some (r, G')) : Mx l yX7_save cX7_save 2 (some .int) 2 143 V [.ref (V.B + l0), .int l1] G (.inl (some (.int r))) G' :=
  mx_of (L := [(0, .ref (V.B + l0)), (1, .int l1)]) hfl (by decide +kernel) (Nat.le_of_ble_eq_true rfl) rfl (fun X hl hV hin ok he => by
    subst hl; subst hV
    exact J.sub [0, 1] rfl (jX7_save_0 ok l0 l1 G h he))
def fX7_thrown_0 (l0 : Nat)  (G : Mem) : Option (Int32 × Mem) :=
  (gF G 17 l0 6).bind fun v1 =>
  some (v1, G)

set_option maxRecDepth 100000 in
set_option maxHeartbeats 4000000 in
theorem jX7_thrown_0 {X : Cx} (ok : OK X cX7_thrown RX7 (some .int) 1 0 0) (l0 : Nat)  (G : Mem) {r : Int32} {G' : Mem} (h : fX7_thrown_0 l0 G = some (r, G')) (hK : (finI X) r G') : J X 1 0 [(0, .ref (X.B + l0))] [] G := by
  unfold fX7_thrown_0 at h
  refine j_aload_n ok dX7_thrown_0 rfl 0 rfl ?_
  obtain ⟨v1, hv1, h⟩ := obind h
  refine k_getI ok fl_X7_86 hv1 dX7_thrown_1 ?_
  obtain ⟨er, eG⟩ := inj2 h
  subst er; subst eG
  exact j_iret ok rfl dX7_thrown_4 hK

def fX7_thrown (l0 : Nat) (G : Mem) : Option (Int32 × Mem) := fX7_thrown_0 l0 G
set_option maxRecDepth 100000 in
theorem tX7_thrown {l : Launch} (hfl : l.stackTraces = false) (V : Wd) (l0 : Nat) (G : Mem) {r : Int32} {G' : Mem} (h : fX7_thrown l0 G = some (r, G')) : Mx l yX7_thrown cX7_thrown 1 (some .int) 0 0 V [.ref (V.B + l0)] G (.inl (some (.int r))) G' :=
  mx_of (L := [(0, .ref (V.B + l0))]) hfl (by decide +kernel) (Nat.le_of_ble_eq_true rfl) rfl (fun X hl hV hin ok he => by
    subst hl; subst hV
    exact J.sub [0] rfl (jX7_thrown_0 ok l0 G h he))
def fX7_truncateInput_18 (l0 : Nat) (l1 : Int32) (s0 : Nat) (s1 : Int32) (G : Mem) : Option (Int32 × Mem) :=
  ck G 17 s0 <| (fX7_fails s0 s1 (0 : Int32) (0 : Int32) G).bind fun q1 =>
  if q1.1 = (0 : Int32) then
    (pI q1.2 17 l0 9 l1).bind fun G3 =>
    some (l1, G3)
  else
    some ((0 : Int32), q1.2)

set_option maxRecDepth 100000 in
set_option maxHeartbeats 4000000 in
theorem jX7_truncateInput_18 {X : Cx} (ok : OK X cX7_truncateInput RX7 (some .int) 2 1 23) (l0 : Nat) (l1 : Int32) (s0 : Nat) (s1 : Int32) (G : Mem) {r : Int32} {G' : Mem} (h : fX7_truncateInput_18 l0 l1 s0 s1 G = some (r, G')) (hK : (finI X) r G') : J X 2 18 [(0, .ref (X.B + l0)), (1, .int l1)] [.int s1, .ref (X.B + s0)] G := by
  unfold fX7_truncateInput_18 at h
  refine j_iconst (v := 0) ok dX7_truncateInput_18 (by decide) ?_
  refine j_iconst (v := 0) ok dX7_truncateInput_19 (by decide) ?_
  obtain ⟨kq1, h⟩ := ck_some h
  obtain ⟨q1, hq1, h⟩ := obind h
  refine k_V1 ok kl_X7_186 ⟨Nat.le_of_ble_eq_true rfl, Nat.le_of_ble_eq_true rfl⟩ [.int s1, .int (0 : Int32), .int (0 : Int32)] kq1 rfl rfl (Nat.le_of_ble_eq_true rfl) (tX7_fails ok.fl X.V s0 s1 (0 : Int32) (0 : Int32) G hq1) dX7_truncateInput_20 ?_
  rcases ite_some h with ⟨c2, h⟩ | ⟨c2, h⟩
  · refine j_if_eq (tgt := 28) ok dX7_truncateInput_23 (by decide) (fun _ => ?_) (fun z => absurd c2 z)
    refine j_aload_n ok dX7_truncateInput_28 rfl 0 rfl ?_
    refine j_iload_n ok dX7_truncateInput_29 rfl 1 rfl ?_
    obtain ⟨G3, hG3, h⟩ := obind h
    refine k_putI ok fl_X7_73 fp_X7 rfl (Or.inl rfl) hG3 dX7_truncateInput_30 ?_
    refine j_iload_n ok dX7_truncateInput_33 rfl 1 rfl ?_
    obtain ⟨er, eG⟩ := inj2 h
    subst er; subst eG
    exact j_iret ok rfl dX7_truncateInput_34 hK
  · refine j_if_eq (tgt := 28) ok dX7_truncateInput_23 (by decide) (fun z => absurd z c2) (fun _ => ?_)
    refine j_iconst (v := 0) ok dX7_truncateInput_26 (by decide) ?_
    obtain ⟨er, eG⟩ := inj2 h
    subst er; subst eG
    exact j_iret ok rfl dX7_truncateInput_27 hK

def fX7_truncateInput_0 (l0 : Nat) (l1 : Int32)  (G : Mem) : Option (Int32 × Mem) :=
  (gF G 17 l0 9).bind fun v1 =>
  (fX7_isIn l1 (0 : Int32) v1 G).bind fun q2 =>
  if q2.1 = (0 : Int32) then
    fX7_truncateInput_18 l0 l1 l0 (1 : Int32) q2.2
  else
    fX7_truncateInput_18 l0 l1 l0 (0 : Int32) q2.2

set_option maxRecDepth 100000 in
set_option maxHeartbeats 4000000 in
theorem jX7_truncateInput_0 {X : Cx} (ok : OK X cX7_truncateInput RX7 (some .int) 2 1 23) (l0 : Nat) (l1 : Int32)  (G : Mem) {r : Int32} {G' : Mem} (h : fX7_truncateInput_0 l0 l1 G = some (r, G')) (hK : (finI X) r G') : J X 2 0 [(0, .ref (X.B + l0)), (1, .int l1)] [] G := by
  unfold fX7_truncateInput_0 at h
  refine j_aload_n ok dX7_truncateInput_0 rfl 0 rfl ?_
  refine j_iload_n ok dX7_truncateInput_1 rfl 1 rfl ?_
  refine j_iconst (v := 0) ok dX7_truncateInput_2 (by decide) ?_
  refine j_aload_n ok dX7_truncateInput_3 rfl 0 rfl ?_
  obtain ⟨v1, hv1, h⟩ := obind h
  refine k_getI ok fl_X7_73 hv1 dX7_truncateInput_4 ?_
  obtain ⟨q2, hq2, h⟩ := obind h
  refine k_S1 ok kl_X7_182 ⟨Nat.le_of_ble_eq_true rfl, Nat.le_of_ble_eq_true rfl⟩ [.int l1, .int (0 : Int32), .int v1] rfl rfl (Nat.le_of_ble_eq_true rfl) (tX7_isIn ok.fl X.V l1 (0 : Int32) v1 G hq2) dX7_truncateInput_7 ?_
  rcases ite_some h with ⟨c3, h⟩ | ⟨c3, h⟩
  · refine j_if_ne (tgt := 17) ok dX7_truncateInput_10 (by decide) (fun z => absurd c3 z) (fun _ => ?_)
    refine j_iconst (v := 1) ok dX7_truncateInput_13 (by decide) ?_
    refine j_goto (tgt := 18) ok dX7_truncateInput_14 (by decide) ?_
    exact J.sub [0, 1] rfl (jX7_truncateInput_18 ok l0 l1 l0 (1 : Int32) q2.2 h hK)
  · refine j_if_ne (tgt := 17) ok dX7_truncateInput_10 (by decide) (fun _ => ?_) (fun z => absurd z c3)
    refine j_iconst (v := 0) ok dX7_truncateInput_17 (by decide) ?_
    exact J.sub [0, 1] rfl (jX7_truncateInput_18 ok l0 l1 l0 (0 : Int32) q2.2 h hK)

def fX7_truncateInput (l0 : Nat) (l1 : Int32) (G : Mem) : Option (Int32 × Mem) := fX7_truncateInput_0 l0 l1 G
set_option maxRecDepth 100000 in
theorem tX7_truncateInput {l : Launch} (hfl : l.stackTraces = false) (V : Wd) (l0 : Nat) (l1 : Int32) (G : Mem) {r : Int32} {G' : Mem} (h : fX7_truncateInput l0 l1 G = some (r, G')) : Mx l yX7_truncateInput cX7_truncateInput 2 (some .int) 1 23 V [.ref (V.B + l0), .int l1] G (.inl (some (.int r))) G' :=
  mx_of (L := [(0, .ref (V.B + l0)), (1, .int l1)]) hfl (by decide +kernel) (Nat.le_of_ble_eq_true rfl) rfl (fun X hl hV hin ok he => by
    subst hl; subst hV
    exact J.sub [0, 1] rfl (jX7_truncateInput_0 ok l0 l1 G h he))
def fX7_undo_13 (l0 : Nat) (s0 : Nat) (s1 : Int32) (G : Mem) : Option (Int32 × Mem) :=
  ck G 17 s0 <| (fX7_fails s0 s1 (0 : Int32) (0 : Int32) G).bind fun q1 =>
  if q1.1 = (0 : Int32) then
    (gF q1.2 17 l0 5).bind fun v3 =>
    (pI q1.2 17 l0 5 (v3 - (1 : Int32))).bind fun G4 =>
    (gR G4 17 l0 1).bind fun v5 =>
    (gF G4 17 l0 5).bind fun v6 =>
    (gR G4 17 l0 0).bind fun v7 =>
    (fX7_copy v5 (v6 * (109 : Int32)) v7 (0 : Int32) G4).bind fun q8 =>
    ck q8.2 17 l0 <| (fX7_finds l0 q8.2).bind fun q9 =>
    (gF q9.2 17 l0 5).bind fun v10 =>
    some (v10, q9.2)
  else
    some ((0 : Int32), q1.2)

set_option maxRecDepth 100000 in
set_option maxHeartbeats 4000000 in
theorem jX7_undo_13 {X : Cx} (ok : OK X cX7_undo RX7 (some .int) 2 7 247) (l0 : Nat) (s0 : Nat) (s1 : Int32) (G : Mem) {r : Int32} {G' : Mem} (h : fX7_undo_13 l0 s0 s1 G = some (r, G')) (hK : (finI X) r G') : J X 2 13 [(0, .ref (X.B + l0))] [.int s1, .ref (X.B + s0)] G := by
  unfold fX7_undo_13 at h
  refine j_iconst (v := 0) ok dX7_undo_13 (by decide) ?_
  refine j_iconst (v := 0) ok dX7_undo_14 (by decide) ?_
  obtain ⟨kq1, h⟩ := ck_some h
  obtain ⟨q1, hq1, h⟩ := obind h
  refine k_V1 ok kl_X7_186 ⟨Nat.le_of_ble_eq_true rfl, Nat.le_of_ble_eq_true rfl⟩ [.int s1, .int (0 : Int32), .int (0 : Int32)] kq1 rfl rfl (Nat.le_of_ble_eq_true rfl) (tX7_fails ok.fl X.V s0 s1 (0 : Int32) (0 : Int32) G hq1) dX7_undo_15 ?_
  rcases ite_some h with ⟨c2, h⟩ | ⟨c2, h⟩
  · refine j_if_eq (tgt := 23) ok dX7_undo_18 (by decide) (fun _ => ?_) (fun z => absurd c2 z)
    refine j_aload_n ok dX7_undo_23 rfl 0 rfl ?_
    refine j_dup ok dX7_undo_24 rfl ?_
    obtain ⟨v3, hv3, h⟩ := obind h
    refine k_getI ok fl_X7_83 hv3 dX7_undo_25 ?_
    refine j_iconst (v := 1) ok dX7_undo_28 (by decide) ?_
    refine j_isub ok dX7_undo_29 ?_
    obtain ⟨G4, hG4, h⟩ := obind h
    refine k_putI ok fl_X7_83 fp_X7 rfl (Or.inl rfl) hG4 dX7_undo_30 ?_
    refine j_aload_n ok dX7_undo_33 rfl 0 rfl ?_
    obtain ⟨v5, hv5, h⟩ := obind h
    refine k_getR ok fl_X7_13 hv5 dX7_undo_34 ?_
    refine j_aload_n ok dX7_undo_37 rfl 0 rfl ?_
    obtain ⟨v6, hv6, h⟩ := obind h
    refine k_getI ok fl_X7_83 hv6 dX7_undo_38 ?_
    refine j_bipush (v := 109) ok dX7_undo_41 (by decide) ?_
    refine j_imul ok dX7_undo_43 ?_
    refine j_aload_n ok dX7_undo_44 rfl 0 rfl ?_
    obtain ⟨v7, hv7, h⟩ := obind h
    refine k_getR ok fl_X7_9 hv7 dX7_undo_45 ?_
    refine j_iconst (v := 0) ok dX7_undo_48 (by decide) ?_
    obtain ⟨q8, hq8, h⟩ := obind h
    refine k_S0 ok kl_X7_95 ⟨Nat.le_of_ble_eq_true rfl, Nat.le_of_ble_eq_true rfl⟩ [.ref (X.B + v5), .int (v6 * (109 : Int32)), .ref (X.B + v7), .int (0 : Int32)] rfl rfl (Nat.le_of_ble_eq_true rfl) (tX7_copy ok.fl X.V v5 (v6 * (109 : Int32)) v7 (0 : Int32) G4 hq8) dX7_undo_49 ?_
    refine j_aload_n ok dX7_undo_52 rfl 0 rfl ?_
    obtain ⟨kq9, h⟩ := ck_some h
    obtain ⟨q9, hq9, h⟩ := obind h
    refine k_V1 ok kl_X7_174 ⟨Nat.le_of_ble_eq_true rfl, Nat.le_of_ble_eq_true rfl⟩ [] kq9 rfl rfl (Nat.le_of_ble_eq_true rfl) (tX7_finds ok.fl X.V l0 q8.2 hq9) dX7_undo_53 ?_
    refine j_istore_n (L' := [(1, .int q9.1), (0, .ref (X.B + l0))]) ok dX7_undo_56 rfl (by decide) rfl ?_
    refine j_aload_n ok dX7_undo_57 rfl 1 rfl ?_
    obtain ⟨v10, hv10, h⟩ := obind h
    refine k_getI ok fl_X7_83 hv10 dX7_undo_58 ?_
    obtain ⟨er, eG⟩ := inj2 h
    subst er; subst eG
    exact j_iret ok rfl dX7_undo_61 hK
  · refine j_if_eq (tgt := 23) ok dX7_undo_18 (by decide) (fun z => absurd z c2) (fun _ => ?_)
    refine j_iconst (v := 0) ok dX7_undo_21 (by decide) ?_
    obtain ⟨er, eG⟩ := inj2 h
    subst er; subst eG
    exact j_iret ok rfl dX7_undo_22 hK

def fX7_undo_0 (l0 : Nat)  (G : Mem) : Option (Int32 × Mem) :=
  (gF G 17 l0 5).bind fun v1 =>
  if v1 = (0 : Int32) then
    fX7_undo_13 l0 l0 (1 : Int32) G
  else
    fX7_undo_13 l0 l0 (0 : Int32) G

set_option maxRecDepth 100000 in
set_option maxHeartbeats 4000000 in
theorem jX7_undo_0 {X : Cx} (ok : OK X cX7_undo RX7 (some .int) 2 7 247) (l0 : Nat)  (G : Mem) {r : Int32} {G' : Mem} (h : fX7_undo_0 l0 G = some (r, G')) (hK : (finI X) r G') : J X 2 0 [(0, .ref (X.B + l0))] [] G := by
  unfold fX7_undo_0 at h
  refine j_aload_n ok dX7_undo_0 rfl 0 rfl ?_
  refine j_aload_n ok dX7_undo_1 rfl 0 rfl ?_
  obtain ⟨v1, hv1, h⟩ := obind h
  refine k_getI ok fl_X7_83 hv1 dX7_undo_2 ?_
  rcases ite_some h with ⟨c2, h⟩ | ⟨c2, h⟩
  · refine j_if_ne (tgt := 12) ok dX7_undo_5 (by decide) (fun z => absurd c2 z) (fun _ => ?_)
    refine j_iconst (v := 1) ok dX7_undo_8 (by decide) ?_
    refine j_goto (tgt := 13) ok dX7_undo_9 (by decide) ?_
    exact J.sub [0] rfl (jX7_undo_13 ok l0 l0 (1 : Int32) G h hK)
  · refine j_if_ne (tgt := 12) ok dX7_undo_5 (by decide) (fun _ => ?_) (fun z => absurd z c2)
    refine j_iconst (v := 0) ok dX7_undo_12 (by decide) ?_
    exact J.sub [0] rfl (jX7_undo_13 ok l0 l0 (0 : Int32) G h hK)

def fX7_undo (l0 : Nat) (G : Mem) : Option (Int32 × Mem) := fX7_undo_0 l0 G
set_option maxRecDepth 100000 in
theorem tX7_undo {l : Launch} (hfl : l.stackTraces = false) (V : Wd) (l0 : Nat) (G : Mem) {r : Int32} {G' : Mem} (h : fX7_undo l0 G = some (r, G')) : Mx l yX7_undo cX7_undo 2 (some .int) 7 247 V [.ref (V.B + l0)] G (.inl (some (.int r))) G' :=
  mx_of (L := [(0, .ref (V.B + l0))]) hfl (by decide +kernel) (Nat.le_of_ble_eq_true rfl) rfl (fun X hl hV hin ok he => by
    subst hl; subst hV
    exact J.sub [0] rfl (jX7_undo_0 ok l0 G h he))
def fX7_undoableChanges_0 (l0 : Nat)  (G : Mem) : Option (Int32 × Mem) :=
  (gF G 17 l0 5).bind fun v1 =>
  ck G 17 l0 <| (fX7_told l0 v1 G).bind fun q2 =>
  some (q2.1, q2.2)

set_option maxRecDepth 100000 in
set_option maxHeartbeats 4000000 in
theorem jX7_undoableChanges_0 {X : Cx} (ok : OK X cX7_undoableChanges RX7 (some .int) 1 1 21) (l0 : Nat)  (G : Mem) {r : Int32} {G' : Mem} (h : fX7_undoableChanges_0 l0 G = some (r, G')) (hK : (finI X) r G') : J X 1 0 [(0, .ref (X.B + l0))] [] G := by
  unfold fX7_undoableChanges_0 at h
  refine j_aload_n ok dX7_undoableChanges_0 rfl 0 rfl ?_
  refine j_aload_n ok dX7_undoableChanges_1 rfl 0 rfl ?_
  obtain ⟨v1, hv1, h⟩ := obind h
  refine k_getI ok fl_X7_83 hv1 dX7_undoableChanges_2 ?_
  obtain ⟨kq2, h⟩ := ck_some h
  obtain ⟨q2, hq2, h⟩ := obind h
  refine k_V1 ok kl_X7_327 ⟨Nat.le_of_ble_eq_true rfl, Nat.le_of_ble_eq_true rfl⟩ [.int v1] kq2 rfl rfl (Nat.le_of_ble_eq_true rfl) (tX7_told ok.fl X.V l0 v1 G hq2) dX7_undoableChanges_5 ?_
  obtain ⟨er, eG⟩ := inj2 h
  subst er; subst eG
  exact j_iret ok rfl dX7_undoableChanges_8 hK

def fX7_undoableChanges (l0 : Nat) (G : Mem) : Option (Int32 × Mem) := fX7_undoableChanges_0 l0 G
set_option maxRecDepth 100000 in
theorem tX7_undoableChanges {l : Launch} (hfl : l.stackTraces = false) (V : Wd) (l0 : Nat) (G : Mem) {r : Int32} {G' : Mem} (h : fX7_undoableChanges l0 G = some (r, G')) : Mx l yX7_undoableChanges cX7_undoableChanges 1 (some .int) 1 21 V [.ref (V.B + l0)] G (.inl (some (.int r))) G' :=
  mx_of (L := [(0, .ref (V.B + l0))]) hfl (by decide +kernel) (Nat.le_of_ble_eq_true rfl) rfl (fun X hl hV hin ok he => by
    subst hl; subst hV
    exact J.sub [0] rfl (jX7_undoableChanges_0 ok l0 G h he))
def fX7_writePosition_86 (l0 : Nat)  (G : Mem) : Option (Int32 × Mem) :=
  (gF G 17 l0 10).bind fun v1 =>
  some (v1, G)

set_option maxRecDepth 100000 in
set_option maxHeartbeats 4000000 in
theorem jX7_writePosition_86 {X : Cx} (ok : OK X cX7_writePosition RX7 (some .int) 4 2 43) (l0 : Nat)  (G : Mem) {r : Int32} {G' : Mem} (h : fX7_writePosition_86 l0 G = some (r, G')) (hK : (finI X) r G') : J X 4 86 [(0, .ref (X.B + l0))] [] G := by
  unfold fX7_writePosition_86 at h
  refine j_aload_n ok dX7_writePosition_86 rfl 0 rfl ?_
  obtain ⟨v1, hv1, h⟩ := obind h
  refine k_getI ok fl_X7_395 hv1 dX7_writePosition_87 ?_
  obtain ⟨er, eG⟩ := inj2 h
  subst er; subst eG
  exact j_iret ok rfl dX7_writePosition_90 hK

def fX7_writePosition_80 (l0 : Nat) (l1 : Int32) (l2 : Int32)  (G : Mem) : Option (((Int32) ⊕ Int32) × Mem) :=
  some (.inl ((l2 + (-1 : Int32))), G)

set_option maxRecDepth 100000 in
set_option maxHeartbeats 4000000 in
theorem jX7_writePosition_80 {X : Cx} (ok : OK X cX7_writePosition RX7 (some .int) 4 2 43) (l0 : Nat) (l1 : Int32) (l2 : Int32)  (G : Mem) {r : ((Int32) ⊕ Int32)} {G' : Mem} (h : fX7_writePosition_80 l0 l1 l2 G = some (r, G')) (hK : (finL X 4 30 (fun s : Int32 => [(0, .ref (X.B + l0)), (1, .int l1), (2, .int s)]) (finI X)) r G') : J X 4 80 [(0, .ref (X.B + l0)), (1, .int l1), (2, .int l2)] [] G := by
  unfold fX7_writePosition_80 at h
  refine j_iinc (L' := [(2, .int (l2 + (-1 : Int32))), (0, .ref (X.B + l0)), (1, .int l1)]) (v := (l2 + (-1 : Int32))) ok dX7_writePosition_80 (q := 2) rfl rfl (by decide) rfl ?_
  refine j_goto (tgt := 30) ok dX7_writePosition_83 (by decide) ?_
  obtain ⟨er, eG⟩ := inj2 h
  subst er; subst eG
  have hJ : J X 4 30 [(0, .ref (X.B + l0)), (1, .int l1), (2, .int (l2 + (-1 : Int32)))] [] G := hK
  exact J.sub [1, 2, 0] rfl hJ

def fX7_writePosition_70 (l0 : Nat) (l1 : Int32) (l2 : Int32)  (G : Mem) : Option (((Int32) ⊕ Int32) × Mem) :=
  if l2 ≤ (0 : Int32) then
    fX7_writePosition_80 l0 l1 l2 G
  else
    ck G 17 l0 <| (fX7_out l0 (10 : Int32) G).bind fun q2 =>
    fX7_writePosition_80 l0 l1 l2 q2.2

set_option maxRecDepth 100000 in
set_option maxHeartbeats 4000000 in
theorem jX7_writePosition_70 {X : Cx} (ok : OK X cX7_writePosition RX7 (some .int) 4 2 43) (l0 : Nat) (l1 : Int32) (l2 : Int32)  (G : Mem) {r : ((Int32) ⊕ Int32)} {G' : Mem} (h : fX7_writePosition_70 l0 l1 l2 G = some (r, G')) (hK : (finL X 4 30 (fun s : Int32 => [(0, .ref (X.B + l0)), (1, .int l1), (2, .int s)]) (finI X)) r G') : J X 4 70 [(0, .ref (X.B + l0)), (1, .int l1), (2, .int l2)] [] G := by
  unfold fX7_writePosition_70 at h
  refine j_iload_n ok dX7_writePosition_70 rfl 2 rfl ?_
  rcases ite_some h with ⟨c1, h⟩ | ⟨c1, h⟩
  · refine j_if_le (tgt := 80) ok dX7_writePosition_71 (by decide) (fun _ => ?_) (fun z => absurd c1 z)
    exact J.sub [0, 1, 2] rfl (jX7_writePosition_80 ok l0 l1 l2 G h hK)
  · refine j_if_le (tgt := 80) ok dX7_writePosition_71 (by decide) (fun z => absurd z c1) (fun _ => ?_)
    refine j_aload_n ok dX7_writePosition_74 rfl 0 rfl ?_
    refine j_bipush (v := 10) ok dX7_writePosition_75 (by decide) ?_
    obtain ⟨kq2, h⟩ := ck_some h
    obtain ⟨q2, hq2, h⟩ := obind h
    refine k_V0 ok kl_X7_401 ⟨Nat.le_of_ble_eq_true rfl, Nat.le_of_ble_eq_true rfl⟩ [.int (10 : Int32)] kq2 rfl rfl (Nat.le_of_ble_eq_true rfl) (tX7_out ok.fl X.V l0 (10 : Int32) G hq2) dX7_writePosition_77 ?_
    exact J.sub [0, 1, 2] rfl (jX7_writePosition_80 ok l0 l1 l2 q2.2 h hK)

def fX7_writePosition_36 (l0 : Nat) (l1 : Int32) (l2 : Int32) (l3 : Int32)  (G : Mem) : Option (((Int32) ⊕ ((Int32) ⊕ Int32)) × Mem) :=
  (gR G 17 l0 0).bind fun v1 =>
  (gA G 1 v1 (0 : Int32)).bind fun v2 =>
  if v2 ≤ l3 then
    liftE (fX7_writePosition_70 l0 l1 l2 G)
  else
    ck G 17 l0 <| (fX7_square l0 l3 l2 G).bind fun q4 =>
    ck q4.2 17 l0 <| (fX7_last l0 l1 q4.1 q4.2).bind fun q5 =>
    (fX7_letter q5.1 q5.2).bind fun q6 =>
    ck q6.2 17 l0 <| (fX7_out l0 q6.1 q6.2).bind fun q7 =>
    some (.inl ((l3 + (1 : Int32))), q7.2)

set_option maxRecDepth 100000 in
set_option maxHeartbeats 4000000 in
theorem jX7_writePosition_36 {X : Cx} (ok : OK X cX7_writePosition RX7 (some .int) 4 2 43) (l0 : Nat) (l1 : Int32) (l2 : Int32) (l3 : Int32)  (G : Mem) {r : ((Int32) ⊕ ((Int32) ⊕ Int32))} {G' : Mem} (h : fX7_writePosition_36 l0 l1 l2 l3 G = some (r, G')) (hK : (finL X 4 36 (fun s : Int32 => [(0, .ref (X.B + l0)), (1, .int l1), (2, .int l2), (3, .int s)]) (finL X 4 30 (fun s : Int32 => [(0, .ref (X.B + l0)), (1, .int l1), (2, .int s)]) (finI X))) r G') : J X 4 36 [(0, .ref (X.B + l0)), (1, .int l1), (2, .int l2), (3, .int l3)] [] G := by
  unfold fX7_writePosition_36 at h
  refine j_iload_n ok dX7_writePosition_36 rfl 3 rfl ?_
  refine j_aload_n ok dX7_writePosition_37 rfl 0 rfl ?_
  obtain ⟨v1, hv1, h⟩ := obind h
  refine k_getR ok fl_X7_9 hv1 dX7_writePosition_38 ?_
  refine j_iconst (v := 0) ok dX7_writePosition_41 (by decide) ?_
  obtain ⟨v2, hv2, h⟩ := obind h
  refine j_iald ok hv2 dX7_writePosition_42 ?_
  rcases ite_some h with ⟨c3, h⟩ | ⟨c3, h⟩
  · refine j_icmp_ge (tgt := 70) ok dX7_writePosition_43 (by decide) (fun _ => ?_) (fun z => absurd c3 z)
    obtain ⟨r1, e1, h1⟩ := lift_some h
    subst e1
    exact J.sub [0, 1, 2] rfl (jX7_writePosition_70 ok l0 l1 l2 G h1 hK)
  · refine j_icmp_ge (tgt := 70) ok dX7_writePosition_43 (by decide) (fun z => absurd z c3) (fun _ => ?_)
    refine j_aload_n ok dX7_writePosition_46 rfl 0 rfl ?_
    refine j_aload_n ok dX7_writePosition_47 rfl 0 rfl ?_
    refine j_iload_n ok dX7_writePosition_48 rfl 1 rfl ?_
    refine j_aload_n ok dX7_writePosition_49 rfl 0 rfl ?_
    refine j_iload_n ok dX7_writePosition_50 rfl 3 rfl ?_
    refine j_iload_n ok dX7_writePosition_51 rfl 2 rfl ?_
    obtain ⟨kq4, h⟩ := ck_some h
    obtain ⟨q4, hq4, h⟩ := obind h
    refine k_V1 ok kl_X7_349 ⟨Nat.le_of_ble_eq_true rfl, Nat.le_of_ble_eq_true rfl⟩ [.int l3, .int l2] kq4 rfl rfl (Nat.le_of_ble_eq_true rfl) (tX7_square ok.fl X.V l0 l3 l2 G hq4) dX7_writePosition_52 ?_
    obtain ⟨kq5, h⟩ := ck_some h
    obtain ⟨q5, hq5, h⟩ := obind h
    refine k_V1 ok kl_X7_352 ⟨Nat.le_of_ble_eq_true rfl, Nat.le_of_ble_eq_true rfl⟩ [.int l1, .int q4.1] kq5 rfl rfl (Nat.le_of_ble_eq_true rfl) (tX7_last ok.fl X.V l0 l1 q4.1 q4.2 hq5) dX7_writePosition_55 ?_
    obtain ⟨q6, hq6, h⟩ := obind h
    refine k_S1 ok kl_X7_398 ⟨Nat.le_of_ble_eq_true rfl, Nat.le_of_ble_eq_true rfl⟩ [.int q5.1] rfl rfl (Nat.le_of_ble_eq_true rfl) (tX7_letter ok.fl X.V q5.1 q5.2 hq6) dX7_writePosition_58 ?_
    obtain ⟨kq7, h⟩ := ck_some h
    obtain ⟨q7, hq7, h⟩ := obind h
    refine k_V0 ok kl_X7_401 ⟨Nat.le_of_ble_eq_true rfl, Nat.le_of_ble_eq_true rfl⟩ [.int q6.1] kq7 rfl rfl (Nat.le_of_ble_eq_true rfl) (tX7_out ok.fl X.V l0 q6.1 q6.2 hq7) dX7_writePosition_61 ?_
    refine j_iinc (L' := [(3, .int (l3 + (1 : Int32))), (0, .ref (X.B + l0)), (1, .int l1), (2, .int l2)]) (v := (l3 + (1 : Int32))) ok dX7_writePosition_64 (q := 3) rfl rfl (by decide) rfl ?_
    refine j_goto (tgt := 36) ok dX7_writePosition_67 (by decide) ?_
    obtain ⟨er, eG⟩ := inj2 h
    subst er; subst eG
    have hJ : J X 4 36 [(0, .ref (X.B + l0)), (1, .int l1), (2, .int l2), (3, .int (l3 + (1 : Int32)))] [] q7.2 := hK
    exact J.sub [1, 2, 3, 0] rfl hJ

def fX7_writePosition_30 (l0 : Nat) (l1 : Int32) (l2 : Int32)  (G : Mem) : Option (((Int32) ⊕ Int32) × Mem) :=
  if l2 < (0 : Int32) then
    liftE (fX7_writePosition_86 l0 G)
  else
    loopM (fun (s : Int32) G => fX7_writePosition_36 l0 l1 l2 s G) FU ((0 : Int32)) G

set_option maxRecDepth 100000 in
set_option maxHeartbeats 4000000 in
theorem jX7_writePosition_30 {X : Cx} (ok : OK X cX7_writePosition RX7 (some .int) 4 2 43) (l0 : Nat) (l1 : Int32) (l2 : Int32)  (G : Mem) {r : ((Int32) ⊕ Int32)} {G' : Mem} (h : fX7_writePosition_30 l0 l1 l2 G = some (r, G')) (hK : (finL X 4 30 (fun s : Int32 => [(0, .ref (X.B + l0)), (1, .int l1), (2, .int s)]) (finI X)) r G') : J X 4 30 [(0, .ref (X.B + l0)), (1, .int l1), (2, .int l2)] [] G := by
  unfold fX7_writePosition_30 at h
  refine j_iload_n ok dX7_writePosition_30 rfl 2 rfl ?_
  rcases ite_some h with ⟨c1, h⟩ | ⟨c1, h⟩
  · refine j_if_lt (tgt := 86) ok dX7_writePosition_31 (by decide) (fun _ => ?_) (fun z => absurd c1 z)
    obtain ⟨r1, e1, h1⟩ := lift_some h
    subst e1
    exact J.sub [0] rfl (jX7_writePosition_86 ok l0 G h1 hK)
  · refine j_if_lt (tgt := 86) ok dX7_writePosition_31 (by decide) (fun z => absurd z c1) (fun _ => ?_)
    refine j_iconst (v := 0) ok dX7_writePosition_34 (by decide) ?_
    refine j_istore_n (L' := [(3, .int (0 : Int32)), (0, .ref (X.B + l0)), (1, .int l1), (2, .int l2)]) ok dX7_writePosition_35 rfl (by decide) rfl ?_
    have hJ : J X 4 36 [(0, .ref (X.B + l0)), (1, .int l1), (2, .int l2), (3, .int (0 : Int32))] [] G := j_loop (loc := fun s : Int32 => [(0, .ref (X.B + l0)), (1, .int l1), (2, .int l2), (3, .int s)]) (F := (finL X 4 30 (fun s : Int32 => [(0, .ref (X.B + l0)), (1, .int l1), (2, .int s)]) (finI X))) (fun s G r G' hb hk => jX7_writePosition_36 ok l0 l1 l2 s G hb hk) _ _ _ _ _ h hK
    exact J.sub [1, 2, 3, 0] rfl hJ

def fX7_writePosition_0 (l0 : Nat) (l1 : Int32)  (G : Mem) : Option (Int32 × Mem) :=
  ck G 17 l0 <| (fX7_noPosition l0 l1 G).bind fun q1 =>
  ck q1.2 17 l0 <| (fX7_fails l0 q1.1 (0 : Int32) (0 : Int32) q1.2).bind fun q2 =>
  if q2.1 = (0 : Int32) then
    (pI q2.2 17 l0 10 (0 : Int32)).bind fun G4 =>
    (gR G4 17 l0 0).bind fun v5 =>
    (gA G4 1 v5 (1 : Int32)).bind fun v6 =>
    loopM (fun (s : Int32) G => fX7_writePosition_30 l0 l1 s G) FU ((v6 - (1 : Int32))) G4
  else
    some ((0 : Int32), q2.2)

set_option maxRecDepth 100000 in
set_option maxHeartbeats 4000000 in
theorem jX7_writePosition_0 {X : Cx} (ok : OK X cX7_writePosition RX7 (some .int) 4 2 43) (l0 : Nat) (l1 : Int32)  (G : Mem) {r : Int32} {G' : Mem} (h : fX7_writePosition_0 l0 l1 G = some (r, G')) (hK : (finI X) r G') : J X 4 0 [(0, .ref (X.B + l0)), (1, .int l1)] [] G := by
  unfold fX7_writePosition_0 at h
  refine j_aload_n ok dX7_writePosition_0 rfl 0 rfl ?_
  refine j_aload_n ok dX7_writePosition_1 rfl 0 rfl ?_
  refine j_iload_n ok dX7_writePosition_2 rfl 1 rfl ?_
  obtain ⟨kq1, h⟩ := ck_some h
  obtain ⟨q1, hq1, h⟩ := obind h
  refine k_V1 ok kl_X7_343 ⟨Nat.le_of_ble_eq_true rfl, Nat.le_of_ble_eq_true rfl⟩ [.int l1] kq1 rfl rfl (Nat.le_of_ble_eq_true rfl) (tX7_noPosition ok.fl X.V l0 l1 G hq1) dX7_writePosition_3 ?_
  refine j_iconst (v := 0) ok dX7_writePosition_6 (by decide) ?_
  refine j_iconst (v := 0) ok dX7_writePosition_7 (by decide) ?_
  obtain ⟨kq2, h⟩ := ck_some h
  obtain ⟨q2, hq2, h⟩ := obind h
  refine k_V1 ok kl_X7_186 ⟨Nat.le_of_ble_eq_true rfl, Nat.le_of_ble_eq_true rfl⟩ [.int q1.1, .int (0 : Int32), .int (0 : Int32)] kq2 rfl rfl (Nat.le_of_ble_eq_true rfl) (tX7_fails ok.fl X.V l0 q1.1 (0 : Int32) (0 : Int32) q1.2 hq2) dX7_writePosition_8 ?_
  rcases ite_some h with ⟨c3, h⟩ | ⟨c3, h⟩
  · refine j_if_eq (tgt := 16) ok dX7_writePosition_11 (by decide) (fun _ => ?_) (fun z => absurd c3 z)
    refine j_aload_n ok dX7_writePosition_16 rfl 0 rfl ?_
    refine j_iconst (v := 0) ok dX7_writePosition_17 (by decide) ?_
    obtain ⟨G4, hG4, h⟩ := obind h
    refine k_putI ok fl_X7_395 fp_X7 rfl (Or.inl rfl) hG4 dX7_writePosition_18 ?_
    refine j_aload_n ok dX7_writePosition_21 rfl 0 rfl ?_
    obtain ⟨v5, hv5, h⟩ := obind h
    refine k_getR ok fl_X7_9 hv5 dX7_writePosition_22 ?_
    refine j_iconst (v := 1) ok dX7_writePosition_25 (by decide) ?_
    obtain ⟨v6, hv6, h⟩ := obind h
    refine j_iald ok hv6 dX7_writePosition_26 ?_
    refine j_iconst (v := 1) ok dX7_writePosition_27 (by decide) ?_
    refine j_isub ok dX7_writePosition_28 ?_
    refine j_istore_n (L' := [(2, .int (v6 - (1 : Int32))), (0, .ref (X.B + l0)), (1, .int l1)]) ok dX7_writePosition_29 rfl (by decide) rfl ?_
    have hJ : J X 4 30 [(0, .ref (X.B + l0)), (1, .int l1), (2, .int (v6 - (1 : Int32)))] [] G4 := j_loop (loc := fun s : Int32 => [(0, .ref (X.B + l0)), (1, .int l1), (2, .int s)]) (F := (finI X)) (fun s G r G' hb hk => jX7_writePosition_30 ok l0 l1 s G hb hk) _ _ _ _ _ h hK
    exact J.sub [1, 2, 0] rfl hJ
  · refine j_if_eq (tgt := 16) ok dX7_writePosition_11 (by decide) (fun z => absurd z c3) (fun _ => ?_)
    refine j_iconst (v := 0) ok dX7_writePosition_14 (by decide) ?_
    obtain ⟨er, eG⟩ := inj2 h
    subst er; subst eG
    exact j_iret ok rfl dX7_writePosition_15 hK

def fX7_writePosition (l0 : Nat) (l1 : Int32) (G : Mem) : Option (Int32 × Mem) := fX7_writePosition_0 l0 l1 G
set_option maxRecDepth 100000 in
theorem tX7_writePosition {l : Launch} (hfl : l.stackTraces = false) (V : Wd) (l0 : Nat) (l1 : Int32) (G : Mem) {r : Int32} {G' : Mem} (h : fX7_writePosition l0 l1 G = some (r, G')) : Mx l yX7_writePosition cX7_writePosition 4 (some .int) 2 43 V [.ref (V.B + l0), .int l1] G (.inl (some (.int r))) G' :=
  mx_of (L := [(0, .ref (V.B + l0)), (1, .int l1)]) hfl (by decide +kernel) (Nat.le_of_ble_eq_true rfl) rfl (fun X hl hV hin ok he => by
    subst hl; subst hV
    exact J.sub [0, 1] rfl (jX7_writePosition_0 ok l0 l1 G h he))
