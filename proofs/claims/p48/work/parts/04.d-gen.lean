def fX2_readCommand_70  (s0 : Int32) (G : Mem) : Option (Int32 × Mem) :=
  rz s0 <|
  some (s0, G)

set_option maxRecDepth 100000 in
set_option maxHeartbeats 4000000 in
theorem jX2_readCommand_70 {X : Cx} (ok : OK X cX2_readCommand RX2 (some .boolean) 2 7 187)  (s0 : Int32) (G : Mem) {r : Int32} {G' : Mem} (h : fX2_readCommand_70 s0 G = some (r, G')) (hK : (finI X) r G') : J X 2 70 [] [.int s0] G := by
  unfold fX2_readCommand_70 at h
  obtain ⟨hz1, h⟩ := rz_some h
  obtain ⟨er, eG⟩ := inj2 h
  subst er; subst eG
  exact j_zret ok rfl hz1 dX2_readCommand_70 hK

def fX2_readCommand_69   (G : Mem) : Option (Int32 × Mem) :=
  fX2_readCommand_70 (0 : Int32) G

set_option maxRecDepth 100000 in
set_option maxHeartbeats 4000000 in
theorem jX2_readCommand_69 {X : Cx} (ok : OK X cX2_readCommand RX2 (some .boolean) 2 7 187)   (G : Mem) {r : Int32} {G' : Mem} (h : fX2_readCommand_69  G = some (r, G')) (hK : (finI X) r G') : J X 2 69 [] [] G := by
  unfold fX2_readCommand_69 at h
  refine j_iconst (v := 0) ok dX2_readCommand_69 (by decide) ?_
  exact J.sub [] rfl (jX2_readCommand_70 ok (0 : Int32) G h hK)

def fX2_readCommand_0 (l0 : Nat) (l1 : Nat)  (G : Mem) : Option (Int32 × Mem) :=
  (gR G 12 l0 0).bind fun v1 =>
  ck G 15 v1 <| (fX5_is v1 8 G).bind fun q2 =>
  if q2.1 = (0 : Int32) then
    (gR q2.2 12 l0 0).bind fun v4 =>
    ck q2.2 15 v4 <| (fX5_is v4 9 q2.2).bind fun q5 =>
    if q5.1 = (0 : Int32) then
      (gR q5.2 12 l0 0).bind fun v7 =>
      ck q5.2 15 v7 <| (fX5_is v7 10 q5.2).bind fun q8 =>
      if q8.1 = (0 : Int32) then
        ck q8.2 12 l0 <| (fX2_reject l0 (1 : Int32) q8.2).bind fun q10 =>
        rz q10.1 <|
        some (q10.1, q10.2)
      else
        (pI q8.2 12 l0 5 (2 : Int32)).bind fun G10 =>
        (gR G10 12 l0 0).bind fun v11 =>
        ck G10 15 v11 <| (fX5_readNext v11 G10).bind fun q12 =>
        ck q12.2 12 l0 <| (fX2_isSemicolon l0 q12.2).bind fun q13 =>
        rz q13.1 <|
        some (q13.1, q13.2)
    else
      (pI q5.2 12 l0 5 (1 : Int32)).bind fun G7 =>
      (gR G7 12 l0 0).bind fun v8 =>
      ck G7 15 v8 <| (fX5_readNext v8 G7).bind fun q9 =>
      ck q9.2 12 l0 <| (fX2_readOrigin l0 l1 q9.2).bind fun q10 =>
      if q10.1 = (0 : Int32) then
        fX2_readCommand_69 q10.2
      else
        ck q10.2 12 l0 <| (fX2_isSemicolon l0 q10.2).bind fun q12 =>
        if q12.1 = (0 : Int32) then
          fX2_readCommand_69 q12.2
        else
          fX2_readCommand_70 (1 : Int32) q12.2
  else
    (pI q2.2 12 l0 5 (0 : Int32)).bind fun G4 =>
    (gR G4 13 l1 0).bind fun v5 =>
    ck G4 12 l0 <| (fX2_readNote l0 v5 G4).bind fun q6 =>
    rz q6.1 <|
    some (q6.1, q6.2)

set_option maxRecDepth 100000 in
set_option maxHeartbeats 4000000 in
theorem jX2_readCommand_0 {X : Cx} (ok : OK X cX2_readCommand RX2 (some .boolean) 2 7 187) (l0 : Nat) (l1 : Nat)  (G : Mem) {r : Int32} {G' : Mem} (h : fX2_readCommand_0 l0 l1 G = some (r, G')) (hK : (finI X) r G') : J X 2 0 [(0, .ref (X.B + l0)), (1, .ref (X.B + l1))] [] G := by
  unfold fX2_readCommand_0 at h
  refine j_aload_n ok dX2_readCommand_0 rfl 0 rfl ?_
  obtain ⟨v1, hv1, h⟩ := obind h
  refine k_getR ok fl_X2_12 hv1 dX2_readCommand_1 ?_
  refine k_str ok st_X2_77 dX2_readCommand_4 ?_
  obtain ⟨kq2, h⟩ := ck_some h
  obtain ⟨q2, hq2, h⟩ := obind h
  refine k_V1 ok kl_X2_79 ⟨Nat.le_of_ble_eq_true rfl, Nat.le_of_ble_eq_true rfl⟩ [.ref (X.V.sa 8)] kq2 rfl rfl (Nat.le_of_ble_eq_true rfl) (tX5_is ok.fl X.V v1 8 G hq2) dX2_readCommand_6 ?_
  rcases ite_some h with ⟨c3, h⟩ | ⟨c3, h⟩
  · refine j_if_eq (tgt := 26) ok dX2_readCommand_9 (by decide) (fun _ => ?_) (fun z => absurd c3 z)
    refine j_aload_n ok dX2_readCommand_26 rfl 0 rfl ?_
    obtain ⟨v4, hv4, h⟩ := obind h
    refine k_getR ok fl_X2_12 hv4 dX2_readCommand_27 ?_
    refine k_str ok st_X2_83 dX2_readCommand_30 ?_
    obtain ⟨kq5, h⟩ := ck_some h
    obtain ⟨q5, hq5, h⟩ := obind h
    refine k_V1 ok kl_X2_79 ⟨Nat.le_of_ble_eq_true rfl, Nat.le_of_ble_eq_true rfl⟩ [.ref (X.V.sa 9)] kq5 rfl rfl (Nat.le_of_ble_eq_true rfl) (tX5_is ok.fl X.V v4 9 q2.2 hq5) dX2_readCommand_32 ?_
    rcases ite_some h with ⟨c6, h⟩ | ⟨c6, h⟩
    · refine j_if_eq (tgt := 71) ok dX2_readCommand_35 (by decide) (fun _ => ?_) (fun z => absurd c6 z)
      refine j_aload_n ok dX2_readCommand_71 rfl 0 rfl ?_
      obtain ⟨v7, hv7, h⟩ := obind h
      refine k_getR ok fl_X2_12 hv7 dX2_readCommand_72 ?_
      refine k_str ok st_X2_85 dX2_readCommand_75 ?_
      obtain ⟨kq8, h⟩ := ck_some h
      obtain ⟨q8, hq8, h⟩ := obind h
      refine k_V1 ok kl_X2_79 ⟨Nat.le_of_ble_eq_true rfl, Nat.le_of_ble_eq_true rfl⟩ [.ref (X.V.sa 10)] kq8 rfl rfl (Nat.le_of_ble_eq_true rfl) (tX5_is ok.fl X.V v7 10 q5.2 hq8) dX2_readCommand_77 ?_
      rcases ite_some h with ⟨c9, h⟩ | ⟨c9, h⟩
      · refine j_if_eq (tgt := 100) ok dX2_readCommand_80 (by decide) (fun _ => ?_) (fun z => absurd c9 z)
        refine j_aload_n ok dX2_readCommand_100 rfl 0 rfl ?_
        refine j_iconst (v := 1) ok dX2_readCommand_101 (by decide) ?_
        obtain ⟨kq10, h⟩ := ck_some h
        obtain ⟨q10, hq10, h⟩ := obind h
        refine k_V1 ok kl_X2_67 ⟨Nat.le_of_ble_eq_true rfl, Nat.le_of_ble_eq_true rfl⟩ [.int (1 : Int32)] kq10 rfl rfl (Nat.le_of_ble_eq_true rfl) (tX2_reject ok.fl X.V l0 (1 : Int32) q8.2 hq10) dX2_readCommand_102 ?_
        obtain ⟨hz11, h⟩ := rz_some h
        obtain ⟨er, eG⟩ := inj2 h
        subst er; subst eG
        exact j_zret ok rfl hz11 dX2_readCommand_105 hK
      · refine j_if_eq (tgt := 100) ok dX2_readCommand_80 (by decide) (fun z => absurd z c9) (fun _ => ?_)
        refine j_aload_n ok dX2_readCommand_83 rfl 0 rfl ?_
        refine j_iconst (v := 2) ok dX2_readCommand_84 (by decide) ?_
        obtain ⟨G10, hG10, h⟩ := obind h
        refine k_putI ok fl_X2_31 fp_X2 rfl (Or.inl rfl) hG10 dX2_readCommand_85 ?_
        refine j_aload_n ok dX2_readCommand_88 rfl 0 rfl ?_
        obtain ⟨v11, hv11, h⟩ := obind h
        refine k_getR ok fl_X2_12 hv11 dX2_readCommand_89 ?_
        obtain ⟨kq12, h⟩ := ck_some h
        obtain ⟨q12, hq12, h⟩ := obind h
        refine k_V0 ok kl_X2_96 ⟨Nat.le_of_ble_eq_true rfl, Nat.le_of_ble_eq_true rfl⟩ [] kq12 rfl rfl (Nat.le_of_ble_eq_true rfl) (tX5_readNext ok.fl X.V v11 G10 hq12) dX2_readCommand_92 ?_
        refine j_aload_n ok dX2_readCommand_95 rfl 0 rfl ?_
        obtain ⟨kq13, h⟩ := ck_some h
        obtain ⟨q13, hq13, h⟩ := obind h
        refine k_V1 ok kl_X2_103 ⟨Nat.le_of_ble_eq_true rfl, Nat.le_of_ble_eq_true rfl⟩ [] kq13 rfl rfl (Nat.le_of_ble_eq_true rfl) (tX2_isSemicolon ok.fl X.V l0 q12.2 hq13) dX2_readCommand_96 ?_
        obtain ⟨hz14, h⟩ := rz_some h
        obtain ⟨er, eG⟩ := inj2 h
        subst er; subst eG
        exact j_zret ok rfl hz14 dX2_readCommand_99 hK
    · refine j_if_eq (tgt := 71) ok dX2_readCommand_35 (by decide) (fun z => absurd z c6) (fun _ => ?_)
      refine j_aload_n ok dX2_readCommand_38 rfl 0 rfl ?_
      refine j_iconst (v := 1) ok dX2_readCommand_39 (by decide) ?_
      obtain ⟨G7, hG7, h⟩ := obind h
      refine k_putI ok fl_X2_31 fp_X2 rfl (Or.inl rfl) hG7 dX2_readCommand_40 ?_
      refine j_aload_n ok dX2_readCommand_43 rfl 0 rfl ?_
      obtain ⟨v8, hv8, h⟩ := obind h
      refine k_getR ok fl_X2_12 hv8 dX2_readCommand_44 ?_
      obtain ⟨kq9, h⟩ := ck_some h
      obtain ⟨q9, hq9, h⟩ := obind h
      refine k_V0 ok kl_X2_96 ⟨Nat.le_of_ble_eq_true rfl, Nat.le_of_ble_eq_true rfl⟩ [] kq9 rfl rfl (Nat.le_of_ble_eq_true rfl) (tX5_readNext ok.fl X.V v8 G7 hq9) dX2_readCommand_47 ?_
      refine j_aload_n ok dX2_readCommand_50 rfl 0 rfl ?_
      refine j_aload_n ok dX2_readCommand_51 rfl 1 rfl ?_
      obtain ⟨kq10, h⟩ := ck_some h
      obtain ⟨q10, hq10, h⟩ := obind h
      refine k_V1 ok kl_X2_99 ⟨Nat.le_of_ble_eq_true rfl, Nat.le_of_ble_eq_true rfl⟩ [.ref (X.B + l1)] kq10 rfl rfl (Nat.le_of_ble_eq_true rfl) (tX2_readOrigin ok.fl X.V l0 l1 q9.2 hq10) dX2_readCommand_52 ?_
      rcases ite_some h with ⟨c11, h⟩ | ⟨c11, h⟩
      · refine j_if_eq (tgt := 69) ok dX2_readCommand_55 (by decide) (fun _ => ?_) (fun z => absurd c11 z)
        exact J.sub [] rfl (jX2_readCommand_69 ok q10.2 h hK)
      · refine j_if_eq (tgt := 69) ok dX2_readCommand_55 (by decide) (fun z => absurd z c11) (fun _ => ?_)
        refine j_aload_n ok dX2_readCommand_58 rfl 0 rfl ?_
        obtain ⟨kq12, h⟩ := ck_some h
        obtain ⟨q12, hq12, h⟩ := obind h
        refine k_V1 ok kl_X2_103 ⟨Nat.le_of_ble_eq_true rfl, Nat.le_of_ble_eq_true rfl⟩ [] kq12 rfl rfl (Nat.le_of_ble_eq_true rfl) (tX2_isSemicolon ok.fl X.V l0 q10.2 hq12) dX2_readCommand_59 ?_
        rcases ite_some h with ⟨c13, h⟩ | ⟨c13, h⟩
        · refine j_if_eq (tgt := 69) ok dX2_readCommand_62 (by decide) (fun _ => ?_) (fun z => absurd c13 z)
          exact J.sub [] rfl (jX2_readCommand_69 ok q12.2 h hK)
        · refine j_if_eq (tgt := 69) ok dX2_readCommand_62 (by decide) (fun z => absurd z c13) (fun _ => ?_)
          refine j_iconst (v := 1) ok dX2_readCommand_65 (by decide) ?_
          refine j_goto (tgt := 70) ok dX2_readCommand_66 (by decide) ?_
          exact J.sub [] rfl (jX2_readCommand_70 ok (1 : Int32) q12.2 h hK)
  · refine j_if_eq (tgt := 26) ok dX2_readCommand_9 (by decide) (fun z => absurd z c3) (fun _ => ?_)
    refine j_aload_n ok dX2_readCommand_12 rfl 0 rfl ?_
    refine j_iconst (v := 0) ok dX2_readCommand_13 (by decide) ?_
    obtain ⟨G4, hG4, h⟩ := obind h
    refine k_putI ok fl_X2_31 fp_X2 rfl (Or.inl rfl) hG4 dX2_readCommand_14 ?_
    refine j_aload_n ok dX2_readCommand_17 rfl 0 rfl ?_
    refine j_aload_n ok dX2_readCommand_18 rfl 1 rfl ?_
    obtain ⟨v5, hv5, h⟩ := obind h
    refine k_getR ok fl_X2_87 hv5 dX2_readCommand_19 ?_
    obtain ⟨kq6, h⟩ := ck_some h
    obtain ⟨q6, hq6, h⟩ := obind h
    refine k_V1 ok kl_X2_93 ⟨Nat.le_of_ble_eq_true rfl, Nat.le_of_ble_eq_true rfl⟩ [.ref (X.B + v5)] kq6 rfl rfl (Nat.le_of_ble_eq_true rfl) (tX2_readNote ok.fl X.V l0 v5 G4 hq6) dX2_readCommand_22 ?_
    obtain ⟨hz7, h⟩ := rz_some h
    obtain ⟨er, eG⟩ := inj2 h
    subst er; subst eG
    exact j_zret ok rfl hz7 dX2_readCommand_25 hK

def fX2_readCommand (l0 : Nat) (l1 : Nat) (G : Mem) : Option (Int32 × Mem) := fX2_readCommand_0 l0 l1 G
set_option maxRecDepth 100000 in
theorem tX2_readCommand {l : Launch} (hfl : l.stackTraces = false) (V : Wd) (l0 : Nat) (l1 : Nat) (G : Mem) {r : Int32} {G' : Mem} (h : fX2_readCommand l0 l1 G = some (r, G')) : Mx l yX2_readCommand cX2_readCommand 2 (some .boolean) 7 187 V [.ref (V.B + l0), .ref (V.B + l1)] G (.inl (some (.int r))) G' :=
  mx_of (L := [(0, .ref (V.B + l0)), (1, .ref (V.B + l1))]) hfl (by decide +kernel) (Nat.le_of_ble_eq_true rfl) rfl (fun X hl hV hin ok he => by
    subst hl; subst hV
    exact J.sub [0, 1] rfl (jX2_readCommand_0 ok l0 l1 G h he))
def fX6_contentOf_0 (l0 : Int32) (l1 : Int32)  (G : Mem) : Option (Int32 × Mem) :=
  some (((((8 : Int32) * l0) + l1) + (1 : Int32)), G)

set_option maxRecDepth 100000 in
set_option maxHeartbeats 4000000 in
theorem jX6_contentOf_0 {X : Cx} (ok : OK X cX6_contentOf RX6 (some .int) 2 0 0) (l0 : Int32) (l1 : Int32)  (G : Mem) {r : Int32} {G' : Mem} (h : fX6_contentOf_0 l0 l1 G = some (r, G')) (hK : (finI X) r G') : J X 2 0 [(0, .int l0), (1, .int l1)] [] G := by
  unfold fX6_contentOf_0 at h
  refine j_bipush (v := 8) ok dX6_contentOf_0 (by decide) ?_
  refine j_iload_n ok dX6_contentOf_2 rfl 0 rfl ?_
  refine j_imul ok dX6_contentOf_3 ?_
  refine j_iload_n ok dX6_contentOf_4 rfl 1 rfl ?_
  refine j_iadd ok dX6_contentOf_5 ?_
  refine j_iconst (v := 1) ok dX6_contentOf_6 (by decide) ?_
  refine j_iadd ok dX6_contentOf_7 ?_
  obtain ⟨er, eG⟩ := inj2 h
  subst er; subst eG
  exact j_iret ok rfl dX6_contentOf_8 hK

def fX6_contentOf (l0 : Int32) (l1 : Int32) (G : Mem) : Option (Int32 × Mem) := fX6_contentOf_0 l0 l1 G
set_option maxRecDepth 100000 in
theorem tX6_contentOf {l : Launch} (hfl : l.stackTraces = false) (V : Wd) (l0 : Int32) (l1 : Int32) (G : Mem) {r : Int32} {G' : Mem} (h : fX6_contentOf l0 l1 G = some (r, G')) : Mx l yX6_contentOf cX6_contentOf 2 (some .int) 0 0 V [.int l0, .int l1] G (.inl (some (.int r))) G' :=
  mx_of (L := [(0, .int l0), (1, .int l1)]) hfl (by decide +kernel) (Nat.le_of_ble_eq_true rfl) rfl (fun X hl hV hin ok he => by
    subst hl; subst hV
    exact J.sub [0, 1] rfl (jX6_contentOf_0 ok l0 l1 G h he))
def fX2_readPiece_74 (l0 : Nat) (l1 : Nat) (l2 : Int32) (l3 : Int32)  (G : Mem) : Option (Int32 × Mem) :=
  (gR G 12 l0 0).bind fun v1 =>
  ck G 15 v1 <| (fX5_readNext v1 G).bind fun q2 =>
  (gF q2.2 10 l1 0).bind fun v3 =>
  ck q2.2 12 l0 <| (fX2_readNumber l0 (0 : Int32) (v3 - (1 : Int32)) q2.2).bind fun q4 =>
  if q4.1 = (-1 : Int32) then
    some ((0 : Int32), q4.2)
  else
    (gR q4.2 12 l0 0).bind fun v6 =>
    (gF q4.2 15 v6 2).bind fun v7 =>
    (gF q4.2 10 l1 1).bind fun v8 =>
    ck q4.2 12 l0 <| (fX2_readNumber l0 (0 : Int32) (v8 - (1 : Int32)) q4.2).bind fun q9 =>
    if q9.1 = (-1 : Int32) then
      some ((0 : Int32), q9.2)
    else
      ck q9.2 10 l1 <| (fX0_at l1 q4.1 q9.1 q9.2).bind fun q11 =>
      if q11.1 = (0 : Int32) then
        (fX6_contentOf l2 l3 q11.2).bind fun q13 =>
        ck q13.2 10 l1 <| (fX0_put l1 q4.1 q9.1 q13.1 q13.2).bind fun q14 =>
        ck q14.2 12 l0 <| (fX2_isSemicolon l0 q14.2).bind fun q15 =>
        if q15.1 = (0 : Int32) then
          some ((0 : Int32), q15.2)
        else
          (gR q15.2 12 l0 0).bind fun v17 =>
          ck q15.2 15 v17 <| (fX5_readNext v17 q15.2).bind fun q18 =>
          some ((1 : Int32), q18.2)
      else
        ck q11.2 12 l0 <| (fX2_rejectAt l0 v7 (3 : Int32) q11.2).bind fun q13 =>
        rz q13.1 <|
        some (q13.1, q13.2)

set_option maxRecDepth 100000 in
set_option maxHeartbeats 4000000 in
theorem jX2_readPiece_74 {X : Cx} (ok : OK X cX2_readPiece RX2 (some .boolean) 7 6 165) (l0 : Nat) (l1 : Nat) (l2 : Int32) (l3 : Int32)  (G : Mem) {r : Int32} {G' : Mem} (h : fX2_readPiece_74 l0 l1 l2 l3 G = some (r, G')) (hK : (finI X) r G') : J X 7 74 [(0, .ref (X.B + l0)), (1, .ref (X.B + l1)), (2, .int l2), (3, .int l3)] [] G := by
  unfold fX2_readPiece_74 at h
  refine j_aload_n ok dX2_readPiece_74 rfl 0 rfl ?_
  obtain ⟨v1, hv1, h⟩ := obind h
  refine k_getR ok fl_X2_12 hv1 dX2_readPiece_75 ?_
  obtain ⟨kq2, h⟩ := ck_some h
  obtain ⟨q2, hq2, h⟩ := obind h
  refine k_V0 ok kl_X2_96 ⟨Nat.le_of_ble_eq_true rfl, Nat.le_of_ble_eq_true rfl⟩ [] kq2 rfl rfl (Nat.le_of_ble_eq_true rfl) (tX5_readNext ok.fl X.V v1 G hq2) dX2_readPiece_78 ?_
  refine j_aload_n ok dX2_readPiece_81 rfl 0 rfl ?_
  refine j_iconst (v := 0) ok dX2_readPiece_82 (by decide) ?_
  refine j_aload_n ok dX2_readPiece_83 rfl 1 rfl ?_
  obtain ⟨v3, hv3, h⟩ := obind h
  refine k_getI ok fl_X2_125 hv3 dX2_readPiece_84 ?_
  refine j_iconst (v := 1) ok dX2_readPiece_87 (by decide) ?_
  refine j_isub ok dX2_readPiece_88 ?_
  obtain ⟨kq4, h⟩ := ck_some h
  obtain ⟨q4, hq4, h⟩ := obind h
  refine k_V1 ok kl_X2_107 ⟨Nat.le_of_ble_eq_true rfl, Nat.le_of_ble_eq_true rfl⟩ [.int (0 : Int32), .int (v3 - (1 : Int32))] kq4 rfl rfl (Nat.le_of_ble_eq_true rfl) (tX2_readNumber ok.fl X.V l0 (0 : Int32) (v3 - (1 : Int32)) q2.2 hq4) dX2_readPiece_89 ?_
  refine j_istore (L' := [(4, .int q4.1), (0, .ref (X.B + l0)), (1, .ref (X.B + l1)), (2, .int l2), (3, .int l3)]) ok dX2_readPiece_92 (by decide) rfl ?_
  refine j_iload ok dX2_readPiece_94 0 rfl ?_
  refine j_iconst (v := -1) ok dX2_readPiece_96 (by decide) ?_
  rcases ite_some h with ⟨c5, h⟩ | ⟨c5, h⟩
  · refine j_icmp_ne (tgt := 102) ok dX2_readPiece_97 (by decide) (fun z => absurd c5 z) (fun _ => ?_)
    refine j_iconst (v := 0) ok dX2_readPiece_100 (by decide) ?_
    obtain ⟨er, eG⟩ := inj2 h
    subst er; subst eG
    exact j_zret ok rfl (Or.inl rfl) dX2_readPiece_101 hK
  · refine j_icmp_ne (tgt := 102) ok dX2_readPiece_97 (by decide) (fun _ => ?_) (fun z => absurd z c5)
    refine j_aload_n ok dX2_readPiece_102 rfl 1 rfl ?_
    obtain ⟨v6, hv6, h⟩ := obind h
    refine k_getR ok fl_X2_12 hv6 dX2_readPiece_103 ?_
    obtain ⟨v7, hv7, h⟩ := obind h
    refine k_getI ok fl_X2_128 hv7 dX2_readPiece_106 ?_
    refine j_istore (L' := [(5, .int v7), (4, .int q4.1), (0, .ref (X.B + l0)), (1, .ref (X.B + l1)), (2, .int l2), (3, .int l3)]) ok dX2_readPiece_109 (by decide) rfl ?_
    refine j_aload_n ok dX2_readPiece_111 rfl 2 rfl ?_
    refine j_iconst (v := 0) ok dX2_readPiece_112 (by decide) ?_
    refine j_aload_n ok dX2_readPiece_113 rfl 3 rfl ?_
    obtain ⟨v8, hv8, h⟩ := obind h
    refine k_getI ok fl_X2_131 hv8 dX2_readPiece_114 ?_
    refine j_iconst (v := 1) ok dX2_readPiece_117 (by decide) ?_
    refine j_isub ok dX2_readPiece_118 ?_
    obtain ⟨kq9, h⟩ := ck_some h
    obtain ⟨q9, hq9, h⟩ := obind h
    refine k_V1 ok kl_X2_107 ⟨Nat.le_of_ble_eq_true rfl, Nat.le_of_ble_eq_true rfl⟩ [.int (0 : Int32), .int (v8 - (1 : Int32))] kq9 rfl rfl (Nat.le_of_ble_eq_true rfl) (tX2_readNumber ok.fl X.V l0 (0 : Int32) (v8 - (1 : Int32)) q4.2 hq9) dX2_readPiece_119 ?_
    refine j_istore (L' := [(6, .int q9.1), (5, .int v7), (4, .int q4.1), (0, .ref (X.B + l0)), (1, .ref (X.B + l1)), (2, .int l2), (3, .int l3)]) ok dX2_readPiece_122 (by decide) rfl ?_
    refine j_iload ok dX2_readPiece_124 0 rfl ?_
    refine j_iconst (v := -1) ok dX2_readPiece_126 (by decide) ?_
    rcases ite_some h with ⟨c10, h⟩ | ⟨c10, h⟩
    · refine j_icmp_ne (tgt := 132) ok dX2_readPiece_127 (by decide) (fun z => absurd c10 z) (fun _ => ?_)
      refine j_iconst (v := 0) ok dX2_readPiece_130 (by decide) ?_
      obtain ⟨er, eG⟩ := inj2 h
      subst er; subst eG
      exact j_zret ok rfl (Or.inl rfl) dX2_readPiece_131 hK
    · refine j_icmp_ne (tgt := 132) ok dX2_readPiece_127 (by decide) (fun _ => ?_) (fun z => absurd z c10)
      refine j_aload_n ok dX2_readPiece_132 rfl 4 rfl ?_
      refine j_iload ok dX2_readPiece_133 2 rfl ?_
      refine j_iload ok dX2_readPiece_135 0 rfl ?_
      obtain ⟨kq11, h⟩ := ck_some h
      obtain ⟨q11, hq11, h⟩ := obind h
      refine k_V1 ok kl_X2_134 ⟨Nat.le_of_ble_eq_true rfl, Nat.le_of_ble_eq_true rfl⟩ [.int q4.1, .int q9.1] kq11 rfl rfl (Nat.le_of_ble_eq_true rfl) (tX0_at ok.fl X.V l1 q4.1 q9.1 q9.2 hq11) dX2_readPiece_137 ?_
      rcases ite_some h with ⟨c12, h⟩ | ⟨c12, h⟩
      · refine j_if_eq (tgt := 151) ok dX2_readPiece_140 (by decide) (fun _ => ?_) (fun z => absurd c12 z)
        refine j_aload_n ok dX2_readPiece_151 rfl 4 rfl ?_
        refine j_iload ok dX2_readPiece_152 2 rfl ?_
        refine j_iload ok dX2_readPiece_154 0 rfl ?_
        refine j_iload_n ok dX2_readPiece_156 rfl 5 rfl ?_
        refine j_iload_n ok dX2_readPiece_157 rfl 6 rfl ?_
        obtain ⟨q13, hq13, h⟩ := obind h
        refine k_N1 ok kl_X2_141 ⟨Nat.le_of_ble_eq_true rfl, Nat.le_of_ble_eq_true rfl⟩ [.int l2, .int l3] rfl rfl (Nat.le_of_ble_eq_true rfl) (tX6_contentOf ok.fl X.V l2 l3 q11.2 hq13) dX2_readPiece_158 ?_
        obtain ⟨kq14, h⟩ := ck_some h
        obtain ⟨q14, hq14, h⟩ := obind h
        refine k_V0 ok kl_X2_144 ⟨Nat.le_of_ble_eq_true rfl, Nat.le_of_ble_eq_true rfl⟩ [.int q4.1, .int q9.1, .int q13.1] kq14 rfl rfl (Nat.le_of_ble_eq_true rfl) (tX0_put ok.fl X.V l1 q4.1 q9.1 q13.1 q13.2 hq14) dX2_readPiece_161 ?_
        refine j_aload_n ok dX2_readPiece_164 rfl 3 rfl ?_
        obtain ⟨kq15, h⟩ := ck_some h
        obtain ⟨q15, hq15, h⟩ := obind h
        refine k_V1 ok kl_X2_103 ⟨Nat.le_of_ble_eq_true rfl, Nat.le_of_ble_eq_true rfl⟩ [] kq15 rfl rfl (Nat.le_of_ble_eq_true rfl) (tX2_isSemicolon ok.fl X.V l0 q14.2 hq15) dX2_readPiece_165 ?_
        rcases ite_some h with ⟨c16, h⟩ | ⟨c16, h⟩
        · refine j_if_ne (tgt := 173) ok dX2_readPiece_168 (by decide) (fun z => absurd c16 z) (fun _ => ?_)
          refine j_iconst (v := 0) ok dX2_readPiece_171 (by decide) ?_
          obtain ⟨er, eG⟩ := inj2 h
          subst er; subst eG
          exact j_zret ok rfl (Or.inl rfl) dX2_readPiece_172 hK
        · refine j_if_ne (tgt := 173) ok dX2_readPiece_168 (by decide) (fun _ => ?_) (fun z => absurd z c16)
          refine j_aload_n ok dX2_readPiece_173 rfl 3 rfl ?_
          obtain ⟨v17, hv17, h⟩ := obind h
          refine k_getR ok fl_X2_12 hv17 dX2_readPiece_174 ?_
          obtain ⟨kq18, h⟩ := ck_some h
          obtain ⟨q18, hq18, h⟩ := obind h
          refine k_V0 ok kl_X2_96 ⟨Nat.le_of_ble_eq_true rfl, Nat.le_of_ble_eq_true rfl⟩ [] kq18 rfl rfl (Nat.le_of_ble_eq_true rfl) (tX5_readNext ok.fl X.V v17 q15.2 hq18) dX2_readPiece_177 ?_
          refine j_iconst (v := 1) ok dX2_readPiece_180 (by decide) ?_
          obtain ⟨er, eG⟩ := inj2 h
          subst er; subst eG
          exact j_zret ok rfl (Or.inr rfl) dX2_readPiece_181 hK
      · refine j_if_eq (tgt := 151) ok dX2_readPiece_140 (by decide) (fun z => absurd z c12) (fun _ => ?_)
        refine j_aload_n ok dX2_readPiece_143 rfl 3 rfl ?_
        refine j_iload ok dX2_readPiece_144 1 rfl ?_
        refine j_iconst (v := 3) ok dX2_readPiece_146 (by decide) ?_
        obtain ⟨kq13, h⟩ := ck_some h
        obtain ⟨q13, hq13, h⟩ := obind h
        refine k_V1 ok kl_X2_137 ⟨Nat.le_of_ble_eq_true rfl, Nat.le_of_ble_eq_true rfl⟩ [.int v7, .int (3 : Int32)] kq13 rfl rfl (Nat.le_of_ble_eq_true rfl) (tX2_rejectAt ok.fl X.V l0 v7 (3 : Int32) q11.2 hq13) dX2_readPiece_147 ?_
        obtain ⟨hz14, h⟩ := rz_some h
        obtain ⟨er, eG⟩ := inj2 h
        subst er; subst eG
        exact j_zret ok rfl hz14 dX2_readPiece_150 hK

def fX2_readPiece_17 (l0 : Nat) (l1 : Nat) (s0 : Int32) (G : Mem) : Option (Int32 × Mem) :=
  (gR G 12 l0 0).bind fun v1 =>
  ck G 15 v1 <| (fX5_readNext v1 G).bind fun q2 =>
  ck q2.2 12 l0 <| (fX2_kindHere l0 q2.2).bind fun q3 =>
  if q3.1 = (-1 : Int32) then
    ck q3.2 12 l0 <| (fX2_reject l0 (1 : Int32) q3.2).bind fun q5 =>
    rz q5.1 <|
    some (q5.1, q5.2)
  else
    if q3.1 = (0 : Int32) then
      (gF q3.2 12 l0 10).bind fun v6 =>
      if (v6 &&& ((1 : Int32) <<< (s0 &&& 31))) = (0 : Int32) then
        (gF q3.2 12 l0 10).bind fun v8 =>
        (pI q3.2 12 l0 10 (v8 ||| ((1 : Int32) <<< (s0 &&& 31)))).bind fun G9 =>
        fX2_readPiece_74 l0 l1 s0 q3.1 G9
      else
        ck q3.2 12 l0 <| (fX2_reject l0 (4 : Int32) q3.2).bind fun q8 =>
        rz q8.1 <|
        some (q8.1, q8.2)
    else
      fX2_readPiece_74 l0 l1 s0 q3.1 q3.2

set_option maxRecDepth 100000 in
set_option maxHeartbeats 4000000 in
theorem jX2_readPiece_17 {X : Cx} (ok : OK X cX2_readPiece RX2 (some .boolean) 7 6 165) (l0 : Nat) (l1 : Nat) (s0 : Int32) (G : Mem) {r : Int32} {G' : Mem} (h : fX2_readPiece_17 l0 l1 s0 G = some (r, G')) (hK : (finI X) r G') : J X 7 17 [(0, .ref (X.B + l0)), (1, .ref (X.B + l1))] [.int s0] G := by
  unfold fX2_readPiece_17 at h
  refine j_istore_n (L' := [(2, .int s0), (0, .ref (X.B + l0)), (1, .ref (X.B + l1))]) ok dX2_readPiece_17 rfl (by decide) rfl ?_
  refine j_aload_n ok dX2_readPiece_18 rfl 1 rfl ?_
  obtain ⟨v1, hv1, h⟩ := obind h
  refine k_getR ok fl_X2_12 hv1 dX2_readPiece_19 ?_
  obtain ⟨kq2, h⟩ := ck_some h
  obtain ⟨q2, hq2, h⟩ := obind h
  refine k_V0 ok kl_X2_96 ⟨Nat.le_of_ble_eq_true rfl, Nat.le_of_ble_eq_true rfl⟩ [] kq2 rfl rfl (Nat.le_of_ble_eq_true rfl) (tX5_readNext ok.fl X.V v1 G hq2) dX2_readPiece_22 ?_
  refine j_aload_n ok dX2_readPiece_25 rfl 1 rfl ?_
  obtain ⟨kq3, h⟩ := ck_some h
  obtain ⟨q3, hq3, h⟩ := obind h
  refine k_V1 ok kl_X2_121 ⟨Nat.le_of_ble_eq_true rfl, Nat.le_of_ble_eq_true rfl⟩ [] kq3 rfl rfl (Nat.le_of_ble_eq_true rfl) (tX2_kindHere ok.fl X.V l0 q2.2 hq3) dX2_readPiece_26 ?_
  refine j_istore_n (L' := [(3, .int q3.1), (2, .int s0), (0, .ref (X.B + l0)), (1, .ref (X.B + l1))]) ok dX2_readPiece_29 rfl (by decide) rfl ?_
  refine j_iload_n ok dX2_readPiece_30 rfl 0 rfl ?_
  refine j_iconst (v := -1) ok dX2_readPiece_31 (by decide) ?_
  rcases ite_some h with ⟨c4, h⟩ | ⟨c4, h⟩
  · refine j_icmp_ne (tgt := 41) ok dX2_readPiece_32 (by decide) (fun z => absurd c4 z) (fun _ => ?_)
    refine j_aload_n ok dX2_readPiece_35 rfl 2 rfl ?_
    refine j_iconst (v := 1) ok dX2_readPiece_36 (by decide) ?_
    obtain ⟨kq5, h⟩ := ck_some h
    obtain ⟨q5, hq5, h⟩ := obind h
    refine k_V1 ok kl_X2_67 ⟨Nat.le_of_ble_eq_true rfl, Nat.le_of_ble_eq_true rfl⟩ [.int (1 : Int32)] kq5 rfl rfl (Nat.le_of_ble_eq_true rfl) (tX2_reject ok.fl X.V l0 (1 : Int32) q3.2 hq5) dX2_readPiece_37 ?_
    obtain ⟨hz6, h⟩ := rz_some h
    obtain ⟨er, eG⟩ := inj2 h
    subst er; subst eG
    exact j_zret ok rfl hz6 dX2_readPiece_40 hK
  · refine j_icmp_ne (tgt := 41) ok dX2_readPiece_32 (by decide) (fun _ => ?_) (fun z => absurd z c4)
    refine j_iload_n ok dX2_readPiece_41 rfl 0 rfl ?_
    rcases ite_some h with ⟨c5, h⟩ | ⟨c5, h⟩
    · refine j_if_ne (tgt := 74) ok dX2_readPiece_42 (by decide) (fun z => absurd c5 z) (fun _ => ?_)
      refine j_aload_n ok dX2_readPiece_45 rfl 2 rfl ?_
      obtain ⟨v6, hv6, h⟩ := obind h
      refine k_getI ok fl_X2_50 hv6 dX2_readPiece_46 ?_
      refine j_iconst (v := 1) ok dX2_readPiece_49 (by decide) ?_
      refine j_iload_n ok dX2_readPiece_50 rfl 1 rfl ?_
      refine j_ishl ok dX2_readPiece_51 ?_
      refine j_iand ok dX2_readPiece_52 ?_
      rcases ite_some h with ⟨c7, h⟩ | ⟨c7, h⟩
      · refine j_if_eq (tgt := 62) ok dX2_readPiece_53 (by decide) (fun _ => ?_) (fun z => absurd c7 z)
        refine j_aload_n ok dX2_readPiece_62 rfl 2 rfl ?_
        refine j_dup ok dX2_readPiece_63 rfl ?_
        obtain ⟨v8, hv8, h⟩ := obind h
        refine k_getI ok fl_X2_50 hv8 dX2_readPiece_64 ?_
        refine j_iconst (v := 1) ok dX2_readPiece_67 (by decide) ?_
        refine j_iload_n ok dX2_readPiece_68 rfl 1 rfl ?_
        refine j_ishl ok dX2_readPiece_69 ?_
        refine j_ior ok dX2_readPiece_70 ?_
        obtain ⟨G9, hG9, h⟩ := obind h
        refine k_putI ok fl_X2_50 fp_X2 rfl (Or.inl rfl) hG9 dX2_readPiece_71 ?_
        exact J.sub [2, 3, 1, 0] rfl (jX2_readPiece_74 ok l0 l1 s0 q3.1 G9 h hK)
      · refine j_if_eq (tgt := 62) ok dX2_readPiece_53 (by decide) (fun z => absurd z c7) (fun _ => ?_)
        refine j_aload_n ok dX2_readPiece_56 rfl 2 rfl ?_
        refine j_iconst (v := 4) ok dX2_readPiece_57 (by decide) ?_
        obtain ⟨kq8, h⟩ := ck_some h
        obtain ⟨q8, hq8, h⟩ := obind h
        refine k_V1 ok kl_X2_67 ⟨Nat.le_of_ble_eq_true rfl, Nat.le_of_ble_eq_true rfl⟩ [.int (4 : Int32)] kq8 rfl rfl (Nat.le_of_ble_eq_true rfl) (tX2_reject ok.fl X.V l0 (4 : Int32) q3.2 hq8) dX2_readPiece_58 ?_
        obtain ⟨hz9, h⟩ := rz_some h
        obtain ⟨er, eG⟩ := inj2 h
        subst er; subst eG
        exact j_zret ok rfl hz9 dX2_readPiece_61 hK
    · refine j_if_ne (tgt := 74) ok dX2_readPiece_42 (by decide) (fun _ => ?_) (fun z => absurd z c5)
      exact J.sub [2, 3, 1, 0] rfl (jX2_readPiece_74 ok l0 l1 s0 q3.1 q3.2 h hK)

def fX2_readPiece_0 (l0 : Nat) (l1 : Nat)  (G : Mem) : Option (Int32 × Mem) :=
  (gR G 12 l0 0).bind fun v1 =>
  ck G 15 v1 <| (fX5_is v1 1 G).bind fun q2 =>
  if q2.1 = (0 : Int32) then
    fX2_readPiece_17 l0 l1 (1 : Int32) q2.2
  else
    fX2_readPiece_17 l0 l1 (0 : Int32) q2.2

set_option maxRecDepth 100000 in
set_option maxHeartbeats 4000000 in
theorem jX2_readPiece_0 {X : Cx} (ok : OK X cX2_readPiece RX2 (some .boolean) 7 6 165) (l0 : Nat) (l1 : Nat)  (G : Mem) {r : Int32} {G' : Mem} (h : fX2_readPiece_0 l0 l1 G = some (r, G')) (hK : (finI X) r G') : J X 7 0 [(0, .ref (X.B + l0)), (1, .ref (X.B + l1))] [] G := by
  unfold fX2_readPiece_0 at h
  refine j_aload_n ok dX2_readPiece_0 rfl 0 rfl ?_
  obtain ⟨v1, hv1, h⟩ := obind h
  refine k_getR ok fl_X2_12 hv1 dX2_readPiece_1 ?_
  refine k_str ok st_X2_117 dX2_readPiece_4 ?_
  obtain ⟨kq2, h⟩ := ck_some h
  obtain ⟨q2, hq2, h⟩ := obind h
  refine k_V1 ok kl_X2_79 ⟨Nat.le_of_ble_eq_true rfl, Nat.le_of_ble_eq_true rfl⟩ [.ref (X.V.sa 1)] kq2 rfl rfl (Nat.le_of_ble_eq_true rfl) (tX5_is ok.fl X.V v1 1 G hq2) dX2_readPiece_6 ?_
  rcases ite_some h with ⟨c3, h⟩ | ⟨c3, h⟩
  · refine j_if_eq (tgt := 16) ok dX2_readPiece_9 (by decide) (fun _ => ?_) (fun z => absurd c3 z)
    refine j_iconst (v := 1) ok dX2_readPiece_16 (by decide) ?_
    exact J.sub [0, 1] rfl (jX2_readPiece_17 ok l0 l1 (1 : Int32) q2.2 h hK)
  · refine j_if_eq (tgt := 16) ok dX2_readPiece_9 (by decide) (fun z => absurd z c3) (fun _ => ?_)
    refine j_iconst (v := 0) ok dX2_readPiece_12 (by decide) ?_
    refine j_goto (tgt := 17) ok dX2_readPiece_13 (by decide) ?_
    exact J.sub [0, 1] rfl (jX2_readPiece_17 ok l0 l1 (0 : Int32) q2.2 h hK)

def fX2_readPiece (l0 : Nat) (l1 : Nat) (G : Mem) : Option (Int32 × Mem) := fX2_readPiece_0 l0 l1 G
set_option maxRecDepth 100000 in
theorem tX2_readPiece {l : Launch} (hfl : l.stackTraces = false) (V : Wd) (l0 : Nat) (l1 : Nat) (G : Mem) {r : Int32} {G' : Mem} (h : fX2_readPiece l0 l1 G = some (r, G')) : Mx l yX2_readPiece cX2_readPiece 7 (some .boolean) 6 165 V [.ref (V.B + l0), .ref (V.B + l1)] G (.inl (some (.int r))) G' :=
  mx_of (L := [(0, .ref (V.B + l0)), (1, .ref (V.B + l1))]) hfl (by decide +kernel) (Nat.le_of_ble_eq_true rfl) rfl (fun X hl hV hin ok he => by
    subst hl; subst hV
    exact J.sub [0, 1] rfl (jX2_readPiece_0 ok l0 l1 G h he))
def fX2_readSetup_172  (s0 : Int32) (G : Mem) : Option (Int32 × Mem) :=
  rz s0 <|
  some (s0, G)

set_option maxRecDepth 100000 in
set_option maxHeartbeats 4000000 in
theorem jX2_readSetup_172 {X : Cx} (ok : OK X cX2_readSetup RX2 (some .boolean) 3 7 191)  (s0 : Int32) (G : Mem) {r : Int32} {G' : Mem} (h : fX2_readSetup_172 s0 G = some (r, G')) (hK : (finI X) r G') : J X 3 172 [] [.int s0] G := by
  unfold fX2_readSetup_172 at h
  obtain ⟨hz1, h⟩ := rz_some h
  obtain ⟨er, eG⟩ := inj2 h
  subst er; subst eG
  exact j_zret ok rfl hz1 dX2_readSetup_172 hK

def fX2_readSetup_167   (G : Mem) : Option (Int32 × Mem) :=
  fX2_readSetup_172 (1 : Int32) G

set_option maxRecDepth 100000 in
set_option maxHeartbeats 4000000 in
theorem jX2_readSetup_167 {X : Cx} (ok : OK X cX2_readSetup RX2 (some .boolean) 3 7 191)   (G : Mem) {r : Int32} {G' : Mem} (h : fX2_readSetup_167  G = some (r, G')) (hK : (finI X) r G') : J X 3 167 [] [] G := by
  unfold fX2_readSetup_167 at h
  refine j_iconst (v := 1) ok dX2_readSetup_167 (by decide) ?_
  refine j_goto (tgt := 172) ok dX2_readSetup_168 (by decide) ?_
  exact J.sub [] rfl (jX2_readSetup_172 ok (1 : Int32) G h hK)

def fX2_readSetup_155 (l0 : Nat) (l2 : Int32)  (G : Mem) : Option (Int32 × Mem) :=
  if l2 = (0 : Int32) then
    ck G 12 l0 <| (fX2_reject l0 (1 : Int32) G).bind fun q2 =>
    if q2.1 = (0 : Int32) then
      fX2_readSetup_172 (0 : Int32) q2.2
    else
      fX2_readSetup_167 q2.2
  else
    fX2_readSetup_167 G

set_option maxRecDepth 100000 in
set_option maxHeartbeats 4000000 in
theorem jX2_readSetup_155 {X : Cx} (ok : OK X cX2_readSetup RX2 (some .boolean) 3 7 191) (l0 : Nat) (l2 : Int32)  (G : Mem) {r : Int32} {G' : Mem} (h : fX2_readSetup_155 l0 l2 G = some (r, G')) (hK : (finI X) r G') : J X 3 155 [(0, .ref (X.B + l0)), (2, .int l2)] [] G := by
  unfold fX2_readSetup_155 at h
  refine j_iload_n ok dX2_readSetup_155 rfl 1 rfl ?_
  rcases ite_some h with ⟨c1, h⟩ | ⟨c1, h⟩
  · refine j_if_ne (tgt := 167) ok dX2_readSetup_156 (by decide) (fun z => absurd c1 z) (fun _ => ?_)
    refine j_aload_n ok dX2_readSetup_159 rfl 0 rfl ?_
    refine j_iconst (v := 1) ok dX2_readSetup_160 (by decide) ?_
    obtain ⟨kq2, h⟩ := ck_some h
    obtain ⟨q2, hq2, h⟩ := obind h
    refine k_V1 ok kl_X2_67 ⟨Nat.le_of_ble_eq_true rfl, Nat.le_of_ble_eq_true rfl⟩ [.int (1 : Int32)] kq2 rfl rfl (Nat.le_of_ble_eq_true rfl) (tX2_reject ok.fl X.V l0 (1 : Int32) G hq2) dX2_readSetup_161 ?_
    rcases ite_some h with ⟨c3, h⟩ | ⟨c3, h⟩
    · refine j_if_eq (tgt := 171) ok dX2_readSetup_164 (by decide) (fun _ => ?_) (fun z => absurd c3 z)
      refine j_iconst (v := 0) ok dX2_readSetup_171 (by decide) ?_
      exact J.sub [] rfl (jX2_readSetup_172 ok (0 : Int32) q2.2 h hK)
    · refine j_if_eq (tgt := 171) ok dX2_readSetup_164 (by decide) (fun z => absurd z c3) (fun _ => ?_)
      exact J.sub [] rfl (jX2_readSetup_167 ok q2.2 h hK)
  · refine j_if_ne (tgt := 167) ok dX2_readSetup_156 (by decide) (fun _ => ?_) (fun z => absurd z c1)
    exact J.sub [] rfl (jX2_readSetup_167 ok G h hK)

def fX2_readSetup_136 (l0 : Nat) (s0 : Int32) (G : Mem) : Option (Int32 × Mem) :=
  if s0 = (0 : Int32) then
    fX2_readSetup_155 l0 s0 G
  else
    (gF G 12 l0 10).bind fun v2 =>
    if v2 = (3 : Int32) then
      fX2_readSetup_155 l0 s0 G
    else
      ck G 12 l0 <| (fX2_reject l0 (5 : Int32) G).bind fun q4 =>
      rz q4.1 <|
      some (q4.1, q4.2)

set_option maxRecDepth 100000 in
set_option maxHeartbeats 4000000 in
theorem jX2_readSetup_136 {X : Cx} (ok : OK X cX2_readSetup RX2 (some .boolean) 3 7 191) (l0 : Nat) (s0 : Int32) (G : Mem) {r : Int32} {G' : Mem} (h : fX2_readSetup_136 l0 s0 G = some (r, G')) (hK : (finI X) r G') : J X 3 136 [(0, .ref (X.B + l0))] [.int s0] G := by
  unfold fX2_readSetup_136 at h
  refine j_istore_n (L' := [(2, .int s0), (0, .ref (X.B + l0))]) ok dX2_readSetup_136 rfl (by decide) rfl ?_
  refine j_iload_n ok dX2_readSetup_137 rfl 0 rfl ?_
  rcases ite_some h with ⟨c1, h⟩ | ⟨c1, h⟩
  · refine j_if_eq (tgt := 155) ok dX2_readSetup_138 (by decide) (fun _ => ?_) (fun z => absurd c1 z)
    exact J.sub [1, 0] rfl (jX2_readSetup_155 ok l0 s0 G h hK)
  · refine j_if_eq (tgt := 155) ok dX2_readSetup_138 (by decide) (fun z => absurd z c1) (fun _ => ?_)
    refine j_aload_n ok dX2_readSetup_141 rfl 1 rfl ?_
    obtain ⟨v2, hv2, h⟩ := obind h
    refine k_getI ok fl_X2_50 hv2 dX2_readSetup_142 ?_
    refine j_iconst (v := 3) ok dX2_readSetup_145 (by decide) ?_
    rcases ite_some h with ⟨c3, h⟩ | ⟨c3, h⟩
    · refine j_icmp_eq (tgt := 155) ok dX2_readSetup_146 (by decide) (fun _ => ?_) (fun z => absurd c3 z)
      exact J.sub [1, 0] rfl (jX2_readSetup_155 ok l0 s0 G h hK)
    · refine j_icmp_eq (tgt := 155) ok dX2_readSetup_146 (by decide) (fun z => absurd z c3) (fun _ => ?_)
      refine j_aload_n ok dX2_readSetup_149 rfl 1 rfl ?_
      refine j_iconst (v := 5) ok dX2_readSetup_150 (by decide) ?_
      obtain ⟨kq4, h⟩ := ck_some h
      obtain ⟨q4, hq4, h⟩ := obind h
      refine k_V1 ok kl_X2_67 ⟨Nat.le_of_ble_eq_true rfl, Nat.le_of_ble_eq_true rfl⟩ [.int (5 : Int32)] kq4 rfl rfl (Nat.le_of_ble_eq_true rfl) (tX2_reject ok.fl X.V l0 (5 : Int32) G hq4) dX2_readSetup_151 ?_
      obtain ⟨hz5, h⟩ := rz_some h
      obtain ⟨er, eG⟩ := inj2 h
      subst er; subst eG
      exact j_zret ok rfl hz5 dX2_readSetup_154 hK

def fX2_readSetup_131 (l0 : Nat)  (G : Mem) : Option (Int32 × Mem) :=
  fX2_readSetup_136 l0 (1 : Int32) G

set_option maxRecDepth 100000 in
set_option maxHeartbeats 4000000 in
theorem jX2_readSetup_131 {X : Cx} (ok : OK X cX2_readSetup RX2 (some .boolean) 3 7 191) (l0 : Nat)  (G : Mem) {r : Int32} {G' : Mem} (h : fX2_readSetup_131 l0 G = some (r, G')) (hK : (finI X) r G') : J X 3 131 [(0, .ref (X.B + l0))] [] G := by
  unfold fX2_readSetup_131 at h
  refine j_iconst (v := 1) ok dX2_readSetup_131 (by decide) ?_
  refine j_goto (tgt := 136) ok dX2_readSetup_132 (by decide) ?_
  exact J.sub [0] rfl (jX2_readSetup_136 ok l0 (1 : Int32) G h hK)

def fX2_readSetup_88 (l0 : Nat)  (G : Mem) : Option (Int32 × Mem) :=
  ck G 12 l0 <| (fX2_isAtEnd l0 G).bind fun q1 =>
  if q1.1 = (0 : Int32) then
    (gR q1.2 12 l0 0).bind fun v3 =>
    ck q1.2 15 v3 <| (fX5_is v3 8 q1.2).bind fun q4 =>
    if q4.1 = (0 : Int32) then
      (gR q4.2 12 l0 0).bind fun v6 =>
      ck q4.2 15 v6 <| (fX5_is v6 9 q4.2).bind fun q7 =>
      if q7.1 = (0 : Int32) then
        (gR q7.2 12 l0 0).bind fun v9 =>
        ck q7.2 15 v9 <| (fX5_is v9 10 q7.2).bind fun q10 =>
        if q10.1 = (0 : Int32) then
          fX2_readSetup_136 l0 (0 : Int32) q10.2
        else
          fX2_readSetup_131 l0 q10.2
      else
        fX2_readSetup_131 l0 q7.2
    else
      fX2_readSetup_131 l0 q4.2
  else
    fX2_readSetup_131 l0 q1.2

set_option maxRecDepth 100000 in
set_option maxHeartbeats 4000000 in
theorem jX2_readSetup_88 {X : Cx} (ok : OK X cX2_readSetup RX2 (some .boolean) 3 7 191) (l0 : Nat)  (G : Mem) {r : Int32} {G' : Mem} (h : fX2_readSetup_88 l0 G = some (r, G')) (hK : (finI X) r G') : J X 3 88 [(0, .ref (X.B + l0))] [] G := by
  unfold fX2_readSetup_88 at h
  refine j_aload_n ok dX2_readSetup_88 rfl 0 rfl ?_
  obtain ⟨kq1, h⟩ := ck_some h
  obtain ⟨q1, hq1, h⟩ := obind h
  refine k_V1 ok kl_X2_74 ⟨Nat.le_of_ble_eq_true rfl, Nat.le_of_ble_eq_true rfl⟩ [] kq1 rfl rfl (Nat.le_of_ble_eq_true rfl) (tX2_isAtEnd ok.fl X.V l0 G hq1) dX2_readSetup_89 ?_
  rcases ite_some h with ⟨c2, h⟩ | ⟨c2, h⟩
  · refine j_if_ne (tgt := 131) ok dX2_readSetup_92 (by decide) (fun z => absurd c2 z) (fun _ => ?_)
    refine j_aload_n ok dX2_readSetup_95 rfl 0 rfl ?_
    obtain ⟨v3, hv3, h⟩ := obind h
    refine k_getR ok fl_X2_12 hv3 dX2_readSetup_96 ?_
    refine k_str ok st_X2_77 dX2_readSetup_99 ?_
    obtain ⟨kq4, h⟩ := ck_some h
    obtain ⟨q4, hq4, h⟩ := obind h
    refine k_V1 ok kl_X2_79 ⟨Nat.le_of_ble_eq_true rfl, Nat.le_of_ble_eq_true rfl⟩ [.ref (X.V.sa 8)] kq4 rfl rfl (Nat.le_of_ble_eq_true rfl) (tX5_is ok.fl X.V v3 8 q1.2 hq4) dX2_readSetup_101 ?_
    rcases ite_some h with ⟨c5, h⟩ | ⟨c5, h⟩
    · refine j_if_ne (tgt := 131) ok dX2_readSetup_104 (by decide) (fun z => absurd c5 z) (fun _ => ?_)
      refine j_aload_n ok dX2_readSetup_107 rfl 0 rfl ?_
      obtain ⟨v6, hv6, h⟩ := obind h
      refine k_getR ok fl_X2_12 hv6 dX2_readSetup_108 ?_
      refine k_str ok st_X2_83 dX2_readSetup_111 ?_
      obtain ⟨kq7, h⟩ := ck_some h
      obtain ⟨q7, hq7, h⟩ := obind h
      refine k_V1 ok kl_X2_79 ⟨Nat.le_of_ble_eq_true rfl, Nat.le_of_ble_eq_true rfl⟩ [.ref (X.V.sa 9)] kq7 rfl rfl (Nat.le_of_ble_eq_true rfl) (tX5_is ok.fl X.V v6 9 q4.2 hq7) dX2_readSetup_113 ?_
      rcases ite_some h with ⟨c8, h⟩ | ⟨c8, h⟩
      · refine j_if_ne (tgt := 131) ok dX2_readSetup_116 (by decide) (fun z => absurd c8 z) (fun _ => ?_)
        refine j_aload_n ok dX2_readSetup_119 rfl 0 rfl ?_
        obtain ⟨v9, hv9, h⟩ := obind h
        refine k_getR ok fl_X2_12 hv9 dX2_readSetup_120 ?_
        refine k_str ok st_X2_85 dX2_readSetup_123 ?_
        obtain ⟨kq10, h⟩ := ck_some h
        obtain ⟨q10, hq10, h⟩ := obind h
        refine k_V1 ok kl_X2_79 ⟨Nat.le_of_ble_eq_true rfl, Nat.le_of_ble_eq_true rfl⟩ [.ref (X.V.sa 10)] kq10 rfl rfl (Nat.le_of_ble_eq_true rfl) (tX5_is ok.fl X.V v9 10 q7.2 hq10) dX2_readSetup_125 ?_
        rcases ite_some h with ⟨c11, h⟩ | ⟨c11, h⟩
        · refine j_if_eq (tgt := 135) ok dX2_readSetup_128 (by decide) (fun _ => ?_) (fun z => absurd c11 z)
          refine j_iconst (v := 0) ok dX2_readSetup_135 (by decide) ?_
          exact J.sub [0] rfl (jX2_readSetup_136 ok l0 (0 : Int32) q10.2 h hK)
        · refine j_if_eq (tgt := 135) ok dX2_readSetup_128 (by decide) (fun z => absurd z c11) (fun _ => ?_)
          exact J.sub [0] rfl (jX2_readSetup_131 ok l0 q10.2 h hK)
      · refine j_if_ne (tgt := 131) ok dX2_readSetup_116 (by decide) (fun _ => ?_) (fun z => absurd z c8)
        exact J.sub [0] rfl (jX2_readSetup_131 ok l0 q7.2 h hK)
    · refine j_if_ne (tgt := 131) ok dX2_readSetup_104 (by decide) (fun _ => ?_) (fun z => absurd z c5)
      exact J.sub [0] rfl (jX2_readSetup_131 ok l0 q4.2 h hK)
  · refine j_if_ne (tgt := 131) ok dX2_readSetup_92 (by decide) (fun _ => ?_) (fun z => absurd z c2)
    exact J.sub [0] rfl (jX2_readSetup_131 ok l0 q1.2 h hK)

def fX2_readSetup_70   (G : Mem) : Option (Int32 × Mem) :=
  some ((0 : Int32), G)

set_option maxRecDepth 100000 in
set_option maxHeartbeats 4000000 in
theorem jX2_readSetup_70 {X : Cx} (ok : OK X cX2_readSetup RX2 (some .boolean) 3 7 191)   (G : Mem) {r : Int32} {G' : Mem} (h : fX2_readSetup_70  G = some (r, G')) (hK : (finI X) r G') : J X 3 70 [] [] G := by
  unfold fX2_readSetup_70 at h
  refine j_iconst (v := 0) ok dX2_readSetup_70 (by decide) ?_
  obtain ⟨er, eG⟩ := inj2 h
  subst er; subst eG
  exact j_zret ok rfl (Or.inl rfl) dX2_readSetup_71 hK

def fX2_readSetup_56 (l0 : Nat)  (G : Mem) : Option (Int32 × Mem) :=
  ck G 12 l0 <| (fX2_reject l0 (4 : Int32) G).bind fun q1 =>
  rz q1.1 <|
  some (q1.1, q1.2)

set_option maxRecDepth 100000 in
set_option maxHeartbeats 4000000 in
theorem jX2_readSetup_56 {X : Cx} (ok : OK X cX2_readSetup RX2 (some .boolean) 3 7 191) (l0 : Nat)  (G : Mem) {r : Int32} {G' : Mem} (h : fX2_readSetup_56 l0 G = some (r, G')) (hK : (finI X) r G') : J X 3 56 [(0, .ref (X.B + l0))] [] G := by
  unfold fX2_readSetup_56 at h
  refine j_aload_n ok dX2_readSetup_56 rfl 0 rfl ?_
  refine j_iconst (v := 4) ok dX2_readSetup_57 (by decide) ?_
  obtain ⟨kq1, h⟩ := ck_some h
  obtain ⟨q1, hq1, h⟩ := obind h
  refine k_V1 ok kl_X2_67 ⟨Nat.le_of_ble_eq_true rfl, Nat.le_of_ble_eq_true rfl⟩ [.int (4 : Int32)] kq1 rfl rfl (Nat.le_of_ble_eq_true rfl) (tX2_reject ok.fl X.V l0 (4 : Int32) G hq1) dX2_readSetup_58 ?_
  obtain ⟨hz2, h⟩ := rz_some h
  obtain ⟨er, eG⟩ := inj2 h
  subst er; subst eG
  exact j_zret ok rfl hz2 dX2_readSetup_61 hK

def fX2_readSetup_41 (l0 : Nat)  (G : Mem) : Option (Int32 × Mem) :=
  ck G 12 l0 <| (fX2_reject l0 (1 : Int32) G).bind fun q1 =>
  rz q1.1 <|
  some (q1.1, q1.2)

set_option maxRecDepth 100000 in
set_option maxHeartbeats 4000000 in
theorem jX2_readSetup_41 {X : Cx} (ok : OK X cX2_readSetup RX2 (some .boolean) 3 7 191) (l0 : Nat)  (G : Mem) {r : Int32} {G' : Mem} (h : fX2_readSetup_41 l0 G = some (r, G')) (hK : (finI X) r G') : J X 3 41 [(0, .ref (X.B + l0))] [] G := by
  unfold fX2_readSetup_41 at h
  refine j_aload_n ok dX2_readSetup_41 rfl 0 rfl ?_
  refine j_iconst (v := 1) ok dX2_readSetup_42 (by decide) ?_
  obtain ⟨kq1, h⟩ := ck_some h
  obtain ⟨q1, hq1, h⟩ := obind h
  refine k_V1 ok kl_X2_67 ⟨Nat.le_of_ble_eq_true rfl, Nat.le_of_ble_eq_true rfl⟩ [.int (1 : Int32)] kq1 rfl rfl (Nat.le_of_ble_eq_true rfl) (tX2_reject ok.fl X.V l0 (1 : Int32) G hq1) dX2_readSetup_43 ?_
  obtain ⟨hz2, h⟩ := rz_some h
  obtain ⟨er, eG⟩ := inj2 h
  subst er; subst eG
  exact j_zret ok rfl hz2 dX2_readSetup_46 hK

def fX2_readSetup_34 (l0 : Nat) (l1 : Nat) (l2 : Int32)  (G : Mem) : Option (((Int32) ⊕ Int32) × Mem) :=
  ck G 12 l0 <| (fX2_isColour l0 G).bind fun q1 =>
  if q1.1 = (0 : Int32) then
    liftE (fX2_readSetup_41 l0 q1.2)
  else
    (gF q1.2 12 l0 3).bind fun v3 =>
    if v3 = (10 : Int32) then
      liftE (fX2_readSetup_56 l0 q1.2)
    else
      ck q1.2 12 l0 <| (fX2_readPiece l0 l1 q1.2).bind fun q5 =>
      if q5.1 = (0 : Int32) then
        liftE (fX2_readSetup_70 q5.2)
      else
        (gF q5.2 12 l0 3).bind fun v7 =>
        (pI q5.2 12 l0 3 (v7 + (1 : Int32))).bind fun G8 =>
        some (.inl ((l2 + (1 : Int32))), G8)

set_option maxRecDepth 100000 in
set_option maxHeartbeats 4000000 in
theorem jX2_readSetup_34 {X : Cx} (ok : OK X cX2_readSetup RX2 (some .boolean) 3 7 191) (l0 : Nat) (l1 : Nat) (l2 : Int32)  (G : Mem) {r : ((Int32) ⊕ Int32)} {G' : Mem} (h : fX2_readSetup_34 l0 l1 l2 G = some (r, G')) (hK : (finL X 3 12 (fun s : Int32 => [(0, .ref (X.B + l0)), (1, .ref (X.B + l1)), (2, .int s)]) (finI X)) r G') : J X 3 34 [(0, .ref (X.B + l0)), (1, .ref (X.B + l1)), (2, .int l2)] [] G := by
  unfold fX2_readSetup_34 at h
  refine j_aload_n ok dX2_readSetup_34 rfl 0 rfl ?_
  obtain ⟨kq1, h⟩ := ck_some h
  obtain ⟨q1, hq1, h⟩ := obind h
  refine k_V1 ok kl_X2_63 ⟨Nat.le_of_ble_eq_true rfl, Nat.le_of_ble_eq_true rfl⟩ [] kq1 rfl rfl (Nat.le_of_ble_eq_true rfl) (tX2_isColour ok.fl X.V l0 G hq1) dX2_readSetup_35 ?_
  rcases ite_some h with ⟨c2, h⟩ | ⟨c2, h⟩
  · refine j_if_ne (tgt := 47) ok dX2_readSetup_38 (by decide) (fun z => absurd c2 z) (fun _ => ?_)
    obtain ⟨r1, e1, h1⟩ := lift_some h
    subst e1
    exact J.sub [0] rfl (jX2_readSetup_41 ok l0 q1.2 h1 hK)
  · refine j_if_ne (tgt := 47) ok dX2_readSetup_38 (by decide) (fun _ => ?_) (fun z => absurd z c2)
    refine j_aload_n ok dX2_readSetup_47 rfl 0 rfl ?_
    obtain ⟨v3, hv3, h⟩ := obind h
    refine k_getI ok fl_X2_25 hv3 dX2_readSetup_48 ?_
    refine j_bipush (v := 10) ok dX2_readSetup_51 (by decide) ?_
    rcases ite_some h with ⟨c4, h⟩ | ⟨c4, h⟩
    · refine j_icmp_ne (tgt := 62) ok dX2_readSetup_53 (by decide) (fun z => absurd c4 z) (fun _ => ?_)
      obtain ⟨r1, e1, h1⟩ := lift_some h
      subst e1
      exact J.sub [0] rfl (jX2_readSetup_56 ok l0 q1.2 h1 hK)
    · refine j_icmp_ne (tgt := 62) ok dX2_readSetup_53 (by decide) (fun _ => ?_) (fun z => absurd z c4)
      refine j_aload_n ok dX2_readSetup_62 rfl 0 rfl ?_
      refine j_aload_n ok dX2_readSetup_63 rfl 1 rfl ?_
      obtain ⟨kq5, h⟩ := ck_some h
      obtain ⟨q5, hq5, h⟩ := obind h
      refine k_V1 ok kl_X2_71 ⟨Nat.le_of_ble_eq_true rfl, Nat.le_of_ble_eq_true rfl⟩ [.ref (X.B + l1)] kq5 rfl rfl (Nat.le_of_ble_eq_true rfl) (tX2_readPiece ok.fl X.V l0 l1 q1.2 hq5) dX2_readSetup_64 ?_
      rcases ite_some h with ⟨c6, h⟩ | ⟨c6, h⟩
      · refine j_if_ne (tgt := 72) ok dX2_readSetup_67 (by decide) (fun z => absurd c6 z) (fun _ => ?_)
        obtain ⟨r1, e1, h1⟩ := lift_some h
        subst e1
        exact J.sub [] rfl (jX2_readSetup_70 ok q5.2 h1 hK)
      · refine j_if_ne (tgt := 72) ok dX2_readSetup_67 (by decide) (fun _ => ?_) (fun z => absurd z c6)
        refine j_aload_n ok dX2_readSetup_72 rfl 0 rfl ?_
        refine j_dup ok dX2_readSetup_73 rfl ?_
        obtain ⟨v7, hv7, h⟩ := obind h
        refine k_getI ok fl_X2_25 hv7 dX2_readSetup_74 ?_
        refine j_iconst (v := 1) ok dX2_readSetup_77 (by decide) ?_
        refine j_iadd ok dX2_readSetup_78 ?_
        obtain ⟨G8, hG8, h⟩ := obind h
        refine k_putI ok fl_X2_25 fp_X2 rfl (Or.inl rfl) hG8 dX2_readSetup_79 ?_
        refine j_iinc (L' := [(2, .int (l2 + (1 : Int32))), (0, .ref (X.B + l0)), (1, .ref (X.B + l1))]) (v := (l2 + (1 : Int32))) ok dX2_readSetup_82 (q := 2) rfl rfl (by decide) rfl ?_
        refine j_goto (tgt := 12) ok dX2_readSetup_85 (by decide) ?_
        obtain ⟨er, eG⟩ := inj2 h
        subst er; subst eG
        have hJ : J X 3 12 [(0, .ref (X.B + l0)), (1, .ref (X.B + l1)), (2, .int (l2 + (1 : Int32)))] [] G8 := hK
        exact J.sub [1, 2, 0] rfl hJ

def fX2_readSetup_12 (l0 : Nat) (l1 : Nat) (l2 : Int32)  (G : Mem) : Option (((Int32) ⊕ Int32) × Mem) :=
  if (600 : Int32) ≤ l2 then
    liftE (fX2_readSetup_88 l0 G)
  else
    ck G 12 l0 <| (fX2_isColour l0 G).bind fun q2 =>
    if q2.1 = (0 : Int32) then
      (gF q2.2 12 l0 3).bind fun v4 =>
      if (2 : Int32) ≤ v4 then
        liftE (fX2_readSetup_88 l0 q2.2)
      else
        fX2_readSetup_34 l0 l1 l2 q2.2
    else
      fX2_readSetup_34 l0 l1 l2 q2.2

set_option maxRecDepth 100000 in
set_option maxHeartbeats 4000000 in
theorem jX2_readSetup_12 {X : Cx} (ok : OK X cX2_readSetup RX2 (some .boolean) 3 7 191) (l0 : Nat) (l1 : Nat) (l2 : Int32)  (G : Mem) {r : ((Int32) ⊕ Int32)} {G' : Mem} (h : fX2_readSetup_12 l0 l1 l2 G = some (r, G')) (hK : (finL X 3 12 (fun s : Int32 => [(0, .ref (X.B + l0)), (1, .ref (X.B + l1)), (2, .int s)]) (finI X)) r G') : J X 3 12 [(0, .ref (X.B + l0)), (1, .ref (X.B + l1)), (2, .int l2)] [] G := by
  unfold fX2_readSetup_12 at h
  refine j_iload_n ok dX2_readSetup_12 rfl 2 rfl ?_
  refine j_sipush (v := 600) ok dX2_readSetup_13 (by decide) ?_
  rcases ite_some h with ⟨c1, h⟩ | ⟨c1, h⟩
  · refine j_icmp_ge (tgt := 88) ok dX2_readSetup_16 (by decide) (fun _ => ?_) (fun z => absurd c1 z)
    obtain ⟨r1, e1, h1⟩ := lift_some h
    subst e1
    exact J.sub [0] rfl (jX2_readSetup_88 ok l0 G h1 hK)
  · refine j_icmp_ge (tgt := 88) ok dX2_readSetup_16 (by decide) (fun z => absurd z c1) (fun _ => ?_)
    refine j_aload_n ok dX2_readSetup_19 rfl 0 rfl ?_
    obtain ⟨kq2, h⟩ := ck_some h
    obtain ⟨q2, hq2, h⟩ := obind h
    refine k_V1 ok kl_X2_63 ⟨Nat.le_of_ble_eq_true rfl, Nat.le_of_ble_eq_true rfl⟩ [] kq2 rfl rfl (Nat.le_of_ble_eq_true rfl) (tX2_isColour ok.fl X.V l0 G hq2) dX2_readSetup_20 ?_
    rcases ite_some h with ⟨c3, h⟩ | ⟨c3, h⟩
    · refine j_if_ne (tgt := 34) ok dX2_readSetup_23 (by decide) (fun z => absurd c3 z) (fun _ => ?_)
      refine j_aload_n ok dX2_readSetup_26 rfl 0 rfl ?_
      obtain ⟨v4, hv4, h⟩ := obind h
      refine k_getI ok fl_X2_25 hv4 dX2_readSetup_27 ?_
      refine j_iconst (v := 2) ok dX2_readSetup_30 (by decide) ?_
      rcases ite_some h with ⟨c5, h⟩ | ⟨c5, h⟩
      · refine j_icmp_ge (tgt := 88) ok dX2_readSetup_31 (by decide) (fun _ => ?_) (fun z => absurd c5 z)
        obtain ⟨r1, e1, h1⟩ := lift_some h
        subst e1
        exact J.sub [0] rfl (jX2_readSetup_88 ok l0 q2.2 h1 hK)
      · refine j_icmp_ge (tgt := 88) ok dX2_readSetup_31 (by decide) (fun z => absurd z c5) (fun _ => ?_)
        exact J.sub [0, 1, 2] rfl (jX2_readSetup_34 ok l0 l1 l2 q2.2 h hK)
    · refine j_if_ne (tgt := 34) ok dX2_readSetup_23 (by decide) (fun _ => ?_) (fun z => absurd z c3)
      exact J.sub [0, 1, 2] rfl (jX2_readSetup_34 ok l0 l1 l2 q2.2 h hK)

def fX2_readSetup_0 (l0 : Nat) (l1 : Nat)  (G : Mem) : Option (Int32 × Mem) :=
  ck G 12 l0 <| (fX2_readBoard l0 l1 G).bind fun q1 =>
  if q1.1 = (0 : Int32) then
    some ((0 : Int32), q1.2)
  else
    loopM (fun (s : Int32) G => fX2_readSetup_12 l0 l1 s G) FU ((0 : Int32)) q1.2

set_option maxRecDepth 100000 in
set_option maxHeartbeats 4000000 in
theorem jX2_readSetup_0 {X : Cx} (ok : OK X cX2_readSetup RX2 (some .boolean) 3 7 191) (l0 : Nat) (l1 : Nat)  (G : Mem) {r : Int32} {G' : Mem} (h : fX2_readSetup_0 l0 l1 G = some (r, G')) (hK : (finI X) r G') : J X 3 0 [(0, .ref (X.B + l0)), (1, .ref (X.B + l1))] [] G := by
  unfold fX2_readSetup_0 at h
  refine j_aload_n ok dX2_readSetup_0 rfl 0 rfl ?_
  refine j_aload_n ok dX2_readSetup_1 rfl 1 rfl ?_
  obtain ⟨kq1, h⟩ := ck_some h
  obtain ⟨q1, hq1, h⟩ := obind h
  refine k_V1 ok kl_X2_59 ⟨Nat.le_of_ble_eq_true rfl, Nat.le_of_ble_eq_true rfl⟩ [.ref (X.B + l1)] kq1 rfl rfl (Nat.le_of_ble_eq_true rfl) (tX2_readBoard ok.fl X.V l0 l1 G hq1) dX2_readSetup_2 ?_
  rcases ite_some h with ⟨c2, h⟩ | ⟨c2, h⟩
  · refine j_if_ne (tgt := 10) ok dX2_readSetup_5 (by decide) (fun z => absurd c2 z) (fun _ => ?_)
    refine j_iconst (v := 0) ok dX2_readSetup_8 (by decide) ?_
    obtain ⟨er, eG⟩ := inj2 h
    subst er; subst eG
    exact j_zret ok rfl (Or.inl rfl) dX2_readSetup_9 hK
  · refine j_if_ne (tgt := 10) ok dX2_readSetup_5 (by decide) (fun _ => ?_) (fun z => absurd z c2)
    refine j_iconst (v := 0) ok dX2_readSetup_10 (by decide) ?_
    refine j_istore_n (L' := [(2, .int (0 : Int32)), (0, .ref (X.B + l0)), (1, .ref (X.B + l1))]) ok dX2_readSetup_11 rfl (by decide) rfl ?_
    have hJ : J X 3 12 [(0, .ref (X.B + l0)), (1, .ref (X.B + l1)), (2, .int (0 : Int32))] [] q1.2 := j_loop (loc := fun s : Int32 => [(0, .ref (X.B + l0)), (1, .ref (X.B + l1)), (2, .int s)]) (F := (finI X)) (fun s G r G' hb hk => jX2_readSetup_12 ok l0 l1 s G hb hk) _ _ _ _ _ h hK
    exact J.sub [1, 2, 0] rfl hJ

def fX2_readSetup (l0 : Nat) (l1 : Nat) (G : Mem) : Option (Int32 × Mem) := fX2_readSetup_0 l0 l1 G
set_option maxRecDepth 100000 in
theorem tX2_readSetup {l : Launch} (hfl : l.stackTraces = false) (V : Wd) (l0 : Nat) (l1 : Nat) (G : Mem) {r : Int32} {G' : Mem} (h : fX2_readSetup l0 l1 G = some (r, G')) : Mx l yX2_readSetup cX2_readSetup 3 (some .boolean) 7 191 V [.ref (V.B + l0), .ref (V.B + l1)] G (.inl (some (.int r))) G' :=
  mx_of (L := [(0, .ref (V.B + l0)), (1, .ref (V.B + l1))]) hfl (by decide +kernel) (Nat.le_of_ble_eq_true rfl) rfl (fun X hl hV hin ok he => by
    subst hl; subst hV
    exact J.sub [0, 1] rfl (jX2_readSetup_0 ok l0 l1 G h he))
def fX3_addLast_0 (l0 : Nat) (l1 : Nat)  (G : Mem) : Option (Int32 × Mem) :=
  (gF G 13 l0 1).bind fun v1 =>
  if v1 < (10 : Int32) then
    (gR G 13 l0 2).bind fun v3 =>
    (gF G 13 l0 1).bind fun v4 =>
    (pI G 13 l0 1 (v4 + (1 : Int32))).bind fun G5 =>
    (gQ G5 6 v3 v4).bind fun v6 =>
    ck G5 11 v6 <| (fX1_copyFrom v6 l1 G5).bind fun q7 =>
    some ((1 : Int32), q7.2)
  else
    some ((0 : Int32), G)

set_option maxRecDepth 100000 in
set_option maxHeartbeats 4000000 in
theorem jX3_addLast_0 {X : Cx} (ok : OK X cX3_addLast RX3 (some .boolean) 2 1 21) (l0 : Nat) (l1 : Nat)  (G : Mem) {r : Int32} {G' : Mem} (h : fX3_addLast_0 l0 l1 G = some (r, G')) (hK : (finI X) r G') : J X 2 0 [(0, .ref (X.B + l0)), (1, .ref (X.B + l1))] [] G := by
  unfold fX3_addLast_0 at h
  refine j_aload_n ok dX3_addLast_0 rfl 0 rfl ?_
  obtain ⟨v1, hv1, h⟩ := obind h
  refine k_getI ok fl_X3_18 hv1 dX3_addLast_1 ?_
  refine j_bipush (v := 10) ok dX3_addLast_4 (by decide) ?_
  rcases ite_some h with ⟨c2, h⟩ | ⟨c2, h⟩
  · refine j_icmp_lt (tgt := 11) ok dX3_addLast_6 (by decide) (fun _ => ?_) (fun z => absurd c2 z)
    refine j_aload_n ok dX3_addLast_11 rfl 0 rfl ?_
    obtain ⟨v3, hv3, h⟩ := obind h
    refine k_getR ok fl_X3_24 hv3 dX3_addLast_12 ?_
    refine j_aload_n ok dX3_addLast_15 rfl 0 rfl ?_
    refine j_dup ok dX3_addLast_16 rfl ?_
    obtain ⟨v4, hv4, h⟩ := obind h
    refine k_getI ok fl_X3_18 hv4 dX3_addLast_17 ?_
    refine j_dup_x1 ok dX3_addLast_20 rfl rfl ?_
    refine j_iconst (v := 1) ok dX3_addLast_21 (by decide) ?_
    refine j_iadd ok dX3_addLast_22 ?_
    obtain ⟨G5, hG5, h⟩ := obind h
    refine k_putI ok fl_X3_18 fp_X3 rfl (Or.inl rfl) hG5 dX3_addLast_23 ?_
    obtain ⟨v6, hv6, h⟩ := obind h
    refine j_aald ok (Or.inl rfl) hv6 dX3_addLast_26 ?_
    refine j_aload_n ok dX3_addLast_27 rfl 1 rfl ?_
    obtain ⟨kq7, h⟩ := ck_some h
    obtain ⟨q7, hq7, h⟩ := obind h
    refine k_V0 ok kl_X3_91 ⟨Nat.le_of_ble_eq_true rfl, Nat.le_of_ble_eq_true rfl⟩ [.ref (X.B + l1)] kq7 rfl rfl (Nat.le_of_ble_eq_true rfl) (tX1_copyFrom ok.fl X.V v6 l1 G5 hq7) dX3_addLast_28 ?_
    refine j_iconst (v := 1) ok dX3_addLast_31 (by decide) ?_
    obtain ⟨er, eG⟩ := inj2 h
    subst er; subst eG
    exact j_zret ok rfl (Or.inr rfl) dX3_addLast_32 hK
  · refine j_icmp_lt (tgt := 11) ok dX3_addLast_6 (by decide) (fun z => absurd z c2) (fun _ => ?_)
    refine j_iconst (v := 0) ok dX3_addLast_9 (by decide) ?_
    obtain ⟨er, eG⟩ := inj2 h
    subst er; subst eG
    exact j_zret ok rfl (Or.inl rfl) dX3_addLast_10 hK

def fX3_addLast (l0 : Nat) (l1 : Nat) (G : Mem) : Option (Int32 × Mem) := fX3_addLast_0 l0 l1 G
set_option maxRecDepth 100000 in
theorem tX3_addLast {l : Launch} (hfl : l.stackTraces = false) (V : Wd) (l0 : Nat) (l1 : Nat) (G : Mem) {r : Int32} {G' : Mem} (h : fX3_addLast l0 l1 G = some (r, G')) : Mx l yX3_addLast cX3_addLast 2 (some .boolean) 1 21 V [.ref (V.B + l0), .ref (V.B + l1)] G (.inl (some (.int r))) G' :=
  mx_of (L := [(0, .ref (V.B + l0)), (1, .ref (V.B + l1))]) hfl (by decide +kernel) (Nat.le_of_ble_eq_true rfl) rfl (fun X hl hV hin ok he => by
    subst hl; subst hV
    exact J.sub [0, 1] rfl (jX3_addLast_0 ok l0 l1 G h he))
def fX3_addLink_36 (l0 : Nat) (l1 : Int32) (l2 : Int32) (l3 : Int32)  (G : Mem) : Option (Unit × Mem) :=
  (gR G 13 l0 8).bind fun v1 =>
  (pA G v1 l3 l2).bind fun G2 =>
  (gR G2 13 l0 7).bind fun v3 =>
  (pA G2 v3 (l1 + (1 : Int32)) (l3 + (1 : Int32))).bind fun G4 =>
  some ((), G4)

set_option maxRecDepth 100000 in
set_option maxHeartbeats 4000000 in
theorem jX3_addLink_36 {X : Cx} (ok : OK X cX3_addLink RX3 none 4 2 142) (l0 : Nat) (l1 : Int32) (l2 : Int32) (l3 : Int32)  (G : Mem) {r : Unit} {G' : Mem} (h : fX3_addLink_36 l0 l1 l2 l3 G = some (r, G')) (hK : (finV X) r G') : J X 4 36 [(0, .ref (X.B + l0)), (1, .int l1), (2, .int l2), (3, .int l3)] [] G := by
  unfold fX3_addLink_36 at h
  refine j_aload_n ok dX3_addLink_36 rfl 0 rfl ?_
  obtain ⟨v1, hv1, h⟩ := obind h
  refine k_getR ok fl_X3_45 hv1 dX3_addLink_37 ?_
  refine j_iload_n ok dX3_addLink_40 rfl 3 rfl ?_
  refine j_iload_n ok dX3_addLink_41 rfl 2 rfl ?_
  obtain ⟨G2, hG2, h⟩ := obind h
  refine j_iast ok hG2 dX3_addLink_42 ?_
  refine j_aload_n ok dX3_addLink_43 rfl 0 rfl ?_
  obtain ⟨v3, hv3, h⟩ := obind h
  refine k_getR ok fl_X3_42 hv3 dX3_addLink_44 ?_
  refine j_iload_n ok dX3_addLink_47 rfl 1 rfl ?_
  refine j_iconst (v := 1) ok dX3_addLink_48 (by decide) ?_
  refine j_iadd ok dX3_addLink_49 ?_
  refine j_iload_n ok dX3_addLink_50 rfl 3 rfl ?_
  refine j_iconst (v := 1) ok dX3_addLink_51 (by decide) ?_
  refine j_iadd ok dX3_addLink_52 ?_
  obtain ⟨G4, hG4, h⟩ := obind h
  refine j_iast ok hG4 dX3_addLink_53 ?_
  obtain ⟨er, eG⟩ := inj2 h
  subst er; subst eG
  exact j_vret ok rfl dX3_addLink_54 hK

def fX3_addLink_0 (l0 : Nat) (l1 : Int32) (l2 : Int32)  (G : Mem) : Option (Unit × Mem) :=
  (gR G 13 l0 7).bind fun v1 =>
  (gA G 1 v1 (l1 + (1 : Int32))).bind fun v2 =>
  (gR G 13 l0 8).bind fun v3 =>
  (gL G v3).bind fun v4 =>
  if v2 < v4 then
    fX3_addLink_36 l0 l1 l2 v2 G
  else
    (gR G 13 l0 8).bind fun v6 =>
    (gR G 13 l0 8).bind fun v7 =>
    (gL G v7).bind fun v8 =>
    (fJ7_copyOf_59c91 v6 ((2 : Int32) * v8) G).bind fun q9 =>
    (pR q9.2 13 l0 8 q9.1).bind fun G10 =>
    fX3_addLink_36 l0 l1 l2 v2 G10

set_option maxRecDepth 100000 in
set_option maxHeartbeats 4000000 in
theorem jX3_addLink_0 {X : Cx} (ok : OK X cX3_addLink RX3 none 4 2 142) (l0 : Nat) (l1 : Int32) (l2 : Int32)  (G : Mem) {r : Unit} {G' : Mem} (h : fX3_addLink_0 l0 l1 l2 G = some (r, G')) (hK : (finV X) r G') : J X 4 0 [(0, .ref (X.B + l0)), (1, .int l1), (2, .int l2)] [] G := by
  unfold fX3_addLink_0 at h
  refine j_aload_n ok dX3_addLink_0 rfl 0 rfl ?_
  obtain ⟨v1, hv1, h⟩ := obind h
  refine k_getR ok fl_X3_42 hv1 dX3_addLink_1 ?_
  refine j_iload_n ok dX3_addLink_4 rfl 1 rfl ?_
  refine j_iconst (v := 1) ok dX3_addLink_5 (by decide) ?_
  refine j_iadd ok dX3_addLink_6 ?_
  obtain ⟨v2, hv2, h⟩ := obind h
  refine j_iald ok hv2 dX3_addLink_7 ?_
  refine j_istore_n (L' := [(3, .int v2), (0, .ref (X.B + l0)), (1, .int l1), (2, .int l2)]) ok dX3_addLink_8 rfl (by decide) rfl ?_
  refine j_iload_n ok dX3_addLink_9 rfl 0 rfl ?_
  refine j_aload_n ok dX3_addLink_10 rfl 1 rfl ?_
  obtain ⟨v3, hv3, h⟩ := obind h
  refine k_getR ok fl_X3_45 hv3 dX3_addLink_11 ?_
  obtain ⟨v4, hv4, h⟩ := obind h
  refine j_alen ok hv4 dX3_addLink_14 ?_
  rcases ite_some h with ⟨c5, h⟩ | ⟨c5, h⟩
  · refine j_icmp_lt (tgt := 36) ok dX3_addLink_15 (by decide) (fun _ => ?_) (fun z => absurd c5 z)
    exact J.sub [1, 2, 3, 0] rfl (jX3_addLink_36 ok l0 l1 l2 v2 G h hK)
  · refine j_icmp_lt (tgt := 36) ok dX3_addLink_15 (by decide) (fun z => absurd z c5) (fun _ => ?_)
    refine j_aload_n ok dX3_addLink_18 rfl 1 rfl ?_
    refine j_aload_n ok dX3_addLink_19 rfl 1 rfl ?_
    obtain ⟨v6, hv6, h⟩ := obind h
    refine k_getR ok fl_X3_45 hv6 dX3_addLink_20 ?_
    refine j_iconst (v := 2) ok dX3_addLink_23 (by decide) ?_
    refine j_aload_n ok dX3_addLink_24 rfl 1 rfl ?_
    obtain ⟨v7, hv7, h⟩ := obind h
    refine k_getR ok fl_X3_45 hv7 dX3_addLink_25 ?_
    obtain ⟨v8, hv8, h⟩ := obind h
    refine j_alen ok hv8 dX3_addLink_28 ?_
    refine j_imul ok dX3_addLink_29 ?_
    obtain ⟨q9, hq9, h⟩ := obind h
    refine k_S1 ok kl_X3_155 ⟨Nat.le_of_ble_eq_true rfl, Nat.le_of_ble_eq_true rfl⟩ [.ref (X.B + v6), .int ((2 : Int32) * v8)] rfl rfl (Nat.le_of_ble_eq_true rfl) (tJ7_copyOf_59c91 ok.fl X.V v6 ((2 : Int32) * v8) G hq9) dX3_addLink_30 ?_
    obtain ⟨G10, hG10, h⟩ := obind h
    refine k_putR ok fl_X3_45 fp_X3 rfl (Or.inr ⟨_, rfl⟩) (Or.inl rfl) hG10 dX3_addLink_33 ?_
    exact J.sub [1, 2, 3, 0] rfl (jX3_addLink_36 ok l0 l1 l2 v2 G10 h hK)

def fX3_addLink (l0 : Nat) (l1 : Int32) (l2 : Int32) (G : Mem) : Option (Unit × Mem) := fX3_addLink_0 l0 l1 l2 G
set_option maxRecDepth 100000 in
theorem tX3_addLink {l : Launch} (hfl : l.stackTraces = false) (V : Wd) (l0 : Nat) (l1 : Int32) (l2 : Int32) (G : Mem) {r : Unit} {G' : Mem} (h : fX3_addLink l0 l1 l2 G = some (r, G')) : Mx l yX3_addLink cX3_addLink 4 none 2 142 V [.ref (V.B + l0), .int l1, .int l2] G (.inl none) G' :=
  mx_of (L := [(0, .ref (V.B + l0)), (1, .int l1), (2, .int l2)]) hfl (by decide +kernel) (Nat.le_of_ble_eq_true rfl) rfl (fun X hl hV hin ok he => by
    subst hl; subst hV
    exact J.sub [0, 1, 2] rfl (jX3_addLink_0 ok l0 l1 l2 G h he))
def fX3_shiftOf_0 (l0 : Int32)  (G : Mem) : Option (Int32 × Mem) :=
  some (((l0 &&& (15 : Int32)) <<< ((2 : Int32) &&& 31)), G)

set_option maxRecDepth 100000 in
set_option maxHeartbeats 4000000 in
theorem jX3_shiftOf_0 {X : Cx} (ok : OK X cX3_shiftOf RX3 (some .int) 1 0 0) (l0 : Int32)  (G : Mem) {r : Int32} {G' : Mem} (h : fX3_shiftOf_0 l0 G = some (r, G')) (hK : (finI X) r G') : J X 1 0 [(0, .int l0)] [] G := by
  unfold fX3_shiftOf_0 at h
  refine j_iload_n ok dX3_shiftOf_0 rfl 0 rfl ?_
  refine j_bipush (v := 15) ok dX3_shiftOf_1 (by decide) ?_
  refine j_iand ok dX3_shiftOf_3 ?_
  refine j_iconst (v := 2) ok dX3_shiftOf_4 (by decide) ?_
  refine j_ishl ok dX3_shiftOf_5 ?_
  obtain ⟨er, eG⟩ := inj2 h
  subst er; subst eG
  exact j_iret ok rfl dX3_shiftOf_6 hK

def fX3_shiftOf (l0 : Int32) (G : Mem) : Option (Int32 × Mem) := fX3_shiftOf_0 l0 G
set_option maxRecDepth 100000 in
theorem tX3_shiftOf {l : Launch} (hfl : l.stackTraces = false) (V : Wd) (l0 : Int32) (G : Mem) {r : Int32} {G' : Mem} (h : fX3_shiftOf l0 G = some (r, G')) : Mx l yX3_shiftOf cX3_shiftOf 1 (some .int) 0 0 V [.int l0] G (.inl (some (.int r))) G' :=
  mx_of (L := [(0, .int l0)]) hfl (by decide +kernel) (Nat.le_of_ble_eq_true rfl) rfl (fun X hl hV hin ok he => by
    subst hl; subst hV
    exact J.sub [0] rfl (jX3_shiftOf_0 ok l0 G h he))
def fX3_setReached_13   (G : Mem) : Option (Unit × Mem) :=
  some ((), G)

set_option maxRecDepth 100000 in
set_option maxHeartbeats 4000000 in
theorem jX3_setReached_13 {X : Cx} (ok : OK X cX3_setReached RX3 none 5 1 20)   (G : Mem) {r : Unit} {G' : Mem} (h : fX3_setReached_13  G = some (r, G')) (hK : (finV X) r G') : J X 5 13 [] [] G := by
  unfold fX3_setReached_13 at h
  obtain ⟨er, eG⟩ := inj2 h
  subst er; subst eG
  exact j_vret ok rfl dX3_setReached_13 hK

def fX3_setReached_0 (l0 : Nat) (l1 : Int32) (l2 : Int32)  (G : Mem) : Option (Unit × Mem) :=
  if (l1 >>> ((4 : Int32) &&& 31)) < (0 : Int32) then
    fX3_setReached_13 G
  else
    if (l1 >>> ((4 : Int32) &&& 31)) < (3 : Int32) then
      (fX3_shiftOf l1 G).bind fun q3 =>
      (gR q3.2 13 l0 6).bind fun v4 =>
      (gR q3.2 13 l0 6).bind fun v5 =>
      (gJ q3.2 v5 (l1 >>> ((4 : Int32) &&& 31))).bind fun v6 =>
      (pJ q3.2 v4 (l1 >>> ((4 : Int32) &&& 31)) ((v6 &&& (((15 : Int64) <<< (q3.1.toInt64 &&& 63)) ^^^ (-1 : Int64))) ||| ((l2.toInt64) <<< (q3.1.toInt64 &&& 63)))).bind fun G7 =>
      some ((), G7)
    else
      fX3_setReached_13 G

set_option maxRecDepth 100000 in
set_option maxHeartbeats 4000000 in
theorem jX3_setReached_0 {X : Cx} (ok : OK X cX3_setReached RX3 none 5 1 20) (l0 : Nat) (l1 : Int32) (l2 : Int32)  (G : Mem) {r : Unit} {G' : Mem} (h : fX3_setReached_0 l0 l1 l2 G = some (r, G')) (hK : (finV X) r G') : J X 5 0 [(0, .ref (X.B + l0)), (1, .int l1), (2, .int l2)] [] G := by
  unfold fX3_setReached_0 at h
  refine j_iload_n ok dX3_setReached_0 rfl 1 rfl ?_
  refine j_iconst (v := 4) ok dX3_setReached_1 (by decide) ?_
  refine j_ishr ok dX3_setReached_2 ?_
  refine j_istore_n (L' := [(3, .int (l1 >>> ((4 : Int32) &&& 31))), (0, .ref (X.B + l0)), (1, .int l1), (2, .int l2)]) ok dX3_setReached_3 rfl (by decide) rfl ?_
  refine j_iload_n ok dX3_setReached_4 rfl 0 rfl ?_
  rcases ite_some h with ⟨c1, h⟩ | ⟨c1, h⟩
  · refine j_if_lt (tgt := 13) ok dX3_setReached_5 (by decide) (fun _ => ?_) (fun z => absurd c1 z)
    exact J.sub [] rfl (jX3_setReached_13 ok G h hK)
  · refine j_if_lt (tgt := 13) ok dX3_setReached_5 (by decide) (fun z => absurd z c1) (fun _ => ?_)
    refine j_iload_n ok dX3_setReached_8 rfl 0 rfl ?_
    refine j_iconst (v := 3) ok dX3_setReached_9 (by decide) ?_
    rcases ite_some h with ⟨c2, h⟩ | ⟨c2, h⟩
    · refine j_icmp_lt (tgt := 14) ok dX3_setReached_10 (by decide) (fun _ => ?_) (fun z => absurd c2 z)
      refine j_iload_n ok dX3_setReached_14 rfl 2 rfl ?_
      obtain ⟨q3, hq3, h⟩ := obind h
      refine k_S1 ok kl_X3_142 ⟨Nat.le_of_ble_eq_true rfl, Nat.le_of_ble_eq_true rfl⟩ [.int l1] rfl rfl (Nat.le_of_ble_eq_true rfl) (tX3_shiftOf ok.fl X.V l1 G hq3) dX3_setReached_15 ?_
      refine j_istore (L' := [(4, .int q3.1), (3, .int (l1 >>> ((4 : Int32) &&& 31))), (0, .ref (X.B + l0)), (1, .int l1), (2, .int l2)]) ok dX3_setReached_18 (by decide) rfl ?_
      refine j_aload_n ok dX3_setReached_20 rfl 2 rfl ?_
      obtain ⟨v4, hv4, h⟩ := obind h
      refine k_getR ok fl_X3_39 hv4 dX3_setReached_21 ?_
      refine j_iload_n ok dX3_setReached_24 rfl 1 rfl ?_
      refine j_aload_n ok dX3_setReached_25 rfl 2 rfl ?_
      obtain ⟨v5, hv5, h⟩ := obind h
      refine k_getR ok fl_X3_39 hv5 dX3_setReached_26 ?_
      refine j_iload_n ok dX3_setReached_29 rfl 1 rfl ?_
      obtain ⟨v6, hv6, h⟩ := obind h
      refine j_lald ok hv6 dX3_setReached_30 ?_
      refine j_ldc2 ok wK_X3_145 dX3_setReached_31 ?_
      refine j_iload ok dX3_setReached_34 0 rfl ?_
      refine j_lshl ok dX3_setReached_36 ?_
      refine j_ldc2 ok wK_X3_147 dX3_setReached_37 ?_
      refine j_lxor ok dX3_setReached_40 ?_
      refine j_land ok dX3_setReached_41 ?_
      refine j_iload_n ok dX3_setReached_42 rfl 4 rfl ?_
      refine j_i2l ok dX3_setReached_43 ?_
      refine j_iload ok dX3_setReached_44 0 rfl ?_
      refine j_lshl ok dX3_setReached_46 ?_
      refine j_lor ok dX3_setReached_47 ?_
      obtain ⟨G7, hG7, h⟩ := obind h
      refine j_last ok hG7 dX3_setReached_48 ?_
      obtain ⟨er, eG⟩ := inj2 h
      subst er; subst eG
      exact j_vret ok rfl dX3_setReached_49 hK
    · refine j_icmp_lt (tgt := 14) ok dX3_setReached_10 (by decide) (fun z => absurd z c2) (fun _ => ?_)
      exact J.sub [] rfl (jX3_setReached_13 ok G h hK)

def fX3_setReached (l0 : Nat) (l1 : Int32) (l2 : Int32) (G : Mem) : Option (Unit × Mem) := fX3_setReached_0 l0 l1 l2 G
set_option maxRecDepth 100000 in
theorem tX3_setReached {l : Launch} (hfl : l.stackTraces = false) (V : Wd) (l0 : Nat) (l1 : Int32) (l2 : Int32) (G : Mem) {r : Unit} {G' : Mem} (h : fX3_setReached l0 l1 l2 G = some (r, G')) : Mx l yX3_setReached cX3_setReached 5 none 1 20 V [.ref (V.B + l0), .int l1, .int l2] G (.inl none) G' :=
  mx_of (L := [(0, .ref (V.B + l0)), (1, .int l1), (2, .int l2)]) hfl (by decide +kernel) (Nat.le_of_ble_eq_true rfl) rfl (fun X hl hV hin ok he => by
    subst hl; subst hV
    exact J.sub [0, 1, 2] rfl (jX3_setReached_0 ok l0 l1 l2 G h he))
def fX3_begin_73 (l0 : Nat)  (G : Mem) : Option (Unit × Mem) :=
  (gR G 13 l0 6).bind fun v1 =>
  (gR G 13 l0 5).bind fun v2 =>
  (cpJ G v1 (0 : Int32) v2 (0 : Int32) (3 : Int32)).bind fun G3 =>
  (gR G3 13 l0 3).bind fun v4 =>
  (pA G3 v4 (0 : Int32) (1 : Int32)).bind fun G5 =>
  (gR G5 13 l0 4).bind fun v6 =>
  (pJ G5 v6 (0 : Int32) (1 : Int64)).bind fun G7 =>
  some ((), G7)

set_option maxRecDepth 100000 in
set_option maxHeartbeats 4000000 in
theorem jX3_begin_73 {X : Cx} (ok : OK X cX3_begin RX3 none 3 2 120) (l0 : Nat)  (G : Mem) {r : Unit} {G' : Mem} (h : fX3_begin_73 l0 G = some (r, G')) (hK : (finV X) r G') : J X 3 73 [(0, .ref (X.B + l0))] [] G := by
  unfold fX3_begin_73 at h
  refine j_aload_n ok dX3_begin_73 rfl 0 rfl ?_
  obtain ⟨v1, hv1, h⟩ := obind h
  refine k_getR ok fl_X3_39 hv1 dX3_begin_74 ?_
  refine j_iconst (v := 0) ok dX3_begin_77 (by decide) ?_
  refine j_aload_n ok dX3_begin_78 rfl 0 rfl ?_
  obtain ⟨v2, hv2, h⟩ := obind h
  refine k_getR ok fl_X3_36 hv2 dX3_begin_79 ?_
  refine j_iconst (v := 0) ok dX3_begin_82 (by decide) ?_
  refine j_iconst (v := 3) ok dX3_begin_83 (by decide) ?_
  obtain ⟨G3, hG3, h⟩ := obind h
  refine k_cpJ ok wm_X3_85 (Nat.le_of_ble_eq_true rfl) (Nat.le_of_ble_eq_true rfl) (Nat.le_of_ble_eq_true rfl) hG3 dX3_begin_84 ?_
  refine j_aload_n ok dX3_begin_87 rfl 0 rfl ?_
  obtain ⟨v4, hv4, h⟩ := obind h
  refine k_getR ok fl_X3_28 hv4 dX3_begin_88 ?_
  refine j_iconst (v := 0) ok dX3_begin_91 (by decide) ?_
  refine j_iconst (v := 1) ok dX3_begin_92 (by decide) ?_
  obtain ⟨G5, hG5, h⟩ := obind h
  refine j_iast ok hG5 dX3_begin_93 ?_
  refine j_aload_n ok dX3_begin_94 rfl 0 rfl ?_
  obtain ⟨v6, hv6, h⟩ := obind h
  refine k_getR ok fl_X3_32 hv6 dX3_begin_95 ?_
  refine j_iconst (v := 0) ok dX3_begin_98 (by decide) ?_
  refine j_lconst (v := 1) ok dX3_begin_99 (by decide) ?_
  obtain ⟨G7, hG7, h⟩ := obind h
  refine j_last ok hG7 dX3_begin_100 ?_
  obtain ⟨er, eG⟩ := inj2 h
  subst er; subst eG
  exact j_vret ok rfl dX3_begin_101 hK

def fX3_begin_67 (l0 : Nat) (l1 : Int32)  (G : Mem) : Option (((Int32) ⊕ Unit) × Mem) :=
  some (.inl ((l1 + (1 : Int32))), G)

set_option maxRecDepth 100000 in
set_option maxHeartbeats 4000000 in
theorem jX3_begin_67 {X : Cx} (ok : OK X cX3_begin RX3 none 3 2 120) (l0 : Nat) (l1 : Int32)  (G : Mem) {r : ((Int32) ⊕ Unit)} {G' : Mem} (h : fX3_begin_67 l0 l1 G = some (r, G')) (hK : (finL X 3 15 (fun s : Int32 => [(0, .ref (X.B + l0)), (1, .int s)]) (finV X)) r G') : J X 3 67 [(0, .ref (X.B + l0)), (1, .int l1)] [] G := by
  unfold fX3_begin_67 at h
  refine j_iinc (L' := [(1, .int (l1 + (1 : Int32))), (0, .ref (X.B + l0))]) (v := (l1 + (1 : Int32))) ok dX3_begin_67 (q := 1) rfl rfl (by decide) rfl ?_
  refine j_goto (tgt := 15) ok dX3_begin_70 (by decide) ?_
  obtain ⟨er, eG⟩ := inj2 h
  subst er; subst eG
  have hJ : J X 3 15 [(0, .ref (X.B + l0)), (1, .int (l1 + (1 : Int32)))] [] G := hK
  exact J.sub [1, 0] rfl hJ

def fX3_begin_28 (l0 : Nat) (l1 : Int32) (l2 : Int32)  (G : Mem) : Option (((Int32) ⊕ ((Int32) ⊕ Unit)) × Mem) :=
  (gR G 13 l0 0).bind fun v1 =>
  (gF G 10 v1 0).bind fun v2 =>
  if v2 ≤ l2 then
    liftE (fX3_begin_67 l0 l1 G)
  else
    (gR G 13 l0 0).bind fun v4 =>
    ck G 10 v4 <| (fX0_squareOf v4 l2 l1 G).bind fun q5 =>
    (gR q5.2 13 l0 0).bind fun v6 =>
    ck q5.2 10 v6 <| (fX0_at v6 l2 l1 q5.2).bind fun q7 =>
    ck q7.2 13 l0 <| (fX3_setReached l0 q5.1 q7.1 q7.2).bind fun q8 =>
    some (.inl ((l2 + (1 : Int32))), q8.2)

set_option maxRecDepth 100000 in
set_option maxHeartbeats 4000000 in
theorem jX3_begin_28 {X : Cx} (ok : OK X cX3_begin RX3 none 3 2 120) (l0 : Nat) (l1 : Int32) (l2 : Int32)  (G : Mem) {r : ((Int32) ⊕ ((Int32) ⊕ Unit))} {G' : Mem} (h : fX3_begin_28 l0 l1 l2 G = some (r, G')) (hK : (finL X 3 28 (fun s : Int32 => [(0, .ref (X.B + l0)), (1, .int l1), (2, .int s)]) (finL X 3 15 (fun s : Int32 => [(0, .ref (X.B + l0)), (1, .int s)]) (finV X))) r G') : J X 3 28 [(0, .ref (X.B + l0)), (1, .int l1), (2, .int l2)] [] G := by
  unfold fX3_begin_28 at h
  refine j_iload_n ok dX3_begin_28 rfl 2 rfl ?_
  refine j_aload_n ok dX3_begin_29 rfl 0 rfl ?_
  obtain ⟨v1, hv1, h⟩ := obind h
  refine k_getR ok fl_X3_12 hv1 dX3_begin_30 ?_
  obtain ⟨v2, hv2, h⟩ := obind h
  refine k_getI ok fl_X3_73 hv2 dX3_begin_33 ?_
  rcases ite_some h with ⟨c3, h⟩ | ⟨c3, h⟩
  · refine j_icmp_ge (tgt := 67) ok dX3_begin_36 (by decide) (fun _ => ?_) (fun z => absurd c3 z)
    obtain ⟨r1, e1, h1⟩ := lift_some h
    subst e1
    exact J.sub [0, 1] rfl (jX3_begin_67 ok l0 l1 G h1 hK)
  · refine j_icmp_ge (tgt := 67) ok dX3_begin_36 (by decide) (fun z => absurd z c3) (fun _ => ?_)
    refine j_aload_n ok dX3_begin_39 rfl 0 rfl ?_
    refine j_aload_n ok dX3_begin_40 rfl 0 rfl ?_
    obtain ⟨v4, hv4, h⟩ := obind h
    refine k_getR ok fl_X3_12 hv4 dX3_begin_41 ?_
    refine j_iload_n ok dX3_begin_44 rfl 2 rfl ?_
    refine j_iload_n ok dX3_begin_45 rfl 1 rfl ?_
    obtain ⟨kq5, h⟩ := ck_some h
    obtain ⟨q5, hq5, h⟩ := obind h
    refine k_V1 ok kl_X3_76 ⟨Nat.le_of_ble_eq_true rfl, Nat.le_of_ble_eq_true rfl⟩ [.int l2, .int l1] kq5 rfl rfl (Nat.le_of_ble_eq_true rfl) (tX0_squareOf ok.fl X.V v4 l2 l1 G hq5) dX3_begin_46 ?_
    refine j_aload_n ok dX3_begin_49 rfl 0 rfl ?_
    obtain ⟨v6, hv6, h⟩ := obind h
    refine k_getR ok fl_X3_12 hv6 dX3_begin_50 ?_
    refine j_iload_n ok dX3_begin_53 rfl 2 rfl ?_
    refine j_iload_n ok dX3_begin_54 rfl 1 rfl ?_
    obtain ⟨kq7, h⟩ := ck_some h
    obtain ⟨q7, hq7, h⟩ := obind h
    refine k_V1 ok kl_X3_79 ⟨Nat.le_of_ble_eq_true rfl, Nat.le_of_ble_eq_true rfl⟩ [.int l2, .int l1] kq7 rfl rfl (Nat.le_of_ble_eq_true rfl) (tX0_at ok.fl X.V v6 l2 l1 q5.2 hq7) dX3_begin_55 ?_
    obtain ⟨kq8, h⟩ := ck_some h
    obtain ⟨q8, hq8, h⟩ := obind h
    refine k_V0 ok kl_X3_82 ⟨Nat.le_of_ble_eq_true rfl, Nat.le_of_ble_eq_true rfl⟩ [.int q5.1, .int q7.1] kq8 rfl rfl (Nat.le_of_ble_eq_true rfl) (tX3_setReached ok.fl X.V l0 q5.1 q7.1 q7.2 hq8) dX3_begin_58 ?_
    refine j_iinc (L' := [(2, .int (l2 + (1 : Int32))), (0, .ref (X.B + l0)), (1, .int l1)]) (v := (l2 + (1 : Int32))) ok dX3_begin_61 (q := 2) rfl rfl (by decide) rfl ?_
    refine j_goto (tgt := 28) ok dX3_begin_64 (by decide) ?_
    obtain ⟨er, eG⟩ := inj2 h
    subst er; subst eG
    have hJ : J X 3 28 [(0, .ref (X.B + l0)), (1, .int l1), (2, .int (l2 + (1 : Int32)))] [] q8.2 := hK
    exact J.sub [1, 2, 0] rfl hJ

def fX3_begin_15 (l0 : Nat) (l1 : Int32)  (G : Mem) : Option (((Int32) ⊕ Unit) × Mem) :=
  (gR G 13 l0 0).bind fun v1 =>
  (gF G 10 v1 1).bind fun v2 =>
  if v2 ≤ l1 then
    liftE (fX3_begin_73 l0 G)
  else
    loopM (fun (s : Int32) G => fX3_begin_28 l0 l1 s G) FU ((0 : Int32)) G

set_option maxRecDepth 100000 in
set_option maxHeartbeats 4000000 in
theorem jX3_begin_15 {X : Cx} (ok : OK X cX3_begin RX3 none 3 2 120) (l0 : Nat) (l1 : Int32)  (G : Mem) {r : ((Int32) ⊕ Unit)} {G' : Mem} (h : fX3_begin_15 l0 l1 G = some (r, G')) (hK : (finL X 3 15 (fun s : Int32 => [(0, .ref (X.B + l0)), (1, .int s)]) (finV X)) r G') : J X 3 15 [(0, .ref (X.B + l0)), (1, .int l1)] [] G := by
  unfold fX3_begin_15 at h
  refine j_iload_n ok dX3_begin_15 rfl 1 rfl ?_
  refine j_aload_n ok dX3_begin_16 rfl 0 rfl ?_
  obtain ⟨v1, hv1, h⟩ := obind h
  refine k_getR ok fl_X3_12 hv1 dX3_begin_17 ?_
  obtain ⟨v2, hv2, h⟩ := obind h
  refine k_getI ok fl_X3_70 hv2 dX3_begin_20 ?_
  rcases ite_some h with ⟨c3, h⟩ | ⟨c3, h⟩
  · refine j_icmp_ge (tgt := 73) ok dX3_begin_23 (by decide) (fun _ => ?_) (fun z => absurd c3 z)
    obtain ⟨r1, e1, h1⟩ := lift_some h
    subst e1
    exact J.sub [0] rfl (jX3_begin_73 ok l0 G h1 hK)
  · refine j_icmp_ge (tgt := 73) ok dX3_begin_23 (by decide) (fun z => absurd z c3) (fun _ => ?_)
    refine j_iconst (v := 0) ok dX3_begin_26 (by decide) ?_
    refine j_istore_n (L' := [(2, .int (0 : Int32)), (0, .ref (X.B + l0)), (1, .int l1)]) ok dX3_begin_27 rfl (by decide) rfl ?_
    have hJ : J X 3 28 [(0, .ref (X.B + l0)), (1, .int l1), (2, .int (0 : Int32))] [] G := j_loop (loc := fun s : Int32 => [(0, .ref (X.B + l0)), (1, .int l1), (2, .int s)]) (F := (finL X 3 15 (fun s : Int32 => [(0, .ref (X.B + l0)), (1, .int s)]) (finV X))) (fun s G r G' hb hk => jX3_begin_28 ok l0 l1 s G hb hk) _ _ _ _ _ h hK
    exact J.sub [1, 2, 0] rfl hJ

def fX3_begin_0 (l0 : Nat)  (G : Mem) : Option (Unit × Mem) :=
  (pI G 13 l0 1 (0 : Int32)).bind fun G1 =>
  (gR G1 13 l0 6).bind fun v2 =>
  (fJ7_fill_d0a16 v2 (0 : Int64) G1).bind fun q3 =>
  loopM (fun (s : Int32) G => fX3_begin_15 l0 s G) FU ((0 : Int32)) q3.2

set_option maxRecDepth 100000 in
set_option maxHeartbeats 4000000 in
theorem jX3_begin_0 {X : Cx} (ok : OK X cX3_begin RX3 none 3 2 120) (l0 : Nat)  (G : Mem) {r : Unit} {G' : Mem} (h : fX3_begin_0 l0 G = some (r, G')) (hK : (finV X) r G') : J X 3 0 [(0, .ref (X.B + l0))] [] G := by
  unfold fX3_begin_0 at h
  refine j_aload_n ok dX3_begin_0 rfl 0 rfl ?_
  refine j_iconst (v := 0) ok dX3_begin_1 (by decide) ?_
  obtain ⟨G1, hG1, h⟩ := obind h
  refine k_putI ok fl_X3_18 fp_X3 rfl (Or.inl rfl) hG1 dX3_begin_2 ?_
  refine j_aload_n ok dX3_begin_5 rfl 0 rfl ?_
  obtain ⟨v2, hv2, h⟩ := obind h
  refine k_getR ok fl_X3_39 hv2 dX3_begin_6 ?_
  refine j_lconst (v := 0) ok dX3_begin_9 (by decide) ?_
  obtain ⟨q3, hq3, h⟩ := obind h
  refine k_S0 ok kl_X3_64 ⟨Nat.le_of_ble_eq_true rfl, Nat.le_of_ble_eq_true rfl⟩ [.ref (X.B + v2), .long (0 : Int64)] rfl rfl (Nat.le_of_ble_eq_true rfl) (tJ7_fill_d0a16 ok.fl X.V v2 (0 : Int64) G1 hq3) dX3_begin_10 ?_
  refine j_iconst (v := 0) ok dX3_begin_13 (by decide) ?_
  refine j_istore_n (L' := [(1, .int (0 : Int32)), (0, .ref (X.B + l0))]) ok dX3_begin_14 rfl (by decide) rfl ?_
  have hJ : J X 3 15 [(0, .ref (X.B + l0)), (1, .int (0 : Int32))] [] q3.2 := j_loop (loc := fun s : Int32 => [(0, .ref (X.B + l0)), (1, .int s)]) (F := (finV X)) (fun s G r G' hb hk => jX3_begin_15 ok l0 s G hb hk) _ _ _ _ _ h hK
  exact J.sub [1, 0] rfl hJ

def fX3_begin (l0 : Nat) (G : Mem) : Option (Unit × Mem) := fX3_begin_0 l0 G
set_option maxRecDepth 100000 in
theorem tX3_begin {l : Launch} (hfl : l.stackTraces = false) (V : Wd) (l0 : Nat) (G : Mem) {r : Unit} {G' : Mem} (h : fX3_begin l0 G = some (r, G')) : Mx l yX3_begin cX3_begin 3 none 2 120 V [.ref (V.B + l0)] G (.inl none) G' :=
  mx_of (L := [(0, .ref (V.B + l0))]) hfl (by decide +kernel) (Nat.le_of_ble_eq_true rfl) rfl (fun X hl hV hin ok he => by
    subst hl; subst hV
    exact J.sub [0] rfl (jX3_begin_0 ok l0 G h he))
def fX3_beginAnew_0 (l0 : Nat)  (G : Mem) : Option (Unit × Mem) :=
  (gR G 13 l0 0).bind fun v1 =>
  ck G 10 v1 <| (fX0_resize v1 (4 : Int32) (4 : Int32) G).bind fun q2 =>
  (gR q2.2 13 l0 0).bind fun v3 =>
  ck q2.2 10 v3 <| (fX0_put v3 (0 : Int32) (0 : Int32) (1 : Int32) q2.2).bind fun q4 =>
  (gR q4.2 13 l0 0).bind fun v5 =>
  (fX6_contentOf (0 : Int32) (2 : Int32) q4.2).bind fun q6 =>
  ck q6.2 10 v5 <| (fX0_put v5 (1 : Int32) (0 : Int32) q6.1 q6.2).bind fun q7 =>
  (gR q7.2 13 l0 0).bind fun v8 =>
  (fX6_contentOf (0 : Int32) (2 : Int32) q7.2).bind fun q9 =>
  ck q9.2 10 v8 <| (fX0_put v8 (3 : Int32) (1 : Int32) q9.1 q9.2).bind fun q10 =>
  (gR q10.2 13 l0 0).bind fun v11 =>
  (fX6_contentOf (0 : Int32) (4 : Int32) q10.2).bind fun q12 =>
  ck q12.2 10 v11 <| (fX0_put v11 (2 : Int32) (0 : Int32) q12.1 q12.2).bind fun q13 =>
  (gR q13.2 13 l0 0).bind fun v14 =>
  ck q13.2 10 v14 <| (fX0_put v14 (3 : Int32) (3 : Int32) (9 : Int32) q13.2).bind fun q15 =>
  (gR q15.2 13 l0 0).bind fun v16 =>
  (fX6_contentOf (1 : Int32) (3 : Int32) q15.2).bind fun q17 =>
  ck q17.2 10 v16 <| (fX0_put v16 (0 : Int32) (3 : Int32) q17.1 q17.2).bind fun q18 =>
  (gR q18.2 13 l0 0).bind fun v19 =>
  (fX6_contentOf (1 : Int32) (4 : Int32) q18.2).bind fun q20 =>
  ck q20.2 10 v19 <| (fX0_put v19 (1 : Int32) (3 : Int32) q20.1 q20.2).bind fun q21 =>
  ck q21.2 13 l0 <| (fX3_begin l0 q21.2).bind fun q22 =>
  some ((), q22.2)

set_option maxRecDepth 100000 in
set_option maxHeartbeats 4000000 in
theorem jX3_beginAnew_0 {X : Cx} (ok : OK X cX3_beginAnew RX3 none 1 3 142) (l0 : Nat)  (G : Mem) {r : Unit} {G' : Mem} (h : fX3_beginAnew_0 l0 G = some (r, G')) (hK : (finV X) r G') : J X 1 0 [(0, .ref (X.B + l0))] [] G := by
  unfold fX3_beginAnew_0 at h
  refine j_aload_n ok dX3_beginAnew_0 rfl 0 rfl ?_
  obtain ⟨v1, hv1, h⟩ := obind h
  refine k_getR ok fl_X3_12 hv1 dX3_beginAnew_1 ?_
  refine j_iconst (v := 4) ok dX3_beginAnew_4 (by decide) ?_
  refine j_iconst (v := 4) ok dX3_beginAnew_5 (by decide) ?_
  obtain ⟨kq2, h⟩ := ck_some h
  obtain ⟨q2, hq2, h⟩ := obind h
  refine k_V0 ok kl_X3_49 ⟨Nat.le_of_ble_eq_true rfl, Nat.le_of_ble_eq_true rfl⟩ [.int (4 : Int32), .int (4 : Int32)] kq2 rfl rfl (Nat.le_of_ble_eq_true rfl) (tX0_resize ok.fl X.V v1 (4 : Int32) (4 : Int32) G hq2) dX3_beginAnew_6 ?_
  refine j_aload_n ok dX3_beginAnew_9 rfl 0 rfl ?_
  obtain ⟨v3, hv3, h⟩ := obind h
  refine k_getR ok fl_X3_12 hv3 dX3_beginAnew_10 ?_
  refine j_iconst (v := 0) ok dX3_beginAnew_13 (by decide) ?_
  refine j_iconst (v := 0) ok dX3_beginAnew_14 (by decide) ?_
  refine j_iconst (v := 1) ok dX3_beginAnew_15 (by decide) ?_
  obtain ⟨kq4, h⟩ := ck_some h
  obtain ⟨q4, hq4, h⟩ := obind h
  refine k_V0 ok kl_X3_53 ⟨Nat.le_of_ble_eq_true rfl, Nat.le_of_ble_eq_true rfl⟩ [.int (0 : Int32), .int (0 : Int32), .int (1 : Int32)] kq4 rfl rfl (Nat.le_of_ble_eq_true rfl) (tX0_put ok.fl X.V v3 (0 : Int32) (0 : Int32) (1 : Int32) q2.2 hq4) dX3_beginAnew_16 ?_
  refine j_aload_n ok dX3_beginAnew_19 rfl 0 rfl ?_
  obtain ⟨v5, hv5, h⟩ := obind h
  refine k_getR ok fl_X3_12 hv5 dX3_beginAnew_20 ?_
  refine j_iconst (v := 1) ok dX3_beginAnew_23 (by decide) ?_
  refine j_iconst (v := 0) ok dX3_beginAnew_24 (by decide) ?_
  refine j_iconst (v := 0) ok dX3_beginAnew_25 (by decide) ?_
  refine j_iconst (v := 2) ok dX3_beginAnew_26 (by decide) ?_
  obtain ⟨q6, hq6, h⟩ := obind h
  refine k_N1 ok kl_X3_57 ⟨Nat.le_of_ble_eq_true rfl, Nat.le_of_ble_eq_true rfl⟩ [.int (0 : Int32), .int (2 : Int32)] rfl rfl (Nat.le_of_ble_eq_true rfl) (tX6_contentOf ok.fl X.V (0 : Int32) (2 : Int32) q4.2 hq6) dX3_beginAnew_27 ?_
  obtain ⟨kq7, h⟩ := ck_some h
  obtain ⟨q7, hq7, h⟩ := obind h
  refine k_V0 ok kl_X3_53 ⟨Nat.le_of_ble_eq_true rfl, Nat.le_of_ble_eq_true rfl⟩ [.int (1 : Int32), .int (0 : Int32), .int q6.1] kq7 rfl rfl (Nat.le_of_ble_eq_true rfl) (tX0_put ok.fl X.V v5 (1 : Int32) (0 : Int32) q6.1 q6.2 hq7) dX3_beginAnew_30 ?_
  refine j_aload_n ok dX3_beginAnew_33 rfl 0 rfl ?_
  obtain ⟨v8, hv8, h⟩ := obind h
  refine k_getR ok fl_X3_12 hv8 dX3_beginAnew_34 ?_
  refine j_iconst (v := 3) ok dX3_beginAnew_37 (by decide) ?_
  refine j_iconst (v := 1) ok dX3_beginAnew_38 (by decide) ?_
  refine j_iconst (v := 0) ok dX3_beginAnew_39 (by decide) ?_
  refine j_iconst (v := 2) ok dX3_beginAnew_40 (by decide) ?_
  obtain ⟨q9, hq9, h⟩ := obind h
  refine k_N1 ok kl_X3_57 ⟨Nat.le_of_ble_eq_true rfl, Nat.le_of_ble_eq_true rfl⟩ [.int (0 : Int32), .int (2 : Int32)] rfl rfl (Nat.le_of_ble_eq_true rfl) (tX6_contentOf ok.fl X.V (0 : Int32) (2 : Int32) q7.2 hq9) dX3_beginAnew_41 ?_
  obtain ⟨kq10, h⟩ := ck_some h
  obtain ⟨q10, hq10, h⟩ := obind h
  refine k_V0 ok kl_X3_53 ⟨Nat.le_of_ble_eq_true rfl, Nat.le_of_ble_eq_true rfl⟩ [.int (3 : Int32), .int (1 : Int32), .int q9.1] kq10 rfl rfl (Nat.le_of_ble_eq_true rfl) (tX0_put ok.fl X.V v8 (3 : Int32) (1 : Int32) q9.1 q9.2 hq10) dX3_beginAnew_44 ?_
  refine j_aload_n ok dX3_beginAnew_47 rfl 0 rfl ?_
  obtain ⟨v11, hv11, h⟩ := obind h
  refine k_getR ok fl_X3_12 hv11 dX3_beginAnew_48 ?_
  refine j_iconst (v := 2) ok dX3_beginAnew_51 (by decide) ?_
  refine j_iconst (v := 0) ok dX3_beginAnew_52 (by decide) ?_
  refine j_iconst (v := 0) ok dX3_beginAnew_53 (by decide) ?_
  refine j_iconst (v := 4) ok dX3_beginAnew_54 (by decide) ?_
  obtain ⟨q12, hq12, h⟩ := obind h
  refine k_N1 ok kl_X3_57 ⟨Nat.le_of_ble_eq_true rfl, Nat.le_of_ble_eq_true rfl⟩ [.int (0 : Int32), .int (4 : Int32)] rfl rfl (Nat.le_of_ble_eq_true rfl) (tX6_contentOf ok.fl X.V (0 : Int32) (4 : Int32) q10.2 hq12) dX3_beginAnew_55 ?_
  obtain ⟨kq13, h⟩ := ck_some h
  obtain ⟨q13, hq13, h⟩ := obind h
  refine k_V0 ok kl_X3_53 ⟨Nat.le_of_ble_eq_true rfl, Nat.le_of_ble_eq_true rfl⟩ [.int (2 : Int32), .int (0 : Int32), .int q12.1] kq13 rfl rfl (Nat.le_of_ble_eq_true rfl) (tX0_put ok.fl X.V v11 (2 : Int32) (0 : Int32) q12.1 q12.2 hq13) dX3_beginAnew_58 ?_
  refine j_aload_n ok dX3_beginAnew_61 rfl 0 rfl ?_
  obtain ⟨v14, hv14, h⟩ := obind h
  refine k_getR ok fl_X3_12 hv14 dX3_beginAnew_62 ?_
  refine j_iconst (v := 3) ok dX3_beginAnew_65 (by decide) ?_
  refine j_iconst (v := 3) ok dX3_beginAnew_66 (by decide) ?_
  refine j_bipush (v := 9) ok dX3_beginAnew_67 (by decide) ?_
  obtain ⟨kq15, h⟩ := ck_some h
  obtain ⟨q15, hq15, h⟩ := obind h
  refine k_V0 ok kl_X3_53 ⟨Nat.le_of_ble_eq_true rfl, Nat.le_of_ble_eq_true rfl⟩ [.int (3 : Int32), .int (3 : Int32), .int (9 : Int32)] kq15 rfl rfl (Nat.le_of_ble_eq_true rfl) (tX0_put ok.fl X.V v14 (3 : Int32) (3 : Int32) (9 : Int32) q13.2 hq15) dX3_beginAnew_69 ?_
  refine j_aload_n ok dX3_beginAnew_72 rfl 0 rfl ?_
  obtain ⟨v16, hv16, h⟩ := obind h
  refine k_getR ok fl_X3_12 hv16 dX3_beginAnew_73 ?_
  refine j_iconst (v := 0) ok dX3_beginAnew_76 (by decide) ?_
  refine j_iconst (v := 3) ok dX3_beginAnew_77 (by decide) ?_
  refine j_iconst (v := 1) ok dX3_beginAnew_78 (by decide) ?_
  refine j_iconst (v := 3) ok dX3_beginAnew_79 (by decide) ?_
  obtain ⟨q17, hq17, h⟩ := obind h
  refine k_N1 ok kl_X3_57 ⟨Nat.le_of_ble_eq_true rfl, Nat.le_of_ble_eq_true rfl⟩ [.int (1 : Int32), .int (3 : Int32)] rfl rfl (Nat.le_of_ble_eq_true rfl) (tX6_contentOf ok.fl X.V (1 : Int32) (3 : Int32) q15.2 hq17) dX3_beginAnew_80 ?_
  obtain ⟨kq18, h⟩ := ck_some h
  obtain ⟨q18, hq18, h⟩ := obind h
  refine k_V0 ok kl_X3_53 ⟨Nat.le_of_ble_eq_true rfl, Nat.le_of_ble_eq_true rfl⟩ [.int (0 : Int32), .int (3 : Int32), .int q17.1] kq18 rfl rfl (Nat.le_of_ble_eq_true rfl) (tX0_put ok.fl X.V v16 (0 : Int32) (3 : Int32) q17.1 q17.2 hq18) dX3_beginAnew_83 ?_
  refine j_aload_n ok dX3_beginAnew_86 rfl 0 rfl ?_
  obtain ⟨v19, hv19, h⟩ := obind h
  refine k_getR ok fl_X3_12 hv19 dX3_beginAnew_87 ?_
  refine j_iconst (v := 1) ok dX3_beginAnew_90 (by decide) ?_
  refine j_iconst (v := 3) ok dX3_beginAnew_91 (by decide) ?_
  refine j_iconst (v := 1) ok dX3_beginAnew_92 (by decide) ?_
  refine j_iconst (v := 4) ok dX3_beginAnew_93 (by decide) ?_
  obtain ⟨q20, hq20, h⟩ := obind h
  refine k_N1 ok kl_X3_57 ⟨Nat.le_of_ble_eq_true rfl, Nat.le_of_ble_eq_true rfl⟩ [.int (1 : Int32), .int (4 : Int32)] rfl rfl (Nat.le_of_ble_eq_true rfl) (tX6_contentOf ok.fl X.V (1 : Int32) (4 : Int32) q18.2 hq20) dX3_beginAnew_94 ?_
  obtain ⟨kq21, h⟩ := ck_some h
  obtain ⟨q21, hq21, h⟩ := obind h
  refine k_V0 ok kl_X3_53 ⟨Nat.le_of_ble_eq_true rfl, Nat.le_of_ble_eq_true rfl⟩ [.int (1 : Int32), .int (3 : Int32), .int q20.1] kq21 rfl rfl (Nat.le_of_ble_eq_true rfl) (tX0_put ok.fl X.V v19 (1 : Int32) (3 : Int32) q20.1 q20.2 hq21) dX3_beginAnew_97 ?_
  refine j_aload_n ok dX3_beginAnew_100 rfl 0 rfl ?_
  obtain ⟨kq22, h⟩ := ck_some h
  obtain ⟨q22, hq22, h⟩ := obind h
  refine k_V0 ok kl_X3_61 ⟨Nat.le_of_ble_eq_true rfl, Nat.le_of_ble_eq_true rfl⟩ [] kq22 rfl rfl (Nat.le_of_ble_eq_true rfl) (tX3_begin ok.fl X.V l0 q21.2 hq22) dX3_beginAnew_101 ?_
  obtain ⟨er, eG⟩ := inj2 h
  subst er; subst eG
  exact j_vret ok rfl dX3_beginAnew_104 hK

def fX3_beginAnew (l0 : Nat) (G : Mem) : Option (Unit × Mem) := fX3_beginAnew_0 l0 G
set_option maxRecDepth 100000 in
theorem tX3_beginAnew {l : Launch} (hfl : l.stackTraces = false) (V : Wd) (l0 : Nat) (G : Mem) {r : Unit} {G' : Mem} (h : fX3_beginAnew l0 G = some (r, G')) : Mx l yX3_beginAnew cX3_beginAnew 1 none 3 142 V [.ref (V.B + l0)] G (.inl none) G' :=
  mx_of (L := [(0, .ref (V.B + l0))]) hfl (by decide +kernel) (Nat.le_of_ble_eq_true rfl) rfl (fun X hl hV hin ok he => by
    subst hl; subst hV
    exact J.sub [0] rfl (jX3_beginAnew_0 ok l0 G h he))
def fX3_cellOf_40  (s0 : Int32) (G : Mem) : Option (Int32 × Mem) :=
  some (s0, G)

set_option maxRecDepth 100000 in
set_option maxHeartbeats 4000000 in
theorem jX3_cellOf_40 {X : Cx} (ok : OK X cX3_cellOf RX3 (some .int) 3 0 0)  (s0 : Int32) (G : Mem) {r : Int32} {G' : Mem} (h : fX3_cellOf_40 s0 G = some (r, G')) (hK : (finI X) r G') : J X 3 40 [] [.int s0] G := by
  unfold fX3_cellOf_40 at h
  obtain ⟨er, eG⟩ := inj2 h
  subst er; subst eG
  exact j_iret ok rfl dX3_cellOf_40 hK

def fX3_cellOf_25 (l0 : Int32) (l1 : Int32) (s0 : Int32) (G : Mem) : Option (Int32 × Mem) :=
  if s0 = (0 : Int32) then
    fX3_cellOf_40 (-1 : Int32) G
  else
    fX3_cellOf_40 ((l0 * (40 : Int32)) + l1) G

set_option maxRecDepth 100000 in
set_option maxHeartbeats 4000000 in
theorem jX3_cellOf_25 {X : Cx} (ok : OK X cX3_cellOf RX3 (some .int) 3 0 0) (l0 : Int32) (l1 : Int32) (s0 : Int32) (G : Mem) {r : Int32} {G' : Mem} (h : fX3_cellOf_25 l0 l1 s0 G = some (r, G')) (hK : (finI X) r G') : J X 3 25 [(0, .int l0), (1, .int l1)] [.int s0] G := by
  unfold fX3_cellOf_25 at h
  refine j_istore_n (L' := [(2, .int s0), (0, .int l0), (1, .int l1)]) ok dX3_cellOf_25 rfl (by decide) rfl ?_
  refine j_iload_n ok dX3_cellOf_26 rfl 0 rfl ?_
  rcases ite_some h with ⟨c1, h⟩ | ⟨c1, h⟩
  · refine j_if_eq (tgt := 39) ok dX3_cellOf_27 (by decide) (fun _ => ?_) (fun z => absurd c1 z)
    refine j_iconst (v := -1) ok dX3_cellOf_39 (by decide) ?_
    exact J.sub [] rfl (jX3_cellOf_40 ok (-1 : Int32) G h hK)
  · refine j_if_eq (tgt := 39) ok dX3_cellOf_27 (by decide) (fun z => absurd z c1) (fun _ => ?_)
    refine j_iload_n ok dX3_cellOf_30 rfl 1 rfl ?_
    refine j_bipush (v := 40) ok dX3_cellOf_31 (by decide) ?_
    refine j_imul ok dX3_cellOf_33 ?_
    refine j_iload_n ok dX3_cellOf_34 rfl 2 rfl ?_
    refine j_iadd ok dX3_cellOf_35 ?_
    refine j_goto (tgt := 40) ok dX3_cellOf_36 (by decide) ?_
    exact J.sub [] rfl (jX3_cellOf_40 ok ((l0 * (40 : Int32)) + l1) G h hK)

def fX3_cellOf_24 (l0 : Int32) (l1 : Int32)  (G : Mem) : Option (Int32 × Mem) :=
  fX3_cellOf_25 l0 l1 (0 : Int32) G

set_option maxRecDepth 100000 in
set_option maxHeartbeats 4000000 in
theorem jX3_cellOf_24 {X : Cx} (ok : OK X cX3_cellOf RX3 (some .int) 3 0 0) (l0 : Int32) (l1 : Int32)  (G : Mem) {r : Int32} {G' : Mem} (h : fX3_cellOf_24 l0 l1 G = some (r, G')) (hK : (finI X) r G') : J X 3 24 [(0, .int l0), (1, .int l1)] [] G := by
  unfold fX3_cellOf_24 at h
  refine j_iconst (v := 0) ok dX3_cellOf_24 (by decide) ?_
  exact J.sub [0, 1] rfl (jX3_cellOf_25 ok l0 l1 (0 : Int32) G h hK)

def fX3_cellOf_0 (l0 : Int32) (l1 : Int32)  (G : Mem) : Option (Int32 × Mem) :=
  if l0 < (0 : Int32) then
    fX3_cellOf_24 l0 l1 G
  else
    if (11 : Int32) ≤ l0 then
      fX3_cellOf_24 l0 l1 G
    else
      if l1 < (0 : Int32) then
        fX3_cellOf_24 l0 l1 G
      else
        if (40 : Int32) ≤ l1 then
          fX3_cellOf_24 l0 l1 G
        else
          fX3_cellOf_25 l0 l1 (1 : Int32) G

set_option maxRecDepth 100000 in
set_option maxHeartbeats 4000000 in
theorem jX3_cellOf_0 {X : Cx} (ok : OK X cX3_cellOf RX3 (some .int) 3 0 0) (l0 : Int32) (l1 : Int32)  (G : Mem) {r : Int32} {G' : Mem} (h : fX3_cellOf_0 l0 l1 G = some (r, G')) (hK : (finI X) r G') : J X 3 0 [(0, .int l0), (1, .int l1)] [] G := by
  unfold fX3_cellOf_0 at h
  refine j_iload_n ok dX3_cellOf_0 rfl 0 rfl ?_
  rcases ite_some h with ⟨c1, h⟩ | ⟨c1, h⟩
  · refine j_if_lt (tgt := 24) ok dX3_cellOf_1 (by decide) (fun _ => ?_) (fun z => absurd c1 z)
    exact J.sub [0, 1] rfl (jX3_cellOf_24 ok l0 l1 G h hK)
  · refine j_if_lt (tgt := 24) ok dX3_cellOf_1 (by decide) (fun z => absurd z c1) (fun _ => ?_)
    refine j_iload_n ok dX3_cellOf_4 rfl 0 rfl ?_
    refine j_bipush (v := 11) ok dX3_cellOf_5 (by decide) ?_
    rcases ite_some h with ⟨c2, h⟩ | ⟨c2, h⟩
    · refine j_icmp_ge (tgt := 24) ok dX3_cellOf_7 (by decide) (fun _ => ?_) (fun z => absurd c2 z)
      exact J.sub [0, 1] rfl (jX3_cellOf_24 ok l0 l1 G h hK)
    · refine j_icmp_ge (tgt := 24) ok dX3_cellOf_7 (by decide) (fun z => absurd z c2) (fun _ => ?_)
      refine j_iload_n ok dX3_cellOf_10 rfl 1 rfl ?_
      rcases ite_some h with ⟨c3, h⟩ | ⟨c3, h⟩
      · refine j_if_lt (tgt := 24) ok dX3_cellOf_11 (by decide) (fun _ => ?_) (fun z => absurd c3 z)
        exact J.sub [0, 1] rfl (jX3_cellOf_24 ok l0 l1 G h hK)
      · refine j_if_lt (tgt := 24) ok dX3_cellOf_11 (by decide) (fun z => absurd z c3) (fun _ => ?_)
        refine j_iload_n ok dX3_cellOf_14 rfl 1 rfl ?_
        refine j_bipush (v := 40) ok dX3_cellOf_15 (by decide) ?_
        rcases ite_some h with ⟨c4, h⟩ | ⟨c4, h⟩
        · refine j_icmp_ge (tgt := 24) ok dX3_cellOf_17 (by decide) (fun _ => ?_) (fun z => absurd c4 z)
          exact J.sub [0, 1] rfl (jX3_cellOf_24 ok l0 l1 G h hK)
        · refine j_icmp_ge (tgt := 24) ok dX3_cellOf_17 (by decide) (fun z => absurd z c4) (fun _ => ?_)
          refine j_iconst (v := 1) ok dX3_cellOf_20 (by decide) ?_
          refine j_goto (tgt := 25) ok dX3_cellOf_21 (by decide) ?_
          exact J.sub [0, 1] rfl (jX3_cellOf_25 ok l0 l1 (1 : Int32) G h hK)

def fX3_cellOf (l0 : Int32) (l1 : Int32) (G : Mem) : Option (Int32 × Mem) := fX3_cellOf_0 l0 l1 G
set_option maxRecDepth 100000 in
theorem tX3_cellOf {l : Launch} (hfl : l.stackTraces = false) (V : Wd) (l0 : Int32) (l1 : Int32) (G : Mem) {r : Int32} {G' : Mem} (h : fX3_cellOf l0 l1 G = some (r, G')) : Mx l yX3_cellOf cX3_cellOf 3 (some .int) 0 0 V [.int l0, .int l1] G (.inl (some (.int r))) G' :=
  mx_of (L := [(0, .int l0), (1, .int l1)]) hfl (by decide +kernel) (Nat.le_of_ble_eq_true rfl) rfl (fun X hl hV hin ok he => by
    subst hl; subst hV
    exact J.sub [0, 1] rfl (jX3_cellOf_0 ok l0 l1 G h he))
def fX3_read_29   (G : Mem) : Option (Int32 × Mem) :=
  some ((0 : Int32), G)

set_option maxRecDepth 100000 in
set_option maxHeartbeats 4000000 in
theorem jX3_read_29 {X : Cx} (ok : OK X cX3_read RX3 (some .int) 6 1 22)   (G : Mem) {r : Int32} {G' : Mem} (h : fX3_read_29  G = some (r, G')) (hK : (finI X) r G') : J X 6 29 [] [] G := by
  unfold fX3_read_29 at h
  refine j_iconst (v := 0) ok dX3_read_29 (by decide) ?_
  obtain ⟨er, eG⟩ := inj2 h
  subst er; subst eG
  exact j_iret ok rfl dX3_read_30 hK

def fX3_read_0 (l0 : Nat) (l1 : Int32) (l2 : Int32) (l3 : Int32)  (G : Mem) : Option (Int32 × Mem) :=
  (fX3_cellOf l1 l2 G).bind fun q1 =>
  if q1.1 = (-1 : Int32) then
    fX3_read_29 q1.2
  else
    if (l3 >>> ((4 : Int32) &&& 31)) < (0 : Int32) then
      fX3_read_29 q1.2
    else
      if (l3 >>> ((4 : Int32) &&& 31)) < (3 : Int32) then
        (gR q1.2 13 l0 5).bind fun v5 =>
        (gJ q1.2 v5 ((q1.1 * (3 : Int32)) + (l3 >>> ((4 : Int32) &&& 31)))).bind fun v6 =>
        (fX3_shiftOf l3 q1.2).bind fun q7 =>
        some (((((v6.toUInt64 >>> (q7.1.toInt64.toUInt64 &&& Int64.toUInt64 63)).toInt64) &&& (15 : Int64)).toInt32), q7.2)
      else
        fX3_read_29 q1.2

set_option maxRecDepth 100000 in
set_option maxHeartbeats 4000000 in
theorem jX3_read_0 {X : Cx} (ok : OK X cX3_read RX3 (some .int) 6 1 22) (l0 : Nat) (l1 : Int32) (l2 : Int32) (l3 : Int32)  (G : Mem) {r : Int32} {G' : Mem} (h : fX3_read_0 l0 l1 l2 l3 G = some (r, G')) (hK : (finI X) r G') : J X 6 0 [(0, .ref (X.B + l0)), (1, .int l1), (2, .int l2), (3, .int l3)] [] G := by
  unfold fX3_read_0 at h
  refine j_iload_n ok dX3_read_0 rfl 1 rfl ?_
  refine j_iload_n ok dX3_read_1 rfl 2 rfl ?_
  obtain ⟨q1, hq1, h⟩ := obind h
  refine k_S1 ok kl_X3_132 ⟨Nat.le_of_ble_eq_true rfl, Nat.le_of_ble_eq_true rfl⟩ [.int l1, .int l2] rfl rfl (Nat.le_of_ble_eq_true rfl) (tX3_cellOf ok.fl X.V l1 l2 G hq1) dX3_read_2 ?_
  refine j_istore (L' := [(4, .int q1.1), (0, .ref (X.B + l0)), (1, .int l1), (2, .int l2), (3, .int l3)]) ok dX3_read_5 (by decide) rfl ?_
  refine j_iload_n ok dX3_read_7 rfl 4 rfl ?_
  refine j_iconst (v := 4) ok dX3_read_8 (by decide) ?_
  refine j_ishr ok dX3_read_9 ?_
  refine j_istore (L' := [(5, .int (l3 >>> ((4 : Int32) &&& 31))), (4, .int q1.1), (0, .ref (X.B + l0)), (1, .int l1), (2, .int l2), (3, .int l3)]) ok dX3_read_10 (by decide) rfl ?_
  refine j_iload ok dX3_read_12 1 rfl ?_
  refine j_iconst (v := -1) ok dX3_read_14 (by decide) ?_
  rcases ite_some h with ⟨c2, h⟩ | ⟨c2, h⟩
  · refine j_icmp_eq (tgt := 29) ok dX3_read_15 (by decide) (fun _ => ?_) (fun z => absurd c2 z)
    exact J.sub [] rfl (jX3_read_29 ok q1.2 h hK)
  · refine j_icmp_eq (tgt := 29) ok dX3_read_15 (by decide) (fun z => absurd z c2) (fun _ => ?_)
    refine j_iload ok dX3_read_18 0 rfl ?_
    rcases ite_some h with ⟨c3, h⟩ | ⟨c3, h⟩
    · refine j_if_lt (tgt := 29) ok dX3_read_20 (by decide) (fun _ => ?_) (fun z => absurd c3 z)
      exact J.sub [] rfl (jX3_read_29 ok q1.2 h hK)
    · refine j_if_lt (tgt := 29) ok dX3_read_20 (by decide) (fun z => absurd z c3) (fun _ => ?_)
      refine j_iload ok dX3_read_23 0 rfl ?_
      refine j_iconst (v := 3) ok dX3_read_25 (by decide) ?_
      rcases ite_some h with ⟨c4, h⟩ | ⟨c4, h⟩
      · refine j_icmp_lt (tgt := 31) ok dX3_read_26 (by decide) (fun _ => ?_) (fun z => absurd c4 z)
        refine j_aload_n ok dX3_read_31 rfl 2 rfl ?_
        obtain ⟨v5, hv5, h⟩ := obind h
        refine k_getR ok fl_X3_36 hv5 dX3_read_32 ?_
        refine j_iload ok dX3_read_35 1 rfl ?_
        refine j_iconst (v := 3) ok dX3_read_37 (by decide) ?_
        refine j_imul ok dX3_read_38 ?_
        refine j_iload ok dX3_read_39 0 rfl ?_
        refine j_iadd ok dX3_read_41 ?_
        obtain ⟨v6, hv6, h⟩ := obind h
        refine j_lald ok hv6 dX3_read_42 ?_
        refine j_iload_n ok dX3_read_43 rfl 5 rfl ?_
        obtain ⟨q7, hq7, h⟩ := obind h
        refine k_S1 ok kl_X3_142 ⟨Nat.le_of_ble_eq_true rfl, Nat.le_of_ble_eq_true rfl⟩ [.int l3] rfl rfl (Nat.le_of_ble_eq_true rfl) (tX3_shiftOf ok.fl X.V l3 q1.2 hq7) dX3_read_44 ?_
        refine j_lushr ok dX3_read_47 ?_
        refine j_ldc2 ok wK_X3_145 dX3_read_48 ?_
        refine j_land ok dX3_read_51 ?_
        refine j_l2i ok dX3_read_52 ?_
        obtain ⟨er, eG⟩ := inj2 h
        subst er; subst eG
        exact j_iret ok rfl dX3_read_53 hK
      · refine j_icmp_lt (tgt := 31) ok dX3_read_26 (by decide) (fun z => absurd z c4) (fun _ => ?_)
        exact J.sub [] rfl (jX3_read_29 ok q1.2 h hK)

def fX3_read (l0 : Nat) (l1 : Int32) (l2 : Int32) (l3 : Int32) (G : Mem) : Option (Int32 × Mem) := fX3_read_0 l0 l1 l2 l3 G
set_option maxRecDepth 100000 in
theorem tX3_read {l : Launch} (hfl : l.stackTraces = false) (V : Wd) (l0 : Nat) (l1 : Int32) (l2 : Int32) (l3 : Int32) (G : Mem) {r : Int32} {G' : Mem} (h : fX3_read l0 l1 l2 l3 G = some (r, G')) : Mx l yX3_read cX3_read 6 (some .int) 1 22 V [.ref (V.B + l0), .int l1, .int l2, .int l3] G (.inl (some (.int r))) G' :=
  mx_of (L := [(0, .ref (V.B + l0)), (1, .int l1), (2, .int l2), (3, .int l3)]) hfl (by decide +kernel) (Nat.le_of_ble_eq_true rfl) rfl (fun X hl hV hin ok he => by
    subst hl; subst hV
    exact J.sub [0, 1, 2, 3] rfl (jX3_read_0 ok l0 l1 l2 l3 G h he))
def fX3_contentAt_0 (l0 : Nat) (l1 : Int32) (l2 : Int32)  (G : Mem) : Option (Int32 × Mem) :=
  (gF G 13 l0 1).bind fun v1 =>
  ck G 13 l0 <| (fX3_read l0 v1 l1 l2 G).bind fun q2 =>
  some (q2.1, q2.2)

set_option maxRecDepth 100000 in
set_option maxHeartbeats 4000000 in
theorem jX3_contentAt_0 {X : Cx} (ok : OK X cX3_contentAt RX3 (some .int) 3 2 47) (l0 : Nat) (l1 : Int32) (l2 : Int32)  (G : Mem) {r : Int32} {G' : Mem} (h : fX3_contentAt_0 l0 l1 l2 G = some (r, G')) (hK : (finI X) r G') : J X 3 0 [(0, .ref (X.B + l0)), (1, .int l1), (2, .int l2)] [] G := by
  unfold fX3_contentAt_0 at h
  refine j_aload_n ok dX3_contentAt_0 rfl 0 rfl ?_
  refine j_aload_n ok dX3_contentAt_1 rfl 0 rfl ?_
  obtain ⟨v1, hv1, h⟩ := obind h
  refine k_getI ok fl_X3_18 hv1 dX3_contentAt_2 ?_
  refine j_iload_n ok dX3_contentAt_5 rfl 1 rfl ?_
  refine j_iload_n ok dX3_contentAt_6 rfl 2 rfl ?_
  obtain ⟨kq2, h⟩ := ck_some h
  obtain ⟨q2, hq2, h⟩ := obind h
  refine k_V1 ok kl_X3_124 ⟨Nat.le_of_ble_eq_true rfl, Nat.le_of_ble_eq_true rfl⟩ [.int v1, .int l1, .int l2] kq2 rfl rfl (Nat.le_of_ble_eq_true rfl) (tX3_read ok.fl X.V l0 v1 l1 l2 G hq2) dX3_contentAt_7 ?_
  obtain ⟨er, eG⟩ := inj2 h
  subst er; subst eG
  exact j_iret ok rfl dX3_contentAt_10 hK

def fX3_contentAt (l0 : Nat) (l1 : Int32) (l2 : Int32) (G : Mem) : Option (Int32 × Mem) := fX3_contentAt_0 l0 l1 l2 G
set_option maxRecDepth 100000 in
theorem tX3_contentAt {l : Launch} (hfl : l.stackTraces = false) (V : Wd) (l0 : Nat) (l1 : Int32) (l2 : Int32) (G : Mem) {r : Int32} {G' : Mem} (h : fX3_contentAt l0 l1 l2 G = some (r, G')) : Mx l yX3_contentAt cX3_contentAt 3 (some .int) 2 47 V [.ref (V.B + l0), .int l1, .int l2] G (.inl (some (.int r))) G' :=
  mx_of (L := [(0, .ref (V.B + l0)), (1, .int l1), (2, .int l2)]) hfl (by decide +kernel) (Nat.le_of_ble_eq_true rfl) rfl (fun X hl hV hin ok he => by
    subst hl; subst hV
    exact J.sub [0, 1, 2] rfl (jX3_contentAt_0 ok l0 l1 l2 G h he))
def fX3_copyFrom_159 (l0 : Nat) (l1 : Nat)  (G : Mem) : Option (Unit × Mem) :=
  (gR G 13 l1 8).bind fun v1 =>
  (gR G 13 l0 8).bind fun v2 =>
  (gR G 13 l0 7).bind fun v3 =>
  (gF G 13 l0 1).bind fun v4 =>
  (gA G 1 v3 v4).bind fun v5 =>
  (cpI G v1 (0 : Int32) v2 (0 : Int32) v5).bind fun G6 =>
  some ((), G6)

set_option maxRecDepth 100000 in
set_option maxHeartbeats 4000000 in
theorem jX3_copyFrom_159 {X : Cx} (ok : OK X cX3_copyFrom RX3 none 3 3 120) (l0 : Nat) (l1 : Nat)  (G : Mem) {r : Unit} {G' : Mem} (h : fX3_copyFrom_159 l0 l1 G = some (r, G')) (hK : (finV X) r G') : J X 3 159 [(0, .ref (X.B + l0)), (1, .ref (X.B + l1))] [] G := by
  unfold fX3_copyFrom_159 at h
  refine j_aload_n ok dX3_copyFrom_159 rfl 1 rfl ?_
  obtain ⟨v1, hv1, h⟩ := obind h
  refine k_getR ok fl_X3_45 hv1 dX3_copyFrom_160 ?_
  refine j_iconst (v := 0) ok dX3_copyFrom_163 (by decide) ?_
  refine j_aload_n ok dX3_copyFrom_164 rfl 0 rfl ?_
  obtain ⟨v2, hv2, h⟩ := obind h
  refine k_getR ok fl_X3_45 hv2 dX3_copyFrom_165 ?_
  refine j_iconst (v := 0) ok dX3_copyFrom_168 (by decide) ?_
  refine j_aload_n ok dX3_copyFrom_169 rfl 0 rfl ?_
  obtain ⟨v3, hv3, h⟩ := obind h
  refine k_getR ok fl_X3_42 hv3 dX3_copyFrom_170 ?_
  refine j_aload_n ok dX3_copyFrom_173 rfl 0 rfl ?_
  obtain ⟨v4, hv4, h⟩ := obind h
  refine k_getI ok fl_X3_18 hv4 dX3_copyFrom_174 ?_
  obtain ⟨v5, hv5, h⟩ := obind h
  refine j_iald ok hv5 dX3_copyFrom_177 ?_
  obtain ⟨G6, hG6, h⟩ := obind h
  refine k_cpI ok wm_X3_85 (Nat.le_of_ble_eq_true rfl) (Nat.le_of_ble_eq_true rfl) (Nat.le_of_ble_eq_true rfl) hG6 dX3_copyFrom_178 ?_
  obtain ⟨er, eG⟩ := inj2 h
  subst er; subst eG
  exact j_vret ok rfl dX3_copyFrom_181 hK

def fX3_copyFrom_60 (l0 : Nat) (l1 : Nat)  (G : Mem) : Option (Unit × Mem) :=
  (gF G 13 l0 1).bind fun v1 =>
  (gR G 13 l1 3).bind fun v2 =>
  (gR G 13 l0 3).bind fun v3 =>
  (cpI G v2 (0 : Int32) v3 (0 : Int32) (v1 + (1 : Int32))).bind fun G4 =>
  (gR G4 13 l1 4).bind fun v5 =>
  (gR G4 13 l0 4).bind fun v6 =>
  (cpJ G4 v5 (0 : Int32) v6 (0 : Int32) ((v1 + (1 : Int32)) * (40 : Int32))).bind fun G7 =>
  (gR G7 13 l1 5).bind fun v8 =>
  (gR G7 13 l0 5).bind fun v9 =>
  (cpJ G7 v8 (0 : Int32) v9 (0 : Int32) (((v1 + (1 : Int32)) * (40 : Int32)) * (3 : Int32))).bind fun G10 =>
  (gR G10 13 l1 7).bind fun v11 =>
  (gR G10 13 l0 7).bind fun v12 =>
  (cpI G10 v11 (0 : Int32) v12 (0 : Int32) (v1 + (1 : Int32))).bind fun G13 =>
  (gR G13 13 l0 8).bind fun v14 =>
  (gL G13 v14).bind fun v15 =>
  (gR G13 13 l0 7).bind fun v16 =>
  (gF G13 13 l0 1).bind fun v17 =>
  (gA G13 1 v16 v17).bind fun v18 =>
  if v18 ≤ v15 then
    fX3_copyFrom_159 l0 l1 G13
  else
    (gR G13 13 l1 8).bind fun v20 =>
    (gL G13 v20).bind fun v21 =>
    (nA G13 1 v21).bind fun q22 =>
    (pR q22.2 13 l0 8 q22.1).bind fun G23 =>
    fX3_copyFrom_159 l0 l1 G23

set_option maxRecDepth 100000 in
set_option maxHeartbeats 4000000 in
theorem jX3_copyFrom_60 {X : Cx} (ok : OK X cX3_copyFrom RX3 none 3 3 120) (l0 : Nat) (l1 : Nat)  (G : Mem) {r : Unit} {G' : Mem} (h : fX3_copyFrom_60 l0 l1 G = some (r, G')) (hK : (finV X) r G') : J X 3 60 [(0, .ref (X.B + l0)), (1, .ref (X.B + l1))] [] G := by
  unfold fX3_copyFrom_60 at h
  refine j_aload_n ok dX3_copyFrom_60 rfl 0 rfl ?_
  obtain ⟨v1, hv1, h⟩ := obind h
  refine k_getI ok fl_X3_18 hv1 dX3_copyFrom_61 ?_
  refine j_iconst (v := 1) ok dX3_copyFrom_64 (by decide) ?_
  refine j_iadd ok dX3_copyFrom_65 ?_
  refine j_istore_n (L' := [(2, .int (v1 + (1 : Int32))), (0, .ref (X.B + l0)), (1, .ref (X.B + l1))]) ok dX3_copyFrom_66 rfl (by decide) rfl ?_
  refine j_aload_n ok dX3_copyFrom_67 rfl 2 rfl ?_
  obtain ⟨v2, hv2, h⟩ := obind h
  refine k_getR ok fl_X3_28 hv2 dX3_copyFrom_68 ?_
  refine j_iconst (v := 0) ok dX3_copyFrom_71 (by decide) ?_
  refine j_aload_n ok dX3_copyFrom_72 rfl 1 rfl ?_
  obtain ⟨v3, hv3, h⟩ := obind h
  refine k_getR ok fl_X3_28 hv3 dX3_copyFrom_73 ?_
  refine j_iconst (v := 0) ok dX3_copyFrom_76 (by decide) ?_
  refine j_iload_n ok dX3_copyFrom_77 rfl 0 rfl ?_
  obtain ⟨G4, hG4, h⟩ := obind h
  refine k_cpI ok wm_X3_85 (Nat.le_of_ble_eq_true rfl) (Nat.le_of_ble_eq_true rfl) (Nat.le_of_ble_eq_true rfl) hG4 dX3_copyFrom_78 ?_
  refine j_aload_n ok dX3_copyFrom_81 rfl 2 rfl ?_
  obtain ⟨v5, hv5, h⟩ := obind h
  refine k_getR ok fl_X3_32 hv5 dX3_copyFrom_82 ?_
  refine j_iconst (v := 0) ok dX3_copyFrom_85 (by decide) ?_
  refine j_aload_n ok dX3_copyFrom_86 rfl 1 rfl ?_
  obtain ⟨v6, hv6, h⟩ := obind h
  refine k_getR ok fl_X3_32 hv6 dX3_copyFrom_87 ?_
  refine j_iconst (v := 0) ok dX3_copyFrom_90 (by decide) ?_
  refine j_iload_n ok dX3_copyFrom_91 rfl 0 rfl ?_
  refine j_bipush (v := 40) ok dX3_copyFrom_92 (by decide) ?_
  refine j_imul ok dX3_copyFrom_94 ?_
  obtain ⟨G7, hG7, h⟩ := obind h
  refine k_cpJ ok wm_X3_85 (Nat.le_of_ble_eq_true rfl) (Nat.le_of_ble_eq_true rfl) (Nat.le_of_ble_eq_true rfl) hG7 dX3_copyFrom_95 ?_
  refine j_aload_n ok dX3_copyFrom_98 rfl 2 rfl ?_
  obtain ⟨v8, hv8, h⟩ := obind h
  refine k_getR ok fl_X3_36 hv8 dX3_copyFrom_99 ?_
  refine j_iconst (v := 0) ok dX3_copyFrom_102 (by decide) ?_
  refine j_aload_n ok dX3_copyFrom_103 rfl 1 rfl ?_
  obtain ⟨v9, hv9, h⟩ := obind h
  refine k_getR ok fl_X3_36 hv9 dX3_copyFrom_104 ?_
  refine j_iconst (v := 0) ok dX3_copyFrom_107 (by decide) ?_
  refine j_iload_n ok dX3_copyFrom_108 rfl 0 rfl ?_
  refine j_bipush (v := 40) ok dX3_copyFrom_109 (by decide) ?_
  refine j_imul ok dX3_copyFrom_111 ?_
  refine j_iconst (v := 3) ok dX3_copyFrom_112 (by decide) ?_
  refine j_imul ok dX3_copyFrom_113 ?_
  obtain ⟨G10, hG10, h⟩ := obind h
  refine k_cpJ ok wm_X3_85 (Nat.le_of_ble_eq_true rfl) (Nat.le_of_ble_eq_true rfl) (Nat.le_of_ble_eq_true rfl) hG10 dX3_copyFrom_114 ?_
  refine j_aload_n ok dX3_copyFrom_117 rfl 2 rfl ?_
  obtain ⟨v11, hv11, h⟩ := obind h
  refine k_getR ok fl_X3_42 hv11 dX3_copyFrom_118 ?_
  refine j_iconst (v := 0) ok dX3_copyFrom_121 (by decide) ?_
  refine j_aload_n ok dX3_copyFrom_122 rfl 1 rfl ?_
  obtain ⟨v12, hv12, h⟩ := obind h
  refine k_getR ok fl_X3_42 hv12 dX3_copyFrom_123 ?_
  refine j_iconst (v := 0) ok dX3_copyFrom_126 (by decide) ?_
  refine j_iload_n ok dX3_copyFrom_127 rfl 0 rfl ?_
  obtain ⟨G13, hG13, h⟩ := obind h
  refine k_cpI ok wm_X3_85 (Nat.le_of_ble_eq_true rfl) (Nat.le_of_ble_eq_true rfl) (Nat.le_of_ble_eq_true rfl) hG13 dX3_copyFrom_128 ?_
  refine j_aload_n ok dX3_copyFrom_131 rfl 1 rfl ?_
  obtain ⟨v14, hv14, h⟩ := obind h
  refine k_getR ok fl_X3_45 hv14 dX3_copyFrom_132 ?_
  obtain ⟨v15, hv15, h⟩ := obind h
  refine j_alen ok hv15 dX3_copyFrom_135 ?_
  refine j_aload_n ok dX3_copyFrom_136 rfl 1 rfl ?_
  obtain ⟨v16, hv16, h⟩ := obind h
  refine k_getR ok fl_X3_42 hv16 dX3_copyFrom_137 ?_
  refine j_aload_n ok dX3_copyFrom_140 rfl 1 rfl ?_
  obtain ⟨v17, hv17, h⟩ := obind h
  refine k_getI ok fl_X3_18 hv17 dX3_copyFrom_141 ?_
  obtain ⟨v18, hv18, h⟩ := obind h
  refine j_iald ok hv18 dX3_copyFrom_144 ?_
  rcases ite_some h with ⟨c19, h⟩ | ⟨c19, h⟩
  · refine j_icmp_ge (tgt := 159) ok dX3_copyFrom_145 (by decide) (fun _ => ?_) (fun z => absurd c19 z)
    exact J.sub [1, 2] rfl (jX3_copyFrom_159 ok l0 l1 G13 h hK)
  · refine j_icmp_ge (tgt := 159) ok dX3_copyFrom_145 (by decide) (fun z => absurd z c19) (fun _ => ?_)
    refine j_aload_n ok dX3_copyFrom_148 rfl 1 rfl ?_
    refine j_aload_n ok dX3_copyFrom_149 rfl 2 rfl ?_
    obtain ⟨v20, hv20, h⟩ := obind h
    refine k_getR ok fl_X3_45 hv20 dX3_copyFrom_150 ?_
    obtain ⟨v21, hv21, h⟩ := obind h
    refine j_alen ok hv21 dX3_copyFrom_153 ?_
    obtain ⟨q22, hq22, h⟩ := obind h
    refine k_newaT ok (t := 1) (Or.inl ⟨rfl, rfl⟩) wa_1 hq22 dX3_copyFrom_154 ?_
    obtain ⟨G23, hG23, h⟩ := obind h
    refine k_putR ok fl_X3_45 fp_X3 rfl (Or.inr ⟨_, rfl⟩) (Or.inl rfl) hG23 dX3_copyFrom_156 ?_
    exact J.sub [1, 2] rfl (jX3_copyFrom_159 ok l0 l1 G23 h hK)

def fX3_copyFrom_31 (l0 : Nat) (l1 : Nat) (l2 : Int32)  (G : Mem) : Option (((Int32) ⊕ Unit) × Mem) :=
  (gF G 13 l0 1).bind fun v1 =>
  if v1 ≤ l2 then
    liftE (fX3_copyFrom_60 l0 l1 G)
  else
    (gR G 13 l0 2).bind fun v3 =>
    (gQ G 6 v3 l2).bind fun v4 =>
    (gR G 13 l1 2).bind fun v5 =>
    (gQ G 6 v5 l2).bind fun v6 =>
    ck G 11 v4 <| (fX1_copyFrom v4 v6 G).bind fun q7 =>
    some (.inl ((l2 + (1 : Int32))), q7.2)

set_option maxRecDepth 100000 in
set_option maxHeartbeats 4000000 in
theorem jX3_copyFrom_31 {X : Cx} (ok : OK X cX3_copyFrom RX3 none 3 3 120) (l0 : Nat) (l1 : Nat) (l2 : Int32)  (G : Mem) {r : ((Int32) ⊕ Unit)} {G' : Mem} (h : fX3_copyFrom_31 l0 l1 l2 G = some (r, G')) (hK : (finL X 3 31 (fun s : Int32 => [(0, .ref (X.B + l0)), (1, .ref (X.B + l1)), (2, .int s)]) (finV X)) r G') : J X 3 31 [(0, .ref (X.B + l0)), (1, .ref (X.B + l1)), (2, .int l2)] [] G := by
  unfold fX3_copyFrom_31 at h
  refine j_iload_n ok dX3_copyFrom_31 rfl 2 rfl ?_
  refine j_aload_n ok dX3_copyFrom_32 rfl 0 rfl ?_
  obtain ⟨v1, hv1, h⟩ := obind h
  refine k_getI ok fl_X3_18 hv1 dX3_copyFrom_33 ?_
  rcases ite_some h with ⟨c2, h⟩ | ⟨c2, h⟩
  · refine j_icmp_ge (tgt := 60) ok dX3_copyFrom_36 (by decide) (fun _ => ?_) (fun z => absurd c2 z)
    obtain ⟨r1, e1, h1⟩ := lift_some h
    subst e1
    exact J.sub [0, 1] rfl (jX3_copyFrom_60 ok l0 l1 G h1 hK)
  · refine j_icmp_ge (tgt := 60) ok dX3_copyFrom_36 (by decide) (fun z => absurd z c2) (fun _ => ?_)
    refine j_aload_n ok dX3_copyFrom_39 rfl 0 rfl ?_
    obtain ⟨v3, hv3, h⟩ := obind h
    refine k_getR ok fl_X3_24 hv3 dX3_copyFrom_40 ?_
    refine j_iload_n ok dX3_copyFrom_43 rfl 2 rfl ?_
    obtain ⟨v4, hv4, h⟩ := obind h
    refine j_aald ok (Or.inl rfl) hv4 dX3_copyFrom_44 ?_
    refine j_aload_n ok dX3_copyFrom_45 rfl 1 rfl ?_
    obtain ⟨v5, hv5, h⟩ := obind h
    refine k_getR ok fl_X3_24 hv5 dX3_copyFrom_46 ?_
    refine j_iload_n ok dX3_copyFrom_49 rfl 2 rfl ?_
    obtain ⟨v6, hv6, h⟩ := obind h
    refine j_aald ok (Or.inl rfl) hv6 dX3_copyFrom_50 ?_
    obtain ⟨kq7, h⟩ := ck_some h
    obtain ⟨q7, hq7, h⟩ := obind h
    refine k_V0 ok kl_X3_91 ⟨Nat.le_of_ble_eq_true rfl, Nat.le_of_ble_eq_true rfl⟩ [.ref (X.B + v6)] kq7 rfl rfl (Nat.le_of_ble_eq_true rfl) (tX1_copyFrom ok.fl X.V v4 v6 G hq7) dX3_copyFrom_51 ?_
    refine j_iinc (L' := [(2, .int (l2 + (1 : Int32))), (0, .ref (X.B + l0)), (1, .ref (X.B + l1))]) (v := (l2 + (1 : Int32))) ok dX3_copyFrom_54 (q := 2) rfl rfl (by decide) rfl ?_
    refine j_goto (tgt := 31) ok dX3_copyFrom_57 (by decide) ?_
    obtain ⟨er, eG⟩ := inj2 h
    subst er; subst eG
    have hJ : J X 3 31 [(0, .ref (X.B + l0)), (1, .ref (X.B + l1)), (2, .int (l2 + (1 : Int32)))] [] q7.2 := hK
    exact J.sub [1, 2, 0] rfl hJ

def fX3_copyFrom_0 (l0 : Nat) (l1 : Nat)  (G : Mem) : Option (Unit × Mem) :=
  (gR G 13 l0 0).bind fun v1 =>
  (gR G 13 l1 0).bind fun v2 =>
  (gF G 10 v2 0).bind fun v3 =>
  (gR G 13 l1 0).bind fun v4 =>
  (gF G 10 v4 1).bind fun v5 =>
  ck G 10 v1 <| (fX0_resize v1 v3 v5 G).bind fun q6 =>
  (gF q6.2 13 l1 1).bind fun v7 =>
  (pI q6.2 13 l0 1 v7).bind fun G8 =>
  loopM (fun (s : Int32) G => fX3_copyFrom_31 l0 l1 s G) FU ((0 : Int32)) G8

set_option maxRecDepth 100000 in
set_option maxHeartbeats 4000000 in
theorem jX3_copyFrom_0 {X : Cx} (ok : OK X cX3_copyFrom RX3 none 3 3 120) (l0 : Nat) (l1 : Nat)  (G : Mem) {r : Unit} {G' : Mem} (h : fX3_copyFrom_0 l0 l1 G = some (r, G')) (hK : (finV X) r G') : J X 3 0 [(0, .ref (X.B + l0)), (1, .ref (X.B + l1))] [] G := by
  unfold fX3_copyFrom_0 at h
  refine j_aload_n ok dX3_copyFrom_0 rfl 0 rfl ?_
  obtain ⟨v1, hv1, h⟩ := obind h
  refine k_getR ok fl_X3_12 hv1 dX3_copyFrom_1 ?_
  refine j_aload_n ok dX3_copyFrom_4 rfl 1 rfl ?_
  obtain ⟨v2, hv2, h⟩ := obind h
  refine k_getR ok fl_X3_12 hv2 dX3_copyFrom_5 ?_
  obtain ⟨v3, hv3, h⟩ := obind h
  refine k_getI ok fl_X3_73 hv3 dX3_copyFrom_8 ?_
  refine j_aload_n ok dX3_copyFrom_11 rfl 1 rfl ?_
  obtain ⟨v4, hv4, h⟩ := obind h
  refine k_getR ok fl_X3_12 hv4 dX3_copyFrom_12 ?_
  obtain ⟨v5, hv5, h⟩ := obind h
  refine k_getI ok fl_X3_70 hv5 dX3_copyFrom_15 ?_
  obtain ⟨kq6, h⟩ := ck_some h
  obtain ⟨q6, hq6, h⟩ := obind h
  refine k_V0 ok kl_X3_49 ⟨Nat.le_of_ble_eq_true rfl, Nat.le_of_ble_eq_true rfl⟩ [.int v3, .int v5] kq6 rfl rfl (Nat.le_of_ble_eq_true rfl) (tX0_resize ok.fl X.V v1 v3 v5 G hq6) dX3_copyFrom_18 ?_
  refine j_aload_n ok dX3_copyFrom_21 rfl 0 rfl ?_
  refine j_aload_n ok dX3_copyFrom_22 rfl 1 rfl ?_
  obtain ⟨v7, hv7, h⟩ := obind h
  refine k_getI ok fl_X3_18 hv7 dX3_copyFrom_23 ?_
  obtain ⟨G8, hG8, h⟩ := obind h
  refine k_putI ok fl_X3_18 fp_X3 rfl (Or.inl rfl) hG8 dX3_copyFrom_26 ?_
  refine j_iconst (v := 0) ok dX3_copyFrom_29 (by decide) ?_
  refine j_istore_n (L' := [(2, .int (0 : Int32)), (0, .ref (X.B + l0)), (1, .ref (X.B + l1))]) ok dX3_copyFrom_30 rfl (by decide) rfl ?_
  have hJ : J X 3 31 [(0, .ref (X.B + l0)), (1, .ref (X.B + l1)), (2, .int (0 : Int32))] [] G8 := j_loop (loc := fun s : Int32 => [(0, .ref (X.B + l0)), (1, .ref (X.B + l1)), (2, .int s)]) (F := (finV X)) (fun s G r G' hb hk => jX3_copyFrom_31 ok l0 l1 s G hb hk) _ _ _ _ _ h hK
  exact J.sub [1, 2, 0] rfl hJ

def fX3_copyFrom (l0 : Nat) (l1 : Nat) (G : Mem) : Option (Unit × Mem) := fX3_copyFrom_0 l0 l1 G
set_option maxRecDepth 100000 in
theorem tX3_copyFrom {l : Launch} (hfl : l.stackTraces = false) (V : Wd) (l0 : Nat) (l1 : Nat) (G : Mem) {r : Unit} {G' : Mem} (h : fX3_copyFrom l0 l1 G = some (r, G')) : Mx l yX3_copyFrom cX3_copyFrom 3 none 3 120 V [.ref (V.B + l0), .ref (V.B + l1)] G (.inl none) G' :=
  mx_of (L := [(0, .ref (V.B + l0)), (1, .ref (V.B + l1))]) hfl (by decide +kernel) (Nat.le_of_ble_eq_true rfl) rfl (fun X hl hV hin ok he => by
    subst hl; subst hV
    exact J.sub [0, 1] rfl (jX3_copyFrom_0 ok l0 l1 G h he))
def fX3_findReached_10   (G : Mem) : Option (Int32 × Mem) :=
  some ((-1 : Int32), G)

set_option maxRecDepth 100000 in
set_option maxHeartbeats 4000000 in
theorem jX3_findReached_10 {X : Cx} (ok : OK X cX3_findReached RX3 (some .int) 5 1 120)   (G : Mem) {r : Int32} {G' : Mem} (h : fX3_findReached_10  G = some (r, G')) (hK : (finI X) r G') : J X 5 10 [] [] G := by
  unfold fX3_findReached_10 at h
  refine j_iconst (v := -1) ok dX3_findReached_10 (by decide) ?_
  obtain ⟨er, eG⟩ := inj2 h
  subst er; subst eG
  exact j_iret ok rfl dX3_findReached_11 hK

def fX3_findReached_99 (l0 : Nat) (l1 : Int32) (l2 : Int32) (l3 : Int32)  (G : Mem) : Option (Int32 × Mem) :=
  if l2 < (40 : Int32) then
    (gR G 13 l0 6).bind fun v2 =>
    (gR G 13 l0 5).bind fun v3 =>
    (cpJ G v2 (0 : Int32) v3 l3 (3 : Int32)).bind fun G4 =>
    (gR G4 13 l0 4).bind fun v5 =>
    (pJ G4 v5 ((l1 * (40 : Int32)) + l2) (0 : Int64)).bind fun G6 =>
    (gR G6 13 l0 3).bind fun v7 =>
    (pA G6 v7 l1 (l2 + (1 : Int32))).bind fun G8 =>
    some (l2, G8)
  else
    some ((-1 : Int32), G)

set_option maxRecDepth 100000 in
set_option maxHeartbeats 4000000 in
theorem jX3_findReached_99 {X : Cx} (ok : OK X cX3_findReached RX3 (some .int) 5 1 120) (l0 : Nat) (l1 : Int32) (l2 : Int32) (l3 : Int32)  (G : Mem) {r : Int32} {G' : Mem} (h : fX3_findReached_99 l0 l1 l2 l3 G = some (r, G')) (hK : (finI X) r G') : J X 5 99 [(0, .ref (X.B + l0)), (1, .int l1), (2, .int l2), (3, .int l3)] [] G := by
  unfold fX3_findReached_99 at h
  refine j_iload_n ok dX3_findReached_99 rfl 2 rfl ?_
  refine j_bipush (v := 40) ok dX3_findReached_100 (by decide) ?_
  rcases ite_some h with ⟨c1, h⟩ | ⟨c1, h⟩
  · refine j_icmp_lt (tgt := 107) ok dX3_findReached_102 (by decide) (fun _ => ?_) (fun z => absurd c1 z)
    refine j_aload_n ok dX3_findReached_107 rfl 0 rfl ?_
    obtain ⟨v2, hv2, h⟩ := obind h
    refine k_getR ok fl_X3_39 hv2 dX3_findReached_108 ?_
    refine j_iconst (v := 0) ok dX3_findReached_111 (by decide) ?_
    refine j_aload_n ok dX3_findReached_112 rfl 0 rfl ?_
    obtain ⟨v3, hv3, h⟩ := obind h
    refine k_getR ok fl_X3_36 hv3 dX3_findReached_113 ?_
    refine j_iload_n ok dX3_findReached_116 rfl 3 rfl ?_
    refine j_iconst (v := 3) ok dX3_findReached_117 (by decide) ?_
    obtain ⟨G4, hG4, h⟩ := obind h
    refine k_cpJ ok wm_X3_85 (Nat.le_of_ble_eq_true rfl) (Nat.le_of_ble_eq_true rfl) (Nat.le_of_ble_eq_true rfl) hG4 dX3_findReached_118 ?_
    refine j_aload_n ok dX3_findReached_121 rfl 0 rfl ?_
    obtain ⟨v5, hv5, h⟩ := obind h
    refine k_getR ok fl_X3_32 hv5 dX3_findReached_122 ?_
    refine j_iload_n ok dX3_findReached_125 rfl 1 rfl ?_
    refine j_bipush (v := 40) ok dX3_findReached_126 (by decide) ?_
    refine j_imul ok dX3_findReached_128 ?_
    refine j_iload_n ok dX3_findReached_129 rfl 2 rfl ?_
    refine j_iadd ok dX3_findReached_130 ?_
    refine j_lconst (v := 0) ok dX3_findReached_131 (by decide) ?_
    obtain ⟨G6, hG6, h⟩ := obind h
    refine j_last ok hG6 dX3_findReached_132 ?_
    refine j_aload_n ok dX3_findReached_133 rfl 0 rfl ?_
    obtain ⟨v7, hv7, h⟩ := obind h
    refine k_getR ok fl_X3_28 hv7 dX3_findReached_134 ?_
    refine j_iload_n ok dX3_findReached_137 rfl 1 rfl ?_
    refine j_iload_n ok dX3_findReached_138 rfl 2 rfl ?_
    refine j_iconst (v := 1) ok dX3_findReached_139 (by decide) ?_
    refine j_iadd ok dX3_findReached_140 ?_
    obtain ⟨G8, hG8, h⟩ := obind h
    refine j_iast ok hG8 dX3_findReached_141 ?_
    refine j_iload_n ok dX3_findReached_142 rfl 2 rfl ?_
    obtain ⟨er, eG⟩ := inj2 h
    subst er; subst eG
    exact j_iret ok rfl dX3_findReached_143 hK
  · refine j_icmp_lt (tgt := 107) ok dX3_findReached_102 (by decide) (fun z => absurd z c1) (fun _ => ?_)
    refine j_iconst (v := -1) ok dX3_findReached_105 (by decide) ?_
    obtain ⟨er, eG⟩ := inj2 h
    subst er; subst eG
    exact j_iret ok rfl dX3_findReached_106 hK

def fX3_findReached_90 (l0 : Nat) (l1 : Int32) (l2 : Int32) (l3 : Int32) (l4 : Int32)  (G : Mem) : Option (((Int32 × Int32) ⊕ Int32) × Mem) :=
  some (.inl ((l3 + (3 : Int32)), (l4 + (1 : Int32))), G)

set_option maxRecDepth 100000 in
set_option maxHeartbeats 4000000 in
theorem jX3_findReached_90 {X : Cx} (ok : OK X cX3_findReached RX3 (some .int) 5 1 120) (l0 : Nat) (l1 : Int32) (l2 : Int32) (l3 : Int32) (l4 : Int32)  (G : Mem) {r : ((Int32 × Int32) ⊕ Int32)} {G' : Mem} (h : fX3_findReached_90 l0 l1 l2 l3 l4 G = some (r, G')) (hK : (finL X 5 29 (fun s : Int32 × Int32 => [(0, .ref (X.B + l0)), (1, .int l1), (2, .int l2), (3, .int s.1), (4, .int s.2)]) (finI X)) r G') : J X 5 90 [(0, .ref (X.B + l0)), (1, .int l1), (2, .int l2), (3, .int l3), (4, .int l4)] [] G := by
  unfold fX3_findReached_90 at h
  refine j_iinc (L' := [(3, .int (l3 + (3 : Int32))), (0, .ref (X.B + l0)), (1, .int l1), (2, .int l2), (4, .int l4)]) (v := (l3 + (3 : Int32))) ok dX3_findReached_90 (q := 3) rfl rfl (by decide) rfl ?_
  refine j_iinc (L' := [(4, .int (l4 + (1 : Int32))), (3, .int (l3 + (3 : Int32))), (0, .ref (X.B + l0)), (1, .int l1), (2, .int l2)]) (v := (l4 + (1 : Int32))) ok dX3_findReached_93 (q := 4) rfl rfl (by decide) rfl ?_
  refine j_goto (tgt := 29) ok dX3_findReached_96 (by decide) ?_
  obtain ⟨er, eG⟩ := inj2 h
  subst er; subst eG
  have hJ : J X 5 29 [(0, .ref (X.B + l0)), (1, .int l1), (2, .int l2), (3, .int (l3 + (3 : Int32))), (4, .int (l4 + (1 : Int32)))] [] G := hK
  exact J.sub [2, 3, 4, 1, 0] rfl hJ

def fX3_findReached_87 (l4 : Int32)  (G : Mem) : Option (Int32 × Mem) :=
  some (l4, G)

set_option maxRecDepth 100000 in
set_option maxHeartbeats 4000000 in
theorem jX3_findReached_87 {X : Cx} (ok : OK X cX3_findReached RX3 (some .int) 5 1 120) (l4 : Int32)  (G : Mem) {r : Int32} {G' : Mem} (h : fX3_findReached_87 l4 G = some (r, G')) (hK : (finI X) r G') : J X 5 87 [(4, .int l4)] [] G := by
  unfold fX3_findReached_87 at h
  refine j_iload ok dX3_findReached_87 0 rfl ?_
  obtain ⟨er, eG⟩ := inj2 h
  subst er; subst eG
  exact j_iret ok rfl dX3_findReached_89 hK

def fX3_findReached_29 (l0 : Nat) (l1 : Int32) (l2 : Int32) (l3 : Int32) (l4 : Int32)  (G : Mem) : Option (((Int32 × Int32) ⊕ Int32) × Mem) :=
  if l2 ≤ l4 then
    liftE (fX3_findReached_99 l0 l1 l2 l3 G)
  else
    (gR G 13 l0 5).bind fun v2 =>
    (gJ G v2 l3).bind fun v3 =>
    (gR G 13 l0 6).bind fun v4 =>
    (gJ G v4 (0 : Int32)).bind fun v5 =>
    if (lg_cmp v3 v5) = (0 : Int32) then
      (gR G 13 l0 5).bind fun v7 =>
      (gJ G v7 (l3 + (1 : Int32))).bind fun v8 =>
      (gR G 13 l0 6).bind fun v9 =>
      (gJ G v9 (1 : Int32)).bind fun v10 =>
      if (lg_cmp v8 v10) = (0 : Int32) then
        (gR G 13 l0 5).bind fun v12 =>
        (gJ G v12 (l3 + (2 : Int32))).bind fun v13 =>
        (gR G 13 l0 6).bind fun v14 =>
        (gJ G v14 (2 : Int32)).bind fun v15 =>
        if (lg_cmp v13 v15) = (0 : Int32) then
          liftE (fX3_findReached_87 l4 G)
        else
          fX3_findReached_90 l0 l1 l2 l3 l4 G
      else
        fX3_findReached_90 l0 l1 l2 l3 l4 G
    else
      fX3_findReached_90 l0 l1 l2 l3 l4 G

set_option maxRecDepth 100000 in
set_option maxHeartbeats 4000000 in
theorem jX3_findReached_29 {X : Cx} (ok : OK X cX3_findReached RX3 (some .int) 5 1 120) (l0 : Nat) (l1 : Int32) (l2 : Int32) (l3 : Int32) (l4 : Int32)  (G : Mem) {r : ((Int32 × Int32) ⊕ Int32)} {G' : Mem} (h : fX3_findReached_29 l0 l1 l2 l3 l4 G = some (r, G')) (hK : (finL X 5 29 (fun s : Int32 × Int32 => [(0, .ref (X.B + l0)), (1, .int l1), (2, .int l2), (3, .int s.1), (4, .int s.2)]) (finI X)) r G') : J X 5 29 [(0, .ref (X.B + l0)), (1, .int l1), (2, .int l2), (3, .int l3), (4, .int l4)] [] G := by
  unfold fX3_findReached_29 at h
  refine j_iload ok dX3_findReached_29 4 rfl ?_
  refine j_iload_n ok dX3_findReached_31 rfl 2 rfl ?_
  rcases ite_some h with ⟨c1, h⟩ | ⟨c1, h⟩
  · refine j_icmp_ge (tgt := 99) ok dX3_findReached_32 (by decide) (fun _ => ?_) (fun z => absurd c1 z)
    obtain ⟨r1, e1, h1⟩ := lift_some h
    subst e1
    exact J.sub [0, 1, 2, 3] rfl (jX3_findReached_99 ok l0 l1 l2 l3 G h1 hK)
  · refine j_icmp_ge (tgt := 99) ok dX3_findReached_32 (by decide) (fun z => absurd z c1) (fun _ => ?_)
    refine j_aload_n ok dX3_findReached_35 rfl 0 rfl ?_
    obtain ⟨v2, hv2, h⟩ := obind h
    refine k_getR ok fl_X3_36 hv2 dX3_findReached_36 ?_
    refine j_iload_n ok dX3_findReached_39 rfl 3 rfl ?_
    obtain ⟨v3, hv3, h⟩ := obind h
    refine j_lald ok hv3 dX3_findReached_40 ?_
    refine j_aload_n ok dX3_findReached_41 rfl 0 rfl ?_
    obtain ⟨v4, hv4, h⟩ := obind h
    refine k_getR ok fl_X3_39 hv4 dX3_findReached_42 ?_
    refine j_iconst (v := 0) ok dX3_findReached_45 (by decide) ?_
    obtain ⟨v5, hv5, h⟩ := obind h
    refine j_lald ok hv5 dX3_findReached_46 ?_
    refine j_lcmp ok dX3_findReached_47 ?_
    rcases ite_some h with ⟨c6, h⟩ | ⟨c6, h⟩
    · refine j_if_ne (tgt := 90) ok dX3_findReached_48 (by decide) (fun z => absurd c6 z) (fun _ => ?_)
      refine j_aload_n ok dX3_findReached_51 rfl 0 rfl ?_
      obtain ⟨v7, hv7, h⟩ := obind h
      refine k_getR ok fl_X3_36 hv7 dX3_findReached_52 ?_
      refine j_iload_n ok dX3_findReached_55 rfl 3 rfl ?_
      refine j_iconst (v := 1) ok dX3_findReached_56 (by decide) ?_
      refine j_iadd ok dX3_findReached_57 ?_
      obtain ⟨v8, hv8, h⟩ := obind h
      refine j_lald ok hv8 dX3_findReached_58 ?_
      refine j_aload_n ok dX3_findReached_59 rfl 0 rfl ?_
      obtain ⟨v9, hv9, h⟩ := obind h
      refine k_getR ok fl_X3_39 hv9 dX3_findReached_60 ?_
      refine j_iconst (v := 1) ok dX3_findReached_63 (by decide) ?_
      obtain ⟨v10, hv10, h⟩ := obind h
      refine j_lald ok hv10 dX3_findReached_64 ?_
      refine j_lcmp ok dX3_findReached_65 ?_
      rcases ite_some h with ⟨c11, h⟩ | ⟨c11, h⟩
      · refine j_if_ne (tgt := 90) ok dX3_findReached_66 (by decide) (fun z => absurd c11 z) (fun _ => ?_)
        refine j_aload_n ok dX3_findReached_69 rfl 0 rfl ?_
        obtain ⟨v12, hv12, h⟩ := obind h
        refine k_getR ok fl_X3_36 hv12 dX3_findReached_70 ?_
        refine j_iload_n ok dX3_findReached_73 rfl 3 rfl ?_
        refine j_iconst (v := 2) ok dX3_findReached_74 (by decide) ?_
        refine j_iadd ok dX3_findReached_75 ?_
        obtain ⟨v13, hv13, h⟩ := obind h
        refine j_lald ok hv13 dX3_findReached_76 ?_
        refine j_aload_n ok dX3_findReached_77 rfl 0 rfl ?_
        obtain ⟨v14, hv14, h⟩ := obind h
        refine k_getR ok fl_X3_39 hv14 dX3_findReached_78 ?_
        refine j_iconst (v := 2) ok dX3_findReached_81 (by decide) ?_
        obtain ⟨v15, hv15, h⟩ := obind h
        refine j_lald ok hv15 dX3_findReached_82 ?_
        refine j_lcmp ok dX3_findReached_83 ?_
        rcases ite_some h with ⟨c16, h⟩ | ⟨c16, h⟩
        · refine j_if_ne (tgt := 90) ok dX3_findReached_84 (by decide) (fun z => absurd c16 z) (fun _ => ?_)
          obtain ⟨r1, e1, h1⟩ := lift_some h
          subst e1
          exact J.sub [4] rfl (jX3_findReached_87 ok l4 G h1 hK)
        · refine j_if_ne (tgt := 90) ok dX3_findReached_84 (by decide) (fun _ => ?_) (fun z => absurd z c16)
          exact J.sub [0, 1, 2, 3, 4] rfl (jX3_findReached_90 ok l0 l1 l2 l3 l4 G h hK)
      · refine j_if_ne (tgt := 90) ok dX3_findReached_66 (by decide) (fun _ => ?_) (fun z => absurd z c11)
        exact J.sub [0, 1, 2, 3, 4] rfl (jX3_findReached_90 ok l0 l1 l2 l3 l4 G h hK)
    · refine j_if_ne (tgt := 90) ok dX3_findReached_48 (by decide) (fun _ => ?_) (fun z => absurd z c6)
      exact J.sub [0, 1, 2, 3, 4] rfl (jX3_findReached_90 ok l0 l1 l2 l3 l4 G h hK)

def fX3_findReached_0 (l0 : Nat) (l1 : Int32)  (G : Mem) : Option (Int32 × Mem) :=
  if l1 < (0 : Int32) then
    fX3_findReached_10 G
  else
    if l1 < (11 : Int32) then
      (gR G 13 l0 3).bind fun v3 =>
      (gA G 1 v3 l1).bind fun v4 =>
      loopM (fun (s : Int32 × Int32) G => fX3_findReached_29 l0 l1 v4 s.1 s.2 G) FU (((l1 * (40 : Int32)) * (3 : Int32)), (0 : Int32)) G
    else
      fX3_findReached_10 G

set_option maxRecDepth 100000 in
set_option maxHeartbeats 4000000 in
theorem jX3_findReached_0 {X : Cx} (ok : OK X cX3_findReached RX3 (some .int) 5 1 120) (l0 : Nat) (l1 : Int32)  (G : Mem) {r : Int32} {G' : Mem} (h : fX3_findReached_0 l0 l1 G = some (r, G')) (hK : (finI X) r G') : J X 5 0 [(0, .ref (X.B + l0)), (1, .int l1)] [] G := by
  unfold fX3_findReached_0 at h
  refine j_iload_n ok dX3_findReached_0 rfl 1 rfl ?_
  rcases ite_some h with ⟨c1, h⟩ | ⟨c1, h⟩
  · refine j_if_lt (tgt := 10) ok dX3_findReached_1 (by decide) (fun _ => ?_) (fun z => absurd c1 z)
    exact J.sub [] rfl (jX3_findReached_10 ok G h hK)
  · refine j_if_lt (tgt := 10) ok dX3_findReached_1 (by decide) (fun z => absurd z c1) (fun _ => ?_)
    refine j_iload_n ok dX3_findReached_4 rfl 1 rfl ?_
    refine j_bipush (v := 11) ok dX3_findReached_5 (by decide) ?_
    rcases ite_some h with ⟨c2, h⟩ | ⟨c2, h⟩
    · refine j_icmp_lt (tgt := 12) ok dX3_findReached_7 (by decide) (fun _ => ?_) (fun z => absurd c2 z)
      refine j_aload_n ok dX3_findReached_12 rfl 0 rfl ?_
      obtain ⟨v3, hv3, h⟩ := obind h
      refine k_getR ok fl_X3_28 hv3 dX3_findReached_13 ?_
      refine j_iload_n ok dX3_findReached_16 rfl 1 rfl ?_
      obtain ⟨v4, hv4, h⟩ := obind h
      refine j_iald ok hv4 dX3_findReached_17 ?_
      refine j_istore_n (L' := [(2, .int v4), (0, .ref (X.B + l0)), (1, .int l1)]) ok dX3_findReached_18 rfl (by decide) rfl ?_
      refine j_iload_n ok dX3_findReached_19 rfl 2 rfl ?_
      refine j_bipush (v := 40) ok dX3_findReached_20 (by decide) ?_
      refine j_imul ok dX3_findReached_22 ?_
      refine j_iconst (v := 3) ok dX3_findReached_23 (by decide) ?_
      refine j_imul ok dX3_findReached_24 ?_
      refine j_istore_n (L' := [(3, .int ((l1 * (40 : Int32)) * (3 : Int32))), (2, .int v4), (0, .ref (X.B + l0)), (1, .int l1)]) ok dX3_findReached_25 rfl (by decide) rfl ?_
      refine j_iconst (v := 0) ok dX3_findReached_26 (by decide) ?_
      refine j_istore (L' := [(4, .int (0 : Int32)), (3, .int ((l1 * (40 : Int32)) * (3 : Int32))), (2, .int v4), (0, .ref (X.B + l0)), (1, .int l1)]) ok dX3_findReached_27 (by decide) rfl ?_
      have hJ : J X 5 29 [(0, .ref (X.B + l0)), (1, .int l1), (2, .int v4), (3, .int ((l1 * (40 : Int32)) * (3 : Int32))), (4, .int (0 : Int32))] [] G := j_loop (loc := fun s : Int32 × Int32 => [(0, .ref (X.B + l0)), (1, .int l1), (2, .int v4), (3, .int s.1), (4, .int s.2)]) (F := (finI X)) (fun s G r G' hb hk => jX3_findReached_29 ok l0 l1 v4 s.1 s.2 G hb hk) _ _ _ _ _ h hK
      exact J.sub [3, 4, 2, 1, 0] rfl hJ
    · refine j_icmp_lt (tgt := 12) ok dX3_findReached_7 (by decide) (fun z => absurd z c2) (fun _ => ?_)
      exact J.sub [] rfl (jX3_findReached_10 ok G h hK)

def fX3_findReached (l0 : Nat) (l1 : Int32) (G : Mem) : Option (Int32 × Mem) := fX3_findReached_0 l0 l1 G
set_option maxRecDepth 100000 in
theorem tX3_findReached {l : Launch} (hfl : l.stackTraces = false) (V : Wd) (l0 : Nat) (l1 : Int32) (G : Mem) {r : Int32} {G' : Mem} (h : fX3_findReached l0 l1 G = some (r, G')) : Mx l yX3_findReached cX3_findReached 5 (some .int) 1 120 V [.ref (V.B + l0), .int l1] G (.inl (some (.int r))) G' :=
  mx_of (L := [(0, .ref (V.B + l0)), (1, .int l1)]) hfl (by decide +kernel) (Nat.le_of_ble_eq_true rfl) rfl (fun X hl hV hin ok he => by
    subst hl; subst hV
    exact J.sub [0, 1] rfl (jX3_findReached_0 ok l0 l1 G h he))
def fX3_show_65   (G : Mem) : Option (Unit × Mem) :=
  some ((), G)

set_option maxRecDepth 100000 in
set_option maxHeartbeats 4000000 in
theorem jX3_show_65 {X : Cx} (ok : OK X cX3_show RX3 none 6 2 47)   (G : Mem) {r : Unit} {G' : Mem} (h : fX3_show_65  G = some (r, G')) (hK : (finV X) r G') : J X 6 65 [] [] G := by
  unfold fX3_show_65 at h
  obtain ⟨er, eG⟩ := inj2 h
  subst er; subst eG
  exact j_vret ok rfl dX3_show_65 hK

def fX3_show_59 (l0 : Nat) (l1 : Int32) (l2 : Int32) (l3 : Int32) (l4 : Int32)  (G : Mem) : Option (((Int32 × Int32) ⊕ Unit) × Mem) :=
  some (.inl (l3, (l4 + (1 : Int32))), G)

set_option maxRecDepth 100000 in
set_option maxHeartbeats 4000000 in
theorem jX3_show_59 {X : Cx} (ok : OK X cX3_show RX3 none 6 2 47) (l0 : Nat) (l1 : Int32) (l2 : Int32) (l3 : Int32) (l4 : Int32)  (G : Mem) {r : ((Int32 × Int32) ⊕ Unit)} {G' : Mem} (h : fX3_show_59 l0 l1 l2 l3 l4 G = some (r, G')) (hK : (finL X 6 5 (fun s : Int32 × Int32 => [(0, .ref (X.B + l0)), (1, .int l1), (2, .int l2), (3, .int s.1), (4, .int s.2)]) (finV X)) r G') : J X 6 59 [(0, .ref (X.B + l0)), (1, .int l1), (2, .int l2), (3, .int l3), (4, .int l4)] [] G := by
  unfold fX3_show_59 at h
  refine j_iinc (L' := [(4, .int (l4 + (1 : Int32))), (0, .ref (X.B + l0)), (1, .int l1), (2, .int l2), (3, .int l3)]) (v := (l4 + (1 : Int32))) ok dX3_show_59 (q := 4) rfl rfl (by decide) rfl ?_
  refine j_goto (tgt := 5) ok dX3_show_62 (by decide) ?_
  obtain ⟨er, eG⟩ := inj2 h
  subst er; subst eG
  have hJ : J X 6 5 [(0, .ref (X.B + l0)), (1, .int l1), (2, .int l2), (3, .int l3), (4, .int (l4 + (1 : Int32)))] [] G := hK
  exact J.sub [1, 2, 3, 4, 0] rfl hJ

def fX3_show_20 (l0 : Nat) (l1 : Int32) (l2 : Int32) (l3 : Int32) (l4 : Int32) (l5 : Int32)  (G : Mem) : Option (((Int32 × Int32) ⊕ ((Int32 × Int32) ⊕ Unit)) × Mem) :=
  (gR G 13 l0 0).bind fun v1 =>
  (gF G 10 v1 0).bind fun v2 =>
  if v2 ≤ l5 then
    liftE (fX3_show_59 l0 l1 l2 l3 l4 G)
  else
    (gR G 13 l0 0).bind fun v4 =>
    ck G 13 l0 <| (fX3_read l0 l1 l2 l3 G).bind fun q5 =>
    ck q5.2 10 v4 <| (fX0_put v4 l5 l4 q5.1 q5.2).bind fun q6 =>
    some (.inl ((l3 + (1 : Int32)), (l5 + (1 : Int32))), q6.2)

set_option maxRecDepth 100000 in
set_option maxHeartbeats 4000000 in
theorem jX3_show_20 {X : Cx} (ok : OK X cX3_show RX3 none 6 2 47) (l0 : Nat) (l1 : Int32) (l2 : Int32) (l3 : Int32) (l4 : Int32) (l5 : Int32)  (G : Mem) {r : ((Int32 × Int32) ⊕ ((Int32 × Int32) ⊕ Unit))} {G' : Mem} (h : fX3_show_20 l0 l1 l2 l3 l4 l5 G = some (r, G')) (hK : (finL X 6 20 (fun s : Int32 × Int32 => [(0, .ref (X.B + l0)), (1, .int l1), (2, .int l2), (3, .int s.1), (4, .int l4), (5, .int s.2)]) (finL X 6 5 (fun s : Int32 × Int32 => [(0, .ref (X.B + l0)), (1, .int l1), (2, .int l2), (3, .int s.1), (4, .int s.2)]) (finV X))) r G') : J X 6 20 [(0, .ref (X.B + l0)), (1, .int l1), (2, .int l2), (3, .int l3), (4, .int l4), (5, .int l5)] [] G := by
  unfold fX3_show_20 at h
  refine j_iload ok dX3_show_20 5 rfl ?_
  refine j_aload_n ok dX3_show_22 rfl 0 rfl ?_
  obtain ⟨v1, hv1, h⟩ := obind h
  refine k_getR ok fl_X3_12 hv1 dX3_show_23 ?_
  obtain ⟨v2, hv2, h⟩ := obind h
  refine k_getI ok fl_X3_73 hv2 dX3_show_26 ?_
  rcases ite_some h with ⟨c3, h⟩ | ⟨c3, h⟩
  · refine j_icmp_ge (tgt := 59) ok dX3_show_29 (by decide) (fun _ => ?_) (fun z => absurd c3 z)
    obtain ⟨r1, e1, h1⟩ := lift_some h
    subst e1
    exact J.sub [0, 1, 2, 3, 4] rfl (jX3_show_59 ok l0 l1 l2 l3 l4 G h1 hK)
  · refine j_icmp_ge (tgt := 59) ok dX3_show_29 (by decide) (fun z => absurd z c3) (fun _ => ?_)
    refine j_aload_n ok dX3_show_32 rfl 0 rfl ?_
    obtain ⟨v4, hv4, h⟩ := obind h
    refine k_getR ok fl_X3_12 hv4 dX3_show_33 ?_
    refine j_iload ok dX3_show_36 5 rfl ?_
    refine j_iload ok dX3_show_38 4 rfl ?_
    refine j_aload_n ok dX3_show_40 rfl 0 rfl ?_
    refine j_iload_n ok dX3_show_41 rfl 1 rfl ?_
    refine j_iload_n ok dX3_show_42 rfl 2 rfl ?_
    refine j_iload_n ok dX3_show_43 rfl 3 rfl ?_
    obtain ⟨kq5, h⟩ := ck_some h
    obtain ⟨q5, hq5, h⟩ := obind h
    refine k_V1 ok kl_X3_124 ⟨Nat.le_of_ble_eq_true rfl, Nat.le_of_ble_eq_true rfl⟩ [.int l1, .int l2, .int l3] kq5 rfl rfl (Nat.le_of_ble_eq_true rfl) (tX3_read ok.fl X.V l0 l1 l2 l3 G hq5) dX3_show_44 ?_
    obtain ⟨kq6, h⟩ := ck_some h
    obtain ⟨q6, hq6, h⟩ := obind h
    refine k_V0 ok kl_X3_53 ⟨Nat.le_of_ble_eq_true rfl, Nat.le_of_ble_eq_true rfl⟩ [.int l5, .int l4, .int q5.1] kq6 rfl rfl (Nat.le_of_ble_eq_true rfl) (tX0_put ok.fl X.V v4 l5 l4 q5.1 q5.2 hq6) dX3_show_47 ?_
    refine j_iinc (L' := [(3, .int (l3 + (1 : Int32))), (0, .ref (X.B + l0)), (1, .int l1), (2, .int l2), (4, .int l4), (5, .int l5)]) (v := (l3 + (1 : Int32))) ok dX3_show_50 (q := 3) rfl rfl (by decide) rfl ?_
    refine j_iinc (L' := [(5, .int (l5 + (1 : Int32))), (3, .int (l3 + (1 : Int32))), (0, .ref (X.B + l0)), (1, .int l1), (2, .int l2), (4, .int l4)]) (v := (l5 + (1 : Int32))) ok dX3_show_53 (q := 5) rfl rfl (by decide) rfl ?_
    refine j_goto (tgt := 20) ok dX3_show_56 (by decide) ?_
    obtain ⟨er, eG⟩ := inj2 h
    subst er; subst eG
    have hJ : J X 6 20 [(0, .ref (X.B + l0)), (1, .int l1), (2, .int l2), (3, .int (l3 + (1 : Int32))), (4, .int l4), (5, .int (l5 + (1 : Int32)))] [] q6.2 := hK
    exact J.sub [2, 3, 4, 1, 5, 0] rfl hJ

def fX3_show_5 (l0 : Nat) (l1 : Int32) (l2 : Int32) (l3 : Int32) (l4 : Int32)  (G : Mem) : Option (((Int32 × Int32) ⊕ Unit) × Mem) :=
  (gR G 13 l0 0).bind fun v1 =>
  (gF G 10 v1 1).bind fun v2 =>
  if v2 ≤ l4 then
    liftE (fX3_show_65 G)
  else
    loopM (fun (s : Int32 × Int32) G => fX3_show_20 l0 l1 l2 s.1 l4 s.2 G) FU (l3, (0 : Int32)) G

set_option maxRecDepth 100000 in
set_option maxHeartbeats 4000000 in
theorem jX3_show_5 {X : Cx} (ok : OK X cX3_show RX3 none 6 2 47) (l0 : Nat) (l1 : Int32) (l2 : Int32) (l3 : Int32) (l4 : Int32)  (G : Mem) {r : ((Int32 × Int32) ⊕ Unit)} {G' : Mem} (h : fX3_show_5 l0 l1 l2 l3 l4 G = some (r, G')) (hK : (finL X 6 5 (fun s : Int32 × Int32 => [(0, .ref (X.B + l0)), (1, .int l1), (2, .int l2), (3, .int s.1), (4, .int s.2)]) (finV X)) r G') : J X 6 5 [(0, .ref (X.B + l0)), (1, .int l1), (2, .int l2), (3, .int l3), (4, .int l4)] [] G := by
  unfold fX3_show_5 at h
  refine j_iload ok dX3_show_5 4 rfl ?_
  refine j_aload_n ok dX3_show_7 rfl 0 rfl ?_
  obtain ⟨v1, hv1, h⟩ := obind h
  refine k_getR ok fl_X3_12 hv1 dX3_show_8 ?_
  obtain ⟨v2, hv2, h⟩ := obind h
  refine k_getI ok fl_X3_70 hv2 dX3_show_11 ?_
  rcases ite_some h with ⟨c3, h⟩ | ⟨c3, h⟩
  · refine j_icmp_ge (tgt := 65) ok dX3_show_14 (by decide) (fun _ => ?_) (fun z => absurd c3 z)
    obtain ⟨r1, e1, h1⟩ := lift_some h
    subst e1
    exact J.sub [] rfl (jX3_show_65 ok G h1 hK)
  · refine j_icmp_ge (tgt := 65) ok dX3_show_14 (by decide) (fun z => absurd z c3) (fun _ => ?_)
    refine j_iconst (v := 0) ok dX3_show_17 (by decide) ?_
    refine j_istore (L' := [(5, .int (0 : Int32)), (0, .ref (X.B + l0)), (1, .int l1), (2, .int l2), (3, .int l3), (4, .int l4)]) ok dX3_show_18 (by decide) rfl ?_
    have hJ : J X 6 20 [(0, .ref (X.B + l0)), (1, .int l1), (2, .int l2), (3, .int l3), (4, .int l4), (5, .int (0 : Int32))] [] G := j_loop (loc := fun s : Int32 × Int32 => [(0, .ref (X.B + l0)), (1, .int l1), (2, .int l2), (3, .int s.1), (4, .int l4), (5, .int s.2)]) (F := (finL X 6 5 (fun s : Int32 × Int32 => [(0, .ref (X.B + l0)), (1, .int l1), (2, .int l2), (3, .int s.1), (4, .int s.2)]) (finV X))) (fun s G r G' hb hk => jX3_show_20 ok l0 l1 l2 s.1 l4 s.2 G hb hk) _ _ _ _ _ h hK
    exact J.sub [1, 2, 3, 4, 5, 0] rfl hJ

def fX3_show_0 (l0 : Nat) (l1 : Int32) (l2 : Int32)  (G : Mem) : Option (Unit × Mem) :=
  loopM (fun (s : Int32 × Int32) G => fX3_show_5 l0 l1 l2 s.1 s.2 G) FU ((0 : Int32), (0 : Int32)) G

set_option maxRecDepth 100000 in
set_option maxHeartbeats 4000000 in
theorem jX3_show_0 {X : Cx} (ok : OK X cX3_show RX3 none 6 2 47) (l0 : Nat) (l1 : Int32) (l2 : Int32)  (G : Mem) {r : Unit} {G' : Mem} (h : fX3_show_0 l0 l1 l2 G = some (r, G')) (hK : (finV X) r G') : J X 6 0 [(0, .ref (X.B + l0)), (1, .int l1), (2, .int l2)] [] G := by
  unfold fX3_show_0 at h
  refine j_iconst (v := 0) ok dX3_show_0 (by decide) ?_
  refine j_istore_n (L' := [(3, .int (0 : Int32)), (0, .ref (X.B + l0)), (1, .int l1), (2, .int l2)]) ok dX3_show_1 rfl (by decide) rfl ?_
  refine j_iconst (v := 0) ok dX3_show_2 (by decide) ?_
  refine j_istore (L' := [(4, .int (0 : Int32)), (3, .int (0 : Int32)), (0, .ref (X.B + l0)), (1, .int l1), (2, .int l2)]) ok dX3_show_3 (by decide) rfl ?_
  have hJ : J X 6 5 [(0, .ref (X.B + l0)), (1, .int l1), (2, .int l2), (3, .int (0 : Int32)), (4, .int (0 : Int32))] [] G := j_loop (loc := fun s : Int32 × Int32 => [(0, .ref (X.B + l0)), (1, .int l1), (2, .int l2), (3, .int s.1), (4, .int s.2)]) (F := (finV X)) (fun s G r G' hb hk => jX3_show_5 ok l0 l1 l2 s.1 s.2 G hb hk) _ _ _ _ _ h hK
  exact J.sub [2, 3, 4, 1, 0] rfl hJ

def fX3_show (l0 : Nat) (l1 : Int32) (l2 : Int32) (G : Mem) : Option (Unit × Mem) := fX3_show_0 l0 l1 l2 G
set_option maxRecDepth 100000 in
theorem tX3_show {l : Launch} (hfl : l.stackTraces = false) (V : Wd) (l0 : Nat) (l1 : Int32) (l2 : Int32) (G : Mem) {r : Unit} {G' : Mem} (h : fX3_show l0 l1 l2 G = some (r, G')) : Mx l yX3_show cX3_show 6 none 2 47 V [.ref (V.B + l0), .int l1, .int l2] G (.inl none) G' :=
  mx_of (L := [(0, .ref (V.B + l0)), (1, .int l1), (2, .int l2)]) hfl (by decide +kernel) (Nat.le_of_ble_eq_true rfl) rfl (fun X hl hV hin ok he => by
    subst hl; subst hV
    exact J.sub [0, 1, 2] rfl (jX3_show_0 ok l0 l1 l2 G h he))
def fX3_mover_11  (s0 : Int32) (G : Mem) : Option (Int32 × Mem) :=
  some (s0, G)

set_option maxRecDepth 100000 in
set_option maxHeartbeats 4000000 in
theorem jX3_mover_11 {X : Cx} (ok : OK X cX3_mover RX3 (some .int) 2 0 0)  (s0 : Int32) (G : Mem) {r : Int32} {G' : Mem} (h : fX3_mover_11 s0 G = some (r, G')) (hK : (finI X) r G') : J X 2 11 [] [.int s0] G := by
  unfold fX3_mover_11 at h
  obtain ⟨er, eG⟩ := inj2 h
  subst er; subst eG
  exact j_iret ok rfl dX3_mover_11 hK

def fX3_mover_0 (l1 : Int32)  (G : Mem) : Option (Int32 × Mem) :=
  if (l1 - l1 / (2 : Int32) * (2 : Int32)) = (0 : Int32) then
    fX3_mover_11 (0 : Int32) G
  else
    fX3_mover_11 (1 : Int32) G

set_option maxRecDepth 100000 in
set_option maxHeartbeats 4000000 in
theorem jX3_mover_0 {X : Cx} (ok : OK X cX3_mover RX3 (some .int) 2 0 0) (l1 : Int32)  (G : Mem) {r : Int32} {G' : Mem} (h : fX3_mover_0 l1 G = some (r, G')) (hK : (finI X) r G') : J X 2 0 [(1, .int l1)] [] G := by
  unfold fX3_mover_0 at h
  refine j_iload_n ok dX3_mover_0 rfl 0 rfl ?_
  refine j_iconst (v := 2) ok dX3_mover_1 (by decide) ?_
  refine j_irem ok dX3_mover_2 (by decide) ?_
  rcases ite_some h with ⟨c1, h⟩ | ⟨c1, h⟩
  · refine j_if_ne (tgt := 10) ok dX3_mover_3 (by decide) (fun z => absurd c1 z) (fun _ => ?_)
    refine j_iconst (v := 0) ok dX3_mover_6 (by decide) ?_
    refine j_goto (tgt := 11) ok dX3_mover_7 (by decide) ?_
    exact J.sub [] rfl (jX3_mover_11 ok (0 : Int32) G h hK)
  · refine j_if_ne (tgt := 10) ok dX3_mover_3 (by decide) (fun _ => ?_) (fun z => absurd z c1)
    refine j_iconst (v := 1) ok dX3_mover_10 (by decide) ?_
    exact J.sub [] rfl (jX3_mover_11 ok (1 : Int32) G h hK)

def fX3_mover (l0 : Nat) (l1 : Int32) (G : Mem) : Option (Int32 × Mem) := fX3_mover_0 l1 G
set_option maxRecDepth 100000 in
theorem tX3_mover {l : Launch} (hfl : l.stackTraces = false) (V : Wd) (l0 : Nat) (l1 : Int32) (G : Mem) {r : Int32} {G' : Mem} (h : fX3_mover l0 l1 G = some (r, G')) : Mx l yX3_mover cX3_mover 2 (some .int) 0 0 V [.ref (V.B + l0), .int l1] G (.inl (some (.int r))) G' :=
  mx_of (L := [(0, .ref (V.B + l0)), (1, .int l1)]) hfl (by decide +kernel) (Nat.le_of_ble_eq_true rfl) rfl (fun X hl hV hin ok he => by
    subst hl; subst hV
    exact J.sub [1] rfl (jX3_mover_0 ok l1 G h he))
def fX3_makeMove_0 (l0 : Nat) (l1 : Int32) (l2 : Int32) (l3 : Int32)  (G : Mem) : Option (Int32 × Mem) :=
  (fX3_cellOf l1 l2 G).bind fun q1 =>
  if q1.1 = (-1 : Int32) then
    some ((0 : Int32), q1.2)
  else
    (gR q1.2 13 l0 5).bind fun v3 =>
    (gR q1.2 13 l0 6).bind fun v4 =>
    (cpJ q1.2 v3 (q1.1 * (3 : Int32)) v4 (0 : Int32) (3 : Int32)).bind fun G5 =>
    ck G5 13 l0 <| (fX3_read l0 l1 l2 (l3 >>> ((6 : Int32) &&& 31)) G5).bind fun q6 =>
    ck q6.2 13 l0 <| (fX3_setReached l0 (l3 &&& (63 : Int32)) q6.1 q6.2).bind fun q7 =>
    ck q7.2 13 l0 <| (fX3_setReached l0 (l3 >>> ((6 : Int32) &&& 31)) (0 : Int32) q7.2).bind fun q8 =>
    ck q8.2 13 l0 <| (fX3_findReached l0 (l1 + (1 : Int32)) q8.2).bind fun q9 =>
    (fX3_cellOf (l1 + (1 : Int32)) q9.1 q9.2).bind fun q10 =>
    if q10.1 = (-1 : Int32) then
      some ((0 : Int32), q10.2)
    else
      (gR q10.2 13 l0 4).bind fun v12 =>
      (gJ q10.2 v12 q10.1).bind fun v13 =>
      (gR q10.2 13 l0 4).bind fun v14 =>
      (gJ q10.2 v14 q1.1).bind fun v15 =>
      (pJ q10.2 v12 q10.1 (v13 + v15)).bind fun G16 =>
      ck G16 13 l0 <| (fX3_addLink l0 l1 ((((q9.1 <<< ((6 : Int32) &&& 31)) ||| l2) <<< ((12 : Int32) &&& 31)) ||| l3) G16).bind fun q17 =>
      some ((1 : Int32), q17.2)

set_option maxRecDepth 100000 in
set_option maxHeartbeats 4000000 in
theorem jX3_makeMove_0 {X : Cx} (ok : OK X cX3_makeMove RX3 (some .boolean) 8 3 165) (l0 : Nat) (l1 : Int32) (l2 : Int32) (l3 : Int32)  (G : Mem) {r : Int32} {G' : Mem} (h : fX3_makeMove_0 l0 l1 l2 l3 G = some (r, G')) (hK : (finI X) r G') : J X 8 0 [(0, .ref (X.B + l0)), (1, .int l1), (2, .int l2), (3, .int l3)] [] G := by
  unfold fX3_makeMove_0 at h
  refine j_iload_n ok dX3_makeMove_0 rfl 1 rfl ?_
  refine j_iload_n ok dX3_makeMove_1 rfl 2 rfl ?_
  obtain ⟨q1, hq1, h⟩ := obind h
  refine k_S1 ok kl_X3_132 ⟨Nat.le_of_ble_eq_true rfl, Nat.le_of_ble_eq_true rfl⟩ [.int l1, .int l2] rfl rfl (Nat.le_of_ble_eq_true rfl) (tX3_cellOf ok.fl X.V l1 l2 G hq1) dX3_makeMove_2 ?_
  refine j_istore (L' := [(4, .int q1.1), (0, .ref (X.B + l0)), (1, .int l1), (2, .int l2), (3, .int l3)]) ok dX3_makeMove_5 (by decide) rfl ?_
  refine j_iload ok dX3_makeMove_7 0 rfl ?_
  refine j_iconst (v := -1) ok dX3_makeMove_9 (by decide) ?_
  rcases ite_some h with ⟨c2, h⟩ | ⟨c2, h⟩
  · refine j_icmp_ne (tgt := 15) ok dX3_makeMove_10 (by decide) (fun z => absurd c2 z) (fun _ => ?_)
    refine j_iconst (v := 0) ok dX3_makeMove_13 (by decide) ?_
    obtain ⟨er, eG⟩ := inj2 h
    subst er; subst eG
    exact j_zret ok rfl (Or.inl rfl) dX3_makeMove_14 hK
  · refine j_icmp_ne (tgt := 15) ok dX3_makeMove_10 (by decide) (fun _ => ?_) (fun z => absurd z c2)
    refine j_iload_n ok dX3_makeMove_15 rfl 4 rfl ?_
    refine j_bipush (v := 6) ok dX3_makeMove_16 (by decide) ?_
    refine j_ishr ok dX3_makeMove_18 ?_
    refine j_istore (L' := [(5, .int (l3 >>> ((6 : Int32) &&& 31))), (4, .int q1.1), (0, .ref (X.B + l0)), (1, .int l1), (2, .int l2), (3, .int l3)]) ok dX3_makeMove_19 (by decide) rfl ?_
    refine j_aload_n ok dX3_makeMove_21 rfl 2 rfl ?_
    obtain ⟨v3, hv3, h⟩ := obind h
    refine k_getR ok fl_X3_36 hv3 dX3_makeMove_22 ?_
    refine j_iload ok dX3_makeMove_25 1 rfl ?_
    refine j_iconst (v := 3) ok dX3_makeMove_27 (by decide) ?_
    refine j_imul ok dX3_makeMove_28 ?_
    refine j_aload_n ok dX3_makeMove_29 rfl 2 rfl ?_
    obtain ⟨v4, hv4, h⟩ := obind h
    refine k_getR ok fl_X3_39 hv4 dX3_makeMove_30 ?_
    refine j_iconst (v := 0) ok dX3_makeMove_33 (by decide) ?_
    refine j_iconst (v := 3) ok dX3_makeMove_34 (by decide) ?_
    obtain ⟨G5, hG5, h⟩ := obind h
    refine k_cpJ ok wm_X3_85 (Nat.le_of_ble_eq_true rfl) (Nat.le_of_ble_eq_true rfl) (Nat.le_of_ble_eq_true rfl) hG5 dX3_makeMove_35 ?_
    refine j_aload_n ok dX3_makeMove_38 rfl 2 rfl ?_
    refine j_iload_n ok dX3_makeMove_39 rfl 5 rfl ?_
    refine j_bipush (v := 63) ok dX3_makeMove_40 (by decide) ?_
    refine j_iand ok dX3_makeMove_42 ?_
    refine j_aload_n ok dX3_makeMove_43 rfl 2 rfl ?_
    refine j_iload_n ok dX3_makeMove_44 rfl 3 rfl ?_
    refine j_iload_n ok dX3_makeMove_45 rfl 4 rfl ?_
    refine j_iload ok dX3_makeMove_46 0 rfl ?_
    obtain ⟨kq6, h⟩ := ck_some h
    obtain ⟨q6, hq6, h⟩ := obind h
    refine k_V1 ok kl_X3_124 ⟨Nat.le_of_ble_eq_true rfl, Nat.le_of_ble_eq_true rfl⟩ [.int l1, .int l2, .int (l3 >>> ((6 : Int32) &&& 31))] kq6 rfl rfl (Nat.le_of_ble_eq_true rfl) (tX3_read ok.fl X.V l0 l1 l2 (l3 >>> ((6 : Int32) &&& 31)) G5 hq6) dX3_makeMove_48 ?_
    obtain ⟨kq7, h⟩ := ck_some h
    obtain ⟨q7, hq7, h⟩ := obind h
    refine k_V0 ok kl_X3_82 ⟨Nat.le_of_ble_eq_true rfl, Nat.le_of_ble_eq_true rfl⟩ [.int (l3 &&& (63 : Int32)), .int q6.1] kq7 rfl rfl (Nat.le_of_ble_eq_true rfl) (tX3_setReached ok.fl X.V l0 (l3 &&& (63 : Int32)) q6.1 q6.2 hq7) dX3_makeMove_51 ?_
    refine j_aload_n ok dX3_makeMove_54 rfl 2 rfl ?_
    refine j_iload ok dX3_makeMove_55 0 rfl ?_
    refine j_iconst (v := 0) ok dX3_makeMove_57 (by decide) ?_
    obtain ⟨kq8, h⟩ := ck_some h
    obtain ⟨q8, hq8, h⟩ := obind h
    refine k_V0 ok kl_X3_82 ⟨Nat.le_of_ble_eq_true rfl, Nat.le_of_ble_eq_true rfl⟩ [.int (l3 >>> ((6 : Int32) &&& 31)), .int (0 : Int32)] kq8 rfl rfl (Nat.le_of_ble_eq_true rfl) (tX3_setReached ok.fl X.V l0 (l3 >>> ((6 : Int32) &&& 31)) (0 : Int32) q7.2 hq8) dX3_makeMove_58 ?_
    refine j_aload_n ok dX3_makeMove_61 rfl 2 rfl ?_
    refine j_iload_n ok dX3_makeMove_62 rfl 3 rfl ?_
    refine j_iconst (v := 1) ok dX3_makeMove_63 (by decide) ?_
    refine j_iadd ok dX3_makeMove_64 ?_
    obtain ⟨kq9, h⟩ := ck_some h
    obtain ⟨q9, hq9, h⟩ := obind h
    refine k_V1 ok kl_X3_149 ⟨Nat.le_of_ble_eq_true rfl, Nat.le_of_ble_eq_true rfl⟩ [.int (l1 + (1 : Int32))] kq9 rfl rfl (Nat.le_of_ble_eq_true rfl) (tX3_findReached ok.fl X.V l0 (l1 + (1 : Int32)) q8.2 hq9) dX3_makeMove_65 ?_
    refine j_istore (L' := [(6, .int q9.1), (5, .int (l3 >>> ((6 : Int32) &&& 31))), (4, .int q1.1), (0, .ref (X.B + l0)), (1, .int l1), (2, .int l2), (3, .int l3)]) ok dX3_makeMove_68 (by decide) rfl ?_
    refine j_iload_n ok dX3_makeMove_70 rfl 4 rfl ?_
    refine j_iconst (v := 1) ok dX3_makeMove_71 (by decide) ?_
    refine j_iadd ok dX3_makeMove_72 ?_
    refine j_iload ok dX3_makeMove_73 0 rfl ?_
    obtain ⟨q10, hq10, h⟩ := obind h
    refine k_S1 ok kl_X3_132 ⟨Nat.le_of_ble_eq_true rfl, Nat.le_of_ble_eq_true rfl⟩ [.int (l1 + (1 : Int32)), .int q9.1] rfl rfl (Nat.le_of_ble_eq_true rfl) (tX3_cellOf ok.fl X.V (l1 + (1 : Int32)) q9.1 q9.2 hq10) dX3_makeMove_75 ?_
    refine j_istore (L' := [(7, .int q10.1), (6, .int q9.1), (5, .int (l3 >>> ((6 : Int32) &&& 31))), (4, .int q1.1), (0, .ref (X.B + l0)), (1, .int l1), (2, .int l2), (3, .int l3)]) ok dX3_makeMove_78 (by decide) rfl ?_
    refine j_iload ok dX3_makeMove_80 0 rfl ?_
    refine j_iconst (v := -1) ok dX3_makeMove_82 (by decide) ?_
    rcases ite_some h with ⟨c11, h⟩ | ⟨c11, h⟩
    · refine j_icmp_ne (tgt := 88) ok dX3_makeMove_83 (by decide) (fun z => absurd c11 z) (fun _ => ?_)
      refine j_iconst (v := 0) ok dX3_makeMove_86 (by decide) ?_
      obtain ⟨er, eG⟩ := inj2 h
      subst er; subst eG
      exact j_zret ok rfl (Or.inl rfl) dX3_makeMove_87 hK
    · refine j_icmp_ne (tgt := 88) ok dX3_makeMove_83 (by decide) (fun _ => ?_) (fun z => absurd z c11)
      refine j_aload_n ok dX3_makeMove_88 rfl 4 rfl ?_
      obtain ⟨v12, hv12, h⟩ := obind h
      refine k_getR ok fl_X3_32 hv12 dX3_makeMove_89 ?_
      refine j_iload ok dX3_makeMove_92 0 rfl ?_
      refine j_dup2 ok dX3_makeMove_94 rfl rfl ?_
      obtain ⟨v13, hv13, h⟩ := obind h
      refine j_lald ok hv13 dX3_makeMove_95 ?_
      refine j_aload_n ok dX3_makeMove_96 rfl 4 rfl ?_
      obtain ⟨v14, hv14, h⟩ := obind h
      refine k_getR ok fl_X3_32 hv14 dX3_makeMove_97 ?_
      refine j_iload ok dX3_makeMove_100 3 rfl ?_
      obtain ⟨v15, hv15, h⟩ := obind h
      refine j_lald ok hv15 dX3_makeMove_102 ?_
      refine j_ladd ok dX3_makeMove_103 ?_
      obtain ⟨G16, hG16, h⟩ := obind h
      refine j_last ok hG16 dX3_makeMove_104 ?_
      refine j_aload_n ok dX3_makeMove_105 rfl 4 rfl ?_
      refine j_iload_n ok dX3_makeMove_106 rfl 5 rfl ?_
      refine j_iload ok dX3_makeMove_107 1 rfl ?_
      refine j_bipush (v := 6) ok dX3_makeMove_109 (by decide) ?_
      refine j_ishl ok dX3_makeMove_111 ?_
      refine j_iload_n ok dX3_makeMove_112 rfl 6 rfl ?_
      refine j_ior ok dX3_makeMove_113 ?_
      refine j_bipush (v := 12) ok dX3_makeMove_114 (by decide) ?_
      refine j_ishl ok dX3_makeMove_116 ?_
      refine j_iload_n ok dX3_makeMove_117 rfl 7 rfl ?_
      refine j_ior ok dX3_makeMove_118 ?_
      obtain ⟨kq17, h⟩ := ck_some h
      obtain ⟨q17, hq17, h⟩ := obind h
      refine k_V0 ok kl_X3_152 ⟨Nat.le_of_ble_eq_true rfl, Nat.le_of_ble_eq_true rfl⟩ [.int l1, .int ((((q9.1 <<< ((6 : Int32) &&& 31)) ||| l2) <<< ((12 : Int32) &&& 31)) ||| l3)] kq17 rfl rfl (Nat.le_of_ble_eq_true rfl) (tX3_addLink ok.fl X.V l0 l1 ((((q9.1 <<< ((6 : Int32) &&& 31)) ||| l2) <<< ((12 : Int32) &&& 31)) ||| l3) G16 hq17) dX3_makeMove_119 ?_
      refine j_iconst (v := 1) ok dX3_makeMove_122 (by decide) ?_
      obtain ⟨er, eG⟩ := inj2 h
      subst er; subst eG
      exact j_zret ok rfl (Or.inr rfl) dX3_makeMove_123 hK

def fX3_makeMove (l0 : Nat) (l1 : Int32) (l2 : Int32) (l3 : Int32) (G : Mem) : Option (Int32 × Mem) := fX3_makeMove_0 l0 l1 l2 l3 G
set_option maxRecDepth 100000 in
theorem tX3_makeMove {l : Launch} (hfl : l.stackTraces = false) (V : Wd) (l0 : Nat) (l1 : Int32) (l2 : Int32) (l3 : Int32) (G : Mem) {r : Int32} {G' : Mem} (h : fX3_makeMove l0 l1 l2 l3 G = some (r, G')) : Mx l yX3_makeMove cX3_makeMove 8 (some .boolean) 3 165 V [.ref (V.B + l0), .int l1, .int l2, .int l3] G (.inl (some (.int r))) G' :=
  mx_of (L := [(0, .ref (V.B + l0)), (1, .int l1), (2, .int l2), (3, .int l3)]) hfl (by decide +kernel) (Nat.le_of_ble_eq_true rfl) rfl (fun X hl hV hin ok he => by
    subst hl; subst hV
    exact J.sub [0, 1, 2, 3] rfl (jX3_makeMove_0 ok l0 l1 l2 l3 G h he))
def fX3_follow_137 (l0 : Nat)  (G : Mem) : Option (Int32 × Mem) :=
  (gR G 13 l0 3).bind fun v1 =>
  (gF G 13 l0 1).bind fun v2 =>
  (gA G 1 v1 v2).bind fun v3 =>
  some (v3, G)

set_option maxRecDepth 100000 in
set_option maxHeartbeats 4000000 in
theorem jX3_follow_137 {X : Cx} (ok : OK X cX3_follow RX3 (some .int) 6 5 192) (l0 : Nat)  (G : Mem) {r : Int32} {G' : Mem} (h : fX3_follow_137 l0 G = some (r, G')) (hK : (finI X) r G') : J X 6 137 [(0, .ref (X.B + l0))] [] G := by
  unfold fX3_follow_137 at h
  refine j_aload_n ok dX3_follow_137 rfl 0 rfl ?_
  obtain ⟨v1, hv1, h⟩ := obind h
  refine k_getR ok fl_X3_28 hv1 dX3_follow_138 ?_
  refine j_aload_n ok dX3_follow_141 rfl 0 rfl ?_
  obtain ⟨v2, hv2, h⟩ := obind h
  refine k_getI ok fl_X3_18 hv2 dX3_follow_142 ?_
  obtain ⟨v3, hv3, h⟩ := obind h
  refine j_iald ok hv3 dX3_follow_145 ?_
  obtain ⟨er, eG⟩ := inj2 h
  subst er; subst eG
  exact j_iret ok rfl dX3_follow_146 hK

def fX3_follow_129   (G : Mem) : Option (Int32 × Mem) :=
  some ((0 : Int32), G)

set_option maxRecDepth 100000 in
set_option maxHeartbeats 4000000 in
theorem jX3_follow_129 {X : Cx} (ok : OK X cX3_follow RX3 (some .int) 6 5 192)   (G : Mem) {r : Int32} {G' : Mem} (h : fX3_follow_129  G = some (r, G')) (hK : (finI X) r G') : J X 6 129 [] [] G := by
  unfold fX3_follow_129 at h
  refine j_iconst (v := 0) ok dX3_follow_129 (by decide) ?_
  obtain ⟨er, eG⟩ := inj2 h
  subst er; subst eG
  exact j_iret ok rfl dX3_follow_130 hK

def fX3_follow_118 (l0 : Nat) (l2 : Int32)  (G : Mem) : Option (((Int32) ⊕ Int32) × Mem) :=
  (gR G 13 l0 3).bind fun v1 =>
  (gA G 1 v1 (l2 + (1 : Int32))).bind fun v2 =>
  if v2 = (0 : Int32) then
    liftE (fX3_follow_129 G)
  else
    some (.inl ((l2 + (1 : Int32))), G)

set_option maxRecDepth 100000 in
set_option maxHeartbeats 4000000 in
theorem jX3_follow_118 {X : Cx} (ok : OK X cX3_follow RX3 (some .int) 6 5 192) (l0 : Nat) (l2 : Int32)  (G : Mem) {r : ((Int32) ⊕ Int32)} {G' : Mem} (h : fX3_follow_118 l0 l2 G = some (r, G')) (hK : (finL X 6 6 (fun s : Int32 => [(0, .ref (X.B + l0)), (2, .int s)]) (finI X)) r G') : J X 6 118 [(0, .ref (X.B + l0)), (2, .int l2)] [] G := by
  unfold fX3_follow_118 at h
  refine j_aload_n ok dX3_follow_118 rfl 0 rfl ?_
  obtain ⟨v1, hv1, h⟩ := obind h
  refine k_getR ok fl_X3_28 hv1 dX3_follow_119 ?_
  refine j_iload_n ok dX3_follow_122 rfl 1 rfl ?_
  refine j_iconst (v := 1) ok dX3_follow_123 (by decide) ?_
  refine j_iadd ok dX3_follow_124 ?_
  obtain ⟨v2, hv2, h⟩ := obind h
  refine j_iald ok hv2 dX3_follow_125 ?_
  rcases ite_some h with ⟨c3, h⟩ | ⟨c3, h⟩
  · refine j_if_ne (tgt := 131) ok dX3_follow_126 (by decide) (fun z => absurd c3 z) (fun _ => ?_)
    obtain ⟨r1, e1, h1⟩ := lift_some h
    subst e1
    exact J.sub [] rfl (jX3_follow_129 ok G h1 hK)
  · refine j_if_ne (tgt := 131) ok dX3_follow_126 (by decide) (fun _ => ?_) (fun z => absurd z c3)
    refine j_iinc (L' := [(2, .int (l2 + (1 : Int32))), (0, .ref (X.B + l0))]) (v := (l2 + (1 : Int32))) ok dX3_follow_131 (q := 1) rfl rfl (by decide) rfl ?_
    refine j_goto (tgt := 6) ok dX3_follow_134 (by decide) ?_
    obtain ⟨er, eG⟩ := inj2 h
    subst er; subst eG
    have hJ : J X 6 6 [(0, .ref (X.B + l0)), (2, .int (l2 + (1 : Int32)))] [] G := hK
    exact J.sub [1, 0] rfl hJ

def fX3_follow_112 (l0 : Nat) (l2 : Int32) (l3 : Int32)  (G : Mem) : Option (((Int32) ⊕ ((Int32) ⊕ Int32)) × Mem) :=
  some (.inl ((l3 + (1 : Int32))), G)

set_option maxRecDepth 100000 in
set_option maxHeartbeats 4000000 in
theorem jX3_follow_112 {X : Cx} (ok : OK X cX3_follow RX3 (some .int) 6 5 192) (l0 : Nat) (l2 : Int32) (l3 : Int32)  (G : Mem) {r : ((Int32) ⊕ ((Int32) ⊕ Int32))} {G' : Mem} (h : fX3_follow_112 l0 l2 l3 G = some (r, G')) (hK : (finL X 6 39 (fun s : Int32 => [(0, .ref (X.B + l0)), (2, .int l2), (3, .int s)]) (finL X 6 6 (fun s : Int32 => [(0, .ref (X.B + l0)), (2, .int s)]) (finI X))) r G') : J X 6 112 [(0, .ref (X.B + l0)), (2, .int l2), (3, .int l3)] [] G := by
  unfold fX3_follow_112 at h
  refine j_iinc (L' := [(3, .int (l3 + (1 : Int32))), (0, .ref (X.B + l0)), (2, .int l2)]) (v := (l3 + (1 : Int32))) ok dX3_follow_112 (q := 2) rfl rfl (by decide) rfl ?_
  refine j_goto (tgt := 39) ok dX3_follow_115 (by decide) ?_
  obtain ⟨er, eG⟩ := inj2 h
  subst er; subst eG
  have hJ : J X 6 39 [(0, .ref (X.B + l0)), (2, .int l2), (3, .int (l3 + (1 : Int32)))] [] G := hK
  exact J.sub [1, 2, 0] rfl hJ

def fX3_follow_104   (G : Mem) : Option (Int32 × Mem) :=
  some ((-1 : Int32), G)

set_option maxRecDepth 100000 in
set_option maxHeartbeats 4000000 in
theorem jX3_follow_104 {X : Cx} (ok : OK X cX3_follow RX3 (some .int) 6 5 192)   (G : Mem) {r : Int32} {G' : Mem} (h : fX3_follow_104  G = some (r, G')) (hK : (finI X) r G') : J X 6 104 [] [] G := by
  unfold fX3_follow_104 at h
  refine j_iconst (v := -1) ok dX3_follow_104 (by decide) ?_
  obtain ⟨er, eG⟩ := inj2 h
  subst er; subst eG
  exact j_iret ok rfl dX3_follow_105 hK

def fX3_follow_78 (l0 : Nat) (l2 : Int32) (l3 : Int32) (l4 : Int32) (l5 : Int32)  (G : Mem) : Option (((Int32) ⊕ ((Int32) ⊕ ((Int32) ⊕ Int32))) × Mem) :=
  if l4 ≤ l5 then
    liftE (fX3_follow_112 l0 l2 l3 G)
  else
    (gR G 13 l0 0).bind fun v2 =>
    (gR G 10 v2 2).bind fun v3 =>
    (gA G 1 v3 l5).bind fun v4 =>
    ck G 13 l0 <| (fX3_makeMove l0 l2 l3 v4 G).bind fun q5 =>
    if q5.1 = (0 : Int32) then
      liftE (liftE (liftE (fX3_follow_104 q5.2)))
    else
      some (.inl ((l5 + (1 : Int32))), q5.2)

set_option maxRecDepth 100000 in
set_option maxHeartbeats 4000000 in
theorem jX3_follow_78 {X : Cx} (ok : OK X cX3_follow RX3 (some .int) 6 5 192) (l0 : Nat) (l2 : Int32) (l3 : Int32) (l4 : Int32) (l5 : Int32)  (G : Mem) {r : ((Int32) ⊕ ((Int32) ⊕ ((Int32) ⊕ Int32)))} {G' : Mem} (h : fX3_follow_78 l0 l2 l3 l4 l5 G = some (r, G')) (hK : (finL X 6 78 (fun s : Int32 => [(0, .ref (X.B + l0)), (2, .int l2), (3, .int l3), (4, .int l4), (5, .int s)]) (finL X 6 39 (fun s : Int32 => [(0, .ref (X.B + l0)), (2, .int l2), (3, .int s)]) (finL X 6 6 (fun s : Int32 => [(0, .ref (X.B + l0)), (2, .int s)]) (finI X)))) r G') : J X 6 78 [(0, .ref (X.B + l0)), (2, .int l2), (3, .int l3), (4, .int l4), (5, .int l5)] [] G := by
  unfold fX3_follow_78 at h
  refine j_iload ok dX3_follow_78 4 rfl ?_
  refine j_iload ok dX3_follow_80 3 rfl ?_
  rcases ite_some h with ⟨c1, h⟩ | ⟨c1, h⟩
  · refine j_icmp_ge (tgt := 112) ok dX3_follow_82 (by decide) (fun _ => ?_) (fun z => absurd c1 z)
    obtain ⟨r1, e1, h1⟩ := lift_some h
    subst e1
    exact J.sub [0, 1, 2] rfl (jX3_follow_112 ok l0 l2 l3 G h1 hK)
  · refine j_icmp_ge (tgt := 112) ok dX3_follow_82 (by decide) (fun z => absurd z c1) (fun _ => ?_)
    refine j_aload_n ok dX3_follow_85 rfl 0 rfl ?_
    refine j_iload_n ok dX3_follow_86 rfl 1 rfl ?_
    refine j_iload_n ok dX3_follow_87 rfl 2 rfl ?_
    refine j_aload_n ok dX3_follow_88 rfl 0 rfl ?_
    obtain ⟨v2, hv2, h⟩ := obind h
    refine k_getR ok fl_X3_12 hv2 dX3_follow_89 ?_
    obtain ⟨v3, hv3, h⟩ := obind h
    refine k_getR ok fl_X3_117 hv3 dX3_follow_92 ?_
    refine j_iload ok dX3_follow_95 4 rfl ?_
    obtain ⟨v4, hv4, h⟩ := obind h
    refine j_iald ok hv4 dX3_follow_97 ?_
    obtain ⟨kq5, h⟩ := ck_some h
    obtain ⟨q5, hq5, h⟩ := obind h
    refine k_V1 ok kl_X3_120 ⟨Nat.le_of_ble_eq_true rfl, Nat.le_of_ble_eq_true rfl⟩ [.int l2, .int l3, .int v4] kq5 rfl rfl (Nat.le_of_ble_eq_true rfl) (tX3_makeMove ok.fl X.V l0 l2 l3 v4 G hq5) dX3_follow_98 ?_
    rcases ite_some h with ⟨c6, h⟩ | ⟨c6, h⟩
    · refine j_if_ne (tgt := 106) ok dX3_follow_101 (by decide) (fun z => absurd c6 z) (fun _ => ?_)
      obtain ⟨r1, e1, h1⟩ := lift_some h
      subst e1
      obtain ⟨r2, e2, h2⟩ := lift_some h1
      subst e2
      obtain ⟨r3, e3, h3⟩ := lift_some h2
      subst e3
      exact J.sub [] rfl (jX3_follow_104 ok q5.2 h3 hK)
    · refine j_if_ne (tgt := 106) ok dX3_follow_101 (by decide) (fun _ => ?_) (fun z => absurd z c6)
      refine j_iinc (L' := [(5, .int (l5 + (1 : Int32))), (0, .ref (X.B + l0)), (2, .int l2), (3, .int l3), (4, .int l4)]) (v := (l5 + (1 : Int32))) ok dX3_follow_106 (q := 4) rfl rfl (by decide) rfl ?_
      refine j_goto (tgt := 78) ok dX3_follow_109 (by decide) ?_
      obtain ⟨er, eG⟩ := inj2 h
      subst er; subst eG
      have hJ : J X 6 78 [(0, .ref (X.B + l0)), (2, .int l2), (3, .int l3), (4, .int l4), (5, .int (l5 + (1 : Int32)))] [] q5.2 := hK
      exact J.sub [1, 2, 3, 4, 0] rfl hJ

def fX3_follow_39 (l0 : Nat) (l2 : Int32) (l3 : Int32)  (G : Mem) : Option (((Int32) ⊕ ((Int32) ⊕ Int32)) × Mem) :=
  (gR G 13 l0 3).bind fun v1 =>
  (gA G 1 v1 l2).bind fun v2 =>
  if v2 ≤ l3 then
    liftE (fX3_follow_118 l0 l2 G)
  else
    ck G 13 l0 <| (fX3_show l0 l2 l3 G).bind fun q4 =>
    (gR q4.2 13 l0 0).bind fun v5 =>
    (gR q4.2 13 l0 2).bind fun v6 =>
    (gQ q4.2 6 v6 l2).bind fun v7 =>
    ck q4.2 13 l0 <| (fX3_mover l0 l2 q4.2).bind fun q8 =>
    ck q8.2 10 v5 <| (fX0_findMoves v5 v7 q8.1 q8.2).bind fun q9 =>
    loopM (fun (s : Int32) G => fX3_follow_78 l0 l2 l3 q9.1 s G) FU ((0 : Int32)) q9.2

set_option maxRecDepth 100000 in
set_option maxHeartbeats 4000000 in
theorem jX3_follow_39 {X : Cx} (ok : OK X cX3_follow RX3 (some .int) 6 5 192) (l0 : Nat) (l2 : Int32) (l3 : Int32)  (G : Mem) {r : ((Int32) ⊕ ((Int32) ⊕ Int32))} {G' : Mem} (h : fX3_follow_39 l0 l2 l3 G = some (r, G')) (hK : (finL X 6 39 (fun s : Int32 => [(0, .ref (X.B + l0)), (2, .int l2), (3, .int s)]) (finL X 6 6 (fun s : Int32 => [(0, .ref (X.B + l0)), (2, .int s)]) (finI X))) r G') : J X 6 39 [(0, .ref (X.B + l0)), (2, .int l2), (3, .int l3)] [] G := by
  unfold fX3_follow_39 at h
  refine j_iload_n ok dX3_follow_39 rfl 2 rfl ?_
  refine j_aload_n ok dX3_follow_40 rfl 0 rfl ?_
  obtain ⟨v1, hv1, h⟩ := obind h
  refine k_getR ok fl_X3_28 hv1 dX3_follow_41 ?_
  refine j_iload_n ok dX3_follow_44 rfl 1 rfl ?_
  obtain ⟨v2, hv2, h⟩ := obind h
  refine j_iald ok hv2 dX3_follow_45 ?_
  rcases ite_some h with ⟨c3, h⟩ | ⟨c3, h⟩
  · refine j_icmp_ge (tgt := 118) ok dX3_follow_46 (by decide) (fun _ => ?_) (fun z => absurd c3 z)
    obtain ⟨r1, e1, h1⟩ := lift_some h
    subst e1
    exact J.sub [0, 1] rfl (jX3_follow_118 ok l0 l2 G h1 hK)
  · refine j_icmp_ge (tgt := 118) ok dX3_follow_46 (by decide) (fun z => absurd z c3) (fun _ => ?_)
    refine j_aload_n ok dX3_follow_49 rfl 0 rfl ?_
    refine j_iload_n ok dX3_follow_50 rfl 1 rfl ?_
    refine j_iload_n ok dX3_follow_51 rfl 2 rfl ?_
    obtain ⟨kq4, h⟩ := ck_some h
    obtain ⟨q4, hq4, h⟩ := obind h
    refine k_V0 ok kl_X3_106 ⟨Nat.le_of_ble_eq_true rfl, Nat.le_of_ble_eq_true rfl⟩ [.int l2, .int l3] kq4 rfl rfl (Nat.le_of_ble_eq_true rfl) (tX3_show ok.fl X.V l0 l2 l3 G hq4) dX3_follow_52 ?_
    refine j_aload_n ok dX3_follow_55 rfl 0 rfl ?_
    obtain ⟨v5, hv5, h⟩ := obind h
    refine k_getR ok fl_X3_12 hv5 dX3_follow_56 ?_
    refine j_aload_n ok dX3_follow_59 rfl 0 rfl ?_
    obtain ⟨v6, hv6, h⟩ := obind h
    refine k_getR ok fl_X3_24 hv6 dX3_follow_60 ?_
    refine j_iload_n ok dX3_follow_63 rfl 1 rfl ?_
    obtain ⟨v7, hv7, h⟩ := obind h
    refine j_aald ok (Or.inl rfl) hv7 dX3_follow_64 ?_
    refine j_aload_n ok dX3_follow_65 rfl 0 rfl ?_
    refine j_iload_n ok dX3_follow_66 rfl 1 rfl ?_
    obtain ⟨kq8, h⟩ := ck_some h
    obtain ⟨q8, hq8, h⟩ := obind h
    refine k_V1 ok kl_X3_109 ⟨Nat.le_of_ble_eq_true rfl, Nat.le_of_ble_eq_true rfl⟩ [.int l2] kq8 rfl rfl (Nat.le_of_ble_eq_true rfl) (tX3_mover ok.fl X.V l0 l2 q4.2 hq8) dX3_follow_67 ?_
    obtain ⟨kq9, h⟩ := ck_some h
    obtain ⟨q9, hq9, h⟩ := obind h
    refine k_V1 ok kl_X3_113 ⟨Nat.le_of_ble_eq_true rfl, Nat.le_of_ble_eq_true rfl⟩ [.ref (X.B + v7), .int q8.1] kq9 rfl rfl (Nat.le_of_ble_eq_true rfl) (tX0_findMoves ok.fl X.V v5 v7 q8.1 q8.2 hq9) dX3_follow_70 ?_
    refine j_istore (L' := [(4, .int q9.1), (0, .ref (X.B + l0)), (2, .int l2), (3, .int l3)]) ok dX3_follow_73 (by decide) rfl ?_
    refine j_iconst (v := 0) ok dX3_follow_75 (by decide) ?_
    refine j_istore (L' := [(5, .int (0 : Int32)), (4, .int q9.1), (0, .ref (X.B + l0)), (2, .int l2), (3, .int l3)]) ok dX3_follow_76 (by decide) rfl ?_
    have hJ : J X 6 78 [(0, .ref (X.B + l0)), (2, .int l2), (3, .int l3), (4, .int q9.1), (5, .int (0 : Int32))] [] q9.2 := j_loop (loc := fun s : Int32 => [(0, .ref (X.B + l0)), (2, .int l2), (3, .int l3), (4, .int q9.1), (5, .int s)]) (F := (finL X 6 39 (fun s : Int32 => [(0, .ref (X.B + l0)), (2, .int l2), (3, .int s)]) (finL X 6 6 (fun s : Int32 => [(0, .ref (X.B + l0)), (2, .int s)]) (finI X)))) (fun s G r G' hb hk => jX3_follow_78 ok l0 l2 l3 q9.1 s G hb hk) _ _ _ _ _ h hK
    exact J.sub [2, 3, 4, 1, 0] rfl hJ

def fX3_follow_6 (l0 : Nat) (l2 : Int32)  (G : Mem) : Option (((Int32) ⊕ Int32) × Mem) :=
  (gF G 13 l0 1).bind fun v1 =>
  if v1 ≤ l2 then
    liftE (fX3_follow_137 l0 G)
  else
    (gR G 13 l0 3).bind fun v3 =>
    (pA G v3 (l2 + (1 : Int32)) (0 : Int32)).bind fun G4 =>
    (gR G4 13 l0 7).bind fun v5 =>
    (gR G4 13 l0 7).bind fun v6 =>
    (gA G4 1 v6 l2).bind fun v7 =>
    (pA G4 v5 (l2 + (1 : Int32)) v7).bind fun G8 =>
    loopM (fun (s : Int32) G => fX3_follow_39 l0 l2 s G) FU ((0 : Int32)) G8

set_option maxRecDepth 100000 in
set_option maxHeartbeats 4000000 in
theorem jX3_follow_6 {X : Cx} (ok : OK X cX3_follow RX3 (some .int) 6 5 192) (l0 : Nat) (l2 : Int32)  (G : Mem) {r : ((Int32) ⊕ Int32)} {G' : Mem} (h : fX3_follow_6 l0 l2 G = some (r, G')) (hK : (finL X 6 6 (fun s : Int32 => [(0, .ref (X.B + l0)), (2, .int s)]) (finI X)) r G') : J X 6 6 [(0, .ref (X.B + l0)), (2, .int l2)] [] G := by
  unfold fX3_follow_6 at h
  refine j_iload_n ok dX3_follow_6 rfl 1 rfl ?_
  refine j_aload_n ok dX3_follow_7 rfl 0 rfl ?_
  obtain ⟨v1, hv1, h⟩ := obind h
  refine k_getI ok fl_X3_18 hv1 dX3_follow_8 ?_
  rcases ite_some h with ⟨c2, h⟩ | ⟨c2, h⟩
  · refine j_icmp_ge (tgt := 137) ok dX3_follow_11 (by decide) (fun _ => ?_) (fun z => absurd c2 z)
    obtain ⟨r1, e1, h1⟩ := lift_some h
    subst e1
    exact J.sub [0] rfl (jX3_follow_137 ok l0 G h1 hK)
  · refine j_icmp_ge (tgt := 137) ok dX3_follow_11 (by decide) (fun z => absurd z c2) (fun _ => ?_)
    refine j_aload_n ok dX3_follow_14 rfl 0 rfl ?_
    obtain ⟨v3, hv3, h⟩ := obind h
    refine k_getR ok fl_X3_28 hv3 dX3_follow_15 ?_
    refine j_iload_n ok dX3_follow_18 rfl 1 rfl ?_
    refine j_iconst (v := 1) ok dX3_follow_19 (by decide) ?_
    refine j_iadd ok dX3_follow_20 ?_
    refine j_iconst (v := 0) ok dX3_follow_21 (by decide) ?_
    obtain ⟨G4, hG4, h⟩ := obind h
    refine j_iast ok hG4 dX3_follow_22 ?_
    refine j_aload_n ok dX3_follow_23 rfl 0 rfl ?_
    obtain ⟨v5, hv5, h⟩ := obind h
    refine k_getR ok fl_X3_42 hv5 dX3_follow_24 ?_
    refine j_iload_n ok dX3_follow_27 rfl 1 rfl ?_
    refine j_iconst (v := 1) ok dX3_follow_28 (by decide) ?_
    refine j_iadd ok dX3_follow_29 ?_
    refine j_aload_n ok dX3_follow_30 rfl 0 rfl ?_
    obtain ⟨v6, hv6, h⟩ := obind h
    refine k_getR ok fl_X3_42 hv6 dX3_follow_31 ?_
    refine j_iload_n ok dX3_follow_34 rfl 1 rfl ?_
    obtain ⟨v7, hv7, h⟩ := obind h
    refine j_iald ok hv7 dX3_follow_35 ?_
    obtain ⟨G8, hG8, h⟩ := obind h
    refine j_iast ok hG8 dX3_follow_36 ?_
    refine j_iconst (v := 0) ok dX3_follow_37 (by decide) ?_
    refine j_istore_n (L' := [(3, .int (0 : Int32)), (0, .ref (X.B + l0)), (2, .int l2)]) ok dX3_follow_38 rfl (by decide) rfl ?_
    have hJ : J X 6 39 [(0, .ref (X.B + l0)), (2, .int l2), (3, .int (0 : Int32))] [] G8 := j_loop (loc := fun s : Int32 => [(0, .ref (X.B + l0)), (2, .int l2), (3, .int s)]) (F := (finL X 6 6 (fun s : Int32 => [(0, .ref (X.B + l0)), (2, .int s)]) (finI X))) (fun s G r G' hb hk => jX3_follow_39 ok l0 l2 s G hb hk) _ _ _ _ _ h hK
    exact J.sub [1, 2, 0] rfl hJ

def fX3_follow_0 (l0 : Nat) (l1 : Int32)  (G : Mem) : Option (Int32 × Mem) :=
  loopM (fun (s : Int32) G => fX3_follow_6 l0 s G) FU ((if l1 < (0 : Int32) then (0 : Int32) else l1)) G

set_option maxRecDepth 100000 in
set_option maxHeartbeats 4000000 in
theorem jX3_follow_0 {X : Cx} (ok : OK X cX3_follow RX3 (some .int) 6 5 192) (l0 : Nat) (l1 : Int32)  (G : Mem) {r : Int32} {G' : Mem} (h : fX3_follow_0 l0 l1 G = some (r, G')) (hK : (finI X) r G') : J X 6 0 [(0, .ref (X.B + l0)), (1, .int l1)] [] G := by
  unfold fX3_follow_0 at h
  refine j_iload_n ok dX3_follow_0 rfl 1 rfl ?_
  refine j_iconst (v := 0) ok dX3_follow_1 (by decide) ?_
  refine k_mmax ok wm_X3_101 (Nat.le_of_ble_eq_true rfl) (Nat.le_of_ble_eq_true rfl) (Nat.le_of_ble_eq_true rfl) dX3_follow_2 ?_
  refine j_istore_n (L' := [(2, .int (if l1 < (0 : Int32) then (0 : Int32) else l1)), (0, .ref (X.B + l0)), (1, .int l1)]) ok dX3_follow_5 rfl (by decide) rfl ?_
  have hJ : J X 6 6 [(0, .ref (X.B + l0)), (2, .int (if l1 < (0 : Int32) then (0 : Int32) else l1))] [] G := j_loop (loc := fun s : Int32 => [(0, .ref (X.B + l0)), (2, .int s)]) (F := (finI X)) (fun s G r G' hb hk => jX3_follow_6 ok l0 s G hb hk) _ _ _ _ _ h hK
  exact J.sub [1, 0] rfl hJ

def fX3_follow (l0 : Nat) (l1 : Int32) (G : Mem) : Option (Int32 × Mem) := fX3_follow_0 l0 l1 G
set_option maxRecDepth 100000 in
theorem tX3_follow {l : Launch} (hfl : l.stackTraces = false) (V : Wd) (l0 : Nat) (l1 : Int32) (G : Mem) {r : Int32} {G' : Mem} (h : fX3_follow l0 l1 G = some (r, G')) : Mx l yX3_follow cX3_follow 6 (some .int) 5 192 V [.ref (V.B + l0), .int l1] G (.inl (some (.int r))) G' :=
  mx_of (L := [(0, .ref (V.B + l0)), (1, .int l1)]) hfl (by decide +kernel) (Nat.le_of_ble_eq_true rfl) rfl (fun X hl hV hin ok he => by
    subst hl; subst hV
    exact J.sub [0, 1] rfl (jX3_follow_0 ok l0 l1 G h he))
def fX3_gamesAt_21  (s0 : Int64) (G : Mem) : Option (Int64 × Mem) :=
  some (s0, G)

set_option maxRecDepth 100000 in
set_option maxHeartbeats 4000000 in
theorem jX3_gamesAt_21 {X : Cx} (ok : OK X cX3_gamesAt RX3 (some .long) 4 1 22)  (s0 : Int64) (G : Mem) {r : Int64} {G' : Mem} (h : fX3_gamesAt_21 s0 G = some (r, G')) (hK : (finJ X) r G') : J X 4 21 [] [.long s0] G := by
  unfold fX3_gamesAt_21 at h
  obtain ⟨er, eG⟩ := inj2 h
  subst er; subst eG
  exact j_lret ok rfl dX3_gamesAt_21 hK

def fX3_gamesAt_0 (l0 : Nat) (l1 : Int32) (l2 : Int32)  (G : Mem) : Option (Int64 × Mem) :=
  (fX3_cellOf l1 l2 G).bind fun q1 =>
  if q1.1 = (-1 : Int32) then
    fX3_gamesAt_21 (0 : Int64) q1.2
  else
    (gR q1.2 13 l0 4).bind fun v3 =>
    (gJ q1.2 v3 q1.1).bind fun v4 =>
    fX3_gamesAt_21 v4 q1.2

set_option maxRecDepth 100000 in
set_option maxHeartbeats 4000000 in
theorem jX3_gamesAt_0 {X : Cx} (ok : OK X cX3_gamesAt RX3 (some .long) 4 1 22) (l0 : Nat) (l1 : Int32) (l2 : Int32)  (G : Mem) {r : Int64} {G' : Mem} (h : fX3_gamesAt_0 l0 l1 l2 G = some (r, G')) (hK : (finJ X) r G') : J X 4 0 [(0, .ref (X.B + l0)), (1, .int l1), (2, .int l2)] [] G := by
  unfold fX3_gamesAt_0 at h
  refine j_iload_n ok dX3_gamesAt_0 rfl 1 rfl ?_
  refine j_iload_n ok dX3_gamesAt_1 rfl 2 rfl ?_
  obtain ⟨q1, hq1, h⟩ := obind h
  refine k_S1 ok kl_X3_132 ⟨Nat.le_of_ble_eq_true rfl, Nat.le_of_ble_eq_true rfl⟩ [.int l1, .int l2] rfl rfl (Nat.le_of_ble_eq_true rfl) (tX3_cellOf ok.fl X.V l1 l2 G hq1) dX3_gamesAt_2 ?_
  refine j_istore_n (L' := [(3, .int q1.1), (0, .ref (X.B + l0)), (1, .int l1), (2, .int l2)]) ok dX3_gamesAt_5 rfl (by decide) rfl ?_
  refine j_iload_n ok dX3_gamesAt_6 rfl 0 rfl ?_
  refine j_iconst (v := -1) ok dX3_gamesAt_7 (by decide) ?_
  rcases ite_some h with ⟨c2, h⟩ | ⟨c2, h⟩
  · refine j_icmp_ne (tgt := 15) ok dX3_gamesAt_8 (by decide) (fun z => absurd c2 z) (fun _ => ?_)
    refine j_lconst (v := 0) ok dX3_gamesAt_11 (by decide) ?_
    refine j_goto (tgt := 21) ok dX3_gamesAt_12 (by decide) ?_
    exact J.sub [] rfl (jX3_gamesAt_21 ok (0 : Int64) q1.2 h hK)
  · refine j_icmp_ne (tgt := 15) ok dX3_gamesAt_8 (by decide) (fun _ => ?_) (fun z => absurd z c2)
    refine j_aload_n ok dX3_gamesAt_15 rfl 1 rfl ?_
    obtain ⟨v3, hv3, h⟩ := obind h
    refine k_getR ok fl_X3_32 hv3 dX3_gamesAt_16 ?_
    refine j_iload_n ok dX3_gamesAt_19 rfl 0 rfl ?_
    obtain ⟨v4, hv4, h⟩ := obind h
    refine j_lald ok hv4 dX3_gamesAt_20 ?_
    exact J.sub [] rfl (jX3_gamesAt_21 ok v4 q1.2 h hK)

def fX3_gamesAt (l0 : Nat) (l1 : Int32) (l2 : Int32) (G : Mem) : Option (Int64 × Mem) := fX3_gamesAt_0 l0 l1 l2 G
set_option maxRecDepth 100000 in
theorem tX3_gamesAt {l : Launch} (hfl : l.stackTraces = false) (V : Wd) (l0 : Nat) (l1 : Int32) (l2 : Int32) (G : Mem) {r : Int64} {G' : Mem} (h : fX3_gamesAt l0 l1 l2 G = some (r, G')) : Mx l yX3_gamesAt cX3_gamesAt 4 (some .long) 1 22 V [.ref (V.B + l0), .int l1, .int l2] G (.inl (some (.long r))) G' :=
  mx_of (L := [(0, .ref (V.B + l0)), (1, .int l1), (2, .int l2)]) hfl (by decide +kernel) (Nat.le_of_ble_eq_true rfl) rfl (fun X hl hV hin ok he => by
    subst hl; subst hV
    exact J.sub [0, 1, 2] rfl (jX3_gamesAt_0 ok l0 l1 l2 G h he))
def fX3_gamesToLast_0 (l0 : Nat) (l1 : Int32)  (G : Mem) : Option (Int64 × Mem) :=
  (gF G 13 l0 1).bind fun v1 =>
  ck G 13 l0 <| (fX3_gamesAt l0 v1 l1 G).bind fun q2 =>
  some (q2.1, q2.2)

set_option maxRecDepth 100000 in
set_option maxHeartbeats 4000000 in
theorem jX3_gamesToLast_0 {X : Cx} (ok : OK X cX3_gamesToLast RX3 (some .long) 2 2 45) (l0 : Nat) (l1 : Int32)  (G : Mem) {r : Int64} {G' : Mem} (h : fX3_gamesToLast_0 l0 l1 G = some (r, G')) (hK : (finJ X) r G') : J X 2 0 [(0, .ref (X.B + l0)), (1, .int l1)] [] G := by
  unfold fX3_gamesToLast_0 at h
  refine j_aload_n ok dX3_gamesToLast_0 rfl 0 rfl ?_
  refine j_aload_n ok dX3_gamesToLast_1 rfl 0 rfl ?_
  obtain ⟨v1, hv1, h⟩ := obind h
  refine k_getI ok fl_X3_18 hv1 dX3_gamesToLast_2 ?_
  refine j_iload_n ok dX3_gamesToLast_5 rfl 1 rfl ?_
  obtain ⟨kq2, h⟩ := ck_some h
  obtain ⟨q2, hq2, h⟩ := obind h
  refine k_V1 ok kl_X3_128 ⟨Nat.le_of_ble_eq_true rfl, Nat.le_of_ble_eq_true rfl⟩ [.int v1, .int l1] kq2 rfl rfl (Nat.le_of_ble_eq_true rfl) (tX3_gamesAt ok.fl X.V l0 v1 l1 G hq2) dX3_gamesToLast_6 ?_
  obtain ⟨er, eG⟩ := inj2 h
  subst er; subst eG
  exact j_lret ok rfl dX3_gamesToLast_9 hK

def fX3_gamesToLast (l0 : Nat) (l1 : Int32) (G : Mem) : Option (Int64 × Mem) := fX3_gamesToLast_0 l0 l1 G
set_option maxRecDepth 100000 in
theorem tX3_gamesToLast {l : Launch} (hfl : l.stackTraces = false) (V : Wd) (l0 : Nat) (l1 : Int32) (G : Mem) {r : Int64} {G' : Mem} (h : fX3_gamesToLast l0 l1 G = some (r, G')) : Mx l yX3_gamesToLast cX3_gamesToLast 2 (some .long) 2 45 V [.ref (V.B + l0), .int l1] G (.inl (some (.long r))) G' :=
  mx_of (L := [(0, .ref (V.B + l0)), (1, .int l1)]) hfl (by decide +kernel) (Nat.le_of_ble_eq_true rfl) rfl (fun X hl hV hin ok he => by
    subst hl; subst hV
    exact J.sub [0, 1] rfl (jX3_gamesToLast_0 ok l0 l1 G h he))
def fX3_gameTotal_31 (l1 : Int64)  (G : Mem) : Option (Int64 × Mem) :=
  some (l1, G)

set_option maxRecDepth 100000 in
set_option maxHeartbeats 4000000 in
theorem jX3_gameTotal_31 {X : Cx} (ok : OK X cX3_gameTotal RX3 (some .long) 4 3 66) (l1 : Int64)  (G : Mem) {r : Int64} {G' : Mem} (h : fX3_gameTotal_31 l1 G = some (r, G')) (hK : (finJ X) r G') : J X 4 31 [(1, .long l1)] [] G := by
  unfold fX3_gameTotal_31 at h
  refine j_lload_n ok dX3_gameTotal_31 rfl 0 rfl ?_
  obtain ⟨er, eG⟩ := inj2 h
  subst er; subst eG
  exact j_lret ok rfl dX3_gameTotal_32 hK

def fX3_gameTotal_4 (l0 : Nat) (l1 : Int64) (l3 : Int32)  (G : Mem) : Option (((Int64 × Int32) ⊕ Int64) × Mem) :=
  (gR G 13 l0 3).bind fun v1 =>
  (gF G 13 l0 1).bind fun v2 =>
  (gA G 1 v1 v2).bind fun v3 =>
  if v3 ≤ l3 then
    liftE (fX3_gameTotal_31 l1 G)
  else
    ck G 13 l0 <| (fX3_gamesToLast l0 l3 G).bind fun q5 =>
    some (.inl ((l1 + q5.1), (l3 + (1 : Int32))), q5.2)

set_option maxRecDepth 100000 in
set_option maxHeartbeats 4000000 in
theorem jX3_gameTotal_4 {X : Cx} (ok : OK X cX3_gameTotal RX3 (some .long) 4 3 66) (l0 : Nat) (l1 : Int64) (l3 : Int32)  (G : Mem) {r : ((Int64 × Int32) ⊕ Int64)} {G' : Mem} (h : fX3_gameTotal_4 l0 l1 l3 G = some (r, G')) (hK : (finL X 4 4 (fun s : Int64 × Int32 => [(0, .ref (X.B + l0)), (1, .long s.1), (3, .int s.2)]) (finJ X)) r G') : J X 4 4 [(0, .ref (X.B + l0)), (1, .long l1), (3, .int l3)] [] G := by
  unfold fX3_gameTotal_4 at h
  refine j_iload_n ok dX3_gameTotal_4 rfl 2 rfl ?_
  refine j_aload_n ok dX3_gameTotal_5 rfl 0 rfl ?_
  obtain ⟨v1, hv1, h⟩ := obind h
  refine k_getR ok fl_X3_28 hv1 dX3_gameTotal_6 ?_
  refine j_aload_n ok dX3_gameTotal_9 rfl 0 rfl ?_
  obtain ⟨v2, hv2, h⟩ := obind h
  refine k_getI ok fl_X3_18 hv2 dX3_gameTotal_10 ?_
  obtain ⟨v3, hv3, h⟩ := obind h
  refine j_iald ok hv3 dX3_gameTotal_13 ?_
  rcases ite_some h with ⟨c4, h⟩ | ⟨c4, h⟩
  · refine j_icmp_ge (tgt := 31) ok dX3_gameTotal_14 (by decide) (fun _ => ?_) (fun z => absurd c4 z)
    obtain ⟨r1, e1, h1⟩ := lift_some h
    subst e1
    exact J.sub [1] rfl (jX3_gameTotal_31 ok l1 G h1 hK)
  · refine j_icmp_ge (tgt := 31) ok dX3_gameTotal_14 (by decide) (fun z => absurd z c4) (fun _ => ?_)
    refine j_lload_n ok dX3_gameTotal_17 rfl 1 rfl ?_
    refine j_aload_n ok dX3_gameTotal_18 rfl 0 rfl ?_
    refine j_iload_n ok dX3_gameTotal_19 rfl 2 rfl ?_
    obtain ⟨kq5, h⟩ := ck_some h
    obtain ⟨q5, hq5, h⟩ := obind h
    refine k_V1 ok kl_X3_135 ⟨Nat.le_of_ble_eq_true rfl, Nat.le_of_ble_eq_true rfl⟩ [.int l3] kq5 rfl rfl (Nat.le_of_ble_eq_true rfl) (tX3_gamesToLast ok.fl X.V l0 l3 G hq5) dX3_gameTotal_20 ?_
    refine j_ladd ok dX3_gameTotal_23 ?_
    refine j_lstore_n (L' := [(1, .long (l1 + q5.1)), (0, .ref (X.B + l0)), (3, .int l3)]) ok dX3_gameTotal_24 rfl (by decide) rfl ?_
    refine j_iinc (L' := [(3, .int (l3 + (1 : Int32))), (1, .long (l1 + q5.1)), (0, .ref (X.B + l0))]) (v := (l3 + (1 : Int32))) ok dX3_gameTotal_25 (q := 2) rfl rfl (by decide) rfl ?_
    refine j_goto (tgt := 4) ok dX3_gameTotal_28 (by decide) ?_
    obtain ⟨er, eG⟩ := inj2 h
    subst er; subst eG
    have hJ : J X 4 4 [(0, .ref (X.B + l0)), (1, .long (l1 + q5.1)), (3, .int (l3 + (1 : Int32)))] [] q5.2 := hK
    exact J.sub [2, 1, 0] rfl hJ

def fX3_gameTotal_0 (l0 : Nat)  (G : Mem) : Option (Int64 × Mem) :=
  loopM (fun (s : Int64 × Int32) G => fX3_gameTotal_4 l0 s.1 s.2 G) FU ((0 : Int64), (0 : Int32)) G

set_option maxRecDepth 100000 in
set_option maxHeartbeats 4000000 in
theorem jX3_gameTotal_0 {X : Cx} (ok : OK X cX3_gameTotal RX3 (some .long) 4 3 66) (l0 : Nat)  (G : Mem) {r : Int64} {G' : Mem} (h : fX3_gameTotal_0 l0 G = some (r, G')) (hK : (finJ X) r G') : J X 4 0 [(0, .ref (X.B + l0))] [] G := by
  unfold fX3_gameTotal_0 at h
  refine j_lconst (v := 0) ok dX3_gameTotal_0 (by decide) ?_
  refine j_lstore_n (L' := [(1, .long (0 : Int64)), (0, .ref (X.B + l0))]) ok dX3_gameTotal_1 rfl (by decide) rfl ?_
  refine j_iconst (v := 0) ok dX3_gameTotal_2 (by decide) ?_
  refine j_istore_n (L' := [(3, .int (0 : Int32)), (1, .long (0 : Int64)), (0, .ref (X.B + l0))]) ok dX3_gameTotal_3 rfl (by decide) rfl ?_
  have hJ : J X 4 4 [(0, .ref (X.B + l0)), (1, .long (0 : Int64)), (3, .int (0 : Int32))] [] G := j_loop (loc := fun s : Int64 × Int32 => [(0, .ref (X.B + l0)), (1, .long s.1), (3, .int s.2)]) (F := (finJ X)) (fun s G r G' hb hk => jX3_gameTotal_4 ok l0 s.1 s.2 G hb hk) _ _ _ _ _ h hK
  exact J.sub [2, 1, 0] rfl hJ

def fX3_gameTotal (l0 : Nat) (G : Mem) : Option (Int64 × Mem) := fX3_gameTotal_0 l0 G
set_option maxRecDepth 100000 in
theorem tX3_gameTotal {l : Launch} (hfl : l.stackTraces = false) (V : Wd) (l0 : Nat) (G : Mem) {r : Int64} {G' : Mem} (h : fX3_gameTotal l0 G = some (r, G')) : Mx l yX3_gameTotal cX3_gameTotal 4 (some .long) 3 66 V [.ref (V.B + l0)] G (.inl (some (.long r))) G' :=
  mx_of (L := [(0, .ref (V.B + l0))]) hfl (by decide +kernel) (Nat.le_of_ble_eq_true rfl) rfl (fun X hl hV hin ok he => by
    subst hl; subst hV
    exact J.sub [0] rfl (jX3_gameTotal_0 ok l0 G h he))
def fX3_init_109   (G : Mem) : Option (Unit × Mem) :=
  some ((), G)

set_option maxRecDepth 100000 in
set_option maxHeartbeats 4000000 in
theorem jX3_init_109 {X : Cx} (ok : OK X cX3_init RX3 none 2 8 160) (hin : X.meth.name = "<init>")   (G : Mem) {r : Unit} {G' : Mem} (h : fX3_init_109  G = some (r, G')) (hK : (finV X) r G') : J X 2 109 [] [] G := by
  unfold fX3_init_109 at h
  obtain ⟨er, eG⟩ := inj2 h
  subst er; subst eG
  exact j_vret ok rfl dX3_init_109 hK

def fX3_init_81 (l0 : Nat) (l1 : Int32)  (G : Mem) : Option (((Int32) ⊕ Unit) × Mem) :=
  (gR G 13 l0 2).bind fun v1 =>
  (gL G v1).bind fun v2 =>
  if v2 ≤ l1 then
    liftE (fX3_init_109 G)
  else
    (gR G 13 l0 2).bind fun v4 =>
    (nO G 11 7).bind fun q5 =>
    (fX1_init q5.1 q5.2).bind fun q6 =>
    (pQ q6.2 6 11 v4 l1 q5.1).bind fun G7 =>
    some (.inl ((l1 + (1 : Int32))), G7)

set_option maxRecDepth 100000 in
set_option maxHeartbeats 4000000 in
theorem jX3_init_81 {X : Cx} (ok : OK X cX3_init RX3 none 2 8 160) (hin : X.meth.name = "<init>") (l0 : Nat) (l1 : Int32)  (G : Mem) {r : ((Int32) ⊕ Unit)} {G' : Mem} (h : fX3_init_81 l0 l1 G = some (r, G')) (hK : (finL X 2 81 (fun s : Int32 => [(0, .ref (X.B + l0)), (1, .int s)]) (finV X)) r G') : J X 2 81 [(0, .ref (X.B + l0)), (1, .int l1)] [] G := by
  unfold fX3_init_81 at h
  refine j_iload_n ok dX3_init_81 rfl 1 rfl ?_
  refine j_aload_n ok dX3_init_82 rfl 0 rfl ?_
  obtain ⟨v1, hv1, h⟩ := obind h
  refine k_getR ok fl_X3_24 hv1 dX3_init_83 ?_
  obtain ⟨v2, hv2, h⟩ := obind h
  refine j_alen ok hv2 dX3_init_86 ?_
  rcases ite_some h with ⟨c3, h⟩ | ⟨c3, h⟩
  · refine j_icmp_ge (tgt := 109) ok dX3_init_87 (by decide) (fun _ => ?_) (fun z => absurd c3 z)
    obtain ⟨r1, e1, h1⟩ := lift_some h
    subst e1
    exact J.sub [] rfl (jX3_init_109 ok hin G h1 hK)
  · refine j_icmp_ge (tgt := 109) ok dX3_init_87 (by decide) (fun z => absurd z c3) (fun _ => ?_)
    refine j_aload_n ok dX3_init_90 rfl 0 rfl ?_
    obtain ⟨v4, hv4, h⟩ := obind h
    refine k_getR ok fl_X3_24 hv4 dX3_init_91 ?_
    refine j_iload_n ok dX3_init_94 rfl 1 rfl ?_
    obtain ⟨q5, hq5, h⟩ := obind h
    refine k_new ok (ci := 1) in_X1 fp_X1 rfl rfl df_X1 wl_X3_22 wx_X1 wn_X1 hq5 dX3_init_95 ?_
    refine j_dup ok dX3_init_98 rfl ?_
    obtain ⟨q6, hq6, h⟩ := obind h
    refine k_I ok kl_X3_48 ⟨Nat.le_of_ble_eq_true rfl, Nat.le_of_ble_eq_true rfl⟩ [] rfl rfl (Nat.le_of_ble_eq_true rfl) (tX1_init ok.fl X.V q5.1 q5.2 hq6) dX3_init_99 ?_
    obtain ⟨G7, hG7, h⟩ := obind h
    refine j_aast ok (r := (RX0, TX0, 0)) (ci := 1) (Or.inl ⟨rfl, rfl, rfl⟩) hG7 dX3_init_102 ?_
    refine j_iinc (L' := [(1, .int (l1 + (1 : Int32))), (0, .ref (X.B + l0))]) (v := (l1 + (1 : Int32))) ok dX3_init_103 (q := 1) rfl rfl (by decide) rfl ?_
    refine j_goto (tgt := 81) ok dX3_init_106 (by decide) ?_
    obtain ⟨er, eG⟩ := inj2 h
    subst er; subst eG
    have hJ : J X 2 81 [(0, .ref (X.B + l0)), (1, .int (l1 + (1 : Int32)))] [] G7 := hK
    exact J.sub [1, 0] rfl hJ

def fX3_init_0 (l0 : Nat)  (G : Mem) : Option (Unit × Mem) :=
  (nO G 10 7).bind fun q1 =>
  (fX0_init q1.1 q1.2).bind fun q2 =>
  (pR q2.2 13 l0 0 q1.1).bind fun G3 =>
  (pI G3 13 l0 1 (0 : Int32)).bind fun G4 =>
  (nA G4 6 (10 : Int32)).bind fun q5 =>
  (pR q5.2 13 l0 2 q5.1).bind fun G6 =>
  (nA G6 1 (11 : Int32)).bind fun q7 =>
  (pR q7.2 13 l0 3 q7.1).bind fun G8 =>
  (nA G8 5 (440 : Int32)).bind fun q9 =>
  (pR q9.2 13 l0 4 q9.1).bind fun G10 =>
  (nA G10 5 (1320 : Int32)).bind fun q11 =>
  (pR q11.2 13 l0 5 q11.1).bind fun G12 =>
  (nA G12 5 (3 : Int32)).bind fun q13 =>
  (pR q13.2 13 l0 6 q13.1).bind fun G14 =>
  (nA G14 1 (11 : Int32)).bind fun q15 =>
  (pR q15.2 13 l0 7 q15.1).bind fun G16 =>
  (nA G16 1 (250 : Int32)).bind fun q17 =>
  (pR q17.2 13 l0 8 q17.1).bind fun G18 =>
  loopM (fun (s : Int32) G => fX3_init_81 l0 s G) FU ((0 : Int32)) G18

set_option maxRecDepth 100000 in
set_option maxHeartbeats 4000000 in
theorem jX3_init_0 {X : Cx} (ok : OK X cX3_init RX3 none 2 8 160) (hin : X.meth.name = "<init>") (l0 : Nat)  (G : Mem) {r : Unit} {G' : Mem} (h : fX3_init_0 l0 G = some (r, G')) (hK : (finV X) r G') : J X 2 0 [(0, .ref (X.B + l0))] [] G := by
  unfold fX3_init_0 at h
  refine j_aload_n ok dX3_init_0 rfl 0 rfl ?_
  refine k_objI ok wm_X3_3 (Nat.le_of_ble_eq_true rfl) (Nat.le_of_ble_eq_true rfl) (Nat.le_of_ble_eq_true rfl) dX3_init_1 ?_
  refine j_aload_n ok dX3_init_4 rfl 0 rfl ?_
  obtain ⟨q1, hq1, h⟩ := obind h
  refine k_new ok (ci := 0) in_X0 fp_X0 rfl rfl df_X0 wl_X3_9 wx_X0 wn_X0 hq1 dX3_init_5 ?_
  refine j_dup ok dX3_init_8 rfl ?_
  obtain ⟨q2, hq2, h⟩ := obind h
  refine k_I ok kl_X3_11 ⟨Nat.le_of_ble_eq_true rfl, Nat.le_of_ble_eq_true rfl⟩ [] rfl rfl (Nat.le_of_ble_eq_true rfl) (tX0_init ok.fl X.V q1.1 q1.2 hq2) dX3_init_9 ?_
  obtain ⟨G3, hG3, h⟩ := obind h
  refine k_putR ok fl_X3_12 fp_X3 rfl (Or.inl ⟨_, rfl⟩) (Or.inr ⟨rfl, hin, rfl⟩) hG3 dX3_init_12 ?_
  refine j_aload_n ok dX3_init_15 rfl 0 rfl ?_
  refine j_iconst (v := 0) ok dX3_init_16 (by decide) ?_
  obtain ⟨G4, hG4, h⟩ := obind h
  refine k_putI ok fl_X3_18 fp_X3 rfl (Or.inl rfl) hG4 dX3_init_17 ?_
  refine j_aload_n ok dX3_init_20 rfl 0 rfl ?_
  refine j_bipush (v := 10) ok dX3_init_21 (by decide) ?_
  obtain ⟨q5, hq5, h⟩ := obind h
  refine k_anew ok (t := 6) (Or.inl ⟨rfl, rfl⟩) wl_X3_22 hq5 dX3_init_23 ?_
  obtain ⟨G6, hG6, h⟩ := obind h
  refine k_putR ok fl_X3_24 fp_X3 rfl (Or.inr ⟨_, rfl⟩) (Or.inr ⟨rfl, hin, rfl⟩) hG6 dX3_init_26 ?_
  refine j_aload_n ok dX3_init_29 rfl 0 rfl ?_
  refine j_bipush (v := 11) ok dX3_init_30 (by decide) ?_
  obtain ⟨q7, hq7, h⟩ := obind h
  refine k_newaT ok (t := 1) (Or.inl ⟨rfl, rfl⟩) wa_1 hq7 dX3_init_32 ?_
  obtain ⟨G8, hG8, h⟩ := obind h
  refine k_putR ok fl_X3_28 fp_X3 rfl (Or.inr ⟨_, rfl⟩) (Or.inr ⟨rfl, hin, rfl⟩) hG8 dX3_init_34 ?_
  refine j_aload_n ok dX3_init_37 rfl 0 rfl ?_
  refine j_sipush (v := 440) ok dX3_init_38 (by decide) ?_
  obtain ⟨q9, hq9, h⟩ := obind h
  refine k_newaT ok (t := 5) (Or.inr (Or.inr (Or.inr ⟨rfl, rfl⟩))) wa_5 hq9 dX3_init_41 ?_
  obtain ⟨G10, hG10, h⟩ := obind h
  refine k_putR ok fl_X3_32 fp_X3 rfl (Or.inr ⟨_, rfl⟩) (Or.inr ⟨rfl, hin, rfl⟩) hG10 dX3_init_43 ?_
  refine j_aload_n ok dX3_init_46 rfl 0 rfl ?_
  refine j_sipush (v := 1320) ok dX3_init_47 (by decide) ?_
  obtain ⟨q11, hq11, h⟩ := obind h
  refine k_newaT ok (t := 5) (Or.inr (Or.inr (Or.inr ⟨rfl, rfl⟩))) wa_5 hq11 dX3_init_50 ?_
  obtain ⟨G12, hG12, h⟩ := obind h
  refine k_putR ok fl_X3_36 fp_X3 rfl (Or.inr ⟨_, rfl⟩) (Or.inr ⟨rfl, hin, rfl⟩) hG12 dX3_init_52 ?_
  refine j_aload_n ok dX3_init_55 rfl 0 rfl ?_
  refine j_iconst (v := 3) ok dX3_init_56 (by decide) ?_
  obtain ⟨q13, hq13, h⟩ := obind h
  refine k_newaT ok (t := 5) (Or.inr (Or.inr (Or.inr ⟨rfl, rfl⟩))) wa_5 hq13 dX3_init_57 ?_
  obtain ⟨G14, hG14, h⟩ := obind h
  refine k_putR ok fl_X3_39 fp_X3 rfl (Or.inr ⟨_, rfl⟩) (Or.inr ⟨rfl, hin, rfl⟩) hG14 dX3_init_59 ?_
  refine j_aload_n ok dX3_init_62 rfl 0 rfl ?_
  refine j_bipush (v := 11) ok dX3_init_63 (by decide) ?_
  obtain ⟨q15, hq15, h⟩ := obind h
  refine k_newaT ok (t := 1) (Or.inl ⟨rfl, rfl⟩) wa_1 hq15 dX3_init_65 ?_
  obtain ⟨G16, hG16, h⟩ := obind h
  refine k_putR ok fl_X3_42 fp_X3 rfl (Or.inr ⟨_, rfl⟩) (Or.inr ⟨rfl, hin, rfl⟩) hG16 dX3_init_67 ?_
  refine j_aload_n ok dX3_init_70 rfl 0 rfl ?_
  refine j_sipush (v := 250) ok dX3_init_71 (by decide) ?_
  obtain ⟨q17, hq17, h⟩ := obind h
  refine k_newaT ok (t := 1) (Or.inl ⟨rfl, rfl⟩) wa_1 hq17 dX3_init_74 ?_
  obtain ⟨G18, hG18, h⟩ := obind h
  refine k_putR ok fl_X3_45 fp_X3 rfl (Or.inr ⟨_, rfl⟩) (Or.inl rfl) hG18 dX3_init_76 ?_
  refine j_iconst (v := 0) ok dX3_init_79 (by decide) ?_
  refine j_istore_n (L' := [(1, .int (0 : Int32)), (0, .ref (X.B + l0))]) ok dX3_init_80 rfl (by decide) rfl ?_
  have hJ : J X 2 81 [(0, .ref (X.B + l0)), (1, .int (0 : Int32))] [] G18 := j_loop (loc := fun s : Int32 => [(0, .ref (X.B + l0)), (1, .int s)]) (F := (finV X)) (fun s G r G' hb hk => jX3_init_81 ok hin l0 s G hb hk) _ _ _ _ _ h hK
  exact J.sub [1, 0] rfl hJ

def fX3_init (l0 : Nat) (G : Mem) : Option (Unit × Mem) := fX3_init_0 l0 G
set_option maxRecDepth 100000 in
theorem tX3_init {l : Launch} (hfl : l.stackTraces = false) (V : Wd) (l0 : Nat) (G : Mem) {r : Unit} {G' : Mem} (h : fX3_init l0 G = some (r, G')) : Mx l yX3_init cX3_init 2 none 8 160 V [.ref (V.B + l0)] G (.inl none) G' :=
  mx_of (L := [(0, .ref (V.B + l0))]) hfl (by decide +kernel) (Nat.le_of_ble_eq_true rfl) rfl (fun X hl hV hin ok he => by
    subst hl; subst hV
    exact J.sub [0] rfl (jX3_init_0 ok (hin rfl) l0 G h he))
def fX3_linkFrom_0 (l0 : Int32)  (G : Mem) : Option (Int32 × Mem) :=
  some (((l0 >>> ((12 : Int32) &&& 31)) &&& (63 : Int32)), G)

set_option maxRecDepth 100000 in
set_option maxHeartbeats 4000000 in
theorem jX3_linkFrom_0 {X : Cx} (ok : OK X cX3_linkFrom RX3 (some .int) 1 0 0) (l0 : Int32)  (G : Mem) {r : Int32} {G' : Mem} (h : fX3_linkFrom_0 l0 G = some (r, G')) (hK : (finI X) r G') : J X 1 0 [(0, .int l0)] [] G := by
  unfold fX3_linkFrom_0 at h
  refine j_iload_n ok dX3_linkFrom_0 rfl 0 rfl ?_
  refine j_bipush (v := 12) ok dX3_linkFrom_1 (by decide) ?_
  refine j_ishr ok dX3_linkFrom_3 ?_
  refine j_bipush (v := 63) ok dX3_linkFrom_4 (by decide) ?_
  refine j_iand ok dX3_linkFrom_6 ?_
  obtain ⟨er, eG⟩ := inj2 h
  subst er; subst eG
  exact j_iret ok rfl dX3_linkFrom_7 hK

def fX3_linkFrom (l0 : Int32) (G : Mem) : Option (Int32 × Mem) := fX3_linkFrom_0 l0 G
set_option maxRecDepth 100000 in
theorem tX3_linkFrom {l : Launch} (hfl : l.stackTraces = false) (V : Wd) (l0 : Int32) (G : Mem) {r : Int32} {G' : Mem} (h : fX3_linkFrom l0 G = some (r, G')) : Mx l yX3_linkFrom cX3_linkFrom 1 (some .int) 0 0 V [.int l0] G (.inl (some (.int r))) G' :=
  mx_of (L := [(0, .int l0)]) hfl (by decide +kernel) (Nat.le_of_ble_eq_true rfl) rfl (fun X hl hV hin ok he => by
    subst hl; subst hV
    exact J.sub [0] rfl (jX3_linkFrom_0 ok l0 G h he))
def fX3_linkMove_0 (l0 : Int32)  (G : Mem) : Option (Int32 × Mem) :=
  some ((l0 &&& (4095 : Int32)), G)

set_option maxRecDepth 100000 in
set_option maxHeartbeats 4000000 in
theorem jX3_linkMove_0 {X : Cx} (ok : OK X cX3_linkMove RX3 (some .int) 1 0 0) (l0 : Int32)  (G : Mem) {r : Int32} {G' : Mem} (h : fX3_linkMove_0 l0 G = some (r, G')) (hK : (finI X) r G') : J X 1 0 [(0, .int l0)] [] G := by
  unfold fX3_linkMove_0 at h
  refine j_iload_n ok dX3_linkMove_0 rfl 0 rfl ?_
  refine j_sipush (v := 4095) ok dX3_linkMove_1 (by decide) ?_
  refine j_iand ok dX3_linkMove_4 ?_
  obtain ⟨er, eG⟩ := inj2 h
  subst er; subst eG
  exact j_iret ok rfl dX3_linkMove_5 hK

def fX3_linkMove (l0 : Int32) (G : Mem) : Option (Int32 × Mem) := fX3_linkMove_0 l0 G
set_option maxRecDepth 100000 in
theorem tX3_linkMove {l : Launch} (hfl : l.stackTraces = false) (V : Wd) (l0 : Int32) (G : Mem) {r : Int32} {G' : Mem} (h : fX3_linkMove l0 G = some (r, G')) : Mx l yX3_linkMove cX3_linkMove 1 (some .int) 0 0 V [.int l0] G (.inl (some (.int r))) G' :=
  mx_of (L := [(0, .int l0)]) hfl (by decide +kernel) (Nat.le_of_ble_eq_true rfl) rfl (fun X hl hV hin ok he => by
    subst hl; subst hV
    exact J.sub [0] rfl (jX3_linkMove_0 ok l0 G h he))
def fX3_linkTo_0 (l0 : Int32)  (G : Mem) : Option (Int32 × Mem) :=
  some ((l0 >>> ((18 : Int32) &&& 31)), G)

set_option maxRecDepth 100000 in
set_option maxHeartbeats 4000000 in
theorem jX3_linkTo_0 {X : Cx} (ok : OK X cX3_linkTo RX3 (some .int) 1 0 0) (l0 : Int32)  (G : Mem) {r : Int32} {G' : Mem} (h : fX3_linkTo_0 l0 G = some (r, G')) (hK : (finI X) r G') : J X 1 0 [(0, .int l0)] [] G := by
  unfold fX3_linkTo_0 at h
  refine j_iload_n ok dX3_linkTo_0 rfl 0 rfl ?_
  refine j_bipush (v := 18) ok dX3_linkTo_1 (by decide) ?_
  refine j_ishr ok dX3_linkTo_3 ?_
  obtain ⟨er, eG⟩ := inj2 h
  subst er; subst eG
  exact j_iret ok rfl dX3_linkTo_4 hK

def fX3_linkTo (l0 : Int32) (G : Mem) : Option (Int32 × Mem) := fX3_linkTo_0 l0 G
set_option maxRecDepth 100000 in
theorem tX3_linkTo {l : Launch} (hfl : l.stackTraces = false) (V : Wd) (l0 : Int32) (G : Mem) {r : Int32} {G' : Mem} (h : fX3_linkTo l0 G = some (r, G')) : Mx l yX3_linkTo cX3_linkTo 1 (some .int) 0 0 V [.int l0] G (.inl (some (.int r))) G' :=
  mx_of (L := [(0, .int l0)]) hfl (by decide +kernel) (Nat.le_of_ble_eq_true rfl) rfl (fun X hl hV hin ok he => by
    subst hl; subst hV
    exact J.sub [0] rfl (jX3_linkTo_0 ok l0 G h he))
def fX3_positionCount_0 (l0 : Nat)  (G : Mem) : Option (Int32 × Mem) :=
  (gR G 13 l0 3).bind fun v1 =>
  (gF G 13 l0 1).bind fun v2 =>
  (gA G 1 v1 v2).bind fun v3 =>
  some (v3, G)

set_option maxRecDepth 100000 in
set_option maxHeartbeats 4000000 in
theorem jX3_positionCount_0 {X : Cx} (ok : OK X cX3_positionCount RX3 (some .int) 1 0 0) (l0 : Nat)  (G : Mem) {r : Int32} {G' : Mem} (h : fX3_positionCount_0 l0 G = some (r, G')) (hK : (finI X) r G') : J X 1 0 [(0, .ref (X.B + l0))] [] G := by
  unfold fX3_positionCount_0 at h
  refine j_aload_n ok dX3_positionCount_0 rfl 0 rfl ?_
  obtain ⟨v1, hv1, h⟩ := obind h
  refine k_getR ok fl_X3_28 hv1 dX3_positionCount_1 ?_
  refine j_aload_n ok dX3_positionCount_4 rfl 0 rfl ?_
  obtain ⟨v2, hv2, h⟩ := obind h
  refine k_getI ok fl_X3_18 hv2 dX3_positionCount_5 ?_
  obtain ⟨v3, hv3, h⟩ := obind h
  refine j_iald ok hv3 dX3_positionCount_8 ?_
  obtain ⟨er, eG⟩ := inj2 h
  subst er; subst eG
  exact j_iret ok rfl dX3_positionCount_9 hK

def fX3_positionCount (l0 : Nat) (G : Mem) : Option (Int32 × Mem) := fX3_positionCount_0 l0 G
set_option maxRecDepth 100000 in
theorem tX3_positionCount {l : Launch} (hfl : l.stackTraces = false) (V : Wd) (l0 : Nat) (G : Mem) {r : Int32} {G' : Mem} (h : fX3_positionCount l0 G = some (r, G')) : Mx l yX3_positionCount cX3_positionCount 1 (some .int) 0 0 V [.ref (V.B + l0)] G (.inl (some (.int r))) G' :=
  mx_of (L := [(0, .ref (V.B + l0))]) hfl (by decide +kernel) (Nat.le_of_ble_eq_true rfl) rfl (fun X hl hV hin ok he => by
    subst hl; subst hV
    exact J.sub [0] rfl (jX3_positionCount_0 ok l0 G h he))
def fX3_setOrigin_32   (G : Mem) : Option (Unit × Mem) :=
  some ((), G)

set_option maxRecDepth 100000 in
set_option maxHeartbeats 4000000 in
theorem jX3_setOrigin_32 {X : Cx} (ok : OK X cX3_setOrigin RX3 none 4 0 0)   (G : Mem) {r : Unit} {G' : Mem} (h : fX3_setOrigin_32  G = some (r, G')) (hK : (finV X) r G') : J X 4 32 [] [] G := by
  unfold fX3_setOrigin_32 at h
  obtain ⟨er, eG⟩ := inj2 h
  subst er; subst eG
  exact j_vret ok rfl dX3_setOrigin_32 hK

def fX3_setOrigin_0 (l0 : Nat) (l1 : Int32) (l2 : Int32) (l3 : Int32)  (G : Mem) : Option (Unit × Mem) :=
  if l1 < (0 : Int32) then
    fX3_setOrigin_32 G
  else
    (gF G 13 l0 1).bind fun v2 =>
    if v2 ≤ l1 then
      fX3_setOrigin_32 G
    else
      (gR G 13 l0 2).bind fun v4 =>
      (gQ G 6 v4 l1).bind fun v5 =>
      (pI G 11 v5 1 l2).bind fun G6 =>
      (gR G6 13 l0 2).bind fun v7 =>
      (gQ G6 6 v7 l1).bind fun v8 =>
      (pI G6 11 v8 2 l3).bind fun G9 =>
      fX3_setOrigin_32 G9

set_option maxRecDepth 100000 in
set_option maxHeartbeats 4000000 in
theorem jX3_setOrigin_0 {X : Cx} (ok : OK X cX3_setOrigin RX3 none 4 0 0) (l0 : Nat) (l1 : Int32) (l2 : Int32) (l3 : Int32)  (G : Mem) {r : Unit} {G' : Mem} (h : fX3_setOrigin_0 l0 l1 l2 l3 G = some (r, G')) (hK : (finV X) r G') : J X 4 0 [(0, .ref (X.B + l0)), (1, .int l1), (2, .int l2), (3, .int l3)] [] G := by
  unfold fX3_setOrigin_0 at h
  refine j_iload_n ok dX3_setOrigin_0 rfl 1 rfl ?_
  rcases ite_some h with ⟨c1, h⟩ | ⟨c1, h⟩
  · refine j_if_lt (tgt := 32) ok dX3_setOrigin_1 (by decide) (fun _ => ?_) (fun z => absurd c1 z)
    exact J.sub [] rfl (jX3_setOrigin_32 ok G h hK)
  · refine j_if_lt (tgt := 32) ok dX3_setOrigin_1 (by decide) (fun z => absurd z c1) (fun _ => ?_)
    refine j_iload_n ok dX3_setOrigin_4 rfl 1 rfl ?_
    refine j_aload_n ok dX3_setOrigin_5 rfl 0 rfl ?_
    obtain ⟨v2, hv2, h⟩ := obind h
    refine k_getI ok fl_X3_18 hv2 dX3_setOrigin_6 ?_
    rcases ite_some h with ⟨c3, h⟩ | ⟨c3, h⟩
    · refine j_icmp_ge (tgt := 32) ok dX3_setOrigin_9 (by decide) (fun _ => ?_) (fun z => absurd c3 z)
      exact J.sub [] rfl (jX3_setOrigin_32 ok G h hK)
    · refine j_icmp_ge (tgt := 32) ok dX3_setOrigin_9 (by decide) (fun z => absurd z c3) (fun _ => ?_)
      refine j_aload_n ok dX3_setOrigin_12 rfl 0 rfl ?_
      obtain ⟨v4, hv4, h⟩ := obind h
      refine k_getR ok fl_X3_24 hv4 dX3_setOrigin_13 ?_
      refine j_iload_n ok dX3_setOrigin_16 rfl 1 rfl ?_
      obtain ⟨v5, hv5, h⟩ := obind h
      refine j_aald ok (Or.inl rfl) hv5 dX3_setOrigin_17 ?_
      refine j_iload_n ok dX3_setOrigin_18 rfl 2 rfl ?_
      obtain ⟨G6, hG6, h⟩ := obind h
      refine k_putI ok fl_X3_95 fp_X1 rfl (Or.inl rfl) hG6 dX3_setOrigin_19 ?_
      refine j_aload_n ok dX3_setOrigin_22 rfl 0 rfl ?_
      obtain ⟨v7, hv7, h⟩ := obind h
      refine k_getR ok fl_X3_24 hv7 dX3_setOrigin_23 ?_
      refine j_iload_n ok dX3_setOrigin_26 rfl 1 rfl ?_
      obtain ⟨v8, hv8, h⟩ := obind h
      refine j_aald ok (Or.inl rfl) hv8 dX3_setOrigin_27 ?_
      refine j_iload_n ok dX3_setOrigin_28 rfl 3 rfl ?_
      obtain ⟨G9, hG9, h⟩ := obind h
      refine k_putI ok fl_X3_98 fp_X1 rfl (Or.inl rfl) hG9 dX3_setOrigin_29 ?_
      exact J.sub [] rfl (jX3_setOrigin_32 ok G9 h hK)

def fX3_setOrigin (l0 : Nat) (l1 : Int32) (l2 : Int32) (l3 : Int32) (G : Mem) : Option (Unit × Mem) := fX3_setOrigin_0 l0 l1 l2 l3 G
set_option maxRecDepth 100000 in
theorem tX3_setOrigin {l : Launch} (hfl : l.stackTraces = false) (V : Wd) (l0 : Nat) (l1 : Int32) (l2 : Int32) (l3 : Int32) (G : Mem) {r : Unit} {G' : Mem} (h : fX3_setOrigin l0 l1 l2 l3 G = some (r, G')) : Mx l yX3_setOrigin cX3_setOrigin 4 none 0 0 V [.ref (V.B + l0), .int l1, .int l2, .int l3] G (.inl none) G' :=
  mx_of (L := [(0, .ref (V.B + l0)), (1, .int l1), (2, .int l2), (3, .int l3)]) hfl (by decide +kernel) (Nat.le_of_ble_eq_true rfl) rfl (fun X hl hV hin ok he => by
    subst hl; subst hV
    exact J.sub [0, 1, 2, 3] rfl (jX3_setOrigin_0 ok l0 l1 l2 l3 G h he))
def fX4_continuationsAt_21  (s0 : Int64) (G : Mem) : Option (Int64 × Mem) :=
  some (s0, G)

set_option maxRecDepth 100000 in
set_option maxHeartbeats 4000000 in
theorem jX4_continuationsAt_21 {X : Cx} (ok : OK X cX4_continuationsAt RX4 (some .long) 4 1 22)  (s0 : Int64) (G : Mem) {r : Int64} {G' : Mem} (h : fX4_continuationsAt_21 s0 G = some (r, G')) (hK : (finJ X) r G') : J X 4 21 [] [.long s0] G := by
  unfold fX4_continuationsAt_21 at h
  obtain ⟨er, eG⟩ := inj2 h
  subst er; subst eG
  exact j_lret ok rfl dX4_continuationsAt_21 hK

def fX4_continuationsAt_0 (l0 : Nat) (l1 : Int32) (l2 : Int32)  (G : Mem) : Option (Int64 × Mem) :=
  (fX3_cellOf l1 l2 G).bind fun q1 =>
  if q1.1 = (-1 : Int32) then
    fX4_continuationsAt_21 (0 : Int64) q1.2
  else
    (gR q1.2 14 l0 2).bind fun v3 =>
    (gJ q1.2 v3 q1.1).bind fun v4 =>
    fX4_continuationsAt_21 v4 q1.2

set_option maxRecDepth 100000 in
set_option maxHeartbeats 4000000 in
theorem jX4_continuationsAt_0 {X : Cx} (ok : OK X cX4_continuationsAt RX4 (some .long) 4 1 22) (l0 : Nat) (l1 : Int32) (l2 : Int32)  (G : Mem) {r : Int64} {G' : Mem} (h : fX4_continuationsAt_0 l0 l1 l2 G = some (r, G')) (hK : (finJ X) r G') : J X 4 0 [(0, .ref (X.B + l0)), (1, .int l1), (2, .int l2)] [] G := by
  unfold fX4_continuationsAt_0 at h
  refine j_iload_n ok dX4_continuationsAt_0 rfl 1 rfl ?_
  refine j_iload_n ok dX4_continuationsAt_1 rfl 2 rfl ?_
  obtain ⟨q1, hq1, h⟩ := obind h
  refine k_S1 ok kl_X4_51 ⟨Nat.le_of_ble_eq_true rfl, Nat.le_of_ble_eq_true rfl⟩ [.int l1, .int l2] rfl rfl (Nat.le_of_ble_eq_true rfl) (tX3_cellOf ok.fl X.V l1 l2 G hq1) dX4_continuationsAt_2 ?_
  refine j_istore_n (L' := [(3, .int q1.1), (0, .ref (X.B + l0)), (1, .int l1), (2, .int l2)]) ok dX4_continuationsAt_5 rfl (by decide) rfl ?_
  refine j_iload_n ok dX4_continuationsAt_6 rfl 0 rfl ?_
  refine j_iconst (v := -1) ok dX4_continuationsAt_7 (by decide) ?_
  rcases ite_some h with ⟨c2, h⟩ | ⟨c2, h⟩
  · refine j_icmp_ne (tgt := 15) ok dX4_continuationsAt_8 (by decide) (fun z => absurd c2 z) (fun _ => ?_)
    refine j_lconst (v := 0) ok dX4_continuationsAt_11 (by decide) ?_
    refine j_goto (tgt := 21) ok dX4_continuationsAt_12 (by decide) ?_
    exact J.sub [] rfl (jX4_continuationsAt_21 ok (0 : Int64) q1.2 h hK)
  · refine j_icmp_ne (tgt := 15) ok dX4_continuationsAt_8 (by decide) (fun _ => ?_) (fun z => absurd z c2)
    refine j_aload_n ok dX4_continuationsAt_15 rfl 1 rfl ?_
    obtain ⟨v3, hv3, h⟩ := obind h
    refine k_getR ok fl_X4_19 hv3 dX4_continuationsAt_16 ?_
    refine j_iload_n ok dX4_continuationsAt_19 rfl 0 rfl ?_
    obtain ⟨v4, hv4, h⟩ := obind h
    refine j_lald ok hv4 dX4_continuationsAt_20 ?_
    exact J.sub [] rfl (jX4_continuationsAt_21 ok v4 q1.2 h hK)

def fX4_continuationsAt (l0 : Nat) (l1 : Int32) (l2 : Int32) (G : Mem) : Option (Int64 × Mem) := fX4_continuationsAt_0 l0 l1 l2 G
set_option maxRecDepth 100000 in
theorem tX4_continuationsAt {l : Launch} (hfl : l.stackTraces = false) (V : Wd) (l0 : Nat) (l1 : Int32) (l2 : Int32) (G : Mem) {r : Int64} {G' : Mem} (h : fX4_continuationsAt l0 l1 l2 G = some (r, G')) : Mx l yX4_continuationsAt cX4_continuationsAt 4 (some .long) 1 22 V [.ref (V.B + l0), .int l1, .int l2] G (.inl (some (.long r))) G' :=
  mx_of (L := [(0, .ref (V.B + l0)), (1, .int l1), (2, .int l2)]) hfl (by decide +kernel) (Nat.le_of_ble_eq_true rfl) rfl (fun X hl hV hin ok he => by
    subst hl; subst hV
    exact J.sub [0, 1, 2] rfl (jX4_continuationsAt_0 ok l0 l1 l2 G h he))
def fX4_countContinuations_123   (G : Mem) : Option (Unit × Mem) :=
  some ((), G)

set_option maxRecDepth 100000 in
set_option maxHeartbeats 4000000 in
theorem jX4_countContinuations_123 {X : Cx} (ok : OK X cX4_countContinuations RX4 none 7 2 47)   (G : Mem) {r : Unit} {G' : Mem} (h : fX4_countContinuations_123  G = some (r, G')) (hK : (finV X) r G') : J X 7 123 [] [] G := by
  unfold fX4_countContinuations_123 at h
  obtain ⟨er, eG⟩ := inj2 h
  subst er; subst eG
  exact j_vret ok rfl dX4_countContinuations_123 hK

def fX4_countContinuations_117 (l0 : Nat) (l1 : Nat) (l3 : Int32)  (G : Mem) : Option (((Int32) ⊕ Unit) × Mem) :=
  some (.inl ((l3 + (-1 : Int32))), G)

set_option maxRecDepth 100000 in
set_option maxHeartbeats 4000000 in
theorem jX4_countContinuations_117 {X : Cx} (ok : OK X cX4_countContinuations RX4 none 7 2 47) (l0 : Nat) (l1 : Nat) (l3 : Int32)  (G : Mem) {r : ((Int32) ⊕ Unit)} {G' : Mem} (h : fX4_countContinuations_117 l0 l1 l3 G = some (r, G')) (hK : (finL X 7 38 (fun s : Int32 => [(0, .ref (X.B + l0)), (1, .ref (X.B + l1)), (3, .int s)]) (finV X)) r G') : J X 7 117 [(0, .ref (X.B + l0)), (1, .ref (X.B + l1)), (3, .int l3)] [] G := by
  unfold fX4_countContinuations_117 at h
  refine j_iinc (L' := [(3, .int (l3 + (-1 : Int32))), (0, .ref (X.B + l0)), (1, .ref (X.B + l1))]) (v := (l3 + (-1 : Int32))) ok dX4_countContinuations_117 (q := 2) rfl rfl (by decide) rfl ?_
  refine j_goto (tgt := 38) ok dX4_countContinuations_120 (by decide) ?_
  obtain ⟨er, eG⟩ := inj2 h
  subst er; subst eG
  have hJ : J X 7 38 [(0, .ref (X.B + l0)), (1, .ref (X.B + l1)), (3, .int (l3 + (-1 : Int32)))] [] G := hK
  exact J.sub [1, 2, 0] rfl hJ

def fX4_countContinuations_111 (l0 : Nat) (l1 : Nat) (l3 : Int32) (l4 : Int32)  (G : Mem) : Option (((Int32) ⊕ ((Int32) ⊕ Unit)) × Mem) :=
  some (.inl ((l4 + (1 : Int32))), G)

set_option maxRecDepth 100000 in
set_option maxHeartbeats 4000000 in
theorem jX4_countContinuations_111 {X : Cx} (ok : OK X cX4_countContinuations RX4 none 7 2 47) (l0 : Nat) (l1 : Nat) (l3 : Int32) (l4 : Int32)  (G : Mem) {r : ((Int32) ⊕ ((Int32) ⊕ Unit))} {G' : Mem} (h : fX4_countContinuations_111 l0 l1 l3 l4 G = some (r, G')) (hK : (finL X 7 50 (fun s : Int32 => [(0, .ref (X.B + l0)), (1, .ref (X.B + l1)), (3, .int l3), (4, .int s)]) (finL X 7 38 (fun s : Int32 => [(0, .ref (X.B + l0)), (1, .ref (X.B + l1)), (3, .int s)]) (finV X))) r G') : J X 7 111 [(0, .ref (X.B + l0)), (1, .ref (X.B + l1)), (3, .int l3), (4, .int l4)] [] G := by
  unfold fX4_countContinuations_111 at h
  refine j_iinc (L' := [(4, .int (l4 + (1 : Int32))), (0, .ref (X.B + l0)), (1, .ref (X.B + l1)), (3, .int l3)]) (v := (l4 + (1 : Int32))) ok dX4_countContinuations_111 (q := 3) rfl rfl (by decide) rfl ?_
  refine j_goto (tgt := 50) ok dX4_countContinuations_114 (by decide) ?_
  obtain ⟨er, eG⟩ := inj2 h
  subst er; subst eG
  have hJ : J X 7 50 [(0, .ref (X.B + l0)), (1, .ref (X.B + l1)), (3, .int l3), (4, .int (l4 + (1 : Int32)))] [] G := hK
  exact J.sub [1, 2, 3, 0] rfl hJ

def fX4_countContinuations_50 (l0 : Nat) (l1 : Nat) (l3 : Int32) (l4 : Int32)  (G : Mem) : Option (((Int32) ⊕ ((Int32) ⊕ Unit)) × Mem) :=
  (gR G 13 l1 7).bind fun v1 =>
  (gA G 1 v1 (l3 + (1 : Int32))).bind fun v2 =>
  if v2 ≤ l4 then
    liftE (fX4_countContinuations_117 l0 l1 l3 G)
  else
    (gR G 13 l1 8).bind fun v4 =>
    (gA G 1 v4 l4).bind fun v5 =>
    (fX3_linkFrom v5 G).bind fun q6 =>
    (fX3_cellOf l3 q6.1 q6.2).bind fun q7 =>
    if q7.1 = (-1 : Int32) then
      fX4_countContinuations_111 l0 l1 l3 l4 q7.2
    else
      (gR q7.2 14 l0 2).bind fun v9 =>
      (gJ q7.2 v9 q7.1).bind fun v10 =>
      (fX3_linkTo v5 q7.2).bind fun q11 =>
      ck q11.2 14 l0 <| (fX4_continuationsAt l0 (l3 + (1 : Int32)) q11.1 q11.2).bind fun q12 =>
      (pJ q12.2 v9 q7.1 (v10 + q12.1)).bind fun G13 =>
      fX4_countContinuations_111 l0 l1 l3 l4 G13

set_option maxRecDepth 100000 in
set_option maxHeartbeats 4000000 in
theorem jX4_countContinuations_50 {X : Cx} (ok : OK X cX4_countContinuations RX4 none 7 2 47) (l0 : Nat) (l1 : Nat) (l3 : Int32) (l4 : Int32)  (G : Mem) {r : ((Int32) ⊕ ((Int32) ⊕ Unit))} {G' : Mem} (h : fX4_countContinuations_50 l0 l1 l3 l4 G = some (r, G')) (hK : (finL X 7 50 (fun s : Int32 => [(0, .ref (X.B + l0)), (1, .ref (X.B + l1)), (3, .int l3), (4, .int s)]) (finL X 7 38 (fun s : Int32 => [(0, .ref (X.B + l0)), (1, .ref (X.B + l1)), (3, .int s)]) (finV X))) r G') : J X 7 50 [(0, .ref (X.B + l0)), (1, .ref (X.B + l1)), (3, .int l3), (4, .int l4)] [] G := by
  unfold fX4_countContinuations_50 at h
  refine j_iload ok dX4_countContinuations_50 3 rfl ?_
  refine j_aload_n ok dX4_countContinuations_52 rfl 1 rfl ?_
  obtain ⟨v1, hv1, h⟩ := obind h
  refine k_getR ok fl_X4_40 hv1 dX4_countContinuations_53 ?_
  refine j_iload_n ok dX4_countContinuations_56 rfl 2 rfl ?_
  refine j_iconst (v := 1) ok dX4_countContinuations_57 (by decide) ?_
  refine j_iadd ok dX4_countContinuations_58 ?_
  obtain ⟨v2, hv2, h⟩ := obind h
  refine j_iald ok hv2 dX4_countContinuations_59 ?_
  rcases ite_some h with ⟨c3, h⟩ | ⟨c3, h⟩
  · refine j_icmp_ge (tgt := 117) ok dX4_countContinuations_60 (by decide) (fun _ => ?_) (fun z => absurd c3 z)
    obtain ⟨r1, e1, h1⟩ := lift_some h
    subst e1
    exact J.sub [0, 1, 2] rfl (jX4_countContinuations_117 ok l0 l1 l3 G h1 hK)
  · refine j_icmp_ge (tgt := 117) ok dX4_countContinuations_60 (by decide) (fun z => absurd z c3) (fun _ => ?_)
    refine j_aload_n ok dX4_countContinuations_63 rfl 1 rfl ?_
    obtain ⟨v4, hv4, h⟩ := obind h
    refine k_getR ok fl_X4_44 hv4 dX4_countContinuations_64 ?_
    refine j_iload ok dX4_countContinuations_67 3 rfl ?_
    obtain ⟨v5, hv5, h⟩ := obind h
    refine j_iald ok hv5 dX4_countContinuations_69 ?_
    refine j_istore (L' := [(5, .int v5), (0, .ref (X.B + l0)), (1, .ref (X.B + l1)), (3, .int l3), (4, .int l4)]) ok dX4_countContinuations_70 (by decide) rfl ?_
    refine j_iload_n ok dX4_countContinuations_72 rfl 3 rfl ?_
    refine j_iload ok dX4_countContinuations_73 0 rfl ?_
    obtain ⟨q6, hq6, h⟩ := obind h
    refine k_S1 ok kl_X4_47 ⟨Nat.le_of_ble_eq_true rfl, Nat.le_of_ble_eq_true rfl⟩ [.int v5] rfl rfl (Nat.le_of_ble_eq_true rfl) (tX3_linkFrom ok.fl X.V v5 G hq6) dX4_countContinuations_75 ?_
    obtain ⟨q7, hq7, h⟩ := obind h
    refine k_S1 ok kl_X4_51 ⟨Nat.le_of_ble_eq_true rfl, Nat.le_of_ble_eq_true rfl⟩ [.int l3, .int q6.1] rfl rfl (Nat.le_of_ble_eq_true rfl) (tX3_cellOf ok.fl X.V l3 q6.1 q6.2 hq7) dX4_countContinuations_78 ?_
    refine j_istore (L' := [(6, .int q7.1), (5, .int v5), (0, .ref (X.B + l0)), (1, .ref (X.B + l1)), (3, .int l3), (4, .int l4)]) ok dX4_countContinuations_81 (by decide) rfl ?_
    refine j_iload ok dX4_countContinuations_83 0 rfl ?_
    refine j_iconst (v := -1) ok dX4_countContinuations_85 (by decide) ?_
    rcases ite_some h with ⟨c8, h⟩ | ⟨c8, h⟩
    · refine j_icmp_eq (tgt := 111) ok dX4_countContinuations_86 (by decide) (fun _ => ?_) (fun z => absurd c8 z)
      exact J.sub [2, 3, 4, 5] rfl (jX4_countContinuations_111 ok l0 l1 l3 l4 q7.2 h hK)
    · refine j_icmp_eq (tgt := 111) ok dX4_countContinuations_86 (by decide) (fun z => absurd z c8) (fun _ => ?_)
      refine j_aload_n ok dX4_countContinuations_89 rfl 2 rfl ?_
      obtain ⟨v9, hv9, h⟩ := obind h
      refine k_getR ok fl_X4_19 hv9 dX4_countContinuations_90 ?_
      refine j_iload ok dX4_countContinuations_93 0 rfl ?_
      refine j_dup2 ok dX4_countContinuations_95 rfl rfl ?_
      obtain ⟨v10, hv10, h⟩ := obind h
      refine j_lald ok hv10 dX4_countContinuations_96 ?_
      refine j_aload_n ok dX4_countContinuations_97 rfl 2 rfl ?_
      refine j_iload_n ok dX4_countContinuations_98 rfl 4 rfl ?_
      refine j_iconst (v := 1) ok dX4_countContinuations_99 (by decide) ?_
      refine j_iadd ok dX4_countContinuations_100 ?_
      refine j_iload ok dX4_countContinuations_101 1 rfl ?_
      obtain ⟨q11, hq11, h⟩ := obind h
      refine k_S1 ok kl_X4_55 ⟨Nat.le_of_ble_eq_true rfl, Nat.le_of_ble_eq_true rfl⟩ [.int v5] rfl rfl (Nat.le_of_ble_eq_true rfl) (tX3_linkTo ok.fl X.V v5 q7.2 hq11) dX4_countContinuations_103 ?_
      obtain ⟨kq12, h⟩ := ck_some h
      obtain ⟨q12, hq12, h⟩ := obind h
      refine k_V1 ok kl_X4_58 ⟨Nat.le_of_ble_eq_true rfl, Nat.le_of_ble_eq_true rfl⟩ [.int (l3 + (1 : Int32)), .int q11.1] kq12 rfl rfl (Nat.le_of_ble_eq_true rfl) (tX4_continuationsAt ok.fl X.V l0 (l3 + (1 : Int32)) q11.1 q11.2 hq12) dX4_countContinuations_106 ?_
      refine j_ladd ok dX4_countContinuations_109 ?_
      obtain ⟨G13, hG13, h⟩ := obind h
      refine j_last ok hG13 dX4_countContinuations_110 ?_
      exact J.sub [2, 3, 4, 5] rfl (jX4_countContinuations_111 ok l0 l1 l3 l4 G13 h hK)

def fX4_countContinuations_38 (l0 : Nat) (l1 : Nat) (l3 : Int32)  (G : Mem) : Option (((Int32) ⊕ Unit) × Mem) :=
  if l3 < (0 : Int32) then
    liftE (fX4_countContinuations_123 G)
  else
    (gR G 13 l1 7).bind fun v2 =>
    (gA G 1 v2 l3).bind fun v3 =>
    loopM (fun (s : Int32) G => fX4_countContinuations_50 l0 l1 l3 s G) FU (v3) G

set_option maxRecDepth 100000 in
set_option maxHeartbeats 4000000 in
theorem jX4_countContinuations_38 {X : Cx} (ok : OK X cX4_countContinuations RX4 none 7 2 47) (l0 : Nat) (l1 : Nat) (l3 : Int32)  (G : Mem) {r : ((Int32) ⊕ Unit)} {G' : Mem} (h : fX4_countContinuations_38 l0 l1 l3 G = some (r, G')) (hK : (finL X 7 38 (fun s : Int32 => [(0, .ref (X.B + l0)), (1, .ref (X.B + l1)), (3, .int s)]) (finV X)) r G') : J X 7 38 [(0, .ref (X.B + l0)), (1, .ref (X.B + l1)), (3, .int l3)] [] G := by
  unfold fX4_countContinuations_38 at h
  refine j_iload_n ok dX4_countContinuations_38 rfl 2 rfl ?_
  rcases ite_some h with ⟨c1, h⟩ | ⟨c1, h⟩
  · refine j_if_lt (tgt := 123) ok dX4_countContinuations_39 (by decide) (fun _ => ?_) (fun z => absurd c1 z)
    obtain ⟨r1, e1, h1⟩ := lift_some h
    subst e1
    exact J.sub [] rfl (jX4_countContinuations_123 ok G h1 hK)
  · refine j_if_lt (tgt := 123) ok dX4_countContinuations_39 (by decide) (fun z => absurd z c1) (fun _ => ?_)
    refine j_aload_n ok dX4_countContinuations_42 rfl 1 rfl ?_
    obtain ⟨v2, hv2, h⟩ := obind h
    refine k_getR ok fl_X4_40 hv2 dX4_countContinuations_43 ?_
    refine j_iload_n ok dX4_countContinuations_46 rfl 2 rfl ?_
    obtain ⟨v3, hv3, h⟩ := obind h
    refine j_iald ok hv3 dX4_countContinuations_47 ?_
    refine j_istore (L' := [(4, .int v3), (0, .ref (X.B + l0)), (1, .ref (X.B + l1)), (3, .int l3)]) ok dX4_countContinuations_48 (by decide) rfl ?_
    have hJ : J X 7 50 [(0, .ref (X.B + l0)), (1, .ref (X.B + l1)), (3, .int l3), (4, .int v3)] [] G := j_loop (loc := fun s : Int32 => [(0, .ref (X.B + l0)), (1, .ref (X.B + l1)), (3, .int l3), (4, .int s)]) (F := (finL X 7 38 (fun s : Int32 => [(0, .ref (X.B + l0)), (1, .ref (X.B + l1)), (3, .int s)]) (finV X))) (fun s G r G' hb hk => jX4_countContinuations_50 ok l0 l1 l3 s G hb hk) _ _ _ _ _ h hK
    exact J.sub [1, 2, 3, 0] rfl hJ

def fX4_countContinuations_0 (l0 : Nat) (l1 : Nat)  (G : Mem) : Option (Unit × Mem) :=
  (gR G 14 l0 2).bind fun v1 =>
  (fJ7_fill_d0a16 v1 (0 : Int64) G).bind fun q2 =>
  (gF q2.2 13 l1 1).bind fun v3 =>
  (gR q2.2 14 l0 2).bind fun v4 =>
  ck q2.2 13 l1 <| (fX3_positionCount l1 q2.2).bind fun q5 =>
  (fJ7_fill_bad5a v4 (v3 * (40 : Int32)) ((v3 * (40 : Int32)) + q5.1) (1 : Int64) q5.2).bind fun q6 =>
  (gF q6.2 13 l1 1).bind fun v7 =>
  loopM (fun (s : Int32) G => fX4_countContinuations_38 l0 l1 s G) FU ((v7 - (1 : Int32))) q6.2

set_option maxRecDepth 100000 in
set_option maxHeartbeats 4000000 in
theorem jX4_countContinuations_0 {X : Cx} (ok : OK X cX4_countContinuations RX4 none 7 2 47) (l0 : Nat) (l1 : Nat)  (G : Mem) {r : Unit} {G' : Mem} (h : fX4_countContinuations_0 l0 l1 G = some (r, G')) (hK : (finV X) r G') : J X 7 0 [(0, .ref (X.B + l0)), (1, .ref (X.B + l1))] [] G := by
  unfold fX4_countContinuations_0 at h
  refine j_aload_n ok dX4_countContinuations_0 rfl 0 rfl ?_
  obtain ⟨v1, hv1, h⟩ := obind h
  refine k_getR ok fl_X4_19 hv1 dX4_countContinuations_1 ?_
  refine j_lconst (v := 0) ok dX4_countContinuations_4 (by decide) ?_
  obtain ⟨q2, hq2, h⟩ := obind h
  refine k_S0 ok kl_X4_22 ⟨Nat.le_of_ble_eq_true rfl, Nat.le_of_ble_eq_true rfl⟩ [.ref (X.B + v1), .long (0 : Int64)] rfl rfl (Nat.le_of_ble_eq_true rfl) (tJ7_fill_d0a16 ok.fl X.V v1 (0 : Int64) G hq2) dX4_countContinuations_5 ?_
  refine j_aload_n ok dX4_countContinuations_8 rfl 1 rfl ?_
  obtain ⟨v3, hv3, h⟩ := obind h
  refine k_getI ok fl_X4_28 hv3 dX4_countContinuations_9 ?_
  refine j_bipush (v := 40) ok dX4_countContinuations_12 (by decide) ?_
  refine j_imul ok dX4_countContinuations_14 ?_
  refine j_istore_n (L' := [(2, .int (v3 * (40 : Int32))), (0, .ref (X.B + l0)), (1, .ref (X.B + l1))]) ok dX4_countContinuations_15 rfl (by decide) rfl ?_
  refine j_aload_n ok dX4_countContinuations_16 rfl 1 rfl ?_
  obtain ⟨v4, hv4, h⟩ := obind h
  refine k_getR ok fl_X4_19 hv4 dX4_countContinuations_17 ?_
  refine j_iload_n ok dX4_countContinuations_20 rfl 0 rfl ?_
  refine j_iload_n ok dX4_countContinuations_21 rfl 0 rfl ?_
  refine j_aload_n ok dX4_countContinuations_22 rfl 2 rfl ?_
  obtain ⟨kq5, h⟩ := ck_some h
  obtain ⟨q5, hq5, h⟩ := obind h
  refine k_V1 ok kl_X4_33 ⟨Nat.le_of_ble_eq_true rfl, Nat.le_of_ble_eq_true rfl⟩ [] kq5 rfl rfl (Nat.le_of_ble_eq_true rfl) (tX3_positionCount ok.fl X.V l1 q2.2 hq5) dX4_countContinuations_23 ?_
  refine j_iadd ok dX4_countContinuations_26 ?_
  refine j_lconst (v := 1) ok dX4_countContinuations_27 (by decide) ?_
  obtain ⟨q6, hq6, h⟩ := obind h
  refine k_S0 ok kl_X4_37 ⟨Nat.le_of_ble_eq_true rfl, Nat.le_of_ble_eq_true rfl⟩ [.ref (X.B + v4), .int (v3 * (40 : Int32)), .int ((v3 * (40 : Int32)) + q5.1), .long (1 : Int64)] rfl rfl (Nat.le_of_ble_eq_true rfl) (tJ7_fill_bad5a ok.fl X.V v4 (v3 * (40 : Int32)) ((v3 * (40 : Int32)) + q5.1) (1 : Int64) q5.2 hq6) dX4_countContinuations_28 ?_
  refine j_aload_n ok dX4_countContinuations_31 rfl 2 rfl ?_
  obtain ⟨v7, hv7, h⟩ := obind h
  refine k_getI ok fl_X4_28 hv7 dX4_countContinuations_32 ?_
  refine j_iconst (v := 1) ok dX4_countContinuations_35 (by decide) ?_
  refine j_isub ok dX4_countContinuations_36 ?_
  refine j_istore_n (L' := [(3, .int (v7 - (1 : Int32))), (2, .int (v3 * (40 : Int32))), (0, .ref (X.B + l0)), (1, .ref (X.B + l1))]) ok dX4_countContinuations_37 rfl (by decide) rfl ?_
  have hJ : J X 7 38 [(0, .ref (X.B + l0)), (1, .ref (X.B + l1)), (3, .int (v7 - (1 : Int32)))] [] q6.2 := j_loop (loc := fun s : Int32 => [(0, .ref (X.B + l0)), (1, .ref (X.B + l1)), (3, .int s)]) (F := (finV X)) (fun s G r G' hb hk => jX4_countContinuations_38 ok l0 l1 s G hb hk) _ _ _ _ _ h hK
  exact J.sub [2, 3, 0] rfl hJ

def fX4_countContinuations (l0 : Nat) (l1 : Nat) (G : Mem) : Option (Unit × Mem) := fX4_countContinuations_0 l0 l1 G
set_option maxRecDepth 100000 in
theorem tX4_countContinuations {l : Launch} (hfl : l.stackTraces = false) (V : Wd) (l0 : Nat) (l1 : Nat) (G : Mem) {r : Unit} {G' : Mem} (h : fX4_countContinuations l0 l1 G = some (r, G')) : Mx l yX4_countContinuations cX4_countContinuations 7 none 2 47 V [.ref (V.B + l0), .ref (V.B + l1)] G (.inl none) G' :=
  mx_of (L := [(0, .ref (V.B + l0)), (1, .ref (V.B + l1))]) hfl (by decide +kernel) (Nat.le_of_ble_eq_true rfl) rfl (fun X hl hV hin ok he => by
    subst hl; subst hV
    exact J.sub [0, 1] rfl (jX4_countContinuations_0 ok l0 l1 G h he))
