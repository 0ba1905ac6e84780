def fX7_column_0 (l0 : Nat)  (G : Mem) : Option (Int32 × Mem) :=
  (gR G 17 l0 0).bind fun v1 =>
  (gA G 1 v1 (0 : Int32)).bind fun v2 =>
  ck G 17 l0 <| (fX7_number l0 (0 : Int32) (v2 - (1 : Int32)) G).bind fun q3 =>
  some (q3.1, q3.2)

set_option maxRecDepth 100000 in
set_option maxHeartbeats 4000000 in
theorem jX7_column_0 {X : Cx} (ok : OK X cX7_column RX7 (some .int) 1 5 183) (l0 : Nat)  (G : Mem) {r : Int32} {G' : Mem} (h : fX7_column_0 l0 G = some (r, G')) (hK : (finI X) r G') : J X 1 0 [(0, .ref (X.B + l0))] [] G := by
  unfold fX7_column_0 at h
  refine j_aload_n ok dX7_column_0 rfl 0 rfl ?_
  refine j_iconst (v := 0) ok dX7_column_1 (by decide) ?_
  refine j_aload_n ok dX7_column_2 rfl 0 rfl ?_
  obtain ⟨v1, hv1, h⟩ := obind h
  refine k_getR ok fl_X7_9 hv1 dX7_column_3 ?_
  refine j_iconst (v := 0) ok dX7_column_6 (by decide) ?_
  obtain ⟨v2, hv2, h⟩ := obind h
  refine j_iald ok hv2 dX7_column_7 ?_
  refine j_iconst (v := 1) ok dX7_column_8 (by decide) ?_
  refine j_isub ok dX7_column_9 ?_
  obtain ⟨kq3, h⟩ := ck_some h
  obtain ⟨q3, hq3, h⟩ := obind h
  refine k_V1 ok kl_X7_232 ⟨Nat.le_of_ble_eq_true rfl, Nat.le_of_ble_eq_true rfl⟩ [.int (0 : Int32), .int (v2 - (1 : Int32))] kq3 rfl rfl (Nat.le_of_ble_eq_true rfl) (tX7_number ok.fl X.V l0 (0 : Int32) (v2 - (1 : Int32)) G hq3) dX7_column_10 ?_
  obtain ⟨er, eG⟩ := inj2 h
  subst er; subst eG
  exact j_iret ok rfl dX7_column_13 hK

def fX7_column (l0 : Nat) (G : Mem) : Option (Int32 × Mem) := fX7_column_0 l0 G
set_option maxRecDepth 100000 in
theorem tX7_column {l : Launch} (hfl : l.stackTraces = false) (V : Wd) (l0 : Nat) (G : Mem) {r : Int32} {G' : Mem} (h : fX7_column l0 G = some (r, G')) : Mx l yX7_column cX7_column 1 (some .int) 5 183 V [.ref (V.B + l0)] G (.inl (some (.int r))) G' :=
  mx_of (L := [(0, .ref (V.B + l0))]) hfl (by decide +kernel) (Nat.le_of_ble_eq_true rfl) rfl (fun X hl hV hin ok he => by
    subst hl; subst hV
    exact J.sub [0] rfl (jX7_column_0 ok l0 G h he))
def fX7_columns_0 (l0 : Nat)  (G : Mem) : Option (Int32 × Mem) :=
  (gR G 17 l0 0).bind fun v1 =>
  (gA G 1 v1 (0 : Int32)).bind fun v2 =>
  ck G 17 l0 <| (fX7_told l0 v2 G).bind fun q3 =>
  some (q3.1, q3.2)

set_option maxRecDepth 100000 in
set_option maxHeartbeats 4000000 in
theorem jX7_columns_0 {X : Cx} (ok : OK X cX7_columns RX7 (some .int) 1 1 21) (l0 : Nat)  (G : Mem) {r : Int32} {G' : Mem} (h : fX7_columns_0 l0 G = some (r, G')) (hK : (finI X) r G') : J X 1 0 [(0, .ref (X.B + l0))] [] G := by
  unfold fX7_columns_0 at h
  refine j_aload_n ok dX7_columns_0 rfl 0 rfl ?_
  refine j_aload_n ok dX7_columns_1 rfl 0 rfl ?_
  obtain ⟨v1, hv1, h⟩ := obind h
  refine k_getR ok fl_X7_9 hv1 dX7_columns_2 ?_
  refine j_iconst (v := 0) ok dX7_columns_5 (by decide) ?_
  obtain ⟨v2, hv2, h⟩ := obind h
  refine j_iald ok hv2 dX7_columns_6 ?_
  obtain ⟨kq3, h⟩ := ck_some h
  obtain ⟨q3, hq3, h⟩ := obind h
  refine k_V1 ok kl_X7_327 ⟨Nat.le_of_ble_eq_true rfl, Nat.le_of_ble_eq_true rfl⟩ [.int v2] kq3 rfl rfl (Nat.le_of_ble_eq_true rfl) (tX7_told ok.fl X.V l0 v2 G hq3) dX7_columns_7 ?_
  obtain ⟨er, eG⟩ := inj2 h
  subst er; subst eG
  exact j_iret ok rfl dX7_columns_10 hK

def fX7_columns (l0 : Nat) (G : Mem) : Option (Int32 × Mem) := fX7_columns_0 l0 G
set_option maxRecDepth 100000 in
theorem tX7_columns {l : Launch} (hfl : l.stackTraces = false) (V : Wd) (l0 : Nat) (G : Mem) {r : Int32} {G' : Mem} (h : fX7_columns l0 G = some (r, G')) : Mx l yX7_columns cX7_columns 1 (some .int) 1 21 V [.ref (V.B + l0)] G (.inl (some (.int r))) G' :=
  mx_of (L := [(0, .ref (V.B + l0))]) hfl (by decide +kernel) (Nat.le_of_ble_eq_true rfl) rfl (fun X hl hV hin ok he => by
    subst hl; subst hV
    exact J.sub [0] rfl (jX7_columns_0 ok l0 G h he))
def fX7_is_24   (G : Mem) : Option (Int32 × Mem) :=
  some ((0 : Int32), G)

set_option maxRecDepth 100000 in
set_option maxHeartbeats 4000000 in
theorem jX7_is_24 {X : Cx} (ok : OK X cX7_is RX7 (some .boolean) 3 4 85)   (G : Mem) {r : Int32} {G' : Mem} (h : fX7_is_24  G = some (r, G')) (hK : (finI X) r G') : J X 3 24 [] [] G := by
  unfold fX7_is_24 at h
  refine j_iconst (v := 0) ok dX7_is_24 (by decide) ?_
  obtain ⟨er, eG⟩ := inj2 h
  subst er; subst eG
  exact j_zret ok rfl (Or.inl rfl) dX7_is_25 hK

def fX7_is_63   (G : Mem) : Option (Int32 × Mem) :=
  some ((1 : Int32), G)

set_option maxRecDepth 100000 in
set_option maxHeartbeats 4000000 in
theorem jX7_is_63 {X : Cx} (ok : OK X cX7_is RX7 (some .boolean) 3 4 85)   (G : Mem) {r : Int32} {G' : Mem} (h : fX7_is_63  G = some (r, G')) (hK : (finI X) r G') : J X 3 63 [] [] G := by
  unfold fX7_is_63 at h
  refine j_iconst (v := 1) ok dX7_is_63 (by decide) ?_
  obtain ⟨er, eG⟩ := inj2 h
  subst er; subst eG
  exact j_zret ok rfl (Or.inr rfl) dX7_is_64 hK

def fX7_is_55   (G : Mem) : Option (Int32 × Mem) :=
  some ((0 : Int32), G)

set_option maxRecDepth 100000 in
set_option maxHeartbeats 4000000 in
theorem jX7_is_55 {X : Cx} (ok : OK X cX7_is RX7 (some .boolean) 3 4 85)   (G : Mem) {r : Int32} {G' : Mem} (h : fX7_is_55  G = some (r, G')) (hK : (finI X) r G') : J X 3 55 [] [] G := by
  unfold fX7_is_55 at h
  refine j_iconst (v := 0) ok dX7_is_55 (by decide) ?_
  obtain ⟨er, eG⟩ := inj2 h
  subst er; subst eG
  exact j_zret ok rfl (Or.inl rfl) dX7_is_56 hK

def fX7_is_28 (l0 : Nat) (l1 : Nat) (l2 : Int32)  (G : Mem) : Option (((Int32) ⊕ Int32) × Mem) :=
  ckS l1 <| (fJ0_length_8abf5 l1 G).bind fun q1 =>
  if q1.1 ≤ l2 then
    liftE (fX7_is_63 q1.2)
  else
    (gR q1.2 17 l0 7).bind fun v3 =>
    (gF q1.2 17 l0 22).bind fun v4 =>
    (gA q1.2 1 v3 (v4 + l2)).bind fun v5 =>
    ckS l1 <| (fJ0_charAt_5068e l1 l2 q1.2).bind fun q6 =>
    if v5 = q6.1 then
      some (.inl ((l2 + (1 : Int32))), q6.2)
    else
      liftE (fX7_is_55 q6.2)

set_option maxRecDepth 100000 in
set_option maxHeartbeats 4000000 in
theorem jX7_is_28 {X : Cx} (ok : OK X cX7_is RX7 (some .boolean) 3 4 85) (l0 : Nat) (l1 : Nat) (l2 : Int32)  (G : Mem) {r : ((Int32) ⊕ Int32)} {G' : Mem} (h : fX7_is_28 l0 l1 l2 G = some (r, G')) (hK : (finL X 3 28 (fun s : Int32 => [(0, .ref (X.B + l0)), (1, .ref (X.V.sa l1)), (2, .int s)]) (finI X)) r G') : J X 3 28 [(0, .ref (X.B + l0)), (1, .ref (X.V.sa l1)), (2, .int l2)] [] G := by
  unfold fX7_is_28 at h
  refine j_iload_n ok dX7_is_28 rfl 2 rfl ?_
  refine j_aload_n ok dX7_is_29 rfl 1 rfl ?_
  obtain ⟨kq1, h⟩ := ckS_some h
  obtain ⟨q1, hq1, h⟩ := obind h
  refine k_T1 ok kl_X7_67 ⟨Nat.le_of_ble_eq_true rfl, Nat.le_of_ble_eq_true rfl⟩ [] kq1 rfl rfl (Nat.le_of_ble_eq_true rfl) (tJ0_length_8abf5 ok.fl X.V l1 G hq1) dX7_is_30 ?_
  rcases ite_some h with ⟨c2, h⟩ | ⟨c2, h⟩
  · refine j_icmp_ge (tgt := 63) ok dX7_is_33 (by decide) (fun _ => ?_) (fun z => absurd c2 z)
    obtain ⟨r1, e1, h1⟩ := lift_some h
    subst e1
    exact J.sub [] rfl (jX7_is_63 ok q1.2 h1 hK)
  · refine j_icmp_ge (tgt := 63) ok dX7_is_33 (by decide) (fun z => absurd z c2) (fun _ => ?_)
    refine j_aload_n ok dX7_is_36 rfl 0 rfl ?_
    obtain ⟨v3, hv3, h⟩ := obind h
    refine k_getR ok fl_X7_26 hv3 dX7_is_37 ?_
    refine j_aload_n ok dX7_is_40 rfl 0 rfl ?_
    obtain ⟨v4, hv4, h⟩ := obind h
    refine k_getI ok fl_X7_193 hv4 dX7_is_41 ?_
    refine j_iload_n ok dX7_is_44 rfl 2 rfl ?_
    refine j_iadd ok dX7_is_45 ?_
    obtain ⟨v5, hv5, h⟩ := obind h
    refine j_iald ok hv5 dX7_is_46 ?_
    refine j_aload_n ok dX7_is_47 rfl 1 rfl ?_
    refine j_iload_n ok dX7_is_48 rfl 2 rfl ?_
    obtain ⟨kq6, h⟩ := ckS_some h
    obtain ⟨q6, hq6, h⟩ := obind h
    refine k_T1 ok kl_X7_76 ⟨Nat.le_of_ble_eq_true rfl, Nat.le_of_ble_eq_true rfl⟩ [.int l2] kq6 rfl rfl (Nat.le_of_ble_eq_true rfl) (tJ0_charAt_5068e ok.fl X.V l1 l2 q1.2 hq6) dX7_is_49 ?_
    rcases ite_some h with ⟨c7, h⟩ | ⟨c7, h⟩
    · refine j_icmp_eq (tgt := 57) ok dX7_is_52 (by decide) (fun _ => ?_) (fun z => absurd c7 z)
      refine j_iinc (L' := [(2, .int (l2 + (1 : Int32))), (0, .ref (X.B + l0)), (1, .ref (X.V.sa l1))]) (v := (l2 + (1 : Int32))) ok dX7_is_57 (q := 2) rfl rfl (by decide) rfl ?_
      refine j_goto (tgt := 28) ok dX7_is_60 (by decide) ?_
      obtain ⟨er, eG⟩ := inj2 h
      subst er; subst eG
      have hJ : J X 3 28 [(0, .ref (X.B + l0)), (1, .ref (X.V.sa l1)), (2, .int (l2 + (1 : Int32)))] [] q6.2 := hK
      exact J.sub [1, 2, 0] rfl hJ
    · refine j_icmp_eq (tgt := 57) ok dX7_is_52 (by decide) (fun z => absurd z c7) (fun _ => ?_)
      obtain ⟨r1, e1, h1⟩ := lift_some h
      subst e1
      exact J.sub [] rfl (jX7_is_55 ok q6.2 h1 hK)

def fX7_is_0 (l0 : Nat) (l1 : Nat)  (G : Mem) : Option (Int32 × Mem) :=
  (gF G 17 l0 21).bind fun v1 =>
  if v1 = (1 : Int32) then
    (gF G 17 l0 23).bind fun v3 =>
    (gF G 17 l0 22).bind fun v4 =>
    ckS l1 <| (fJ0_length_8abf5 l1 G).bind fun q5 =>
    if (v3 - v4) = q5.1 then
      loopM (fun (s : Int32) G => fX7_is_28 l0 l1 s G) FU ((0 : Int32)) q5.2
    else
      fX7_is_24 q5.2
  else
    fX7_is_24 G

set_option maxRecDepth 100000 in
set_option maxHeartbeats 4000000 in
theorem jX7_is_0 {X : Cx} (ok : OK X cX7_is RX7 (some .boolean) 3 4 85) (l0 : Nat) (l1 : Nat)  (G : Mem) {r : Int32} {G' : Mem} (h : fX7_is_0 l0 l1 G = some (r, G')) (hK : (finI X) r G') : J X 3 0 [(0, .ref (X.B + l0)), (1, .ref (X.V.sa l1))] [] G := by
  unfold fX7_is_0 at h
  refine j_aload_n ok dX7_is_0 rfl 0 rfl ?_
  obtain ⟨v1, hv1, h⟩ := obind h
  refine k_getI ok fl_X7_196 hv1 dX7_is_1 ?_
  refine j_iconst (v := 1) ok dX7_is_4 (by decide) ?_
  rcases ite_some h with ⟨c2, h⟩ | ⟨c2, h⟩
  · refine j_icmp_ne (tgt := 24) ok dX7_is_5 (by decide) (fun z => absurd c2 z) (fun _ => ?_)
    refine j_aload_n ok dX7_is_8 rfl 0 rfl ?_
    obtain ⟨v3, hv3, h⟩ := obind h
    refine k_getI ok fl_X7_190 hv3 dX7_is_9 ?_
    refine j_aload_n ok dX7_is_12 rfl 0 rfl ?_
    obtain ⟨v4, hv4, h⟩ := obind h
    refine k_getI ok fl_X7_193 hv4 dX7_is_13 ?_
    refine j_isub ok dX7_is_16 ?_
    refine j_aload_n ok dX7_is_17 rfl 1 rfl ?_
    obtain ⟨kq5, h⟩ := ckS_some h
    obtain ⟨q5, hq5, h⟩ := obind h
    refine k_T1 ok kl_X7_67 ⟨Nat.le_of_ble_eq_true rfl, Nat.le_of_ble_eq_true rfl⟩ [] kq5 rfl rfl (Nat.le_of_ble_eq_true rfl) (tJ0_length_8abf5 ok.fl X.V l1 G hq5) dX7_is_18 ?_
    rcases ite_some h with ⟨c6, h⟩ | ⟨c6, h⟩
    · refine j_icmp_eq (tgt := 26) ok dX7_is_21 (by decide) (fun _ => ?_) (fun z => absurd c6 z)
      refine j_iconst (v := 0) ok dX7_is_26 (by decide) ?_
      refine j_istore_n (L' := [(2, .int (0 : Int32)), (0, .ref (X.B + l0)), (1, .ref (X.V.sa l1))]) ok dX7_is_27 rfl (by decide) rfl ?_
      have hJ : J X 3 28 [(0, .ref (X.B + l0)), (1, .ref (X.V.sa l1)), (2, .int (0 : Int32))] [] q5.2 := j_loop (loc := fun s : Int32 => [(0, .ref (X.B + l0)), (1, .ref (X.V.sa l1)), (2, .int s)]) (F := (finI X)) (fun s G r G' hb hk => jX7_is_28 ok l0 l1 s G hb hk) _ _ _ _ _ h hK
      exact J.sub [1, 2, 0] rfl hJ
    · refine j_icmp_eq (tgt := 26) ok dX7_is_21 (by decide) (fun z => absurd z c6) (fun _ => ?_)
      exact J.sub [] rfl (jX7_is_24 ok q5.2 h hK)
  · refine j_icmp_ne (tgt := 24) ok dX7_is_5 (by decide) (fun _ => ?_) (fun z => absurd z c2)
    exact J.sub [] rfl (jX7_is_24 ok G h hK)

def fX7_is (l0 : Nat) (l1 : Nat) (G : Mem) : Option (Int32 × Mem) := fX7_is_0 l0 l1 G
set_option maxRecDepth 100000 in
theorem tX7_is {l : Launch} (hfl : l.stackTraces = false) (V : Wd) (l0 : Nat) (l1 : Nat) (G : Mem) {r : Int32} {G' : Mem} (h : fX7_is l0 l1 G = some (r, G')) : Mx l yX7_is cX7_is 3 (some .boolean) 4 85 V [.ref (V.B + l0), .ref (V.sa l1)] G (.inl (some (.int r))) G' :=
  mx_of (L := [(0, .ref (V.B + l0)), (1, .ref (V.sa l1))]) hfl (by decide +kernel) (Nat.le_of_ble_eq_true rfl) rfl (fun X hl hV hin ok he => by
    subst hl; subst hV
    exact J.sub [0, 1] rfl (jX7_is_0 ok l0 l1 G h he))
def fX7_kindHere_66  (s0 : Int32) (G : Mem) : Option (Int32 × Mem) :=
  some (s0, G)

set_option maxRecDepth 100000 in
set_option maxHeartbeats 4000000 in
theorem jX7_kindHere_66 {X : Cx} (ok : OK X cX7_kindHere RX7 (some .int) 1 5 107)  (s0 : Int32) (G : Mem) {r : Int32} {G' : Mem} (h : fX7_kindHere_66 s0 G = some (r, G')) (hK : (finI X) r G') : J X 1 66 [] [.int s0] G := by
  unfold fX7_kindHere_66 at h
  obtain ⟨er, eG⟩ := inj2 h
  subst er; subst eG
  exact j_iret ok rfl dX7_kindHere_66 hK

def fX7_kindHere_0 (l0 : Nat)  (G : Mem) : Option (Int32 × Mem) :=
  ck G 17 l0 <| (fX7_is l0 3 G).bind fun q1 =>
  if q1.1 = (0 : Int32) then
    ck q1.2 17 l0 <| (fX7_is l0 4 q1.2).bind fun q3 =>
    if q3.1 = (0 : Int32) then
      ck q3.2 17 l0 <| (fX7_is l0 5 q3.2).bind fun q5 =>
      if q5.1 = (0 : Int32) then
        ck q5.2 17 l0 <| (fX7_is l0 6 q5.2).bind fun q7 =>
        if q7.1 = (0 : Int32) then
          ck q7.2 17 l0 <| (fX7_is l0 7 q7.2).bind fun q9 =>
          if q9.1 = (0 : Int32) then
            fX7_kindHere_66 (-1 : Int32) q9.2
          else
            fX7_kindHere_66 (4 : Int32) q9.2
        else
          fX7_kindHere_66 (3 : Int32) q7.2
      else
        fX7_kindHere_66 (2 : Int32) q5.2
    else
      fX7_kindHere_66 (1 : Int32) q3.2
  else
    fX7_kindHere_66 (0 : Int32) q1.2

set_option maxRecDepth 100000 in
set_option maxHeartbeats 4000000 in
theorem jX7_kindHere_0 {X : Cx} (ok : OK X cX7_kindHere RX7 (some .int) 1 5 107) (l0 : Nat)  (G : Mem) {r : Int32} {G' : Mem} (h : fX7_kindHere_0 l0 G = some (r, G')) (hK : (finI X) r G') : J X 1 0 [(0, .ref (X.B + l0))] [] G := by
  unfold fX7_kindHere_0 at h
  refine j_aload_n ok dX7_kindHere_0 rfl 0 rfl ?_
  refine k_str ok st_X7_235 dX7_kindHere_1 ?_
  obtain ⟨kq1, h⟩ := ck_some h
  obtain ⟨q1, hq1, h⟩ := obind h
  refine k_V1 ok kl_X7_237 ⟨Nat.le_of_ble_eq_true rfl, Nat.le_of_ble_eq_true rfl⟩ [.ref (X.V.sa 3)] kq1 rfl rfl (Nat.le_of_ble_eq_true rfl) (tX7_is ok.fl X.V l0 3 G hq1) dX7_kindHere_3 ?_
  rcases ite_some h with ⟨c2, h⟩ | ⟨c2, h⟩
  · refine j_if_eq (tgt := 13) ok dX7_kindHere_6 (by decide) (fun _ => ?_) (fun z => absurd c2 z)
    refine j_aload_n ok dX7_kindHere_13 rfl 0 rfl ?_
    refine k_str ok st_X7_241 dX7_kindHere_14 ?_
    obtain ⟨kq3, h⟩ := ck_some h
    obtain ⟨q3, hq3, h⟩ := obind h
    refine k_V1 ok kl_X7_237 ⟨Nat.le_of_ble_eq_true rfl, Nat.le_of_ble_eq_true rfl⟩ [.ref (X.V.sa 4)] kq3 rfl rfl (Nat.le_of_ble_eq_true rfl) (tX7_is ok.fl X.V l0 4 q1.2 hq3) dX7_kindHere_16 ?_
    rcases ite_some h with ⟨c4, h⟩ | ⟨c4, h⟩
    · refine j_if_eq (tgt := 26) ok dX7_kindHere_19 (by decide) (fun _ => ?_) (fun z => absurd c4 z)
      refine j_aload_n ok dX7_kindHere_26 rfl 0 rfl ?_
      refine k_str ok st_X7_243 dX7_kindHere_27 ?_
      obtain ⟨kq5, h⟩ := ck_some h
      obtain ⟨q5, hq5, h⟩ := obind h
      refine k_V1 ok kl_X7_237 ⟨Nat.le_of_ble_eq_true rfl, Nat.le_of_ble_eq_true rfl⟩ [.ref (X.V.sa 5)] kq5 rfl rfl (Nat.le_of_ble_eq_true rfl) (tX7_is ok.fl X.V l0 5 q3.2 hq5) dX7_kindHere_29 ?_
      rcases ite_some h with ⟨c6, h⟩ | ⟨c6, h⟩
      · refine j_if_eq (tgt := 39) ok dX7_kindHere_32 (by decide) (fun _ => ?_) (fun z => absurd c6 z)
        refine j_aload_n ok dX7_kindHere_39 rfl 0 rfl ?_
        refine k_str ok st_X7_245 dX7_kindHere_40 ?_
        obtain ⟨kq7, h⟩ := ck_some h
        obtain ⟨q7, hq7, h⟩ := obind h
        refine k_V1 ok kl_X7_237 ⟨Nat.le_of_ble_eq_true rfl, Nat.le_of_ble_eq_true rfl⟩ [.ref (X.V.sa 6)] kq7 rfl rfl (Nat.le_of_ble_eq_true rfl) (tX7_is ok.fl X.V l0 6 q5.2 hq7) dX7_kindHere_42 ?_
        rcases ite_some h with ⟨c8, h⟩ | ⟨c8, h⟩
        · refine j_if_eq (tgt := 52) ok dX7_kindHere_45 (by decide) (fun _ => ?_) (fun z => absurd c8 z)
          refine j_aload_n ok dX7_kindHere_52 rfl 0 rfl ?_
          refine k_str ok st_X7_247 dX7_kindHere_53 ?_
          obtain ⟨kq9, h⟩ := ck_some h
          obtain ⟨q9, hq9, h⟩ := obind h
          refine k_V1 ok kl_X7_237 ⟨Nat.le_of_ble_eq_true rfl, Nat.le_of_ble_eq_true rfl⟩ [.ref (X.V.sa 7)] kq9 rfl rfl (Nat.le_of_ble_eq_true rfl) (tX7_is ok.fl X.V l0 7 q7.2 hq9) dX7_kindHere_55 ?_
          rcases ite_some h with ⟨c10, h⟩ | ⟨c10, h⟩
          · refine j_if_eq (tgt := 65) ok dX7_kindHere_58 (by decide) (fun _ => ?_) (fun z => absurd c10 z)
            refine j_iconst (v := -1) ok dX7_kindHere_65 (by decide) ?_
            exact J.sub [] rfl (jX7_kindHere_66 ok (-1 : Int32) q9.2 h hK)
          · refine j_if_eq (tgt := 65) ok dX7_kindHere_58 (by decide) (fun z => absurd z c10) (fun _ => ?_)
            refine j_iconst (v := 4) ok dX7_kindHere_61 (by decide) ?_
            refine j_goto (tgt := 66) ok dX7_kindHere_62 (by decide) ?_
            exact J.sub [] rfl (jX7_kindHere_66 ok (4 : Int32) q9.2 h hK)
        · refine j_if_eq (tgt := 52) ok dX7_kindHere_45 (by decide) (fun z => absurd z c8) (fun _ => ?_)
          refine j_iconst (v := 3) ok dX7_kindHere_48 (by decide) ?_
          refine j_goto (tgt := 66) ok dX7_kindHere_49 (by decide) ?_
          exact J.sub [] rfl (jX7_kindHere_66 ok (3 : Int32) q7.2 h hK)
      · refine j_if_eq (tgt := 39) ok dX7_kindHere_32 (by decide) (fun z => absurd z c6) (fun _ => ?_)
        refine j_iconst (v := 2) ok dX7_kindHere_35 (by decide) ?_
        refine j_goto (tgt := 66) ok dX7_kindHere_36 (by decide) ?_
        exact J.sub [] rfl (jX7_kindHere_66 ok (2 : Int32) q5.2 h hK)
    · refine j_if_eq (tgt := 26) ok dX7_kindHere_19 (by decide) (fun z => absurd z c4) (fun _ => ?_)
      refine j_iconst (v := 1) ok dX7_kindHere_22 (by decide) ?_
      refine j_goto (tgt := 66) ok dX7_kindHere_23 (by decide) ?_
      exact J.sub [] rfl (jX7_kindHere_66 ok (1 : Int32) q3.2 h hK)
  · refine j_if_eq (tgt := 13) ok dX7_kindHere_6 (by decide) (fun z => absurd z c2) (fun _ => ?_)
    refine j_iconst (v := 0) ok dX7_kindHere_9 (by decide) ?_
    refine j_goto (tgt := 66) ok dX7_kindHere_10 (by decide) ?_
    exact J.sub [] rfl (jX7_kindHere_66 ok (0 : Int32) q1.2 h hK)

def fX7_kindHere (l0 : Nat) (G : Mem) : Option (Int32 × Mem) := fX7_kindHere_0 l0 G
set_option maxRecDepth 100000 in
theorem tX7_kindHere {l : Launch} (hfl : l.stackTraces = false) (V : Wd) (l0 : Nat) (G : Mem) {r : Int32} {G' : Mem} (h : fX7_kindHere l0 G = some (r, G')) : Mx l yX7_kindHere cX7_kindHere 1 (some .int) 5 107 V [.ref (V.B + l0)] G (.inl (some (.int r))) G' :=
  mx_of (L := [(0, .ref (V.B + l0))]) hfl (by decide +kernel) (Nat.le_of_ble_eq_true rfl) rfl (fun X hl hV hin ok he => by
    subst hl; subst hV
    exact J.sub [0] rfl (jX7_kindHere_0 ok l0 G h he))
def fX7_row_0 (l0 : Nat)  (G : Mem) : Option (Int32 × Mem) :=
  (gR G 17 l0 0).bind fun v1 =>
  (gA G 1 v1 (1 : Int32)).bind fun v2 =>
  ck G 17 l0 <| (fX7_number l0 (0 : Int32) (v2 - (1 : Int32)) G).bind fun q3 =>
  some (q3.1, q3.2)

set_option maxRecDepth 100000 in
set_option maxHeartbeats 4000000 in
theorem jX7_row_0 {X : Cx} (ok : OK X cX7_row RX7 (some .int) 1 5 183) (l0 : Nat)  (G : Mem) {r : Int32} {G' : Mem} (h : fX7_row_0 l0 G = some (r, G')) (hK : (finI X) r G') : J X 1 0 [(0, .ref (X.B + l0))] [] G := by
  unfold fX7_row_0 at h
  refine j_aload_n ok dX7_row_0 rfl 0 rfl ?_
  refine j_iconst (v := 0) ok dX7_row_1 (by decide) ?_
  refine j_aload_n ok dX7_row_2 rfl 0 rfl ?_
  obtain ⟨v1, hv1, h⟩ := obind h
  refine k_getR ok fl_X7_9 hv1 dX7_row_3 ?_
  refine j_iconst (v := 1) ok dX7_row_6 (by decide) ?_
  obtain ⟨v2, hv2, h⟩ := obind h
  refine j_iald ok hv2 dX7_row_7 ?_
  refine j_iconst (v := 1) ok dX7_row_8 (by decide) ?_
  refine j_isub ok dX7_row_9 ?_
  obtain ⟨kq3, h⟩ := ck_some h
  obtain ⟨q3, hq3, h⟩ := obind h
  refine k_V1 ok kl_X7_232 ⟨Nat.le_of_ble_eq_true rfl, Nat.le_of_ble_eq_true rfl⟩ [.int (0 : Int32), .int (v2 - (1 : Int32))] kq3 rfl rfl (Nat.le_of_ble_eq_true rfl) (tX7_number ok.fl X.V l0 (0 : Int32) (v2 - (1 : Int32)) G hq3) dX7_row_10 ?_
  obtain ⟨er, eG⟩ := inj2 h
  subst er; subst eG
  exact j_iret ok rfl dX7_row_13 hK

def fX7_row (l0 : Nat) (G : Mem) : Option (Int32 × Mem) := fX7_row_0 l0 G
set_option maxRecDepth 100000 in
theorem tX7_row {l : Launch} (hfl : l.stackTraces = false) (V : Wd) (l0 : Nat) (G : Mem) {r : Int32} {G' : Mem} (h : fX7_row l0 G = some (r, G')) : Mx l yX7_row cX7_row 1 (some .int) 5 183 V [.ref (V.B + l0)] G (.inl (some (.int r))) G' :=
  mx_of (L := [(0, .ref (V.B + l0))]) hfl (by decide +kernel) (Nat.le_of_ble_eq_true rfl) rfl (fun X hl hV hin ok he => by
    subst hl; subst hV
    exact J.sub [0] rfl (jX7_row_0 ok l0 G h he))
def fX7_noteTold_275   (G : Mem) : Option (Unit × Mem) :=
  some ((), G)

set_option maxRecDepth 100000 in
set_option maxHeartbeats 4000000 in
theorem jX7_noteTold_275 {X : Cx} (ok : OK X cX7_noteTold RX7 none 8 7 246)   (G : Mem) {r : Unit} {G' : Mem} (h : fX7_noteTold_275  G = some (r, G')) (hK : (finV X) r G') : J X 8 275 [] [] G := by
  unfold fX7_noteTold_275 at h
  obtain ⟨er, eG⟩ := inj2 h
  subst er; subst eG
  exact j_vret ok rfl dX7_noteTold_275 hK

def fX7_noteTold_255 (l0 : Nat) (s0 : Nat) (s1 : Int32) (G : Mem) : Option (Unit × Mem) :=
  ck G 17 s0 <| (fX7_wrong s0 s1 (6 : Int32) G).bind fun q1 =>
  (gF q1.2 17 l0 25).bind fun v2 =>
  if v2 = (0 : Int32) then
    ck q1.2 17 l0 <| (fX7_adds l0 q1.2).bind fun q4 =>
    (pI q4.2 17 l0 26 q4.1).bind fun G5 =>
    fX7_noteTold_275 G5
  else
    fX7_noteTold_275 q1.2

set_option maxRecDepth 100000 in
set_option maxHeartbeats 4000000 in
theorem jX7_noteTold_255 {X : Cx} (ok : OK X cX7_noteTold RX7 none 8 7 246) (l0 : Nat) (s0 : Nat) (s1 : Int32) (G : Mem) {r : Unit} {G' : Mem} (h : fX7_noteTold_255 l0 s0 s1 G = some (r, G')) (hK : (finV X) r G') : J X 8 255 [(0, .ref (X.B + l0))] [.int s1, .ref (X.B + s0)] G := by
  unfold fX7_noteTold_255 at h
  refine j_bipush (v := 6) ok dX7_noteTold_255 (by decide) ?_
  obtain ⟨kq1, h⟩ := ck_some h
  obtain ⟨q1, hq1, h⟩ := obind h
  refine k_V0 ok kl_X7_222 ⟨Nat.le_of_ble_eq_true rfl, Nat.le_of_ble_eq_true rfl⟩ [.int s1, .int (6 : Int32)] kq1 rfl rfl (Nat.le_of_ble_eq_true rfl) (tX7_wrong ok.fl X.V s0 s1 (6 : Int32) G hq1) dX7_noteTold_257 ?_
  refine j_aload_n ok dX7_noteTold_260 rfl 0 rfl ?_
  obtain ⟨v2, hv2, h⟩ := obind h
  refine k_getI ok fl_X7_212 hv2 dX7_noteTold_261 ?_
  rcases ite_some h with ⟨c3, h⟩ | ⟨c3, h⟩
  · refine j_if_ne (tgt := 275) ok dX7_noteTold_264 (by decide) (fun z => absurd c3 z) (fun _ => ?_)
    refine j_aload_n ok dX7_noteTold_267 rfl 0 rfl ?_
    refine j_aload_n ok dX7_noteTold_268 rfl 0 rfl ?_
    obtain ⟨kq4, h⟩ := ck_some h
    obtain ⟨q4, hq4, h⟩ := obind h
    refine k_V1 ok kl_X7_283 ⟨Nat.le_of_ble_eq_true rfl, Nat.le_of_ble_eq_true rfl⟩ [] kq4 rfl rfl (Nat.le_of_ble_eq_true rfl) (tX7_adds ok.fl X.V l0 q1.2 hq4) dX7_noteTold_269 ?_
    obtain ⟨G5, hG5, h⟩ := obind h
    refine k_putI ok fl_X7_286 fp_X7 rfl (Or.inl rfl) hG5 dX7_noteTold_272 ?_
    exact J.sub [] rfl (jX7_noteTold_275 ok G5 h hK)
  · refine j_if_ne (tgt := 275) ok dX7_noteTold_264 (by decide) (fun _ => ?_) (fun z => absurd z c3)
    exact J.sub [] rfl (jX7_noteTold_275 ok q1.2 h hK)

def fX7_noteTold_250 (l0 : Nat) (s0 : Nat) (G : Mem) : Option (Unit × Mem) :=
  fX7_noteTold_255 l0 s0 (1 : Int32) G

set_option maxRecDepth 100000 in
set_option maxHeartbeats 4000000 in
theorem jX7_noteTold_250 {X : Cx} (ok : OK X cX7_noteTold RX7 none 8 7 246) (l0 : Nat) (s0 : Nat) (G : Mem) {r : Unit} {G' : Mem} (h : fX7_noteTold_250 l0 s0 G = some (r, G')) (hK : (finV X) r G') : J X 8 250 [(0, .ref (X.B + l0))] [.ref (X.B + s0)] G := by
  unfold fX7_noteTold_250 at h
  refine j_iconst (v := 1) ok dX7_noteTold_250 (by decide) ?_
  refine j_goto (tgt := 255) ok dX7_noteTold_251 (by decide) ?_
  exact J.sub [0] rfl (jX7_noteTold_255 ok l0 s0 (1 : Int32) G h hK)

def fX7_noteTold_237 (l0 : Nat) (l7 : Int32)  (G : Mem) : Option (Unit × Mem) :=
  if l7 = (0 : Int32) then
    ck G 17 l0 <| (fX7_isPossible l0 G).bind fun q2 =>
    if q2.1 = (0 : Int32) then
      fX7_noteTold_250 l0 l0 q2.2
    else
      fX7_noteTold_255 l0 l0 (0 : Int32) q2.2
  else
    fX7_noteTold_250 l0 l0 G

set_option maxRecDepth 100000 in
set_option maxHeartbeats 4000000 in
theorem jX7_noteTold_237 {X : Cx} (ok : OK X cX7_noteTold RX7 none 8 7 246) (l0 : Nat) (l7 : Int32)  (G : Mem) {r : Unit} {G' : Mem} (h : fX7_noteTold_237 l0 l7 G = some (r, G')) (hK : (finV X) r G') : J X 8 237 [(0, .ref (X.B + l0)), (7, .int l7)] [] G := by
  unfold fX7_noteTold_237 at h
  refine j_aload_n ok dX7_noteTold_237 rfl 0 rfl ?_
  refine j_iload ok dX7_noteTold_238 1 rfl ?_
  rcases ite_some h with ⟨c1, h⟩ | ⟨c1, h⟩
  · refine j_if_ne (tgt := 250) ok dX7_noteTold_240 (by decide) (fun z => absurd c1 z) (fun _ => ?_)
    refine j_aload_n ok dX7_noteTold_243 rfl 0 rfl ?_
    obtain ⟨kq2, h⟩ := ck_some h
    obtain ⟨q2, hq2, h⟩ := obind h
    refine k_V1 ok kl_X7_280 ⟨Nat.le_of_ble_eq_true rfl, Nat.le_of_ble_eq_true rfl⟩ [] kq2 rfl rfl (Nat.le_of_ble_eq_true rfl) (tX7_isPossible ok.fl X.V l0 G hq2) dX7_noteTold_244 ?_
    rcases ite_some h with ⟨c3, h⟩ | ⟨c3, h⟩
    · refine j_if_ne (tgt := 254) ok dX7_noteTold_247 (by decide) (fun z => absurd c3 z) (fun _ => ?_)
      exact J.sub [0] rfl (jX7_noteTold_250 ok l0 l0 q2.2 h hK)
    · refine j_if_ne (tgt := 254) ok dX7_noteTold_247 (by decide) (fun _ => ?_) (fun z => absurd z c3)
      refine j_iconst (v := 0) ok dX7_noteTold_254 (by decide) ?_
      exact J.sub [0] rfl (jX7_noteTold_255 ok l0 l0 (0 : Int32) q2.2 h hK)
  · refine j_if_ne (tgt := 250) ok dX7_noteTold_240 (by decide) (fun _ => ?_) (fun z => absurd z c1)
    exact J.sub [0] rfl (jX7_noteTold_250 ok l0 l0 G h hK)

def fX7_noteTold_211 (l0 : Nat) (l1 : Int32) (l2 : Int32) (l3 : Int32) (l4 : Int32) (l5 : Int32) (l6 : Int32) (s0 : Int32) (G : Mem) : Option (Unit × Mem) :=
  if s0 = (0 : Int32) then
    (gR G 17 l0 0).bind fun v2 =>
    (gA G 1 v2 (2 : Int32)).bind fun v3 =>
    ck G 17 l0 <| (fX7_lay l0 v3 l1 l2 l3 l4 l5 l6 G).bind fun q4 =>
    fX7_noteTold_237 l0 s0 q4.2
  else
    fX7_noteTold_237 l0 s0 G

set_option maxRecDepth 100000 in
set_option maxHeartbeats 4000000 in
theorem jX7_noteTold_211 {X : Cx} (ok : OK X cX7_noteTold RX7 none 8 7 246) (l0 : Nat) (l1 : Int32) (l2 : Int32) (l3 : Int32) (l4 : Int32) (l5 : Int32) (l6 : Int32) (s0 : Int32) (G : Mem) {r : Unit} {G' : Mem} (h : fX7_noteTold_211 l0 l1 l2 l3 l4 l5 l6 s0 G = some (r, G')) (hK : (finV X) r G') : J X 8 211 [(0, .ref (X.B + l0)), (1, .int l1), (2, .int l2), (3, .int l3), (4, .int l4), (5, .int l5), (6, .int l6)] [.int s0] G := by
  unfold fX7_noteTold_211 at h
  refine j_istore (L' := [(7, .int s0), (0, .ref (X.B + l0)), (1, .int l1), (2, .int l2), (3, .int l3), (4, .int l4), (5, .int l5), (6, .int l6)]) ok dX7_noteTold_211 (by decide) rfl ?_
  refine j_iload ok dX7_noteTold_213 0 rfl ?_
  rcases ite_some h with ⟨c1, h⟩ | ⟨c1, h⟩
  · refine j_if_ne (tgt := 237) ok dX7_noteTold_215 (by decide) (fun z => absurd c1 z) (fun _ => ?_)
    refine j_aload_n ok dX7_noteTold_218 rfl 1 rfl ?_
    refine j_aload_n ok dX7_noteTold_219 rfl 1 rfl ?_
    obtain ⟨v2, hv2, h⟩ := obind h
    refine k_getR ok fl_X7_9 hv2 dX7_noteTold_220 ?_
    refine j_iconst (v := 2) ok dX7_noteTold_223 (by decide) ?_
    obtain ⟨v3, hv3, h⟩ := obind h
    refine j_iald ok hv3 dX7_noteTold_224 ?_
    refine j_iload_n ok dX7_noteTold_225 rfl 2 rfl ?_
    refine j_iload_n ok dX7_noteTold_226 rfl 3 rfl ?_
    refine j_iload_n ok dX7_noteTold_227 rfl 4 rfl ?_
    refine j_iload ok dX7_noteTold_228 5 rfl ?_
    refine j_iload ok dX7_noteTold_230 6 rfl ?_
    refine j_iload ok dX7_noteTold_232 7 rfl ?_
    obtain ⟨kq4, h⟩ := ck_some h
    obtain ⟨q4, hq4, h⟩ := obind h
    refine k_V0 ok kl_X7_276 ⟨Nat.le_of_ble_eq_true rfl, Nat.le_of_ble_eq_true rfl⟩ [.int v3, .int l1, .int l2, .int l3, .int l4, .int l5, .int l6] kq4 rfl rfl (Nat.le_of_ble_eq_true rfl) (tX7_lay ok.fl X.V l0 v3 l1 l2 l3 l4 l5 l6 G hq4) dX7_noteTold_234 ?_
    exact J.sub [1, 0] rfl (jX7_noteTold_237 ok l0 s0 q4.2 h hK)
  · refine j_if_ne (tgt := 237) ok dX7_noteTold_215 (by decide) (fun _ => ?_) (fun z => absurd z c1)
    exact J.sub [1, 0] rfl (jX7_noteTold_237 ok l0 s0 G h hK)

def fX7_noteTold_183 (l0 : Nat) (l1 : Int32) (l2 : Int32) (l3 : Int32) (l4 : Int32) (l5 : Int32) (l6 : Int32) (s0 : Nat) (s1 : Int32) (G : Mem) : Option (Unit × Mem) :=
  ck G 17 s0 <| (fX7_wrong s0 s1 (1 : Int32) G).bind fun q1 =>
  (gF q1.2 17 l0 25).bind fun v2 =>
  if v2 = (0 : Int32) then
    (gR q1.2 17 l0 0).bind fun v4 =>
    (gA q1.2 1 v4 (2 : Int32)).bind fun v5 =>
    if v5 = (10 : Int32) then
      fX7_noteTold_211 l0 l1 l2 l3 l4 l5 l6 (1 : Int32) q1.2
    else
      fX7_noteTold_211 l0 l1 l2 l3 l4 l5 l6 (0 : Int32) q1.2
  else
    some ((), q1.2)

set_option maxRecDepth 100000 in
set_option maxHeartbeats 4000000 in
theorem jX7_noteTold_183 {X : Cx} (ok : OK X cX7_noteTold RX7 none 8 7 246) (l0 : Nat) (l1 : Int32) (l2 : Int32) (l3 : Int32) (l4 : Int32) (l5 : Int32) (l6 : Int32) (s0 : Nat) (s1 : Int32) (G : Mem) {r : Unit} {G' : Mem} (h : fX7_noteTold_183 l0 l1 l2 l3 l4 l5 l6 s0 s1 G = some (r, G')) (hK : (finV X) r G') : J X 8 183 [(0, .ref (X.B + l0)), (1, .int l1), (2, .int l2), (3, .int l3), (4, .int l4), (5, .int l5), (6, .int l6)] [.int s1, .ref (X.B + s0)] G := by
  unfold fX7_noteTold_183 at h
  refine j_iconst (v := 1) ok dX7_noteTold_183 (by decide) ?_
  obtain ⟨kq1, h⟩ := ck_some h
  obtain ⟨q1, hq1, h⟩ := obind h
  refine k_V0 ok kl_X7_222 ⟨Nat.le_of_ble_eq_true rfl, Nat.le_of_ble_eq_true rfl⟩ [.int s1, .int (1 : Int32)] kq1 rfl rfl (Nat.le_of_ble_eq_true rfl) (tX7_wrong ok.fl X.V s0 s1 (1 : Int32) G hq1) dX7_noteTold_184 ?_
  refine j_aload_n ok dX7_noteTold_187 rfl 0 rfl ?_
  obtain ⟨v2, hv2, h⟩ := obind h
  refine k_getI ok fl_X7_212 hv2 dX7_noteTold_188 ?_
  rcases ite_some h with ⟨c3, h⟩ | ⟨c3, h⟩
  · refine j_if_eq (tgt := 195) ok dX7_noteTold_191 (by decide) (fun _ => ?_) (fun z => absurd c3 z)
    refine j_aload_n ok dX7_noteTold_195 rfl 0 rfl ?_
    obtain ⟨v4, hv4, h⟩ := obind h
    refine k_getR ok fl_X7_9 hv4 dX7_noteTold_196 ?_
    refine j_iconst (v := 2) ok dX7_noteTold_199 (by decide) ?_
    obtain ⟨v5, hv5, h⟩ := obind h
    refine j_iald ok hv5 dX7_noteTold_200 ?_
    refine j_bipush (v := 10) ok dX7_noteTold_201 (by decide) ?_
    rcases ite_some h with ⟨c6, h⟩ | ⟨c6, h⟩
    · refine j_icmp_ne (tgt := 210) ok dX7_noteTold_203 (by decide) (fun z => absurd c6 z) (fun _ => ?_)
      refine j_iconst (v := 1) ok dX7_noteTold_206 (by decide) ?_
      refine j_goto (tgt := 211) ok dX7_noteTold_207 (by decide) ?_
      exact J.sub [0, 1, 2, 3, 4, 5, 6] rfl (jX7_noteTold_211 ok l0 l1 l2 l3 l4 l5 l6 (1 : Int32) q1.2 h hK)
    · refine j_icmp_ne (tgt := 210) ok dX7_noteTold_203 (by decide) (fun _ => ?_) (fun z => absurd z c6)
      refine j_iconst (v := 0) ok dX7_noteTold_210 (by decide) ?_
      exact J.sub [0, 1, 2, 3, 4, 5, 6] rfl (jX7_noteTold_211 ok l0 l1 l2 l3 l4 l5 l6 (0 : Int32) q1.2 h hK)
  · refine j_if_eq (tgt := 195) ok dX7_noteTold_191 (by decide) (fun z => absurd z c3) (fun _ => ?_)
    obtain ⟨er, eG⟩ := inj2 h
    subst er; subst eG
    exact j_vret ok rfl dX7_noteTold_194 hK

def fX7_noteTold_169 (l0 : Nat) (l1 : Int32) (l2 : Int32) (l3 : Int32) (l4 : Int32) (l5 : Int32) (l6 : Int32)  (G : Mem) : Option (Unit × Mem) :=
  (gF G 17 l0 21).bind fun v1 =>
  if v1 = (3 : Int32) then
    fX7_noteTold_183 l0 l1 l2 l3 l4 l5 l6 l0 (0 : Int32) G
  else
    fX7_noteTold_183 l0 l1 l2 l3 l4 l5 l6 l0 (1 : Int32) G

set_option maxRecDepth 100000 in
set_option maxHeartbeats 4000000 in
theorem jX7_noteTold_169 {X : Cx} (ok : OK X cX7_noteTold RX7 none 8 7 246) (l0 : Nat) (l1 : Int32) (l2 : Int32) (l3 : Int32) (l4 : Int32) (l5 : Int32) (l6 : Int32)  (G : Mem) {r : Unit} {G' : Mem} (h : fX7_noteTold_169 l0 l1 l2 l3 l4 l5 l6 G = some (r, G')) (hK : (finV X) r G') : J X 8 169 [(0, .ref (X.B + l0)), (1, .int l1), (2, .int l2), (3, .int l3), (4, .int l4), (5, .int l5), (6, .int l6)] [] G := by
  unfold fX7_noteTold_169 at h
  refine j_aload_n ok dX7_noteTold_169 rfl 0 rfl ?_
  refine j_aload_n ok dX7_noteTold_170 rfl 0 rfl ?_
  obtain ⟨v1, hv1, h⟩ := obind h
  refine k_getI ok fl_X7_196 hv1 dX7_noteTold_171 ?_
  refine j_iconst (v := 3) ok dX7_noteTold_174 (by decide) ?_
  rcases ite_some h with ⟨c2, h⟩ | ⟨c2, h⟩
  · refine j_icmp_eq (tgt := 182) ok dX7_noteTold_175 (by decide) (fun _ => ?_) (fun z => absurd c2 z)
    refine j_iconst (v := 0) ok dX7_noteTold_182 (by decide) ?_
    exact J.sub [0, 1, 2, 3, 4, 5, 6] rfl (jX7_noteTold_183 ok l0 l1 l2 l3 l4 l5 l6 l0 (0 : Int32) G h hK)
  · refine j_icmp_eq (tgt := 182) ok dX7_noteTold_175 (by decide) (fun z => absurd z c2) (fun _ => ?_)
    refine j_iconst (v := 1) ok dX7_noteTold_178 (by decide) ?_
    refine j_goto (tgt := 183) ok dX7_noteTold_179 (by decide) ?_
    exact J.sub [0, 1, 2, 3, 4, 5, 6] rfl (jX7_noteTold_183 ok l0 l1 l2 l3 l4 l5 l6 l0 (1 : Int32) G h hK)

def fX7_noteTold_158 (l0 : Nat) (l1 : Int32) (l2 : Int32) (l3 : Int32) (l4 : Int32) (l5 : Int32) (s0 : Int32) (G : Mem) : Option (Unit × Mem) :=
  if s0 = (0 : Int32) then
    fX7_noteTold_169 l0 l1 l2 l3 l4 l5 s0 G
  else
    ck G 17 l0 <| (fX7_go l0 G).bind fun q2 =>
    fX7_noteTold_169 l0 l1 l2 l3 l4 l5 s0 q2.2

set_option maxRecDepth 100000 in
set_option maxHeartbeats 4000000 in
theorem jX7_noteTold_158 {X : Cx} (ok : OK X cX7_noteTold RX7 none 8 7 246) (l0 : Nat) (l1 : Int32) (l2 : Int32) (l3 : Int32) (l4 : Int32) (l5 : Int32) (s0 : Int32) (G : Mem) {r : Unit} {G' : Mem} (h : fX7_noteTold_158 l0 l1 l2 l3 l4 l5 s0 G = some (r, G')) (hK : (finV X) r G') : J X 8 158 [(0, .ref (X.B + l0)), (1, .int l1), (2, .int l2), (3, .int l3), (4, .int l4), (5, .int l5)] [.int s0] G := by
  unfold fX7_noteTold_158 at h
  refine j_istore (L' := [(6, .int s0), (0, .ref (X.B + l0)), (1, .int l1), (2, .int l2), (3, .int l3), (4, .int l4), (5, .int l5)]) ok dX7_noteTold_158 (by decide) rfl ?_
  refine j_iload ok dX7_noteTold_160 0 rfl ?_
  rcases ite_some h with ⟨c1, h⟩ | ⟨c1, h⟩
  · refine j_if_eq (tgt := 169) ok dX7_noteTold_162 (by decide) (fun _ => ?_) (fun z => absurd c1 z)
    exact J.sub [1, 2, 3, 4, 5, 6, 0] rfl (jX7_noteTold_169 ok l0 l1 l2 l3 l4 l5 s0 G h hK)
  · refine j_if_eq (tgt := 169) ok dX7_noteTold_162 (by decide) (fun z => absurd z c1) (fun _ => ?_)
    refine j_aload_n ok dX7_noteTold_165 rfl 1 rfl ?_
    obtain ⟨kq2, h⟩ := ck_some h
    obtain ⟨q2, hq2, h⟩ := obind h
    refine k_V0 ok kl_X7_229 ⟨Nat.le_of_ble_eq_true rfl, Nat.le_of_ble_eq_true rfl⟩ [] kq2 rfl rfl (Nat.le_of_ble_eq_true rfl) (tX7_go ok.fl X.V l0 G hq2) dX7_noteTold_166 ?_
    exact J.sub [1, 2, 3, 4, 5, 6, 0] rfl (jX7_noteTold_169 ok l0 l1 l2 l3 l4 l5 s0 q2.2 h hK)

def fX7_noteTold_157 (l0 : Nat) (l1 : Int32) (l2 : Int32) (l3 : Int32) (l4 : Int32) (l5 : Int32)  (G : Mem) : Option (Unit × Mem) :=
  fX7_noteTold_158 l0 l1 l2 l3 l4 l5 (0 : Int32) G

set_option maxRecDepth 100000 in
set_option maxHeartbeats 4000000 in
theorem jX7_noteTold_157 {X : Cx} (ok : OK X cX7_noteTold RX7 none 8 7 246) (l0 : Nat) (l1 : Int32) (l2 : Int32) (l3 : Int32) (l4 : Int32) (l5 : Int32)  (G : Mem) {r : Unit} {G' : Mem} (h : fX7_noteTold_157 l0 l1 l2 l3 l4 l5 G = some (r, G')) (hK : (finV X) r G') : J X 8 157 [(0, .ref (X.B + l0)), (1, .int l1), (2, .int l2), (3, .int l3), (4, .int l4), (5, .int l5)] [] G := by
  unfold fX7_noteTold_157 at h
  refine j_iconst (v := 0) ok dX7_noteTold_157 (by decide) ?_
  exact J.sub [0, 1, 2, 3, 4, 5] rfl (jX7_noteTold_158 ok l0 l1 l2 l3 l4 l5 (0 : Int32) G h hK)

def fX7_noteTold_136 (l0 : Nat) (l1 : Int32) (l2 : Int32) (l3 : Int32) (l4 : Int32) (l5 : Int32)  (G : Mem) : Option (Unit × Mem) :=
  (gF G 17 l0 25).bind fun v1 =>
  if v1 = (0 : Int32) then
    ck G 17 l0 <| (fX7_is l0 15 G).bind fun q3 =>
    if q3.1 = (0 : Int32) then
      fX7_noteTold_157 l0 l1 l2 l3 l4 l5 q3.2
    else
      fX7_noteTold_158 l0 l1 l2 l3 l4 l5 (1 : Int32) q3.2
  else
    fX7_noteTold_157 l0 l1 l2 l3 l4 l5 G

set_option maxRecDepth 100000 in
set_option maxHeartbeats 4000000 in
theorem jX7_noteTold_136 {X : Cx} (ok : OK X cX7_noteTold RX7 none 8 7 246) (l0 : Nat) (l1 : Int32) (l2 : Int32) (l3 : Int32) (l4 : Int32) (l5 : Int32)  (G : Mem) {r : Unit} {G' : Mem} (h : fX7_noteTold_136 l0 l1 l2 l3 l4 l5 G = some (r, G')) (hK : (finV X) r G') : J X 8 136 [(0, .ref (X.B + l0)), (1, .int l1), (2, .int l2), (3, .int l3), (4, .int l4), (5, .int l5)] [] G := by
  unfold fX7_noteTold_136 at h
  refine j_aload_n ok dX7_noteTold_136 rfl 0 rfl ?_
  obtain ⟨v1, hv1, h⟩ := obind h
  refine k_getI ok fl_X7_212 hv1 dX7_noteTold_137 ?_
  rcases ite_some h with ⟨c2, h⟩ | ⟨c2, h⟩
  · refine j_if_ne (tgt := 157) ok dX7_noteTold_140 (by decide) (fun z => absurd c2 z) (fun _ => ?_)
    refine j_aload_n ok dX7_noteTold_143 rfl 0 rfl ?_
    refine k_strw ok st_X7_274 dX7_noteTold_144 ?_
    obtain ⟨kq3, h⟩ := ck_some h
    obtain ⟨q3, hq3, h⟩ := obind h
    refine k_V1 ok kl_X7_237 ⟨Nat.le_of_ble_eq_true rfl, Nat.le_of_ble_eq_true rfl⟩ [.ref (X.V.sa 15)] kq3 rfl rfl (Nat.le_of_ble_eq_true rfl) (tX7_is ok.fl X.V l0 15 G hq3) dX7_noteTold_147 ?_
    rcases ite_some h with ⟨c4, h⟩ | ⟨c4, h⟩
    · refine j_if_eq (tgt := 157) ok dX7_noteTold_150 (by decide) (fun _ => ?_) (fun z => absurd c4 z)
      exact J.sub [0, 1, 2, 3, 4, 5] rfl (jX7_noteTold_157 ok l0 l1 l2 l3 l4 l5 q3.2 h hK)
    · refine j_if_eq (tgt := 157) ok dX7_noteTold_150 (by decide) (fun z => absurd z c4) (fun _ => ?_)
      refine j_iconst (v := 1) ok dX7_noteTold_153 (by decide) ?_
      refine j_goto (tgt := 158) ok dX7_noteTold_154 (by decide) ?_
      exact J.sub [0, 1, 2, 3, 4, 5] rfl (jX7_noteTold_158 ok l0 l1 l2 l3 l4 l5 (1 : Int32) q3.2 h hK)
  · refine j_if_ne (tgt := 157) ok dX7_noteTold_140 (by decide) (fun _ => ?_) (fun z => absurd z c2)
    exact J.sub [0, 1, 2, 3, 4, 5] rfl (jX7_noteTold_157 ok l0 l1 l2 l3 l4 l5 G h hK)

def fX7_noteTold_125 (l0 : Nat) (l1 : Int32) (l2 : Int32) (l3 : Int32) (l4 : Int32) (s0 : Int32) (G : Mem) : Option (Unit × Mem) :=
  if s0 = (0 : Int32) then
    fX7_noteTold_136 l0 l1 l2 l3 l4 s0 G
  else
    ck G 17 l0 <| (fX7_go l0 G).bind fun q2 =>
    fX7_noteTold_136 l0 l1 l2 l3 l4 s0 q2.2

set_option maxRecDepth 100000 in
set_option maxHeartbeats 4000000 in
theorem jX7_noteTold_125 {X : Cx} (ok : OK X cX7_noteTold RX7 none 8 7 246) (l0 : Nat) (l1 : Int32) (l2 : Int32) (l3 : Int32) (l4 : Int32) (s0 : Int32) (G : Mem) {r : Unit} {G' : Mem} (h : fX7_noteTold_125 l0 l1 l2 l3 l4 s0 G = some (r, G')) (hK : (finV X) r G') : J X 8 125 [(0, .ref (X.B + l0)), (1, .int l1), (2, .int l2), (3, .int l3), (4, .int l4)] [.int s0] G := by
  unfold fX7_noteTold_125 at h
  refine j_istore (L' := [(5, .int s0), (0, .ref (X.B + l0)), (1, .int l1), (2, .int l2), (3, .int l3), (4, .int l4)]) ok dX7_noteTold_125 (by decide) rfl ?_
  refine j_iload ok dX7_noteTold_127 0 rfl ?_
  rcases ite_some h with ⟨c1, h⟩ | ⟨c1, h⟩
  · refine j_if_eq (tgt := 136) ok dX7_noteTold_129 (by decide) (fun _ => ?_) (fun z => absurd c1 z)
    exact J.sub [1, 2, 3, 4, 5, 0] rfl (jX7_noteTold_136 ok l0 l1 l2 l3 l4 s0 G h hK)
  · refine j_if_eq (tgt := 136) ok dX7_noteTold_129 (by decide) (fun z => absurd z c1) (fun _ => ?_)
    refine j_aload_n ok dX7_noteTold_132 rfl 1 rfl ?_
    obtain ⟨kq2, h⟩ := ck_some h
    obtain ⟨q2, hq2, h⟩ := obind h
    refine k_V0 ok kl_X7_229 ⟨Nat.le_of_ble_eq_true rfl, Nat.le_of_ble_eq_true rfl⟩ [] kq2 rfl rfl (Nat.le_of_ble_eq_true rfl) (tX7_go ok.fl X.V l0 G hq2) dX7_noteTold_133 ?_
    exact J.sub [1, 2, 3, 4, 5, 0] rfl (jX7_noteTold_136 ok l0 l1 l2 l3 l4 s0 q2.2 h hK)

def fX7_noteTold_124 (l0 : Nat) (l1 : Int32) (l2 : Int32) (l3 : Int32) (l4 : Int32)  (G : Mem) : Option (Unit × Mem) :=
  fX7_noteTold_125 l0 l1 l2 l3 l4 (0 : Int32) G

set_option maxRecDepth 100000 in
set_option maxHeartbeats 4000000 in
theorem jX7_noteTold_124 {X : Cx} (ok : OK X cX7_noteTold RX7 none 8 7 246) (l0 : Nat) (l1 : Int32) (l2 : Int32) (l3 : Int32) (l4 : Int32)  (G : Mem) {r : Unit} {G' : Mem} (h : fX7_noteTold_124 l0 l1 l2 l3 l4 G = some (r, G')) (hK : (finV X) r G') : J X 8 124 [(0, .ref (X.B + l0)), (1, .int l1), (2, .int l2), (3, .int l3), (4, .int l4)] [] G := by
  unfold fX7_noteTold_124 at h
  refine j_iconst (v := 0) ok dX7_noteTold_124 (by decide) ?_
  exact J.sub [0, 1, 2, 3, 4] rfl (jX7_noteTold_125 ok l0 l1 l2 l3 l4 (0 : Int32) G h hK)

def fX7_noteTold_103 (l0 : Nat) (l1 : Int32) (l2 : Int32) (l3 : Int32) (l4 : Int32)  (G : Mem) : Option (Unit × Mem) :=
  (gF G 17 l0 25).bind fun v1 =>
  if v1 = (0 : Int32) then
    ck G 17 l0 <| (fX7_is l0 14 G).bind fun q3 =>
    if q3.1 = (0 : Int32) then
      fX7_noteTold_124 l0 l1 l2 l3 l4 q3.2
    else
      fX7_noteTold_125 l0 l1 l2 l3 l4 (1 : Int32) q3.2
  else
    fX7_noteTold_124 l0 l1 l2 l3 l4 G

set_option maxRecDepth 100000 in
set_option maxHeartbeats 4000000 in
theorem jX7_noteTold_103 {X : Cx} (ok : OK X cX7_noteTold RX7 none 8 7 246) (l0 : Nat) (l1 : Int32) (l2 : Int32) (l3 : Int32) (l4 : Int32)  (G : Mem) {r : Unit} {G' : Mem} (h : fX7_noteTold_103 l0 l1 l2 l3 l4 G = some (r, G')) (hK : (finV X) r G') : J X 8 103 [(0, .ref (X.B + l0)), (1, .int l1), (2, .int l2), (3, .int l3), (4, .int l4)] [] G := by
  unfold fX7_noteTold_103 at h
  refine j_aload_n ok dX7_noteTold_103 rfl 0 rfl ?_
  obtain ⟨v1, hv1, h⟩ := obind h
  refine k_getI ok fl_X7_212 hv1 dX7_noteTold_104 ?_
  rcases ite_some h with ⟨c2, h⟩ | ⟨c2, h⟩
  · refine j_if_ne (tgt := 124) ok dX7_noteTold_107 (by decide) (fun z => absurd c2 z) (fun _ => ?_)
    refine j_aload_n ok dX7_noteTold_110 rfl 0 rfl ?_
    refine k_strw ok st_X7_272 dX7_noteTold_111 ?_
    obtain ⟨kq3, h⟩ := ck_some h
    obtain ⟨q3, hq3, h⟩ := obind h
    refine k_V1 ok kl_X7_237 ⟨Nat.le_of_ble_eq_true rfl, Nat.le_of_ble_eq_true rfl⟩ [.ref (X.V.sa 14)] kq3 rfl rfl (Nat.le_of_ble_eq_true rfl) (tX7_is ok.fl X.V l0 14 G hq3) dX7_noteTold_114 ?_
    rcases ite_some h with ⟨c4, h⟩ | ⟨c4, h⟩
    · refine j_if_eq (tgt := 124) ok dX7_noteTold_117 (by decide) (fun _ => ?_) (fun z => absurd c4 z)
      exact J.sub [0, 1, 2, 3, 4] rfl (jX7_noteTold_124 ok l0 l1 l2 l3 l4 q3.2 h hK)
    · refine j_if_eq (tgt := 124) ok dX7_noteTold_117 (by decide) (fun z => absurd z c4) (fun _ => ?_)
      refine j_iconst (v := 1) ok dX7_noteTold_120 (by decide) ?_
      refine j_goto (tgt := 125) ok dX7_noteTold_121 (by decide) ?_
      exact J.sub [0, 1, 2, 3, 4] rfl (jX7_noteTold_125 ok l0 l1 l2 l3 l4 (1 : Int32) q3.2 h hK)
  · refine j_if_ne (tgt := 124) ok dX7_noteTold_107 (by decide) (fun _ => ?_) (fun z => absurd z c2)
    exact J.sub [0, 1, 2, 3, 4] rfl (jX7_noteTold_124 ok l0 l1 l2 l3 l4 G h hK)

def fX7_noteTold_71 (l0 : Nat) (l1 : Int32) (l2 : Int32) (l3 : Int32) (l4 : Int32)  (G : Mem) : Option (Unit × Mem) :=
  (gF G 17 l0 25).bind fun v1 =>
  if v1 = (0 : Int32) then
    ck G 17 l0 <| (fX7_is l0 13 G).bind fun q3 =>
    if q3.1 = (0 : Int32) then
      fX7_noteTold_103 l0 l1 l2 l3 l4 q3.2
    else
      ck q3.2 17 l0 <| (fX7_go l0 q3.2).bind fun q5 =>
      ck q5.2 17 l0 <| (fX7_column l0 q5.2).bind fun q6 =>
      ck q6.2 17 l0 <| (fX7_row l0 q6.2).bind fun q7 =>
      fX7_noteTold_103 l0 l1 l2 q6.1 q7.1 q7.2
  else
    fX7_noteTold_103 l0 l1 l2 l3 l4 G

set_option maxRecDepth 100000 in
set_option maxHeartbeats 4000000 in
theorem jX7_noteTold_71 {X : Cx} (ok : OK X cX7_noteTold RX7 none 8 7 246) (l0 : Nat) (l1 : Int32) (l2 : Int32) (l3 : Int32) (l4 : Int32)  (G : Mem) {r : Unit} {G' : Mem} (h : fX7_noteTold_71 l0 l1 l2 l3 l4 G = some (r, G')) (hK : (finV X) r G') : J X 8 71 [(0, .ref (X.B + l0)), (1, .int l1), (2, .int l2), (3, .int l3), (4, .int l4)] [] G := by
  unfold fX7_noteTold_71 at h
  refine j_aload_n ok dX7_noteTold_71 rfl 0 rfl ?_
  obtain ⟨v1, hv1, h⟩ := obind h
  refine k_getI ok fl_X7_212 hv1 dX7_noteTold_72 ?_
  rcases ite_some h with ⟨c2, h⟩ | ⟨c2, h⟩
  · refine j_if_ne (tgt := 103) ok dX7_noteTold_75 (by decide) (fun z => absurd c2 z) (fun _ => ?_)
    refine j_aload_n ok dX7_noteTold_78 rfl 0 rfl ?_
    refine k_strw ok st_X7_268 dX7_noteTold_79 ?_
    obtain ⟨kq3, h⟩ := ck_some h
    obtain ⟨q3, hq3, h⟩ := obind h
    refine k_V1 ok kl_X7_237 ⟨Nat.le_of_ble_eq_true rfl, Nat.le_of_ble_eq_true rfl⟩ [.ref (X.V.sa 13)] kq3 rfl rfl (Nat.le_of_ble_eq_true rfl) (tX7_is ok.fl X.V l0 13 G hq3) dX7_noteTold_82 ?_
    rcases ite_some h with ⟨c4, h⟩ | ⟨c4, h⟩
    · refine j_if_eq (tgt := 103) ok dX7_noteTold_85 (by decide) (fun _ => ?_) (fun z => absurd c4 z)
      exact J.sub [0, 1, 2, 3, 4] rfl (jX7_noteTold_103 ok l0 l1 l2 l3 l4 q3.2 h hK)
    · refine j_if_eq (tgt := 103) ok dX7_noteTold_85 (by decide) (fun z => absurd z c4) (fun _ => ?_)
      refine j_aload_n ok dX7_noteTold_88 rfl 0 rfl ?_
      obtain ⟨kq5, h⟩ := ck_some h
      obtain ⟨q5, hq5, h⟩ := obind h
      refine k_V0 ok kl_X7_229 ⟨Nat.le_of_ble_eq_true rfl, Nat.le_of_ble_eq_true rfl⟩ [] kq5 rfl rfl (Nat.le_of_ble_eq_true rfl) (tX7_go ok.fl X.V l0 q3.2 hq5) dX7_noteTold_89 ?_
      refine j_aload_n ok dX7_noteTold_92 rfl 0 rfl ?_
      obtain ⟨kq6, h⟩ := ck_some h
      obtain ⟨q6, hq6, h⟩ := obind h
      refine k_V1 ok kl_X7_259 ⟨Nat.le_of_ble_eq_true rfl, Nat.le_of_ble_eq_true rfl⟩ [] kq6 rfl rfl (Nat.le_of_ble_eq_true rfl) (tX7_column ok.fl X.V l0 q5.2 hq6) dX7_noteTold_93 ?_
      refine j_istore_n (L' := [(3, .int q6.1), (0, .ref (X.B + l0)), (1, .int l1), (2, .int l2), (4, .int l4)]) ok dX7_noteTold_96 rfl (by decide) rfl ?_
      refine j_aload_n ok dX7_noteTold_97 rfl 1 rfl ?_
      obtain ⟨kq7, h⟩ := ck_some h
      obtain ⟨q7, hq7, h⟩ := obind h
      refine k_V1 ok kl_X7_269 ⟨Nat.le_of_ble_eq_true rfl, Nat.le_of_ble_eq_true rfl⟩ [] kq7 rfl rfl (Nat.le_of_ble_eq_true rfl) (tX7_row ok.fl X.V l0 q6.2 hq7) dX7_noteTold_98 ?_
      refine j_istore (L' := [(4, .int q7.1), (3, .int q6.1), (0, .ref (X.B + l0)), (1, .int l1), (2, .int l2)]) ok dX7_noteTold_101 (by decide) rfl ?_
      exact J.sub [2, 3, 4, 1, 0] rfl (jX7_noteTold_103 ok l0 l1 l2 q6.1 q7.1 q7.2 h hK)
  · refine j_if_ne (tgt := 103) ok dX7_noteTold_75 (by decide) (fun _ => ?_) (fun z => absurd z c2)
    exact J.sub [0, 1, 2, 3, 4] rfl (jX7_noteTold_103 ok l0 l1 l2 l3 l4 G h hK)

def fX7_noteTold_30 (l0 : Nat) (l1 : Int32) (s0 : Nat) (s1 : Int32) (G : Mem) : Option (Unit × Mem) :=
  ck G 17 s0 <| (fX7_wrong s0 s1 (1 : Int32) G).bind fun q1 =>
  ck q1.2 17 l0 <| (fX7_go l0 q1.2).bind fun q2 =>
  (gF q2.2 17 l0 25).bind fun v3 =>
  if v3 = (0 : Int32) then
    ck q2.2 17 l0 <| (fX7_is l0 12 q2.2).bind fun q5 =>
    if q5.1 = (0 : Int32) then
      fX7_noteTold_71 l0 l1 (-1 : Int32) (-1 : Int32) (-1 : Int32) q5.2
    else
      ck q5.2 17 l0 <| (fX7_go l0 q5.2).bind fun q7 =>
      ck q7.2 17 l0 <| (fX7_column l0 q7.2).bind fun q8 =>
      fX7_noteTold_71 l0 l1 q8.1 (-1 : Int32) (-1 : Int32) q8.2
  else
    fX7_noteTold_71 l0 l1 (-1 : Int32) (-1 : Int32) (-1 : Int32) q2.2

set_option maxRecDepth 100000 in
set_option maxHeartbeats 4000000 in
theorem jX7_noteTold_30 {X : Cx} (ok : OK X cX7_noteTold RX7 none 8 7 246) (l0 : Nat) (l1 : Int32) (s0 : Nat) (s1 : Int32) (G : Mem) {r : Unit} {G' : Mem} (h : fX7_noteTold_30 l0 l1 s0 s1 G = some (r, G')) (hK : (finV X) r G') : J X 8 30 [(0, .ref (X.B + l0)), (1, .int l1)] [.int s1, .ref (X.B + s0)] G := by
  unfold fX7_noteTold_30 at h
  refine j_iconst (v := 1) ok dX7_noteTold_30 (by decide) ?_
  obtain ⟨kq1, h⟩ := ck_some h
  obtain ⟨q1, hq1, h⟩ := obind h
  refine k_V0 ok kl_X7_222 ⟨Nat.le_of_ble_eq_true rfl, Nat.le_of_ble_eq_true rfl⟩ [.int s1, .int (1 : Int32)] kq1 rfl rfl (Nat.le_of_ble_eq_true rfl) (tX7_wrong ok.fl X.V s0 s1 (1 : Int32) G hq1) dX7_noteTold_31 ?_
  refine j_aload_n ok dX7_noteTold_34 rfl 0 rfl ?_
  obtain ⟨kq2, h⟩ := ck_some h
  obtain ⟨q2, hq2, h⟩ := obind h
  refine k_V0 ok kl_X7_229 ⟨Nat.le_of_ble_eq_true rfl, Nat.le_of_ble_eq_true rfl⟩ [] kq2 rfl rfl (Nat.le_of_ble_eq_true rfl) (tX7_go ok.fl X.V l0 q1.2 hq2) dX7_noteTold_35 ?_
  refine j_iconst (v := -1) ok dX7_noteTold_38 (by decide) ?_
  refine j_istore_n (L' := [(2, .int (-1 : Int32)), (0, .ref (X.B + l0)), (1, .int l1)]) ok dX7_noteTold_39 rfl (by decide) rfl ?_
  refine j_iconst (v := -1) ok dX7_noteTold_40 (by decide) ?_
  refine j_istore_n (L' := [(3, .int (-1 : Int32)), (2, .int (-1 : Int32)), (0, .ref (X.B + l0)), (1, .int l1)]) ok dX7_noteTold_41 rfl (by decide) rfl ?_
  refine j_iconst (v := -1) ok dX7_noteTold_42 (by decide) ?_
  refine j_istore (L' := [(4, .int (-1 : Int32)), (3, .int (-1 : Int32)), (2, .int (-1 : Int32)), (0, .ref (X.B + l0)), (1, .int l1)]) ok dX7_noteTold_43 (by decide) rfl ?_
  refine j_aload_n ok dX7_noteTold_45 rfl 3 rfl ?_
  obtain ⟨v3, hv3, h⟩ := obind h
  refine k_getI ok fl_X7_212 hv3 dX7_noteTold_46 ?_
  rcases ite_some h with ⟨c4, h⟩ | ⟨c4, h⟩
  · refine j_if_ne (tgt := 71) ok dX7_noteTold_49 (by decide) (fun z => absurd c4 z) (fun _ => ?_)
    refine j_aload_n ok dX7_noteTold_52 rfl 3 rfl ?_
    refine k_strw ok st_X7_267 dX7_noteTold_53 ?_
    obtain ⟨kq5, h⟩ := ck_some h
    obtain ⟨q5, hq5, h⟩ := obind h
    refine k_V1 ok kl_X7_237 ⟨Nat.le_of_ble_eq_true rfl, Nat.le_of_ble_eq_true rfl⟩ [.ref (X.V.sa 12)] kq5 rfl rfl (Nat.le_of_ble_eq_true rfl) (tX7_is ok.fl X.V l0 12 q2.2 hq5) dX7_noteTold_56 ?_
    rcases ite_some h with ⟨c6, h⟩ | ⟨c6, h⟩
    · refine j_if_eq (tgt := 71) ok dX7_noteTold_59 (by decide) (fun _ => ?_) (fun z => absurd c6 z)
      exact J.sub [3, 4, 2, 1, 0] rfl (jX7_noteTold_71 ok l0 l1 (-1 : Int32) (-1 : Int32) (-1 : Int32) q5.2 h hK)
    · refine j_if_eq (tgt := 71) ok dX7_noteTold_59 (by decide) (fun z => absurd z c6) (fun _ => ?_)
      refine j_aload_n ok dX7_noteTold_62 rfl 3 rfl ?_
      obtain ⟨kq7, h⟩ := ck_some h
      obtain ⟨q7, hq7, h⟩ := obind h
      refine k_V0 ok kl_X7_229 ⟨Nat.le_of_ble_eq_true rfl, Nat.le_of_ble_eq_true rfl⟩ [] kq7 rfl rfl (Nat.le_of_ble_eq_true rfl) (tX7_go ok.fl X.V l0 q5.2 hq7) dX7_noteTold_63 ?_
      refine j_aload_n ok dX7_noteTold_66 rfl 3 rfl ?_
      obtain ⟨kq8, h⟩ := ck_some h
      obtain ⟨q8, hq8, h⟩ := obind h
      refine k_V1 ok kl_X7_259 ⟨Nat.le_of_ble_eq_true rfl, Nat.le_of_ble_eq_true rfl⟩ [] kq8 rfl rfl (Nat.le_of_ble_eq_true rfl) (tX7_column ok.fl X.V l0 q7.2 hq8) dX7_noteTold_67 ?_
      refine j_istore_n (L' := [(2, .int q8.1), (4, .int (-1 : Int32)), (3, .int (-1 : Int32)), (0, .ref (X.B + l0)), (1, .int l1)]) ok dX7_noteTold_70 rfl (by decide) rfl ?_
      exact J.sub [3, 4, 0, 2, 1] rfl (jX7_noteTold_71 ok l0 l1 q8.1 (-1 : Int32) (-1 : Int32) q8.2 h hK)
  · refine j_if_ne (tgt := 71) ok dX7_noteTold_49 (by decide) (fun _ => ?_) (fun z => absurd z c4)
    exact J.sub [3, 4, 2, 1, 0] rfl (jX7_noteTold_71 ok l0 l1 (-1 : Int32) (-1 : Int32) (-1 : Int32) q2.2 h hK)

def fX7_noteTold_29 (l0 : Nat) (l1 : Int32) (s0 : Nat) (G : Mem) : Option (Unit × Mem) :=
  fX7_noteTold_30 l0 l1 s0 (0 : Int32) G

set_option maxRecDepth 100000 in
set_option maxHeartbeats 4000000 in
theorem jX7_noteTold_29 {X : Cx} (ok : OK X cX7_noteTold RX7 none 8 7 246) (l0 : Nat) (l1 : Int32) (s0 : Nat) (G : Mem) {r : Unit} {G' : Mem} (h : fX7_noteTold_29 l0 l1 s0 G = some (r, G')) (hK : (finV X) r G') : J X 8 29 [(0, .ref (X.B + l0)), (1, .int l1)] [.ref (X.B + s0)] G := by
  unfold fX7_noteTold_29 at h
  refine j_iconst (v := 0) ok dX7_noteTold_29 (by decide) ?_
  exact J.sub [0, 1] rfl (jX7_noteTold_30 ok l0 l1 s0 (0 : Int32) G h hK)

def fX7_noteTold_0 (l0 : Nat)  (G : Mem) : Option (Unit × Mem) :=
  ck G 17 l0 <| (fX7_go l0 G).bind fun q1 =>
  ck q1.2 17 l0 <| (fX7_kindHere l0 q1.2).bind fun q2 =>
  if q2.1 = (-1 : Int32) then
    ck q2.2 17 l0 <| (fX7_is l0 11 q2.2).bind fun q4 =>
    if q4.1 = (0 : Int32) then
      fX7_noteTold_30 l0 q2.1 l0 (1 : Int32) q4.2
    else
      fX7_noteTold_29 l0 q2.1 l0 q4.2
  else
    fX7_noteTold_29 l0 q2.1 l0 q2.2

set_option maxRecDepth 100000 in
set_option maxHeartbeats 4000000 in
theorem jX7_noteTold_0 {X : Cx} (ok : OK X cX7_noteTold RX7 none 8 7 246) (l0 : Nat)  (G : Mem) {r : Unit} {G' : Mem} (h : fX7_noteTold_0 l0 G = some (r, G')) (hK : (finV X) r G') : J X 8 0 [(0, .ref (X.B + l0))] [] G := by
  unfold fX7_noteTold_0 at h
  refine j_aload_n ok dX7_noteTold_0 rfl 0 rfl ?_
  obtain ⟨kq1, h⟩ := ck_some h
  obtain ⟨q1, hq1, h⟩ := obind h
  refine k_V0 ok kl_X7_229 ⟨Nat.le_of_ble_eq_true rfl, Nat.le_of_ble_eq_true rfl⟩ [] kq1 rfl rfl (Nat.le_of_ble_eq_true rfl) (tX7_go ok.fl X.V l0 G hq1) dX7_noteTold_1 ?_
  refine j_aload_n ok dX7_noteTold_4 rfl 0 rfl ?_
  obtain ⟨kq2, h⟩ := ck_some h
  obtain ⟨q2, hq2, h⟩ := obind h
  refine k_V1 ok kl_X7_256 ⟨Nat.le_of_ble_eq_true rfl, Nat.le_of_ble_eq_true rfl⟩ [] kq2 rfl rfl (Nat.le_of_ble_eq_true rfl) (tX7_kindHere ok.fl X.V l0 q1.2 hq2) dX7_noteTold_5 ?_
  refine j_istore_n (L' := [(1, .int q2.1), (0, .ref (X.B + l0))]) ok dX7_noteTold_8 rfl (by decide) rfl ?_
  refine j_aload_n ok dX7_noteTold_9 rfl 1 rfl ?_
  refine j_iload_n ok dX7_noteTold_10 rfl 0 rfl ?_
  refine j_iconst (v := -1) ok dX7_noteTold_11 (by decide) ?_
  rcases ite_some h with ⟨c3, h⟩ | ⟨c3, h⟩
  · refine j_icmp_ne (tgt := 29) ok dX7_noteTold_12 (by decide) (fun z => absurd c3 z) (fun _ => ?_)
    refine j_aload_n ok dX7_noteTold_15 rfl 1 rfl ?_
    refine k_strw ok st_X7_265 dX7_noteTold_16 ?_
    obtain ⟨kq4, h⟩ := ck_some h
    obtain ⟨q4, hq4, h⟩ := obind h
    refine k_V1 ok kl_X7_237 ⟨Nat.le_of_ble_eq_true rfl, Nat.le_of_ble_eq_true rfl⟩ [.ref (X.V.sa 11)] kq4 rfl rfl (Nat.le_of_ble_eq_true rfl) (tX7_is ok.fl X.V l0 11 q2.2 hq4) dX7_noteTold_19 ?_
    rcases ite_some h with ⟨c5, h⟩ | ⟨c5, h⟩
    · refine j_if_ne (tgt := 29) ok dX7_noteTold_22 (by decide) (fun z => absurd c5 z) (fun _ => ?_)
      refine j_iconst (v := 1) ok dX7_noteTold_25 (by decide) ?_
      refine j_goto (tgt := 30) ok dX7_noteTold_26 (by decide) ?_
      exact J.sub [1, 0] rfl (jX7_noteTold_30 ok l0 q2.1 l0 (1 : Int32) q4.2 h hK)
    · refine j_if_ne (tgt := 29) ok dX7_noteTold_22 (by decide) (fun _ => ?_) (fun z => absurd z c5)
      exact J.sub [1, 0] rfl (jX7_noteTold_29 ok l0 q2.1 l0 q4.2 h hK)
  · refine j_icmp_ne (tgt := 29) ok dX7_noteTold_12 (by decide) (fun _ => ?_) (fun z => absurd z c3)
    exact J.sub [1, 0] rfl (jX7_noteTold_29 ok l0 q2.1 l0 q2.2 h hK)

def fX7_noteTold (l0 : Nat) (G : Mem) : Option (Unit × Mem) := fX7_noteTold_0 l0 G
set_option maxRecDepth 100000 in
theorem tX7_noteTold {l : Launch} (hfl : l.stackTraces = false) (V : Wd) (l0 : Nat) (G : Mem) {r : Unit} {G' : Mem} (h : fX7_noteTold l0 G = some (r, G')) : Mx l yX7_noteTold cX7_noteTold 8 none 7 246 V [.ref (V.B + l0)] G (.inl none) G' :=
  mx_of (L := [(0, .ref (V.B + l0))]) hfl (by decide +kernel) (Nat.le_of_ble_eq_true rfl) rfl (fun X hl hV hin ok he => by
    subst hl; subst hV
    exact J.sub [0] rfl (jX7_noteTold_0 ok l0 G h he))
def fX7_originTold_102  (s0 : Nat) (s1 : Int32) (G : Mem) : Option (Unit × Mem) :=
  ck G 17 s0 <| (fX7_wrong s0 s1 (6 : Int32) G).bind fun q1 =>
  some ((), q1.2)

set_option maxRecDepth 100000 in
set_option maxHeartbeats 4000000 in
theorem jX7_originTold_102 {X : Cx} (ok : OK X cX7_originTold RX7 none 5 8 272)  (s0 : Nat) (s1 : Int32) (G : Mem) {r : Unit} {G' : Mem} (h : fX7_originTold_102 s0 s1 G = some (r, G')) (hK : (finV X) r G') : J X 5 102 [] [.int s1, .ref (X.B + s0)] G := by
  unfold fX7_originTold_102 at h
  refine j_bipush (v := 6) ok dX7_originTold_102 (by decide) ?_
  obtain ⟨kq1, h⟩ := ck_some h
  obtain ⟨q1, hq1, h⟩ := obind h
  refine k_V0 ok kl_X7_222 ⟨Nat.le_of_ble_eq_true rfl, Nat.le_of_ble_eq_true rfl⟩ [.int s1, .int (6 : Int32)] kq1 rfl rfl (Nat.le_of_ble_eq_true rfl) (tX7_wrong ok.fl X.V s0 s1 (6 : Int32) G hq1) dX7_originTold_104 ?_
  obtain ⟨er, eG⟩ := inj2 h
  subst er; subst eG
  exact j_vret ok rfl dX7_originTold_107 hK

def fX7_originTold_89 (l0 : Nat) (s0 : Int32) (G : Mem) : Option (Unit × Mem) :=
  if s0 = (0 : Int32) then
    fX7_originTold_102 l0 (1 : Int32) G
  else
    fX7_originTold_102 l0 (0 : Int32) G

set_option maxRecDepth 100000 in
set_option maxHeartbeats 4000000 in
theorem jX7_originTold_89 {X : Cx} (ok : OK X cX7_originTold RX7 none 5 8 272) (l0 : Nat) (s0 : Int32) (G : Mem) {r : Unit} {G' : Mem} (h : fX7_originTold_89 l0 s0 G = some (r, G')) (hK : (finV X) r G') : J X 5 89 [(0, .ref (X.B + l0))] [.int s0] G := by
  unfold fX7_originTold_89 at h
  refine j_istore (L' := [(4, .int s0), (0, .ref (X.B + l0))]) ok dX7_originTold_89 (by decide) rfl ?_
  refine j_aload_n ok dX7_originTold_91 rfl 1 rfl ?_
  refine j_iload ok dX7_originTold_92 0 rfl ?_
  rcases ite_some h with ⟨c1, h⟩ | ⟨c1, h⟩
  · refine j_if_ne (tgt := 101) ok dX7_originTold_94 (by decide) (fun z => absurd c1 z) (fun _ => ?_)
    refine j_iconst (v := 1) ok dX7_originTold_97 (by decide) ?_
    refine j_goto (tgt := 102) ok dX7_originTold_98 (by decide) ?_
    exact J.sub [] rfl (jX7_originTold_102 ok l0 (1 : Int32) G h hK)
  · refine j_if_ne (tgt := 101) ok dX7_originTold_94 (by decide) (fun _ => ?_) (fun z => absurd z c1)
    refine j_iconst (v := 0) ok dX7_originTold_101 (by decide) ?_
    exact J.sub [] rfl (jX7_originTold_102 ok l0 (0 : Int32) G h hK)

def fX7_originTold_88 (l0 : Nat)  (G : Mem) : Option (Unit × Mem) :=
  fX7_originTold_89 l0 (0 : Int32) G

set_option maxRecDepth 100000 in
set_option maxHeartbeats 4000000 in
theorem jX7_originTold_88 {X : Cx} (ok : OK X cX7_originTold RX7 none 5 8 272) (l0 : Nat)  (G : Mem) {r : Unit} {G' : Mem} (h : fX7_originTold_88 l0 G = some (r, G')) (hK : (finV X) r G') : J X 5 88 [(0, .ref (X.B + l0))] [] G := by
  unfold fX7_originTold_88 at h
  refine j_iconst (v := 0) ok dX7_originTold_88 (by decide) ?_
  exact J.sub [0] rfl (jX7_originTold_89 ok l0 (0 : Int32) G h hK)

def fX7_originTold_42 (l0 : Nat) (l1 : Int32) (l2 : Int32) (l3 : Int32) (s0 : Nat) (s1 : Int32) (G : Mem) : Option (Unit × Mem) :=
  ck G 17 s0 <| (fX7_wrong s0 s1 (1 : Int32) G).bind fun q1 =>
  (gF q1.2 17 l0 25).bind fun v2 =>
  if v2 = (0 : Int32) then
    ck q1.2 17 l0 <| (fX7_states l0 l1 l2 l3 q1.2).bind fun q4 =>
    if q4.1 = (0 : Int32) then
      fX7_originTold_88 l0 q4.2
    else
      ck q4.2 17 l0 <| (fX7_of l0 l1 (1 : Int32) q4.2).bind fun q6 =>
      if q6.1 = l2 then
        ck q6.2 17 l0 <| (fX7_of l0 l1 (2 : Int32) q6.2).bind fun q8 =>
        if q8.1 = l3 then
          fX7_originTold_89 l0 (1 : Int32) q8.2
        else
          fX7_originTold_88 l0 q8.2
      else
        fX7_originTold_88 l0 q6.2
  else
    some ((), q1.2)

set_option maxRecDepth 100000 in
set_option maxHeartbeats 4000000 in
theorem jX7_originTold_42 {X : Cx} (ok : OK X cX7_originTold RX7 none 5 8 272) (l0 : Nat) (l1 : Int32) (l2 : Int32) (l3 : Int32) (s0 : Nat) (s1 : Int32) (G : Mem) {r : Unit} {G' : Mem} (h : fX7_originTold_42 l0 l1 l2 l3 s0 s1 G = some (r, G')) (hK : (finV X) r G') : J X 5 42 [(0, .ref (X.B + l0)), (1, .int l1), (2, .int l2), (3, .int l3)] [.int s1, .ref (X.B + s0)] G := by
  unfold fX7_originTold_42 at h
  refine j_iconst (v := 1) ok dX7_originTold_42 (by decide) ?_
  obtain ⟨kq1, h⟩ := ck_some h
  obtain ⟨q1, hq1, h⟩ := obind h
  refine k_V0 ok kl_X7_222 ⟨Nat.le_of_ble_eq_true rfl, Nat.le_of_ble_eq_true rfl⟩ [.int s1, .int (1 : Int32)] kq1 rfl rfl (Nat.le_of_ble_eq_true rfl) (tX7_wrong ok.fl X.V s0 s1 (1 : Int32) G hq1) dX7_originTold_43 ?_
  refine j_aload_n ok dX7_originTold_46 rfl 0 rfl ?_
  obtain ⟨v2, hv2, h⟩ := obind h
  refine k_getI ok fl_X7_212 hv2 dX7_originTold_47 ?_
  rcases ite_some h with ⟨c3, h⟩ | ⟨c3, h⟩
  · refine j_if_eq (tgt := 54) ok dX7_originTold_50 (by decide) (fun _ => ?_) (fun z => absurd c3 z)
    refine j_aload_n ok dX7_originTold_54 rfl 0 rfl ?_
    refine j_iload_n ok dX7_originTold_55 rfl 1 rfl ?_
    refine j_iload_n ok dX7_originTold_56 rfl 2 rfl ?_
    refine j_iload_n ok dX7_originTold_57 rfl 3 rfl ?_
    obtain ⟨kq4, h⟩ := ck_some h
    obtain ⟨q4, hq4, h⟩ := obind h
    refine k_V1 ok kl_X7_289 ⟨Nat.le_of_ble_eq_true rfl, Nat.le_of_ble_eq_true rfl⟩ [.int l1, .int l2, .int l3] kq4 rfl rfl (Nat.le_of_ble_eq_true rfl) (tX7_states ok.fl X.V l0 l1 l2 l3 q1.2 hq4) dX7_originTold_58 ?_
    rcases ite_some h with ⟨c5, h⟩ | ⟨c5, h⟩
    · refine j_if_eq (tgt := 88) ok dX7_originTold_61 (by decide) (fun _ => ?_) (fun z => absurd c5 z)
      exact J.sub [0] rfl (jX7_originTold_88 ok l0 q4.2 h hK)
    · refine j_if_eq (tgt := 88) ok dX7_originTold_61 (by decide) (fun z => absurd z c5) (fun _ => ?_)
      refine j_aload_n ok dX7_originTold_64 rfl 0 rfl ?_
      refine j_iload_n ok dX7_originTold_65 rfl 1 rfl ?_
      refine j_iconst (v := 1) ok dX7_originTold_66 (by decide) ?_
      obtain ⟨kq6, h⟩ := ck_some h
      obtain ⟨q6, hq6, h⟩ := obind h
      refine k_V1 ok kl_X7_144 ⟨Nat.le_of_ble_eq_true rfl, Nat.le_of_ble_eq_true rfl⟩ [.int l1, .int (1 : Int32)] kq6 rfl rfl (Nat.le_of_ble_eq_true rfl) (tX7_of ok.fl X.V l0 l1 (1 : Int32) q4.2 hq6) dX7_originTold_67 ?_
      refine j_iload_n ok dX7_originTold_70 rfl 2 rfl ?_
      rcases ite_some h with ⟨c7, h⟩ | ⟨c7, h⟩
      · refine j_icmp_ne (tgt := 88) ok dX7_originTold_71 (by decide) (fun z => absurd c7 z) (fun _ => ?_)
        refine j_aload_n ok dX7_originTold_74 rfl 0 rfl ?_
        refine j_iload_n ok dX7_originTold_75 rfl 1 rfl ?_
        refine j_iconst (v := 2) ok dX7_originTold_76 (by decide) ?_
        obtain ⟨kq8, h⟩ := ck_some h
        obtain ⟨q8, hq8, h⟩ := obind h
        refine k_V1 ok kl_X7_144 ⟨Nat.le_of_ble_eq_true rfl, Nat.le_of_ble_eq_true rfl⟩ [.int l1, .int (2 : Int32)] kq8 rfl rfl (Nat.le_of_ble_eq_true rfl) (tX7_of ok.fl X.V l0 l1 (2 : Int32) q6.2 hq8) dX7_originTold_77 ?_
        refine j_iload_n ok dX7_originTold_80 rfl 3 rfl ?_
        rcases ite_some h with ⟨c9, h⟩ | ⟨c9, h⟩
        · refine j_icmp_ne (tgt := 88) ok dX7_originTold_81 (by decide) (fun z => absurd c9 z) (fun _ => ?_)
          refine j_iconst (v := 1) ok dX7_originTold_84 (by decide) ?_
          refine j_goto (tgt := 89) ok dX7_originTold_85 (by decide) ?_
          exact J.sub [0] rfl (jX7_originTold_89 ok l0 (1 : Int32) q8.2 h hK)
        · refine j_icmp_ne (tgt := 88) ok dX7_originTold_81 (by decide) (fun _ => ?_) (fun z => absurd z c9)
          exact J.sub [0] rfl (jX7_originTold_88 ok l0 q8.2 h hK)
      · refine j_icmp_ne (tgt := 88) ok dX7_originTold_71 (by decide) (fun _ => ?_) (fun z => absurd z c7)
        exact J.sub [0] rfl (jX7_originTold_88 ok l0 q6.2 h hK)
  · refine j_if_eq (tgt := 54) ok dX7_originTold_50 (by decide) (fun z => absurd z c3) (fun _ => ?_)
    obtain ⟨er, eG⟩ := inj2 h
    subst er; subst eG
    exact j_vret ok rfl dX7_originTold_53 hK

def fX7_originTold_0 (l0 : Nat)  (G : Mem) : Option (Unit × Mem) :=
  ck G 17 l0 <| (fX7_go l0 G).bind fun q1 =>
  (gR q1.2 17 l0 0).bind fun v2 =>
  (gA q1.2 1 v2 (2 : Int32)).bind fun v3 =>
  ck q1.2 17 l0 <| (fX7_number l0 (0 : Int32) (v3 - (1 : Int32)) q1.2).bind fun q4 =>
  ck q4.2 17 l0 <| (fX7_column l0 q4.2).bind fun q5 =>
  ck q5.2 17 l0 <| (fX7_row l0 q5.2).bind fun q6 =>
  (gF q6.2 17 l0 21).bind fun v7 =>
  if v7 = (3 : Int32) then
    fX7_originTold_42 l0 q4.1 q5.1 q6.1 l0 (0 : Int32) q6.2
  else
    fX7_originTold_42 l0 q4.1 q5.1 q6.1 l0 (1 : Int32) q6.2

set_option maxRecDepth 100000 in
set_option maxHeartbeats 4000000 in
theorem jX7_originTold_0 {X : Cx} (ok : OK X cX7_originTold RX7 none 5 8 272) (l0 : Nat)  (G : Mem) {r : Unit} {G' : Mem} (h : fX7_originTold_0 l0 G = some (r, G')) (hK : (finV X) r G') : J X 5 0 [(0, .ref (X.B + l0))] [] G := by
  unfold fX7_originTold_0 at h
  refine j_aload_n ok dX7_originTold_0 rfl 0 rfl ?_
  obtain ⟨kq1, h⟩ := ck_some h
  obtain ⟨q1, hq1, h⟩ := obind h
  refine k_V0 ok kl_X7_229 ⟨Nat.le_of_ble_eq_true rfl, Nat.le_of_ble_eq_true rfl⟩ [] kq1 rfl rfl (Nat.le_of_ble_eq_true rfl) (tX7_go ok.fl X.V l0 G hq1) dX7_originTold_1 ?_
  refine j_aload_n ok dX7_originTold_4 rfl 0 rfl ?_
  refine j_iconst (v := 0) ok dX7_originTold_5 (by decide) ?_
  refine j_aload_n ok dX7_originTold_6 rfl 0 rfl ?_
  obtain ⟨v2, hv2, h⟩ := obind h
  refine k_getR ok fl_X7_9 hv2 dX7_originTold_7 ?_
  refine j_iconst (v := 2) ok dX7_originTold_10 (by decide) ?_
  obtain ⟨v3, hv3, h⟩ := obind h
  refine j_iald ok hv3 dX7_originTold_11 ?_
  refine j_iconst (v := 1) ok dX7_originTold_12 (by decide) ?_
  refine j_isub ok dX7_originTold_13 ?_
  obtain ⟨kq4, h⟩ := ck_some h
  obtain ⟨q4, hq4, h⟩ := obind h
  refine k_V1 ok kl_X7_232 ⟨Nat.le_of_ble_eq_true rfl, Nat.le_of_ble_eq_true rfl⟩ [.int (0 : Int32), .int (v3 - (1 : Int32))] kq4 rfl rfl (Nat.le_of_ble_eq_true rfl) (tX7_number ok.fl X.V l0 (0 : Int32) (v3 - (1 : Int32)) q1.2 hq4) dX7_originTold_14 ?_
  refine j_istore_n (L' := [(1, .int q4.1), (0, .ref (X.B + l0))]) ok dX7_originTold_17 rfl (by decide) rfl ?_
  refine j_aload_n ok dX7_originTold_18 rfl 1 rfl ?_
  obtain ⟨kq5, h⟩ := ck_some h
  obtain ⟨q5, hq5, h⟩ := obind h
  refine k_V1 ok kl_X7_259 ⟨Nat.le_of_ble_eq_true rfl, Nat.le_of_ble_eq_true rfl⟩ [] kq5 rfl rfl (Nat.le_of_ble_eq_true rfl) (tX7_column ok.fl X.V l0 q4.2 hq5) dX7_originTold_19 ?_
  refine j_istore_n (L' := [(2, .int q5.1), (1, .int q4.1), (0, .ref (X.B + l0))]) ok dX7_originTold_22 rfl (by decide) rfl ?_
  refine j_aload_n ok dX7_originTold_23 rfl 2 rfl ?_
  obtain ⟨kq6, h⟩ := ck_some h
  obtain ⟨q6, hq6, h⟩ := obind h
  refine k_V1 ok kl_X7_269 ⟨Nat.le_of_ble_eq_true rfl, Nat.le_of_ble_eq_true rfl⟩ [] kq6 rfl rfl (Nat.le_of_ble_eq_true rfl) (tX7_row ok.fl X.V l0 q5.2 hq6) dX7_originTold_24 ?_
  refine j_istore_n (L' := [(3, .int q6.1), (2, .int q5.1), (1, .int q4.1), (0, .ref (X.B + l0))]) ok dX7_originTold_27 rfl (by decide) rfl ?_
  refine j_aload_n ok dX7_originTold_28 rfl 3 rfl ?_
  refine j_aload_n ok dX7_originTold_29 rfl 3 rfl ?_
  obtain ⟨v7, hv7, h⟩ := obind h
  refine k_getI ok fl_X7_196 hv7 dX7_originTold_30 ?_
  refine j_iconst (v := 3) ok dX7_originTold_33 (by decide) ?_
  rcases ite_some h with ⟨c8, h⟩ | ⟨c8, h⟩
  · refine j_icmp_eq (tgt := 41) ok dX7_originTold_34 (by decide) (fun _ => ?_) (fun z => absurd c8 z)
    refine j_iconst (v := 0) ok dX7_originTold_41 (by decide) ?_
    exact J.sub [3, 2, 1, 0] rfl (jX7_originTold_42 ok l0 q4.1 q5.1 q6.1 l0 (0 : Int32) q6.2 h hK)
  · refine j_icmp_eq (tgt := 41) ok dX7_originTold_34 (by decide) (fun z => absurd z c8) (fun _ => ?_)
    refine j_iconst (v := 1) ok dX7_originTold_37 (by decide) ?_
    refine j_goto (tgt := 42) ok dX7_originTold_38 (by decide) ?_
    exact J.sub [3, 2, 1, 0] rfl (jX7_originTold_42 ok l0 q4.1 q5.1 q6.1 l0 (1 : Int32) q6.2 h hK)

def fX7_originTold (l0 : Nat) (G : Mem) : Option (Unit × Mem) := fX7_originTold_0 l0 G
set_option maxRecDepth 100000 in
theorem tX7_originTold {l : Launch} (hfl : l.stackTraces = false) (V : Wd) (l0 : Nat) (G : Mem) {r : Unit} {G' : Mem} (h : fX7_originTold l0 G = some (r, G')) : Mx l yX7_originTold cX7_originTold 5 none 8 272 V [.ref (V.B + l0)] G (.inl none) G' :=
  mx_of (L := [(0, .ref (V.B + l0))]) hfl (by decide +kernel) (Nat.le_of_ble_eq_true rfl) rfl (fun X hl hV hin ok he => by
    subst hl; subst hV
    exact J.sub [0] rfl (jX7_originTold_0 ok l0 G h he))
def fX7_drops_0 (l0 : Nat)  (G : Mem) : Option (Int32 × Mem) :=
  (gR G 17 l0 0).bind fun v1 =>
  (gA G 1 v1 (2 : Int32)).bind fun v2 =>
  (pA G v1 (2 : Int32) (v2 - (1 : Int32))).bind fun G3 =>
  ck G3 17 l0 <| (fX7_countsBehind l0 G3).bind fun q4 =>
  (gR q4.2 17 l0 0).bind fun v5 =>
  (gA q4.2 1 v5 (2 : Int32)).bind fun v6 =>
  some (v6, q4.2)

set_option maxRecDepth 100000 in
set_option maxHeartbeats 4000000 in
theorem jX7_drops_0 {X : Cx} (ok : OK X cX7_drops RX7 (some .int) 1 2 44) (l0 : Nat)  (G : Mem) {r : Int32} {G' : Mem} (h : fX7_drops_0 l0 G = some (r, G')) (hK : (finI X) r G') : J X 1 0 [(0, .ref (X.B + l0))] [] G := by
  unfold fX7_drops_0 at h
  refine j_aload_n ok dX7_drops_0 rfl 0 rfl ?_
  obtain ⟨v1, hv1, h⟩ := obind h
  refine k_getR ok fl_X7_9 hv1 dX7_drops_1 ?_
  refine j_iconst (v := 2) ok dX7_drops_4 (by decide) ?_
  refine j_dup2 ok dX7_drops_5 rfl rfl ?_
  obtain ⟨v2, hv2, h⟩ := obind h
  refine j_iald ok hv2 dX7_drops_6 ?_
  refine j_iconst (v := 1) ok dX7_drops_7 (by decide) ?_
  refine j_isub ok dX7_drops_8 ?_
  obtain ⟨G3, hG3, h⟩ := obind h
  refine j_iast ok hG3 dX7_drops_9 ?_
  refine j_aload_n ok dX7_drops_10 rfl 0 rfl ?_
  obtain ⟨kq4, h⟩ := ck_some h
  obtain ⟨q4, hq4, h⟩ := obind h
  refine k_V0 ok kl_X7_171 ⟨Nat.le_of_ble_eq_true rfl, Nat.le_of_ble_eq_true rfl⟩ [] kq4 rfl rfl (Nat.le_of_ble_eq_true rfl) (tX7_countsBehind ok.fl X.V l0 G3 hq4) dX7_drops_11 ?_
  refine j_aload_n ok dX7_drops_14 rfl 0 rfl ?_
  obtain ⟨v5, hv5, h⟩ := obind h
  refine k_getR ok fl_X7_9 hv5 dX7_drops_15 ?_
  refine j_iconst (v := 2) ok dX7_drops_18 (by decide) ?_
  obtain ⟨v6, hv6, h⟩ := obind h
  refine j_iald ok hv6 dX7_drops_19 ?_
  obtain ⟨er, eG⟩ := inj2 h
  subst er; subst eG
  exact j_iret ok rfl dX7_drops_20 hK

def fX7_drops (l0 : Nat) (G : Mem) : Option (Int32 × Mem) := fX7_drops_0 l0 G
set_option maxRecDepth 100000 in
theorem tX7_drops {l : Launch} (hfl : l.stackTraces = false) (V : Wd) (l0 : Nat) (G : Mem) {r : Int32} {G' : Mem} (h : fX7_drops l0 G = some (r, G')) : Mx l yX7_drops cX7_drops 1 (some .int) 2 44 V [.ref (V.B + l0)] G (.inl (some (.int r))) G' :=
  mx_of (L := [(0, .ref (V.B + l0))]) hfl (by decide +kernel) (Nat.le_of_ble_eq_true rfl) rfl (fun X hl hV hin ok he => by
    subst hl; subst hV
    exact J.sub [0] rfl (jX7_drops_0 ok l0 G h he))
def fX7_command_118 (l0 : Nat)  (G : Mem) : Option (Unit × Mem) :=
  ck G 17 l0 <| (fX7_go l0 G).bind fun q1 =>
  some ((), q1.2)

set_option maxRecDepth 100000 in
set_option maxHeartbeats 4000000 in
theorem jX7_command_118 {X : Cx} (ok : OK X cX7_command RX7 none 1 9 296) (l0 : Nat)  (G : Mem) {r : Unit} {G' : Mem} (h : fX7_command_118 l0 G = some (r, G')) (hK : (finV X) r G') : J X 1 118 [(0, .ref (X.B + l0))] [] G := by
  unfold fX7_command_118 at h
  refine j_aload_n ok dX7_command_118 rfl 0 rfl ?_
  obtain ⟨kq1, h⟩ := ck_some h
  obtain ⟨q1, hq1, h⟩ := obind h
  refine k_V0 ok kl_X7_229 ⟨Nat.le_of_ble_eq_true rfl, Nat.le_of_ble_eq_true rfl⟩ [] kq1 rfl rfl (Nat.le_of_ble_eq_true rfl) (tX7_go ok.fl X.V l0 G hq1) dX7_command_119 ?_
  obtain ⟨er, eG⟩ := inj2 h
  subst er; subst eG
  exact j_vret ok rfl dX7_command_122 hK

def fX7_command_98 (l0 : Nat) (s0 : Nat) (s1 : Int32) (G : Mem) : Option (Unit × Mem) :=
  ck G 17 s0 <| (fX7_wrong s0 s1 (6 : Int32) G).bind fun q1 =>
  (gF q1.2 17 l0 25).bind fun v2 =>
  if v2 = (0 : Int32) then
    ck q1.2 17 l0 <| (fX7_drops l0 q1.2).bind fun q4 =>
    (pI q4.2 17 l0 26 q4.1).bind fun G5 =>
    fX7_command_118 l0 G5
  else
    fX7_command_118 l0 q1.2

set_option maxRecDepth 100000 in
set_option maxHeartbeats 4000000 in
theorem jX7_command_98 {X : Cx} (ok : OK X cX7_command RX7 none 1 9 296) (l0 : Nat) (s0 : Nat) (s1 : Int32) (G : Mem) {r : Unit} {G' : Mem} (h : fX7_command_98 l0 s0 s1 G = some (r, G')) (hK : (finV X) r G') : J X 1 98 [(0, .ref (X.B + l0))] [.int s1, .ref (X.B + s0)] G := by
  unfold fX7_command_98 at h
  refine j_bipush (v := 6) ok dX7_command_98 (by decide) ?_
  obtain ⟨kq1, h⟩ := ck_some h
  obtain ⟨q1, hq1, h⟩ := obind h
  refine k_V0 ok kl_X7_222 ⟨Nat.le_of_ble_eq_true rfl, Nat.le_of_ble_eq_true rfl⟩ [.int s1, .int (6 : Int32)] kq1 rfl rfl (Nat.le_of_ble_eq_true rfl) (tX7_wrong ok.fl X.V s0 s1 (6 : Int32) G hq1) dX7_command_100 ?_
  refine j_aload_n ok dX7_command_103 rfl 0 rfl ?_
  obtain ⟨v2, hv2, h⟩ := obind h
  refine k_getI ok fl_X7_212 hv2 dX7_command_104 ?_
  rcases ite_some h with ⟨c3, h⟩ | ⟨c3, h⟩
  · refine j_if_ne (tgt := 118) ok dX7_command_107 (by decide) (fun z => absurd c3 z) (fun _ => ?_)
    refine j_aload_n ok dX7_command_110 rfl 0 rfl ?_
    refine j_aload_n ok dX7_command_111 rfl 0 rfl ?_
    obtain ⟨kq4, h⟩ := ck_some h
    obtain ⟨q4, hq4, h⟩ := obind h
    refine k_V1 ok kl_X7_304 ⟨Nat.le_of_ble_eq_true rfl, Nat.le_of_ble_eq_true rfl⟩ [] kq4 rfl rfl (Nat.le_of_ble_eq_true rfl) (tX7_drops ok.fl X.V l0 q1.2 hq4) dX7_command_112 ?_
    obtain ⟨G5, hG5, h⟩ := obind h
    refine k_putI ok fl_X7_286 fp_X7 rfl (Or.inl rfl) hG5 dX7_command_115 ?_
    exact J.sub [0] rfl (jX7_command_118 ok l0 G5 h hK)
  · refine j_if_ne (tgt := 118) ok dX7_command_107 (by decide) (fun _ => ?_) (fun z => absurd z c3)
    exact J.sub [0] rfl (jX7_command_118 ok l0 q1.2 h hK)

def fX7_command_97 (l0 : Nat) (s0 : Nat) (G : Mem) : Option (Unit × Mem) :=
  fX7_command_98 l0 s0 (0 : Int32) G

set_option maxRecDepth 100000 in
set_option maxHeartbeats 4000000 in
theorem jX7_command_97 {X : Cx} (ok : OK X cX7_command RX7 none 1 9 296) (l0 : Nat) (s0 : Nat) (G : Mem) {r : Unit} {G' : Mem} (h : fX7_command_97 l0 s0 G = some (r, G')) (hK : (finV X) r G') : J X 1 97 [(0, .ref (X.B + l0))] [.ref (X.B + s0)] G := by
  unfold fX7_command_97 at h
  refine j_iconst (v := 0) ok dX7_command_97 (by decide) ?_
  exact J.sub [0] rfl (jX7_command_98 ok l0 s0 (0 : Int32) G h hK)

def fX7_command_72 (l0 : Nat) (s0 : Nat) (s1 : Int32) (G : Mem) : Option (Unit × Mem) :=
  ck G 17 s0 <| (fX7_wrong s0 s1 (1 : Int32) G).bind fun q1 =>
  (gF q1.2 17 l0 25).bind fun v2 =>
  if v2 = (0 : Int32) then
    (gR q1.2 17 l0 0).bind fun v4 =>
    (gA q1.2 1 v4 (2 : Int32)).bind fun v5 =>
    if v5 = (0 : Int32) then
      fX7_command_98 l0 l0 (1 : Int32) q1.2
    else
      fX7_command_97 l0 l0 q1.2
  else
    fX7_command_97 l0 l0 q1.2

set_option maxRecDepth 100000 in
set_option maxHeartbeats 4000000 in
theorem jX7_command_72 {X : Cx} (ok : OK X cX7_command RX7 none 1 9 296) (l0 : Nat) (s0 : Nat) (s1 : Int32) (G : Mem) {r : Unit} {G' : Mem} (h : fX7_command_72 l0 s0 s1 G = some (r, G')) (hK : (finV X) r G') : J X 1 72 [(0, .ref (X.B + l0))] [.int s1, .ref (X.B + s0)] G := by
  unfold fX7_command_72 at h
  refine j_iconst (v := 1) ok dX7_command_72 (by decide) ?_
  obtain ⟨kq1, h⟩ := ck_some h
  obtain ⟨q1, hq1, h⟩ := obind h
  refine k_V0 ok kl_X7_222 ⟨Nat.le_of_ble_eq_true rfl, Nat.le_of_ble_eq_true rfl⟩ [.int s1, .int (1 : Int32)] kq1 rfl rfl (Nat.le_of_ble_eq_true rfl) (tX7_wrong ok.fl X.V s0 s1 (1 : Int32) G hq1) dX7_command_73 ?_
  refine j_aload_n ok dX7_command_76 rfl 0 rfl ?_
  refine j_aload_n ok dX7_command_77 rfl 0 rfl ?_
  obtain ⟨v2, hv2, h⟩ := obind h
  refine k_getI ok fl_X7_212 hv2 dX7_command_78 ?_
  rcases ite_some h with ⟨c3, h⟩ | ⟨c3, h⟩
  · refine j_if_ne (tgt := 97) ok dX7_command_81 (by decide) (fun z => absurd c3 z) (fun _ => ?_)
    refine j_aload_n ok dX7_command_84 rfl 0 rfl ?_
    obtain ⟨v4, hv4, h⟩ := obind h
    refine k_getR ok fl_X7_9 hv4 dX7_command_85 ?_
    refine j_iconst (v := 2) ok dX7_command_88 (by decide) ?_
    obtain ⟨v5, hv5, h⟩ := obind h
    refine j_iald ok hv5 dX7_command_89 ?_
    rcases ite_some h with ⟨c6, h⟩ | ⟨c6, h⟩
    · refine j_if_ne (tgt := 97) ok dX7_command_90 (by decide) (fun z => absurd c6 z) (fun _ => ?_)
      refine j_iconst (v := 1) ok dX7_command_93 (by decide) ?_
      refine j_goto (tgt := 98) ok dX7_command_94 (by decide) ?_
      exact J.sub [0] rfl (jX7_command_98 ok l0 l0 (1 : Int32) q1.2 h hK)
    · refine j_if_ne (tgt := 97) ok dX7_command_90 (by decide) (fun _ => ?_) (fun z => absurd z c6)
      exact J.sub [0] rfl (jX7_command_97 ok l0 l0 q1.2 h hK)
  · refine j_if_ne (tgt := 97) ok dX7_command_81 (by decide) (fun _ => ?_) (fun z => absurd z c3)
    exact J.sub [0] rfl (jX7_command_97 ok l0 l0 q1.2 h hK)

def fX7_command_50 (l0 : Nat) (s0 : Nat) (s1 : Int32) (G : Mem) : Option (Unit × Mem) :=
  ck G 17 s0 <| (fX7_wrong s0 s1 (1 : Int32) G).bind fun q1 =>
  ck q1.2 17 l0 <| (fX7_go l0 q1.2).bind fun q2 =>
  (gF q2.2 17 l0 21).bind fun v3 =>
  if v3 = (3 : Int32) then
    fX7_command_72 l0 l0 (0 : Int32) q2.2
  else
    fX7_command_72 l0 l0 (1 : Int32) q2.2

set_option maxRecDepth 100000 in
set_option maxHeartbeats 4000000 in
theorem jX7_command_50 {X : Cx} (ok : OK X cX7_command RX7 none 1 9 296) (l0 : Nat) (s0 : Nat) (s1 : Int32) (G : Mem) {r : Unit} {G' : Mem} (h : fX7_command_50 l0 s0 s1 G = some (r, G')) (hK : (finV X) r G') : J X 1 50 [(0, .ref (X.B + l0))] [.int s1, .ref (X.B + s0)] G := by
  unfold fX7_command_50 at h
  refine j_iconst (v := 1) ok dX7_command_50 (by decide) ?_
  obtain ⟨kq1, h⟩ := ck_some h
  obtain ⟨q1, hq1, h⟩ := obind h
  refine k_V0 ok kl_X7_222 ⟨Nat.le_of_ble_eq_true rfl, Nat.le_of_ble_eq_true rfl⟩ [.int s1, .int (1 : Int32)] kq1 rfl rfl (Nat.le_of_ble_eq_true rfl) (tX7_wrong ok.fl X.V s0 s1 (1 : Int32) G hq1) dX7_command_51 ?_
  refine j_aload_n ok dX7_command_54 rfl 0 rfl ?_
  obtain ⟨kq2, h⟩ := ck_some h
  obtain ⟨q2, hq2, h⟩ := obind h
  refine k_V0 ok kl_X7_229 ⟨Nat.le_of_ble_eq_true rfl, Nat.le_of_ble_eq_true rfl⟩ [] kq2 rfl rfl (Nat.le_of_ble_eq_true rfl) (tX7_go ok.fl X.V l0 q1.2 hq2) dX7_command_55 ?_
  refine j_aload_n ok dX7_command_58 rfl 0 rfl ?_
  refine j_aload_n ok dX7_command_59 rfl 0 rfl ?_
  obtain ⟨v3, hv3, h⟩ := obind h
  refine k_getI ok fl_X7_196 hv3 dX7_command_60 ?_
  refine j_iconst (v := 3) ok dX7_command_63 (by decide) ?_
  rcases ite_some h with ⟨c4, h⟩ | ⟨c4, h⟩
  · refine j_icmp_eq (tgt := 71) ok dX7_command_64 (by decide) (fun _ => ?_) (fun z => absurd c4 z)
    refine j_iconst (v := 0) ok dX7_command_71 (by decide) ?_
    exact J.sub [0] rfl (jX7_command_72 ok l0 l0 (0 : Int32) q2.2 h hK)
  · refine j_icmp_eq (tgt := 71) ok dX7_command_64 (by decide) (fun z => absurd z c4) (fun _ => ?_)
    refine j_iconst (v := 1) ok dX7_command_67 (by decide) ?_
    refine j_goto (tgt := 72) ok dX7_command_68 (by decide) ?_
    exact J.sub [0] rfl (jX7_command_72 ok l0 l0 (1 : Int32) q2.2 h hK)

def fX7_command_0 (l0 : Nat)  (G : Mem) : Option (Unit × Mem) :=
  ck G 17 l0 <| (fX7_is l0 8 G).bind fun q1 =>
  if q1.1 = (0 : Int32) then
    ck q1.2 17 l0 <| (fX7_is l0 9 q1.2).bind fun q3 =>
    if q3.1 = (0 : Int32) then
      ck q3.2 17 l0 <| (fX7_is l0 10 q3.2).bind fun q5 =>
      if q5.1 = (0 : Int32) then
        fX7_command_50 l0 l0 (1 : Int32) q5.2
      else
        fX7_command_50 l0 l0 (0 : Int32) q5.2
    else
      ck q3.2 17 l0 <| (fX7_originTold l0 q3.2).bind fun q5 =>
      fX7_command_118 l0 q5.2
  else
    ck q1.2 17 l0 <| (fX7_noteTold l0 q1.2).bind fun q3 =>
    fX7_command_118 l0 q3.2

set_option maxRecDepth 100000 in
set_option maxHeartbeats 4000000 in
theorem jX7_command_0 {X : Cx} (ok : OK X cX7_command RX7 none 1 9 296) (l0 : Nat)  (G : Mem) {r : Unit} {G' : Mem} (h : fX7_command_0 l0 G = some (r, G')) (hK : (finV X) r G') : J X 1 0 [(0, .ref (X.B + l0))] [] G := by
  unfold fX7_command_0 at h
  refine j_aload_n ok dX7_command_0 rfl 0 rfl ?_
  refine k_strw ok st_X7_292 dX7_command_1 ?_
  obtain ⟨kq1, h⟩ := ck_some h
  obtain ⟨q1, hq1, h⟩ := obind h
  refine k_V1 ok kl_X7_237 ⟨Nat.le_of_ble_eq_true rfl, Nat.le_of_ble_eq_true rfl⟩ [.ref (X.V.sa 8)] kq1 rfl rfl (Nat.le_of_ble_eq_true rfl) (tX7_is ok.fl X.V l0 8 G hq1) dX7_command_4 ?_
  rcases ite_some h with ⟨c2, h⟩ | ⟨c2, h⟩
  · refine j_if_eq (tgt := 17) ok dX7_command_7 (by decide) (fun _ => ?_) (fun z => absurd c2 z)
    refine j_aload_n ok dX7_command_17 rfl 0 rfl ?_
    refine k_strw ok st_X7_297 dX7_command_18 ?_
    obtain ⟨kq3, h⟩ := ck_some h
    obtain ⟨q3, hq3, h⟩ := obind h
    refine k_V1 ok kl_X7_237 ⟨Nat.le_of_ble_eq_true rfl, Nat.le_of_ble_eq_true rfl⟩ [.ref (X.V.sa 9)] kq3 rfl rfl (Nat.le_of_ble_eq_true rfl) (tX7_is ok.fl X.V l0 9 q1.2 hq3) dX7_command_21 ?_
    rcases ite_some h with ⟨c4, h⟩ | ⟨c4, h⟩
    · refine j_if_eq (tgt := 34) ok dX7_command_24 (by decide) (fun _ => ?_) (fun z => absurd c4 z)
      refine j_aload_n ok dX7_command_34 rfl 0 rfl ?_
      refine j_aload_n ok dX7_command_35 rfl 0 rfl ?_
      refine k_strw ok st_X7_302 dX7_command_36 ?_
      obtain ⟨kq5, h⟩ := ck_some h
      obtain ⟨q5, hq5, h⟩ := obind h
      refine k_V1 ok kl_X7_237 ⟨Nat.le_of_ble_eq_true rfl, Nat.le_of_ble_eq_true rfl⟩ [.ref (X.V.sa 10)] kq5 rfl rfl (Nat.le_of_ble_eq_true rfl) (tX7_is ok.fl X.V l0 10 q3.2 hq5) dX7_command_39 ?_
      rcases ite_some h with ⟨c6, h⟩ | ⟨c6, h⟩
      · refine j_if_ne (tgt := 49) ok dX7_command_42 (by decide) (fun z => absurd c6 z) (fun _ => ?_)
        refine j_iconst (v := 1) ok dX7_command_45 (by decide) ?_
        refine j_goto (tgt := 50) ok dX7_command_46 (by decide) ?_
        exact J.sub [0] rfl (jX7_command_50 ok l0 l0 (1 : Int32) q5.2 h hK)
      · refine j_if_ne (tgt := 49) ok dX7_command_42 (by decide) (fun _ => ?_) (fun z => absurd z c6)
        refine j_iconst (v := 0) ok dX7_command_49 (by decide) ?_
        exact J.sub [0] rfl (jX7_command_50 ok l0 l0 (0 : Int32) q5.2 h hK)
    · refine j_if_eq (tgt := 34) ok dX7_command_24 (by decide) (fun z => absurd z c4) (fun _ => ?_)
      refine j_aload_n ok dX7_command_27 rfl 0 rfl ?_
      obtain ⟨kq5, h⟩ := ck_some h
      obtain ⟨q5, hq5, h⟩ := obind h
      refine k_V0 ok kl_X7_299 ⟨Nat.le_of_ble_eq_true rfl, Nat.le_of_ble_eq_true rfl⟩ [] kq5 rfl rfl (Nat.le_of_ble_eq_true rfl) (tX7_originTold ok.fl X.V l0 q3.2 hq5) dX7_command_28 ?_
      refine j_goto (tgt := 118) ok dX7_command_31 (by decide) ?_
      exact J.sub [0] rfl (jX7_command_118 ok l0 q5.2 h hK)
  · refine j_if_eq (tgt := 17) ok dX7_command_7 (by decide) (fun z => absurd z c2) (fun _ => ?_)
    refine j_aload_n ok dX7_command_10 rfl 0 rfl ?_
    obtain ⟨kq3, h⟩ := ck_some h
    obtain ⟨q3, hq3, h⟩ := obind h
    refine k_V0 ok kl_X7_294 ⟨Nat.le_of_ble_eq_true rfl, Nat.le_of_ble_eq_true rfl⟩ [] kq3 rfl rfl (Nat.le_of_ble_eq_true rfl) (tX7_noteTold ok.fl X.V l0 q1.2 hq3) dX7_command_11 ?_
    refine j_goto (tgt := 118) ok dX7_command_14 (by decide) ?_
    exact J.sub [0] rfl (jX7_command_118 ok l0 q3.2 h hK)

def fX7_command (l0 : Nat) (G : Mem) : Option (Unit × Mem) := fX7_command_0 l0 G
set_option maxRecDepth 100000 in
theorem tX7_command {l : Launch} (hfl : l.stackTraces = false) (V : Wd) (l0 : Nat) (G : Mem) {r : Unit} {G' : Mem} (h : fX7_command l0 G = some (r, G')) : Mx l yX7_command cX7_command 1 none 9 296 V [.ref (V.B + l0)] G (.inl none) G' :=
  mx_of (L := [(0, .ref (V.B + l0))]) hfl (by decide +kernel) (Nat.le_of_ble_eq_true rfl) rfl (fun X hl hV hin ok he => by
    subst hl; subst hV
    exact J.sub [0] rfl (jX7_command_0 ok l0 G h he))
def fX7_commands_79  (s0 : Int32) (G : Mem) : Option (Int32 × Mem) :=
  some (s0, G)

set_option maxRecDepth 100000 in
set_option maxHeartbeats 4000000 in
theorem jX7_commands_79 {X : Cx} (ok : OK X cX7_commands RX7 (some .int) 3 10 316)  (s0 : Int32) (G : Mem) {r : Int32} {G' : Mem} (h : fX7_commands_79 s0 G = some (r, G')) (hK : (finI X) r G') : J X 3 79 [] [.int s0] G := by
  unfold fX7_commands_79 at h
  obtain ⟨er, eG⟩ := inj2 h
  subst er; subst eG
  exact j_iret ok rfl dX7_commands_79 hK

def fX7_commands_67 (l0 : Nat) (l1 : Int32)  (G : Mem) : Option (Int32 × Mem) :=
  (gF G 17 l0 25).bind fun v1 =>
  if v1 = (0 : Int32) then
    fX7_commands_79 l1 G
  else
    fX7_commands_79 (-1 : Int32) G

set_option maxRecDepth 100000 in
set_option maxHeartbeats 4000000 in
theorem jX7_commands_67 {X : Cx} (ok : OK X cX7_commands RX7 (some .int) 3 10 316) (l0 : Nat) (l1 : Int32)  (G : Mem) {r : Int32} {G' : Mem} (h : fX7_commands_67 l0 l1 G = some (r, G')) (hK : (finI X) r G') : J X 3 67 [(0, .ref (X.B + l0)), (1, .int l1)] [] G := by
  unfold fX7_commands_67 at h
  refine j_aload_n ok dX7_commands_67 rfl 0 rfl ?_
  obtain ⟨v1, hv1, h⟩ := obind h
  refine k_getI ok fl_X7_212 hv1 dX7_commands_68 ?_
  rcases ite_some h with ⟨c2, h⟩ | ⟨c2, h⟩
  · refine j_if_eq (tgt := 78) ok dX7_commands_71 (by decide) (fun _ => ?_) (fun z => absurd c2 z)
    refine j_iload_n ok dX7_commands_78 rfl 1 rfl ?_
    exact J.sub [] rfl (jX7_commands_79 ok l1 G h hK)
  · refine j_if_eq (tgt := 78) ok dX7_commands_71 (by decide) (fun z => absurd z c2) (fun _ => ?_)
    refine j_iconst (v := -1) ok dX7_commands_74 (by decide) ?_
    refine j_goto (tgt := 79) ok dX7_commands_75 (by decide) ?_
    exact J.sub [] rfl (jX7_commands_79 ok (-1 : Int32) G h hK)

def fX7_commands_26 (l0 : Nat) (l1 : Int32)  (G : Mem) : Option (Int32 × Mem) :=
  (pI G 17 l0 9 (0 : Int32)).bind fun G1 =>
  (gF G1 17 l0 25).bind fun v2 =>
  if v2 = (0 : Int32) then
    (gR G1 17 l0 3).bind fun v4 =>
    ck G1 17 l0 <| (fX7_remember l0 v4 G1).bind fun q5 =>
    fX7_commands_67 l0 l1 q5.2
  else
    (gR G1 17 l0 3).bind fun v4 =>
    (gR G1 17 l0 0).bind fun v5 =>
    (fX7_copy v4 (0 : Int32) v5 (0 : Int32) G1).bind fun q6 =>
    ck q6.2 17 l0 <| (fX7_finds l0 q6.2).bind fun q7 =>
    fX7_commands_67 l0 l1 q7.2

set_option maxRecDepth 100000 in
set_option maxHeartbeats 4000000 in
theorem jX7_commands_26 {X : Cx} (ok : OK X cX7_commands RX7 (some .int) 3 10 316) (l0 : Nat) (l1 : Int32)  (G : Mem) {r : Int32} {G' : Mem} (h : fX7_commands_26 l0 l1 G = some (r, G')) (hK : (finI X) r G') : J X 3 26 [(0, .ref (X.B + l0)), (1, .int l1)] [] G := by
  unfold fX7_commands_26 at h
  refine j_aload_n ok dX7_commands_26 rfl 0 rfl ?_
  refine j_iconst (v := 0) ok dX7_commands_27 (by decide) ?_
  obtain ⟨G1, hG1, h⟩ := obind h
  refine k_putI ok fl_X7_73 fp_X7 rfl (Or.inl rfl) hG1 dX7_commands_28 ?_
  refine j_aload_n ok dX7_commands_31 rfl 0 rfl ?_
  obtain ⟨v2, hv2, h⟩ := obind h
  refine k_getI ok fl_X7_212 hv2 dX7_commands_32 ?_
  rcases ite_some h with ⟨c3, h⟩ | ⟨c3, h⟩
  · refine j_if_eq (tgt := 59) ok dX7_commands_35 (by decide) (fun _ => ?_) (fun z => absurd c3 z)
    refine j_aload_n ok dX7_commands_59 rfl 0 rfl ?_
    refine j_aload_n ok dX7_commands_60 rfl 0 rfl ?_
    obtain ⟨v4, hv4, h⟩ := obind h
    refine k_getR ok fl_X7_19 hv4 dX7_commands_61 ?_
    obtain ⟨kq5, h⟩ := ck_some h
    obtain ⟨q5, hq5, h⟩ := obind h
    refine k_V0 ok kl_X7_310 ⟨Nat.le_of_ble_eq_true rfl, Nat.le_of_ble_eq_true rfl⟩ [.ref (X.B + v4)] kq5 rfl rfl (Nat.le_of_ble_eq_true rfl) (tX7_remember ok.fl X.V l0 v4 G1 hq5) dX7_commands_64 ?_
    exact J.sub [0, 1] rfl (jX7_commands_67 ok l0 l1 q5.2 h hK)
  · refine j_if_eq (tgt := 59) ok dX7_commands_35 (by decide) (fun z => absurd z c3) (fun _ => ?_)
    refine j_aload_n ok dX7_commands_38 rfl 0 rfl ?_
    obtain ⟨v4, hv4, h⟩ := obind h
    refine k_getR ok fl_X7_19 hv4 dX7_commands_39 ?_
    refine j_iconst (v := 0) ok dX7_commands_42 (by decide) ?_
    refine j_aload_n ok dX7_commands_43 rfl 0 rfl ?_
    obtain ⟨v5, hv5, h⟩ := obind h
    refine k_getR ok fl_X7_9 hv5 dX7_commands_44 ?_
    refine j_iconst (v := 0) ok dX7_commands_47 (by decide) ?_
    obtain ⟨q6, hq6, h⟩ := obind h
    refine k_S0 ok kl_X7_95 ⟨Nat.le_of_ble_eq_true rfl, Nat.le_of_ble_eq_true rfl⟩ [.ref (X.B + v4), .int (0 : Int32), .ref (X.B + v5), .int (0 : Int32)] rfl rfl (Nat.le_of_ble_eq_true rfl) (tX7_copy ok.fl X.V v4 (0 : Int32) v5 (0 : Int32) G1 hq6) dX7_commands_48 ?_
    refine j_aload_n ok dX7_commands_51 rfl 0 rfl ?_
    obtain ⟨kq7, h⟩ := ck_some h
    obtain ⟨q7, hq7, h⟩ := obind h
    refine k_V1 ok kl_X7_174 ⟨Nat.le_of_ble_eq_true rfl, Nat.le_of_ble_eq_true rfl⟩ [] kq7 rfl rfl (Nat.le_of_ble_eq_true rfl) (tX7_finds ok.fl X.V l0 q6.2 hq7) dX7_commands_52 ?_
    refine j_istore_n (L' := [(2, .int q7.1), (0, .ref (X.B + l0)), (1, .int l1)]) ok dX7_commands_55 rfl (by decide) rfl ?_
    refine j_goto (tgt := 67) ok dX7_commands_56 (by decide) ?_
    exact J.sub [1, 2] rfl (jX7_commands_67 ok l0 l1 q7.2 h hK)

def fX7_commands_2 (l0 : Nat) (l1 : Int32)  (G : Mem) : Option (((Int32) ⊕ Int32) × Mem) :=
  (gF G 17 l0 25).bind fun v1 =>
  if v1 = (0 : Int32) then
    (gF G 17 l0 21).bind fun v3 =>
    if v3 = (0 : Int32) then
      liftE (fX7_commands_26 l0 l1 G)
    else
      ck G 17 l0 <| (fX7_command l0 G).bind fun q5 =>
      some (.inl ((l1 + (1 : Int32))), q5.2)
  else
    liftE (fX7_commands_26 l0 l1 G)

set_option maxRecDepth 100000 in
set_option maxHeartbeats 4000000 in
theorem jX7_commands_2 {X : Cx} (ok : OK X cX7_commands RX7 (some .int) 3 10 316) (l0 : Nat) (l1 : Int32)  (G : Mem) {r : ((Int32) ⊕ Int32)} {G' : Mem} (h : fX7_commands_2 l0 l1 G = some (r, G')) (hK : (finL X 3 2 (fun s : Int32 => [(0, .ref (X.B + l0)), (1, .int s)]) (finI X)) r G') : J X 3 2 [(0, .ref (X.B + l0)), (1, .int l1)] [] G := by
  unfold fX7_commands_2 at h
  refine j_aload_n ok dX7_commands_2 rfl 0 rfl ?_
  obtain ⟨v1, hv1, h⟩ := obind h
  refine k_getI ok fl_X7_212 hv1 dX7_commands_3 ?_
  rcases ite_some h with ⟨c2, h⟩ | ⟨c2, h⟩
  · refine j_if_ne (tgt := 26) ok dX7_commands_6 (by decide) (fun z => absurd c2 z) (fun _ => ?_)
    refine j_aload_n ok dX7_commands_9 rfl 0 rfl ?_
    obtain ⟨v3, hv3, h⟩ := obind h
    refine k_getI ok fl_X7_196 hv3 dX7_commands_10 ?_
    rcases ite_some h with ⟨c4, h⟩ | ⟨c4, h⟩
    · refine j_if_eq (tgt := 26) ok dX7_commands_13 (by decide) (fun _ => ?_) (fun z => absurd c4 z)
      obtain ⟨r1, e1, h1⟩ := lift_some h
      subst e1
      exact J.sub [0, 1] rfl (jX7_commands_26 ok l0 l1 G h1 hK)
    · refine j_if_eq (tgt := 26) ok dX7_commands_13 (by decide) (fun z => absurd z c4) (fun _ => ?_)
      refine j_aload_n ok dX7_commands_16 rfl 0 rfl ?_
      obtain ⟨kq5, h⟩ := ck_some h
      obtain ⟨q5, hq5, h⟩ := obind h
      refine k_V0 ok kl_X7_307 ⟨Nat.le_of_ble_eq_true rfl, Nat.le_of_ble_eq_true rfl⟩ [] kq5 rfl rfl (Nat.le_of_ble_eq_true rfl) (tX7_command ok.fl X.V l0 G hq5) dX7_commands_17 ?_
      refine j_iinc (L' := [(1, .int (l1 + (1 : Int32))), (0, .ref (X.B + l0))]) (v := (l1 + (1 : Int32))) ok dX7_commands_20 (q := 1) rfl rfl (by decide) rfl ?_
      refine j_goto (tgt := 2) ok dX7_commands_23 (by decide) ?_
      obtain ⟨er, eG⟩ := inj2 h
      subst er; subst eG
      have hJ : J X 3 2 [(0, .ref (X.B + l0)), (1, .int (l1 + (1 : Int32)))] [] q5.2 := hK
      exact J.sub [1, 0] rfl hJ
  · refine j_if_ne (tgt := 26) ok dX7_commands_6 (by decide) (fun _ => ?_) (fun z => absurd z c2)
    obtain ⟨r1, e1, h1⟩ := lift_some h
    subst e1
    exact J.sub [0, 1] rfl (jX7_commands_26 ok l0 l1 G h1 hK)

def fX7_commands_0 (l0 : Nat)  (G : Mem) : Option (Int32 × Mem) :=
  loopM (fun (s : Int32) G => fX7_commands_2 l0 s G) FU ((0 : Int32)) G

set_option maxRecDepth 100000 in
set_option maxHeartbeats 4000000 in
theorem jX7_commands_0 {X : Cx} (ok : OK X cX7_commands RX7 (some .int) 3 10 316) (l0 : Nat)  (G : Mem) {r : Int32} {G' : Mem} (h : fX7_commands_0 l0 G = some (r, G')) (hK : (finI X) r G') : J X 3 0 [(0, .ref (X.B + l0))] [] G := by
  unfold fX7_commands_0 at h
  refine j_iconst (v := 0) ok dX7_commands_0 (by decide) ?_
  refine j_istore_n (L' := [(1, .int (0 : Int32)), (0, .ref (X.B + l0))]) ok dX7_commands_1 rfl (by decide) rfl ?_
  have hJ : J X 3 2 [(0, .ref (X.B + l0)), (1, .int (0 : Int32))] [] G := j_loop (loc := fun s : Int32 => [(0, .ref (X.B + l0)), (1, .int s)]) (F := (finI X)) (fun s G r G' hb hk => jX7_commands_2 ok l0 s G hb hk) _ _ _ _ _ h hK
  exact J.sub [1, 0] rfl hJ

def fX7_commands (l0 : Nat) (G : Mem) : Option (Int32 × Mem) := fX7_commands_0 l0 G
set_option maxRecDepth 100000 in
theorem tX7_commands {l : Launch} (hfl : l.stackTraces = false) (V : Wd) (l0 : Nat) (G : Mem) {r : Int32} {G' : Mem} (h : fX7_commands l0 G = some (r, G')) : Mx l yX7_commands cX7_commands 3 (some .int) 10 316 V [.ref (V.B + l0)] G (.inl (some (.int r))) G' :=
  mx_of (L := [(0, .ref (V.B + l0))]) hfl (by decide +kernel) (Nat.le_of_ble_eq_true rfl) rfl (fun X hl hV hin ok he => by
    subst hl; subst hV
    exact J.sub [0] rfl (jX7_commands_0 ok l0 G h he))
def fX7_originOf_0 (l0 : Int32)  (G : Mem) : Option (Int32 × Mem) :=
  some (((l0 / (36 : Int32)) - (l0 / (36 : Int32)) / (36 : Int32) * (36 : Int32)), G)

set_option maxRecDepth 100000 in
set_option maxHeartbeats 4000000 in
theorem jX7_originOf_0 {X : Cx} (ok : OK X cX7_originOf RX7 (some .int) 1 0 0) (l0 : Int32)  (G : Mem) {r : Int32} {G' : Mem} (h : fX7_originOf_0 l0 G = some (r, G')) (hK : (finI X) r G') : J X 1 0 [(0, .int l0)] [] G := by
  unfold fX7_originOf_0 at h
  refine j_iload_n ok dX7_originOf_0 rfl 0 rfl ?_
  refine j_bipush (v := 36) ok dX7_originOf_1 (by decide) ?_
  refine j_idiv ok dX7_originOf_3 (by decide) ?_
  refine j_bipush (v := 36) ok dX7_originOf_4 (by decide) ?_
  refine j_irem ok dX7_originOf_6 (by decide) ?_
  obtain ⟨er, eG⟩ := inj2 h
  subst er; subst eG
  exact j_iret ok rfl dX7_originOf_7 hK

def fX7_originOf (l0 : Int32) (G : Mem) : Option (Int32 × Mem) := fX7_originOf_0 l0 G
set_option maxRecDepth 100000 in
theorem tX7_originOf {l : Launch} (hfl : l.stackTraces = false) (V : Wd) (l0 : Int32) (G : Mem) {r : Int32} {G' : Mem} (h : fX7_originOf l0 G = some (r, G')) : Mx l yX7_originOf cX7_originOf 1 (some .int) 0 0 V [.int l0] G (.inl (some (.int r))) G' :=
  mx_of (L := [(0, .int l0)]) hfl (by decide +kernel) (Nat.le_of_ble_eq_true rfl) rfl (fun X hl hV hin ok he => by
    subst hl; subst hV
    exact J.sub [0] rfl (jX7_originOf_0 ok l0 G h he))
def fX7_targetOf_0 (l0 : Int32)  (G : Mem) : Option (Int32 × Mem) :=
  some ((l0 - l0 / (36 : Int32) * (36 : Int32)), G)

set_option maxRecDepth 100000 in
set_option maxHeartbeats 4000000 in
theorem jX7_targetOf_0 {X : Cx} (ok : OK X cX7_targetOf RX7 (some .int) 1 0 0) (l0 : Int32)  (G : Mem) {r : Int32} {G' : Mem} (h : fX7_targetOf_0 l0 G = some (r, G')) (hK : (finI X) r G') : J X 1 0 [(0, .int l0)] [] G := by
  unfold fX7_targetOf_0 at h
  refine j_iload_n ok dX7_targetOf_0 rfl 0 rfl ?_
  refine j_bipush (v := 36) ok dX7_targetOf_1 (by decide) ?_
  refine j_irem ok dX7_targetOf_3 (by decide) ?_
  obtain ⟨er, eG⟩ := inj2 h
  subst er; subst eG
  exact j_iret ok rfl dX7_targetOf_4 hK

def fX7_targetOf (l0 : Int32) (G : Mem) : Option (Int32 × Mem) := fX7_targetOf_0 l0 G
set_option maxRecDepth 100000 in
theorem tX7_targetOf {l : Launch} (hfl : l.stackTraces = false) (V : Wd) (l0 : Int32) (G : Mem) {r : Int32} {G' : Mem} (h : fX7_targetOf l0 G = some (r, G')) : Mx l yX7_targetOf cX7_targetOf 1 (some .int) 0 0 V [.int l0] G (.inl (some (.int r))) G' :=
  mx_of (L := [(0, .int l0)]) hfl (by decide +kernel) (Nat.le_of_ble_eq_true rfl) rfl (fun X hl hV hin ok he => by
    subst hl; subst hV
    exact J.sub [0] rfl (jX7_targetOf_0 ok l0 G h he))
def fX7_over_0 (l0 : Nat) (l1 : Int32) (l2 : Int32)  (G : Mem) : Option (Int64 × Mem) :=
  (gR G 17 l0 18).bind fun v1 =>
  (fX7_fromOf l2 G).bind fun q2 =>
  (gJ q2.2 v1 ((l1 * (40 : Int32)) + q2.1)).bind fun v3 =>
  (gR q2.2 17 l0 19).bind fun v4 =>
  (fX7_toOf l2 q2.2).bind fun q5 =>
  (gJ q5.2 v4 (((l1 + (1 : Int32)) * (40 : Int32)) + q5.1)).bind fun v6 =>
  some ((v3 * v6), q5.2)

set_option maxRecDepth 100000 in
set_option maxHeartbeats 4000000 in
theorem jX7_over_0 {X : Cx} (ok : OK X cX7_over RX7 (some .long) 3 1 20) (l0 : Nat) (l1 : Int32) (l2 : Int32)  (G : Mem) {r : Int64} {G' : Mem} (h : fX7_over_0 l0 l1 l2 G = some (r, G')) (hK : (finJ X) r G') : J X 3 0 [(0, .ref (X.B + l0)), (1, .int l1), (2, .int l2)] [] G := by
  unfold fX7_over_0 at h
  refine j_aload_n ok dX7_over_0 rfl 0 rfl ?_
  obtain ⟨v1, hv1, h⟩ := obind h
  refine k_getR ok fl_X7_51 hv1 dX7_over_1 ?_
  refine j_iload_n ok dX7_over_4 rfl 1 rfl ?_
  refine j_bipush (v := 40) ok dX7_over_5 (by decide) ?_
  refine j_imul ok dX7_over_7 ?_
  refine j_iload_n ok dX7_over_8 rfl 2 rfl ?_
  obtain ⟨q2, hq2, h⟩ := obind h
  refine k_S1 ok kl_X7_161 ⟨Nat.le_of_ble_eq_true rfl, Nat.le_of_ble_eq_true rfl⟩ [.int l2] rfl rfl (Nat.le_of_ble_eq_true rfl) (tX7_fromOf ok.fl X.V l2 G hq2) dX7_over_9 ?_
  refine j_iadd ok dX7_over_12 ?_
  obtain ⟨v3, hv3, h⟩ := obind h
  refine j_lald ok hv3 dX7_over_13 ?_
  refine j_aload_n ok dX7_over_14 rfl 0 rfl ?_
  obtain ⟨v4, hv4, h⟩ := obind h
  refine k_getR ok fl_X7_55 hv4 dX7_over_15 ?_
  refine j_iload_n ok dX7_over_18 rfl 1 rfl ?_
  refine j_iconst (v := 1) ok dX7_over_19 (by decide) ?_
  refine j_iadd ok dX7_over_20 ?_
  refine j_bipush (v := 40) ok dX7_over_21 (by decide) ?_
  refine j_imul ok dX7_over_23 ?_
  refine j_iload_n ok dX7_over_24 rfl 2 rfl ?_
  obtain ⟨q5, hq5, h⟩ := obind h
  refine k_S1 ok kl_X7_164 ⟨Nat.le_of_ble_eq_true rfl, Nat.le_of_ble_eq_true rfl⟩ [.int l2] rfl rfl (Nat.le_of_ble_eq_true rfl) (tX7_toOf ok.fl X.V l2 q2.2 hq5) dX7_over_25 ?_
  refine j_iadd ok dX7_over_28 ?_
  obtain ⟨v6, hv6, h⟩ := obind h
  refine j_lald ok hv6 dX7_over_29 ?_
  refine j_lmul ok dX7_over_30 ?_
  obtain ⟨er, eG⟩ := inj2 h
  subst er; subst eG
  exact j_lret ok rfl dX7_over_31 hK

def fX7_over (l0 : Nat) (l1 : Int32) (l2 : Int32) (G : Mem) : Option (Int64 × Mem) := fX7_over_0 l0 l1 l2 G
set_option maxRecDepth 100000 in
theorem tX7_over {l : Launch} (hfl : l.stackTraces = false) (V : Wd) (l0 : Nat) (l1 : Int32) (l2 : Int32) (G : Mem) {r : Int64} {G' : Mem} (h : fX7_over l0 l1 l2 G = some (r, G')) : Mx l yX7_over cX7_over 3 (some .long) 1 20 V [.ref (V.B + l0), .int l1, .int l2] G (.inl (some (.long r))) G' :=
  mx_of (L := [(0, .ref (V.B + l0)), (1, .int l1), (2, .int l2)]) hfl (by decide +kernel) (Nat.le_of_ble_eq_true rfl) rfl (fun X hl hV hin ok he => by
    subst hl; subst hV
    exact J.sub [0, 1, 2] rfl (jX7_over_0 ok l0 l1 l2 G h he))
def fX7_marks_108 (l2 : Int32)  (G : Mem) : Option (Int32 × Mem) :=
  some (l2, G)

set_option maxRecDepth 100000 in
set_option maxHeartbeats 4000000 in
theorem jX7_marks_108 {X : Cx} (ok : OK X cX7_marks RX7 (some .int) 6 2 42) (l2 : Int32)  (G : Mem) {r : Int32} {G' : Mem} (h : fX7_marks_108 l2 G = some (r, G')) (hK : (finI X) r G') : J X 6 108 [(2, .int l2)] [] G := by
  unfold fX7_marks_108 at h
  refine j_iload_n ok dX7_marks_108 rfl 0 rfl ?_
  obtain ⟨er, eG⟩ := inj2 h
  subst er; subst eG
  exact j_iret ok rfl dX7_marks_109 hK

def fX7_marks_102 (l0 : Nat) (l1 : Int32) (l2 : Int32) (l3 : Int32)  (G : Mem) : Option (((Int32 × Int32) ⊕ Int32) × Mem) :=
  some (.inl (l2, (l3 + (1 : Int32))), G)

set_option maxRecDepth 100000 in
set_option maxHeartbeats 4000000 in
theorem jX7_marks_102 {X : Cx} (ok : OK X cX7_marks RX7 (some .int) 6 2 42) (l0 : Nat) (l1 : Int32) (l2 : Int32) (l3 : Int32)  (G : Mem) {r : ((Int32 × Int32) ⊕ Int32)} {G' : Mem} (h : fX7_marks_102 l0 l1 l2 l3 G = some (r, G')) (hK : (finL X 6 26 (fun s : Int32 × Int32 => [(0, .ref (X.B + l0)), (1, .int l1), (2, .int s.1), (3, .int s.2)]) (finI X)) r G') : J X 6 102 [(0, .ref (X.B + l0)), (1, .int l1), (2, .int l2), (3, .int l3)] [] G := by
  unfold fX7_marks_102 at h
  refine j_iinc (L' := [(3, .int (l3 + (1 : Int32))), (0, .ref (X.B + l0)), (1, .int l1), (2, .int l2)]) (v := (l3 + (1 : Int32))) ok dX7_marks_102 (q := 3) rfl rfl (by decide) rfl ?_
  refine j_goto (tgt := 26) ok dX7_marks_105 (by decide) ?_
  obtain ⟨er, eG⟩ := inj2 h
  subst er; subst eG
  have hJ : J X 6 26 [(0, .ref (X.B + l0)), (1, .int l1), (2, .int l2), (3, .int (l3 + (1 : Int32)))] [] G := hK
  exact J.sub [1, 2, 3, 0] rfl hJ

def fX7_marks_26 (l0 : Nat) (l1 : Int32) (l2 : Int32) (l3 : Int32)  (G : Mem) : Option (((Int32 × Int32) ⊕ Int32) × Mem) :=
  (gR G 17 l0 16).bind fun v1 =>
  (gA G 1 v1 l1).bind fun v2 =>
  if v2 ≤ l3 then
    liftE (fX7_marks_108 l2 G)
  else
    (gR G 17 l0 15).bind fun v4 =>
    (gA G 1 v4 ((l1 * (1600 : Int32)) + l3)).bind fun v5 =>
    (fX7_originOf v5 G).bind fun q6 =>
    (fX7_targetOf v5 q6.2).bind fun q7 =>
    ck q7.2 17 l0 <| (fX7_over l0 l1 v5 q7.2).bind fun q8 =>
    if (lg_cmp q8.1 (0 : Int64)) = (0 : Int32) then
      fX7_marks_102 l0 l1 l2 l3 q8.2
    else
      (gR q8.2 17 l0 20).bind fun v10 =>
      (gA q8.2 3 v10 ((q6.1 * (36 : Int32)) + q7.1)).bind fun v11 =>
      if v11 = (0 : Int32) then
        (gR q8.2 17 l0 20).bind fun v13 =>
        (pT q8.2 v13 ((q6.1 * (36 : Int32)) + q7.1) (1 : Int32)).bind fun G14 =>
        fX7_marks_102 l0 l1 (l2 + (1 : Int32)) l3 G14
      else
        fX7_marks_102 l0 l1 l2 l3 q8.2

set_option maxRecDepth 100000 in
set_option maxHeartbeats 4000000 in
theorem jX7_marks_26 {X : Cx} (ok : OK X cX7_marks RX7 (some .int) 6 2 42) (l0 : Nat) (l1 : Int32) (l2 : Int32) (l3 : Int32)  (G : Mem) {r : ((Int32 × Int32) ⊕ Int32)} {G' : Mem} (h : fX7_marks_26 l0 l1 l2 l3 G = some (r, G')) (hK : (finL X 6 26 (fun s : Int32 × Int32 => [(0, .ref (X.B + l0)), (1, .int l1), (2, .int s.1), (3, .int s.2)]) (finI X)) r G') : J X 6 26 [(0, .ref (X.B + l0)), (1, .int l1), (2, .int l2), (3, .int l3)] [] G := by
  unfold fX7_marks_26 at h
  refine j_iload_n ok dX7_marks_26 rfl 3 rfl ?_
  refine j_aload_n ok dX7_marks_27 rfl 0 rfl ?_
  obtain ⟨v1, hv1, h⟩ := obind h
  refine k_getR ok fl_X7_45 hv1 dX7_marks_28 ?_
  refine j_iload_n ok dX7_marks_31 rfl 1 rfl ?_
  obtain ⟨v2, hv2, h⟩ := obind h
  refine j_iald ok hv2 dX7_marks_32 ?_
  rcases ite_some h with ⟨c3, h⟩ | ⟨c3, h⟩
  · refine j_icmp_ge (tgt := 108) ok dX7_marks_33 (by decide) (fun _ => ?_) (fun z => absurd c3 z)
    obtain ⟨r1, e1, h1⟩ := lift_some h
    subst e1
    exact J.sub [2] rfl (jX7_marks_108 ok l2 G h1 hK)
  · refine j_icmp_ge (tgt := 108) ok dX7_marks_33 (by decide) (fun z => absurd z c3) (fun _ => ?_)
    refine j_aload_n ok dX7_marks_36 rfl 0 rfl ?_
    obtain ⟨v4, hv4, h⟩ := obind h
    refine k_getR ok fl_X7_42 hv4 dX7_marks_37 ?_
    refine j_iload_n ok dX7_marks_40 rfl 1 rfl ?_
    refine j_sipush (v := 1600) ok dX7_marks_41 (by decide) ?_
    refine j_imul ok dX7_marks_44 ?_
    refine j_iload_n ok dX7_marks_45 rfl 3 rfl ?_
    refine j_iadd ok dX7_marks_46 ?_
    obtain ⟨v5, hv5, h⟩ := obind h
    refine j_iald ok hv5 dX7_marks_47 ?_
    refine j_istore (L' := [(4, .int v5), (0, .ref (X.B + l0)), (1, .int l1), (2, .int l2), (3, .int l3)]) ok dX7_marks_48 (by decide) rfl ?_
    refine j_iload ok dX7_marks_50 0 rfl ?_
    obtain ⟨q6, hq6, h⟩ := obind h
    refine k_S1 ok kl_X7_365 ⟨Nat.le_of_ble_eq_true rfl, Nat.le_of_ble_eq_true rfl⟩ [.int v5] rfl rfl (Nat.le_of_ble_eq_true rfl) (tX7_originOf ok.fl X.V v5 G hq6) dX7_marks_52 ?_
    refine j_bipush (v := 36) ok dX7_marks_55 (by decide) ?_
    refine j_imul ok dX7_marks_57 ?_
    refine j_iload ok dX7_marks_58 0 rfl ?_
    obtain ⟨q7, hq7, h⟩ := obind h
    refine k_S1 ok kl_X7_368 ⟨Nat.le_of_ble_eq_true rfl, Nat.le_of_ble_eq_true rfl⟩ [.int v5] rfl rfl (Nat.le_of_ble_eq_true rfl) (tX7_targetOf ok.fl X.V v5 q6.2 hq7) dX7_marks_60 ?_
    refine j_iadd ok dX7_marks_63 ?_
    refine j_istore (L' := [(5, .int ((q6.1 * (36 : Int32)) + q7.1)), (4, .int v5), (0, .ref (X.B + l0)), (1, .int l1), (2, .int l2), (3, .int l3)]) ok dX7_marks_64 (by decide) rfl ?_
    refine j_aload_n ok dX7_marks_66 rfl 2 rfl ?_
    refine j_iload_n ok dX7_marks_67 rfl 3 rfl ?_
    refine j_iload ok dX7_marks_68 1 rfl ?_
    obtain ⟨kq8, h⟩ := ck_some h
    obtain ⟨q8, hq8, h⟩ := obind h
    refine k_V1 ok kl_X7_371 ⟨Nat.le_of_ble_eq_true rfl, Nat.le_of_ble_eq_true rfl⟩ [.int l1, .int v5] kq8 rfl rfl (Nat.le_of_ble_eq_true rfl) (tX7_over ok.fl X.V l0 l1 v5 q7.2 hq8) dX7_marks_70 ?_
    refine j_lconst (v := 0) ok dX7_marks_73 (by decide) ?_
    refine j_lcmp ok dX7_marks_74 ?_
    rcases ite_some h with ⟨c9, h⟩ | ⟨c9, h⟩
    · refine j_if_eq (tgt := 102) ok dX7_marks_75 (by decide) (fun _ => ?_) (fun z => absurd c9 z)
      exact J.sub [2, 3, 4, 5] rfl (jX7_marks_102 ok l0 l1 l2 l3 q8.2 h hK)
    · refine j_if_eq (tgt := 102) ok dX7_marks_75 (by decide) (fun z => absurd z c9) (fun _ => ?_)
      refine j_aload_n ok dX7_marks_78 rfl 2 rfl ?_
      obtain ⟨v10, hv10, h⟩ := obind h
      refine k_getR ok fl_X7_58 hv10 dX7_marks_79 ?_
      refine j_iload ok dX7_marks_82 0 rfl ?_
      obtain ⟨v11, hv11, h⟩ := obind h
      refine j_zald ok hv11 dX7_marks_84 ?_
      rcases ite_some h with ⟨c12, h⟩ | ⟨c12, h⟩
      · refine j_if_eq (tgt := 91) ok dX7_marks_85 (by decide) (fun _ => ?_) (fun z => absurd c12 z)
        refine j_aload_n ok dX7_marks_91 rfl 2 rfl ?_
        obtain ⟨v13, hv13, h⟩ := obind h
        refine k_getR ok fl_X7_58 hv13 dX7_marks_92 ?_
        refine j_iload ok dX7_marks_95 0 rfl ?_
        refine j_iconst (v := 1) ok dX7_marks_97 (by decide) ?_
        obtain ⟨G14, hG14, h⟩ := obind h
        refine j_zast ok hG14 dX7_marks_98 ?_
        refine j_iinc (L' := [(2, .int (l2 + (1 : Int32))), (5, .int ((q6.1 * (36 : Int32)) + q7.1)), (4, .int v5), (0, .ref (X.B + l0)), (1, .int l1), (3, .int l3)]) (v := (l2 + (1 : Int32))) ok dX7_marks_99 (q := 4) rfl rfl (by decide) rfl ?_
        exact J.sub [3, 4, 0, 5] rfl (jX7_marks_102 ok l0 l1 (l2 + (1 : Int32)) l3 G14 h hK)
      · refine j_if_eq (tgt := 91) ok dX7_marks_85 (by decide) (fun z => absurd z c12) (fun _ => ?_)
        refine j_goto (tgt := 102) ok dX7_marks_88 (by decide) ?_
        exact J.sub [2, 3, 4, 5] rfl (jX7_marks_102 ok l0 l1 l2 l3 q8.2 h hK)

def fX7_marks_22 (l0 : Nat) (l1 : Int32)  (G : Mem) : Option (Int32 × Mem) :=
  loopM (fun (s : Int32 × Int32) G => fX7_marks_26 l0 l1 s.1 s.2 G) FU ((0 : Int32), (0 : Int32)) G

set_option maxRecDepth 100000 in
set_option maxHeartbeats 4000000 in
theorem jX7_marks_22 {X : Cx} (ok : OK X cX7_marks RX7 (some .int) 6 2 42) (l0 : Nat) (l1 : Int32)  (G : Mem) {r : Int32} {G' : Mem} (h : fX7_marks_22 l0 l1 G = some (r, G')) (hK : (finI X) r G') : J X 6 22 [(0, .ref (X.B + l0)), (1, .int l1)] [] G := by
  unfold fX7_marks_22 at h
  refine j_iconst (v := 0) ok dX7_marks_22 (by decide) ?_
  refine j_istore_n (L' := [(2, .int (0 : Int32)), (0, .ref (X.B + l0)), (1, .int l1)]) ok dX7_marks_23 rfl (by decide) rfl ?_
  refine j_iconst (v := 0) ok dX7_marks_24 (by decide) ?_
  refine j_istore_n (L' := [(3, .int (0 : Int32)), (2, .int (0 : Int32)), (0, .ref (X.B + l0)), (1, .int l1)]) ok dX7_marks_25 rfl (by decide) rfl ?_
  have hJ : J X 6 26 [(0, .ref (X.B + l0)), (1, .int l1), (2, .int (0 : Int32)), (3, .int (0 : Int32))] [] G := j_loop (loc := fun s : Int32 × Int32 => [(0, .ref (X.B + l0)), (1, .int l1), (2, .int s.1), (3, .int s.2)]) (F := (finI X)) (fun s G r G' hb hk => jX7_marks_26 ok l0 l1 s.1 s.2 G hb hk) _ _ _ _ _ h hK
  exact J.sub [2, 3, 1, 0] rfl hJ

def fX7_marks_2 (l0 : Nat) (l1 : Int32) (l2 : Int32)  (G : Mem) : Option (((Int32) ⊕ Int32) × Mem) :=
  if (1296 : Int32) ≤ l2 then
    liftE (fX7_marks_22 l0 l1 G)
  else
    (gR G 17 l0 20).bind fun v2 =>
    (pT G v2 l2 (0 : Int32)).bind fun G3 =>
    some (.inl ((l2 + (1 : Int32))), G3)

set_option maxRecDepth 100000 in
set_option maxHeartbeats 4000000 in
theorem jX7_marks_2 {X : Cx} (ok : OK X cX7_marks RX7 (some .int) 6 2 42) (l0 : Nat) (l1 : Int32) (l2 : Int32)  (G : Mem) {r : ((Int32) ⊕ Int32)} {G' : Mem} (h : fX7_marks_2 l0 l1 l2 G = some (r, G')) (hK : (finL X 6 2 (fun s : Int32 => [(0, .ref (X.B + l0)), (1, .int l1), (2, .int s)]) (finI X)) r G') : J X 6 2 [(0, .ref (X.B + l0)), (1, .int l1), (2, .int l2)] [] G := by
  unfold fX7_marks_2 at h
  refine j_iload_n ok dX7_marks_2 rfl 2 rfl ?_
  refine j_sipush (v := 1296) ok dX7_marks_3 (by decide) ?_
  rcases ite_some h with ⟨c1, h⟩ | ⟨c1, h⟩
  · refine j_icmp_ge (tgt := 22) ok dX7_marks_6 (by decide) (fun _ => ?_) (fun z => absurd c1 z)
    obtain ⟨r1, e1, h1⟩ := lift_some h
    subst e1
    exact J.sub [0, 1] rfl (jX7_marks_22 ok l0 l1 G h1 hK)
  · refine j_icmp_ge (tgt := 22) ok dX7_marks_6 (by decide) (fun z => absurd z c1) (fun _ => ?_)
    refine j_aload_n ok dX7_marks_9 rfl 0 rfl ?_
    obtain ⟨v2, hv2, h⟩ := obind h
    refine k_getR ok fl_X7_58 hv2 dX7_marks_10 ?_
    refine j_iload_n ok dX7_marks_13 rfl 2 rfl ?_
    refine j_iconst (v := 0) ok dX7_marks_14 (by decide) ?_
    obtain ⟨G3, hG3, h⟩ := obind h
    refine j_zast ok hG3 dX7_marks_15 ?_
    refine j_iinc (L' := [(2, .int (l2 + (1 : Int32))), (0, .ref (X.B + l0)), (1, .int l1)]) (v := (l2 + (1 : Int32))) ok dX7_marks_16 (q := 2) rfl rfl (by decide) rfl ?_
    refine j_goto (tgt := 2) ok dX7_marks_19 (by decide) ?_
    obtain ⟨er, eG⟩ := inj2 h
    subst er; subst eG
    have hJ : J X 6 2 [(0, .ref (X.B + l0)), (1, .int l1), (2, .int (l2 + (1 : Int32)))] [] G3 := hK
    exact J.sub [1, 2, 0] rfl hJ

def fX7_marks_0 (l0 : Nat) (l1 : Int32)  (G : Mem) : Option (Int32 × Mem) :=
  loopM (fun (s : Int32) G => fX7_marks_2 l0 l1 s G) FU ((0 : Int32)) G

set_option maxRecDepth 100000 in
set_option maxHeartbeats 4000000 in
theorem jX7_marks_0 {X : Cx} (ok : OK X cX7_marks RX7 (some .int) 6 2 42) (l0 : Nat) (l1 : Int32)  (G : Mem) {r : Int32} {G' : Mem} (h : fX7_marks_0 l0 l1 G = some (r, G')) (hK : (finI X) r G') : J X 6 0 [(0, .ref (X.B + l0)), (1, .int l1)] [] G := by
  unfold fX7_marks_0 at h
  refine j_iconst (v := 0) ok dX7_marks_0 (by decide) ?_
  refine j_istore_n (L' := [(2, .int (0 : Int32)), (0, .ref (X.B + l0)), (1, .int l1)]) ok dX7_marks_1 rfl (by decide) rfl ?_
  have hJ : J X 6 2 [(0, .ref (X.B + l0)), (1, .int l1), (2, .int (0 : Int32))] [] G := j_loop (loc := fun s : Int32 => [(0, .ref (X.B + l0)), (1, .int l1), (2, .int s)]) (F := (finI X)) (fun s G r G' hb hk => jX7_marks_2 ok l0 l1 s G hb hk) _ _ _ _ _ h hK
  exact J.sub [1, 2, 0] rfl hJ

def fX7_marks (l0 : Nat) (l1 : Int32) (G : Mem) : Option (Int32 × Mem) := fX7_marks_0 l0 l1 G
set_option maxRecDepth 100000 in
theorem tX7_marks {l : Launch} (hfl : l.stackTraces = false) (V : Wd) (l0 : Nat) (l1 : Int32) (G : Mem) {r : Int32} {G' : Mem} (h : fX7_marks l0 l1 G = some (r, G')) : Mx l yX7_marks cX7_marks 6 (some .int) 2 42 V [.ref (V.B + l0), .int l1] G (.inl (some (.int r))) G' :=
  mx_of (L := [(0, .ref (V.B + l0)), (1, .int l1)]) hfl (by decide +kernel) (Nat.le_of_ble_eq_true rfl) rfl (fun X hl hV hin ok he => by
    subst hl; subst hV
    exact J.sub [0, 1] rfl (jX7_marks_0 ok l0 l1 G h he))
def fX7_doubt_23  (s0 : Int32) (G : Mem) : Option (Int32 × Mem) :=
  some (s0, G)

set_option maxRecDepth 100000 in
set_option maxHeartbeats 4000000 in
theorem jX7_doubt_23 {X : Cx} (ok : OK X cX7_doubt RX7 (some .int) 2 3 67)  (s0 : Int32) (G : Mem) {r : Int32} {G' : Mem} (h : fX7_doubt_23 s0 G = some (r, G')) (hK : (finI X) r G') : J X 2 23 [] [.int s0] G := by
  unfold fX7_doubt_23 at h
  obtain ⟨er, eG⟩ := inj2 h
  subst er; subst eG
  exact j_iret ok rfl dX7_doubt_23 hK

def fX7_doubt_0 (l0 : Nat) (l1 : Int32)  (G : Mem) : Option (Int32 × Mem) :=
  ck G 17 l0 <| (fX7_noNote l0 l1 G).bind fun q1 =>
  ck q1.2 17 l0 <| (fX7_fails l0 q1.1 (0 : Int32) (0 : Int32) q1.2).bind fun q2 =>
  if q2.1 = (0 : Int32) then
    ck q2.2 17 l0 <| (fX7_marks l0 l1 q2.2).bind fun q4 =>
    fX7_doubt_23 q4.1 q4.2
  else
    fX7_doubt_23 (0 : Int32) q2.2

set_option maxRecDepth 100000 in
set_option maxHeartbeats 4000000 in
theorem jX7_doubt_0 {X : Cx} (ok : OK X cX7_doubt RX7 (some .int) 2 3 67) (l0 : Nat) (l1 : Int32)  (G : Mem) {r : Int32} {G' : Mem} (h : fX7_doubt_0 l0 l1 G = some (r, G')) (hK : (finI X) r G') : J X 2 0 [(0, .ref (X.B + l0)), (1, .int l1)] [] G := by
  unfold fX7_doubt_0 at h
  refine j_aload_n ok dX7_doubt_0 rfl 0 rfl ?_
  refine j_aload_n ok dX7_doubt_1 rfl 0 rfl ?_
  refine j_iload_n ok dX7_doubt_2 rfl 1 rfl ?_
  obtain ⟨kq1, h⟩ := ck_some h
  obtain ⟨q1, hq1, h⟩ := obind h
  refine k_V1 ok kl_X7_337 ⟨Nat.le_of_ble_eq_true rfl, Nat.le_of_ble_eq_true rfl⟩ [.int l1] kq1 rfl rfl (Nat.le_of_ble_eq_true rfl) (tX7_noNote ok.fl X.V l0 l1 G hq1) dX7_doubt_3 ?_
  refine j_iconst (v := 0) ok dX7_doubt_6 (by decide) ?_
  refine j_iconst (v := 0) ok dX7_doubt_7 (by decide) ?_
  obtain ⟨kq2, h⟩ := ck_some h
  obtain ⟨q2, hq2, h⟩ := obind h
  refine k_V1 ok kl_X7_186 ⟨Nat.le_of_ble_eq_true rfl, Nat.le_of_ble_eq_true rfl⟩ [.int q1.1, .int (0 : Int32), .int (0 : Int32)] kq2 rfl rfl (Nat.le_of_ble_eq_true rfl) (tX7_fails ok.fl X.V l0 q1.1 (0 : Int32) (0 : Int32) q1.2 hq2) dX7_doubt_8 ?_
  rcases ite_some h with ⟨c3, h⟩ | ⟨c3, h⟩
  · refine j_if_eq (tgt := 18) ok dX7_doubt_11 (by decide) (fun _ => ?_) (fun z => absurd c3 z)
    refine j_aload_n ok dX7_doubt_18 rfl 0 rfl ?_
    refine j_iload_n ok dX7_doubt_19 rfl 1 rfl ?_
    obtain ⟨kq4, h⟩ := ck_some h
    obtain ⟨q4, hq4, h⟩ := obind h
    refine k_V1 ok kl_X7_375 ⟨Nat.le_of_ble_eq_true rfl, Nat.le_of_ble_eq_true rfl⟩ [.int l1] kq4 rfl rfl (Nat.le_of_ble_eq_true rfl) (tX7_marks ok.fl X.V l0 l1 q2.2 hq4) dX7_doubt_20 ?_
    exact J.sub [] rfl (jX7_doubt_23 ok q4.1 q4.2 h hK)
  · refine j_if_eq (tgt := 18) ok dX7_doubt_11 (by decide) (fun z => absurd z c3) (fun _ => ?_)
    refine j_iconst (v := 0) ok dX7_doubt_14 (by decide) ?_
    refine j_goto (tgt := 23) ok dX7_doubt_15 (by decide) ?_
    exact J.sub [] rfl (jX7_doubt_23 ok (0 : Int32) q2.2 h hK)

def fX7_doubt (l0 : Nat) (l1 : Int32) (G : Mem) : Option (Int32 × Mem) := fX7_doubt_0 l0 l1 G
set_option maxRecDepth 100000 in
theorem tX7_doubt {l : Launch} (hfl : l.stackTraces = false) (V : Wd) (l0 : Nat) (l1 : Int32) (G : Mem) {r : Int32} {G' : Mem} (h : fX7_doubt l0 l1 G = some (r, G')) : Mx l yX7_doubt cX7_doubt 2 (some .int) 3 67 V [.ref (V.B + l0), .int l1] G (.inl (some (.int r))) G' :=
  mx_of (L := [(0, .ref (V.B + l0)), (1, .int l1)]) hfl (by decide +kernel) (Nat.le_of_ble_eq_true rfl) rfl (fun X hl hV hin ok he => by
    subst hl; subst hV
    exact J.sub [0, 1] rfl (jX7_doubt_0 ok l0 l1 G h he))
def fX7_dropNote_15 (l0 : Nat) (s0 : Nat) (s1 : Int32) (G : Mem) : Option (Int32 × Mem) :=
  ck G 17 s0 <| (fX7_fails s0 s1 (0 : Int32) (0 : Int32) G).bind fun q1 =>
  if q1.1 = (0 : Int32) then
    (gR q1.2 17 l0 0).bind fun v3 =>
    ck q1.2 17 l0 <| (fX7_remember l0 v3 q1.2).bind fun q4 =>
    ck q4.2 17 l0 <| (fX7_drops l0 q4.2).bind fun q5 =>
    some (q5.1, q5.2)
  else
    some ((0 : Int32), q1.2)

set_option maxRecDepth 100000 in
set_option maxHeartbeats 4000000 in
theorem jX7_dropNote_15 {X : Cx} (ok : OK X cX7_dropNote RX7 (some .int) 1 3 164) (l0 : Nat) (s0 : Nat) (s1 : Int32) (G : Mem) {r : Int32} {G' : Mem} (h : fX7_dropNote_15 l0 s0 s1 G = some (r, G')) (hK : (finI X) r G') : J X 1 15 [(0, .ref (X.B + l0))] [.int s1, .ref (X.B + s0)] G := by
  unfold fX7_dropNote_15 at h
  refine j_iconst (v := 0) ok dX7_dropNote_15 (by decide) ?_
  refine j_iconst (v := 0) ok dX7_dropNote_16 (by decide) ?_
  obtain ⟨kq1, h⟩ := ck_some h
  obtain ⟨q1, hq1, h⟩ := obind h
  refine k_V1 ok kl_X7_186 ⟨Nat.le_of_ble_eq_true rfl, Nat.le_of_ble_eq_true rfl⟩ [.int s1, .int (0 : Int32), .int (0 : Int32)] kq1 rfl rfl (Nat.le_of_ble_eq_true rfl) (tX7_fails ok.fl X.V s0 s1 (0 : Int32) (0 : Int32) G hq1) dX7_dropNote_17 ?_
  rcases ite_some h with ⟨c2, h⟩ | ⟨c2, h⟩
  · refine j_if_eq (tgt := 25) ok dX7_dropNote_20 (by decide) (fun _ => ?_) (fun z => absurd c2 z)
    refine j_aload_n ok dX7_dropNote_25 rfl 0 rfl ?_
    refine j_aload_n ok dX7_dropNote_26 rfl 0 rfl ?_
    obtain ⟨v3, hv3, h⟩ := obind h
    refine k_getR ok fl_X7_9 hv3 dX7_dropNote_27 ?_
    obtain ⟨kq4, h⟩ := ck_some h
    obtain ⟨q4, hq4, h⟩ := obind h
    refine k_V0 ok kl_X7_310 ⟨Nat.le_of_ble_eq_true rfl, Nat.le_of_ble_eq_true rfl⟩ [.ref (X.B + v3)] kq4 rfl rfl (Nat.le_of_ble_eq_true rfl) (tX7_remember ok.fl X.V l0 v3 q1.2 hq4) dX7_dropNote_30 ?_
    refine j_aload_n ok dX7_dropNote_33 rfl 0 rfl ?_
    obtain ⟨kq5, h⟩ := ck_some h
    obtain ⟨q5, hq5, h⟩ := obind h
    refine k_V1 ok kl_X7_304 ⟨Nat.le_of_ble_eq_true rfl, Nat.le_of_ble_eq_true rfl⟩ [] kq5 rfl rfl (Nat.le_of_ble_eq_true rfl) (tX7_drops ok.fl X.V l0 q4.2 hq5) dX7_dropNote_34 ?_
    obtain ⟨er, eG⟩ := inj2 h
    subst er; subst eG
    exact j_iret ok rfl dX7_dropNote_37 hK
  · refine j_if_eq (tgt := 25) ok dX7_dropNote_20 (by decide) (fun z => absurd z c2) (fun _ => ?_)
    refine j_iconst (v := 0) ok dX7_dropNote_23 (by decide) ?_
    obtain ⟨er, eG⟩ := inj2 h
    subst er; subst eG
    exact j_iret ok rfl dX7_dropNote_24 hK

def fX7_dropNote_0 (l0 : Nat)  (G : Mem) : Option (Int32 × Mem) :=
  (gR G 17 l0 0).bind fun v1 =>
  (gA G 1 v1 (2 : Int32)).bind fun v2 =>
  if v2 = (0 : Int32) then
    fX7_dropNote_15 l0 l0 (1 : Int32) G
  else
    fX7_dropNote_15 l0 l0 (0 : Int32) G

set_option maxRecDepth 100000 in
set_option maxHeartbeats 4000000 in
theorem jX7_dropNote_0 {X : Cx} (ok : OK X cX7_dropNote RX7 (some .int) 1 3 164) (l0 : Nat)  (G : Mem) {r : Int32} {G' : Mem} (h : fX7_dropNote_0 l0 G = some (r, G')) (hK : (finI X) r G') : J X 1 0 [(0, .ref (X.B + l0))] [] G := by
  unfold fX7_dropNote_0 at h
  refine j_aload_n ok dX7_dropNote_0 rfl 0 rfl ?_
  refine j_aload_n ok dX7_dropNote_1 rfl 0 rfl ?_
  obtain ⟨v1, hv1, h⟩ := obind h
  refine k_getR ok fl_X7_9 hv1 dX7_dropNote_2 ?_
  refine j_iconst (v := 2) ok dX7_dropNote_5 (by decide) ?_
  obtain ⟨v2, hv2, h⟩ := obind h
  refine j_iald ok hv2 dX7_dropNote_6 ?_
  rcases ite_some h with ⟨c3, h⟩ | ⟨c3, h⟩
  · refine j_if_ne (tgt := 14) ok dX7_dropNote_7 (by decide) (fun z => absurd c3 z) (fun _ => ?_)
    refine j_iconst (v := 1) ok dX7_dropNote_10 (by decide) ?_
    refine j_goto (tgt := 15) ok dX7_dropNote_11 (by decide) ?_
    exact J.sub [0] rfl (jX7_dropNote_15 ok l0 l0 (1 : Int32) G h hK)
  · refine j_if_ne (tgt := 14) ok dX7_dropNote_7 (by decide) (fun _ => ?_) (fun z => absurd z c3)
    refine j_iconst (v := 0) ok dX7_dropNote_14 (by decide) ?_
    exact J.sub [0] rfl (jX7_dropNote_15 ok l0 l0 (0 : Int32) G h hK)

def fX7_dropNote (l0 : Nat) (G : Mem) : Option (Int32 × Mem) := fX7_dropNote_0 l0 G
set_option maxRecDepth 100000 in
theorem tX7_dropNote {l : Launch} (hfl : l.stackTraces = false) (V : Wd) (l0 : Nat) (G : Mem) {r : Int32} {G' : Mem} (h : fX7_dropNote l0 G = some (r, G')) : Mx l yX7_dropNote cX7_dropNote 1 (some .int) 3 164 V [.ref (V.B + l0)] G (.inl (some (.int r))) G' :=
  mx_of (L := [(0, .ref (V.B + l0))]) hfl (by decide +kernel) (Nat.le_of_ble_eq_true rfl) rfl (fun X hl hV hin ok he => by
    subst hl; subst hV
    exact J.sub [0] rfl (jX7_dropNote_0 ok l0 G h he))
def fX7_errorCode_0 (l0 : Nat)  (G : Mem) : Option (Int32 × Mem) :=
  (gF G 17 l0 11).bind fun v1 =>
  ck G 17 l0 <| (fX7_told l0 v1 G).bind fun q2 =>
  some (q2.1, q2.2)

set_option maxRecDepth 100000 in
set_option maxHeartbeats 4000000 in
theorem jX7_errorCode_0 {X : Cx} (ok : OK X cX7_errorCode RX7 (some .int) 1 1 21) (l0 : Nat)  (G : Mem) {r : Int32} {G' : Mem} (h : fX7_errorCode_0 l0 G = some (r, G')) (hK : (finI X) r G') : J X 1 0 [(0, .ref (X.B + l0))] [] G := by
  unfold fX7_errorCode_0 at h
  refine j_aload_n ok dX7_errorCode_0 rfl 0 rfl ?_
  refine j_aload_n ok dX7_errorCode_1 rfl 0 rfl ?_
  obtain ⟨v1, hv1, h⟩ := obind h
  refine k_getI ok fl_X7_216 hv1 dX7_errorCode_2 ?_
  obtain ⟨kq2, h⟩ := ck_some h
  obtain ⟨q2, hq2, h⟩ := obind h
  refine k_V1 ok kl_X7_327 ⟨Nat.le_of_ble_eq_true rfl, Nat.le_of_ble_eq_true rfl⟩ [.int v1] kq2 rfl rfl (Nat.le_of_ble_eq_true rfl) (tX7_told ok.fl X.V l0 v1 G hq2) dX7_errorCode_5 ?_
  obtain ⟨er, eG⟩ := inj2 h
  subst er; subst eG
  exact j_iret ok rfl dX7_errorCode_8 hK

def fX7_errorCode (l0 : Nat) (G : Mem) : Option (Int32 × Mem) := fX7_errorCode_0 l0 G
set_option maxRecDepth 100000 in
theorem tX7_errorCode {l : Launch} (hfl : l.stackTraces = false) (V : Wd) (l0 : Nat) (G : Mem) {r : Int32} {G' : Mem} (h : fX7_errorCode l0 G = some (r, G')) : Mx l yX7_errorCode cX7_errorCode 1 (some .int) 1 21 V [.ref (V.B + l0)] G (.inl (some (.int r))) G' :=
  mx_of (L := [(0, .ref (V.B + l0))]) hfl (by decide +kernel) (Nat.le_of_ble_eq_true rfl) rfl (fun X hl hV hin ok he => by
    subst hl; subst hV
    exact J.sub [0] rfl (jX7_errorCode_0 ok l0 G h he))
def fX7_errorOffset_0 (l0 : Nat)  (G : Mem) : Option (Int32 × Mem) :=
  (gF G 17 l0 12).bind fun v1 =>
  ck G 17 l0 <| (fX7_told l0 v1 G).bind fun q2 =>
  some (q2.1, q2.2)

set_option maxRecDepth 100000 in
set_option maxHeartbeats 4000000 in
theorem jX7_errorOffset_0 {X : Cx} (ok : OK X cX7_errorOffset RX7 (some .int) 1 1 21) (l0 : Nat)  (G : Mem) {r : Int32} {G' : Mem} (h : fX7_errorOffset_0 l0 G = some (r, G')) (hK : (finI X) r G') : J X 1 0 [(0, .ref (X.B + l0))] [] G := by
  unfold fX7_errorOffset_0 at h
  refine j_aload_n ok dX7_errorOffset_0 rfl 0 rfl ?_
  refine j_aload_n ok dX7_errorOffset_1 rfl 0 rfl ?_
  obtain ⟨v1, hv1, h⟩ := obind h
  refine k_getI ok fl_X7_32 hv1 dX7_errorOffset_2 ?_
  obtain ⟨kq2, h⟩ := ck_some h
  obtain ⟨q2, hq2, h⟩ := obind h
  refine k_V1 ok kl_X7_327 ⟨Nat.le_of_ble_eq_true rfl, Nat.le_of_ble_eq_true rfl⟩ [.int v1] kq2 rfl rfl (Nat.le_of_ble_eq_true rfl) (tX7_told ok.fl X.V l0 v1 G hq2) dX7_errorOffset_5 ?_
  obtain ⟨er, eG⟩ := inj2 h
  subst er; subst eG
  exact j_iret ok rfl dX7_errorOffset_8 hK

def fX7_errorOffset (l0 : Nat) (G : Mem) : Option (Int32 × Mem) := fX7_errorOffset_0 l0 G
set_option maxRecDepth 100000 in
theorem tX7_errorOffset {l : Launch} (hfl : l.stackTraces = false) (V : Wd) (l0 : Nat) (G : Mem) {r : Int32} {G' : Mem} (h : fX7_errorOffset l0 G = some (r, G')) : Mx l yX7_errorOffset cX7_errorOffset 1 (some .int) 1 21 V [.ref (V.B + l0)] G (.inl (some (.int r))) G' :=
  mx_of (L := [(0, .ref (V.B + l0))]) hfl (by decide +kernel) (Nat.le_of_ble_eq_true rfl) rfl (fun X hl hV hin ok he => by
    subst hl; subst hV
    exact J.sub [0] rfl (jX7_errorOffset_0 ok l0 G h he))
def fX7_games_44 (l1 : Int64)  (G : Mem) : Option (Int64 × Mem) :=
  some (l1, G)

set_option maxRecDepth 100000 in
set_option maxHeartbeats 4000000 in
theorem jX7_games_44 {X : Cx} (ok : OK X cX7_games RX7 (some .long) 4 0 0) (l1 : Int64)  (G : Mem) {r : Int64} {G' : Mem} (h : fX7_games_44 l1 G = some (r, G')) (hK : (finJ X) r G') : J X 4 44 [(1, .long l1)] [] G := by
  unfold fX7_games_44 at h
  refine j_lload_n ok dX7_games_44 rfl 0 rfl ?_
  obtain ⟨er, eG⟩ := inj2 h
  subst er; subst eG
  exact j_lret ok rfl dX7_games_45 hK

def fX7_games_4 (l0 : Nat) (l1 : Int64) (l3 : Int32)  (G : Mem) : Option (((Int64 × Int32) ⊕ Int64) × Mem) :=
  (gR G 17 l0 14).bind fun v1 =>
  (gR G 17 l0 0).bind fun v2 =>
  (gA G 1 v2 (2 : Int32)).bind fun v3 =>
  (gA G 1 v1 v3).bind fun v4 =>
  if v4 ≤ l3 then
    liftE (fX7_games_44 l1 G)
  else
    (gR G 17 l0 18).bind fun v6 =>
    (gR G 17 l0 0).bind fun v7 =>
    (gA G 1 v7 (2 : Int32)).bind fun v8 =>
    (gJ G v6 ((v8 * (40 : Int32)) + l3)).bind fun v9 =>
    some (.inl ((l1 + v9), (l3 + (1 : Int32))), G)

set_option maxRecDepth 100000 in
set_option maxHeartbeats 4000000 in
theorem jX7_games_4 {X : Cx} (ok : OK X cX7_games RX7 (some .long) 4 0 0) (l0 : Nat) (l1 : Int64) (l3 : Int32)  (G : Mem) {r : ((Int64 × Int32) ⊕ Int64)} {G' : Mem} (h : fX7_games_4 l0 l1 l3 G = some (r, G')) (hK : (finL X 4 4 (fun s : Int64 × Int32 => [(0, .ref (X.B + l0)), (1, .long s.1), (3, .int s.2)]) (finJ X)) r G') : J X 4 4 [(0, .ref (X.B + l0)), (1, .long l1), (3, .int l3)] [] G := by
  unfold fX7_games_4 at h
  refine j_iload_n ok dX7_games_4 rfl 2 rfl ?_
  refine j_aload_n ok dX7_games_5 rfl 0 rfl ?_
  obtain ⟨v1, hv1, h⟩ := obind h
  refine k_getR ok fl_X7_39 hv1 dX7_games_6 ?_
  refine j_aload_n ok dX7_games_9 rfl 0 rfl ?_
  obtain ⟨v2, hv2, h⟩ := obind h
  refine k_getR ok fl_X7_9 hv2 dX7_games_10 ?_
  refine j_iconst (v := 2) ok dX7_games_13 (by decide) ?_
  obtain ⟨v3, hv3, h⟩ := obind h
  refine j_iald ok hv3 dX7_games_14 ?_
  obtain ⟨v4, hv4, h⟩ := obind h
  refine j_iald ok hv4 dX7_games_15 ?_
  rcases ite_some h with ⟨c5, h⟩ | ⟨c5, h⟩
  · refine j_icmp_ge (tgt := 44) ok dX7_games_16 (by decide) (fun _ => ?_) (fun z => absurd c5 z)
    obtain ⟨r1, e1, h1⟩ := lift_some h
    subst e1
    exact J.sub [1] rfl (jX7_games_44 ok l1 G h1 hK)
  · refine j_icmp_ge (tgt := 44) ok dX7_games_16 (by decide) (fun z => absurd z c5) (fun _ => ?_)
    refine j_lload_n ok dX7_games_19 rfl 1 rfl ?_
    refine j_aload_n ok dX7_games_20 rfl 0 rfl ?_
    obtain ⟨v6, hv6, h⟩ := obind h
    refine k_getR ok fl_X7_51 hv6 dX7_games_21 ?_
    refine j_aload_n ok dX7_games_24 rfl 0 rfl ?_
    obtain ⟨v7, hv7, h⟩ := obind h
    refine k_getR ok fl_X7_9 hv7 dX7_games_25 ?_
    refine j_iconst (v := 2) ok dX7_games_28 (by decide) ?_
    obtain ⟨v8, hv8, h⟩ := obind h
    refine j_iald ok hv8 dX7_games_29 ?_
    refine j_bipush (v := 40) ok dX7_games_30 (by decide) ?_
    refine j_imul ok dX7_games_32 ?_
    refine j_iload_n ok dX7_games_33 rfl 2 rfl ?_
    refine j_iadd ok dX7_games_34 ?_
    obtain ⟨v9, hv9, h⟩ := obind h
    refine j_lald ok hv9 dX7_games_35 ?_
    refine j_ladd ok dX7_games_36 ?_
    refine j_lstore_n (L' := [(1, .long (l1 + v9)), (0, .ref (X.B + l0)), (3, .int l3)]) ok dX7_games_37 rfl (by decide) rfl ?_
    refine j_iinc (L' := [(3, .int (l3 + (1 : Int32))), (1, .long (l1 + v9)), (0, .ref (X.B + l0))]) (v := (l3 + (1 : Int32))) ok dX7_games_38 (q := 2) rfl rfl (by decide) rfl ?_
    refine j_goto (tgt := 4) ok dX7_games_41 (by decide) ?_
    obtain ⟨er, eG⟩ := inj2 h
    subst er; subst eG
    have hJ : J X 4 4 [(0, .ref (X.B + l0)), (1, .long (l1 + v9)), (3, .int (l3 + (1 : Int32)))] [] G := hK
    exact J.sub [2, 1, 0] rfl hJ

def fX7_games_0 (l0 : Nat)  (G : Mem) : Option (Int64 × Mem) :=
  loopM (fun (s : Int64 × Int32) G => fX7_games_4 l0 s.1 s.2 G) FU ((0 : Int64), (0 : Int32)) G

set_option maxRecDepth 100000 in
set_option maxHeartbeats 4000000 in
theorem jX7_games_0 {X : Cx} (ok : OK X cX7_games RX7 (some .long) 4 0 0) (l0 : Nat)  (G : Mem) {r : Int64} {G' : Mem} (h : fX7_games_0 l0 G = some (r, G')) (hK : (finJ X) r G') : J X 4 0 [(0, .ref (X.B + l0))] [] G := by
  unfold fX7_games_0 at h
  refine j_lconst (v := 0) ok dX7_games_0 (by decide) ?_
  refine j_lstore_n (L' := [(1, .long (0 : Int64)), (0, .ref (X.B + l0))]) ok dX7_games_1 rfl (by decide) rfl ?_
  refine j_iconst (v := 0) ok dX7_games_2 (by decide) ?_
  refine j_istore_n (L' := [(3, .int (0 : Int32)), (1, .long (0 : Int64)), (0, .ref (X.B + l0))]) ok dX7_games_3 rfl (by decide) rfl ?_
  have hJ : J X 4 4 [(0, .ref (X.B + l0)), (1, .long (0 : Int64)), (3, .int (0 : Int32))] [] G := j_loop (loc := fun s : Int64 × Int32 => [(0, .ref (X.B + l0)), (1, .long s.1), (3, .int s.2)]) (F := (finJ X)) (fun s G r G' hb hk => jX7_games_4 ok l0 s.1 s.2 G hb hk) _ _ _ _ _ h hK
  exact J.sub [2, 1, 0] rfl hJ

def fX7_games (l0 : Nat) (G : Mem) : Option (Int64 × Mem) := fX7_games_0 l0 G
set_option maxRecDepth 100000 in
theorem tX7_games {l : Launch} (hfl : l.stackTraces = false) (V : Wd) (l0 : Nat) (G : Mem) {r : Int64} {G' : Mem} (h : fX7_games l0 G = some (r, G')) : Mx l yX7_games cX7_games 4 (some .long) 0 0 V [.ref (V.B + l0)] G (.inl (some (.long r))) G' :=
  mx_of (L := [(0, .ref (V.B + l0))]) hfl (by decide +kernel) (Nat.le_of_ble_eq_true rfl) rfl (fun X hl hV hin ok he => by
    subst hl; subst hV
    exact J.sub [0] rfl (jX7_games_0 ok l0 G h he))
def fX7_gameCount_0 (l0 : Nat)  (G : Mem) : Option (Int64 × Mem) :=
  (pI G 17 l0 6 (0 : Int32)).bind fun G1 =>
  ck G1 17 l0 <| (fX7_games l0 G1).bind fun q2 =>
  some (q2.1, q2.2)

set_option maxRecDepth 100000 in
set_option maxHeartbeats 4000000 in
theorem jX7_gameCount_0 {X : Cx} (ok : OK X cX7_gameCount RX7 (some .long) 1 1 23) (l0 : Nat)  (G : Mem) {r : Int64} {G' : Mem} (h : fX7_gameCount_0 l0 G = some (r, G')) (hK : (finJ X) r G') : J X 1 0 [(0, .ref (X.B + l0))] [] G := by
  unfold fX7_gameCount_0 at h
  refine j_aload_n ok dX7_gameCount_0 rfl 0 rfl ?_
  refine j_iconst (v := 0) ok dX7_gameCount_1 (by decide) ?_
  obtain ⟨G1, hG1, h⟩ := obind h
  refine k_putI ok fl_X7_86 fp_X7 rfl (Or.inl rfl) hG1 dX7_gameCount_2 ?_
  refine j_aload_n ok dX7_gameCount_5 rfl 0 rfl ?_
  obtain ⟨kq2, h⟩ := ck_some h
  obtain ⟨q2, hq2, h⟩ := obind h
  refine k_V1 ok kl_X7_361 ⟨Nat.le_of_ble_eq_true rfl, Nat.le_of_ble_eq_true rfl⟩ [] kq2 rfl rfl (Nat.le_of_ble_eq_true rfl) (tX7_games ok.fl X.V l0 G1 hq2) dX7_gameCount_6 ?_
  obtain ⟨er, eG⟩ := inj2 h
  subst er; subst eG
  exact j_lret ok rfl dX7_gameCount_9 hK

def fX7_gameCount (l0 : Nat) (G : Mem) : Option (Int64 × Mem) := fX7_gameCount_0 l0 G
set_option maxRecDepth 100000 in
theorem tX7_gameCount {l : Launch} (hfl : l.stackTraces = false) (V : Wd) (l0 : Nat) (G : Mem) {r : Int64} {G' : Mem} (h : fX7_gameCount l0 G = some (r, G')) : Mx l yX7_gameCount cX7_gameCount 1 (some .long) 1 23 V [.ref (V.B + l0)] G (.inl (some (.long r))) G' :=
  mx_of (L := [(0, .ref (V.B + l0))]) hfl (by decide +kernel) (Nat.le_of_ble_eq_true rfl) rfl (fun X hl hV hin ok he => by
    subst hl; subst hV
    exact J.sub [0] rfl (jX7_gameCount_0 ok l0 G h he))
def fX7_gamesBy_65 (l3 : Int64)  (G : Mem) : Option (Int64 × Mem) :=
  some (l3, G)

set_option maxRecDepth 100000 in
set_option maxHeartbeats 4000000 in
theorem jX7_gamesBy_65 {X : Cx} (ok : OK X cX7_gamesBy RX7 (some .long) 7 2 42) (l3 : Int64)  (G : Mem) {r : Int64} {G' : Mem} (h : fX7_gamesBy_65 l3 G = some (r, G')) (hK : (finJ X) r G') : J X 7 65 [(3, .long l3)] [] G := by
  unfold fX7_gamesBy_65 at h
  refine j_lload_n ok dX7_gamesBy_65 rfl 0 rfl ?_
  obtain ⟨er, eG⟩ := inj2 h
  subst er; subst eG
  exact j_lret ok rfl dX7_gamesBy_66 hK

def fX7_gamesBy_59 (l0 : Nat) (l1 : Int32) (l2 : Int32) (l3 : Int64) (l5 : Int32)  (G : Mem) : Option (((Int64 × Int32) ⊕ Int64) × Mem) :=
  some (.inl (l3, (l5 + (1 : Int32))), G)

set_option maxRecDepth 100000 in
set_option maxHeartbeats 4000000 in
theorem jX7_gamesBy_59 {X : Cx} (ok : OK X cX7_gamesBy RX7 (some .long) 7 2 42) (l0 : Nat) (l1 : Int32) (l2 : Int32) (l3 : Int64) (l5 : Int32)  (G : Mem) {r : ((Int64 × Int32) ⊕ Int64)} {G' : Mem} (h : fX7_gamesBy_59 l0 l1 l2 l3 l5 G = some (r, G')) (hK : (finL X 7 5 (fun s : Int64 × Int32 => [(0, .ref (X.B + l0)), (1, .int l1), (2, .int l2), (3, .long s.1), (5, .int s.2)]) (finJ X)) r G') : J X 7 59 [(0, .ref (X.B + l0)), (1, .int l1), (2, .int l2), (3, .long l3), (5, .int l5)] [] G := by
  unfold fX7_gamesBy_59 at h
  refine j_iinc (L' := [(5, .int (l5 + (1 : Int32))), (0, .ref (X.B + l0)), (1, .int l1), (2, .int l2), (3, .long l3)]) (v := (l5 + (1 : Int32))) ok dX7_gamesBy_59 (q := 4) rfl rfl (by decide) rfl ?_
  refine j_goto (tgt := 5) ok dX7_gamesBy_62 (by decide) ?_
  obtain ⟨er, eG⟩ := inj2 h
  subst er; subst eG
  have hJ : J X 7 5 [(0, .ref (X.B + l0)), (1, .int l1), (2, .int l2), (3, .long l3), (5, .int (l5 + (1 : Int32)))] [] G := hK
  exact J.sub [1, 2, 3, 4, 0] rfl hJ

def fX7_gamesBy_5 (l0 : Nat) (l1 : Int32) (l2 : Int32) (l3 : Int64) (l5 : Int32)  (G : Mem) : Option (((Int64 × Int32) ⊕ Int64) × Mem) :=
  (gR G 17 l0 16).bind fun v1 =>
  (gA G 1 v1 l1).bind fun v2 =>
  if v2 ≤ l5 then
    liftE (fX7_gamesBy_65 l3 G)
  else
    (gR G 17 l0 15).bind fun v4 =>
    (gA G 1 v4 ((l1 * (1600 : Int32)) + l5)).bind fun v5 =>
    (fX7_originOf v5 G).bind fun q6 =>
    (fX7_targetOf v5 q6.2).bind fun q7 =>
    if ((q6.1 * (36 : Int32)) + q7.1) = l2 then
      ck q7.2 17 l0 <| (fX7_over l0 l1 v5 q7.2).bind fun q9 =>
      fX7_gamesBy_59 l0 l1 l2 (l3 + q9.1) l5 q9.2
    else
      fX7_gamesBy_59 l0 l1 l2 l3 l5 q7.2

set_option maxRecDepth 100000 in
set_option maxHeartbeats 4000000 in
theorem jX7_gamesBy_5 {X : Cx} (ok : OK X cX7_gamesBy RX7 (some .long) 7 2 42) (l0 : Nat) (l1 : Int32) (l2 : Int32) (l3 : Int64) (l5 : Int32)  (G : Mem) {r : ((Int64 × Int32) ⊕ Int64)} {G' : Mem} (h : fX7_gamesBy_5 l0 l1 l2 l3 l5 G = some (r, G')) (hK : (finL X 7 5 (fun s : Int64 × Int32 => [(0, .ref (X.B + l0)), (1, .int l1), (2, .int l2), (3, .long s.1), (5, .int s.2)]) (finJ X)) r G') : J X 7 5 [(0, .ref (X.B + l0)), (1, .int l1), (2, .int l2), (3, .long l3), (5, .int l5)] [] G := by
  unfold fX7_gamesBy_5 at h
  refine j_iload ok dX7_gamesBy_5 4 rfl ?_
  refine j_aload_n ok dX7_gamesBy_7 rfl 0 rfl ?_
  obtain ⟨v1, hv1, h⟩ := obind h
  refine k_getR ok fl_X7_45 hv1 dX7_gamesBy_8 ?_
  refine j_iload_n ok dX7_gamesBy_11 rfl 1 rfl ?_
  obtain ⟨v2, hv2, h⟩ := obind h
  refine j_iald ok hv2 dX7_gamesBy_12 ?_
  rcases ite_some h with ⟨c3, h⟩ | ⟨c3, h⟩
  · refine j_icmp_ge (tgt := 65) ok dX7_gamesBy_13 (by decide) (fun _ => ?_) (fun z => absurd c3 z)
    obtain ⟨r1, e1, h1⟩ := lift_some h
    subst e1
    exact J.sub [3] rfl (jX7_gamesBy_65 ok l3 G h1 hK)
  · refine j_icmp_ge (tgt := 65) ok dX7_gamesBy_13 (by decide) (fun z => absurd z c3) (fun _ => ?_)
    refine j_aload_n ok dX7_gamesBy_16 rfl 0 rfl ?_
    obtain ⟨v4, hv4, h⟩ := obind h
    refine k_getR ok fl_X7_42 hv4 dX7_gamesBy_17 ?_
    refine j_iload_n ok dX7_gamesBy_20 rfl 1 rfl ?_
    refine j_sipush (v := 1600) ok dX7_gamesBy_21 (by decide) ?_
    refine j_imul ok dX7_gamesBy_24 ?_
    refine j_iload ok dX7_gamesBy_25 4 rfl ?_
    refine j_iadd ok dX7_gamesBy_27 ?_
    obtain ⟨v5, hv5, h⟩ := obind h
    refine j_iald ok hv5 dX7_gamesBy_28 ?_
    refine j_istore (L' := [(6, .int v5), (0, .ref (X.B + l0)), (1, .int l1), (2, .int l2), (3, .long l3), (5, .int l5)]) ok dX7_gamesBy_29 (by decide) rfl ?_
    refine j_iload ok dX7_gamesBy_31 0 rfl ?_
    obtain ⟨q6, hq6, h⟩ := obind h
    refine k_S1 ok kl_X7_365 ⟨Nat.le_of_ble_eq_true rfl, Nat.le_of_ble_eq_true rfl⟩ [.int v5] rfl rfl (Nat.le_of_ble_eq_true rfl) (tX7_originOf ok.fl X.V v5 G hq6) dX7_gamesBy_33 ?_
    refine j_bipush (v := 36) ok dX7_gamesBy_36 (by decide) ?_
    refine j_imul ok dX7_gamesBy_38 ?_
    refine j_iload ok dX7_gamesBy_39 0 rfl ?_
    obtain ⟨q7, hq7, h⟩ := obind h
    refine k_S1 ok kl_X7_368 ⟨Nat.le_of_ble_eq_true rfl, Nat.le_of_ble_eq_true rfl⟩ [.int v5] rfl rfl (Nat.le_of_ble_eq_true rfl) (tX7_targetOf ok.fl X.V v5 q6.2 hq7) dX7_gamesBy_41 ?_
    refine j_iadd ok dX7_gamesBy_44 ?_
    refine j_iload_n ok dX7_gamesBy_45 rfl 3 rfl ?_
    rcases ite_some h with ⟨c8, h⟩ | ⟨c8, h⟩
    · refine j_icmp_ne (tgt := 59) ok dX7_gamesBy_46 (by decide) (fun z => absurd c8 z) (fun _ => ?_)
      refine j_lload_n ok dX7_gamesBy_49 rfl 4 rfl ?_
      refine j_aload_n ok dX7_gamesBy_50 rfl 1 rfl ?_
      refine j_iload_n ok dX7_gamesBy_51 rfl 2 rfl ?_
      refine j_iload ok dX7_gamesBy_52 0 rfl ?_
      obtain ⟨kq9, h⟩ := ck_some h
      obtain ⟨q9, hq9, h⟩ := obind h
      refine k_V1 ok kl_X7_371 ⟨Nat.le_of_ble_eq_true rfl, Nat.le_of_ble_eq_true rfl⟩ [.int l1, .int v5] kq9 rfl rfl (Nat.le_of_ble_eq_true rfl) (tX7_over ok.fl X.V l0 l1 v5 q7.2 hq9) dX7_gamesBy_54 ?_
      refine j_ladd ok dX7_gamesBy_57 ?_
      refine j_lstore_n (L' := [(3, .long (l3 + q9.1)), (6, .int v5), (0, .ref (X.B + l0)), (1, .int l1), (2, .int l2), (5, .int l5)]) ok dX7_gamesBy_58 rfl (by decide) rfl ?_
      exact J.sub [2, 3, 4, 0, 5] rfl (jX7_gamesBy_59 ok l0 l1 l2 (l3 + q9.1) l5 q9.2 h hK)
    · refine j_icmp_ne (tgt := 59) ok dX7_gamesBy_46 (by decide) (fun _ => ?_) (fun z => absurd z c8)
      exact J.sub [1, 2, 3, 4, 5] rfl (jX7_gamesBy_59 ok l0 l1 l2 l3 l5 q7.2 h hK)

def fX7_gamesBy_0 (l0 : Nat) (l1 : Int32) (l2 : Int32)  (G : Mem) : Option (Int64 × Mem) :=
  loopM (fun (s : Int64 × Int32) G => fX7_gamesBy_5 l0 l1 l2 s.1 s.2 G) FU ((0 : Int64), (0 : Int32)) G

set_option maxRecDepth 100000 in
set_option maxHeartbeats 4000000 in
theorem jX7_gamesBy_0 {X : Cx} (ok : OK X cX7_gamesBy RX7 (some .long) 7 2 42) (l0 : Nat) (l1 : Int32) (l2 : Int32)  (G : Mem) {r : Int64} {G' : Mem} (h : fX7_gamesBy_0 l0 l1 l2 G = some (r, G')) (hK : (finJ X) r G') : J X 7 0 [(0, .ref (X.B + l0)), (1, .int l1), (2, .int l2)] [] G := by
  unfold fX7_gamesBy_0 at h
  refine j_lconst (v := 0) ok dX7_gamesBy_0 (by decide) ?_
  refine j_lstore_n (L' := [(3, .long (0 : Int64)), (0, .ref (X.B + l0)), (1, .int l1), (2, .int l2)]) ok dX7_gamesBy_1 rfl (by decide) rfl ?_
  refine j_iconst (v := 0) ok dX7_gamesBy_2 (by decide) ?_
  refine j_istore (L' := [(5, .int (0 : Int32)), (3, .long (0 : Int64)), (0, .ref (X.B + l0)), (1, .int l1), (2, .int l2)]) ok dX7_gamesBy_3 (by decide) rfl ?_
  have hJ : J X 7 5 [(0, .ref (X.B + l0)), (1, .int l1), (2, .int l2), (3, .long (0 : Int64)), (5, .int (0 : Int32))] [] G := j_loop (loc := fun s : Int64 × Int32 => [(0, .ref (X.B + l0)), (1, .int l1), (2, .int l2), (3, .long s.1), (5, .int s.2)]) (F := (finJ X)) (fun s G r G' hb hk => jX7_gamesBy_5 ok l0 l1 l2 s.1 s.2 G hb hk) _ _ _ _ _ h hK
  exact J.sub [2, 3, 4, 1, 0] rfl hJ

def fX7_gamesBy (l0 : Nat) (l1 : Int32) (l2 : Int32) (G : Mem) : Option (Int64 × Mem) := fX7_gamesBy_0 l0 l1 l2 G
set_option maxRecDepth 100000 in
theorem tX7_gamesBy {l : Launch} (hfl : l.stackTraces = false) (V : Wd) (l0 : Nat) (l1 : Int32) (l2 : Int32) (G : Mem) {r : Int64} {G' : Mem} (h : fX7_gamesBy l0 l1 l2 G = some (r, G')) : Mx l yX7_gamesBy cX7_gamesBy 7 (some .long) 2 42 V [.ref (V.B + l0), .int l1, .int l2] G (.inl (some (.long r))) G' :=
  mx_of (L := [(0, .ref (V.B + l0)), (1, .int l1), (2, .int l2)]) hfl (by decide +kernel) (Nat.le_of_ble_eq_true rfl) rfl (fun X hl hV hin ok he => by
    subst hl; subst hV
    exact J.sub [0, 1, 2] rfl (jX7_gamesBy_0 ok l0 l1 l2 G h he))
def fX7_gamesIfNoted_125 (l7 : Int64)  (G : Mem) : Option (Int64 × Mem) :=
  some (l7, G)

set_option maxRecDepth 100000 in
set_option maxHeartbeats 4000000 in
theorem jX7_gamesIfNoted_125 {X : Cx} (ok : OK X cX7_gamesIfNoted RX7 (some .long) 10 6 226) (l7 : Int64)  (G : Mem) {r : Int64} {G' : Mem} (h : fX7_gamesIfNoted_125 l7 G = some (r, G')) (hK : (finJ X) r G') : J X 10 125 [(7, .long l7)] [] G := by
  unfold fX7_gamesIfNoted_125 at h
  refine j_lload ok dX7_gamesIfNoted_125 0 rfl ?_
  obtain ⟨er, eG⟩ := inj2 h
  subst er; subst eG
  exact j_lret ok rfl dX7_gamesIfNoted_127 hK

def fX7_gamesIfNoted_77 (l0 : Nat) (l7 : Int64) (l9 : Int32)  (G : Mem) : Option (((Int64 × Int32) ⊕ Int64) × Mem) :=
  (gR G 17 l0 14).bind fun v1 =>
  (gR G 17 l0 0).bind fun v2 =>
  (gA G 1 v2 (2 : Int32)).bind fun v3 =>
  (gA G 1 v1 (v3 + (1 : Int32))).bind fun v4 =>
  if v4 ≤ l9 then
    liftE (fX7_gamesIfNoted_125 l7 G)
  else
    (gR G 17 l0 18).bind fun v6 =>
    (gR G 17 l0 0).bind fun v7 =>
    (gA G 1 v7 (2 : Int32)).bind fun v8 =>
    (gJ G v6 (((v8 + (1 : Int32)) * (40 : Int32)) + l9)).bind fun v9 =>
    some (.inl ((l7 + v9), (l9 + (1 : Int32))), G)

set_option maxRecDepth 100000 in
set_option maxHeartbeats 4000000 in
theorem jX7_gamesIfNoted_77 {X : Cx} (ok : OK X cX7_gamesIfNoted RX7 (some .long) 10 6 226) (l0 : Nat) (l7 : Int64) (l9 : Int32)  (G : Mem) {r : ((Int64 × Int32) ⊕ Int64)} {G' : Mem} (h : fX7_gamesIfNoted_77 l0 l7 l9 G = some (r, G')) (hK : (finL X 10 77 (fun s : Int64 × Int32 => [(0, .ref (X.B + l0)), (7, .long s.1), (9, .int s.2)]) (finJ X)) r G') : J X 10 77 [(0, .ref (X.B + l0)), (7, .long l7), (9, .int l9)] [] G := by
  unfold fX7_gamesIfNoted_77 at h
  refine j_iload ok dX7_gamesIfNoted_77 2 rfl ?_
  refine j_aload_n ok dX7_gamesIfNoted_79 rfl 0 rfl ?_
  obtain ⟨v1, hv1, h⟩ := obind h
  refine k_getR ok fl_X7_39 hv1 dX7_gamesIfNoted_80 ?_
  refine j_aload_n ok dX7_gamesIfNoted_83 rfl 0 rfl ?_
  obtain ⟨v2, hv2, h⟩ := obind h
  refine k_getR ok fl_X7_9 hv2 dX7_gamesIfNoted_84 ?_
  refine j_iconst (v := 2) ok dX7_gamesIfNoted_87 (by decide) ?_
  obtain ⟨v3, hv3, h⟩ := obind h
  refine j_iald ok hv3 dX7_gamesIfNoted_88 ?_
  refine j_iconst (v := 1) ok dX7_gamesIfNoted_89 (by decide) ?_
  refine j_iadd ok dX7_gamesIfNoted_90 ?_
  obtain ⟨v4, hv4, h⟩ := obind h
  refine j_iald ok hv4 dX7_gamesIfNoted_91 ?_
  rcases ite_some h with ⟨c5, h⟩ | ⟨c5, h⟩
  · refine j_icmp_ge (tgt := 125) ok dX7_gamesIfNoted_92 (by decide) (fun _ => ?_) (fun z => absurd c5 z)
    obtain ⟨r1, e1, h1⟩ := lift_some h
    subst e1
    exact J.sub [1] rfl (jX7_gamesIfNoted_125 ok l7 G h1 hK)
  · refine j_icmp_ge (tgt := 125) ok dX7_gamesIfNoted_92 (by decide) (fun z => absurd z c5) (fun _ => ?_)
    refine j_lload ok dX7_gamesIfNoted_95 1 rfl ?_
    refine j_aload_n ok dX7_gamesIfNoted_97 rfl 0 rfl ?_
    obtain ⟨v6, hv6, h⟩ := obind h
    refine k_getR ok fl_X7_51 hv6 dX7_gamesIfNoted_98 ?_
    refine j_aload_n ok dX7_gamesIfNoted_101 rfl 0 rfl ?_
    obtain ⟨v7, hv7, h⟩ := obind h
    refine k_getR ok fl_X7_9 hv7 dX7_gamesIfNoted_102 ?_
    refine j_iconst (v := 2) ok dX7_gamesIfNoted_105 (by decide) ?_
    obtain ⟨v8, hv8, h⟩ := obind h
    refine j_iald ok hv8 dX7_gamesIfNoted_106 ?_
    refine j_iconst (v := 1) ok dX7_gamesIfNoted_107 (by decide) ?_
    refine j_iadd ok dX7_gamesIfNoted_108 ?_
    refine j_bipush (v := 40) ok dX7_gamesIfNoted_109 (by decide) ?_
    refine j_imul ok dX7_gamesIfNoted_111 ?_
    refine j_iload ok dX7_gamesIfNoted_112 2 rfl ?_
    refine j_iadd ok dX7_gamesIfNoted_114 ?_
    obtain ⟨v9, hv9, h⟩ := obind h
    refine j_lald ok hv9 dX7_gamesIfNoted_115 ?_
    refine j_ladd ok dX7_gamesIfNoted_116 ?_
    refine j_lstore (L' := [(7, .long (l7 + v9)), (0, .ref (X.B + l0)), (9, .int l9)]) ok dX7_gamesIfNoted_117 (by decide) rfl ?_
    refine j_iinc (L' := [(9, .int (l9 + (1 : Int32))), (7, .long (l7 + v9)), (0, .ref (X.B + l0))]) (v := (l9 + (1 : Int32))) ok dX7_gamesIfNoted_119 (q := 2) rfl rfl (by decide) rfl ?_
    refine j_goto (tgt := 77) ok dX7_gamesIfNoted_122 (by decide) ?_
    obtain ⟨er, eG⟩ := inj2 h
    subst er; subst eG
    have hJ : J X 10 77 [(0, .ref (X.B + l0)), (7, .long (l7 + v9)), (9, .int (l9 + (1 : Int32)))] [] G := hK
    exact J.sub [2, 1, 0] rfl hJ

def fX7_gamesIfNoted_0 (l0 : Nat) (l1 : Int32) (l2 : Int32) (l3 : Int32) (l4 : Int32) (l5 : Int32) (l6 : Int32)  (G : Mem) : Option (Int64 × Mem) :=
  ck G 17 l0 <| (fX7_isBadNote l0 l1 l2 l3 l4 G).bind fun q1 =>
  ck q1.2 17 l0 <| (fX7_fails l0 q1.1 (0 : Int32) (0 : Int32) q1.2).bind fun q2 =>
  if q2.1 = (0 : Int32) then
    (gR q2.2 17 l0 0).bind fun v4 =>
    (gA q2.2 1 v4 (2 : Int32)).bind fun v5 =>
    if v5 = (10 : Int32) then
      some ((-1 : Int64), q2.2)
    else
      (gR q2.2 17 l0 0).bind fun v7 =>
      (gA q2.2 1 v7 (2 : Int32)).bind fun v8 =>
      ck q2.2 17 l0 <| (fX7_lay l0 v8 l1 l2 l3 l4 l5 l6 q2.2).bind fun q9 =>
      (gR q9.2 17 l0 0).bind fun v10 =>
      (gA q9.2 1 v10 (2 : Int32)).bind fun v11 =>
      ck q9.2 17 l0 <| (fX7_follows l0 v11 q9.2).bind fun q12 =>
      if q12.1 = (0 : Int32) then
        some ((-1 : Int64), q12.2)
      else
        loopM (fun (s : Int64 × Int32) G => fX7_gamesIfNoted_77 l0 s.1 s.2 G) FU ((0 : Int64), (0 : Int32)) q12.2
  else
    some ((0 : Int64), q2.2)

set_option maxRecDepth 100000 in
set_option maxHeartbeats 4000000 in
theorem jX7_gamesIfNoted_0 {X : Cx} (ok : OK X cX7_gamesIfNoted RX7 (some .long) 10 6 226) (l0 : Nat) (l1 : Int32) (l2 : Int32) (l3 : Int32) (l4 : Int32) (l5 : Int32) (l6 : Int32)  (G : Mem) {r : Int64} {G' : Mem} (h : fX7_gamesIfNoted_0 l0 l1 l2 l3 l4 l5 l6 G = some (r, G')) (hK : (finJ X) r G') : J X 10 0 [(0, .ref (X.B + l0)), (1, .int l1), (2, .int l2), (3, .int l3), (4, .int l4), (5, .int l5), (6, .int l6)] [] G := by
  unfold fX7_gamesIfNoted_0 at h
  refine j_aload_n ok dX7_gamesIfNoted_0 rfl 0 rfl ?_
  refine j_aload_n ok dX7_gamesIfNoted_1 rfl 0 rfl ?_
  refine j_iload_n ok dX7_gamesIfNoted_2 rfl 1 rfl ?_
  refine j_iload_n ok dX7_gamesIfNoted_3 rfl 2 rfl ?_
  refine j_iload_n ok dX7_gamesIfNoted_4 rfl 3 rfl ?_
  refine j_iload ok dX7_gamesIfNoted_5 4 rfl ?_
  obtain ⟨kq1, h⟩ := ck_some h
  obtain ⟨q1, hq1, h⟩ := obind h
  refine k_V1 ok kl_X7_333 ⟨Nat.le_of_ble_eq_true rfl, Nat.le_of_ble_eq_true rfl⟩ [.int l1, .int l2, .int l3, .int l4] kq1 rfl rfl (Nat.le_of_ble_eq_true rfl) (tX7_isBadNote ok.fl X.V l0 l1 l2 l3 l4 G hq1) dX7_gamesIfNoted_7 ?_
  refine j_iconst (v := 0) ok dX7_gamesIfNoted_10 (by decide) ?_
  refine j_iconst (v := 0) ok dX7_gamesIfNoted_11 (by decide) ?_
  obtain ⟨kq2, h⟩ := ck_some h
  obtain ⟨q2, hq2, h⟩ := obind h
  refine k_V1 ok kl_X7_186 ⟨Nat.le_of_ble_eq_true rfl, Nat.le_of_ble_eq_true rfl⟩ [.int q1.1, .int (0 : Int32), .int (0 : Int32)] kq2 rfl rfl (Nat.le_of_ble_eq_true rfl) (tX7_fails ok.fl X.V l0 q1.1 (0 : Int32) (0 : Int32) q1.2 hq2) dX7_gamesIfNoted_12 ?_
  rcases ite_some h with ⟨c3, h⟩ | ⟨c3, h⟩
  · refine j_if_eq (tgt := 20) ok dX7_gamesIfNoted_15 (by decide) (fun _ => ?_) (fun z => absurd c3 z)
    refine j_aload_n ok dX7_gamesIfNoted_20 rfl 0 rfl ?_
    obtain ⟨v4, hv4, h⟩ := obind h
    refine k_getR ok fl_X7_9 hv4 dX7_gamesIfNoted_21 ?_
    refine j_iconst (v := 2) ok dX7_gamesIfNoted_24 (by decide) ?_
    obtain ⟨v5, hv5, h⟩ := obind h
    refine j_iald ok hv5 dX7_gamesIfNoted_25 ?_
    refine j_bipush (v := 10) ok dX7_gamesIfNoted_26 (by decide) ?_
    rcases ite_some h with ⟨c6, h⟩ | ⟨c6, h⟩
    · refine j_icmp_ne (tgt := 35) ok dX7_gamesIfNoted_28 (by decide) (fun z => absurd c6 z) (fun _ => ?_)
      refine j_ldc2 ok wK_X7_387 dX7_gamesIfNoted_31 ?_
      obtain ⟨er, eG⟩ := inj2 h
      subst er; subst eG
      exact j_lret ok rfl dX7_gamesIfNoted_34 hK
    · refine j_icmp_ne (tgt := 35) ok dX7_gamesIfNoted_28 (by decide) (fun _ => ?_) (fun z => absurd z c6)
      refine j_aload_n ok dX7_gamesIfNoted_35 rfl 0 rfl ?_
      refine j_aload_n ok dX7_gamesIfNoted_36 rfl 0 rfl ?_
      obtain ⟨v7, hv7, h⟩ := obind h
      refine k_getR ok fl_X7_9 hv7 dX7_gamesIfNoted_37 ?_
      refine j_iconst (v := 2) ok dX7_gamesIfNoted_40 (by decide) ?_
      obtain ⟨v8, hv8, h⟩ := obind h
      refine j_iald ok hv8 dX7_gamesIfNoted_41 ?_
      refine j_iload_n ok dX7_gamesIfNoted_42 rfl 1 rfl ?_
      refine j_iload_n ok dX7_gamesIfNoted_43 rfl 2 rfl ?_
      refine j_iload_n ok dX7_gamesIfNoted_44 rfl 3 rfl ?_
      refine j_iload ok dX7_gamesIfNoted_45 4 rfl ?_
      refine j_iload ok dX7_gamesIfNoted_47 5 rfl ?_
      refine j_iload ok dX7_gamesIfNoted_49 6 rfl ?_
      obtain ⟨kq9, h⟩ := ck_some h
      obtain ⟨q9, hq9, h⟩ := obind h
      refine k_V0 ok kl_X7_276 ⟨Nat.le_of_ble_eq_true rfl, Nat.le_of_ble_eq_true rfl⟩ [.int v8, .int l1, .int l2, .int l3, .int l4, .int l5, .int l6] kq9 rfl rfl (Nat.le_of_ble_eq_true rfl) (tX7_lay ok.fl X.V l0 v8 l1 l2 l3 l4 l5 l6 q2.2 hq9) dX7_gamesIfNoted_51 ?_
      refine j_aload_n ok dX7_gamesIfNoted_54 rfl 0 rfl ?_
      refine j_aload_n ok dX7_gamesIfNoted_55 rfl 0 rfl ?_
      obtain ⟨v10, hv10, h⟩ := obind h
      refine k_getR ok fl_X7_9 hv10 dX7_gamesIfNoted_56 ?_
      refine j_iconst (v := 2) ok dX7_gamesIfNoted_59 (by decide) ?_
      obtain ⟨v11, hv11, h⟩ := obind h
      refine j_iald ok hv11 dX7_gamesIfNoted_60 ?_
      obtain ⟨kq12, h⟩ := ck_some h
      obtain ⟨q12, hq12, h⟩ := obind h
      refine k_V1 ok kl_X7_167 ⟨Nat.le_of_ble_eq_true rfl, Nat.le_of_ble_eq_true rfl⟩ [.int v11] kq12 rfl rfl (Nat.le_of_ble_eq_true rfl) (tX7_follows ok.fl X.V l0 v11 q9.2 hq12) dX7_gamesIfNoted_61 ?_
      rcases ite_some h with ⟨c13, h⟩ | ⟨c13, h⟩
      · refine j_if_ne (tgt := 71) ok dX7_gamesIfNoted_64 (by decide) (fun z => absurd c13 z) (fun _ => ?_)
        refine j_ldc2 ok wK_X7_387 dX7_gamesIfNoted_67 ?_
        obtain ⟨er, eG⟩ := inj2 h
        subst er; subst eG
        exact j_lret ok rfl dX7_gamesIfNoted_70 hK
      · refine j_if_ne (tgt := 71) ok dX7_gamesIfNoted_64 (by decide) (fun _ => ?_) (fun z => absurd z c13)
        refine j_lconst (v := 0) ok dX7_gamesIfNoted_71 (by decide) ?_
        refine j_lstore (L' := [(7, .long (0 : Int64)), (0, .ref (X.B + l0)), (1, .int l1), (2, .int l2), (3, .int l3), (4, .int l4), (5, .int l5), (6, .int l6)]) ok dX7_gamesIfNoted_72 (by decide) rfl ?_
        refine j_iconst (v := 0) ok dX7_gamesIfNoted_74 (by decide) ?_
        refine j_istore (L' := [(9, .int (0 : Int32)), (7, .long (0 : Int64)), (0, .ref (X.B + l0)), (1, .int l1), (2, .int l2), (3, .int l3), (4, .int l4), (5, .int l5), (6, .int l6)]) ok dX7_gamesIfNoted_75 (by decide) rfl ?_
        have hJ : J X 10 77 [(0, .ref (X.B + l0)), (7, .long (0 : Int64)), (9, .int (0 : Int32))] [] q12.2 := j_loop (loc := fun s : Int64 × Int32 => [(0, .ref (X.B + l0)), (7, .long s.1), (9, .int s.2)]) (F := (finJ X)) (fun s G r G' hb hk => jX7_gamesIfNoted_77 ok l0 s.1 s.2 G hb hk) _ _ _ _ _ h hK
        exact J.sub [2, 1, 0] rfl hJ
  · refine j_if_eq (tgt := 20) ok dX7_gamesIfNoted_15 (by decide) (fun z => absurd z c3) (fun _ => ?_)
    refine j_lconst (v := 0) ok dX7_gamesIfNoted_18 (by decide) ?_
    obtain ⟨er, eG⟩ := inj2 h
    subst er; subst eG
    exact j_lret ok rfl dX7_gamesIfNoted_19 hK

def fX7_gamesIfNoted (l0 : Nat) (l1 : Int32) (l2 : Int32) (l3 : Int32) (l4 : Int32) (l5 : Int32) (l6 : Int32) (G : Mem) : Option (Int64 × Mem) := fX7_gamesIfNoted_0 l0 l1 l2 l3 l4 l5 l6 G
set_option maxRecDepth 100000 in
theorem tX7_gamesIfNoted {l : Launch} (hfl : l.stackTraces = false) (V : Wd) (l0 : Nat) (l1 : Int32) (l2 : Int32) (l3 : Int32) (l4 : Int32) (l5 : Int32) (l6 : Int32) (G : Mem) {r : Int64} {G' : Mem} (h : fX7_gamesIfNoted l0 l1 l2 l3 l4 l5 l6 G = some (r, G')) : Mx l yX7_gamesIfNoted cX7_gamesIfNoted 10 (some .long) 6 226 V [.ref (V.B + l0), .int l1, .int l2, .int l3, .int l4, .int l5, .int l6] G (.inl (some (.long r))) G' :=
  mx_of (L := [(0, .ref (V.B + l0)), (1, .int l1), (2, .int l2), (3, .int l3), (4, .int l4), (5, .int l5), (6, .int l6)]) hfl (by decide +kernel) (Nat.le_of_ble_eq_true rfl) rfl (fun X hl hV hin ok he => by
    subst hl; subst hV
    exact J.sub [0, 1, 2, 3, 4, 5, 6] rfl (jX7_gamesIfNoted_0 ok l0 l1 l2 l3 l4 l5 l6 G h he))
def fX7_gamesTo_34  (s0 : Int64) (G : Mem) : Option (Int64 × Mem) :=
  some (s0, G)

set_option maxRecDepth 100000 in
set_option maxHeartbeats 4000000 in
theorem jX7_gamesTo_34 {X : Cx} (ok : OK X cX7_gamesTo RX7 (some .long) 2 2 43)  (s0 : Int64) (G : Mem) {r : Int64} {G' : Mem} (h : fX7_gamesTo_34 s0 G = some (r, G')) (hK : (finJ X) r G') : J X 2 34 [] [.long s0] G := by
  unfold fX7_gamesTo_34 at h
  obtain ⟨er, eG⟩ := inj2 h
  subst er; subst eG
  exact j_lret ok rfl dX7_gamesTo_34 hK

def fX7_gamesTo_0 (l0 : Nat) (l1 : Int32)  (G : Mem) : Option (Int64 × Mem) :=
  ck G 17 l0 <| (fX7_noPosition l0 l1 G).bind fun q1 =>
  ck q1.2 17 l0 <| (fX7_fails l0 q1.1 (0 : Int32) (0 : Int32) q1.2).bind fun q2 =>
  if q2.1 = (0 : Int32) then
    (gR q2.2 17 l0 18).bind fun v4 =>
    (gR q2.2 17 l0 0).bind fun v5 =>
    (gA q2.2 1 v5 (2 : Int32)).bind fun v6 =>
    (gJ q2.2 v4 ((v6 * (40 : Int32)) + l1)).bind fun v7 =>
    fX7_gamesTo_34 v7 q2.2
  else
    fX7_gamesTo_34 (0 : Int64) q2.2

set_option maxRecDepth 100000 in
set_option maxHeartbeats 4000000 in
theorem jX7_gamesTo_0 {X : Cx} (ok : OK X cX7_gamesTo RX7 (some .long) 2 2 43) (l0 : Nat) (l1 : Int32)  (G : Mem) {r : Int64} {G' : Mem} (h : fX7_gamesTo_0 l0 l1 G = some (r, G')) (hK : (finJ X) r G') : J X 2 0 [(0, .ref (X.B + l0)), (1, .int l1)] [] G := by
  unfold fX7_gamesTo_0 at h
  refine j_aload_n ok dX7_gamesTo_0 rfl 0 rfl ?_
  refine j_aload_n ok dX7_gamesTo_1 rfl 0 rfl ?_
  refine j_iload_n ok dX7_gamesTo_2 rfl 1 rfl ?_
  obtain ⟨kq1, h⟩ := ck_some h
  obtain ⟨q1, hq1, h⟩ := obind h
  refine k_V1 ok kl_X7_343 ⟨Nat.le_of_ble_eq_true rfl, Nat.le_of_ble_eq_true rfl⟩ [.int l1] kq1 rfl rfl (Nat.le_of_ble_eq_true rfl) (tX7_noPosition ok.fl X.V l0 l1 G hq1) dX7_gamesTo_3 ?_
  refine j_iconst (v := 0) ok dX7_gamesTo_6 (by decide) ?_
  refine j_iconst (v := 0) ok dX7_gamesTo_7 (by decide) ?_
  obtain ⟨kq2, h⟩ := ck_some h
  obtain ⟨q2, hq2, h⟩ := obind h
  refine k_V1 ok kl_X7_186 ⟨Nat.le_of_ble_eq_true rfl, Nat.le_of_ble_eq_true rfl⟩ [.int q1.1, .int (0 : Int32), .int (0 : Int32)] kq2 rfl rfl (Nat.le_of_ble_eq_true rfl) (tX7_fails ok.fl X.V l0 q1.1 (0 : Int32) (0 : Int32) q1.2 hq2) dX7_gamesTo_8 ?_
  rcases ite_some h with ⟨c3, h⟩ | ⟨c3, h⟩
  · refine j_if_eq (tgt := 18) ok dX7_gamesTo_11 (by decide) (fun _ => ?_) (fun z => absurd c3 z)
    refine j_aload_n ok dX7_gamesTo_18 rfl 0 rfl ?_
    obtain ⟨v4, hv4, h⟩ := obind h
    refine k_getR ok fl_X7_51 hv4 dX7_gamesTo_19 ?_
    refine j_aload_n ok dX7_gamesTo_22 rfl 0 rfl ?_
    obtain ⟨v5, hv5, h⟩ := obind h
    refine k_getR ok fl_X7_9 hv5 dX7_gamesTo_23 ?_
    refine j_iconst (v := 2) ok dX7_gamesTo_26 (by decide) ?_
    obtain ⟨v6, hv6, h⟩ := obind h
    refine j_iald ok hv6 dX7_gamesTo_27 ?_
    refine j_bipush (v := 40) ok dX7_gamesTo_28 (by decide) ?_
    refine j_imul ok dX7_gamesTo_30 ?_
    refine j_iload_n ok dX7_gamesTo_31 rfl 1 rfl ?_
    refine j_iadd ok dX7_gamesTo_32 ?_
    obtain ⟨v7, hv7, h⟩ := obind h
    refine j_lald ok hv7 dX7_gamesTo_33 ?_
    exact J.sub [] rfl (jX7_gamesTo_34 ok v7 q2.2 h hK)
  · refine j_if_eq (tgt := 18) ok dX7_gamesTo_11 (by decide) (fun z => absurd z c3) (fun _ => ?_)
    refine j_lconst (v := 0) ok dX7_gamesTo_14 (by decide) ?_
    refine j_goto (tgt := 34) ok dX7_gamesTo_15 (by decide) ?_
    exact J.sub [] rfl (jX7_gamesTo_34 ok (0 : Int64) q2.2 h hK)

def fX7_gamesTo (l0 : Nat) (l1 : Int32) (G : Mem) : Option (Int64 × Mem) := fX7_gamesTo_0 l0 l1 G
set_option maxRecDepth 100000 in
theorem tX7_gamesTo {l : Launch} (hfl : l.stackTraces = false) (V : Wd) (l0 : Nat) (l1 : Int32) (G : Mem) {r : Int64} {G' : Mem} (h : fX7_gamesTo l0 l1 G = some (r, G')) : Mx l yX7_gamesTo cX7_gamesTo 2 (some .long) 2 43 V [.ref (V.B + l0), .int l1] G (.inl (some (.long r))) G' :=
  mx_of (L := [(0, .ref (V.B + l0)), (1, .int l1)]) hfl (by decide +kernel) (Nat.le_of_ble_eq_true rfl) rfl (fun X hl hV hin ok he => by
    subst hl; subst hV
    exact J.sub [0, 1] rfl (jX7_gamesTo_0 ok l0 l1 G h he))
def fX7_move_49 (l0 : Nat) (l3 : Int32) (l4 : Int32)  (G : Mem) : Option (((Int32 × Int32) ⊕ Int32) × Mem) :=
  some (.inl (l3, (l4 + (1 : Int32))), G)

set_option maxRecDepth 100000 in
set_option maxHeartbeats 4000000 in
theorem jX7_move_49 {X : Cx} (ok : OK X cX7_move RX7 (some .int) 5 3 67) (l0 : Nat) (l3 : Int32) (l4 : Int32)  (G : Mem) {r : ((Int32 × Int32) ⊕ Int32)} {G' : Mem} (h : fX7_move_49 l0 l3 l4 G = some (r, G')) (hK : (finL X 5 22 (fun s : Int32 × Int32 => [(0, .ref (X.B + l0)), (3, .int s.1), (4, .int s.2)]) (finI X)) r G') : J X 5 49 [(0, .ref (X.B + l0)), (3, .int l3), (4, .int l4)] [] G := by
  unfold fX7_move_49 at h
  refine j_iinc (L' := [(4, .int (l4 + (1 : Int32))), (0, .ref (X.B + l0)), (3, .int l3)]) (v := (l4 + (1 : Int32))) ok dX7_move_49 (q := 2) rfl rfl (by decide) rfl ?_
  refine j_goto (tgt := 22) ok dX7_move_52 (by decide) ?_
  obtain ⟨er, eG⟩ := inj2 h
  subst er; subst eG
  have hJ : J X 5 22 [(0, .ref (X.B + l0)), (3, .int l3), (4, .int (l4 + (1 : Int32)))] [] G := hK
  exact J.sub [1, 2, 0] rfl hJ

def fX7_move_36 (l0 : Nat) (l3 : Int32) (l4 : Int32)  (G : Mem) : Option (((Int32 × Int32) ⊕ Int32) × Mem) :=
  (gR G 17 l0 20).bind fun v1 =>
  (gA G 3 v1 l4).bind fun v2 =>
  if v2 = (0 : Int32) then
    fX7_move_49 l0 l3 l4 G
  else
    fX7_move_49 l0 (l3 + (-1 : Int32)) l4 G

set_option maxRecDepth 100000 in
set_option maxHeartbeats 4000000 in
theorem jX7_move_36 {X : Cx} (ok : OK X cX7_move RX7 (some .int) 5 3 67) (l0 : Nat) (l3 : Int32) (l4 : Int32)  (G : Mem) {r : ((Int32 × Int32) ⊕ Int32)} {G' : Mem} (h : fX7_move_36 l0 l3 l4 G = some (r, G')) (hK : (finL X 5 22 (fun s : Int32 × Int32 => [(0, .ref (X.B + l0)), (3, .int s.1), (4, .int s.2)]) (finI X)) r G') : J X 5 36 [(0, .ref (X.B + l0)), (3, .int l3), (4, .int l4)] [] G := by
  unfold fX7_move_36 at h
  refine j_aload_n ok dX7_move_36 rfl 0 rfl ?_
  obtain ⟨v1, hv1, h⟩ := obind h
  refine k_getR ok fl_X7_58 hv1 dX7_move_37 ?_
  refine j_iload ok dX7_move_40 2 rfl ?_
  obtain ⟨v2, hv2, h⟩ := obind h
  refine j_zald ok hv2 dX7_move_42 ?_
  rcases ite_some h with ⟨c3, h⟩ | ⟨c3, h⟩
  · refine j_if_eq (tgt := 49) ok dX7_move_43 (by decide) (fun _ => ?_) (fun z => absurd c3 z)
    exact J.sub [0, 1, 2] rfl (jX7_move_49 ok l0 l3 l4 G h hK)
  · refine j_if_eq (tgt := 49) ok dX7_move_43 (by decide) (fun z => absurd z c3) (fun _ => ?_)
    refine j_iinc (L' := [(3, .int (l3 + (-1 : Int32))), (0, .ref (X.B + l0)), (4, .int l4)]) (v := (l3 + (-1 : Int32))) ok dX7_move_46 (q := 1) rfl rfl (by decide) rfl ?_
    exact J.sub [1, 0, 2] rfl (jX7_move_49 ok l0 (l3 + (-1 : Int32)) l4 G h hK)

def fX7_move_55 (l4 : Int32)  (G : Mem) : Option (Int32 × Mem) :=
  some (l4, G)

set_option maxRecDepth 100000 in
set_option maxHeartbeats 4000000 in
theorem jX7_move_55 {X : Cx} (ok : OK X cX7_move RX7 (some .int) 5 3 67) (l4 : Int32)  (G : Mem) {r : Int32} {G' : Mem} (h : fX7_move_55 l4 G = some (r, G')) (hK : (finI X) r G') : J X 5 55 [(4, .int l4)] [] G := by
  unfold fX7_move_55 at h
  refine j_iload ok dX7_move_55 0 rfl ?_
  obtain ⟨er, eG⟩ := inj2 h
  subst er; subst eG
  exact j_iret ok rfl dX7_move_57 hK

def fX7_move_22 (l0 : Nat) (l3 : Int32) (l4 : Int32)  (G : Mem) : Option (((Int32 × Int32) ⊕ Int32) × Mem) :=
  (gR G 17 l0 20).bind fun v1 =>
  (gA G 3 v1 l4).bind fun v2 =>
  if v2 = (0 : Int32) then
    fX7_move_36 l0 l3 l4 G
  else
    if l3 ≤ (0 : Int32) then
      liftE (fX7_move_55 l4 G)
    else
      fX7_move_36 l0 l3 l4 G

set_option maxRecDepth 100000 in
set_option maxHeartbeats 4000000 in
theorem jX7_move_22 {X : Cx} (ok : OK X cX7_move RX7 (some .int) 5 3 67) (l0 : Nat) (l3 : Int32) (l4 : Int32)  (G : Mem) {r : ((Int32 × Int32) ⊕ Int32)} {G' : Mem} (h : fX7_move_22 l0 l3 l4 G = some (r, G')) (hK : (finL X 5 22 (fun s : Int32 × Int32 => [(0, .ref (X.B + l0)), (3, .int s.1), (4, .int s.2)]) (finI X)) r G') : J X 5 22 [(0, .ref (X.B + l0)), (3, .int l3), (4, .int l4)] [] G := by
  unfold fX7_move_22 at h
  refine j_aload_n ok dX7_move_22 rfl 0 rfl ?_
  obtain ⟨v1, hv1, h⟩ := obind h
  refine k_getR ok fl_X7_58 hv1 dX7_move_23 ?_
  refine j_iload ok dX7_move_26 2 rfl ?_
  obtain ⟨v2, hv2, h⟩ := obind h
  refine j_zald ok hv2 dX7_move_28 ?_
  rcases ite_some h with ⟨c3, h⟩ | ⟨c3, h⟩
  · refine j_if_eq (tgt := 36) ok dX7_move_29 (by decide) (fun _ => ?_) (fun z => absurd c3 z)
    exact J.sub [0, 1, 2] rfl (jX7_move_36 ok l0 l3 l4 G h hK)
  · refine j_if_eq (tgt := 36) ok dX7_move_29 (by decide) (fun z => absurd z c3) (fun _ => ?_)
    refine j_iload_n ok dX7_move_32 rfl 1 rfl ?_
    rcases ite_some h with ⟨c4, h⟩ | ⟨c4, h⟩
    · refine j_if_le (tgt := 55) ok dX7_move_33 (by decide) (fun _ => ?_) (fun z => absurd c4 z)
      obtain ⟨r1, e1, h1⟩ := lift_some h
      subst e1
      exact J.sub [2] rfl (jX7_move_55 ok l4 G h1 hK)
    · refine j_if_le (tgt := 55) ok dX7_move_33 (by decide) (fun z => absurd z c4) (fun _ => ?_)
      exact J.sub [0, 1, 2] rfl (jX7_move_36 ok l0 l3 l4 G h hK)

def fX7_move_0 (l0 : Nat) (l1 : Int32) (l2 : Int32)  (G : Mem) : Option (Int32 × Mem) :=
  ck G 17 l0 <| (fX7_marks l0 l1 G).bind fun q1 =>
  (fX7_isIn l2 (0 : Int32) (q1.1 - (1 : Int32)) q1.2).bind fun q2 =>
  if q2.1 = (0 : Int32) then
    some ((-1 : Int32), q2.2)
  else
    loopM (fun (s : Int32 × Int32) G => fX7_move_22 l0 s.1 s.2 G) FU (l2, (0 : Int32)) q2.2

set_option maxRecDepth 100000 in
set_option maxHeartbeats 4000000 in
theorem jX7_move_0 {X : Cx} (ok : OK X cX7_move RX7 (some .int) 5 3 67) (l0 : Nat) (l1 : Int32) (l2 : Int32)  (G : Mem) {r : Int32} {G' : Mem} (h : fX7_move_0 l0 l1 l2 G = some (r, G')) (hK : (finI X) r G') : J X 5 0 [(0, .ref (X.B + l0)), (1, .int l1), (2, .int l2)] [] G := by
  unfold fX7_move_0 at h
  refine j_iload_n ok dX7_move_0 rfl 2 rfl ?_
  refine j_iconst (v := 0) ok dX7_move_1 (by decide) ?_
  refine j_aload_n ok dX7_move_2 rfl 0 rfl ?_
  refine j_iload_n ok dX7_move_3 rfl 1 rfl ?_
  obtain ⟨kq1, h⟩ := ck_some h
  obtain ⟨q1, hq1, h⟩ := obind h
  refine k_V1 ok kl_X7_375 ⟨Nat.le_of_ble_eq_true rfl, Nat.le_of_ble_eq_true rfl⟩ [.int l1] kq1 rfl rfl (Nat.le_of_ble_eq_true rfl) (tX7_marks ok.fl X.V l0 l1 G hq1) dX7_move_4 ?_
  refine j_iconst (v := 1) ok dX7_move_7 (by decide) ?_
  refine j_isub ok dX7_move_8 ?_
  obtain ⟨q2, hq2, h⟩ := obind h
  refine k_S1 ok kl_X7_182 ⟨Nat.le_of_ble_eq_true rfl, Nat.le_of_ble_eq_true rfl⟩ [.int l2, .int (0 : Int32), .int (q1.1 - (1 : Int32))] rfl rfl (Nat.le_of_ble_eq_true rfl) (tX7_isIn ok.fl X.V l2 (0 : Int32) (q1.1 - (1 : Int32)) q1.2 hq2) dX7_move_9 ?_
  rcases ite_some h with ⟨c3, h⟩ | ⟨c3, h⟩
  · refine j_if_ne (tgt := 17) ok dX7_move_12 (by decide) (fun z => absurd c3 z) (fun _ => ?_)
    refine j_iconst (v := -1) ok dX7_move_15 (by decide) ?_
    obtain ⟨er, eG⟩ := inj2 h
    subst er; subst eG
    exact j_iret ok rfl dX7_move_16 hK
  · refine j_if_ne (tgt := 17) ok dX7_move_12 (by decide) (fun _ => ?_) (fun z => absurd z c3)
    refine j_iload_n ok dX7_move_17 rfl 2 rfl ?_
    refine j_istore_n (L' := [(3, .int l2), (0, .ref (X.B + l0)), (1, .int l1), (2, .int l2)]) ok dX7_move_18 rfl (by decide) rfl ?_
    refine j_iconst (v := 0) ok dX7_move_19 (by decide) ?_
    refine j_istore (L' := [(4, .int (0 : Int32)), (3, .int l2), (0, .ref (X.B + l0)), (1, .int l1), (2, .int l2)]) ok dX7_move_20 (by decide) rfl ?_
    have hJ : J X 5 22 [(0, .ref (X.B + l0)), (3, .int l2), (4, .int (0 : Int32))] [] q2.2 := j_loop (loc := fun s : Int32 × Int32 => [(0, .ref (X.B + l0)), (3, .int s.1), (4, .int s.2)]) (F := (finI X)) (fun s G r G' hb hk => jX7_move_22 ok l0 s.1 s.2 G hb hk) _ _ _ _ _ h hK
    exact J.sub [2, 1, 0] rfl hJ

def fX7_move (l0 : Nat) (l1 : Int32) (l2 : Int32) (G : Mem) : Option (Int32 × Mem) := fX7_move_0 l0 l1 l2 G
set_option maxRecDepth 100000 in
theorem tX7_move {l : Launch} (hfl : l.stackTraces = false) (V : Wd) (l0 : Nat) (l1 : Int32) (l2 : Int32) (G : Mem) {r : Int32} {G' : Mem} (h : fX7_move l0 l1 l2 G = some (r, G')) : Mx l yX7_move cX7_move 5 (some .int) 3 67 V [.ref (V.B + l0), .int l1, .int l2] G (.inl (some (.int r))) G' :=
  mx_of (L := [(0, .ref (V.B + l0)), (1, .int l1), (2, .int l2)]) hfl (by decide +kernel) (Nat.le_of_ble_eq_true rfl) rfl (fun X hl hV hin ok he => by
    subst hl; subst hV
    exact J.sub [0, 1, 2] rfl (jX7_move_0 ok l0 l1 l2 G h he))
def fX7_noMove_24  (s0 : Nat) (s1 : Int32) (G : Mem) : Option (Int32 × Mem) :=
  ck G 17 s0 <| (fX7_fails s0 s1 (0 : Int32) (0 : Int32) G).bind fun q1 =>
  rz q1.1 <|
  some (q1.1, q1.2)

set_option maxRecDepth 100000 in
set_option maxHeartbeats 4000000 in
theorem jX7_noMove_24 {X : Cx} (ok : OK X cX7_noMove RX7 (some .boolean) 3 4 91)  (s0 : Nat) (s1 : Int32) (G : Mem) {r : Int32} {G' : Mem} (h : fX7_noMove_24 s0 s1 G = some (r, G')) (hK : (finI X) r G') : J X 3 24 [] [.int s1, .ref (X.B + s0)] G := by
  unfold fX7_noMove_24 at h
  refine j_iconst (v := 0) ok dX7_noMove_24 (by decide) ?_
  refine j_iconst (v := 0) ok dX7_noMove_25 (by decide) ?_
  obtain ⟨kq1, h⟩ := ck_some h
  obtain ⟨q1, hq1, h⟩ := obind h
  refine k_V1 ok kl_X7_186 ⟨Nat.le_of_ble_eq_true rfl, Nat.le_of_ble_eq_true rfl⟩ [.int s1, .int (0 : Int32), .int (0 : Int32)] kq1 rfl rfl (Nat.le_of_ble_eq_true rfl) (tX7_fails ok.fl X.V s0 s1 (0 : Int32) (0 : Int32) G hq1) dX7_noMove_26 ?_
  obtain ⟨hz2, h⟩ := rz_some h
  obtain ⟨er, eG⟩ := inj2 h
  subst er; subst eG
  exact j_zret ok rfl hz2 dX7_noMove_29 hK

def fX7_noMove_19  (s0 : Nat) (G : Mem) : Option (Int32 × Mem) :=
  fX7_noMove_24 s0 (1 : Int32) G

set_option maxRecDepth 100000 in
set_option maxHeartbeats 4000000 in
theorem jX7_noMove_19 {X : Cx} (ok : OK X cX7_noMove RX7 (some .boolean) 3 4 91)  (s0 : Nat) (G : Mem) {r : Int32} {G' : Mem} (h : fX7_noMove_19 s0 G = some (r, G')) (hK : (finI X) r G') : J X 3 19 [] [.ref (X.B + s0)] G := by
  unfold fX7_noMove_19 at h
  refine j_iconst (v := 1) ok dX7_noMove_19 (by decide) ?_
  refine j_goto (tgt := 24) ok dX7_noMove_20 (by decide) ?_
  exact J.sub [] rfl (jX7_noMove_24 ok s0 (1 : Int32) G h hK)

def fX7_noMove_0 (l0 : Nat) (l1 : Int32) (l2 : Int32)  (G : Mem) : Option (Int32 × Mem) :=
  ck G 17 l0 <| (fX7_noNote l0 l1 G).bind fun q1 =>
  if q1.1 = (0 : Int32) then
    ck q1.2 17 l0 <| (fX7_move l0 l1 l2 q1.2).bind fun q3 =>
    if q3.1 = (-1 : Int32) then
      fX7_noMove_19 l0 q3.2
    else
      fX7_noMove_24 l0 (0 : Int32) q3.2
  else
    fX7_noMove_19 l0 q1.2

set_option maxRecDepth 100000 in
set_option maxHeartbeats 4000000 in
theorem jX7_noMove_0 {X : Cx} (ok : OK X cX7_noMove RX7 (some .boolean) 3 4 91) (l0 : Nat) (l1 : Int32) (l2 : Int32)  (G : Mem) {r : Int32} {G' : Mem} (h : fX7_noMove_0 l0 l1 l2 G = some (r, G')) (hK : (finI X) r G') : J X 3 0 [(0, .ref (X.B + l0)), (1, .int l1), (2, .int l2)] [] G := by
  unfold fX7_noMove_0 at h
  refine j_aload_n ok dX7_noMove_0 rfl 0 rfl ?_
  refine j_aload_n ok dX7_noMove_1 rfl 0 rfl ?_
  refine j_iload_n ok dX7_noMove_2 rfl 1 rfl ?_
  obtain ⟨kq1, h⟩ := ck_some h
  obtain ⟨q1, hq1, h⟩ := obind h
  refine k_V1 ok kl_X7_337 ⟨Nat.le_of_ble_eq_true rfl, Nat.le_of_ble_eq_true rfl⟩ [.int l1] kq1 rfl rfl (Nat.le_of_ble_eq_true rfl) (tX7_noNote ok.fl X.V l0 l1 G hq1) dX7_noMove_3 ?_
  rcases ite_some h with ⟨c2, h⟩ | ⟨c2, h⟩
  · refine j_if_ne (tgt := 19) ok dX7_noMove_6 (by decide) (fun z => absurd c2 z) (fun _ => ?_)
    refine j_aload_n ok dX7_noMove_9 rfl 0 rfl ?_
    refine j_iload_n ok dX7_noMove_10 rfl 1 rfl ?_
    refine j_iload_n ok dX7_noMove_11 rfl 2 rfl ?_
    obtain ⟨kq3, h⟩ := ck_some h
    obtain ⟨q3, hq3, h⟩ := obind h
    refine k_V1 ok kl_X7_378 ⟨Nat.le_of_ble_eq_true rfl, Nat.le_of_ble_eq_true rfl⟩ [.int l1, .int l2] kq3 rfl rfl (Nat.le_of_ble_eq_true rfl) (tX7_move ok.fl X.V l0 l1 l2 q1.2 hq3) dX7_noMove_12 ?_
    refine j_iconst (v := -1) ok dX7_noMove_15 (by decide) ?_
    rcases ite_some h with ⟨c4, h⟩ | ⟨c4, h⟩
    · refine j_icmp_ne (tgt := 23) ok dX7_noMove_16 (by decide) (fun z => absurd c4 z) (fun _ => ?_)
      exact J.sub [] rfl (jX7_noMove_19 ok l0 q3.2 h hK)
    · refine j_icmp_ne (tgt := 23) ok dX7_noMove_16 (by decide) (fun _ => ?_) (fun z => absurd z c4)
      refine j_iconst (v := 0) ok dX7_noMove_23 (by decide) ?_
      exact J.sub [] rfl (jX7_noMove_24 ok l0 (0 : Int32) q3.2 h hK)
  · refine j_if_ne (tgt := 19) ok dX7_noMove_6 (by decide) (fun _ => ?_) (fun z => absurd z c2)
    exact J.sub [] rfl (jX7_noMove_19 ok l0 q1.2 h hK)

def fX7_noMove (l0 : Nat) (l1 : Int32) (l2 : Int32) (G : Mem) : Option (Int32 × Mem) := fX7_noMove_0 l0 l1 l2 G
set_option maxRecDepth 100000 in
theorem tX7_noMove {l : Launch} (hfl : l.stackTraces = false) (V : Wd) (l0 : Nat) (l1 : Int32) (l2 : Int32) (G : Mem) {r : Int32} {G' : Mem} (h : fX7_noMove l0 l1 l2 G = some (r, G')) : Mx l yX7_noMove cX7_noMove 3 (some .boolean) 4 91 V [.ref (V.B + l0), .int l1, .int l2] G (.inl (some (.int r))) G' :=
  mx_of (L := [(0, .ref (V.B + l0)), (1, .int l1), (2, .int l2)]) hfl (by decide +kernel) (Nat.le_of_ble_eq_true rfl) rfl (fun X hl hV hin ok he => by
    subst hl; subst hV
    exact J.sub [0, 1, 2] rfl (jX7_noMove_0 ok l0 l1 l2 G h he))
def fX7_gamesWithMove_24  (s0 : Int64) (G : Mem) : Option (Int64 × Mem) :=
  some (s0, G)

set_option maxRecDepth 100000 in
set_option maxHeartbeats 4000000 in
theorem jX7_gamesWithMove_24 {X : Cx} (ok : OK X cX7_gamesWithMove RX7 (some .long) 3 5 113)  (s0 : Int64) (G : Mem) {r : Int64} {G' : Mem} (h : fX7_gamesWithMove_24 s0 G = some (r, G')) (hK : (finJ X) r G') : J X 3 24 [] [.long s0] G := by
  unfold fX7_gamesWithMove_24 at h
  obtain ⟨er, eG⟩ := inj2 h
  subst er; subst eG
  exact j_lret ok rfl dX7_gamesWithMove_24 hK

def fX7_gamesWithMove_0 (l0 : Nat) (l1 : Int32) (l2 : Int32)  (G : Mem) : Option (Int64 × Mem) :=
  ck G 17 l0 <| (fX7_noMove l0 l1 l2 G).bind fun q1 =>
  if q1.1 = (0 : Int32) then
    ck q1.2 17 l0 <| (fX7_move l0 l1 l2 q1.2).bind fun q3 =>
    ck q3.2 17 l0 <| (fX7_gamesBy l0 l1 q3.1 q3.2).bind fun q4 =>
    fX7_gamesWithMove_24 q4.1 q4.2
  else
    fX7_gamesWithMove_24 (0 : Int64) q1.2

set_option maxRecDepth 100000 in
set_option maxHeartbeats 4000000 in
theorem jX7_gamesWithMove_0 {X : Cx} (ok : OK X cX7_gamesWithMove RX7 (some .long) 3 5 113) (l0 : Nat) (l1 : Int32) (l2 : Int32)  (G : Mem) {r : Int64} {G' : Mem} (h : fX7_gamesWithMove_0 l0 l1 l2 G = some (r, G')) (hK : (finJ X) r G') : J X 3 0 [(0, .ref (X.B + l0)), (1, .int l1), (2, .int l2)] [] G := by
  unfold fX7_gamesWithMove_0 at h
  refine j_aload_n ok dX7_gamesWithMove_0 rfl 0 rfl ?_
  refine j_iload_n ok dX7_gamesWithMove_1 rfl 1 rfl ?_
  refine j_iload_n ok dX7_gamesWithMove_2 rfl 2 rfl ?_
  obtain ⟨kq1, h⟩ := ck_some h
  obtain ⟨q1, hq1, h⟩ := obind h
  refine k_V1 ok kl_X7_381 ⟨Nat.le_of_ble_eq_true rfl, Nat.le_of_ble_eq_true rfl⟩ [.int l1, .int l2] kq1 rfl rfl (Nat.le_of_ble_eq_true rfl) (tX7_noMove ok.fl X.V l0 l1 l2 G hq1) dX7_gamesWithMove_3 ?_
  rcases ite_some h with ⟨c2, h⟩ | ⟨c2, h⟩
  · refine j_if_eq (tgt := 13) ok dX7_gamesWithMove_6 (by decide) (fun _ => ?_) (fun z => absurd c2 z)
    refine j_aload_n ok dX7_gamesWithMove_13 rfl 0 rfl ?_
    refine j_iload_n ok dX7_gamesWithMove_14 rfl 1 rfl ?_
    refine j_aload_n ok dX7_gamesWithMove_15 rfl 0 rfl ?_
    refine j_iload_n ok dX7_gamesWithMove_16 rfl 1 rfl ?_
    refine j_iload_n ok dX7_gamesWithMove_17 rfl 2 rfl ?_
    obtain ⟨kq3, h⟩ := ck_some h
    obtain ⟨q3, hq3, h⟩ := obind h
    refine k_V1 ok kl_X7_378 ⟨Nat.le_of_ble_eq_true rfl, Nat.le_of_ble_eq_true rfl⟩ [.int l1, .int l2] kq3 rfl rfl (Nat.le_of_ble_eq_true rfl) (tX7_move ok.fl X.V l0 l1 l2 q1.2 hq3) dX7_gamesWithMove_18 ?_
    obtain ⟨kq4, h⟩ := ck_some h
    obtain ⟨q4, hq4, h⟩ := obind h
    refine k_V1 ok kl_X7_384 ⟨Nat.le_of_ble_eq_true rfl, Nat.le_of_ble_eq_true rfl⟩ [.int l1, .int q3.1] kq4 rfl rfl (Nat.le_of_ble_eq_true rfl) (tX7_gamesBy ok.fl X.V l0 l1 q3.1 q3.2 hq4) dX7_gamesWithMove_21 ?_
    exact J.sub [] rfl (jX7_gamesWithMove_24 ok q4.1 q4.2 h hK)
  · refine j_if_eq (tgt := 13) ok dX7_gamesWithMove_6 (by decide) (fun z => absurd z c2) (fun _ => ?_)
    refine j_lconst (v := 0) ok dX7_gamesWithMove_9 (by decide) ?_
    refine j_goto (tgt := 24) ok dX7_gamesWithMove_10 (by decide) ?_
    exact J.sub [] rfl (jX7_gamesWithMove_24 ok (0 : Int64) q1.2 h hK)

def fX7_gamesWithMove (l0 : Nat) (l1 : Int32) (l2 : Int32) (G : Mem) : Option (Int64 × Mem) := fX7_gamesWithMove_0 l0 l1 l2 G
set_option maxRecDepth 100000 in
theorem tX7_gamesWithMove {l : Launch} (hfl : l.stackTraces = false) (V : Wd) (l0 : Nat) (l1 : Int32) (l2 : Int32) (G : Mem) {r : Int64} {G' : Mem} (h : fX7_gamesWithMove l0 l1 l2 G = some (r, G')) : Mx l yX7_gamesWithMove cX7_gamesWithMove 3 (some .long) 5 113 V [.ref (V.B + l0), .int l1, .int l2] G (.inl (some (.long r))) G' :=
  mx_of (L := [(0, .ref (V.B + l0)), (1, .int l1), (2, .int l2)]) hfl (by decide +kernel) (Nat.le_of_ble_eq_true rfl) rfl (fun X hl hV hin ok he => by
    subst hl; subst hV
    exact J.sub [0, 1, 2] rfl (jX7_gamesWithMove_0 ok l0 l1 l2 G h he))
def fX7_gamesWithPiece_111 (l5 : Int64)  (G : Mem) : Option (Int64 × Mem) :=
  some (l5, G)

set_option maxRecDepth 100000 in
set_option maxHeartbeats 4000000 in
theorem jX7_gamesWithPiece_111 {X : Cx} (ok : OK X cX7_gamesWithPiece RX7 (some .long) 8 2 44) (l5 : Int64)  (G : Mem) {r : Int64} {G' : Mem} (h : fX7_gamesWithPiece_111 l5 G = some (r, G')) (hK : (finJ X) r G') : J X 8 111 [(5, .long l5)] [] G := by
  unfold fX7_gamesWithPiece_111 at h
  refine j_lload ok dX7_gamesWithPiece_111 0 rfl ?_
  obtain ⟨er, eG⟩ := inj2 h
  subst er; subst eG
  exact j_lret ok rfl dX7_gamesWithPiece_113 hK

def fX7_gamesWithPiece_105 (l0 : Nat) (l1 : Int32) (l2 : Int32) (l3 : Int32) (l4 : Int32) (l5 : Int64) (l7 : Int32)  (G : Mem) : Option (((Int64 × Int32) ⊕ Int64) × Mem) :=
  some (.inl (l5, (l7 + (1 : Int32))), G)

set_option maxRecDepth 100000 in
set_option maxHeartbeats 4000000 in
theorem jX7_gamesWithPiece_105 {X : Cx} (ok : OK X cX7_gamesWithPiece RX7 (some .long) 8 2 44) (l0 : Nat) (l1 : Int32) (l2 : Int32) (l3 : Int32) (l4 : Int32) (l5 : Int64) (l7 : Int32)  (G : Mem) {r : ((Int64 × Int32) ⊕ Int64)} {G' : Mem} (h : fX7_gamesWithPiece_105 l0 l1 l2 l3 l4 l5 l7 G = some (r, G')) (hK : (finL X 8 46 (fun s : Int64 × Int32 => [(0, .ref (X.B + l0)), (1, .int l1), (2, .int l2), (3, .int l3), (4, .int l4), (5, .long s.1), (7, .int s.2)]) (finJ X)) r G') : J X 8 105 [(0, .ref (X.B + l0)), (1, .int l1), (2, .int l2), (3, .int l3), (4, .int l4), (5, .long l5), (7, .int l7)] [] G := by
  unfold fX7_gamesWithPiece_105 at h
  refine j_iinc (L' := [(7, .int (l7 + (1 : Int32))), (0, .ref (X.B + l0)), (1, .int l1), (2, .int l2), (3, .int l3), (4, .int l4), (5, .long l5)]) (v := (l7 + (1 : Int32))) ok dX7_gamesWithPiece_105 (q := 6) rfl rfl (by decide) rfl ?_
  refine j_goto (tgt := 46) ok dX7_gamesWithPiece_108 (by decide) ?_
  obtain ⟨er, eG⟩ := inj2 h
  subst er; subst eG
  have hJ : J X 8 46 [(0, .ref (X.B + l0)), (1, .int l1), (2, .int l2), (3, .int l3), (4, .int l4), (5, .long l5), (7, .int (l7 + (1 : Int32)))] [] G := hK
  exact J.sub [1, 2, 3, 4, 5, 6, 0] rfl hJ

def fX7_gamesWithPiece_46 (l0 : Nat) (l1 : Int32) (l2 : Int32) (l3 : Int32) (l4 : Int32) (l5 : Int64) (l7 : Int32)  (G : Mem) : Option (((Int64 × Int32) ⊕ Int64) × Mem) :=
  (gR G 17 l0 14).bind fun v1 =>
  (gR G 17 l0 0).bind fun v2 =>
  (gA G 1 v2 (2 : Int32)).bind fun v3 =>
  (gA G 1 v1 v3).bind fun v4 =>
  if v4 ≤ l7 then
    liftE (fX7_gamesWithPiece_111 l5 G)
  else
    ck G 17 l0 <| (fX7_square l0 l1 l2 G).bind fun q6 =>
    ck q6.2 17 l0 <| (fX7_last l0 l7 q6.1 q6.2).bind fun q7 =>
    (fX7_pieceOf l3 l4 q7.2).bind fun q8 =>
    if q7.1 = q8.1 then
      (gR q8.2 17 l0 18).bind fun v10 =>
      (gR q8.2 17 l0 0).bind fun v11 =>
      (gA q8.2 1 v11 (2 : Int32)).bind fun v12 =>
      (gJ q8.2 v10 ((v12 * (40 : Int32)) + l7)).bind fun v13 =>
      fX7_gamesWithPiece_105 l0 l1 l2 l3 l4 (l5 + v13) l7 q8.2
    else
      fX7_gamesWithPiece_105 l0 l1 l2 l3 l4 l5 l7 q8.2

set_option maxRecDepth 100000 in
set_option maxHeartbeats 4000000 in
theorem jX7_gamesWithPiece_46 {X : Cx} (ok : OK X cX7_gamesWithPiece RX7 (some .long) 8 2 44) (l0 : Nat) (l1 : Int32) (l2 : Int32) (l3 : Int32) (l4 : Int32) (l5 : Int64) (l7 : Int32)  (G : Mem) {r : ((Int64 × Int32) ⊕ Int64)} {G' : Mem} (h : fX7_gamesWithPiece_46 l0 l1 l2 l3 l4 l5 l7 G = some (r, G')) (hK : (finL X 8 46 (fun s : Int64 × Int32 => [(0, .ref (X.B + l0)), (1, .int l1), (2, .int l2), (3, .int l3), (4, .int l4), (5, .long s.1), (7, .int s.2)]) (finJ X)) r G') : J X 8 46 [(0, .ref (X.B + l0)), (1, .int l1), (2, .int l2), (3, .int l3), (4, .int l4), (5, .long l5), (7, .int l7)] [] G := by
  unfold fX7_gamesWithPiece_46 at h
  refine j_iload ok dX7_gamesWithPiece_46 6 rfl ?_
  refine j_aload_n ok dX7_gamesWithPiece_48 rfl 0 rfl ?_
  obtain ⟨v1, hv1, h⟩ := obind h
  refine k_getR ok fl_X7_39 hv1 dX7_gamesWithPiece_49 ?_
  refine j_aload_n ok dX7_gamesWithPiece_52 rfl 0 rfl ?_
  obtain ⟨v2, hv2, h⟩ := obind h
  refine k_getR ok fl_X7_9 hv2 dX7_gamesWithPiece_53 ?_
  refine j_iconst (v := 2) ok dX7_gamesWithPiece_56 (by decide) ?_
  obtain ⟨v3, hv3, h⟩ := obind h
  refine j_iald ok hv3 dX7_gamesWithPiece_57 ?_
  obtain ⟨v4, hv4, h⟩ := obind h
  refine j_iald ok hv4 dX7_gamesWithPiece_58 ?_
  rcases ite_some h with ⟨c5, h⟩ | ⟨c5, h⟩
  · refine j_icmp_ge (tgt := 111) ok dX7_gamesWithPiece_59 (by decide) (fun _ => ?_) (fun z => absurd c5 z)
    obtain ⟨r1, e1, h1⟩ := lift_some h
    subst e1
    exact J.sub [5] rfl (jX7_gamesWithPiece_111 ok l5 G h1 hK)
  · refine j_icmp_ge (tgt := 111) ok dX7_gamesWithPiece_59 (by decide) (fun z => absurd z c5) (fun _ => ?_)
    refine j_aload_n ok dX7_gamesWithPiece_62 rfl 0 rfl ?_
    refine j_iload ok dX7_gamesWithPiece_63 6 rfl ?_
    refine j_aload_n ok dX7_gamesWithPiece_65 rfl 0 rfl ?_
    refine j_iload_n ok dX7_gamesWithPiece_66 rfl 1 rfl ?_
    refine j_iload_n ok dX7_gamesWithPiece_67 rfl 2 rfl ?_
    obtain ⟨kq6, h⟩ := ck_some h
    obtain ⟨q6, hq6, h⟩ := obind h
    refine k_V1 ok kl_X7_349 ⟨Nat.le_of_ble_eq_true rfl, Nat.le_of_ble_eq_true rfl⟩ [.int l1, .int l2] kq6 rfl rfl (Nat.le_of_ble_eq_true rfl) (tX7_square ok.fl X.V l0 l1 l2 G hq6) dX7_gamesWithPiece_68 ?_
    obtain ⟨kq7, h⟩ := ck_some h
    obtain ⟨q7, hq7, h⟩ := obind h
    refine k_V1 ok kl_X7_352 ⟨Nat.le_of_ble_eq_true rfl, Nat.le_of_ble_eq_true rfl⟩ [.int l7, .int q6.1] kq7 rfl rfl (Nat.le_of_ble_eq_true rfl) (tX7_last ok.fl X.V l0 l7 q6.1 q6.2 hq7) dX7_gamesWithPiece_71 ?_
    refine j_iload_n ok dX7_gamesWithPiece_74 rfl 3 rfl ?_
    refine j_iload ok dX7_gamesWithPiece_75 4 rfl ?_
    obtain ⟨q8, hq8, h⟩ := obind h
    refine k_S1 ok kl_X7_130 ⟨Nat.le_of_ble_eq_true rfl, Nat.le_of_ble_eq_true rfl⟩ [.int l3, .int l4] rfl rfl (Nat.le_of_ble_eq_true rfl) (tX7_pieceOf ok.fl X.V l3 l4 q7.2 hq8) dX7_gamesWithPiece_77 ?_
    rcases ite_some h with ⟨c9, h⟩ | ⟨c9, h⟩
    · refine j_icmp_ne (tgt := 105) ok dX7_gamesWithPiece_80 (by decide) (fun z => absurd c9 z) (fun _ => ?_)
      refine j_lload ok dX7_gamesWithPiece_83 5 rfl ?_
      refine j_aload_n ok dX7_gamesWithPiece_85 rfl 0 rfl ?_
      obtain ⟨v10, hv10, h⟩ := obind h
      refine k_getR ok fl_X7_51 hv10 dX7_gamesWithPiece_86 ?_
      refine j_aload_n ok dX7_gamesWithPiece_89 rfl 0 rfl ?_
      obtain ⟨v11, hv11, h⟩ := obind h
      refine k_getR ok fl_X7_9 hv11 dX7_gamesWithPiece_90 ?_
      refine j_iconst (v := 2) ok dX7_gamesWithPiece_93 (by decide) ?_
      obtain ⟨v12, hv12, h⟩ := obind h
      refine j_iald ok hv12 dX7_gamesWithPiece_94 ?_
      refine j_bipush (v := 40) ok dX7_gamesWithPiece_95 (by decide) ?_
      refine j_imul ok dX7_gamesWithPiece_97 ?_
      refine j_iload ok dX7_gamesWithPiece_98 6 rfl ?_
      refine j_iadd ok dX7_gamesWithPiece_100 ?_
      obtain ⟨v13, hv13, h⟩ := obind h
      refine j_lald ok hv13 dX7_gamesWithPiece_101 ?_
      refine j_ladd ok dX7_gamesWithPiece_102 ?_
      refine j_lstore (L' := [(5, .long (l5 + v13)), (0, .ref (X.B + l0)), (1, .int l1), (2, .int l2), (3, .int l3), (4, .int l4), (7, .int l7)]) ok dX7_gamesWithPiece_103 (by decide) rfl ?_
      exact J.sub [1, 2, 3, 4, 5, 0, 6] rfl (jX7_gamesWithPiece_105 ok l0 l1 l2 l3 l4 (l5 + v13) l7 q8.2 h hK)
    · refine j_icmp_ne (tgt := 105) ok dX7_gamesWithPiece_80 (by decide) (fun _ => ?_) (fun z => absurd z c9)
      exact J.sub [0, 1, 2, 3, 4, 5, 6] rfl (jX7_gamesWithPiece_105 ok l0 l1 l2 l3 l4 l5 l7 q8.2 h hK)

def fX7_gamesWithPiece_31 (l0 : Nat) (l1 : Int32) (l2 : Int32) (l3 : Int32) (l4 : Int32) (s0 : Nat) (s1 : Int32) (s2 : Int32) (G : Mem) : Option (Int64 × Mem) :=
  ck G 17 s0 <| (fX7_fails s0 s1 s2 (0 : Int32) G).bind fun q1 =>
  if q1.1 = (0 : Int32) then
    loopM (fun (s : Int64 × Int32) G => fX7_gamesWithPiece_46 l0 l1 l2 l3 l4 s.1 s.2 G) FU ((0 : Int64), (0 : Int32)) q1.2
  else
    some ((0 : Int64), q1.2)

set_option maxRecDepth 100000 in
set_option maxHeartbeats 4000000 in
theorem jX7_gamesWithPiece_31 {X : Cx} (ok : OK X cX7_gamesWithPiece RX7 (some .long) 8 2 44) (l0 : Nat) (l1 : Int32) (l2 : Int32) (l3 : Int32) (l4 : Int32) (s0 : Nat) (s1 : Int32) (s2 : Int32) (G : Mem) {r : Int64} {G' : Mem} (h : fX7_gamesWithPiece_31 l0 l1 l2 l3 l4 s0 s1 s2 G = some (r, G')) (hK : (finJ X) r G') : J X 8 31 [(0, .ref (X.B + l0)), (1, .int l1), (2, .int l2), (3, .int l3), (4, .int l4)] [.int s2, .int s1, .ref (X.B + s0)] G := by
  unfold fX7_gamesWithPiece_31 at h
  refine j_iconst (v := 0) ok dX7_gamesWithPiece_31 (by decide) ?_
  obtain ⟨kq1, h⟩ := ck_some h
  obtain ⟨q1, hq1, h⟩ := obind h
  refine k_V1 ok kl_X7_186 ⟨Nat.le_of_ble_eq_true rfl, Nat.le_of_ble_eq_true rfl⟩ [.int s1, .int s2, .int (0 : Int32)] kq1 rfl rfl (Nat.le_of_ble_eq_true rfl) (tX7_fails ok.fl X.V s0 s1 s2 (0 : Int32) G hq1) dX7_gamesWithPiece_32 ?_
  rcases ite_some h with ⟨c2, h⟩ | ⟨c2, h⟩
  · refine j_if_eq (tgt := 40) ok dX7_gamesWithPiece_35 (by decide) (fun _ => ?_) (fun z => absurd c2 z)
    refine j_lconst (v := 0) ok dX7_gamesWithPiece_40 (by decide) ?_
    refine j_lstore (L' := [(5, .long (0 : Int64)), (0, .ref (X.B + l0)), (1, .int l1), (2, .int l2), (3, .int l3), (4, .int l4)]) ok dX7_gamesWithPiece_41 (by decide) rfl ?_
    refine j_iconst (v := 0) ok dX7_gamesWithPiece_43 (by decide) ?_
    refine j_istore (L' := [(7, .int (0 : Int32)), (5, .long (0 : Int64)), (0, .ref (X.B + l0)), (1, .int l1), (2, .int l2), (3, .int l3), (4, .int l4)]) ok dX7_gamesWithPiece_44 (by decide) rfl ?_
    have hJ : J X 8 46 [(0, .ref (X.B + l0)), (1, .int l1), (2, .int l2), (3, .int l3), (4, .int l4), (5, .long (0 : Int64)), (7, .int (0 : Int32))] [] q1.2 := j_loop (loc := fun s : Int64 × Int32 => [(0, .ref (X.B + l0)), (1, .int l1), (2, .int l2), (3, .int l3), (4, .int l4), (5, .long s.1), (7, .int s.2)]) (F := (finJ X)) (fun s G r G' hb hk => jX7_gamesWithPiece_46 ok l0 l1 l2 l3 l4 s.1 s.2 G hb hk) _ _ _ _ _ h hK
    exact J.sub [2, 3, 4, 5, 6, 1, 0] rfl hJ
  · refine j_if_eq (tgt := 40) ok dX7_gamesWithPiece_35 (by decide) (fun z => absurd z c2) (fun _ => ?_)
    refine j_lconst (v := 0) ok dX7_gamesWithPiece_38 (by decide) ?_
    obtain ⟨er, eG⟩ := inj2 h
    subst er; subst eG
    exact j_lret ok rfl dX7_gamesWithPiece_39 hK

def fX7_gamesWithPiece_26 (l0 : Nat) (l1 : Int32) (l2 : Int32) (l3 : Int32) (l4 : Int32) (s0 : Nat) (s1 : Int32) (G : Mem) : Option (Int64 × Mem) :=
  fX7_gamesWithPiece_31 l0 l1 l2 l3 l4 s0 s1 (1 : Int32) G

set_option maxRecDepth 100000 in
set_option maxHeartbeats 4000000 in
theorem jX7_gamesWithPiece_26 {X : Cx} (ok : OK X cX7_gamesWithPiece RX7 (some .long) 8 2 44) (l0 : Nat) (l1 : Int32) (l2 : Int32) (l3 : Int32) (l4 : Int32) (s0 : Nat) (s1 : Int32) (G : Mem) {r : Int64} {G' : Mem} (h : fX7_gamesWithPiece_26 l0 l1 l2 l3 l4 s0 s1 G = some (r, G')) (hK : (finJ X) r G') : J X 8 26 [(0, .ref (X.B + l0)), (1, .int l1), (2, .int l2), (3, .int l3), (4, .int l4)] [.int s1, .ref (X.B + s0)] G := by
  unfold fX7_gamesWithPiece_26 at h
  refine j_iconst (v := 1) ok dX7_gamesWithPiece_26 (by decide) ?_
  refine j_goto (tgt := 31) ok dX7_gamesWithPiece_27 (by decide) ?_
  exact J.sub [0, 1, 2, 3, 4] rfl (jX7_gamesWithPiece_31 ok l0 l1 l2 l3 l4 s0 s1 (1 : Int32) G h hK)

def fX7_gamesWithPiece_0 (l0 : Nat) (l1 : Int32) (l2 : Int32) (l3 : Int32) (l4 : Int32)  (G : Mem) : Option (Int64 × Mem) :=
  ck G 17 l0 <| (fX7_noSquare l0 l1 l2 G).bind fun q1 =>
  (fX7_isIn l3 (0 : Int32) (1 : Int32) q1.2).bind fun q2 =>
  if q2.1 = (0 : Int32) then
    fX7_gamesWithPiece_26 l0 l1 l2 l3 l4 l0 q1.1 q2.2
  else
    (fX7_isIn l4 (0 : Int32) (4 : Int32) q2.2).bind fun q4 =>
    if q4.1 = (0 : Int32) then
      fX7_gamesWithPiece_26 l0 l1 l2 l3 l4 l0 q1.1 q4.2
    else
      fX7_gamesWithPiece_31 l0 l1 l2 l3 l4 l0 q1.1 (0 : Int32) q4.2

set_option maxRecDepth 100000 in
set_option maxHeartbeats 4000000 in
theorem jX7_gamesWithPiece_0 {X : Cx} (ok : OK X cX7_gamesWithPiece RX7 (some .long) 8 2 44) (l0 : Nat) (l1 : Int32) (l2 : Int32) (l3 : Int32) (l4 : Int32)  (G : Mem) {r : Int64} {G' : Mem} (h : fX7_gamesWithPiece_0 l0 l1 l2 l3 l4 G = some (r, G')) (hK : (finJ X) r G') : J X 8 0 [(0, .ref (X.B + l0)), (1, .int l1), (2, .int l2), (3, .int l3), (4, .int l4)] [] G := by
  unfold fX7_gamesWithPiece_0 at h
  refine j_aload_n ok dX7_gamesWithPiece_0 rfl 0 rfl ?_
  refine j_aload_n ok dX7_gamesWithPiece_1 rfl 0 rfl ?_
  refine j_iload_n ok dX7_gamesWithPiece_2 rfl 1 rfl ?_
  refine j_iload_n ok dX7_gamesWithPiece_3 rfl 2 rfl ?_
  obtain ⟨kq1, h⟩ := ck_some h
  obtain ⟨q1, hq1, h⟩ := obind h
  refine k_V1 ok kl_X7_346 ⟨Nat.le_of_ble_eq_true rfl, Nat.le_of_ble_eq_true rfl⟩ [.int l1, .int l2] kq1 rfl rfl (Nat.le_of_ble_eq_true rfl) (tX7_noSquare ok.fl X.V l0 l1 l2 G hq1) dX7_gamesWithPiece_4 ?_
  refine j_iload_n ok dX7_gamesWithPiece_7 rfl 3 rfl ?_
  refine j_iconst (v := 0) ok dX7_gamesWithPiece_8 (by decide) ?_
  refine j_iconst (v := 1) ok dX7_gamesWithPiece_9 (by decide) ?_
  obtain ⟨q2, hq2, h⟩ := obind h
  refine k_S1 ok kl_X7_182 ⟨Nat.le_of_ble_eq_true rfl, Nat.le_of_ble_eq_true rfl⟩ [.int l3, .int (0 : Int32), .int (1 : Int32)] rfl rfl (Nat.le_of_ble_eq_true rfl) (tX7_isIn ok.fl X.V l3 (0 : Int32) (1 : Int32) q1.2 hq2) dX7_gamesWithPiece_10 ?_
  rcases ite_some h with ⟨c3, h⟩ | ⟨c3, h⟩
  · refine j_if_eq (tgt := 26) ok dX7_gamesWithPiece_13 (by decide) (fun _ => ?_) (fun z => absurd c3 z)
    exact J.sub [0, 1, 2, 3, 4] rfl (jX7_gamesWithPiece_26 ok l0 l1 l2 l3 l4 l0 q1.1 q2.2 h hK)
  · refine j_if_eq (tgt := 26) ok dX7_gamesWithPiece_13 (by decide) (fun z => absurd z c3) (fun _ => ?_)
    refine j_iload ok dX7_gamesWithPiece_16 4 rfl ?_
    refine j_iconst (v := 0) ok dX7_gamesWithPiece_18 (by decide) ?_
    refine j_iconst (v := 4) ok dX7_gamesWithPiece_19 (by decide) ?_
    obtain ⟨q4, hq4, h⟩ := obind h
    refine k_S1 ok kl_X7_182 ⟨Nat.le_of_ble_eq_true rfl, Nat.le_of_ble_eq_true rfl⟩ [.int l4, .int (0 : Int32), .int (4 : Int32)] rfl rfl (Nat.le_of_ble_eq_true rfl) (tX7_isIn ok.fl X.V l4 (0 : Int32) (4 : Int32) q2.2 hq4) dX7_gamesWithPiece_20 ?_
    rcases ite_some h with ⟨c5, h⟩ | ⟨c5, h⟩
    · refine j_if_ne (tgt := 30) ok dX7_gamesWithPiece_23 (by decide) (fun z => absurd c5 z) (fun _ => ?_)
      exact J.sub [0, 1, 2, 3, 4] rfl (jX7_gamesWithPiece_26 ok l0 l1 l2 l3 l4 l0 q1.1 q4.2 h hK)
    · refine j_if_ne (tgt := 30) ok dX7_gamesWithPiece_23 (by decide) (fun _ => ?_) (fun z => absurd z c5)
      refine j_iconst (v := 0) ok dX7_gamesWithPiece_30 (by decide) ?_
      exact J.sub [0, 1, 2, 3, 4] rfl (jX7_gamesWithPiece_31 ok l0 l1 l2 l3 l4 l0 q1.1 (0 : Int32) q4.2 h hK)

def fX7_gamesWithPiece (l0 : Nat) (l1 : Int32) (l2 : Int32) (l3 : Int32) (l4 : Int32) (G : Mem) : Option (Int64 × Mem) := fX7_gamesWithPiece_0 l0 l1 l2 l3 l4 G
set_option maxRecDepth 100000 in
theorem tX7_gamesWithPiece {l : Launch} (hfl : l.stackTraces = false) (V : Wd) (l0 : Nat) (l1 : Int32) (l2 : Int32) (l3 : Int32) (l4 : Int32) (G : Mem) {r : Int64} {G' : Mem} (h : fX7_gamesWithPiece l0 l1 l2 l3 l4 G = some (r, G')) : Mx l yX7_gamesWithPiece cX7_gamesWithPiece 8 (some .long) 2 44 V [.ref (V.B + l0), .int l1, .int l2, .int l3, .int l4] G (.inl (some (.long r))) G' :=
  mx_of (L := [(0, .ref (V.B + l0)), (1, .int l1), (2, .int l2), (3, .int l3), (4, .int l4)]) hfl (by decide +kernel) (Nat.le_of_ble_eq_true rfl) rfl (fun X hl hV hin ok he => by
    subst hl; subst hV
    exact J.sub [0, 1, 2, 3, 4] rfl (jX7_gamesWithPiece_0 ok l0 l1 l2 l3 l4 G h he))
def fX7_kings_38 (l3 : Int32)  (G : Mem) : Option (Int32 × Mem) :=
  some (l3, G)

set_option maxRecDepth 100000 in
set_option maxHeartbeats 4000000 in
theorem jX7_kings_38 {X : Cx} (ok : OK X cX7_kings RX7 (some .int) 5 2 43) (l3 : Int32)  (G : Mem) {r : Int32} {G' : Mem} (h : fX7_kings_38 l3 G = some (r, G')) (hK : (finI X) r G') : J X 5 38 [(3, .int l3)] [] G := by
  unfold fX7_kings_38 at h
  refine j_iload_n ok dX7_kings_38 rfl 0 rfl ?_
  obtain ⟨er, eG⟩ := inj2 h
  subst er; subst eG
  exact j_iret ok rfl dX7_kings_39 hK

def fX7_kings_32 (l0 : Nat) (l1 : Int32) (l2 : Int32) (l3 : Int32) (l4 : Int32)  (G : Mem) : Option (((Int32 × Int32) ⊕ Int32) × Mem) :=
  some (.inl (l3, (l4 + (1 : Int32))), G)

set_option maxRecDepth 100000 in
set_option maxHeartbeats 4000000 in
theorem jX7_kings_32 {X : Cx} (ok : OK X cX7_kings RX7 (some .int) 5 2 43) (l0 : Nat) (l1 : Int32) (l2 : Int32) (l3 : Int32) (l4 : Int32)  (G : Mem) {r : ((Int32 × Int32) ⊕ Int32)} {G' : Mem} (h : fX7_kings_32 l0 l1 l2 l3 l4 G = some (r, G')) (hK : (finL X 5 5 (fun s : Int32 × Int32 => [(0, .ref (X.B + l0)), (1, .int l1), (2, .int l2), (3, .int s.1), (4, .int s.2)]) (finI X)) r G') : J X 5 32 [(0, .ref (X.B + l0)), (1, .int l1), (2, .int l2), (3, .int l3), (4, .int l4)] [] G := by
  unfold fX7_kings_32 at h
  refine j_iinc (L' := [(4, .int (l4 + (1 : Int32))), (0, .ref (X.B + l0)), (1, .int l1), (2, .int l2), (3, .int l3)]) (v := (l4 + (1 : Int32))) ok dX7_kings_32 (q := 4) rfl rfl (by decide) rfl ?_
  refine j_goto (tgt := 5) ok dX7_kings_35 (by decide) ?_
  obtain ⟨er, eG⟩ := inj2 h
  subst er; subst eG
  have hJ : J X 5 5 [(0, .ref (X.B + l0)), (1, .int l1), (2, .int l2), (3, .int l3), (4, .int (l4 + (1 : Int32)))] [] G := hK
  exact J.sub [1, 2, 3, 4, 0] rfl hJ

def fX7_kings_5 (l0 : Nat) (l1 : Int32) (l2 : Int32) (l3 : Int32) (l4 : Int32)  (G : Mem) : Option (((Int32 × Int32) ⊕ Int32) × Mem) :=
  ck G 17 l0 <| (fX7_squareMany l0 G).bind fun q1 =>
  if q1.1 ≤ l4 then
    liftE (fX7_kings_38 l3 q1.2)
  else
    ck q1.2 17 l0 <| (fX7_last l0 l1 l4 q1.2).bind fun q3 =>
    (fX7_pieceOf l2 (0 : Int32) q3.2).bind fun q4 =>
    if q3.1 = q4.1 then
      fX7_kings_32 l0 l1 l2 (l3 + (1 : Int32)) l4 q4.2
    else
      fX7_kings_32 l0 l1 l2 l3 l4 q4.2

set_option maxRecDepth 100000 in
set_option maxHeartbeats 4000000 in
theorem jX7_kings_5 {X : Cx} (ok : OK X cX7_kings RX7 (some .int) 5 2 43) (l0 : Nat) (l1 : Int32) (l2 : Int32) (l3 : Int32) (l4 : Int32)  (G : Mem) {r : ((Int32 × Int32) ⊕ Int32)} {G' : Mem} (h : fX7_kings_5 l0 l1 l2 l3 l4 G = some (r, G')) (hK : (finL X 5 5 (fun s : Int32 × Int32 => [(0, .ref (X.B + l0)), (1, .int l1), (2, .int l2), (3, .int s.1), (4, .int s.2)]) (finI X)) r G') : J X 5 5 [(0, .ref (X.B + l0)), (1, .int l1), (2, .int l2), (3, .int l3), (4, .int l4)] [] G := by
  unfold fX7_kings_5 at h
  refine j_iload ok dX7_kings_5 4 rfl ?_
  refine j_aload_n ok dX7_kings_7 rfl 0 rfl ?_
  obtain ⟨kq1, h⟩ := ck_some h
  obtain ⟨q1, hq1, h⟩ := obind h
  refine k_V1 ok kl_X7_120 ⟨Nat.le_of_ble_eq_true rfl, Nat.le_of_ble_eq_true rfl⟩ [] kq1 rfl rfl (Nat.le_of_ble_eq_true rfl) (tX7_squareMany ok.fl X.V l0 G hq1) dX7_kings_8 ?_
  rcases ite_some h with ⟨c2, h⟩ | ⟨c2, h⟩
  · refine j_icmp_ge (tgt := 38) ok dX7_kings_11 (by decide) (fun _ => ?_) (fun z => absurd c2 z)
    obtain ⟨r1, e1, h1⟩ := lift_some h
    subst e1
    exact J.sub [3] rfl (jX7_kings_38 ok l3 q1.2 h1 hK)
  · refine j_icmp_ge (tgt := 38) ok dX7_kings_11 (by decide) (fun z => absurd z c2) (fun _ => ?_)
    refine j_aload_n ok dX7_kings_14 rfl 0 rfl ?_
    refine j_iload_n ok dX7_kings_15 rfl 1 rfl ?_
    refine j_iload ok dX7_kings_16 4 rfl ?_
    obtain ⟨kq3, h⟩ := ck_some h
    obtain ⟨q3, hq3, h⟩ := obind h
    refine k_V1 ok kl_X7_352 ⟨Nat.le_of_ble_eq_true rfl, Nat.le_of_ble_eq_true rfl⟩ [.int l1, .int l4] kq3 rfl rfl (Nat.le_of_ble_eq_true rfl) (tX7_last ok.fl X.V l0 l1 l4 q1.2 hq3) dX7_kings_18 ?_
    refine j_iload_n ok dX7_kings_21 rfl 2 rfl ?_
    refine j_iconst (v := 0) ok dX7_kings_22 (by decide) ?_
    obtain ⟨q4, hq4, h⟩ := obind h
    refine k_S1 ok kl_X7_130 ⟨Nat.le_of_ble_eq_true rfl, Nat.le_of_ble_eq_true rfl⟩ [.int l2, .int (0 : Int32)] rfl rfl (Nat.le_of_ble_eq_true rfl) (tX7_pieceOf ok.fl X.V l2 (0 : Int32) q3.2 hq4) dX7_kings_23 ?_
    rcases ite_some h with ⟨c5, h⟩ | ⟨c5, h⟩
    · refine j_icmp_ne (tgt := 32) ok dX7_kings_26 (by decide) (fun z => absurd c5 z) (fun _ => ?_)
      refine j_iinc (L' := [(3, .int (l3 + (1 : Int32))), (0, .ref (X.B + l0)), (1, .int l1), (2, .int l2), (4, .int l4)]) (v := (l3 + (1 : Int32))) ok dX7_kings_29 (q := 3) rfl rfl (by decide) rfl ?_
      exact J.sub [1, 2, 3, 0, 4] rfl (jX7_kings_32 ok l0 l1 l2 (l3 + (1 : Int32)) l4 q4.2 h hK)
    · refine j_icmp_ne (tgt := 32) ok dX7_kings_26 (by decide) (fun _ => ?_) (fun z => absurd z c5)
      exact J.sub [0, 1, 2, 3, 4] rfl (jX7_kings_32 ok l0 l1 l2 l3 l4 q4.2 h hK)

def fX7_kings_0 (l0 : Nat) (l1 : Int32) (l2 : Int32)  (G : Mem) : Option (Int32 × Mem) :=
  loopM (fun (s : Int32 × Int32) G => fX7_kings_5 l0 l1 l2 s.1 s.2 G) FU ((0 : Int32), (0 : Int32)) G

set_option maxRecDepth 100000 in
set_option maxHeartbeats 4000000 in
theorem jX7_kings_0 {X : Cx} (ok : OK X cX7_kings RX7 (some .int) 5 2 43) (l0 : Nat) (l1 : Int32) (l2 : Int32)  (G : Mem) {r : Int32} {G' : Mem} (h : fX7_kings_0 l0 l1 l2 G = some (r, G')) (hK : (finI X) r G') : J X 5 0 [(0, .ref (X.B + l0)), (1, .int l1), (2, .int l2)] [] G := by
  unfold fX7_kings_0 at h
  refine j_iconst (v := 0) ok dX7_kings_0 (by decide) ?_
  refine j_istore_n (L' := [(3, .int (0 : Int32)), (0, .ref (X.B + l0)), (1, .int l1), (2, .int l2)]) ok dX7_kings_1 rfl (by decide) rfl ?_
  refine j_iconst (v := 0) ok dX7_kings_2 (by decide) ?_
  refine j_istore (L' := [(4, .int (0 : Int32)), (3, .int (0 : Int32)), (0, .ref (X.B + l0)), (1, .int l1), (2, .int l2)]) ok dX7_kings_3 (by decide) rfl ?_
  have hJ : J X 5 5 [(0, .ref (X.B + l0)), (1, .int l1), (2, .int l2), (3, .int (0 : Int32)), (4, .int (0 : Int32))] [] G := j_loop (loc := fun s : Int32 × Int32 => [(0, .ref (X.B + l0)), (1, .int l1), (2, .int l2), (3, .int s.1), (4, .int s.2)]) (F := (finI X)) (fun s G r G' hb hk => jX7_kings_5 ok l0 l1 l2 s.1 s.2 G hb hk) _ _ _ _ _ h hK
  exact J.sub [2, 3, 4, 1, 0] rfl hJ

def fX7_kings (l0 : Nat) (l1 : Int32) (l2 : Int32) (G : Mem) : Option (Int32 × Mem) := fX7_kings_0 l0 l1 l2 G
set_option maxRecDepth 100000 in
theorem tX7_kings {l : Launch} (hfl : l.stackTraces = false) (V : Wd) (l0 : Nat) (l1 : Int32) (l2 : Int32) (G : Mem) {r : Int32} {G' : Mem} (h : fX7_kings l0 l1 l2 G = some (r, G')) : Mx l yX7_kings cX7_kings 5 (some .int) 2 43 V [.ref (V.B + l0), .int l1, .int l2] G (.inl (some (.int r))) G' :=
  mx_of (L := [(0, .ref (V.B + l0)), (1, .int l1), (2, .int l2)]) hfl (by decide +kernel) (Nat.le_of_ble_eq_true rfl) rfl (fun X hl hV hin ok he => by
    subst hl; subst hV
    exact J.sub [0, 1, 2] rfl (jX7_kings_0 ok l0 l1 l2 G h he))
def fX7_isOdd_20   (G : Mem) : Option (Int32 × Mem) :=
  some ((1 : Int32), G)

set_option maxRecDepth 100000 in
set_option maxHeartbeats 4000000 in
theorem jX7_isOdd_20 {X : Cx} (ok : OK X cX7_isOdd RX7 (some .boolean) 4 4 172)   (G : Mem) {r : Int32} {G' : Mem} (h : fX7_isOdd_20  G = some (r, G')) (hK : (finI X) r G') : J X 4 20 [] [] G := by
  unfold fX7_isOdd_20 at h
  refine j_iconst (v := 1) ok dX7_isOdd_20 (by decide) ?_
  obtain ⟨er, eG⟩ := inj2 h
  subst er; subst eG
  exact j_zret ok rfl (Or.inr rfl) dX7_isOdd_21 hK

def fX7_isOdd_83  (s0 : Int32) (G : Mem) : Option (Int32 × Mem) :=
  rz s0 <|
  some (s0, G)

set_option maxRecDepth 100000 in
set_option maxHeartbeats 4000000 in
theorem jX7_isOdd_83 {X : Cx} (ok : OK X cX7_isOdd RX7 (some .boolean) 4 4 172)  (s0 : Int32) (G : Mem) {r : Int32} {G' : Mem} (h : fX7_isOdd_83 s0 G = some (r, G')) (hK : (finI X) r G') : J X 4 83 [] [.int s0] G := by
  unfold fX7_isOdd_83 at h
  obtain ⟨hz1, h⟩ := rz_some h
  obtain ⟨er, eG⟩ := inj2 h
  subst er; subst eG
  exact j_zret ok rfl hz1 dX7_isOdd_83 hK

def fX7_isOdd_82   (G : Mem) : Option (Int32 × Mem) :=
  fX7_isOdd_83 (0 : Int32) G

set_option maxRecDepth 100000 in
set_option maxHeartbeats 4000000 in
theorem jX7_isOdd_82 {X : Cx} (ok : OK X cX7_isOdd RX7 (some .boolean) 4 4 172)   (G : Mem) {r : Int32} {G' : Mem} (h : fX7_isOdd_82  G = some (r, G')) (hK : (finI X) r G') : J X 4 82 [] [] G := by
  unfold fX7_isOdd_82 at h
  refine j_iconst (v := 0) ok dX7_isOdd_82 (by decide) ?_
  exact J.sub [] rfl (jX7_isOdd_83 ok (0 : Int32) G h hK)

def fX7_isOdd_0 (l0 : Nat) (l1 : Int32)  (G : Mem) : Option (Int32 × Mem) :=
  ck G 17 l0 <| (fX7_kings l0 l1 (0 : Int32) G).bind fun q1 =>
  if q1.1 = (1 : Int32) then
    ck q1.2 17 l0 <| (fX7_kings l0 l1 (1 : Int32) q1.2).bind fun q3 =>
    if q3.1 = (1 : Int32) then
      (gR q3.2 17 l0 0).bind fun v5 =>
      (gA q3.2 1 v5 (2 : Int32)).bind fun v6 =>
      (fX7_position v6 l1 q3.2).bind fun q7 =>
      (gR q7.2 17 l0 0).bind fun v8 =>
      (gA q7.2 1 v8 (2 : Int32)).bind fun v9 =>
      (gR q7.2 17 l0 0).bind fun v10 =>
      (gA q7.2 1 v10 (2 : Int32)).bind fun v11 =>
      if v11 ≤ (0 : Int32) then
        fX7_isOdd_82 q7.2
      else
        (gR q7.2 17 l0 13).bind fun v13 =>
        (gR q7.2 17 l0 13).bind fun v14 =>
        ck q7.2 17 l0 <| (fX7_kingOf l0 v14 q7.1 ((1 : Int32) - (v9 - v9 / (2 : Int32) * (2 : Int32))) q7.2).bind fun q15 =>
        ck q15.2 17 l0 <| (fX7_attacks l0 v13 q7.1 ((1 : Int32) - ((1 : Int32) - (v9 - v9 / (2 : Int32) * (2 : Int32)))) q15.1 q15.2).bind fun q16 =>
        if q16.1 = (0 : Int32) then
          fX7_isOdd_82 q16.2
        else
          fX7_isOdd_83 (1 : Int32) q16.2
    else
      fX7_isOdd_20 q3.2
  else
    fX7_isOdd_20 q1.2

set_option maxRecDepth 100000 in
set_option maxHeartbeats 4000000 in
theorem jX7_isOdd_0 {X : Cx} (ok : OK X cX7_isOdd RX7 (some .boolean) 4 4 172) (l0 : Nat) (l1 : Int32)  (G : Mem) {r : Int32} {G' : Mem} (h : fX7_isOdd_0 l0 l1 G = some (r, G')) (hK : (finI X) r G') : J X 4 0 [(0, .ref (X.B + l0)), (1, .int l1)] [] G := by
  unfold fX7_isOdd_0 at h
  refine j_aload_n ok dX7_isOdd_0 rfl 0 rfl ?_
  refine j_iload_n ok dX7_isOdd_1 rfl 1 rfl ?_
  refine j_iconst (v := 0) ok dX7_isOdd_2 (by decide) ?_
  obtain ⟨kq1, h⟩ := ck_some h
  obtain ⟨q1, hq1, h⟩ := obind h
  refine k_V1 ok kl_X7_389 ⟨Nat.le_of_ble_eq_true rfl, Nat.le_of_ble_eq_true rfl⟩ [.int l1, .int (0 : Int32)] kq1 rfl rfl (Nat.le_of_ble_eq_true rfl) (tX7_kings ok.fl X.V l0 l1 (0 : Int32) G hq1) dX7_isOdd_3 ?_
  refine j_iconst (v := 1) ok dX7_isOdd_6 (by decide) ?_
  rcases ite_some h with ⟨c2, h⟩ | ⟨c2, h⟩
  · refine j_icmp_ne (tgt := 20) ok dX7_isOdd_7 (by decide) (fun z => absurd c2 z) (fun _ => ?_)
    refine j_aload_n ok dX7_isOdd_10 rfl 0 rfl ?_
    refine j_iload_n ok dX7_isOdd_11 rfl 1 rfl ?_
    refine j_iconst (v := 1) ok dX7_isOdd_12 (by decide) ?_
    obtain ⟨kq3, h⟩ := ck_some h
    obtain ⟨q3, hq3, h⟩ := obind h
    refine k_V1 ok kl_X7_389 ⟨Nat.le_of_ble_eq_true rfl, Nat.le_of_ble_eq_true rfl⟩ [.int l1, .int (1 : Int32)] kq3 rfl rfl (Nat.le_of_ble_eq_true rfl) (tX7_kings ok.fl X.V l0 l1 (1 : Int32) q1.2 hq3) dX7_isOdd_13 ?_
    refine j_iconst (v := 1) ok dX7_isOdd_16 (by decide) ?_
    rcases ite_some h with ⟨c4, h⟩ | ⟨c4, h⟩
    · refine j_icmp_eq (tgt := 22) ok dX7_isOdd_17 (by decide) (fun _ => ?_) (fun z => absurd c4 z)
      refine j_aload_n ok dX7_isOdd_22 rfl 0 rfl ?_
      obtain ⟨v5, hv5, h⟩ := obind h
      refine k_getR ok fl_X7_9 hv5 dX7_isOdd_23 ?_
      refine j_iconst (v := 2) ok dX7_isOdd_26 (by decide) ?_
      obtain ⟨v6, hv6, h⟩ := obind h
      refine j_iald ok hv6 dX7_isOdd_27 ?_
      refine j_iload_n ok dX7_isOdd_28 rfl 1 rfl ?_
      obtain ⟨q7, hq7, h⟩ := obind h
      refine k_S1 ok kl_X7_134 ⟨Nat.le_of_ble_eq_true rfl, Nat.le_of_ble_eq_true rfl⟩ [.int v6, .int l1] rfl rfl (Nat.le_of_ble_eq_true rfl) (tX7_position ok.fl X.V v6 l1 q3.2 hq7) dX7_isOdd_29 ?_
      refine j_istore_n (L' := [(2, .int q7.1), (0, .ref (X.B + l0)), (1, .int l1)]) ok dX7_isOdd_32 rfl (by decide) rfl ?_
      refine j_iconst (v := 1) ok dX7_isOdd_33 (by decide) ?_
      refine j_aload_n ok dX7_isOdd_34 rfl 1 rfl ?_
      obtain ⟨v8, hv8, h⟩ := obind h
      refine k_getR ok fl_X7_9 hv8 dX7_isOdd_35 ?_
      refine j_iconst (v := 2) ok dX7_isOdd_38 (by decide) ?_
      obtain ⟨v9, hv9, h⟩ := obind h
      refine j_iald ok hv9 dX7_isOdd_39 ?_
      refine j_iconst (v := 2) ok dX7_isOdd_40 (by decide) ?_
      refine j_irem ok dX7_isOdd_41 (by decide) ?_
      refine j_isub ok dX7_isOdd_42 ?_
      refine j_istore_n (L' := [(3, .int ((1 : Int32) - (v9 - v9 / (2 : Int32) * (2 : Int32)))), (2, .int q7.1), (0, .ref (X.B + l0)), (1, .int l1)]) ok dX7_isOdd_43 rfl (by decide) rfl ?_
      refine j_aload_n ok dX7_isOdd_44 rfl 2 rfl ?_
      obtain ⟨v10, hv10, h⟩ := obind h
      refine k_getR ok fl_X7_9 hv10 dX7_isOdd_45 ?_
      refine j_iconst (v := 2) ok dX7_isOdd_48 (by decide) ?_
      obtain ⟨v11, hv11, h⟩ := obind h
      refine j_iald ok hv11 dX7_isOdd_49 ?_
      rcases ite_some h with ⟨c12, h⟩ | ⟨c12, h⟩
      · refine j_if_le (tgt := 82) ok dX7_isOdd_50 (by decide) (fun _ => ?_) (fun z => absurd c12 z)
        exact J.sub [] rfl (jX7_isOdd_82 ok q7.2 h hK)
      · refine j_if_le (tgt := 82) ok dX7_isOdd_50 (by decide) (fun z => absurd z c12) (fun _ => ?_)
        refine j_aload_n ok dX7_isOdd_53 rfl 2 rfl ?_
        refine j_aload_n ok dX7_isOdd_54 rfl 2 rfl ?_
        obtain ⟨v13, hv13, h⟩ := obind h
        refine k_getR ok fl_X7_36 hv13 dX7_isOdd_55 ?_
        refine j_iload_n ok dX7_isOdd_58 rfl 1 rfl ?_
        refine j_iconst (v := 1) ok dX7_isOdd_59 (by decide) ?_
        refine j_iload_n ok dX7_isOdd_60 rfl 0 rfl ?_
        refine j_isub ok dX7_isOdd_61 ?_
        refine j_aload_n ok dX7_isOdd_62 rfl 2 rfl ?_
        refine j_aload_n ok dX7_isOdd_63 rfl 2 rfl ?_
        obtain ⟨v14, hv14, h⟩ := obind h
        refine k_getR ok fl_X7_36 hv14 dX7_isOdd_64 ?_
        refine j_iload_n ok dX7_isOdd_67 rfl 1 rfl ?_
        refine j_iload_n ok dX7_isOdd_68 rfl 0 rfl ?_
        obtain ⟨kq15, h⟩ := ck_some h
        obtain ⟨q15, hq15, h⟩ := obind h
        refine k_V1 ok kl_X7_137 ⟨Nat.le_of_ble_eq_true rfl, Nat.le_of_ble_eq_true rfl⟩ [.ref (X.B + v14), .int q7.1, .int ((1 : Int32) - (v9 - v9 / (2 : Int32) * (2 : Int32)))] kq15 rfl rfl (Nat.le_of_ble_eq_true rfl) (tX7_kingOf ok.fl X.V l0 v14 q7.1 ((1 : Int32) - (v9 - v9 / (2 : Int32) * (2 : Int32))) q7.2 hq15) dX7_isOdd_69 ?_
        obtain ⟨kq16, h⟩ := ck_some h
        obtain ⟨q16, hq16, h⟩ := obind h
        refine k_V1 ok kl_X7_141 ⟨Nat.le_of_ble_eq_true rfl, Nat.le_of_ble_eq_true rfl⟩ [.ref (X.B + v13), .int q7.1, .int ((1 : Int32) - ((1 : Int32) - (v9 - v9 / (2 : Int32) * (2 : Int32)))), .int q15.1] kq16 rfl rfl (Nat.le_of_ble_eq_true rfl) (tX7_attacks ok.fl X.V l0 v13 q7.1 ((1 : Int32) - ((1 : Int32) - (v9 - v9 / (2 : Int32) * (2 : Int32)))) q15.1 q15.2 hq16) dX7_isOdd_72 ?_
        rcases ite_some h with ⟨c17, h⟩ | ⟨c17, h⟩
        · refine j_if_eq (tgt := 82) ok dX7_isOdd_75 (by decide) (fun _ => ?_) (fun z => absurd c17 z)
          exact J.sub [] rfl (jX7_isOdd_82 ok q16.2 h hK)
        · refine j_if_eq (tgt := 82) ok dX7_isOdd_75 (by decide) (fun z => absurd z c17) (fun _ => ?_)
          refine j_iconst (v := 1) ok dX7_isOdd_78 (by decide) ?_
          refine j_goto (tgt := 83) ok dX7_isOdd_79 (by decide) ?_
          exact J.sub [] rfl (jX7_isOdd_83 ok (1 : Int32) q16.2 h hK)
    · refine j_icmp_eq (tgt := 22) ok dX7_isOdd_17 (by decide) (fun z => absurd z c4) (fun _ => ?_)
      exact J.sub [] rfl (jX7_isOdd_20 ok q3.2 h hK)
  · refine j_icmp_ne (tgt := 20) ok dX7_isOdd_7 (by decide) (fun _ => ?_) (fun z => absurd z c2)
    exact J.sub [] rfl (jX7_isOdd_20 ok q1.2 h hK)

def fX7_isOdd (l0 : Nat) (l1 : Int32) (G : Mem) : Option (Int32 × Mem) := fX7_isOdd_0 l0 l1 G
set_option maxRecDepth 100000 in
theorem tX7_isOdd {l : Launch} (hfl : l.stackTraces = false) (V : Wd) (l0 : Nat) (l1 : Int32) (G : Mem) {r : Int32} {G' : Mem} (h : fX7_isOdd l0 l1 G = some (r, G')) : Mx l yX7_isOdd cX7_isOdd 4 (some .boolean) 4 172 V [.ref (V.B + l0), .int l1] G (.inl (some (.int r))) G' :=
  mx_of (L := [(0, .ref (V.B + l0)), (1, .int l1)]) hfl (by decide +kernel) (Nat.le_of_ble_eq_true rfl) rfl (fun X hl hV hin ok he => by
    subst hl; subst hV
    exact J.sub [0, 1] rfl (jX7_isOdd_0 ok l0 l1 G h he))
def fX7_inconsistencies_128 (l3 : Int32)  (G : Mem) : Option (Int32 × Mem) :=
  some (l3, G)

set_option maxRecDepth 100000 in
set_option maxHeartbeats 4000000 in
theorem jX7_inconsistencies_128 {X : Cx} (ok : OK X cX7_inconsistencies RX7 (some .int) 8 5 195) (l3 : Int32)  (G : Mem) {r : Int32} {G' : Mem} (h : fX7_inconsistencies_128 l3 G = some (r, G')) (hK : (finI X) r G') : J X 8 128 [(3, .int l3)] [] G := by
  unfold fX7_inconsistencies_128 at h
  refine j_iload_n ok dX7_inconsistencies_128 rfl 0 rfl ?_
  obtain ⟨er, eG⟩ := inj2 h
  subst er; subst eG
  exact j_iret ok rfl dX7_inconsistencies_129 hK

def fX7_inconsistencies_122 (l0 : Nat) (l3 : Int32) (l4 : Int32)  (G : Mem) : Option (((Int32 × Int32) ⊕ Int32) × Mem) :=
  some (.inl (l3, (l4 + (1 : Int32))), G)

set_option maxRecDepth 100000 in
set_option maxHeartbeats 4000000 in
theorem jX7_inconsistencies_122 {X : Cx} (ok : OK X cX7_inconsistencies RX7 (some .int) 8 5 195) (l0 : Nat) (l3 : Int32) (l4 : Int32)  (G : Mem) {r : ((Int32 × Int32) ⊕ Int32)} {G' : Mem} (h : fX7_inconsistencies_122 l0 l3 l4 G = some (r, G')) (hK : (finL X 8 94 (fun s : Int32 × Int32 => [(0, .ref (X.B + l0)), (3, .int s.1), (4, .int s.2)]) (finI X)) r G') : J X 8 122 [(0, .ref (X.B + l0)), (3, .int l3), (4, .int l4)] [] G := by
  unfold fX7_inconsistencies_122 at h
  refine j_iinc (L' := [(4, .int (l4 + (1 : Int32))), (0, .ref (X.B + l0)), (3, .int l3)]) (v := (l4 + (1 : Int32))) ok dX7_inconsistencies_122 (q := 2) rfl rfl (by decide) rfl ?_
  refine j_goto (tgt := 94) ok dX7_inconsistencies_125 (by decide) ?_
  obtain ⟨er, eG⟩ := inj2 h
  subst er; subst eG
  have hJ : J X 8 94 [(0, .ref (X.B + l0)), (3, .int l3), (4, .int (l4 + (1 : Int32)))] [] G := hK
  exact J.sub [1, 2, 0] rfl hJ

def fX7_inconsistencies_94 (l0 : Nat) (l3 : Int32) (l4 : Int32)  (G : Mem) : Option (((Int32 × Int32) ⊕ Int32) × Mem) :=
  (gR G 17 l0 14).bind fun v1 =>
  (gR G 17 l0 0).bind fun v2 =>
  (gA G 1 v2 (2 : Int32)).bind fun v3 =>
  (gA G 1 v1 v3).bind fun v4 =>
  if v4 ≤ l4 then
    liftE (fX7_inconsistencies_128 l3 G)
  else
    ck G 17 l0 <| (fX7_isOdd l0 l4 G).bind fun q6 =>
    if q6.1 = (0 : Int32) then
      fX7_inconsistencies_122 l0 l3 l4 q6.2
    else
      fX7_inconsistencies_122 l0 (l3 + (1 : Int32)) l4 q6.2

set_option maxRecDepth 100000 in
set_option maxHeartbeats 4000000 in
theorem jX7_inconsistencies_94 {X : Cx} (ok : OK X cX7_inconsistencies RX7 (some .int) 8 5 195) (l0 : Nat) (l3 : Int32) (l4 : Int32)  (G : Mem) {r : ((Int32 × Int32) ⊕ Int32)} {G' : Mem} (h : fX7_inconsistencies_94 l0 l3 l4 G = some (r, G')) (hK : (finL X 8 94 (fun s : Int32 × Int32 => [(0, .ref (X.B + l0)), (3, .int s.1), (4, .int s.2)]) (finI X)) r G') : J X 8 94 [(0, .ref (X.B + l0)), (3, .int l3), (4, .int l4)] [] G := by
  unfold fX7_inconsistencies_94 at h
  refine j_iload ok dX7_inconsistencies_94 2 rfl ?_
  refine j_aload_n ok dX7_inconsistencies_96 rfl 0 rfl ?_
  obtain ⟨v1, hv1, h⟩ := obind h
  refine k_getR ok fl_X7_39 hv1 dX7_inconsistencies_97 ?_
  refine j_aload_n ok dX7_inconsistencies_100 rfl 0 rfl ?_
  obtain ⟨v2, hv2, h⟩ := obind h
  refine k_getR ok fl_X7_9 hv2 dX7_inconsistencies_101 ?_
  refine j_iconst (v := 2) ok dX7_inconsistencies_104 (by decide) ?_
  obtain ⟨v3, hv3, h⟩ := obind h
  refine j_iald ok hv3 dX7_inconsistencies_105 ?_
  obtain ⟨v4, hv4, h⟩ := obind h
  refine j_iald ok hv4 dX7_inconsistencies_106 ?_
  rcases ite_some h with ⟨c5, h⟩ | ⟨c5, h⟩
  · refine j_icmp_ge (tgt := 128) ok dX7_inconsistencies_107 (by decide) (fun _ => ?_) (fun z => absurd c5 z)
    obtain ⟨r1, e1, h1⟩ := lift_some h
    subst e1
    exact J.sub [1] rfl (jX7_inconsistencies_128 ok l3 G h1 hK)
  · refine j_icmp_ge (tgt := 128) ok dX7_inconsistencies_107 (by decide) (fun z => absurd z c5) (fun _ => ?_)
    refine j_aload_n ok dX7_inconsistencies_110 rfl 0 rfl ?_
    refine j_iload ok dX7_inconsistencies_111 2 rfl ?_
    obtain ⟨kq6, h⟩ := ck_some h
    obtain ⟨q6, hq6, h⟩ := obind h
    refine k_V1 ok kl_X7_392 ⟨Nat.le_of_ble_eq_true rfl, Nat.le_of_ble_eq_true rfl⟩ [.int l4] kq6 rfl rfl (Nat.le_of_ble_eq_true rfl) (tX7_isOdd ok.fl X.V l0 l4 G hq6) dX7_inconsistencies_113 ?_
    rcases ite_some h with ⟨c7, h⟩ | ⟨c7, h⟩
    · refine j_if_eq (tgt := 122) ok dX7_inconsistencies_116 (by decide) (fun _ => ?_) (fun z => absurd c7 z)
      exact J.sub [0, 1, 2] rfl (jX7_inconsistencies_122 ok l0 l3 l4 q6.2 h hK)
    · refine j_if_eq (tgt := 122) ok dX7_inconsistencies_116 (by decide) (fun z => absurd z c7) (fun _ => ?_)
      refine j_iinc (L' := [(3, .int (l3 + (1 : Int32))), (0, .ref (X.B + l0)), (4, .int l4)]) (v := (l3 + (1 : Int32))) ok dX7_inconsistencies_119 (q := 1) rfl rfl (by decide) rfl ?_
      exact J.sub [1, 0, 2] rfl (jX7_inconsistencies_122 ok l0 (l3 + (1 : Int32)) l4 q6.2 h hK)

def fX7_inconsistencies_91 (l0 : Nat) (l3 : Int32)  (G : Mem) : Option (Int32 × Mem) :=
  loopM (fun (s : Int32 × Int32) G => fX7_inconsistencies_94 l0 s.1 s.2 G) FU (l3, (0 : Int32)) G

set_option maxRecDepth 100000 in
set_option maxHeartbeats 4000000 in
theorem jX7_inconsistencies_91 {X : Cx} (ok : OK X cX7_inconsistencies RX7 (some .int) 8 5 195) (l0 : Nat) (l3 : Int32)  (G : Mem) {r : Int32} {G' : Mem} (h : fX7_inconsistencies_91 l0 l3 G = some (r, G')) (hK : (finI X) r G') : J X 8 91 [(0, .ref (X.B + l0)), (3, .int l3)] [] G := by
  unfold fX7_inconsistencies_91 at h
  refine j_iconst (v := 0) ok dX7_inconsistencies_91 (by decide) ?_
  refine j_istore (L' := [(4, .int (0 : Int32)), (0, .ref (X.B + l0)), (3, .int l3)]) ok dX7_inconsistencies_92 (by decide) rfl ?_
  have hJ : J X 8 94 [(0, .ref (X.B + l0)), (3, .int l3), (4, .int (0 : Int32))] [] G := j_loop (loc := fun s : Int32 × Int32 => [(0, .ref (X.B + l0)), (3, .int s.1), (4, .int s.2)]) (F := (finI X)) (fun s G r G' hb hk => jX7_inconsistencies_94 ok l0 s.1 s.2 G hb hk) _ _ _ _ _ h hK
  exact J.sub [1, 2, 0] rfl hJ

def fX7_inconsistencies_85 (l0 : Nat) (l1 : Int64) (l3 : Int32) (l4 : Int32)  (G : Mem) : Option (((Int32 × Int32) ⊕ Int32) × Mem) :=
  some (.inl (l3, (l4 + (1 : Int32))), G)

set_option maxRecDepth 100000 in
set_option maxHeartbeats 4000000 in
theorem jX7_inconsistencies_85 {X : Cx} (ok : OK X cX7_inconsistencies RX7 (some .int) 8 5 195) (l0 : Nat) (l1 : Int64) (l3 : Int32) (l4 : Int32)  (G : Mem) {r : ((Int32 × Int32) ⊕ Int32)} {G' : Mem} (h : fX7_inconsistencies_85 l0 l1 l3 l4 G = some (r, G')) (hK : (finL X 8 15 (fun s : Int32 × Int32 => [(0, .ref (X.B + l0)), (1, .long l1), (3, .int s.1), (4, .int s.2)]) (finI X)) r G') : J X 8 85 [(0, .ref (X.B + l0)), (1, .long l1), (3, .int l3), (4, .int l4)] [] G := by
  unfold fX7_inconsistencies_85 at h
  refine j_iinc (L' := [(4, .int (l4 + (1 : Int32))), (0, .ref (X.B + l0)), (1, .long l1), (3, .int l3)]) (v := (l4 + (1 : Int32))) ok dX7_inconsistencies_85 (q := 3) rfl rfl (by decide) rfl ?_
  refine j_goto (tgt := 15) ok dX7_inconsistencies_88 (by decide) ?_
  obtain ⟨er, eG⟩ := inj2 h
  subst er; subst eG
  have hJ : J X 8 15 [(0, .ref (X.B + l0)), (1, .long l1), (3, .int l3), (4, .int (l4 + (1 : Int32)))] [] G := hK
  exact J.sub [1, 2, 3, 0] rfl hJ

def fX7_inconsistencies_75 (l0 : Nat) (l1 : Int64) (l3 : Int32) (l4 : Int32) (l5 : Int64)  (G : Mem) : Option (((Int32 × Int32) ⊕ Int32) × Mem) :=
  if (lg_cmp l5 l1) = (0 : Int32) then
    fX7_inconsistencies_85 l0 l1 l3 l4 G
  else
    fX7_inconsistencies_85 l0 l1 (l3 + (1 : Int32)) l4 G

set_option maxRecDepth 100000 in
set_option maxHeartbeats 4000000 in
theorem jX7_inconsistencies_75 {X : Cx} (ok : OK X cX7_inconsistencies RX7 (some .int) 8 5 195) (l0 : Nat) (l1 : Int64) (l3 : Int32) (l4 : Int32) (l5 : Int64)  (G : Mem) {r : ((Int32 × Int32) ⊕ Int32)} {G' : Mem} (h : fX7_inconsistencies_75 l0 l1 l3 l4 l5 G = some (r, G')) (hK : (finL X 8 15 (fun s : Int32 × Int32 => [(0, .ref (X.B + l0)), (1, .long l1), (3, .int s.1), (4, .int s.2)]) (finI X)) r G') : J X 8 75 [(0, .ref (X.B + l0)), (1, .long l1), (3, .int l3), (4, .int l4), (5, .long l5)] [] G := by
  unfold fX7_inconsistencies_75 at h
  refine j_lload ok dX7_inconsistencies_75 4 rfl ?_
  refine j_lload_n ok dX7_inconsistencies_77 rfl 1 rfl ?_
  refine j_lcmp ok dX7_inconsistencies_78 ?_
  rcases ite_some h with ⟨c1, h⟩ | ⟨c1, h⟩
  · refine j_if_eq (tgt := 85) ok dX7_inconsistencies_79 (by decide) (fun _ => ?_) (fun z => absurd c1 z)
    exact J.sub [0, 1, 2, 3] rfl (jX7_inconsistencies_85 ok l0 l1 l3 l4 G h hK)
  · refine j_if_eq (tgt := 85) ok dX7_inconsistencies_79 (by decide) (fun z => absurd z c1) (fun _ => ?_)
    refine j_iinc (L' := [(3, .int (l3 + (1 : Int32))), (0, .ref (X.B + l0)), (1, .long l1), (4, .int l4), (5, .long l5)]) (v := (l3 + (1 : Int32))) ok dX7_inconsistencies_82 (q := 2) rfl rfl (by decide) rfl ?_
    exact J.sub [1, 2, 0, 3] rfl (jX7_inconsistencies_85 ok l0 l1 (l3 + (1 : Int32)) l4 G h hK)

def fX7_inconsistencies_32 (l0 : Nat) (l1 : Int64) (l3 : Int32) (l4 : Int32) (l5 : Int64) (l7 : Int32)  (G : Mem) : Option (((Int64 × Int32) ⊕ ((Int32 × Int32) ⊕ Int32)) × Mem) :=
  (gR G 17 l0 16).bind fun v1 =>
  (gA G 1 v1 l4).bind fun v2 =>
  if v2 ≤ l7 then
    liftE (fX7_inconsistencies_75 l0 l1 l3 l4 l5 G)
  else
    (gR G 17 l0 15).bind fun v4 =>
    (gA G 1 v4 ((l4 * (1600 : Int32)) + l7)).bind fun v5 =>
    ck G 17 l0 <| (fX7_over l0 l4 v5 G).bind fun q6 =>
    some (.inl ((l5 + q6.1), (l7 + (1 : Int32))), q6.2)

set_option maxRecDepth 100000 in
set_option maxHeartbeats 4000000 in
theorem jX7_inconsistencies_32 {X : Cx} (ok : OK X cX7_inconsistencies RX7 (some .int) 8 5 195) (l0 : Nat) (l1 : Int64) (l3 : Int32) (l4 : Int32) (l5 : Int64) (l7 : Int32)  (G : Mem) {r : ((Int64 × Int32) ⊕ ((Int32 × Int32) ⊕ Int32))} {G' : Mem} (h : fX7_inconsistencies_32 l0 l1 l3 l4 l5 l7 G = some (r, G')) (hK : (finL X 8 32 (fun s : Int64 × Int32 => [(0, .ref (X.B + l0)), (1, .long l1), (3, .int l3), (4, .int l4), (5, .long s.1), (7, .int s.2)]) (finL X 8 15 (fun s : Int32 × Int32 => [(0, .ref (X.B + l0)), (1, .long l1), (3, .int s.1), (4, .int s.2)]) (finI X))) r G') : J X 8 32 [(0, .ref (X.B + l0)), (1, .long l1), (3, .int l3), (4, .int l4), (5, .long l5), (7, .int l7)] [] G := by
  unfold fX7_inconsistencies_32 at h
  refine j_iload ok dX7_inconsistencies_32 5 rfl ?_
  refine j_aload_n ok dX7_inconsistencies_34 rfl 0 rfl ?_
  obtain ⟨v1, hv1, h⟩ := obind h
  refine k_getR ok fl_X7_45 hv1 dX7_inconsistencies_35 ?_
  refine j_iload ok dX7_inconsistencies_38 3 rfl ?_
  obtain ⟨v2, hv2, h⟩ := obind h
  refine j_iald ok hv2 dX7_inconsistencies_40 ?_
  rcases ite_some h with ⟨c3, h⟩ | ⟨c3, h⟩
  · refine j_icmp_ge (tgt := 75) ok dX7_inconsistencies_41 (by decide) (fun _ => ?_) (fun z => absurd c3 z)
    obtain ⟨r1, e1, h1⟩ := lift_some h
    subst e1
    exact J.sub [0, 1, 2, 3, 4] rfl (jX7_inconsistencies_75 ok l0 l1 l3 l4 l5 G h1 hK)
  · refine j_icmp_ge (tgt := 75) ok dX7_inconsistencies_41 (by decide) (fun z => absurd z c3) (fun _ => ?_)
    refine j_lload ok dX7_inconsistencies_44 4 rfl ?_
    refine j_aload_n ok dX7_inconsistencies_46 rfl 0 rfl ?_
    refine j_iload ok dX7_inconsistencies_47 3 rfl ?_
    refine j_aload_n ok dX7_inconsistencies_49 rfl 0 rfl ?_
    obtain ⟨v4, hv4, h⟩ := obind h
    refine k_getR ok fl_X7_42 hv4 dX7_inconsistencies_50 ?_
    refine j_iload ok dX7_inconsistencies_53 3 rfl ?_
    refine j_sipush (v := 1600) ok dX7_inconsistencies_55 (by decide) ?_
    refine j_imul ok dX7_inconsistencies_58 ?_
    refine j_iload ok dX7_inconsistencies_59 5 rfl ?_
    refine j_iadd ok dX7_inconsistencies_61 ?_
    obtain ⟨v5, hv5, h⟩ := obind h
    refine j_iald ok hv5 dX7_inconsistencies_62 ?_
    obtain ⟨kq6, h⟩ := ck_some h
    obtain ⟨q6, hq6, h⟩ := obind h
    refine k_V1 ok kl_X7_371 ⟨Nat.le_of_ble_eq_true rfl, Nat.le_of_ble_eq_true rfl⟩ [.int l4, .int v5] kq6 rfl rfl (Nat.le_of_ble_eq_true rfl) (tX7_over ok.fl X.V l0 l4 v5 G hq6) dX7_inconsistencies_63 ?_
    refine j_ladd ok dX7_inconsistencies_66 ?_
    refine j_lstore (L' := [(5, .long (l5 + q6.1)), (0, .ref (X.B + l0)), (1, .long l1), (3, .int l3), (4, .int l4), (7, .int l7)]) ok dX7_inconsistencies_67 (by decide) rfl ?_
    refine j_iinc (L' := [(7, .int (l7 + (1 : Int32))), (5, .long (l5 + q6.1)), (0, .ref (X.B + l0)), (1, .long l1), (3, .int l3), (4, .int l4)]) (v := (l7 + (1 : Int32))) ok dX7_inconsistencies_69 (q := 5) rfl rfl (by decide) rfl ?_
    refine j_goto (tgt := 32) ok dX7_inconsistencies_72 (by decide) ?_
    obtain ⟨er, eG⟩ := inj2 h
    subst er; subst eG
    have hJ : J X 8 32 [(0, .ref (X.B + l0)), (1, .long l1), (3, .int l3), (4, .int l4), (5, .long (l5 + q6.1)), (7, .int (l7 + (1 : Int32)))] [] q6.2 := hK
    exact J.sub [2, 3, 4, 5, 1, 0] rfl hJ

def fX7_inconsistencies_15 (l0 : Nat) (l1 : Int64) (l3 : Int32) (l4 : Int32)  (G : Mem) : Option (((Int32 × Int32) ⊕ Int32) × Mem) :=
  (gR G 17 l0 0).bind fun v1 =>
  (gA G 1 v1 (2 : Int32)).bind fun v2 =>
  if v2 ≤ l4 then
    liftE (fX7_inconsistencies_91 l0 l3 G)
  else
    loopM (fun (s : Int64 × Int32) G => fX7_inconsistencies_32 l0 l1 l3 l4 s.1 s.2 G) FU ((0 : Int64), (0 : Int32)) G

set_option maxRecDepth 100000 in
set_option maxHeartbeats 4000000 in
theorem jX7_inconsistencies_15 {X : Cx} (ok : OK X cX7_inconsistencies RX7 (some .int) 8 5 195) (l0 : Nat) (l1 : Int64) (l3 : Int32) (l4 : Int32)  (G : Mem) {r : ((Int32 × Int32) ⊕ Int32)} {G' : Mem} (h : fX7_inconsistencies_15 l0 l1 l3 l4 G = some (r, G')) (hK : (finL X 8 15 (fun s : Int32 × Int32 => [(0, .ref (X.B + l0)), (1, .long l1), (3, .int s.1), (4, .int s.2)]) (finI X)) r G') : J X 8 15 [(0, .ref (X.B + l0)), (1, .long l1), (3, .int l3), (4, .int l4)] [] G := by
  unfold fX7_inconsistencies_15 at h
  refine j_iload ok dX7_inconsistencies_15 3 rfl ?_
  refine j_aload_n ok dX7_inconsistencies_17 rfl 0 rfl ?_
  obtain ⟨v1, hv1, h⟩ := obind h
  refine k_getR ok fl_X7_9 hv1 dX7_inconsistencies_18 ?_
  refine j_iconst (v := 2) ok dX7_inconsistencies_21 (by decide) ?_
  obtain ⟨v2, hv2, h⟩ := obind h
  refine j_iald ok hv2 dX7_inconsistencies_22 ?_
  rcases ite_some h with ⟨c3, h⟩ | ⟨c3, h⟩
  · refine j_icmp_ge (tgt := 91) ok dX7_inconsistencies_23 (by decide) (fun _ => ?_) (fun z => absurd c3 z)
    obtain ⟨r1, e1, h1⟩ := lift_some h
    subst e1
    exact J.sub [0, 2] rfl (jX7_inconsistencies_91 ok l0 l3 G h1 hK)
  · refine j_icmp_ge (tgt := 91) ok dX7_inconsistencies_23 (by decide) (fun z => absurd z c3) (fun _ => ?_)
    refine j_lconst (v := 0) ok dX7_inconsistencies_26 (by decide) ?_
    refine j_lstore (L' := [(5, .long (0 : Int64)), (0, .ref (X.B + l0)), (1, .long l1), (3, .int l3), (4, .int l4)]) ok dX7_inconsistencies_27 (by decide) rfl ?_
    refine j_iconst (v := 0) ok dX7_inconsistencies_29 (by decide) ?_
    refine j_istore (L' := [(7, .int (0 : Int32)), (5, .long (0 : Int64)), (0, .ref (X.B + l0)), (1, .long l1), (3, .int l3), (4, .int l4)]) ok dX7_inconsistencies_30 (by decide) rfl ?_
    have hJ : J X 8 32 [(0, .ref (X.B + l0)), (1, .long l1), (3, .int l3), (4, .int l4), (5, .long (0 : Int64)), (7, .int (0 : Int32))] [] G := j_loop (loc := fun s : Int64 × Int32 => [(0, .ref (X.B + l0)), (1, .long l1), (3, .int l3), (4, .int l4), (5, .long s.1), (7, .int s.2)]) (F := (finL X 8 15 (fun s : Int32 × Int32 => [(0, .ref (X.B + l0)), (1, .long l1), (3, .int s.1), (4, .int s.2)]) (finI X))) (fun s G r G' hb hk => jX7_inconsistencies_32 ok l0 l1 l3 l4 s.1 s.2 G hb hk) _ _ _ _ _ h hK
    exact J.sub [2, 3, 4, 5, 1, 0] rfl hJ

def fX7_inconsistencies_0 (l0 : Nat)  (G : Mem) : Option (Int32 × Mem) :=
  (pI G 17 l0 6 (0 : Int32)).bind fun G1 =>
  ck G1 17 l0 <| (fX7_games l0 G1).bind fun q2 =>
  loopM (fun (s : Int32 × Int32) G => fX7_inconsistencies_15 l0 q2.1 s.1 s.2 G) FU ((0 : Int32), (0 : Int32)) q2.2

set_option maxRecDepth 100000 in
set_option maxHeartbeats 4000000 in
theorem jX7_inconsistencies_0 {X : Cx} (ok : OK X cX7_inconsistencies RX7 (some .int) 8 5 195) (l0 : Nat)  (G : Mem) {r : Int32} {G' : Mem} (h : fX7_inconsistencies_0 l0 G = some (r, G')) (hK : (finI X) r G') : J X 8 0 [(0, .ref (X.B + l0))] [] G := by
  unfold fX7_inconsistencies_0 at h
  refine j_aload_n ok dX7_inconsistencies_0 rfl 0 rfl ?_
  refine j_iconst (v := 0) ok dX7_inconsistencies_1 (by decide) ?_
  obtain ⟨G1, hG1, h⟩ := obind h
  refine k_putI ok fl_X7_86 fp_X7 rfl (Or.inl rfl) hG1 dX7_inconsistencies_2 ?_
  refine j_aload_n ok dX7_inconsistencies_5 rfl 0 rfl ?_
  obtain ⟨kq2, h⟩ := ck_some h
  obtain ⟨q2, hq2, h⟩ := obind h
  refine k_V1 ok kl_X7_361 ⟨Nat.le_of_ble_eq_true rfl, Nat.le_of_ble_eq_true rfl⟩ [] kq2 rfl rfl (Nat.le_of_ble_eq_true rfl) (tX7_games ok.fl X.V l0 G1 hq2) dX7_inconsistencies_6 ?_
  refine j_lstore_n (L' := [(1, .long q2.1), (0, .ref (X.B + l0))]) ok dX7_inconsistencies_9 rfl (by decide) rfl ?_
  refine j_iconst (v := 0) ok dX7_inconsistencies_10 (by decide) ?_
  refine j_istore_n (L' := [(3, .int (0 : Int32)), (1, .long q2.1), (0, .ref (X.B + l0))]) ok dX7_inconsistencies_11 rfl (by decide) rfl ?_
  refine j_iconst (v := 0) ok dX7_inconsistencies_12 (by decide) ?_
  refine j_istore (L' := [(4, .int (0 : Int32)), (3, .int (0 : Int32)), (1, .long q2.1), (0, .ref (X.B + l0))]) ok dX7_inconsistencies_13 (by decide) rfl ?_
  have hJ : J X 8 15 [(0, .ref (X.B + l0)), (1, .long q2.1), (3, .int (0 : Int32)), (4, .int (0 : Int32))] [] q2.2 := j_loop (loc := fun s : Int32 × Int32 => [(0, .ref (X.B + l0)), (1, .long q2.1), (3, .int s.1), (4, .int s.2)]) (F := (finI X)) (fun s G r G' hb hk => jX7_inconsistencies_15 ok l0 q2.1 s.1 s.2 G hb hk) _ _ _ _ _ h hK
  exact J.sub [3, 2, 1, 0] rfl hJ

def fX7_inconsistencies (l0 : Nat) (G : Mem) : Option (Int32 × Mem) := fX7_inconsistencies_0 l0 G
set_option maxRecDepth 100000 in
theorem tX7_inconsistencies {l : Launch} (hfl : l.stackTraces = false) (V : Wd) (l0 : Nat) (G : Mem) {r : Int32} {G' : Mem} (h : fX7_inconsistencies l0 G = some (r, G')) : Mx l yX7_inconsistencies cX7_inconsistencies 8 (some .int) 5 195 V [.ref (V.B + l0)] G (.inl (some (.int r))) G' :=
  mx_of (L := [(0, .ref (V.B + l0))]) hfl (by decide +kernel) (Nat.le_of_ble_eq_true rfl) rfl (fun X hl hV hin ok he => by
    subst hl; subst hV
    exact J.sub [0] rfl (jX7_inconsistencies_0 ok l0 G h he))
