def fX6_inconsistencies_125  (s0 : Int32) (G : Mem) : Option (Int32 × Mem) :=
  some (s0, G)

set_option maxRecDepth 100000 in
set_option maxHeartbeats 4000000 in
theorem jX6_inconsistencies_125 {X : Cx} (ok : OK X cX6_inconsistencies RX6 (some .int) 5 4 89)  (s0 : Int32) (G : Mem) {r : Int32} {G' : Mem} (h : fX6_inconsistencies_125 s0 G = some (r, G')) (hK : (finI X) r G') : J X 5 125 [] [.int s0] G := by
  unfold fX6_inconsistencies_125 at h
  obtain ⟨er, eG⟩ := inj2 h
  subst er; subst eG
  exact j_iret ok rfl dX6_inconsistencies_125 hK

def fX6_inconsistencies_106 (l0 : Nat) (l1 : Int32) (l2 : Int64)  (G : Mem) : Option (Int32 × Mem) :=
  (gR G 16 l0 1).bind fun v1 =>
  ck G 14 v1 <| (fX4_gamesFromStart v1 G).bind fun q2 =>
  if (lg_cmp q2.1 l2) = (0 : Int32) then
    fX6_inconsistencies_125 l1 q2.2
  else
    fX6_inconsistencies_125 (l1 + (1 : Int32)) q2.2

set_option maxRecDepth 100000 in
set_option maxHeartbeats 4000000 in
theorem jX6_inconsistencies_106 {X : Cx} (ok : OK X cX6_inconsistencies RX6 (some .int) 5 4 89) (l0 : Nat) (l1 : Int32) (l2 : Int64)  (G : Mem) {r : Int32} {G' : Mem} (h : fX6_inconsistencies_106 l0 l1 l2 G = some (r, G')) (hK : (finI X) r G') : J X 5 106 [(0, .ref (X.B + l0)), (1, .int l1), (2, .long l2)] [] G := by
  unfold fX6_inconsistencies_106 at h
  refine j_aload_n ok dX6_inconsistencies_106 rfl 0 rfl ?_
  obtain ⟨v1, hv1, h⟩ := obind h
  refine k_getR ok fl_X6_19 hv1 dX6_inconsistencies_107 ?_
  obtain ⟨kq2, h⟩ := ck_some h
  obtain ⟨q2, hq2, h⟩ := obind h
  refine k_V1 ok kl_X6_303 ⟨Nat.le_of_ble_eq_true rfl, Nat.le_of_ble_eq_true rfl⟩ [] kq2 rfl rfl (Nat.le_of_ble_eq_true rfl) (tX4_gamesFromStart ok.fl X.V v1 G hq2) dX6_inconsistencies_110 ?_
  refine j_lload_n ok dX6_inconsistencies_113 rfl 2 rfl ?_
  refine j_lcmp ok dX6_inconsistencies_114 ?_
  rcases ite_some h with ⟨c3, h⟩ | ⟨c3, h⟩
  · refine j_if_ne (tgt := 122) ok dX6_inconsistencies_115 (by decide) (fun z => absurd c3 z) (fun _ => ?_)
    refine j_iload_n ok dX6_inconsistencies_118 rfl 1 rfl ?_
    refine j_goto (tgt := 125) ok dX6_inconsistencies_119 (by decide) ?_
    exact J.sub [] rfl (jX6_inconsistencies_125 ok l1 q2.2 h hK)
  · refine j_if_ne (tgt := 122) ok dX6_inconsistencies_115 (by decide) (fun _ => ?_) (fun z => absurd z c3)
    refine j_iload_n ok dX6_inconsistencies_122 rfl 1 rfl ?_
    refine j_iconst (v := 1) ok dX6_inconsistencies_123 (by decide) ?_
    refine j_iadd ok dX6_inconsistencies_124 ?_
    exact J.sub [] rfl (jX6_inconsistencies_125 ok (l1 + (1 : Int32)) q2.2 h hK)

def fX6_inconsistencies_100 (l0 : Nat) (l1 : Int32) (l2 : Int64) (l4 : Int32)  (G : Mem) : Option (((Int32 × Int32) ⊕ Int32) × Mem) :=
  some (.inl (l1, (l4 + (1 : Int32))), G)

set_option maxRecDepth 100000 in
set_option maxHeartbeats 4000000 in
theorem jX6_inconsistencies_100 {X : Cx} (ok : OK X cX6_inconsistencies RX6 (some .int) 5 4 89) (l0 : Nat) (l1 : Int32) (l2 : Int64) (l4 : Int32)  (G : Mem) {r : ((Int32 × Int32) ⊕ Int32)} {G' : Mem} (h : fX6_inconsistencies_100 l0 l1 l2 l4 G = some (r, G')) (hK : (finL X 5 62 (fun s : Int32 × Int32 => [(0, .ref (X.B + l0)), (1, .int s.1), (2, .long l2), (4, .int s.2)]) (finI X)) r G') : J X 5 100 [(0, .ref (X.B + l0)), (1, .int l1), (2, .long l2), (4, .int l4)] [] G := by
  unfold fX6_inconsistencies_100 at h
  refine j_iinc (L' := [(4, .int (l4 + (1 : Int32))), (0, .ref (X.B + l0)), (1, .int l1), (2, .long l2)]) (v := (l4 + (1 : Int32))) ok dX6_inconsistencies_100 (q := 3) rfl rfl (by decide) rfl ?_
  refine j_goto (tgt := 62) ok dX6_inconsistencies_103 (by decide) ?_
  obtain ⟨er, eG⟩ := inj2 h
  subst er; subst eG
  have hJ : J X 5 62 [(0, .ref (X.B + l0)), (1, .int l1), (2, .long l2), (4, .int (l4 + (1 : Int32)))] [] G := hK
  exact J.sub [1, 2, 3, 0] rfl hJ

def fX6_inconsistencies_62 (l0 : Nat) (l1 : Int32) (l2 : Int64) (l4 : Int32)  (G : Mem) : Option (((Int32 × Int32) ⊕ Int32) × Mem) :=
  (gR G 16 l0 3).bind fun v1 =>
  ck G 13 v1 <| (fX3_positionCount v1 G).bind fun q2 =>
  if q2.1 ≤ l4 then
    liftE (fX6_inconsistencies_106 l0 l1 l2 q2.2)
  else
    (gR q2.2 16 l0 3).bind fun v4 =>
    (gR q2.2 16 l0 3).bind fun v5 =>
    (gF q2.2 13 v5 1).bind fun v6 =>
    ck q2.2 13 v4 <| (fX3_show v4 v6 l4 q2.2).bind fun q7 =>
    ck q7.2 16 l0 <| (fX6_areKingsInOrder l0 q7.2).bind fun q8 =>
    if q8.1 = (0 : Int32) then
      fX6_inconsistencies_100 l0 (l1 + (1 : Int32)) l2 l4 q8.2
    else
      fX6_inconsistencies_100 l0 l1 l2 l4 q8.2

set_option maxRecDepth 100000 in
set_option maxHeartbeats 4000000 in
theorem jX6_inconsistencies_62 {X : Cx} (ok : OK X cX6_inconsistencies RX6 (some .int) 5 4 89) (l0 : Nat) (l1 : Int32) (l2 : Int64) (l4 : Int32)  (G : Mem) {r : ((Int32 × Int32) ⊕ Int32)} {G' : Mem} (h : fX6_inconsistencies_62 l0 l1 l2 l4 G = some (r, G')) (hK : (finL X 5 62 (fun s : Int32 × Int32 => [(0, .ref (X.B + l0)), (1, .int s.1), (2, .long l2), (4, .int s.2)]) (finI X)) r G') : J X 5 62 [(0, .ref (X.B + l0)), (1, .int l1), (2, .long l2), (4, .int l4)] [] G := by
  unfold fX6_inconsistencies_62 at h
  refine j_iload ok dX6_inconsistencies_62 3 rfl ?_
  refine j_aload_n ok dX6_inconsistencies_64 rfl 0 rfl ?_
  obtain ⟨v1, hv1, h⟩ := obind h
  refine k_getR ok fl_X6_33 hv1 dX6_inconsistencies_65 ?_
  obtain ⟨kq2, h⟩ := ck_some h
  obtain ⟨q2, hq2, h⟩ := obind h
  refine k_V1 ok kl_X6_294 ⟨Nat.le_of_ble_eq_true rfl, Nat.le_of_ble_eq_true rfl⟩ [] kq2 rfl rfl (Nat.le_of_ble_eq_true rfl) (tX3_positionCount ok.fl X.V v1 G hq2) dX6_inconsistencies_68 ?_
  rcases ite_some h with ⟨c3, h⟩ | ⟨c3, h⟩
  · refine j_icmp_ge (tgt := 106) ok dX6_inconsistencies_71 (by decide) (fun _ => ?_) (fun z => absurd c3 z)
    obtain ⟨r1, e1, h1⟩ := lift_some h
    subst e1
    exact J.sub [0, 1, 2] rfl (jX6_inconsistencies_106 ok l0 l1 l2 q2.2 h1 hK)
  · refine j_icmp_ge (tgt := 106) ok dX6_inconsistencies_71 (by decide) (fun z => absurd z c3) (fun _ => ?_)
    refine j_aload_n ok dX6_inconsistencies_74 rfl 0 rfl ?_
    obtain ⟨v4, hv4, h⟩ := obind h
    refine k_getR ok fl_X6_33 hv4 dX6_inconsistencies_75 ?_
    refine j_aload_n ok dX6_inconsistencies_78 rfl 0 rfl ?_
    obtain ⟨v5, hv5, h⟩ := obind h
    refine k_getR ok fl_X6_33 hv5 dX6_inconsistencies_79 ?_
    obtain ⟨v6, hv6, h⟩ := obind h
    refine k_getI ok fl_X6_174 hv6 dX6_inconsistencies_82 ?_
    refine j_iload ok dX6_inconsistencies_85 3 rfl ?_
    obtain ⟨kq7, h⟩ := ck_some h
    obtain ⟨q7, hq7, h⟩ := obind h
    refine k_V0 ok kl_X6_247 ⟨Nat.le_of_ble_eq_true rfl, Nat.le_of_ble_eq_true rfl⟩ [.int v6, .int l4] kq7 rfl rfl (Nat.le_of_ble_eq_true rfl) (tX3_show ok.fl X.V v4 v6 l4 q2.2 hq7) dX6_inconsistencies_87 ?_
    refine j_aload_n ok dX6_inconsistencies_90 rfl 0 rfl ?_
    obtain ⟨kq8, h⟩ := ck_some h
    obtain ⟨q8, hq8, h⟩ := obind h
    refine k_V1 ok kl_X6_300 ⟨Nat.le_of_ble_eq_true rfl, Nat.le_of_ble_eq_true rfl⟩ [] kq8 rfl rfl (Nat.le_of_ble_eq_true rfl) (tX6_areKingsInOrder ok.fl X.V l0 q7.2 hq8) dX6_inconsistencies_91 ?_
    rcases ite_some h with ⟨c9, h⟩ | ⟨c9, h⟩
    · refine j_if_ne (tgt := 100) ok dX6_inconsistencies_94 (by decide) (fun z => absurd c9 z) (fun _ => ?_)
      refine j_iinc (L' := [(1, .int (l1 + (1 : Int32))), (0, .ref (X.B + l0)), (2, .long l2), (4, .int l4)]) (v := (l1 + (1 : Int32))) ok dX6_inconsistencies_97 (q := 1) rfl rfl (by decide) rfl ?_
      exact J.sub [1, 0, 2, 3] rfl (jX6_inconsistencies_100 ok l0 (l1 + (1 : Int32)) l2 l4 q8.2 h hK)
    · refine j_if_ne (tgt := 100) ok dX6_inconsistencies_94 (by decide) (fun _ => ?_) (fun z => absurd z c9)
      exact J.sub [0, 1, 2, 3] rfl (jX6_inconsistencies_100 ok l0 l1 l2 l4 q8.2 h hK)

def fX6_inconsistencies_59 (l0 : Nat) (l1 : Int32) (l2 : Int64)  (G : Mem) : Option (Int32 × Mem) :=
  loopM (fun (s : Int32 × Int32) G => fX6_inconsistencies_62 l0 s.1 l2 s.2 G) FU (l1, (0 : Int32)) G

set_option maxRecDepth 100000 in
set_option maxHeartbeats 4000000 in
theorem jX6_inconsistencies_59 {X : Cx} (ok : OK X cX6_inconsistencies RX6 (some .int) 5 4 89) (l0 : Nat) (l1 : Int32) (l2 : Int64)  (G : Mem) {r : Int32} {G' : Mem} (h : fX6_inconsistencies_59 l0 l1 l2 G = some (r, G')) (hK : (finI X) r G') : J X 5 59 [(0, .ref (X.B + l0)), (1, .int l1), (2, .long l2)] [] G := by
  unfold fX6_inconsistencies_59 at h
  refine j_iconst (v := 0) ok dX6_inconsistencies_59 (by decide) ?_
  refine j_istore (L' := [(4, .int (0 : Int32)), (0, .ref (X.B + l0)), (1, .int l1), (2, .long l2)]) ok dX6_inconsistencies_60 (by decide) rfl ?_
  have hJ : J X 5 62 [(0, .ref (X.B + l0)), (1, .int l1), (2, .long l2), (4, .int (0 : Int32))] [] G := j_loop (loc := fun s : Int32 × Int32 => [(0, .ref (X.B + l0)), (1, .int s.1), (2, .long l2), (4, .int s.2)]) (F := (finI X)) (fun s G r G' hb hk => jX6_inconsistencies_62 ok l0 s.1 l2 s.2 G hb hk) _ _ _ _ _ h hK
  exact J.sub [1, 2, 3, 0] rfl hJ

def fX6_inconsistencies_53 (l0 : Nat) (l1 : Int32) (l2 : Int64) (l4 : Int32)  (G : Mem) : Option (((Int32 × Int32) ⊕ Int32) × Mem) :=
  some (.inl (l1, (l4 + (1 : Int32))), G)

set_option maxRecDepth 100000 in
set_option maxHeartbeats 4000000 in
theorem jX6_inconsistencies_53 {X : Cx} (ok : OK X cX6_inconsistencies RX6 (some .int) 5 4 89) (l0 : Nat) (l1 : Int32) (l2 : Int64) (l4 : Int32)  (G : Mem) {r : ((Int32 × Int32) ⊕ Int32)} {G' : Mem} (h : fX6_inconsistencies_53 l0 l1 l2 l4 G = some (r, G')) (hK : (finL X 5 13 (fun s : Int32 × Int32 => [(0, .ref (X.B + l0)), (1, .int s.1), (2, .long l2), (4, .int s.2)]) (finI X)) r G') : J X 5 53 [(0, .ref (X.B + l0)), (1, .int l1), (2, .long l2), (4, .int l4)] [] G := by
  unfold fX6_inconsistencies_53 at h
  refine j_iinc (L' := [(4, .int (l4 + (1 : Int32))), (0, .ref (X.B + l0)), (1, .int l1), (2, .long l2)]) (v := (l4 + (1 : Int32))) ok dX6_inconsistencies_53 (q := 3) rfl rfl (by decide) rfl ?_
  refine j_goto (tgt := 13) ok dX6_inconsistencies_56 (by decide) ?_
  obtain ⟨er, eG⟩ := inj2 h
  subst er; subst eG
  have hJ : J X 5 13 [(0, .ref (X.B + l0)), (1, .int l1), (2, .long l2), (4, .int (l4 + (1 : Int32)))] [] G := hK
  exact J.sub [1, 2, 3, 0] rfl hJ

def fX6_inconsistencies_13 (l0 : Nat) (l1 : Int32) (l2 : Int64) (l4 : Int32)  (G : Mem) : Option (((Int32 × Int32) ⊕ Int32) × Mem) :=
  (gR G 16 l0 3).bind fun v1 =>
  (gF G 13 v1 1).bind fun v2 =>
  if v2 ≤ l4 then
    liftE (fX6_inconsistencies_59 l0 l1 l2 G)
  else
    (gR G 16 l0 1).bind fun v4 =>
    (gR G 16 l0 3).bind fun v5 =>
    ck G 14 v4 <| (fX4_countGames v4 v5 l4 G).bind fun q6 =>
    (gR q6.2 16 l0 1).bind fun v7 =>
    ck q6.2 14 v7 <| (fX4_total v7 q6.2).bind fun q8 =>
    if (lg_cmp q8.1 l2) = (0 : Int32) then
      fX6_inconsistencies_53 l0 l1 l2 l4 q8.2
    else
      fX6_inconsistencies_53 l0 (l1 + (1 : Int32)) l2 l4 q8.2

set_option maxRecDepth 100000 in
set_option maxHeartbeats 4000000 in
theorem jX6_inconsistencies_13 {X : Cx} (ok : OK X cX6_inconsistencies RX6 (some .int) 5 4 89) (l0 : Nat) (l1 : Int32) (l2 : Int64) (l4 : Int32)  (G : Mem) {r : ((Int32 × Int32) ⊕ Int32)} {G' : Mem} (h : fX6_inconsistencies_13 l0 l1 l2 l4 G = some (r, G')) (hK : (finL X 5 13 (fun s : Int32 × Int32 => [(0, .ref (X.B + l0)), (1, .int s.1), (2, .long l2), (4, .int s.2)]) (finI X)) r G') : J X 5 13 [(0, .ref (X.B + l0)), (1, .int l1), (2, .long l2), (4, .int l4)] [] G := by
  unfold fX6_inconsistencies_13 at h
  refine j_iload ok dX6_inconsistencies_13 3 rfl ?_
  refine j_aload_n ok dX6_inconsistencies_15 rfl 0 rfl ?_
  obtain ⟨v1, hv1, h⟩ := obind h
  refine k_getR ok fl_X6_33 hv1 dX6_inconsistencies_16 ?_
  obtain ⟨v2, hv2, h⟩ := obind h
  refine k_getI ok fl_X6_174 hv2 dX6_inconsistencies_19 ?_
  rcases ite_some h with ⟨c3, h⟩ | ⟨c3, h⟩
  · refine j_icmp_ge (tgt := 59) ok dX6_inconsistencies_22 (by decide) (fun _ => ?_) (fun z => absurd c3 z)
    obtain ⟨r1, e1, h1⟩ := lift_some h
    subst e1
    exact J.sub [0, 1, 2] rfl (jX6_inconsistencies_59 ok l0 l1 l2 G h1 hK)
  · refine j_icmp_ge (tgt := 59) ok dX6_inconsistencies_22 (by decide) (fun z => absurd z c3) (fun _ => ?_)
    refine j_aload_n ok dX6_inconsistencies_25 rfl 0 rfl ?_
    obtain ⟨v4, hv4, h⟩ := obind h
    refine k_getR ok fl_X6_19 hv4 dX6_inconsistencies_26 ?_
    refine j_aload_n ok dX6_inconsistencies_29 rfl 0 rfl ?_
    obtain ⟨v5, hv5, h⟩ := obind h
    refine k_getR ok fl_X6_33 hv5 dX6_inconsistencies_30 ?_
    refine j_iload ok dX6_inconsistencies_33 3 rfl ?_
    obtain ⟨kq6, h⟩ := ck_some h
    obtain ⟨q6, hq6, h⟩ := obind h
    refine k_V0 ok kl_X6_275 ⟨Nat.le_of_ble_eq_true rfl, Nat.le_of_ble_eq_true rfl⟩ [.ref (X.B + v5), .int l4] kq6 rfl rfl (Nat.le_of_ble_eq_true rfl) (tX4_countGames ok.fl X.V v4 v5 l4 G hq6) dX6_inconsistencies_35 ?_
    refine j_aload_n ok dX6_inconsistencies_38 rfl 0 rfl ?_
    obtain ⟨v7, hv7, h⟩ := obind h
    refine k_getR ok fl_X6_19 hv7 dX6_inconsistencies_39 ?_
    obtain ⟨kq8, h⟩ := ck_some h
    obtain ⟨q8, hq8, h⟩ := obind h
    refine k_V1 ok kl_X6_297 ⟨Nat.le_of_ble_eq_true rfl, Nat.le_of_ble_eq_true rfl⟩ [] kq8 rfl rfl (Nat.le_of_ble_eq_true rfl) (tX4_total ok.fl X.V v7 q6.2 hq8) dX6_inconsistencies_42 ?_
    refine j_lload_n ok dX6_inconsistencies_45 rfl 2 rfl ?_
    refine j_lcmp ok dX6_inconsistencies_46 ?_
    rcases ite_some h with ⟨c9, h⟩ | ⟨c9, h⟩
    · refine j_if_eq (tgt := 53) ok dX6_inconsistencies_47 (by decide) (fun _ => ?_) (fun z => absurd c9 z)
      exact J.sub [0, 1, 2, 3] rfl (jX6_inconsistencies_53 ok l0 l1 l2 l4 q8.2 h hK)
    · refine j_if_eq (tgt := 53) ok dX6_inconsistencies_47 (by decide) (fun z => absurd z c9) (fun _ => ?_)
      refine j_iinc (L' := [(1, .int (l1 + (1 : Int32))), (0, .ref (X.B + l0)), (2, .long l2), (4, .int l4)]) (v := (l1 + (1 : Int32))) ok dX6_inconsistencies_50 (q := 1) rfl rfl (by decide) rfl ?_
      exact J.sub [1, 0, 2, 3] rfl (jX6_inconsistencies_53 ok l0 (l1 + (1 : Int32)) l2 l4 q8.2 h hK)

def fX6_inconsistencies_0 (l0 : Nat)  (G : Mem) : Option (Int32 × Mem) :=
  (gR G 16 l0 3).bind fun v1 =>
  ck G 13 v1 <| (fX3_gameTotal v1 G).bind fun q2 =>
  loopM (fun (s : Int32 × Int32) G => fX6_inconsistencies_13 l0 s.1 q2.1 s.2 G) FU ((0 : Int32), (0 : Int32)) q2.2

set_option maxRecDepth 100000 in
set_option maxHeartbeats 4000000 in
theorem jX6_inconsistencies_0 {X : Cx} (ok : OK X cX6_inconsistencies RX6 (some .int) 5 4 89) (l0 : Nat)  (G : Mem) {r : Int32} {G' : Mem} (h : fX6_inconsistencies_0 l0 G = some (r, G')) (hK : (finI X) r G') : J X 5 0 [(0, .ref (X.B + l0))] [] G := by
  unfold fX6_inconsistencies_0 at h
  refine j_iconst (v := 0) ok dX6_inconsistencies_0 (by decide) ?_
  refine j_istore_n (L' := [(1, .int (0 : Int32)), (0, .ref (X.B + l0))]) ok dX6_inconsistencies_1 rfl (by decide) rfl ?_
  refine j_aload_n ok dX6_inconsistencies_2 rfl 1 rfl ?_
  obtain ⟨v1, hv1, h⟩ := obind h
  refine k_getR ok fl_X6_33 hv1 dX6_inconsistencies_3 ?_
  obtain ⟨kq2, h⟩ := ck_some h
  obtain ⟨q2, hq2, h⟩ := obind h
  refine k_V1 ok kl_X6_271 ⟨Nat.le_of_ble_eq_true rfl, Nat.le_of_ble_eq_true rfl⟩ [] kq2 rfl rfl (Nat.le_of_ble_eq_true rfl) (tX3_gameTotal ok.fl X.V v1 G hq2) dX6_inconsistencies_6 ?_
  refine j_lstore_n (L' := [(2, .long q2.1), (1, .int (0 : Int32)), (0, .ref (X.B + l0))]) ok dX6_inconsistencies_9 rfl (by decide) rfl ?_
  refine j_iconst (v := 0) ok dX6_inconsistencies_10 (by decide) ?_
  refine j_istore (L' := [(4, .int (0 : Int32)), (2, .long q2.1), (1, .int (0 : Int32)), (0, .ref (X.B + l0))]) ok dX6_inconsistencies_11 (by decide) rfl ?_
  have hJ : J X 5 13 [(0, .ref (X.B + l0)), (1, .int (0 : Int32)), (2, .long q2.1), (4, .int (0 : Int32))] [] q2.2 := j_loop (loc := fun s : Int32 × Int32 => [(0, .ref (X.B + l0)), (1, .int s.1), (2, .long q2.1), (4, .int s.2)]) (F := (finI X)) (fun s G r G' hb hk => jX6_inconsistencies_13 ok l0 s.1 q2.1 s.2 G hb hk) _ _ _ _ _ h hK
  exact J.sub [3, 2, 1, 0] rfl hJ

def fX6_inconsistencies (l0 : Nat) (G : Mem) : Option (Int32 × Mem) := fX6_inconsistencies_0 l0 G
set_option maxRecDepth 100000 in
theorem tX6_inconsistencies {l : Launch} (hfl : l.stackTraces = false) (V : Wd) (l0 : Nat) (G : Mem) {r : Int32} {G' : Mem} (h : fX6_inconsistencies l0 G = some (r, G')) : Mx l yX6_inconsistencies cX6_inconsistencies 5 (some .int) 4 89 V [.ref (V.B + l0)] G (.inl (some (.int r))) G' :=
  mx_of (L := [(0, .ref (V.B + l0))]) hfl (by decide +kernel) (Nat.le_of_ble_eq_true rfl) rfl (fun X hl hV hin ok he => by
    subst hl; subst hV
    exact J.sub [0] rfl (jX6_inconsistencies_0 ok l0 G h he))
def fX6_init_166 (l0 : Nat)  (G : Mem) : Option (Unit × Mem) :=
  (gR G 16 l0 3).bind fun v1 =>
  ck G 13 v1 <| (fX3_beginAnew v1 G).bind fun q2 =>
  some ((), q2.2)

set_option maxRecDepth 100000 in
set_option maxHeartbeats 4000000 in
theorem jX6_init_166 {X : Cx} (ok : OK X cX6_init RX6 none 2 9 181) (hin : X.meth.name = "<init>") (l0 : Nat)  (G : Mem) {r : Unit} {G' : Mem} (h : fX6_init_166 l0 G = some (r, G')) (hK : (finV X) r G') : J X 2 166 [(0, .ref (X.B + l0))] [] G := by
  unfold fX6_init_166 at h
  refine j_aload_n ok dX6_init_166 rfl 0 rfl ?_
  obtain ⟨v1, hv1, h⟩ := obind h
  refine k_getR ok fl_X6_33 hv1 dX6_init_167 ?_
  obtain ⟨kq2, h⟩ := ck_some h
  obtain ⟨q2, hq2, h⟩ := obind h
  refine k_V0 ok kl_X6_65 ⟨Nat.le_of_ble_eq_true rfl, Nat.le_of_ble_eq_true rfl⟩ [] kq2 rfl rfl (Nat.le_of_ble_eq_true rfl) (tX3_beginAnew ok.fl X.V v1 G hq2) dX6_init_170 ?_
  obtain ⟨er, eG⟩ := inj2 h
  subst er; subst eG
  exact j_vret ok rfl dX6_init_173 hK

def fX6_init_138 (l0 : Nat) (l1 : Int32)  (G : Mem) : Option (((Int32) ⊕ Unit) × Mem) :=
  (gR G 16 l0 8).bind fun v1 =>
  (gL G v1).bind fun v2 =>
  if v2 ≤ l1 then
    liftE (fX6_init_166 l0 G)
  else
    (gR G 16 l0 8).bind fun v4 =>
    (nO G 13 9).bind fun q5 =>
    (fX3_init q5.1 q5.2).bind fun q6 =>
    (pQ q6.2 7 13 v4 l1 q5.1).bind fun G7 =>
    some (.inl ((l1 + (1 : Int32))), G7)

set_option maxRecDepth 100000 in
set_option maxHeartbeats 4000000 in
theorem jX6_init_138 {X : Cx} (ok : OK X cX6_init RX6 none 2 9 181) (hin : X.meth.name = "<init>") (l0 : Nat) (l1 : Int32)  (G : Mem) {r : ((Int32) ⊕ Unit)} {G' : Mem} (h : fX6_init_138 l0 l1 G = some (r, G')) (hK : (finL X 2 138 (fun s : Int32 => [(0, .ref (X.B + l0)), (1, .int s)]) (finV X)) r G') : J X 2 138 [(0, .ref (X.B + l0)), (1, .int l1)] [] G := by
  unfold fX6_init_138 at h
  refine j_iload_n ok dX6_init_138 rfl 1 rfl ?_
  refine j_aload_n ok dX6_init_139 rfl 0 rfl ?_
  obtain ⟨v1, hv1, h⟩ := obind h
  refine k_getR ok fl_X6_51 hv1 dX6_init_140 ?_
  obtain ⟨v2, hv2, h⟩ := obind h
  refine j_alen ok hv2 dX6_init_143 ?_
  rcases ite_some h with ⟨c3, h⟩ | ⟨c3, h⟩
  · refine j_icmp_ge (tgt := 166) ok dX6_init_144 (by decide) (fun _ => ?_) (fun z => absurd c3 z)
    obtain ⟨r1, e1, h1⟩ := lift_some h
    subst e1
    exact J.sub [0] rfl (jX6_init_166 ok hin l0 G h1 hK)
  · refine j_icmp_ge (tgt := 166) ok dX6_init_144 (by decide) (fun z => absurd z c3) (fun _ => ?_)
    refine j_aload_n ok dX6_init_147 rfl 0 rfl ?_
    obtain ⟨v4, hv4, h⟩ := obind h
    refine k_getR ok fl_X6_51 hv4 dX6_init_148 ?_
    refine j_iload_n ok dX6_init_151 rfl 1 rfl ?_
    obtain ⟨q5, hq5, h⟩ := obind h
    refine k_new ok (ci := 3) in_X3 fp_X3 rfl rfl df_X3 wl_X6_30 wx_X3 wn_X3 hq5 dX6_init_152 ?_
    refine j_dup ok dX6_init_155 rfl ?_
    obtain ⟨q6, hq6, h⟩ := obind h
    refine k_I ok kl_X6_32 ⟨Nat.le_of_ble_eq_true rfl, Nat.le_of_ble_eq_true rfl⟩ [] rfl rfl (Nat.le_of_ble_eq_true rfl) (tX3_init ok.fl X.V q5.1 q5.2 hq6) dX6_init_156 ?_
    obtain ⟨G7, hG7, h⟩ := obind h
    refine j_aast ok (r := (RX0, TX0, 0)) (ci := 3) (Or.inr ⟨rfl, rfl, rfl⟩) hG7 dX6_init_159 ?_
    refine j_iinc (L' := [(1, .int (l1 + (1 : Int32))), (0, .ref (X.B + l0))]) (v := (l1 + (1 : Int32))) ok dX6_init_160 (q := 1) rfl rfl (by decide) rfl ?_
    refine j_goto (tgt := 138) ok dX6_init_163 (by decide) ?_
    obtain ⟨er, eG⟩ := inj2 h
    subst er; subst eG
    have hJ : J X 2 138 [(0, .ref (X.B + l0)), (1, .int (l1 + (1 : Int32)))] [] G7 := hK
    exact J.sub [1, 0] rfl hJ

def fX6_init_136 (l0 : Nat)  (G : Mem) : Option (Unit × Mem) :=
  loopM (fun (s : Int32) G => fX6_init_138 l0 s G) FU ((0 : Int32)) G

set_option maxRecDepth 100000 in
set_option maxHeartbeats 4000000 in
theorem jX6_init_136 {X : Cx} (ok : OK X cX6_init RX6 none 2 9 181) (hin : X.meth.name = "<init>") (l0 : Nat)  (G : Mem) {r : Unit} {G' : Mem} (h : fX6_init_136 l0 G = some (r, G')) (hK : (finV X) r G') : J X 2 136 [(0, .ref (X.B + l0))] [] G := by
  unfold fX6_init_136 at h
  refine j_iconst (v := 0) ok dX6_init_136 (by decide) ?_
  refine j_istore_n (L' := [(1, .int (0 : Int32)), (0, .ref (X.B + l0))]) ok dX6_init_137 rfl (by decide) rfl ?_
  have hJ : J X 2 138 [(0, .ref (X.B + l0)), (1, .int (0 : Int32))] [] G := j_loop (loc := fun s : Int32 => [(0, .ref (X.B + l0)), (1, .int s)]) (F := (finV X)) (fun s G r G' hb hk => jX6_init_138 ok hin l0 s G hb hk) _ _ _ _ _ h hK
  exact J.sub [1, 0] rfl hJ

def fX6_init_108 (l0 : Nat) (l1 : Int32)  (G : Mem) : Option (((Int32) ⊕ Unit) × Mem) :=
  (gR G 16 l0 5).bind fun v1 =>
  (gL G v1).bind fun v2 =>
  if v2 ≤ l1 then
    liftE (fX6_init_136 l0 G)
  else
    (gR G 16 l0 5).bind fun v4 =>
    (nO G 13 9).bind fun q5 =>
    (fX3_init q5.1 q5.2).bind fun q6 =>
    (pQ q6.2 7 13 v4 l1 q5.1).bind fun G7 =>
    some (.inl ((l1 + (1 : Int32))), G7)

set_option maxRecDepth 100000 in
set_option maxHeartbeats 4000000 in
theorem jX6_init_108 {X : Cx} (ok : OK X cX6_init RX6 none 2 9 181) (hin : X.meth.name = "<init>") (l0 : Nat) (l1 : Int32)  (G : Mem) {r : ((Int32) ⊕ Unit)} {G' : Mem} (h : fX6_init_108 l0 l1 G = some (r, G')) (hK : (finL X 2 108 (fun s : Int32 => [(0, .ref (X.B + l0)), (1, .int s)]) (finV X)) r G') : J X 2 108 [(0, .ref (X.B + l0)), (1, .int l1)] [] G := by
  unfold fX6_init_108 at h
  refine j_iload_n ok dX6_init_108 rfl 1 rfl ?_
  refine j_aload_n ok dX6_init_109 rfl 0 rfl ?_
  obtain ⟨v1, hv1, h⟩ := obind h
  refine k_getR ok fl_X6_40 hv1 dX6_init_110 ?_
  obtain ⟨v2, hv2, h⟩ := obind h
  refine j_alen ok hv2 dX6_init_113 ?_
  rcases ite_some h with ⟨c3, h⟩ | ⟨c3, h⟩
  · refine j_icmp_ge (tgt := 136) ok dX6_init_114 (by decide) (fun _ => ?_) (fun z => absurd c3 z)
    obtain ⟨r1, e1, h1⟩ := lift_some h
    subst e1
    exact J.sub [0] rfl (jX6_init_136 ok hin l0 G h1 hK)
  · refine j_icmp_ge (tgt := 136) ok dX6_init_114 (by decide) (fun z => absurd z c3) (fun _ => ?_)
    refine j_aload_n ok dX6_init_117 rfl 0 rfl ?_
    obtain ⟨v4, hv4, h⟩ := obind h
    refine k_getR ok fl_X6_40 hv4 dX6_init_118 ?_
    refine j_iload_n ok dX6_init_121 rfl 1 rfl ?_
    obtain ⟨q5, hq5, h⟩ := obind h
    refine k_new ok (ci := 3) in_X3 fp_X3 rfl rfl df_X3 wl_X6_30 wx_X3 wn_X3 hq5 dX6_init_122 ?_
    refine j_dup ok dX6_init_125 rfl ?_
    obtain ⟨q6, hq6, h⟩ := obind h
    refine k_I ok kl_X6_32 ⟨Nat.le_of_ble_eq_true rfl, Nat.le_of_ble_eq_true rfl⟩ [] rfl rfl (Nat.le_of_ble_eq_true rfl) (tX3_init ok.fl X.V q5.1 q5.2 hq6) dX6_init_126 ?_
    obtain ⟨G7, hG7, h⟩ := obind h
    refine j_aast ok (r := (RX0, TX0, 0)) (ci := 3) (Or.inr ⟨rfl, rfl, rfl⟩) hG7 dX6_init_129 ?_
    refine j_iinc (L' := [(1, .int (l1 + (1 : Int32))), (0, .ref (X.B + l0))]) (v := (l1 + (1 : Int32))) ok dX6_init_130 (q := 1) rfl rfl (by decide) rfl ?_
    refine j_goto (tgt := 108) ok dX6_init_133 (by decide) ?_
    obtain ⟨er, eG⟩ := inj2 h
    subst er; subst eG
    have hJ : J X 2 108 [(0, .ref (X.B + l0)), (1, .int (l1 + (1 : Int32)))] [] G7 := hK
    exact J.sub [1, 0] rfl hJ

def fX6_init_0 (l0 : Nat)  (G : Mem) : Option (Unit × Mem) :=
  (nO G 12 11).bind fun q1 =>
  (fX2_init q1.1 q1.2).bind fun q2 =>
  (pR q2.2 16 l0 0 q1.1).bind fun G3 =>
  (nO G3 14 3).bind fun q4 =>
  (fX4_init q4.1 q4.2).bind fun q5 =>
  (pR q5.2 16 l0 1 q4.1).bind fun G6 =>
  (nO G6 11 7).bind fun q7 =>
  (fX1_init q7.1 q7.2).bind fun q8 =>
  (pR q8.2 16 l0 2 q7.1).bind fun G9 =>
  (nO G9 13 9).bind fun q10 =>
  (fX3_init q10.1 q10.2).bind fun q11 =>
  (pR q11.2 16 l0 3 q10.1).bind fun G12 =>
  (nO G12 13 9).bind fun q13 =>
  (fX3_init q13.1 q13.2).bind fun q14 =>
  (pR q14.2 16 l0 4 q13.1).bind fun G15 =>
  (nA G15 7 (8 : Int32)).bind fun q16 =>
  (pR q16.2 16 l0 5 q16.1).bind fun G17 =>
  (pI G17 16 l0 6 (0 : Int32)).bind fun G18 =>
  (pI G18 16 l0 7 (0 : Int32)).bind fun G19 =>
  (nA G19 7 (2 : Int32)).bind fun q20 =>
  (pR q20.2 16 l0 8 q20.1).bind fun G21 =>
  (nA G21 3 (2 : Int32)).bind fun q22 =>
  (pR q22.2 16 l0 9 q22.1).bind fun G23 =>
  (nA G23 2 (41 : Int32)).bind fun q24 =>
  (pR q24.2 16 l0 10 q24.1).bind fun G25 =>
  (pI G25 16 l0 11 (0 : Int32)).bind fun G26 =>
  loopM (fun (s : Int32) G => fX6_init_108 l0 s G) FU ((0 : Int32)) G26

set_option maxRecDepth 100000 in
set_option maxHeartbeats 4000000 in
theorem jX6_init_0 {X : Cx} (ok : OK X cX6_init RX6 none 2 9 181) (hin : X.meth.name = "<init>") (l0 : Nat)  (G : Mem) {r : Unit} {G' : Mem} (h : fX6_init_0 l0 G = some (r, G')) (hK : (finV X) r G') : J X 2 0 [(0, .ref (X.B + l0))] [] G := by
  unfold fX6_init_0 at h
  refine j_aload_n ok dX6_init_0 rfl 0 rfl ?_
  refine k_objI ok wm_X6_3 (Nat.le_of_ble_eq_true rfl) (Nat.le_of_ble_eq_true rfl) (Nat.le_of_ble_eq_true rfl) dX6_init_1 ?_
  refine j_aload_n ok dX6_init_4 rfl 0 rfl ?_
  obtain ⟨q1, hq1, h⟩ := obind h
  refine k_new ok (ci := 2) in_X2 fp_X2 rfl rfl df_X2 wl_X6_9 wx_X2 wn_X2 hq1 dX6_init_5 ?_
  refine j_dup ok dX6_init_8 rfl ?_
  obtain ⟨q2, hq2, h⟩ := obind h
  refine k_I ok kl_X6_11 ⟨Nat.le_of_ble_eq_true rfl, Nat.le_of_ble_eq_true rfl⟩ [] rfl rfl (Nat.le_of_ble_eq_true rfl) (tX2_init ok.fl X.V q1.1 q1.2 hq2) dX6_init_9 ?_
  obtain ⟨G3, hG3, h⟩ := obind h
  refine k_putR ok fl_X6_12 fp_X6 rfl (Or.inl ⟨_, rfl⟩) (Or.inr ⟨rfl, hin, rfl⟩) hG3 dX6_init_12 ?_
  refine j_aload_n ok dX6_init_15 rfl 0 rfl ?_
  obtain ⟨q4, hq4, h⟩ := obind h
  refine k_new ok (ci := 4) in_X4 fp_X4 rfl rfl df_X4 wl_X6_16 wx_X4 wn_X4 hq4 dX6_init_16 ?_
  refine j_dup ok dX6_init_19 rfl ?_
  obtain ⟨q5, hq5, h⟩ := obind h
  refine k_I ok kl_X6_18 ⟨Nat.le_of_ble_eq_true rfl, Nat.le_of_ble_eq_true rfl⟩ [] rfl rfl (Nat.le_of_ble_eq_true rfl) (tX4_init ok.fl X.V q4.1 q4.2 hq5) dX6_init_20 ?_
  obtain ⟨G6, hG6, h⟩ := obind h
  refine k_putR ok fl_X6_19 fp_X6 rfl (Or.inl ⟨_, rfl⟩) (Or.inr ⟨rfl, hin, rfl⟩) hG6 dX6_init_23 ?_
  refine j_aload_n ok dX6_init_26 rfl 0 rfl ?_
  obtain ⟨q7, hq7, h⟩ := obind h
  refine k_new ok (ci := 1) in_X1 fp_X1 rfl rfl df_X1 wl_X6_23 wx_X1 wn_X1 hq7 dX6_init_27 ?_
  refine j_dup ok dX6_init_30 rfl ?_
  obtain ⟨q8, hq8, h⟩ := obind h
  refine k_I ok kl_X6_25 ⟨Nat.le_of_ble_eq_true rfl, Nat.le_of_ble_eq_true rfl⟩ [] rfl rfl (Nat.le_of_ble_eq_true rfl) (tX1_init ok.fl X.V q7.1 q7.2 hq8) dX6_init_31 ?_
  obtain ⟨G9, hG9, h⟩ := obind h
  refine k_putR ok fl_X6_26 fp_X6 rfl (Or.inl ⟨_, rfl⟩) (Or.inr ⟨rfl, hin, rfl⟩) hG9 dX6_init_34 ?_
  refine j_aload_n ok dX6_init_37 rfl 0 rfl ?_
  obtain ⟨q10, hq10, h⟩ := obind h
  refine k_new ok (ci := 3) in_X3 fp_X3 rfl rfl df_X3 wl_X6_30 wx_X3 wn_X3 hq10 dX6_init_38 ?_
  refine j_dup ok dX6_init_41 rfl ?_
  obtain ⟨q11, hq11, h⟩ := obind h
  refine k_I ok kl_X6_32 ⟨Nat.le_of_ble_eq_true rfl, Nat.le_of_ble_eq_true rfl⟩ [] rfl rfl (Nat.le_of_ble_eq_true rfl) (tX3_init ok.fl X.V q10.1 q10.2 hq11) dX6_init_42 ?_
  obtain ⟨G12, hG12, h⟩ := obind h
  refine k_putR ok fl_X6_33 fp_X6 rfl (Or.inl ⟨_, rfl⟩) (Or.inl rfl) hG12 dX6_init_45 ?_
  refine j_aload_n ok dX6_init_48 rfl 0 rfl ?_
  obtain ⟨q13, hq13, h⟩ := obind h
  refine k_new ok (ci := 3) in_X3 fp_X3 rfl rfl df_X3 wl_X6_30 wx_X3 wn_X3 hq13 dX6_init_49 ?_
  refine j_dup ok dX6_init_52 rfl ?_
  obtain ⟨q14, hq14, h⟩ := obind h
  refine k_I ok kl_X6_32 ⟨Nat.le_of_ble_eq_true rfl, Nat.le_of_ble_eq_true rfl⟩ [] rfl rfl (Nat.le_of_ble_eq_true rfl) (tX3_init ok.fl X.V q13.1 q13.2 hq14) dX6_init_53 ?_
  obtain ⟨G15, hG15, h⟩ := obind h
  refine k_putR ok fl_X6_37 fp_X6 rfl (Or.inl ⟨_, rfl⟩) (Or.inl rfl) hG15 dX6_init_56 ?_
  refine j_aload_n ok dX6_init_59 rfl 0 rfl ?_
  refine j_bipush (v := 8) ok dX6_init_60 (by decide) ?_
  obtain ⟨q16, hq16, h⟩ := obind h
  refine k_anew ok (t := 7) (Or.inr ⟨rfl, rfl⟩) wl_X6_30 hq16 dX6_init_62 ?_
  obtain ⟨G17, hG17, h⟩ := obind h
  refine k_putR ok fl_X6_40 fp_X6 rfl (Or.inr ⟨_, rfl⟩) (Or.inr ⟨rfl, hin, rfl⟩) hG17 dX6_init_65 ?_
  refine j_aload_n ok dX6_init_68 rfl 0 rfl ?_
  refine j_iconst (v := 0) ok dX6_init_69 (by decide) ?_
  obtain ⟨G18, hG18, h⟩ := obind h
  refine k_putI ok fl_X6_44 fp_X6 rfl (Or.inl rfl) hG18 dX6_init_70 ?_
  refine j_aload_n ok dX6_init_73 rfl 0 rfl ?_
  refine j_iconst (v := 0) ok dX6_init_74 (by decide) ?_
  obtain ⟨G19, hG19, h⟩ := obind h
  refine k_putI ok fl_X6_48 fp_X6 rfl (Or.inl rfl) hG19 dX6_init_75 ?_
  refine j_aload_n ok dX6_init_78 rfl 0 rfl ?_
  refine j_iconst (v := 2) ok dX6_init_79 (by decide) ?_
  obtain ⟨q20, hq20, h⟩ := obind h
  refine k_anew ok (t := 7) (Or.inr ⟨rfl, rfl⟩) wl_X6_30 hq20 dX6_init_80 ?_
  obtain ⟨G21, hG21, h⟩ := obind h
  refine k_putR ok fl_X6_51 fp_X6 rfl (Or.inr ⟨_, rfl⟩) (Or.inr ⟨rfl, hin, rfl⟩) hG21 dX6_init_83 ?_
  refine j_aload_n ok dX6_init_86 rfl 0 rfl ?_
  refine j_iconst (v := 2) ok dX6_init_87 (by decide) ?_
  obtain ⟨q22, hq22, h⟩ := obind h
  refine k_newaT ok (t := 3) (Or.inr (Or.inr (Or.inl ⟨rfl, rfl⟩))) wa_3 hq22 dX6_init_88 ?_
  obtain ⟨G23, hG23, h⟩ := obind h
  refine k_putR ok fl_X6_54 fp_X6 rfl (Or.inr ⟨_, rfl⟩) (Or.inr ⟨rfl, hin, rfl⟩) hG23 dX6_init_90 ?_
  refine j_aload_n ok dX6_init_93 rfl 0 rfl ?_
  refine j_bipush (v := 41) ok dX6_init_94 (by decide) ?_
  obtain ⟨q24, hq24, h⟩ := obind h
  refine k_newaT ok (t := 2) (Or.inr (Or.inl ⟨rfl, rfl⟩)) wa_2 hq24 dX6_init_96 ?_
  obtain ⟨G25, hG25, h⟩ := obind h
  refine k_putR ok fl_X6_58 fp_X6 rfl (Or.inr ⟨_, rfl⟩) (Or.inr ⟨rfl, hin, rfl⟩) hG25 dX6_init_98 ?_
  refine j_aload_n ok dX6_init_101 rfl 0 rfl ?_
  refine j_iconst (v := 0) ok dX6_init_102 (by decide) ?_
  obtain ⟨G26, hG26, h⟩ := obind h
  refine k_putI ok fl_X6_62 fp_X6 rfl (Or.inl rfl) hG26 dX6_init_103 ?_
  refine j_iconst (v := 0) ok dX6_init_106 (by decide) ?_
  refine j_istore_n (L' := [(1, .int (0 : Int32)), (0, .ref (X.B + l0))]) ok dX6_init_107 rfl (by decide) rfl ?_
  have hJ : J X 2 108 [(0, .ref (X.B + l0)), (1, .int (0 : Int32))] [] G26 := j_loop (loc := fun s : Int32 => [(0, .ref (X.B + l0)), (1, .int s)]) (F := (finV X)) (fun s G r G' hb hk => jX6_init_108 ok hin l0 s G hb hk) _ _ _ _ _ h hK
  exact J.sub [1, 0] rfl hJ

def fX6_init (l0 : Nat) (G : Mem) : Option (Unit × Mem) := fX6_init_0 l0 G
set_option maxRecDepth 100000 in
theorem tX6_init {l : Launch} (hfl : l.stackTraces = false) (V : Wd) (l0 : Nat) (G : Mem) {r : Unit} {G' : Mem} (h : fX6_init l0 G = some (r, G')) : Mx l yX6_init cX6_init 2 none 9 181 V [.ref (V.B + l0)] G (.inl none) G' :=
  mx_of (L := [(0, .ref (V.B + l0))]) hfl (by decide +kernel) (Nat.le_of_ble_eq_true rfl) rfl (fun X hl hV hin ok he => by
    subst hl; subst hV
    exact J.sub [0] rfl (jX6_init_0 ok (hin rfl) l0 G h he))
def fX6_requireColour_20   (G : Mem) : Option ((Unit ⊕ Nat) × Mem) :=
  some (.inl (), G)

set_option maxRecDepth 100000 in
set_option maxHeartbeats 4000000 in
theorem jX6_requireColour_20 {X : Cx} (ok : OK X cX6_requireColour RX6 none 2 8 160)   (G : Mem) {r : (Unit ⊕ Nat)} {G' : Mem} (h : fX6_requireColour_20  G = some (r, G')) (hK : (finT X (finV X)) r G') : J X 2 20 [] [] G := by
  unfold fX6_requireColour_20 at h
  obtain ⟨er, eG⟩ := inj2 h
  subst er; subst eG
  exact j_vret ok rfl dX6_requireColour_20 hK

def fX6_requireColour_0 (l1 : Int32)  (G : Mem) : Option ((Unit ⊕ Nat) × Mem) :=
  if l1 = (0 : Int32) then
    fX6_requireColour_20 G
  else
    if l1 = (1 : Int32) then
      fX6_requireColour_20 G
    else
      thw 0 G

set_option maxRecDepth 100000 in
set_option maxHeartbeats 4000000 in
theorem jX6_requireColour_0 {X : Cx} (ok : OK X cX6_requireColour RX6 none 2 8 160) (l1 : Int32)  (G : Mem) {r : (Unit ⊕ Nat)} {G' : Mem} (h : fX6_requireColour_0 l1 G = some (r, G')) (hK : (finT X (finV X)) r G') : J X 2 0 [(1, .int l1)] [] G := by
  unfold fX6_requireColour_0 at h
  refine j_iload_n ok dX6_requireColour_0 rfl 0 rfl ?_
  rcases ite_some h with ⟨c1, h⟩ | ⟨c1, h⟩
  · refine j_if_eq (tgt := 20) ok dX6_requireColour_1 (by decide) (fun _ => ?_) (fun z => absurd c1 z)
    exact J.sub [] rfl (jX6_requireColour_20 ok G h hK)
  · refine j_if_eq (tgt := 20) ok dX6_requireColour_1 (by decide) (fun z => absurd z c1) (fun _ => ?_)
    refine j_iload_n ok dX6_requireColour_4 rfl 0 rfl ?_
    refine j_iconst (v := 1) ok dX6_requireColour_5 (by decide) ?_
    rcases ite_some h with ⟨c2, h⟩ | ⟨c2, h⟩
    · refine j_icmp_eq (tgt := 20) ok dX6_requireColour_6 (by decide) (fun _ => ?_) (fun z => absurd c2 z)
      exact J.sub [] rfl (jX6_requireColour_20 ok G h hK)
    · refine j_icmp_eq (tgt := 20) ok dX6_requireColour_6 (by decide) (fun z => absurd z c2) (fun _ => ?_)
      obtain ⟨hcap, h⟩ := thw_some h
      obtain ⟨er, eG⟩ := inj2 h
      subst er; subst eG
      exact k_throwW ok kt_X6_85 st_X6_328 dX6_requireColour_9 dX6_requireColour_12 dX6_requireColour_13 dX6_requireColour_16 dX6_requireColour_19 hcap (by decide) (by decide) (Nat.le_of_ble_eq_true rfl) hK

def fX6_requireColour (l0 : Nat) (l1 : Int32) (G : Mem) : Option ((Unit ⊕ Nat) × Mem) := fX6_requireColour_0 l1 G
set_option maxRecDepth 100000 in
theorem tX6_requireColour {l : Launch} (hfl : l.stackTraces = false) (V : Wd) (l0 : Nat) (l1 : Int32) (G : Mem) {r : (Unit ⊕ Nat)} {G' : Mem} (h : fX6_requireColour l0 l1 G = some (r, G')) : Mx l yX6_requireColour cX6_requireColour 2 none 8 160 V [.ref (V.B + l0), .int l1] G (rzV r) G' :=
  mx_of (L := [(0, .ref (V.B + l0)), (1, .int l1)]) hfl (by decide +kernel) (Nat.le_of_ble_eq_true rfl) rfl (fun X hl hV hin ok he => by
    subst hl; subst hV
    exact J.sub [1] rfl (jX6_requireColour_0 ok l1 G h (by cases r <;> exact he)))
def fX6_isAttacked_0 (l0 : Nat) (l1 : Int32) (l2 : Int32) (l3 : Int32) (l4 : Int32)  (G : Mem) : Option ((Int32 ⊕ Nat) × Mem) :=
  ck G 16 l0 <| (fX6_requirePosition l0 l1 G).bind fun q1 => thr q1.1 (fun v2 =>
    ck q1.2 16 l0 <| (fX6_requireSquare l0 l2 l3 q1.2).bind fun q3 => thr q3.1 (fun v4 =>
      ck q3.2 16 l0 <| (fX6_requireColour l0 l4 q3.2).bind fun q5 => thr q5.1 (fun v6 =>
        (gR q5.2 16 l0 3).bind fun v7 =>
        (gR q5.2 16 l0 3).bind fun v8 =>
        (gF q5.2 13 v8 1).bind fun v9 =>
        ck q5.2 13 v7 <| (fX3_show v7 v9 l1 q5.2).bind fun q10 =>
        (gR q10.2 16 l0 3).bind fun v11 =>
        (gR q10.2 13 v11 0).bind fun v12 =>
        (gR q10.2 16 l0 3).bind fun v13 =>
        (gR q10.2 13 v13 0).bind fun v14 =>
        ck q10.2 10 v14 <| (fX0_placeOf v14 l2 l3 q10.2).bind fun q15 =>
        ck q15.2 10 v12 <| (fX0_isReached v12 q15.1 l4 q15.2).bind fun q16 =>
        rz q16.1 <|
        some (.inl q16.1, q16.2)) q5.2) q3.2) q1.2

set_option maxRecDepth 100000 in
set_option maxHeartbeats 4000000 in
theorem jX6_isAttacked_0 {X : Cx} (ok : OK X cX6_isAttacked RX6 (some .boolean) 5 9 182) (l0 : Nat) (l1 : Int32) (l2 : Int32) (l3 : Int32) (l4 : Int32)  (G : Mem) {r : (Int32 ⊕ Nat)} {G' : Mem} (h : fX6_isAttacked_0 l0 l1 l2 l3 l4 G = some (r, G')) (hK : (finT X (finI X)) r G') : J X 5 0 [(0, .ref (X.B + l0)), (1, .int l1), (2, .int l2), (3, .int l3), (4, .int l4)] [] G := by
  unfold fX6_isAttacked_0 at h
  refine j_aload_n ok dX6_isAttacked_0 rfl 0 rfl ?_
  refine j_iload_n ok dX6_isAttacked_1 rfl 1 rfl ?_
  obtain ⟨kq1, h⟩ := ck_some h
  obtain ⟨q1, hq1, h⟩ := obind h
  cases eq1 : q1.1 with
  | inr v2 =>
    rw [eq1] at h; dsimp only [thr] at h
    obtain ⟨er, eG⟩ := inj2 h
    subst er; subst eG
    exact k_VX ok kl_X6_224 ⟨Nat.le_of_ble_eq_true rfl, Nat.le_of_ble_eq_true rfl⟩ [.int l1] kq1 rfl rfl (Nat.le_of_ble_eq_true rfl) (by have z := tX6_requirePosition ok.fl X.V l0 l1 G hq1; rw [eq1] at z; exact z) dX6_isAttacked_2 hK
  | inl v2 =>
    rw [eq1] at h; dsimp only [thr] at h
    refine k_V0 ok kl_X6_224 ⟨Nat.le_of_ble_eq_true rfl, Nat.le_of_ble_eq_true rfl⟩ [.int l1] kq1 rfl rfl (Nat.le_of_ble_eq_true rfl) (by have z := tX6_requirePosition ok.fl X.V l0 l1 G hq1; rw [eq1] at z; exact z) dX6_isAttacked_2 ?_
    refine j_aload_n ok dX6_isAttacked_5 rfl 0 rfl ?_
    refine j_iload_n ok dX6_isAttacked_6 rfl 2 rfl ?_
    refine j_iload_n ok dX6_isAttacked_7 rfl 3 rfl ?_
    obtain ⟨kq3, h⟩ := ck_some h
    obtain ⟨q3, hq3, h⟩ := obind h
    cases eq3 : q3.1 with
    | inr v4 =>
      rw [eq3] at h; dsimp only [thr] at h
      obtain ⟨er, eG⟩ := inj2 h
      subst er; subst eG
      exact k_VX ok kl_X6_227 ⟨Nat.le_of_ble_eq_true rfl, Nat.le_of_ble_eq_true rfl⟩ [.int l2, .int l3] kq3 rfl rfl (Nat.le_of_ble_eq_true rfl) (by have z := tX6_requireSquare ok.fl X.V l0 l2 l3 q1.2 hq3; rw [eq3] at z; exact z) dX6_isAttacked_8 hK
    | inl v4 =>
      rw [eq3] at h; dsimp only [thr] at h
      refine k_V0 ok kl_X6_227 ⟨Nat.le_of_ble_eq_true rfl, Nat.le_of_ble_eq_true rfl⟩ [.int l2, .int l3] kq3 rfl rfl (Nat.le_of_ble_eq_true rfl) (by have z := tX6_requireSquare ok.fl X.V l0 l2 l3 q1.2 hq3; rw [eq3] at z; exact z) dX6_isAttacked_8 ?_
      refine j_aload_n ok dX6_isAttacked_11 rfl 0 rfl ?_
      refine j_iload ok dX6_isAttacked_12 4 rfl ?_
      obtain ⟨kq5, h⟩ := ck_some h
      obtain ⟨q5, hq5, h⟩ := obind h
      cases eq5 : q5.1 with
      | inr v6 =>
        rw [eq5] at h; dsimp only [thr] at h
        obtain ⟨er, eG⟩ := inj2 h
        subst er; subst eG
        exact k_VX ok kl_X6_244 ⟨Nat.le_of_ble_eq_true rfl, Nat.le_of_ble_eq_true rfl⟩ [.int l4] kq5 rfl rfl (Nat.le_of_ble_eq_true rfl) (by have z := tX6_requireColour ok.fl X.V l0 l4 q3.2 hq5; rw [eq5] at z; exact z) dX6_isAttacked_14 hK
      | inl v6 =>
        rw [eq5] at h; dsimp only [thr] at h
        refine k_V0 ok kl_X6_244 ⟨Nat.le_of_ble_eq_true rfl, Nat.le_of_ble_eq_true rfl⟩ [.int l4] kq5 rfl rfl (Nat.le_of_ble_eq_true rfl) (by have z := tX6_requireColour ok.fl X.V l0 l4 q3.2 hq5; rw [eq5] at z; exact z) dX6_isAttacked_14 ?_
        refine j_aload_n ok dX6_isAttacked_17 rfl 0 rfl ?_
        obtain ⟨v7, hv7, h⟩ := obind h
        refine k_getR ok fl_X6_33 hv7 dX6_isAttacked_18 ?_
        refine j_aload_n ok dX6_isAttacked_21 rfl 0 rfl ?_
        obtain ⟨v8, hv8, h⟩ := obind h
        refine k_getR ok fl_X6_33 hv8 dX6_isAttacked_22 ?_
        obtain ⟨v9, hv9, h⟩ := obind h
        refine k_getI ok fl_X6_174 hv9 dX6_isAttacked_25 ?_
        refine j_iload_n ok dX6_isAttacked_28 rfl 1 rfl ?_
        obtain ⟨kq10, h⟩ := ck_some h
        obtain ⟨q10, hq10, h⟩ := obind h
        refine k_V0 ok kl_X6_247 ⟨Nat.le_of_ble_eq_true rfl, Nat.le_of_ble_eq_true rfl⟩ [.int v9, .int l1] kq10 rfl rfl (Nat.le_of_ble_eq_true rfl) (tX3_show ok.fl X.V v7 v9 l1 q5.2 hq10) dX6_isAttacked_29 ?_
        refine j_aload_n ok dX6_isAttacked_32 rfl 0 rfl ?_
        obtain ⟨v11, hv11, h⟩ := obind h
        refine k_getR ok fl_X6_33 hv11 dX6_isAttacked_33 ?_
        obtain ⟨v12, hv12, h⟩ := obind h
        refine k_getR ok fl_X6_95 hv12 dX6_isAttacked_36 ?_
        refine j_aload_n ok dX6_isAttacked_39 rfl 0 rfl ?_
        obtain ⟨v13, hv13, h⟩ := obind h
        refine k_getR ok fl_X6_33 hv13 dX6_isAttacked_40 ?_
        obtain ⟨v14, hv14, h⟩ := obind h
        refine k_getR ok fl_X6_95 hv14 dX6_isAttacked_43 ?_
        refine j_iload_n ok dX6_isAttacked_46 rfl 2 rfl ?_
        refine j_iload_n ok dX6_isAttacked_47 rfl 3 rfl ?_
        obtain ⟨kq15, h⟩ := ck_some h
        obtain ⟨q15, hq15, h⟩ := obind h
        refine k_V1 ok kl_X6_250 ⟨Nat.le_of_ble_eq_true rfl, Nat.le_of_ble_eq_true rfl⟩ [.int l2, .int l3] kq15 rfl rfl (Nat.le_of_ble_eq_true rfl) (tX0_placeOf ok.fl X.V v14 l2 l3 q10.2 hq15) dX6_isAttacked_48 ?_
        refine j_iload ok dX6_isAttacked_51 4 rfl ?_
        obtain ⟨kq16, h⟩ := ck_some h
        obtain ⟨q16, hq16, h⟩ := obind h
        refine k_V1 ok kl_X6_253 ⟨Nat.le_of_ble_eq_true rfl, Nat.le_of_ble_eq_true rfl⟩ [.int q15.1, .int l4] kq16 rfl rfl (Nat.le_of_ble_eq_true rfl) (tX0_isReached ok.fl X.V v12 q15.1 l4 q15.2 hq16) dX6_isAttacked_53 ?_
        obtain ⟨hz17, h⟩ := rz_some h
        obtain ⟨er, eG⟩ := inj2 h
        subst er; subst eG
        exact j_zret ok rfl hz17 dX6_isAttacked_56 hK

def fX6_isAttacked (l0 : Nat) (l1 : Int32) (l2 : Int32) (l3 : Int32) (l4 : Int32) (G : Mem) : Option ((Int32 ⊕ Nat) × Mem) := fX6_isAttacked_0 l0 l1 l2 l3 l4 G
set_option maxRecDepth 100000 in
theorem tX6_isAttacked {l : Launch} (hfl : l.stackTraces = false) (V : Wd) (l0 : Nat) (l1 : Int32) (l2 : Int32) (l3 : Int32) (l4 : Int32) (G : Mem) {r : (Int32 ⊕ Nat)} {G' : Mem} (h : fX6_isAttacked l0 l1 l2 l3 l4 G = some (r, G')) : Mx l yX6_isAttacked cX6_isAttacked 5 (some .boolean) 9 182 V [.ref (V.B + l0), .int l1, .int l2, .int l3, .int l4] G (rzI r) G' :=
  mx_of (L := [(0, .ref (V.B + l0)), (1, .int l1), (2, .int l2), (3, .int l3), (4, .int l4)]) hfl (by decide +kernel) (Nat.le_of_ble_eq_true rfl) rfl (fun X hl hV hin ok he => by
    subst hl; subst hV
    exact J.sub [0, 1, 2, 3, 4] rfl (jX6_isAttacked_0 ok l0 l1 l2 l3 l4 G h (by cases r <;> exact he)))
def fX6_isCertain_17  (s0 : Int32) (G : Mem) : Option (Int32 × Mem) :=
  rz s0 <|
  some (s0, G)

set_option maxRecDepth 100000 in
set_option maxHeartbeats 4000000 in
theorem jX6_isCertain_17 {X : Cx} (ok : OK X cX6_isCertain RX6 (some .boolean) 1 4 89)  (s0 : Int32) (G : Mem) {r : Int32} {G' : Mem} (h : fX6_isCertain_17 s0 G = some (r, G')) (hK : (finI X) r G') : J X 1 17 [] [.int s0] G := by
  unfold fX6_isCertain_17 at h
  obtain ⟨hz1, h⟩ := rz_some h
  obtain ⟨er, eG⟩ := inj2 h
  subst er; subst eG
  exact j_zret ok rfl hz1 dX6_isCertain_17 hK

def fX6_isCertain_0 (l0 : Nat)  (G : Mem) : Option (Int32 × Mem) :=
  (gR G 16 l0 3).bind fun v1 =>
  ck G 13 v1 <| (fX3_gameTotal v1 G).bind fun q2 =>
  if (lg_cmp q2.1 (1 : Int64)) = (0 : Int32) then
    fX6_isCertain_17 (1 : Int32) q2.2
  else
    fX6_isCertain_17 (0 : Int32) q2.2

set_option maxRecDepth 100000 in
set_option maxHeartbeats 4000000 in
theorem jX6_isCertain_0 {X : Cx} (ok : OK X cX6_isCertain RX6 (some .boolean) 1 4 89) (l0 : Nat)  (G : Mem) {r : Int32} {G' : Mem} (h : fX6_isCertain_0 l0 G = some (r, G')) (hK : (finI X) r G') : J X 1 0 [(0, .ref (X.B + l0))] [] G := by
  unfold fX6_isCertain_0 at h
  refine j_aload_n ok dX6_isCertain_0 rfl 0 rfl ?_
  obtain ⟨v1, hv1, h⟩ := obind h
  refine k_getR ok fl_X6_33 hv1 dX6_isCertain_1 ?_
  obtain ⟨kq2, h⟩ := ck_some h
  obtain ⟨q2, hq2, h⟩ := obind h
  refine k_V1 ok kl_X6_271 ⟨Nat.le_of_ble_eq_true rfl, Nat.le_of_ble_eq_true rfl⟩ [] kq2 rfl rfl (Nat.le_of_ble_eq_true rfl) (tX3_gameTotal ok.fl X.V v1 G hq2) dX6_isCertain_4 ?_
  refine j_lconst (v := 1) ok dX6_isCertain_7 (by decide) ?_
  refine j_lcmp ok dX6_isCertain_8 ?_
  rcases ite_some h with ⟨c3, h⟩ | ⟨c3, h⟩
  · refine j_if_ne (tgt := 16) ok dX6_isCertain_9 (by decide) (fun z => absurd c3 z) (fun _ => ?_)
    refine j_iconst (v := 1) ok dX6_isCertain_12 (by decide) ?_
    refine j_goto (tgt := 17) ok dX6_isCertain_13 (by decide) ?_
    exact J.sub [] rfl (jX6_isCertain_17 ok (1 : Int32) q2.2 h hK)
  · refine j_if_ne (tgt := 16) ok dX6_isCertain_9 (by decide) (fun _ => ?_) (fun z => absurd z c3)
    refine j_iconst (v := 0) ok dX6_isCertain_16 (by decide) ?_
    exact J.sub [] rfl (jX6_isCertain_17 ok (0 : Int32) q2.2 h hK)

def fX6_isCertain (l0 : Nat) (G : Mem) : Option (Int32 × Mem) := fX6_isCertain_0 l0 G
set_option maxRecDepth 100000 in
theorem tX6_isCertain {l : Launch} (hfl : l.stackTraces = false) (V : Wd) (l0 : Nat) (G : Mem) {r : Int32} {G' : Mem} (h : fX6_isCertain l0 G = some (r, G')) : Mx l yX6_isCertain cX6_isCertain 1 (some .boolean) 4 89 V [.ref (V.B + l0)] G (.inl (some (.int r))) G' :=
  mx_of (L := [(0, .ref (V.B + l0))]) hfl (by decide +kernel) (Nat.le_of_ble_eq_true rfl) rfl (fun X hl hV hin ok he => by
    subst hl; subst hV
    exact J.sub [0] rfl (jX6_isCertain_0 ok l0 G h he))
def fX6_kindAt_0 (l0 : Nat) (l1 : Int32) (l2 : Int32) (l3 : Int32)  (G : Mem) : Option ((Int32 ⊕ Nat) × Mem) :=
  ck G 16 l0 <| (fX6_requirePosition l0 l1 G).bind fun q1 => thr q1.1 (fun v2 =>
    ck q1.2 16 l0 <| (fX6_requireSquare l0 l2 l3 q1.2).bind fun q3 => thr q3.1 (fun v4 =>
      (gR q3.2 16 l0 3).bind fun v5 =>
      (gR q3.2 16 l0 3).bind fun v6 =>
      (gR q3.2 13 v6 0).bind fun v7 =>
      ck q3.2 10 v7 <| (fX0_squareOf v7 l2 l3 q3.2).bind fun q8 =>
      ck q8.2 13 v5 <| (fX3_contentAt v5 l1 q8.1 q8.2).bind fun q9 =>
      (fX6_kindOf q9.1 q9.2).bind fun q10 =>
      some (.inl q10.1, q10.2)) q3.2) q1.2

set_option maxRecDepth 100000 in
set_option maxHeartbeats 4000000 in
theorem jX6_kindAt_0 {X : Cx} (ok : OK X cX6_kindAt RX6 (some .int) 4 9 182) (l0 : Nat) (l1 : Int32) (l2 : Int32) (l3 : Int32)  (G : Mem) {r : (Int32 ⊕ Nat)} {G' : Mem} (h : fX6_kindAt_0 l0 l1 l2 l3 G = some (r, G')) (hK : (finT X (finI X)) r G') : J X 4 0 [(0, .ref (X.B + l0)), (1, .int l1), (2, .int l2), (3, .int l3)] [] G := by
  unfold fX6_kindAt_0 at h
  refine j_aload_n ok dX6_kindAt_0 rfl 0 rfl ?_
  refine j_iload_n ok dX6_kindAt_1 rfl 1 rfl ?_
  obtain ⟨kq1, h⟩ := ck_some h
  obtain ⟨q1, hq1, h⟩ := obind h
  cases eq1 : q1.1 with
  | inr v2 =>
    rw [eq1] at h; dsimp only [thr] at h
    obtain ⟨er, eG⟩ := inj2 h
    subst er; subst eG
    exact k_VX ok kl_X6_224 ⟨Nat.le_of_ble_eq_true rfl, Nat.le_of_ble_eq_true rfl⟩ [.int l1] kq1 rfl rfl (Nat.le_of_ble_eq_true rfl) (by have z := tX6_requirePosition ok.fl X.V l0 l1 G hq1; rw [eq1] at z; exact z) dX6_kindAt_2 hK
  | inl v2 =>
    rw [eq1] at h; dsimp only [thr] at h
    refine k_V0 ok kl_X6_224 ⟨Nat.le_of_ble_eq_true rfl, Nat.le_of_ble_eq_true rfl⟩ [.int l1] kq1 rfl rfl (Nat.le_of_ble_eq_true rfl) (by have z := tX6_requirePosition ok.fl X.V l0 l1 G hq1; rw [eq1] at z; exact z) dX6_kindAt_2 ?_
    refine j_aload_n ok dX6_kindAt_5 rfl 0 rfl ?_
    refine j_iload_n ok dX6_kindAt_6 rfl 2 rfl ?_
    refine j_iload_n ok dX6_kindAt_7 rfl 3 rfl ?_
    obtain ⟨kq3, h⟩ := ck_some h
    obtain ⟨q3, hq3, h⟩ := obind h
    cases eq3 : q3.1 with
    | inr v4 =>
      rw [eq3] at h; dsimp only [thr] at h
      obtain ⟨er, eG⟩ := inj2 h
      subst er; subst eG
      exact k_VX ok kl_X6_227 ⟨Nat.le_of_ble_eq_true rfl, Nat.le_of_ble_eq_true rfl⟩ [.int l2, .int l3] kq3 rfl rfl (Nat.le_of_ble_eq_true rfl) (by have z := tX6_requireSquare ok.fl X.V l0 l2 l3 q1.2 hq3; rw [eq3] at z; exact z) dX6_kindAt_8 hK
    | inl v4 =>
      rw [eq3] at h; dsimp only [thr] at h
      refine k_V0 ok kl_X6_227 ⟨Nat.le_of_ble_eq_true rfl, Nat.le_of_ble_eq_true rfl⟩ [.int l2, .int l3] kq3 rfl rfl (Nat.le_of_ble_eq_true rfl) (by have z := tX6_requireSquare ok.fl X.V l0 l2 l3 q1.2 hq3; rw [eq3] at z; exact z) dX6_kindAt_8 ?_
      refine j_aload_n ok dX6_kindAt_11 rfl 0 rfl ?_
      obtain ⟨v5, hv5, h⟩ := obind h
      refine k_getR ok fl_X6_33 hv5 dX6_kindAt_12 ?_
      refine j_iload_n ok dX6_kindAt_15 rfl 1 rfl ?_
      refine j_aload_n ok dX6_kindAt_16 rfl 0 rfl ?_
      obtain ⟨v6, hv6, h⟩ := obind h
      refine k_getR ok fl_X6_33 hv6 dX6_kindAt_17 ?_
      obtain ⟨v7, hv7, h⟩ := obind h
      refine k_getR ok fl_X6_95 hv7 dX6_kindAt_20 ?_
      refine j_iload_n ok dX6_kindAt_23 rfl 2 rfl ?_
      refine j_iload_n ok dX6_kindAt_24 rfl 3 rfl ?_
      obtain ⟨kq8, h⟩ := ck_some h
      obtain ⟨q8, hq8, h⟩ := obind h
      refine k_V1 ok kl_X6_231 ⟨Nat.le_of_ble_eq_true rfl, Nat.le_of_ble_eq_true rfl⟩ [.int l2, .int l3] kq8 rfl rfl (Nat.le_of_ble_eq_true rfl) (tX0_squareOf ok.fl X.V v7 l2 l3 q3.2 hq8) dX6_kindAt_25 ?_
      obtain ⟨kq9, h⟩ := ck_some h
      obtain ⟨q9, hq9, h⟩ := obind h
      refine k_V1 ok kl_X6_235 ⟨Nat.le_of_ble_eq_true rfl, Nat.le_of_ble_eq_true rfl⟩ [.int l1, .int q8.1] kq9 rfl rfl (Nat.le_of_ble_eq_true rfl) (tX3_contentAt ok.fl X.V v5 l1 q8.1 q8.2 hq9) dX6_kindAt_28 ?_
      obtain ⟨q10, hq10, h⟩ := obind h
      refine k_S1 ok kl_X6_238 ⟨Nat.le_of_ble_eq_true rfl, Nat.le_of_ble_eq_true rfl⟩ [.int q9.1] rfl rfl (Nat.le_of_ble_eq_true rfl) (tX6_kindOf ok.fl X.V q9.1 q9.2 hq10) dX6_kindAt_31 ?_
      obtain ⟨er, eG⟩ := inj2 h
      subst er; subst eG
      exact j_iret ok rfl dX6_kindAt_34 hK

def fX6_kindAt (l0 : Nat) (l1 : Int32) (l2 : Int32) (l3 : Int32) (G : Mem) : Option ((Int32 ⊕ Nat) × Mem) := fX6_kindAt_0 l0 l1 l2 l3 G
set_option maxRecDepth 100000 in
theorem tX6_kindAt {l : Launch} (hfl : l.stackTraces = false) (V : Wd) (l0 : Nat) (l1 : Int32) (l2 : Int32) (l3 : Int32) (G : Mem) {r : (Int32 ⊕ Nat)} {G' : Mem} (h : fX6_kindAt l0 l1 l2 l3 G = some (r, G')) : Mx l yX6_kindAt cX6_kindAt 4 (some .int) 9 182 V [.ref (V.B + l0), .int l1, .int l2, .int l3] G (rzI r) G' :=
  mx_of (L := [(0, .ref (V.B + l0)), (1, .int l1), (2, .int l2), (3, .int l3)]) hfl (by decide +kernel) (Nat.le_of_ble_eq_true rfl) rfl (fun X hl hV hin ok he => by
    subst hl; subst hV
    exact J.sub [0, 1, 2, 3] rfl (jX6_kindAt_0 ok l0 l1 l2 l3 G h (by cases r <;> exact he)))
def fX6_runCommands_204   (G : Mem) : Option (Int32 × Mem) :=
  some ((1 : Int32), G)

set_option maxRecDepth 100000 in
set_option maxHeartbeats 4000000 in
theorem jX6_runCommands_204 {X : Cx} (ok : OK X cX6_runCommands RX6 (some .boolean) 3 8 217)   (G : Mem) {r : Int32} {G' : Mem} (h : fX6_runCommands_204  G = some (r, G')) (hK : (finI X) r G') : J X 3 204 [] [] G := by
  unfold fX6_runCommands_204 at h
  refine j_iconst (v := 1) ok dX6_runCommands_204 (by decide) ?_
  obtain ⟨er, eG⟩ := inj2 h
  subst er; subst eG
  exact j_zret ok rfl (Or.inr rfl) dX6_runCommands_205 hK

def fX6_runCommands_196   (G : Mem) : Option (Int32 × Mem) :=
  some ((0 : Int32), G)

set_option maxRecDepth 100000 in
set_option maxHeartbeats 4000000 in
theorem jX6_runCommands_196 {X : Cx} (ok : OK X cX6_runCommands RX6 (some .boolean) 3 8 217)   (G : Mem) {r : Int32} {G' : Mem} (h : fX6_runCommands_196  G = some (r, G')) (hK : (finI X) r G') : J X 3 196 [] [] G := by
  unfold fX6_runCommands_196 at h
  refine j_iconst (v := 0) ok dX6_runCommands_196 (by decide) ?_
  obtain ⟨er, eG⟩ := inj2 h
  subst er; subst eG
  exact j_zret ok rfl (Or.inl rfl) dX6_runCommands_197 hK

def fX6_runCommands_185 (l0 : Nat) (l1 : Int32) (l2 : Int32)  (G : Mem) : Option (((Int32) ⊕ Int32) × Mem) :=
  (gR G 16 l0 0).bind fun v1 =>
  ck G 12 v1 <| (fX2_endCommand v1 l2 G).bind fun q2 =>
  if q2.1 = (0 : Int32) then
    liftE (fX6_runCommands_196 q2.2)
  else
    some (.inl ((l1 + (1 : Int32))), q2.2)

set_option maxRecDepth 100000 in
set_option maxHeartbeats 4000000 in
theorem jX6_runCommands_185 {X : Cx} (ok : OK X cX6_runCommands RX6 (some .boolean) 3 8 217) (l0 : Nat) (l1 : Int32) (l2 : Int32)  (G : Mem) {r : ((Int32) ⊕ Int32)} {G' : Mem} (h : fX6_runCommands_185 l0 l1 l2 G = some (r, G')) (hK : (finL X 3 2 (fun s : Int32 => [(0, .ref (X.B + l0)), (1, .int s)]) (finI X)) r G') : J X 3 185 [(0, .ref (X.B + l0)), (1, .int l1), (2, .int l2)] [] G := by
  unfold fX6_runCommands_185 at h
  refine j_aload_n ok dX6_runCommands_185 rfl 0 rfl ?_
  obtain ⟨v1, hv1, h⟩ := obind h
  refine k_getR ok fl_X6_12 hv1 dX6_runCommands_186 ?_
  refine j_iload_n ok dX6_runCommands_189 rfl 2 rfl ?_
  obtain ⟨kq2, h⟩ := ck_some h
  obtain ⟨q2, hq2, h⟩ := obind h
  refine k_V1 ok kl_X6_365 ⟨Nat.le_of_ble_eq_true rfl, Nat.le_of_ble_eq_true rfl⟩ [.int l2] kq2 rfl rfl (Nat.le_of_ble_eq_true rfl) (tX2_endCommand ok.fl X.V v1 l2 G hq2) dX6_runCommands_190 ?_
  rcases ite_some h with ⟨c3, h⟩ | ⟨c3, h⟩
  · refine j_if_ne (tgt := 198) ok dX6_runCommands_193 (by decide) (fun z => absurd c3 z) (fun _ => ?_)
    obtain ⟨r1, e1, h1⟩ := lift_some h
    subst e1
    exact J.sub [] rfl (jX6_runCommands_196 ok q2.2 h1 hK)
  · refine j_if_ne (tgt := 198) ok dX6_runCommands_193 (by decide) (fun _ => ?_) (fun z => absurd z c3)
    refine j_iinc (L' := [(1, .int (l1 + (1 : Int32))), (0, .ref (X.B + l0)), (2, .int l2)]) (v := (l1 + (1 : Int32))) ok dX6_runCommands_198 (q := 1) rfl rfl (by decide) rfl ?_
    refine j_goto (tgt := 2) ok dX6_runCommands_201 (by decide) ?_
    obtain ⟨er, eG⟩ := inj2 h
    subst er; subst eG
    have hJ : J X 3 2 [(0, .ref (X.B + l0)), (1, .int (l1 + (1 : Int32)))] [] q2.2 := hK
    exact J.sub [1, 0] rfl hJ

def fX6_runCommands_153 (l0 : Nat) (l1 : Int32) (s0 : Int32) (G : Mem) : Option (((Int32) ⊕ Int32) × Mem) :=
  fX6_runCommands_185 l0 l1 s0 G

set_option maxRecDepth 100000 in
set_option maxHeartbeats 4000000 in
theorem jX6_runCommands_153 {X : Cx} (ok : OK X cX6_runCommands RX6 (some .boolean) 3 8 217) (l0 : Nat) (l1 : Int32) (s0 : Int32) (G : Mem) {r : ((Int32) ⊕ Int32)} {G' : Mem} (h : fX6_runCommands_153 l0 l1 s0 G = some (r, G')) (hK : (finL X 3 2 (fun s : Int32 => [(0, .ref (X.B + l0)), (1, .int s)]) (finI X)) r G') : J X 3 153 [(0, .ref (X.B + l0)), (1, .int l1)] [.int s0] G := by
  unfold fX6_runCommands_153 at h
  refine j_istore_n (L' := [(2, .int s0), (0, .ref (X.B + l0)), (1, .int l1)]) ok dX6_runCommands_153 rfl (by decide) rfl ?_
  refine j_goto (tgt := 185) ok dX6_runCommands_154 (by decide) ?_
  exact J.sub [1, 2, 0] rfl (jX6_runCommands_185 ok l0 l1 s0 G h hK)

def fX6_runCommands_88 (l0 : Nat) (l1 : Int32) (s0 : Int32) (G : Mem) : Option (((Int32) ⊕ Int32) × Mem) :=
  fX6_runCommands_185 l0 l1 s0 G

set_option maxRecDepth 100000 in
set_option maxHeartbeats 4000000 in
theorem jX6_runCommands_88 {X : Cx} (ok : OK X cX6_runCommands RX6 (some .boolean) 3 8 217) (l0 : Nat) (l1 : Int32) (s0 : Int32) (G : Mem) {r : ((Int32) ⊕ Int32)} {G' : Mem} (h : fX6_runCommands_88 l0 l1 s0 G = some (r, G')) (hK : (finL X 3 2 (fun s : Int32 => [(0, .ref (X.B + l0)), (1, .int s)]) (finI X)) r G') : J X 3 88 [(0, .ref (X.B + l0)), (1, .int l1)] [.int s0] G := by
  unfold fX6_runCommands_88 at h
  refine j_istore_n (L' := [(2, .int s0), (0, .ref (X.B + l0)), (1, .int l1)]) ok dX6_runCommands_88 rfl (by decide) rfl ?_
  refine j_goto (tgt := 185) ok dX6_runCommands_89 (by decide) ?_
  exact J.sub [1, 2, 0] rfl (jX6_runCommands_185 ok l0 l1 s0 G h hK)

def fX6_runCommands_87 (l0 : Nat) (l1 : Int32)  (G : Mem) : Option (((Int32) ⊕ Int32) × Mem) :=
  fX6_runCommands_88 l0 l1 (0 : Int32) G

set_option maxRecDepth 100000 in
set_option maxHeartbeats 4000000 in
theorem jX6_runCommands_87 {X : Cx} (ok : OK X cX6_runCommands RX6 (some .boolean) 3 8 217) (l0 : Nat) (l1 : Int32)  (G : Mem) {r : ((Int32) ⊕ Int32)} {G' : Mem} (h : fX6_runCommands_87 l0 l1 G = some (r, G')) (hK : (finL X 3 2 (fun s : Int32 => [(0, .ref (X.B + l0)), (1, .int s)]) (finI X)) r G') : J X 3 87 [(0, .ref (X.B + l0)), (1, .int l1)] [] G := by
  unfold fX6_runCommands_87 at h
  refine j_iconst (v := 0) ok dX6_runCommands_87 (by decide) ?_
  exact J.sub [0, 1] rfl (jX6_runCommands_88 ok l0 l1 (0 : Int32) G h hK)

def fX6_runCommands_33   (G : Mem) : Option (Int32 × Mem) :=
  some ((0 : Int32), G)

set_option maxRecDepth 100000 in
set_option maxHeartbeats 4000000 in
theorem jX6_runCommands_33 {X : Cx} (ok : OK X cX6_runCommands RX6 (some .boolean) 3 8 217)   (G : Mem) {r : Int32} {G' : Mem} (h : fX6_runCommands_33  G = some (r, G')) (hK : (finI X) r G') : J X 3 33 [] [] G := by
  unfold fX6_runCommands_33 at h
  refine j_iconst (v := 0) ok dX6_runCommands_33 (by decide) ?_
  obtain ⟨er, eG⟩ := inj2 h
  subst er; subst eG
  exact j_zret ok rfl (Or.inl rfl) dX6_runCommands_34 hK

def fX6_runCommands_2 (l0 : Nat) (l1 : Int32)  (G : Mem) : Option (((Int32) ⊕ Int32) × Mem) :=
  if (600 : Int32) ≤ l1 then
    liftE (fX6_runCommands_204 G)
  else
    (gR G 16 l0 0).bind fun v2 =>
    ck G 12 v2 <| (fX2_isAtEnd v2 G).bind fun q3 =>
    if q3.1 = (0 : Int32) then
      (gR q3.2 16 l0 0).bind fun v5 =>
      (gR q3.2 16 l0 4).bind fun v6 =>
      ck q3.2 12 v5 <| (fX2_readCommand v5 v6 q3.2).bind fun q7 =>
      if q7.1 = (0 : Int32) then
        liftE (fX6_runCommands_33 q7.2)
      else
        (gR q7.2 16 l0 0).bind fun v9 =>
        (gF q7.2 12 v9 5).bind fun v10 =>
        if v10 = (0 : Int32) then
          (gR q7.2 16 l0 4).bind fun v12 =>
          (gR q7.2 16 l0 0).bind fun v13 =>
          (gR q7.2 12 v13 6).bind fun v14 =>
          ck q7.2 13 v12 <| (fX3_addLast v12 v14 q7.2).bind fun q15 =>
          if q15.1 = (0 : Int32) then
            fX6_runCommands_87 l0 l1 q15.2
          else
            (gR q15.2 16 l0 4).bind fun v17 =>
            (gR q15.2 16 l0 4).bind fun v18 =>
            (gF q15.2 13 v18 1).bind fun v19 =>
            ck q15.2 13 v17 <| (fX3_follow v17 (v19 - (1 : Int32)) q15.2).bind fun q20 =>
            if q20.1 ≤ (0 : Int32) then
              fX6_runCommands_87 l0 l1 q20.2
            else
              fX6_runCommands_88 l0 l1 (1 : Int32) q20.2
        else
          (gR q7.2 16 l0 0).bind fun v12 =>
          (gF q7.2 12 v12 5).bind fun v13 =>
          if v13 = (1 : Int32) then
            (gR q7.2 16 l0 4).bind fun v15 =>
            (gR q7.2 16 l0 0).bind fun v16 =>
            (gF q7.2 12 v16 7).bind fun v17 =>
            (gR q7.2 16 l0 0).bind fun v18 =>
            (gF q7.2 12 v18 8).bind fun v19 =>
            (gR q7.2 16 l0 0).bind fun v20 =>
            (gF q7.2 12 v20 9).bind fun v21 =>
            ck q7.2 13 v15 <| (fX3_setOrigin v15 v17 v19 v21 q7.2).bind fun q22 =>
            (gR q22.2 16 l0 4).bind fun v23 =>
            (gR q22.2 16 l0 0).bind fun v24 =>
            (gF q22.2 12 v24 7).bind fun v25 =>
            ck q22.2 13 v23 <| (fX3_follow v23 v25 q22.2).bind fun q26 =>
            if q26.1 ≤ (0 : Int32) then
              fX6_runCommands_153 l0 l1 (0 : Int32) q26.2
            else
              fX6_runCommands_153 l0 l1 (1 : Int32) q26.2
          else
            (gR q7.2 16 l0 4).bind fun v15 =>
            (gF q7.2 13 v15 1).bind fun v16 =>
            if v16 ≤ (0 : Int32) then
              fX6_runCommands_185 l0 l1 (0 : Int32) q7.2
            else
              (gR q7.2 16 l0 4).bind fun v18 =>
              (gF q7.2 13 v18 1).bind fun v19 =>
              (pI q7.2 13 v18 1 (v19 - (1 : Int32))).bind fun G20 =>
              fX6_runCommands_185 l0 l1 (1 : Int32) G20
    else
      liftE (fX6_runCommands_204 q3.2)

set_option maxRecDepth 100000 in
set_option maxHeartbeats 4000000 in
theorem jX6_runCommands_2 {X : Cx} (ok : OK X cX6_runCommands RX6 (some .boolean) 3 8 217) (l0 : Nat) (l1 : Int32)  (G : Mem) {r : ((Int32) ⊕ Int32)} {G' : Mem} (h : fX6_runCommands_2 l0 l1 G = some (r, G')) (hK : (finL X 3 2 (fun s : Int32 => [(0, .ref (X.B + l0)), (1, .int s)]) (finI X)) r G') : J X 3 2 [(0, .ref (X.B + l0)), (1, .int l1)] [] G := by
  unfold fX6_runCommands_2 at h
  refine j_iload_n ok dX6_runCommands_2 rfl 1 rfl ?_
  refine j_sipush (v := 600) ok dX6_runCommands_3 (by decide) ?_
  rcases ite_some h with ⟨c1, h⟩ | ⟨c1, h⟩
  · refine j_icmp_ge (tgt := 204) ok dX6_runCommands_6 (by decide) (fun _ => ?_) (fun z => absurd c1 z)
    obtain ⟨r1, e1, h1⟩ := lift_some h
    subst e1
    exact J.sub [] rfl (jX6_runCommands_204 ok G h1 hK)
  · refine j_icmp_ge (tgt := 204) ok dX6_runCommands_6 (by decide) (fun z => absurd z c1) (fun _ => ?_)
    refine j_aload_n ok dX6_runCommands_9 rfl 0 rfl ?_
    obtain ⟨v2, hv2, h⟩ := obind h
    refine k_getR ok fl_X6_12 hv2 dX6_runCommands_10 ?_
    obtain ⟨kq3, h⟩ := ck_some h
    obtain ⟨q3, hq3, h⟩ := obind h
    refine k_V1 ok kl_X6_343 ⟨Nat.le_of_ble_eq_true rfl, Nat.le_of_ble_eq_true rfl⟩ [] kq3 rfl rfl (Nat.le_of_ble_eq_true rfl) (tX2_isAtEnd ok.fl X.V v2 G hq3) dX6_runCommands_13 ?_
    rcases ite_some h with ⟨c4, h⟩ | ⟨c4, h⟩
    · refine j_if_ne (tgt := 204) ok dX6_runCommands_16 (by decide) (fun z => absurd c4 z) (fun _ => ?_)
      refine j_aload_n ok dX6_runCommands_19 rfl 0 rfl ?_
      obtain ⟨v5, hv5, h⟩ := obind h
      refine k_getR ok fl_X6_12 hv5 dX6_runCommands_20 ?_
      refine j_aload_n ok dX6_runCommands_23 rfl 0 rfl ?_
      obtain ⟨v6, hv6, h⟩ := obind h
      refine k_getR ok fl_X6_37 hv6 dX6_runCommands_24 ?_
      obtain ⟨kq7, h⟩ := ck_some h
      obtain ⟨q7, hq7, h⟩ := obind h
      refine k_V1 ok kl_X6_346 ⟨Nat.le_of_ble_eq_true rfl, Nat.le_of_ble_eq_true rfl⟩ [.ref (X.B + v6)] kq7 rfl rfl (Nat.le_of_ble_eq_true rfl) (tX2_readCommand ok.fl X.V v5 v6 q3.2 hq7) dX6_runCommands_27 ?_
      rcases ite_some h with ⟨c8, h⟩ | ⟨c8, h⟩
      · refine j_if_ne (tgt := 35) ok dX6_runCommands_30 (by decide) (fun z => absurd c8 z) (fun _ => ?_)
        obtain ⟨r1, e1, h1⟩ := lift_some h
        subst e1
        exact J.sub [] rfl (jX6_runCommands_33 ok q7.2 h1 hK)
      · refine j_if_ne (tgt := 35) ok dX6_runCommands_30 (by decide) (fun _ => ?_) (fun z => absurd z c8)
        refine j_iconst (v := 1) ok dX6_runCommands_35 (by decide) ?_
        refine j_istore_n (L' := [(2, .int (1 : Int32)), (0, .ref (X.B + l0)), (1, .int l1)]) ok dX6_runCommands_36 rfl (by decide) rfl ?_
        refine j_aload_n ok dX6_runCommands_37 rfl 1 rfl ?_
        obtain ⟨v9, hv9, h⟩ := obind h
        refine k_getR ok fl_X6_12 hv9 dX6_runCommands_38 ?_
        obtain ⟨v10, hv10, h⟩ := obind h
        refine k_getI ok fl_X6_350 hv10 dX6_runCommands_41 ?_
        rcases ite_some h with ⟨c11, h⟩ | ⟨c11, h⟩
        · refine j_if_ne (tgt := 92) ok dX6_runCommands_44 (by decide) (fun z => absurd c11 z) (fun _ => ?_)
          refine j_aload_n ok dX6_runCommands_47 rfl 1 rfl ?_
          obtain ⟨v12, hv12, h⟩ := obind h
          refine k_getR ok fl_X6_37 hv12 dX6_runCommands_48 ?_
          refine j_aload_n ok dX6_runCommands_51 rfl 1 rfl ?_
          obtain ⟨v13, hv13, h⟩ := obind h
          refine k_getR ok fl_X6_12 hv13 dX6_runCommands_52 ?_
          obtain ⟨v14, hv14, h⟩ := obind h
          refine k_getR ok fl_X6_353 hv14 dX6_runCommands_55 ?_
          obtain ⟨kq15, h⟩ := ck_some h
          obtain ⟨q15, hq15, h⟩ := obind h
          refine k_V1 ok kl_X6_339 ⟨Nat.le_of_ble_eq_true rfl, Nat.le_of_ble_eq_true rfl⟩ [.ref (X.B + v14)] kq15 rfl rfl (Nat.le_of_ble_eq_true rfl) (tX3_addLast ok.fl X.V v12 v14 q7.2 hq15) dX6_runCommands_58 ?_
          rcases ite_some h with ⟨c16, h⟩ | ⟨c16, h⟩
          · refine j_if_eq (tgt := 87) ok dX6_runCommands_61 (by decide) (fun _ => ?_) (fun z => absurd c16 z)
            exact J.sub [1, 2] rfl (jX6_runCommands_87 ok l0 l1 q15.2 h hK)
          · refine j_if_eq (tgt := 87) ok dX6_runCommands_61 (by decide) (fun z => absurd z c16) (fun _ => ?_)
            refine j_aload_n ok dX6_runCommands_64 rfl 1 rfl ?_
            obtain ⟨v17, hv17, h⟩ := obind h
            refine k_getR ok fl_X6_37 hv17 dX6_runCommands_65 ?_
            refine j_aload_n ok dX6_runCommands_68 rfl 1 rfl ?_
            obtain ⟨v18, hv18, h⟩ := obind h
            refine k_getR ok fl_X6_37 hv18 dX6_runCommands_69 ?_
            obtain ⟨v19, hv19, h⟩ := obind h
            refine k_getI ok fl_X6_174 hv19 dX6_runCommands_72 ?_
            refine j_iconst (v := 1) ok dX6_runCommands_75 (by decide) ?_
            refine j_isub ok dX6_runCommands_76 ?_
            obtain ⟨kq20, h⟩ := ck_some h
            obtain ⟨q20, hq20, h⟩ := obind h
            refine k_V1 ok kl_X6_168 ⟨Nat.le_of_ble_eq_true rfl, Nat.le_of_ble_eq_true rfl⟩ [.int (v19 - (1 : Int32))] kq20 rfl rfl (Nat.le_of_ble_eq_true rfl) (tX3_follow ok.fl X.V v17 (v19 - (1 : Int32)) q15.2 hq20) dX6_runCommands_77 ?_
            rcases ite_some h with ⟨c21, h⟩ | ⟨c21, h⟩
            · refine j_if_le (tgt := 87) ok dX6_runCommands_80 (by decide) (fun _ => ?_) (fun z => absurd c21 z)
              exact J.sub [1, 2] rfl (jX6_runCommands_87 ok l0 l1 q20.2 h hK)
            · refine j_if_le (tgt := 87) ok dX6_runCommands_80 (by decide) (fun z => absurd z c21) (fun _ => ?_)
              refine j_iconst (v := 1) ok dX6_runCommands_83 (by decide) ?_
              refine j_goto (tgt := 88) ok dX6_runCommands_84 (by decide) ?_
              exact J.sub [1, 2] rfl (jX6_runCommands_88 ok l0 l1 (1 : Int32) q20.2 h hK)
        · refine j_if_ne (tgt := 92) ok dX6_runCommands_44 (by decide) (fun _ => ?_) (fun z => absurd z c11)
          refine j_aload_n ok dX6_runCommands_92 rfl 1 rfl ?_
          obtain ⟨v12, hv12, h⟩ := obind h
          refine k_getR ok fl_X6_12 hv12 dX6_runCommands_93 ?_
          obtain ⟨v13, hv13, h⟩ := obind h
          refine k_getI ok fl_X6_350 hv13 dX6_runCommands_96 ?_
          refine j_iconst (v := 1) ok dX6_runCommands_99 (by decide) ?_
          rcases ite_some h with ⟨c14, h⟩ | ⟨c14, h⟩
          · refine j_icmp_ne (tgt := 157) ok dX6_runCommands_100 (by decide) (fun z => absurd c14 z) (fun _ => ?_)
            refine j_aload_n ok dX6_runCommands_103 rfl 1 rfl ?_
            obtain ⟨v15, hv15, h⟩ := obind h
            refine k_getR ok fl_X6_37 hv15 dX6_runCommands_104 ?_
            refine j_aload_n ok dX6_runCommands_107 rfl 1 rfl ?_
            obtain ⟨v16, hv16, h⟩ := obind h
            refine k_getR ok fl_X6_12 hv16 dX6_runCommands_108 ?_
            obtain ⟨v17, hv17, h⟩ := obind h
            refine k_getI ok fl_X6_356 hv17 dX6_runCommands_111 ?_
            refine j_aload_n ok dX6_runCommands_114 rfl 1 rfl ?_
            obtain ⟨v18, hv18, h⟩ := obind h
            refine k_getR ok fl_X6_12 hv18 dX6_runCommands_115 ?_
            obtain ⟨v19, hv19, h⟩ := obind h
            refine k_getI ok fl_X6_359 hv19 dX6_runCommands_118 ?_
            refine j_aload_n ok dX6_runCommands_121 rfl 1 rfl ?_
            obtain ⟨v20, hv20, h⟩ := obind h
            refine k_getR ok fl_X6_12 hv20 dX6_runCommands_122 ?_
            obtain ⟨v21, hv21, h⟩ := obind h
            refine k_getI ok fl_X6_362 hv21 dX6_runCommands_125 ?_
            obtain ⟨kq22, h⟩ := ck_some h
            obtain ⟨q22, hq22, h⟩ := obind h
            refine k_V0 ok kl_X6_164 ⟨Nat.le_of_ble_eq_true rfl, Nat.le_of_ble_eq_true rfl⟩ [.int v17, .int v19, .int v21] kq22 rfl rfl (Nat.le_of_ble_eq_true rfl) (tX3_setOrigin ok.fl X.V v15 v17 v19 v21 q7.2 hq22) dX6_runCommands_128 ?_
            refine j_aload_n ok dX6_runCommands_131 rfl 1 rfl ?_
            obtain ⟨v23, hv23, h⟩ := obind h
            refine k_getR ok fl_X6_37 hv23 dX6_runCommands_132 ?_
            refine j_aload_n ok dX6_runCommands_135 rfl 1 rfl ?_
            obtain ⟨v24, hv24, h⟩ := obind h
            refine k_getR ok fl_X6_12 hv24 dX6_runCommands_136 ?_
            obtain ⟨v25, hv25, h⟩ := obind h
            refine k_getI ok fl_X6_356 hv25 dX6_runCommands_139 ?_
            obtain ⟨kq26, h⟩ := ck_some h
            obtain ⟨q26, hq26, h⟩ := obind h
            refine k_V1 ok kl_X6_168 ⟨Nat.le_of_ble_eq_true rfl, Nat.le_of_ble_eq_true rfl⟩ [.int v25] kq26 rfl rfl (Nat.le_of_ble_eq_true rfl) (tX3_follow ok.fl X.V v23 v25 q22.2 hq26) dX6_runCommands_142 ?_
            rcases ite_some h with ⟨c27, h⟩ | ⟨c27, h⟩
            · refine j_if_le (tgt := 152) ok dX6_runCommands_145 (by decide) (fun _ => ?_) (fun z => absurd c27 z)
              refine j_iconst (v := 0) ok dX6_runCommands_152 (by decide) ?_
              exact J.sub [1, 2] rfl (jX6_runCommands_153 ok l0 l1 (0 : Int32) q26.2 h hK)
            · refine j_if_le (tgt := 152) ok dX6_runCommands_145 (by decide) (fun z => absurd z c27) (fun _ => ?_)
              refine j_iconst (v := 1) ok dX6_runCommands_148 (by decide) ?_
              refine j_goto (tgt := 153) ok dX6_runCommands_149 (by decide) ?_
              exact J.sub [1, 2] rfl (jX6_runCommands_153 ok l0 l1 (1 : Int32) q26.2 h hK)
          · refine j_icmp_ne (tgt := 157) ok dX6_runCommands_100 (by decide) (fun _ => ?_) (fun z => absurd z c14)
            refine j_aload_n ok dX6_runCommands_157 rfl 1 rfl ?_
            obtain ⟨v15, hv15, h⟩ := obind h
            refine k_getR ok fl_X6_37 hv15 dX6_runCommands_158 ?_
            obtain ⟨v16, hv16, h⟩ := obind h
            refine k_getI ok fl_X6_174 hv16 dX6_runCommands_161 ?_
            rcases ite_some h with ⟨c17, h⟩ | ⟨c17, h⟩
            · refine j_if_le (tgt := 183) ok dX6_runCommands_164 (by decide) (fun _ => ?_) (fun z => absurd c17 z)
              refine j_iconst (v := 0) ok dX6_runCommands_183 (by decide) ?_
              refine j_istore_n (L' := [(2, .int (0 : Int32)), (0, .ref (X.B + l0)), (1, .int l1)]) ok dX6_runCommands_184 rfl (by decide) rfl ?_
              exact J.sub [1, 2, 0] rfl (jX6_runCommands_185 ok l0 l1 (0 : Int32) q7.2 h hK)
            · refine j_if_le (tgt := 183) ok dX6_runCommands_164 (by decide) (fun z => absurd z c17) (fun _ => ?_)
              refine j_aload_n ok dX6_runCommands_167 rfl 1 rfl ?_
              obtain ⟨v18, hv18, h⟩ := obind h
              refine k_getR ok fl_X6_37 hv18 dX6_runCommands_168 ?_
              refine j_dup ok dX6_runCommands_171 rfl ?_
              obtain ⟨v19, hv19, h⟩ := obind h
              refine k_getI ok fl_X6_174 hv19 dX6_runCommands_172 ?_
              refine j_iconst (v := 1) ok dX6_runCommands_175 (by decide) ?_
              refine j_isub ok dX6_runCommands_176 ?_
              obtain ⟨G20, hG20, h⟩ := obind h
              refine k_putI ok fl_X6_174 fp_X3 rfl (Or.inl rfl) hG20 dX6_runCommands_177 ?_
              refine j_goto (tgt := 185) ok dX6_runCommands_180 (by decide) ?_
              exact J.sub [1, 2, 0] rfl (jX6_runCommands_185 ok l0 l1 (1 : Int32) G20 h hK)
    · refine j_if_ne (tgt := 204) ok dX6_runCommands_16 (by decide) (fun _ => ?_) (fun z => absurd z c4)
      obtain ⟨r1, e1, h1⟩ := lift_some h
      subst e1
      exact J.sub [] rfl (jX6_runCommands_204 ok q3.2 h1 hK)

def fX6_runCommands_0 (l0 : Nat)  (G : Mem) : Option (Int32 × Mem) :=
  loopM (fun (s : Int32) G => fX6_runCommands_2 l0 s G) FU ((0 : Int32)) G

set_option maxRecDepth 100000 in
set_option maxHeartbeats 4000000 in
theorem jX6_runCommands_0 {X : Cx} (ok : OK X cX6_runCommands RX6 (some .boolean) 3 8 217) (l0 : Nat)  (G : Mem) {r : Int32} {G' : Mem} (h : fX6_runCommands_0 l0 G = some (r, G')) (hK : (finI X) r G') : J X 3 0 [(0, .ref (X.B + l0))] [] G := by
  unfold fX6_runCommands_0 at h
  refine j_iconst (v := 0) ok dX6_runCommands_0 (by decide) ?_
  refine j_istore_n (L' := [(1, .int (0 : Int32)), (0, .ref (X.B + l0))]) ok dX6_runCommands_1 rfl (by decide) rfl ?_
  have hJ : J X 3 2 [(0, .ref (X.B + l0)), (1, .int (0 : Int32))] [] G := j_loop (loc := fun s : Int32 => [(0, .ref (X.B + l0)), (1, .int s)]) (F := (finI X)) (fun s G r G' hb hk => jX6_runCommands_2 ok l0 s G hb hk) _ _ _ _ _ h hK
  exact J.sub [1, 0] rfl hJ

def fX6_runCommands (l0 : Nat) (G : Mem) : Option (Int32 × Mem) := fX6_runCommands_0 l0 G
set_option maxRecDepth 100000 in
theorem tX6_runCommands {l : Launch} (hfl : l.stackTraces = false) (V : Wd) (l0 : Nat) (G : Mem) {r : Int32} {G' : Mem} (h : fX6_runCommands l0 G = some (r, G')) : Mx l yX6_runCommands cX6_runCommands 3 (some .boolean) 8 217 V [.ref (V.B + l0)] G (.inl (some (.int r))) G' :=
  mx_of (L := [(0, .ref (V.B + l0))]) hfl (by decide +kernel) (Nat.le_of_ble_eq_true rfl) rfl (fun X hl hV hin ok he => by
    subst hl; subst hV
    exact J.sub [0] rfl (jX6_runCommands_0 ok l0 G h he))
def fX6_load_57  (s0 : Int32) (G : Mem) : Option (Int32 × Mem) :=
  some (s0, G)

set_option maxRecDepth 100000 in
set_option maxHeartbeats 4000000 in
theorem jX6_load_57 {X : Cx} (ok : OK X cX6_load RX6 (some .int) 2 9 239)  (s0 : Int32) (G : Mem) {r : Int32} {G' : Mem} (h : fX6_load_57 s0 G = some (r, G')) (hK : (finI X) r G') : J X 2 57 [] [.int s0] G := by
  unfold fX6_load_57 at h
  obtain ⟨er, eG⟩ := inj2 h
  subst er; subst eG
  exact j_iret ok rfl dX6_load_57 hK

def fX6_load_38 (l0 : Nat) (l1 : Int32)  (G : Mem) : Option (Int32 × Mem) :=
  ck G 16 l0 <| (fX6_endOfText l0 l1 G).bind fun q1 =>
  if q1.1 = (0 : Int32) then
    fX6_load_57 (-1 : Int32) q1.2
  else
    (gR q1.2 16 l0 0).bind fun v3 =>
    (gF q1.2 12 v3 3).bind fun v4 =>
    fX6_load_57 v4 q1.2

set_option maxRecDepth 100000 in
set_option maxHeartbeats 4000000 in
theorem jX6_load_38 {X : Cx} (ok : OK X cX6_load RX6 (some .int) 2 9 239) (l0 : Nat) (l1 : Int32)  (G : Mem) {r : Int32} {G' : Mem} (h : fX6_load_38 l0 l1 G = some (r, G')) (hK : (finI X) r G') : J X 2 38 [(0, .ref (X.B + l0)), (1, .int l1)] [] G := by
  unfold fX6_load_38 at h
  refine j_aload_n ok dX6_load_38 rfl 0 rfl ?_
  refine j_iload_n ok dX6_load_39 rfl 1 rfl ?_
  obtain ⟨kq1, h⟩ := ck_some h
  obtain ⟨q1, hq1, h⟩ := obind h
  refine k_V1 ok kl_X6_107 ⟨Nat.le_of_ble_eq_true rfl, Nat.le_of_ble_eq_true rfl⟩ [.int l1] kq1 rfl rfl (Nat.le_of_ble_eq_true rfl) (tX6_endOfText ok.fl X.V l0 l1 G hq1) dX6_load_40 ?_
  rcases ite_some h with ⟨c2, h⟩ | ⟨c2, h⟩
  · refine j_if_eq (tgt := 56) ok dX6_load_43 (by decide) (fun _ => ?_) (fun z => absurd c2 z)
    refine j_iconst (v := -1) ok dX6_load_56 (by decide) ?_
    exact J.sub [] rfl (jX6_load_57 ok (-1 : Int32) q1.2 h hK)
  · refine j_if_eq (tgt := 56) ok dX6_load_43 (by decide) (fun z => absurd z c2) (fun _ => ?_)
    refine j_aload_n ok dX6_load_46 rfl 0 rfl ?_
    obtain ⟨v3, hv3, h⟩ := obind h
    refine k_getR ok fl_X6_12 hv3 dX6_load_47 ?_
    obtain ⟨v4, hv4, h⟩ := obind h
    refine k_getI ok fl_X6_111 hv4 dX6_load_50 ?_
    refine j_goto (tgt := 57) ok dX6_load_53 (by decide) ?_
    exact J.sub [] rfl (jX6_load_57 ok v4 q1.2 h hK)

def fX6_load_0 (l0 : Nat)  (G : Mem) : Option (Int32 × Mem) :=
  (gR G 16 l0 0).bind fun v1 =>
  ck G 12 v1 <| (fX2_begin v1 G).bind fun q2 =>
  (gR q2.2 16 l0 0).bind fun v3 =>
  (gR q2.2 16 l0 4).bind fun v4 =>
  (gR q2.2 13 v4 0).bind fun v5 =>
  ck q2.2 12 v3 <| (fX2_readSetup v3 v5 q2.2).bind fun q6 =>
  if q6.1 = (0 : Int32) then
    fX6_load_38 l0 q6.1 q6.2
  else
    (gR q6.2 16 l0 4).bind fun v8 =>
    ck q6.2 13 v8 <| (fX3_begin v8 q6.2).bind fun q9 =>
    ck q9.2 16 l0 <| (fX6_runCommands l0 q9.2).bind fun q10 =>
    fX6_load_38 l0 q10.1 q10.2

set_option maxRecDepth 100000 in
set_option maxHeartbeats 4000000 in
theorem jX6_load_0 {X : Cx} (ok : OK X cX6_load RX6 (some .int) 2 9 239) (l0 : Nat)  (G : Mem) {r : Int32} {G' : Mem} (h : fX6_load_0 l0 G = some (r, G')) (hK : (finI X) r G') : J X 2 0 [(0, .ref (X.B + l0))] [] G := by
  unfold fX6_load_0 at h
  refine j_aload_n ok dX6_load_0 rfl 0 rfl ?_
  obtain ⟨v1, hv1, h⟩ := obind h
  refine k_getR ok fl_X6_12 hv1 dX6_load_1 ?_
  obtain ⟨kq2, h⟩ := ck_some h
  obtain ⟨q2, hq2, h⟩ := obind h
  refine k_V0 ok kl_X6_92 ⟨Nat.le_of_ble_eq_true rfl, Nat.le_of_ble_eq_true rfl⟩ [] kq2 rfl rfl (Nat.le_of_ble_eq_true rfl) (tX2_begin ok.fl X.V v1 G hq2) dX6_load_4 ?_
  refine j_aload_n ok dX6_load_7 rfl 0 rfl ?_
  obtain ⟨v3, hv3, h⟩ := obind h
  refine k_getR ok fl_X6_12 hv3 dX6_load_8 ?_
  refine j_aload_n ok dX6_load_11 rfl 0 rfl ?_
  obtain ⟨v4, hv4, h⟩ := obind h
  refine k_getR ok fl_X6_37 hv4 dX6_load_12 ?_
  obtain ⟨v5, hv5, h⟩ := obind h
  refine k_getR ok fl_X6_95 hv5 dX6_load_15 ?_
  obtain ⟨kq6, h⟩ := ck_some h
  obtain ⟨q6, hq6, h⟩ := obind h
  refine k_V1 ok kl_X6_99 ⟨Nat.le_of_ble_eq_true rfl, Nat.le_of_ble_eq_true rfl⟩ [.ref (X.B + v5)] kq6 rfl rfl (Nat.le_of_ble_eq_true rfl) (tX2_readSetup ok.fl X.V v3 v5 q2.2 hq6) dX6_load_18 ?_
  refine j_istore_n (L' := [(1, .int q6.1), (0, .ref (X.B + l0))]) ok dX6_load_21 rfl (by decide) rfl ?_
  refine j_iload_n ok dX6_load_22 rfl 0 rfl ?_
  rcases ite_some h with ⟨c7, h⟩ | ⟨c7, h⟩
  · refine j_if_eq (tgt := 38) ok dX6_load_23 (by decide) (fun _ => ?_) (fun z => absurd c7 z)
    exact J.sub [1, 0] rfl (jX6_load_38 ok l0 q6.1 q6.2 h hK)
  · refine j_if_eq (tgt := 38) ok dX6_load_23 (by decide) (fun z => absurd z c7) (fun _ => ?_)
    refine j_aload_n ok dX6_load_26 rfl 1 rfl ?_
    obtain ⟨v8, hv8, h⟩ := obind h
    refine k_getR ok fl_X6_37 hv8 dX6_load_27 ?_
    obtain ⟨kq9, h⟩ := ck_some h
    obtain ⟨q9, hq9, h⟩ := obind h
    refine k_V0 ok kl_X6_103 ⟨Nat.le_of_ble_eq_true rfl, Nat.le_of_ble_eq_true rfl⟩ [] kq9 rfl rfl (Nat.le_of_ble_eq_true rfl) (tX3_begin ok.fl X.V v8 q6.2 hq9) dX6_load_30 ?_
    refine j_aload_n ok dX6_load_33 rfl 1 rfl ?_
    obtain ⟨kq10, h⟩ := ck_some h
    obtain ⟨q10, hq10, h⟩ := obind h
    refine k_V1 ok kl_X6_104 ⟨Nat.le_of_ble_eq_true rfl, Nat.le_of_ble_eq_true rfl⟩ [] kq10 rfl rfl (Nat.le_of_ble_eq_true rfl) (tX6_runCommands ok.fl X.V l0 q9.2 hq10) dX6_load_34 ?_
    refine j_istore_n (L' := [(1, .int q10.1), (0, .ref (X.B + l0))]) ok dX6_load_37 rfl (by decide) rfl ?_
    exact J.sub [1, 0] rfl (jX6_load_38 ok l0 q10.1 q10.2 h hK)

def fX6_load (l0 : Nat) (G : Mem) : Option (Int32 × Mem) := fX6_load_0 l0 G
set_option maxRecDepth 100000 in
theorem tX6_load {l : Launch} (hfl : l.stackTraces = false) (V : Wd) (l0 : Nat) (G : Mem) {r : Int32} {G' : Mem} (h : fX6_load l0 G = some (r, G')) : Mx l yX6_load cX6_load 2 (some .int) 9 239 V [.ref (V.B + l0)] G (.inl (some (.int r))) G' :=
  mx_of (L := [(0, .ref (V.B + l0))]) hfl (by decide +kernel) (Nat.le_of_ble_eq_true rfl) rfl (fun X hl hV hin ok he => by
    subst hl; subst hV
    exact J.sub [0] rfl (jX6_load_0 ok l0 G h he))
def fX6_mostDoubtfulNote_55 (l1 : Int32)  (G : Mem) : Option (Int32 × Mem) :=
  some (l1, G)

set_option maxRecDepth 100000 in
set_option maxHeartbeats 4000000 in
theorem jX6_mostDoubtfulNote_55 {X : Cx} (ok : OK X cX6_mostDoubtfulNote RX6 (some .int) 5 3 72) (l1 : Int32)  (G : Mem) {r : Int32} {G' : Mem} (h : fX6_mostDoubtfulNote_55 l1 G = some (r, G')) (hK : (finI X) r G') : J X 5 55 [(1, .int l1)] [] G := by
  unfold fX6_mostDoubtfulNote_55 at h
  refine j_iload_n ok dX6_mostDoubtfulNote_55 rfl 0 rfl ?_
  obtain ⟨er, eG⟩ := inj2 h
  subst er; subst eG
  exact j_iret ok rfl dX6_mostDoubtfulNote_56 hK

def fX6_mostDoubtfulNote_49 (l0 : Nat) (l1 : Int32) (l2 : Int32) (l3 : Int32)  (G : Mem) : Option (((Int32 × Int32 × Int32) ⊕ Int32) × Mem) :=
  some (.inl (l1, l2, (l3 + (1 : Int32))), G)

set_option maxRecDepth 100000 in
set_option maxHeartbeats 4000000 in
theorem jX6_mostDoubtfulNote_49 {X : Cx} (ok : OK X cX6_mostDoubtfulNote RX6 (some .int) 5 3 72) (l0 : Nat) (l1 : Int32) (l2 : Int32) (l3 : Int32)  (G : Mem) {r : ((Int32 × Int32 × Int32) ⊕ Int32)} {G' : Mem} (h : fX6_mostDoubtfulNote_49 l0 l1 l2 l3 G = some (r, G')) (hK : (finL X 5 6 (fun s : Int32 × Int32 × Int32 => [(0, .ref (X.B + l0)), (1, .int s.1), (2, .int s.2.1), (3, .int s.2.2)]) (finI X)) r G') : J X 5 49 [(0, .ref (X.B + l0)), (1, .int l1), (2, .int l2), (3, .int l3)] [] G := by
  unfold fX6_mostDoubtfulNote_49 at h
  refine j_iinc (L' := [(3, .int (l3 + (1 : Int32))), (0, .ref (X.B + l0)), (1, .int l1), (2, .int l2)]) (v := (l3 + (1 : Int32))) ok dX6_mostDoubtfulNote_49 (q := 3) rfl rfl (by decide) rfl ?_
  refine j_goto (tgt := 6) ok dX6_mostDoubtfulNote_52 (by decide) ?_
  obtain ⟨er, eG⟩ := inj2 h
  subst er; subst eG
  have hJ : J X 5 6 [(0, .ref (X.B + l0)), (1, .int l1), (2, .int l2), (3, .int (l3 + (1 : Int32)))] [] G := hK
  exact J.sub [1, 2, 3, 0] rfl hJ

def fX6_mostDoubtfulNote_6 (l0 : Nat) (l1 : Int32) (l2 : Int32) (l3 : Int32)  (G : Mem) : Option (((Int32 × Int32 × Int32) ⊕ Int32) × Mem) :=
  (gR G 16 l0 3).bind fun v1 =>
  (gF G 13 v1 1).bind fun v2 =>
  if v2 ≤ l3 then
    liftE (fX6_mostDoubtfulNote_55 l1 G)
  else
    (gR G 16 l0 1).bind fun v4 =>
    (gR G 16 l0 3).bind fun v5 =>
    ck G 14 v4 <| (fX4_countGames v4 v5 l3 G).bind fun q6 =>
    (gR q6.2 16 l0 1).bind fun v7 =>
    ck q6.2 14 v7 <| (fX4_moveCount v7 q6.2).bind fun q8 =>
    if q8.1 ≤ l2 then
      fX6_mostDoubtfulNote_49 l0 l1 l2 l3 q8.2
    else
      fX6_mostDoubtfulNote_49 l0 l3 q8.1 l3 q8.2

set_option maxRecDepth 100000 in
set_option maxHeartbeats 4000000 in
theorem jX6_mostDoubtfulNote_6 {X : Cx} (ok : OK X cX6_mostDoubtfulNote RX6 (some .int) 5 3 72) (l0 : Nat) (l1 : Int32) (l2 : Int32) (l3 : Int32)  (G : Mem) {r : ((Int32 × Int32 × Int32) ⊕ Int32)} {G' : Mem} (h : fX6_mostDoubtfulNote_6 l0 l1 l2 l3 G = some (r, G')) (hK : (finL X 5 6 (fun s : Int32 × Int32 × Int32 => [(0, .ref (X.B + l0)), (1, .int s.1), (2, .int s.2.1), (3, .int s.2.2)]) (finI X)) r G') : J X 5 6 [(0, .ref (X.B + l0)), (1, .int l1), (2, .int l2), (3, .int l3)] [] G := by
  unfold fX6_mostDoubtfulNote_6 at h
  refine j_iload_n ok dX6_mostDoubtfulNote_6 rfl 3 rfl ?_
  refine j_aload_n ok dX6_mostDoubtfulNote_7 rfl 0 rfl ?_
  obtain ⟨v1, hv1, h⟩ := obind h
  refine k_getR ok fl_X6_33 hv1 dX6_mostDoubtfulNote_8 ?_
  obtain ⟨v2, hv2, h⟩ := obind h
  refine k_getI ok fl_X6_174 hv2 dX6_mostDoubtfulNote_11 ?_
  rcases ite_some h with ⟨c3, h⟩ | ⟨c3, h⟩
  · refine j_icmp_ge (tgt := 55) ok dX6_mostDoubtfulNote_14 (by decide) (fun _ => ?_) (fun z => absurd c3 z)
    obtain ⟨r1, e1, h1⟩ := lift_some h
    subst e1
    exact J.sub [1] rfl (jX6_mostDoubtfulNote_55 ok l1 G h1 hK)
  · refine j_icmp_ge (tgt := 55) ok dX6_mostDoubtfulNote_14 (by decide) (fun z => absurd z c3) (fun _ => ?_)
    refine j_aload_n ok dX6_mostDoubtfulNote_17 rfl 0 rfl ?_
    obtain ⟨v4, hv4, h⟩ := obind h
    refine k_getR ok fl_X6_19 hv4 dX6_mostDoubtfulNote_18 ?_
    refine j_aload_n ok dX6_mostDoubtfulNote_21 rfl 0 rfl ?_
    obtain ⟨v5, hv5, h⟩ := obind h
    refine k_getR ok fl_X6_33 hv5 dX6_mostDoubtfulNote_22 ?_
    refine j_iload_n ok dX6_mostDoubtfulNote_25 rfl 3 rfl ?_
    obtain ⟨kq6, h⟩ := ck_some h
    obtain ⟨q6, hq6, h⟩ := obind h
    refine k_V0 ok kl_X6_275 ⟨Nat.le_of_ble_eq_true rfl, Nat.le_of_ble_eq_true rfl⟩ [.ref (X.B + v5), .int l3] kq6 rfl rfl (Nat.le_of_ble_eq_true rfl) (tX4_countGames ok.fl X.V v4 v5 l3 G hq6) dX6_mostDoubtfulNote_26 ?_
    refine j_aload_n ok dX6_mostDoubtfulNote_29 rfl 0 rfl ?_
    obtain ⟨v7, hv7, h⟩ := obind h
    refine k_getR ok fl_X6_19 hv7 dX6_mostDoubtfulNote_30 ?_
    obtain ⟨kq8, h⟩ := ck_some h
    obtain ⟨q8, hq8, h⟩ := obind h
    refine k_V1 ok kl_X6_279 ⟨Nat.le_of_ble_eq_true rfl, Nat.le_of_ble_eq_true rfl⟩ [] kq8 rfl rfl (Nat.le_of_ble_eq_true rfl) (tX4_moveCount ok.fl X.V v7 q6.2 hq8) dX6_mostDoubtfulNote_33 ?_
    refine j_istore (L' := [(4, .int q8.1), (0, .ref (X.B + l0)), (1, .int l1), (2, .int l2), (3, .int l3)]) ok dX6_mostDoubtfulNote_36 (by decide) rfl ?_
    refine j_iload ok dX6_mostDoubtfulNote_38 0 rfl ?_
    refine j_iload_n ok dX6_mostDoubtfulNote_40 rfl 3 rfl ?_
    rcases ite_some h with ⟨c9, h⟩ | ⟨c9, h⟩
    · refine j_icmp_le (tgt := 49) ok dX6_mostDoubtfulNote_41 (by decide) (fun _ => ?_) (fun z => absurd c9 z)
      exact J.sub [1, 2, 3, 4] rfl (jX6_mostDoubtfulNote_49 ok l0 l1 l2 l3 q8.2 h hK)
    · refine j_icmp_le (tgt := 49) ok dX6_mostDoubtfulNote_41 (by decide) (fun z => absurd z c9) (fun _ => ?_)
      refine j_iload ok dX6_mostDoubtfulNote_44 0 rfl ?_
      refine j_istore_n (L' := [(2, .int q8.1), (4, .int q8.1), (0, .ref (X.B + l0)), (1, .int l1), (3, .int l3)]) ok dX6_mostDoubtfulNote_46 rfl (by decide) rfl ?_
      refine j_iload_n ok dX6_mostDoubtfulNote_47 rfl 4 rfl ?_
      refine j_istore_n (L' := [(1, .int l3), (2, .int q8.1), (4, .int q8.1), (0, .ref (X.B + l0)), (3, .int l3)]) ok dX6_mostDoubtfulNote_48 rfl (by decide) rfl ?_
      exact J.sub [3, 0, 1, 4] rfl (jX6_mostDoubtfulNote_49 ok l0 l3 q8.1 l3 q8.2 h hK)

def fX6_mostDoubtfulNote_0 (l0 : Nat)  (G : Mem) : Option (Int32 × Mem) :=
  loopM (fun (s : Int32 × Int32 × Int32) G => fX6_mostDoubtfulNote_6 l0 s.1 s.2.1 s.2.2 G) FU ((-1 : Int32), (1 : Int32), (0 : Int32)) G

set_option maxRecDepth 100000 in
set_option maxHeartbeats 4000000 in
theorem jX6_mostDoubtfulNote_0 {X : Cx} (ok : OK X cX6_mostDoubtfulNote RX6 (some .int) 5 3 72) (l0 : Nat)  (G : Mem) {r : Int32} {G' : Mem} (h : fX6_mostDoubtfulNote_0 l0 G = some (r, G')) (hK : (finI X) r G') : J X 5 0 [(0, .ref (X.B + l0))] [] G := by
  unfold fX6_mostDoubtfulNote_0 at h
  refine j_iconst (v := -1) ok dX6_mostDoubtfulNote_0 (by decide) ?_
  refine j_istore_n (L' := [(1, .int (-1 : Int32)), (0, .ref (X.B + l0))]) ok dX6_mostDoubtfulNote_1 rfl (by decide) rfl ?_
  refine j_iconst (v := 1) ok dX6_mostDoubtfulNote_2 (by decide) ?_
  refine j_istore_n (L' := [(2, .int (1 : Int32)), (1, .int (-1 : Int32)), (0, .ref (X.B + l0))]) ok dX6_mostDoubtfulNote_3 rfl (by decide) rfl ?_
  refine j_iconst (v := 0) ok dX6_mostDoubtfulNote_4 (by decide) ?_
  refine j_istore_n (L' := [(3, .int (0 : Int32)), (2, .int (1 : Int32)), (1, .int (-1 : Int32)), (0, .ref (X.B + l0))]) ok dX6_mostDoubtfulNote_5 rfl (by decide) rfl ?_
  have hJ : J X 5 6 [(0, .ref (X.B + l0)), (1, .int (-1 : Int32)), (2, .int (1 : Int32)), (3, .int (0 : Int32))] [] G := j_loop (loc := fun s : Int32 × Int32 × Int32 => [(0, .ref (X.B + l0)), (1, .int s.1), (2, .int s.2.1), (3, .int s.2.2)]) (F := (finI X)) (fun s G r G' hb hk => jX6_mostDoubtfulNote_6 ok l0 s.1 s.2.1 s.2.2 G hb hk) _ _ _ _ _ h hK
  exact J.sub [3, 2, 1, 0] rfl hJ

def fX6_mostDoubtfulNote (l0 : Nat) (G : Mem) : Option (Int32 × Mem) := fX6_mostDoubtfulNote_0 l0 G
set_option maxRecDepth 100000 in
theorem tX6_mostDoubtfulNote {l : Launch} (hfl : l.stackTraces = false) (V : Wd) (l0 : Nat) (G : Mem) {r : Int32} {G' : Mem} (h : fX6_mostDoubtfulNote l0 G = some (r, G')) : Mx l yX6_mostDoubtfulNote cX6_mostDoubtfulNote 5 (some .int) 3 72 V [.ref (V.B + l0)] G (.inl (some (.int r))) G' :=
  mx_of (L := [(0, .ref (V.B + l0))]) hfl (by decide +kernel) (Nat.le_of_ble_eq_true rfl) rfl (fun X hl hV hin ok he => by
    subst hl; subst hV
    exact J.sub [0] rfl (jX6_mostDoubtfulNote_0 ok l0 G h he))
def fX6_moveOrigin_0 (l0 : Nat) (l1 : Int32) (l2 : Int32)  (G : Mem) : Option ((Int32 ⊕ Nat) × Mem) :=
  ck G 16 l0 <| (fX6_requireMove l0 l1 l2 G).bind fun q1 => thr q1.1 (fun v2 =>
    some (.inl (v2 >>> ((6 : Int32) &&& 31)), q1.2)) q1.2

set_option maxRecDepth 100000 in
set_option maxHeartbeats 4000000 in
theorem jX6_moveOrigin_0 {X : Cx} (ok : OK X cX6_moveOrigin RX6 (some .int) 3 10 204) (l0 : Nat) (l1 : Int32) (l2 : Int32)  (G : Mem) {r : (Int32 ⊕ Nat)} {G' : Mem} (h : fX6_moveOrigin_0 l0 l1 l2 G = some (r, G')) (hK : (finT X (finI X)) r G') : J X 3 0 [(0, .ref (X.B + l0)), (1, .int l1), (2, .int l2)] [] G := by
  unfold fX6_moveOrigin_0 at h
  refine j_aload_n ok dX6_moveOrigin_0 rfl 0 rfl ?_
  refine j_iload_n ok dX6_moveOrigin_1 rfl 1 rfl ?_
  refine j_iload_n ok dX6_moveOrigin_2 rfl 2 rfl ?_
  obtain ⟨kq1, h⟩ := ck_some h
  obtain ⟨q1, hq1, h⟩ := obind h
  cases eq1 : q1.1 with
  | inr v2 =>
    rw [eq1] at h; dsimp only [thr] at h
    obtain ⟨er, eG⟩ := inj2 h
    subst er; subst eG
    exact k_VX ok kl_X6_282 ⟨Nat.le_of_ble_eq_true rfl, Nat.le_of_ble_eq_true rfl⟩ [.int l1, .int l2] kq1 rfl rfl (Nat.le_of_ble_eq_true rfl) (by have z := tX6_requireMove ok.fl X.V l0 l1 l2 G hq1; rw [eq1] at z; exact z) dX6_moveOrigin_3 hK
  | inl v2 =>
    rw [eq1] at h; dsimp only [thr] at h
    refine k_V1 (v := .int v2) ok kl_X6_282 ⟨Nat.le_of_ble_eq_true rfl, Nat.le_of_ble_eq_true rfl⟩ [.int l1, .int l2] kq1 rfl rfl (Nat.le_of_ble_eq_true rfl) (by have z := tX6_requireMove ok.fl X.V l0 l1 l2 G hq1; rw [eq1] at z; exact z) dX6_moveOrigin_3 ?_
    refine j_bipush (v := 6) ok dX6_moveOrigin_6 (by decide) ?_
    refine j_ishr ok dX6_moveOrigin_8 ?_
    obtain ⟨er, eG⟩ := inj2 h
    subst er; subst eG
    exact j_iret ok rfl dX6_moveOrigin_9 hK

def fX6_moveOrigin (l0 : Nat) (l1 : Int32) (l2 : Int32) (G : Mem) : Option ((Int32 ⊕ Nat) × Mem) := fX6_moveOrigin_0 l0 l1 l2 G
set_option maxRecDepth 100000 in
theorem tX6_moveOrigin {l : Launch} (hfl : l.stackTraces = false) (V : Wd) (l0 : Nat) (l1 : Int32) (l2 : Int32) (G : Mem) {r : (Int32 ⊕ Nat)} {G' : Mem} (h : fX6_moveOrigin l0 l1 l2 G = some (r, G')) : Mx l yX6_moveOrigin cX6_moveOrigin 3 (some .int) 10 204 V [.ref (V.B + l0), .int l1, .int l2] G (rzI r) G' :=
  mx_of (L := [(0, .ref (V.B + l0)), (1, .int l1), (2, .int l2)]) hfl (by decide +kernel) (Nat.le_of_ble_eq_true rfl) rfl (fun X hl hV hin ok he => by
    subst hl; subst hV
    exact J.sub [0, 1, 2] rfl (jX6_moveOrigin_0 ok l0 l1 l2 G h (by cases r <;> exact he)))
def fX6_moveTarget_0 (l0 : Nat) (l1 : Int32) (l2 : Int32)  (G : Mem) : Option ((Int32 ⊕ Nat) × Mem) :=
  ck G 16 l0 <| (fX6_requireMove l0 l1 l2 G).bind fun q1 => thr q1.1 (fun v2 =>
    some (.inl (v2 &&& (63 : Int32)), q1.2)) q1.2

set_option maxRecDepth 100000 in
set_option maxHeartbeats 4000000 in
theorem jX6_moveTarget_0 {X : Cx} (ok : OK X cX6_moveTarget RX6 (some .int) 3 10 204) (l0 : Nat) (l1 : Int32) (l2 : Int32)  (G : Mem) {r : (Int32 ⊕ Nat)} {G' : Mem} (h : fX6_moveTarget_0 l0 l1 l2 G = some (r, G')) (hK : (finT X (finI X)) r G') : J X 3 0 [(0, .ref (X.B + l0)), (1, .int l1), (2, .int l2)] [] G := by
  unfold fX6_moveTarget_0 at h
  refine j_aload_n ok dX6_moveTarget_0 rfl 0 rfl ?_
  refine j_iload_n ok dX6_moveTarget_1 rfl 1 rfl ?_
  refine j_iload_n ok dX6_moveTarget_2 rfl 2 rfl ?_
  obtain ⟨kq1, h⟩ := ck_some h
  obtain ⟨q1, hq1, h⟩ := obind h
  cases eq1 : q1.1 with
  | inr v2 =>
    rw [eq1] at h; dsimp only [thr] at h
    obtain ⟨er, eG⟩ := inj2 h
    subst er; subst eG
    exact k_VX ok kl_X6_282 ⟨Nat.le_of_ble_eq_true rfl, Nat.le_of_ble_eq_true rfl⟩ [.int l1, .int l2] kq1 rfl rfl (Nat.le_of_ble_eq_true rfl) (by have z := tX6_requireMove ok.fl X.V l0 l1 l2 G hq1; rw [eq1] at z; exact z) dX6_moveTarget_3 hK
  | inl v2 =>
    rw [eq1] at h; dsimp only [thr] at h
    refine k_V1 (v := .int v2) ok kl_X6_282 ⟨Nat.le_of_ble_eq_true rfl, Nat.le_of_ble_eq_true rfl⟩ [.int l1, .int l2] kq1 rfl rfl (Nat.le_of_ble_eq_true rfl) (by have z := tX6_requireMove ok.fl X.V l0 l1 l2 G hq1; rw [eq1] at z; exact z) dX6_moveTarget_3 ?_
    refine j_bipush (v := 63) ok dX6_moveTarget_6 (by decide) ?_
    refine j_iand ok dX6_moveTarget_8 ?_
    obtain ⟨er, eG⟩ := inj2 h
    subst er; subst eG
    exact j_iret ok rfl dX6_moveTarget_9 hK

def fX6_moveTarget (l0 : Nat) (l1 : Int32) (l2 : Int32) (G : Mem) : Option ((Int32 ⊕ Nat) × Mem) := fX6_moveTarget_0 l0 l1 l2 G
set_option maxRecDepth 100000 in
theorem tX6_moveTarget {l : Launch} (hfl : l.stackTraces = false) (V : Wd) (l0 : Nat) (l1 : Int32) (l2 : Int32) (G : Mem) {r : (Int32 ⊕ Nat)} {G' : Mem} (h : fX6_moveTarget l0 l1 l2 G = some (r, G')) : Mx l yX6_moveTarget cX6_moveTarget 3 (some .int) 10 204 V [.ref (V.B + l0), .int l1, .int l2] G (rzI r) G' :=
  mx_of (L := [(0, .ref (V.B + l0)), (1, .int l1), (2, .int l2)]) hfl (by decide +kernel) (Nat.le_of_ble_eq_true rfl) rfl (fun X hl hV hin ok he => by
    subst hl; subst hV
    exact J.sub [0, 1, 2] rfl (jX6_moveTarget_0 ok l0 l1 l2 G h (by cases r <;> exact he)))
def fX6_noteCount_0 (l0 : Nat)  (G : Mem) : Option (Int32 × Mem) :=
  (gR G 16 l0 3).bind fun v1 =>
  (gF G 13 v1 1).bind fun v2 =>
  some (v2, G)

set_option maxRecDepth 100000 in
set_option maxHeartbeats 4000000 in
theorem jX6_noteCount_0 {X : Cx} (ok : OK X cX6_noteCount RX6 (some .int) 1 0 0) (l0 : Nat)  (G : Mem) {r : Int32} {G' : Mem} (h : fX6_noteCount_0 l0 G = some (r, G')) (hK : (finI X) r G') : J X 1 0 [(0, .ref (X.B + l0))] [] G := by
  unfold fX6_noteCount_0 at h
  refine j_aload_n ok dX6_noteCount_0 rfl 0 rfl ?_
  obtain ⟨v1, hv1, h⟩ := obind h
  refine k_getR ok fl_X6_33 hv1 dX6_noteCount_1 ?_
  obtain ⟨v2, hv2, h⟩ := obind h
  refine k_getI ok fl_X6_174 hv2 dX6_noteCount_4 ?_
  obtain ⟨er, eG⟩ := inj2 h
  subst er; subst eG
  exact j_iret ok rfl dX6_noteCount_7 hK

def fX6_noteCount (l0 : Nat) (G : Mem) : Option (Int32 × Mem) := fX6_noteCount_0 l0 G
set_option maxRecDepth 100000 in
theorem tX6_noteCount {l : Launch} (hfl : l.stackTraces = false) (V : Wd) (l0 : Nat) (G : Mem) {r : Int32} {G' : Mem} (h : fX6_noteCount l0 G = some (r, G')) : Mx l yX6_noteCount cX6_noteCount 1 (some .int) 0 0 V [.ref (V.B + l0)] G (.inl (some (.int r))) G' :=
  mx_of (L := [(0, .ref (V.B + l0))]) hfl (by decide +kernel) (Nat.le_of_ble_eq_true rfl) rfl (fun X hl hV hin ok he => by
    subst hl; subst hV
    exact J.sub [0] rfl (jX6_noteCount_0 ok l0 G h he))
def fX6_noteFromColumn_0 (l0 : Nat) (l1 : Int32)  (G : Mem) : Option ((Int32 ⊕ Nat) × Mem) :=
  ck G 16 l0 <| (fX6_requireNote l0 l1 G).bind fun q1 => thr q1.1 (fun v2 =>
    (gR q1.2 16 l0 3).bind fun v3 =>
    (gR q1.2 13 v3 2).bind fun v4 =>
    (gQ q1.2 6 v4 l1).bind fun v5 =>
    (gF q1.2 11 v5 1).bind fun v6 =>
    some (.inl v6, q1.2)) q1.2

set_option maxRecDepth 100000 in
set_option maxHeartbeats 4000000 in
theorem jX6_noteFromColumn_0 {X : Cx} (ok : OK X cX6_noteFromColumn RX6 (some .int) 2 9 181) (l0 : Nat) (l1 : Int32)  (G : Mem) {r : (Int32 ⊕ Nat)} {G' : Mem} (h : fX6_noteFromColumn_0 l0 l1 G = some (r, G')) (hK : (finT X (finI X)) r G') : J X 2 0 [(0, .ref (X.B + l0)), (1, .int l1)] [] G := by
  unfold fX6_noteFromColumn_0 at h
  refine j_aload_n ok dX6_noteFromColumn_0 rfl 0 rfl ?_
  refine j_iload_n ok dX6_noteFromColumn_1 rfl 1 rfl ?_
  obtain ⟨kq1, h⟩ := ck_some h
  obtain ⟨q1, hq1, h⟩ := obind h
  cases eq1 : q1.1 with
  | inr v2 =>
    rw [eq1] at h; dsimp only [thr] at h
    obtain ⟨er, eG⟩ := inj2 h
    subst er; subst eG
    exact k_VX ok kl_X6_147 ⟨Nat.le_of_ble_eq_true rfl, Nat.le_of_ble_eq_true rfl⟩ [.int l1] kq1 rfl rfl (Nat.le_of_ble_eq_true rfl) (by have z := tX6_requireNote ok.fl X.V l0 l1 G hq1; rw [eq1] at z; exact z) dX6_noteFromColumn_2 hK
  | inl v2 =>
    rw [eq1] at h; dsimp only [thr] at h
    refine k_V0 ok kl_X6_147 ⟨Nat.le_of_ble_eq_true rfl, Nat.le_of_ble_eq_true rfl⟩ [.int l1] kq1 rfl rfl (Nat.le_of_ble_eq_true rfl) (by have z := tX6_requireNote ok.fl X.V l0 l1 G hq1; rw [eq1] at z; exact z) dX6_noteFromColumn_2 ?_
    refine j_aload_n ok dX6_noteFromColumn_5 rfl 0 rfl ?_
    obtain ⟨v3, hv3, h⟩ := obind h
    refine k_getR ok fl_X6_33 hv3 dX6_noteFromColumn_6 ?_
    obtain ⟨v4, hv4, h⟩ := obind h
    refine k_getR ok fl_X6_192 hv4 dX6_noteFromColumn_9 ?_
    refine j_iload_n ok dX6_noteFromColumn_12 rfl 1 rfl ?_
    obtain ⟨v5, hv5, h⟩ := obind h
    refine j_aald ok (Or.inl rfl) hv5 dX6_noteFromColumn_13 ?_
    obtain ⟨v6, hv6, h⟩ := obind h
    refine k_getI ok fl_X6_199 hv6 dX6_noteFromColumn_14 ?_
    obtain ⟨er, eG⟩ := inj2 h
    subst er; subst eG
    exact j_iret ok rfl dX6_noteFromColumn_17 hK

def fX6_noteFromColumn (l0 : Nat) (l1 : Int32) (G : Mem) : Option ((Int32 ⊕ Nat) × Mem) := fX6_noteFromColumn_0 l0 l1 G
set_option maxRecDepth 100000 in
theorem tX6_noteFromColumn {l : Launch} (hfl : l.stackTraces = false) (V : Wd) (l0 : Nat) (l1 : Int32) (G : Mem) {r : (Int32 ⊕ Nat)} {G' : Mem} (h : fX6_noteFromColumn l0 l1 G = some (r, G')) : Mx l yX6_noteFromColumn cX6_noteFromColumn 2 (some .int) 9 181 V [.ref (V.B + l0), .int l1] G (rzI r) G' :=
  mx_of (L := [(0, .ref (V.B + l0)), (1, .int l1)]) hfl (by decide +kernel) (Nat.le_of_ble_eq_true rfl) rfl (fun X hl hV hin ok he => by
    subst hl; subst hV
    exact J.sub [0, 1] rfl (jX6_noteFromColumn_0 ok l0 l1 G h (by cases r <;> exact he)))
def fX6_noteFromRow_0 (l0 : Nat) (l1 : Int32)  (G : Mem) : Option ((Int32 ⊕ Nat) × Mem) :=
  ck G 16 l0 <| (fX6_requireNote l0 l1 G).bind fun q1 => thr q1.1 (fun v2 =>
    (gR q1.2 16 l0 3).bind fun v3 =>
    (gR q1.2 13 v3 2).bind fun v4 =>
    (gQ q1.2 6 v4 l1).bind fun v5 =>
    (gF q1.2 11 v5 2).bind fun v6 =>
    some (.inl v6, q1.2)) q1.2

set_option maxRecDepth 100000 in
set_option maxHeartbeats 4000000 in
theorem jX6_noteFromRow_0 {X : Cx} (ok : OK X cX6_noteFromRow RX6 (some .int) 2 9 181) (l0 : Nat) (l1 : Int32)  (G : Mem) {r : (Int32 ⊕ Nat)} {G' : Mem} (h : fX6_noteFromRow_0 l0 l1 G = some (r, G')) (hK : (finT X (finI X)) r G') : J X 2 0 [(0, .ref (X.B + l0)), (1, .int l1)] [] G := by
  unfold fX6_noteFromRow_0 at h
  refine j_aload_n ok dX6_noteFromRow_0 rfl 0 rfl ?_
  refine j_iload_n ok dX6_noteFromRow_1 rfl 1 rfl ?_
  obtain ⟨kq1, h⟩ := ck_some h
  obtain ⟨q1, hq1, h⟩ := obind h
  cases eq1 : q1.1 with
  | inr v2 =>
    rw [eq1] at h; dsimp only [thr] at h
    obtain ⟨er, eG⟩ := inj2 h
    subst er; subst eG
    exact k_VX ok kl_X6_147 ⟨Nat.le_of_ble_eq_true rfl, Nat.le_of_ble_eq_true rfl⟩ [.int l1] kq1 rfl rfl (Nat.le_of_ble_eq_true rfl) (by have z := tX6_requireNote ok.fl X.V l0 l1 G hq1; rw [eq1] at z; exact z) dX6_noteFromRow_2 hK
  | inl v2 =>
    rw [eq1] at h; dsimp only [thr] at h
    refine k_V0 ok kl_X6_147 ⟨Nat.le_of_ble_eq_true rfl, Nat.le_of_ble_eq_true rfl⟩ [.int l1] kq1 rfl rfl (Nat.le_of_ble_eq_true rfl) (by have z := tX6_requireNote ok.fl X.V l0 l1 G hq1; rw [eq1] at z; exact z) dX6_noteFromRow_2 ?_
    refine j_aload_n ok dX6_noteFromRow_5 rfl 0 rfl ?_
    obtain ⟨v3, hv3, h⟩ := obind h
    refine k_getR ok fl_X6_33 hv3 dX6_noteFromRow_6 ?_
    obtain ⟨v4, hv4, h⟩ := obind h
    refine k_getR ok fl_X6_192 hv4 dX6_noteFromRow_9 ?_
    refine j_iload_n ok dX6_noteFromRow_12 rfl 1 rfl ?_
    obtain ⟨v5, hv5, h⟩ := obind h
    refine j_aald ok (Or.inl rfl) hv5 dX6_noteFromRow_13 ?_
    obtain ⟨v6, hv6, h⟩ := obind h
    refine k_getI ok fl_X6_202 hv6 dX6_noteFromRow_14 ?_
    obtain ⟨er, eG⟩ := inj2 h
    subst er; subst eG
    exact j_iret ok rfl dX6_noteFromRow_17 hK

def fX6_noteFromRow (l0 : Nat) (l1 : Int32) (G : Mem) : Option ((Int32 ⊕ Nat) × Mem) := fX6_noteFromRow_0 l0 l1 G
set_option maxRecDepth 100000 in
theorem tX6_noteFromRow {l : Launch} (hfl : l.stackTraces = false) (V : Wd) (l0 : Nat) (l1 : Int32) (G : Mem) {r : (Int32 ⊕ Nat)} {G' : Mem} (h : fX6_noteFromRow l0 l1 G = some (r, G')) : Mx l yX6_noteFromRow cX6_noteFromRow 2 (some .int) 9 181 V [.ref (V.B + l0), .int l1] G (rzI r) G' :=
  mx_of (L := [(0, .ref (V.B + l0)), (1, .int l1)]) hfl (by decide +kernel) (Nat.le_of_ble_eq_true rfl) rfl (fun X hl hV hin ok he => by
    subst hl; subst hV
    exact J.sub [0, 1] rfl (jX6_noteFromRow_0 ok l0 l1 G h (by cases r <;> exact he)))
def fX6_noteKind_0 (l0 : Nat) (l1 : Int32)  (G : Mem) : Option ((Int32 ⊕ Nat) × Mem) :=
  ck G 16 l0 <| (fX6_requireNote l0 l1 G).bind fun q1 => thr q1.1 (fun v2 =>
    (gR q1.2 16 l0 3).bind fun v3 =>
    (gR q1.2 13 v3 2).bind fun v4 =>
    (gQ q1.2 6 v4 l1).bind fun v5 =>
    (gF q1.2 11 v5 0).bind fun v6 =>
    some (.inl v6, q1.2)) q1.2

set_option maxRecDepth 100000 in
set_option maxHeartbeats 4000000 in
theorem jX6_noteKind_0 {X : Cx} (ok : OK X cX6_noteKind RX6 (some .int) 2 9 181) (l0 : Nat) (l1 : Int32)  (G : Mem) {r : (Int32 ⊕ Nat)} {G' : Mem} (h : fX6_noteKind_0 l0 l1 G = some (r, G')) (hK : (finT X (finI X)) r G') : J X 2 0 [(0, .ref (X.B + l0)), (1, .int l1)] [] G := by
  unfold fX6_noteKind_0 at h
  refine j_aload_n ok dX6_noteKind_0 rfl 0 rfl ?_
  refine j_iload_n ok dX6_noteKind_1 rfl 1 rfl ?_
  obtain ⟨kq1, h⟩ := ck_some h
  obtain ⟨q1, hq1, h⟩ := obind h
  cases eq1 : q1.1 with
  | inr v2 =>
    rw [eq1] at h; dsimp only [thr] at h
    obtain ⟨er, eG⟩ := inj2 h
    subst er; subst eG
    exact k_VX ok kl_X6_147 ⟨Nat.le_of_ble_eq_true rfl, Nat.le_of_ble_eq_true rfl⟩ [.int l1] kq1 rfl rfl (Nat.le_of_ble_eq_true rfl) (by have z := tX6_requireNote ok.fl X.V l0 l1 G hq1; rw [eq1] at z; exact z) dX6_noteKind_2 hK
  | inl v2 =>
    rw [eq1] at h; dsimp only [thr] at h
    refine k_V0 ok kl_X6_147 ⟨Nat.le_of_ble_eq_true rfl, Nat.le_of_ble_eq_true rfl⟩ [.int l1] kq1 rfl rfl (Nat.le_of_ble_eq_true rfl) (by have z := tX6_requireNote ok.fl X.V l0 l1 G hq1; rw [eq1] at z; exact z) dX6_noteKind_2 ?_
    refine j_aload_n ok dX6_noteKind_5 rfl 0 rfl ?_
    obtain ⟨v3, hv3, h⟩ := obind h
    refine k_getR ok fl_X6_33 hv3 dX6_noteKind_6 ?_
    obtain ⟨v4, hv4, h⟩ := obind h
    refine k_getR ok fl_X6_192 hv4 dX6_noteKind_9 ?_
    refine j_iload_n ok dX6_noteKind_12 rfl 1 rfl ?_
    obtain ⟨v5, hv5, h⟩ := obind h
    refine j_aald ok (Or.inl rfl) hv5 dX6_noteKind_13 ?_
    obtain ⟨v6, hv6, h⟩ := obind h
    refine k_getI ok fl_X6_196 hv6 dX6_noteKind_14 ?_
    obtain ⟨er, eG⟩ := inj2 h
    subst er; subst eG
    exact j_iret ok rfl dX6_noteKind_17 hK

def fX6_noteKind (l0 : Nat) (l1 : Int32) (G : Mem) : Option ((Int32 ⊕ Nat) × Mem) := fX6_noteKind_0 l0 l1 G
set_option maxRecDepth 100000 in
theorem tX6_noteKind {l : Launch} (hfl : l.stackTraces = false) (V : Wd) (l0 : Nat) (l1 : Int32) (G : Mem) {r : (Int32 ⊕ Nat)} {G' : Mem} (h : fX6_noteKind l0 l1 G = some (r, G')) : Mx l yX6_noteKind cX6_noteKind 2 (some .int) 9 181 V [.ref (V.B + l0), .int l1] G (rzI r) G' :=
  mx_of (L := [(0, .ref (V.B + l0)), (1, .int l1)]) hfl (by decide +kernel) (Nat.le_of_ble_eq_true rfl) rfl (fun X hl hV hin ok he => by
    subst hl; subst hV
    exact J.sub [0, 1] rfl (jX6_noteKind_0 ok l0 l1 G h (by cases r <;> exact he)))
def fX6_noteTakes_0 (l0 : Nat) (l1 : Int32)  (G : Mem) : Option ((Int32 ⊕ Nat) × Mem) :=
  ck G 16 l0 <| (fX6_requireNote l0 l1 G).bind fun q1 => thr q1.1 (fun v2 =>
    (gR q1.2 16 l0 3).bind fun v3 =>
    (gR q1.2 13 v3 2).bind fun v4 =>
    (gQ q1.2 6 v4 l1).bind fun v5 =>
    (gF q1.2 11 v5 5).bind fun v6 =>
    rz v6 <|
    some (.inl v6, q1.2)) q1.2

set_option maxRecDepth 100000 in
set_option maxHeartbeats 4000000 in
theorem jX6_noteTakes_0 {X : Cx} (ok : OK X cX6_noteTakes RX6 (some .boolean) 2 9 181) (l0 : Nat) (l1 : Int32)  (G : Mem) {r : (Int32 ⊕ Nat)} {G' : Mem} (h : fX6_noteTakes_0 l0 l1 G = some (r, G')) (hK : (finT X (finI X)) r G') : J X 2 0 [(0, .ref (X.B + l0)), (1, .int l1)] [] G := by
  unfold fX6_noteTakes_0 at h
  refine j_aload_n ok dX6_noteTakes_0 rfl 0 rfl ?_
  refine j_iload_n ok dX6_noteTakes_1 rfl 1 rfl ?_
  obtain ⟨kq1, h⟩ := ck_some h
  obtain ⟨q1, hq1, h⟩ := obind h
  cases eq1 : q1.1 with
  | inr v2 =>
    rw [eq1] at h; dsimp only [thr] at h
    obtain ⟨er, eG⟩ := inj2 h
    subst er; subst eG
    exact k_VX ok kl_X6_147 ⟨Nat.le_of_ble_eq_true rfl, Nat.le_of_ble_eq_true rfl⟩ [.int l1] kq1 rfl rfl (Nat.le_of_ble_eq_true rfl) (by have z := tX6_requireNote ok.fl X.V l0 l1 G hq1; rw [eq1] at z; exact z) dX6_noteTakes_2 hK
  | inl v2 =>
    rw [eq1] at h; dsimp only [thr] at h
    refine k_V0 ok kl_X6_147 ⟨Nat.le_of_ble_eq_true rfl, Nat.le_of_ble_eq_true rfl⟩ [.int l1] kq1 rfl rfl (Nat.le_of_ble_eq_true rfl) (by have z := tX6_requireNote ok.fl X.V l0 l1 G hq1; rw [eq1] at z; exact z) dX6_noteTakes_2 ?_
    refine j_aload_n ok dX6_noteTakes_5 rfl 0 rfl ?_
    obtain ⟨v3, hv3, h⟩ := obind h
    refine k_getR ok fl_X6_33 hv3 dX6_noteTakes_6 ?_
    obtain ⟨v4, hv4, h⟩ := obind h
    refine k_getR ok fl_X6_192 hv4 dX6_noteTakes_9 ?_
    refine j_iload_n ok dX6_noteTakes_12 rfl 1 rfl ?_
    obtain ⟨v5, hv5, h⟩ := obind h
    refine j_aald ok (Or.inl rfl) hv5 dX6_noteTakes_13 ?_
    obtain ⟨v6, hv6, h⟩ := obind h
    refine k_getI ok fl_X6_211 hv6 dX6_noteTakes_14 ?_
    obtain ⟨hz7, h⟩ := rz_some h
    obtain ⟨er, eG⟩ := inj2 h
    subst er; subst eG
    exact j_zret ok rfl hz7 dX6_noteTakes_17 hK

def fX6_noteTakes (l0 : Nat) (l1 : Int32) (G : Mem) : Option ((Int32 ⊕ Nat) × Mem) := fX6_noteTakes_0 l0 l1 G
set_option maxRecDepth 100000 in
theorem tX6_noteTakes {l : Launch} (hfl : l.stackTraces = false) (V : Wd) (l0 : Nat) (l1 : Int32) (G : Mem) {r : (Int32 ⊕ Nat)} {G' : Mem} (h : fX6_noteTakes l0 l1 G = some (r, G')) : Mx l yX6_noteTakes cX6_noteTakes 2 (some .boolean) 9 181 V [.ref (V.B + l0), .int l1] G (rzI r) G' :=
  mx_of (L := [(0, .ref (V.B + l0)), (1, .int l1)]) hfl (by decide +kernel) (Nat.le_of_ble_eq_true rfl) rfl (fun X hl hV hin ok he => by
    subst hl; subst hV
    exact J.sub [0, 1] rfl (jX6_noteTakes_0 ok l0 l1 G h (by cases r <;> exact he)))
def fX6_noteToColumn_0 (l0 : Nat) (l1 : Int32)  (G : Mem) : Option ((Int32 ⊕ Nat) × Mem) :=
  ck G 16 l0 <| (fX6_requireNote l0 l1 G).bind fun q1 => thr q1.1 (fun v2 =>
    (gR q1.2 16 l0 3).bind fun v3 =>
    (gR q1.2 13 v3 2).bind fun v4 =>
    (gQ q1.2 6 v4 l1).bind fun v5 =>
    (gF q1.2 11 v5 3).bind fun v6 =>
    some (.inl v6, q1.2)) q1.2

set_option maxRecDepth 100000 in
set_option maxHeartbeats 4000000 in
theorem jX6_noteToColumn_0 {X : Cx} (ok : OK X cX6_noteToColumn RX6 (some .int) 2 9 181) (l0 : Nat) (l1 : Int32)  (G : Mem) {r : (Int32 ⊕ Nat)} {G' : Mem} (h : fX6_noteToColumn_0 l0 l1 G = some (r, G')) (hK : (finT X (finI X)) r G') : J X 2 0 [(0, .ref (X.B + l0)), (1, .int l1)] [] G := by
  unfold fX6_noteToColumn_0 at h
  refine j_aload_n ok dX6_noteToColumn_0 rfl 0 rfl ?_
  refine j_iload_n ok dX6_noteToColumn_1 rfl 1 rfl ?_
  obtain ⟨kq1, h⟩ := ck_some h
  obtain ⟨q1, hq1, h⟩ := obind h
  cases eq1 : q1.1 with
  | inr v2 =>
    rw [eq1] at h; dsimp only [thr] at h
    obtain ⟨er, eG⟩ := inj2 h
    subst er; subst eG
    exact k_VX ok kl_X6_147 ⟨Nat.le_of_ble_eq_true rfl, Nat.le_of_ble_eq_true rfl⟩ [.int l1] kq1 rfl rfl (Nat.le_of_ble_eq_true rfl) (by have z := tX6_requireNote ok.fl X.V l0 l1 G hq1; rw [eq1] at z; exact z) dX6_noteToColumn_2 hK
  | inl v2 =>
    rw [eq1] at h; dsimp only [thr] at h
    refine k_V0 ok kl_X6_147 ⟨Nat.le_of_ble_eq_true rfl, Nat.le_of_ble_eq_true rfl⟩ [.int l1] kq1 rfl rfl (Nat.le_of_ble_eq_true rfl) (by have z := tX6_requireNote ok.fl X.V l0 l1 G hq1; rw [eq1] at z; exact z) dX6_noteToColumn_2 ?_
    refine j_aload_n ok dX6_noteToColumn_5 rfl 0 rfl ?_
    obtain ⟨v3, hv3, h⟩ := obind h
    refine k_getR ok fl_X6_33 hv3 dX6_noteToColumn_6 ?_
    obtain ⟨v4, hv4, h⟩ := obind h
    refine k_getR ok fl_X6_192 hv4 dX6_noteToColumn_9 ?_
    refine j_iload_n ok dX6_noteToColumn_12 rfl 1 rfl ?_
    obtain ⟨v5, hv5, h⟩ := obind h
    refine j_aald ok (Or.inl rfl) hv5 dX6_noteToColumn_13 ?_
    obtain ⟨v6, hv6, h⟩ := obind h
    refine k_getI ok fl_X6_205 hv6 dX6_noteToColumn_14 ?_
    obtain ⟨er, eG⟩ := inj2 h
    subst er; subst eG
    exact j_iret ok rfl dX6_noteToColumn_17 hK

def fX6_noteToColumn (l0 : Nat) (l1 : Int32) (G : Mem) : Option ((Int32 ⊕ Nat) × Mem) := fX6_noteToColumn_0 l0 l1 G
set_option maxRecDepth 100000 in
theorem tX6_noteToColumn {l : Launch} (hfl : l.stackTraces = false) (V : Wd) (l0 : Nat) (l1 : Int32) (G : Mem) {r : (Int32 ⊕ Nat)} {G' : Mem} (h : fX6_noteToColumn l0 l1 G = some (r, G')) : Mx l yX6_noteToColumn cX6_noteToColumn 2 (some .int) 9 181 V [.ref (V.B + l0), .int l1] G (rzI r) G' :=
  mx_of (L := [(0, .ref (V.B + l0)), (1, .int l1)]) hfl (by decide +kernel) (Nat.le_of_ble_eq_true rfl) rfl (fun X hl hV hin ok he => by
    subst hl; subst hV
    exact J.sub [0, 1] rfl (jX6_noteToColumn_0 ok l0 l1 G h (by cases r <;> exact he)))
def fX6_noteToRow_0 (l0 : Nat) (l1 : Int32)  (G : Mem) : Option ((Int32 ⊕ Nat) × Mem) :=
  ck G 16 l0 <| (fX6_requireNote l0 l1 G).bind fun q1 => thr q1.1 (fun v2 =>
    (gR q1.2 16 l0 3).bind fun v3 =>
    (gR q1.2 13 v3 2).bind fun v4 =>
    (gQ q1.2 6 v4 l1).bind fun v5 =>
    (gF q1.2 11 v5 4).bind fun v6 =>
    some (.inl v6, q1.2)) q1.2

set_option maxRecDepth 100000 in
set_option maxHeartbeats 4000000 in
theorem jX6_noteToRow_0 {X : Cx} (ok : OK X cX6_noteToRow RX6 (some .int) 2 9 181) (l0 : Nat) (l1 : Int32)  (G : Mem) {r : (Int32 ⊕ Nat)} {G' : Mem} (h : fX6_noteToRow_0 l0 l1 G = some (r, G')) (hK : (finT X (finI X)) r G') : J X 2 0 [(0, .ref (X.B + l0)), (1, .int l1)] [] G := by
  unfold fX6_noteToRow_0 at h
  refine j_aload_n ok dX6_noteToRow_0 rfl 0 rfl ?_
  refine j_iload_n ok dX6_noteToRow_1 rfl 1 rfl ?_
  obtain ⟨kq1, h⟩ := ck_some h
  obtain ⟨q1, hq1, h⟩ := obind h
  cases eq1 : q1.1 with
  | inr v2 =>
    rw [eq1] at h; dsimp only [thr] at h
    obtain ⟨er, eG⟩ := inj2 h
    subst er; subst eG
    exact k_VX ok kl_X6_147 ⟨Nat.le_of_ble_eq_true rfl, Nat.le_of_ble_eq_true rfl⟩ [.int l1] kq1 rfl rfl (Nat.le_of_ble_eq_true rfl) (by have z := tX6_requireNote ok.fl X.V l0 l1 G hq1; rw [eq1] at z; exact z) dX6_noteToRow_2 hK
  | inl v2 =>
    rw [eq1] at h; dsimp only [thr] at h
    refine k_V0 ok kl_X6_147 ⟨Nat.le_of_ble_eq_true rfl, Nat.le_of_ble_eq_true rfl⟩ [.int l1] kq1 rfl rfl (Nat.le_of_ble_eq_true rfl) (by have z := tX6_requireNote ok.fl X.V l0 l1 G hq1; rw [eq1] at z; exact z) dX6_noteToRow_2 ?_
    refine j_aload_n ok dX6_noteToRow_5 rfl 0 rfl ?_
    obtain ⟨v3, hv3, h⟩ := obind h
    refine k_getR ok fl_X6_33 hv3 dX6_noteToRow_6 ?_
    obtain ⟨v4, hv4, h⟩ := obind h
    refine k_getR ok fl_X6_192 hv4 dX6_noteToRow_9 ?_
    refine j_iload_n ok dX6_noteToRow_12 rfl 1 rfl ?_
    obtain ⟨v5, hv5, h⟩ := obind h
    refine j_aald ok (Or.inl rfl) hv5 dX6_noteToRow_13 ?_
    obtain ⟨v6, hv6, h⟩ := obind h
    refine k_getI ok fl_X6_208 hv6 dX6_noteToRow_14 ?_
    obtain ⟨er, eG⟩ := inj2 h
    subst er; subst eG
    exact j_iret ok rfl dX6_noteToRow_17 hK

def fX6_noteToRow (l0 : Nat) (l1 : Int32) (G : Mem) : Option ((Int32 ⊕ Nat) × Mem) := fX6_noteToRow_0 l0 l1 G
set_option maxRecDepth 100000 in
theorem tX6_noteToRow {l : Launch} (hfl : l.stackTraces = false) (V : Wd) (l0 : Nat) (l1 : Int32) (G : Mem) {r : (Int32 ⊕ Nat)} {G' : Mem} (h : fX6_noteToRow l0 l1 G = some (r, G')) : Mx l yX6_noteToRow cX6_noteToRow 2 (some .int) 9 181 V [.ref (V.B + l0), .int l1] G (rzI r) G' :=
  mx_of (L := [(0, .ref (V.B + l0)), (1, .int l1)]) hfl (by decide +kernel) (Nat.le_of_ble_eq_true rfl) rfl (fun X hl hV hin ok he => by
    subst hl; subst hV
    exact J.sub [0, 1] rfl (jX6_noteToRow_0 ok l0 l1 G h (by cases r <;> exact he)))
def fX6_positionsAfter_15   (G : Mem) : Option ((Int32 ⊕ Nat) × Mem) :=
  thw 0 G

set_option maxRecDepth 100000 in
set_option maxHeartbeats 4000000 in
theorem jX6_positionsAfter_15 {X : Cx} (ok : OK X cX6_positionsAfter RX6 (some .int) 2 8 160)   (G : Mem) {r : (Int32 ⊕ Nat)} {G' : Mem} (h : fX6_positionsAfter_15  G = some (r, G')) (hK : (finT X (finI X)) r G') : J X 2 15 [] [] G := by
  unfold fX6_positionsAfter_15 at h
  obtain ⟨hcap, h⟩ := thw_some h
  obtain ⟨er, eG⟩ := inj2 h
  subst er; subst eG
  exact k_throw ok kt_X6_85 st_X6_218 dX6_positionsAfter_15 dX6_positionsAfter_18 dX6_positionsAfter_19 dX6_positionsAfter_21 dX6_positionsAfter_24 hcap (by decide) (by decide) (Nat.le_of_ble_eq_true rfl) hK

def fX6_positionsAfter_0 (l0 : Nat) (l1 : Int32)  (G : Mem) : Option ((Int32 ⊕ Nat) × Mem) :=
  if l1 < (0 : Int32) then
    fX6_positionsAfter_15 G
  else
    (gR G 16 l0 3).bind fun v2 =>
    (gF G 13 v2 1).bind fun v3 =>
    if l1 ≤ v3 then
      (gR G 16 l0 3).bind fun v5 =>
      (gR G 13 v5 3).bind fun v6 =>
      (gA G 1 v6 l1).bind fun v7 =>
      some (.inl v7, G)
    else
      fX6_positionsAfter_15 G

set_option maxRecDepth 100000 in
set_option maxHeartbeats 4000000 in
theorem jX6_positionsAfter_0 {X : Cx} (ok : OK X cX6_positionsAfter RX6 (some .int) 2 8 160) (l0 : Nat) (l1 : Int32)  (G : Mem) {r : (Int32 ⊕ Nat)} {G' : Mem} (h : fX6_positionsAfter_0 l0 l1 G = some (r, G')) (hK : (finT X (finI X)) r G') : J X 2 0 [(0, .ref (X.B + l0)), (1, .int l1)] [] G := by
  unfold fX6_positionsAfter_0 at h
  refine j_iload_n ok dX6_positionsAfter_0 rfl 1 rfl ?_
  rcases ite_some h with ⟨c1, h⟩ | ⟨c1, h⟩
  · refine j_if_lt (tgt := 15) ok dX6_positionsAfter_1 (by decide) (fun _ => ?_) (fun z => absurd c1 z)
    exact J.sub [] rfl (jX6_positionsAfter_15 ok G h hK)
  · refine j_if_lt (tgt := 15) ok dX6_positionsAfter_1 (by decide) (fun z => absurd z c1) (fun _ => ?_)
    refine j_iload_n ok dX6_positionsAfter_4 rfl 1 rfl ?_
    refine j_aload_n ok dX6_positionsAfter_5 rfl 0 rfl ?_
    obtain ⟨v2, hv2, h⟩ := obind h
    refine k_getR ok fl_X6_33 hv2 dX6_positionsAfter_6 ?_
    obtain ⟨v3, hv3, h⟩ := obind h
    refine k_getI ok fl_X6_174 hv3 dX6_positionsAfter_9 ?_
    rcases ite_some h with ⟨c4, h⟩ | ⟨c4, h⟩
    · refine j_icmp_le (tgt := 25) ok dX6_positionsAfter_12 (by decide) (fun _ => ?_) (fun z => absurd c4 z)
      refine j_aload_n ok dX6_positionsAfter_25 rfl 0 rfl ?_
      obtain ⟨v5, hv5, h⟩ := obind h
      refine k_getR ok fl_X6_33 hv5 dX6_positionsAfter_26 ?_
      obtain ⟨v6, hv6, h⟩ := obind h
      refine k_getR ok fl_X6_220 hv6 dX6_positionsAfter_29 ?_
      refine j_iload_n ok dX6_positionsAfter_32 rfl 1 rfl ?_
      obtain ⟨v7, hv7, h⟩ := obind h
      refine j_iald ok hv7 dX6_positionsAfter_33 ?_
      obtain ⟨er, eG⟩ := inj2 h
      subst er; subst eG
      exact j_iret ok rfl dX6_positionsAfter_34 hK
    · refine j_icmp_le (tgt := 25) ok dX6_positionsAfter_12 (by decide) (fun z => absurd z c4) (fun _ => ?_)
      exact J.sub [] rfl (jX6_positionsAfter_15 ok G h hK)

def fX6_positionsAfter (l0 : Nat) (l1 : Int32) (G : Mem) : Option ((Int32 ⊕ Nat) × Mem) := fX6_positionsAfter_0 l0 l1 G
set_option maxRecDepth 100000 in
theorem tX6_positionsAfter {l : Launch} (hfl : l.stackTraces = false) (V : Wd) (l0 : Nat) (l1 : Int32) (G : Mem) {r : (Int32 ⊕ Nat)} {G' : Mem} (h : fX6_positionsAfter l0 l1 G = some (r, G')) : Mx l yX6_positionsAfter cX6_positionsAfter 2 (some .int) 8 160 V [.ref (V.B + l0), .int l1] G (rzI r) G' :=
  mx_of (L := [(0, .ref (V.B + l0)), (1, .int l1)]) hfl (by decide +kernel) (Nat.le_of_ble_eq_true rfl) rfl (fun X hl hV hin ok he => by
    subst hl; subst hV
    exact J.sub [0, 1] rfl (jX6_positionsAfter_0 ok l0 l1 G h (by cases r <;> exact he)))
def fX6_rows_0 (l0 : Nat)  (G : Mem) : Option (Int32 × Mem) :=
  (gR G 16 l0 3).bind fun v1 =>
  (gR G 13 v1 0).bind fun v2 =>
  (gF G 10 v2 1).bind fun v3 =>
  some (v3, G)

set_option maxRecDepth 100000 in
set_option maxHeartbeats 4000000 in
theorem jX6_rows_0 {X : Cx} (ok : OK X cX6_rows RX6 (some .int) 1 0 0) (l0 : Nat)  (G : Mem) {r : Int32} {G' : Mem} (h : fX6_rows_0 l0 G = some (r, G')) (hK : (finI X) r G') : J X 1 0 [(0, .ref (X.B + l0))] [] G := by
  unfold fX6_rows_0 at h
  refine j_aload_n ok dX6_rows_0 rfl 0 rfl ?_
  obtain ⟨v1, hv1, h⟩ := obind h
  refine k_getR ok fl_X6_33 hv1 dX6_rows_1 ?_
  obtain ⟨v2, hv2, h⟩ := obind h
  refine k_getR ok fl_X6_95 hv2 dX6_rows_4 ?_
  obtain ⟨v3, hv3, h⟩ := obind h
  refine k_getI ok fl_X6_159 hv3 dX6_rows_7 ?_
  obtain ⟨er, eG⟩ := inj2 h
  subst er; subst eG
  exact j_iret ok rfl dX6_rows_10 hK

def fX6_rows (l0 : Nat) (G : Mem) : Option (Int32 × Mem) := fX6_rows_0 l0 G
set_option maxRecDepth 100000 in
theorem tX6_rows {l : Launch} (hfl : l.stackTraces = false) (V : Wd) (l0 : Nat) (G : Mem) {r : Int32} {G' : Mem} (h : fX6_rows l0 G = some (r, G')) : Mx l yX6_rows cX6_rows 1 (some .int) 0 0 V [.ref (V.B + l0)] G (.inl (some (.int r))) G' :=
  mx_of (L := [(0, .ref (V.B + l0))]) hfl (by decide +kernel) (Nat.le_of_ble_eq_true rfl) rfl (fun X hl hV hin ok he => by
    subst hl; subst hV
    exact J.sub [0] rfl (jX6_rows_0 ok l0 G h he))
def fX6_truncateInput_20   (G : Mem) : Option ((Int32 ⊕ Nat) × Mem) :=
  thw 0 G

set_option maxRecDepth 100000 in
set_option maxHeartbeats 4000000 in
theorem jX6_truncateInput_20 {X : Cx} (ok : OK X cX6_truncateInput RX6 (some .int) 3 8 160)   (G : Mem) {r : (Int32 ⊕ Nat)} {G' : Mem} (h : fX6_truncateInput_20  G = some (r, G')) (hK : (finT X (finI X)) r G') : J X 3 20 [] [] G := by
  unfold fX6_truncateInput_20 at h
  obtain ⟨hcap, h⟩ := thw_some h
  obtain ⟨er, eG⟩ := inj2 h
  subst er; subst eG
  exact k_throw ok kt_X6_85 st_X6_87 dX6_truncateInput_20 dX6_truncateInput_23 dX6_truncateInput_24 dX6_truncateInput_26 dX6_truncateInput_29 hcap (by decide) (by decide) (Nat.le_of_ble_eq_true rfl) hK

def fX6_truncateInput_0 (l0 : Nat) (l1 : Int32)  (G : Mem) : Option ((Int32 ⊕ Nat) × Mem) :=
  (gR G 16 l0 0).bind fun v1 =>
  (gR G 12 v1 0).bind fun v2 =>
  if l1 < (0 : Int32) then
    fX6_truncateInput_20 G
  else
    (gF G 15 v2 0).bind fun v4 =>
    if l1 ≤ v4 then
      (pI G 15 v2 0 l1).bind fun G6 =>
      some (.inl l1, G6)
    else
      fX6_truncateInput_20 G

set_option maxRecDepth 100000 in
set_option maxHeartbeats 4000000 in
theorem jX6_truncateInput_0 {X : Cx} (ok : OK X cX6_truncateInput RX6 (some .int) 3 8 160) (l0 : Nat) (l1 : Int32)  (G : Mem) {r : (Int32 ⊕ Nat)} {G' : Mem} (h : fX6_truncateInput_0 l0 l1 G = some (r, G')) (hK : (finT X (finI X)) r G') : J X 3 0 [(0, .ref (X.B + l0)), (1, .int l1)] [] G := by
  unfold fX6_truncateInput_0 at h
  refine j_aload_n ok dX6_truncateInput_0 rfl 0 rfl ?_
  obtain ⟨v1, hv1, h⟩ := obind h
  refine k_getR ok fl_X6_12 hv1 dX6_truncateInput_1 ?_
  obtain ⟨v2, hv2, h⟩ := obind h
  refine k_getR ok fl_X6_68 hv2 dX6_truncateInput_4 ?_
  refine j_astore_n (L' := [(2, .ref (X.B + v2)), (0, .ref (X.B + l0)), (1, .int l1)]) ok dX6_truncateInput_7 rfl (by decide) rfl ?_
  refine j_iload_n ok dX6_truncateInput_8 rfl 2 rfl ?_
  rcases ite_some h with ⟨c3, h⟩ | ⟨c3, h⟩
  · refine j_if_lt (tgt := 20) ok dX6_truncateInput_9 (by decide) (fun _ => ?_) (fun z => absurd c3 z)
    exact J.sub [] rfl (jX6_truncateInput_20 ok G h hK)
  · refine j_if_lt (tgt := 20) ok dX6_truncateInput_9 (by decide) (fun z => absurd z c3) (fun _ => ?_)
    refine j_iload_n ok dX6_truncateInput_12 rfl 2 rfl ?_
    refine j_aload_n ok dX6_truncateInput_13 rfl 0 rfl ?_
    obtain ⟨v4, hv4, h⟩ := obind h
    refine k_getI ok fl_X6_82 hv4 dX6_truncateInput_14 ?_
    rcases ite_some h with ⟨c5, h⟩ | ⟨c5, h⟩
    · refine j_icmp_le (tgt := 30) ok dX6_truncateInput_17 (by decide) (fun _ => ?_) (fun z => absurd c5 z)
      refine j_aload_n ok dX6_truncateInput_30 rfl 0 rfl ?_
      refine j_iload_n ok dX6_truncateInput_31 rfl 2 rfl ?_
      obtain ⟨G6, hG6, h⟩ := obind h
      refine k_putI ok fl_X6_82 fp_X5 rfl (Or.inl rfl) hG6 dX6_truncateInput_32 ?_
      refine j_iload_n ok dX6_truncateInput_35 rfl 2 rfl ?_
      obtain ⟨er, eG⟩ := inj2 h
      subst er; subst eG
      exact j_iret ok rfl dX6_truncateInput_36 hK
    · refine j_icmp_le (tgt := 30) ok dX6_truncateInput_17 (by decide) (fun z => absurd z c5) (fun _ => ?_)
      exact J.sub [] rfl (jX6_truncateInput_20 ok G h hK)

def fX6_truncateInput (l0 : Nat) (l1 : Int32) (G : Mem) : Option ((Int32 ⊕ Nat) × Mem) := fX6_truncateInput_0 l0 l1 G
set_option maxRecDepth 100000 in
theorem tX6_truncateInput {l : Launch} (hfl : l.stackTraces = false) (V : Wd) (l0 : Nat) (l1 : Int32) (G : Mem) {r : (Int32 ⊕ Nat)} {G' : Mem} (h : fX6_truncateInput l0 l1 G = some (r, G')) : Mx l yX6_truncateInput cX6_truncateInput 3 (some .int) 8 160 V [.ref (V.B + l0), .int l1] G (rzI r) G' :=
  mx_of (L := [(0, .ref (V.B + l0)), (1, .int l1)]) hfl (by decide +kernel) (Nat.le_of_ble_eq_true rfl) rfl (fun X hl hV hin ok he => by
    subst hl; subst hV
    exact J.sub [0, 1] rfl (jX6_truncateInput_0 ok l0 l1 G h (by cases r <;> exact he)))
def fX6_undo_64 (l0 : Nat) (s0 : Nat) (s1 : Int32) (G : Mem) : Option ((Int32 ⊕ Nat) × Mem) :=
  (pI G 16 s0 6 s1).bind fun G1 =>
  (gF G1 16 l0 7).bind fun v2 =>
  (pI G1 16 l0 7 (v2 - (1 : Int32))).bind fun G3 =>
  (gR G3 16 l0 1).bind fun v4 =>
  (gR G3 16 l0 3).bind fun v5 =>
  ck G3 14 v4 <| (fX4_countContinuations v4 v5 G3).bind fun q6 =>
  (gF q6.2 16 l0 7).bind fun v7 =>
  some (.inl v7, q6.2)

set_option maxRecDepth 100000 in
set_option maxHeartbeats 4000000 in
theorem jX6_undo_64 {X : Cx} (ok : OK X cX6_undo RX6 (some .int) 2 8 160) (l0 : Nat) (s0 : Nat) (s1 : Int32) (G : Mem) {r : (Int32 ⊕ Nat)} {G' : Mem} (h : fX6_undo_64 l0 s0 s1 G = some (r, G')) (hK : (finT X (finI X)) r G') : J X 2 64 [(0, .ref (X.B + l0))] [.int s1, .ref (X.B + s0)] G := by
  unfold fX6_undo_64 at h
  obtain ⟨G1, hG1, h⟩ := obind h
  refine k_putI ok fl_X6_44 fp_X6 rfl (Or.inl rfl) hG1 dX6_undo_64 ?_
  refine j_aload_n ok dX6_undo_67 rfl 0 rfl ?_
  refine j_dup ok dX6_undo_68 rfl ?_
  obtain ⟨v2, hv2, h⟩ := obind h
  refine k_getI ok fl_X6_48 hv2 dX6_undo_69 ?_
  refine j_iconst (v := 1) ok dX6_undo_72 (by decide) ?_
  refine j_isub ok dX6_undo_73 ?_
  obtain ⟨G3, hG3, h⟩ := obind h
  refine k_putI ok fl_X6_48 fp_X6 rfl (Or.inl rfl) hG3 dX6_undo_74 ?_
  refine j_aload_n ok dX6_undo_77 rfl 0 rfl ?_
  obtain ⟨v4, hv4, h⟩ := obind h
  refine k_getR ok fl_X6_19 hv4 dX6_undo_78 ?_
  refine j_aload_n ok dX6_undo_81 rfl 0 rfl ?_
  obtain ⟨v5, hv5, h⟩ := obind h
  refine k_getR ok fl_X6_33 hv5 dX6_undo_82 ?_
  obtain ⟨kq6, h⟩ := ck_some h
  obtain ⟨q6, hq6, h⟩ := obind h
  refine k_V0 ok kl_X6_181 ⟨Nat.le_of_ble_eq_true rfl, Nat.le_of_ble_eq_true rfl⟩ [.ref (X.B + v5)] kq6 rfl rfl (Nat.le_of_ble_eq_true rfl) (tX4_countContinuations ok.fl X.V v4 v5 G3 hq6) dX6_undo_85 ?_
  refine j_aload_n ok dX6_undo_88 rfl 0 rfl ?_
  obtain ⟨v7, hv7, h⟩ := obind h
  refine k_getI ok fl_X6_48 hv7 dX6_undo_89 ?_
  obtain ⟨er, eG⟩ := inj2 h
  subst er; subst eG
  exact j_iret ok rfl dX6_undo_92 hK

def fX6_undo_0 (l0 : Nat)  (G : Mem) : Option ((Int32 ⊕ Nat) × Mem) :=
  (gF G 16 l0 7).bind fun v1 =>
  if v1 = (0 : Int32) then
    thw 1 G
  else
    (gR G 16 l0 3).bind fun v3 =>
    (gR G 16 l0 5).bind fun v4 =>
    (gF G 16 l0 6).bind fun v5 =>
    (gQ G 7 v4 v5).bind fun v6 =>
    (pR G 16 l0 3 v6).bind fun G7 =>
    (gR G7 16 l0 5).bind fun v8 =>
    (gF G7 16 l0 6).bind fun v9 =>
    (pQ G7 7 13 v8 v9 v3).bind fun G10 =>
    (gF G10 16 l0 6).bind fun v11 =>
    if v11 = (0 : Int32) then
      fX6_undo_64 l0 l0 (7 : Int32) G10
    else
      (gF G10 16 l0 6).bind fun v13 =>
      fX6_undo_64 l0 l0 (v13 - (1 : Int32)) G10

set_option maxRecDepth 100000 in
set_option maxHeartbeats 4000000 in
theorem jX6_undo_0 {X : Cx} (ok : OK X cX6_undo RX6 (some .int) 2 8 160) (l0 : Nat)  (G : Mem) {r : (Int32 ⊕ Nat)} {G' : Mem} (h : fX6_undo_0 l0 G = some (r, G')) (hK : (finT X (finI X)) r G') : J X 2 0 [(0, .ref (X.B + l0))] [] G := by
  unfold fX6_undo_0 at h
  refine j_aload_n ok dX6_undo_0 rfl 0 rfl ?_
  obtain ⟨v1, hv1, h⟩ := obind h
  refine k_getI ok fl_X6_48 hv1 dX6_undo_1 ?_
  rcases ite_some h with ⟨c2, h⟩ | ⟨c2, h⟩
  · refine j_if_ne (tgt := 17) ok dX6_undo_4 (by decide) (fun z => absurd c2 z) (fun _ => ?_)
    obtain ⟨hcap, h⟩ := thw_some h
    obtain ⟨er, eG⟩ := inj2 h
    subst er; subst eG
    exact k_throw ok kt_X6_139 st_X6_179 dX6_undo_7 dX6_undo_10 dX6_undo_11 dX6_undo_13 dX6_undo_16 hcap (by decide) (by decide) (Nat.le_of_ble_eq_true rfl) hK
  · refine j_if_ne (tgt := 17) ok dX6_undo_4 (by decide) (fun _ => ?_) (fun z => absurd z c2)
    refine j_aload_n ok dX6_undo_17 rfl 0 rfl ?_
    obtain ⟨v3, hv3, h⟩ := obind h
    refine k_getR ok fl_X6_33 hv3 dX6_undo_18 ?_
    refine j_astore_n (L' := [(1, .ref (X.B + v3)), (0, .ref (X.B + l0))]) ok dX6_undo_21 rfl (by decide) rfl ?_
    refine j_aload_n ok dX6_undo_22 rfl 1 rfl ?_
    refine j_aload_n ok dX6_undo_23 rfl 1 rfl ?_
    obtain ⟨v4, hv4, h⟩ := obind h
    refine k_getR ok fl_X6_40 hv4 dX6_undo_24 ?_
    refine j_aload_n ok dX6_undo_27 rfl 1 rfl ?_
    obtain ⟨v5, hv5, h⟩ := obind h
    refine k_getI ok fl_X6_44 hv5 dX6_undo_28 ?_
    obtain ⟨v6, hv6, h⟩ := obind h
    refine j_aald ok (Or.inr rfl) hv6 dX6_undo_31 ?_
    obtain ⟨G7, hG7, h⟩ := obind h
    refine k_putR ok fl_X6_33 fp_X6 rfl (Or.inl ⟨_, rfl⟩) (Or.inl rfl) hG7 dX6_undo_32 ?_
    refine j_aload_n ok dX6_undo_35 rfl 1 rfl ?_
    obtain ⟨v8, hv8, h⟩ := obind h
    refine k_getR ok fl_X6_40 hv8 dX6_undo_36 ?_
    refine j_aload_n ok dX6_undo_39 rfl 1 rfl ?_
    obtain ⟨v9, hv9, h⟩ := obind h
    refine k_getI ok fl_X6_44 hv9 dX6_undo_40 ?_
    refine j_aload_n ok dX6_undo_43 rfl 0 rfl ?_
    obtain ⟨G10, hG10, h⟩ := obind h
    refine j_aast ok (r := (RX0, TX0, 0)) (ci := 3) (Or.inr ⟨rfl, rfl, rfl⟩) hG10 dX6_undo_44 ?_
    refine j_aload_n ok dX6_undo_45 rfl 1 rfl ?_
    refine j_aload_n ok dX6_undo_46 rfl 1 rfl ?_
    obtain ⟨v11, hv11, h⟩ := obind h
    refine k_getI ok fl_X6_44 hv11 dX6_undo_47 ?_
    rcases ite_some h with ⟨c12, h⟩ | ⟨c12, h⟩
    · refine j_if_ne (tgt := 58) ok dX6_undo_50 (by decide) (fun z => absurd c12 z) (fun _ => ?_)
      refine j_bipush (v := 7) ok dX6_undo_53 (by decide) ?_
      refine j_goto (tgt := 64) ok dX6_undo_55 (by decide) ?_
      exact J.sub [1] rfl (jX6_undo_64 ok l0 l0 (7 : Int32) G10 h hK)
    · refine j_if_ne (tgt := 58) ok dX6_undo_50 (by decide) (fun _ => ?_) (fun z => absurd z c12)
      refine j_aload_n ok dX6_undo_58 rfl 1 rfl ?_
      obtain ⟨v13, hv13, h⟩ := obind h
      refine k_getI ok fl_X6_44 hv13 dX6_undo_59 ?_
      refine j_iconst (v := 1) ok dX6_undo_62 (by decide) ?_
      refine j_isub ok dX6_undo_63 ?_
      exact J.sub [1] rfl (jX6_undo_64 ok l0 l0 (v13 - (1 : Int32)) G10 h hK)

def fX6_undo (l0 : Nat) (G : Mem) : Option ((Int32 ⊕ Nat) × Mem) := fX6_undo_0 l0 G
set_option maxRecDepth 100000 in
theorem tX6_undo {l : Launch} (hfl : l.stackTraces = false) (V : Wd) (l0 : Nat) (G : Mem) {r : (Int32 ⊕ Nat)} {G' : Mem} (h : fX6_undo l0 G = some (r, G')) : Mx l yX6_undo cX6_undo 2 (some .int) 8 160 V [.ref (V.B + l0)] G (rzI r) G' :=
  mx_of (L := [(0, .ref (V.B + l0))]) hfl (by decide +kernel) (Nat.le_of_ble_eq_true rfl) rfl (fun X hl hV hin ok he => by
    subst hl; subst hV
    exact J.sub [0] rfl (jX6_undo_0 ok l0 G h (by cases r <;> exact he)))
def fX6_undoableChanges_0 (l0 : Nat)  (G : Mem) : Option (Int32 × Mem) :=
  (gF G 16 l0 7).bind fun v1 =>
  some (v1, G)

set_option maxRecDepth 100000 in
set_option maxHeartbeats 4000000 in
theorem jX6_undoableChanges_0 {X : Cx} (ok : OK X cX6_undoableChanges RX6 (some .int) 1 0 0) (l0 : Nat)  (G : Mem) {r : Int32} {G' : Mem} (h : fX6_undoableChanges_0 l0 G = some (r, G')) (hK : (finI X) r G') : J X 1 0 [(0, .ref (X.B + l0))] [] G := by
  unfold fX6_undoableChanges_0 at h
  refine j_aload_n ok dX6_undoableChanges_0 rfl 0 rfl ?_
  obtain ⟨v1, hv1, h⟩ := obind h
  refine k_getI ok fl_X6_48 hv1 dX6_undoableChanges_1 ?_
  obtain ⟨er, eG⟩ := inj2 h
  subst er; subst eG
  exact j_iret ok rfl dX6_undoableChanges_4 hK

def fX6_undoableChanges (l0 : Nat) (G : Mem) : Option (Int32 × Mem) := fX6_undoableChanges_0 l0 G
set_option maxRecDepth 100000 in
theorem tX6_undoableChanges {l : Launch} (hfl : l.stackTraces = false) (V : Wd) (l0 : Nat) (G : Mem) {r : Int32} {G' : Mem} (h : fX6_undoableChanges l0 G = some (r, G')) : Mx l yX6_undoableChanges cX6_undoableChanges 1 (some .int) 0 0 V [.ref (V.B + l0)] G (.inl (some (.int r))) G' :=
  mx_of (L := [(0, .ref (V.B + l0))]) hfl (by decide +kernel) (Nat.le_of_ble_eq_true rfl) rfl (fun X hl hV hin ok he => by
    subst hl; subst hV
    exact J.sub [0] rfl (jX6_undoableChanges_0 ok l0 G h he))
