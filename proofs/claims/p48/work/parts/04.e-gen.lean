def fX4_countGames_109   (G : Mem) : Option (Unit × Mem) :=
  some ((), G)

set_option maxRecDepth 100000 in
set_option maxHeartbeats 4000000 in
theorem jX4_countGames_109 {X : Cx} (ok : OK X cX4_countGames RX4 none 6 2 47)   (G : Mem) {r : Unit} {G' : Mem} (h : fX4_countGames_109  G = some (r, G')) (hK : (finV X) r G') : J X 6 109 [] [] G := by
  unfold fX4_countGames_109 at h
  obtain ⟨er, eG⟩ := inj2 h
  subst er; subst eG
  exact j_vret ok rfl dX4_countGames_109 hK

def fX4_countGames_103 (l0 : Nat) (l1 : Nat) (l2 : Int32) (l3 : Int32)  (G : Mem) : Option (((Int32) ⊕ Unit) × Mem) :=
  some (.inl ((l3 + (1 : Int32))), G)

set_option maxRecDepth 100000 in
set_option maxHeartbeats 4000000 in
theorem jX4_countGames_103 {X : Cx} (ok : OK X cX4_countGames RX4 none 6 2 47) (l0 : Nat) (l1 : Nat) (l2 : Int32) (l3 : Int32)  (G : Mem) {r : ((Int32) ⊕ Unit)} {G' : Mem} (h : fX4_countGames_103 l0 l1 l2 l3 G = some (r, G')) (hK : (finL X 6 34 (fun s : Int32 => [(0, .ref (X.B + l0)), (1, .ref (X.B + l1)), (2, .int l2), (3, .int s)]) (finV X)) r G') : J X 6 103 [(0, .ref (X.B + l0)), (1, .ref (X.B + l1)), (2, .int l2), (3, .int l3)] [] G := by
  unfold fX4_countGames_103 at h
  refine j_iinc (L' := [(3, .int (l3 + (1 : Int32))), (0, .ref (X.B + l0)), (1, .ref (X.B + l1)), (2, .int l2)]) (v := (l3 + (1 : Int32))) ok dX4_countGames_103 (q := 3) rfl rfl (by decide) rfl ?_
  refine j_goto (tgt := 34) ok dX4_countGames_106 (by decide) ?_
  obtain ⟨er, eG⟩ := inj2 h
  subst er; subst eG
  have hJ : J X 6 34 [(0, .ref (X.B + l0)), (1, .ref (X.B + l1)), (2, .int l2), (3, .int (l3 + (1 : Int32)))] [] G := hK
  exact J.sub [1, 2, 3, 0] rfl hJ

def fX4_countGames_34 (l0 : Nat) (l1 : Nat) (l2 : Int32) (l3 : Int32)  (G : Mem) : Option (((Int32) ⊕ Unit) × Mem) :=
  (gR G 13 l1 7).bind fun v1 =>
  (gA G 1 v1 (l2 + (1 : Int32))).bind fun v2 =>
  if v2 ≤ l3 then
    liftE (fX4_countGames_109 G)
  else
    (gR G 13 l1 8).bind fun v4 =>
    (gA G 1 v4 l3).bind fun v5 =>
    (fX3_linkMove v5 G).bind fun q6 =>
    (gF q6.2 14 l0 1).bind fun v7 =>
    if v7 ≤ q6.1 then
      fX4_countGames_103 l0 l1 l2 l3 q6.2
    else
      (gR q6.2 14 l0 0).bind fun v9 =>
      (gJ q6.2 v9 q6.1).bind fun v10 =>
      (fX3_linkFrom v5 q6.2).bind fun q11 =>
      ck q11.2 13 l1 <| (fX3_gamesAt l1 l2 q11.1 q11.2).bind fun q12 =>
      (fX3_linkTo v5 q12.2).bind fun q13 =>
      ck q13.2 14 l0 <| (fX4_continuationsAt l0 (l2 + (1 : Int32)) q13.1 q13.2).bind fun q14 =>
      (pJ q14.2 v9 q6.1 (v10 + (q12.1 * q14.1))).bind fun G15 =>
      fX4_countGames_103 l0 l1 l2 l3 G15

set_option maxRecDepth 100000 in
set_option maxHeartbeats 4000000 in
theorem jX4_countGames_34 {X : Cx} (ok : OK X cX4_countGames RX4 none 6 2 47) (l0 : Nat) (l1 : Nat) (l2 : Int32) (l3 : Int32)  (G : Mem) {r : ((Int32) ⊕ Unit)} {G' : Mem} (h : fX4_countGames_34 l0 l1 l2 l3 G = some (r, G')) (hK : (finL X 6 34 (fun s : Int32 => [(0, .ref (X.B + l0)), (1, .ref (X.B + l1)), (2, .int l2), (3, .int s)]) (finV X)) r G') : J X 6 34 [(0, .ref (X.B + l0)), (1, .ref (X.B + l1)), (2, .int l2), (3, .int l3)] [] G := by
  unfold fX4_countGames_34 at h
  refine j_iload_n ok dX4_countGames_34 rfl 3 rfl ?_
  refine j_aload_n ok dX4_countGames_35 rfl 1 rfl ?_
  obtain ⟨v1, hv1, h⟩ := obind h
  refine k_getR ok fl_X4_40 hv1 dX4_countGames_36 ?_
  refine j_iload_n ok dX4_countGames_39 rfl 2 rfl ?_
  refine j_iconst (v := 1) ok dX4_countGames_40 (by decide) ?_
  refine j_iadd ok dX4_countGames_41 ?_
  obtain ⟨v2, hv2, h⟩ := obind h
  refine j_iald ok hv2 dX4_countGames_42 ?_
  rcases ite_some h with ⟨c3, h⟩ | ⟨c3, h⟩
  · refine j_icmp_ge (tgt := 109) ok dX4_countGames_43 (by decide) (fun _ => ?_) (fun z => absurd c3 z)
    obtain ⟨r1, e1, h1⟩ := lift_some h
    subst e1
    exact J.sub [] rfl (jX4_countGames_109 ok G h1 hK)
  · refine j_icmp_ge (tgt := 109) ok dX4_countGames_43 (by decide) (fun z => absurd z c3) (fun _ => ?_)
    refine j_aload_n ok dX4_countGames_46 rfl 1 rfl ?_
    obtain ⟨v4, hv4, h⟩ := obind h
    refine k_getR ok fl_X4_44 hv4 dX4_countGames_47 ?_
    refine j_iload_n ok dX4_countGames_50 rfl 3 rfl ?_
    obtain ⟨v5, hv5, h⟩ := obind h
    refine j_iald ok hv5 dX4_countGames_51 ?_
    refine j_istore (L' := [(4, .int v5), (0, .ref (X.B + l0)), (1, .ref (X.B + l1)), (2, .int l2), (3, .int l3)]) ok dX4_countGames_52 (by decide) rfl ?_
    refine j_iload ok dX4_countGames_54 0 rfl ?_
    obtain ⟨q6, hq6, h⟩ := obind h
    refine k_S1 ok kl_X4_71 ⟨Nat.le_of_ble_eq_true rfl, Nat.le_of_ble_eq_true rfl⟩ [.int v5] rfl rfl (Nat.le_of_ble_eq_true rfl) (tX3_linkMove ok.fl X.V v5 G hq6) dX4_countGames_56 ?_
    refine j_istore (L' := [(5, .int q6.1), (4, .int v5), (0, .ref (X.B + l0)), (1, .ref (X.B + l1)), (2, .int l2), (3, .int l3)]) ok dX4_countGames_59 (by decide) rfl ?_
    refine j_iload ok dX4_countGames_61 0 rfl ?_
    refine j_aload_n ok dX4_countGames_63 rfl 2 rfl ?_
    obtain ⟨v7, hv7, h⟩ := obind h
    refine k_getI ok fl_X4_15 hv7 dX4_countGames_64 ?_
    rcases ite_some h with ⟨c8, h⟩ | ⟨c8, h⟩
    · refine j_icmp_ge (tgt := 103) ok dX4_countGames_67 (by decide) (fun _ => ?_) (fun z => absurd c8 z)
      exact J.sub [2, 3, 4, 5] rfl (jX4_countGames_103 ok l0 l1 l2 l3 q6.2 h hK)
    · refine j_icmp_ge (tgt := 103) ok dX4_countGames_67 (by decide) (fun z => absurd z c8) (fun _ => ?_)
      refine j_aload_n ok dX4_countGames_70 rfl 2 rfl ?_
      obtain ⟨v9, hv9, h⟩ := obind h
      refine k_getR ok fl_X4_9 hv9 dX4_countGames_71 ?_
      refine j_iload ok dX4_countGames_74 0 rfl ?_
      refine j_dup2 ok dX4_countGames_76 rfl rfl ?_
      obtain ⟨v10, hv10, h⟩ := obind h
      refine j_lald ok hv10 dX4_countGames_77 ?_
      refine j_aload_n ok dX4_countGames_78 rfl 3 rfl ?_
      refine j_iload_n ok dX4_countGames_79 rfl 4 rfl ?_
      refine j_iload ok dX4_countGames_80 1 rfl ?_
      obtain ⟨q11, hq11, h⟩ := obind h
      refine k_S1 ok kl_X4_47 ⟨Nat.le_of_ble_eq_true rfl, Nat.le_of_ble_eq_true rfl⟩ [.int v5] rfl rfl (Nat.le_of_ble_eq_true rfl) (tX3_linkFrom ok.fl X.V v5 q6.2 hq11) dX4_countGames_82 ?_
      obtain ⟨kq12, h⟩ := ck_some h
      obtain ⟨q12, hq12, h⟩ := obind h
      refine k_V1 ok kl_X4_74 ⟨Nat.le_of_ble_eq_true rfl, Nat.le_of_ble_eq_true rfl⟩ [.int l2, .int q11.1] kq12 rfl rfl (Nat.le_of_ble_eq_true rfl) (tX3_gamesAt ok.fl X.V l1 l2 q11.1 q11.2 hq12) dX4_countGames_85 ?_
      refine j_aload_n ok dX4_countGames_88 rfl 2 rfl ?_
      refine j_iload_n ok dX4_countGames_89 rfl 4 rfl ?_
      refine j_iconst (v := 1) ok dX4_countGames_90 (by decide) ?_
      refine j_iadd ok dX4_countGames_91 ?_
      refine j_iload ok dX4_countGames_92 1 rfl ?_
      obtain ⟨q13, hq13, h⟩ := obind h
      refine k_S1 ok kl_X4_55 ⟨Nat.le_of_ble_eq_true rfl, Nat.le_of_ble_eq_true rfl⟩ [.int v5] rfl rfl (Nat.le_of_ble_eq_true rfl) (tX3_linkTo ok.fl X.V v5 q12.2 hq13) dX4_countGames_94 ?_
      obtain ⟨kq14, h⟩ := ck_some h
      obtain ⟨q14, hq14, h⟩ := obind h
      refine k_V1 ok kl_X4_58 ⟨Nat.le_of_ble_eq_true rfl, Nat.le_of_ble_eq_true rfl⟩ [.int (l2 + (1 : Int32)), .int q13.1] kq14 rfl rfl (Nat.le_of_ble_eq_true rfl) (tX4_continuationsAt ok.fl X.V l0 (l2 + (1 : Int32)) q13.1 q13.2 hq14) dX4_countGames_97 ?_
      refine j_lmul ok dX4_countGames_100 ?_
      refine j_ladd ok dX4_countGames_101 ?_
      obtain ⟨G15, hG15, h⟩ := obind h
      refine j_last ok hG15 dX4_countGames_102 ?_
      exact J.sub [2, 3, 4, 5] rfl (jX4_countGames_103 ok l0 l1 l2 l3 G15 h hK)

def fX4_countGames_0 (l0 : Nat) (l1 : Nat) (l2 : Int32)  (G : Mem) : Option (Unit × Mem) :=
  (gR G 13 l1 0).bind fun v1 =>
  ck G 10 v1 <| (fX0_squareCount v1 G).bind fun q2 =>
  (pI q2.2 14 l0 1 (q2.1 <<< ((6 : Int32) &&& 31))).bind fun G3 =>
  (gR G3 14 l0 0).bind fun v4 =>
  (gF G3 14 l0 1).bind fun v5 =>
  (fJ7_fill_bad5a v4 (0 : Int32) v5 (0 : Int64) G3).bind fun q6 =>
  (gR q6.2 13 l1 7).bind fun v7 =>
  (gA q6.2 1 v7 l2).bind fun v8 =>
  loopM (fun (s : Int32) G => fX4_countGames_34 l0 l1 l2 s G) FU (v8) q6.2

set_option maxRecDepth 100000 in
set_option maxHeartbeats 4000000 in
theorem jX4_countGames_0 {X : Cx} (ok : OK X cX4_countGames RX4 none 6 2 47) (l0 : Nat) (l1 : Nat) (l2 : Int32)  (G : Mem) {r : Unit} {G' : Mem} (h : fX4_countGames_0 l0 l1 l2 G = some (r, G')) (hK : (finV X) r G') : J X 6 0 [(0, .ref (X.B + l0)), (1, .ref (X.B + l1)), (2, .int l2)] [] G := by
  unfold fX4_countGames_0 at h
  refine j_aload_n ok dX4_countGames_0 rfl 0 rfl ?_
  refine j_aload_n ok dX4_countGames_1 rfl 1 rfl ?_
  obtain ⟨v1, hv1, h⟩ := obind h
  refine k_getR ok fl_X4_62 hv1 dX4_countGames_2 ?_
  obtain ⟨kq2, h⟩ := ck_some h
  obtain ⟨q2, hq2, h⟩ := obind h
  refine k_V1 ok kl_X4_66 ⟨Nat.le_of_ble_eq_true rfl, Nat.le_of_ble_eq_true rfl⟩ [] kq2 rfl rfl (Nat.le_of_ble_eq_true rfl) (tX0_squareCount ok.fl X.V v1 G hq2) dX4_countGames_5 ?_
  refine j_bipush (v := 6) ok dX4_countGames_8 (by decide) ?_
  refine j_ishl ok dX4_countGames_10 ?_
  obtain ⟨G3, hG3, h⟩ := obind h
  refine k_putI ok fl_X4_15 fp_X4 rfl (Or.inl rfl) hG3 dX4_countGames_11 ?_
  refine j_aload_n ok dX4_countGames_14 rfl 0 rfl ?_
  obtain ⟨v4, hv4, h⟩ := obind h
  refine k_getR ok fl_X4_9 hv4 dX4_countGames_15 ?_
  refine j_iconst (v := 0) ok dX4_countGames_18 (by decide) ?_
  refine j_aload_n ok dX4_countGames_19 rfl 0 rfl ?_
  obtain ⟨v5, hv5, h⟩ := obind h
  refine k_getI ok fl_X4_15 hv5 dX4_countGames_20 ?_
  refine j_lconst (v := 0) ok dX4_countGames_23 (by decide) ?_
  obtain ⟨q6, hq6, h⟩ := obind h
  refine k_S0 ok kl_X4_37 ⟨Nat.le_of_ble_eq_true rfl, Nat.le_of_ble_eq_true rfl⟩ [.ref (X.B + v4), .int (0 : Int32), .int v5, .long (0 : Int64)] rfl rfl (Nat.le_of_ble_eq_true rfl) (tJ7_fill_bad5a ok.fl X.V v4 (0 : Int32) v5 (0 : Int64) G3 hq6) dX4_countGames_24 ?_
  refine j_aload_n ok dX4_countGames_27 rfl 1 rfl ?_
  obtain ⟨v7, hv7, h⟩ := obind h
  refine k_getR ok fl_X4_40 hv7 dX4_countGames_28 ?_
  refine j_iload_n ok dX4_countGames_31 rfl 2 rfl ?_
  obtain ⟨v8, hv8, h⟩ := obind h
  refine j_iald ok hv8 dX4_countGames_32 ?_
  refine j_istore_n (L' := [(3, .int v8), (0, .ref (X.B + l0)), (1, .ref (X.B + l1)), (2, .int l2)]) ok dX4_countGames_33 rfl (by decide) rfl ?_
  have hJ : J X 6 34 [(0, .ref (X.B + l0)), (1, .ref (X.B + l1)), (2, .int l2), (3, .int v8)] [] q6.2 := j_loop (loc := fun s : Int32 => [(0, .ref (X.B + l0)), (1, .ref (X.B + l1)), (2, .int l2), (3, .int s)]) (F := (finV X)) (fun s G r G' hb hk => jX4_countGames_34 ok l0 l1 l2 s G hb hk) _ _ _ _ _ h hK
  exact J.sub [1, 2, 3, 0] rfl hJ

def fX4_countGames (l0 : Nat) (l1 : Nat) (l2 : Int32) (G : Mem) : Option (Unit × Mem) := fX4_countGames_0 l0 l1 l2 G
set_option maxRecDepth 100000 in
theorem tX4_countGames {l : Launch} (hfl : l.stackTraces = false) (V : Wd) (l0 : Nat) (l1 : Nat) (l2 : Int32) (G : Mem) {r : Unit} {G' : Mem} (h : fX4_countGames l0 l1 l2 G = some (r, G')) : Mx l yX4_countGames cX4_countGames 6 none 2 47 V [.ref (V.B + l0), .ref (V.B + l1), .int l2] G (.inl none) G' :=
  mx_of (L := [(0, .ref (V.B + l0)), (1, .ref (V.B + l1)), (2, .int l2)]) hfl (by decide +kernel) (Nat.le_of_ble_eq_true rfl) rfl (fun X hl hV hin ok he => by
    subst hl; subst hV
    exact J.sub [0, 1, 2] rfl (jX4_countGames_0 ok l0 l1 l2 G h he))
def fX4_gamesFromStart_0 (l0 : Nat)  (G : Mem) : Option (Int64 × Mem) :=
  (gR G 14 l0 2).bind fun v1 =>
  (gJ G v1 (0 : Int32)).bind fun v2 =>
  some (v2, G)

set_option maxRecDepth 100000 in
set_option maxHeartbeats 4000000 in
theorem jX4_gamesFromStart_0 {X : Cx} (ok : OK X cX4_gamesFromStart RX4 (some .long) 1 0 0) (l0 : Nat)  (G : Mem) {r : Int64} {G' : Mem} (h : fX4_gamesFromStart_0 l0 G = some (r, G')) (hK : (finJ X) r G') : J X 1 0 [(0, .ref (X.B + l0))] [] G := by
  unfold fX4_gamesFromStart_0 at h
  refine j_aload_n ok dX4_gamesFromStart_0 rfl 0 rfl ?_
  obtain ⟨v1, hv1, h⟩ := obind h
  refine k_getR ok fl_X4_19 hv1 dX4_gamesFromStart_1 ?_
  refine j_iconst (v := 0) ok dX4_gamesFromStart_4 (by decide) ?_
  obtain ⟨v2, hv2, h⟩ := obind h
  refine j_lald ok hv2 dX4_gamesFromStart_5 ?_
  obtain ⟨er, eG⟩ := inj2 h
  subst er; subst eG
  exact j_lret ok rfl dX4_gamesFromStart_6 hK

def fX4_gamesFromStart (l0 : Nat) (G : Mem) : Option (Int64 × Mem) := fX4_gamesFromStart_0 l0 G
set_option maxRecDepth 100000 in
theorem tX4_gamesFromStart {l : Launch} (hfl : l.stackTraces = false) (V : Wd) (l0 : Nat) (G : Mem) {r : Int64} {G' : Mem} (h : fX4_gamesFromStart l0 G = some (r, G')) : Mx l yX4_gamesFromStart cX4_gamesFromStart 1 (some .long) 0 0 V [.ref (V.B + l0)] G (.inl (some (.long r))) G' :=
  mx_of (L := [(0, .ref (V.B + l0))]) hfl (by decide +kernel) (Nat.le_of_ble_eq_true rfl) rfl (fun X hl hV hin ok he => by
    subst hl; subst hV
    exact J.sub [0] rfl (jX4_gamesFromStart_0 ok l0 G h he))
def fX4_init_0 (l0 : Nat)  (G : Mem) : Option (Unit × Mem) :=
  (nA G 5 (2304 : Int32)).bind fun q1 =>
  (pR q1.2 14 l0 0 q1.1).bind fun G2 =>
  (pI G2 14 l0 1 (0 : Int32)).bind fun G3 =>
  (nA G3 5 (440 : Int32)).bind fun q4 =>
  (pR q4.2 14 l0 2 q4.1).bind fun G5 =>
  (gR G5 14 l0 2).bind fun v6 =>
  (pJ G5 v6 (0 : Int32) (1 : Int64)).bind fun G7 =>
  some ((), G7)

set_option maxRecDepth 100000 in
set_option maxHeartbeats 4000000 in
theorem jX4_init_0 {X : Cx} (ok : OK X cX4_init RX4 none 1 1 120) (hin : X.meth.name = "<init>") (l0 : Nat)  (G : Mem) {r : Unit} {G' : Mem} (h : fX4_init_0 l0 G = some (r, G')) (hK : (finV X) r G') : J X 1 0 [(0, .ref (X.B + l0))] [] G := by
  unfold fX4_init_0 at h
  refine j_aload_n ok dX4_init_0 rfl 0 rfl ?_
  refine k_objI ok wm_X4_3 (Nat.le_of_ble_eq_true rfl) (Nat.le_of_ble_eq_true rfl) (Nat.le_of_ble_eq_true rfl) dX4_init_1 ?_
  refine j_aload_n ok dX4_init_4 rfl 0 rfl ?_
  refine j_sipush (v := 2304) ok dX4_init_5 (by decide) ?_
  obtain ⟨q1, hq1, h⟩ := obind h
  refine k_newaT ok (t := 5) (Or.inr (Or.inr (Or.inr ⟨rfl, rfl⟩))) wa_5 hq1 dX4_init_8 ?_
  obtain ⟨G2, hG2, h⟩ := obind h
  refine k_putR ok fl_X4_9 fp_X4 rfl (Or.inr ⟨_, rfl⟩) (Or.inr ⟨rfl, hin, rfl⟩) hG2 dX4_init_10 ?_
  refine j_aload_n ok dX4_init_13 rfl 0 rfl ?_
  refine j_iconst (v := 0) ok dX4_init_14 (by decide) ?_
  obtain ⟨G3, hG3, h⟩ := obind h
  refine k_putI ok fl_X4_15 fp_X4 rfl (Or.inl rfl) hG3 dX4_init_15 ?_
  refine j_aload_n ok dX4_init_18 rfl 0 rfl ?_
  refine j_sipush (v := 440) ok dX4_init_19 (by decide) ?_
  obtain ⟨q4, hq4, h⟩ := obind h
  refine k_newaT ok (t := 5) (Or.inr (Or.inr (Or.inr ⟨rfl, rfl⟩))) wa_5 hq4 dX4_init_22 ?_
  obtain ⟨G5, hG5, h⟩ := obind h
  refine k_putR ok fl_X4_19 fp_X4 rfl (Or.inr ⟨_, rfl⟩) (Or.inr ⟨rfl, hin, rfl⟩) hG5 dX4_init_24 ?_
  refine j_aload_n ok dX4_init_27 rfl 0 rfl ?_
  obtain ⟨v6, hv6, h⟩ := obind h
  refine k_getR ok fl_X4_19 hv6 dX4_init_28 ?_
  refine j_iconst (v := 0) ok dX4_init_31 (by decide) ?_
  refine j_lconst (v := 1) ok dX4_init_32 (by decide) ?_
  obtain ⟨G7, hG7, h⟩ := obind h
  refine j_last ok hG7 dX4_init_33 ?_
  obtain ⟨er, eG⟩ := inj2 h
  subst er; subst eG
  exact j_vret ok rfl dX4_init_34 hK

def fX4_init (l0 : Nat) (G : Mem) : Option (Unit × Mem) := fX4_init_0 l0 G
set_option maxRecDepth 100000 in
theorem tX4_init {l : Launch} (hfl : l.stackTraces = false) (V : Wd) (l0 : Nat) (G : Mem) {r : Unit} {G' : Mem} (h : fX4_init l0 G = some (r, G')) : Mx l yX4_init cX4_init 1 none 1 120 V [.ref (V.B + l0)] G (.inl none) G' :=
  mx_of (L := [(0, .ref (V.B + l0))]) hfl (by decide +kernel) (Nat.le_of_ble_eq_true rfl) rfl (fun X hl hV hin ok he => by
    subst hl; subst hV
    exact J.sub [0] rfl (jX4_init_0 ok (hin rfl) l0 G h he))
def fX4_moveAt_39   (G : Mem) : Option (Int32 × Mem) :=
  some ((-1 : Int32), G)

set_option maxRecDepth 100000 in
set_option maxHeartbeats 4000000 in
theorem jX4_moveAt_39 {X : Cx} (ok : OK X cX4_moveAt RX4 (some .int) 4 0 0)   (G : Mem) {r : Int32} {G' : Mem} (h : fX4_moveAt_39  G = some (r, G')) (hK : (finI X) r G') : J X 4 39 [] [] G := by
  unfold fX4_moveAt_39 at h
  refine j_iconst (v := -1) ok dX4_moveAt_39 (by decide) ?_
  obtain ⟨er, eG⟩ := inj2 h
  subst er; subst eG
  exact j_iret ok rfl dX4_moveAt_40 hK

def fX4_moveAt_33 (l0 : Nat) (l1 : Int32) (l2 : Int32) (l3 : Int32)  (G : Mem) : Option (((Int32 × Int32) ⊕ Int32) × Mem) :=
  some (.inl (l2, (l3 + (1 : Int32))), G)

set_option maxRecDepth 100000 in
set_option maxHeartbeats 4000000 in
theorem jX4_moveAt_33 {X : Cx} (ok : OK X cX4_moveAt RX4 (some .int) 4 0 0) (l0 : Nat) (l1 : Int32) (l2 : Int32) (l3 : Int32)  (G : Mem) {r : ((Int32 × Int32) ⊕ Int32)} {G' : Mem} (h : fX4_moveAt_33 l0 l1 l2 l3 G = some (r, G')) (hK : (finL X 4 4 (fun s : Int32 × Int32 => [(0, .ref (X.B + l0)), (1, .int l1), (2, .int s.1), (3, .int s.2)]) (finI X)) r G') : J X 4 33 [(0, .ref (X.B + l0)), (1, .int l1), (2, .int l2), (3, .int l3)] [] G := by
  unfold fX4_moveAt_33 at h
  refine j_iinc (L' := [(3, .int (l3 + (1 : Int32))), (0, .ref (X.B + l0)), (1, .int l1), (2, .int l2)]) (v := (l3 + (1 : Int32))) ok dX4_moveAt_33 (q := 3) rfl rfl (by decide) rfl ?_
  refine j_goto (tgt := 4) ok dX4_moveAt_36 (by decide) ?_
  obtain ⟨er, eG⟩ := inj2 h
  subst er; subst eG
  have hJ : J X 4 4 [(0, .ref (X.B + l0)), (1, .int l1), (2, .int l2), (3, .int (l3 + (1 : Int32)))] [] G := hK
  exact J.sub [1, 2, 3, 0] rfl hJ

def fX4_moveAt_28 (l3 : Int32)  (G : Mem) : Option (Int32 × Mem) :=
  some (l3, G)

set_option maxRecDepth 100000 in
set_option maxHeartbeats 4000000 in
theorem jX4_moveAt_28 {X : Cx} (ok : OK X cX4_moveAt RX4 (some .int) 4 0 0) (l3 : Int32)  (G : Mem) {r : Int32} {G' : Mem} (h : fX4_moveAt_28 l3 G = some (r, G')) (hK : (finI X) r G') : J X 4 28 [(3, .int l3)] [] G := by
  unfold fX4_moveAt_28 at h
  refine j_iload_n ok dX4_moveAt_28 rfl 0 rfl ?_
  obtain ⟨er, eG⟩ := inj2 h
  subst er; subst eG
  exact j_iret ok rfl dX4_moveAt_29 hK

def fX4_moveAt_4 (l0 : Nat) (l1 : Int32) (l2 : Int32) (l3 : Int32)  (G : Mem) : Option (((Int32 × Int32) ⊕ Int32) × Mem) :=
  (gF G 14 l0 1).bind fun v1 =>
  if v1 ≤ l3 then
    liftE (fX4_moveAt_39 G)
  else
    (gR G 14 l0 0).bind fun v3 =>
    (gJ G v3 l3).bind fun v4 =>
    if (lg_cmp v4 (0 : Int64)) = (0 : Int32) then
      fX4_moveAt_33 l0 l1 l2 l3 G
    else
      if l2 = l1 then
        liftE (fX4_moveAt_28 l3 G)
      else
        fX4_moveAt_33 l0 l1 (l2 + (1 : Int32)) l3 G

set_option maxRecDepth 100000 in
set_option maxHeartbeats 4000000 in
theorem jX4_moveAt_4 {X : Cx} (ok : OK X cX4_moveAt RX4 (some .int) 4 0 0) (l0 : Nat) (l1 : Int32) (l2 : Int32) (l3 : Int32)  (G : Mem) {r : ((Int32 × Int32) ⊕ Int32)} {G' : Mem} (h : fX4_moveAt_4 l0 l1 l2 l3 G = some (r, G')) (hK : (finL X 4 4 (fun s : Int32 × Int32 => [(0, .ref (X.B + l0)), (1, .int l1), (2, .int s.1), (3, .int s.2)]) (finI X)) r G') : J X 4 4 [(0, .ref (X.B + l0)), (1, .int l1), (2, .int l2), (3, .int l3)] [] G := by
  unfold fX4_moveAt_4 at h
  refine j_iload_n ok dX4_moveAt_4 rfl 3 rfl ?_
  refine j_aload_n ok dX4_moveAt_5 rfl 0 rfl ?_
  obtain ⟨v1, hv1, h⟩ := obind h
  refine k_getI ok fl_X4_15 hv1 dX4_moveAt_6 ?_
  rcases ite_some h with ⟨c2, h⟩ | ⟨c2, h⟩
  · refine j_icmp_ge (tgt := 39) ok dX4_moveAt_9 (by decide) (fun _ => ?_) (fun z => absurd c2 z)
    obtain ⟨r1, e1, h1⟩ := lift_some h
    subst e1
    exact J.sub [] rfl (jX4_moveAt_39 ok G h1 hK)
  · refine j_icmp_ge (tgt := 39) ok dX4_moveAt_9 (by decide) (fun z => absurd z c2) (fun _ => ?_)
    refine j_aload_n ok dX4_moveAt_12 rfl 0 rfl ?_
    obtain ⟨v3, hv3, h⟩ := obind h
    refine k_getR ok fl_X4_9 hv3 dX4_moveAt_13 ?_
    refine j_iload_n ok dX4_moveAt_16 rfl 3 rfl ?_
    obtain ⟨v4, hv4, h⟩ := obind h
    refine j_lald ok hv4 dX4_moveAt_17 ?_
    refine j_lconst (v := 0) ok dX4_moveAt_18 (by decide) ?_
    refine j_lcmp ok dX4_moveAt_19 ?_
    rcases ite_some h with ⟨c5, h⟩ | ⟨c5, h⟩
    · refine j_if_eq (tgt := 33) ok dX4_moveAt_20 (by decide) (fun _ => ?_) (fun z => absurd c5 z)
      exact J.sub [0, 1, 2, 3] rfl (jX4_moveAt_33 ok l0 l1 l2 l3 G h hK)
    · refine j_if_eq (tgt := 33) ok dX4_moveAt_20 (by decide) (fun z => absurd z c5) (fun _ => ?_)
      refine j_iload_n ok dX4_moveAt_23 rfl 2 rfl ?_
      refine j_iload_n ok dX4_moveAt_24 rfl 1 rfl ?_
      rcases ite_some h with ⟨c6, h⟩ | ⟨c6, h⟩
      · refine j_icmp_ne (tgt := 30) ok dX4_moveAt_25 (by decide) (fun z => absurd c6 z) (fun _ => ?_)
        obtain ⟨r1, e1, h1⟩ := lift_some h
        subst e1
        exact J.sub [3] rfl (jX4_moveAt_28 ok l3 G h1 hK)
      · refine j_icmp_ne (tgt := 30) ok dX4_moveAt_25 (by decide) (fun _ => ?_) (fun z => absurd z c6)
        refine j_iinc (L' := [(2, .int (l2 + (1 : Int32))), (0, .ref (X.B + l0)), (1, .int l1), (3, .int l3)]) (v := (l2 + (1 : Int32))) ok dX4_moveAt_30 (q := 2) rfl rfl (by decide) rfl ?_
        exact J.sub [1, 2, 0, 3] rfl (jX4_moveAt_33 ok l0 l1 (l2 + (1 : Int32)) l3 G h hK)

def fX4_moveAt_0 (l0 : Nat) (l1 : Int32)  (G : Mem) : Option (Int32 × Mem) :=
  loopM (fun (s : Int32 × Int32) G => fX4_moveAt_4 l0 l1 s.1 s.2 G) FU ((0 : Int32), (0 : Int32)) G

set_option maxRecDepth 100000 in
set_option maxHeartbeats 4000000 in
theorem jX4_moveAt_0 {X : Cx} (ok : OK X cX4_moveAt RX4 (some .int) 4 0 0) (l0 : Nat) (l1 : Int32)  (G : Mem) {r : Int32} {G' : Mem} (h : fX4_moveAt_0 l0 l1 G = some (r, G')) (hK : (finI X) r G') : J X 4 0 [(0, .ref (X.B + l0)), (1, .int l1)] [] G := by
  unfold fX4_moveAt_0 at h
  refine j_iconst (v := 0) ok dX4_moveAt_0 (by decide) ?_
  refine j_istore_n (L' := [(2, .int (0 : Int32)), (0, .ref (X.B + l0)), (1, .int l1)]) ok dX4_moveAt_1 rfl (by decide) rfl ?_
  refine j_iconst (v := 0) ok dX4_moveAt_2 (by decide) ?_
  refine j_istore_n (L' := [(3, .int (0 : Int32)), (2, .int (0 : Int32)), (0, .ref (X.B + l0)), (1, .int l1)]) ok dX4_moveAt_3 rfl (by decide) rfl ?_
  have hJ : J X 4 4 [(0, .ref (X.B + l0)), (1, .int l1), (2, .int (0 : Int32)), (3, .int (0 : Int32))] [] G := j_loop (loc := fun s : Int32 × Int32 => [(0, .ref (X.B + l0)), (1, .int l1), (2, .int s.1), (3, .int s.2)]) (F := (finI X)) (fun s G r G' hb hk => jX4_moveAt_4 ok l0 l1 s.1 s.2 G hb hk) _ _ _ _ _ h hK
  exact J.sub [2, 3, 1, 0] rfl hJ

def fX4_moveAt (l0 : Nat) (l1 : Int32) (G : Mem) : Option (Int32 × Mem) := fX4_moveAt_0 l0 l1 G
set_option maxRecDepth 100000 in
theorem tX4_moveAt {l : Launch} (hfl : l.stackTraces = false) (V : Wd) (l0 : Nat) (l1 : Int32) (G : Mem) {r : Int32} {G' : Mem} (h : fX4_moveAt l0 l1 G = some (r, G')) : Mx l yX4_moveAt cX4_moveAt 4 (some .int) 0 0 V [.ref (V.B + l0), .int l1] G (.inl (some (.int r))) G' :=
  mx_of (L := [(0, .ref (V.B + l0)), (1, .int l1)]) hfl (by decide +kernel) (Nat.le_of_ble_eq_true rfl) rfl (fun X hl hV hin ok he => by
    subst hl; subst hV
    exact J.sub [0, 1] rfl (jX4_moveAt_0 ok l0 l1 G h he))
def fX4_moveCount_32 (l1 : Int32)  (G : Mem) : Option (Int32 × Mem) :=
  some (l1, G)

set_option maxRecDepth 100000 in
set_option maxHeartbeats 4000000 in
theorem jX4_moveCount_32 {X : Cx} (ok : OK X cX4_moveCount RX4 (some .int) 3 0 0) (l1 : Int32)  (G : Mem) {r : Int32} {G' : Mem} (h : fX4_moveCount_32 l1 G = some (r, G')) (hK : (finI X) r G') : J X 3 32 [(1, .int l1)] [] G := by
  unfold fX4_moveCount_32 at h
  refine j_iload_n ok dX4_moveCount_32 rfl 0 rfl ?_
  obtain ⟨er, eG⟩ := inj2 h
  subst er; subst eG
  exact j_iret ok rfl dX4_moveCount_33 hK

def fX4_moveCount_26 (l0 : Nat) (l1 : Int32) (l2 : Int32)  (G : Mem) : Option (((Int32 × Int32) ⊕ Int32) × Mem) :=
  some (.inl (l1, (l2 + (1 : Int32))), G)

set_option maxRecDepth 100000 in
set_option maxHeartbeats 4000000 in
theorem jX4_moveCount_26 {X : Cx} (ok : OK X cX4_moveCount RX4 (some .int) 3 0 0) (l0 : Nat) (l1 : Int32) (l2 : Int32)  (G : Mem) {r : ((Int32 × Int32) ⊕ Int32)} {G' : Mem} (h : fX4_moveCount_26 l0 l1 l2 G = some (r, G')) (hK : (finL X 3 4 (fun s : Int32 × Int32 => [(0, .ref (X.B + l0)), (1, .int s.1), (2, .int s.2)]) (finI X)) r G') : J X 3 26 [(0, .ref (X.B + l0)), (1, .int l1), (2, .int l2)] [] G := by
  unfold fX4_moveCount_26 at h
  refine j_iinc (L' := [(2, .int (l2 + (1 : Int32))), (0, .ref (X.B + l0)), (1, .int l1)]) (v := (l2 + (1 : Int32))) ok dX4_moveCount_26 (q := 2) rfl rfl (by decide) rfl ?_
  refine j_goto (tgt := 4) ok dX4_moveCount_29 (by decide) ?_
  obtain ⟨er, eG⟩ := inj2 h
  subst er; subst eG
  have hJ : J X 3 4 [(0, .ref (X.B + l0)), (1, .int l1), (2, .int (l2 + (1 : Int32)))] [] G := hK
  exact J.sub [1, 2, 0] rfl hJ

def fX4_moveCount_4 (l0 : Nat) (l1 : Int32) (l2 : Int32)  (G : Mem) : Option (((Int32 × Int32) ⊕ Int32) × Mem) :=
  (gF G 14 l0 1).bind fun v1 =>
  if v1 ≤ l2 then
    liftE (fX4_moveCount_32 l1 G)
  else
    (gR G 14 l0 0).bind fun v3 =>
    (gJ G v3 l2).bind fun v4 =>
    if (lg_cmp v4 (0 : Int64)) = (0 : Int32) then
      fX4_moveCount_26 l0 l1 l2 G
    else
      fX4_moveCount_26 l0 (l1 + (1 : Int32)) l2 G

set_option maxRecDepth 100000 in
set_option maxHeartbeats 4000000 in
theorem jX4_moveCount_4 {X : Cx} (ok : OK X cX4_moveCount RX4 (some .int) 3 0 0) (l0 : Nat) (l1 : Int32) (l2 : Int32)  (G : Mem) {r : ((Int32 × Int32) ⊕ Int32)} {G' : Mem} (h : fX4_moveCount_4 l0 l1 l2 G = some (r, G')) (hK : (finL X 3 4 (fun s : Int32 × Int32 => [(0, .ref (X.B + l0)), (1, .int s.1), (2, .int s.2)]) (finI X)) r G') : J X 3 4 [(0, .ref (X.B + l0)), (1, .int l1), (2, .int l2)] [] G := by
  unfold fX4_moveCount_4 at h
  refine j_iload_n ok dX4_moveCount_4 rfl 2 rfl ?_
  refine j_aload_n ok dX4_moveCount_5 rfl 0 rfl ?_
  obtain ⟨v1, hv1, h⟩ := obind h
  refine k_getI ok fl_X4_15 hv1 dX4_moveCount_6 ?_
  rcases ite_some h with ⟨c2, h⟩ | ⟨c2, h⟩
  · refine j_icmp_ge (tgt := 32) ok dX4_moveCount_9 (by decide) (fun _ => ?_) (fun z => absurd c2 z)
    obtain ⟨r1, e1, h1⟩ := lift_some h
    subst e1
    exact J.sub [1] rfl (jX4_moveCount_32 ok l1 G h1 hK)
  · refine j_icmp_ge (tgt := 32) ok dX4_moveCount_9 (by decide) (fun z => absurd z c2) (fun _ => ?_)
    refine j_aload_n ok dX4_moveCount_12 rfl 0 rfl ?_
    obtain ⟨v3, hv3, h⟩ := obind h
    refine k_getR ok fl_X4_9 hv3 dX4_moveCount_13 ?_
    refine j_iload_n ok dX4_moveCount_16 rfl 2 rfl ?_
    obtain ⟨v4, hv4, h⟩ := obind h
    refine j_lald ok hv4 dX4_moveCount_17 ?_
    refine j_lconst (v := 0) ok dX4_moveCount_18 (by decide) ?_
    refine j_lcmp ok dX4_moveCount_19 ?_
    rcases ite_some h with ⟨c5, h⟩ | ⟨c5, h⟩
    · refine j_if_eq (tgt := 26) ok dX4_moveCount_20 (by decide) (fun _ => ?_) (fun z => absurd c5 z)
      exact J.sub [0, 1, 2] rfl (jX4_moveCount_26 ok l0 l1 l2 G h hK)
    · refine j_if_eq (tgt := 26) ok dX4_moveCount_20 (by decide) (fun z => absurd z c5) (fun _ => ?_)
      refine j_iinc (L' := [(1, .int (l1 + (1 : Int32))), (0, .ref (X.B + l0)), (2, .int l2)]) (v := (l1 + (1 : Int32))) ok dX4_moveCount_23 (q := 1) rfl rfl (by decide) rfl ?_
      exact J.sub [1, 0, 2] rfl (jX4_moveCount_26 ok l0 (l1 + (1 : Int32)) l2 G h hK)

def fX4_moveCount_0 (l0 : Nat)  (G : Mem) : Option (Int32 × Mem) :=
  loopM (fun (s : Int32 × Int32) G => fX4_moveCount_4 l0 s.1 s.2 G) FU ((0 : Int32), (0 : Int32)) G

set_option maxRecDepth 100000 in
set_option maxHeartbeats 4000000 in
theorem jX4_moveCount_0 {X : Cx} (ok : OK X cX4_moveCount RX4 (some .int) 3 0 0) (l0 : Nat)  (G : Mem) {r : Int32} {G' : Mem} (h : fX4_moveCount_0 l0 G = some (r, G')) (hK : (finI X) r G') : J X 3 0 [(0, .ref (X.B + l0))] [] G := by
  unfold fX4_moveCount_0 at h
  refine j_iconst (v := 0) ok dX4_moveCount_0 (by decide) ?_
  refine j_istore_n (L' := [(1, .int (0 : Int32)), (0, .ref (X.B + l0))]) ok dX4_moveCount_1 rfl (by decide) rfl ?_
  refine j_iconst (v := 0) ok dX4_moveCount_2 (by decide) ?_
  refine j_istore_n (L' := [(2, .int (0 : Int32)), (1, .int (0 : Int32)), (0, .ref (X.B + l0))]) ok dX4_moveCount_3 rfl (by decide) rfl ?_
  have hJ : J X 3 4 [(0, .ref (X.B + l0)), (1, .int (0 : Int32)), (2, .int (0 : Int32))] [] G := j_loop (loc := fun s : Int32 × Int32 => [(0, .ref (X.B + l0)), (1, .int s.1), (2, .int s.2)]) (F := (finI X)) (fun s G r G' hb hk => jX4_moveCount_4 ok l0 s.1 s.2 G hb hk) _ _ _ _ _ h hK
  exact J.sub [2, 1, 0] rfl hJ

def fX4_moveCount (l0 : Nat) (G : Mem) : Option (Int32 × Mem) := fX4_moveCount_0 l0 G
set_option maxRecDepth 100000 in
theorem tX4_moveCount {l : Launch} (hfl : l.stackTraces = false) (V : Wd) (l0 : Nat) (G : Mem) {r : Int32} {G' : Mem} (h : fX4_moveCount l0 G = some (r, G')) : Mx l yX4_moveCount cX4_moveCount 3 (some .int) 0 0 V [.ref (V.B + l0)] G (.inl (some (.int r))) G' :=
  mx_of (L := [(0, .ref (V.B + l0))]) hfl (by decide +kernel) (Nat.le_of_ble_eq_true rfl) rfl (fun X hl hV hin ok he => by
    subst hl; subst hV
    exact J.sub [0] rfl (jX4_moveCount_0 ok l0 G h he))
def fX4_total_27 (l1 : Int64)  (G : Mem) : Option (Int64 × Mem) :=
  some (l1, G)

set_option maxRecDepth 100000 in
set_option maxHeartbeats 4000000 in
theorem jX4_total_27 {X : Cx} (ok : OK X cX4_total RX4 (some .long) 4 0 0) (l1 : Int64)  (G : Mem) {r : Int64} {G' : Mem} (h : fX4_total_27 l1 G = some (r, G')) (hK : (finJ X) r G') : J X 4 27 [(1, .long l1)] [] G := by
  unfold fX4_total_27 at h
  refine j_lload_n ok dX4_total_27 rfl 0 rfl ?_
  obtain ⟨er, eG⟩ := inj2 h
  subst er; subst eG
  exact j_lret ok rfl dX4_total_28 hK

def fX4_total_4 (l0 : Nat) (l1 : Int64) (l3 : Int32)  (G : Mem) : Option (((Int64 × Int32) ⊕ Int64) × Mem) :=
  (gF G 14 l0 1).bind fun v1 =>
  if v1 ≤ l3 then
    liftE (fX4_total_27 l1 G)
  else
    (gR G 14 l0 0).bind fun v3 =>
    (gJ G v3 l3).bind fun v4 =>
    some (.inl ((l1 + v4), (l3 + (1 : Int32))), G)

set_option maxRecDepth 100000 in
set_option maxHeartbeats 4000000 in
theorem jX4_total_4 {X : Cx} (ok : OK X cX4_total RX4 (some .long) 4 0 0) (l0 : Nat) (l1 : Int64) (l3 : Int32)  (G : Mem) {r : ((Int64 × Int32) ⊕ Int64)} {G' : Mem} (h : fX4_total_4 l0 l1 l3 G = some (r, G')) (hK : (finL X 4 4 (fun s : Int64 × Int32 => [(0, .ref (X.B + l0)), (1, .long s.1), (3, .int s.2)]) (finJ X)) r G') : J X 4 4 [(0, .ref (X.B + l0)), (1, .long l1), (3, .int l3)] [] G := by
  unfold fX4_total_4 at h
  refine j_iload_n ok dX4_total_4 rfl 2 rfl ?_
  refine j_aload_n ok dX4_total_5 rfl 0 rfl ?_
  obtain ⟨v1, hv1, h⟩ := obind h
  refine k_getI ok fl_X4_15 hv1 dX4_total_6 ?_
  rcases ite_some h with ⟨c2, h⟩ | ⟨c2, h⟩
  · refine j_icmp_ge (tgt := 27) ok dX4_total_9 (by decide) (fun _ => ?_) (fun z => absurd c2 z)
    obtain ⟨r1, e1, h1⟩ := lift_some h
    subst e1
    exact J.sub [1] rfl (jX4_total_27 ok l1 G h1 hK)
  · refine j_icmp_ge (tgt := 27) ok dX4_total_9 (by decide) (fun z => absurd z c2) (fun _ => ?_)
    refine j_lload_n ok dX4_total_12 rfl 1 rfl ?_
    refine j_aload_n ok dX4_total_13 rfl 0 rfl ?_
    obtain ⟨v3, hv3, h⟩ := obind h
    refine k_getR ok fl_X4_9 hv3 dX4_total_14 ?_
    refine j_iload_n ok dX4_total_17 rfl 2 rfl ?_
    obtain ⟨v4, hv4, h⟩ := obind h
    refine j_lald ok hv4 dX4_total_18 ?_
    refine j_ladd ok dX4_total_19 ?_
    refine j_lstore_n (L' := [(1, .long (l1 + v4)), (0, .ref (X.B + l0)), (3, .int l3)]) ok dX4_total_20 rfl (by decide) rfl ?_
    refine j_iinc (L' := [(3, .int (l3 + (1 : Int32))), (1, .long (l1 + v4)), (0, .ref (X.B + l0))]) (v := (l3 + (1 : Int32))) ok dX4_total_21 (q := 2) rfl rfl (by decide) rfl ?_
    refine j_goto (tgt := 4) ok dX4_total_24 (by decide) ?_
    obtain ⟨er, eG⟩ := inj2 h
    subst er; subst eG
    have hJ : J X 4 4 [(0, .ref (X.B + l0)), (1, .long (l1 + v4)), (3, .int (l3 + (1 : Int32)))] [] G := hK
    exact J.sub [2, 1, 0] rfl hJ

def fX4_total_0 (l0 : Nat)  (G : Mem) : Option (Int64 × Mem) :=
  loopM (fun (s : Int64 × Int32) G => fX4_total_4 l0 s.1 s.2 G) FU ((0 : Int64), (0 : Int32)) G

set_option maxRecDepth 100000 in
set_option maxHeartbeats 4000000 in
theorem jX4_total_0 {X : Cx} (ok : OK X cX4_total RX4 (some .long) 4 0 0) (l0 : Nat)  (G : Mem) {r : Int64} {G' : Mem} (h : fX4_total_0 l0 G = some (r, G')) (hK : (finJ X) r G') : J X 4 0 [(0, .ref (X.B + l0))] [] G := by
  unfold fX4_total_0 at h
  refine j_lconst (v := 0) ok dX4_total_0 (by decide) ?_
  refine j_lstore_n (L' := [(1, .long (0 : Int64)), (0, .ref (X.B + l0))]) ok dX4_total_1 rfl (by decide) rfl ?_
  refine j_iconst (v := 0) ok dX4_total_2 (by decide) ?_
  refine j_istore_n (L' := [(3, .int (0 : Int32)), (1, .long (0 : Int64)), (0, .ref (X.B + l0))]) ok dX4_total_3 rfl (by decide) rfl ?_
  have hJ : J X 4 4 [(0, .ref (X.B + l0)), (1, .long (0 : Int64)), (3, .int (0 : Int32))] [] G := j_loop (loc := fun s : Int64 × Int32 => [(0, .ref (X.B + l0)), (1, .long s.1), (3, .int s.2)]) (F := (finJ X)) (fun s G r G' hb hk => jX4_total_4 ok l0 s.1 s.2 G hb hk) _ _ _ _ _ h hK
  exact J.sub [2, 1, 0] rfl hJ

def fX4_total (l0 : Nat) (G : Mem) : Option (Int64 × Mem) := fX4_total_0 l0 G
set_option maxRecDepth 100000 in
theorem tX4_total {l : Launch} (hfl : l.stackTraces = false) (V : Wd) (l0 : Nat) (G : Mem) {r : Int64} {G' : Mem} (h : fX4_total l0 G = some (r, G')) : Mx l yX4_total cX4_total 4 (some .long) 0 0 V [.ref (V.B + l0)] G (.inl (some (.long r))) G' :=
  mx_of (L := [(0, .ref (V.B + l0))]) hfl (by decide +kernel) (Nat.le_of_ble_eq_true rfl) rfl (fun X hl hV hin ok he => by
    subst hl; subst hV
    exact J.sub [0] rfl (jX4_total_0 ok l0 G h he))
def fX5_hasRoom_20  (s0 : Int32) (G : Mem) : Option (Int32 × Mem) :=
  rz s0 <|
  some (s0, G)

set_option maxRecDepth 100000 in
set_option maxHeartbeats 4000000 in
theorem jX5_hasRoom_20 {X : Cx} (ok : OK X cX5_hasRoom RX5 (some .boolean) 1 0 0)  (s0 : Int32) (G : Mem) {r : Int32} {G' : Mem} (h : fX5_hasRoom_20 s0 G = some (r, G')) (hK : (finI X) r G') : J X 1 20 [] [.int s0] G := by
  unfold fX5_hasRoom_20 at h
  obtain ⟨hz1, h⟩ := rz_some h
  obtain ⟨er, eG⟩ := inj2 h
  subst er; subst eG
  exact j_zret ok rfl hz1 dX5_hasRoom_20 hK

def fX5_hasRoom_0 (l0 : Nat)  (G : Mem) : Option (Int32 × Mem) :=
  (gF G 15 l0 0).bind fun v1 =>
  (gR G 15 l0 5).bind fun v2 =>
  (gL G v2).bind fun v3 =>
  if v3 < (v1 + (20 : Int32)) then
    fX5_hasRoom_20 (0 : Int32) G
  else
    fX5_hasRoom_20 (1 : Int32) G

set_option maxRecDepth 100000 in
set_option maxHeartbeats 4000000 in
theorem jX5_hasRoom_0 {X : Cx} (ok : OK X cX5_hasRoom RX5 (some .boolean) 1 0 0) (l0 : Nat)  (G : Mem) {r : Int32} {G' : Mem} (h : fX5_hasRoom_0 l0 G = some (r, G')) (hK : (finI X) r G') : J X 1 0 [(0, .ref (X.B + l0))] [] G := by
  unfold fX5_hasRoom_0 at h
  refine j_aload_n ok dX5_hasRoom_0 rfl 0 rfl ?_
  obtain ⟨v1, hv1, h⟩ := obind h
  refine k_getI ok fl_X5_9 hv1 dX5_hasRoom_1 ?_
  refine j_bipush (v := 20) ok dX5_hasRoom_4 (by decide) ?_
  refine j_iadd ok dX5_hasRoom_6 ?_
  refine j_aload_n ok dX5_hasRoom_7 rfl 0 rfl ?_
  obtain ⟨v2, hv2, h⟩ := obind h
  refine k_getR ok fl_X5_27 hv2 dX5_hasRoom_8 ?_
  obtain ⟨v3, hv3, h⟩ := obind h
  refine j_alen ok hv3 dX5_hasRoom_11 ?_
  rcases ite_some h with ⟨c4, h⟩ | ⟨c4, h⟩
  · refine j_icmp_gt (tgt := 19) ok dX5_hasRoom_12 (by decide) (fun _ => ?_) (fun z => absurd c4 z)
    refine j_iconst (v := 0) ok dX5_hasRoom_19 (by decide) ?_
    exact J.sub [] rfl (jX5_hasRoom_20 ok (0 : Int32) G h hK)
  · refine j_icmp_gt (tgt := 19) ok dX5_hasRoom_12 (by decide) (fun z => absurd z c4) (fun _ => ?_)
    refine j_iconst (v := 1) ok dX5_hasRoom_15 (by decide) ?_
    refine j_goto (tgt := 20) ok dX5_hasRoom_16 (by decide) ?_
    exact J.sub [] rfl (jX5_hasRoom_20 ok (1 : Int32) G h hK)

def fX5_hasRoom (l0 : Nat) (G : Mem) : Option (Int32 × Mem) := fX5_hasRoom_0 l0 G
set_option maxRecDepth 100000 in
theorem tX5_hasRoom {l : Launch} (hfl : l.stackTraces = false) (V : Wd) (l0 : Nat) (G : Mem) {r : Int32} {G' : Mem} (h : fX5_hasRoom l0 G = some (r, G')) : Mx l yX5_hasRoom cX5_hasRoom 1 (some .boolean) 0 0 V [.ref (V.B + l0)] G (.inl (some (.int r))) G' :=
  mx_of (L := [(0, .ref (V.B + l0))]) hfl (by decide +kernel) (Nat.le_of_ble_eq_true rfl) rfl (fun X hl hV hin ok he => by
    subst hl; subst hV
    exact J.sub [0] rfl (jX5_hasRoom_0 ok l0 G h he))
def fX5_put_45   (G : Mem) : Option (Unit × Mem) :=
  some ((), G)

set_option maxRecDepth 100000 in
set_option maxHeartbeats 4000000 in
theorem jX5_put_45 {X : Cx} (ok : OK X cX5_put RX5 none 3 0 0)   (G : Mem) {r : Unit} {G' : Mem} (h : fX5_put_45  G = some (r, G')) (hK : (finV X) r G') : J X 3 45 [] [] G := by
  unfold fX5_put_45 at h
  obtain ⟨er, eG⟩ := inj2 h
  subst er; subst eG
  exact j_vret ok rfl dX5_put_45 hK

def fX5_put_3 (l0 : Nat) (l1 : Int32) (l2 : Int32)  (G : Mem) : Option (((Int32) ⊕ Unit) × Mem) :=
  if l2 < (0 : Int32) then
    liftE (fX5_put_45 G)
  else
    (gF G 15 l0 0).bind fun v2 =>
    (gR G 15 l0 5).bind fun v3 =>
    (gL G v3).bind fun v4 =>
    if v4 ≤ v2 then
      liftE (fX5_put_45 G)
    else
      (gR G 15 l0 5).bind fun v6 =>
      (gF G 15 l0 0).bind fun v7 =>
      (pI G 15 l0 0 (v7 + (1 : Int32))).bind fun G8 =>
      (pB G8 v6 v7 ((l1 >>> (l2 &&& 31)).toInt8.toInt32)).bind fun G9 =>
      some (.inl ((l2 + (-8 : Int32))), G9)

set_option maxRecDepth 100000 in
set_option maxHeartbeats 4000000 in
theorem jX5_put_3 {X : Cx} (ok : OK X cX5_put RX5 none 3 0 0) (l0 : Nat) (l1 : Int32) (l2 : Int32)  (G : Mem) {r : ((Int32) ⊕ Unit)} {G' : Mem} (h : fX5_put_3 l0 l1 l2 G = some (r, G')) (hK : (finL X 3 3 (fun s : Int32 => [(0, .ref (X.B + l0)), (1, .int l1), (2, .int s)]) (finV X)) r G') : J X 3 3 [(0, .ref (X.B + l0)), (1, .int l1), (2, .int l2)] [] G := by
  unfold fX5_put_3 at h
  refine j_iload_n ok dX5_put_3 rfl 2 rfl ?_
  rcases ite_some h with ⟨c1, h⟩ | ⟨c1, h⟩
  · refine j_if_lt (tgt := 45) ok dX5_put_4 (by decide) (fun _ => ?_) (fun z => absurd c1 z)
    obtain ⟨r1, e1, h1⟩ := lift_some h
    subst e1
    exact J.sub [] rfl (jX5_put_45 ok G h1 hK)
  · refine j_if_lt (tgt := 45) ok dX5_put_4 (by decide) (fun z => absurd z c1) (fun _ => ?_)
    refine j_aload_n ok dX5_put_7 rfl 0 rfl ?_
    obtain ⟨v2, hv2, h⟩ := obind h
    refine k_getI ok fl_X5_9 hv2 dX5_put_8 ?_
    refine j_aload_n ok dX5_put_11 rfl 0 rfl ?_
    obtain ⟨v3, hv3, h⟩ := obind h
    refine k_getR ok fl_X5_27 hv3 dX5_put_12 ?_
    obtain ⟨v4, hv4, h⟩ := obind h
    refine j_alen ok hv4 dX5_put_15 ?_
    rcases ite_some h with ⟨c5, h⟩ | ⟨c5, h⟩
    · refine j_icmp_ge (tgt := 45) ok dX5_put_16 (by decide) (fun _ => ?_) (fun z => absurd c5 z)
      obtain ⟨r1, e1, h1⟩ := lift_some h
      subst e1
      exact J.sub [] rfl (jX5_put_45 ok G h1 hK)
    · refine j_icmp_ge (tgt := 45) ok dX5_put_16 (by decide) (fun z => absurd z c5) (fun _ => ?_)
      refine j_aload_n ok dX5_put_19 rfl 0 rfl ?_
      obtain ⟨v6, hv6, h⟩ := obind h
      refine k_getR ok fl_X5_27 hv6 dX5_put_20 ?_
      refine j_aload_n ok dX5_put_23 rfl 0 rfl ?_
      refine j_dup ok dX5_put_24 rfl ?_
      obtain ⟨v7, hv7, h⟩ := obind h
      refine k_getI ok fl_X5_9 hv7 dX5_put_25 ?_
      refine j_dup_x1 ok dX5_put_28 rfl rfl ?_
      refine j_iconst (v := 1) ok dX5_put_29 (by decide) ?_
      refine j_iadd ok dX5_put_30 ?_
      obtain ⟨G8, hG8, h⟩ := obind h
      refine k_putI ok fl_X5_9 fp_X5 rfl (Or.inl rfl) hG8 dX5_put_31 ?_
      refine j_iload_n ok dX5_put_34 rfl 1 rfl ?_
      refine j_iload_n ok dX5_put_35 rfl 2 rfl ?_
      refine j_ishr ok dX5_put_36 ?_
      refine j_i2b ok dX5_put_37 ?_
      obtain ⟨G9, hG9, h⟩ := obind h
      refine j_bast ok hG9 dX5_put_38 ?_
      refine j_iinc (L' := [(2, .int (l2 + (-8 : Int32))), (0, .ref (X.B + l0)), (1, .int l1)]) (v := (l2 + (-8 : Int32))) ok dX5_put_39 (q := 2) rfl rfl (by decide) rfl ?_
      refine j_goto (tgt := 3) ok dX5_put_42 (by decide) ?_
      obtain ⟨er, eG⟩ := inj2 h
      subst er; subst eG
      have hJ : J X 3 3 [(0, .ref (X.B + l0)), (1, .int l1), (2, .int (l2 + (-8 : Int32)))] [] G9 := hK
      exact J.sub [1, 2, 0] rfl hJ

def fX5_put_0 (l0 : Nat) (l1 : Int32)  (G : Mem) : Option (Unit × Mem) :=
  loopM (fun (s : Int32) G => fX5_put_3 l0 l1 s G) FU ((24 : Int32)) G

set_option maxRecDepth 100000 in
set_option maxHeartbeats 4000000 in
theorem jX5_put_0 {X : Cx} (ok : OK X cX5_put RX5 none 3 0 0) (l0 : Nat) (l1 : Int32)  (G : Mem) {r : Unit} {G' : Mem} (h : fX5_put_0 l0 l1 G = some (r, G')) (hK : (finV X) r G') : J X 3 0 [(0, .ref (X.B + l0)), (1, .int l1)] [] G := by
  unfold fX5_put_0 at h
  refine j_bipush (v := 24) ok dX5_put_0 (by decide) ?_
  refine j_istore_n (L' := [(2, .int (24 : Int32)), (0, .ref (X.B + l0)), (1, .int l1)]) ok dX5_put_2 rfl (by decide) rfl ?_
  have hJ : J X 3 3 [(0, .ref (X.B + l0)), (1, .int l1), (2, .int (24 : Int32))] [] G := j_loop (loc := fun s : Int32 => [(0, .ref (X.B + l0)), (1, .int l1), (2, .int s)]) (F := (finV X)) (fun s G r G' hb hk => jX5_put_3 ok l0 l1 s G hb hk) _ _ _ _ _ h hK
  exact J.sub [1, 2, 0] rfl hJ

def fX5_put (l0 : Nat) (l1 : Int32) (G : Mem) : Option (Unit × Mem) := fX5_put_0 l0 l1 G
set_option maxRecDepth 100000 in
theorem tX5_put {l : Launch} (hfl : l.stackTraces = false) (V : Wd) (l0 : Nat) (l1 : Int32) (G : Mem) {r : Unit} {G' : Mem} (h : fX5_put l0 l1 G = some (r, G')) : Mx l yX5_put cX5_put 3 none 0 0 V [.ref (V.B + l0), .int l1] G (.inl none) G' :=
  mx_of (L := [(0, .ref (V.B + l0)), (1, .int l1)]) hfl (by decide +kernel) (Nat.le_of_ble_eq_true rfl) rfl (fun X hl hV hin ok he => by
    subst hl; subst hV
    exact J.sub [0, 1] rfl (jX5_put_0 ok l0 l1 G h he))
def fX6_isOpenOrBelow_15  (s0 : Int32) (G : Mem) : Option (Int32 × Mem) :=
  rz s0 <|
  some (s0, G)

set_option maxRecDepth 100000 in
set_option maxHeartbeats 4000000 in
theorem jX6_isOpenOrBelow_15 {X : Cx} (ok : OK X cX6_isOpenOrBelow RX6 (some .boolean) 2 0 0)  (s0 : Int32) (G : Mem) {r : Int32} {G' : Mem} (h : fX6_isOpenOrBelow_15 s0 G = some (r, G')) (hK : (finI X) r G') : J X 2 15 [] [.int s0] G := by
  unfold fX6_isOpenOrBelow_15 at h
  obtain ⟨hz1, h⟩ := rz_some h
  obtain ⟨er, eG⟩ := inj2 h
  subst er; subst eG
  exact j_zret ok rfl hz1 dX6_isOpenOrBelow_15 hK

def fX6_isOpenOrBelow_14   (G : Mem) : Option (Int32 × Mem) :=
  fX6_isOpenOrBelow_15 (0 : Int32) G

set_option maxRecDepth 100000 in
set_option maxHeartbeats 4000000 in
theorem jX6_isOpenOrBelow_14 {X : Cx} (ok : OK X cX6_isOpenOrBelow RX6 (some .boolean) 2 0 0)   (G : Mem) {r : Int32} {G' : Mem} (h : fX6_isOpenOrBelow_14  G = some (r, G')) (hK : (finI X) r G') : J X 2 14 [] [] G := by
  unfold fX6_isOpenOrBelow_14 at h
  refine j_iconst (v := 0) ok dX6_isOpenOrBelow_14 (by decide) ?_
  exact J.sub [] rfl (jX6_isOpenOrBelow_15 ok (0 : Int32) G h hK)

def fX6_isOpenOrBelow_0 (l0 : Int32) (l1 : Int32)  (G : Mem) : Option (Int32 × Mem) :=
  if l0 < (-1 : Int32) then
    fX6_isOpenOrBelow_14 G
  else
    if l1 ≤ l0 then
      fX6_isOpenOrBelow_14 G
    else
      fX6_isOpenOrBelow_15 (1 : Int32) G

set_option maxRecDepth 100000 in
set_option maxHeartbeats 4000000 in
theorem jX6_isOpenOrBelow_0 {X : Cx} (ok : OK X cX6_isOpenOrBelow RX6 (some .boolean) 2 0 0) (l0 : Int32) (l1 : Int32)  (G : Mem) {r : Int32} {G' : Mem} (h : fX6_isOpenOrBelow_0 l0 l1 G = some (r, G')) (hK : (finI X) r G') : J X 2 0 [(0, .int l0), (1, .int l1)] [] G := by
  unfold fX6_isOpenOrBelow_0 at h
  refine j_iload_n ok dX6_isOpenOrBelow_0 rfl 0 rfl ?_
  refine j_iconst (v := -1) ok dX6_isOpenOrBelow_1 (by decide) ?_
  rcases ite_some h with ⟨c1, h⟩ | ⟨c1, h⟩
  · refine j_icmp_lt (tgt := 14) ok dX6_isOpenOrBelow_2 (by decide) (fun _ => ?_) (fun z => absurd c1 z)
    exact J.sub [] rfl (jX6_isOpenOrBelow_14 ok G h hK)
  · refine j_icmp_lt (tgt := 14) ok dX6_isOpenOrBelow_2 (by decide) (fun z => absurd z c1) (fun _ => ?_)
    refine j_iload_n ok dX6_isOpenOrBelow_5 rfl 0 rfl ?_
    refine j_iload_n ok dX6_isOpenOrBelow_6 rfl 1 rfl ?_
    rcases ite_some h with ⟨c2, h⟩ | ⟨c2, h⟩
    · refine j_icmp_ge (tgt := 14) ok dX6_isOpenOrBelow_7 (by decide) (fun _ => ?_) (fun z => absurd c2 z)
      exact J.sub [] rfl (jX6_isOpenOrBelow_14 ok G h hK)
    · refine j_icmp_ge (tgt := 14) ok dX6_isOpenOrBelow_7 (by decide) (fun z => absurd z c2) (fun _ => ?_)
      refine j_iconst (v := 1) ok dX6_isOpenOrBelow_10 (by decide) ?_
      refine j_goto (tgt := 15) ok dX6_isOpenOrBelow_11 (by decide) ?_
      exact J.sub [] rfl (jX6_isOpenOrBelow_15 ok (1 : Int32) G h hK)

def fX6_isOpenOrBelow (l0 : Int32) (l1 : Int32) (G : Mem) : Option (Int32 × Mem) := fX6_isOpenOrBelow_0 l0 l1 G
set_option maxRecDepth 100000 in
theorem tX6_isOpenOrBelow {l : Launch} (hfl : l.stackTraces = false) (V : Wd) (l0 : Int32) (l1 : Int32) (G : Mem) {r : Int32} {G' : Mem} (h : fX6_isOpenOrBelow l0 l1 G = some (r, G')) : Mx l yX6_isOpenOrBelow cX6_isOpenOrBelow 2 (some .boolean) 0 0 V [.int l0, .int l1] G (.inl (some (.int r))) G' :=
  mx_of (L := [(0, .int l0), (1, .int l1)]) hfl (by decide +kernel) (Nat.le_of_ble_eq_true rfl) rfl (fun X hl hV hin ok he => by
    subst hl; subst hV
    exact J.sub [0, 1] rfl (jX6_isOpenOrBelow_0 ok l0 l1 G h he))
def fX6_requireStatable_54   (G : Mem) : Option ((Unit ⊕ Nat) × Mem) :=
  thw 0 G

set_option maxRecDepth 100000 in
set_option maxHeartbeats 4000000 in
theorem jX6_requireStatable_54 {X : Cx} (ok : OK X cX6_requireStatable RX6 none 6 8 160)   (G : Mem) {r : (Unit ⊕ Nat)} {G' : Mem} (h : fX6_requireStatable_54  G = some (r, G')) (hK : (finT X (finV X)) r G') : J X 6 54 [] [] G := by
  unfold fX6_requireStatable_54 at h
  obtain ⟨hcap, h⟩ := thw_some h
  obtain ⟨er, eG⟩ := inj2 h
  subst er; subst eG
  exact k_throwW ok kt_X6_85 st_X6_332 dX6_requireStatable_54 dX6_requireStatable_57 dX6_requireStatable_58 dX6_requireStatable_61 dX6_requireStatable_64 hcap (by decide) (by decide) (Nat.le_of_ble_eq_true rfl) hK

def fX6_requireStatable_0 (l0 : Nat) (l1 : Int32) (l2 : Int32) (l3 : Int32) (l4 : Int32)  (G : Mem) : Option ((Unit ⊕ Nat) × Mem) :=
  (gR G 16 l0 3).bind fun v1 =>
  (gR G 13 v1 0).bind fun v2 =>
  (fX6_isOpenOrBelow l1 (5 : Int32) G).bind fun q3 =>
  if q3.1 = (0 : Int32) then
    fX6_requireStatable_54 q3.2
  else
    (gF q3.2 10 v2 0).bind fun v5 =>
    (fX6_isOpenOrBelow l2 v5 q3.2).bind fun q6 =>
    if q6.1 = (0 : Int32) then
      fX6_requireStatable_54 q6.2
    else
      (gF q6.2 10 v2 0).bind fun v8 =>
      (fX6_isOpenOrBelow l3 v8 q6.2).bind fun q9 =>
      if q9.1 = (0 : Int32) then
        fX6_requireStatable_54 q9.2
      else
        (gF q9.2 10 v2 1).bind fun v11 =>
        (fX6_isOpenOrBelow l4 v11 q9.2).bind fun q12 =>
        if q12.1 = (0 : Int32) then
          fX6_requireStatable_54 q12.2
        else
          some (.inl (), q12.2)

set_option maxRecDepth 100000 in
set_option maxHeartbeats 4000000 in
theorem jX6_requireStatable_0 {X : Cx} (ok : OK X cX6_requireStatable RX6 none 6 8 160) (l0 : Nat) (l1 : Int32) (l2 : Int32) (l3 : Int32) (l4 : Int32)  (G : Mem) {r : (Unit ⊕ Nat)} {G' : Mem} (h : fX6_requireStatable_0 l0 l1 l2 l3 l4 G = some (r, G')) (hK : (finT X (finV X)) r G') : J X 6 0 [(0, .ref (X.B + l0)), (1, .int l1), (2, .int l2), (3, .int l3), (4, .int l4)] [] G := by
  unfold fX6_requireStatable_0 at h
  refine j_aload_n ok dX6_requireStatable_0 rfl 0 rfl ?_
  obtain ⟨v1, hv1, h⟩ := obind h
  refine k_getR ok fl_X6_33 hv1 dX6_requireStatable_1 ?_
  obtain ⟨v2, hv2, h⟩ := obind h
  refine k_getR ok fl_X6_95 hv2 dX6_requireStatable_4 ?_
  refine j_astore (L' := [(5, .ref (X.B + v2)), (0, .ref (X.B + l0)), (1, .int l1), (2, .int l2), (3, .int l3), (4, .int l4)]) ok dX6_requireStatable_7 (by decide) rfl ?_
  refine j_iload_n ok dX6_requireStatable_9 rfl 2 rfl ?_
  refine j_iconst (v := 5) ok dX6_requireStatable_10 (by decide) ?_
  obtain ⟨q3, hq3, h⟩ := obind h
  refine k_S1 ok kl_X6_155 ⟨Nat.le_of_ble_eq_true rfl, Nat.le_of_ble_eq_true rfl⟩ [.int l1, .int (5 : Int32)] rfl rfl (Nat.le_of_ble_eq_true rfl) (tX6_isOpenOrBelow ok.fl X.V l1 (5 : Int32) G hq3) dX6_requireStatable_11 ?_
  rcases ite_some h with ⟨c4, h⟩ | ⟨c4, h⟩
  · refine j_if_eq (tgt := 54) ok dX6_requireStatable_14 (by decide) (fun _ => ?_) (fun z => absurd c4 z)
    exact J.sub [] rfl (jX6_requireStatable_54 ok q3.2 h hK)
  · refine j_if_eq (tgt := 54) ok dX6_requireStatable_14 (by decide) (fun z => absurd z c4) (fun _ => ?_)
    refine j_iload_n ok dX6_requireStatable_17 rfl 3 rfl ?_
    refine j_aload ok dX6_requireStatable_18 0 rfl ?_
    obtain ⟨v5, hv5, h⟩ := obind h
    refine k_getI ok fl_X6_150 hv5 dX6_requireStatable_20 ?_
    obtain ⟨q6, hq6, h⟩ := obind h
    refine k_S1 ok kl_X6_155 ⟨Nat.le_of_ble_eq_true rfl, Nat.le_of_ble_eq_true rfl⟩ [.int l2, .int v5] rfl rfl (Nat.le_of_ble_eq_true rfl) (tX6_isOpenOrBelow ok.fl X.V l2 v5 q3.2 hq6) dX6_requireStatable_23 ?_
    rcases ite_some h with ⟨c7, h⟩ | ⟨c7, h⟩
    · refine j_if_eq (tgt := 54) ok dX6_requireStatable_26 (by decide) (fun _ => ?_) (fun z => absurd c7 z)
      exact J.sub [] rfl (jX6_requireStatable_54 ok q6.2 h hK)
    · refine j_if_eq (tgt := 54) ok dX6_requireStatable_26 (by decide) (fun z => absurd z c7) (fun _ => ?_)
      refine j_iload_n ok dX6_requireStatable_29 rfl 4 rfl ?_
      refine j_aload ok dX6_requireStatable_30 0 rfl ?_
      obtain ⟨v8, hv8, h⟩ := obind h
      refine k_getI ok fl_X6_150 hv8 dX6_requireStatable_32 ?_
      obtain ⟨q9, hq9, h⟩ := obind h
      refine k_S1 ok kl_X6_155 ⟨Nat.le_of_ble_eq_true rfl, Nat.le_of_ble_eq_true rfl⟩ [.int l3, .int v8] rfl rfl (Nat.le_of_ble_eq_true rfl) (tX6_isOpenOrBelow ok.fl X.V l3 v8 q6.2 hq9) dX6_requireStatable_35 ?_
      rcases ite_some h with ⟨c10, h⟩ | ⟨c10, h⟩
      · refine j_if_eq (tgt := 54) ok dX6_requireStatable_38 (by decide) (fun _ => ?_) (fun z => absurd c10 z)
        exact J.sub [] rfl (jX6_requireStatable_54 ok q9.2 h hK)
      · refine j_if_eq (tgt := 54) ok dX6_requireStatable_38 (by decide) (fun z => absurd z c10) (fun _ => ?_)
        refine j_iload ok dX6_requireStatable_41 5 rfl ?_
        refine j_aload ok dX6_requireStatable_43 0 rfl ?_
        obtain ⟨v11, hv11, h⟩ := obind h
        refine k_getI ok fl_X6_159 hv11 dX6_requireStatable_45 ?_
        obtain ⟨q12, hq12, h⟩ := obind h
        refine k_S1 ok kl_X6_155 ⟨Nat.le_of_ble_eq_true rfl, Nat.le_of_ble_eq_true rfl⟩ [.int l4, .int v11] rfl rfl (Nat.le_of_ble_eq_true rfl) (tX6_isOpenOrBelow ok.fl X.V l4 v11 q9.2 hq12) dX6_requireStatable_48 ?_
        rcases ite_some h with ⟨c13, h⟩ | ⟨c13, h⟩
        · refine j_if_ne (tgt := 65) ok dX6_requireStatable_51 (by decide) (fun z => absurd c13 z) (fun _ => ?_)
          exact J.sub [] rfl (jX6_requireStatable_54 ok q12.2 h hK)
        · refine j_if_ne (tgt := 65) ok dX6_requireStatable_51 (by decide) (fun _ => ?_) (fun z => absurd z c13)
          obtain ⟨er, eG⟩ := inj2 h
          subst er; subst eG
          exact j_vret ok rfl dX6_requireStatable_65 hK

def fX6_requireStatable (l0 : Nat) (l1 : Int32) (l2 : Int32) (l3 : Int32) (l4 : Int32) (G : Mem) : Option ((Unit ⊕ Nat) × Mem) := fX6_requireStatable_0 l0 l1 l2 l3 l4 G
set_option maxRecDepth 100000 in
theorem tX6_requireStatable {l : Launch} (hfl : l.stackTraces = false) (V : Wd) (l0 : Nat) (l1 : Int32) (l2 : Int32) (l3 : Int32) (l4 : Int32) (G : Mem) {r : (Unit ⊕ Nat)} {G' : Mem} (h : fX6_requireStatable l0 l1 l2 l3 l4 G = some (r, G')) : Mx l yX6_requireStatable cX6_requireStatable 6 none 8 160 V [.ref (V.B + l0), .int l1, .int l2, .int l3, .int l4] G (rzV r) G' :=
  mx_of (L := [(0, .ref (V.B + l0)), (1, .int l1), (2, .int l2), (3, .int l3), (4, .int l4)]) hfl (by decide +kernel) (Nat.le_of_ble_eq_true rfl) rfl (fun X hl hV hin ok he => by
    subst hl; subst hV
    exact J.sub [0, 1, 2, 3, 4] rfl (jX6_requireStatable_0 ok l0 l1 l2 l3 l4 G h (by cases r <;> exact he)))
def fX6_followAsked_45  (s0 : Int32) (G : Mem) : Option (Int32 × Mem) :=
  some (s0, G)

set_option maxRecDepth 100000 in
set_option maxHeartbeats 4000000 in
theorem jX6_followAsked_45 {X : Cx} (ok : OK X cX6_followAsked RX6 (some .int) 1 6 217)  (s0 : Int32) (G : Mem) {r : Int32} {G' : Mem} (h : fX6_followAsked_45 s0 G = some (r, G')) (hK : (finI X) r G') : J X 1 45 [] [.int s0] G := by
  unfold fX6_followAsked_45 at h
  obtain ⟨er, eG⟩ := inj2 h
  subst er; subst eG
  exact j_iret ok rfl dX6_followAsked_45 hK

def fX6_followAsked_0 (l0 : Nat)  (G : Mem) : Option (Int32 × Mem) :=
  (gR G 16 l0 4).bind fun v1 =>
  (gR G 16 l0 3).bind fun v2 =>
  ck G 13 v1 <| (fX3_copyFrom v1 v2 G).bind fun q3 =>
  (gR q3.2 16 l0 4).bind fun v4 =>
  (gR q3.2 16 l0 2).bind fun v5 =>
  ck q3.2 13 v4 <| (fX3_addLast v4 v5 q3.2).bind fun q6 =>
  if q6.1 = (0 : Int32) then
    fX6_followAsked_45 (-1 : Int32) q6.2
  else
    (gR q6.2 16 l0 4).bind fun v8 =>
    (gR q6.2 16 l0 4).bind fun v9 =>
    (gF q6.2 13 v9 1).bind fun v10 =>
    ck q6.2 13 v8 <| (fX3_follow v8 (v10 - (1 : Int32)) q6.2).bind fun q11 =>
    fX6_followAsked_45 q11.1 q11.2

set_option maxRecDepth 100000 in
set_option maxHeartbeats 4000000 in
theorem jX6_followAsked_0 {X : Cx} (ok : OK X cX6_followAsked RX6 (some .int) 1 6 217) (l0 : Nat)  (G : Mem) {r : Int32} {G' : Mem} (h : fX6_followAsked_0 l0 G = some (r, G')) (hK : (finI X) r G') : J X 1 0 [(0, .ref (X.B + l0))] [] G := by
  unfold fX6_followAsked_0 at h
  refine j_aload_n ok dX6_followAsked_0 rfl 0 rfl ?_
  obtain ⟨v1, hv1, h⟩ := obind h
  refine k_getR ok fl_X6_37 hv1 dX6_followAsked_1 ?_
  refine j_aload_n ok dX6_followAsked_4 rfl 0 rfl ?_
  obtain ⟨v2, hv2, h⟩ := obind h
  refine k_getR ok fl_X6_33 hv2 dX6_followAsked_5 ?_
  obtain ⟨kq3, h⟩ := ck_some h
  obtain ⟨q3, hq3, h⟩ := obind h
  refine k_V0 ok kl_X6_114 ⟨Nat.le_of_ble_eq_true rfl, Nat.le_of_ble_eq_true rfl⟩ [.ref (X.B + v2)] kq3 rfl rfl (Nat.le_of_ble_eq_true rfl) (tX3_copyFrom ok.fl X.V v1 v2 G hq3) dX6_followAsked_8 ?_
  refine j_aload_n ok dX6_followAsked_11 rfl 0 rfl ?_
  obtain ⟨v4, hv4, h⟩ := obind h
  refine k_getR ok fl_X6_37 hv4 dX6_followAsked_12 ?_
  refine j_aload_n ok dX6_followAsked_15 rfl 0 rfl ?_
  obtain ⟨v5, hv5, h⟩ := obind h
  refine k_getR ok fl_X6_26 hv5 dX6_followAsked_16 ?_
  obtain ⟨kq6, h⟩ := ck_some h
  obtain ⟨q6, hq6, h⟩ := obind h
  refine k_V1 ok kl_X6_339 ⟨Nat.le_of_ble_eq_true rfl, Nat.le_of_ble_eq_true rfl⟩ [.ref (X.B + v5)] kq6 rfl rfl (Nat.le_of_ble_eq_true rfl) (tX3_addLast ok.fl X.V v4 v5 q3.2 hq6) dX6_followAsked_19 ?_
  rcases ite_some h with ⟨c7, h⟩ | ⟨c7, h⟩
  · refine j_if_eq (tgt := 44) ok dX6_followAsked_22 (by decide) (fun _ => ?_) (fun z => absurd c7 z)
    refine j_iconst (v := -1) ok dX6_followAsked_44 (by decide) ?_
    exact J.sub [] rfl (jX6_followAsked_45 ok (-1 : Int32) q6.2 h hK)
  · refine j_if_eq (tgt := 44) ok dX6_followAsked_22 (by decide) (fun z => absurd z c7) (fun _ => ?_)
    refine j_aload_n ok dX6_followAsked_25 rfl 0 rfl ?_
    obtain ⟨v8, hv8, h⟩ := obind h
    refine k_getR ok fl_X6_37 hv8 dX6_followAsked_26 ?_
    refine j_aload_n ok dX6_followAsked_29 rfl 0 rfl ?_
    obtain ⟨v9, hv9, h⟩ := obind h
    refine k_getR ok fl_X6_37 hv9 dX6_followAsked_30 ?_
    obtain ⟨v10, hv10, h⟩ := obind h
    refine k_getI ok fl_X6_174 hv10 dX6_followAsked_33 ?_
    refine j_iconst (v := 1) ok dX6_followAsked_36 (by decide) ?_
    refine j_isub ok dX6_followAsked_37 ?_
    obtain ⟨kq11, h⟩ := ck_some h
    obtain ⟨q11, hq11, h⟩ := obind h
    refine k_V1 ok kl_X6_168 ⟨Nat.le_of_ble_eq_true rfl, Nat.le_of_ble_eq_true rfl⟩ [.int (v10 - (1 : Int32))] kq11 rfl rfl (Nat.le_of_ble_eq_true rfl) (tX3_follow ok.fl X.V v8 (v10 - (1 : Int32)) q6.2 hq11) dX6_followAsked_38 ?_
    refine j_goto (tgt := 45) ok dX6_followAsked_41 (by decide) ?_
    exact J.sub [] rfl (jX6_followAsked_45 ok q11.1 q11.2 h hK)

def fX6_followAsked (l0 : Nat) (G : Mem) : Option (Int32 × Mem) := fX6_followAsked_0 l0 G
set_option maxRecDepth 100000 in
theorem tX6_followAsked {l : Launch} (hfl : l.stackTraces = false) (V : Wd) (l0 : Nat) (G : Mem) {r : Int32} {G' : Mem} (h : fX6_followAsked l0 G = some (r, G')) : Mx l yX6_followAsked cX6_followAsked 1 (some .int) 6 217 V [.ref (V.B + l0)] G (.inl (some (.int r))) G' :=
  mx_of (L := [(0, .ref (V.B + l0))]) hfl (by decide +kernel) (Nat.le_of_ble_eq_true rfl) rfl (fun X hl hV hin ok he => by
    subst hl; subst hV
    exact J.sub [0] rfl (jX6_followAsked_0 ok l0 G h he))
def fX6_commit_80 (l0 : Nat)  (G : Mem) : Option (Unit × Mem) :=
  (gR G 16 l0 1).bind fun v1 =>
  (gR G 16 l0 3).bind fun v2 =>
  ck G 14 v1 <| (fX4_countContinuations v1 v2 G).bind fun q3 =>
  some ((), q3.2)

set_option maxRecDepth 100000 in
set_option maxHeartbeats 4000000 in
theorem jX6_commit_80 {X : Cx} (ok : OK X cX6_commit RX6 none 2 3 73) (l0 : Nat)  (G : Mem) {r : Unit} {G' : Mem} (h : fX6_commit_80 l0 G = some (r, G')) (hK : (finV X) r G') : J X 2 80 [(0, .ref (X.B + l0))] [] G := by
  unfold fX6_commit_80 at h
  refine j_aload_n ok dX6_commit_80 rfl 0 rfl ?_
  obtain ⟨v1, hv1, h⟩ := obind h
  refine k_getR ok fl_X6_19 hv1 dX6_commit_81 ?_
  refine j_aload_n ok dX6_commit_84 rfl 0 rfl ?_
  obtain ⟨v2, hv2, h⟩ := obind h
  refine k_getR ok fl_X6_33 hv2 dX6_commit_85 ?_
  obtain ⟨kq3, h⟩ := ck_some h
  obtain ⟨q3, hq3, h⟩ := obind h
  refine k_V0 ok kl_X6_181 ⟨Nat.le_of_ble_eq_true rfl, Nat.le_of_ble_eq_true rfl⟩ [.ref (X.B + v2)] kq3 rfl rfl (Nat.le_of_ble_eq_true rfl) (tX4_countContinuations ok.fl X.V v1 v2 G hq3) dX6_commit_88 ?_
  obtain ⟨er, eG⟩ := inj2 h
  subst er; subst eG
  exact j_vret ok rfl dX6_commit_91 hK

def fX6_commit_22 (l0 : Nat) (s0 : Nat) (s1 : Int32) (G : Mem) : Option (Unit × Mem) :=
  (pI G 16 s0 6 s1).bind fun G1 =>
  (gR G1 16 l0 5).bind fun v2 =>
  (gF G1 16 l0 6).bind fun v3 =>
  (gQ G1 7 v2 v3).bind fun v4 =>
  (gR G1 16 l0 5).bind fun v5 =>
  (gF G1 16 l0 6).bind fun v6 =>
  (gR G1 16 l0 3).bind fun v7 =>
  (pQ G1 7 13 v5 v6 v7).bind fun G8 =>
  (gR G8 16 l0 4).bind fun v9 =>
  (pR G8 16 l0 3 v9).bind fun G10 =>
  (pR G10 16 l0 4 v4).bind fun G11 =>
  (gF G11 16 l0 7).bind fun v12 =>
  if (8 : Int32) ≤ v12 then
    fX6_commit_80 l0 G11
  else
    (gF G11 16 l0 7).bind fun v14 =>
    (pI G11 16 l0 7 (v14 + (1 : Int32))).bind fun G15 =>
    fX6_commit_80 l0 G15

set_option maxRecDepth 100000 in
set_option maxHeartbeats 4000000 in
theorem jX6_commit_22 {X : Cx} (ok : OK X cX6_commit RX6 none 2 3 73) (l0 : Nat) (s0 : Nat) (s1 : Int32) (G : Mem) {r : Unit} {G' : Mem} (h : fX6_commit_22 l0 s0 s1 G = some (r, G')) (hK : (finV X) r G') : J X 2 22 [(0, .ref (X.B + l0))] [.int s1, .ref (X.B + s0)] G := by
  unfold fX6_commit_22 at h
  obtain ⟨G1, hG1, h⟩ := obind h
  refine k_putI ok fl_X6_44 fp_X6 rfl (Or.inl rfl) hG1 dX6_commit_22 ?_
  refine j_aload_n ok dX6_commit_25 rfl 0 rfl ?_
  obtain ⟨v2, hv2, h⟩ := obind h
  refine k_getR ok fl_X6_40 hv2 dX6_commit_26 ?_
  refine j_aload_n ok dX6_commit_29 rfl 0 rfl ?_
  obtain ⟨v3, hv3, h⟩ := obind h
  refine k_getI ok fl_X6_44 hv3 dX6_commit_30 ?_
  obtain ⟨v4, hv4, h⟩ := obind h
  refine j_aald ok (Or.inr rfl) hv4 dX6_commit_33 ?_
  refine j_astore_n (L' := [(1, .ref (X.B + v4)), (0, .ref (X.B + l0))]) ok dX6_commit_34 rfl (by decide) rfl ?_
  refine j_aload_n ok dX6_commit_35 rfl 1 rfl ?_
  obtain ⟨v5, hv5, h⟩ := obind h
  refine k_getR ok fl_X6_40 hv5 dX6_commit_36 ?_
  refine j_aload_n ok dX6_commit_39 rfl 1 rfl ?_
  obtain ⟨v6, hv6, h⟩ := obind h
  refine k_getI ok fl_X6_44 hv6 dX6_commit_40 ?_
  refine j_aload_n ok dX6_commit_43 rfl 1 rfl ?_
  obtain ⟨v7, hv7, h⟩ := obind h
  refine k_getR ok fl_X6_33 hv7 dX6_commit_44 ?_
  obtain ⟨G8, hG8, h⟩ := obind h
  refine j_aast ok (r := (RX0, TX0, 0)) (ci := 3) (Or.inr ⟨rfl, rfl, rfl⟩) hG8 dX6_commit_47 ?_
  refine j_aload_n ok dX6_commit_48 rfl 1 rfl ?_
  refine j_aload_n ok dX6_commit_49 rfl 1 rfl ?_
  obtain ⟨v9, hv9, h⟩ := obind h
  refine k_getR ok fl_X6_37 hv9 dX6_commit_50 ?_
  obtain ⟨G10, hG10, h⟩ := obind h
  refine k_putR ok fl_X6_33 fp_X6 rfl (Or.inl ⟨_, rfl⟩) (Or.inl rfl) hG10 dX6_commit_53 ?_
  refine j_aload_n ok dX6_commit_56 rfl 1 rfl ?_
  refine j_aload_n ok dX6_commit_57 rfl 0 rfl ?_
  obtain ⟨G11, hG11, h⟩ := obind h
  refine k_putR ok fl_X6_37 fp_X6 rfl (Or.inl ⟨_, rfl⟩) (Or.inl rfl) hG11 dX6_commit_58 ?_
  refine j_aload_n ok dX6_commit_61 rfl 1 rfl ?_
  obtain ⟨v12, hv12, h⟩ := obind h
  refine k_getI ok fl_X6_48 hv12 dX6_commit_62 ?_
  refine j_bipush (v := 8) ok dX6_commit_65 (by decide) ?_
  rcases ite_some h with ⟨c13, h⟩ | ⟨c13, h⟩
  · refine j_icmp_ge (tgt := 80) ok dX6_commit_67 (by decide) (fun _ => ?_) (fun z => absurd c13 z)
    exact J.sub [1] rfl (jX6_commit_80 ok l0 G11 h hK)
  · refine j_icmp_ge (tgt := 80) ok dX6_commit_67 (by decide) (fun z => absurd z c13) (fun _ => ?_)
    refine j_aload_n ok dX6_commit_70 rfl 1 rfl ?_
    refine j_dup ok dX6_commit_71 rfl ?_
    obtain ⟨v14, hv14, h⟩ := obind h
    refine k_getI ok fl_X6_48 hv14 dX6_commit_72 ?_
    refine j_iconst (v := 1) ok dX6_commit_75 (by decide) ?_
    refine j_iadd ok dX6_commit_76 ?_
    obtain ⟨G15, hG15, h⟩ := obind h
    refine k_putI ok fl_X6_48 fp_X6 rfl (Or.inl rfl) hG15 dX6_commit_77 ?_
    exact J.sub [1] rfl (jX6_commit_80 ok l0 G15 h hK)

def fX6_commit_0 (l0 : Nat)  (G : Mem) : Option (Unit × Mem) :=
  (gF G 16 l0 6).bind fun v1 =>
  if (8 : Int32) ≤ (v1 + (1 : Int32)) then
    fX6_commit_22 l0 l0 (0 : Int32) G
  else
    (gF G 16 l0 6).bind fun v3 =>
    fX6_commit_22 l0 l0 (v3 + (1 : Int32)) G

set_option maxRecDepth 100000 in
set_option maxHeartbeats 4000000 in
theorem jX6_commit_0 {X : Cx} (ok : OK X cX6_commit RX6 none 2 3 73) (l0 : Nat)  (G : Mem) {r : Unit} {G' : Mem} (h : fX6_commit_0 l0 G = some (r, G')) (hK : (finV X) r G') : J X 2 0 [(0, .ref (X.B + l0))] [] G := by
  unfold fX6_commit_0 at h
  refine j_aload_n ok dX6_commit_0 rfl 0 rfl ?_
  refine j_aload_n ok dX6_commit_1 rfl 0 rfl ?_
  obtain ⟨v1, hv1, h⟩ := obind h
  refine k_getI ok fl_X6_44 hv1 dX6_commit_2 ?_
  refine j_iconst (v := 1) ok dX6_commit_5 (by decide) ?_
  refine j_iadd ok dX6_commit_6 ?_
  refine j_bipush (v := 8) ok dX6_commit_7 (by decide) ?_
  rcases ite_some h with ⟨c2, h⟩ | ⟨c2, h⟩
  · refine j_icmp_ge (tgt := 21) ok dX6_commit_9 (by decide) (fun _ => ?_) (fun z => absurd c2 z)
    refine j_iconst (v := 0) ok dX6_commit_21 (by decide) ?_
    exact J.sub [0] rfl (jX6_commit_22 ok l0 l0 (0 : Int32) G h hK)
  · refine j_icmp_ge (tgt := 21) ok dX6_commit_9 (by decide) (fun z => absurd z c2) (fun _ => ?_)
    refine j_aload_n ok dX6_commit_12 rfl 0 rfl ?_
    obtain ⟨v3, hv3, h⟩ := obind h
    refine k_getI ok fl_X6_44 hv3 dX6_commit_13 ?_
    refine j_iconst (v := 1) ok dX6_commit_16 (by decide) ?_
    refine j_iadd ok dX6_commit_17 ?_
    refine j_goto (tgt := 22) ok dX6_commit_18 (by decide) ?_
    exact J.sub [0] rfl (jX6_commit_22 ok l0 l0 (v3 + (1 : Int32)) G h hK)

def fX6_commit (l0 : Nat) (G : Mem) : Option (Unit × Mem) := fX6_commit_0 l0 G
set_option maxRecDepth 100000 in
theorem tX6_commit {l : Launch} (hfl : l.stackTraces = false) (V : Wd) (l0 : Nat) (G : Mem) {r : Unit} {G' : Mem} (h : fX6_commit l0 G = some (r, G')) : Mx l yX6_commit cX6_commit 2 none 3 73 V [.ref (V.B + l0)] G (.inl none) G' :=
  mx_of (L := [(0, .ref (V.B + l0))]) hfl (by decide +kernel) (Nat.le_of_ble_eq_true rfl) rfl (fun X hl hV hin ok he => by
    subst hl; subst hV
    exact J.sub [0] rfl (jX6_commit_0 ok l0 G h he))
def fX6_addNote_0 (l0 : Nat) (l1 : Int32) (l2 : Int32) (l3 : Int32) (l4 : Int32) (l5 : Int32) (l6 : Int32)  (G : Mem) : Option ((Int32 ⊕ Nat) × Mem) :=
  ck G 16 l0 <| (fX6_requireStatable l0 l1 l2 l3 l4 G).bind fun q1 => thr q1.1 (fun v2 =>
    (gR q1.2 16 l0 2).bind fun v3 =>
    ck q1.2 11 v3 <| (fX1_state v3 l1 l2 l3 l4 l5 l6 q1.2).bind fun q4 =>
    ck q4.2 16 l0 <| (fX6_followAsked l0 q4.2).bind fun q5 =>
    if (1 : Int32) ≤ q5.1 then
      ck q5.2 16 l0 <| (fX6_commit l0 q5.2).bind fun q7 =>
      some (.inl q5.1, q7.2)
    else
      thw 1 q5.2) q1.2

set_option maxRecDepth 100000 in
set_option maxHeartbeats 4000000 in
theorem jX6_addNote_0 {X : Cx} (ok : OK X cX6_addNote RX6 (some .int) 8 9 237) (l0 : Nat) (l1 : Int32) (l2 : Int32) (l3 : Int32) (l4 : Int32) (l5 : Int32) (l6 : Int32)  (G : Mem) {r : (Int32 ⊕ Nat)} {G' : Mem} (h : fX6_addNote_0 l0 l1 l2 l3 l4 l5 l6 G = some (r, G')) (hK : (finT X (finI X)) r G') : J X 8 0 [(0, .ref (X.B + l0)), (1, .int l1), (2, .int l2), (3, .int l3), (4, .int l4), (5, .int l5), (6, .int l6)] [] G := by
  unfold fX6_addNote_0 at h
  refine j_aload_n ok dX6_addNote_0 rfl 0 rfl ?_
  refine j_iload_n ok dX6_addNote_1 rfl 1 rfl ?_
  refine j_iload_n ok dX6_addNote_2 rfl 2 rfl ?_
  refine j_iload_n ok dX6_addNote_3 rfl 3 rfl ?_
  refine j_iload ok dX6_addNote_4 4 rfl ?_
  obtain ⟨kq1, h⟩ := ck_some h
  obtain ⟨q1, hq1, h⟩ := obind h
  cases eq1 : q1.1 with
  | inr v2 =>
    rw [eq1] at h; dsimp only [thr] at h
    obtain ⟨er, eG⟩ := inj2 h
    subst er; subst eG
    exact k_VX ok kl_X6_127 ⟨Nat.le_of_ble_eq_true rfl, Nat.le_of_ble_eq_true rfl⟩ [.int l1, .int l2, .int l3, .int l4] kq1 rfl rfl (Nat.le_of_ble_eq_true rfl) (by have z := tX6_requireStatable ok.fl X.V l0 l1 l2 l3 l4 G hq1; rw [eq1] at z; exact z) dX6_addNote_6 hK
  | inl v2 =>
    rw [eq1] at h; dsimp only [thr] at h
    refine k_V0 ok kl_X6_127 ⟨Nat.le_of_ble_eq_true rfl, Nat.le_of_ble_eq_true rfl⟩ [.int l1, .int l2, .int l3, .int l4] kq1 rfl rfl (Nat.le_of_ble_eq_true rfl) (by have z := tX6_requireStatable ok.fl X.V l0 l1 l2 l3 l4 G hq1; rw [eq1] at z; exact z) dX6_addNote_6 ?_
    refine j_aload_n ok dX6_addNote_9 rfl 0 rfl ?_
    obtain ⟨v3, hv3, h⟩ := obind h
    refine k_getR ok fl_X6_26 hv3 dX6_addNote_10 ?_
    refine j_iload_n ok dX6_addNote_13 rfl 1 rfl ?_
    refine j_iload_n ok dX6_addNote_14 rfl 2 rfl ?_
    refine j_iload_n ok dX6_addNote_15 rfl 3 rfl ?_
    refine j_iload ok dX6_addNote_16 4 rfl ?_
    refine j_iload ok dX6_addNote_18 5 rfl ?_
    refine j_iload ok dX6_addNote_20 6 rfl ?_
    obtain ⟨kq4, h⟩ := ck_some h
    obtain ⟨q4, hq4, h⟩ := obind h
    refine k_V0 ok kl_X6_131 ⟨Nat.le_of_ble_eq_true rfl, Nat.le_of_ble_eq_true rfl⟩ [.int l1, .int l2, .int l3, .int l4, .int l5, .int l6] kq4 rfl rfl (Nat.le_of_ble_eq_true rfl) (tX1_state ok.fl X.V v3 l1 l2 l3 l4 l5 l6 q1.2 hq4) dX6_addNote_22 ?_
    refine j_aload_n ok dX6_addNote_25 rfl 0 rfl ?_
    obtain ⟨kq5, h⟩ := ck_some h
    obtain ⟨q5, hq5, h⟩ := obind h
    refine k_V1 ok kl_X6_135 ⟨Nat.le_of_ble_eq_true rfl, Nat.le_of_ble_eq_true rfl⟩ [] kq5 rfl rfl (Nat.le_of_ble_eq_true rfl) (tX6_followAsked ok.fl X.V l0 q4.2 hq5) dX6_addNote_26 ?_
    refine j_istore (L' := [(7, .int q5.1), (0, .ref (X.B + l0)), (1, .int l1), (2, .int l2), (3, .int l3), (4, .int l4), (5, .int l5), (6, .int l6)]) ok dX6_addNote_29 (by decide) rfl ?_
    refine j_iload ok dX6_addNote_31 0 rfl ?_
    refine j_iconst (v := 1) ok dX6_addNote_33 (by decide) ?_
    rcases ite_some h with ⟨c6, h⟩ | ⟨c6, h⟩
    · refine j_icmp_ge (tgt := 47) ok dX6_addNote_34 (by decide) (fun _ => ?_) (fun z => absurd c6 z)
      refine j_aload_n ok dX6_addNote_47 rfl 1 rfl ?_
      obtain ⟨kq7, h⟩ := ck_some h
      obtain ⟨q7, hq7, h⟩ := obind h
      refine k_V0 ok kl_X6_144 ⟨Nat.le_of_ble_eq_true rfl, Nat.le_of_ble_eq_true rfl⟩ [] kq7 rfl rfl (Nat.le_of_ble_eq_true rfl) (tX6_commit ok.fl X.V l0 q5.2 hq7) dX6_addNote_48 ?_
      refine j_iload ok dX6_addNote_51 0 rfl ?_
      obtain ⟨er, eG⟩ := inj2 h
      subst er; subst eG
      exact j_iret ok rfl dX6_addNote_53 hK
    · refine j_icmp_ge (tgt := 47) ok dX6_addNote_34 (by decide) (fun z => absurd z c6) (fun _ => ?_)
      obtain ⟨hcap, h⟩ := thw_some h
      obtain ⟨er, eG⟩ := inj2 h
      subst er; subst eG
      exact k_throw ok kt_X6_139 st_X6_141 dX6_addNote_37 dX6_addNote_40 dX6_addNote_41 dX6_addNote_43 dX6_addNote_46 hcap (by decide) (by decide) (Nat.le_of_ble_eq_true rfl) hK

def fX6_addNote (l0 : Nat) (l1 : Int32) (l2 : Int32) (l3 : Int32) (l4 : Int32) (l5 : Int32) (l6 : Int32) (G : Mem) : Option ((Int32 ⊕ Nat) × Mem) := fX6_addNote_0 l0 l1 l2 l3 l4 l5 l6 G
set_option maxRecDepth 100000 in
theorem tX6_addNote {l : Launch} (hfl : l.stackTraces = false) (V : Wd) (l0 : Nat) (l1 : Int32) (l2 : Int32) (l3 : Int32) (l4 : Int32) (l5 : Int32) (l6 : Int32) (G : Mem) {r : (Int32 ⊕ Nat)} {G' : Mem} (h : fX6_addNote l0 l1 l2 l3 l4 l5 l6 G = some (r, G')) : Mx l yX6_addNote cX6_addNote 8 (some .int) 9 237 V [.ref (V.B + l0), .int l1, .int l2, .int l3, .int l4, .int l5, .int l6] G (rzI r) G' :=
  mx_of (L := [(0, .ref (V.B + l0)), (1, .int l1), (2, .int l2), (3, .int l3), (4, .int l4), (5, .int l5), (6, .int l6)]) hfl (by decide +kernel) (Nat.le_of_ble_eq_true rfl) rfl (fun X hl hV hin ok he => by
    subst hl; subst hV
    exact J.sub [0, 1, 2, 3, 4, 5, 6] rfl (jX6_addNote_0 ok l0 l1 l2 l3 l4 l5 l6 G h (by cases r <;> exact he)))
def fX6_append_0 (l0 : Nat) (l1 : Int32) (l2 : Int32) (l3 : Int32) (l4 : Int32) (l5 : Int32)  (G : Mem) : Option (Int32 × Mem) :=
  (gR G 16 l0 0).bind fun v1 =>
  (gR G 12 v1 0).bind fun v2 =>
  ck G 15 v2 <| (fX5_hasRoom v2 G).bind fun q3 =>
  if q3.1 = (0 : Int32) then
    some ((-1 : Int32), q3.2)
  else
    ck q3.2 15 v2 <| (fX5_put v2 l1 q3.2).bind fun q5 =>
    ck q5.2 15 v2 <| (fX5_put v2 l2 q5.2).bind fun q6 =>
    ck q6.2 15 v2 <| (fX5_put v2 l3 q6.2).bind fun q7 =>
    ck q7.2 15 v2 <| (fX5_put v2 l4 q7.2).bind fun q8 =>
    ck q8.2 15 v2 <| (fX5_put v2 l5 q8.2).bind fun q9 =>
    (gF q9.2 15 v2 0).bind fun v10 =>
    some (v10, q9.2)

set_option maxRecDepth 100000 in
set_option maxHeartbeats 4000000 in
theorem jX6_append_0 {X : Cx} (ok : OK X cX6_append RX6 (some .int) 7 1 22) (l0 : Nat) (l1 : Int32) (l2 : Int32) (l3 : Int32) (l4 : Int32) (l5 : Int32)  (G : Mem) {r : Int32} {G' : Mem} (h : fX6_append_0 l0 l1 l2 l3 l4 l5 G = some (r, G')) (hK : (finI X) r G') : J X 7 0 [(0, .ref (X.B + l0)), (1, .int l1), (2, .int l2), (3, .int l3), (4, .int l4), (5, .int l5)] [] G := by
  unfold fX6_append_0 at h
  refine j_aload_n ok dX6_append_0 rfl 0 rfl ?_
  obtain ⟨v1, hv1, h⟩ := obind h
  refine k_getR ok fl_X6_12 hv1 dX6_append_1 ?_
  obtain ⟨v2, hv2, h⟩ := obind h
  refine k_getR ok fl_X6_68 hv2 dX6_append_4 ?_
  refine j_astore (L' := [(6, .ref (X.B + v2)), (0, .ref (X.B + l0)), (1, .int l1), (2, .int l2), (3, .int l3), (4, .int l4), (5, .int l5)]) ok dX6_append_7 (by decide) rfl ?_
  refine j_aload ok dX6_append_9 0 rfl ?_
  obtain ⟨kq3, h⟩ := ck_some h
  obtain ⟨q3, hq3, h⟩ := obind h
  refine k_V1 ok kl_X6_72 ⟨Nat.le_of_ble_eq_true rfl, Nat.le_of_ble_eq_true rfl⟩ [] kq3 rfl rfl (Nat.le_of_ble_eq_true rfl) (tX5_hasRoom ok.fl X.V v2 G hq3) dX6_append_11 ?_
  rcases ite_some h with ⟨c4, h⟩ | ⟨c4, h⟩
  · refine j_if_ne (tgt := 19) ok dX6_append_14 (by decide) (fun z => absurd c4 z) (fun _ => ?_)
    refine j_iconst (v := -1) ok dX6_append_17 (by decide) ?_
    obtain ⟨er, eG⟩ := inj2 h
    subst er; subst eG
    exact j_iret ok rfl dX6_append_18 hK
  · refine j_if_ne (tgt := 19) ok dX6_append_14 (by decide) (fun _ => ?_) (fun z => absurd z c4)
    refine j_aload ok dX6_append_19 0 rfl ?_
    refine j_iload_n ok dX6_append_21 rfl 2 rfl ?_
    obtain ⟨kq5, h⟩ := ck_some h
    obtain ⟨q5, hq5, h⟩ := obind h
    refine k_V0 ok kl_X6_78 ⟨Nat.le_of_ble_eq_true rfl, Nat.le_of_ble_eq_true rfl⟩ [.int l1] kq5 rfl rfl (Nat.le_of_ble_eq_true rfl) (tX5_put ok.fl X.V v2 l1 q3.2 hq5) dX6_append_22 ?_
    refine j_aload ok dX6_append_25 0 rfl ?_
    refine j_iload_n ok dX6_append_27 rfl 3 rfl ?_
    obtain ⟨kq6, h⟩ := ck_some h
    obtain ⟨q6, hq6, h⟩ := obind h
    refine k_V0 ok kl_X6_78 ⟨Nat.le_of_ble_eq_true rfl, Nat.le_of_ble_eq_true rfl⟩ [.int l2] kq6 rfl rfl (Nat.le_of_ble_eq_true rfl) (tX5_put ok.fl X.V v2 l2 q5.2 hq6) dX6_append_28 ?_
    refine j_aload ok dX6_append_31 0 rfl ?_
    refine j_iload_n ok dX6_append_33 rfl 4 rfl ?_
    obtain ⟨kq7, h⟩ := ck_some h
    obtain ⟨q7, hq7, h⟩ := obind h
    refine k_V0 ok kl_X6_78 ⟨Nat.le_of_ble_eq_true rfl, Nat.le_of_ble_eq_true rfl⟩ [.int l3] kq7 rfl rfl (Nat.le_of_ble_eq_true rfl) (tX5_put ok.fl X.V v2 l3 q6.2 hq7) dX6_append_34 ?_
    refine j_aload ok dX6_append_37 0 rfl ?_
    refine j_iload ok dX6_append_39 5 rfl ?_
    obtain ⟨kq8, h⟩ := ck_some h
    obtain ⟨q8, hq8, h⟩ := obind h
    refine k_V0 ok kl_X6_78 ⟨Nat.le_of_ble_eq_true rfl, Nat.le_of_ble_eq_true rfl⟩ [.int l4] kq8 rfl rfl (Nat.le_of_ble_eq_true rfl) (tX5_put ok.fl X.V v2 l4 q7.2 hq8) dX6_append_41 ?_
    refine j_aload ok dX6_append_44 0 rfl ?_
    refine j_iload ok dX6_append_46 6 rfl ?_
    obtain ⟨kq9, h⟩ := ck_some h
    obtain ⟨q9, hq9, h⟩ := obind h
    refine k_V0 ok kl_X6_78 ⟨Nat.le_of_ble_eq_true rfl, Nat.le_of_ble_eq_true rfl⟩ [.int l5] kq9 rfl rfl (Nat.le_of_ble_eq_true rfl) (tX5_put ok.fl X.V v2 l5 q8.2 hq9) dX6_append_48 ?_
    refine j_aload ok dX6_append_51 0 rfl ?_
    obtain ⟨v10, hv10, h⟩ := obind h
    refine k_getI ok fl_X6_82 hv10 dX6_append_53 ?_
    obtain ⟨er, eG⟩ := inj2 h
    subst er; subst eG
    exact j_iret ok rfl dX6_append_56 hK

def fX6_append (l0 : Nat) (l1 : Int32) (l2 : Int32) (l3 : Int32) (l4 : Int32) (l5 : Int32) (G : Mem) : Option (Int32 × Mem) := fX6_append_0 l0 l1 l2 l3 l4 l5 G
set_option maxRecDepth 100000 in
theorem tX6_append {l : Launch} (hfl : l.stackTraces = false) (V : Wd) (l0 : Nat) (l1 : Int32) (l2 : Int32) (l3 : Int32) (l4 : Int32) (l5 : Int32) (G : Mem) {r : Int32} {G' : Mem} (h : fX6_append l0 l1 l2 l3 l4 l5 G = some (r, G')) : Mx l yX6_append cX6_append 7 (some .int) 1 22 V [.ref (V.B + l0), .int l1, .int l2, .int l3, .int l4, .int l5] G (.inl (some (.int r))) G' :=
  mx_of (L := [(0, .ref (V.B + l0)), (1, .int l1), (2, .int l2), (3, .int l3), (4, .int l4), (5, .int l5)]) hfl (by decide +kernel) (Nat.le_of_ble_eq_true rfl) rfl (fun X hl hV hin ok he => by
    subst hl; subst hV
    exact J.sub [0, 1, 2, 3, 4, 5] rfl (jX6_append_0 ok l0 l1 l2 l3 l4 l5 G h he))
def fX6_areKingsInOrder_27   (G : Mem) : Option (Int32 × Mem) :=
  some ((0 : Int32), G)

set_option maxRecDepth 100000 in
set_option maxHeartbeats 4000000 in
theorem jX6_areKingsInOrder_27 {X : Cx} (ok : OK X cX6_areKingsInOrder RX6 (some .boolean) 3 2 48)   (G : Mem) {r : Int32} {G' : Mem} (h : fX6_areKingsInOrder_27  G = some (r, G')) (hK : (finI X) r G') : J X 3 27 [] [] G := by
  unfold fX6_areKingsInOrder_27 at h
  refine j_iconst (v := 0) ok dX6_areKingsInOrder_27 (by decide) ?_
  obtain ⟨er, eG⟩ := inj2 h
  subst er; subst eG
  exact j_zret ok rfl (Or.inl rfl) dX6_areKingsInOrder_28 hK

def fX6_areKingsInOrder_76  (s0 : Int32) (G : Mem) : Option (Int32 × Mem) :=
  rz s0 <|
  some (s0, G)

set_option maxRecDepth 100000 in
set_option maxHeartbeats 4000000 in
theorem jX6_areKingsInOrder_76 {X : Cx} (ok : OK X cX6_areKingsInOrder RX6 (some .boolean) 3 2 48)  (s0 : Int32) (G : Mem) {r : Int32} {G' : Mem} (h : fX6_areKingsInOrder_76 s0 G = some (r, G')) (hK : (finI X) r G') : J X 3 76 [] [.int s0] G := by
  unfold fX6_areKingsInOrder_76 at h
  obtain ⟨hz1, h⟩ := rz_some h
  obtain ⟨er, eG⟩ := inj2 h
  subst er; subst eG
  exact j_zret ok rfl hz1 dX6_areKingsInOrder_76 hK

def fX6_areKingsInOrder_0 (l0 : Nat)  (G : Mem) : Option (Int32 × Mem) :=
  (gR G 16 l0 3).bind fun v1 =>
  (gR G 13 v1 0).bind fun v2 =>
  ck G 10 v2 <| (fX0_count v2 (1 : Int32) G).bind fun q3 =>
  if q3.1 = (1 : Int32) then
    ck q3.2 10 v2 <| (fX0_count v2 (9 : Int32) q3.2).bind fun q5 =>
    if q5.1 = (1 : Int32) then
      (gR q5.2 16 l0 3).bind fun v7 =>
      (gF q5.2 13 v7 1).bind fun v8 =>
      if v8 = (0 : Int32) then
        some ((1 : Int32), q5.2)
      else
        (gR q5.2 16 l0 3).bind fun v10 =>
        (gR q5.2 16 l0 3).bind fun v11 =>
        (gF q5.2 13 v11 1).bind fun v12 =>
        ck q5.2 13 v10 <| (fX3_mover v10 v12 q5.2).bind fun q13 =>
        ck q13.2 10 v2 <| (fX0_kingPlace v2 ((1 : Int32) - q13.1) q13.2).bind fun q14 =>
        ck q14.2 10 v2 <| (fX0_isReached v2 q14.1 q13.1 q14.2).bind fun q15 =>
        if q15.1 = (0 : Int32) then
          fX6_areKingsInOrder_76 (1 : Int32) q15.2
        else
          fX6_areKingsInOrder_76 (0 : Int32) q15.2
    else
      fX6_areKingsInOrder_27 q5.2
  else
    fX6_areKingsInOrder_27 q3.2

set_option maxRecDepth 100000 in
set_option maxHeartbeats 4000000 in
theorem jX6_areKingsInOrder_0 {X : Cx} (ok : OK X cX6_areKingsInOrder RX6 (some .boolean) 3 2 48) (l0 : Nat)  (G : Mem) {r : Int32} {G' : Mem} (h : fX6_areKingsInOrder_0 l0 G = some (r, G')) (hK : (finI X) r G') : J X 3 0 [(0, .ref (X.B + l0))] [] G := by
  unfold fX6_areKingsInOrder_0 at h
  refine j_aload_n ok dX6_areKingsInOrder_0 rfl 0 rfl ?_
  obtain ⟨v1, hv1, h⟩ := obind h
  refine k_getR ok fl_X6_33 hv1 dX6_areKingsInOrder_1 ?_
  obtain ⟨v2, hv2, h⟩ := obind h
  refine k_getR ok fl_X6_95 hv2 dX6_areKingsInOrder_4 ?_
  refine j_astore_n (L' := [(1, .ref (X.B + v2)), (0, .ref (X.B + l0))]) ok dX6_areKingsInOrder_7 rfl (by decide) rfl ?_
  refine j_aload_n ok dX6_areKingsInOrder_8 rfl 0 rfl ?_
  refine j_iconst (v := 1) ok dX6_areKingsInOrder_9 (by decide) ?_
  obtain ⟨kq3, h⟩ := ck_some h
  obtain ⟨q3, hq3, h⟩ := obind h
  refine k_V1 ok kl_X6_368 ⟨Nat.le_of_ble_eq_true rfl, Nat.le_of_ble_eq_true rfl⟩ [.int (1 : Int32)] kq3 rfl rfl (Nat.le_of_ble_eq_true rfl) (tX0_count ok.fl X.V v2 (1 : Int32) G hq3) dX6_areKingsInOrder_10 ?_
  refine j_iconst (v := 1) ok dX6_areKingsInOrder_13 (by decide) ?_
  rcases ite_some h with ⟨c4, h⟩ | ⟨c4, h⟩
  · refine j_icmp_ne (tgt := 27) ok dX6_areKingsInOrder_14 (by decide) (fun z => absurd c4 z) (fun _ => ?_)
    refine j_aload_n ok dX6_areKingsInOrder_17 rfl 0 rfl ?_
    refine j_bipush (v := 9) ok dX6_areKingsInOrder_18 (by decide) ?_
    obtain ⟨kq5, h⟩ := ck_some h
    obtain ⟨q5, hq5, h⟩ := obind h
    refine k_V1 ok kl_X6_368 ⟨Nat.le_of_ble_eq_true rfl, Nat.le_of_ble_eq_true rfl⟩ [.int (9 : Int32)] kq5 rfl rfl (Nat.le_of_ble_eq_true rfl) (tX0_count ok.fl X.V v2 (9 : Int32) q3.2 hq5) dX6_areKingsInOrder_20 ?_
    refine j_iconst (v := 1) ok dX6_areKingsInOrder_23 (by decide) ?_
    rcases ite_some h with ⟨c6, h⟩ | ⟨c6, h⟩
    · refine j_icmp_eq (tgt := 29) ok dX6_areKingsInOrder_24 (by decide) (fun _ => ?_) (fun z => absurd c6 z)
      refine j_aload_n ok dX6_areKingsInOrder_29 rfl 1 rfl ?_
      obtain ⟨v7, hv7, h⟩ := obind h
      refine k_getR ok fl_X6_33 hv7 dX6_areKingsInOrder_30 ?_
      obtain ⟨v8, hv8, h⟩ := obind h
      refine k_getI ok fl_X6_174 hv8 dX6_areKingsInOrder_33 ?_
      rcases ite_some h with ⟨c9, h⟩ | ⟨c9, h⟩
      · refine j_if_ne (tgt := 41) ok dX6_areKingsInOrder_36 (by decide) (fun z => absurd c9 z) (fun _ => ?_)
        refine j_iconst (v := 1) ok dX6_areKingsInOrder_39 (by decide) ?_
        obtain ⟨er, eG⟩ := inj2 h
        subst er; subst eG
        exact j_zret ok rfl (Or.inr rfl) dX6_areKingsInOrder_40 hK
      · refine j_if_ne (tgt := 41) ok dX6_areKingsInOrder_36 (by decide) (fun _ => ?_) (fun z => absurd z c9)
        refine j_aload_n ok dX6_areKingsInOrder_41 rfl 1 rfl ?_
        obtain ⟨v10, hv10, h⟩ := obind h
        refine k_getR ok fl_X6_33 hv10 dX6_areKingsInOrder_42 ?_
        refine j_aload_n ok dX6_areKingsInOrder_45 rfl 1 rfl ?_
        obtain ⟨v11, hv11, h⟩ := obind h
        refine k_getR ok fl_X6_33 hv11 dX6_areKingsInOrder_46 ?_
        obtain ⟨v12, hv12, h⟩ := obind h
        refine k_getI ok fl_X6_174 hv12 dX6_areKingsInOrder_49 ?_
        obtain ⟨kq13, h⟩ := ck_some h
        obtain ⟨q13, hq13, h⟩ := obind h
        refine k_V1 ok kl_X6_189 ⟨Nat.le_of_ble_eq_true rfl, Nat.le_of_ble_eq_true rfl⟩ [.int v12] kq13 rfl rfl (Nat.le_of_ble_eq_true rfl) (tX3_mover ok.fl X.V v10 v12 q5.2 hq13) dX6_areKingsInOrder_52 ?_
        refine j_istore_n (L' := [(2, .int q13.1), (1, .ref (X.B + v2)), (0, .ref (X.B + l0))]) ok dX6_areKingsInOrder_55 rfl (by decide) rfl ?_
        refine j_aload_n ok dX6_areKingsInOrder_56 rfl 1 rfl ?_
        refine j_aload_n ok dX6_areKingsInOrder_57 rfl 1 rfl ?_
        refine j_iconst (v := 1) ok dX6_areKingsInOrder_58 (by decide) ?_
        refine j_iload_n ok dX6_areKingsInOrder_59 rfl 0 rfl ?_
        refine j_isub ok dX6_areKingsInOrder_60 ?_
        obtain ⟨kq14, h⟩ := ck_some h
        obtain ⟨q14, hq14, h⟩ := obind h
        refine k_V1 ok kl_X6_371 ⟨Nat.le_of_ble_eq_true rfl, Nat.le_of_ble_eq_true rfl⟩ [.int ((1 : Int32) - q13.1)] kq14 rfl rfl (Nat.le_of_ble_eq_true rfl) (tX0_kingPlace ok.fl X.V v2 ((1 : Int32) - q13.1) q13.2 hq14) dX6_areKingsInOrder_61 ?_
        refine j_iload_n ok dX6_areKingsInOrder_64 rfl 0 rfl ?_
        obtain ⟨kq15, h⟩ := ck_some h
        obtain ⟨q15, hq15, h⟩ := obind h
        refine k_V1 ok kl_X6_253 ⟨Nat.le_of_ble_eq_true rfl, Nat.le_of_ble_eq_true rfl⟩ [.int q14.1, .int q13.1] kq15 rfl rfl (Nat.le_of_ble_eq_true rfl) (tX0_isReached ok.fl X.V v2 q14.1 q13.1 q14.2 hq15) dX6_areKingsInOrder_65 ?_
        rcases ite_some h with ⟨c16, h⟩ | ⟨c16, h⟩
        · refine j_if_ne (tgt := 75) ok dX6_areKingsInOrder_68 (by decide) (fun z => absurd c16 z) (fun _ => ?_)
          refine j_iconst (v := 1) ok dX6_areKingsInOrder_71 (by decide) ?_
          refine j_goto (tgt := 76) ok dX6_areKingsInOrder_72 (by decide) ?_
          exact J.sub [] rfl (jX6_areKingsInOrder_76 ok (1 : Int32) q15.2 h hK)
        · refine j_if_ne (tgt := 75) ok dX6_areKingsInOrder_68 (by decide) (fun _ => ?_) (fun z => absurd z c16)
          refine j_iconst (v := 0) ok dX6_areKingsInOrder_75 (by decide) ?_
          exact J.sub [] rfl (jX6_areKingsInOrder_76 ok (0 : Int32) q15.2 h hK)
    · refine j_icmp_eq (tgt := 29) ok dX6_areKingsInOrder_24 (by decide) (fun z => absurd z c6) (fun _ => ?_)
      exact J.sub [] rfl (jX6_areKingsInOrder_27 ok q5.2 h hK)
  · refine j_icmp_ne (tgt := 27) ok dX6_areKingsInOrder_14 (by decide) (fun _ => ?_) (fun z => absurd z c4)
    exact J.sub [] rfl (jX6_areKingsInOrder_27 ok q3.2 h hK)

def fX6_areKingsInOrder (l0 : Nat) (G : Mem) : Option (Int32 × Mem) := fX6_areKingsInOrder_0 l0 G
set_option maxRecDepth 100000 in
theorem tX6_areKingsInOrder {l : Launch} (hfl : l.stackTraces = false) (V : Wd) (l0 : Nat) (G : Mem) {r : Int32} {G' : Mem} (h : fX6_areKingsInOrder l0 G = some (r, G')) : Mx l yX6_areKingsInOrder cX6_areKingsInOrder 3 (some .boolean) 2 48 V [.ref (V.B + l0)] G (.inl (some (.int r))) G' :=
  mx_of (L := [(0, .ref (V.B + l0))]) hfl (by decide +kernel) (Nat.le_of_ble_eq_true rfl) rfl (fun X hl hV hin ok he => by
    subst hl; subst hV
    exact J.sub [0] rfl (jX6_areKingsInOrder_0 ok l0 G h he))
def fX6_requireNote_15   (G : Mem) : Option ((Unit ⊕ Nat) × Mem) :=
  thw 2 G

set_option maxRecDepth 100000 in
set_option maxHeartbeats 4000000 in
theorem jX6_requireNote_15 {X : Cx} (ok : OK X cX6_requireNote RX6 none 2 8 160)   (G : Mem) {r : (Unit ⊕ Nat)} {G' : Mem} (h : fX6_requireNote_15  G = some (r, G')) (hK : (finT X (finV X)) r G') : J X 2 15 [] [] G := by
  unfold fX6_requireNote_15 at h
  obtain ⟨hcap, h⟩ := thw_some h
  obtain ⟨er, eG⟩ := inj2 h
  subst er; subst eG
  exact k_throwW ok kt_X6_319 st_X6_321 dX6_requireNote_15 dX6_requireNote_18 dX6_requireNote_19 dX6_requireNote_22 dX6_requireNote_25 hcap (by decide) (by decide) (Nat.le_of_ble_eq_true rfl) hK

def fX6_requireNote_0 (l0 : Nat) (l1 : Int32)  (G : Mem) : Option ((Unit ⊕ Nat) × Mem) :=
  if l1 < (0 : Int32) then
    fX6_requireNote_15 G
  else
    (gR G 16 l0 3).bind fun v2 =>
    (gF G 13 v2 1).bind fun v3 =>
    if l1 < v3 then
      some (.inl (), G)
    else
      fX6_requireNote_15 G

set_option maxRecDepth 100000 in
set_option maxHeartbeats 4000000 in
theorem jX6_requireNote_0 {X : Cx} (ok : OK X cX6_requireNote RX6 none 2 8 160) (l0 : Nat) (l1 : Int32)  (G : Mem) {r : (Unit ⊕ Nat)} {G' : Mem} (h : fX6_requireNote_0 l0 l1 G = some (r, G')) (hK : (finT X (finV X)) r G') : J X 2 0 [(0, .ref (X.B + l0)), (1, .int l1)] [] G := by
  unfold fX6_requireNote_0 at h
  refine j_iload_n ok dX6_requireNote_0 rfl 1 rfl ?_
  rcases ite_some h with ⟨c1, h⟩ | ⟨c1, h⟩
  · refine j_if_lt (tgt := 15) ok dX6_requireNote_1 (by decide) (fun _ => ?_) (fun z => absurd c1 z)
    exact J.sub [] rfl (jX6_requireNote_15 ok G h hK)
  · refine j_if_lt (tgt := 15) ok dX6_requireNote_1 (by decide) (fun z => absurd z c1) (fun _ => ?_)
    refine j_iload_n ok dX6_requireNote_4 rfl 1 rfl ?_
    refine j_aload_n ok dX6_requireNote_5 rfl 0 rfl ?_
    obtain ⟨v2, hv2, h⟩ := obind h
    refine k_getR ok fl_X6_33 hv2 dX6_requireNote_6 ?_
    obtain ⟨v3, hv3, h⟩ := obind h
    refine k_getI ok fl_X6_174 hv3 dX6_requireNote_9 ?_
    rcases ite_some h with ⟨c4, h⟩ | ⟨c4, h⟩
    · refine j_icmp_lt (tgt := 26) ok dX6_requireNote_12 (by decide) (fun _ => ?_) (fun z => absurd c4 z)
      obtain ⟨er, eG⟩ := inj2 h
      subst er; subst eG
      exact j_vret ok rfl dX6_requireNote_26 hK
    · refine j_icmp_lt (tgt := 26) ok dX6_requireNote_12 (by decide) (fun z => absurd z c4) (fun _ => ?_)
      exact J.sub [] rfl (jX6_requireNote_15 ok G h hK)

def fX6_requireNote (l0 : Nat) (l1 : Int32) (G : Mem) : Option ((Unit ⊕ Nat) × Mem) := fX6_requireNote_0 l0 l1 G
set_option maxRecDepth 100000 in
theorem tX6_requireNote {l : Launch} (hfl : l.stackTraces = false) (V : Wd) (l0 : Nat) (l1 : Int32) (G : Mem) {r : (Unit ⊕ Nat)} {G' : Mem} (h : fX6_requireNote l0 l1 G = some (r, G')) : Mx l yX6_requireNote cX6_requireNote 2 none 8 160 V [.ref (V.B + l0), .int l1] G (rzV r) G' :=
  mx_of (L := [(0, .ref (V.B + l0)), (1, .int l1)]) hfl (by decide +kernel) (Nat.le_of_ble_eq_true rfl) rfl (fun X hl hV hin ok he => by
    subst hl; subst hV
    exact J.sub [0, 1] rfl (jX6_requireNote_0 ok l0 l1 G h (by cases r <;> exact he)))
def fX6_clarify_39   (G : Mem) : Option ((Int32 ⊕ Nat) × Mem) :=
  thw 0 G

set_option maxRecDepth 100000 in
set_option maxHeartbeats 4000000 in
theorem jX6_clarify_39 {X : Cx} (ok : OK X cX6_clarify RX6 (some .int) 5 9 217)   (G : Mem) {r : (Int32 ⊕ Nat)} {G' : Mem} (h : fX6_clarify_39  G = some (r, G')) (hK : (finT X (finI X)) r G') : J X 5 39 [] [] G := by
  unfold fX6_clarify_39 at h
  obtain ⟨hcap, h⟩ := thw_some h
  obtain ⟨er, eG⟩ := inj2 h
  subst er; subst eG
  exact k_throw ok kt_X6_85 st_X6_162 dX6_clarify_39 dX6_clarify_42 dX6_clarify_43 dX6_clarify_45 dX6_clarify_48 hcap (by decide) (by decide) (Nat.le_of_ble_eq_true rfl) hK

def fX6_clarify_0 (l0 : Nat) (l1 : Int32) (l2 : Int32) (l3 : Int32)  (G : Mem) : Option ((Int32 ⊕ Nat) × Mem) :=
  ck G 16 l0 <| (fX6_requireNote l0 l1 G).bind fun q1 => thr q1.1 (fun v2 =>
    (gR q1.2 16 l0 3).bind fun v3 =>
    (gR q1.2 13 v3 0).bind fun v4 =>
    (gF q1.2 10 v4 0).bind fun v5 =>
    (fX6_isOpenOrBelow l2 v5 q1.2).bind fun q6 =>
    if q6.1 = (0 : Int32) then
      fX6_clarify_39 q6.2
    else
      (gR q6.2 16 l0 3).bind fun v8 =>
      (gR q6.2 13 v8 0).bind fun v9 =>
      (gF q6.2 10 v9 1).bind fun v10 =>
      (fX6_isOpenOrBelow l3 v10 q6.2).bind fun q11 =>
      if q11.1 = (0 : Int32) then
        fX6_clarify_39 q11.2
      else
        (gR q11.2 16 l0 4).bind fun v13 =>
        (gR q11.2 16 l0 3).bind fun v14 =>
        ck q11.2 13 v13 <| (fX3_copyFrom v13 v14 q11.2).bind fun q15 =>
        (gR q15.2 16 l0 4).bind fun v16 =>
        ck q15.2 13 v16 <| (fX3_setOrigin v16 l1 l2 l3 q15.2).bind fun q17 =>
        (gR q17.2 16 l0 4).bind fun v18 =>
        ck q17.2 13 v18 <| (fX3_follow v18 l1 q17.2).bind fun q19 =>
        if (1 : Int32) ≤ q19.1 then
          ck q19.2 16 l0 <| (fX6_commit l0 q19.2).bind fun q21 =>
          some (.inl q19.1, q21.2)
        else
          thw 1 q19.2) q1.2

set_option maxRecDepth 100000 in
set_option maxHeartbeats 4000000 in
theorem jX6_clarify_0 {X : Cx} (ok : OK X cX6_clarify RX6 (some .int) 5 9 217) (l0 : Nat) (l1 : Int32) (l2 : Int32) (l3 : Int32)  (G : Mem) {r : (Int32 ⊕ Nat)} {G' : Mem} (h : fX6_clarify_0 l0 l1 l2 l3 G = some (r, G')) (hK : (finT X (finI X)) r G') : J X 5 0 [(0, .ref (X.B + l0)), (1, .int l1), (2, .int l2), (3, .int l3)] [] G := by
  unfold fX6_clarify_0 at h
  refine j_aload_n ok dX6_clarify_0 rfl 0 rfl ?_
  refine j_iload_n ok dX6_clarify_1 rfl 1 rfl ?_
  obtain ⟨kq1, h⟩ := ck_some h
  obtain ⟨q1, hq1, h⟩ := obind h
  cases eq1 : q1.1 with
  | inr v2 =>
    rw [eq1] at h; dsimp only [thr] at h
    obtain ⟨er, eG⟩ := inj2 h
    subst er; subst eG
    exact k_VX ok kl_X6_147 ⟨Nat.le_of_ble_eq_true rfl, Nat.le_of_ble_eq_true rfl⟩ [.int l1] kq1 rfl rfl (Nat.le_of_ble_eq_true rfl) (by have z := tX6_requireNote ok.fl X.V l0 l1 G hq1; rw [eq1] at z; exact z) dX6_clarify_2 hK
  | inl v2 =>
    rw [eq1] at h; dsimp only [thr] at h
    refine k_V0 ok kl_X6_147 ⟨Nat.le_of_ble_eq_true rfl, Nat.le_of_ble_eq_true rfl⟩ [.int l1] kq1 rfl rfl (Nat.le_of_ble_eq_true rfl) (by have z := tX6_requireNote ok.fl X.V l0 l1 G hq1; rw [eq1] at z; exact z) dX6_clarify_2 ?_
    refine j_iload_n ok dX6_clarify_5 rfl 2 rfl ?_
    refine j_aload_n ok dX6_clarify_6 rfl 0 rfl ?_
    obtain ⟨v3, hv3, h⟩ := obind h
    refine k_getR ok fl_X6_33 hv3 dX6_clarify_7 ?_
    obtain ⟨v4, hv4, h⟩ := obind h
    refine k_getR ok fl_X6_95 hv4 dX6_clarify_10 ?_
    obtain ⟨v5, hv5, h⟩ := obind h
    refine k_getI ok fl_X6_150 hv5 dX6_clarify_13 ?_
    obtain ⟨q6, hq6, h⟩ := obind h
    refine k_S1 ok kl_X6_155 ⟨Nat.le_of_ble_eq_true rfl, Nat.le_of_ble_eq_true rfl⟩ [.int l2, .int v5] rfl rfl (Nat.le_of_ble_eq_true rfl) (tX6_isOpenOrBelow ok.fl X.V l2 v5 q1.2 hq6) dX6_clarify_16 ?_
    rcases ite_some h with ⟨c7, h⟩ | ⟨c7, h⟩
    · refine j_if_eq (tgt := 39) ok dX6_clarify_19 (by decide) (fun _ => ?_) (fun z => absurd c7 z)
      exact J.sub [] rfl (jX6_clarify_39 ok q6.2 h hK)
    · refine j_if_eq (tgt := 39) ok dX6_clarify_19 (by decide) (fun z => absurd z c7) (fun _ => ?_)
      refine j_iload_n ok dX6_clarify_22 rfl 3 rfl ?_
      refine j_aload_n ok dX6_clarify_23 rfl 0 rfl ?_
      obtain ⟨v8, hv8, h⟩ := obind h
      refine k_getR ok fl_X6_33 hv8 dX6_clarify_24 ?_
      obtain ⟨v9, hv9, h⟩ := obind h
      refine k_getR ok fl_X6_95 hv9 dX6_clarify_27 ?_
      obtain ⟨v10, hv10, h⟩ := obind h
      refine k_getI ok fl_X6_159 hv10 dX6_clarify_30 ?_
      obtain ⟨q11, hq11, h⟩ := obind h
      refine k_S1 ok kl_X6_155 ⟨Nat.le_of_ble_eq_true rfl, Nat.le_of_ble_eq_true rfl⟩ [.int l3, .int v10] rfl rfl (Nat.le_of_ble_eq_true rfl) (tX6_isOpenOrBelow ok.fl X.V l3 v10 q6.2 hq11) dX6_clarify_33 ?_
      rcases ite_some h with ⟨c12, h⟩ | ⟨c12, h⟩
      · refine j_if_ne (tgt := 49) ok dX6_clarify_36 (by decide) (fun z => absurd c12 z) (fun _ => ?_)
        exact J.sub [] rfl (jX6_clarify_39 ok q11.2 h hK)
      · refine j_if_ne (tgt := 49) ok dX6_clarify_36 (by decide) (fun _ => ?_) (fun z => absurd z c12)
        refine j_aload_n ok dX6_clarify_49 rfl 0 rfl ?_
        obtain ⟨v13, hv13, h⟩ := obind h
        refine k_getR ok fl_X6_37 hv13 dX6_clarify_50 ?_
        refine j_aload_n ok dX6_clarify_53 rfl 0 rfl ?_
        obtain ⟨v14, hv14, h⟩ := obind h
        refine k_getR ok fl_X6_33 hv14 dX6_clarify_54 ?_
        obtain ⟨kq15, h⟩ := ck_some h
        obtain ⟨q15, hq15, h⟩ := obind h
        refine k_V0 ok kl_X6_114 ⟨Nat.le_of_ble_eq_true rfl, Nat.le_of_ble_eq_true rfl⟩ [.ref (X.B + v14)] kq15 rfl rfl (Nat.le_of_ble_eq_true rfl) (tX3_copyFrom ok.fl X.V v13 v14 q11.2 hq15) dX6_clarify_57 ?_
        refine j_aload_n ok dX6_clarify_60 rfl 0 rfl ?_
        obtain ⟨v16, hv16, h⟩ := obind h
        refine k_getR ok fl_X6_37 hv16 dX6_clarify_61 ?_
        refine j_iload_n ok dX6_clarify_64 rfl 1 rfl ?_
        refine j_iload_n ok dX6_clarify_65 rfl 2 rfl ?_
        refine j_iload_n ok dX6_clarify_66 rfl 3 rfl ?_
        obtain ⟨kq17, h⟩ := ck_some h
        obtain ⟨q17, hq17, h⟩ := obind h
        refine k_V0 ok kl_X6_164 ⟨Nat.le_of_ble_eq_true rfl, Nat.le_of_ble_eq_true rfl⟩ [.int l1, .int l2, .int l3] kq17 rfl rfl (Nat.le_of_ble_eq_true rfl) (tX3_setOrigin ok.fl X.V v16 l1 l2 l3 q15.2 hq17) dX6_clarify_67 ?_
        refine j_aload_n ok dX6_clarify_70 rfl 0 rfl ?_
        obtain ⟨v18, hv18, h⟩ := obind h
        refine k_getR ok fl_X6_37 hv18 dX6_clarify_71 ?_
        refine j_iload_n ok dX6_clarify_74 rfl 1 rfl ?_
        obtain ⟨kq19, h⟩ := ck_some h
        obtain ⟨q19, hq19, h⟩ := obind h
        refine k_V1 ok kl_X6_168 ⟨Nat.le_of_ble_eq_true rfl, Nat.le_of_ble_eq_true rfl⟩ [.int l1] kq19 rfl rfl (Nat.le_of_ble_eq_true rfl) (tX3_follow ok.fl X.V v18 l1 q17.2 hq19) dX6_clarify_75 ?_
        refine j_istore (L' := [(4, .int q19.1), (0, .ref (X.B + l0)), (1, .int l1), (2, .int l2), (3, .int l3)]) ok dX6_clarify_78 (by decide) rfl ?_
        refine j_iload ok dX6_clarify_80 0 rfl ?_
        refine j_iconst (v := 1) ok dX6_clarify_82 (by decide) ?_
        rcases ite_some h with ⟨c20, h⟩ | ⟨c20, h⟩
        · refine j_icmp_ge (tgt := 96) ok dX6_clarify_83 (by decide) (fun _ => ?_) (fun z => absurd c20 z)
          refine j_aload_n ok dX6_clarify_96 rfl 1 rfl ?_
          obtain ⟨kq21, h⟩ := ck_some h
          obtain ⟨q21, hq21, h⟩ := obind h
          refine k_V0 ok kl_X6_144 ⟨Nat.le_of_ble_eq_true rfl, Nat.le_of_ble_eq_true rfl⟩ [] kq21 rfl rfl (Nat.le_of_ble_eq_true rfl) (tX6_commit ok.fl X.V l0 q19.2 hq21) dX6_clarify_97 ?_
          refine j_iload ok dX6_clarify_100 0 rfl ?_
          obtain ⟨er, eG⟩ := inj2 h
          subst er; subst eG
          exact j_iret ok rfl dX6_clarify_102 hK
        · refine j_icmp_ge (tgt := 96) ok dX6_clarify_83 (by decide) (fun z => absurd z c20) (fun _ => ?_)
          obtain ⟨hcap, h⟩ := thw_some h
          obtain ⟨er, eG⟩ := inj2 h
          subst er; subst eG
          exact k_throw ok kt_X6_139 st_X6_172 dX6_clarify_86 dX6_clarify_89 dX6_clarify_90 dX6_clarify_92 dX6_clarify_95 hcap (by decide) (by decide) (Nat.le_of_ble_eq_true rfl) hK

def fX6_clarify (l0 : Nat) (l1 : Int32) (l2 : Int32) (l3 : Int32) (G : Mem) : Option ((Int32 ⊕ Nat) × Mem) := fX6_clarify_0 l0 l1 l2 l3 G
set_option maxRecDepth 100000 in
theorem tX6_clarify {l : Launch} (hfl : l.stackTraces = false) (V : Wd) (l0 : Nat) (l1 : Int32) (l2 : Int32) (l3 : Int32) (G : Mem) {r : (Int32 ⊕ Nat)} {G' : Mem} (h : fX6_clarify l0 l1 l2 l3 G = some (r, G')) : Mx l yX6_clarify cX6_clarify 5 (some .int) 9 217 V [.ref (V.B + l0), .int l1, .int l2, .int l3] G (rzI r) G' :=
  mx_of (L := [(0, .ref (V.B + l0)), (1, .int l1), (2, .int l2), (3, .int l3)]) hfl (by decide +kernel) (Nat.le_of_ble_eq_true rfl) rfl (fun X hl hV hin ok he => by
    subst hl; subst hV
    exact J.sub [0, 1, 2, 3] rfl (jX6_clarify_0 ok l0 l1 l2 l3 G h (by cases r <;> exact he)))
def fX6_requirePosition_15   (G : Mem) : Option ((Unit ⊕ Nat) × Mem) :=
  thw 2 G

set_option maxRecDepth 100000 in
set_option maxHeartbeats 4000000 in
theorem jX6_requirePosition_15 {X : Cx} (ok : OK X cX6_requirePosition RX6 none 2 8 160)   (G : Mem) {r : (Unit ⊕ Nat)} {G' : Mem} (h : fX6_requirePosition_15  G = some (r, G')) (hK : (finT X (finV X)) r G') : J X 2 15 [] [] G := by
  unfold fX6_requirePosition_15 at h
  obtain ⟨hcap, h⟩ := thw_some h
  obtain ⟨er, eG⟩ := inj2 h
  subst er; subst eG
  exact k_throwW ok kt_X6_319 st_X6_324 dX6_requirePosition_15 dX6_requirePosition_18 dX6_requirePosition_19 dX6_requirePosition_22 dX6_requirePosition_25 hcap (by decide) (by decide) (Nat.le_of_ble_eq_true rfl) hK

def fX6_requirePosition_0 (l0 : Nat) (l1 : Int32)  (G : Mem) : Option ((Unit ⊕ Nat) × Mem) :=
  if l1 < (0 : Int32) then
    fX6_requirePosition_15 G
  else
    (gR G 16 l0 3).bind fun v2 =>
    ck G 13 v2 <| (fX3_positionCount v2 G).bind fun q3 =>
    if l1 < q3.1 then
      some (.inl (), q3.2)
    else
      fX6_requirePosition_15 q3.2

set_option maxRecDepth 100000 in
set_option maxHeartbeats 4000000 in
theorem jX6_requirePosition_0 {X : Cx} (ok : OK X cX6_requirePosition RX6 none 2 8 160) (l0 : Nat) (l1 : Int32)  (G : Mem) {r : (Unit ⊕ Nat)} {G' : Mem} (h : fX6_requirePosition_0 l0 l1 G = some (r, G')) (hK : (finT X (finV X)) r G') : J X 2 0 [(0, .ref (X.B + l0)), (1, .int l1)] [] G := by
  unfold fX6_requirePosition_0 at h
  refine j_iload_n ok dX6_requirePosition_0 rfl 1 rfl ?_
  rcases ite_some h with ⟨c1, h⟩ | ⟨c1, h⟩
  · refine j_if_lt (tgt := 15) ok dX6_requirePosition_1 (by decide) (fun _ => ?_) (fun z => absurd c1 z)
    exact J.sub [] rfl (jX6_requirePosition_15 ok G h hK)
  · refine j_if_lt (tgt := 15) ok dX6_requirePosition_1 (by decide) (fun z => absurd z c1) (fun _ => ?_)
    refine j_iload_n ok dX6_requirePosition_4 rfl 1 rfl ?_
    refine j_aload_n ok dX6_requirePosition_5 rfl 0 rfl ?_
    obtain ⟨v2, hv2, h⟩ := obind h
    refine k_getR ok fl_X6_33 hv2 dX6_requirePosition_6 ?_
    obtain ⟨kq3, h⟩ := ck_some h
    obtain ⟨q3, hq3, h⟩ := obind h
    refine k_V1 ok kl_X6_294 ⟨Nat.le_of_ble_eq_true rfl, Nat.le_of_ble_eq_true rfl⟩ [] kq3 rfl rfl (Nat.le_of_ble_eq_true rfl) (tX3_positionCount ok.fl X.V v2 G hq3) dX6_requirePosition_9 ?_
    rcases ite_some h with ⟨c4, h⟩ | ⟨c4, h⟩
    · refine j_icmp_lt (tgt := 26) ok dX6_requirePosition_12 (by decide) (fun _ => ?_) (fun z => absurd c4 z)
      obtain ⟨er, eG⟩ := inj2 h
      subst er; subst eG
      exact j_vret ok rfl dX6_requirePosition_26 hK
    · refine j_icmp_lt (tgt := 26) ok dX6_requirePosition_12 (by decide) (fun z => absurd z c4) (fun _ => ?_)
      exact J.sub [] rfl (jX6_requirePosition_15 ok q3.2 h hK)

def fX6_requirePosition (l0 : Nat) (l1 : Int32) (G : Mem) : Option ((Unit ⊕ Nat) × Mem) := fX6_requirePosition_0 l0 l1 G
set_option maxRecDepth 100000 in
theorem tX6_requirePosition {l : Launch} (hfl : l.stackTraces = false) (V : Wd) (l0 : Nat) (l1 : Int32) (G : Mem) {r : (Unit ⊕ Nat)} {G' : Mem} (h : fX6_requirePosition l0 l1 G = some (r, G')) : Mx l yX6_requirePosition cX6_requirePosition 2 none 8 160 V [.ref (V.B + l0), .int l1] G (rzV r) G' :=
  mx_of (L := [(0, .ref (V.B + l0)), (1, .int l1)]) hfl (by decide +kernel) (Nat.le_of_ble_eq_true rfl) rfl (fun X hl hV hin ok he => by
    subst hl; subst hV
    exact J.sub [0, 1] rfl (jX6_requirePosition_0 ok l0 l1 G h (by cases r <;> exact he)))
def fX6_requireSquare_36   (G : Mem) : Option ((Unit ⊕ Nat) × Mem) :=
  thw 2 G

set_option maxRecDepth 100000 in
set_option maxHeartbeats 4000000 in
theorem jX6_requireSquare_36 {X : Cx} (ok : OK X cX6_requireSquare RX6 none 3 8 160)   (G : Mem) {r : (Unit ⊕ Nat)} {G' : Mem} (h : fX6_requireSquare_36  G = some (r, G')) (hK : (finT X (finV X)) r G') : J X 3 36 [] [] G := by
  unfold fX6_requireSquare_36 at h
  obtain ⟨hcap, h⟩ := thw_some h
  obtain ⟨er, eG⟩ := inj2 h
  subst er; subst eG
  exact k_throwW ok kt_X6_319 st_X6_326 dX6_requireSquare_36 dX6_requireSquare_39 dX6_requireSquare_40 dX6_requireSquare_43 dX6_requireSquare_46 hcap (by decide) (by decide) (Nat.le_of_ble_eq_true rfl) hK

def fX6_requireSquare_0 (l0 : Nat) (l1 : Int32) (l2 : Int32)  (G : Mem) : Option ((Unit ⊕ Nat) × Mem) :=
  if l1 < (0 : Int32) then
    fX6_requireSquare_36 G
  else
    (gR G 16 l0 3).bind fun v2 =>
    (gR G 13 v2 0).bind fun v3 =>
    (gF G 10 v3 0).bind fun v4 =>
    if v4 ≤ l1 then
      fX6_requireSquare_36 G
    else
      if l2 < (0 : Int32) then
        fX6_requireSquare_36 G
      else
        (gR G 16 l0 3).bind fun v7 =>
        (gR G 13 v7 0).bind fun v8 =>
        (gF G 10 v8 1).bind fun v9 =>
        if l2 < v9 then
          some (.inl (), G)
        else
          fX6_requireSquare_36 G

set_option maxRecDepth 100000 in
set_option maxHeartbeats 4000000 in
theorem jX6_requireSquare_0 {X : Cx} (ok : OK X cX6_requireSquare RX6 none 3 8 160) (l0 : Nat) (l1 : Int32) (l2 : Int32)  (G : Mem) {r : (Unit ⊕ Nat)} {G' : Mem} (h : fX6_requireSquare_0 l0 l1 l2 G = some (r, G')) (hK : (finT X (finV X)) r G') : J X 3 0 [(0, .ref (X.B + l0)), (1, .int l1), (2, .int l2)] [] G := by
  unfold fX6_requireSquare_0 at h
  refine j_iload_n ok dX6_requireSquare_0 rfl 1 rfl ?_
  rcases ite_some h with ⟨c1, h⟩ | ⟨c1, h⟩
  · refine j_if_lt (tgt := 36) ok dX6_requireSquare_1 (by decide) (fun _ => ?_) (fun z => absurd c1 z)
    exact J.sub [] rfl (jX6_requireSquare_36 ok G h hK)
  · refine j_if_lt (tgt := 36) ok dX6_requireSquare_1 (by decide) (fun z => absurd z c1) (fun _ => ?_)
    refine j_iload_n ok dX6_requireSquare_4 rfl 1 rfl ?_
    refine j_aload_n ok dX6_requireSquare_5 rfl 0 rfl ?_
    obtain ⟨v2, hv2, h⟩ := obind h
    refine k_getR ok fl_X6_33 hv2 dX6_requireSquare_6 ?_
    obtain ⟨v3, hv3, h⟩ := obind h
    refine k_getR ok fl_X6_95 hv3 dX6_requireSquare_9 ?_
    obtain ⟨v4, hv4, h⟩ := obind h
    refine k_getI ok fl_X6_150 hv4 dX6_requireSquare_12 ?_
    rcases ite_some h with ⟨c5, h⟩ | ⟨c5, h⟩
    · refine j_icmp_ge (tgt := 36) ok dX6_requireSquare_15 (by decide) (fun _ => ?_) (fun z => absurd c5 z)
      exact J.sub [] rfl (jX6_requireSquare_36 ok G h hK)
    · refine j_icmp_ge (tgt := 36) ok dX6_requireSquare_15 (by decide) (fun z => absurd z c5) (fun _ => ?_)
      refine j_iload_n ok dX6_requireSquare_18 rfl 2 rfl ?_
      rcases ite_some h with ⟨c6, h⟩ | ⟨c6, h⟩
      · refine j_if_lt (tgt := 36) ok dX6_requireSquare_19 (by decide) (fun _ => ?_) (fun z => absurd c6 z)
        exact J.sub [] rfl (jX6_requireSquare_36 ok G h hK)
      · refine j_if_lt (tgt := 36) ok dX6_requireSquare_19 (by decide) (fun z => absurd z c6) (fun _ => ?_)
        refine j_iload_n ok dX6_requireSquare_22 rfl 2 rfl ?_
        refine j_aload_n ok dX6_requireSquare_23 rfl 0 rfl ?_
        obtain ⟨v7, hv7, h⟩ := obind h
        refine k_getR ok fl_X6_33 hv7 dX6_requireSquare_24 ?_
        obtain ⟨v8, hv8, h⟩ := obind h
        refine k_getR ok fl_X6_95 hv8 dX6_requireSquare_27 ?_
        obtain ⟨v9, hv9, h⟩ := obind h
        refine k_getI ok fl_X6_159 hv9 dX6_requireSquare_30 ?_
        rcases ite_some h with ⟨c10, h⟩ | ⟨c10, h⟩
        · refine j_icmp_lt (tgt := 47) ok dX6_requireSquare_33 (by decide) (fun _ => ?_) (fun z => absurd c10 z)
          obtain ⟨er, eG⟩ := inj2 h
          subst er; subst eG
          exact j_vret ok rfl dX6_requireSquare_47 hK
        · refine j_icmp_lt (tgt := 47) ok dX6_requireSquare_33 (by decide) (fun z => absurd z c10) (fun _ => ?_)
          exact J.sub [] rfl (jX6_requireSquare_36 ok G h hK)

def fX6_requireSquare (l0 : Nat) (l1 : Int32) (l2 : Int32) (G : Mem) : Option ((Unit ⊕ Nat) × Mem) := fX6_requireSquare_0 l0 l1 l2 G
set_option maxRecDepth 100000 in
theorem tX6_requireSquare {l : Launch} (hfl : l.stackTraces = false) (V : Wd) (l0 : Nat) (l1 : Int32) (l2 : Int32) (G : Mem) {r : (Unit ⊕ Nat)} {G' : Mem} (h : fX6_requireSquare l0 l1 l2 G = some (r, G')) : Mx l yX6_requireSquare cX6_requireSquare 3 none 8 160 V [.ref (V.B + l0), .int l1, .int l2] G (rzV r) G' :=
  mx_of (L := [(0, .ref (V.B + l0)), (1, .int l1), (2, .int l2)]) hfl (by decide +kernel) (Nat.le_of_ble_eq_true rfl) rfl (fun X hl hV hin ok he => by
    subst hl; subst hV
    exact J.sub [0, 1, 2] rfl (jX6_requireSquare_0 ok l0 l1 l2 G h (by cases r <;> exact he)))
def fX6_colourAt_0 (l0 : Nat) (l1 : Int32) (l2 : Int32) (l3 : Int32)  (G : Mem) : Option ((Int32 ⊕ Nat) × Mem) :=
  ck G 16 l0 <| (fX6_requirePosition l0 l1 G).bind fun q1 => thr q1.1 (fun v2 =>
    ck q1.2 16 l0 <| (fX6_requireSquare l0 l2 l3 q1.2).bind fun q3 => thr q3.1 (fun v4 =>
      (gR q3.2 16 l0 3).bind fun v5 =>
      (gR q3.2 16 l0 3).bind fun v6 =>
      (gR q3.2 13 v6 0).bind fun v7 =>
      ck q3.2 10 v7 <| (fX0_squareOf v7 l2 l3 q3.2).bind fun q8 =>
      ck q8.2 13 v5 <| (fX3_contentAt v5 l1 q8.1 q8.2).bind fun q9 =>
      (fX6_colourOf q9.1 q9.2).bind fun q10 =>
      some (.inl q10.1, q10.2)) q3.2) q1.2

set_option maxRecDepth 100000 in
set_option maxHeartbeats 4000000 in
theorem jX6_colourAt_0 {X : Cx} (ok : OK X cX6_colourAt RX6 (some .int) 4 9 182) (l0 : Nat) (l1 : Int32) (l2 : Int32) (l3 : Int32)  (G : Mem) {r : (Int32 ⊕ Nat)} {G' : Mem} (h : fX6_colourAt_0 l0 l1 l2 l3 G = some (r, G')) (hK : (finT X (finI X)) r G') : J X 4 0 [(0, .ref (X.B + l0)), (1, .int l1), (2, .int l2), (3, .int l3)] [] G := by
  unfold fX6_colourAt_0 at h
  refine j_aload_n ok dX6_colourAt_0 rfl 0 rfl ?_
  refine j_iload_n ok dX6_colourAt_1 rfl 1 rfl ?_
  obtain ⟨kq1, h⟩ := ck_some h
  obtain ⟨q1, hq1, h⟩ := obind h
  cases eq1 : q1.1 with
  | inr v2 =>
    rw [eq1] at h; dsimp only [thr] at h
    obtain ⟨er, eG⟩ := inj2 h
    subst er; subst eG
    exact k_VX ok kl_X6_224 ⟨Nat.le_of_ble_eq_true rfl, Nat.le_of_ble_eq_true rfl⟩ [.int l1] kq1 rfl rfl (Nat.le_of_ble_eq_true rfl) (by have z := tX6_requirePosition ok.fl X.V l0 l1 G hq1; rw [eq1] at z; exact z) dX6_colourAt_2 hK
  | inl v2 =>
    rw [eq1] at h; dsimp only [thr] at h
    refine k_V0 ok kl_X6_224 ⟨Nat.le_of_ble_eq_true rfl, Nat.le_of_ble_eq_true rfl⟩ [.int l1] kq1 rfl rfl (Nat.le_of_ble_eq_true rfl) (by have z := tX6_requirePosition ok.fl X.V l0 l1 G hq1; rw [eq1] at z; exact z) dX6_colourAt_2 ?_
    refine j_aload_n ok dX6_colourAt_5 rfl 0 rfl ?_
    refine j_iload_n ok dX6_colourAt_6 rfl 2 rfl ?_
    refine j_iload_n ok dX6_colourAt_7 rfl 3 rfl ?_
    obtain ⟨kq3, h⟩ := ck_some h
    obtain ⟨q3, hq3, h⟩ := obind h
    cases eq3 : q3.1 with
    | inr v4 =>
      rw [eq3] at h; dsimp only [thr] at h
      obtain ⟨er, eG⟩ := inj2 h
      subst er; subst eG
      exact k_VX ok kl_X6_227 ⟨Nat.le_of_ble_eq_true rfl, Nat.le_of_ble_eq_true rfl⟩ [.int l2, .int l3] kq3 rfl rfl (Nat.le_of_ble_eq_true rfl) (by have z := tX6_requireSquare ok.fl X.V l0 l2 l3 q1.2 hq3; rw [eq3] at z; exact z) dX6_colourAt_8 hK
    | inl v4 =>
      rw [eq3] at h; dsimp only [thr] at h
      refine k_V0 ok kl_X6_227 ⟨Nat.le_of_ble_eq_true rfl, Nat.le_of_ble_eq_true rfl⟩ [.int l2, .int l3] kq3 rfl rfl (Nat.le_of_ble_eq_true rfl) (by have z := tX6_requireSquare ok.fl X.V l0 l2 l3 q1.2 hq3; rw [eq3] at z; exact z) dX6_colourAt_8 ?_
      refine j_aload_n ok dX6_colourAt_11 rfl 0 rfl ?_
      obtain ⟨v5, hv5, h⟩ := obind h
      refine k_getR ok fl_X6_33 hv5 dX6_colourAt_12 ?_
      refine j_iload_n ok dX6_colourAt_15 rfl 1 rfl ?_
      refine j_aload_n ok dX6_colourAt_16 rfl 0 rfl ?_
      obtain ⟨v6, hv6, h⟩ := obind h
      refine k_getR ok fl_X6_33 hv6 dX6_colourAt_17 ?_
      obtain ⟨v7, hv7, h⟩ := obind h
      refine k_getR ok fl_X6_95 hv7 dX6_colourAt_20 ?_
      refine j_iload_n ok dX6_colourAt_23 rfl 2 rfl ?_
      refine j_iload_n ok dX6_colourAt_24 rfl 3 rfl ?_
      obtain ⟨kq8, h⟩ := ck_some h
      obtain ⟨q8, hq8, h⟩ := obind h
      refine k_V1 ok kl_X6_231 ⟨Nat.le_of_ble_eq_true rfl, Nat.le_of_ble_eq_true rfl⟩ [.int l2, .int l3] kq8 rfl rfl (Nat.le_of_ble_eq_true rfl) (tX0_squareOf ok.fl X.V v7 l2 l3 q3.2 hq8) dX6_colourAt_25 ?_
      obtain ⟨kq9, h⟩ := ck_some h
      obtain ⟨q9, hq9, h⟩ := obind h
      refine k_V1 ok kl_X6_235 ⟨Nat.le_of_ble_eq_true rfl, Nat.le_of_ble_eq_true rfl⟩ [.int l1, .int q8.1] kq9 rfl rfl (Nat.le_of_ble_eq_true rfl) (tX3_contentAt ok.fl X.V v5 l1 q8.1 q8.2 hq9) dX6_colourAt_28 ?_
      obtain ⟨q10, hq10, h⟩ := obind h
      refine k_S1 ok kl_X6_241 ⟨Nat.le_of_ble_eq_true rfl, Nat.le_of_ble_eq_true rfl⟩ [.int q9.1] rfl rfl (Nat.le_of_ble_eq_true rfl) (tX6_colourOf ok.fl X.V q9.1 q9.2 hq10) dX6_colourAt_31 ?_
      obtain ⟨er, eG⟩ := inj2 h
      subst er; subst eG
      exact j_iret ok rfl dX6_colourAt_34 hK

def fX6_colourAt (l0 : Nat) (l1 : Int32) (l2 : Int32) (l3 : Int32) (G : Mem) : Option ((Int32 ⊕ Nat) × Mem) := fX6_colourAt_0 l0 l1 l2 l3 G
set_option maxRecDepth 100000 in
theorem tX6_colourAt {l : Launch} (hfl : l.stackTraces = false) (V : Wd) (l0 : Nat) (l1 : Int32) (l2 : Int32) (l3 : Int32) (G : Mem) {r : (Int32 ⊕ Nat)} {G' : Mem} (h : fX6_colourAt l0 l1 l2 l3 G = some (r, G')) : Mx l yX6_colourAt cX6_colourAt 4 (some .int) 9 182 V [.ref (V.B + l0), .int l1, .int l2, .int l3] G (rzI r) G' :=
  mx_of (L := [(0, .ref (V.B + l0)), (1, .int l1), (2, .int l2), (3, .int l3)]) hfl (by decide +kernel) (Nat.le_of_ble_eq_true rfl) rfl (fun X hl hV hin ok he => by
    subst hl; subst hV
    exact J.sub [0, 1, 2, 3] rfl (jX6_colourAt_0 ok l0 l1 l2 l3 G h (by cases r <;> exact he)))
def fX6_colourToMove_0 (l0 : Nat)  (G : Mem) : Option (Int32 × Mem) :=
  (gR G 16 l0 3).bind fun v1 =>
  (gR G 16 l0 3).bind fun v2 =>
  (gF G 13 v2 1).bind fun v3 =>
  ck G 13 v1 <| (fX3_mover v1 v3 G).bind fun q4 =>
  some (q4.1, q4.2)

set_option maxRecDepth 100000 in
set_option maxHeartbeats 4000000 in
theorem jX6_colourToMove_0 {X : Cx} (ok : OK X cX6_colourToMove RX6 (some .int) 1 1 21) (l0 : Nat)  (G : Mem) {r : Int32} {G' : Mem} (h : fX6_colourToMove_0 l0 G = some (r, G')) (hK : (finI X) r G') : J X 1 0 [(0, .ref (X.B + l0))] [] G := by
  unfold fX6_colourToMove_0 at h
  refine j_aload_n ok dX6_colourToMove_0 rfl 0 rfl ?_
  obtain ⟨v1, hv1, h⟩ := obind h
  refine k_getR ok fl_X6_33 hv1 dX6_colourToMove_1 ?_
  refine j_aload_n ok dX6_colourToMove_4 rfl 0 rfl ?_
  obtain ⟨v2, hv2, h⟩ := obind h
  refine k_getR ok fl_X6_33 hv2 dX6_colourToMove_5 ?_
  obtain ⟨v3, hv3, h⟩ := obind h
  refine k_getI ok fl_X6_174 hv3 dX6_colourToMove_8 ?_
  obtain ⟨kq4, h⟩ := ck_some h
  obtain ⟨q4, hq4, h⟩ := obind h
  refine k_V1 ok kl_X6_189 ⟨Nat.le_of_ble_eq_true rfl, Nat.le_of_ble_eq_true rfl⟩ [.int v3] kq4 rfl rfl (Nat.le_of_ble_eq_true rfl) (tX3_mover ok.fl X.V v1 v3 G hq4) dX6_colourToMove_11 ?_
  obtain ⟨er, eG⟩ := inj2 h
  subst er; subst eG
  exact j_iret ok rfl dX6_colourToMove_14 hK

def fX6_colourToMove (l0 : Nat) (G : Mem) : Option (Int32 × Mem) := fX6_colourToMove_0 l0 G
set_option maxRecDepth 100000 in
theorem tX6_colourToMove {l : Launch} (hfl : l.stackTraces = false) (V : Wd) (l0 : Nat) (G : Mem) {r : Int32} {G' : Mem} (h : fX6_colourToMove l0 G = some (r, G')) : Mx l yX6_colourToMove cX6_colourToMove 1 (some .int) 1 21 V [.ref (V.B + l0)] G (.inl (some (.int r))) G' :=
  mx_of (L := [(0, .ref (V.B + l0))]) hfl (by decide +kernel) (Nat.le_of_ble_eq_true rfl) rfl (fun X hl hV hin ok he => by
    subst hl; subst hV
    exact J.sub [0] rfl (jX6_colourToMove_0 ok l0 G h he))
def fX6_columns_0 (l0 : Nat)  (G : Mem) : Option (Int32 × Mem) :=
  (gR G 16 l0 3).bind fun v1 =>
  (gR G 13 v1 0).bind fun v2 =>
  (gF G 10 v2 0).bind fun v3 =>
  some (v3, G)

set_option maxRecDepth 100000 in
set_option maxHeartbeats 4000000 in
theorem jX6_columns_0 {X : Cx} (ok : OK X cX6_columns RX6 (some .int) 1 0 0) (l0 : Nat)  (G : Mem) {r : Int32} {G' : Mem} (h : fX6_columns_0 l0 G = some (r, G')) (hK : (finI X) r G') : J X 1 0 [(0, .ref (X.B + l0))] [] G := by
  unfold fX6_columns_0 at h
  refine j_aload_n ok dX6_columns_0 rfl 0 rfl ?_
  obtain ⟨v1, hv1, h⟩ := obind h
  refine k_getR ok fl_X6_33 hv1 dX6_columns_1 ?_
  obtain ⟨v2, hv2, h⟩ := obind h
  refine k_getR ok fl_X6_95 hv2 dX6_columns_4 ?_
  obtain ⟨v3, hv3, h⟩ := obind h
  refine k_getI ok fl_X6_150 hv3 dX6_columns_7 ?_
  obtain ⟨er, eG⟩ := inj2 h
  subst er; subst eG
  exact j_iret ok rfl dX6_columns_10 hK

def fX6_columns (l0 : Nat) (G : Mem) : Option (Int32 × Mem) := fX6_columns_0 l0 G
set_option maxRecDepth 100000 in
theorem tX6_columns {l : Launch} (hfl : l.stackTraces = false) (V : Wd) (l0 : Nat) (G : Mem) {r : Int32} {G' : Mem} (h : fX6_columns l0 G = some (r, G')) : Mx l yX6_columns cX6_columns 1 (some .int) 0 0 V [.ref (V.B + l0)] G (.inl (some (.int r))) G' :=
  mx_of (L := [(0, .ref (V.B + l0))]) hfl (by decide +kernel) (Nat.le_of_ble_eq_true rfl) rfl (fun X hl hV hin ok he => by
    subst hl; subst hV
    exact J.sub [0] rfl (jX6_columns_0 ok l0 G h he))
def fX6_doubt_0 (l0 : Nat) (l1 : Int32)  (G : Mem) : Option ((Int32 ⊕ Nat) × Mem) :=
  ck G 16 l0 <| (fX6_requireNote l0 l1 G).bind fun q1 => thr q1.1 (fun v2 =>
    (gR q1.2 16 l0 1).bind fun v3 =>
    (gR q1.2 16 l0 3).bind fun v4 =>
    ck q1.2 14 v3 <| (fX4_countGames v3 v4 l1 q1.2).bind fun q5 =>
    (gR q5.2 16 l0 1).bind fun v6 =>
    ck q5.2 14 v6 <| (fX4_moveCount v6 q5.2).bind fun q7 =>
    some (.inl q7.1, q7.2)) q1.2

set_option maxRecDepth 100000 in
set_option maxHeartbeats 4000000 in
theorem jX6_doubt_0 {X : Cx} (ok : OK X cX6_doubt RX6 (some .int) 2 9 181) (l0 : Nat) (l1 : Int32)  (G : Mem) {r : (Int32 ⊕ Nat)} {G' : Mem} (h : fX6_doubt_0 l0 l1 G = some (r, G')) (hK : (finT X (finI X)) r G') : J X 2 0 [(0, .ref (X.B + l0)), (1, .int l1)] [] G := by
  unfold fX6_doubt_0 at h
  refine j_aload_n ok dX6_doubt_0 rfl 0 rfl ?_
  refine j_iload_n ok dX6_doubt_1 rfl 1 rfl ?_
  obtain ⟨kq1, h⟩ := ck_some h
  obtain ⟨q1, hq1, h⟩ := obind h
  cases eq1 : q1.1 with
  | inr v2 =>
    rw [eq1] at h; dsimp only [thr] at h
    obtain ⟨er, eG⟩ := inj2 h
    subst er; subst eG
    exact k_VX ok kl_X6_147 ⟨Nat.le_of_ble_eq_true rfl, Nat.le_of_ble_eq_true rfl⟩ [.int l1] kq1 rfl rfl (Nat.le_of_ble_eq_true rfl) (by have z := tX6_requireNote ok.fl X.V l0 l1 G hq1; rw [eq1] at z; exact z) dX6_doubt_2 hK
  | inl v2 =>
    rw [eq1] at h; dsimp only [thr] at h
    refine k_V0 ok kl_X6_147 ⟨Nat.le_of_ble_eq_true rfl, Nat.le_of_ble_eq_true rfl⟩ [.int l1] kq1 rfl rfl (Nat.le_of_ble_eq_true rfl) (by have z := tX6_requireNote ok.fl X.V l0 l1 G hq1; rw [eq1] at z; exact z) dX6_doubt_2 ?_
    refine j_aload_n ok dX6_doubt_5 rfl 0 rfl ?_
    obtain ⟨v3, hv3, h⟩ := obind h
    refine k_getR ok fl_X6_19 hv3 dX6_doubt_6 ?_
    refine j_aload_n ok dX6_doubt_9 rfl 0 rfl ?_
    obtain ⟨v4, hv4, h⟩ := obind h
    refine k_getR ok fl_X6_33 hv4 dX6_doubt_10 ?_
    refine j_iload_n ok dX6_doubt_13 rfl 1 rfl ?_
    obtain ⟨kq5, h⟩ := ck_some h
    obtain ⟨q5, hq5, h⟩ := obind h
    refine k_V0 ok kl_X6_275 ⟨Nat.le_of_ble_eq_true rfl, Nat.le_of_ble_eq_true rfl⟩ [.ref (X.B + v4), .int l1] kq5 rfl rfl (Nat.le_of_ble_eq_true rfl) (tX4_countGames ok.fl X.V v3 v4 l1 q1.2 hq5) dX6_doubt_14 ?_
    refine j_aload_n ok dX6_doubt_17 rfl 0 rfl ?_
    obtain ⟨v6, hv6, h⟩ := obind h
    refine k_getR ok fl_X6_19 hv6 dX6_doubt_18 ?_
    obtain ⟨kq7, h⟩ := ck_some h
    obtain ⟨q7, hq7, h⟩ := obind h
    refine k_V1 ok kl_X6_279 ⟨Nat.le_of_ble_eq_true rfl, Nat.le_of_ble_eq_true rfl⟩ [] kq7 rfl rfl (Nat.le_of_ble_eq_true rfl) (tX4_moveCount ok.fl X.V v6 q5.2 hq7) dX6_doubt_21 ?_
    obtain ⟨er, eG⟩ := inj2 h
    subst er; subst eG
    exact j_iret ok rfl dX6_doubt_24 hK

def fX6_doubt (l0 : Nat) (l1 : Int32) (G : Mem) : Option ((Int32 ⊕ Nat) × Mem) := fX6_doubt_0 l0 l1 G
set_option maxRecDepth 100000 in
theorem tX6_doubt {l : Launch} (hfl : l.stackTraces = false) (V : Wd) (l0 : Nat) (l1 : Int32) (G : Mem) {r : (Int32 ⊕ Nat)} {G' : Mem} (h : fX6_doubt l0 l1 G = some (r, G')) : Mx l yX6_doubt cX6_doubt 2 (some .int) 9 181 V [.ref (V.B + l0), .int l1] G (rzI r) G' :=
  mx_of (L := [(0, .ref (V.B + l0)), (1, .int l1)]) hfl (by decide +kernel) (Nat.le_of_ble_eq_true rfl) rfl (fun X hl hV hin ok he => by
    subst hl; subst hV
    exact J.sub [0, 1] rfl (jX6_doubt_0 ok l0 l1 G h (by cases r <;> exact he)))
def fX6_dropNote_0 (l0 : Nat)  (G : Mem) : Option ((Int32 ⊕ Nat) × Mem) :=
  (gR G 16 l0 3).bind fun v1 =>
  (gF G 13 v1 1).bind fun v2 =>
  if v2 = (0 : Int32) then
    thw 1 G
  else
    (gR G 16 l0 4).bind fun v4 =>
    (gR G 16 l0 3).bind fun v5 =>
    ck G 13 v4 <| (fX3_copyFrom v4 v5 G).bind fun q6 =>
    (gR q6.2 16 l0 4).bind fun v7 =>
    (gF q6.2 13 v7 1).bind fun v8 =>
    (pI q6.2 13 v7 1 (v8 - (1 : Int32))).bind fun G9 =>
    ck G9 16 l0 <| (fX6_commit l0 G9).bind fun q10 =>
    (gR q10.2 16 l0 3).bind fun v11 =>
    (gF q10.2 13 v11 1).bind fun v12 =>
    some (.inl v12, q10.2)

set_option maxRecDepth 100000 in
set_option maxHeartbeats 4000000 in
theorem jX6_dropNote_0 {X : Cx} (ok : OK X cX6_dropNote RX6 (some .int) 1 8 160) (l0 : Nat)  (G : Mem) {r : (Int32 ⊕ Nat)} {G' : Mem} (h : fX6_dropNote_0 l0 G = some (r, G')) (hK : (finT X (finI X)) r G') : J X 1 0 [(0, .ref (X.B + l0))] [] G := by
  unfold fX6_dropNote_0 at h
  refine j_aload_n ok dX6_dropNote_0 rfl 0 rfl ?_
  obtain ⟨v1, hv1, h⟩ := obind h
  refine k_getR ok fl_X6_33 hv1 dX6_dropNote_1 ?_
  obtain ⟨v2, hv2, h⟩ := obind h
  refine k_getI ok fl_X6_174 hv2 dX6_dropNote_4 ?_
  rcases ite_some h with ⟨c3, h⟩ | ⟨c3, h⟩
  · refine j_if_ne (tgt := 20) ok dX6_dropNote_7 (by decide) (fun z => absurd c3 z) (fun _ => ?_)
    obtain ⟨hcap, h⟩ := thw_some h
    obtain ⟨er, eG⟩ := inj2 h
    subst er; subst eG
    exact k_throw ok kt_X6_139 st_X6_177 dX6_dropNote_10 dX6_dropNote_13 dX6_dropNote_14 dX6_dropNote_16 dX6_dropNote_19 hcap (by decide) (by decide) (Nat.le_of_ble_eq_true rfl) hK
  · refine j_if_ne (tgt := 20) ok dX6_dropNote_7 (by decide) (fun _ => ?_) (fun z => absurd z c3)
    refine j_aload_n ok dX6_dropNote_20 rfl 0 rfl ?_
    obtain ⟨v4, hv4, h⟩ := obind h
    refine k_getR ok fl_X6_37 hv4 dX6_dropNote_21 ?_
    refine j_aload_n ok dX6_dropNote_24 rfl 0 rfl ?_
    obtain ⟨v5, hv5, h⟩ := obind h
    refine k_getR ok fl_X6_33 hv5 dX6_dropNote_25 ?_
    obtain ⟨kq6, h⟩ := ck_some h
    obtain ⟨q6, hq6, h⟩ := obind h
    refine k_V0 ok kl_X6_114 ⟨Nat.le_of_ble_eq_true rfl, Nat.le_of_ble_eq_true rfl⟩ [.ref (X.B + v5)] kq6 rfl rfl (Nat.le_of_ble_eq_true rfl) (tX3_copyFrom ok.fl X.V v4 v5 G hq6) dX6_dropNote_28 ?_
    refine j_aload_n ok dX6_dropNote_31 rfl 0 rfl ?_
    obtain ⟨v7, hv7, h⟩ := obind h
    refine k_getR ok fl_X6_37 hv7 dX6_dropNote_32 ?_
    refine j_dup ok dX6_dropNote_35 rfl ?_
    obtain ⟨v8, hv8, h⟩ := obind h
    refine k_getI ok fl_X6_174 hv8 dX6_dropNote_36 ?_
    refine j_iconst (v := 1) ok dX6_dropNote_39 (by decide) ?_
    refine j_isub ok dX6_dropNote_40 ?_
    obtain ⟨G9, hG9, h⟩ := obind h
    refine k_putI ok fl_X6_174 fp_X3 rfl (Or.inl rfl) hG9 dX6_dropNote_41 ?_
    refine j_aload_n ok dX6_dropNote_44 rfl 0 rfl ?_
    obtain ⟨kq10, h⟩ := ck_some h
    obtain ⟨q10, hq10, h⟩ := obind h
    refine k_V0 ok kl_X6_144 ⟨Nat.le_of_ble_eq_true rfl, Nat.le_of_ble_eq_true rfl⟩ [] kq10 rfl rfl (Nat.le_of_ble_eq_true rfl) (tX6_commit ok.fl X.V l0 G9 hq10) dX6_dropNote_45 ?_
    refine j_aload_n ok dX6_dropNote_48 rfl 0 rfl ?_
    obtain ⟨v11, hv11, h⟩ := obind h
    refine k_getR ok fl_X6_33 hv11 dX6_dropNote_49 ?_
    obtain ⟨v12, hv12, h⟩ := obind h
    refine k_getI ok fl_X6_174 hv12 dX6_dropNote_52 ?_
    obtain ⟨er, eG⟩ := inj2 h
    subst er; subst eG
    exact j_iret ok rfl dX6_dropNote_55 hK

def fX6_dropNote (l0 : Nat) (G : Mem) : Option ((Int32 ⊕ Nat) × Mem) := fX6_dropNote_0 l0 G
set_option maxRecDepth 100000 in
theorem tX6_dropNote {l : Launch} (hfl : l.stackTraces = false) (V : Wd) (l0 : Nat) (G : Mem) {r : (Int32 ⊕ Nat)} {G' : Mem} (h : fX6_dropNote l0 G = some (r, G')) : Mx l yX6_dropNote cX6_dropNote 1 (some .int) 8 160 V [.ref (V.B + l0)] G (rzI r) G' :=
  mx_of (L := [(0, .ref (V.B + l0))]) hfl (by decide +kernel) (Nat.le_of_ble_eq_true rfl) rfl (fun X hl hV hin ok he => by
    subst hl; subst hV
    exact J.sub [0] rfl (jX6_dropNote_0 ok l0 G h (by cases r <;> exact he)))
def fX6_endOfText_19 (l1 : Int32)  (G : Mem) : Option (Int32 × Mem) :=
  rz l1 <|
  some (l1, G)

set_option maxRecDepth 100000 in
set_option maxHeartbeats 4000000 in
theorem jX6_endOfText_19 {X : Cx} (ok : OK X cX6_endOfText RX6 (some .boolean) 2 4 94) (l1 : Int32)  (G : Mem) {r : Int32} {G' : Mem} (h : fX6_endOfText_19 l1 G = some (r, G')) (hK : (finI X) r G') : J X 2 19 [(1, .int l1)] [] G := by
  unfold fX6_endOfText_19 at h
  refine j_iload_n ok dX6_endOfText_19 rfl 0 rfl ?_
  obtain ⟨hz1, h⟩ := rz_some h
  obtain ⟨er, eG⟩ := inj2 h
  subst er; subst eG
  exact j_zret ok rfl hz1 dX6_endOfText_20 hK

def fX6_endOfText_0 (l0 : Nat) (l1 : Int32)  (G : Mem) : Option (Int32 × Mem) :=
  (gR G 16 l0 0).bind fun v1 =>
  (gR G 12 v1 0).bind fun v2 =>
  (pI G 15 v2 0 (0 : Int32)).bind fun G3 =>
  if l1 = (0 : Int32) then
    fX6_endOfText_19 l1 G3
  else
    ck G3 16 l0 <| (fX6_commit l0 G3).bind fun q5 =>
    fX6_endOfText_19 l1 q5.2

set_option maxRecDepth 100000 in
set_option maxHeartbeats 4000000 in
theorem jX6_endOfText_0 {X : Cx} (ok : OK X cX6_endOfText RX6 (some .boolean) 2 4 94) (l0 : Nat) (l1 : Int32)  (G : Mem) {r : Int32} {G' : Mem} (h : fX6_endOfText_0 l0 l1 G = some (r, G')) (hK : (finI X) r G') : J X 2 0 [(0, .ref (X.B + l0)), (1, .int l1)] [] G := by
  unfold fX6_endOfText_0 at h
  refine j_aload_n ok dX6_endOfText_0 rfl 0 rfl ?_
  obtain ⟨v1, hv1, h⟩ := obind h
  refine k_getR ok fl_X6_12 hv1 dX6_endOfText_1 ?_
  obtain ⟨v2, hv2, h⟩ := obind h
  refine k_getR ok fl_X6_68 hv2 dX6_endOfText_4 ?_
  refine j_iconst (v := 0) ok dX6_endOfText_7 (by decide) ?_
  obtain ⟨G3, hG3, h⟩ := obind h
  refine k_putI ok fl_X6_82 fp_X5 rfl (Or.inl rfl) hG3 dX6_endOfText_8 ?_
  refine j_iload_n ok dX6_endOfText_11 rfl 1 rfl ?_
  rcases ite_some h with ⟨c4, h⟩ | ⟨c4, h⟩
  · refine j_if_eq (tgt := 19) ok dX6_endOfText_12 (by decide) (fun _ => ?_) (fun z => absurd c4 z)
    exact J.sub [1] rfl (jX6_endOfText_19 ok l1 G3 h hK)
  · refine j_if_eq (tgt := 19) ok dX6_endOfText_12 (by decide) (fun z => absurd z c4) (fun _ => ?_)
    refine j_aload_n ok dX6_endOfText_15 rfl 0 rfl ?_
    obtain ⟨kq5, h⟩ := ck_some h
    obtain ⟨q5, hq5, h⟩ := obind h
    refine k_V0 ok kl_X6_144 ⟨Nat.le_of_ble_eq_true rfl, Nat.le_of_ble_eq_true rfl⟩ [] kq5 rfl rfl (Nat.le_of_ble_eq_true rfl) (tX6_commit ok.fl X.V l0 G3 hq5) dX6_endOfText_16 ?_
    exact J.sub [1] rfl (jX6_endOfText_19 ok l1 q5.2 h hK)

def fX6_endOfText (l0 : Nat) (l1 : Int32) (G : Mem) : Option (Int32 × Mem) := fX6_endOfText_0 l0 l1 G
set_option maxRecDepth 100000 in
theorem tX6_endOfText {l : Launch} (hfl : l.stackTraces = false) (V : Wd) (l0 : Nat) (l1 : Int32) (G : Mem) {r : Int32} {G' : Mem} (h : fX6_endOfText l0 l1 G = some (r, G')) : Mx l yX6_endOfText cX6_endOfText 2 (some .boolean) 4 94 V [.ref (V.B + l0), .int l1] G (.inl (some (.int r))) G' :=
  mx_of (L := [(0, .ref (V.B + l0)), (1, .int l1)]) hfl (by decide +kernel) (Nat.le_of_ble_eq_true rfl) rfl (fun X hl hV hin ok he => by
    subst hl; subst hV
    exact J.sub [0, 1] rfl (jX6_endOfText_0 ok l0 l1 G h he))
def fX6_gameCount_0 (l0 : Nat)  (G : Mem) : Option (Int64 × Mem) :=
  (gR G 16 l0 3).bind fun v1 =>
  ck G 13 v1 <| (fX3_gameTotal v1 G).bind fun q2 =>
  some (q2.1, q2.2)

set_option maxRecDepth 100000 in
set_option maxHeartbeats 4000000 in
theorem jX6_gameCount_0 {X : Cx} (ok : OK X cX6_gameCount RX6 (some .long) 1 4 89) (l0 : Nat)  (G : Mem) {r : Int64} {G' : Mem} (h : fX6_gameCount_0 l0 G = some (r, G')) (hK : (finJ X) r G') : J X 1 0 [(0, .ref (X.B + l0))] [] G := by
  unfold fX6_gameCount_0 at h
  refine j_aload_n ok dX6_gameCount_0 rfl 0 rfl ?_
  obtain ⟨v1, hv1, h⟩ := obind h
  refine k_getR ok fl_X6_33 hv1 dX6_gameCount_1 ?_
  obtain ⟨kq2, h⟩ := ck_some h
  obtain ⟨q2, hq2, h⟩ := obind h
  refine k_V1 ok kl_X6_271 ⟨Nat.le_of_ble_eq_true rfl, Nat.le_of_ble_eq_true rfl⟩ [] kq2 rfl rfl (Nat.le_of_ble_eq_true rfl) (tX3_gameTotal ok.fl X.V v1 G hq2) dX6_gameCount_4 ?_
  obtain ⟨er, eG⟩ := inj2 h
  subst er; subst eG
  exact j_lret ok rfl dX6_gameCount_7 hK

def fX6_gameCount (l0 : Nat) (G : Mem) : Option (Int64 × Mem) := fX6_gameCount_0 l0 G
set_option maxRecDepth 100000 in
theorem tX6_gameCount {l : Launch} (hfl : l.stackTraces = false) (V : Wd) (l0 : Nat) (G : Mem) {r : Int64} {G' : Mem} (h : fX6_gameCount l0 G = some (r, G')) : Mx l yX6_gameCount cX6_gameCount 1 (some .long) 4 89 V [.ref (V.B + l0)] G (.inl (some (.long r))) G' :=
  mx_of (L := [(0, .ref (V.B + l0))]) hfl (by decide +kernel) (Nat.le_of_ble_eq_true rfl) rfl (fun X hl hV hin ok he => by
    subst hl; subst hV
    exact J.sub [0] rfl (jX6_gameCount_0 ok l0 G h he))
def fX6_gamesIfNoted_50  (s0 : Int64) (G : Mem) : Option ((Int64 ⊕ Nat) × Mem) :=
  some (.inl s0, G)

set_option maxRecDepth 100000 in
set_option maxHeartbeats 4000000 in
theorem jX6_gamesIfNoted_50 {X : Cx} (ok : OK X cX6_gamesIfNoted RX6 (some .long) 8 9 237)  (s0 : Int64) (G : Mem) {r : (Int64 ⊕ Nat)} {G' : Mem} (h : fX6_gamesIfNoted_50 s0 G = some (r, G')) (hK : (finT X (finJ X)) r G') : J X 8 50 [] [.long s0] G := by
  unfold fX6_gamesIfNoted_50 at h
  obtain ⟨er, eG⟩ := inj2 h
  subst er; subst eG
  exact j_lret ok rfl dX6_gamesIfNoted_50 hK

def fX6_gamesIfNoted_0 (l0 : Nat) (l1 : Int32) (l2 : Int32) (l3 : Int32) (l4 : Int32) (l5 : Int32) (l6 : Int32)  (G : Mem) : Option ((Int64 ⊕ Nat) × Mem) :=
  ck G 16 l0 <| (fX6_requireStatable l0 l1 l2 l3 l4 G).bind fun q1 => thr q1.1 (fun v2 =>
    (gR q1.2 16 l0 2).bind fun v3 =>
    ck q1.2 11 v3 <| (fX1_state v3 l1 l2 l3 l4 l5 l6 q1.2).bind fun q4 =>
    ck q4.2 16 l0 <| (fX6_followAsked l0 q4.2).bind fun q5 =>
    if (1 : Int32) ≤ q5.1 then
      (gR q5.2 16 l0 4).bind fun v7 =>
      ck q5.2 13 v7 <| (fX3_gameTotal v7 q5.2).bind fun q8 =>
      fX6_gamesIfNoted_50 q8.1 q8.2
    else
      fX6_gamesIfNoted_50 (q5.1.toInt64) q5.2) q1.2

set_option maxRecDepth 100000 in
set_option maxHeartbeats 4000000 in
theorem jX6_gamesIfNoted_0 {X : Cx} (ok : OK X cX6_gamesIfNoted RX6 (some .long) 8 9 237) (l0 : Nat) (l1 : Int32) (l2 : Int32) (l3 : Int32) (l4 : Int32) (l5 : Int32) (l6 : Int32)  (G : Mem) {r : (Int64 ⊕ Nat)} {G' : Mem} (h : fX6_gamesIfNoted_0 l0 l1 l2 l3 l4 l5 l6 G = some (r, G')) (hK : (finT X (finJ X)) r G') : J X 8 0 [(0, .ref (X.B + l0)), (1, .int l1), (2, .int l2), (3, .int l3), (4, .int l4), (5, .int l5), (6, .int l6)] [] G := by
  unfold fX6_gamesIfNoted_0 at h
  refine j_aload_n ok dX6_gamesIfNoted_0 rfl 0 rfl ?_
  refine j_iload_n ok dX6_gamesIfNoted_1 rfl 1 rfl ?_
  refine j_iload_n ok dX6_gamesIfNoted_2 rfl 2 rfl ?_
  refine j_iload_n ok dX6_gamesIfNoted_3 rfl 3 rfl ?_
  refine j_iload ok dX6_gamesIfNoted_4 4 rfl ?_
  obtain ⟨kq1, h⟩ := ck_some h
  obtain ⟨q1, hq1, h⟩ := obind h
  cases eq1 : q1.1 with
  | inr v2 =>
    rw [eq1] at h; dsimp only [thr] at h
    obtain ⟨er, eG⟩ := inj2 h
    subst er; subst eG
    exact k_VX ok kl_X6_127 ⟨Nat.le_of_ble_eq_true rfl, Nat.le_of_ble_eq_true rfl⟩ [.int l1, .int l2, .int l3, .int l4] kq1 rfl rfl (Nat.le_of_ble_eq_true rfl) (by have z := tX6_requireStatable ok.fl X.V l0 l1 l2 l3 l4 G hq1; rw [eq1] at z; exact z) dX6_gamesIfNoted_6 hK
  | inl v2 =>
    rw [eq1] at h; dsimp only [thr] at h
    refine k_V0 ok kl_X6_127 ⟨Nat.le_of_ble_eq_true rfl, Nat.le_of_ble_eq_true rfl⟩ [.int l1, .int l2, .int l3, .int l4] kq1 rfl rfl (Nat.le_of_ble_eq_true rfl) (by have z := tX6_requireStatable ok.fl X.V l0 l1 l2 l3 l4 G hq1; rw [eq1] at z; exact z) dX6_gamesIfNoted_6 ?_
    refine j_aload_n ok dX6_gamesIfNoted_9 rfl 0 rfl ?_
    obtain ⟨v3, hv3, h⟩ := obind h
    refine k_getR ok fl_X6_26 hv3 dX6_gamesIfNoted_10 ?_
    refine j_iload_n ok dX6_gamesIfNoted_13 rfl 1 rfl ?_
    refine j_iload_n ok dX6_gamesIfNoted_14 rfl 2 rfl ?_
    refine j_iload_n ok dX6_gamesIfNoted_15 rfl 3 rfl ?_
    refine j_iload ok dX6_gamesIfNoted_16 4 rfl ?_
    refine j_iload ok dX6_gamesIfNoted_18 5 rfl ?_
    refine j_iload ok dX6_gamesIfNoted_20 6 rfl ?_
    obtain ⟨kq4, h⟩ := ck_some h
    obtain ⟨q4, hq4, h⟩ := obind h
    refine k_V0 ok kl_X6_131 ⟨Nat.le_of_ble_eq_true rfl, Nat.le_of_ble_eq_true rfl⟩ [.int l1, .int l2, .int l3, .int l4, .int l5, .int l6] kq4 rfl rfl (Nat.le_of_ble_eq_true rfl) (tX1_state ok.fl X.V v3 l1 l2 l3 l4 l5 l6 q1.2 hq4) dX6_gamesIfNoted_22 ?_
    refine j_aload_n ok dX6_gamesIfNoted_25 rfl 0 rfl ?_
    obtain ⟨kq5, h⟩ := ck_some h
    obtain ⟨q5, hq5, h⟩ := obind h
    refine k_V1 ok kl_X6_135 ⟨Nat.le_of_ble_eq_true rfl, Nat.le_of_ble_eq_true rfl⟩ [] kq5 rfl rfl (Nat.le_of_ble_eq_true rfl) (tX6_followAsked ok.fl X.V l0 q4.2 hq5) dX6_gamesIfNoted_26 ?_
    refine j_istore (L' := [(7, .int q5.1), (0, .ref (X.B + l0)), (1, .int l1), (2, .int l2), (3, .int l3), (4, .int l4), (5, .int l5), (6, .int l6)]) ok dX6_gamesIfNoted_29 (by decide) rfl ?_
    refine j_iload ok dX6_gamesIfNoted_31 0 rfl ?_
    refine j_iconst (v := 1) ok dX6_gamesIfNoted_33 (by decide) ?_
    rcases ite_some h with ⟨c6, h⟩ | ⟨c6, h⟩
    · refine j_icmp_ge (tgt := 43) ok dX6_gamesIfNoted_34 (by decide) (fun _ => ?_) (fun z => absurd c6 z)
      refine j_aload_n ok dX6_gamesIfNoted_43 rfl 1 rfl ?_
      obtain ⟨v7, hv7, h⟩ := obind h
      refine k_getR ok fl_X6_37 hv7 dX6_gamesIfNoted_44 ?_
      obtain ⟨kq8, h⟩ := ck_some h
      obtain ⟨q8, hq8, h⟩ := obind h
      refine k_V1 ok kl_X6_271 ⟨Nat.le_of_ble_eq_true rfl, Nat.le_of_ble_eq_true rfl⟩ [] kq8 rfl rfl (Nat.le_of_ble_eq_true rfl) (tX3_gameTotal ok.fl X.V v7 q5.2 hq8) dX6_gamesIfNoted_47 ?_
      exact J.sub [] rfl (jX6_gamesIfNoted_50 ok q8.1 q8.2 h hK)
    · refine j_icmp_ge (tgt := 43) ok dX6_gamesIfNoted_34 (by decide) (fun z => absurd z c6) (fun _ => ?_)
      refine j_iload ok dX6_gamesIfNoted_37 0 rfl ?_
      refine j_i2l ok dX6_gamesIfNoted_39 ?_
      refine j_goto (tgt := 50) ok dX6_gamesIfNoted_40 (by decide) ?_
      exact J.sub [] rfl (jX6_gamesIfNoted_50 ok (q5.1.toInt64) q5.2 h hK)

def fX6_gamesIfNoted (l0 : Nat) (l1 : Int32) (l2 : Int32) (l3 : Int32) (l4 : Int32) (l5 : Int32) (l6 : Int32) (G : Mem) : Option ((Int64 ⊕ Nat) × Mem) := fX6_gamesIfNoted_0 l0 l1 l2 l3 l4 l5 l6 G
set_option maxRecDepth 100000 in
theorem tX6_gamesIfNoted {l : Launch} (hfl : l.stackTraces = false) (V : Wd) (l0 : Nat) (l1 : Int32) (l2 : Int32) (l3 : Int32) (l4 : Int32) (l5 : Int32) (l6 : Int32) (G : Mem) {r : (Int64 ⊕ Nat)} {G' : Mem} (h : fX6_gamesIfNoted l0 l1 l2 l3 l4 l5 l6 G = some (r, G')) : Mx l yX6_gamesIfNoted cX6_gamesIfNoted 8 (some .long) 9 237 V [.ref (V.B + l0), .int l1, .int l2, .int l3, .int l4, .int l5, .int l6] G (rzJ r) G' :=
  mx_of (L := [(0, .ref (V.B + l0)), (1, .int l1), (2, .int l2), (3, .int l3), (4, .int l4), (5, .int l5), (6, .int l6)]) hfl (by decide +kernel) (Nat.le_of_ble_eq_true rfl) rfl (fun X hl hV hin ok he => by
    subst hl; subst hV
    exact J.sub [0, 1, 2, 3, 4, 5, 6] rfl (jX6_gamesIfNoted_0 ok l0 l1 l2 l3 l4 l5 l6 G h (by cases r <;> exact he)))
def fX6_gamesTo_0 (l0 : Nat) (l1 : Int32)  (G : Mem) : Option ((Int64 ⊕ Nat) × Mem) :=
  ck G 16 l0 <| (fX6_requirePosition l0 l1 G).bind fun q1 => thr q1.1 (fun v2 =>
    (gR q1.2 16 l0 3).bind fun v3 =>
    ck q1.2 13 v3 <| (fX3_gamesToLast v3 l1 q1.2).bind fun q4 =>
    some (.inl q4.1, q4.2)) q1.2

set_option maxRecDepth 100000 in
set_option maxHeartbeats 4000000 in
theorem jX6_gamesTo_0 {X : Cx} (ok : OK X cX6_gamesTo RX6 (some .long) 2 9 181) (l0 : Nat) (l1 : Int32)  (G : Mem) {r : (Int64 ⊕ Nat)} {G' : Mem} (h : fX6_gamesTo_0 l0 l1 G = some (r, G')) (hK : (finT X (finJ X)) r G') : J X 2 0 [(0, .ref (X.B + l0)), (1, .int l1)] [] G := by
  unfold fX6_gamesTo_0 at h
  refine j_aload_n ok dX6_gamesTo_0 rfl 0 rfl ?_
  refine j_iload_n ok dX6_gamesTo_1 rfl 1 rfl ?_
  obtain ⟨kq1, h⟩ := ck_some h
  obtain ⟨q1, hq1, h⟩ := obind h
  cases eq1 : q1.1 with
  | inr v2 =>
    rw [eq1] at h; dsimp only [thr] at h
    obtain ⟨er, eG⟩ := inj2 h
    subst er; subst eG
    exact k_VX ok kl_X6_224 ⟨Nat.le_of_ble_eq_true rfl, Nat.le_of_ble_eq_true rfl⟩ [.int l1] kq1 rfl rfl (Nat.le_of_ble_eq_true rfl) (by have z := tX6_requirePosition ok.fl X.V l0 l1 G hq1; rw [eq1] at z; exact z) dX6_gamesTo_2 hK
  | inl v2 =>
    rw [eq1] at h; dsimp only [thr] at h
    refine k_V0 ok kl_X6_224 ⟨Nat.le_of_ble_eq_true rfl, Nat.le_of_ble_eq_true rfl⟩ [.int l1] kq1 rfl rfl (Nat.le_of_ble_eq_true rfl) (by have z := tX6_requirePosition ok.fl X.V l0 l1 G hq1; rw [eq1] at z; exact z) dX6_gamesTo_2 ?_
    refine j_aload_n ok dX6_gamesTo_5 rfl 0 rfl ?_
    obtain ⟨v3, hv3, h⟩ := obind h
    refine k_getR ok fl_X6_33 hv3 dX6_gamesTo_6 ?_
    refine j_iload_n ok dX6_gamesTo_9 rfl 1 rfl ?_
    obtain ⟨kq4, h⟩ := ck_some h
    obtain ⟨q4, hq4, h⟩ := obind h
    refine k_V1 ok kl_X6_260 ⟨Nat.le_of_ble_eq_true rfl, Nat.le_of_ble_eq_true rfl⟩ [.int l1] kq4 rfl rfl (Nat.le_of_ble_eq_true rfl) (tX3_gamesToLast ok.fl X.V v3 l1 q1.2 hq4) dX6_gamesTo_10 ?_
    obtain ⟨er, eG⟩ := inj2 h
    subst er; subst eG
    exact j_lret ok rfl dX6_gamesTo_13 hK

def fX6_gamesTo (l0 : Nat) (l1 : Int32) (G : Mem) : Option ((Int64 ⊕ Nat) × Mem) := fX6_gamesTo_0 l0 l1 G
set_option maxRecDepth 100000 in
theorem tX6_gamesTo {l : Launch} (hfl : l.stackTraces = false) (V : Wd) (l0 : Nat) (l1 : Int32) (G : Mem) {r : (Int64 ⊕ Nat)} {G' : Mem} (h : fX6_gamesTo l0 l1 G = some (r, G')) : Mx l yX6_gamesTo cX6_gamesTo 2 (some .long) 9 181 V [.ref (V.B + l0), .int l1] G (rzJ r) G' :=
  mx_of (L := [(0, .ref (V.B + l0)), (1, .int l1)]) hfl (by decide +kernel) (Nat.le_of_ble_eq_true rfl) rfl (fun X hl hV hin ok he => by
    subst hl; subst hV
    exact J.sub [0, 1] rfl (jX6_gamesTo_0 ok l0 l1 G h (by cases r <;> exact he)))
def fX6_requireMove_0 (l0 : Nat) (l1 : Int32) (l2 : Int32)  (G : Mem) : Option ((Int32 ⊕ Nat) × Mem) :=
  ck G 16 l0 <| (fX6_requireNote l0 l1 G).bind fun q1 => thr q1.1 (fun v2 =>
    (gR q1.2 16 l0 1).bind fun v3 =>
    (gR q1.2 16 l0 3).bind fun v4 =>
    ck q1.2 14 v3 <| (fX4_countGames v3 v4 l1 q1.2).bind fun q5 =>
    (gR q5.2 16 l0 1).bind fun v6 =>
    ck q5.2 14 v6 <| (fX4_moveAt v6 l2 q5.2).bind fun q7 =>
    if q7.1 = (-1 : Int32) then
      thw 2 q7.2
    else
      some (.inl q7.1, q7.2)) q1.2

set_option maxRecDepth 100000 in
set_option maxHeartbeats 4000000 in
theorem jX6_requireMove_0 {X : Cx} (ok : OK X cX6_requireMove RX6 (some .int) 4 9 181) (l0 : Nat) (l1 : Int32) (l2 : Int32)  (G : Mem) {r : (Int32 ⊕ Nat)} {G' : Mem} (h : fX6_requireMove_0 l0 l1 l2 G = some (r, G')) (hK : (finT X (finI X)) r G') : J X 4 0 [(0, .ref (X.B + l0)), (1, .int l1), (2, .int l2)] [] G := by
  unfold fX6_requireMove_0 at h
  refine j_aload_n ok dX6_requireMove_0 rfl 0 rfl ?_
  refine j_iload_n ok dX6_requireMove_1 rfl 1 rfl ?_
  obtain ⟨kq1, h⟩ := ck_some h
  obtain ⟨q1, hq1, h⟩ := obind h
  cases eq1 : q1.1 with
  | inr v2 =>
    rw [eq1] at h; dsimp only [thr] at h
    obtain ⟨er, eG⟩ := inj2 h
    subst er; subst eG
    exact k_VX ok kl_X6_147 ⟨Nat.le_of_ble_eq_true rfl, Nat.le_of_ble_eq_true rfl⟩ [.int l1] kq1 rfl rfl (Nat.le_of_ble_eq_true rfl) (by have z := tX6_requireNote ok.fl X.V l0 l1 G hq1; rw [eq1] at z; exact z) dX6_requireMove_2 hK
  | inl v2 =>
    rw [eq1] at h; dsimp only [thr] at h
    refine k_V0 ok kl_X6_147 ⟨Nat.le_of_ble_eq_true rfl, Nat.le_of_ble_eq_true rfl⟩ [.int l1] kq1 rfl rfl (Nat.le_of_ble_eq_true rfl) (by have z := tX6_requireNote ok.fl X.V l0 l1 G hq1; rw [eq1] at z; exact z) dX6_requireMove_2 ?_
    refine j_aload_n ok dX6_requireMove_5 rfl 0 rfl ?_
    obtain ⟨v3, hv3, h⟩ := obind h
    refine k_getR ok fl_X6_19 hv3 dX6_requireMove_6 ?_
    refine j_aload_n ok dX6_requireMove_9 rfl 0 rfl ?_
    obtain ⟨v4, hv4, h⟩ := obind h
    refine k_getR ok fl_X6_33 hv4 dX6_requireMove_10 ?_
    refine j_iload_n ok dX6_requireMove_13 rfl 1 rfl ?_
    obtain ⟨kq5, h⟩ := ck_some h
    obtain ⟨q5, hq5, h⟩ := obind h
    refine k_V0 ok kl_X6_275 ⟨Nat.le_of_ble_eq_true rfl, Nat.le_of_ble_eq_true rfl⟩ [.ref (X.B + v4), .int l1] kq5 rfl rfl (Nat.le_of_ble_eq_true rfl) (tX4_countGames ok.fl X.V v3 v4 l1 q1.2 hq5) dX6_requireMove_14 ?_
    refine j_aload_n ok dX6_requireMove_17 rfl 0 rfl ?_
    obtain ⟨v6, hv6, h⟩ := obind h
    refine k_getR ok fl_X6_19 hv6 dX6_requireMove_18 ?_
    refine j_iload_n ok dX6_requireMove_21 rfl 2 rfl ?_
    obtain ⟨kq7, h⟩ := ck_some h
    obtain ⟨q7, hq7, h⟩ := obind h
    refine k_V1 ok kl_X6_334 ⟨Nat.le_of_ble_eq_true rfl, Nat.le_of_ble_eq_true rfl⟩ [.int l2] kq7 rfl rfl (Nat.le_of_ble_eq_true rfl) (tX4_moveAt ok.fl X.V v6 l2 q5.2 hq7) dX6_requireMove_22 ?_
    refine j_istore_n (L' := [(3, .int q7.1), (0, .ref (X.B + l0)), (1, .int l1), (2, .int l2)]) ok dX6_requireMove_25 rfl (by decide) rfl ?_
    refine j_iload_n ok dX6_requireMove_26 rfl 0 rfl ?_
    refine j_iconst (v := -1) ok dX6_requireMove_27 (by decide) ?_
    rcases ite_some h with ⟨c8, h⟩ | ⟨c8, h⟩
    · refine j_icmp_ne (tgt := 42) ok dX6_requireMove_28 (by decide) (fun z => absurd c8 z) (fun _ => ?_)
      obtain ⟨hcap, h⟩ := thw_some h
      obtain ⟨er, eG⟩ := inj2 h
      subst er; subst eG
      exact k_throwW ok kt_X6_319 st_X6_337 dX6_requireMove_31 dX6_requireMove_34 dX6_requireMove_35 dX6_requireMove_38 dX6_requireMove_41 hcap (by decide) (by decide) (Nat.le_of_ble_eq_true rfl) hK
    · refine j_icmp_ne (tgt := 42) ok dX6_requireMove_28 (by decide) (fun _ => ?_) (fun z => absurd z c8)
      refine j_iload_n ok dX6_requireMove_42 rfl 0 rfl ?_
      obtain ⟨er, eG⟩ := inj2 h
      subst er; subst eG
      exact j_iret ok rfl dX6_requireMove_43 hK

def fX6_requireMove (l0 : Nat) (l1 : Int32) (l2 : Int32) (G : Mem) : Option ((Int32 ⊕ Nat) × Mem) := fX6_requireMove_0 l0 l1 l2 G
set_option maxRecDepth 100000 in
theorem tX6_requireMove {l : Launch} (hfl : l.stackTraces = false) (V : Wd) (l0 : Nat) (l1 : Int32) (l2 : Int32) (G : Mem) {r : (Int32 ⊕ Nat)} {G' : Mem} (h : fX6_requireMove l0 l1 l2 G = some (r, G')) : Mx l yX6_requireMove cX6_requireMove 4 (some .int) 9 181 V [.ref (V.B + l0), .int l1, .int l2] G (rzI r) G' :=
  mx_of (L := [(0, .ref (V.B + l0)), (1, .int l1), (2, .int l2)]) hfl (by decide +kernel) (Nat.le_of_ble_eq_true rfl) rfl (fun X hl hV hin ok he => by
    subst hl; subst hV
    exact J.sub [0, 1, 2] rfl (jX6_requireMove_0 ok l0 l1 l2 G h (by cases r <;> exact he)))
def fX6_gamesWithMove_0 (l0 : Nat) (l1 : Int32) (l2 : Int32)  (G : Mem) : Option ((Int64 ⊕ Nat) × Mem) :=
  (gR G 16 l0 1).bind fun v1 =>
  (gR G 14 v1 0).bind fun v2 =>
  ck G 16 l0 <| (fX6_requireMove l0 l1 l2 G).bind fun q3 => thr q3.1 (fun v4 =>
    (gJ q3.2 v2 v4).bind fun v5 =>
    some (.inl v5, q3.2)) q3.2

set_option maxRecDepth 100000 in
set_option maxHeartbeats 4000000 in
theorem jX6_gamesWithMove_0 {X : Cx} (ok : OK X cX6_gamesWithMove RX6 (some .long) 3 10 204) (l0 : Nat) (l1 : Int32) (l2 : Int32)  (G : Mem) {r : (Int64 ⊕ Nat)} {G' : Mem} (h : fX6_gamesWithMove_0 l0 l1 l2 G = some (r, G')) (hK : (finT X (finJ X)) r G') : J X 3 0 [(0, .ref (X.B + l0)), (1, .int l1), (2, .int l2)] [] G := by
  unfold fX6_gamesWithMove_0 at h
  refine j_aload_n ok dX6_gamesWithMove_0 rfl 0 rfl ?_
  obtain ⟨v1, hv1, h⟩ := obind h
  refine k_getR ok fl_X6_19 hv1 dX6_gamesWithMove_1 ?_
  obtain ⟨v2, hv2, h⟩ := obind h
  refine k_getR ok fl_X6_285 hv2 dX6_gamesWithMove_4 ?_
  refine j_aload_n ok dX6_gamesWithMove_7 rfl 0 rfl ?_
  refine j_iload_n ok dX6_gamesWithMove_8 rfl 1 rfl ?_
  refine j_iload_n ok dX6_gamesWithMove_9 rfl 2 rfl ?_
  obtain ⟨kq3, h⟩ := ck_some h
  obtain ⟨q3, hq3, h⟩ := obind h
  cases eq3 : q3.1 with
  | inr v4 =>
    rw [eq3] at h; dsimp only [thr] at h
    obtain ⟨er, eG⟩ := inj2 h
    subst er; subst eG
    exact k_VX ok kl_X6_282 ⟨Nat.le_of_ble_eq_true rfl, Nat.le_of_ble_eq_true rfl⟩ [.int l1, .int l2] kq3 rfl rfl (Nat.le_of_ble_eq_true rfl) (by have z := tX6_requireMove ok.fl X.V l0 l1 l2 G hq3; rw [eq3] at z; exact z) dX6_gamesWithMove_10 hK
  | inl v4 =>
    rw [eq3] at h; dsimp only [thr] at h
    refine k_V1 (v := .int v4) ok kl_X6_282 ⟨Nat.le_of_ble_eq_true rfl, Nat.le_of_ble_eq_true rfl⟩ [.int l1, .int l2] kq3 rfl rfl (Nat.le_of_ble_eq_true rfl) (by have z := tX6_requireMove ok.fl X.V l0 l1 l2 G hq3; rw [eq3] at z; exact z) dX6_gamesWithMove_10 ?_
    obtain ⟨v5, hv5, h⟩ := obind h
    refine j_lald ok hv5 dX6_gamesWithMove_13 ?_
    obtain ⟨er, eG⟩ := inj2 h
    subst er; subst eG
    exact j_lret ok rfl dX6_gamesWithMove_14 hK

def fX6_gamesWithMove (l0 : Nat) (l1 : Int32) (l2 : Int32) (G : Mem) : Option ((Int64 ⊕ Nat) × Mem) := fX6_gamesWithMove_0 l0 l1 l2 G
set_option maxRecDepth 100000 in
theorem tX6_gamesWithMove {l : Launch} (hfl : l.stackTraces = false) (V : Wd) (l0 : Nat) (l1 : Int32) (l2 : Int32) (G : Mem) {r : (Int64 ⊕ Nat)} {G' : Mem} (h : fX6_gamesWithMove l0 l1 l2 G = some (r, G')) : Mx l yX6_gamesWithMove cX6_gamesWithMove 3 (some .long) 10 204 V [.ref (V.B + l0), .int l1, .int l2] G (rzJ r) G' :=
  mx_of (L := [(0, .ref (V.B + l0)), (1, .int l1), (2, .int l2)]) hfl (by decide +kernel) (Nat.le_of_ble_eq_true rfl) rfl (fun X hl hV hin ok he => by
    subst hl; subst hV
    exact J.sub [0, 1, 2] rfl (jX6_gamesWithMove_0 ok l0 l1 l2 G h (by cases r <;> exact he)))
