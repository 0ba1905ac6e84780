def fX7_remember_36 (l0 : Nat) (l1 : Nat)  (G : Mem) : Option (Unit × Mem) :=
  (gR G 17 l0 1).bind fun v1 =>
  (gF G 17 l0 5).bind fun v2 =>
  (fX7_copy l1 (0 : Int32) v1 (v2 * (109 : Int32)) G).bind fun q3 =>
  (gF q3.2 17 l0 5).bind fun v4 =>
  (pI q3.2 17 l0 5 (v4 + (1 : Int32))).bind fun G5 =>
  some ((), G5)

set_option maxRecDepth 100000 in
set_option maxHeartbeats 4000000 in
theorem jX7_remember_36 {X : Cx} (ok : OK X cX7_remember RX7 none 2 2 143) (l0 : Nat) (l1 : Nat)  (G : Mem) {r : Unit} {G' : Mem} (h : fX7_remember_36 l0 l1 G = some (r, G')) (hK : (finV X) r G') : J X 2 36 [(0, .ref (X.B + l0)), (1, .ref (X.B + l1))] [] G := by
  unfold fX7_remember_36 at h
  refine j_aload_n ok dX7_remember_36 rfl 1 rfl ?_
  refine j_iconst (v := 0) ok dX7_remember_37 (by decide) ?_
  refine j_aload_n ok dX7_remember_38 rfl 0 rfl ?_
  obtain ⟨v1, hv1, h⟩ := obind h
  refine k_getR ok fl_X7_13 hv1 dX7_remember_39 ?_
  refine j_aload_n ok dX7_remember_42 rfl 0 rfl ?_
  obtain ⟨v2, hv2, h⟩ := obind h
  refine k_getI ok fl_X7_83 hv2 dX7_remember_43 ?_
  refine j_bipush (v := 109) ok dX7_remember_46 (by decide) ?_
  refine j_imul ok dX7_remember_48 ?_
  obtain ⟨q3, hq3, h⟩ := obind h
  refine k_S0 ok kl_X7_95 ⟨Nat.le_of_ble_eq_true rfl, Nat.le_of_ble_eq_true rfl⟩ [.ref (X.B + l1), .int (0 : Int32), .ref (X.B + v1), .int (v2 * (109 : Int32))] rfl rfl (Nat.le_of_ble_eq_true rfl) (tX7_copy ok.fl X.V l1 (0 : Int32) v1 (v2 * (109 : Int32)) G hq3) dX7_remember_49 ?_
  refine j_aload_n ok dX7_remember_52 rfl 0 rfl ?_
  refine j_dup ok dX7_remember_53 rfl ?_
  obtain ⟨v4, hv4, h⟩ := obind h
  refine k_getI ok fl_X7_83 hv4 dX7_remember_54 ?_
  refine j_iconst (v := 1) ok dX7_remember_57 (by decide) ?_
  refine j_iadd ok dX7_remember_58 ?_
  obtain ⟨G5, hG5, h⟩ := obind h
  refine k_putI ok fl_X7_83 fp_X7 rfl (Or.inl rfl) hG5 dX7_remember_59 ?_
  obtain ⟨er, eG⟩ := inj2 h
  subst er; subst eG
  exact j_vret ok rfl dX7_remember_62 hK

def fX7_remember_0 (l0 : Nat) (l1 : Nat)  (G : Mem) : Option (Unit × Mem) :=
  (gF G 17 l0 5).bind fun v1 =>
  if v1 = (8 : Int32) then
    (gR G 17 l0 1).bind fun v3 =>
    (gR G 17 l0 1).bind fun v4 =>
    (cpI G v3 (109 : Int32) v4 (0 : Int32) (763 : Int32)).bind fun G5 =>
    (gF G5 17 l0 5).bind fun v6 =>
    (pI G5 17 l0 5 (v6 - (1 : Int32))).bind fun G7 =>
    fX7_remember_36 l0 l1 G7
  else
    fX7_remember_36 l0 l1 G

set_option maxRecDepth 100000 in
set_option maxHeartbeats 4000000 in
theorem jX7_remember_0 {X : Cx} (ok : OK X cX7_remember RX7 none 2 2 143) (l0 : Nat) (l1 : Nat)  (G : Mem) {r : Unit} {G' : Mem} (h : fX7_remember_0 l0 l1 G = some (r, G')) (hK : (finV X) r G') : J X 2 0 [(0, .ref (X.B + l0)), (1, .ref (X.B + l1))] [] G := by
  unfold fX7_remember_0 at h
  refine j_aload_n ok dX7_remember_0 rfl 0 rfl ?_
  obtain ⟨v1, hv1, h⟩ := obind h
  refine k_getI ok fl_X7_83 hv1 dX7_remember_1 ?_
  refine j_bipush (v := 8) ok dX7_remember_4 (by decide) ?_
  rcases ite_some h with ⟨c2, h⟩ | ⟨c2, h⟩
  · refine j_icmp_ne (tgt := 36) ok dX7_remember_6 (by decide) (fun z => absurd c2 z) (fun _ => ?_)
    refine j_aload_n ok dX7_remember_9 rfl 0 rfl ?_
    obtain ⟨v3, hv3, h⟩ := obind h
    refine k_getR ok fl_X7_13 hv3 dX7_remember_10 ?_
    refine j_bipush (v := 109) ok dX7_remember_13 (by decide) ?_
    refine j_aload_n ok dX7_remember_15 rfl 0 rfl ?_
    obtain ⟨v4, hv4, h⟩ := obind h
    refine k_getR ok fl_X7_13 hv4 dX7_remember_16 ?_
    refine j_iconst (v := 0) ok dX7_remember_19 (by decide) ?_
    refine j_sipush (v := 763) ok dX7_remember_20 (by decide) ?_
    obtain ⟨G5, hG5, h⟩ := obind h
    refine k_cpI ok wm_X7_89 (Nat.le_of_ble_eq_true rfl) (Nat.le_of_ble_eq_true rfl) (Nat.le_of_ble_eq_true rfl) hG5 dX7_remember_23 ?_
    refine j_aload_n ok dX7_remember_26 rfl 0 rfl ?_
    refine j_dup ok dX7_remember_27 rfl ?_
    obtain ⟨v6, hv6, h⟩ := obind h
    refine k_getI ok fl_X7_83 hv6 dX7_remember_28 ?_
    refine j_iconst (v := 1) ok dX7_remember_31 (by decide) ?_
    refine j_isub ok dX7_remember_32 ?_
    obtain ⟨G7, hG7, h⟩ := obind h
    refine k_putI ok fl_X7_83 fp_X7 rfl (Or.inl rfl) hG7 dX7_remember_33 ?_
    exact J.sub [0, 1] rfl (jX7_remember_36 ok l0 l1 G7 h hK)
  · refine j_icmp_ne (tgt := 36) ok dX7_remember_6 (by decide) (fun _ => ?_) (fun z => absurd z c2)
    exact J.sub [0, 1] rfl (jX7_remember_36 ok l0 l1 G h hK)

def fX7_remember (l0 : Nat) (l1 : Nat) (G : Mem) : Option (Unit × Mem) := fX7_remember_0 l0 l1 G
set_option maxRecDepth 100000 in
theorem tX7_remember {l : Launch} (hfl : l.stackTraces = false) (V : Wd) (l0 : Nat) (l1 : Nat) (G : Mem) {r : Unit} {G' : Mem} (h : fX7_remember l0 l1 G = some (r, G')) : Mx l yX7_remember cX7_remember 2 none 2 143 V [.ref (V.B + l0), .ref (V.B + l1)] G (.inl none) G' :=
  mx_of (L := [(0, .ref (V.B + l0)), (1, .ref (V.B + l1))]) hfl (by decide +kernel) (Nat.le_of_ble_eq_true rfl) rfl (fun X hl hV hin ok he => by
    subst hl; subst hV
    exact J.sub [0, 1] rfl (jX7_remember_0 ok l0 l1 G h he))
def fX7_fromOf_0 (l0 : Int32)  (G : Mem) : Option (Int32 × Mem) :=
  some (((l0 / (1296 : Int32)) / (40 : Int32)), G)

set_option maxRecDepth 100000 in
set_option maxHeartbeats 4000000 in
theorem jX7_fromOf_0 {X : Cx} (ok : OK X cX7_fromOf RX7 (some .int) 1 0 0) (l0 : Int32)  (G : Mem) {r : Int32} {G' : Mem} (h : fX7_fromOf_0 l0 G = some (r, G')) (hK : (finI X) r G') : J X 1 0 [(0, .int l0)] [] G := by
  unfold fX7_fromOf_0 at h
  refine j_iload_n ok dX7_fromOf_0 rfl 0 rfl ?_
  refine j_sipush (v := 1296) ok dX7_fromOf_1 (by decide) ?_
  refine j_idiv ok dX7_fromOf_4 (by decide) ?_
  refine j_bipush (v := 40) ok dX7_fromOf_5 (by decide) ?_
  refine j_idiv ok dX7_fromOf_7 (by decide) ?_
  obtain ⟨er, eG⟩ := inj2 h
  subst er; subst eG
  exact j_iret ok rfl dX7_fromOf_8 hK

def fX7_fromOf (l0 : Int32) (G : Mem) : Option (Int32 × Mem) := fX7_fromOf_0 l0 G
set_option maxRecDepth 100000 in
theorem tX7_fromOf {l : Launch} (hfl : l.stackTraces = false) (V : Wd) (l0 : Int32) (G : Mem) {r : Int32} {G' : Mem} (h : fX7_fromOf l0 G = some (r, G')) : Mx l yX7_fromOf cX7_fromOf 1 (some .int) 0 0 V [.int l0] G (.inl (some (.int r))) G' :=
  mx_of (L := [(0, .int l0)]) hfl (by decide +kernel) (Nat.le_of_ble_eq_true rfl) rfl (fun X hl hV hin ok he => by
    subst hl; subst hV
    exact J.sub [0] rfl (jX7_fromOf_0 ok l0 G h he))
def fX7_toOf_0 (l0 : Int32)  (G : Mem) : Option (Int32 × Mem) :=
  some (((l0 / (1296 : Int32)) - (l0 / (1296 : Int32)) / (40 : Int32) * (40 : Int32)), G)

set_option maxRecDepth 100000 in
set_option maxHeartbeats 4000000 in
theorem jX7_toOf_0 {X : Cx} (ok : OK X cX7_toOf RX7 (some .int) 1 0 0) (l0 : Int32)  (G : Mem) {r : Int32} {G' : Mem} (h : fX7_toOf_0 l0 G = some (r, G')) (hK : (finI X) r G') : J X 1 0 [(0, .int l0)] [] G := by
  unfold fX7_toOf_0 at h
  refine j_iload_n ok dX7_toOf_0 rfl 0 rfl ?_
  refine j_sipush (v := 1296) ok dX7_toOf_1 (by decide) ?_
  refine j_idiv ok dX7_toOf_4 (by decide) ?_
  refine j_bipush (v := 40) ok dX7_toOf_5 (by decide) ?_
  refine j_irem ok dX7_toOf_7 (by decide) ?_
  obtain ⟨er, eG⟩ := inj2 h
  subst er; subst eG
  exact j_iret ok rfl dX7_toOf_8 hK

def fX7_toOf (l0 : Int32) (G : Mem) : Option (Int32 × Mem) := fX7_toOf_0 l0 G
set_option maxRecDepth 100000 in
theorem tX7_toOf {l : Launch} (hfl : l.stackTraces = false) (V : Wd) (l0 : Int32) (G : Mem) {r : Int32} {G' : Mem} (h : fX7_toOf l0 G = some (r, G')) : Mx l yX7_toOf cX7_toOf 1 (some .int) 0 0 V [.int l0] G (.inl (some (.int r))) G' :=
  mx_of (L := [(0, .int l0)]) hfl (by decide +kernel) (Nat.le_of_ble_eq_true rfl) rfl (fun X hl hV hin ok he => by
    subst hl; subst hV
    exact J.sub [0] rfl (jX7_toOf_0 ok l0 G h he))
def fX7_countsBehind_148   (G : Mem) : Option (Unit × Mem) :=
  some ((), G)

set_option maxRecDepth 100000 in
set_option maxHeartbeats 4000000 in
theorem jX7_countsBehind_148 {X : Cx} (ok : OK X cX7_countsBehind RX7 none 5 1 20)   (G : Mem) {r : Unit} {G' : Mem} (h : fX7_countsBehind_148  G = some (r, G')) (hK : (finV X) r G') : J X 5 148 [] [] G := by
  unfold fX7_countsBehind_148 at h
  obtain ⟨er, eG⟩ := inj2 h
  subst er; subst eG
  exact j_vret ok rfl dX7_countsBehind_148 hK

def fX7_countsBehind_142 (l0 : Nat) (l2 : Int32)  (G : Mem) : Option (((Int32) ⊕ Unit) × Mem) :=
  some (.inl ((l2 + (-1 : Int32))), G)

set_option maxRecDepth 100000 in
set_option maxHeartbeats 4000000 in
theorem jX7_countsBehind_142 {X : Cx} (ok : OK X cX7_countsBehind RX7 none 5 1 20) (l0 : Nat) (l2 : Int32)  (G : Mem) {r : ((Int32) ⊕ Unit)} {G' : Mem} (h : fX7_countsBehind_142 l0 l2 G = some (r, G')) (hK : (finL X 5 41 (fun s : Int32 => [(0, .ref (X.B + l0)), (2, .int s)]) (finV X)) r G') : J X 5 142 [(0, .ref (X.B + l0)), (2, .int l2)] [] G := by
  unfold fX7_countsBehind_142 at h
  refine j_iinc (L' := [(2, .int (l2 + (-1 : Int32))), (0, .ref (X.B + l0))]) (v := (l2 + (-1 : Int32))) ok dX7_countsBehind_142 (q := 1) rfl rfl (by decide) rfl ?_
  refine j_goto (tgt := 41) ok dX7_countsBehind_145 (by decide) ?_
  obtain ⟨er, eG⟩ := inj2 h
  subst er; subst eG
  have hJ : J X 5 41 [(0, .ref (X.B + l0)), (2, .int (l2 + (-1 : Int32)))] [] G := hK
  exact J.sub [1, 0] rfl hJ

def fX7_countsBehind_77 (l0 : Nat) (l2 : Int32) (l3 : Int32)  (G : Mem) : Option (((Int32) ⊕ ((Int32) ⊕ Unit)) × Mem) :=
  (gR G 17 l0 16).bind fun v1 =>
  (gA G 1 v1 l2).bind fun v2 =>
  if v2 ≤ l3 then
    liftE (fX7_countsBehind_142 l0 l2 G)
  else
    (gR G 17 l0 15).bind fun v4 =>
    (gA G 1 v4 ((l2 * (1600 : Int32)) + l3)).bind fun v5 =>
    (gR G 17 l0 19).bind fun v6 =>
    (fX7_fromOf v5 G).bind fun q7 =>
    (gJ q7.2 v6 ((l2 * (40 : Int32)) + q7.1)).bind fun v8 =>
    (gR q7.2 17 l0 19).bind fun v9 =>
    (fX7_toOf v5 q7.2).bind fun q10 =>
    (gJ q10.2 v9 (((l2 + (1 : Int32)) * (40 : Int32)) + q10.1)).bind fun v11 =>
    (pJ q10.2 v6 ((l2 * (40 : Int32)) + q7.1) (v8 + v11)).bind fun G12 =>
    some (.inl ((l3 + (1 : Int32))), G12)

set_option maxRecDepth 100000 in
set_option maxHeartbeats 4000000 in
theorem jX7_countsBehind_77 {X : Cx} (ok : OK X cX7_countsBehind RX7 none 5 1 20) (l0 : Nat) (l2 : Int32) (l3 : Int32)  (G : Mem) {r : ((Int32) ⊕ ((Int32) ⊕ Unit))} {G' : Mem} (h : fX7_countsBehind_77 l0 l2 l3 G = some (r, G')) (hK : (finL X 5 77 (fun s : Int32 => [(0, .ref (X.B + l0)), (2, .int l2), (3, .int s)]) (finL X 5 41 (fun s : Int32 => [(0, .ref (X.B + l0)), (2, .int s)]) (finV X))) r G') : J X 5 77 [(0, .ref (X.B + l0)), (2, .int l2), (3, .int l3)] [] G := by
  unfold fX7_countsBehind_77 at h
  refine j_iload_n ok dX7_countsBehind_77 rfl 2 rfl ?_
  refine j_aload_n ok dX7_countsBehind_78 rfl 0 rfl ?_
  obtain ⟨v1, hv1, h⟩ := obind h
  refine k_getR ok fl_X7_45 hv1 dX7_countsBehind_79 ?_
  refine j_iload_n ok dX7_countsBehind_82 rfl 1 rfl ?_
  obtain ⟨v2, hv2, h⟩ := obind h
  refine j_iald ok hv2 dX7_countsBehind_83 ?_
  rcases ite_some h with ⟨c3, h⟩ | ⟨c3, h⟩
  · refine j_icmp_ge (tgt := 142) ok dX7_countsBehind_84 (by decide) (fun _ => ?_) (fun z => absurd c3 z)
    obtain ⟨r1, e1, h1⟩ := lift_some h
    subst e1
    exact J.sub [0, 1] rfl (jX7_countsBehind_142 ok l0 l2 G h1 hK)
  · refine j_icmp_ge (tgt := 142) ok dX7_countsBehind_84 (by decide) (fun z => absurd z c3) (fun _ => ?_)
    refine j_aload_n ok dX7_countsBehind_87 rfl 0 rfl ?_
    obtain ⟨v4, hv4, h⟩ := obind h
    refine k_getR ok fl_X7_42 hv4 dX7_countsBehind_88 ?_
    refine j_iload_n ok dX7_countsBehind_91 rfl 1 rfl ?_
    refine j_sipush (v := 1600) ok dX7_countsBehind_92 (by decide) ?_
    refine j_imul ok dX7_countsBehind_95 ?_
    refine j_iload_n ok dX7_countsBehind_96 rfl 2 rfl ?_
    refine j_iadd ok dX7_countsBehind_97 ?_
    obtain ⟨v5, hv5, h⟩ := obind h
    refine j_iald ok hv5 dX7_countsBehind_98 ?_
    refine j_istore (L' := [(4, .int v5), (0, .ref (X.B + l0)), (2, .int l2), (3, .int l3)]) ok dX7_countsBehind_99 (by decide) rfl ?_
    refine j_aload_n ok dX7_countsBehind_101 rfl 1 rfl ?_
    obtain ⟨v6, hv6, h⟩ := obind h
    refine k_getR ok fl_X7_55 hv6 dX7_countsBehind_102 ?_
    refine j_iload_n ok dX7_countsBehind_105 rfl 2 rfl ?_
    refine j_bipush (v := 40) ok dX7_countsBehind_106 (by decide) ?_
    refine j_imul ok dX7_countsBehind_108 ?_
    refine j_iload ok dX7_countsBehind_109 0 rfl ?_
    obtain ⟨q7, hq7, h⟩ := obind h
    refine k_S1 ok kl_X7_161 ⟨Nat.le_of_ble_eq_true rfl, Nat.le_of_ble_eq_true rfl⟩ [.int v5] rfl rfl (Nat.le_of_ble_eq_true rfl) (tX7_fromOf ok.fl X.V v5 G hq7) dX7_countsBehind_111 ?_
    refine j_iadd ok dX7_countsBehind_114 ?_
    refine j_dup2 ok dX7_countsBehind_115 rfl rfl ?_
    obtain ⟨v8, hv8, h⟩ := obind h
    refine j_lald ok hv8 dX7_countsBehind_116 ?_
    refine j_aload_n ok dX7_countsBehind_117 rfl 1 rfl ?_
    obtain ⟨v9, hv9, h⟩ := obind h
    refine k_getR ok fl_X7_55 hv9 dX7_countsBehind_118 ?_
    refine j_iload_n ok dX7_countsBehind_121 rfl 2 rfl ?_
    refine j_iconst (v := 1) ok dX7_countsBehind_122 (by decide) ?_
    refine j_iadd ok dX7_countsBehind_123 ?_
    refine j_bipush (v := 40) ok dX7_countsBehind_124 (by decide) ?_
    refine j_imul ok dX7_countsBehind_126 ?_
    refine j_iload ok dX7_countsBehind_127 0 rfl ?_
    obtain ⟨q10, hq10, h⟩ := obind h
    refine k_S1 ok kl_X7_164 ⟨Nat.le_of_ble_eq_true rfl, Nat.le_of_ble_eq_true rfl⟩ [.int v5] rfl rfl (Nat.le_of_ble_eq_true rfl) (tX7_toOf ok.fl X.V v5 q7.2 hq10) dX7_countsBehind_129 ?_
    refine j_iadd ok dX7_countsBehind_132 ?_
    obtain ⟨v11, hv11, h⟩ := obind h
    refine j_lald ok hv11 dX7_countsBehind_133 ?_
    refine j_ladd ok dX7_countsBehind_134 ?_
    obtain ⟨G12, hG12, h⟩ := obind h
    refine j_last ok hG12 dX7_countsBehind_135 ?_
    refine j_iinc (L' := [(3, .int (l3 + (1 : Int32))), (4, .int v5), (0, .ref (X.B + l0)), (2, .int l2)]) (v := (l3 + (1 : Int32))) ok dX7_countsBehind_136 (q := 3) rfl rfl (by decide) rfl ?_
    refine j_goto (tgt := 77) ok dX7_countsBehind_139 (by decide) ?_
    obtain ⟨er, eG⟩ := inj2 h
    subst er; subst eG
    have hJ : J X 5 77 [(0, .ref (X.B + l0)), (2, .int l2), (3, .int (l3 + (1 : Int32)))] [] G12 := hK
    exact J.sub [2, 3, 0] rfl hJ

def fX7_countsBehind_75 (l0 : Nat) (l2 : Int32)  (G : Mem) : Option (((Int32) ⊕ Unit) × Mem) :=
  loopM (fun (s : Int32) G => fX7_countsBehind_77 l0 l2 s G) FU ((0 : Int32)) G

set_option maxRecDepth 100000 in
set_option maxHeartbeats 4000000 in
theorem jX7_countsBehind_75 {X : Cx} (ok : OK X cX7_countsBehind RX7 none 5 1 20) (l0 : Nat) (l2 : Int32)  (G : Mem) {r : ((Int32) ⊕ Unit)} {G' : Mem} (h : fX7_countsBehind_75 l0 l2 G = some (r, G')) (hK : (finL X 5 41 (fun s : Int32 => [(0, .ref (X.B + l0)), (2, .int s)]) (finV X)) r G') : J X 5 75 [(0, .ref (X.B + l0)), (2, .int l2)] [] G := by
  unfold fX7_countsBehind_75 at h
  refine j_iconst (v := 0) ok dX7_countsBehind_75 (by decide) ?_
  refine j_istore_n (L' := [(3, .int (0 : Int32)), (0, .ref (X.B + l0)), (2, .int l2)]) ok dX7_countsBehind_76 rfl (by decide) rfl ?_
  have hJ : J X 5 77 [(0, .ref (X.B + l0)), (2, .int l2), (3, .int (0 : Int32))] [] G := j_loop (loc := fun s : Int32 => [(0, .ref (X.B + l0)), (2, .int l2), (3, .int s)]) (F := (finL X 5 41 (fun s : Int32 => [(0, .ref (X.B + l0)), (2, .int s)]) (finV X))) (fun s G r G' hb hk => jX7_countsBehind_77 ok l0 l2 s G hb hk) _ _ _ _ _ h hK
  exact J.sub [1, 2, 0] rfl hJ

def fX7_countsBehind_47 (l0 : Nat) (l2 : Int32) (l3 : Int32)  (G : Mem) : Option (((Int32) ⊕ ((Int32) ⊕ Unit)) × Mem) :=
  (gR G 17 l0 14).bind fun v1 =>
  (gA G 1 v1 l2).bind fun v2 =>
  if v2 ≤ l3 then
    liftE (fX7_countsBehind_75 l0 l2 G)
  else
    (gR G 17 l0 19).bind fun v4 =>
    (pJ G v4 ((l2 * (40 : Int32)) + l3) (0 : Int64)).bind fun G5 =>
    some (.inl ((l3 + (1 : Int32))), G5)

set_option maxRecDepth 100000 in
set_option maxHeartbeats 4000000 in
theorem jX7_countsBehind_47 {X : Cx} (ok : OK X cX7_countsBehind RX7 none 5 1 20) (l0 : Nat) (l2 : Int32) (l3 : Int32)  (G : Mem) {r : ((Int32) ⊕ ((Int32) ⊕ Unit))} {G' : Mem} (h : fX7_countsBehind_47 l0 l2 l3 G = some (r, G')) (hK : (finL X 5 47 (fun s : Int32 => [(0, .ref (X.B + l0)), (2, .int l2), (3, .int s)]) (finL X 5 41 (fun s : Int32 => [(0, .ref (X.B + l0)), (2, .int s)]) (finV X))) r G') : J X 5 47 [(0, .ref (X.B + l0)), (2, .int l2), (3, .int l3)] [] G := by
  unfold fX7_countsBehind_47 at h
  refine j_iload_n ok dX7_countsBehind_47 rfl 2 rfl ?_
  refine j_aload_n ok dX7_countsBehind_48 rfl 0 rfl ?_
  obtain ⟨v1, hv1, h⟩ := obind h
  refine k_getR ok fl_X7_39 hv1 dX7_countsBehind_49 ?_
  refine j_iload_n ok dX7_countsBehind_52 rfl 1 rfl ?_
  obtain ⟨v2, hv2, h⟩ := obind h
  refine j_iald ok hv2 dX7_countsBehind_53 ?_
  rcases ite_some h with ⟨c3, h⟩ | ⟨c3, h⟩
  · refine j_icmp_ge (tgt := 75) ok dX7_countsBehind_54 (by decide) (fun _ => ?_) (fun z => absurd c3 z)
    obtain ⟨r1, e1, h1⟩ := lift_some h
    subst e1
    exact J.sub [0, 1] rfl (jX7_countsBehind_75 ok l0 l2 G h1 hK)
  · refine j_icmp_ge (tgt := 75) ok dX7_countsBehind_54 (by decide) (fun z => absurd z c3) (fun _ => ?_)
    refine j_aload_n ok dX7_countsBehind_57 rfl 0 rfl ?_
    obtain ⟨v4, hv4, h⟩ := obind h
    refine k_getR ok fl_X7_55 hv4 dX7_countsBehind_58 ?_
    refine j_iload_n ok dX7_countsBehind_61 rfl 1 rfl ?_
    refine j_bipush (v := 40) ok dX7_countsBehind_62 (by decide) ?_
    refine j_imul ok dX7_countsBehind_64 ?_
    refine j_iload_n ok dX7_countsBehind_65 rfl 2 rfl ?_
    refine j_iadd ok dX7_countsBehind_66 ?_
    refine j_lconst (v := 0) ok dX7_countsBehind_67 (by decide) ?_
    obtain ⟨G5, hG5, h⟩ := obind h
    refine j_last ok hG5 dX7_countsBehind_68 ?_
    refine j_iinc (L' := [(3, .int (l3 + (1 : Int32))), (0, .ref (X.B + l0)), (2, .int l2)]) (v := (l3 + (1 : Int32))) ok dX7_countsBehind_69 (q := 2) rfl rfl (by decide) rfl ?_
    refine j_goto (tgt := 47) ok dX7_countsBehind_72 (by decide) ?_
    obtain ⟨er, eG⟩ := inj2 h
    subst er; subst eG
    have hJ : J X 5 47 [(0, .ref (X.B + l0)), (2, .int l2), (3, .int (l3 + (1 : Int32)))] [] G5 := hK
    exact J.sub [1, 2, 0] rfl hJ

def fX7_countsBehind_41 (l0 : Nat) (l2 : Int32)  (G : Mem) : Option (((Int32) ⊕ Unit) × Mem) :=
  if l2 < (0 : Int32) then
    liftE (fX7_countsBehind_148 G)
  else
    loopM (fun (s : Int32) G => fX7_countsBehind_47 l0 l2 s G) FU ((0 : Int32)) G

set_option maxRecDepth 100000 in
set_option maxHeartbeats 4000000 in
theorem jX7_countsBehind_41 {X : Cx} (ok : OK X cX7_countsBehind RX7 none 5 1 20) (l0 : Nat) (l2 : Int32)  (G : Mem) {r : ((Int32) ⊕ Unit)} {G' : Mem} (h : fX7_countsBehind_41 l0 l2 G = some (r, G')) (hK : (finL X 5 41 (fun s : Int32 => [(0, .ref (X.B + l0)), (2, .int s)]) (finV X)) r G') : J X 5 41 [(0, .ref (X.B + l0)), (2, .int l2)] [] G := by
  unfold fX7_countsBehind_41 at h
  refine j_iload_n ok dX7_countsBehind_41 rfl 1 rfl ?_
  rcases ite_some h with ⟨c1, h⟩ | ⟨c1, h⟩
  · refine j_if_lt (tgt := 148) ok dX7_countsBehind_42 (by decide) (fun _ => ?_) (fun z => absurd c1 z)
    obtain ⟨r1, e1, h1⟩ := lift_some h
    subst e1
    exact J.sub [] rfl (jX7_countsBehind_148 ok G h1 hK)
  · refine j_if_lt (tgt := 148) ok dX7_countsBehind_42 (by decide) (fun z => absurd z c1) (fun _ => ?_)
    refine j_iconst (v := 0) ok dX7_countsBehind_45 (by decide) ?_
    refine j_istore_n (L' := [(3, .int (0 : Int32)), (0, .ref (X.B + l0)), (2, .int l2)]) ok dX7_countsBehind_46 rfl (by decide) rfl ?_
    have hJ : J X 5 47 [(0, .ref (X.B + l0)), (2, .int l2), (3, .int (0 : Int32))] [] G := j_loop (loc := fun s : Int32 => [(0, .ref (X.B + l0)), (2, .int l2), (3, .int s)]) (F := (finL X 5 41 (fun s : Int32 => [(0, .ref (X.B + l0)), (2, .int s)]) (finV X))) (fun s G r G' hb hk => jX7_countsBehind_47 ok l0 l2 s G hb hk) _ _ _ _ _ h hK
    exact J.sub [1, 2, 0] rfl hJ

def fX7_countsBehind_37 (l0 : Nat) (l1 : Int32)  (G : Mem) : Option (Unit × Mem) :=
  loopM (fun (s : Int32) G => fX7_countsBehind_41 l0 s G) FU ((l1 - (1 : Int32))) G

set_option maxRecDepth 100000 in
set_option maxHeartbeats 4000000 in
theorem jX7_countsBehind_37 {X : Cx} (ok : OK X cX7_countsBehind RX7 none 5 1 20) (l0 : Nat) (l1 : Int32)  (G : Mem) {r : Unit} {G' : Mem} (h : fX7_countsBehind_37 l0 l1 G = some (r, G')) (hK : (finV X) r G') : J X 5 37 [(0, .ref (X.B + l0)), (1, .int l1)] [] G := by
  unfold fX7_countsBehind_37 at h
  refine j_iload_n ok dX7_countsBehind_37 rfl 1 rfl ?_
  refine j_iconst (v := 1) ok dX7_countsBehind_38 (by decide) ?_
  refine j_isub ok dX7_countsBehind_39 ?_
  refine j_istore_n (L' := [(2, .int (l1 - (1 : Int32))), (0, .ref (X.B + l0)), (1, .int l1)]) ok dX7_countsBehind_40 rfl (by decide) rfl ?_
  have hJ : J X 5 41 [(0, .ref (X.B + l0)), (2, .int (l1 - (1 : Int32)))] [] G := j_loop (loc := fun s : Int32 => [(0, .ref (X.B + l0)), (2, .int s)]) (F := (finV X)) (fun s G r G' hb hk => jX7_countsBehind_41 ok l0 s G hb hk) _ _ _ _ _ h hK
  exact J.sub [1, 0] rfl hJ

def fX7_countsBehind_9 (l0 : Nat) (l1 : Int32) (l2 : Int32)  (G : Mem) : Option (((Int32) ⊕ Unit) × Mem) :=
  (gR G 17 l0 14).bind fun v1 =>
  (gA G 1 v1 l1).bind fun v2 =>
  if v2 ≤ l2 then
    liftE (fX7_countsBehind_37 l0 l1 G)
  else
    (gR G 17 l0 19).bind fun v4 =>
    (pJ G v4 ((l1 * (40 : Int32)) + l2) (1 : Int64)).bind fun G5 =>
    some (.inl ((l2 + (1 : Int32))), G5)

set_option maxRecDepth 100000 in
set_option maxHeartbeats 4000000 in
theorem jX7_countsBehind_9 {X : Cx} (ok : OK X cX7_countsBehind RX7 none 5 1 20) (l0 : Nat) (l1 : Int32) (l2 : Int32)  (G : Mem) {r : ((Int32) ⊕ Unit)} {G' : Mem} (h : fX7_countsBehind_9 l0 l1 l2 G = some (r, G')) (hK : (finL X 5 9 (fun s : Int32 => [(0, .ref (X.B + l0)), (1, .int l1), (2, .int s)]) (finV X)) r G') : J X 5 9 [(0, .ref (X.B + l0)), (1, .int l1), (2, .int l2)] [] G := by
  unfold fX7_countsBehind_9 at h
  refine j_iload_n ok dX7_countsBehind_9 rfl 2 rfl ?_
  refine j_aload_n ok dX7_countsBehind_10 rfl 0 rfl ?_
  obtain ⟨v1, hv1, h⟩ := obind h
  refine k_getR ok fl_X7_39 hv1 dX7_countsBehind_11 ?_
  refine j_iload_n ok dX7_countsBehind_14 rfl 1 rfl ?_
  obtain ⟨v2, hv2, h⟩ := obind h
  refine j_iald ok hv2 dX7_countsBehind_15 ?_
  rcases ite_some h with ⟨c3, h⟩ | ⟨c3, h⟩
  · refine j_icmp_ge (tgt := 37) ok dX7_countsBehind_16 (by decide) (fun _ => ?_) (fun z => absurd c3 z)
    obtain ⟨r1, e1, h1⟩ := lift_some h
    subst e1
    exact J.sub [0, 1] rfl (jX7_countsBehind_37 ok l0 l1 G h1 hK)
  · refine j_icmp_ge (tgt := 37) ok dX7_countsBehind_16 (by decide) (fun z => absurd z c3) (fun _ => ?_)
    refine j_aload_n ok dX7_countsBehind_19 rfl 0 rfl ?_
    obtain ⟨v4, hv4, h⟩ := obind h
    refine k_getR ok fl_X7_55 hv4 dX7_countsBehind_20 ?_
    refine j_iload_n ok dX7_countsBehind_23 rfl 1 rfl ?_
    refine j_bipush (v := 40) ok dX7_countsBehind_24 (by decide) ?_
    refine j_imul ok dX7_countsBehind_26 ?_
    refine j_iload_n ok dX7_countsBehind_27 rfl 2 rfl ?_
    refine j_iadd ok dX7_countsBehind_28 ?_
    refine j_lconst (v := 1) ok dX7_countsBehind_29 (by decide) ?_
    obtain ⟨G5, hG5, h⟩ := obind h
    refine j_last ok hG5 dX7_countsBehind_30 ?_
    refine j_iinc (L' := [(2, .int (l2 + (1 : Int32))), (0, .ref (X.B + l0)), (1, .int l1)]) (v := (l2 + (1 : Int32))) ok dX7_countsBehind_31 (q := 2) rfl rfl (by decide) rfl ?_
    refine j_goto (tgt := 9) ok dX7_countsBehind_34 (by decide) ?_
    obtain ⟨er, eG⟩ := inj2 h
    subst er; subst eG
    have hJ : J X 5 9 [(0, .ref (X.B + l0)), (1, .int l1), (2, .int (l2 + (1 : Int32)))] [] G5 := hK
    exact J.sub [1, 2, 0] rfl hJ

def fX7_countsBehind_0 (l0 : Nat)  (G : Mem) : Option (Unit × Mem) :=
  (gR G 17 l0 0).bind fun v1 =>
  (gA G 1 v1 (2 : Int32)).bind fun v2 =>
  loopM (fun (s : Int32) G => fX7_countsBehind_9 l0 v2 s G) FU ((0 : Int32)) G

set_option maxRecDepth 100000 in
set_option maxHeartbeats 4000000 in
theorem jX7_countsBehind_0 {X : Cx} (ok : OK X cX7_countsBehind RX7 none 5 1 20) (l0 : Nat)  (G : Mem) {r : Unit} {G' : Mem} (h : fX7_countsBehind_0 l0 G = some (r, G')) (hK : (finV X) r G') : J X 5 0 [(0, .ref (X.B + l0))] [] G := by
  unfold fX7_countsBehind_0 at h
  refine j_aload_n ok dX7_countsBehind_0 rfl 0 rfl ?_
  obtain ⟨v1, hv1, h⟩ := obind h
  refine k_getR ok fl_X7_9 hv1 dX7_countsBehind_1 ?_
  refine j_iconst (v := 2) ok dX7_countsBehind_4 (by decide) ?_
  obtain ⟨v2, hv2, h⟩ := obind h
  refine j_iald ok hv2 dX7_countsBehind_5 ?_
  refine j_istore_n (L' := [(1, .int v2), (0, .ref (X.B + l0))]) ok dX7_countsBehind_6 rfl (by decide) rfl ?_
  refine j_iconst (v := 0) ok dX7_countsBehind_7 (by decide) ?_
  refine j_istore_n (L' := [(2, .int (0 : Int32)), (1, .int v2), (0, .ref (X.B + l0))]) ok dX7_countsBehind_8 rfl (by decide) rfl ?_
  have hJ : J X 5 9 [(0, .ref (X.B + l0)), (1, .int v2), (2, .int (0 : Int32))] [] G := j_loop (loc := fun s : Int32 => [(0, .ref (X.B + l0)), (1, .int v2), (2, .int s)]) (F := (finV X)) (fun s G r G' hb hk => jX7_countsBehind_9 ok l0 v2 s G hb hk) _ _ _ _ _ h hK
  exact J.sub [2, 1, 0] rfl hJ

def fX7_countsBehind (l0 : Nat) (G : Mem) : Option (Unit × Mem) := fX7_countsBehind_0 l0 G
set_option maxRecDepth 100000 in
theorem tX7_countsBehind {l : Launch} (hfl : l.stackTraces = false) (V : Wd) (l0 : Nat) (G : Mem) {r : Unit} {G' : Mem} (h : fX7_countsBehind l0 G = some (r, G')) : Mx l yX7_countsBehind cX7_countsBehind 5 none 1 20 V [.ref (V.B + l0)] G (.inl none) G' :=
  mx_of (L := [(0, .ref (V.B + l0))]) hfl (by decide +kernel) (Nat.le_of_ble_eq_true rfl) rfl (fun X hl hV hin ok he => by
    subst hl; subst hV
    exact J.sub [0] rfl (jX7_countsBehind_0 ok l0 G h he))
def fX7_adds_0 (l0 : Nat)  (G : Mem) : Option (Int32 × Mem) :=
  (gR G 17 l0 0).bind fun v1 =>
  (gA G 1 v1 (2 : Int32)).bind fun v2 =>
  (pA G v1 (2 : Int32) (v2 + (1 : Int32))).bind fun G3 =>
  ck G3 17 l0 <| (fX7_countsBehind l0 G3).bind fun q4 =>
  (gR q4.2 17 l0 14).bind fun v5 =>
  (gR q4.2 17 l0 0).bind fun v6 =>
  (gA q4.2 1 v6 (2 : Int32)).bind fun v7 =>
  (gA q4.2 1 v5 v7).bind fun v8 =>
  some (v8, q4.2)

set_option maxRecDepth 100000 in
set_option maxHeartbeats 4000000 in
theorem jX7_adds_0 {X : Cx} (ok : OK X cX7_adds RX7 (some .int) 1 2 44) (l0 : Nat)  (G : Mem) {r : Int32} {G' : Mem} (h : fX7_adds_0 l0 G = some (r, G')) (hK : (finI X) r G') : J X 1 0 [(0, .ref (X.B + l0))] [] G := by
  unfold fX7_adds_0 at h
  refine j_aload_n ok dX7_adds_0 rfl 0 rfl ?_
  obtain ⟨v1, hv1, h⟩ := obind h
  refine k_getR ok fl_X7_9 hv1 dX7_adds_1 ?_
  refine j_iconst (v := 2) ok dX7_adds_4 (by decide) ?_
  refine j_dup2 ok dX7_adds_5 rfl rfl ?_
  obtain ⟨v2, hv2, h⟩ := obind h
  refine j_iald ok hv2 dX7_adds_6 ?_
  refine j_iconst (v := 1) ok dX7_adds_7 (by decide) ?_
  refine j_iadd ok dX7_adds_8 ?_
  obtain ⟨G3, hG3, h⟩ := obind h
  refine j_iast ok hG3 dX7_adds_9 ?_
  refine j_aload_n ok dX7_adds_10 rfl 0 rfl ?_
  obtain ⟨kq4, h⟩ := ck_some h
  obtain ⟨q4, hq4, h⟩ := obind h
  refine k_V0 ok kl_X7_171 ⟨Nat.le_of_ble_eq_true rfl, Nat.le_of_ble_eq_true rfl⟩ [] kq4 rfl rfl (Nat.le_of_ble_eq_true rfl) (tX7_countsBehind ok.fl X.V l0 G3 hq4) dX7_adds_11 ?_
  refine j_aload_n ok dX7_adds_14 rfl 0 rfl ?_
  obtain ⟨v5, hv5, h⟩ := obind h
  refine k_getR ok fl_X7_39 hv5 dX7_adds_15 ?_
  refine j_aload_n ok dX7_adds_18 rfl 0 rfl ?_
  obtain ⟨v6, hv6, h⟩ := obind h
  refine k_getR ok fl_X7_9 hv6 dX7_adds_19 ?_
  refine j_iconst (v := 2) ok dX7_adds_22 (by decide) ?_
  obtain ⟨v7, hv7, h⟩ := obind h
  refine j_iald ok hv7 dX7_adds_23 ?_
  obtain ⟨v8, hv8, h⟩ := obind h
  refine j_iald ok hv8 dX7_adds_24 ?_
  obtain ⟨er, eG⟩ := inj2 h
  subst er; subst eG
  exact j_iret ok rfl dX7_adds_25 hK

def fX7_adds (l0 : Nat) (G : Mem) : Option (Int32 × Mem) := fX7_adds_0 l0 G
set_option maxRecDepth 100000 in
theorem tX7_adds {l : Launch} (hfl : l.stackTraces = false) (V : Wd) (l0 : Nat) (G : Mem) {r : Int32} {G' : Mem} (h : fX7_adds l0 G = some (r, G')) : Mx l yX7_adds cX7_adds 1 (some .int) 2 44 V [.ref (V.B + l0)] G (.inl (some (.int r))) G' :=
  mx_of (L := [(0, .ref (V.B + l0))]) hfl (by decide +kernel) (Nat.le_of_ble_eq_true rfl) rfl (fun X hl hV hin ok he => by
    subst hl; subst hV
    exact J.sub [0] rfl (jX7_adds_0 ok l0 G h he))
def fX7_addNote_66 (l0 : Nat) (s0 : Nat) (s1 : Int32) (s2 : Int32) (G : Mem) : Option (Int32 × Mem) :=
  ck G 17 s0 <| (fX7_fails s0 s1 s2 (0 : Int32) G).bind fun q1 =>
  if q1.1 = (0 : Int32) then
    (gR q1.2 17 l0 0).bind fun v3 =>
    ck q1.2 17 l0 <| (fX7_remember l0 v3 q1.2).bind fun q4 =>
    ck q4.2 17 l0 <| (fX7_adds l0 q4.2).bind fun q5 =>
    some (q5.1, q5.2)
  else
    some ((0 : Int32), q1.2)

set_option maxRecDepth 100000 in
set_option maxHeartbeats 4000000 in
theorem jX7_addNote_66 {X : Cx} (ok : OK X cX7_addNote RX7 (some .int) 8 7 246) (l0 : Nat) (s0 : Nat) (s1 : Int32) (s2 : Int32) (G : Mem) {r : Int32} {G' : Mem} (h : fX7_addNote_66 l0 s0 s1 s2 G = some (r, G')) (hK : (finI X) r G') : J X 8 66 [(0, .ref (X.B + l0))] [.int s2, .int s1, .ref (X.B + s0)] G := by
  unfold fX7_addNote_66 at h
  refine j_iconst (v := 0) ok dX7_addNote_66 (by decide) ?_
  obtain ⟨kq1, h⟩ := ck_some h
  obtain ⟨q1, hq1, h⟩ := obind h
  refine k_V1 ok kl_X7_186 ⟨Nat.le_of_ble_eq_true rfl, Nat.le_of_ble_eq_true rfl⟩ [.int s1, .int s2, .int (0 : Int32)] kq1 rfl rfl (Nat.le_of_ble_eq_true rfl) (tX7_fails ok.fl X.V s0 s1 s2 (0 : Int32) G hq1) dX7_addNote_67 ?_
  rcases ite_some h with ⟨c2, h⟩ | ⟨c2, h⟩
  · refine j_if_eq (tgt := 75) ok dX7_addNote_70 (by decide) (fun _ => ?_) (fun z => absurd c2 z)
    refine j_aload_n ok dX7_addNote_75 rfl 0 rfl ?_
    refine j_aload_n ok dX7_addNote_76 rfl 0 rfl ?_
    obtain ⟨v3, hv3, h⟩ := obind h
    refine k_getR ok fl_X7_9 hv3 dX7_addNote_77 ?_
    obtain ⟨kq4, h⟩ := ck_some h
    obtain ⟨q4, hq4, h⟩ := obind h
    refine k_V0 ok kl_X7_310 ⟨Nat.le_of_ble_eq_true rfl, Nat.le_of_ble_eq_true rfl⟩ [.ref (X.B + v3)] kq4 rfl rfl (Nat.le_of_ble_eq_true rfl) (tX7_remember ok.fl X.V l0 v3 q1.2 hq4) dX7_addNote_80 ?_
    refine j_aload_n ok dX7_addNote_83 rfl 0 rfl ?_
    obtain ⟨kq5, h⟩ := ck_some h
    obtain ⟨q5, hq5, h⟩ := obind h
    refine k_V1 ok kl_X7_283 ⟨Nat.le_of_ble_eq_true rfl, Nat.le_of_ble_eq_true rfl⟩ [] kq5 rfl rfl (Nat.le_of_ble_eq_true rfl) (tX7_adds ok.fl X.V l0 q4.2 hq5) dX7_addNote_84 ?_
    obtain ⟨er, eG⟩ := inj2 h
    subst er; subst eG
    exact j_iret ok rfl dX7_addNote_87 hK
  · refine j_if_eq (tgt := 75) ok dX7_addNote_70 (by decide) (fun z => absurd z c2) (fun _ => ?_)
    refine j_iconst (v := 0) ok dX7_addNote_73 (by decide) ?_
    obtain ⟨er, eG⟩ := inj2 h
    subst er; subst eG
    exact j_iret ok rfl dX7_addNote_74 hK

def fX7_addNote_65 (l0 : Nat) (s0 : Nat) (s1 : Int32) (G : Mem) : Option (Int32 × Mem) :=
  fX7_addNote_66 l0 s0 s1 (0 : Int32) G

set_option maxRecDepth 100000 in
set_option maxHeartbeats 4000000 in
theorem jX7_addNote_65 {X : Cx} (ok : OK X cX7_addNote RX7 (some .int) 8 7 246) (l0 : Nat) (s0 : Nat) (s1 : Int32) (G : Mem) {r : Int32} {G' : Mem} (h : fX7_addNote_65 l0 s0 s1 G = some (r, G')) (hK : (finI X) r G') : J X 8 65 [(0, .ref (X.B + l0))] [.int s1, .ref (X.B + s0)] G := by
  unfold fX7_addNote_65 at h
  refine j_iconst (v := 0) ok dX7_addNote_65 (by decide) ?_
  exact J.sub [0] rfl (jX7_addNote_66 ok l0 s0 s1 (0 : Int32) G h hK)

def fX7_addNote_46 (l0 : Nat) (l7 : Int32)  (G : Mem) : Option (Int32 × Mem) :=
  if l7 = (0 : Int32) then
    ck G 17 l0 <| (fX7_isPossible l0 G).bind fun q2 =>
    if q2.1 = (0 : Int32) then
      fX7_addNote_66 l0 l0 l7 (1 : Int32) q2.2
    else
      fX7_addNote_65 l0 l0 l7 q2.2
  else
    fX7_addNote_65 l0 l0 l7 G

set_option maxRecDepth 100000 in
set_option maxHeartbeats 4000000 in
theorem jX7_addNote_46 {X : Cx} (ok : OK X cX7_addNote RX7 (some .int) 8 7 246) (l0 : Nat) (l7 : Int32)  (G : Mem) {r : Int32} {G' : Mem} (h : fX7_addNote_46 l0 l7 G = some (r, G')) (hK : (finI X) r G') : J X 8 46 [(0, .ref (X.B + l0)), (7, .int l7)] [] G := by
  unfold fX7_addNote_46 at h
  refine j_aload_n ok dX7_addNote_46 rfl 0 rfl ?_
  refine j_iload ok dX7_addNote_47 1 rfl ?_
  refine j_iload ok dX7_addNote_49 1 rfl ?_
  rcases ite_some h with ⟨c1, h⟩ | ⟨c1, h⟩
  · refine j_if_ne (tgt := 65) ok dX7_addNote_51 (by decide) (fun z => absurd c1 z) (fun _ => ?_)
    refine j_aload_n ok dX7_addNote_54 rfl 0 rfl ?_
    obtain ⟨kq2, h⟩ := ck_some h
    obtain ⟨q2, hq2, h⟩ := obind h
    refine k_V1 ok kl_X7_280 ⟨Nat.le_of_ble_eq_true rfl, Nat.le_of_ble_eq_true rfl⟩ [] kq2 rfl rfl (Nat.le_of_ble_eq_true rfl) (tX7_isPossible ok.fl X.V l0 G hq2) dX7_addNote_55 ?_
    rcases ite_some h with ⟨c3, h⟩ | ⟨c3, h⟩
    · refine j_if_ne (tgt := 65) ok dX7_addNote_58 (by decide) (fun z => absurd c3 z) (fun _ => ?_)
      refine j_iconst (v := 1) ok dX7_addNote_61 (by decide) ?_
      refine j_goto (tgt := 66) ok dX7_addNote_62 (by decide) ?_
      exact J.sub [0] rfl (jX7_addNote_66 ok l0 l0 l7 (1 : Int32) q2.2 h hK)
    · refine j_if_ne (tgt := 65) ok dX7_addNote_58 (by decide) (fun _ => ?_) (fun z => absurd z c3)
      exact J.sub [0] rfl (jX7_addNote_65 ok l0 l0 l7 q2.2 h hK)
  · refine j_if_ne (tgt := 65) ok dX7_addNote_51 (by decide) (fun _ => ?_) (fun z => absurd z c1)
    exact J.sub [0] rfl (jX7_addNote_65 ok l0 l0 l7 G h hK)

def fX7_addNote_0 (l0 : Nat) (l1 : Int32) (l2 : Int32) (l3 : Int32) (l4 : Int32) (l5 : Int32) (l6 : Int32)  (G : Mem) : Option (Int32 × Mem) :=
  ck G 17 l0 <| (fX7_isBadNote l0 l1 l2 l3 l4 G).bind fun q1 =>
  if q1.1 = (0 : Int32) then
    (gR q1.2 17 l0 0).bind fun v3 =>
    (gA q1.2 1 v3 (2 : Int32)).bind fun v4 =>
    if (10 : Int32) ≤ v4 then
      fX7_addNote_46 l0 q1.1 q1.2
    else
      (gR q1.2 17 l0 0).bind fun v6 =>
      (gA q1.2 1 v6 (2 : Int32)).bind fun v7 =>
      ck q1.2 17 l0 <| (fX7_lay l0 v7 l1 l2 l3 l4 l5 l6 q1.2).bind fun q8 =>
      fX7_addNote_46 l0 q1.1 q8.2
  else
    fX7_addNote_46 l0 q1.1 q1.2

set_option maxRecDepth 100000 in
set_option maxHeartbeats 4000000 in
theorem jX7_addNote_0 {X : Cx} (ok : OK X cX7_addNote RX7 (some .int) 8 7 246) (l0 : Nat) (l1 : Int32) (l2 : Int32) (l3 : Int32) (l4 : Int32) (l5 : Int32) (l6 : Int32)  (G : Mem) {r : Int32} {G' : Mem} (h : fX7_addNote_0 l0 l1 l2 l3 l4 l5 l6 G = some (r, G')) (hK : (finI X) r G') : J X 8 0 [(0, .ref (X.B + l0)), (1, .int l1), (2, .int l2), (3, .int l3), (4, .int l4), (5, .int l5), (6, .int l6)] [] G := by
  unfold fX7_addNote_0 at h
  refine j_aload_n ok dX7_addNote_0 rfl 0 rfl ?_
  refine j_iload_n ok dX7_addNote_1 rfl 1 rfl ?_
  refine j_iload_n ok dX7_addNote_2 rfl 2 rfl ?_
  refine j_iload_n ok dX7_addNote_3 rfl 3 rfl ?_
  refine j_iload ok dX7_addNote_4 4 rfl ?_
  obtain ⟨kq1, h⟩ := ck_some h
  obtain ⟨q1, hq1, h⟩ := obind h
  refine k_V1 ok kl_X7_333 ⟨Nat.le_of_ble_eq_true rfl, Nat.le_of_ble_eq_true rfl⟩ [.int l1, .int l2, .int l3, .int l4] kq1 rfl rfl (Nat.le_of_ble_eq_true rfl) (tX7_isBadNote ok.fl X.V l0 l1 l2 l3 l4 G hq1) dX7_addNote_6 ?_
  refine j_istore (L' := [(7, .int q1.1), (0, .ref (X.B + l0)), (1, .int l1), (2, .int l2), (3, .int l3), (4, .int l4), (5, .int l5), (6, .int l6)]) ok dX7_addNote_9 (by decide) rfl ?_
  refine j_iload ok dX7_addNote_11 0 rfl ?_
  rcases ite_some h with ⟨c2, h⟩ | ⟨c2, h⟩
  · refine j_if_ne (tgt := 46) ok dX7_addNote_13 (by decide) (fun z => absurd c2 z) (fun _ => ?_)
    refine j_aload_n ok dX7_addNote_16 rfl 1 rfl ?_
    obtain ⟨v3, hv3, h⟩ := obind h
    refine k_getR ok fl_X7_9 hv3 dX7_addNote_17 ?_
    refine j_iconst (v := 2) ok dX7_addNote_20 (by decide) ?_
    obtain ⟨v4, hv4, h⟩ := obind h
    refine j_iald ok hv4 dX7_addNote_21 ?_
    refine j_bipush (v := 10) ok dX7_addNote_22 (by decide) ?_
    rcases ite_some h with ⟨c5, h⟩ | ⟨c5, h⟩
    · refine j_icmp_ge (tgt := 46) ok dX7_addNote_24 (by decide) (fun _ => ?_) (fun z => absurd c5 z)
      exact J.sub [1, 0] rfl (jX7_addNote_46 ok l0 q1.1 q1.2 h hK)
    · refine j_icmp_ge (tgt := 46) ok dX7_addNote_24 (by decide) (fun z => absurd z c5) (fun _ => ?_)
      refine j_aload_n ok dX7_addNote_27 rfl 1 rfl ?_
      refine j_aload_n ok dX7_addNote_28 rfl 1 rfl ?_
      obtain ⟨v6, hv6, h⟩ := obind h
      refine k_getR ok fl_X7_9 hv6 dX7_addNote_29 ?_
      refine j_iconst (v := 2) ok dX7_addNote_32 (by decide) ?_
      obtain ⟨v7, hv7, h⟩ := obind h
      refine j_iald ok hv7 dX7_addNote_33 ?_
      refine j_iload_n ok dX7_addNote_34 rfl 2 rfl ?_
      refine j_iload_n ok dX7_addNote_35 rfl 3 rfl ?_
      refine j_iload_n ok dX7_addNote_36 rfl 4 rfl ?_
      refine j_iload ok dX7_addNote_37 5 rfl ?_
      refine j_iload ok dX7_addNote_39 6 rfl ?_
      refine j_iload ok dX7_addNote_41 7 rfl ?_
      obtain ⟨kq8, h⟩ := ck_some h
      obtain ⟨q8, hq8, h⟩ := obind h
      refine k_V0 ok kl_X7_276 ⟨Nat.le_of_ble_eq_true rfl, Nat.le_of_ble_eq_true rfl⟩ [.int v7, .int l1, .int l2, .int l3, .int l4, .int l5, .int l6] kq8 rfl rfl (Nat.le_of_ble_eq_true rfl) (tX7_lay ok.fl X.V l0 v7 l1 l2 l3 l4 l5 l6 q1.2 hq8) dX7_addNote_43 ?_
      exact J.sub [1, 0] rfl (jX7_addNote_46 ok l0 q1.1 q8.2 h hK)
  · refine j_if_ne (tgt := 46) ok dX7_addNote_13 (by decide) (fun _ => ?_) (fun z => absurd z c2)
    exact J.sub [1, 0] rfl (jX7_addNote_46 ok l0 q1.1 q1.2 h hK)

def fX7_addNote (l0 : Nat) (l1 : Int32) (l2 : Int32) (l3 : Int32) (l4 : Int32) (l5 : Int32) (l6 : Int32) (G : Mem) : Option (Int32 × Mem) := fX7_addNote_0 l0 l1 l2 l3 l4 l5 l6 G
set_option maxRecDepth 100000 in
theorem tX7_addNote {l : Launch} (hfl : l.stackTraces = false) (V : Wd) (l0 : Nat) (l1 : Int32) (l2 : Int32) (l3 : Int32) (l4 : Int32) (l5 : Int32) (l6 : Int32) (G : Mem) {r : Int32} {G' : Mem} (h : fX7_addNote l0 l1 l2 l3 l4 l5 l6 G = some (r, G')) : Mx l yX7_addNote cX7_addNote 8 (some .int) 7 246 V [.ref (V.B + l0), .int l1, .int l2, .int l3, .int l4, .int l5, .int l6] G (.inl (some (.int r))) G' :=
  mx_of (L := [(0, .ref (V.B + l0)), (1, .int l1), (2, .int l2), (3, .int l3), (4, .int l4), (5, .int l5), (6, .int l6)]) hfl (by decide +kernel) (Nat.le_of_ble_eq_true rfl) rfl (fun X hl hV hin ok he => by
    subst hl; subst hV
    exact J.sub [0, 1, 2, 3, 4, 5, 6] rfl (jX7_addNote_0 ok l0 l1 l2 l3 l4 l5 l6 G h he))
def fX7_four_39   (G : Mem) : Option (Unit × Mem) :=
  some ((), G)

set_option maxRecDepth 100000 in
set_option maxHeartbeats 4000000 in
theorem jX7_four_39 {X : Cx} (ok : OK X cX7_four RX7 none 3 0 0)   (G : Mem) {r : Unit} {G' : Mem} (h : fX7_four_39  G = some (r, G')) (hK : (finV X) r G') : J X 3 39 [] [] G := by
  unfold fX7_four_39 at h
  obtain ⟨er, eG⟩ := inj2 h
  subst er; subst eG
  exact j_vret ok rfl dX7_four_39 hK

def fX7_four_3 (l0 : Nat) (l1 : Int32) (l2 : Int32)  (G : Mem) : Option (((Int32) ⊕ Unit) × Mem) :=
  if l2 < (0 : Int32) then
    liftE (fX7_four_39 G)
  else
    (gR G 17 l0 7).bind fun v2 =>
    (gF G 17 l0 9).bind fun v3 =>
    (pA G v2 v3 ((l1 >>> (l2 &&& 31)) &&& (255 : Int32))).bind fun G4 =>
    (gF G4 17 l0 9).bind fun v5 =>
    (pI G4 17 l0 9 (v5 + (1 : Int32))).bind fun G6 =>
    some (.inl ((l2 + (-8 : Int32))), G6)

set_option maxRecDepth 100000 in
set_option maxHeartbeats 4000000 in
theorem jX7_four_3 {X : Cx} (ok : OK X cX7_four RX7 none 3 0 0) (l0 : Nat) (l1 : Int32) (l2 : Int32)  (G : Mem) {r : ((Int32) ⊕ Unit)} {G' : Mem} (h : fX7_four_3 l0 l1 l2 G = some (r, G')) (hK : (finL X 3 3 (fun s : Int32 => [(0, .ref (X.B + l0)), (1, .int l1), (2, .int s)]) (finV X)) r G') : J X 3 3 [(0, .ref (X.B + l0)), (1, .int l1), (2, .int l2)] [] G := by
  unfold fX7_four_3 at h
  refine j_iload_n ok dX7_four_3 rfl 2 rfl ?_
  rcases ite_some h with ⟨c1, h⟩ | ⟨c1, h⟩
  · refine j_if_lt (tgt := 39) ok dX7_four_4 (by decide) (fun _ => ?_) (fun z => absurd c1 z)
    obtain ⟨r1, e1, h1⟩ := lift_some h
    subst e1
    exact J.sub [] rfl (jX7_four_39 ok G h1 hK)
  · refine j_if_lt (tgt := 39) ok dX7_four_4 (by decide) (fun z => absurd z c1) (fun _ => ?_)
    refine j_aload_n ok dX7_four_7 rfl 0 rfl ?_
    obtain ⟨v2, hv2, h⟩ := obind h
    refine k_getR ok fl_X7_26 hv2 dX7_four_8 ?_
    refine j_aload_n ok dX7_four_11 rfl 0 rfl ?_
    obtain ⟨v3, hv3, h⟩ := obind h
    refine k_getI ok fl_X7_73 hv3 dX7_four_12 ?_
    refine j_iload_n ok dX7_four_15 rfl 1 rfl ?_
    refine j_iload_n ok dX7_four_16 rfl 2 rfl ?_
    refine j_ishr ok dX7_four_17 ?_
    refine j_sipush (v := 255) ok dX7_four_18 (by decide) ?_
    refine j_iand ok dX7_four_21 ?_
    obtain ⟨G4, hG4, h⟩ := obind h
    refine j_iast ok hG4 dX7_four_22 ?_
    refine j_aload_n ok dX7_four_23 rfl 0 rfl ?_
    refine j_dup ok dX7_four_24 rfl ?_
    obtain ⟨v5, hv5, h⟩ := obind h
    refine k_getI ok fl_X7_73 hv5 dX7_four_25 ?_
    refine j_iconst (v := 1) ok dX7_four_28 (by decide) ?_
    refine j_iadd ok dX7_four_29 ?_
    obtain ⟨G6, hG6, h⟩ := obind h
    refine k_putI ok fl_X7_73 fp_X7 rfl (Or.inl rfl) hG6 dX7_four_30 ?_
    refine j_iinc (L' := [(2, .int (l2 + (-8 : Int32))), (0, .ref (X.B + l0)), (1, .int l1)]) (v := (l2 + (-8 : Int32))) ok dX7_four_33 (q := 2) rfl rfl (by decide) rfl ?_
    refine j_goto (tgt := 3) ok dX7_four_36 (by decide) ?_
    obtain ⟨er, eG⟩ := inj2 h
    subst er; subst eG
    have hJ : J X 3 3 [(0, .ref (X.B + l0)), (1, .int l1), (2, .int (l2 + (-8 : Int32)))] [] G6 := hK
    exact J.sub [1, 2, 0] rfl hJ

def fX7_four_0 (l0 : Nat) (l1 : Int32)  (G : Mem) : Option (Unit × Mem) :=
  loopM (fun (s : Int32) G => fX7_four_3 l0 l1 s G) FU ((24 : Int32)) G

set_option maxRecDepth 100000 in
set_option maxHeartbeats 4000000 in
theorem jX7_four_0 {X : Cx} (ok : OK X cX7_four RX7 none 3 0 0) (l0 : Nat) (l1 : Int32)  (G : Mem) {r : Unit} {G' : Mem} (h : fX7_four_0 l0 l1 G = some (r, G')) (hK : (finV X) r G') : J X 3 0 [(0, .ref (X.B + l0)), (1, .int l1)] [] G := by
  unfold fX7_four_0 at h
  refine j_bipush (v := 24) ok dX7_four_0 (by decide) ?_
  refine j_istore_n (L' := [(2, .int (24 : Int32)), (0, .ref (X.B + l0)), (1, .int l1)]) ok dX7_four_2 rfl (by decide) rfl ?_
  have hJ : J X 3 3 [(0, .ref (X.B + l0)), (1, .int l1), (2, .int (24 : Int32))] [] G := j_loop (loc := fun s : Int32 => [(0, .ref (X.B + l0)), (1, .int l1), (2, .int s)]) (F := (finV X)) (fun s G r G' hb hk => jX7_four_3 ok l0 l1 s G hb hk) _ _ _ _ _ h hK
  exact J.sub [1, 2, 0] rfl hJ

def fX7_four (l0 : Nat) (l1 : Int32) (G : Mem) : Option (Unit × Mem) := fX7_four_0 l0 l1 G
set_option maxRecDepth 100000 in
theorem tX7_four {l : Launch} (hfl : l.stackTraces = false) (V : Wd) (l0 : Nat) (l1 : Int32) (G : Mem) {r : Unit} {G' : Mem} (h : fX7_four l0 l1 G = some (r, G')) : Mx l yX7_four cX7_four 3 none 0 0 V [.ref (V.B + l0), .int l1] G (.inl none) G' :=
  mx_of (L := [(0, .ref (V.B + l0)), (1, .int l1)]) hfl (by decide +kernel) (Nat.le_of_ble_eq_true rfl) rfl (fun X hl hV hin ok he => by
    subst hl; subst hV
    exact J.sub [0, 1] rfl (jX7_four_0 ok l0 l1 G h he))
def fX7_append_0 (l0 : Nat) (l1 : Int32) (l2 : Int32) (l3 : Int32) (l4 : Int32) (l5 : Int32)  (G : Mem) : Option (Int32 × Mem) :=
  (pI G 17 l0 6 (0 : Int32)).bind fun G1 =>
  (gF G1 17 l0 9).bind fun v2 =>
  if (v2 + (20 : Int32)) ≤ (600 : Int32) then
    ck G1 17 l0 <| (fX7_four l0 l1 G1).bind fun q4 =>
    ck q4.2 17 l0 <| (fX7_four l0 l2 q4.2).bind fun q5 =>
    ck q5.2 17 l0 <| (fX7_four l0 l3 q5.2).bind fun q6 =>
    ck q6.2 17 l0 <| (fX7_four l0 l4 q6.2).bind fun q7 =>
    ck q7.2 17 l0 <| (fX7_four l0 l5 q7.2).bind fun q8 =>
    (gF q8.2 17 l0 9).bind fun v9 =>
    some (v9, q8.2)
  else
    some ((-1 : Int32), G1)

set_option maxRecDepth 100000 in
set_option maxHeartbeats 4000000 in
theorem jX7_append_0 {X : Cx} (ok : OK X cX7_append RX7 (some .int) 6 1 22) (l0 : Nat) (l1 : Int32) (l2 : Int32) (l3 : Int32) (l4 : Int32) (l5 : Int32)  (G : Mem) {r : Int32} {G' : Mem} (h : fX7_append_0 l0 l1 l2 l3 l4 l5 G = some (r, G')) (hK : (finI X) r G') : J X 6 0 [(0, .ref (X.B + l0)), (1, .int l1), (2, .int l2), (3, .int l3), (4, .int l4), (5, .int l5)] [] G := by
  unfold fX7_append_0 at h
  refine j_aload_n ok dX7_append_0 rfl 0 rfl ?_
  refine j_iconst (v := 0) ok dX7_append_1 (by decide) ?_
  obtain ⟨G1, hG1, h⟩ := obind h
  refine k_putI ok fl_X7_86 fp_X7 rfl (Or.inl rfl) hG1 dX7_append_2 ?_
  refine j_aload_n ok dX7_append_5 rfl 0 rfl ?_
  obtain ⟨v2, hv2, h⟩ := obind h
  refine k_getI ok fl_X7_73 hv2 dX7_append_6 ?_
  refine j_bipush (v := 20) ok dX7_append_9 (by decide) ?_
  refine j_iadd ok dX7_append_11 ?_
  refine j_sipush (v := 600) ok dX7_append_12 (by decide) ?_
  rcases ite_some h with ⟨c3, h⟩ | ⟨c3, h⟩
  · refine j_icmp_le (tgt := 20) ok dX7_append_15 (by decide) (fun _ => ?_) (fun z => absurd c3 z)
    refine j_aload_n ok dX7_append_20 rfl 0 rfl ?_
    refine j_iload_n ok dX7_append_21 rfl 1 rfl ?_
    obtain ⟨kq4, h⟩ := ck_some h
    obtain ⟨q4, hq4, h⟩ := obind h
    refine k_V0 ok kl_X7_178 ⟨Nat.le_of_ble_eq_true rfl, Nat.le_of_ble_eq_true rfl⟩ [.int l1] kq4 rfl rfl (Nat.le_of_ble_eq_true rfl) (tX7_four ok.fl X.V l0 l1 G1 hq4) dX7_append_22 ?_
    refine j_aload_n ok dX7_append_25 rfl 0 rfl ?_
    refine j_iload_n ok dX7_append_26 rfl 2 rfl ?_
    obtain ⟨kq5, h⟩ := ck_some h
    obtain ⟨q5, hq5, h⟩ := obind h
    refine k_V0 ok kl_X7_178 ⟨Nat.le_of_ble_eq_true rfl, Nat.le_of_ble_eq_true rfl⟩ [.int l2] kq5 rfl rfl (Nat.le_of_ble_eq_true rfl) (tX7_four ok.fl X.V l0 l2 q4.2 hq5) dX7_append_27 ?_
    refine j_aload_n ok dX7_append_30 rfl 0 rfl ?_
    refine j_iload_n ok dX7_append_31 rfl 3 rfl ?_
    obtain ⟨kq6, h⟩ := ck_some h
    obtain ⟨q6, hq6, h⟩ := obind h
    refine k_V0 ok kl_X7_178 ⟨Nat.le_of_ble_eq_true rfl, Nat.le_of_ble_eq_true rfl⟩ [.int l3] kq6 rfl rfl (Nat.le_of_ble_eq_true rfl) (tX7_four ok.fl X.V l0 l3 q5.2 hq6) dX7_append_32 ?_
    refine j_aload_n ok dX7_append_35 rfl 0 rfl ?_
    refine j_iload ok dX7_append_36 4 rfl ?_
    obtain ⟨kq7, h⟩ := ck_some h
    obtain ⟨q7, hq7, h⟩ := obind h
    refine k_V0 ok kl_X7_178 ⟨Nat.le_of_ble_eq_true rfl, Nat.le_of_ble_eq_true rfl⟩ [.int l4] kq7 rfl rfl (Nat.le_of_ble_eq_true rfl) (tX7_four ok.fl X.V l0 l4 q6.2 hq7) dX7_append_38 ?_
    refine j_aload_n ok dX7_append_41 rfl 0 rfl ?_
    refine j_iload ok dX7_append_42 5 rfl ?_
    obtain ⟨kq8, h⟩ := ck_some h
    obtain ⟨q8, hq8, h⟩ := obind h
    refine k_V0 ok kl_X7_178 ⟨Nat.le_of_ble_eq_true rfl, Nat.le_of_ble_eq_true rfl⟩ [.int l5] kq8 rfl rfl (Nat.le_of_ble_eq_true rfl) (tX7_four ok.fl X.V l0 l5 q7.2 hq8) dX7_append_44 ?_
    refine j_aload_n ok dX7_append_47 rfl 0 rfl ?_
    obtain ⟨v9, hv9, h⟩ := obind h
    refine k_getI ok fl_X7_73 hv9 dX7_append_48 ?_
    obtain ⟨er, eG⟩ := inj2 h
    subst er; subst eG
    exact j_iret ok rfl dX7_append_51 hK
  · refine j_icmp_le (tgt := 20) ok dX7_append_15 (by decide) (fun z => absurd z c3) (fun _ => ?_)
    refine j_iconst (v := -1) ok dX7_append_18 (by decide) ?_
    obtain ⟨er, eG⟩ := inj2 h
    subst er; subst eG
    exact j_iret ok rfl dX7_append_19 hK

def fX7_append (l0 : Nat) (l1 : Int32) (l2 : Int32) (l3 : Int32) (l4 : Int32) (l5 : Int32) (G : Mem) : Option (Int32 × Mem) := fX7_append_0 l0 l1 l2 l3 l4 l5 G
set_option maxRecDepth 100000 in
theorem tX7_append {l : Launch} (hfl : l.stackTraces = false) (V : Wd) (l0 : Nat) (l1 : Int32) (l2 : Int32) (l3 : Int32) (l4 : Int32) (l5 : Int32) (G : Mem) {r : Int32} {G' : Mem} (h : fX7_append l0 l1 l2 l3 l4 l5 G = some (r, G')) : Mx l yX7_append cX7_append 6 (some .int) 1 22 V [.ref (V.B + l0), .int l1, .int l2, .int l3, .int l4, .int l5] G (.inl (some (.int r))) G' :=
  mx_of (L := [(0, .ref (V.B + l0)), (1, .int l1), (2, .int l2), (3, .int l3), (4, .int l4), (5, .int l5)]) hfl (by decide +kernel) (Nat.le_of_ble_eq_true rfl) rfl (fun X hl hV hin ok he => by
    subst hl; subst hV
    exact J.sub [0, 1, 2, 3, 4, 5] rfl (jX7_append_0 ok l0 l1 l2 l3 l4 l5 G h he))
def fX7_last_0 (l0 : Nat) (l1 : Int32) (l2 : Int32)  (G : Mem) : Option (Int32 × Mem) :=
  (gR G 17 l0 13).bind fun v1 =>
  (gR G 17 l0 0).bind fun v2 =>
  (gA G 1 v2 (2 : Int32)).bind fun v3 =>
  (fX7_position v3 l1 G).bind fun q4 =>
  (gA q4.2 1 v1 (q4.1 + l2)).bind fun v5 =>
  some (v5, q4.2)

set_option maxRecDepth 100000 in
set_option maxHeartbeats 4000000 in
theorem jX7_last_0 {X : Cx} (ok : OK X cX7_last RX7 (some .int) 3 1 21) (l0 : Nat) (l1 : Int32) (l2 : Int32)  (G : Mem) {r : Int32} {G' : Mem} (h : fX7_last_0 l0 l1 l2 G = some (r, G')) (hK : (finI X) r G') : J X 3 0 [(0, .ref (X.B + l0)), (1, .int l1), (2, .int l2)] [] G := by
  unfold fX7_last_0 at h
  refine j_aload_n ok dX7_last_0 rfl 0 rfl ?_
  obtain ⟨v1, hv1, h⟩ := obind h
  refine k_getR ok fl_X7_36 hv1 dX7_last_1 ?_
  refine j_aload_n ok dX7_last_4 rfl 0 rfl ?_
  obtain ⟨v2, hv2, h⟩ := obind h
  refine k_getR ok fl_X7_9 hv2 dX7_last_5 ?_
  refine j_iconst (v := 2) ok dX7_last_8 (by decide) ?_
  obtain ⟨v3, hv3, h⟩ := obind h
  refine j_iald ok hv3 dX7_last_9 ?_
  refine j_iload_n ok dX7_last_10 rfl 1 rfl ?_
  obtain ⟨q4, hq4, h⟩ := obind h
  refine k_S1 ok kl_X7_134 ⟨Nat.le_of_ble_eq_true rfl, Nat.le_of_ble_eq_true rfl⟩ [.int v3, .int l1] rfl rfl (Nat.le_of_ble_eq_true rfl) (tX7_position ok.fl X.V v3 l1 G hq4) dX7_last_11 ?_
  refine j_iload_n ok dX7_last_14 rfl 2 rfl ?_
  refine j_iadd ok dX7_last_15 ?_
  obtain ⟨v5, hv5, h⟩ := obind h
  refine j_iald ok hv5 dX7_last_16 ?_
  obtain ⟨er, eG⟩ := inj2 h
  subst er; subst eG
  exact j_iret ok rfl dX7_last_17 hK

def fX7_last (l0 : Nat) (l1 : Int32) (l2 : Int32) (G : Mem) : Option (Int32 × Mem) := fX7_last_0 l0 l1 l2 G
set_option maxRecDepth 100000 in
theorem tX7_last {l : Launch} (hfl : l.stackTraces = false) (V : Wd) (l0 : Nat) (l1 : Int32) (l2 : Int32) (G : Mem) {r : Int32} {G' : Mem} (h : fX7_last l0 l1 l2 G = some (r, G')) : Mx l yX7_last cX7_last 3 (some .int) 1 21 V [.ref (V.B + l0), .int l1, .int l2] G (.inl (some (.int r))) G' :=
  mx_of (L := [(0, .ref (V.B + l0)), (1, .int l1), (2, .int l2)]) hfl (by decide +kernel) (Nat.le_of_ble_eq_true rfl) rfl (fun X hl hV hin ok he => by
    subst hl; subst hV
    exact J.sub [0, 1, 2] rfl (jX7_last_0 ok l0 l1 l2 G h he))
def fX7_isSame_40   (G : Mem) : Option (Int32 × Mem) :=
  some ((1 : Int32), G)

set_option maxRecDepth 100000 in
set_option maxHeartbeats 4000000 in
theorem jX7_isSame_40 {X : Cx} (ok : OK X cX7_isSame RX7 (some .boolean) 3 2 43)   (G : Mem) {r : Int32} {G' : Mem} (h : fX7_isSame_40  G = some (r, G')) (hK : (finI X) r G') : J X 3 40 [] [] G := by
  unfold fX7_isSame_40 at h
  refine j_iconst (v := 1) ok dX7_isSame_40 (by decide) ?_
  obtain ⟨er, eG⟩ := inj2 h
  subst er; subst eG
  exact j_zret ok rfl (Or.inr rfl) dX7_isSame_41 hK

def fX7_isSame_32   (G : Mem) : Option (Int32 × Mem) :=
  some ((0 : Int32), G)

set_option maxRecDepth 100000 in
set_option maxHeartbeats 4000000 in
theorem jX7_isSame_32 {X : Cx} (ok : OK X cX7_isSame RX7 (some .boolean) 3 2 43)   (G : Mem) {r : Int32} {G' : Mem} (h : fX7_isSame_32  G = some (r, G')) (hK : (finI X) r G') : J X 3 32 [] [] G := by
  unfold fX7_isSame_32 at h
  refine j_iconst (v := 0) ok dX7_isSame_32 (by decide) ?_
  obtain ⟨er, eG⟩ := inj2 h
  subst er; subst eG
  exact j_zret ok rfl (Or.inl rfl) dX7_isSame_33 hK

def fX7_isSame_2 (l0 : Nat) (l1 : Int32) (l2 : Int32)  (G : Mem) : Option (((Int32) ⊕ Int32) × Mem) :=
  (gR G 17 l0 14).bind fun v1 =>
  (gR G 17 l0 0).bind fun v2 =>
  (gA G 1 v2 (2 : Int32)).bind fun v3 =>
  (gA G 1 v1 v3).bind fun v4 =>
  if v4 ≤ l2 then
    liftE (fX7_isSame_40 G)
  else
    ck G 17 l0 <| (fX7_last l0 l2 l1 G).bind fun q6 =>
    ck q6.2 17 l0 <| (fX7_last l0 (0 : Int32) l1 q6.2).bind fun q7 =>
    if q6.1 = q7.1 then
      some (.inl ((l2 + (1 : Int32))), q7.2)
    else
      liftE (fX7_isSame_32 q7.2)

set_option maxRecDepth 100000 in
set_option maxHeartbeats 4000000 in
theorem jX7_isSame_2 {X : Cx} (ok : OK X cX7_isSame RX7 (some .boolean) 3 2 43) (l0 : Nat) (l1 : Int32) (l2 : Int32)  (G : Mem) {r : ((Int32) ⊕ Int32)} {G' : Mem} (h : fX7_isSame_2 l0 l1 l2 G = some (r, G')) (hK : (finL X 3 2 (fun s : Int32 => [(0, .ref (X.B + l0)), (1, .int l1), (2, .int s)]) (finI X)) r G') : J X 3 2 [(0, .ref (X.B + l0)), (1, .int l1), (2, .int l2)] [] G := by
  unfold fX7_isSame_2 at h
  refine j_iload_n ok dX7_isSame_2 rfl 2 rfl ?_
  refine j_aload_n ok dX7_isSame_3 rfl 0 rfl ?_
  obtain ⟨v1, hv1, h⟩ := obind h
  refine k_getR ok fl_X7_39 hv1 dX7_isSame_4 ?_
  refine j_aload_n ok dX7_isSame_7 rfl 0 rfl ?_
  obtain ⟨v2, hv2, h⟩ := obind h
  refine k_getR ok fl_X7_9 hv2 dX7_isSame_8 ?_
  refine j_iconst (v := 2) ok dX7_isSame_11 (by decide) ?_
  obtain ⟨v3, hv3, h⟩ := obind h
  refine j_iald ok hv3 dX7_isSame_12 ?_
  obtain ⟨v4, hv4, h⟩ := obind h
  refine j_iald ok hv4 dX7_isSame_13 ?_
  rcases ite_some h with ⟨c5, h⟩ | ⟨c5, h⟩
  · refine j_icmp_ge (tgt := 40) ok dX7_isSame_14 (by decide) (fun _ => ?_) (fun z => absurd c5 z)
    obtain ⟨r1, e1, h1⟩ := lift_some h
    subst e1
    exact J.sub [] rfl (jX7_isSame_40 ok G h1 hK)
  · refine j_icmp_ge (tgt := 40) ok dX7_isSame_14 (by decide) (fun z => absurd z c5) (fun _ => ?_)
    refine j_aload_n ok dX7_isSame_17 rfl 0 rfl ?_
    refine j_iload_n ok dX7_isSame_18 rfl 2 rfl ?_
    refine j_iload_n ok dX7_isSame_19 rfl 1 rfl ?_
    obtain ⟨kq6, h⟩ := ck_some h
    obtain ⟨q6, hq6, h⟩ := obind h
    refine k_V1 ok kl_X7_352 ⟨Nat.le_of_ble_eq_true rfl, Nat.le_of_ble_eq_true rfl⟩ [.int l2, .int l1] kq6 rfl rfl (Nat.le_of_ble_eq_true rfl) (tX7_last ok.fl X.V l0 l2 l1 G hq6) dX7_isSame_20 ?_
    refine j_aload_n ok dX7_isSame_23 rfl 0 rfl ?_
    refine j_iconst (v := 0) ok dX7_isSame_24 (by decide) ?_
    refine j_iload_n ok dX7_isSame_25 rfl 1 rfl ?_
    obtain ⟨kq7, h⟩ := ck_some h
    obtain ⟨q7, hq7, h⟩ := obind h
    refine k_V1 ok kl_X7_352 ⟨Nat.le_of_ble_eq_true rfl, Nat.le_of_ble_eq_true rfl⟩ [.int (0 : Int32), .int l1] kq7 rfl rfl (Nat.le_of_ble_eq_true rfl) (tX7_last ok.fl X.V l0 (0 : Int32) l1 q6.2 hq7) dX7_isSame_26 ?_
    rcases ite_some h with ⟨c8, h⟩ | ⟨c8, h⟩
    · refine j_icmp_eq (tgt := 34) ok dX7_isSame_29 (by decide) (fun _ => ?_) (fun z => absurd c8 z)
      refine j_iinc (L' := [(2, .int (l2 + (1 : Int32))), (0, .ref (X.B + l0)), (1, .int l1)]) (v := (l2 + (1 : Int32))) ok dX7_isSame_34 (q := 2) rfl rfl (by decide) rfl ?_
      refine j_goto (tgt := 2) ok dX7_isSame_37 (by decide) ?_
      obtain ⟨er, eG⟩ := inj2 h
      subst er; subst eG
      have hJ : J X 3 2 [(0, .ref (X.B + l0)), (1, .int l1), (2, .int (l2 + (1 : Int32)))] [] q7.2 := hK
      exact J.sub [1, 2, 0] rfl hJ
    · refine j_icmp_eq (tgt := 34) ok dX7_isSame_29 (by decide) (fun z => absurd z c8) (fun _ => ?_)
      obtain ⟨r1, e1, h1⟩ := lift_some h
      subst e1
      exact J.sub [] rfl (jX7_isSame_32 ok q7.2 h1 hK)

def fX7_isSame_0 (l0 : Nat) (l1 : Int32)  (G : Mem) : Option (Int32 × Mem) :=
  loopM (fun (s : Int32) G => fX7_isSame_2 l0 l1 s G) FU ((1 : Int32)) G

set_option maxRecDepth 100000 in
set_option maxHeartbeats 4000000 in
theorem jX7_isSame_0 {X : Cx} (ok : OK X cX7_isSame RX7 (some .boolean) 3 2 43) (l0 : Nat) (l1 : Int32)  (G : Mem) {r : Int32} {G' : Mem} (h : fX7_isSame_0 l0 l1 G = some (r, G')) (hK : (finI X) r G') : J X 3 0 [(0, .ref (X.B + l0)), (1, .int l1)] [] G := by
  unfold fX7_isSame_0 at h
  refine j_iconst (v := 1) ok dX7_isSame_0 (by decide) ?_
  refine j_istore_n (L' := [(2, .int (1 : Int32)), (0, .ref (X.B + l0)), (1, .int l1)]) ok dX7_isSame_1 rfl (by decide) rfl ?_
  have hJ : J X 3 2 [(0, .ref (X.B + l0)), (1, .int l1), (2, .int (1 : Int32))] [] G := j_loop (loc := fun s : Int32 => [(0, .ref (X.B + l0)), (1, .int l1), (2, .int s)]) (F := (finI X)) (fun s G r G' hb hk => jX7_isSame_2 ok l0 l1 s G hb hk) _ _ _ _ _ h hK
  exact J.sub [1, 2, 0] rfl hJ

def fX7_isSame (l0 : Nat) (l1 : Int32) (G : Mem) : Option (Int32 × Mem) := fX7_isSame_0 l0 l1 G
set_option maxRecDepth 100000 in
theorem tX7_isSame {l : Launch} (hfl : l.stackTraces = false) (V : Wd) (l0 : Nat) (l1 : Int32) (G : Mem) {r : Int32} {G' : Mem} (h : fX7_isSame l0 l1 G = some (r, G')) : Mx l yX7_isSame cX7_isSame 3 (some .boolean) 2 43 V [.ref (V.B + l0), .int l1] G (.inl (some (.int r))) G' :=
  mx_of (L := [(0, .ref (V.B + l0)), (1, .int l1)]) hfl (by decide +kernel) (Nat.le_of_ble_eq_true rfl) rfl (fun X hl hV hin ok he => by
    subst hl; subst hV
    exact J.sub [0, 1] rfl (jX7_isSame_0 ok l0 l1 G h he))
def fX7_same_29 (l1 : Int32)  (G : Mem) : Option (Int32 × Mem) :=
  some (l1, G)

set_option maxRecDepth 100000 in
set_option maxHeartbeats 4000000 in
theorem jX7_same_29 {X : Cx} (ok : OK X cX7_same RX7 (some .int) 3 3 65) (l1 : Int32)  (G : Mem) {r : Int32} {G' : Mem} (h : fX7_same_29 l1 G = some (r, G')) (hK : (finI X) r G') : J X 3 29 [(1, .int l1)] [] G := by
  unfold fX7_same_29 at h
  refine j_iload_n ok dX7_same_29 rfl 0 rfl ?_
  obtain ⟨er, eG⟩ := inj2 h
  subst er; subst eG
  exact j_iret ok rfl dX7_same_30 hK

def fX7_same_23 (l0 : Nat) (l1 : Int32) (l2 : Int32)  (G : Mem) : Option (((Int32 × Int32) ⊕ Int32) × Mem) :=
  some (.inl (l1, (l2 + (1 : Int32))), G)

set_option maxRecDepth 100000 in
set_option maxHeartbeats 4000000 in
theorem jX7_same_23 {X : Cx} (ok : OK X cX7_same RX7 (some .int) 3 3 65) (l0 : Nat) (l1 : Int32) (l2 : Int32)  (G : Mem) {r : ((Int32 × Int32) ⊕ Int32)} {G' : Mem} (h : fX7_same_23 l0 l1 l2 G = some (r, G')) (hK : (finL X 3 4 (fun s : Int32 × Int32 => [(0, .ref (X.B + l0)), (1, .int s.1), (2, .int s.2)]) (finI X)) r G') : J X 3 23 [(0, .ref (X.B + l0)), (1, .int l1), (2, .int l2)] [] G := by
  unfold fX7_same_23 at h
  refine j_iinc (L' := [(2, .int (l2 + (1 : Int32))), (0, .ref (X.B + l0)), (1, .int l1)]) (v := (l2 + (1 : Int32))) ok dX7_same_23 (q := 2) rfl rfl (by decide) rfl ?_
  refine j_goto (tgt := 4) ok dX7_same_26 (by decide) ?_
  obtain ⟨er, eG⟩ := inj2 h
  subst er; subst eG
  have hJ : J X 3 4 [(0, .ref (X.B + l0)), (1, .int l1), (2, .int (l2 + (1 : Int32)))] [] G := hK
  exact J.sub [1, 2, 0] rfl hJ

def fX7_same_4 (l0 : Nat) (l1 : Int32) (l2 : Int32)  (G : Mem) : Option (((Int32 × Int32) ⊕ Int32) × Mem) :=
  ck G 17 l0 <| (fX7_squareMany l0 G).bind fun q1 =>
  if q1.1 ≤ l2 then
    liftE (fX7_same_29 l1 q1.2)
  else
    ck q1.2 17 l0 <| (fX7_isSame l0 l2 q1.2).bind fun q3 =>
    if q3.1 = (0 : Int32) then
      fX7_same_23 l0 l1 l2 q3.2
    else
      fX7_same_23 l0 (l1 + (1 : Int32)) l2 q3.2

set_option maxRecDepth 100000 in
set_option maxHeartbeats 4000000 in
theorem jX7_same_4 {X : Cx} (ok : OK X cX7_same RX7 (some .int) 3 3 65) (l0 : Nat) (l1 : Int32) (l2 : Int32)  (G : Mem) {r : ((Int32 × Int32) ⊕ Int32)} {G' : Mem} (h : fX7_same_4 l0 l1 l2 G = some (r, G')) (hK : (finL X 3 4 (fun s : Int32 × Int32 => [(0, .ref (X.B + l0)), (1, .int s.1), (2, .int s.2)]) (finI X)) r G') : J X 3 4 [(0, .ref (X.B + l0)), (1, .int l1), (2, .int l2)] [] G := by
  unfold fX7_same_4 at h
  refine j_iload_n ok dX7_same_4 rfl 2 rfl ?_
  refine j_aload_n ok dX7_same_5 rfl 0 rfl ?_
  obtain ⟨kq1, h⟩ := ck_some h
  obtain ⟨q1, hq1, h⟩ := obind h
  refine k_V1 ok kl_X7_120 ⟨Nat.le_of_ble_eq_true rfl, Nat.le_of_ble_eq_true rfl⟩ [] kq1 rfl rfl (Nat.le_of_ble_eq_true rfl) (tX7_squareMany ok.fl X.V l0 G hq1) dX7_same_6 ?_
  rcases ite_some h with ⟨c2, h⟩ | ⟨c2, h⟩
  · refine j_icmp_ge (tgt := 29) ok dX7_same_9 (by decide) (fun _ => ?_) (fun z => absurd c2 z)
    obtain ⟨r1, e1, h1⟩ := lift_some h
    subst e1
    exact J.sub [1] rfl (jX7_same_29 ok l1 q1.2 h1 hK)
  · refine j_icmp_ge (tgt := 29) ok dX7_same_9 (by decide) (fun z => absurd z c2) (fun _ => ?_)
    refine j_aload_n ok dX7_same_12 rfl 0 rfl ?_
    refine j_iload_n ok dX7_same_13 rfl 2 rfl ?_
    obtain ⟨kq3, h⟩ := ck_some h
    obtain ⟨q3, hq3, h⟩ := obind h
    refine k_V1 ok kl_X7_355 ⟨Nat.le_of_ble_eq_true rfl, Nat.le_of_ble_eq_true rfl⟩ [.int l2] kq3 rfl rfl (Nat.le_of_ble_eq_true rfl) (tX7_isSame ok.fl X.V l0 l2 q1.2 hq3) dX7_same_14 ?_
    rcases ite_some h with ⟨c4, h⟩ | ⟨c4, h⟩
    · refine j_if_eq (tgt := 23) ok dX7_same_17 (by decide) (fun _ => ?_) (fun z => absurd c4 z)
      exact J.sub [0, 1, 2] rfl (jX7_same_23 ok l0 l1 l2 q3.2 h hK)
    · refine j_if_eq (tgt := 23) ok dX7_same_17 (by decide) (fun z => absurd z c4) (fun _ => ?_)
      refine j_iinc (L' := [(1, .int (l1 + (1 : Int32))), (0, .ref (X.B + l0)), (2, .int l2)]) (v := (l1 + (1 : Int32))) ok dX7_same_20 (q := 1) rfl rfl (by decide) rfl ?_
      exact J.sub [1, 0, 2] rfl (jX7_same_23 ok l0 (l1 + (1 : Int32)) l2 q3.2 h hK)

def fX7_same_0 (l0 : Nat)  (G : Mem) : Option (Int32 × Mem) :=
  loopM (fun (s : Int32 × Int32) G => fX7_same_4 l0 s.1 s.2 G) FU ((0 : Int32), (0 : Int32)) G

set_option maxRecDepth 100000 in
set_option maxHeartbeats 4000000 in
theorem jX7_same_0 {X : Cx} (ok : OK X cX7_same RX7 (some .int) 3 3 65) (l0 : Nat)  (G : Mem) {r : Int32} {G' : Mem} (h : fX7_same_0 l0 G = some (r, G')) (hK : (finI X) r G') : J X 3 0 [(0, .ref (X.B + l0))] [] G := by
  unfold fX7_same_0 at h
  refine j_iconst (v := 0) ok dX7_same_0 (by decide) ?_
  refine j_istore_n (L' := [(1, .int (0 : Int32)), (0, .ref (X.B + l0))]) ok dX7_same_1 rfl (by decide) rfl ?_
  refine j_iconst (v := 0) ok dX7_same_2 (by decide) ?_
  refine j_istore_n (L' := [(2, .int (0 : Int32)), (1, .int (0 : Int32)), (0, .ref (X.B + l0))]) ok dX7_same_3 rfl (by decide) rfl ?_
  have hJ : J X 3 4 [(0, .ref (X.B + l0)), (1, .int (0 : Int32)), (2, .int (0 : Int32))] [] G := j_loop (loc := fun s : Int32 × Int32 => [(0, .ref (X.B + l0)), (1, .int s.1), (2, .int s.2)]) (F := (finI X)) (fun s G r G' hb hk => jX7_same_4 ok l0 s.1 s.2 G hb hk) _ _ _ _ _ h hK
  exact J.sub [2, 1, 0] rfl hJ

def fX7_same (l0 : Nat) (G : Mem) : Option (Int32 × Mem) := fX7_same_0 l0 G
set_option maxRecDepth 100000 in
theorem tX7_same {l : Launch} (hfl : l.stackTraces = false) (V : Wd) (l0 : Nat) (G : Mem) {r : Int32} {G' : Mem} (h : fX7_same l0 G = some (r, G')) : Mx l yX7_same cX7_same 3 (some .int) 3 65 V [.ref (V.B + l0)] G (.inl (some (.int r))) G' :=
  mx_of (L := [(0, .ref (V.B + l0))]) hfl (by decide +kernel) (Nat.le_of_ble_eq_true rfl) rfl (fun X hl hV hin ok he => by
    subst hl; subst hV
    exact J.sub [0] rfl (jX7_same_0 ok l0 G h he))
def fX7_certainShare_0 (l0 : Nat)  (G : Mem) : Option (UInt32 × Mem) :=
  (pI G 17 l0 6 (0 : Int32)).bind fun G1 =>
  ck G1 17 l0 <| (fX7_same l0 G1).bind fun q2 =>
  ck q2.2 17 l0 <| (fX7_squareMany l0 q2.2).bind fun q3 =>
  nk32 (FP.fdiv (FP.i2f q2.1) (FP.i2f q3.1)) <|
  some ((FP.fdiv (FP.i2f q2.1) (FP.i2f q3.1)), q3.2)

set_option maxRecDepth 100000 in
set_option maxHeartbeats 4000000 in
theorem jX7_certainShare_0 {X : Cx} (ok : OK X cX7_certainShare RX7 (some .float) 1 4 87) (l0 : Nat)  (G : Mem) {r : UInt32} {G' : Mem} (h : fX7_certainShare_0 l0 G = some (r, G')) (hK : (finF X) r G') : J X 1 0 [(0, .ref (X.B + l0))] [] G := by
  unfold fX7_certainShare_0 at h
  refine j_aload_n ok dX7_certainShare_0 rfl 0 rfl ?_
  refine j_iconst (v := 0) ok dX7_certainShare_1 (by decide) ?_
  obtain ⟨G1, hG1, h⟩ := obind h
  refine k_putI ok fl_X7_86 fp_X7 rfl (Or.inl rfl) hG1 dX7_certainShare_2 ?_
  refine j_aload_n ok dX7_certainShare_5 rfl 0 rfl ?_
  obtain ⟨kq2, h⟩ := ck_some h
  obtain ⟨q2, hq2, h⟩ := obind h
  refine k_V1 ok kl_X7_358 ⟨Nat.le_of_ble_eq_true rfl, Nat.le_of_ble_eq_true rfl⟩ [] kq2 rfl rfl (Nat.le_of_ble_eq_true rfl) (tX7_same ok.fl X.V l0 G1 hq2) dX7_certainShare_6 ?_
  refine j_i2f ok dX7_certainShare_9 ?_
  refine j_aload_n ok dX7_certainShare_10 rfl 0 rfl ?_
  obtain ⟨kq3, h⟩ := ck_some h
  obtain ⟨q3, hq3, h⟩ := obind h
  refine k_V1 ok kl_X7_120 ⟨Nat.le_of_ble_eq_true rfl, Nat.le_of_ble_eq_true rfl⟩ [] kq3 rfl rfl (Nat.le_of_ble_eq_true rfl) (tX7_squareMany ok.fl X.V l0 q2.2 hq3) dX7_certainShare_11 ?_
  refine j_i2f ok dX7_certainShare_14 ?_
  obtain ⟨hz4, h⟩ := nk32_some h
  refine j_fdiv ok hz4 dX7_certainShare_15 ?_
  obtain ⟨er, eG⟩ := inj2 h
  subst er; subst eG
  exact j_fret ok rfl dX7_certainShare_16 hK

def fX7_certainShare (l0 : Nat) (G : Mem) : Option (UInt32 × Mem) := fX7_certainShare_0 l0 G
set_option maxRecDepth 100000 in
theorem tX7_certainShare {l : Launch} (hfl : l.stackTraces = false) (V : Wd) (l0 : Nat) (G : Mem) {r : UInt32} {G' : Mem} (h : fX7_certainShare l0 G = some (r, G')) : Mx l yX7_certainShare cX7_certainShare 1 (some .float) 4 87 V [.ref (V.B + l0)] G (.inl (some (.float r))) G' :=
  mx_of (L := [(0, .ref (V.B + l0))]) hfl (by decide +kernel) (Nat.le_of_ble_eq_true rfl) rfl (fun X hl hV hin ok he => by
    subst hl; subst hV
    exact J.sub [0] rfl (jX7_certainShare_0 ok l0 G h he))
def fX7_told_0 (l0 : Nat) (l1 : Int32)  (G : Mem) : Option (Int32 × Mem) :=
  (pI G 17 l0 6 (0 : Int32)).bind fun G1 =>
  some (l1, G1)

set_option maxRecDepth 100000 in
set_option maxHeartbeats 4000000 in
theorem jX7_told_0 {X : Cx} (ok : OK X cX7_told RX7 (some .int) 2 0 0) (l0 : Nat) (l1 : Int32)  (G : Mem) {r : Int32} {G' : Mem} (h : fX7_told_0 l0 l1 G = some (r, G')) (hK : (finI X) r G') : J X 2 0 [(0, .ref (X.B + l0)), (1, .int l1)] [] G := by
  unfold fX7_told_0 at h
  refine j_aload_n ok dX7_told_0 rfl 0 rfl ?_
  refine j_iconst (v := 0) ok dX7_told_1 (by decide) ?_
  obtain ⟨G1, hG1, h⟩ := obind h
  refine k_putI ok fl_X7_86 fp_X7 rfl (Or.inl rfl) hG1 dX7_told_2 ?_
  refine j_iload_n ok dX7_told_5 rfl 1 rfl ?_
  obtain ⟨er, eG⟩ := inj2 h
  subst er; subst eG
  exact j_iret ok rfl dX7_told_6 hK

def fX7_told (l0 : Nat) (l1 : Int32) (G : Mem) : Option (Int32 × Mem) := fX7_told_0 l0 l1 G
set_option maxRecDepth 100000 in
theorem tX7_told {l : Launch} (hfl : l.stackTraces = false) (V : Wd) (l0 : Nat) (l1 : Int32) (G : Mem) {r : Int32} {G' : Mem} (h : fX7_told l0 l1 G = some (r, G')) : Mx l yX7_told cX7_told 2 (some .int) 0 0 V [.ref (V.B + l0), .int l1] G (.inl (some (.int r))) G' :=
  mx_of (L := [(0, .ref (V.B + l0)), (1, .int l1)]) hfl (by decide +kernel) (Nat.le_of_ble_eq_true rfl) rfl (fun X hl hV hin ok he => by
    subst hl; subst hV
    exact J.sub [0, 1] rfl (jX7_told_0 ok l0 l1 G h he))
def fX7_certainSquares_0 (l0 : Nat)  (G : Mem) : Option (Int32 × Mem) :=
  ck G 17 l0 <| (fX7_same l0 G).bind fun q1 =>
  ck q1.2 17 l0 <| (fX7_told l0 q1.1 q1.2).bind fun q2 =>
  some (q2.1, q2.2)

set_option maxRecDepth 100000 in
set_option maxHeartbeats 4000000 in
theorem jX7_certainSquares_0 {X : Cx} (ok : OK X cX7_certainSquares RX7 (some .int) 1 4 87) (l0 : Nat)  (G : Mem) {r : Int32} {G' : Mem} (h : fX7_certainSquares_0 l0 G = some (r, G')) (hK : (finI X) r G') : J X 1 0 [(0, .ref (X.B + l0))] [] G := by
  unfold fX7_certainSquares_0 at h
  refine j_aload_n ok dX7_certainSquares_0 rfl 0 rfl ?_
  refine j_aload_n ok dX7_certainSquares_1 rfl 0 rfl ?_
  obtain ⟨kq1, h⟩ := ck_some h
  obtain ⟨q1, hq1, h⟩ := obind h
  refine k_V1 ok kl_X7_358 ⟨Nat.le_of_ble_eq_true rfl, Nat.le_of_ble_eq_true rfl⟩ [] kq1 rfl rfl (Nat.le_of_ble_eq_true rfl) (tX7_same ok.fl X.V l0 G hq1) dX7_certainSquares_2 ?_
  obtain ⟨kq2, h⟩ := ck_some h
  obtain ⟨q2, hq2, h⟩ := obind h
  refine k_V1 ok kl_X7_327 ⟨Nat.le_of_ble_eq_true rfl, Nat.le_of_ble_eq_true rfl⟩ [.int q1.1] kq2 rfl rfl (Nat.le_of_ble_eq_true rfl) (tX7_told ok.fl X.V l0 q1.1 q1.2 hq2) dX7_certainSquares_5 ?_
  obtain ⟨er, eG⟩ := inj2 h
  subst er; subst eG
  exact j_iret ok rfl dX7_certainSquares_8 hK

def fX7_certainSquares (l0 : Nat) (G : Mem) : Option (Int32 × Mem) := fX7_certainSquares_0 l0 G
set_option maxRecDepth 100000 in
theorem tX7_certainSquares {l : Launch} (hfl : l.stackTraces = false) (V : Wd) (l0 : Nat) (G : Mem) {r : Int32} {G' : Mem} (h : fX7_certainSquares l0 G = some (r, G')) : Mx l yX7_certainSquares cX7_certainSquares 1 (some .int) 4 87 V [.ref (V.B + l0)] G (.inl (some (.int r))) G' :=
  mx_of (L := [(0, .ref (V.B + l0))]) hfl (by decide +kernel) (Nat.le_of_ble_eq_true rfl) rfl (fun X hl hV hin ok he => by
    subst hl; subst hV
    exact J.sub [0] rfl (jX7_certainSquares_0 ok l0 G h he))
def fX7_noNote_21  (s0 : Int32) (G : Mem) : Option (Int32 × Mem) :=
  rz s0 <|
  some (s0, G)

set_option maxRecDepth 100000 in
set_option maxHeartbeats 4000000 in
theorem jX7_noNote_21 {X : Cx} (ok : OK X cX7_noNote RX7 (some .boolean) 2 1 22)  (s0 : Int32) (G : Mem) {r : Int32} {G' : Mem} (h : fX7_noNote_21 s0 G = some (r, G')) (hK : (finI X) r G') : J X 2 21 [] [.int s0] G := by
  unfold fX7_noNote_21 at h
  obtain ⟨hz1, h⟩ := rz_some h
  obtain ⟨er, eG⟩ := inj2 h
  subst er; subst eG
  exact j_zret ok rfl hz1 dX7_noNote_21 hK

def fX7_noNote_0 (l0 : Nat) (l1 : Int32)  (G : Mem) : Option (Int32 × Mem) :=
  (gR G 17 l0 0).bind fun v1 =>
  (gA G 1 v1 (2 : Int32)).bind fun v2 =>
  (fX7_isIn l1 (0 : Int32) (v2 - (1 : Int32)) G).bind fun q3 =>
  if q3.1 = (0 : Int32) then
    fX7_noNote_21 (1 : Int32) q3.2
  else
    fX7_noNote_21 (0 : Int32) q3.2

set_option maxRecDepth 100000 in
set_option maxHeartbeats 4000000 in
theorem jX7_noNote_0 {X : Cx} (ok : OK X cX7_noNote RX7 (some .boolean) 2 1 22) (l0 : Nat) (l1 : Int32)  (G : Mem) {r : Int32} {G' : Mem} (h : fX7_noNote_0 l0 l1 G = some (r, G')) (hK : (finI X) r G') : J X 2 0 [(0, .ref (X.B + l0)), (1, .int l1)] [] G := by
  unfold fX7_noNote_0 at h
  refine j_iload_n ok dX7_noNote_0 rfl 1 rfl ?_
  refine j_iconst (v := 0) ok dX7_noNote_1 (by decide) ?_
  refine j_aload_n ok dX7_noNote_2 rfl 0 rfl ?_
  obtain ⟨v1, hv1, h⟩ := obind h
  refine k_getR ok fl_X7_9 hv1 dX7_noNote_3 ?_
  refine j_iconst (v := 2) ok dX7_noNote_6 (by decide) ?_
  obtain ⟨v2, hv2, h⟩ := obind h
  refine j_iald ok hv2 dX7_noNote_7 ?_
  refine j_iconst (v := 1) ok dX7_noNote_8 (by decide) ?_
  refine j_isub ok dX7_noNote_9 ?_
  obtain ⟨q3, hq3, h⟩ := obind h
  refine k_S1 ok kl_X7_182 ⟨Nat.le_of_ble_eq_true rfl, Nat.le_of_ble_eq_true rfl⟩ [.int l1, .int (0 : Int32), .int (v2 - (1 : Int32))] rfl rfl (Nat.le_of_ble_eq_true rfl) (tX7_isIn ok.fl X.V l1 (0 : Int32) (v2 - (1 : Int32)) G hq3) dX7_noNote_10 ?_
  rcases ite_some h with ⟨c4, h⟩ | ⟨c4, h⟩
  · refine j_if_ne (tgt := 20) ok dX7_noNote_13 (by decide) (fun z => absurd c4 z) (fun _ => ?_)
    refine j_iconst (v := 1) ok dX7_noNote_16 (by decide) ?_
    refine j_goto (tgt := 21) ok dX7_noNote_17 (by decide) ?_
    exact J.sub [] rfl (jX7_noNote_21 ok (1 : Int32) q3.2 h hK)
  · refine j_if_ne (tgt := 20) ok dX7_noNote_13 (by decide) (fun _ => ?_) (fun z => absurd z c4)
    refine j_iconst (v := 0) ok dX7_noNote_20 (by decide) ?_
    exact J.sub [] rfl (jX7_noNote_21 ok (0 : Int32) q3.2 h hK)

def fX7_noNote (l0 : Nat) (l1 : Int32) (G : Mem) : Option (Int32 × Mem) := fX7_noNote_0 l0 l1 G
set_option maxRecDepth 100000 in
theorem tX7_noNote {l : Launch} (hfl : l.stackTraces = false) (V : Wd) (l0 : Nat) (l1 : Int32) (G : Mem) {r : Int32} {G' : Mem} (h : fX7_noNote l0 l1 G = some (r, G')) : Mx l yX7_noNote cX7_noNote 2 (some .boolean) 1 22 V [.ref (V.B + l0), .int l1] G (.inl (some (.int r))) G' :=
  mx_of (L := [(0, .ref (V.B + l0)), (1, .int l1)]) hfl (by decide +kernel) (Nat.le_of_ble_eq_true rfl) rfl (fun X hl hV hin ok he => by
    subst hl; subst hV
    exact J.sub [0, 1] rfl (jX7_noNote_0 ok l0 l1 G h he))
def fX7_finds_68 (l0 : Nat)  (G : Mem) : Option (Int32 × Mem) :=
  ck G 17 l0 <| (fX7_countsBehind l0 G).bind fun q1 =>
  some ((1 : Int32), q1.2)

set_option maxRecDepth 100000 in
set_option maxHeartbeats 4000000 in
theorem jX7_finds_68 {X : Cx} (ok : OK X cX7_finds RX7 (some .boolean) 2 6 226) (l0 : Nat)  (G : Mem) {r : Int32} {G' : Mem} (h : fX7_finds_68 l0 G = some (r, G')) (hK : (finI X) r G') : J X 2 68 [(0, .ref (X.B + l0))] [] G := by
  unfold fX7_finds_68 at h
  refine j_aload_n ok dX7_finds_68 rfl 0 rfl ?_
  obtain ⟨kq1, h⟩ := ck_some h
  obtain ⟨q1, hq1, h⟩ := obind h
  refine k_V0 ok kl_X7_171 ⟨Nat.le_of_ble_eq_true rfl, Nat.le_of_ble_eq_true rfl⟩ [] kq1 rfl rfl (Nat.le_of_ble_eq_true rfl) (tX7_countsBehind ok.fl X.V l0 G hq1) dX7_finds_69 ?_
  refine j_iconst (v := 1) ok dX7_finds_72 (by decide) ?_
  obtain ⟨er, eG⟩ := inj2 h
  subst er; subst eG
  exact j_zret ok rfl (Or.inr rfl) dX7_finds_73 hK

def fX7_finds_60   (G : Mem) : Option (Int32 × Mem) :=
  some ((0 : Int32), G)

set_option maxRecDepth 100000 in
set_option maxHeartbeats 4000000 in
theorem jX7_finds_60 {X : Cx} (ok : OK X cX7_finds RX7 (some .boolean) 2 6 226)   (G : Mem) {r : Int32} {G' : Mem} (h : fX7_finds_60  G = some (r, G')) (hK : (finI X) r G') : J X 2 60 [] [] G := by
  unfold fX7_finds_60 at h
  refine j_iconst (v := 0) ok dX7_finds_60 (by decide) ?_
  obtain ⟨er, eG⟩ := inj2 h
  subst er; subst eG
  exact j_zret ok rfl (Or.inl rfl) dX7_finds_61 hK

def fX7_finds_31 (l0 : Nat) (l1 : Int32)  (G : Mem) : Option (((Int32) ⊕ Int32) × Mem) :=
  (gR G 17 l0 0).bind fun v1 =>
  (gA G 1 v1 (2 : Int32)).bind fun v2 =>
  if v2 ≤ l1 then
    liftE (fX7_finds_68 l0 G)
  else
    ck G 17 l0 <| (fX7_follows l0 l1 G).bind fun q4 =>
    if q4.1 = (0 : Int32) then
      liftE (fX7_finds_60 q4.2)
    else
      (gR q4.2 17 l0 14).bind fun v6 =>
      (gA q4.2 1 v6 (l1 + (1 : Int32))).bind fun v7 =>
      if v7 = (0 : Int32) then
        liftE (fX7_finds_60 q4.2)
      else
        some (.inl ((l1 + (1 : Int32))), q4.2)

set_option maxRecDepth 100000 in
set_option maxHeartbeats 4000000 in
theorem jX7_finds_31 {X : Cx} (ok : OK X cX7_finds RX7 (some .boolean) 2 6 226) (l0 : Nat) (l1 : Int32)  (G : Mem) {r : ((Int32) ⊕ Int32)} {G' : Mem} (h : fX7_finds_31 l0 l1 G = some (r, G')) (hK : (finL X 2 31 (fun s : Int32 => [(0, .ref (X.B + l0)), (1, .int s)]) (finI X)) r G') : J X 2 31 [(0, .ref (X.B + l0)), (1, .int l1)] [] G := by
  unfold fX7_finds_31 at h
  refine j_iload_n ok dX7_finds_31 rfl 1 rfl ?_
  refine j_aload_n ok dX7_finds_32 rfl 0 rfl ?_
  obtain ⟨v1, hv1, h⟩ := obind h
  refine k_getR ok fl_X7_9 hv1 dX7_finds_33 ?_
  refine j_iconst (v := 2) ok dX7_finds_36 (by decide) ?_
  obtain ⟨v2, hv2, h⟩ := obind h
  refine j_iald ok hv2 dX7_finds_37 ?_
  rcases ite_some h with ⟨c3, h⟩ | ⟨c3, h⟩
  · refine j_icmp_ge (tgt := 68) ok dX7_finds_38 (by decide) (fun _ => ?_) (fun z => absurd c3 z)
    obtain ⟨r1, e1, h1⟩ := lift_some h
    subst e1
    exact J.sub [0] rfl (jX7_finds_68 ok l0 G h1 hK)
  · refine j_icmp_ge (tgt := 68) ok dX7_finds_38 (by decide) (fun z => absurd z c3) (fun _ => ?_)
    refine j_aload_n ok dX7_finds_41 rfl 0 rfl ?_
    refine j_iload_n ok dX7_finds_42 rfl 1 rfl ?_
    obtain ⟨kq4, h⟩ := ck_some h
    obtain ⟨q4, hq4, h⟩ := obind h
    refine k_V1 ok kl_X7_167 ⟨Nat.le_of_ble_eq_true rfl, Nat.le_of_ble_eq_true rfl⟩ [.int l1] kq4 rfl rfl (Nat.le_of_ble_eq_true rfl) (tX7_follows ok.fl X.V l0 l1 G hq4) dX7_finds_43 ?_
    rcases ite_some h with ⟨c5, h⟩ | ⟨c5, h⟩
    · refine j_if_eq (tgt := 60) ok dX7_finds_46 (by decide) (fun _ => ?_) (fun z => absurd c5 z)
      obtain ⟨r1, e1, h1⟩ := lift_some h
      subst e1
      exact J.sub [] rfl (jX7_finds_60 ok q4.2 h1 hK)
    · refine j_if_eq (tgt := 60) ok dX7_finds_46 (by decide) (fun z => absurd z c5) (fun _ => ?_)
      refine j_aload_n ok dX7_finds_49 rfl 0 rfl ?_
      obtain ⟨v6, hv6, h⟩ := obind h
      refine k_getR ok fl_X7_39 hv6 dX7_finds_50 ?_
      refine j_iload_n ok dX7_finds_53 rfl 1 rfl ?_
      refine j_iconst (v := 1) ok dX7_finds_54 (by decide) ?_
      refine j_iadd ok dX7_finds_55 ?_
      obtain ⟨v7, hv7, h⟩ := obind h
      refine j_iald ok hv7 dX7_finds_56 ?_
      rcases ite_some h with ⟨c8, h⟩ | ⟨c8, h⟩
      · refine j_if_ne (tgt := 62) ok dX7_finds_57 (by decide) (fun z => absurd c8 z) (fun _ => ?_)
        obtain ⟨r1, e1, h1⟩ := lift_some h
        subst e1
        exact J.sub [] rfl (jX7_finds_60 ok q4.2 h1 hK)
      · refine j_if_ne (tgt := 62) ok dX7_finds_57 (by decide) (fun _ => ?_) (fun z => absurd z c8)
        refine j_iinc (L' := [(1, .int (l1 + (1 : Int32))), (0, .ref (X.B + l0))]) (v := (l1 + (1 : Int32))) ok dX7_finds_62 (q := 1) rfl rfl (by decide) rfl ?_
        refine j_goto (tgt := 31) ok dX7_finds_65 (by decide) ?_
        obtain ⟨er, eG⟩ := inj2 h
        subst er; subst eG
        have hJ : J X 2 31 [(0, .ref (X.B + l0)), (1, .int (l1 + (1 : Int32)))] [] q4.2 := hK
        exact J.sub [1, 0] rfl hJ

def fX7_finds_0 (l0 : Nat)  (G : Mem) : Option (Int32 × Mem) :=
  (gR G 17 l0 14).bind fun v1 =>
  (pA G v1 (0 : Int32) (1 : Int32)).bind fun G2 =>
  (gR G2 17 l0 18).bind fun v3 =>
  (pJ G2 v3 (0 : Int32) (1 : Int64)).bind fun G4 =>
  (gR G4 17 l0 0).bind fun v5 =>
  (gR G4 17 l0 13).bind fun v6 =>
  (cpI G4 v5 (3 : Int32) v6 (0 : Int32) (36 : Int32)).bind fun G7 =>
  loopM (fun (s : Int32) G => fX7_finds_31 l0 s G) FU ((0 : Int32)) G7

set_option maxRecDepth 100000 in
set_option maxHeartbeats 4000000 in
theorem jX7_finds_0 {X : Cx} (ok : OK X cX7_finds RX7 (some .boolean) 2 6 226) (l0 : Nat)  (G : Mem) {r : Int32} {G' : Mem} (h : fX7_finds_0 l0 G = some (r, G')) (hK : (finI X) r G') : J X 2 0 [(0, .ref (X.B + l0))] [] G := by
  unfold fX7_finds_0 at h
  refine j_aload_n ok dX7_finds_0 rfl 0 rfl ?_
  obtain ⟨v1, hv1, h⟩ := obind h
  refine k_getR ok fl_X7_39 hv1 dX7_finds_1 ?_
  refine j_iconst (v := 0) ok dX7_finds_4 (by decide) ?_
  refine j_iconst (v := 1) ok dX7_finds_5 (by decide) ?_
  obtain ⟨G2, hG2, h⟩ := obind h
  refine j_iast ok hG2 dX7_finds_6 ?_
  refine j_aload_n ok dX7_finds_7 rfl 0 rfl ?_
  obtain ⟨v3, hv3, h⟩ := obind h
  refine k_getR ok fl_X7_51 hv3 dX7_finds_8 ?_
  refine j_iconst (v := 0) ok dX7_finds_11 (by decide) ?_
  refine j_lconst (v := 1) ok dX7_finds_12 (by decide) ?_
  obtain ⟨G4, hG4, h⟩ := obind h
  refine j_last ok hG4 dX7_finds_13 ?_
  refine j_aload_n ok dX7_finds_14 rfl 0 rfl ?_
  obtain ⟨v5, hv5, h⟩ := obind h
  refine k_getR ok fl_X7_9 hv5 dX7_finds_15 ?_
  refine j_iconst (v := 3) ok dX7_finds_18 (by decide) ?_
  refine j_aload_n ok dX7_finds_19 rfl 0 rfl ?_
  obtain ⟨v6, hv6, h⟩ := obind h
  refine k_getR ok fl_X7_36 hv6 dX7_finds_20 ?_
  refine j_iconst (v := 0) ok dX7_finds_23 (by decide) ?_
  refine j_bipush (v := 36) ok dX7_finds_24 (by decide) ?_
  obtain ⟨G7, hG7, h⟩ := obind h
  refine k_cpI ok wm_X7_89 (Nat.le_of_ble_eq_true rfl) (Nat.le_of_ble_eq_true rfl) (Nat.le_of_ble_eq_true rfl) hG7 dX7_finds_26 ?_
  refine j_iconst (v := 0) ok dX7_finds_29 (by decide) ?_
  refine j_istore_n (L' := [(1, .int (0 : Int32)), (0, .ref (X.B + l0))]) ok dX7_finds_30 rfl (by decide) rfl ?_
  have hJ : J X 2 31 [(0, .ref (X.B + l0)), (1, .int (0 : Int32))] [] G7 := j_loop (loc := fun s : Int32 => [(0, .ref (X.B + l0)), (1, .int s)]) (F := (finI X)) (fun s G r G' hb hk => jX7_finds_31 ok l0 s G hb hk) _ _ _ _ _ h hK
  exact J.sub [1, 0] rfl hJ

def fX7_finds (l0 : Nat) (G : Mem) : Option (Int32 × Mem) := fX7_finds_0 l0 G
set_option maxRecDepth 100000 in
theorem tX7_finds {l : Launch} (hfl : l.stackTraces = false) (V : Wd) (l0 : Nat) (G : Mem) {r : Int32} {G' : Mem} (h : fX7_finds l0 G = some (r, G')) : Mx l yX7_finds cX7_finds 2 (some .boolean) 6 226 V [.ref (V.B + l0)] G (.inl (some (.int r))) G' :=
  mx_of (L := [(0, .ref (V.B + l0))]) hfl (by decide +kernel) (Nat.le_of_ble_eq_true rfl) rfl (fun X hl hV hin ok he => by
    subst hl; subst hV
    exact J.sub [0] rfl (jX7_finds_0 ok l0 G h he))
def fX7_states_99  (s0 : Int32) (G : Mem) : Option (Int32 × Mem) :=
  rz s0 <|
  some (s0, G)

set_option maxRecDepth 100000 in
set_option maxHeartbeats 4000000 in
theorem jX7_states_99 {X : Cx} (ok : OK X cX7_states RX7 (some .boolean) 6 7 247)  (s0 : Int32) (G : Mem) {r : Int32} {G' : Mem} (h : fX7_states_99 s0 G = some (r, G')) (hK : (finI X) r G') : J X 6 99 [] [.int s0] G := by
  unfold fX7_states_99 at h
  obtain ⟨hz1, h⟩ := rz_some h
  obtain ⟨er, eG⟩ := inj2 h
  subst er; subst eG
  exact j_zret ok rfl hz1 dX7_states_99 hK

def fX7_states_0 (l0 : Nat) (l1 : Int32) (l2 : Int32) (l3 : Int32)  (G : Mem) : Option (Int32 × Mem) :=
  ck G 17 l0 <| (fX7_of l0 l1 (1 : Int32) G).bind fun q1 =>
  ck q1.2 17 l0 <| (fX7_of l0 l1 (2 : Int32) q1.2).bind fun q2 =>
  (gR q2.2 17 l0 0).bind fun v3 =>
  (pA q2.2 v3 (((39 : Int32) + ((7 : Int32) * l1)) + (1 : Int32)) l2).bind fun G4 =>
  (gR G4 17 l0 0).bind fun v5 =>
  (pA G4 v5 (((39 : Int32) + ((7 : Int32) * l1)) + (2 : Int32)) l3).bind fun G6 =>
  ck G6 17 l0 <| (fX7_finds l0 G6).bind fun q7 =>
  if q7.1 = (0 : Int32) then
    (gR q7.2 17 l0 0).bind fun v9 =>
    (pA q7.2 v9 (((39 : Int32) + ((7 : Int32) * l1)) + (1 : Int32)) q1.1).bind fun G10 =>
    (gR G10 17 l0 0).bind fun v11 =>
    (pA G10 v11 (((39 : Int32) + ((7 : Int32) * l1)) + (2 : Int32)) q2.1).bind fun G12 =>
    ck G12 17 l0 <| (fX7_finds l0 G12).bind fun q13 =>
    if q13.1 = (0 : Int32) then
      fX7_states_99 (1 : Int32) q13.2
    else
      fX7_states_99 (0 : Int32) q13.2
  else
    some ((1 : Int32), q7.2)

set_option maxRecDepth 100000 in
set_option maxHeartbeats 4000000 in
theorem jX7_states_0 {X : Cx} (ok : OK X cX7_states RX7 (some .boolean) 6 7 247) (l0 : Nat) (l1 : Int32) (l2 : Int32) (l3 : Int32)  (G : Mem) {r : Int32} {G' : Mem} (h : fX7_states_0 l0 l1 l2 l3 G = some (r, G')) (hK : (finI X) r G') : J X 6 0 [(0, .ref (X.B + l0)), (1, .int l1), (2, .int l2), (3, .int l3)] [] G := by
  unfold fX7_states_0 at h
  refine j_aload_n ok dX7_states_0 rfl 0 rfl ?_
  refine j_iload_n ok dX7_states_1 rfl 1 rfl ?_
  refine j_iconst (v := 1) ok dX7_states_2 (by decide) ?_
  obtain ⟨kq1, h⟩ := ck_some h
  obtain ⟨q1, hq1, h⟩ := obind h
  refine k_V1 ok kl_X7_144 ⟨Nat.le_of_ble_eq_true rfl, Nat.le_of_ble_eq_true rfl⟩ [.int l1, .int (1 : Int32)] kq1 rfl rfl (Nat.le_of_ble_eq_true rfl) (tX7_of ok.fl X.V l0 l1 (1 : Int32) G hq1) dX7_states_3 ?_
  refine j_istore (L' := [(4, .int q1.1), (0, .ref (X.B + l0)), (1, .int l1), (2, .int l2), (3, .int l3)]) ok dX7_states_6 (by decide) rfl ?_
  refine j_aload_n ok dX7_states_8 rfl 1 rfl ?_
  refine j_iload_n ok dX7_states_9 rfl 2 rfl ?_
  refine j_iconst (v := 2) ok dX7_states_10 (by decide) ?_
  obtain ⟨kq2, h⟩ := ck_some h
  obtain ⟨q2, hq2, h⟩ := obind h
  refine k_V1 ok kl_X7_144 ⟨Nat.le_of_ble_eq_true rfl, Nat.le_of_ble_eq_true rfl⟩ [.int l1, .int (2 : Int32)] kq2 rfl rfl (Nat.le_of_ble_eq_true rfl) (tX7_of ok.fl X.V l0 l1 (2 : Int32) q1.2 hq2) dX7_states_11 ?_
  refine j_istore (L' := [(5, .int q2.1), (4, .int q1.1), (0, .ref (X.B + l0)), (1, .int l1), (2, .int l2), (3, .int l3)]) ok dX7_states_14 (by decide) rfl ?_
  refine j_aload_n ok dX7_states_16 rfl 2 rfl ?_
  obtain ⟨v3, hv3, h⟩ := obind h
  refine k_getR ok fl_X7_9 hv3 dX7_states_17 ?_
  refine j_bipush (v := 39) ok dX7_states_20 (by decide) ?_
  refine j_bipush (v := 7) ok dX7_states_22 (by decide) ?_
  refine j_iload_n ok dX7_states_24 rfl 3 rfl ?_
  refine j_imul ok dX7_states_25 ?_
  refine j_iadd ok dX7_states_26 ?_
  refine j_iconst (v := 1) ok dX7_states_27 (by decide) ?_
  refine j_iadd ok dX7_states_28 ?_
  refine j_iload_n ok dX7_states_29 rfl 4 rfl ?_
  obtain ⟨G4, hG4, h⟩ := obind h
  refine j_iast ok hG4 dX7_states_30 ?_
  refine j_aload_n ok dX7_states_31 rfl 2 rfl ?_
  obtain ⟨v5, hv5, h⟩ := obind h
  refine k_getR ok fl_X7_9 hv5 dX7_states_32 ?_
  refine j_bipush (v := 39) ok dX7_states_35 (by decide) ?_
  refine j_bipush (v := 7) ok dX7_states_37 (by decide) ?_
  refine j_iload_n ok dX7_states_39 rfl 3 rfl ?_
  refine j_imul ok dX7_states_40 ?_
  refine j_iadd ok dX7_states_41 ?_
  refine j_iconst (v := 2) ok dX7_states_42 (by decide) ?_
  refine j_iadd ok dX7_states_43 ?_
  refine j_iload_n ok dX7_states_44 rfl 5 rfl ?_
  obtain ⟨G6, hG6, h⟩ := obind h
  refine j_iast ok hG6 dX7_states_45 ?_
  refine j_aload_n ok dX7_states_46 rfl 2 rfl ?_
  obtain ⟨kq7, h⟩ := ck_some h
  obtain ⟨q7, hq7, h⟩ := obind h
  refine k_V1 ok kl_X7_174 ⟨Nat.le_of_ble_eq_true rfl, Nat.le_of_ble_eq_true rfl⟩ [] kq7 rfl rfl (Nat.le_of_ble_eq_true rfl) (tX7_finds ok.fl X.V l0 G6 hq7) dX7_states_47 ?_
  rcases ite_some h with ⟨c8, h⟩ | ⟨c8, h⟩
  · refine j_if_eq (tgt := 55) ok dX7_states_50 (by decide) (fun _ => ?_) (fun z => absurd c8 z)
    refine j_aload_n ok dX7_states_55 rfl 2 rfl ?_
    obtain ⟨v9, hv9, h⟩ := obind h
    refine k_getR ok fl_X7_9 hv9 dX7_states_56 ?_
    refine j_bipush (v := 39) ok dX7_states_59 (by decide) ?_
    refine j_bipush (v := 7) ok dX7_states_61 (by decide) ?_
    refine j_iload_n ok dX7_states_63 rfl 3 rfl ?_
    refine j_imul ok dX7_states_64 ?_
    refine j_iadd ok dX7_states_65 ?_
    refine j_iconst (v := 1) ok dX7_states_66 (by decide) ?_
    refine j_iadd ok dX7_states_67 ?_
    refine j_iload ok dX7_states_68 1 rfl ?_
    obtain ⟨G10, hG10, h⟩ := obind h
    refine j_iast ok hG10 dX7_states_70 ?_
    refine j_aload_n ok dX7_states_71 rfl 2 rfl ?_
    obtain ⟨v11, hv11, h⟩ := obind h
    refine k_getR ok fl_X7_9 hv11 dX7_states_72 ?_
    refine j_bipush (v := 39) ok dX7_states_75 (by decide) ?_
    refine j_bipush (v := 7) ok dX7_states_77 (by decide) ?_
    refine j_iload_n ok dX7_states_79 rfl 3 rfl ?_
    refine j_imul ok dX7_states_80 ?_
    refine j_iadd ok dX7_states_81 ?_
    refine j_iconst (v := 2) ok dX7_states_82 (by decide) ?_
    refine j_iadd ok dX7_states_83 ?_
    refine j_iload ok dX7_states_84 0 rfl ?_
    obtain ⟨G12, hG12, h⟩ := obind h
    refine j_iast ok hG12 dX7_states_86 ?_
    refine j_aload_n ok dX7_states_87 rfl 2 rfl ?_
    obtain ⟨kq13, h⟩ := ck_some h
    obtain ⟨q13, hq13, h⟩ := obind h
    refine k_V1 ok kl_X7_174 ⟨Nat.le_of_ble_eq_true rfl, Nat.le_of_ble_eq_true rfl⟩ [] kq13 rfl rfl (Nat.le_of_ble_eq_true rfl) (tX7_finds ok.fl X.V l0 G12 hq13) dX7_states_88 ?_
    rcases ite_some h with ⟨c14, h⟩ | ⟨c14, h⟩
    · refine j_if_ne (tgt := 98) ok dX7_states_91 (by decide) (fun z => absurd c14 z) (fun _ => ?_)
      refine j_iconst (v := 1) ok dX7_states_94 (by decide) ?_
      refine j_goto (tgt := 99) ok dX7_states_95 (by decide) ?_
      exact J.sub [] rfl (jX7_states_99 ok (1 : Int32) q13.2 h hK)
    · refine j_if_ne (tgt := 98) ok dX7_states_91 (by decide) (fun _ => ?_) (fun z => absurd z c14)
      refine j_iconst (v := 0) ok dX7_states_98 (by decide) ?_
      exact J.sub [] rfl (jX7_states_99 ok (0 : Int32) q13.2 h hK)
  · refine j_if_eq (tgt := 55) ok dX7_states_50 (by decide) (fun z => absurd z c8) (fun _ => ?_)
    refine j_iconst (v := 1) ok dX7_states_53 (by decide) ?_
    obtain ⟨er, eG⟩ := inj2 h
    subst er; subst eG
    exact j_zret ok rfl (Or.inr rfl) dX7_states_54 hK

def fX7_states (l0 : Nat) (l1 : Int32) (l2 : Int32) (l3 : Int32) (G : Mem) : Option (Int32 × Mem) := fX7_states_0 l0 l1 l2 l3 G
set_option maxRecDepth 100000 in
theorem tX7_states {l : Launch} (hfl : l.stackTraces = false) (V : Wd) (l0 : Nat) (l1 : Int32) (l2 : Int32) (l3 : Int32) (G : Mem) {r : Int32} {G' : Mem} (h : fX7_states l0 l1 l2 l3 G = some (r, G')) : Mx l yX7_states cX7_states 6 (some .boolean) 7 247 V [.ref (V.B + l0), .int l1, .int l2, .int l3] G (.inl (some (.int r))) G' :=
  mx_of (L := [(0, .ref (V.B + l0)), (1, .int l1), (2, .int l2), (3, .int l3)]) hfl (by decide +kernel) (Nat.le_of_ble_eq_true rfl) rfl (fun X hl hV hin ok he => by
    subst hl; subst hV
    exact J.sub [0, 1, 2, 3] rfl (jX7_states_0 ok l0 l1 l2 l3 G h he))
def fX7_clarify_121 (l0 : Nat) (s0 : Nat) (s1 : Int32) (s2 : Int32) (s3 : Int32) (G : Mem) : Option (Int32 × Mem) :=
  ck G 17 s0 <| (fX7_fails s0 s1 s2 s3 G).bind fun q1 =>
  if q1.1 = (0 : Int32) then
    (gR q1.2 17 l0 3).bind fun v3 =>
    ck q1.2 17 l0 <| (fX7_remember l0 v3 q1.2).bind fun q4 =>
    (gR q4.2 17 l0 14).bind fun v5 =>
    (gR q4.2 17 l0 0).bind fun v6 =>
    (gA q4.2 1 v6 (2 : Int32)).bind fun v7 =>
    (gA q4.2 1 v5 v7).bind fun v8 =>
    some (v8, q4.2)
  else
    some ((0 : Int32), q1.2)

set_option maxRecDepth 100000 in
set_option maxHeartbeats 4000000 in
theorem jX7_clarify_121 {X : Cx} (ok : OK X cX7_clarify RX7 (some .int) 7 8 272) (l0 : Nat) (s0 : Nat) (s1 : Int32) (s2 : Int32) (s3 : Int32) (G : Mem) {r : Int32} {G' : Mem} (h : fX7_clarify_121 l0 s0 s1 s2 s3 G = some (r, G')) (hK : (finI X) r G') : J X 7 121 [(0, .ref (X.B + l0))] [.int s3, .int s2, .int s1, .ref (X.B + s0)] G := by
  unfold fX7_clarify_121 at h
  obtain ⟨kq1, h⟩ := ck_some h
  obtain ⟨q1, hq1, h⟩ := obind h
  refine k_V1 ok kl_X7_186 ⟨Nat.le_of_ble_eq_true rfl, Nat.le_of_ble_eq_true rfl⟩ [.int s1, .int s2, .int s3] kq1 rfl rfl (Nat.le_of_ble_eq_true rfl) (tX7_fails ok.fl X.V s0 s1 s2 s3 G hq1) dX7_clarify_121 ?_
  rcases ite_some h with ⟨c2, h⟩ | ⟨c2, h⟩
  · refine j_if_eq (tgt := 129) ok dX7_clarify_124 (by decide) (fun _ => ?_) (fun z => absurd c2 z)
    refine j_aload_n ok dX7_clarify_129 rfl 0 rfl ?_
    refine j_aload_n ok dX7_clarify_130 rfl 0 rfl ?_
    obtain ⟨v3, hv3, h⟩ := obind h
    refine k_getR ok fl_X7_19 hv3 dX7_clarify_131 ?_
    obtain ⟨kq4, h⟩ := ck_some h
    obtain ⟨q4, hq4, h⟩ := obind h
    refine k_V0 ok kl_X7_310 ⟨Nat.le_of_ble_eq_true rfl, Nat.le_of_ble_eq_true rfl⟩ [.ref (X.B + v3)] kq4 rfl rfl (Nat.le_of_ble_eq_true rfl) (tX7_remember ok.fl X.V l0 v3 q1.2 hq4) dX7_clarify_134 ?_
    refine j_aload_n ok dX7_clarify_137 rfl 0 rfl ?_
    obtain ⟨v5, hv5, h⟩ := obind h
    refine k_getR ok fl_X7_39 hv5 dX7_clarify_138 ?_
    refine j_aload_n ok dX7_clarify_141 rfl 0 rfl ?_
    obtain ⟨v6, hv6, h⟩ := obind h
    refine k_getR ok fl_X7_9 hv6 dX7_clarify_142 ?_
    refine j_iconst (v := 2) ok dX7_clarify_145 (by decide) ?_
    obtain ⟨v7, hv7, h⟩ := obind h
    refine j_iald ok hv7 dX7_clarify_146 ?_
    obtain ⟨v8, hv8, h⟩ := obind h
    refine j_iald ok hv8 dX7_clarify_147 ?_
    obtain ⟨er, eG⟩ := inj2 h
    subst er; subst eG
    exact j_iret ok rfl dX7_clarify_148 hK
  · refine j_if_eq (tgt := 129) ok dX7_clarify_124 (by decide) (fun z => absurd z c2) (fun _ => ?_)
    refine j_iconst (v := 0) ok dX7_clarify_127 (by decide) ?_
    obtain ⟨er, eG⟩ := inj2 h
    subst er; subst eG
    exact j_iret ok rfl dX7_clarify_128 hK

def fX7_clarify_106 (l0 : Nat) (s0 : Int32) (G : Mem) : Option (Int32 × Mem) :=
  if s0 = (0 : Int32) then
    fX7_clarify_121 l0 l0 (0 : Int32) (0 : Int32) (1 : Int32) G
  else
    fX7_clarify_121 l0 l0 (0 : Int32) (0 : Int32) (0 : Int32) G

set_option maxRecDepth 100000 in
set_option maxHeartbeats 4000000 in
theorem jX7_clarify_106 {X : Cx} (ok : OK X cX7_clarify RX7 (some .int) 7 8 272) (l0 : Nat) (s0 : Int32) (G : Mem) {r : Int32} {G' : Mem} (h : fX7_clarify_106 l0 s0 G = some (r, G')) (hK : (finI X) r G') : J X 7 106 [(0, .ref (X.B + l0))] [.int s0] G := by
  unfold fX7_clarify_106 at h
  refine j_istore (L' := [(6, .int s0), (0, .ref (X.B + l0))]) ok dX7_clarify_106 (by decide) rfl ?_
  refine j_aload_n ok dX7_clarify_108 rfl 1 rfl ?_
  refine j_iconst (v := 0) ok dX7_clarify_109 (by decide) ?_
  refine j_iconst (v := 0) ok dX7_clarify_110 (by decide) ?_
  refine j_iload ok dX7_clarify_111 0 rfl ?_
  rcases ite_some h with ⟨c1, h⟩ | ⟨c1, h⟩
  · refine j_if_ne (tgt := 120) ok dX7_clarify_113 (by decide) (fun z => absurd c1 z) (fun _ => ?_)
    refine j_iconst (v := 1) ok dX7_clarify_116 (by decide) ?_
    refine j_goto (tgt := 121) ok dX7_clarify_117 (by decide) ?_
    exact J.sub [1] rfl (jX7_clarify_121 ok l0 l0 (0 : Int32) (0 : Int32) (1 : Int32) G h hK)
  · refine j_if_ne (tgt := 120) ok dX7_clarify_113 (by decide) (fun _ => ?_) (fun z => absurd z c1)
    refine j_iconst (v := 0) ok dX7_clarify_120 (by decide) ?_
    exact J.sub [1] rfl (jX7_clarify_121 ok l0 l0 (0 : Int32) (0 : Int32) (0 : Int32) G h hK)

def fX7_clarify_105 (l0 : Nat)  (G : Mem) : Option (Int32 × Mem) :=
  fX7_clarify_106 l0 (0 : Int32) G

set_option maxRecDepth 100000 in
set_option maxHeartbeats 4000000 in
theorem jX7_clarify_105 {X : Cx} (ok : OK X cX7_clarify RX7 (some .int) 7 8 272) (l0 : Nat)  (G : Mem) {r : Int32} {G' : Mem} (h : fX7_clarify_105 l0 G = some (r, G')) (hK : (finI X) r G') : J X 7 105 [(0, .ref (X.B + l0))] [] G := by
  unfold fX7_clarify_105 at h
  refine j_iconst (v := 0) ok dX7_clarify_105 (by decide) ?_
  exact J.sub [0] rfl (jX7_clarify_106 ok l0 (0 : Int32) G h hK)

def fX7_clarify_42 (l0 : Nat) (l1 : Int32) (l2 : Int32) (l3 : Int32) (l4 : Int32) (s0 : Int32) (G : Mem) : Option (Int32 × Mem) :=
  ck G 17 l0 <| (fX7_fails l0 l4 s0 (0 : Int32) G).bind fun q1 =>
  if q1.1 = (0 : Int32) then
    (gR q1.2 17 l0 0).bind fun v3 =>
    (gR q1.2 17 l0 3).bind fun v4 =>
    (fX7_copy v3 (0 : Int32) v4 (0 : Int32) q1.2).bind fun q5 =>
    ck q5.2 17 l0 <| (fX7_states l0 l1 l2 l3 q5.2).bind fun q6 =>
    if q6.1 = (0 : Int32) then
      fX7_clarify_105 l0 q6.2
    else
      ck q6.2 17 l0 <| (fX7_of l0 l1 (1 : Int32) q6.2).bind fun q8 =>
      if q8.1 = l2 then
        ck q8.2 17 l0 <| (fX7_of l0 l1 (2 : Int32) q8.2).bind fun q10 =>
        if q10.1 = l3 then
          fX7_clarify_106 l0 (1 : Int32) q10.2
        else
          fX7_clarify_105 l0 q10.2
      else
        fX7_clarify_105 l0 q8.2
  else
    some ((0 : Int32), q1.2)

set_option maxRecDepth 100000 in
set_option maxHeartbeats 4000000 in
theorem jX7_clarify_42 {X : Cx} (ok : OK X cX7_clarify RX7 (some .int) 7 8 272) (l0 : Nat) (l1 : Int32) (l2 : Int32) (l3 : Int32) (l4 : Int32) (s0 : Int32) (G : Mem) {r : Int32} {G' : Mem} (h : fX7_clarify_42 l0 l1 l2 l3 l4 s0 G = some (r, G')) (hK : (finI X) r G') : J X 7 42 [(0, .ref (X.B + l0)), (1, .int l1), (2, .int l2), (3, .int l3), (4, .int l4)] [.int s0] G := by
  unfold fX7_clarify_42 at h
  refine j_istore (L' := [(5, .int s0), (0, .ref (X.B + l0)), (1, .int l1), (2, .int l2), (3, .int l3), (4, .int l4)]) ok dX7_clarify_42 (by decide) rfl ?_
  refine j_aload_n ok dX7_clarify_44 rfl 1 rfl ?_
  refine j_iload ok dX7_clarify_45 5 rfl ?_
  refine j_iload ok dX7_clarify_47 0 rfl ?_
  refine j_iconst (v := 0) ok dX7_clarify_49 (by decide) ?_
  obtain ⟨kq1, h⟩ := ck_some h
  obtain ⟨q1, hq1, h⟩ := obind h
  refine k_V1 ok kl_X7_186 ⟨Nat.le_of_ble_eq_true rfl, Nat.le_of_ble_eq_true rfl⟩ [.int l4, .int s0, .int (0 : Int32)] kq1 rfl rfl (Nat.le_of_ble_eq_true rfl) (tX7_fails ok.fl X.V l0 l4 s0 (0 : Int32) G hq1) dX7_clarify_50 ?_
  rcases ite_some h with ⟨c2, h⟩ | ⟨c2, h⟩
  · refine j_if_eq (tgt := 58) ok dX7_clarify_53 (by decide) (fun _ => ?_) (fun z => absurd c2 z)
    refine j_aload_n ok dX7_clarify_58 rfl 1 rfl ?_
    obtain ⟨v3, hv3, h⟩ := obind h
    refine k_getR ok fl_X7_9 hv3 dX7_clarify_59 ?_
    refine j_iconst (v := 0) ok dX7_clarify_62 (by decide) ?_
    refine j_aload_n ok dX7_clarify_63 rfl 1 rfl ?_
    obtain ⟨v4, hv4, h⟩ := obind h
    refine k_getR ok fl_X7_19 hv4 dX7_clarify_64 ?_
    refine j_iconst (v := 0) ok dX7_clarify_67 (by decide) ?_
    obtain ⟨q5, hq5, h⟩ := obind h
    refine k_S0 ok kl_X7_95 ⟨Nat.le_of_ble_eq_true rfl, Nat.le_of_ble_eq_true rfl⟩ [.ref (X.B + v3), .int (0 : Int32), .ref (X.B + v4), .int (0 : Int32)] rfl rfl (Nat.le_of_ble_eq_true rfl) (tX7_copy ok.fl X.V v3 (0 : Int32) v4 (0 : Int32) q1.2 hq5) dX7_clarify_68 ?_
    refine j_aload_n ok dX7_clarify_71 rfl 1 rfl ?_
    refine j_iload_n ok dX7_clarify_72 rfl 2 rfl ?_
    refine j_iload_n ok dX7_clarify_73 rfl 3 rfl ?_
    refine j_iload_n ok dX7_clarify_74 rfl 4 rfl ?_
    obtain ⟨kq6, h⟩ := ck_some h
    obtain ⟨q6, hq6, h⟩ := obind h
    refine k_V1 ok kl_X7_289 ⟨Nat.le_of_ble_eq_true rfl, Nat.le_of_ble_eq_true rfl⟩ [.int l1, .int l2, .int l3] kq6 rfl rfl (Nat.le_of_ble_eq_true rfl) (tX7_states ok.fl X.V l0 l1 l2 l3 q5.2 hq6) dX7_clarify_75 ?_
    rcases ite_some h with ⟨c7, h⟩ | ⟨c7, h⟩
    · refine j_if_eq (tgt := 105) ok dX7_clarify_78 (by decide) (fun _ => ?_) (fun z => absurd c7 z)
      exact J.sub [1] rfl (jX7_clarify_105 ok l0 q6.2 h hK)
    · refine j_if_eq (tgt := 105) ok dX7_clarify_78 (by decide) (fun z => absurd z c7) (fun _ => ?_)
      refine j_aload_n ok dX7_clarify_81 rfl 1 rfl ?_
      refine j_iload_n ok dX7_clarify_82 rfl 2 rfl ?_
      refine j_iconst (v := 1) ok dX7_clarify_83 (by decide) ?_
      obtain ⟨kq8, h⟩ := ck_some h
      obtain ⟨q8, hq8, h⟩ := obind h
      refine k_V1 ok kl_X7_144 ⟨Nat.le_of_ble_eq_true rfl, Nat.le_of_ble_eq_true rfl⟩ [.int l1, .int (1 : Int32)] kq8 rfl rfl (Nat.le_of_ble_eq_true rfl) (tX7_of ok.fl X.V l0 l1 (1 : Int32) q6.2 hq8) dX7_clarify_84 ?_
      refine j_iload_n ok dX7_clarify_87 rfl 3 rfl ?_
      rcases ite_some h with ⟨c9, h⟩ | ⟨c9, h⟩
      · refine j_icmp_ne (tgt := 105) ok dX7_clarify_88 (by decide) (fun z => absurd c9 z) (fun _ => ?_)
        refine j_aload_n ok dX7_clarify_91 rfl 1 rfl ?_
        refine j_iload_n ok dX7_clarify_92 rfl 2 rfl ?_
        refine j_iconst (v := 2) ok dX7_clarify_93 (by decide) ?_
        obtain ⟨kq10, h⟩ := ck_some h
        obtain ⟨q10, hq10, h⟩ := obind h
        refine k_V1 ok kl_X7_144 ⟨Nat.le_of_ble_eq_true rfl, Nat.le_of_ble_eq_true rfl⟩ [.int l1, .int (2 : Int32)] kq10 rfl rfl (Nat.le_of_ble_eq_true rfl) (tX7_of ok.fl X.V l0 l1 (2 : Int32) q8.2 hq10) dX7_clarify_94 ?_
        refine j_iload_n ok dX7_clarify_97 rfl 4 rfl ?_
        rcases ite_some h with ⟨c11, h⟩ | ⟨c11, h⟩
        · refine j_icmp_ne (tgt := 105) ok dX7_clarify_98 (by decide) (fun z => absurd c11 z) (fun _ => ?_)
          refine j_iconst (v := 1) ok dX7_clarify_101 (by decide) ?_
          refine j_goto (tgt := 106) ok dX7_clarify_102 (by decide) ?_
          exact J.sub [1] rfl (jX7_clarify_106 ok l0 (1 : Int32) q10.2 h hK)
        · refine j_icmp_ne (tgt := 105) ok dX7_clarify_98 (by decide) (fun _ => ?_) (fun z => absurd z c11)
          exact J.sub [1] rfl (jX7_clarify_105 ok l0 q10.2 h hK)
      · refine j_icmp_ne (tgt := 105) ok dX7_clarify_88 (by decide) (fun _ => ?_) (fun z => absurd z c9)
        exact J.sub [1] rfl (jX7_clarify_105 ok l0 q8.2 h hK)
  · refine j_if_eq (tgt := 58) ok dX7_clarify_53 (by decide) (fun z => absurd z c2) (fun _ => ?_)
    refine j_iconst (v := 0) ok dX7_clarify_56 (by decide) ?_
    obtain ⟨er, eG⟩ := inj2 h
    subst er; subst eG
    exact j_iret ok rfl dX7_clarify_57 hK

def fX7_clarify_37 (l0 : Nat) (l1 : Int32) (l2 : Int32) (l3 : Int32) (l4 : Int32)  (G : Mem) : Option (Int32 × Mem) :=
  fX7_clarify_42 l0 l1 l2 l3 l4 (1 : Int32) G

set_option maxRecDepth 100000 in
set_option maxHeartbeats 4000000 in
theorem jX7_clarify_37 {X : Cx} (ok : OK X cX7_clarify RX7 (some .int) 7 8 272) (l0 : Nat) (l1 : Int32) (l2 : Int32) (l3 : Int32) (l4 : Int32)  (G : Mem) {r : Int32} {G' : Mem} (h : fX7_clarify_37 l0 l1 l2 l3 l4 G = some (r, G')) (hK : (finI X) r G') : J X 7 37 [(0, .ref (X.B + l0)), (1, .int l1), (2, .int l2), (3, .int l3), (4, .int l4)] [] G := by
  unfold fX7_clarify_37 at h
  refine j_iconst (v := 1) ok dX7_clarify_37 (by decide) ?_
  refine j_goto (tgt := 42) ok dX7_clarify_38 (by decide) ?_
  exact J.sub [0, 1, 2, 3, 4] rfl (jX7_clarify_42 ok l0 l1 l2 l3 l4 (1 : Int32) G h hK)

def fX7_clarify_0 (l0 : Nat) (l1 : Int32) (l2 : Int32) (l3 : Int32)  (G : Mem) : Option (Int32 × Mem) :=
  ck G 17 l0 <| (fX7_noNote l0 l1 G).bind fun q1 =>
  (gR q1.2 17 l0 0).bind fun v2 =>
  (gA q1.2 1 v2 (0 : Int32)).bind fun v3 =>
  (fX7_isStated l2 (v3 - (1 : Int32)) q1.2).bind fun q4 =>
  if q4.1 = (0 : Int32) then
    fX7_clarify_37 l0 l1 l2 l3 q1.1 q4.2
  else
    (gR q4.2 17 l0 0).bind fun v6 =>
    (gA q4.2 1 v6 (1 : Int32)).bind fun v7 =>
    (fX7_isStated l3 (v7 - (1 : Int32)) q4.2).bind fun q8 =>
    if q8.1 = (0 : Int32) then
      fX7_clarify_37 l0 l1 l2 l3 q1.1 q8.2
    else
      fX7_clarify_42 l0 l1 l2 l3 q1.1 (0 : Int32) q8.2

set_option maxRecDepth 100000 in
set_option maxHeartbeats 4000000 in
theorem jX7_clarify_0 {X : Cx} (ok : OK X cX7_clarify RX7 (some .int) 7 8 272) (l0 : Nat) (l1 : Int32) (l2 : Int32) (l3 : Int32)  (G : Mem) {r : Int32} {G' : Mem} (h : fX7_clarify_0 l0 l1 l2 l3 G = some (r, G')) (hK : (finI X) r G') : J X 7 0 [(0, .ref (X.B + l0)), (1, .int l1), (2, .int l2), (3, .int l3)] [] G := by
  unfold fX7_clarify_0 at h
  refine j_aload_n ok dX7_clarify_0 rfl 0 rfl ?_
  refine j_iload_n ok dX7_clarify_1 rfl 1 rfl ?_
  obtain ⟨kq1, h⟩ := ck_some h
  obtain ⟨q1, hq1, h⟩ := obind h
  refine k_V1 ok kl_X7_337 ⟨Nat.le_of_ble_eq_true rfl, Nat.le_of_ble_eq_true rfl⟩ [.int l1] kq1 rfl rfl (Nat.le_of_ble_eq_true rfl) (tX7_noNote ok.fl X.V l0 l1 G hq1) dX7_clarify_2 ?_
  refine j_istore (L' := [(4, .int q1.1), (0, .ref (X.B + l0)), (1, .int l1), (2, .int l2), (3, .int l3)]) ok dX7_clarify_5 (by decide) rfl ?_
  refine j_iload_n ok dX7_clarify_7 rfl 3 rfl ?_
  refine j_aload_n ok dX7_clarify_8 rfl 1 rfl ?_
  obtain ⟨v2, hv2, h⟩ := obind h
  refine k_getR ok fl_X7_9 hv2 dX7_clarify_9 ?_
  refine j_iconst (v := 0) ok dX7_clarify_12 (by decide) ?_
  obtain ⟨v3, hv3, h⟩ := obind h
  refine j_iald ok hv3 dX7_clarify_13 ?_
  refine j_iconst (v := 1) ok dX7_clarify_14 (by decide) ?_
  refine j_isub ok dX7_clarify_15 ?_
  obtain ⟨q4, hq4, h⟩ := obind h
  refine k_S1 ok kl_X7_330 ⟨Nat.le_of_ble_eq_true rfl, Nat.le_of_ble_eq_true rfl⟩ [.int l2, .int (v3 - (1 : Int32))] rfl rfl (Nat.le_of_ble_eq_true rfl) (tX7_isStated ok.fl X.V l2 (v3 - (1 : Int32)) q1.2 hq4) dX7_clarify_16 ?_
  rcases ite_some h with ⟨c5, h⟩ | ⟨c5, h⟩
  · refine j_if_eq (tgt := 37) ok dX7_clarify_19 (by decide) (fun _ => ?_) (fun z => absurd c5 z)
    exact J.sub [1, 2, 3, 4, 0] rfl (jX7_clarify_37 ok l0 l1 l2 l3 q1.1 q4.2 h hK)
  · refine j_if_eq (tgt := 37) ok dX7_clarify_19 (by decide) (fun z => absurd z c5) (fun _ => ?_)
    refine j_iload_n ok dX7_clarify_22 rfl 4 rfl ?_
    refine j_aload_n ok dX7_clarify_23 rfl 1 rfl ?_
    obtain ⟨v6, hv6, h⟩ := obind h
    refine k_getR ok fl_X7_9 hv6 dX7_clarify_24 ?_
    refine j_iconst (v := 1) ok dX7_clarify_27 (by decide) ?_
    obtain ⟨v7, hv7, h⟩ := obind h
    refine j_iald ok hv7 dX7_clarify_28 ?_
    refine j_iconst (v := 1) ok dX7_clarify_29 (by decide) ?_
    refine j_isub ok dX7_clarify_30 ?_
    obtain ⟨q8, hq8, h⟩ := obind h
    refine k_S1 ok kl_X7_330 ⟨Nat.le_of_ble_eq_true rfl, Nat.le_of_ble_eq_true rfl⟩ [.int l3, .int (v7 - (1 : Int32))] rfl rfl (Nat.le_of_ble_eq_true rfl) (tX7_isStated ok.fl X.V l3 (v7 - (1 : Int32)) q4.2 hq8) dX7_clarify_31 ?_
    rcases ite_some h with ⟨c9, h⟩ | ⟨c9, h⟩
    · refine j_if_ne (tgt := 41) ok dX7_clarify_34 (by decide) (fun z => absurd c9 z) (fun _ => ?_)
      exact J.sub [1, 2, 3, 4, 0] rfl (jX7_clarify_37 ok l0 l1 l2 l3 q1.1 q8.2 h hK)
    · refine j_if_ne (tgt := 41) ok dX7_clarify_34 (by decide) (fun _ => ?_) (fun z => absurd z c9)
      refine j_iconst (v := 0) ok dX7_clarify_41 (by decide) ?_
      exact J.sub [1, 2, 3, 4, 0] rfl (jX7_clarify_42 ok l0 l1 l2 l3 q1.1 (0 : Int32) q8.2 h hK)

def fX7_clarify (l0 : Nat) (l1 : Int32) (l2 : Int32) (l3 : Int32) (G : Mem) : Option (Int32 × Mem) := fX7_clarify_0 l0 l1 l2 l3 G
set_option maxRecDepth 100000 in
theorem tX7_clarify {l : Launch} (hfl : l.stackTraces = false) (V : Wd) (l0 : Nat) (l1 : Int32) (l2 : Int32) (l3 : Int32) (G : Mem) {r : Int32} {G' : Mem} (h : fX7_clarify l0 l1 l2 l3 G = some (r, G')) : Mx l yX7_clarify cX7_clarify 7 (some .int) 8 272 V [.ref (V.B + l0), .int l1, .int l2, .int l3] G (.inl (some (.int r))) G' :=
  mx_of (L := [(0, .ref (V.B + l0)), (1, .int l1), (2, .int l2), (3, .int l3)]) hfl (by decide +kernel) (Nat.le_of_ble_eq_true rfl) rfl (fun X hl hV hin ok he => by
    subst hl; subst hV
    exact J.sub [0, 1, 2, 3] rfl (jX7_clarify_0 ok l0 l1 l2 l3 G h he))
def fX7_noPosition_26  (s0 : Int32) (G : Mem) : Option (Int32 × Mem) :=
  rz s0 <|
  some (s0, G)

set_option maxRecDepth 100000 in
set_option maxHeartbeats 4000000 in
theorem jX7_noPosition_26 {X : Cx} (ok : OK X cX7_noPosition RX7 (some .boolean) 2 1 22)  (s0 : Int32) (G : Mem) {r : Int32} {G' : Mem} (h : fX7_noPosition_26 s0 G = some (r, G')) (hK : (finI X) r G') : J X 2 26 [] [.int s0] G := by
  unfold fX7_noPosition_26 at h
  obtain ⟨hz1, h⟩ := rz_some h
  obtain ⟨er, eG⟩ := inj2 h
  subst er; subst eG
  exact j_zret ok rfl hz1 dX7_noPosition_26 hK

def fX7_noPosition_0 (l0 : Nat) (l1 : Int32)  (G : Mem) : Option (Int32 × Mem) :=
  (gR G 17 l0 14).bind fun v1 =>
  (gR G 17 l0 0).bind fun v2 =>
  (gA G 1 v2 (2 : Int32)).bind fun v3 =>
  (gA G 1 v1 v3).bind fun v4 =>
  (fX7_isIn l1 (0 : Int32) (v4 - (1 : Int32)) G).bind fun q5 =>
  if q5.1 = (0 : Int32) then
    fX7_noPosition_26 (1 : Int32) q5.2
  else
    fX7_noPosition_26 (0 : Int32) q5.2

set_option maxRecDepth 100000 in
set_option maxHeartbeats 4000000 in
theorem jX7_noPosition_0 {X : Cx} (ok : OK X cX7_noPosition RX7 (some .boolean) 2 1 22) (l0 : Nat) (l1 : Int32)  (G : Mem) {r : Int32} {G' : Mem} (h : fX7_noPosition_0 l0 l1 G = some (r, G')) (hK : (finI X) r G') : J X 2 0 [(0, .ref (X.B + l0)), (1, .int l1)] [] G := by
  unfold fX7_noPosition_0 at h
  refine j_iload_n ok dX7_noPosition_0 rfl 1 rfl ?_
  refine j_iconst (v := 0) ok dX7_noPosition_1 (by decide) ?_
  refine j_aload_n ok dX7_noPosition_2 rfl 0 rfl ?_
  obtain ⟨v1, hv1, h⟩ := obind h
  refine k_getR ok fl_X7_39 hv1 dX7_noPosition_3 ?_
  refine j_aload_n ok dX7_noPosition_6 rfl 0 rfl ?_
  obtain ⟨v2, hv2, h⟩ := obind h
  refine k_getR ok fl_X7_9 hv2 dX7_noPosition_7 ?_
  refine j_iconst (v := 2) ok dX7_noPosition_10 (by decide) ?_
  obtain ⟨v3, hv3, h⟩ := obind h
  refine j_iald ok hv3 dX7_noPosition_11 ?_
  obtain ⟨v4, hv4, h⟩ := obind h
  refine j_iald ok hv4 dX7_noPosition_12 ?_
  refine j_iconst (v := 1) ok dX7_noPosition_13 (by decide) ?_
  refine j_isub ok dX7_noPosition_14 ?_
  obtain ⟨q5, hq5, h⟩ := obind h
  refine k_S1 ok kl_X7_182 ⟨Nat.le_of_ble_eq_true rfl, Nat.le_of_ble_eq_true rfl⟩ [.int l1, .int (0 : Int32), .int (v4 - (1 : Int32))] rfl rfl (Nat.le_of_ble_eq_true rfl) (tX7_isIn ok.fl X.V l1 (0 : Int32) (v4 - (1 : Int32)) G hq5) dX7_noPosition_15 ?_
  rcases ite_some h with ⟨c6, h⟩ | ⟨c6, h⟩
  · refine j_if_ne (tgt := 25) ok dX7_noPosition_18 (by decide) (fun z => absurd c6 z) (fun _ => ?_)
    refine j_iconst (v := 1) ok dX7_noPosition_21 (by decide) ?_
    refine j_goto (tgt := 26) ok dX7_noPosition_22 (by decide) ?_
    exact J.sub [] rfl (jX7_noPosition_26 ok (1 : Int32) q5.2 h hK)
  · refine j_if_ne (tgt := 25) ok dX7_noPosition_18 (by decide) (fun _ => ?_) (fun z => absurd z c6)
    refine j_iconst (v := 0) ok dX7_noPosition_25 (by decide) ?_
    exact J.sub [] rfl (jX7_noPosition_26 ok (0 : Int32) q5.2 h hK)

def fX7_noPosition (l0 : Nat) (l1 : Int32) (G : Mem) : Option (Int32 × Mem) := fX7_noPosition_0 l0 l1 G
set_option maxRecDepth 100000 in
theorem tX7_noPosition {l : Launch} (hfl : l.stackTraces = false) (V : Wd) (l0 : Nat) (l1 : Int32) (G : Mem) {r : Int32} {G' : Mem} (h : fX7_noPosition l0 l1 G = some (r, G')) : Mx l yX7_noPosition cX7_noPosition 2 (some .boolean) 1 22 V [.ref (V.B + l0), .int l1] G (.inl (some (.int r))) G' :=
  mx_of (L := [(0, .ref (V.B + l0)), (1, .int l1)]) hfl (by decide +kernel) (Nat.le_of_ble_eq_true rfl) rfl (fun X hl hV hin ok he => by
    subst hl; subst hV
    exact J.sub [0, 1] rfl (jX7_noPosition_0 ok l0 l1 G h he))
def fX7_noSquare_37  (s0 : Int32) (G : Mem) : Option (Int32 × Mem) :=
  rz s0 <|
  some (s0, G)

set_option maxRecDepth 100000 in
set_option maxHeartbeats 4000000 in
theorem jX7_noSquare_37 {X : Cx} (ok : OK X cX7_noSquare RX7 (some .boolean) 3 1 22)  (s0 : Int32) (G : Mem) {r : Int32} {G' : Mem} (h : fX7_noSquare_37 s0 G = some (r, G')) (hK : (finI X) r G') : J X 3 37 [] [.int s0] G := by
  unfold fX7_noSquare_37 at h
  obtain ⟨hz1, h⟩ := rz_some h
  obtain ⟨er, eG⟩ := inj2 h
  subst er; subst eG
  exact j_zret ok rfl hz1 dX7_noSquare_37 hK

def fX7_noSquare_32   (G : Mem) : Option (Int32 × Mem) :=
  fX7_noSquare_37 (1 : Int32) G

set_option maxRecDepth 100000 in
set_option maxHeartbeats 4000000 in
theorem jX7_noSquare_32 {X : Cx} (ok : OK X cX7_noSquare RX7 (some .boolean) 3 1 22)   (G : Mem) {r : Int32} {G' : Mem} (h : fX7_noSquare_32  G = some (r, G')) (hK : (finI X) r G') : J X 3 32 [] [] G := by
  unfold fX7_noSquare_32 at h
  refine j_iconst (v := 1) ok dX7_noSquare_32 (by decide) ?_
  refine j_goto (tgt := 37) ok dX7_noSquare_33 (by decide) ?_
  exact J.sub [] rfl (jX7_noSquare_37 ok (1 : Int32) G h hK)

def fX7_noSquare_0 (l0 : Nat) (l1 : Int32) (l2 : Int32)  (G : Mem) : Option (Int32 × Mem) :=
  (gR G 17 l0 0).bind fun v1 =>
  (gA G 1 v1 (0 : Int32)).bind fun v2 =>
  (fX7_isIn l1 (0 : Int32) (v2 - (1 : Int32)) G).bind fun q3 =>
  if q3.1 = (0 : Int32) then
    fX7_noSquare_32 q3.2
  else
    (gR q3.2 17 l0 0).bind fun v5 =>
    (gA q3.2 1 v5 (1 : Int32)).bind fun v6 =>
    (fX7_isIn l2 (0 : Int32) (v6 - (1 : Int32)) q3.2).bind fun q7 =>
    if q7.1 = (0 : Int32) then
      fX7_noSquare_32 q7.2
    else
      fX7_noSquare_37 (0 : Int32) q7.2

set_option maxRecDepth 100000 in
set_option maxHeartbeats 4000000 in
theorem jX7_noSquare_0 {X : Cx} (ok : OK X cX7_noSquare RX7 (some .boolean) 3 1 22) (l0 : Nat) (l1 : Int32) (l2 : Int32)  (G : Mem) {r : Int32} {G' : Mem} (h : fX7_noSquare_0 l0 l1 l2 G = some (r, G')) (hK : (finI X) r G') : J X 3 0 [(0, .ref (X.B + l0)), (1, .int l1), (2, .int l2)] [] G := by
  unfold fX7_noSquare_0 at h
  refine j_iload_n ok dX7_noSquare_0 rfl 1 rfl ?_
  refine j_iconst (v := 0) ok dX7_noSquare_1 (by decide) ?_
  refine j_aload_n ok dX7_noSquare_2 rfl 0 rfl ?_
  obtain ⟨v1, hv1, h⟩ := obind h
  refine k_getR ok fl_X7_9 hv1 dX7_noSquare_3 ?_
  refine j_iconst (v := 0) ok dX7_noSquare_6 (by decide) ?_
  obtain ⟨v2, hv2, h⟩ := obind h
  refine j_iald ok hv2 dX7_noSquare_7 ?_
  refine j_iconst (v := 1) ok dX7_noSquare_8 (by decide) ?_
  refine j_isub ok dX7_noSquare_9 ?_
  obtain ⟨q3, hq3, h⟩ := obind h
  refine k_S1 ok kl_X7_182 ⟨Nat.le_of_ble_eq_true rfl, Nat.le_of_ble_eq_true rfl⟩ [.int l1, .int (0 : Int32), .int (v2 - (1 : Int32))] rfl rfl (Nat.le_of_ble_eq_true rfl) (tX7_isIn ok.fl X.V l1 (0 : Int32) (v2 - (1 : Int32)) G hq3) dX7_noSquare_10 ?_
  rcases ite_some h with ⟨c4, h⟩ | ⟨c4, h⟩
  · refine j_if_eq (tgt := 32) ok dX7_noSquare_13 (by decide) (fun _ => ?_) (fun z => absurd c4 z)
    exact J.sub [] rfl (jX7_noSquare_32 ok q3.2 h hK)
  · refine j_if_eq (tgt := 32) ok dX7_noSquare_13 (by decide) (fun z => absurd z c4) (fun _ => ?_)
    refine j_iload_n ok dX7_noSquare_16 rfl 2 rfl ?_
    refine j_iconst (v := 0) ok dX7_noSquare_17 (by decide) ?_
    refine j_aload_n ok dX7_noSquare_18 rfl 0 rfl ?_
    obtain ⟨v5, hv5, h⟩ := obind h
    refine k_getR ok fl_X7_9 hv5 dX7_noSquare_19 ?_
    refine j_iconst (v := 1) ok dX7_noSquare_22 (by decide) ?_
    obtain ⟨v6, hv6, h⟩ := obind h
    refine j_iald ok hv6 dX7_noSquare_23 ?_
    refine j_iconst (v := 1) ok dX7_noSquare_24 (by decide) ?_
    refine j_isub ok dX7_noSquare_25 ?_
    obtain ⟨q7, hq7, h⟩ := obind h
    refine k_S1 ok kl_X7_182 ⟨Nat.le_of_ble_eq_true rfl, Nat.le_of_ble_eq_true rfl⟩ [.int l2, .int (0 : Int32), .int (v6 - (1 : Int32))] rfl rfl (Nat.le_of_ble_eq_true rfl) (tX7_isIn ok.fl X.V l2 (0 : Int32) (v6 - (1 : Int32)) q3.2 hq7) dX7_noSquare_26 ?_
    rcases ite_some h with ⟨c8, h⟩ | ⟨c8, h⟩
    · refine j_if_ne (tgt := 36) ok dX7_noSquare_29 (by decide) (fun z => absurd c8 z) (fun _ => ?_)
      exact J.sub [] rfl (jX7_noSquare_32 ok q7.2 h hK)
    · refine j_if_ne (tgt := 36) ok dX7_noSquare_29 (by decide) (fun _ => ?_) (fun z => absurd z c8)
      refine j_iconst (v := 0) ok dX7_noSquare_36 (by decide) ?_
      exact J.sub [] rfl (jX7_noSquare_37 ok (0 : Int32) q7.2 h hK)

def fX7_noSquare (l0 : Nat) (l1 : Int32) (l2 : Int32) (G : Mem) : Option (Int32 × Mem) := fX7_noSquare_0 l0 l1 l2 G
set_option maxRecDepth 100000 in
theorem tX7_noSquare {l : Launch} (hfl : l.stackTraces = false) (V : Wd) (l0 : Nat) (l1 : Int32) (l2 : Int32) (G : Mem) {r : Int32} {G' : Mem} (h : fX7_noSquare l0 l1 l2 G = some (r, G')) : Mx l yX7_noSquare cX7_noSquare 3 (some .boolean) 1 22 V [.ref (V.B + l0), .int l1, .int l2] G (.inl (some (.int r))) G' :=
  mx_of (L := [(0, .ref (V.B + l0)), (1, .int l1), (2, .int l2)]) hfl (by decide +kernel) (Nat.le_of_ble_eq_true rfl) rfl (fun X hl hV hin ok he => by
    subst hl; subst hV
    exact J.sub [0, 1, 2] rfl (jX7_noSquare_0 ok l0 l1 l2 G h he))
def fX7_square_0 (l0 : Nat) (l1 : Int32) (l2 : Int32)  (G : Mem) : Option (Int32 × Mem) :=
  (gR G 17 l0 0).bind fun v1 =>
  (gA G 1 v1 (0 : Int32)).bind fun v2 =>
  some (((l2 * v2) + l1), G)

set_option maxRecDepth 100000 in
set_option maxHeartbeats 4000000 in
theorem jX7_square_0 {X : Cx} (ok : OK X cX7_square RX7 (some .int) 3 0 0) (l0 : Nat) (l1 : Int32) (l2 : Int32)  (G : Mem) {r : Int32} {G' : Mem} (h : fX7_square_0 l0 l1 l2 G = some (r, G')) (hK : (finI X) r G') : J X 3 0 [(0, .ref (X.B + l0)), (1, .int l1), (2, .int l2)] [] G := by
  unfold fX7_square_0 at h
  refine j_iload_n ok dX7_square_0 rfl 2 rfl ?_
  refine j_aload_n ok dX7_square_1 rfl 0 rfl ?_
  obtain ⟨v1, hv1, h⟩ := obind h
  refine k_getR ok fl_X7_9 hv1 dX7_square_2 ?_
  refine j_iconst (v := 0) ok dX7_square_5 (by decide) ?_
  obtain ⟨v2, hv2, h⟩ := obind h
  refine j_iald ok hv2 dX7_square_6 ?_
  refine j_imul ok dX7_square_7 ?_
  refine j_iload_n ok dX7_square_8 rfl 1 rfl ?_
  refine j_iadd ok dX7_square_9 ?_
  obtain ⟨er, eG⟩ := inj2 h
  subst er; subst eG
  exact j_iret ok rfl dX7_square_10 hK

def fX7_square (l0 : Nat) (l1 : Int32) (l2 : Int32) (G : Mem) : Option (Int32 × Mem) := fX7_square_0 l0 l1 l2 G
set_option maxRecDepth 100000 in
theorem tX7_square {l : Launch} (hfl : l.stackTraces = false) (V : Wd) (l0 : Nat) (l1 : Int32) (l2 : Int32) (G : Mem) {r : Int32} {G' : Mem} (h : fX7_square l0 l1 l2 G = some (r, G')) : Mx l yX7_square cX7_square 3 (some .int) 0 0 V [.ref (V.B + l0), .int l1, .int l2] G (.inl (some (.int r))) G' :=
  mx_of (L := [(0, .ref (V.B + l0)), (1, .int l1), (2, .int l2)]) hfl (by decide +kernel) (Nat.le_of_ble_eq_true rfl) rfl (fun X hl hV hin ok he => by
    subst hl; subst hV
    exact J.sub [0, 1, 2] rfl (jX7_square_0 ok l0 l1 l2 G h he))
def fX7_colourAt_60  (s0 : Int32) (G : Mem) : Option (Int32 × Mem) :=
  some (s0, G)

set_option maxRecDepth 100000 in
set_option maxHeartbeats 4000000 in
theorem jX7_colourAt_60 {X : Cx} (ok : OK X cX7_colourAt RX7 (some .int) 5 2 44)  (s0 : Int32) (G : Mem) {r : Int32} {G' : Mem} (h : fX7_colourAt_60 s0 G = some (r, G')) (hK : (finI X) r G') : J X 5 60 [] [.int s0] G := by
  unfold fX7_colourAt_60 at h
  obtain ⟨er, eG⟩ := inj2 h
  subst er; subst eG
  exact j_iret ok rfl dX7_colourAt_60 hK

def fX7_colourAt_23 (l0 : Nat) (l1 : Int32) (l2 : Int32) (l3 : Int32) (s0 : Nat) (s1 : Int32) (G : Mem) : Option (Int32 × Mem) :=
  ck G 17 s0 <| (fX7_fails s0 s1 (0 : Int32) (0 : Int32) G).bind fun q1 =>
  if q1.1 = (0 : Int32) then
    ck q1.2 17 l0 <| (fX7_square l0 l2 l3 q1.2).bind fun q3 =>
    ck q3.2 17 l0 <| (fX7_last l0 l1 q3.1 q3.2).bind fun q4 =>
    if q4.1 = (0 : Int32) then
      fX7_colourAt_60 (-1 : Int32) q4.2
    else
      (fX7_colourOf q4.1 q4.2).bind fun q6 =>
      fX7_colourAt_60 q6.1 q6.2
  else
    some ((0 : Int32), q1.2)

set_option maxRecDepth 100000 in
set_option maxHeartbeats 4000000 in
theorem jX7_colourAt_23 {X : Cx} (ok : OK X cX7_colourAt RX7 (some .int) 5 2 44) (l0 : Nat) (l1 : Int32) (l2 : Int32) (l3 : Int32) (s0 : Nat) (s1 : Int32) (G : Mem) {r : Int32} {G' : Mem} (h : fX7_colourAt_23 l0 l1 l2 l3 s0 s1 G = some (r, G')) (hK : (finI X) r G') : J X 5 23 [(0, .ref (X.B + l0)), (1, .int l1), (2, .int l2), (3, .int l3)] [.int s1, .ref (X.B + s0)] G := by
  unfold fX7_colourAt_23 at h
  refine j_iconst (v := 0) ok dX7_colourAt_23 (by decide) ?_
  refine j_iconst (v := 0) ok dX7_colourAt_24 (by decide) ?_
  obtain ⟨kq1, h⟩ := ck_some h
  obtain ⟨q1, hq1, h⟩ := obind h
  refine k_V1 ok kl_X7_186 ⟨Nat.le_of_ble_eq_true rfl, Nat.le_of_ble_eq_true rfl⟩ [.int s1, .int (0 : Int32), .int (0 : Int32)] kq1 rfl rfl (Nat.le_of_ble_eq_true rfl) (tX7_fails ok.fl X.V s0 s1 (0 : Int32) (0 : Int32) G hq1) dX7_colourAt_25 ?_
  rcases ite_some h with ⟨c2, h⟩ | ⟨c2, h⟩
  · refine j_if_eq (tgt := 33) ok dX7_colourAt_28 (by decide) (fun _ => ?_) (fun z => absurd c2 z)
    refine j_aload_n ok dX7_colourAt_33 rfl 0 rfl ?_
    refine j_iload_n ok dX7_colourAt_34 rfl 1 rfl ?_
    refine j_aload_n ok dX7_colourAt_35 rfl 0 rfl ?_
    refine j_iload_n ok dX7_colourAt_36 rfl 2 rfl ?_
    refine j_iload_n ok dX7_colourAt_37 rfl 3 rfl ?_
    obtain ⟨kq3, h⟩ := ck_some h
    obtain ⟨q3, hq3, h⟩ := obind h
    refine k_V1 ok kl_X7_349 ⟨Nat.le_of_ble_eq_true rfl, Nat.le_of_ble_eq_true rfl⟩ [.int l2, .int l3] kq3 rfl rfl (Nat.le_of_ble_eq_true rfl) (tX7_square ok.fl X.V l0 l2 l3 q1.2 hq3) dX7_colourAt_38 ?_
    obtain ⟨kq4, h⟩ := ck_some h
    obtain ⟨q4, hq4, h⟩ := obind h
    refine k_V1 ok kl_X7_352 ⟨Nat.le_of_ble_eq_true rfl, Nat.le_of_ble_eq_true rfl⟩ [.int l1, .int q3.1] kq4 rfl rfl (Nat.le_of_ble_eq_true rfl) (tX7_last ok.fl X.V l0 l1 q3.1 q3.2 hq4) dX7_colourAt_41 ?_
    refine j_istore (L' := [(4, .int q4.1), (0, .ref (X.B + l0)), (1, .int l1), (2, .int l2), (3, .int l3)]) ok dX7_colourAt_44 (by decide) rfl ?_
    refine j_iload ok dX7_colourAt_46 0 rfl ?_
    rcases ite_some h with ⟨c5, h⟩ | ⟨c5, h⟩
    · refine j_if_ne (tgt := 55) ok dX7_colourAt_48 (by decide) (fun z => absurd c5 z) (fun _ => ?_)
      refine j_iconst (v := -1) ok dX7_colourAt_51 (by decide) ?_
      refine j_goto (tgt := 60) ok dX7_colourAt_52 (by decide) ?_
      exact J.sub [] rfl (jX7_colourAt_60 ok (-1 : Int32) q4.2 h hK)
    · refine j_if_ne (tgt := 55) ok dX7_colourAt_48 (by decide) (fun _ => ?_) (fun z => absurd z c5)
      refine j_iload ok dX7_colourAt_55 0 rfl ?_
      obtain ⟨q6, hq6, h⟩ := obind h
      refine k_S1 ok kl_X7_99 ⟨Nat.le_of_ble_eq_true rfl, Nat.le_of_ble_eq_true rfl⟩ [.int q4.1] rfl rfl (Nat.le_of_ble_eq_true rfl) (tX7_colourOf ok.fl X.V q4.1 q4.2 hq6) dX7_colourAt_57 ?_
      exact J.sub [] rfl (jX7_colourAt_60 ok q6.1 q6.2 h hK)
  · refine j_if_eq (tgt := 33) ok dX7_colourAt_28 (by decide) (fun z => absurd z c2) (fun _ => ?_)
    refine j_iconst (v := 0) ok dX7_colourAt_31 (by decide) ?_
    obtain ⟨er, eG⟩ := inj2 h
    subst er; subst eG
    exact j_iret ok rfl dX7_colourAt_32 hK

def fX7_colourAt_18 (l0 : Nat) (l1 : Int32) (l2 : Int32) (l3 : Int32) (s0 : Nat) (G : Mem) : Option (Int32 × Mem) :=
  fX7_colourAt_23 l0 l1 l2 l3 s0 (1 : Int32) G

set_option maxRecDepth 100000 in
set_option maxHeartbeats 4000000 in
theorem jX7_colourAt_18 {X : Cx} (ok : OK X cX7_colourAt RX7 (some .int) 5 2 44) (l0 : Nat) (l1 : Int32) (l2 : Int32) (l3 : Int32) (s0 : Nat) (G : Mem) {r : Int32} {G' : Mem} (h : fX7_colourAt_18 l0 l1 l2 l3 s0 G = some (r, G')) (hK : (finI X) r G') : J X 5 18 [(0, .ref (X.B + l0)), (1, .int l1), (2, .int l2), (3, .int l3)] [.ref (X.B + s0)] G := by
  unfold fX7_colourAt_18 at h
  refine j_iconst (v := 1) ok dX7_colourAt_18 (by decide) ?_
  refine j_goto (tgt := 23) ok dX7_colourAt_19 (by decide) ?_
  exact J.sub [0, 1, 2, 3] rfl (jX7_colourAt_23 ok l0 l1 l2 l3 s0 (1 : Int32) G h hK)

def fX7_colourAt_0 (l0 : Nat) (l1 : Int32) (l2 : Int32) (l3 : Int32)  (G : Mem) : Option (Int32 × Mem) :=
  ck G 17 l0 <| (fX7_noPosition l0 l1 G).bind fun q1 =>
  if q1.1 = (0 : Int32) then
    ck q1.2 17 l0 <| (fX7_noSquare l0 l2 l3 q1.2).bind fun q3 =>
    if q3.1 = (0 : Int32) then
      fX7_colourAt_23 l0 l1 l2 l3 l0 (0 : Int32) q3.2
    else
      fX7_colourAt_18 l0 l1 l2 l3 l0 q3.2
  else
    fX7_colourAt_18 l0 l1 l2 l3 l0 q1.2

set_option maxRecDepth 100000 in
set_option maxHeartbeats 4000000 in
theorem jX7_colourAt_0 {X : Cx} (ok : OK X cX7_colourAt RX7 (some .int) 5 2 44) (l0 : Nat) (l1 : Int32) (l2 : Int32) (l3 : Int32)  (G : Mem) {r : Int32} {G' : Mem} (h : fX7_colourAt_0 l0 l1 l2 l3 G = some (r, G')) (hK : (finI X) r G') : J X 5 0 [(0, .ref (X.B + l0)), (1, .int l1), (2, .int l2), (3, .int l3)] [] G := by
  unfold fX7_colourAt_0 at h
  refine j_aload_n ok dX7_colourAt_0 rfl 0 rfl ?_
  refine j_aload_n ok dX7_colourAt_1 rfl 0 rfl ?_
  refine j_iload_n ok dX7_colourAt_2 rfl 1 rfl ?_
  obtain ⟨kq1, h⟩ := ck_some h
  obtain ⟨q1, hq1, h⟩ := obind h
  refine k_V1 ok kl_X7_343 ⟨Nat.le_of_ble_eq_true rfl, Nat.le_of_ble_eq_true rfl⟩ [.int l1] kq1 rfl rfl (Nat.le_of_ble_eq_true rfl) (tX7_noPosition ok.fl X.V l0 l1 G hq1) dX7_colourAt_3 ?_
  rcases ite_some h with ⟨c2, h⟩ | ⟨c2, h⟩
  · refine j_if_ne (tgt := 18) ok dX7_colourAt_6 (by decide) (fun z => absurd c2 z) (fun _ => ?_)
    refine j_aload_n ok dX7_colourAt_9 rfl 0 rfl ?_
    refine j_iload_n ok dX7_colourAt_10 rfl 2 rfl ?_
    refine j_iload_n ok dX7_colourAt_11 rfl 3 rfl ?_
    obtain ⟨kq3, h⟩ := ck_some h
    obtain ⟨q3, hq3, h⟩ := obind h
    refine k_V1 ok kl_X7_346 ⟨Nat.le_of_ble_eq_true rfl, Nat.le_of_ble_eq_true rfl⟩ [.int l2, .int l3] kq3 rfl rfl (Nat.le_of_ble_eq_true rfl) (tX7_noSquare ok.fl X.V l0 l2 l3 q1.2 hq3) dX7_colourAt_12 ?_
    rcases ite_some h with ⟨c4, h⟩ | ⟨c4, h⟩
    · refine j_if_eq (tgt := 22) ok dX7_colourAt_15 (by decide) (fun _ => ?_) (fun z => absurd c4 z)
      refine j_iconst (v := 0) ok dX7_colourAt_22 (by decide) ?_
      exact J.sub [0, 1, 2, 3] rfl (jX7_colourAt_23 ok l0 l1 l2 l3 l0 (0 : Int32) q3.2 h hK)
    · refine j_if_eq (tgt := 22) ok dX7_colourAt_15 (by decide) (fun z => absurd z c4) (fun _ => ?_)
      exact J.sub [0, 1, 2, 3] rfl (jX7_colourAt_18 ok l0 l1 l2 l3 l0 q3.2 h hK)
  · refine j_if_ne (tgt := 18) ok dX7_colourAt_6 (by decide) (fun _ => ?_) (fun z => absurd z c2)
    exact J.sub [0, 1, 2, 3] rfl (jX7_colourAt_18 ok l0 l1 l2 l3 l0 q1.2 h hK)

def fX7_colourAt (l0 : Nat) (l1 : Int32) (l2 : Int32) (l3 : Int32) (G : Mem) : Option (Int32 × Mem) := fX7_colourAt_0 l0 l1 l2 l3 G
set_option maxRecDepth 100000 in
theorem tX7_colourAt {l : Launch} (hfl : l.stackTraces = false) (V : Wd) (l0 : Nat) (l1 : Int32) (l2 : Int32) (l3 : Int32) (G : Mem) {r : Int32} {G' : Mem} (h : fX7_colourAt l0 l1 l2 l3 G = some (r, G')) : Mx l yX7_colourAt cX7_colourAt 5 (some .int) 2 44 V [.ref (V.B + l0), .int l1, .int l2, .int l3] G (.inl (some (.int r))) G' :=
  mx_of (L := [(0, .ref (V.B + l0)), (1, .int l1), (2, .int l2), (3, .int l3)]) hfl (by decide +kernel) (Nat.le_of_ble_eq_true rfl) rfl (fun X hl hV hin ok he => by
    subst hl; subst hV
    exact J.sub [0, 1, 2, 3] rfl (jX7_colourAt_0 ok l0 l1 l2 l3 G h he))
def fX7_colourToMove_0 (l0 : Nat)  (G : Mem) : Option (Int32 × Mem) :=
  (gR G 17 l0 0).bind fun v1 =>
  (gA G 1 v1 (2 : Int32)).bind fun v2 =>
  ck G 17 l0 <| (fX7_told l0 (v2 - v2 / (2 : Int32) * (2 : Int32)) G).bind fun q3 =>
  some (q3.1, q3.2)

set_option maxRecDepth 100000 in
set_option maxHeartbeats 4000000 in
theorem jX7_colourToMove_0 {X : Cx} (ok : OK X cX7_colourToMove RX7 (some .int) 1 1 21) (l0 : Nat)  (G : Mem) {r : Int32} {G' : Mem} (h : fX7_colourToMove_0 l0 G = some (r, G')) (hK : (finI X) r G') : J X 1 0 [(0, .ref (X.B + l0))] [] G := by
  unfold fX7_colourToMove_0 at h
  refine j_aload_n ok dX7_colourToMove_0 rfl 0 rfl ?_
  refine j_aload_n ok dX7_colourToMove_1 rfl 0 rfl ?_
  obtain ⟨v1, hv1, h⟩ := obind h
  refine k_getR ok fl_X7_9 hv1 dX7_colourToMove_2 ?_
  refine j_iconst (v := 2) ok dX7_colourToMove_5 (by decide) ?_
  obtain ⟨v2, hv2, h⟩ := obind h
  refine j_iald ok hv2 dX7_colourToMove_6 ?_
  refine j_iconst (v := 2) ok dX7_colourToMove_7 (by decide) ?_
  refine j_irem ok dX7_colourToMove_8 (by decide) ?_
  obtain ⟨kq3, h⟩ := ck_some h
  obtain ⟨q3, hq3, h⟩ := obind h
  refine k_V1 ok kl_X7_327 ⟨Nat.le_of_ble_eq_true rfl, Nat.le_of_ble_eq_true rfl⟩ [.int (v2 - v2 / (2 : Int32) * (2 : Int32))] kq3 rfl rfl (Nat.le_of_ble_eq_true rfl) (tX7_told ok.fl X.V l0 (v2 - v2 / (2 : Int32) * (2 : Int32)) G hq3) dX7_colourToMove_9 ?_
  obtain ⟨er, eG⟩ := inj2 h
  subst er; subst eG
  exact j_iret ok rfl dX7_colourToMove_12 hK

def fX7_colourToMove (l0 : Nat) (G : Mem) : Option (Int32 × Mem) := fX7_colourToMove_0 l0 G
set_option maxRecDepth 100000 in
theorem tX7_colourToMove {l : Launch} (hfl : l.stackTraces = false) (V : Wd) (l0 : Nat) (G : Mem) {r : Int32} {G' : Mem} (h : fX7_colourToMove l0 G = some (r, G')) : Mx l yX7_colourToMove cX7_colourToMove 1 (some .int) 1 21 V [.ref (V.B + l0)] G (.inl (some (.int r))) G' :=
  mx_of (L := [(0, .ref (V.B + l0))]) hfl (by decide +kernel) (Nat.le_of_ble_eq_true rfl) rfl (fun X hl hV hin ok he => by
    subst hl; subst hV
    exact J.sub [0] rfl (jX7_colourToMove_0 ok l0 G h he))
def fX7_wrong_11   (G : Mem) : Option (Unit × Mem) :=
  some ((), G)

set_option maxRecDepth 100000 in
set_option maxHeartbeats 4000000 in
theorem jX7_wrong_11 {X : Cx} (ok : OK X cX7_wrong RX7 none 3 0 0)   (G : Mem) {r : Unit} {G' : Mem} (h : fX7_wrong_11  G = some (r, G')) (hK : (finV X) r G') : J X 3 11 [] [] G := by
  unfold fX7_wrong_11 at h
  obtain ⟨er, eG⟩ := inj2 h
  subst er; subst eG
  exact j_vret ok rfl dX7_wrong_11 hK

def fX7_wrong_0 (l0 : Nat) (l1 : Int32) (l2 : Int32)  (G : Mem) : Option (Unit × Mem) :=
  (gF G 17 l0 25).bind fun v1 =>
  if v1 = (0 : Int32) then
    if l1 = (0 : Int32) then
      fX7_wrong_11 G
    else
      (pZ G 17 l0 25 (1 : Int32)).bind fun G4 =>
      (pI G4 17 l0 11 l2).bind fun G5 =>
      (gF G5 17 l0 22).bind fun v6 =>
      (pI G5 17 l0 12 v6).bind fun G7 =>
      some ((), G7)
  else
    fX7_wrong_11 G

set_option maxRecDepth 100000 in
set_option maxHeartbeats 4000000 in
theorem jX7_wrong_0 {X : Cx} (ok : OK X cX7_wrong RX7 none 3 0 0) (l0 : Nat) (l1 : Int32) (l2 : Int32)  (G : Mem) {r : Unit} {G' : Mem} (h : fX7_wrong_0 l0 l1 l2 G = some (r, G')) (hK : (finV X) r G') : J X 3 0 [(0, .ref (X.B + l0)), (1, .int l1), (2, .int l2)] [] G := by
  unfold fX7_wrong_0 at h
  refine j_aload_n ok dX7_wrong_0 rfl 0 rfl ?_
  obtain ⟨v1, hv1, h⟩ := obind h
  refine k_getI ok fl_X7_212 hv1 dX7_wrong_1 ?_
  rcases ite_some h with ⟨c2, h⟩ | ⟨c2, h⟩
  · refine j_if_ne (tgt := 11) ok dX7_wrong_4 (by decide) (fun z => absurd c2 z) (fun _ => ?_)
    refine j_iload_n ok dX7_wrong_7 rfl 1 rfl ?_
    rcases ite_some h with ⟨c3, h⟩ | ⟨c3, h⟩
    · refine j_if_ne (tgt := 12) ok dX7_wrong_8 (by decide) (fun z => absurd c3 z) (fun _ => ?_)
      exact J.sub [] rfl (jX7_wrong_11 ok G h hK)
    · refine j_if_ne (tgt := 12) ok dX7_wrong_8 (by decide) (fun _ => ?_) (fun z => absurd z c3)
      refine j_aload_n ok dX7_wrong_12 rfl 0 rfl ?_
      refine j_iconst (v := 1) ok dX7_wrong_13 (by decide) ?_
      obtain ⟨G4, hG4, h⟩ := obind h
      refine k_putZ ok fl_X7_212 fp_X7 rfl (Or.inl rfl) hG4 dX7_wrong_14 ?_
      refine j_aload_n ok dX7_wrong_17 rfl 0 rfl ?_
      refine j_iload_n ok dX7_wrong_18 rfl 2 rfl ?_
      obtain ⟨G5, hG5, h⟩ := obind h
      refine k_putI ok fl_X7_216 fp_X7 rfl (Or.inl rfl) hG5 dX7_wrong_19 ?_
      refine j_aload_n ok dX7_wrong_22 rfl 0 rfl ?_
      refine j_aload_n ok dX7_wrong_23 rfl 0 rfl ?_
      obtain ⟨v6, hv6, h⟩ := obind h
      refine k_getI ok fl_X7_193 hv6 dX7_wrong_24 ?_
      obtain ⟨G7, hG7, h⟩ := obind h
      refine k_putI ok fl_X7_32 fp_X7 rfl (Or.inl rfl) hG7 dX7_wrong_27 ?_
      obtain ⟨er, eG⟩ := inj2 h
      subst er; subst eG
      exact j_vret ok rfl dX7_wrong_30 hK
  · refine j_if_ne (tgt := 11) ok dX7_wrong_4 (by decide) (fun _ => ?_) (fun z => absurd z c2)
    exact J.sub [] rfl (jX7_wrong_11 ok G h hK)

def fX7_wrong (l0 : Nat) (l1 : Int32) (l2 : Int32) (G : Mem) : Option (Unit × Mem) := fX7_wrong_0 l0 l1 l2 G
set_option maxRecDepth 100000 in
theorem tX7_wrong {l : Launch} (hfl : l.stackTraces = false) (V : Wd) (l0 : Nat) (l1 : Int32) (l2 : Int32) (G : Mem) {r : Unit} {G' : Mem} (h : fX7_wrong l0 l1 l2 G = some (r, G')) : Mx l yX7_wrong cX7_wrong 3 none 0 0 V [.ref (V.B + l0), .int l1, .int l2] G (.inl none) G' :=
  mx_of (L := [(0, .ref (V.B + l0)), (1, .int l1), (2, .int l2)]) hfl (by decide +kernel) (Nat.le_of_ble_eq_true rfl) rfl (fun X hl hV hin ok he => by
    subst hl; subst hV
    exact J.sub [0, 1, 2] rfl (jX7_wrong_0 ok l0 l1 l2 G h he))
def fX7_here_62  (s0 : Int32) (G : Mem) : Option (Int32 × Mem) :=
  some (s0, G)

set_option maxRecDepth 100000 in
set_option maxHeartbeats 4000000 in
theorem jX7_here_62 {X : Cx} (ok : OK X cX7_here RX7 (some .int) 3 1 22)  (s0 : Int32) (G : Mem) {r : Int32} {G' : Mem} (h : fX7_here_62 s0 G = some (r, G')) (hK : (finI X) r G') : J X 3 62 [] [.int s0] G := by
  unfold fX7_here_62 at h
  obtain ⟨er, eG⟩ := inj2 h
  subst er; subst eG
  exact j_iret ok rfl dX7_here_62 hK

def fX7_here_43 (l0 : Nat) (l1 : Int32) (s0 : Nat) (s1 : Int32) (G : Mem) : Option (Int32 × Mem) :=
  ck G 17 s0 <| (fX7_wrong s0 s1 (2 : Int32) G).bind fun q1 =>
  (gF q1.2 17 l0 25).bind fun v2 =>
  if v2 = (0 : Int32) then
    (gF q1.2 17 l0 24).bind fun v4 =>
    fX7_here_62 v4 q1.2
  else
    fX7_here_62 l1 q1.2

set_option maxRecDepth 100000 in
set_option maxHeartbeats 4000000 in
theorem jX7_here_43 {X : Cx} (ok : OK X cX7_here RX7 (some .int) 3 1 22) (l0 : Nat) (l1 : Int32) (s0 : Nat) (s1 : Int32) (G : Mem) {r : Int32} {G' : Mem} (h : fX7_here_43 l0 l1 s0 s1 G = some (r, G')) (hK : (finI X) r G') : J X 3 43 [(0, .ref (X.B + l0)), (1, .int l1)] [.int s1, .ref (X.B + s0)] G := by
  unfold fX7_here_43 at h
  refine j_iconst (v := 2) ok dX7_here_43 (by decide) ?_
  obtain ⟨kq1, h⟩ := ck_some h
  obtain ⟨q1, hq1, h⟩ := obind h
  refine k_V0 ok kl_X7_222 ⟨Nat.le_of_ble_eq_true rfl, Nat.le_of_ble_eq_true rfl⟩ [.int s1, .int (2 : Int32)] kq1 rfl rfl (Nat.le_of_ble_eq_true rfl) (tX7_wrong ok.fl X.V s0 s1 (2 : Int32) G hq1) dX7_here_44 ?_
  refine j_aload_n ok dX7_here_47 rfl 0 rfl ?_
  obtain ⟨v2, hv2, h⟩ := obind h
  refine k_getI ok fl_X7_212 hv2 dX7_here_48 ?_
  rcases ite_some h with ⟨c3, h⟩ | ⟨c3, h⟩
  · refine j_if_eq (tgt := 58) ok dX7_here_51 (by decide) (fun _ => ?_) (fun z => absurd c3 z)
    refine j_aload_n ok dX7_here_58 rfl 0 rfl ?_
    obtain ⟨v4, hv4, h⟩ := obind h
    refine k_getI ok fl_X7_205 hv4 dX7_here_59 ?_
    exact J.sub [] rfl (jX7_here_62 ok v4 q1.2 h hK)
  · refine j_if_eq (tgt := 58) ok dX7_here_51 (by decide) (fun z => absurd z c3) (fun _ => ?_)
    refine j_iload_n ok dX7_here_54 rfl 1 rfl ?_
    refine j_goto (tgt := 62) ok dX7_here_55 (by decide) ?_
    exact J.sub [] rfl (jX7_here_62 ok l1 q1.2 h hK)

def fX7_here_42 (l0 : Nat) (l1 : Int32) (s0 : Nat) (G : Mem) : Option (Int32 × Mem) :=
  fX7_here_43 l0 l1 s0 (0 : Int32) G

set_option maxRecDepth 100000 in
set_option maxHeartbeats 4000000 in
theorem jX7_here_42 {X : Cx} (ok : OK X cX7_here RX7 (some .int) 3 1 22) (l0 : Nat) (l1 : Int32) (s0 : Nat) (G : Mem) {r : Int32} {G' : Mem} (h : fX7_here_42 l0 l1 s0 G = some (r, G')) (hK : (finI X) r G') : J X 3 42 [(0, .ref (X.B + l0)), (1, .int l1)] [.ref (X.B + s0)] G := by
  unfold fX7_here_42 at h
  refine j_iconst (v := 0) ok dX7_here_42 (by decide) ?_
  exact J.sub [0, 1] rfl (jX7_here_43 ok l0 l1 s0 (0 : Int32) G h hK)

def fX7_here_14 (l0 : Nat) (l1 : Int32) (l2 : Int32) (s0 : Nat) (s1 : Int32) (G : Mem) : Option (Int32 × Mem) :=
  ck G 17 s0 <| (fX7_wrong s0 s1 (1 : Int32) G).bind fun q1 =>
  (gF q1.2 17 l0 25).bind fun v2 =>
  if v2 = (0 : Int32) then
    (gF q1.2 17 l0 24).bind fun v4 =>
    (fX7_isIn v4 l1 l2 q1.2).bind fun q5 =>
    if q5.1 = (0 : Int32) then
      fX7_here_43 l0 l1 l0 (1 : Int32) q5.2
    else
      fX7_here_42 l0 l1 l0 q5.2
  else
    fX7_here_42 l0 l1 l0 q1.2

set_option maxRecDepth 100000 in
set_option maxHeartbeats 4000000 in
theorem jX7_here_14 {X : Cx} (ok : OK X cX7_here RX7 (some .int) 3 1 22) (l0 : Nat) (l1 : Int32) (l2 : Int32) (s0 : Nat) (s1 : Int32) (G : Mem) {r : Int32} {G' : Mem} (h : fX7_here_14 l0 l1 l2 s0 s1 G = some (r, G')) (hK : (finI X) r G') : J X 3 14 [(0, .ref (X.B + l0)), (1, .int l1), (2, .int l2)] [.int s1, .ref (X.B + s0)] G := by
  unfold fX7_here_14 at h
  refine j_iconst (v := 1) ok dX7_here_14 (by decide) ?_
  obtain ⟨kq1, h⟩ := ck_some h
  obtain ⟨q1, hq1, h⟩ := obind h
  refine k_V0 ok kl_X7_222 ⟨Nat.le_of_ble_eq_true rfl, Nat.le_of_ble_eq_true rfl⟩ [.int s1, .int (1 : Int32)] kq1 rfl rfl (Nat.le_of_ble_eq_true rfl) (tX7_wrong ok.fl X.V s0 s1 (1 : Int32) G hq1) dX7_here_15 ?_
  refine j_aload_n ok dX7_here_18 rfl 0 rfl ?_
  refine j_aload_n ok dX7_here_19 rfl 0 rfl ?_
  obtain ⟨v2, hv2, h⟩ := obind h
  refine k_getI ok fl_X7_212 hv2 dX7_here_20 ?_
  rcases ite_some h with ⟨c3, h⟩ | ⟨c3, h⟩
  · refine j_if_ne (tgt := 42) ok dX7_here_23 (by decide) (fun z => absurd c3 z) (fun _ => ?_)
    refine j_aload_n ok dX7_here_26 rfl 0 rfl ?_
    obtain ⟨v4, hv4, h⟩ := obind h
    refine k_getI ok fl_X7_205 hv4 dX7_here_27 ?_
    refine j_iload_n ok dX7_here_30 rfl 1 rfl ?_
    refine j_iload_n ok dX7_here_31 rfl 2 rfl ?_
    obtain ⟨q5, hq5, h⟩ := obind h
    refine k_S1 ok kl_X7_182 ⟨Nat.le_of_ble_eq_true rfl, Nat.le_of_ble_eq_true rfl⟩ [.int v4, .int l1, .int l2] rfl rfl (Nat.le_of_ble_eq_true rfl) (tX7_isIn ok.fl X.V v4 l1 l2 q1.2 hq5) dX7_here_32 ?_
    rcases ite_some h with ⟨c6, h⟩ | ⟨c6, h⟩
    · refine j_if_ne (tgt := 42) ok dX7_here_35 (by decide) (fun z => absurd c6 z) (fun _ => ?_)
      refine j_iconst (v := 1) ok dX7_here_38 (by decide) ?_
      refine j_goto (tgt := 43) ok dX7_here_39 (by decide) ?_
      exact J.sub [0, 1] rfl (jX7_here_43 ok l0 l1 l0 (1 : Int32) q5.2 h hK)
    · refine j_if_ne (tgt := 42) ok dX7_here_35 (by decide) (fun _ => ?_) (fun z => absurd z c6)
      exact J.sub [0, 1] rfl (jX7_here_42 ok l0 l1 l0 q5.2 h hK)
  · refine j_if_ne (tgt := 42) ok dX7_here_23 (by decide) (fun _ => ?_) (fun z => absurd z c3)
    exact J.sub [0, 1] rfl (jX7_here_42 ok l0 l1 l0 q1.2 h hK)

def fX7_here_0 (l0 : Nat) (l1 : Int32) (l2 : Int32)  (G : Mem) : Option (Int32 × Mem) :=
  (gF G 17 l0 21).bind fun v1 =>
  if v1 = (2 : Int32) then
    fX7_here_14 l0 l1 l2 l0 (0 : Int32) G
  else
    fX7_here_14 l0 l1 l2 l0 (1 : Int32) G

set_option maxRecDepth 100000 in
set_option maxHeartbeats 4000000 in
theorem jX7_here_0 {X : Cx} (ok : OK X cX7_here RX7 (some .int) 3 1 22) (l0 : Nat) (l1 : Int32) (l2 : Int32)  (G : Mem) {r : Int32} {G' : Mem} (h : fX7_here_0 l0 l1 l2 G = some (r, G')) (hK : (finI X) r G') : J X 3 0 [(0, .ref (X.B + l0)), (1, .int l1), (2, .int l2)] [] G := by
  unfold fX7_here_0 at h
  refine j_aload_n ok dX7_here_0 rfl 0 rfl ?_
  refine j_aload_n ok dX7_here_1 rfl 0 rfl ?_
  obtain ⟨v1, hv1, h⟩ := obind h
  refine k_getI ok fl_X7_196 hv1 dX7_here_2 ?_
  refine j_iconst (v := 2) ok dX7_here_5 (by decide) ?_
  rcases ite_some h with ⟨c2, h⟩ | ⟨c2, h⟩
  · refine j_icmp_eq (tgt := 13) ok dX7_here_6 (by decide) (fun _ => ?_) (fun z => absurd c2 z)
    refine j_iconst (v := 0) ok dX7_here_13 (by decide) ?_
    exact J.sub [0, 1, 2] rfl (jX7_here_14 ok l0 l1 l2 l0 (0 : Int32) G h hK)
  · refine j_icmp_eq (tgt := 13) ok dX7_here_6 (by decide) (fun z => absurd z c2) (fun _ => ?_)
    refine j_iconst (v := 1) ok dX7_here_9 (by decide) ?_
    refine j_goto (tgt := 14) ok dX7_here_10 (by decide) ?_
    exact J.sub [0, 1, 2] rfl (jX7_here_14 ok l0 l1 l2 l0 (1 : Int32) G h hK)

def fX7_here (l0 : Nat) (l1 : Int32) (l2 : Int32) (G : Mem) : Option (Int32 × Mem) := fX7_here_0 l0 l1 l2 G
set_option maxRecDepth 100000 in
theorem tX7_here {l : Launch} (hfl : l.stackTraces = false) (V : Wd) (l0 : Nat) (l1 : Int32) (l2 : Int32) (G : Mem) {r : Int32} {G' : Mem} (h : fX7_here l0 l1 l2 G = some (r, G')) : Mx l yX7_here cX7_here 3 (some .int) 1 22 V [.ref (V.B + l0), .int l1, .int l2] G (.inl (some (.int r))) G' :=
  mx_of (L := [(0, .ref (V.B + l0)), (1, .int l1), (2, .int l2)]) hfl (by decide +kernel) (Nat.le_of_ble_eq_true rfl) rfl (fun X hl hV hin ok he => by
    subst hl; subst hV
    exact J.sub [0, 1, 2] rfl (jX7_here_0 ok l0 l1 l2 G h he))
def fX7_isLetter_29  (s0 : Int32) (G : Mem) : Option (Int32 × Mem) :=
  rz s0 <|
  some (s0, G)

set_option maxRecDepth 100000 in
set_option maxHeartbeats 4000000 in
theorem jX7_isLetter_29 {X : Cx} (ok : OK X cX7_isLetter RX7 (some .boolean) 2 1 22)  (s0 : Int32) (G : Mem) {r : Int32} {G' : Mem} (h : fX7_isLetter_29 s0 G = some (r, G')) (hK : (finI X) r G') : J X 2 29 [] [.int s0] G := by
  unfold fX7_isLetter_29 at h
  obtain ⟨hz1, h⟩ := rz_some h
  obtain ⟨er, eG⟩ := inj2 h
  subst er; subst eG
  exact j_zret ok rfl hz1 dX7_isLetter_29 hK

def fX7_isLetter_28   (G : Mem) : Option (Int32 × Mem) :=
  fX7_isLetter_29 (0 : Int32) G

set_option maxRecDepth 100000 in
set_option maxHeartbeats 4000000 in
theorem jX7_isLetter_28 {X : Cx} (ok : OK X cX7_isLetter RX7 (some .boolean) 2 1 22)   (G : Mem) {r : Int32} {G' : Mem} (h : fX7_isLetter_28  G = some (r, G')) (hK : (finI X) r G') : J X 2 28 [] [] G := by
  unfold fX7_isLetter_28 at h
  refine j_iconst (v := 0) ok dX7_isLetter_28 (by decide) ?_
  exact J.sub [] rfl (jX7_isLetter_29 ok (0 : Int32) G h hK)

def fX7_isLetter_0 (l0 : Nat) (l1 : Int32)  (G : Mem) : Option (Int32 × Mem) :=
  (gF G 17 l0 9).bind fun v1 =>
  if v1 ≤ l1 then
    fX7_isLetter_28 G
  else
    (gR G 17 l0 7).bind fun v3 =>
    (gA G 1 v3 l1).bind fun v4 =>
    (fX7_isIn v4 (97 : Int32) (122 : Int32) G).bind fun q5 =>
    if q5.1 = (0 : Int32) then
      fX7_isLetter_28 q5.2
    else
      fX7_isLetter_29 (1 : Int32) q5.2

set_option maxRecDepth 100000 in
set_option maxHeartbeats 4000000 in
theorem jX7_isLetter_0 {X : Cx} (ok : OK X cX7_isLetter RX7 (some .boolean) 2 1 22) (l0 : Nat) (l1 : Int32)  (G : Mem) {r : Int32} {G' : Mem} (h : fX7_isLetter_0 l0 l1 G = some (r, G')) (hK : (finI X) r G') : J X 2 0 [(0, .ref (X.B + l0)), (1, .int l1)] [] G := by
  unfold fX7_isLetter_0 at h
  refine j_iload_n ok dX7_isLetter_0 rfl 1 rfl ?_
  refine j_aload_n ok dX7_isLetter_1 rfl 0 rfl ?_
  obtain ⟨v1, hv1, h⟩ := obind h
  refine k_getI ok fl_X7_73 hv1 dX7_isLetter_2 ?_
  rcases ite_some h with ⟨c2, h⟩ | ⟨c2, h⟩
  · refine j_icmp_ge (tgt := 28) ok dX7_isLetter_5 (by decide) (fun _ => ?_) (fun z => absurd c2 z)
    exact J.sub [] rfl (jX7_isLetter_28 ok G h hK)
  · refine j_icmp_ge (tgt := 28) ok dX7_isLetter_5 (by decide) (fun z => absurd z c2) (fun _ => ?_)
    refine j_aload_n ok dX7_isLetter_8 rfl 0 rfl ?_
    obtain ⟨v3, hv3, h⟩ := obind h
    refine k_getR ok fl_X7_26 hv3 dX7_isLetter_9 ?_
    refine j_iload_n ok dX7_isLetter_12 rfl 1 rfl ?_
    obtain ⟨v4, hv4, h⟩ := obind h
    refine j_iald ok hv4 dX7_isLetter_13 ?_
    refine j_bipush (v := 97) ok dX7_isLetter_14 (by decide) ?_
    refine j_bipush (v := 122) ok dX7_isLetter_16 (by decide) ?_
    obtain ⟨q5, hq5, h⟩ := obind h
    refine k_S1 ok kl_X7_182 ⟨Nat.le_of_ble_eq_true rfl, Nat.le_of_ble_eq_true rfl⟩ [.int v4, .int (97 : Int32), .int (122 : Int32)] rfl rfl (Nat.le_of_ble_eq_true rfl) (tX7_isIn ok.fl X.V v4 (97 : Int32) (122 : Int32) G hq5) dX7_isLetter_18 ?_
    rcases ite_some h with ⟨c6, h⟩ | ⟨c6, h⟩
    · refine j_if_eq (tgt := 28) ok dX7_isLetter_21 (by decide) (fun _ => ?_) (fun z => absurd c6 z)
      exact J.sub [] rfl (jX7_isLetter_28 ok q5.2 h hK)
    · refine j_if_eq (tgt := 28) ok dX7_isLetter_21 (by decide) (fun z => absurd z c6) (fun _ => ?_)
      refine j_iconst (v := 1) ok dX7_isLetter_24 (by decide) ?_
      refine j_goto (tgt := 29) ok dX7_isLetter_25 (by decide) ?_
      exact J.sub [] rfl (jX7_isLetter_29 ok (1 : Int32) q5.2 h hK)

def fX7_isLetter (l0 : Nat) (l1 : Int32) (G : Mem) : Option (Int32 × Mem) := fX7_isLetter_0 l0 l1 G
set_option maxRecDepth 100000 in
theorem tX7_isLetter {l : Launch} (hfl : l.stackTraces = false) (V : Wd) (l0 : Nat) (l1 : Int32) (G : Mem) {r : Int32} {G' : Mem} (h : fX7_isLetter l0 l1 G = some (r, G')) : Mx l yX7_isLetter cX7_isLetter 2 (some .boolean) 1 22 V [.ref (V.B + l0), .int l1] G (.inl (some (.int r))) G' :=
  mx_of (L := [(0, .ref (V.B + l0)), (1, .int l1)]) hfl (by decide +kernel) (Nat.le_of_ble_eq_true rfl) rfl (fun X hl hV hin ok he => by
    subst hl; subst hV
    exact J.sub [0, 1] rfl (jX7_isLetter_0 ok l0 l1 G h he))
def fX7_isDigit_29  (s0 : Int32) (G : Mem) : Option (Int32 × Mem) :=
  rz s0 <|
  some (s0, G)

set_option maxRecDepth 100000 in
set_option maxHeartbeats 4000000 in
theorem jX7_isDigit_29 {X : Cx} (ok : OK X cX7_isDigit RX7 (some .boolean) 2 1 22)  (s0 : Int32) (G : Mem) {r : Int32} {G' : Mem} (h : fX7_isDigit_29 s0 G = some (r, G')) (hK : (finI X) r G') : J X 2 29 [] [.int s0] G := by
  unfold fX7_isDigit_29 at h
  obtain ⟨hz1, h⟩ := rz_some h
  obtain ⟨er, eG⟩ := inj2 h
  subst er; subst eG
  exact j_zret ok rfl hz1 dX7_isDigit_29 hK

def fX7_isDigit_28   (G : Mem) : Option (Int32 × Mem) :=
  fX7_isDigit_29 (0 : Int32) G

set_option maxRecDepth 100000 in
set_option maxHeartbeats 4000000 in
theorem jX7_isDigit_28 {X : Cx} (ok : OK X cX7_isDigit RX7 (some .boolean) 2 1 22)   (G : Mem) {r : Int32} {G' : Mem} (h : fX7_isDigit_28  G = some (r, G')) (hK : (finI X) r G') : J X 2 28 [] [] G := by
  unfold fX7_isDigit_28 at h
  refine j_iconst (v := 0) ok dX7_isDigit_28 (by decide) ?_
  exact J.sub [] rfl (jX7_isDigit_29 ok (0 : Int32) G h hK)

def fX7_isDigit_0 (l0 : Nat) (l1 : Int32)  (G : Mem) : Option (Int32 × Mem) :=
  (gF G 17 l0 9).bind fun v1 =>
  if v1 ≤ l1 then
    fX7_isDigit_28 G
  else
    (gR G 17 l0 7).bind fun v3 =>
    (gA G 1 v3 l1).bind fun v4 =>
    (fX7_isIn v4 (48 : Int32) (57 : Int32) G).bind fun q5 =>
    if q5.1 = (0 : Int32) then
      fX7_isDigit_28 q5.2
    else
      fX7_isDigit_29 (1 : Int32) q5.2

set_option maxRecDepth 100000 in
set_option maxHeartbeats 4000000 in
theorem jX7_isDigit_0 {X : Cx} (ok : OK X cX7_isDigit RX7 (some .boolean) 2 1 22) (l0 : Nat) (l1 : Int32)  (G : Mem) {r : Int32} {G' : Mem} (h : fX7_isDigit_0 l0 l1 G = some (r, G')) (hK : (finI X) r G') : J X 2 0 [(0, .ref (X.B + l0)), (1, .int l1)] [] G := by
  unfold fX7_isDigit_0 at h
  refine j_iload_n ok dX7_isDigit_0 rfl 1 rfl ?_
  refine j_aload_n ok dX7_isDigit_1 rfl 0 rfl ?_
  obtain ⟨v1, hv1, h⟩ := obind h
  refine k_getI ok fl_X7_73 hv1 dX7_isDigit_2 ?_
  rcases ite_some h with ⟨c2, h⟩ | ⟨c2, h⟩
  · refine j_icmp_ge (tgt := 28) ok dX7_isDigit_5 (by decide) (fun _ => ?_) (fun z => absurd c2 z)
    exact J.sub [] rfl (jX7_isDigit_28 ok G h hK)
  · refine j_icmp_ge (tgt := 28) ok dX7_isDigit_5 (by decide) (fun z => absurd z c2) (fun _ => ?_)
    refine j_aload_n ok dX7_isDigit_8 rfl 0 rfl ?_
    obtain ⟨v3, hv3, h⟩ := obind h
    refine k_getR ok fl_X7_26 hv3 dX7_isDigit_9 ?_
    refine j_iload_n ok dX7_isDigit_12 rfl 1 rfl ?_
    obtain ⟨v4, hv4, h⟩ := obind h
    refine j_iald ok hv4 dX7_isDigit_13 ?_
    refine j_bipush (v := 48) ok dX7_isDigit_14 (by decide) ?_
    refine j_bipush (v := 57) ok dX7_isDigit_16 (by decide) ?_
    obtain ⟨q5, hq5, h⟩ := obind h
    refine k_S1 ok kl_X7_182 ⟨Nat.le_of_ble_eq_true rfl, Nat.le_of_ble_eq_true rfl⟩ [.int v4, .int (48 : Int32), .int (57 : Int32)] rfl rfl (Nat.le_of_ble_eq_true rfl) (tX7_isIn ok.fl X.V v4 (48 : Int32) (57 : Int32) G hq5) dX7_isDigit_18 ?_
    rcases ite_some h with ⟨c6, h⟩ | ⟨c6, h⟩
    · refine j_if_eq (tgt := 28) ok dX7_isDigit_21 (by decide) (fun _ => ?_) (fun z => absurd c6 z)
      exact J.sub [] rfl (jX7_isDigit_28 ok q5.2 h hK)
    · refine j_if_eq (tgt := 28) ok dX7_isDigit_21 (by decide) (fun z => absurd z c6) (fun _ => ?_)
      refine j_iconst (v := 1) ok dX7_isDigit_24 (by decide) ?_
      refine j_goto (tgt := 29) ok dX7_isDigit_25 (by decide) ?_
      exact J.sub [] rfl (jX7_isDigit_29 ok (1 : Int32) q5.2 h hK)

def fX7_isDigit (l0 : Nat) (l1 : Int32) (G : Mem) : Option (Int32 × Mem) := fX7_isDigit_0 l0 l1 G
set_option maxRecDepth 100000 in
theorem tX7_isDigit {l : Launch} (hfl : l.stackTraces = false) (V : Wd) (l0 : Nat) (l1 : Int32) (G : Mem) {r : Int32} {G' : Mem} (h : fX7_isDigit l0 l1 G = some (r, G')) : Mx l yX7_isDigit cX7_isDigit 2 (some .boolean) 1 22 V [.ref (V.B + l0), .int l1] G (.inl (some (.int r))) G' :=
  mx_of (L := [(0, .ref (V.B + l0)), (1, .int l1)]) hfl (by decide +kernel) (Nat.le_of_ble_eq_true rfl) rfl (fun X hl hV hin ok he => by
    subst hl; subst hV
    exact J.sub [0, 1] rfl (jX7_isDigit_0 ok l0 l1 G h he))
def fX7_next_212   (G : Mem) : Option (Unit × Mem) :=
  some ((), G)

set_option maxRecDepth 100000 in
set_option maxHeartbeats 4000000 in
theorem jX7_next_212 {X : Cx} (ok : OK X cX7_next RX7 none 1 2 120)   (G : Mem) {r : Unit} {G' : Mem} (h : fX7_next_212  G = some (r, G')) (hK : (finV X) r G') : J X 1 212 [] [] G := by
  unfold fX7_next_212 at h
  obtain ⟨er, eG⟩ := inj2 h
  subst er; subst eG
  exact j_vret ok rfl dX7_next_212 hK

def fX7_next_199 (l0 : Nat) (s0 : Nat) (s1 : Int32) (G : Mem) : Option (Unit × Mem) :=
  (pI G 17 s0 21 s1).bind fun G1 =>
  (gF G1 17 l0 23).bind fun v2 =>
  (pI G1 17 l0 23 (v2 + (1 : Int32))).bind fun G3 =>
  fX7_next_212 G3

set_option maxRecDepth 100000 in
set_option maxHeartbeats 4000000 in
theorem jX7_next_199 {X : Cx} (ok : OK X cX7_next RX7 none 1 2 120) (l0 : Nat) (s0 : Nat) (s1 : Int32) (G : Mem) {r : Unit} {G' : Mem} (h : fX7_next_199 l0 s0 s1 G = some (r, G')) (hK : (finV X) r G') : J X 1 199 [(0, .ref (X.B + l0))] [.int s1, .ref (X.B + s0)] G := by
  unfold fX7_next_199 at h
  obtain ⟨G1, hG1, h⟩ := obind h
  refine k_putI ok fl_X7_196 fp_X7 rfl (Or.inl rfl) hG1 dX7_next_199 ?_
  refine j_aload_n ok dX7_next_202 rfl 0 rfl ?_
  refine j_dup ok dX7_next_203 rfl ?_
  obtain ⟨v2, hv2, h⟩ := obind h
  refine k_getI ok fl_X7_190 hv2 dX7_next_204 ?_
  refine j_iconst (v := 1) ok dX7_next_207 (by decide) ?_
  refine j_iadd ok dX7_next_208 ?_
  obtain ⟨G3, hG3, h⟩ := obind h
  refine k_putI ok fl_X7_190 fp_X7 rfl (Or.inl rfl) hG3 dX7_next_209 ?_
  exact J.sub [] rfl (jX7_next_212 ok G3 h hK)

def fX7_next_126 (l0 : Nat)  (G : Mem) : Option (((Unit) ⊕ Unit) × Mem) :=
  (gF G 17 l0 23).bind fun v1 =>
  ck G 17 l0 <| (fX7_isDigit l0 v1 G).bind fun q2 =>
  if q2.1 = (0 : Int32) then
    liftE (fX7_next_212 q2.2)
  else
    (gF q2.2 17 l0 24).bind fun v4 =>
    (gR q2.2 17 l0 7).bind fun v5 =>
    (gF q2.2 17 l0 23).bind fun v6 =>
    (gA q2.2 1 v5 v6).bind fun v7 =>
    (pI q2.2 17 l0 24 (if (((v4 * (10 : Int32)) + v7) - (48 : Int32)) < (100000 : Int32) then (((v4 * (10 : Int32)) + v7) - (48 : Int32)) else (100000 : Int32))).bind fun G8 =>
    (gF G8 17 l0 23).bind fun v9 =>
    (pI G8 17 l0 23 (v9 + (1 : Int32))).bind fun G10 =>
    some (.inl (), G10)

set_option maxRecDepth 100000 in
set_option maxHeartbeats 4000000 in
theorem jX7_next_126 {X : Cx} (ok : OK X cX7_next RX7 none 1 2 120) (l0 : Nat)  (G : Mem) {r : ((Unit) ⊕ Unit)} {G' : Mem} (h : fX7_next_126 l0 G = some (r, G')) (hK : (finL X 1 126 (fun s : Unit => [(0, .ref (X.B + l0))]) (finV X)) r G') : J X 1 126 [(0, .ref (X.B + l0))] [] G := by
  unfold fX7_next_126 at h
  refine j_aload_n ok dX7_next_126 rfl 0 rfl ?_
  refine j_aload_n ok dX7_next_127 rfl 0 rfl ?_
  obtain ⟨v1, hv1, h⟩ := obind h
  refine k_getI ok fl_X7_190 hv1 dX7_next_128 ?_
  obtain ⟨kq2, h⟩ := ck_some h
  obtain ⟨q2, hq2, h⟩ := obind h
  refine k_V1 ok kl_X7_202 ⟨Nat.le_of_ble_eq_true rfl, Nat.le_of_ble_eq_true rfl⟩ [.int v1] kq2 rfl rfl (Nat.le_of_ble_eq_true rfl) (tX7_isDigit ok.fl X.V l0 v1 G hq2) dX7_next_131 ?_
  rcases ite_some h with ⟨c3, h⟩ | ⟨c3, h⟩
  · refine j_if_eq (tgt := 212) ok dX7_next_134 (by decide) (fun _ => ?_) (fun z => absurd c3 z)
    obtain ⟨r1, e1, h1⟩ := lift_some h
    subst e1
    exact J.sub [] rfl (jX7_next_212 ok q2.2 h1 hK)
  · refine j_if_eq (tgt := 212) ok dX7_next_134 (by decide) (fun z => absurd z c3) (fun _ => ?_)
    refine j_aload_n ok dX7_next_137 rfl 0 rfl ?_
    refine j_ldc ok wk_X7_208 dX7_next_138 ?_
    refine j_aload_n ok dX7_next_140 rfl 0 rfl ?_
    obtain ⟨v4, hv4, h⟩ := obind h
    refine k_getI ok fl_X7_205 hv4 dX7_next_141 ?_
    refine j_bipush (v := 10) ok dX7_next_144 (by decide) ?_
    refine j_imul ok dX7_next_146 ?_
    refine j_aload_n ok dX7_next_147 rfl 0 rfl ?_
    obtain ⟨v5, hv5, h⟩ := obind h
    refine k_getR ok fl_X7_26 hv5 dX7_next_148 ?_
    refine j_aload_n ok dX7_next_151 rfl 0 rfl ?_
    obtain ⟨v6, hv6, h⟩ := obind h
    refine k_getI ok fl_X7_190 hv6 dX7_next_152 ?_
    obtain ⟨v7, hv7, h⟩ := obind h
    refine j_iald ok hv7 dX7_next_155 ?_
    refine j_iadd ok dX7_next_156 ?_
    refine j_bipush (v := 48) ok dX7_next_157 (by decide) ?_
    refine j_isub ok dX7_next_159 ?_
    refine k_mmin ok wm_X7_209 (Nat.le_of_ble_eq_true rfl) (Nat.le_of_ble_eq_true rfl) (Nat.le_of_ble_eq_true rfl) dX7_next_160 ?_
    obtain ⟨G8, hG8, h⟩ := obind h
    refine k_putI ok fl_X7_205 fp_X7 rfl (Or.inl rfl) hG8 dX7_next_163 ?_
    refine j_aload_n ok dX7_next_166 rfl 0 rfl ?_
    refine j_dup ok dX7_next_167 rfl ?_
    obtain ⟨v9, hv9, h⟩ := obind h
    refine k_getI ok fl_X7_190 hv9 dX7_next_168 ?_
    refine j_iconst (v := 1) ok dX7_next_171 (by decide) ?_
    refine j_iadd ok dX7_next_172 ?_
    obtain ⟨G10, hG10, h⟩ := obind h
    refine k_putI ok fl_X7_190 fp_X7 rfl (Or.inl rfl) hG10 dX7_next_173 ?_
    refine j_goto (tgt := 126) ok dX7_next_176 (by decide) ?_
    obtain ⟨er, eG⟩ := inj2 h
    subst er; subst eG
    have hJ : J X 1 126 [(0, .ref (X.B + l0))] [] G10 := hK
    exact J.sub [0] rfl hJ

def fX7_next_81 (l0 : Nat)  (G : Mem) : Option (((Unit) ⊕ Unit) × Mem) :=
  (gF G 17 l0 23).bind fun v1 =>
  ck G 17 l0 <| (fX7_isLetter l0 v1 G).bind fun q2 =>
  if q2.1 = (0 : Int32) then
    liftE (fX7_next_212 q2.2)
  else
    (gF q2.2 17 l0 23).bind fun v4 =>
    (pI q2.2 17 l0 23 (v4 + (1 : Int32))).bind fun G5 =>
    some (.inl (), G5)

set_option maxRecDepth 100000 in
set_option maxHeartbeats 4000000 in
theorem jX7_next_81 {X : Cx} (ok : OK X cX7_next RX7 none 1 2 120) (l0 : Nat)  (G : Mem) {r : ((Unit) ⊕ Unit)} {G' : Mem} (h : fX7_next_81 l0 G = some (r, G')) (hK : (finL X 1 81 (fun s : Unit => [(0, .ref (X.B + l0))]) (finV X)) r G') : J X 1 81 [(0, .ref (X.B + l0))] [] G := by
  unfold fX7_next_81 at h
  refine j_aload_n ok dX7_next_81 rfl 0 rfl ?_
  refine j_aload_n ok dX7_next_82 rfl 0 rfl ?_
  obtain ⟨v1, hv1, h⟩ := obind h
  refine k_getI ok fl_X7_190 hv1 dX7_next_83 ?_
  obtain ⟨kq2, h⟩ := ck_some h
  obtain ⟨q2, hq2, h⟩ := obind h
  refine k_V1 ok kl_X7_199 ⟨Nat.le_of_ble_eq_true rfl, Nat.le_of_ble_eq_true rfl⟩ [.int v1] kq2 rfl rfl (Nat.le_of_ble_eq_true rfl) (tX7_isLetter ok.fl X.V l0 v1 G hq2) dX7_next_86 ?_
  rcases ite_some h with ⟨c3, h⟩ | ⟨c3, h⟩
  · refine j_if_eq (tgt := 212) ok dX7_next_89 (by decide) (fun _ => ?_) (fun z => absurd c3 z)
    obtain ⟨r1, e1, h1⟩ := lift_some h
    subst e1
    exact J.sub [] rfl (jX7_next_212 ok q2.2 h1 hK)
  · refine j_if_eq (tgt := 212) ok dX7_next_89 (by decide) (fun z => absurd z c3) (fun _ => ?_)
    refine j_aload_n ok dX7_next_92 rfl 0 rfl ?_
    refine j_dup ok dX7_next_93 rfl ?_
    obtain ⟨v4, hv4, h⟩ := obind h
    refine k_getI ok fl_X7_190 hv4 dX7_next_94 ?_
    refine j_iconst (v := 1) ok dX7_next_97 (by decide) ?_
    refine j_iadd ok dX7_next_98 ?_
    obtain ⟨G5, hG5, h⟩ := obind h
    refine k_putI ok fl_X7_190 fp_X7 rfl (Or.inl rfl) hG5 dX7_next_99 ?_
    refine j_goto (tgt := 81) ok dX7_next_102 (by decide) ?_
    obtain ⟨er, eG⟩ := inj2 h
    subst er; subst eG
    have hJ : J X 1 81 [(0, .ref (X.B + l0))] [] G5 := hK
    exact J.sub [0] rfl hJ

def fX7_next_38 (l0 : Nat)  (G : Mem) : Option (Unit × Mem) :=
  (gF G 17 l0 23).bind fun v1 =>
  (pI G 17 l0 22 v1).bind fun G2 =>
  (gF G2 17 l0 23).bind fun v3 =>
  (gF G2 17 l0 9).bind fun v4 =>
  if v3 = v4 then
    (pI G2 17 l0 21 (0 : Int32)).bind fun G6 =>
    fX7_next_212 G6
  else
    (gF G2 17 l0 23).bind fun v6 =>
    ck G2 17 l0 <| (fX7_isLetter l0 v6 G2).bind fun q7 =>
    if q7.1 = (0 : Int32) then
      (gF q7.2 17 l0 23).bind fun v9 =>
      ck q7.2 17 l0 <| (fX7_isDigit l0 v9 q7.2).bind fun q10 =>
      if q10.1 = (0 : Int32) then
        (gR q10.2 17 l0 7).bind fun v12 =>
        (gF q10.2 17 l0 23).bind fun v13 =>
        (gA q10.2 1 v12 v13).bind fun v14 =>
        if v14 = (59 : Int32) then
          fX7_next_199 l0 l0 (3 : Int32) q10.2
        else
          fX7_next_199 l0 l0 (4 : Int32) q10.2
      else
        (pI q10.2 17 l0 21 (2 : Int32)).bind fun G12 =>
        (pI G12 17 l0 24 (0 : Int32)).bind fun G13 =>
        loopM (fun (s : Unit) G => fX7_next_126 l0 G) FU () G13
    else
      (pI q7.2 17 l0 21 (1 : Int32)).bind fun G9 =>
      loopM (fun (s : Unit) G => fX7_next_81 l0 G) FU () G9

set_option maxRecDepth 100000 in
set_option maxHeartbeats 4000000 in
theorem jX7_next_38 {X : Cx} (ok : OK X cX7_next RX7 none 1 2 120) (l0 : Nat)  (G : Mem) {r : Unit} {G' : Mem} (h : fX7_next_38 l0 G = some (r, G')) (hK : (finV X) r G') : J X 1 38 [(0, .ref (X.B + l0))] [] G := by
  unfold fX7_next_38 at h
  refine j_aload_n ok dX7_next_38 rfl 0 rfl ?_
  refine j_aload_n ok dX7_next_39 rfl 0 rfl ?_
  obtain ⟨v1, hv1, h⟩ := obind h
  refine k_getI ok fl_X7_190 hv1 dX7_next_40 ?_
  obtain ⟨G2, hG2, h⟩ := obind h
  refine k_putI ok fl_X7_193 fp_X7 rfl (Or.inl rfl) hG2 dX7_next_43 ?_
  refine j_aload_n ok dX7_next_46 rfl 0 rfl ?_
  obtain ⟨v3, hv3, h⟩ := obind h
  refine k_getI ok fl_X7_190 hv3 dX7_next_47 ?_
  refine j_aload_n ok dX7_next_50 rfl 0 rfl ?_
  obtain ⟨v4, hv4, h⟩ := obind h
  refine k_getI ok fl_X7_73 hv4 dX7_next_51 ?_
  rcases ite_some h with ⟨c5, h⟩ | ⟨c5, h⟩
  · refine j_icmp_ne (tgt := 65) ok dX7_next_54 (by decide) (fun z => absurd c5 z) (fun _ => ?_)
    refine j_aload_n ok dX7_next_57 rfl 0 rfl ?_
    refine j_iconst (v := 0) ok dX7_next_58 (by decide) ?_
    obtain ⟨G6, hG6, h⟩ := obind h
    refine k_putI ok fl_X7_196 fp_X7 rfl (Or.inl rfl) hG6 dX7_next_59 ?_
    refine j_goto (tgt := 212) ok dX7_next_62 (by decide) ?_
    exact J.sub [] rfl (jX7_next_212 ok G6 h hK)
  · refine j_icmp_ne (tgt := 65) ok dX7_next_54 (by decide) (fun _ => ?_) (fun z => absurd z c5)
    refine j_aload_n ok dX7_next_65 rfl 0 rfl ?_
    refine j_aload_n ok dX7_next_66 rfl 0 rfl ?_
    obtain ⟨v6, hv6, h⟩ := obind h
    refine k_getI ok fl_X7_190 hv6 dX7_next_67 ?_
    obtain ⟨kq7, h⟩ := ck_some h
    obtain ⟨q7, hq7, h⟩ := obind h
    refine k_V1 ok kl_X7_199 ⟨Nat.le_of_ble_eq_true rfl, Nat.le_of_ble_eq_true rfl⟩ [.int v6] kq7 rfl rfl (Nat.le_of_ble_eq_true rfl) (tX7_isLetter ok.fl X.V l0 v6 G2 hq7) dX7_next_70 ?_
    rcases ite_some h with ⟨c8, h⟩ | ⟨c8, h⟩
    · refine j_if_eq (tgt := 105) ok dX7_next_73 (by decide) (fun _ => ?_) (fun z => absurd c8 z)
      refine j_aload_n ok dX7_next_105 rfl 0 rfl ?_
      refine j_aload_n ok dX7_next_106 rfl 0 rfl ?_
      obtain ⟨v9, hv9, h⟩ := obind h
      refine k_getI ok fl_X7_190 hv9 dX7_next_107 ?_
      obtain ⟨kq10, h⟩ := ck_some h
      obtain ⟨q10, hq10, h⟩ := obind h
      refine k_V1 ok kl_X7_202 ⟨Nat.le_of_ble_eq_true rfl, Nat.le_of_ble_eq_true rfl⟩ [.int v9] kq10 rfl rfl (Nat.le_of_ble_eq_true rfl) (tX7_isDigit ok.fl X.V l0 v9 q7.2 hq10) dX7_next_110 ?_
      rcases ite_some h with ⟨c11, h⟩ | ⟨c11, h⟩
      · refine j_if_eq (tgt := 179) ok dX7_next_113 (by decide) (fun _ => ?_) (fun z => absurd c11 z)
        refine j_aload_n ok dX7_next_179 rfl 0 rfl ?_
        refine j_aload_n ok dX7_next_180 rfl 0 rfl ?_
        obtain ⟨v12, hv12, h⟩ := obind h
        refine k_getR ok fl_X7_26 hv12 dX7_next_181 ?_
        refine j_aload_n ok dX7_next_184 rfl 0 rfl ?_
        obtain ⟨v13, hv13, h⟩ := obind h
        refine k_getI ok fl_X7_190 hv13 dX7_next_185 ?_
        obtain ⟨v14, hv14, h⟩ := obind h
        refine j_iald ok hv14 dX7_next_188 ?_
        refine j_bipush (v := 59) ok dX7_next_189 (by decide) ?_
        rcases ite_some h with ⟨c15, h⟩ | ⟨c15, h⟩
        · refine j_icmp_ne (tgt := 198) ok dX7_next_191 (by decide) (fun z => absurd c15 z) (fun _ => ?_)
          refine j_iconst (v := 3) ok dX7_next_194 (by decide) ?_
          refine j_goto (tgt := 199) ok dX7_next_195 (by decide) ?_
          exact J.sub [0] rfl (jX7_next_199 ok l0 l0 (3 : Int32) q10.2 h hK)
        · refine j_icmp_ne (tgt := 198) ok dX7_next_191 (by decide) (fun _ => ?_) (fun z => absurd z c15)
          refine j_iconst (v := 4) ok dX7_next_198 (by decide) ?_
          exact J.sub [0] rfl (jX7_next_199 ok l0 l0 (4 : Int32) q10.2 h hK)
      · refine j_if_eq (tgt := 179) ok dX7_next_113 (by decide) (fun z => absurd z c11) (fun _ => ?_)
        refine j_aload_n ok dX7_next_116 rfl 0 rfl ?_
        refine j_iconst (v := 2) ok dX7_next_117 (by decide) ?_
        obtain ⟨G12, hG12, h⟩ := obind h
        refine k_putI ok fl_X7_196 fp_X7 rfl (Or.inl rfl) hG12 dX7_next_118 ?_
        refine j_aload_n ok dX7_next_121 rfl 0 rfl ?_
        refine j_iconst (v := 0) ok dX7_next_122 (by decide) ?_
        obtain ⟨G13, hG13, h⟩ := obind h
        refine k_putI ok fl_X7_205 fp_X7 rfl (Or.inl rfl) hG13 dX7_next_123 ?_
        have hJ : J X 1 126 [(0, .ref (X.B + l0))] [] G13 := j_loop (loc := fun s : Unit => [(0, .ref (X.B + l0))]) (F := (finV X)) (fun s G r G' hb hk => jX7_next_126 ok l0 G hb hk) _ _ _ _ _ h hK
        exact J.sub [0] rfl hJ
    · refine j_if_eq (tgt := 105) ok dX7_next_73 (by decide) (fun z => absurd z c8) (fun _ => ?_)
      refine j_aload_n ok dX7_next_76 rfl 0 rfl ?_
      refine j_iconst (v := 1) ok dX7_next_77 (by decide) ?_
      obtain ⟨G9, hG9, h⟩ := obind h
      refine k_putI ok fl_X7_196 fp_X7 rfl (Or.inl rfl) hG9 dX7_next_78 ?_
      have hJ : J X 1 81 [(0, .ref (X.B + l0))] [] G9 := j_loop (loc := fun s : Unit => [(0, .ref (X.B + l0))]) (F := (finV X)) (fun s G r G' hb hk => jX7_next_81 ok l0 G hb hk) _ _ _ _ _ h hK
      exact J.sub [0] rfl hJ

def fX7_next_0 (l0 : Nat)  (G : Mem) : Option (((Unit) ⊕ Unit) × Mem) :=
  (gF G 17 l0 23).bind fun v1 =>
  (gF G 17 l0 9).bind fun v2 =>
  if v2 ≤ v1 then
    liftE (fX7_next_38 l0 G)
  else
    (gR G 17 l0 7).bind fun v4 =>
    (gF G 17 l0 23).bind fun v5 =>
    (gA G 1 v4 v5).bind fun v6 =>
    if v6 = (32 : Int32) then
      (gF G 17 l0 23).bind fun v8 =>
      (pI G 17 l0 23 (v8 + (1 : Int32))).bind fun G9 =>
      some (.inl (), G9)
    else
      liftE (fX7_next_38 l0 G)

set_option maxRecDepth 100000 in
set_option maxHeartbeats 4000000 in
theorem jX7_next_0 {X : Cx} (ok : OK X cX7_next RX7 none 1 2 120) (l0 : Nat)  (G : Mem) {r : ((Unit) ⊕ Unit)} {G' : Mem} (h : fX7_next_0 l0 G = some (r, G')) (hK : (finL X 1 0 (fun s : Unit => [(0, .ref (X.B + l0))]) (finV X)) r G') : J X 1 0 [(0, .ref (X.B + l0))] [] G := by
  unfold fX7_next_0 at h
  refine j_aload_n ok dX7_next_0 rfl 0 rfl ?_
  obtain ⟨v1, hv1, h⟩ := obind h
  refine k_getI ok fl_X7_190 hv1 dX7_next_1 ?_
  refine j_aload_n ok dX7_next_4 rfl 0 rfl ?_
  obtain ⟨v2, hv2, h⟩ := obind h
  refine k_getI ok fl_X7_73 hv2 dX7_next_5 ?_
  rcases ite_some h with ⟨c3, h⟩ | ⟨c3, h⟩
  · refine j_icmp_ge (tgt := 38) ok dX7_next_8 (by decide) (fun _ => ?_) (fun z => absurd c3 z)
    obtain ⟨r1, e1, h1⟩ := lift_some h
    subst e1
    exact J.sub [0] rfl (jX7_next_38 ok l0 G h1 hK)
  · refine j_icmp_ge (tgt := 38) ok dX7_next_8 (by decide) (fun z => absurd z c3) (fun _ => ?_)
    refine j_aload_n ok dX7_next_11 rfl 0 rfl ?_
    obtain ⟨v4, hv4, h⟩ := obind h
    refine k_getR ok fl_X7_26 hv4 dX7_next_12 ?_
    refine j_aload_n ok dX7_next_15 rfl 0 rfl ?_
    obtain ⟨v5, hv5, h⟩ := obind h
    refine k_getI ok fl_X7_190 hv5 dX7_next_16 ?_
    obtain ⟨v6, hv6, h⟩ := obind h
    refine j_iald ok hv6 dX7_next_19 ?_
    refine j_bipush (v := 32) ok dX7_next_20 (by decide) ?_
    rcases ite_some h with ⟨c7, h⟩ | ⟨c7, h⟩
    · refine j_icmp_ne (tgt := 38) ok dX7_next_22 (by decide) (fun z => absurd c7 z) (fun _ => ?_)
      refine j_aload_n ok dX7_next_25 rfl 0 rfl ?_
      refine j_dup ok dX7_next_26 rfl ?_
      obtain ⟨v8, hv8, h⟩ := obind h
      refine k_getI ok fl_X7_190 hv8 dX7_next_27 ?_
      refine j_iconst (v := 1) ok dX7_next_30 (by decide) ?_
      refine j_iadd ok dX7_next_31 ?_
      obtain ⟨G9, hG9, h⟩ := obind h
      refine k_putI ok fl_X7_190 fp_X7 rfl (Or.inl rfl) hG9 dX7_next_32 ?_
      refine j_goto (tgt := 0) ok dX7_next_35 (by decide) ?_
      obtain ⟨er, eG⟩ := inj2 h
      subst er; subst eG
      have hJ : J X 1 0 [(0, .ref (X.B + l0))] [] G9 := hK
      exact J.sub [0] rfl hJ
    · refine j_icmp_ne (tgt := 38) ok dX7_next_22 (by decide) (fun _ => ?_) (fun z => absurd z c7)
      obtain ⟨r1, e1, h1⟩ := lift_some h
      subst e1
      exact J.sub [0] rfl (jX7_next_38 ok l0 G h1 hK)

def fX7_next (l0 : Nat) (G : Mem) : Option (Unit × Mem) := loopM (fun (s : Unit) G => fX7_next_0 l0 G) FU () G
set_option maxRecDepth 100000 in
theorem tX7_next {l : Launch} (hfl : l.stackTraces = false) (V : Wd) (l0 : Nat) (G : Mem) {r : Unit} {G' : Mem} (h : fX7_next l0 G = some (r, G')) : Mx l yX7_next cX7_next 1 none 2 120 V [.ref (V.B + l0)] G (.inl none) G' :=
  mx_of (L := [(0, .ref (V.B + l0))]) hfl (by decide +kernel) (Nat.le_of_ble_eq_true rfl) rfl (fun X hl hV hin ok he => by
    subst hl; subst hV
    exact J.sub [0] rfl ((j_loop (F := (finV X)) (fun s G r G' hb hk => jX7_next_0 ok l0 G hb hk) _ _ _ _ _ h he)))
def fX7_go_11   (G : Mem) : Option (Unit × Mem) :=
  some ((), G)

set_option maxRecDepth 100000 in
set_option maxHeartbeats 4000000 in
theorem jX7_go_11 {X : Cx} (ok : OK X cX7_go RX7 none 1 3 140)   (G : Mem) {r : Unit} {G' : Mem} (h : fX7_go_11  G = some (r, G')) (hK : (finV X) r G') : J X 1 11 [] [] G := by
  unfold fX7_go_11 at h
  obtain ⟨er, eG⟩ := inj2 h
  subst er; subst eG
  exact j_vret ok rfl dX7_go_11 hK

def fX7_go_0 (l0 : Nat)  (G : Mem) : Option (Unit × Mem) :=
  (gF G 17 l0 25).bind fun v1 =>
  if v1 = (0 : Int32) then
    ck G 17 l0 <| (fX7_next l0 G).bind fun q3 =>
    fX7_go_11 q3.2
  else
    fX7_go_11 G

set_option maxRecDepth 100000 in
set_option maxHeartbeats 4000000 in
theorem jX7_go_0 {X : Cx} (ok : OK X cX7_go RX7 none 1 3 140) (l0 : Nat)  (G : Mem) {r : Unit} {G' : Mem} (h : fX7_go_0 l0 G = some (r, G')) (hK : (finV X) r G') : J X 1 0 [(0, .ref (X.B + l0))] [] G := by
  unfold fX7_go_0 at h
  refine j_aload_n ok dX7_go_0 rfl 0 rfl ?_
  obtain ⟨v1, hv1, h⟩ := obind h
  refine k_getI ok fl_X7_212 hv1 dX7_go_1 ?_
  rcases ite_some h with ⟨c2, h⟩ | ⟨c2, h⟩
  · refine j_if_ne (tgt := 11) ok dX7_go_4 (by decide) (fun z => absurd c2 z) (fun _ => ?_)
    refine j_aload_n ok dX7_go_7 rfl 0 rfl ?_
    obtain ⟨kq3, h⟩ := ck_some h
    obtain ⟨q3, hq3, h⟩ := obind h
    refine k_V0 ok kl_X7_219 ⟨Nat.le_of_ble_eq_true rfl, Nat.le_of_ble_eq_true rfl⟩ [] kq3 rfl rfl (Nat.le_of_ble_eq_true rfl) (tX7_next ok.fl X.V l0 G hq3) dX7_go_8 ?_
    exact J.sub [] rfl (jX7_go_11 ok q3.2 h hK)
  · refine j_if_ne (tgt := 11) ok dX7_go_4 (by decide) (fun _ => ?_) (fun z => absurd z c2)
    exact J.sub [] rfl (jX7_go_11 ok G h hK)

def fX7_go (l0 : Nat) (G : Mem) : Option (Unit × Mem) := fX7_go_0 l0 G
set_option maxRecDepth 100000 in
theorem tX7_go {l : Launch} (hfl : l.stackTraces = false) (V : Wd) (l0 : Nat) (G : Mem) {r : Unit} {G' : Mem} (h : fX7_go l0 G = some (r, G')) : Mx l yX7_go cX7_go 1 none 3 140 V [.ref (V.B + l0)] G (.inl none) G' :=
  mx_of (L := [(0, .ref (V.B + l0))]) hfl (by decide +kernel) (Nat.le_of_ble_eq_true rfl) rfl (fun X hl hV hin ok he => by
    subst hl; subst hV
    exact J.sub [0] rfl (jX7_go_0 ok l0 G h he))
def fX7_number_0 (l0 : Nat) (l1 : Int32) (l2 : Int32)  (G : Mem) : Option (Int32 × Mem) :=
  ck G 17 l0 <| (fX7_here l0 l1 l2 G).bind fun q1 =>
  ck q1.2 17 l0 <| (fX7_go l0 q1.2).bind fun q2 =>
  some (q1.1, q2.2)

set_option maxRecDepth 100000 in
set_option maxHeartbeats 4000000 in
theorem jX7_number_0 {X : Cx} (ok : OK X cX7_number RX7 (some .int) 4 4 160) (l0 : Nat) (l1 : Int32) (l2 : Int32)  (G : Mem) {r : Int32} {G' : Mem} (h : fX7_number_0 l0 l1 l2 G = some (r, G')) (hK : (finI X) r G') : J X 4 0 [(0, .ref (X.B + l0)), (1, .int l1), (2, .int l2)] [] G := by
  unfold fX7_number_0 at h
  refine j_aload_n ok dX7_number_0 rfl 0 rfl ?_
  refine j_iload_n ok dX7_number_1 rfl 1 rfl ?_
  refine j_iload_n ok dX7_number_2 rfl 2 rfl ?_
  obtain ⟨kq1, h⟩ := ck_some h
  obtain ⟨q1, hq1, h⟩ := obind h
  refine k_V1 ok kl_X7_226 ⟨Nat.le_of_ble_eq_true rfl, Nat.le_of_ble_eq_true rfl⟩ [.int l1, .int l2] kq1 rfl rfl (Nat.le_of_ble_eq_true rfl) (tX7_here ok.fl X.V l0 l1 l2 G hq1) dX7_number_3 ?_
  refine j_istore_n (L' := [(3, .int q1.1), (0, .ref (X.B + l0)), (1, .int l1), (2, .int l2)]) ok dX7_number_6 rfl (by decide) rfl ?_
  refine j_aload_n ok dX7_number_7 rfl 1 rfl ?_
  obtain ⟨kq2, h⟩ := ck_some h
  obtain ⟨q2, hq2, h⟩ := obind h
  refine k_V0 ok kl_X7_229 ⟨Nat.le_of_ble_eq_true rfl, Nat.le_of_ble_eq_true rfl⟩ [] kq2 rfl rfl (Nat.le_of_ble_eq_true rfl) (tX7_go ok.fl X.V l0 q1.2 hq2) dX7_number_8 ?_
  refine j_iload_n ok dX7_number_11 rfl 0 rfl ?_
  obtain ⟨er, eG⟩ := inj2 h
  subst er; subst eG
  exact j_iret ok rfl dX7_number_12 hK

def fX7_number (l0 : Nat) (l1 : Int32) (l2 : Int32) (G : Mem) : Option (Int32 × Mem) := fX7_number_0 l0 l1 l2 G
set_option maxRecDepth 100000 in
theorem tX7_number {l : Launch} (hfl : l.stackTraces = false) (V : Wd) (l0 : Nat) (l1 : Int32) (l2 : Int32) (G : Mem) {r : Int32} {G' : Mem} (h : fX7_number l0 l1 l2 G = some (r, G')) : Mx l yX7_number cX7_number 4 (some .int) 4 160 V [.ref (V.B + l0), .int l1, .int l2] G (.inl (some (.int r))) G' :=
  mx_of (L := [(0, .ref (V.B + l0)), (1, .int l1), (2, .int l2)]) hfl (by decide +kernel) (Nat.le_of_ble_eq_true rfl) rfl (fun X hl hV hin ok he => by
    subst hl; subst hV
    exact J.sub [0, 1, 2] rfl (jX7_number_0 ok l0 l1 l2 G h he))
