def fX0_squareOf_0 (l0 : Nat) (l1 : Int32) (l2 : Int32)  (G : Mem) : Option (Int32 × Mem) :=
  (gF G 10 l0 0).bind fun v1 =>
  some (((l2 * v1) + l1), G)

set_option maxRecDepth 100000 in
set_option maxHeartbeats 4000000 in
theorem jX0_squareOf_0 {X : Cx} (ok : OK X cX0_squareOf RX0 (some .int) 3 0 0) (l0 : Nat) (l1 : Int32) (l2 : Int32)  (G : Mem) {r : Int32} {G' : Mem} (h : fX0_squareOf_0 l0 l1 l2 G = some (r, G')) (hK : (finI X) r G') : J X 3 0 [(0, .ref (X.B + l0)), (1, .int l1), (2, .int l2)] [] G := by
  unfold fX0_squareOf_0 at h
  refine j_iload_n ok dX0_squareOf_0 rfl 2 rfl ?_
  refine j_aload_n ok dX0_squareOf_1 rfl 0 rfl ?_
  obtain ⟨v1, hv1, h⟩ := obind h
  refine k_getI ok fl_X0_9 hv1 dX0_squareOf_2 ?_
  refine j_imul ok dX0_squareOf_5 ?_
  refine j_iload_n ok dX0_squareOf_6 rfl 1 rfl ?_
  refine j_iadd ok dX0_squareOf_7 ?_
  obtain ⟨er, eG⟩ := inj2 h
  subst er; subst eG
  exact j_iret ok rfl dX0_squareOf_8 hK

def fX0_squareOf (l0 : Nat) (l1 : Int32) (l2 : Int32) (G : Mem) : Option (Int32 × Mem) := fX0_squareOf_0 l0 l1 l2 G
set_option maxRecDepth 100000 in
theorem tX0_squareOf {l : Launch} (hfl : l.stackTraces = false) (V : Wd) (l0 : Nat) (l1 : Int32) (l2 : Int32) (G : Mem) {r : Int32} {G' : Mem} (h : fX0_squareOf l0 l1 l2 G = some (r, G')) : Mx l yX0_squareOf cX0_squareOf 3 (some .int) 0 0 V [.ref (V.B + l0), .int l1, .int l2] G (.inl (some (.int r))) G' :=
  mx_of (L := [(0, .ref (V.B + l0)), (1, .int l1), (2, .int l2)]) hfl (by decide +kernel) (Nat.le_of_ble_eq_true rfl) rfl (fun X hl hV hin ok he => by
    subst hl; subst hV
    exact J.sub [0, 1, 2] rfl (jX0_squareOf_0 ok l0 l1 l2 G h he))
def fX0_findMovesFrom_217   (G : Mem) : Option (Unit × Mem) :=
  some ((), G)

set_option maxRecDepth 100000 in
set_option maxHeartbeats 4000000 in
theorem jX0_findMovesFrom_217 {X : Cx} (ok : OK X cX0_findMovesFrom RX0 none 13 3 76)   (G : Mem) {r : Unit} {G' : Mem} (h : fX0_findMovesFrom_217  G = some (r, G')) (hK : (finV X) r G') : J X 13 217 [] [] G := by
  unfold fX0_findMovesFrom_217 at h
  obtain ⟨er, eG⟩ := inj2 h
  subst er; subst eG
  exact j_vret ok rfl dX0_findMovesFrom_217 hK

def fX0_findMovesFrom_211 (l0 : Nat) (l1 : Int32) (l2 : Int32) (l3 : Nat) (l4 : Int32) (l5 : Int32) (l6 : Int64) (l8 : Int32)  (G : Mem) : Option (((Int32) ⊕ Unit) × Mem) :=
  some (.inl ((l8 + (1 : Int32))), G)

set_option maxRecDepth 100000 in
set_option maxHeartbeats 4000000 in
theorem jX0_findMovesFrom_211 {X : Cx} (ok : OK X cX0_findMovesFrom RX0 none 13 3 76) (l0 : Nat) (l1 : Int32) (l2 : Int32) (l3 : Nat) (l4 : Int32) (l5 : Int32) (l6 : Int64) (l8 : Int32)  (G : Mem) {r : ((Int32) ⊕ Unit)} {G' : Mem} (h : fX0_findMovesFrom_211 l0 l1 l2 l3 l4 l5 l6 l8 G = some (r, G')) (hK : (finL X 13 30 (fun s : Int32 => [(0, .ref (X.B + l0)), (1, .int l1), (2, .int l2), (3, .ref (X.B + l3)), (4, .int l4), (5, .int l5), (6, .long l6), (8, .int s)]) (finV X)) r G') : J X 13 211 [(0, .ref (X.B + l0)), (1, .int l1), (2, .int l2), (3, .ref (X.B + l3)), (4, .int l4), (5, .int l5), (6, .long l6), (8, .int l8)] [] G := by
  unfold fX0_findMovesFrom_211 at h
  refine j_iinc (L' := [(8, .int (l8 + (1 : Int32))), (0, .ref (X.B + l0)), (1, .int l1), (2, .int l2), (3, .ref (X.B + l3)), (4, .int l4), (5, .int l5), (6, .long l6)]) (v := (l8 + (1 : Int32))) ok dX0_findMovesFrom_211 (q := 7) rfl rfl (by decide) rfl ?_
  refine j_goto (tgt := 30) ok dX0_findMovesFrom_214 (by decide) ?_
  obtain ⟨er, eG⟩ := inj2 h
  subst er; subst eG
  have hJ : J X 13 30 [(0, .ref (X.B + l0)), (1, .int l1), (2, .int l2), (3, .ref (X.B + l3)), (4, .int l4), (5, .int l5), (6, .long l6), (8, .int (l8 + (1 : Int32)))] [] G := hK
  exact J.sub [1, 2, 3, 4, 5, 6, 7, 0] rfl hJ

def fX0_findMovesFrom_205 (l0 : Nat) (l1 : Int32) (l2 : Int32) (l3 : Nat) (l4 : Int32) (l5 : Int32) (l6 : Int64) (l8 : Int32) (l9 : Int32)  (G : Mem) : Option (((Int32) ⊕ ((Int32) ⊕ Unit)) × Mem) :=
  some (.inl ((l9 + (1 : Int32))), G)

set_option maxRecDepth 100000 in
set_option maxHeartbeats 4000000 in
theorem jX0_findMovesFrom_205 {X : Cx} (ok : OK X cX0_findMovesFrom RX0 none 13 3 76) (l0 : Nat) (l1 : Int32) (l2 : Int32) (l3 : Nat) (l4 : Int32) (l5 : Int32) (l6 : Int64) (l8 : Int32) (l9 : Int32)  (G : Mem) {r : ((Int32) ⊕ ((Int32) ⊕ Unit))} {G' : Mem} (h : fX0_findMovesFrom_205 l0 l1 l2 l3 l4 l5 l6 l8 l9 G = some (r, G')) (hK : (finL X 13 42 (fun s : Int32 => [(0, .ref (X.B + l0)), (1, .int l1), (2, .int l2), (3, .ref (X.B + l3)), (4, .int l4), (5, .int l5), (6, .long l6), (8, .int l8), (9, .int s)]) (finL X 13 30 (fun s : Int32 => [(0, .ref (X.B + l0)), (1, .int l1), (2, .int l2), (3, .ref (X.B + l3)), (4, .int l4), (5, .int l5), (6, .long l6), (8, .int s)]) (finV X))) r G') : J X 13 205 [(0, .ref (X.B + l0)), (1, .int l1), (2, .int l2), (3, .ref (X.B + l3)), (4, .int l4), (5, .int l5), (6, .long l6), (8, .int l8), (9, .int l9)] [] G := by
  unfold fX0_findMovesFrom_205 at h
  refine j_iinc (L' := [(9, .int (l9 + (1 : Int32))), (0, .ref (X.B + l0)), (1, .int l1), (2, .int l2), (3, .ref (X.B + l3)), (4, .int l4), (5, .int l5), (6, .long l6), (8, .int l8)]) (v := (l9 + (1 : Int32))) ok dX0_findMovesFrom_205 (q := 8) rfl rfl (by decide) rfl ?_
  refine j_goto (tgt := 42) ok dX0_findMovesFrom_208 (by decide) ?_
  obtain ⟨er, eG⟩ := inj2 h
  subst er; subst eG
  have hJ : J X 13 42 [(0, .ref (X.B + l0)), (1, .int l1), (2, .int l2), (3, .ref (X.B + l3)), (4, .int l4), (5, .int l5), (6, .long l6), (8, .int l8), (9, .int (l9 + (1 : Int32)))] [] G := hK
  exact J.sub [1, 2, 3, 4, 5, 6, 7, 8, 0] rfl hJ

def fX0_findMovesFrom_138 (l0 : Nat) (l1 : Int32) (l2 : Int32) (l3 : Nat) (l4 : Int32) (l5 : Int32) (l6 : Int64) (l8 : Int32) (l9 : Int32) (l10 : Int32) (s0 : Nat) (s1 : Int32) (s2 : Int32) (s3 : Int32) (G : Mem) : Option (((Int32) ⊕ ((Int32) ⊕ Unit)) × Mem) :=
  ck G 11 s0 <| (fX1_allowsTarget s0 s1 s2 s3 G).bind fun q1 =>
  if q1.1 = (0 : Int32) then
    fX0_findMovesFrom_205 l0 l1 l2 l3 l4 l5 l6 l8 l9 q1.2
  else
    (gF q1.2 11 l3 6).bind fun v3 =>
    ck q1.2 10 l0 <| (fX0_isLegal l0 l4 l10 v3 q1.2).bind fun q4 =>
    if q4.1 = (0 : Int32) then
      fX0_findMovesFrom_205 l0 l1 l2 l3 l4 l5 l6 l8 l9 q4.2
    else
      (gF q4.2 10 l0 3).bind fun v6 =>
      (gR q4.2 10 l0 2).bind fun v7 =>
      (gL q4.2 v7).bind fun v8 =>
      if v8 ≤ v6 then
        fX0_findMovesFrom_205 l0 l1 l2 l3 l4 l5 l6 l8 l9 q4.2
      else
        (gR q4.2 10 l0 2).bind fun v10 =>
        (gF q4.2 10 l0 3).bind fun v11 =>
        (pI q4.2 10 l0 3 (v11 + (1 : Int32))).bind fun G12 =>
        ck G12 10 l0 <| (fX0_squareOf l0 l1 l2 G12).bind fun q13 =>
        ck q13.2 10 l0 <| (fX0_squareOf l0 l9 l8 q13.2).bind fun q14 =>
        (pA q14.2 v10 v11 ((q13.1 <<< ((6 : Int32) &&& 31)) ||| q14.1)).bind fun G15 =>
        fX0_findMovesFrom_205 l0 l1 l2 l3 l4 l5 l6 l8 l9 G15

set_option maxRecDepth 100000 in
set_option maxHeartbeats 4000000 in
theorem jX0_findMovesFrom_138 {X : Cx} (ok : OK X cX0_findMovesFrom RX0 none 13 3 76) (l0 : Nat) (l1 : Int32) (l2 : Int32) (l3 : Nat) (l4 : Int32) (l5 : Int32) (l6 : Int64) (l8 : Int32) (l9 : Int32) (l10 : Int32) (s0 : Nat) (s1 : Int32) (s2 : Int32) (s3 : Int32) (G : Mem) {r : ((Int32) ⊕ ((Int32) ⊕ Unit))} {G' : Mem} (h : fX0_findMovesFrom_138 l0 l1 l2 l3 l4 l5 l6 l8 l9 l10 s0 s1 s2 s3 G = some (r, G')) (hK : (finL X 13 42 (fun s : Int32 => [(0, .ref (X.B + l0)), (1, .int l1), (2, .int l2), (3, .ref (X.B + l3)), (4, .int l4), (5, .int l5), (6, .long l6), (8, .int l8), (9, .int s)]) (finL X 13 30 (fun s : Int32 => [(0, .ref (X.B + l0)), (1, .int l1), (2, .int l2), (3, .ref (X.B + l3)), (4, .int l4), (5, .int l5), (6, .long l6), (8, .int s)]) (finV X))) r G') : J X 13 138 [(0, .ref (X.B + l0)), (1, .int l1), (2, .int l2), (3, .ref (X.B + l3)), (4, .int l4), (5, .int l5), (6, .long l6), (8, .int l8), (9, .int l9), (10, .int l10)] [.int s3, .int s2, .int s1, .ref (X.B + s0)] G := by
  unfold fX0_findMovesFrom_138 at h
  obtain ⟨kq1, h⟩ := ck_some h
  obtain ⟨q1, hq1, h⟩ := obind h
  refine k_V1 ok kl_X0_88 ⟨Nat.le_of_ble_eq_true rfl, Nat.le_of_ble_eq_true rfl⟩ [.int s1, .int s2, .int s3] kq1 rfl rfl (Nat.le_of_ble_eq_true rfl) (tX1_allowsTarget ok.fl X.V s0 s1 s2 s3 G hq1) dX0_findMovesFrom_138 ?_
  rcases ite_some h with ⟨c2, h⟩ | ⟨c2, h⟩
  · refine j_if_eq (tgt := 205) ok dX0_findMovesFrom_141 (by decide) (fun _ => ?_) (fun z => absurd c2 z)
    exact J.sub [0, 1, 2, 3, 4, 5, 6, 7, 8] rfl (jX0_findMovesFrom_205 ok l0 l1 l2 l3 l4 l5 l6 l8 l9 q1.2 h hK)
  · refine j_if_eq (tgt := 205) ok dX0_findMovesFrom_141 (by decide) (fun z => absurd z c2) (fun _ => ?_)
    refine j_aload_n ok dX0_findMovesFrom_144 rfl 0 rfl ?_
    refine j_iload ok dX0_findMovesFrom_145 4 rfl ?_
    refine j_iload ok dX0_findMovesFrom_147 9 rfl ?_
    refine j_aload_n ok dX0_findMovesFrom_149 rfl 3 rfl ?_
    obtain ⟨v3, hv3, h⟩ := obind h
    refine k_getI ok fl_X0_92 hv3 dX0_findMovesFrom_150 ?_
    obtain ⟨kq4, h⟩ := ck_some h
    obtain ⟨q4, hq4, h⟩ := obind h
    refine k_V1 ok kl_X0_96 ⟨Nat.le_of_ble_eq_true rfl, Nat.le_of_ble_eq_true rfl⟩ [.int l4, .int l10, .int v3] kq4 rfl rfl (Nat.le_of_ble_eq_true rfl) (tX0_isLegal ok.fl X.V l0 l4 l10 v3 q1.2 hq4) dX0_findMovesFrom_153 ?_
    rcases ite_some h with ⟨c5, h⟩ | ⟨c5, h⟩
    · refine j_if_eq (tgt := 205) ok dX0_findMovesFrom_156 (by decide) (fun _ => ?_) (fun z => absurd c5 z)
      exact J.sub [0, 1, 2, 3, 4, 5, 6, 7, 8] rfl (jX0_findMovesFrom_205 ok l0 l1 l2 l3 l4 l5 l6 l8 l9 q4.2 h hK)
    · refine j_if_eq (tgt := 205) ok dX0_findMovesFrom_156 (by decide) (fun z => absurd z c5) (fun _ => ?_)
      refine j_aload_n ok dX0_findMovesFrom_159 rfl 0 rfl ?_
      obtain ⟨v6, hv6, h⟩ := obind h
      refine k_getI ok fl_X0_22 hv6 dX0_findMovesFrom_160 ?_
      refine j_aload_n ok dX0_findMovesFrom_163 rfl 0 rfl ?_
      obtain ⟨v7, hv7, h⟩ := obind h
      refine k_getR ok fl_X0_18 hv7 dX0_findMovesFrom_164 ?_
      obtain ⟨v8, hv8, h⟩ := obind h
      refine j_alen ok hv8 dX0_findMovesFrom_167 ?_
      rcases ite_some h with ⟨c9, h⟩ | ⟨c9, h⟩
      · refine j_icmp_ge (tgt := 205) ok dX0_findMovesFrom_168 (by decide) (fun _ => ?_) (fun z => absurd c9 z)
        exact J.sub [0, 1, 2, 3, 4, 5, 6, 7, 8] rfl (jX0_findMovesFrom_205 ok l0 l1 l2 l3 l4 l5 l6 l8 l9 q4.2 h hK)
      · refine j_icmp_ge (tgt := 205) ok dX0_findMovesFrom_168 (by decide) (fun z => absurd z c9) (fun _ => ?_)
        refine j_aload_n ok dX0_findMovesFrom_171 rfl 0 rfl ?_
        obtain ⟨v10, hv10, h⟩ := obind h
        refine k_getR ok fl_X0_18 hv10 dX0_findMovesFrom_172 ?_
        refine j_aload_n ok dX0_findMovesFrom_175 rfl 0 rfl ?_
        refine j_dup ok dX0_findMovesFrom_176 rfl ?_
        obtain ⟨v11, hv11, h⟩ := obind h
        refine k_getI ok fl_X0_22 hv11 dX0_findMovesFrom_177 ?_
        refine j_dup_x1 ok dX0_findMovesFrom_180 rfl rfl ?_
        refine j_iconst (v := 1) ok dX0_findMovesFrom_181 (by decide) ?_
        refine j_iadd ok dX0_findMovesFrom_182 ?_
        obtain ⟨G12, hG12, h⟩ := obind h
        refine k_putI ok fl_X0_22 fp_X0 rfl (Or.inl rfl) hG12 dX0_findMovesFrom_183 ?_
        refine j_aload_n ok dX0_findMovesFrom_186 rfl 0 rfl ?_
        refine j_iload_n ok dX0_findMovesFrom_187 rfl 1 rfl ?_
        refine j_iload_n ok dX0_findMovesFrom_188 rfl 2 rfl ?_
        obtain ⟨kq13, h⟩ := ck_some h
        obtain ⟨q13, hq13, h⟩ := obind h
        refine k_V1 ok kl_X0_99 ⟨Nat.le_of_ble_eq_true rfl, Nat.le_of_ble_eq_true rfl⟩ [.int l1, .int l2] kq13 rfl rfl (Nat.le_of_ble_eq_true rfl) (tX0_squareOf ok.fl X.V l0 l1 l2 G12 hq13) dX0_findMovesFrom_189 ?_
        refine j_bipush (v := 6) ok dX0_findMovesFrom_192 (by decide) ?_
        refine j_ishl ok dX0_findMovesFrom_194 ?_
        refine j_aload_n ok dX0_findMovesFrom_195 rfl 0 rfl ?_
        refine j_iload ok dX0_findMovesFrom_196 8 rfl ?_
        refine j_iload ok dX0_findMovesFrom_198 7 rfl ?_
        obtain ⟨kq14, h⟩ := ck_some h
        obtain ⟨q14, hq14, h⟩ := obind h
        refine k_V1 ok kl_X0_99 ⟨Nat.le_of_ble_eq_true rfl, Nat.le_of_ble_eq_true rfl⟩ [.int l9, .int l8] kq14 rfl rfl (Nat.le_of_ble_eq_true rfl) (tX0_squareOf ok.fl X.V l0 l9 l8 q13.2 hq14) dX0_findMovesFrom_200 ?_
        refine j_ior ok dX0_findMovesFrom_203 ?_
        obtain ⟨G15, hG15, h⟩ := obind h
        refine j_iast ok hG15 dX0_findMovesFrom_204 ?_
        exact J.sub [0, 1, 2, 3, 4, 5, 6, 7, 8] rfl (jX0_findMovesFrom_205 ok l0 l1 l2 l3 l4 l5 l6 l8 l9 G15 h hK)

def fX0_findMovesFrom_123 (l0 : Nat) (l1 : Int32) (l2 : Int32) (l3 : Nat) (l4 : Int32) (l5 : Int32) (l6 : Int64) (l8 : Int32) (l9 : Int32) (l10 : Int32) (l12 : Int32)  (G : Mem) : Option (((Int32) ⊕ ((Int32) ⊕ Unit)) × Mem) :=
  if l12 = (0 : Int32) then
    fX0_findMovesFrom_138 l0 l1 l2 l3 l4 l5 l6 l8 l9 l10 l3 l9 l8 (1 : Int32) G
  else
    fX0_findMovesFrom_138 l0 l1 l2 l3 l4 l5 l6 l8 l9 l10 l3 l9 l8 (0 : Int32) G

set_option maxRecDepth 100000 in
set_option maxHeartbeats 4000000 in
theorem jX0_findMovesFrom_123 {X : Cx} (ok : OK X cX0_findMovesFrom RX0 none 13 3 76) (l0 : Nat) (l1 : Int32) (l2 : Int32) (l3 : Nat) (l4 : Int32) (l5 : Int32) (l6 : Int64) (l8 : Int32) (l9 : Int32) (l10 : Int32) (l12 : Int32)  (G : Mem) {r : ((Int32) ⊕ ((Int32) ⊕ Unit))} {G' : Mem} (h : fX0_findMovesFrom_123 l0 l1 l2 l3 l4 l5 l6 l8 l9 l10 l12 G = some (r, G')) (hK : (finL X 13 42 (fun s : Int32 => [(0, .ref (X.B + l0)), (1, .int l1), (2, .int l2), (3, .ref (X.B + l3)), (4, .int l4), (5, .int l5), (6, .long l6), (8, .int l8), (9, .int s)]) (finL X 13 30 (fun s : Int32 => [(0, .ref (X.B + l0)), (1, .int l1), (2, .int l2), (3, .ref (X.B + l3)), (4, .int l4), (5, .int l5), (6, .long l6), (8, .int s)]) (finV X))) r G') : J X 13 123 [(0, .ref (X.B + l0)), (1, .int l1), (2, .int l2), (3, .ref (X.B + l3)), (4, .int l4), (5, .int l5), (6, .long l6), (8, .int l8), (9, .int l9), (10, .int l10), (12, .int l12)] [] G := by
  unfold fX0_findMovesFrom_123 at h
  refine j_aload_n ok dX0_findMovesFrom_123 rfl 3 rfl ?_
  refine j_iload ok dX0_findMovesFrom_124 8 rfl ?_
  refine j_iload ok dX0_findMovesFrom_126 7 rfl ?_
  refine j_iload ok dX0_findMovesFrom_128 10 rfl ?_
  rcases ite_some h with ⟨c1, h⟩ | ⟨c1, h⟩
  · refine j_if_ne (tgt := 137) ok dX0_findMovesFrom_130 (by decide) (fun z => absurd c1 z) (fun _ => ?_)
    refine j_iconst (v := 1) ok dX0_findMovesFrom_133 (by decide) ?_
    refine j_goto (tgt := 138) ok dX0_findMovesFrom_134 (by decide) ?_
    exact J.sub [0, 1, 2, 3, 4, 5, 6, 7, 8, 9] rfl (jX0_findMovesFrom_138 ok l0 l1 l2 l3 l4 l5 l6 l8 l9 l10 l3 l9 l8 (1 : Int32) G h hK)
  · refine j_if_ne (tgt := 137) ok dX0_findMovesFrom_130 (by decide) (fun _ => ?_) (fun z => absurd z c1)
    refine j_iconst (v := 0) ok dX0_findMovesFrom_137 (by decide) ?_
    exact J.sub [0, 1, 2, 3, 4, 5, 6, 7, 8, 9] rfl (jX0_findMovesFrom_138 ok l0 l1 l2 l3 l4 l5 l6 l8 l9 l10 l3 l9 l8 (0 : Int32) G h hK)

def fX0_findMovesFrom_95 (l0 : Nat) (l1 : Int32) (l2 : Int32) (l3 : Nat) (l4 : Int32) (l5 : Int32) (l6 : Int64) (l8 : Int32) (l9 : Int32) (l10 : Int32) (l11 : Int32) (s0 : Int32) (G : Mem) : Option (((Int32) ⊕ ((Int32) ⊕ Unit)) × Mem) :=
  if s0 = (0 : Int32) then
    (fX6_colourOf l11 G).bind fun q2 =>
    if q2.1 = l5 then
      fX0_findMovesFrom_205 l0 l1 l2 l3 l4 l5 l6 l8 l9 q2.2
    else
      (fX6_kindOf l11 q2.2).bind fun q4 =>
      if q4.1 = (0 : Int32) then
        fX0_findMovesFrom_205 l0 l1 l2 l3 l4 l5 l6 l8 l9 q4.2
      else
        fX0_findMovesFrom_123 l0 l1 l2 l3 l4 l5 l6 l8 l9 l10 s0 q4.2
  else
    fX0_findMovesFrom_123 l0 l1 l2 l3 l4 l5 l6 l8 l9 l10 s0 G

set_option maxRecDepth 100000 in
set_option maxHeartbeats 4000000 in
theorem jX0_findMovesFrom_95 {X : Cx} (ok : OK X cX0_findMovesFrom RX0 none 13 3 76) (l0 : Nat) (l1 : Int32) (l2 : Int32) (l3 : Nat) (l4 : Int32) (l5 : Int32) (l6 : Int64) (l8 : Int32) (l9 : Int32) (l10 : Int32) (l11 : Int32) (s0 : Int32) (G : Mem) {r : ((Int32) ⊕ ((Int32) ⊕ Unit))} {G' : Mem} (h : fX0_findMovesFrom_95 l0 l1 l2 l3 l4 l5 l6 l8 l9 l10 l11 s0 G = some (r, G')) (hK : (finL X 13 42 (fun s : Int32 => [(0, .ref (X.B + l0)), (1, .int l1), (2, .int l2), (3, .ref (X.B + l3)), (4, .int l4), (5, .int l5), (6, .long l6), (8, .int l8), (9, .int s)]) (finL X 13 30 (fun s : Int32 => [(0, .ref (X.B + l0)), (1, .int l1), (2, .int l2), (3, .ref (X.B + l3)), (4, .int l4), (5, .int l5), (6, .long l6), (8, .int s)]) (finV X))) r G') : J X 13 95 [(0, .ref (X.B + l0)), (1, .int l1), (2, .int l2), (3, .ref (X.B + l3)), (4, .int l4), (5, .int l5), (6, .long l6), (8, .int l8), (9, .int l9), (10, .int l10), (11, .int l11)] [.int s0] G := by
  unfold fX0_findMovesFrom_95 at h
  refine j_istore (L' := [(12, .int s0), (0, .ref (X.B + l0)), (1, .int l1), (2, .int l2), (3, .ref (X.B + l3)), (4, .int l4), (5, .int l5), (6, .long l6), (8, .int l8), (9, .int l9), (10, .int l10), (11, .int l11)]) ok dX0_findMovesFrom_95 (by decide) rfl ?_
  refine j_iload ok dX0_findMovesFrom_97 0 rfl ?_
  rcases ite_some h with ⟨c1, h⟩ | ⟨c1, h⟩
  · refine j_if_ne (tgt := 123) ok dX0_findMovesFrom_99 (by decide) (fun z => absurd c1 z) (fun _ => ?_)
    refine j_iload ok dX0_findMovesFrom_102 11 rfl ?_
    obtain ⟨q2, hq2, h⟩ := obind h
    refine k_N1 ok kl_X0_65 ⟨Nat.le_of_ble_eq_true rfl, Nat.le_of_ble_eq_true rfl⟩ [.int l11] rfl rfl (Nat.le_of_ble_eq_true rfl) (tX6_colourOf ok.fl X.V l11 G hq2) dX0_findMovesFrom_104 ?_
    refine j_iload ok dX0_findMovesFrom_107 6 rfl ?_
    rcases ite_some h with ⟨c3, h⟩ | ⟨c3, h⟩
    · refine j_icmp_eq (tgt := 205) ok dX0_findMovesFrom_109 (by decide) (fun _ => ?_) (fun z => absurd c3 z)
      exact J.sub [1, 2, 3, 4, 5, 6, 7, 8, 9] rfl (jX0_findMovesFrom_205 ok l0 l1 l2 l3 l4 l5 l6 l8 l9 q2.2 h hK)
    · refine j_icmp_eq (tgt := 205) ok dX0_findMovesFrom_109 (by decide) (fun z => absurd z c3) (fun _ => ?_)
      refine j_iload ok dX0_findMovesFrom_112 11 rfl ?_
      obtain ⟨q4, hq4, h⟩ := obind h
      refine k_N1 ok kl_X0_68 ⟨Nat.le_of_ble_eq_true rfl, Nat.le_of_ble_eq_true rfl⟩ [.int l11] rfl rfl (Nat.le_of_ble_eq_true rfl) (tX6_kindOf ok.fl X.V l11 q2.2 hq4) dX0_findMovesFrom_114 ?_
      rcases ite_some h with ⟨c5, h⟩ | ⟨c5, h⟩
      · refine j_if_ne (tgt := 123) ok dX0_findMovesFrom_117 (by decide) (fun z => absurd c5 z) (fun _ => ?_)
        refine j_goto (tgt := 205) ok dX0_findMovesFrom_120 (by decide) ?_
        exact J.sub [1, 2, 3, 4, 5, 6, 7, 8, 9] rfl (jX0_findMovesFrom_205 ok l0 l1 l2 l3 l4 l5 l6 l8 l9 q4.2 h hK)
      · refine j_if_ne (tgt := 123) ok dX0_findMovesFrom_117 (by decide) (fun _ => ?_) (fun z => absurd z c5)
        exact J.sub [1, 2, 3, 4, 5, 6, 7, 8, 9, 10, 0] rfl (jX0_findMovesFrom_123 ok l0 l1 l2 l3 l4 l5 l6 l8 l9 l10 s0 q4.2 h hK)
  · refine j_if_ne (tgt := 123) ok dX0_findMovesFrom_99 (by decide) (fun _ => ?_) (fun z => absurd z c1)
    exact J.sub [1, 2, 3, 4, 5, 6, 7, 8, 9, 10, 0] rfl (jX0_findMovesFrom_123 ok l0 l1 l2 l3 l4 l5 l6 l8 l9 l10 s0 G h hK)

def fX0_findMovesFrom_42 (l0 : Nat) (l1 : Int32) (l2 : Int32) (l3 : Nat) (l4 : Int32) (l5 : Int32) (l6 : Int64) (l8 : Int32) (l9 : Int32)  (G : Mem) : Option (((Int32) ⊕ ((Int32) ⊕ Unit)) × Mem) :=
  (gF G 10 l0 0).bind fun v1 =>
  if v1 ≤ l9 then
    liftE (fX0_findMovesFrom_211 l0 l1 l2 l3 l4 l5 l6 l8 G)
  else
    ck G 10 l0 <| (fX0_placeOf l0 l9 l8 G).bind fun q3 =>
    (fX0_bitOf q3.1 q3.2).bind fun q4 =>
    if (lg_cmp (l6 &&& q4.1) (0 : Int64)) = (0 : Int32) then
      fX0_findMovesFrom_205 l0 l1 l2 l3 l4 l5 l6 l8 l9 q4.2
    else
      ck q4.2 10 l0 <| (fX0_on l0 q3.1 q4.2).bind fun q6 =>
      if q6.1 = (0 : Int32) then
        fX0_findMovesFrom_95 l0 l1 l2 l3 l4 l5 l6 l8 l9 q3.1 q6.1 (1 : Int32) q6.2
      else
        fX0_findMovesFrom_95 l0 l1 l2 l3 l4 l5 l6 l8 l9 q3.1 q6.1 (0 : Int32) q6.2

set_option maxRecDepth 100000 in
set_option maxHeartbeats 4000000 in
theorem jX0_findMovesFrom_42 {X : Cx} (ok : OK X cX0_findMovesFrom RX0 none 13 3 76) (l0 : Nat) (l1 : Int32) (l2 : Int32) (l3 : Nat) (l4 : Int32) (l5 : Int32) (l6 : Int64) (l8 : Int32) (l9 : Int32)  (G : Mem) {r : ((Int32) ⊕ ((Int32) ⊕ Unit))} {G' : Mem} (h : fX0_findMovesFrom_42 l0 l1 l2 l3 l4 l5 l6 l8 l9 G = some (r, G')) (hK : (finL X 13 42 (fun s : Int32 => [(0, .ref (X.B + l0)), (1, .int l1), (2, .int l2), (3, .ref (X.B + l3)), (4, .int l4), (5, .int l5), (6, .long l6), (8, .int l8), (9, .int s)]) (finL X 13 30 (fun s : Int32 => [(0, .ref (X.B + l0)), (1, .int l1), (2, .int l2), (3, .ref (X.B + l3)), (4, .int l4), (5, .int l5), (6, .long l6), (8, .int s)]) (finV X))) r G') : J X 13 42 [(0, .ref (X.B + l0)), (1, .int l1), (2, .int l2), (3, .ref (X.B + l3)), (4, .int l4), (5, .int l5), (6, .long l6), (8, .int l8), (9, .int l9)] [] G := by
  unfold fX0_findMovesFrom_42 at h
  refine j_iload ok dX0_findMovesFrom_42 8 rfl ?_
  refine j_aload_n ok dX0_findMovesFrom_44 rfl 0 rfl ?_
  obtain ⟨v1, hv1, h⟩ := obind h
  refine k_getI ok fl_X0_9 hv1 dX0_findMovesFrom_45 ?_
  rcases ite_some h with ⟨c2, h⟩ | ⟨c2, h⟩
  · refine j_icmp_ge (tgt := 211) ok dX0_findMovesFrom_48 (by decide) (fun _ => ?_) (fun z => absurd c2 z)
    obtain ⟨r1, e1, h1⟩ := lift_some h
    subst e1
    exact J.sub [0, 1, 2, 3, 4, 5, 6, 7] rfl (jX0_findMovesFrom_211 ok l0 l1 l2 l3 l4 l5 l6 l8 G h1 hK)
  · refine j_icmp_ge (tgt := 211) ok dX0_findMovesFrom_48 (by decide) (fun z => absurd z c2) (fun _ => ?_)
    refine j_aload_n ok dX0_findMovesFrom_51 rfl 0 rfl ?_
    refine j_iload ok dX0_findMovesFrom_52 8 rfl ?_
    refine j_iload ok dX0_findMovesFrom_54 7 rfl ?_
    obtain ⟨kq3, h⟩ := ck_some h
    obtain ⟨q3, hq3, h⟩ := obind h
    refine k_V1 ok kl_X0_44 ⟨Nat.le_of_ble_eq_true rfl, Nat.le_of_ble_eq_true rfl⟩ [.int l9, .int l8] kq3 rfl rfl (Nat.le_of_ble_eq_true rfl) (tX0_placeOf ok.fl X.V l0 l9 l8 G hq3) dX0_findMovesFrom_56 ?_
    refine j_istore (L' := [(10, .int q3.1), (0, .ref (X.B + l0)), (1, .int l1), (2, .int l2), (3, .ref (X.B + l3)), (4, .int l4), (5, .int l5), (6, .long l6), (8, .int l8), (9, .int l9)]) ok dX0_findMovesFrom_59 (by decide) rfl ?_
    refine j_lload ok dX0_findMovesFrom_61 7 rfl ?_
    refine j_iload ok dX0_findMovesFrom_63 0 rfl ?_
    obtain ⟨q4, hq4, h⟩ := obind h
    refine k_S1 ok kl_X0_85 ⟨Nat.le_of_ble_eq_true rfl, Nat.le_of_ble_eq_true rfl⟩ [.int q3.1] rfl rfl (Nat.le_of_ble_eq_true rfl) (tX0_bitOf ok.fl X.V q3.1 q3.2 hq4) dX0_findMovesFrom_65 ?_
    refine j_land ok dX0_findMovesFrom_68 ?_
    refine j_lconst (v := 0) ok dX0_findMovesFrom_69 (by decide) ?_
    refine j_lcmp ok dX0_findMovesFrom_70 ?_
    rcases ite_some h with ⟨c5, h⟩ | ⟨c5, h⟩
    · refine j_if_ne (tgt := 77) ok dX0_findMovesFrom_71 (by decide) (fun z => absurd c5 z) (fun _ => ?_)
      refine j_goto (tgt := 205) ok dX0_findMovesFrom_74 (by decide) ?_
      exact J.sub [1, 2, 3, 4, 5, 6, 7, 8, 9] rfl (jX0_findMovesFrom_205 ok l0 l1 l2 l3 l4 l5 l6 l8 l9 q4.2 h hK)
    · refine j_if_ne (tgt := 77) ok dX0_findMovesFrom_71 (by decide) (fun _ => ?_) (fun z => absurd z c5)
      refine j_aload_n ok dX0_findMovesFrom_77 rfl 1 rfl ?_
      refine j_iload ok dX0_findMovesFrom_78 0 rfl ?_
      obtain ⟨kq6, h⟩ := ck_some h
      obtain ⟨q6, hq6, h⟩ := obind h
      refine k_V1 ok kl_X0_48 ⟨Nat.le_of_ble_eq_true rfl, Nat.le_of_ble_eq_true rfl⟩ [.int q3.1] kq6 rfl rfl (Nat.le_of_ble_eq_true rfl) (tX0_on ok.fl X.V l0 q3.1 q4.2 hq6) dX0_findMovesFrom_80 ?_
      refine j_istore (L' := [(11, .int q6.1), (10, .int q3.1), (0, .ref (X.B + l0)), (1, .int l1), (2, .int l2), (3, .ref (X.B + l3)), (4, .int l4), (5, .int l5), (6, .long l6), (8, .int l8), (9, .int l9)]) ok dX0_findMovesFrom_83 (by decide) rfl ?_
      refine j_iload ok dX0_findMovesFrom_85 0 rfl ?_
      rcases ite_some h with ⟨c7, h⟩ | ⟨c7, h⟩
      · refine j_if_ne (tgt := 94) ok dX0_findMovesFrom_87 (by decide) (fun z => absurd c7 z) (fun _ => ?_)
        refine j_iconst (v := 1) ok dX0_findMovesFrom_90 (by decide) ?_
        refine j_goto (tgt := 95) ok dX0_findMovesFrom_91 (by decide) ?_
        exact J.sub [2, 3, 4, 5, 6, 7, 8, 9, 10, 1, 0] rfl (jX0_findMovesFrom_95 ok l0 l1 l2 l3 l4 l5 l6 l8 l9 q3.1 q6.1 (1 : Int32) q6.2 h hK)
      · refine j_if_ne (tgt := 94) ok dX0_findMovesFrom_87 (by decide) (fun _ => ?_) (fun z => absurd z c7)
        refine j_iconst (v := 0) ok dX0_findMovesFrom_94 (by decide) ?_
        exact J.sub [2, 3, 4, 5, 6, 7, 8, 9, 10, 1, 0] rfl (jX0_findMovesFrom_95 ok l0 l1 l2 l3 l4 l5 l6 l8 l9 q3.1 q6.1 (0 : Int32) q6.2 h hK)

def fX0_findMovesFrom_30 (l0 : Nat) (l1 : Int32) (l2 : Int32) (l3 : Nat) (l4 : Int32) (l5 : Int32) (l6 : Int64) (l8 : Int32)  (G : Mem) : Option (((Int32) ⊕ Unit) × Mem) :=
  (gF G 10 l0 1).bind fun v1 =>
  if v1 ≤ l8 then
    liftE (fX0_findMovesFrom_217 G)
  else
    loopM (fun (s : Int32) G => fX0_findMovesFrom_42 l0 l1 l2 l3 l4 l5 l6 l8 s G) FU ((0 : Int32)) G

set_option maxRecDepth 100000 in
set_option maxHeartbeats 4000000 in
theorem jX0_findMovesFrom_30 {X : Cx} (ok : OK X cX0_findMovesFrom RX0 none 13 3 76) (l0 : Nat) (l1 : Int32) (l2 : Int32) (l3 : Nat) (l4 : Int32) (l5 : Int32) (l6 : Int64) (l8 : Int32)  (G : Mem) {r : ((Int32) ⊕ Unit)} {G' : Mem} (h : fX0_findMovesFrom_30 l0 l1 l2 l3 l4 l5 l6 l8 G = some (r, G')) (hK : (finL X 13 30 (fun s : Int32 => [(0, .ref (X.B + l0)), (1, .int l1), (2, .int l2), (3, .ref (X.B + l3)), (4, .int l4), (5, .int l5), (6, .long l6), (8, .int s)]) (finV X)) r G') : J X 13 30 [(0, .ref (X.B + l0)), (1, .int l1), (2, .int l2), (3, .ref (X.B + l3)), (4, .int l4), (5, .int l5), (6, .long l6), (8, .int l8)] [] G := by
  unfold fX0_findMovesFrom_30 at h
  refine j_iload ok dX0_findMovesFrom_30 7 rfl ?_
  refine j_aload_n ok dX0_findMovesFrom_32 rfl 0 rfl ?_
  obtain ⟨v1, hv1, h⟩ := obind h
  refine k_getI ok fl_X0_15 hv1 dX0_findMovesFrom_33 ?_
  rcases ite_some h with ⟨c2, h⟩ | ⟨c2, h⟩
  · refine j_icmp_ge (tgt := 217) ok dX0_findMovesFrom_36 (by decide) (fun _ => ?_) (fun z => absurd c2 z)
    obtain ⟨r1, e1, h1⟩ := lift_some h
    subst e1
    exact J.sub [] rfl (jX0_findMovesFrom_217 ok G h1 hK)
  · refine j_icmp_ge (tgt := 217) ok dX0_findMovesFrom_36 (by decide) (fun z => absurd z c2) (fun _ => ?_)
    refine j_iconst (v := 0) ok dX0_findMovesFrom_39 (by decide) ?_
    refine j_istore (L' := [(9, .int (0 : Int32)), (0, .ref (X.B + l0)), (1, .int l1), (2, .int l2), (3, .ref (X.B + l3)), (4, .int l4), (5, .int l5), (6, .long l6), (8, .int l8)]) ok dX0_findMovesFrom_40 (by decide) rfl ?_
    have hJ : J X 13 42 [(0, .ref (X.B + l0)), (1, .int l1), (2, .int l2), (3, .ref (X.B + l3)), (4, .int l4), (5, .int l5), (6, .long l6), (8, .int l8), (9, .int (0 : Int32))] [] G := j_loop (loc := fun s : Int32 => [(0, .ref (X.B + l0)), (1, .int l1), (2, .int l2), (3, .ref (X.B + l3)), (4, .int l4), (5, .int l5), (6, .long l6), (8, .int l8), (9, .int s)]) (F := (finL X 13 30 (fun s : Int32 => [(0, .ref (X.B + l0)), (1, .int l1), (2, .int l2), (3, .ref (X.B + l3)), (4, .int l4), (5, .int l5), (6, .long l6), (8, .int s)]) (finV X))) (fun s G r G' hb hk => jX0_findMovesFrom_42 ok l0 l1 l2 l3 l4 l5 l6 l8 s G hb hk) _ _ _ _ _ h hK
    exact J.sub [1, 2, 3, 4, 5, 6, 7, 8, 0] rfl hJ

def fX0_findMovesFrom_0 (l0 : Nat) (l1 : Int32) (l2 : Int32) (l3 : Nat)  (G : Mem) : Option (Unit × Mem) :=
  ck G 10 l0 <| (fX0_placeOf l0 l1 l2 G).bind fun q1 =>
  ck q1.2 10 l0 <| (fX0_on l0 q1.1 q1.2).bind fun q2 =>
  (fX6_colourOf q2.1 q2.2).bind fun q3 =>
  ck q3.2 10 l0 <| (fX0_rangeOf l0 q1.1 q3.2).bind fun q4 =>
  loopM (fun (s : Int32) G => fX0_findMovesFrom_30 l0 l1 l2 l3 q1.1 q3.1 q4.1 s G) FU ((0 : Int32)) q4.2

set_option maxRecDepth 100000 in
set_option maxHeartbeats 4000000 in
theorem jX0_findMovesFrom_0 {X : Cx} (ok : OK X cX0_findMovesFrom RX0 none 13 3 76) (l0 : Nat) (l1 : Int32) (l2 : Int32) (l3 : Nat)  (G : Mem) {r : Unit} {G' : Mem} (h : fX0_findMovesFrom_0 l0 l1 l2 l3 G = some (r, G')) (hK : (finV X) r G') : J X 13 0 [(0, .ref (X.B + l0)), (1, .int l1), (2, .int l2), (3, .ref (X.B + l3))] [] G := by
  unfold fX0_findMovesFrom_0 at h
  refine j_aload_n ok dX0_findMovesFrom_0 rfl 0 rfl ?_
  refine j_iload_n ok dX0_findMovesFrom_1 rfl 1 rfl ?_
  refine j_iload_n ok dX0_findMovesFrom_2 rfl 2 rfl ?_
  obtain ⟨kq1, h⟩ := ck_some h
  obtain ⟨q1, hq1, h⟩ := obind h
  refine k_V1 ok kl_X0_44 ⟨Nat.le_of_ble_eq_true rfl, Nat.le_of_ble_eq_true rfl⟩ [.int l1, .int l2] kq1 rfl rfl (Nat.le_of_ble_eq_true rfl) (tX0_placeOf ok.fl X.V l0 l1 l2 G hq1) dX0_findMovesFrom_3 ?_
  refine j_istore (L' := [(4, .int q1.1), (0, .ref (X.B + l0)), (1, .int l1), (2, .int l2), (3, .ref (X.B + l3))]) ok dX0_findMovesFrom_6 (by decide) rfl ?_
  refine j_aload_n ok dX0_findMovesFrom_8 rfl 1 rfl ?_
  refine j_iload ok dX0_findMovesFrom_9 0 rfl ?_
  obtain ⟨kq2, h⟩ := ck_some h
  obtain ⟨q2, hq2, h⟩ := obind h
  refine k_V1 ok kl_X0_48 ⟨Nat.le_of_ble_eq_true rfl, Nat.le_of_ble_eq_true rfl⟩ [.int q1.1] kq2 rfl rfl (Nat.le_of_ble_eq_true rfl) (tX0_on ok.fl X.V l0 q1.1 q1.2 hq2) dX0_findMovesFrom_11 ?_
  obtain ⟨q3, hq3, h⟩ := obind h
  refine k_N1 ok kl_X0_65 ⟨Nat.le_of_ble_eq_true rfl, Nat.le_of_ble_eq_true rfl⟩ [.int q2.1] rfl rfl (Nat.le_of_ble_eq_true rfl) (tX6_colourOf ok.fl X.V q2.1 q2.2 hq3) dX0_findMovesFrom_14 ?_
  refine j_istore (L' := [(5, .int q3.1), (4, .int q1.1), (0, .ref (X.B + l0)), (1, .int l1), (2, .int l2), (3, .ref (X.B + l3))]) ok dX0_findMovesFrom_17 (by decide) rfl ?_
  refine j_aload_n ok dX0_findMovesFrom_19 rfl 2 rfl ?_
  refine j_iload ok dX0_findMovesFrom_20 1 rfl ?_
  obtain ⟨kq4, h⟩ := ck_some h
  obtain ⟨q4, hq4, h⟩ := obind h
  refine k_V1 ok kl_X0_81 ⟨Nat.le_of_ble_eq_true rfl, Nat.le_of_ble_eq_true rfl⟩ [.int q1.1] kq4 rfl rfl (Nat.le_of_ble_eq_true rfl) (tX0_rangeOf ok.fl X.V l0 q1.1 q3.2 hq4) dX0_findMovesFrom_22 ?_
  refine j_lstore (L' := [(6, .long q4.1), (5, .int q3.1), (4, .int q1.1), (0, .ref (X.B + l0)), (1, .int l1), (2, .int l2), (3, .ref (X.B + l3))]) ok dX0_findMovesFrom_25 (by decide) rfl ?_
  refine j_iconst (v := 0) ok dX0_findMovesFrom_27 (by decide) ?_
  refine j_istore (L' := [(8, .int (0 : Int32)), (6, .long q4.1), (5, .int q3.1), (4, .int q1.1), (0, .ref (X.B + l0)), (1, .int l1), (2, .int l2), (3, .ref (X.B + l3))]) ok dX0_findMovesFrom_28 (by decide) rfl ?_
  have hJ : J X 13 30 [(0, .ref (X.B + l0)), (1, .int l1), (2, .int l2), (3, .ref (X.B + l3)), (4, .int q1.1), (5, .int q3.1), (6, .long q4.1), (8, .int (0 : Int32))] [] q4.2 := j_loop (loc := fun s : Int32 => [(0, .ref (X.B + l0)), (1, .int l1), (2, .int l2), (3, .ref (X.B + l3)), (4, .int q1.1), (5, .int q3.1), (6, .long q4.1), (8, .int s)]) (F := (finV X)) (fun s G r G' hb hk => jX0_findMovesFrom_30 ok l0 l1 l2 l3 q1.1 q3.1 q4.1 s G hb hk) _ _ _ _ _ h hK
  exact J.sub [4, 5, 6, 7, 3, 2, 1, 0] rfl hJ

def fX0_findMovesFrom (l0 : Nat) (l1 : Int32) (l2 : Int32) (l3 : Nat) (G : Mem) : Option (Unit × Mem) := fX0_findMovesFrom_0 l0 l1 l2 l3 G
set_option maxRecDepth 100000 in
theorem tX0_findMovesFrom {l : Launch} (hfl : l.stackTraces = false) (V : Wd) (l0 : Nat) (l1 : Int32) (l2 : Int32) (l3 : Nat) (G : Mem) {r : Unit} {G' : Mem} (h : fX0_findMovesFrom l0 l1 l2 l3 G = some (r, G')) : Mx l yX0_findMovesFrom cX0_findMovesFrom 13 none 3 76 V [.ref (V.B + l0), .int l1, .int l2, .ref (V.B + l3)] G (.inl none) G' :=
  mx_of (L := [(0, .ref (V.B + l0)), (1, .int l1), (2, .int l2), (3, .ref (V.B + l3))]) hfl (by decide +kernel) (Nat.le_of_ble_eq_true rfl) rfl (fun X hl hV hin ok he => by
    subst hl; subst hV
    exact J.sub [0, 1, 2, 3] rfl (jX0_findMovesFrom_0 ok l0 l1 l2 l3 G h he))
def fX0_findMoves_80 (l0 : Nat)  (G : Mem) : Option (Int32 × Mem) :=
  (gF G 10 l0 3).bind fun v1 =>
  some (v1, G)

set_option maxRecDepth 100000 in
set_option maxHeartbeats 4000000 in
theorem jX0_findMoves_80 {X : Cx} (ok : OK X cX0_findMoves RX0 (some .int) 6 4 108) (l0 : Nat)  (G : Mem) {r : Int32} {G' : Mem} (h : fX0_findMoves_80 l0 G = some (r, G')) (hK : (finI X) r G') : J X 6 80 [(0, .ref (X.B + l0))] [] G := by
  unfold fX0_findMoves_80 at h
  refine j_aload_n ok dX0_findMoves_80 rfl 0 rfl ?_
  obtain ⟨v1, hv1, h⟩ := obind h
  refine k_getI ok fl_X0_22 hv1 dX0_findMoves_81 ?_
  obtain ⟨er, eG⟩ := inj2 h
  subst er; subst eG
  exact j_iret ok rfl dX0_findMoves_84 hK

def fX0_findMoves_74 (l0 : Nat) (l1 : Nat) (l2 : Int32) (l3 : Int32)  (G : Mem) : Option (((Int32) ⊕ Int32) × Mem) :=
  some (.inl ((l3 + (1 : Int32))), G)

set_option maxRecDepth 100000 in
set_option maxHeartbeats 4000000 in
theorem jX0_findMoves_74 {X : Cx} (ok : OK X cX0_findMoves RX0 (some .int) 6 4 108) (l0 : Nat) (l1 : Nat) (l2 : Int32) (l3 : Int32)  (G : Mem) {r : ((Int32) ⊕ Int32)} {G' : Mem} (h : fX0_findMoves_74 l0 l1 l2 l3 G = some (r, G')) (hK : (finL X 6 7 (fun s : Int32 => [(0, .ref (X.B + l0)), (1, .ref (X.B + l1)), (2, .int l2), (3, .int s)]) (finI X)) r G') : J X 6 74 [(0, .ref (X.B + l0)), (1, .ref (X.B + l1)), (2, .int l2), (3, .int l3)] [] G := by
  unfold fX0_findMoves_74 at h
  refine j_iinc (L' := [(3, .int (l3 + (1 : Int32))), (0, .ref (X.B + l0)), (1, .ref (X.B + l1)), (2, .int l2)]) (v := (l3 + (1 : Int32))) ok dX0_findMoves_74 (q := 3) rfl rfl (by decide) rfl ?_
  refine j_goto (tgt := 7) ok dX0_findMoves_77 (by decide) ?_
  obtain ⟨er, eG⟩ := inj2 h
  subst er; subst eG
  have hJ : J X 6 7 [(0, .ref (X.B + l0)), (1, .ref (X.B + l1)), (2, .int l2), (3, .int (l3 + (1 : Int32)))] [] G := hK
  exact J.sub [1, 2, 3, 0] rfl hJ

def fX0_findMoves_68 (l0 : Nat) (l1 : Nat) (l2 : Int32) (l3 : Int32) (l4 : Int32)  (G : Mem) : Option (((Int32) ⊕ ((Int32) ⊕ Int32)) × Mem) :=
  some (.inl ((l4 + (1 : Int32))), G)

set_option maxRecDepth 100000 in
set_option maxHeartbeats 4000000 in
theorem jX0_findMoves_68 {X : Cx} (ok : OK X cX0_findMoves RX0 (some .int) 6 4 108) (l0 : Nat) (l1 : Nat) (l2 : Int32) (l3 : Int32) (l4 : Int32)  (G : Mem) {r : ((Int32) ⊕ ((Int32) ⊕ Int32))} {G' : Mem} (h : fX0_findMoves_68 l0 l1 l2 l3 l4 G = some (r, G')) (hK : (finL X 6 18 (fun s : Int32 => [(0, .ref (X.B + l0)), (1, .ref (X.B + l1)), (2, .int l2), (3, .int l3), (4, .int s)]) (finL X 6 7 (fun s : Int32 => [(0, .ref (X.B + l0)), (1, .ref (X.B + l1)), (2, .int l2), (3, .int s)]) (finI X))) r G') : J X 6 68 [(0, .ref (X.B + l0)), (1, .ref (X.B + l1)), (2, .int l2), (3, .int l3), (4, .int l4)] [] G := by
  unfold fX0_findMoves_68 at h
  refine j_iinc (L' := [(4, .int (l4 + (1 : Int32))), (0, .ref (X.B + l0)), (1, .ref (X.B + l1)), (2, .int l2), (3, .int l3)]) (v := (l4 + (1 : Int32))) ok dX0_findMoves_68 (q := 4) rfl rfl (by decide) rfl ?_
  refine j_goto (tgt := 18) ok dX0_findMoves_71 (by decide) ?_
  obtain ⟨er, eG⟩ := inj2 h
  subst er; subst eG
  have hJ : J X 6 18 [(0, .ref (X.B + l0)), (1, .ref (X.B + l1)), (2, .int l2), (3, .int l3), (4, .int (l4 + (1 : Int32)))] [] G := hK
  exact J.sub [1, 2, 3, 4, 0] rfl hJ

def fX0_findMoves_18 (l0 : Nat) (l1 : Nat) (l2 : Int32) (l3 : Int32) (l4 : Int32)  (G : Mem) : Option (((Int32) ⊕ ((Int32) ⊕ Int32)) × Mem) :=
  (gF G 10 l0 0).bind fun v1 =>
  if v1 ≤ l4 then
    liftE (fX0_findMoves_74 l0 l1 l2 l3 G)
  else
    ck G 10 l0 <| (fX0_at l0 l4 l3 G).bind fun q3 =>
    (fX6_colourOf q3.1 q3.2).bind fun q4 =>
    if q4.1 = l2 then
      (fX6_kindOf q3.1 q4.2).bind fun q6 =>
      ck q6.2 11 l1 <| (fX1_allowsOrigin l1 q6.1 l4 l3 q6.2).bind fun q7 =>
      if q7.1 = (0 : Int32) then
        fX0_findMoves_68 l0 l1 l2 l3 l4 q7.2
      else
        ck q7.2 10 l0 <| (fX0_findMovesFrom l0 l4 l3 l1 q7.2).bind fun q9 =>
        fX0_findMoves_68 l0 l1 l2 l3 l4 q9.2
    else
      fX0_findMoves_68 l0 l1 l2 l3 l4 q4.2

set_option maxRecDepth 100000 in
set_option maxHeartbeats 4000000 in
theorem jX0_findMoves_18 {X : Cx} (ok : OK X cX0_findMoves RX0 (some .int) 6 4 108) (l0 : Nat) (l1 : Nat) (l2 : Int32) (l3 : Int32) (l4 : Int32)  (G : Mem) {r : ((Int32) ⊕ ((Int32) ⊕ Int32))} {G' : Mem} (h : fX0_findMoves_18 l0 l1 l2 l3 l4 G = some (r, G')) (hK : (finL X 6 18 (fun s : Int32 => [(0, .ref (X.B + l0)), (1, .ref (X.B + l1)), (2, .int l2), (3, .int l3), (4, .int s)]) (finL X 6 7 (fun s : Int32 => [(0, .ref (X.B + l0)), (1, .ref (X.B + l1)), (2, .int l2), (3, .int s)]) (finI X))) r G') : J X 6 18 [(0, .ref (X.B + l0)), (1, .ref (X.B + l1)), (2, .int l2), (3, .int l3), (4, .int l4)] [] G := by
  unfold fX0_findMoves_18 at h
  refine j_iload ok dX0_findMoves_18 4 rfl ?_
  refine j_aload_n ok dX0_findMoves_20 rfl 0 rfl ?_
  obtain ⟨v1, hv1, h⟩ := obind h
  refine k_getI ok fl_X0_9 hv1 dX0_findMoves_21 ?_
  rcases ite_some h with ⟨c2, h⟩ | ⟨c2, h⟩
  · refine j_icmp_ge (tgt := 74) ok dX0_findMoves_24 (by decide) (fun _ => ?_) (fun z => absurd c2 z)
    obtain ⟨r1, e1, h1⟩ := lift_some h
    subst e1
    exact J.sub [0, 1, 2, 3] rfl (jX0_findMoves_74 ok l0 l1 l2 l3 G h1 hK)
  · refine j_icmp_ge (tgt := 74) ok dX0_findMoves_24 (by decide) (fun z => absurd z c2) (fun _ => ?_)
    refine j_aload_n ok dX0_findMoves_27 rfl 0 rfl ?_
    refine j_iload ok dX0_findMoves_28 4 rfl ?_
    refine j_iload_n ok dX0_findMoves_30 rfl 3 rfl ?_
    obtain ⟨kq3, h⟩ := ck_some h
    obtain ⟨q3, hq3, h⟩ := obind h
    refine k_V1 ok kl_X0_62 ⟨Nat.le_of_ble_eq_true rfl, Nat.le_of_ble_eq_true rfl⟩ [.int l4, .int l3] kq3 rfl rfl (Nat.le_of_ble_eq_true rfl) (tX0_at ok.fl X.V l0 l4 l3 G hq3) dX0_findMoves_31 ?_
    refine j_istore (L' := [(5, .int q3.1), (0, .ref (X.B + l0)), (1, .ref (X.B + l1)), (2, .int l2), (3, .int l3), (4, .int l4)]) ok dX0_findMoves_34 (by decide) rfl ?_
    refine j_iload ok dX0_findMoves_36 0 rfl ?_
    obtain ⟨q4, hq4, h⟩ := obind h
    refine k_N1 ok kl_X0_65 ⟨Nat.le_of_ble_eq_true rfl, Nat.le_of_ble_eq_true rfl⟩ [.int q3.1] rfl rfl (Nat.le_of_ble_eq_true rfl) (tX6_colourOf ok.fl X.V q3.1 q3.2 hq4) dX0_findMoves_38 ?_
    refine j_iload_n ok dX0_findMoves_41 rfl 3 rfl ?_
    rcases ite_some h with ⟨c5, h⟩ | ⟨c5, h⟩
    · refine j_icmp_ne (tgt := 68) ok dX0_findMoves_42 (by decide) (fun z => absurd c5 z) (fun _ => ?_)
      refine j_aload_n ok dX0_findMoves_45 rfl 2 rfl ?_
      refine j_iload ok dX0_findMoves_46 0 rfl ?_
      obtain ⟨q6, hq6, h⟩ := obind h
      refine k_N1 ok kl_X0_68 ⟨Nat.le_of_ble_eq_true rfl, Nat.le_of_ble_eq_true rfl⟩ [.int q3.1] rfl rfl (Nat.le_of_ble_eq_true rfl) (tX6_kindOf ok.fl X.V q3.1 q4.2 hq6) dX0_findMoves_48 ?_
      refine j_iload ok dX0_findMoves_51 5 rfl ?_
      refine j_iload_n ok dX0_findMoves_53 rfl 4 rfl ?_
      obtain ⟨kq7, h⟩ := ck_some h
      obtain ⟨q7, hq7, h⟩ := obind h
      refine k_V1 ok kl_X0_71 ⟨Nat.le_of_ble_eq_true rfl, Nat.le_of_ble_eq_true rfl⟩ [.int q6.1, .int l4, .int l3] kq7 rfl rfl (Nat.le_of_ble_eq_true rfl) (tX1_allowsOrigin ok.fl X.V l1 q6.1 l4 l3 q6.2 hq7) dX0_findMoves_54 ?_
      rcases ite_some h with ⟨c8, h⟩ | ⟨c8, h⟩
      · refine j_if_eq (tgt := 68) ok dX0_findMoves_57 (by decide) (fun _ => ?_) (fun z => absurd c8 z)
        exact J.sub [1, 2, 3, 4, 5] rfl (jX0_findMoves_68 ok l0 l1 l2 l3 l4 q7.2 h hK)
      · refine j_if_eq (tgt := 68) ok dX0_findMoves_57 (by decide) (fun z => absurd z c8) (fun _ => ?_)
        refine j_aload_n ok dX0_findMoves_60 rfl 1 rfl ?_
        refine j_iload ok dX0_findMoves_61 5 rfl ?_
        refine j_iload_n ok dX0_findMoves_63 rfl 4 rfl ?_
        refine j_aload_n ok dX0_findMoves_64 rfl 2 rfl ?_
        obtain ⟨kq9, h⟩ := ck_some h
        obtain ⟨q9, hq9, h⟩ := obind h
        refine k_V0 ok kl_X0_77 ⟨Nat.le_of_ble_eq_true rfl, Nat.le_of_ble_eq_true rfl⟩ [.int l4, .int l3, .ref (X.B + l1)] kq9 rfl rfl (Nat.le_of_ble_eq_true rfl) (tX0_findMovesFrom ok.fl X.V l0 l4 l3 l1 q7.2 hq9) dX0_findMoves_65 ?_
        exact J.sub [1, 2, 3, 4, 5] rfl (jX0_findMoves_68 ok l0 l1 l2 l3 l4 q9.2 h hK)
    · refine j_icmp_ne (tgt := 68) ok dX0_findMoves_42 (by decide) (fun _ => ?_) (fun z => absurd z c5)
      exact J.sub [1, 2, 3, 4, 5] rfl (jX0_findMoves_68 ok l0 l1 l2 l3 l4 q4.2 h hK)

def fX0_findMoves_7 (l0 : Nat) (l1 : Nat) (l2 : Int32) (l3 : Int32)  (G : Mem) : Option (((Int32) ⊕ Int32) × Mem) :=
  (gF G 10 l0 1).bind fun v1 =>
  if v1 ≤ l3 then
    liftE (fX0_findMoves_80 l0 G)
  else
    loopM (fun (s : Int32) G => fX0_findMoves_18 l0 l1 l2 l3 s G) FU ((0 : Int32)) G

set_option maxRecDepth 100000 in
set_option maxHeartbeats 4000000 in
theorem jX0_findMoves_7 {X : Cx} (ok : OK X cX0_findMoves RX0 (some .int) 6 4 108) (l0 : Nat) (l1 : Nat) (l2 : Int32) (l3 : Int32)  (G : Mem) {r : ((Int32) ⊕ Int32)} {G' : Mem} (h : fX0_findMoves_7 l0 l1 l2 l3 G = some (r, G')) (hK : (finL X 6 7 (fun s : Int32 => [(0, .ref (X.B + l0)), (1, .ref (X.B + l1)), (2, .int l2), (3, .int s)]) (finI X)) r G') : J X 6 7 [(0, .ref (X.B + l0)), (1, .ref (X.B + l1)), (2, .int l2), (3, .int l3)] [] G := by
  unfold fX0_findMoves_7 at h
  refine j_iload_n ok dX0_findMoves_7 rfl 3 rfl ?_
  refine j_aload_n ok dX0_findMoves_8 rfl 0 rfl ?_
  obtain ⟨v1, hv1, h⟩ := obind h
  refine k_getI ok fl_X0_15 hv1 dX0_findMoves_9 ?_
  rcases ite_some h with ⟨c2, h⟩ | ⟨c2, h⟩
  · refine j_icmp_ge (tgt := 80) ok dX0_findMoves_12 (by decide) (fun _ => ?_) (fun z => absurd c2 z)
    obtain ⟨r1, e1, h1⟩ := lift_some h
    subst e1
    exact J.sub [0] rfl (jX0_findMoves_80 ok l0 G h1 hK)
  · refine j_icmp_ge (tgt := 80) ok dX0_findMoves_12 (by decide) (fun z => absurd z c2) (fun _ => ?_)
    refine j_iconst (v := 0) ok dX0_findMoves_15 (by decide) ?_
    refine j_istore (L' := [(4, .int (0 : Int32)), (0, .ref (X.B + l0)), (1, .ref (X.B + l1)), (2, .int l2), (3, .int l3)]) ok dX0_findMoves_16 (by decide) rfl ?_
    have hJ : J X 6 18 [(0, .ref (X.B + l0)), (1, .ref (X.B + l1)), (2, .int l2), (3, .int l3), (4, .int (0 : Int32))] [] G := j_loop (loc := fun s : Int32 => [(0, .ref (X.B + l0)), (1, .ref (X.B + l1)), (2, .int l2), (3, .int l3), (4, .int s)]) (F := (finL X 6 7 (fun s : Int32 => [(0, .ref (X.B + l0)), (1, .ref (X.B + l1)), (2, .int l2), (3, .int s)]) (finI X))) (fun s G r G' hb hk => jX0_findMoves_18 ok l0 l1 l2 l3 s G hb hk) _ _ _ _ _ h hK
    exact J.sub [1, 2, 3, 4, 0] rfl hJ

def fX0_findMoves_0 (l0 : Nat) (l1 : Nat) (l2 : Int32)  (G : Mem) : Option (Int32 × Mem) :=
  (pI G 10 l0 3 (0 : Int32)).bind fun G1 =>
  loopM (fun (s : Int32) G => fX0_findMoves_7 l0 l1 l2 s G) FU ((0 : Int32)) G1

set_option maxRecDepth 100000 in
set_option maxHeartbeats 4000000 in
theorem jX0_findMoves_0 {X : Cx} (ok : OK X cX0_findMoves RX0 (some .int) 6 4 108) (l0 : Nat) (l1 : Nat) (l2 : Int32)  (G : Mem) {r : Int32} {G' : Mem} (h : fX0_findMoves_0 l0 l1 l2 G = some (r, G')) (hK : (finI X) r G') : J X 6 0 [(0, .ref (X.B + l0)), (1, .ref (X.B + l1)), (2, .int l2)] [] G := by
  unfold fX0_findMoves_0 at h
  refine j_aload_n ok dX0_findMoves_0 rfl 0 rfl ?_
  refine j_iconst (v := 0) ok dX0_findMoves_1 (by decide) ?_
  obtain ⟨G1, hG1, h⟩ := obind h
  refine k_putI ok fl_X0_22 fp_X0 rfl (Or.inl rfl) hG1 dX0_findMoves_2 ?_
  refine j_iconst (v := 0) ok dX0_findMoves_5 (by decide) ?_
  refine j_istore_n (L' := [(3, .int (0 : Int32)), (0, .ref (X.B + l0)), (1, .ref (X.B + l1)), (2, .int l2)]) ok dX0_findMoves_6 rfl (by decide) rfl ?_
  have hJ : J X 6 7 [(0, .ref (X.B + l0)), (1, .ref (X.B + l1)), (2, .int l2), (3, .int (0 : Int32))] [] G1 := j_loop (loc := fun s : Int32 => [(0, .ref (X.B + l0)), (1, .ref (X.B + l1)), (2, .int l2), (3, .int s)]) (F := (finI X)) (fun s G r G' hb hk => jX0_findMoves_7 ok l0 l1 l2 s G hb hk) _ _ _ _ _ h hK
  exact J.sub [1, 2, 3, 0] rfl hJ

def fX0_findMoves (l0 : Nat) (l1 : Nat) (l2 : Int32) (G : Mem) : Option (Int32 × Mem) := fX0_findMoves_0 l0 l1 l2 G
set_option maxRecDepth 100000 in
theorem tX0_findMoves {l : Launch} (hfl : l.stackTraces = false) (V : Wd) (l0 : Nat) (l1 : Nat) (l2 : Int32) (G : Mem) {r : Int32} {G' : Mem} (h : fX0_findMoves l0 l1 l2 G = some (r, G')) : Mx l yX0_findMoves cX0_findMoves 6 (some .int) 4 108 V [.ref (V.B + l0), .ref (V.B + l1), .int l2] G (.inl (some (.int r))) G' :=
  mx_of (L := [(0, .ref (V.B + l0)), (1, .ref (V.B + l1)), (2, .int l2)]) hfl (by decide +kernel) (Nat.le_of_ble_eq_true rfl) rfl (fun X hl hV hin ok he => by
    subst hl; subst hV
    exact J.sub [0, 1, 2] rfl (jX0_findMoves_0 ok l0 l1 l2 G h he))
def fX0_init_0 (l0 : Nat)  (G : Mem) : Option (Unit × Mem) :=
  (pI G 10 l0 0 (0 : Int32)).bind fun G1 =>
  (pI G1 10 l0 1 (0 : Int32)).bind fun G2 =>
  (nA G2 1 (315 : Int32)).bind fun q3 =>
  (pR q3.2 10 l0 2 q3.1).bind fun G4 =>
  (pI G4 10 l0 3 (0 : Int32)).bind fun G5 =>
  (nA G5 1 (88 : Int32)).bind fun q6 =>
  (pR q6.2 10 l0 4 q6.1).bind fun G7 =>
  (pI G7 10 l0 5 (18 : Int32)).bind fun G8 =>
  (pI G8 10 l0 6 (18 : Int32)).bind fun G9 =>
  some ((), G9)

set_option maxRecDepth 100000 in
set_option maxHeartbeats 4000000 in
theorem jX0_init_0 {X : Cx} (ok : OK X cX0_init RX0 none 1 1 120) (hin : X.meth.name = "<init>") (l0 : Nat)  (G : Mem) {r : Unit} {G' : Mem} (h : fX0_init_0 l0 G = some (r, G')) (hK : (finV X) r G') : J X 1 0 [(0, .ref (X.B + l0))] [] G := by
  unfold fX0_init_0 at h
  refine j_aload_n ok dX0_init_0 rfl 0 rfl ?_
  refine k_objI ok wm_X0_3 (Nat.le_of_ble_eq_true rfl) (Nat.le_of_ble_eq_true rfl) (Nat.le_of_ble_eq_true rfl) dX0_init_1 ?_
  refine j_aload_n ok dX0_init_4 rfl 0 rfl ?_
  refine j_iconst (v := 0) ok dX0_init_5 (by decide) ?_
  obtain ⟨G1, hG1, h⟩ := obind h
  refine k_putI ok fl_X0_9 fp_X0 rfl (Or.inl rfl) hG1 dX0_init_6 ?_
  refine j_aload_n ok dX0_init_9 rfl 0 rfl ?_
  refine j_iconst (v := 0) ok dX0_init_10 (by decide) ?_
  obtain ⟨G2, hG2, h⟩ := obind h
  refine k_putI ok fl_X0_15 fp_X0 rfl (Or.inl rfl) hG2 dX0_init_11 ?_
  refine j_aload_n ok dX0_init_14 rfl 0 rfl ?_
  refine j_sipush (v := 315) ok dX0_init_15 (by decide) ?_
  obtain ⟨q3, hq3, h⟩ := obind h
  refine k_newaT ok (t := 1) (Or.inl ⟨rfl, rfl⟩) wa_1 hq3 dX0_init_18 ?_
  obtain ⟨G4, hG4, h⟩ := obind h
  refine k_putR ok fl_X0_18 fp_X0 rfl (Or.inr ⟨_, rfl⟩) (Or.inr ⟨rfl, hin, rfl⟩) hG4 dX0_init_20 ?_
  refine j_aload_n ok dX0_init_23 rfl 0 rfl ?_
  refine j_iconst (v := 0) ok dX0_init_24 (by decide) ?_
  obtain ⟨G5, hG5, h⟩ := obind h
  refine k_putI ok fl_X0_22 fp_X0 rfl (Or.inl rfl) hG5 dX0_init_25 ?_
  refine j_aload_n ok dX0_init_28 rfl 0 rfl ?_
  refine j_bipush (v := 88) ok dX0_init_29 (by decide) ?_
  obtain ⟨q6, hq6, h⟩ := obind h
  refine k_newaT ok (t := 1) (Or.inl ⟨rfl, rfl⟩) wa_1 hq6 dX0_init_31 ?_
  obtain ⟨G7, hG7, h⟩ := obind h
  refine k_putR ok fl_X0_25 fp_X0 rfl (Or.inr ⟨_, rfl⟩) (Or.inr ⟨rfl, hin, rfl⟩) hG7 dX0_init_33 ?_
  refine j_aload_n ok dX0_init_36 rfl 0 rfl ?_
  refine j_bipush (v := 18) ok dX0_init_37 (by decide) ?_
  obtain ⟨G8, hG8, h⟩ := obind h
  refine k_putI ok fl_X0_28 fp_X0 rfl (Or.inl rfl) hG8 dX0_init_39 ?_
  refine j_aload_n ok dX0_init_42 rfl 0 rfl ?_
  refine j_bipush (v := 18) ok dX0_init_43 (by decide) ?_
  obtain ⟨G9, hG9, h⟩ := obind h
  refine k_putI ok fl_X0_31 fp_X0 rfl (Or.inl rfl) hG9 dX0_init_45 ?_
  obtain ⟨er, eG⟩ := inj2 h
  subst er; subst eG
  exact j_vret ok rfl dX0_init_48 hK

def fX0_init (l0 : Nat) (G : Mem) : Option (Unit × Mem) := fX0_init_0 l0 G
set_option maxRecDepth 100000 in
theorem tX0_init {l : Launch} (hfl : l.stackTraces = false) (V : Wd) (l0 : Nat) (G : Mem) {r : Unit} {G' : Mem} (h : fX0_init l0 G = some (r, G')) : Mx l yX0_init cX0_init 1 none 1 120 V [.ref (V.B + l0)] G (.inl none) G' :=
  mx_of (L := [(0, .ref (V.B + l0))]) hfl (by decide +kernel) (Nat.le_of_ble_eq_true rfl) rfl (fun X hl hV hin ok he => by
    subst hl; subst hV
    exact J.sub [0] rfl (jX0_init_0 ok (hin rfl) l0 G h he))
def fX0_put_41   (G : Mem) : Option (Unit × Mem) :=
  some ((), G)

set_option maxRecDepth 100000 in
set_option maxHeartbeats 4000000 in
theorem jX0_put_41 {X : Cx} (ok : OK X cX0_put RX0 none 5 1 22)   (G : Mem) {r : Unit} {G' : Mem} (h : fX0_put_41  G = some (r, G')) (hK : (finV X) r G') : J X 5 41 [] [] G := by
  unfold fX0_put_41 at h
  obtain ⟨er, eG⟩ := inj2 h
  subst er; subst eG
  exact j_vret ok rfl dX0_put_41 hK

def fX0_put_0 (l0 : Nat) (l1 : Int32) (l2 : Int32) (l3 : Int32)  (G : Mem) : Option (Unit × Mem) :=
  ck G 10 l0 <| (fX0_placeOf l0 l1 l2 G).bind fun q1 =>
  ck q1.2 10 l0 <| (fX0_set l0 q1.1 l3 q1.2).bind fun q2 =>
  if l3 = (1 : Int32) then
    (pI q2.2 10 l0 5 q1.1).bind fun G4 =>
    fX0_put_41 G4
  else
    if l3 = (9 : Int32) then
      (pI q2.2 10 l0 6 q1.1).bind fun G5 =>
      fX0_put_41 G5
    else
      fX0_put_41 q2.2

set_option maxRecDepth 100000 in
set_option maxHeartbeats 4000000 in
theorem jX0_put_0 {X : Cx} (ok : OK X cX0_put RX0 none 5 1 22) (l0 : Nat) (l1 : Int32) (l2 : Int32) (l3 : Int32)  (G : Mem) {r : Unit} {G' : Mem} (h : fX0_put_0 l0 l1 l2 l3 G = some (r, G')) (hK : (finV X) r G') : J X 5 0 [(0, .ref (X.B + l0)), (1, .int l1), (2, .int l2), (3, .int l3)] [] G := by
  unfold fX0_put_0 at h
  refine j_aload_n ok dX0_put_0 rfl 0 rfl ?_
  refine j_iload_n ok dX0_put_1 rfl 1 rfl ?_
  refine j_iload_n ok dX0_put_2 rfl 2 rfl ?_
  obtain ⟨kq1, h⟩ := ck_some h
  obtain ⟨q1, hq1, h⟩ := obind h
  refine k_V1 ok kl_X0_44 ⟨Nat.le_of_ble_eq_true rfl, Nat.le_of_ble_eq_true rfl⟩ [.int l1, .int l2] kq1 rfl rfl (Nat.le_of_ble_eq_true rfl) (tX0_placeOf ok.fl X.V l0 l1 l2 G hq1) dX0_put_3 ?_
  refine j_istore (L' := [(4, .int q1.1), (0, .ref (X.B + l0)), (1, .int l1), (2, .int l2), (3, .int l3)]) ok dX0_put_6 (by decide) rfl ?_
  refine j_aload_n ok dX0_put_8 rfl 1 rfl ?_
  refine j_iload ok dX0_put_9 0 rfl ?_
  refine j_iload_n ok dX0_put_11 rfl 4 rfl ?_
  obtain ⟨kq2, h⟩ := ck_some h
  obtain ⟨q2, hq2, h⟩ := obind h
  refine k_V0 ok kl_X0_52 ⟨Nat.le_of_ble_eq_true rfl, Nat.le_of_ble_eq_true rfl⟩ [.int q1.1, .int l3] kq2 rfl rfl (Nat.le_of_ble_eq_true rfl) (tX0_set ok.fl X.V l0 q1.1 l3 q1.2 hq2) dX0_put_12 ?_
  refine j_iload_n ok dX0_put_15 rfl 4 rfl ?_
  refine j_iconst (v := 1) ok dX0_put_16 (by decide) ?_
  rcases ite_some h with ⟨c3, h⟩ | ⟨c3, h⟩
  · refine j_icmp_ne (tgt := 29) ok dX0_put_17 (by decide) (fun z => absurd c3 z) (fun _ => ?_)
    refine j_aload_n ok dX0_put_20 rfl 1 rfl ?_
    refine j_iload ok dX0_put_21 0 rfl ?_
    obtain ⟨G4, hG4, h⟩ := obind h
    refine k_putI ok fl_X0_28 fp_X0 rfl (Or.inl rfl) hG4 dX0_put_23 ?_
    refine j_goto (tgt := 41) ok dX0_put_26 (by decide) ?_
    exact J.sub [] rfl (jX0_put_41 ok G4 h hK)
  · refine j_icmp_ne (tgt := 29) ok dX0_put_17 (by decide) (fun _ => ?_) (fun z => absurd z c3)
    refine j_iload_n ok dX0_put_29 rfl 4 rfl ?_
    refine j_bipush (v := 9) ok dX0_put_30 (by decide) ?_
    rcases ite_some h with ⟨c4, h⟩ | ⟨c4, h⟩
    · refine j_icmp_ne (tgt := 41) ok dX0_put_32 (by decide) (fun z => absurd c4 z) (fun _ => ?_)
      refine j_aload_n ok dX0_put_35 rfl 1 rfl ?_
      refine j_iload ok dX0_put_36 0 rfl ?_
      obtain ⟨G5, hG5, h⟩ := obind h
      refine k_putI ok fl_X0_31 fp_X0 rfl (Or.inl rfl) hG5 dX0_put_38 ?_
      exact J.sub [] rfl (jX0_put_41 ok G5 h hK)
    · refine j_icmp_ne (tgt := 41) ok dX0_put_32 (by decide) (fun _ => ?_) (fun z => absurd z c4)
      exact J.sub [] rfl (jX0_put_41 ok q2.2 h hK)

def fX0_put (l0 : Nat) (l1 : Int32) (l2 : Int32) (l3 : Int32) (G : Mem) : Option (Unit × Mem) := fX0_put_0 l0 l1 l2 l3 G
set_option maxRecDepth 100000 in
theorem tX0_put {l : Launch} (hfl : l.stackTraces = false) (V : Wd) (l0 : Nat) (l1 : Int32) (l2 : Int32) (l3 : Int32) (G : Mem) {r : Unit} {G' : Mem} (h : fX0_put l0 l1 l2 l3 G = some (r, G')) : Mx l yX0_put cX0_put 5 none 1 22 V [.ref (V.B + l0), .int l1, .int l2, .int l3] G (.inl none) G' :=
  mx_of (L := [(0, .ref (V.B + l0)), (1, .int l1), (2, .int l2), (3, .int l3)]) hfl (by decide +kernel) (Nat.le_of_ble_eq_true rfl) rfl (fun X hl hV hin ok he => by
    subst hl; subst hV
    exact J.sub [0, 1, 2, 3] rfl (jX0_put_0 ok l0 l1 l2 l3 G h he))
def fX0_resize_61   (G : Mem) : Option (Unit × Mem) :=
  some ((), G)

set_option maxRecDepth 100000 in
set_option maxHeartbeats 4000000 in
theorem jX0_resize_61 {X : Cx} (ok : OK X cX0_resize RX0 none 5 2 46)   (G : Mem) {r : Unit} {G' : Mem} (h : fX0_resize_61  G = some (r, G')) (hK : (finV X) r G') : J X 5 61 [] [] G := by
  unfold fX0_resize_61 at h
  obtain ⟨er, eG⟩ := inj2 h
  subst er; subst eG
  exact j_vret ok rfl dX0_resize_61 hK

def fX0_resize_55 (l0 : Nat) (l3 : Int32)  (G : Mem) : Option (((Int32) ⊕ Unit) × Mem) :=
  some (.inl ((l3 + (1 : Int32))), G)

set_option maxRecDepth 100000 in
set_option maxHeartbeats 4000000 in
theorem jX0_resize_55 {X : Cx} (ok : OK X cX0_resize RX0 none 5 2 46) (l0 : Nat) (l3 : Int32)  (G : Mem) {r : ((Int32) ⊕ Unit)} {G' : Mem} (h : fX0_resize_55 l0 l3 G = some (r, G')) (hK : (finL X 5 21 (fun s : Int32 => [(0, .ref (X.B + l0)), (3, .int s)]) (finV X)) r G') : J X 5 55 [(0, .ref (X.B + l0)), (3, .int l3)] [] G := by
  unfold fX0_resize_55 at h
  refine j_iinc (L' := [(3, .int (l3 + (1 : Int32))), (0, .ref (X.B + l0))]) (v := (l3 + (1 : Int32))) ok dX0_resize_55 (q := 1) rfl rfl (by decide) rfl ?_
  refine j_goto (tgt := 21) ok dX0_resize_58 (by decide) ?_
  obtain ⟨er, eG⟩ := inj2 h
  subst er; subst eG
  have hJ : J X 5 21 [(0, .ref (X.B + l0)), (3, .int (l3 + (1 : Int32)))] [] G := hK
  exact J.sub [1, 0] rfl hJ

def fX0_resize_32 (l0 : Nat) (l3 : Int32) (l4 : Int32)  (G : Mem) : Option (((Int32) ⊕ ((Int32) ⊕ Unit)) × Mem) :=
  (gF G 10 l0 0).bind fun v1 =>
  if v1 ≤ l4 then
    liftE (fX0_resize_55 l0 l3 G)
  else
    ck G 10 l0 <| (fX0_put l0 l4 l3 (0 : Int32) G).bind fun q3 =>
    some (.inl ((l4 + (1 : Int32))), q3.2)

set_option maxRecDepth 100000 in
set_option maxHeartbeats 4000000 in
theorem jX0_resize_32 {X : Cx} (ok : OK X cX0_resize RX0 none 5 2 46) (l0 : Nat) (l3 : Int32) (l4 : Int32)  (G : Mem) {r : ((Int32) ⊕ ((Int32) ⊕ Unit))} {G' : Mem} (h : fX0_resize_32 l0 l3 l4 G = some (r, G')) (hK : (finL X 5 32 (fun s : Int32 => [(0, .ref (X.B + l0)), (3, .int l3), (4, .int s)]) (finL X 5 21 (fun s : Int32 => [(0, .ref (X.B + l0)), (3, .int s)]) (finV X))) r G') : J X 5 32 [(0, .ref (X.B + l0)), (3, .int l3), (4, .int l4)] [] G := by
  unfold fX0_resize_32 at h
  refine j_iload ok dX0_resize_32 2 rfl ?_
  refine j_aload_n ok dX0_resize_34 rfl 0 rfl ?_
  obtain ⟨v1, hv1, h⟩ := obind h
  refine k_getI ok fl_X0_9 hv1 dX0_resize_35 ?_
  rcases ite_some h with ⟨c2, h⟩ | ⟨c2, h⟩
  · refine j_icmp_ge (tgt := 55) ok dX0_resize_38 (by decide) (fun _ => ?_) (fun z => absurd c2 z)
    obtain ⟨r1, e1, h1⟩ := lift_some h
    subst e1
    exact J.sub [0, 1] rfl (jX0_resize_55 ok l0 l3 G h1 hK)
  · refine j_icmp_ge (tgt := 55) ok dX0_resize_38 (by decide) (fun z => absurd z c2) (fun _ => ?_)
    refine j_aload_n ok dX0_resize_41 rfl 0 rfl ?_
    refine j_iload ok dX0_resize_42 2 rfl ?_
    refine j_iload_n ok dX0_resize_44 rfl 1 rfl ?_
    refine j_iconst (v := 0) ok dX0_resize_45 (by decide) ?_
    obtain ⟨kq3, h⟩ := ck_some h
    obtain ⟨q3, hq3, h⟩ := obind h
    refine k_V0 ok kl_X0_40 ⟨Nat.le_of_ble_eq_true rfl, Nat.le_of_ble_eq_true rfl⟩ [.int l4, .int l3, .int (0 : Int32)] kq3 rfl rfl (Nat.le_of_ble_eq_true rfl) (tX0_put ok.fl X.V l0 l4 l3 (0 : Int32) G hq3) dX0_resize_46 ?_
    refine j_iinc (L' := [(4, .int (l4 + (1 : Int32))), (0, .ref (X.B + l0)), (3, .int l3)]) (v := (l4 + (1 : Int32))) ok dX0_resize_49 (q := 2) rfl rfl (by decide) rfl ?_
    refine j_goto (tgt := 32) ok dX0_resize_52 (by decide) ?_
    obtain ⟨er, eG⟩ := inj2 h
    subst er; subst eG
    have hJ : J X 5 32 [(0, .ref (X.B + l0)), (3, .int l3), (4, .int (l4 + (1 : Int32)))] [] q3.2 := hK
    exact J.sub [1, 2, 0] rfl hJ

def fX0_resize_21 (l0 : Nat) (l3 : Int32)  (G : Mem) : Option (((Int32) ⊕ Unit) × Mem) :=
  (gF G 10 l0 1).bind fun v1 =>
  if v1 ≤ l3 then
    liftE (fX0_resize_61 G)
  else
    loopM (fun (s : Int32) G => fX0_resize_32 l0 l3 s G) FU ((0 : Int32)) G

set_option maxRecDepth 100000 in
set_option maxHeartbeats 4000000 in
theorem jX0_resize_21 {X : Cx} (ok : OK X cX0_resize RX0 none 5 2 46) (l0 : Nat) (l3 : Int32)  (G : Mem) {r : ((Int32) ⊕ Unit)} {G' : Mem} (h : fX0_resize_21 l0 l3 G = some (r, G')) (hK : (finL X 5 21 (fun s : Int32 => [(0, .ref (X.B + l0)), (3, .int s)]) (finV X)) r G') : J X 5 21 [(0, .ref (X.B + l0)), (3, .int l3)] [] G := by
  unfold fX0_resize_21 at h
  refine j_iload_n ok dX0_resize_21 rfl 1 rfl ?_
  refine j_aload_n ok dX0_resize_22 rfl 0 rfl ?_
  obtain ⟨v1, hv1, h⟩ := obind h
  refine k_getI ok fl_X0_15 hv1 dX0_resize_23 ?_
  rcases ite_some h with ⟨c2, h⟩ | ⟨c2, h⟩
  · refine j_icmp_ge (tgt := 61) ok dX0_resize_26 (by decide) (fun _ => ?_) (fun z => absurd c2 z)
    obtain ⟨r1, e1, h1⟩ := lift_some h
    subst e1
    exact J.sub [] rfl (jX0_resize_61 ok G h1 hK)
  · refine j_icmp_ge (tgt := 61) ok dX0_resize_26 (by decide) (fun z => absurd z c2) (fun _ => ?_)
    refine j_iconst (v := 0) ok dX0_resize_29 (by decide) ?_
    refine j_istore (L' := [(4, .int (0 : Int32)), (0, .ref (X.B + l0)), (3, .int l3)]) ok dX0_resize_30 (by decide) rfl ?_
    have hJ : J X 5 32 [(0, .ref (X.B + l0)), (3, .int l3), (4, .int (0 : Int32))] [] G := j_loop (loc := fun s : Int32 => [(0, .ref (X.B + l0)), (3, .int l3), (4, .int s)]) (F := (finL X 5 21 (fun s : Int32 => [(0, .ref (X.B + l0)), (3, .int s)]) (finV X))) (fun s G r G' hb hk => jX0_resize_32 ok l0 l3 s G hb hk) _ _ _ _ _ h hK
    exact J.sub [1, 2, 0] rfl hJ

def fX0_resize_0 (l0 : Nat) (l1 : Int32) (l2 : Int32)  (G : Mem) : Option (Unit × Mem) :=
  (pI G 10 l0 0 l1).bind fun G1 =>
  (pI G1 10 l0 1 l2).bind fun G2 =>
  (gR G2 10 l0 4).bind fun v3 =>
  (fJ7_fill_53178 v3 (15 : Int32) G2).bind fun q4 =>
  loopM (fun (s : Int32) G => fX0_resize_21 l0 s G) FU ((0 : Int32)) q4.2

set_option maxRecDepth 100000 in
set_option maxHeartbeats 4000000 in
theorem jX0_resize_0 {X : Cx} (ok : OK X cX0_resize RX0 none 5 2 46) (l0 : Nat) (l1 : Int32) (l2 : Int32)  (G : Mem) {r : Unit} {G' : Mem} (h : fX0_resize_0 l0 l1 l2 G = some (r, G')) (hK : (finV X) r G') : J X 5 0 [(0, .ref (X.B + l0)), (1, .int l1), (2, .int l2)] [] G := by
  unfold fX0_resize_0 at h
  refine j_aload_n ok dX0_resize_0 rfl 0 rfl ?_
  refine j_iload_n ok dX0_resize_1 rfl 1 rfl ?_
  obtain ⟨G1, hG1, h⟩ := obind h
  refine k_putI ok fl_X0_9 fp_X0 rfl (Or.inl rfl) hG1 dX0_resize_2 ?_
  refine j_aload_n ok dX0_resize_5 rfl 0 rfl ?_
  refine j_iload_n ok dX0_resize_6 rfl 2 rfl ?_
  obtain ⟨G2, hG2, h⟩ := obind h
  refine k_putI ok fl_X0_15 fp_X0 rfl (Or.inl rfl) hG2 dX0_resize_7 ?_
  refine j_aload_n ok dX0_resize_10 rfl 0 rfl ?_
  obtain ⟨v3, hv3, h⟩ := obind h
  refine k_getR ok fl_X0_25 hv3 dX0_resize_11 ?_
  refine j_bipush (v := 15) ok dX0_resize_14 (by decide) ?_
  obtain ⟨q4, hq4, h⟩ := obind h
  refine k_S0 ok kl_X0_34 ⟨Nat.le_of_ble_eq_true rfl, Nat.le_of_ble_eq_true rfl⟩ [.ref (X.B + v3), .int (15 : Int32)] rfl rfl (Nat.le_of_ble_eq_true rfl) (tJ7_fill_53178 ok.fl X.V v3 (15 : Int32) G2 hq4) dX0_resize_16 ?_
  refine j_iconst (v := 0) ok dX0_resize_19 (by decide) ?_
  refine j_istore_n (L' := [(3, .int (0 : Int32)), (0, .ref (X.B + l0)), (1, .int l1), (2, .int l2)]) ok dX0_resize_20 rfl (by decide) rfl ?_
  have hJ : J X 5 21 [(0, .ref (X.B + l0)), (3, .int (0 : Int32))] [] q4.2 := j_loop (loc := fun s : Int32 => [(0, .ref (X.B + l0)), (3, .int s)]) (F := (finV X)) (fun s G r G' hb hk => jX0_resize_21 ok l0 s G hb hk) _ _ _ _ _ h hK
  exact J.sub [1, 0] rfl hJ

def fX0_resize (l0 : Nat) (l1 : Int32) (l2 : Int32) (G : Mem) : Option (Unit × Mem) := fX0_resize_0 l0 l1 l2 G
set_option maxRecDepth 100000 in
theorem tX0_resize {l : Launch} (hfl : l.stackTraces = false) (V : Wd) (l0 : Nat) (l1 : Int32) (l2 : Int32) (G : Mem) {r : Unit} {G' : Mem} (h : fX0_resize l0 l1 l2 G = some (r, G')) : Mx l yX0_resize cX0_resize 5 none 2 46 V [.ref (V.B + l0), .int l1, .int l2] G (.inl none) G' :=
  mx_of (L := [(0, .ref (V.B + l0)), (1, .int l1), (2, .int l2)]) hfl (by decide +kernel) (Nat.le_of_ble_eq_true rfl) rfl (fun X hl hV hin ok he => by
    subst hl; subst hV
    exact J.sub [0, 1, 2] rfl (jX0_resize_0 ok l0 l1 l2 G h he))
def fX0_squareCount_0 (l0 : Nat)  (G : Mem) : Option (Int32 × Mem) :=
  (gF G 10 l0 0).bind fun v1 =>
  (gF G 10 l0 1).bind fun v2 =>
  some ((v1 * v2), G)

set_option maxRecDepth 100000 in
set_option maxHeartbeats 4000000 in
theorem jX0_squareCount_0 {X : Cx} (ok : OK X cX0_squareCount RX0 (some .int) 1 0 0) (l0 : Nat)  (G : Mem) {r : Int32} {G' : Mem} (h : fX0_squareCount_0 l0 G = some (r, G')) (hK : (finI X) r G') : J X 1 0 [(0, .ref (X.B + l0))] [] G := by
  unfold fX0_squareCount_0 at h
  refine j_aload_n ok dX0_squareCount_0 rfl 0 rfl ?_
  obtain ⟨v1, hv1, h⟩ := obind h
  refine k_getI ok fl_X0_9 hv1 dX0_squareCount_1 ?_
  refine j_aload_n ok dX0_squareCount_4 rfl 0 rfl ?_
  obtain ⟨v2, hv2, h⟩ := obind h
  refine k_getI ok fl_X0_15 hv2 dX0_squareCount_5 ?_
  refine j_imul ok dX0_squareCount_8 ?_
  obtain ⟨er, eG⟩ := inj2 h
  subst er; subst eG
  exact j_iret ok rfl dX0_squareCount_9 hK

def fX0_squareCount (l0 : Nat) (G : Mem) : Option (Int32 × Mem) := fX0_squareCount_0 l0 G
set_option maxRecDepth 100000 in
theorem tX0_squareCount {l : Launch} (hfl : l.stackTraces = false) (V : Wd) (l0 : Nat) (G : Mem) {r : Int32} {G' : Mem} (h : fX0_squareCount l0 G = some (r, G')) : Mx l yX0_squareCount cX0_squareCount 1 (some .int) 0 0 V [.ref (V.B + l0)] G (.inl (some (.int r))) G' :=
  mx_of (L := [(0, .ref (V.B + l0))]) hfl (by decide +kernel) (Nat.le_of_ble_eq_true rfl) rfl (fun X hl hV hin ok he => by
    subst hl; subst hV
    exact J.sub [0] rfl (jX0_squareCount_0 ok l0 G h he))
def fX1_copyFrom_0 (l0 : Nat) (l1 : Nat)  (G : Mem) : Option (Unit × Mem) :=
  (gF G 11 l1 0).bind fun v1 =>
  (pI G 11 l0 0 v1).bind fun G2 =>
  (gF G2 11 l1 1).bind fun v3 =>
  (pI G2 11 l0 1 v3).bind fun G4 =>
  (gF G4 11 l1 2).bind fun v5 =>
  (pI G4 11 l0 2 v5).bind fun G6 =>
  (gF G6 11 l1 3).bind fun v7 =>
  (pI G6 11 l0 3 v7).bind fun G8 =>
  (gF G8 11 l1 4).bind fun v9 =>
  (pI G8 11 l0 4 v9).bind fun G10 =>
  (gF G10 11 l1 5).bind fun v11 =>
  (pZ G10 11 l0 5 v11).bind fun G12 =>
  (gF G12 11 l1 6).bind fun v13 =>
  (pZ G12 11 l0 6 v13).bind fun G14 =>
  some ((), G14)

set_option maxRecDepth 100000 in
set_option maxHeartbeats 4000000 in
theorem jX1_copyFrom_0 {X : Cx} (ok : OK X cX1_copyFrom RX1 none 2 0 0) (l0 : Nat) (l1 : Nat)  (G : Mem) {r : Unit} {G' : Mem} (h : fX1_copyFrom_0 l0 l1 G = some (r, G')) (hK : (finV X) r G') : J X 2 0 [(0, .ref (X.B + l0)), (1, .ref (X.B + l1))] [] G := by
  unfold fX1_copyFrom_0 at h
  refine j_aload_n ok dX1_copyFrom_0 rfl 0 rfl ?_
  refine j_aload_n ok dX1_copyFrom_1 rfl 1 rfl ?_
  obtain ⟨v1, hv1, h⟩ := obind h
  refine k_getI ok fl_X1_9 hv1 dX1_copyFrom_2 ?_
  obtain ⟨G2, hG2, h⟩ := obind h
  refine k_putI ok fl_X1_9 fp_X1 rfl (Or.inl rfl) hG2 dX1_copyFrom_5 ?_
  refine j_aload_n ok dX1_copyFrom_8 rfl 0 rfl ?_
  refine j_aload_n ok dX1_copyFrom_9 rfl 1 rfl ?_
  obtain ⟨v3, hv3, h⟩ := obind h
  refine k_getI ok fl_X1_15 hv3 dX1_copyFrom_10 ?_
  obtain ⟨G4, hG4, h⟩ := obind h
  refine k_putI ok fl_X1_15 fp_X1 rfl (Or.inl rfl) hG4 dX1_copyFrom_13 ?_
  refine j_aload_n ok dX1_copyFrom_16 rfl 0 rfl ?_
  refine j_aload_n ok dX1_copyFrom_17 rfl 1 rfl ?_
  obtain ⟨v5, hv5, h⟩ := obind h
  refine k_getI ok fl_X1_18 hv5 dX1_copyFrom_18 ?_
  obtain ⟨G6, hG6, h⟩ := obind h
  refine k_putI ok fl_X1_18 fp_X1 rfl (Or.inl rfl) hG6 dX1_copyFrom_21 ?_
  refine j_aload_n ok dX1_copyFrom_24 rfl 0 rfl ?_
  refine j_aload_n ok dX1_copyFrom_25 rfl 1 rfl ?_
  obtain ⟨v7, hv7, h⟩ := obind h
  refine k_getI ok fl_X1_21 hv7 dX1_copyFrom_26 ?_
  obtain ⟨G8, hG8, h⟩ := obind h
  refine k_putI ok fl_X1_21 fp_X1 rfl (Or.inl rfl) hG8 dX1_copyFrom_29 ?_
  refine j_aload_n ok dX1_copyFrom_32 rfl 0 rfl ?_
  refine j_aload_n ok dX1_copyFrom_33 rfl 1 rfl ?_
  obtain ⟨v9, hv9, h⟩ := obind h
  refine k_getI ok fl_X1_24 hv9 dX1_copyFrom_34 ?_
  obtain ⟨G10, hG10, h⟩ := obind h
  refine k_putI ok fl_X1_24 fp_X1 rfl (Or.inl rfl) hG10 dX1_copyFrom_37 ?_
  refine j_aload_n ok dX1_copyFrom_40 rfl 0 rfl ?_
  refine j_aload_n ok dX1_copyFrom_41 rfl 1 rfl ?_
  obtain ⟨v11, hv11, h⟩ := obind h
  refine k_getI ok fl_X1_27 hv11 dX1_copyFrom_42 ?_
  obtain ⟨G12, hG12, h⟩ := obind h
  refine k_putZ ok fl_X1_27 fp_X1 rfl (Or.inl rfl) hG12 dX1_copyFrom_45 ?_
  refine j_aload_n ok dX1_copyFrom_48 rfl 0 rfl ?_
  refine j_aload_n ok dX1_copyFrom_49 rfl 1 rfl ?_
  obtain ⟨v13, hv13, h⟩ := obind h
  refine k_getI ok fl_X1_31 hv13 dX1_copyFrom_50 ?_
  obtain ⟨G14, hG14, h⟩ := obind h
  refine k_putZ ok fl_X1_31 fp_X1 rfl (Or.inl rfl) hG14 dX1_copyFrom_53 ?_
  obtain ⟨er, eG⟩ := inj2 h
  subst er; subst eG
  exact j_vret ok rfl dX1_copyFrom_56 hK

def fX1_copyFrom (l0 : Nat) (l1 : Nat) (G : Mem) : Option (Unit × Mem) := fX1_copyFrom_0 l0 l1 G
set_option maxRecDepth 100000 in
theorem tX1_copyFrom {l : Launch} (hfl : l.stackTraces = false) (V : Wd) (l0 : Nat) (l1 : Nat) (G : Mem) {r : Unit} {G' : Mem} (h : fX1_copyFrom l0 l1 G = some (r, G')) : Mx l yX1_copyFrom cX1_copyFrom 2 none 0 0 V [.ref (V.B + l0), .ref (V.B + l1)] G (.inl none) G' :=
  mx_of (L := [(0, .ref (V.B + l0)), (1, .ref (V.B + l1))]) hfl (by decide +kernel) (Nat.le_of_ble_eq_true rfl) rfl (fun X hl hV hin ok he => by
    subst hl; subst hV
    exact J.sub [0, 1] rfl (jX1_copyFrom_0 ok l0 l1 G h he))
def fX1_init_0 (l0 : Nat)  (G : Mem) : Option (Unit × Mem) :=
  (pI G 11 l0 0 (-1 : Int32)).bind fun G1 =>
  (pI G1 11 l0 1 (-1 : Int32)).bind fun G2 =>
  (pI G2 11 l0 2 (-1 : Int32)).bind fun G3 =>
  (pI G3 11 l0 3 (-1 : Int32)).bind fun G4 =>
  (pI G4 11 l0 4 (-1 : Int32)).bind fun G5 =>
  (pZ G5 11 l0 5 (0 : Int32)).bind fun G6 =>
  (pZ G6 11 l0 6 (0 : Int32)).bind fun G7 =>
  some ((), G7)

set_option maxRecDepth 100000 in
set_option maxHeartbeats 4000000 in
theorem jX1_init_0 {X : Cx} (ok : OK X cX1_init RX1 none 1 1 120) (hin : X.meth.name = "<init>") (l0 : Nat)  (G : Mem) {r : Unit} {G' : Mem} (h : fX1_init_0 l0 G = some (r, G')) (hK : (finV X) r G') : J X 1 0 [(0, .ref (X.B + l0))] [] G := by
  unfold fX1_init_0 at h
  refine j_aload_n ok dX1_init_0 rfl 0 rfl ?_
  refine k_objI ok wm_X1_3 (Nat.le_of_ble_eq_true rfl) (Nat.le_of_ble_eq_true rfl) (Nat.le_of_ble_eq_true rfl) dX1_init_1 ?_
  refine j_aload_n ok dX1_init_4 rfl 0 rfl ?_
  refine j_iconst (v := -1) ok dX1_init_5 (by decide) ?_
  obtain ⟨G1, hG1, h⟩ := obind h
  refine k_putI ok fl_X1_9 fp_X1 rfl (Or.inl rfl) hG1 dX1_init_6 ?_
  refine j_aload_n ok dX1_init_9 rfl 0 rfl ?_
  refine j_iconst (v := -1) ok dX1_init_10 (by decide) ?_
  obtain ⟨G2, hG2, h⟩ := obind h
  refine k_putI ok fl_X1_15 fp_X1 rfl (Or.inl rfl) hG2 dX1_init_11 ?_
  refine j_aload_n ok dX1_init_14 rfl 0 rfl ?_
  refine j_iconst (v := -1) ok dX1_init_15 (by decide) ?_
  obtain ⟨G3, hG3, h⟩ := obind h
  refine k_putI ok fl_X1_18 fp_X1 rfl (Or.inl rfl) hG3 dX1_init_16 ?_
  refine j_aload_n ok dX1_init_19 rfl 0 rfl ?_
  refine j_iconst (v := -1) ok dX1_init_20 (by decide) ?_
  obtain ⟨G4, hG4, h⟩ := obind h
  refine k_putI ok fl_X1_21 fp_X1 rfl (Or.inl rfl) hG4 dX1_init_21 ?_
  refine j_aload_n ok dX1_init_24 rfl 0 rfl ?_
  refine j_iconst (v := -1) ok dX1_init_25 (by decide) ?_
  obtain ⟨G5, hG5, h⟩ := obind h
  refine k_putI ok fl_X1_24 fp_X1 rfl (Or.inl rfl) hG5 dX1_init_26 ?_
  refine j_aload_n ok dX1_init_29 rfl 0 rfl ?_
  refine j_iconst (v := 0) ok dX1_init_30 (by decide) ?_
  obtain ⟨G6, hG6, h⟩ := obind h
  refine k_putZ ok fl_X1_27 fp_X1 rfl (Or.inl rfl) hG6 dX1_init_31 ?_
  refine j_aload_n ok dX1_init_34 rfl 0 rfl ?_
  refine j_iconst (v := 0) ok dX1_init_35 (by decide) ?_
  obtain ⟨G7, hG7, h⟩ := obind h
  refine k_putZ ok fl_X1_31 fp_X1 rfl (Or.inl rfl) hG7 dX1_init_36 ?_
  obtain ⟨er, eG⟩ := inj2 h
  subst er; subst eG
  exact j_vret ok rfl dX1_init_39 hK

def fX1_init (l0 : Nat) (G : Mem) : Option (Unit × Mem) := fX1_init_0 l0 G
set_option maxRecDepth 100000 in
theorem tX1_init {l : Launch} (hfl : l.stackTraces = false) (V : Wd) (l0 : Nat) (G : Mem) {r : Unit} {G' : Mem} (h : fX1_init l0 G = some (r, G')) : Mx l yX1_init cX1_init 1 none 1 120 V [.ref (V.B + l0)] G (.inl none) G' :=
  mx_of (L := [(0, .ref (V.B + l0))]) hfl (by decide +kernel) (Nat.le_of_ble_eq_true rfl) rfl (fun X hl hV hin ok he => by
    subst hl; subst hV
    exact J.sub [0] rfl (jX1_init_0 ok (hin rfl) l0 G h he))
def fX1_state_0 (l0 : Nat) (l1 : Int32) (l2 : Int32) (l3 : Int32) (l4 : Int32) (l5 : Int32) (l6 : Int32)  (G : Mem) : Option (Unit × Mem) :=
  (pI G 11 l0 0 l1).bind fun G1 =>
  (pI G1 11 l0 1 l2).bind fun G2 =>
  (pI G2 11 l0 2 (-1 : Int32)).bind fun G3 =>
  (pI G3 11 l0 3 l3).bind fun G4 =>
  (pI G4 11 l0 4 l4).bind fun G5 =>
  (pZ G5 11 l0 5 l5).bind fun G6 =>
  (pZ G6 11 l0 6 l6).bind fun G7 =>
  some ((), G7)

set_option maxRecDepth 100000 in
set_option maxHeartbeats 4000000 in
theorem jX1_state_0 {X : Cx} (ok : OK X cX1_state RX1 none 7 0 0) (l0 : Nat) (l1 : Int32) (l2 : Int32) (l3 : Int32) (l4 : Int32) (l5 : Int32) (l6 : Int32)  (G : Mem) {r : Unit} {G' : Mem} (h : fX1_state_0 l0 l1 l2 l3 l4 l5 l6 G = some (r, G')) (hK : (finV X) r G') : J X 7 0 [(0, .ref (X.B + l0)), (1, .int l1), (2, .int l2), (3, .int l3), (4, .int l4), (5, .int l5), (6, .int l6)] [] G := by
  unfold fX1_state_0 at h
  refine j_aload_n ok dX1_state_0 rfl 0 rfl ?_
  refine j_iload_n ok dX1_state_1 rfl 1 rfl ?_
  obtain ⟨G1, hG1, h⟩ := obind h
  refine k_putI ok fl_X1_9 fp_X1 rfl (Or.inl rfl) hG1 dX1_state_2 ?_
  refine j_aload_n ok dX1_state_5 rfl 0 rfl ?_
  refine j_iload_n ok dX1_state_6 rfl 2 rfl ?_
  obtain ⟨G2, hG2, h⟩ := obind h
  refine k_putI ok fl_X1_15 fp_X1 rfl (Or.inl rfl) hG2 dX1_state_7 ?_
  refine j_aload_n ok dX1_state_10 rfl 0 rfl ?_
  refine j_iconst (v := -1) ok dX1_state_11 (by decide) ?_
  obtain ⟨G3, hG3, h⟩ := obind h
  refine k_putI ok fl_X1_18 fp_X1 rfl (Or.inl rfl) hG3 dX1_state_12 ?_
  refine j_aload_n ok dX1_state_15 rfl 0 rfl ?_
  refine j_iload_n ok dX1_state_16 rfl 3 rfl ?_
  obtain ⟨G4, hG4, h⟩ := obind h
  refine k_putI ok fl_X1_21 fp_X1 rfl (Or.inl rfl) hG4 dX1_state_17 ?_
  refine j_aload_n ok dX1_state_20 rfl 0 rfl ?_
  refine j_iload ok dX1_state_21 4 rfl ?_
  obtain ⟨G5, hG5, h⟩ := obind h
  refine k_putI ok fl_X1_24 fp_X1 rfl (Or.inl rfl) hG5 dX1_state_23 ?_
  refine j_aload_n ok dX1_state_26 rfl 0 rfl ?_
  refine j_iload ok dX1_state_27 5 rfl ?_
  obtain ⟨G6, hG6, h⟩ := obind h
  refine k_putZ ok fl_X1_27 fp_X1 rfl (Or.inl rfl) hG6 dX1_state_29 ?_
  refine j_aload_n ok dX1_state_32 rfl 0 rfl ?_
  refine j_iload ok dX1_state_33 6 rfl ?_
  obtain ⟨G7, hG7, h⟩ := obind h
  refine k_putZ ok fl_X1_31 fp_X1 rfl (Or.inl rfl) hG7 dX1_state_35 ?_
  obtain ⟨er, eG⟩ := inj2 h
  subst er; subst eG
  exact j_vret ok rfl dX1_state_38 hK

def fX1_state (l0 : Nat) (l1 : Int32) (l2 : Int32) (l3 : Int32) (l4 : Int32) (l5 : Int32) (l6 : Int32) (G : Mem) : Option (Unit × Mem) := fX1_state_0 l0 l1 l2 l3 l4 l5 l6 G
set_option maxRecDepth 100000 in
theorem tX1_state {l : Launch} (hfl : l.stackTraces = false) (V : Wd) (l0 : Nat) (l1 : Int32) (l2 : Int32) (l3 : Int32) (l4 : Int32) (l5 : Int32) (l6 : Int32) (G : Mem) {r : Unit} {G' : Mem} (h : fX1_state l0 l1 l2 l3 l4 l5 l6 G = some (r, G')) : Mx l yX1_state cX1_state 7 none 0 0 V [.ref (V.B + l0), .int l1, .int l2, .int l3, .int l4, .int l5, .int l6] G (.inl none) G' :=
  mx_of (L := [(0, .ref (V.B + l0)), (1, .int l1), (2, .int l2), (3, .int l3), (4, .int l4), (5, .int l5), (6, .int l6)]) hfl (by decide +kernel) (Nat.le_of_ble_eq_true rfl) rfl (fun X hl hV hin ok he => by
    subst hl; subst hV
    exact J.sub [0, 1, 2, 3, 4, 5, 6] rfl (jX1_state_0 ok l0 l1 l2 l3 l4 l5 l6 G h he))
def fX5_byteAt_35  (s0 : Int32) (G : Mem) : Option (Int32 × Mem) :=
  some (s0, G)

set_option maxRecDepth 100000 in
set_option maxHeartbeats 4000000 in
theorem jX5_byteAt_35 {X : Cx} (ok : OK X cX5_byteAt RX5 (some .int) 2 0 0)  (s0 : Int32) (G : Mem) {r : Int32} {G' : Mem} (h : fX5_byteAt_35 s0 G = some (r, G')) (hK : (finI X) r G') : J X 2 35 [] [.int s0] G := by
  unfold fX5_byteAt_35 at h
  obtain ⟨er, eG⟩ := inj2 h
  subst er; subst eG
  exact j_iret ok rfl dX5_byteAt_35 hK

def fX5_byteAt_34   (G : Mem) : Option (Int32 × Mem) :=
  fX5_byteAt_35 (-1 : Int32) G

set_option maxRecDepth 100000 in
set_option maxHeartbeats 4000000 in
theorem jX5_byteAt_34 {X : Cx} (ok : OK X cX5_byteAt RX5 (some .int) 2 0 0)   (G : Mem) {r : Int32} {G' : Mem} (h : fX5_byteAt_34  G = some (r, G')) (hK : (finI X) r G') : J X 2 34 [] [] G := by
  unfold fX5_byteAt_34 at h
  refine j_iconst (v := -1) ok dX5_byteAt_34 (by decide) ?_
  exact J.sub [] rfl (jX5_byteAt_35 ok (-1 : Int32) G h hK)

def fX5_byteAt_0 (l0 : Nat) (l1 : Int32)  (G : Mem) : Option (Int32 × Mem) :=
  if l1 < (0 : Int32) then
    fX5_byteAt_34 G
  else
    (gF G 15 l0 0).bind fun v2 =>
    if v2 ≤ l1 then
      fX5_byteAt_34 G
    else
      (gR G 15 l0 5).bind fun v4 =>
      (gL G v4).bind fun v5 =>
      if v5 ≤ l1 then
        fX5_byteAt_34 G
      else
        (gR G 15 l0 5).bind fun v7 =>
        (gA G 2 v7 l1).bind fun v8 =>
        fX5_byteAt_35 (v8 &&& (255 : Int32)) G

set_option maxRecDepth 100000 in
set_option maxHeartbeats 4000000 in
theorem jX5_byteAt_0 {X : Cx} (ok : OK X cX5_byteAt RX5 (some .int) 2 0 0) (l0 : Nat) (l1 : Int32)  (G : Mem) {r : Int32} {G' : Mem} (h : fX5_byteAt_0 l0 l1 G = some (r, G')) (hK : (finI X) r G') : J X 2 0 [(0, .ref (X.B + l0)), (1, .int l1)] [] G := by
  unfold fX5_byteAt_0 at h
  refine j_iload_n ok dX5_byteAt_0 rfl 1 rfl ?_
  rcases ite_some h with ⟨c1, h⟩ | ⟨c1, h⟩
  · refine j_if_lt (tgt := 34) ok dX5_byteAt_1 (by decide) (fun _ => ?_) (fun z => absurd c1 z)
    exact J.sub [] rfl (jX5_byteAt_34 ok G h hK)
  · refine j_if_lt (tgt := 34) ok dX5_byteAt_1 (by decide) (fun z => absurd z c1) (fun _ => ?_)
    refine j_iload_n ok dX5_byteAt_4 rfl 1 rfl ?_
    refine j_aload_n ok dX5_byteAt_5 rfl 0 rfl ?_
    obtain ⟨v2, hv2, h⟩ := obind h
    refine k_getI ok fl_X5_9 hv2 dX5_byteAt_6 ?_
    rcases ite_some h with ⟨c3, h⟩ | ⟨c3, h⟩
    · refine j_icmp_ge (tgt := 34) ok dX5_byteAt_9 (by decide) (fun _ => ?_) (fun z => absurd c3 z)
      exact J.sub [] rfl (jX5_byteAt_34 ok G h hK)
    · refine j_icmp_ge (tgt := 34) ok dX5_byteAt_9 (by decide) (fun z => absurd z c3) (fun _ => ?_)
      refine j_iload_n ok dX5_byteAt_12 rfl 1 rfl ?_
      refine j_aload_n ok dX5_byteAt_13 rfl 0 rfl ?_
      obtain ⟨v4, hv4, h⟩ := obind h
      refine k_getR ok fl_X5_27 hv4 dX5_byteAt_14 ?_
      obtain ⟨v5, hv5, h⟩ := obind h
      refine j_alen ok hv5 dX5_byteAt_17 ?_
      rcases ite_some h with ⟨c6, h⟩ | ⟨c6, h⟩
      · refine j_icmp_ge (tgt := 34) ok dX5_byteAt_18 (by decide) (fun _ => ?_) (fun z => absurd c6 z)
        exact J.sub [] rfl (jX5_byteAt_34 ok G h hK)
      · refine j_icmp_ge (tgt := 34) ok dX5_byteAt_18 (by decide) (fun z => absurd z c6) (fun _ => ?_)
        refine j_aload_n ok dX5_byteAt_21 rfl 0 rfl ?_
        obtain ⟨v7, hv7, h⟩ := obind h
        refine k_getR ok fl_X5_27 hv7 dX5_byteAt_22 ?_
        refine j_iload_n ok dX5_byteAt_25 rfl 1 rfl ?_
        obtain ⟨v8, hv8, h⟩ := obind h
        refine j_bald ok hv8 dX5_byteAt_26 ?_
        refine j_sipush (v := 255) ok dX5_byteAt_27 (by decide) ?_
        refine j_iand ok dX5_byteAt_30 ?_
        refine j_goto (tgt := 35) ok dX5_byteAt_31 (by decide) ?_
        exact J.sub [] rfl (jX5_byteAt_35 ok (v8 &&& (255 : Int32)) G h hK)

def fX5_byteAt (l0 : Nat) (l1 : Int32) (G : Mem) : Option (Int32 × Mem) := fX5_byteAt_0 l0 l1 G
set_option maxRecDepth 100000 in
theorem tX5_byteAt {l : Launch} (hfl : l.stackTraces = false) (V : Wd) (l0 : Nat) (l1 : Int32) (G : Mem) {r : Int32} {G' : Mem} (h : fX5_byteAt l0 l1 G = some (r, G')) : Mx l yX5_byteAt cX5_byteAt 2 (some .int) 0 0 V [.ref (V.B + l0), .int l1] G (.inl (some (.int r))) G' :=
  mx_of (L := [(0, .ref (V.B + l0)), (1, .int l1)]) hfl (by decide +kernel) (Nat.le_of_ble_eq_true rfl) rfl (fun X hl hV hin ok he => by
    subst hl; subst hV
    exact J.sub [0, 1] rfl (jX5_byteAt_0 ok l0 l1 G h he))
def fX5_sortOf_46  (s0 : Int32) (G : Mem) : Option (Int32 × Mem) :=
  some (s0, G)

set_option maxRecDepth 100000 in
set_option maxHeartbeats 4000000 in
theorem jX5_sortOf_46 {X : Cx} (ok : OK X cX5_sortOf RX5 (some .int) 1 0 0)  (s0 : Int32) (G : Mem) {r : Int32} {G' : Mem} (h : fX5_sortOf_46 s0 G = some (r, G')) (hK : (finI X) r G') : J X 1 46 [] [.int s0] G := by
  unfold fX5_sortOf_46 at h
  obtain ⟨er, eG⟩ := inj2 h
  subst er; subst eG
  exact j_iret ok rfl dX5_sortOf_46 hK

def fX5_sortOf_35 (l0 : Int32)  (G : Mem) : Option (Int32 × Mem) :=
  if l0 = (59 : Int32) then
    fX5_sortOf_46 (4 : Int32) G
  else
    fX5_sortOf_46 (1 : Int32) G

set_option maxRecDepth 100000 in
set_option maxHeartbeats 4000000 in
theorem jX5_sortOf_35 {X : Cx} (ok : OK X cX5_sortOf RX5 (some .int) 1 0 0) (l0 : Int32)  (G : Mem) {r : Int32} {G' : Mem} (h : fX5_sortOf_35 l0 G = some (r, G')) (hK : (finI X) r G') : J X 1 35 [(0, .int l0)] [] G := by
  unfold fX5_sortOf_35 at h
  refine j_iload_n ok dX5_sortOf_35 rfl 0 rfl ?_
  refine j_bipush (v := 59) ok dX5_sortOf_36 (by decide) ?_
  rcases ite_some h with ⟨c1, h⟩ | ⟨c1, h⟩
  · refine j_icmp_ne (tgt := 45) ok dX5_sortOf_38 (by decide) (fun z => absurd c1 z) (fun _ => ?_)
    refine j_iconst (v := 4) ok dX5_sortOf_41 (by decide) ?_
    refine j_goto (tgt := 46) ok dX5_sortOf_42 (by decide) ?_
    exact J.sub [] rfl (jX5_sortOf_46 ok (4 : Int32) G h hK)
  · refine j_icmp_ne (tgt := 45) ok dX5_sortOf_38 (by decide) (fun _ => ?_) (fun z => absurd z c1)
    refine j_iconst (v := 1) ok dX5_sortOf_45 (by decide) ?_
    exact J.sub [] rfl (jX5_sortOf_46 ok (1 : Int32) G h hK)

def fX5_sortOf_21 (l0 : Int32)  (G : Mem) : Option (Int32 × Mem) :=
  if l0 < (48 : Int32) then
    fX5_sortOf_35 l0 G
  else
    if (57 : Int32) < l0 then
      fX5_sortOf_35 l0 G
    else
      some ((3 : Int32), G)

set_option maxRecDepth 100000 in
set_option maxHeartbeats 4000000 in
theorem jX5_sortOf_21 {X : Cx} (ok : OK X cX5_sortOf RX5 (some .int) 1 0 0) (l0 : Int32)  (G : Mem) {r : Int32} {G' : Mem} (h : fX5_sortOf_21 l0 G = some (r, G')) (hK : (finI X) r G') : J X 1 21 [(0, .int l0)] [] G := by
  unfold fX5_sortOf_21 at h
  refine j_iload_n ok dX5_sortOf_21 rfl 0 rfl ?_
  refine j_bipush (v := 48) ok dX5_sortOf_22 (by decide) ?_
  rcases ite_some h with ⟨c1, h⟩ | ⟨c1, h⟩
  · refine j_icmp_lt (tgt := 35) ok dX5_sortOf_24 (by decide) (fun _ => ?_) (fun z => absurd c1 z)
    exact J.sub [0] rfl (jX5_sortOf_35 ok l0 G h hK)
  · refine j_icmp_lt (tgt := 35) ok dX5_sortOf_24 (by decide) (fun z => absurd z c1) (fun _ => ?_)
    refine j_iload_n ok dX5_sortOf_27 rfl 0 rfl ?_
    refine j_bipush (v := 57) ok dX5_sortOf_28 (by decide) ?_
    rcases ite_some h with ⟨c2, h⟩ | ⟨c2, h⟩
    · refine j_icmp_gt (tgt := 35) ok dX5_sortOf_30 (by decide) (fun _ => ?_) (fun z => absurd c2 z)
      exact J.sub [0] rfl (jX5_sortOf_35 ok l0 G h hK)
    · refine j_icmp_gt (tgt := 35) ok dX5_sortOf_30 (by decide) (fun z => absurd z c2) (fun _ => ?_)
      refine j_iconst (v := 3) ok dX5_sortOf_33 (by decide) ?_
      obtain ⟨er, eG⟩ := inj2 h
      subst er; subst eG
      exact j_iret ok rfl dX5_sortOf_34 hK

def fX5_sortOf_0 (l0 : Int32)  (G : Mem) : Option (Int32 × Mem) :=
  if l0 = (-1 : Int32) then
    some ((0 : Int32), G)
  else
    if l0 < (97 : Int32) then
      fX5_sortOf_21 l0 G
    else
      if (122 : Int32) < l0 then
        fX5_sortOf_21 l0 G
      else
        some ((2 : Int32), G)

set_option maxRecDepth 100000 in
set_option maxHeartbeats 4000000 in
theorem jX5_sortOf_0 {X : Cx} (ok : OK X cX5_sortOf RX5 (some .int) 1 0 0) (l0 : Int32)  (G : Mem) {r : Int32} {G' : Mem} (h : fX5_sortOf_0 l0 G = some (r, G')) (hK : (finI X) r G') : J X 1 0 [(0, .int l0)] [] G := by
  unfold fX5_sortOf_0 at h
  refine j_iload_n ok dX5_sortOf_0 rfl 0 rfl ?_
  refine j_iconst (v := -1) ok dX5_sortOf_1 (by decide) ?_
  rcases ite_some h with ⟨c1, h⟩ | ⟨c1, h⟩
  · refine j_icmp_ne (tgt := 7) ok dX5_sortOf_2 (by decide) (fun z => absurd c1 z) (fun _ => ?_)
    refine j_iconst (v := 0) ok dX5_sortOf_5 (by decide) ?_
    obtain ⟨er, eG⟩ := inj2 h
    subst er; subst eG
    exact j_iret ok rfl dX5_sortOf_6 hK
  · refine j_icmp_ne (tgt := 7) ok dX5_sortOf_2 (by decide) (fun _ => ?_) (fun z => absurd z c1)
    refine j_iload_n ok dX5_sortOf_7 rfl 0 rfl ?_
    refine j_bipush (v := 97) ok dX5_sortOf_8 (by decide) ?_
    rcases ite_some h with ⟨c2, h⟩ | ⟨c2, h⟩
    · refine j_icmp_lt (tgt := 21) ok dX5_sortOf_10 (by decide) (fun _ => ?_) (fun z => absurd c2 z)
      exact J.sub [0] rfl (jX5_sortOf_21 ok l0 G h hK)
    · refine j_icmp_lt (tgt := 21) ok dX5_sortOf_10 (by decide) (fun z => absurd z c2) (fun _ => ?_)
      refine j_iload_n ok dX5_sortOf_13 rfl 0 rfl ?_
      refine j_bipush (v := 122) ok dX5_sortOf_14 (by decide) ?_
      rcases ite_some h with ⟨c3, h⟩ | ⟨c3, h⟩
      · refine j_icmp_gt (tgt := 21) ok dX5_sortOf_16 (by decide) (fun _ => ?_) (fun z => absurd c3 z)
        exact J.sub [0] rfl (jX5_sortOf_21 ok l0 G h hK)
      · refine j_icmp_gt (tgt := 21) ok dX5_sortOf_16 (by decide) (fun z => absurd z c3) (fun _ => ?_)
        refine j_iconst (v := 2) ok dX5_sortOf_19 (by decide) ?_
        obtain ⟨er, eG⟩ := inj2 h
        subst er; subst eG
        exact j_iret ok rfl dX5_sortOf_20 hK

def fX5_sortOf (l0 : Int32) (G : Mem) : Option (Int32 × Mem) := fX5_sortOf_0 l0 G
set_option maxRecDepth 100000 in
theorem tX5_sortOf {l : Launch} (hfl : l.stackTraces = false) (V : Wd) (l0 : Int32) (G : Mem) {r : Int32} {G' : Mem} (h : fX5_sortOf l0 G = some (r, G')) : Mx l yX5_sortOf cX5_sortOf 1 (some .int) 0 0 V [.int l0] G (.inl (some (.int r))) G' :=
  mx_of (L := [(0, .int l0)]) hfl (by decide +kernel) (Nat.le_of_ble_eq_true rfl) rfl (fun X hl hV hin ok he => by
    subst hl; subst hV
    exact J.sub [0] rfl (jX5_sortOf_0 ok l0 G h he))
def fX5_readNext_193   (G : Mem) : Option (Unit × Mem) :=
  some ((), G)

set_option maxRecDepth 100000 in
set_option maxHeartbeats 4000000 in
theorem jX5_readNext_193 {X : Cx} (ok : OK X cX5_readNext RX5 none 3 1 120)   (G : Mem) {r : Unit} {G' : Mem} (h : fX5_readNext_193  G = some (r, G')) (hK : (finV X) r G') : J X 3 193 [] [] G := by
  unfold fX5_readNext_193 at h
  obtain ⟨er, eG⟩ := inj2 h
  subst er; subst eG
  exact j_vret ok rfl dX5_readNext_193 hK

def fX5_readNext_186 (l0 : Nat) (l2 : Int32) (s0 : Int32) (G : Mem) : Option (((Int32 × Int32) ⊕ Unit) × Mem) :=
  some (.inl (s0, (l2 + (1 : Int32))), G)

set_option maxRecDepth 100000 in
set_option maxHeartbeats 4000000 in
theorem jX5_readNext_186 {X : Cx} (ok : OK X cX5_readNext RX5 none 3 1 120) (l0 : Nat) (l2 : Int32) (s0 : Int32) (G : Mem) {r : ((Int32 × Int32) ⊕ Unit)} {G' : Mem} (h : fX5_readNext_186 l0 l2 s0 G = some (r, G')) (hK : (finL X 3 89 (fun s : Int32 × Int32 => [(0, .ref (X.B + l0)), (1, .int s.1), (2, .int s.2)]) (finV X)) r G') : J X 3 186 [(0, .ref (X.B + l0)), (2, .int l2)] [.int s0] G := by
  unfold fX5_readNext_186 at h
  refine j_istore_n (L' := [(1, .int s0), (0, .ref (X.B + l0)), (2, .int l2)]) ok dX5_readNext_186 rfl (by decide) rfl ?_
  refine j_iinc (L' := [(2, .int (l2 + (1 : Int32))), (1, .int s0), (0, .ref (X.B + l0))]) (v := (l2 + (1 : Int32))) ok dX5_readNext_187 (q := 2) rfl rfl (by decide) rfl ?_
  refine j_goto (tgt := 89) ok dX5_readNext_190 (by decide) ?_
  obtain ⟨er, eG⟩ := inj2 h
  subst er; subst eG
  have hJ : J X 3 89 [(0, .ref (X.B + l0)), (1, .int s0), (2, .int (l2 + (1 : Int32)))] [] G := hK
  exact J.sub [2, 1, 0] rfl hJ

def fX5_readNext_185 (l0 : Nat) (l2 : Int32)  (G : Mem) : Option (((Int32 × Int32) ⊕ Unit) × Mem) :=
  fX5_readNext_186 l0 l2 (0 : Int32) G

set_option maxRecDepth 100000 in
set_option maxHeartbeats 4000000 in
theorem jX5_readNext_185 {X : Cx} (ok : OK X cX5_readNext RX5 none 3 1 120) (l0 : Nat) (l2 : Int32)  (G : Mem) {r : ((Int32 × Int32) ⊕ Unit)} {G' : Mem} (h : fX5_readNext_185 l0 l2 G = some (r, G')) (hK : (finL X 3 89 (fun s : Int32 × Int32 => [(0, .ref (X.B + l0)), (1, .int s.1), (2, .int s.2)]) (finV X)) r G') : J X 3 185 [(0, .ref (X.B + l0)), (2, .int l2)] [] G := by
  unfold fX5_readNext_185 at h
  refine j_iconst (v := 0) ok dX5_readNext_185 (by decide) ?_
  exact J.sub [0, 1] rfl (jX5_readNext_186 ok l0 l2 (0 : Int32) G h hK)

def fX5_readNext_163 (l0 : Nat) (l2 : Int32)  (G : Mem) : Option (((Int32 × Int32) ⊕ Unit) × Mem) :=
  (gF G 15 l0 4).bind fun v1 =>
  ck G 15 l0 <| (fX5_byteAt l0 v1 G).bind fun q2 =>
  (fX5_sortOf q2.1 q2.2).bind fun q3 =>
  (gF q3.2 15 l0 1).bind fun v4 =>
  if q3.1 = v4 then
    fX5_readNext_186 l0 l2 (1 : Int32) q3.2
  else
    fX5_readNext_185 l0 l2 q3.2

set_option maxRecDepth 100000 in
set_option maxHeartbeats 4000000 in
theorem jX5_readNext_163 {X : Cx} (ok : OK X cX5_readNext RX5 none 3 1 120) (l0 : Nat) (l2 : Int32)  (G : Mem) {r : ((Int32 × Int32) ⊕ Unit)} {G' : Mem} (h : fX5_readNext_163 l0 l2 G = some (r, G')) (hK : (finL X 3 89 (fun s : Int32 × Int32 => [(0, .ref (X.B + l0)), (1, .int s.1), (2, .int s.2)]) (finV X)) r G') : J X 3 163 [(0, .ref (X.B + l0)), (2, .int l2)] [] G := by
  unfold fX5_readNext_163 at h
  refine j_aload_n ok dX5_readNext_163 rfl 0 rfl ?_
  refine j_aload_n ok dX5_readNext_164 rfl 0 rfl ?_
  obtain ⟨v1, hv1, h⟩ := obind h
  refine k_getI ok fl_X5_24 hv1 dX5_readNext_165 ?_
  obtain ⟨kq2, h⟩ := ck_some h
  obtain ⟨q2, hq2, h⟩ := obind h
  refine k_V1 ok kl_X5_34 ⟨Nat.le_of_ble_eq_true rfl, Nat.le_of_ble_eq_true rfl⟩ [.int v1] kq2 rfl rfl (Nat.le_of_ble_eq_true rfl) (tX5_byteAt ok.fl X.V l0 v1 G hq2) dX5_readNext_168 ?_
  obtain ⟨q3, hq3, h⟩ := obind h
  refine k_S1 ok kl_X5_38 ⟨Nat.le_of_ble_eq_true rfl, Nat.le_of_ble_eq_true rfl⟩ [.int q2.1] rfl rfl (Nat.le_of_ble_eq_true rfl) (tX5_sortOf ok.fl X.V q2.1 q2.2 hq3) dX5_readNext_171 ?_
  refine j_aload_n ok dX5_readNext_174 rfl 0 rfl ?_
  obtain ⟨v4, hv4, h⟩ := obind h
  refine k_getI ok fl_X5_15 hv4 dX5_readNext_175 ?_
  rcases ite_some h with ⟨c5, h⟩ | ⟨c5, h⟩
  · refine j_icmp_ne (tgt := 185) ok dX5_readNext_178 (by decide) (fun z => absurd c5 z) (fun _ => ?_)
    refine j_iconst (v := 1) ok dX5_readNext_181 (by decide) ?_
    refine j_goto (tgt := 186) ok dX5_readNext_182 (by decide) ?_
    exact J.sub [0, 1] rfl (jX5_readNext_186 ok l0 l2 (1 : Int32) q3.2 h hK)
  · refine j_icmp_ne (tgt := 185) ok dX5_readNext_178 (by decide) (fun _ => ?_) (fun z => absurd z c5)
    exact J.sub [0, 1] rfl (jX5_readNext_185 ok l0 l2 q3.2 h hK)

def fX5_readNext_137 (l0 : Nat) (l2 : Int32)  (G : Mem) : Option (((Int32 × Int32) ⊕ Unit) × Mem) :=
  (gF G 15 l0 4).bind fun v1 =>
  (pI G 15 l0 4 (v1 + (1 : Int32))).bind fun G2 =>
  (gF G2 15 l0 1).bind fun v3 =>
  if v3 = (2 : Int32) then
    fX5_readNext_163 l0 l2 G2
  else
    (gF G2 15 l0 1).bind fun v5 =>
    if v5 = (3 : Int32) then
      fX5_readNext_163 l0 l2 G2
    else
      fX5_readNext_185 l0 l2 G2

set_option maxRecDepth 100000 in
set_option maxHeartbeats 4000000 in
theorem jX5_readNext_137 {X : Cx} (ok : OK X cX5_readNext RX5 none 3 1 120) (l0 : Nat) (l2 : Int32)  (G : Mem) {r : ((Int32 × Int32) ⊕ Unit)} {G' : Mem} (h : fX5_readNext_137 l0 l2 G = some (r, G')) (hK : (finL X 3 89 (fun s : Int32 × Int32 => [(0, .ref (X.B + l0)), (1, .int s.1), (2, .int s.2)]) (finV X)) r G') : J X 3 137 [(0, .ref (X.B + l0)), (2, .int l2)] [] G := by
  unfold fX5_readNext_137 at h
  refine j_aload_n ok dX5_readNext_137 rfl 0 rfl ?_
  refine j_dup ok dX5_readNext_138 rfl ?_
  obtain ⟨v1, hv1, h⟩ := obind h
  refine k_getI ok fl_X5_24 hv1 dX5_readNext_139 ?_
  refine j_iconst (v := 1) ok dX5_readNext_142 (by decide) ?_
  refine j_iadd ok dX5_readNext_143 ?_
  obtain ⟨G2, hG2, h⟩ := obind h
  refine k_putI ok fl_X5_24 fp_X5 rfl (Or.inl rfl) hG2 dX5_readNext_144 ?_
  refine j_aload_n ok dX5_readNext_147 rfl 0 rfl ?_
  obtain ⟨v3, hv3, h⟩ := obind h
  refine k_getI ok fl_X5_15 hv3 dX5_readNext_148 ?_
  refine j_iconst (v := 2) ok dX5_readNext_151 (by decide) ?_
  rcases ite_some h with ⟨c4, h⟩ | ⟨c4, h⟩
  · refine j_icmp_eq (tgt := 163) ok dX5_readNext_152 (by decide) (fun _ => ?_) (fun z => absurd c4 z)
    exact J.sub [0, 1] rfl (jX5_readNext_163 ok l0 l2 G2 h hK)
  · refine j_icmp_eq (tgt := 163) ok dX5_readNext_152 (by decide) (fun z => absurd z c4) (fun _ => ?_)
    refine j_aload_n ok dX5_readNext_155 rfl 0 rfl ?_
    obtain ⟨v5, hv5, h⟩ := obind h
    refine k_getI ok fl_X5_15 hv5 dX5_readNext_156 ?_
    refine j_iconst (v := 3) ok dX5_readNext_159 (by decide) ?_
    rcases ite_some h with ⟨c6, h⟩ | ⟨c6, h⟩
    · refine j_icmp_ne (tgt := 185) ok dX5_readNext_160 (by decide) (fun z => absurd c6 z) (fun _ => ?_)
      exact J.sub [0, 1] rfl (jX5_readNext_163 ok l0 l2 G2 h hK)
    · refine j_icmp_ne (tgt := 185) ok dX5_readNext_160 (by decide) (fun _ => ?_) (fun z => absurd z c6)
      exact J.sub [0, 1] rfl (jX5_readNext_185 ok l0 l2 G2 h hK)

def fX5_readNext_89 (l0 : Nat) (l1 : Int32) (l2 : Int32)  (G : Mem) : Option (((Int32 × Int32) ⊕ Unit) × Mem) :=
  if (600 : Int32) ≤ l2 then
    liftE (fX5_readNext_193 G)
  else
    if l1 = (0 : Int32) then
      liftE (fX5_readNext_193 G)
    else
      (gF G 15 l0 1).bind fun v3 =>
      if v3 = (3 : Int32) then
        (gF G 15 l0 3).bind fun v5 =>
        (gF G 15 l0 4).bind fun v6 =>
        ck G 15 l0 <| (fX5_byteAt l0 v6 G).bind fun q7 =>
        (pI q7.2 15 l0 3 (if (1000 : Int32) < ((((10 : Int32) * v5) + q7.1) - (48 : Int32)) then (1000 : Int32) else ((((10 : Int32) * v5) + q7.1) - (48 : Int32)))).bind fun G8 =>
        fX5_readNext_137 l0 l2 G8
      else
        fX5_readNext_137 l0 l2 G

set_option maxRecDepth 100000 in
set_option maxHeartbeats 4000000 in
theorem jX5_readNext_89 {X : Cx} (ok : OK X cX5_readNext RX5 none 3 1 120) (l0 : Nat) (l1 : Int32) (l2 : Int32)  (G : Mem) {r : ((Int32 × Int32) ⊕ Unit)} {G' : Mem} (h : fX5_readNext_89 l0 l1 l2 G = some (r, G')) (hK : (finL X 3 89 (fun s : Int32 × Int32 => [(0, .ref (X.B + l0)), (1, .int s.1), (2, .int s.2)]) (finV X)) r G') : J X 3 89 [(0, .ref (X.B + l0)), (1, .int l1), (2, .int l2)] [] G := by
  unfold fX5_readNext_89 at h
  refine j_iload_n ok dX5_readNext_89 rfl 2 rfl ?_
  refine j_sipush (v := 600) ok dX5_readNext_90 (by decide) ?_
  rcases ite_some h with ⟨c1, h⟩ | ⟨c1, h⟩
  · refine j_icmp_ge (tgt := 193) ok dX5_readNext_93 (by decide) (fun _ => ?_) (fun z => absurd c1 z)
    obtain ⟨r1, e1, h1⟩ := lift_some h
    subst e1
    exact J.sub [] rfl (jX5_readNext_193 ok G h1 hK)
  · refine j_icmp_ge (tgt := 193) ok dX5_readNext_93 (by decide) (fun z => absurd z c1) (fun _ => ?_)
    refine j_iload_n ok dX5_readNext_96 rfl 1 rfl ?_
    rcases ite_some h with ⟨c2, h⟩ | ⟨c2, h⟩
    · refine j_if_eq (tgt := 193) ok dX5_readNext_97 (by decide) (fun _ => ?_) (fun z => absurd c2 z)
      obtain ⟨r1, e1, h1⟩ := lift_some h
      subst e1
      exact J.sub [] rfl (jX5_readNext_193 ok G h1 hK)
    · refine j_if_eq (tgt := 193) ok dX5_readNext_97 (by decide) (fun z => absurd z c2) (fun _ => ?_)
      refine j_aload_n ok dX5_readNext_100 rfl 0 rfl ?_
      obtain ⟨v3, hv3, h⟩ := obind h
      refine k_getI ok fl_X5_15 hv3 dX5_readNext_101 ?_
      refine j_iconst (v := 3) ok dX5_readNext_104 (by decide) ?_
      rcases ite_some h with ⟨c4, h⟩ | ⟨c4, h⟩
      · refine j_icmp_ne (tgt := 137) ok dX5_readNext_105 (by decide) (fun z => absurd c4 z) (fun _ => ?_)
        refine j_aload_n ok dX5_readNext_108 rfl 0 rfl ?_
        refine j_bipush (v := 10) ok dX5_readNext_109 (by decide) ?_
        refine j_aload_n ok dX5_readNext_111 rfl 0 rfl ?_
        obtain ⟨v5, hv5, h⟩ := obind h
        refine k_getI ok fl_X5_21 hv5 dX5_readNext_112 ?_
        refine j_imul ok dX5_readNext_115 ?_
        refine j_aload_n ok dX5_readNext_116 rfl 0 rfl ?_
        refine j_aload_n ok dX5_readNext_117 rfl 0 rfl ?_
        obtain ⟨v6, hv6, h⟩ := obind h
        refine k_getI ok fl_X5_24 hv6 dX5_readNext_118 ?_
        obtain ⟨kq7, h⟩ := ck_some h
        obtain ⟨q7, hq7, h⟩ := obind h
        refine k_V1 ok kl_X5_34 ⟨Nat.le_of_ble_eq_true rfl, Nat.le_of_ble_eq_true rfl⟩ [.int v6] kq7 rfl rfl (Nat.le_of_ble_eq_true rfl) (tX5_byteAt ok.fl X.V l0 v6 G hq7) dX5_readNext_121 ?_
        refine j_iadd ok dX5_readNext_124 ?_
        refine j_bipush (v := 48) ok dX5_readNext_125 (by decide) ?_
        refine j_isub ok dX5_readNext_127 ?_
        refine j_sipush (v := 1000) ok dX5_readNext_128 (by decide) ?_
        refine k_mmin ok wm_X5_41 (Nat.le_of_ble_eq_true rfl) (Nat.le_of_ble_eq_true rfl) (Nat.le_of_ble_eq_true rfl) dX5_readNext_131 ?_
        obtain ⟨G8, hG8, h⟩ := obind h
        refine k_putI ok fl_X5_21 fp_X5 rfl (Or.inl rfl) hG8 dX5_readNext_134 ?_
        exact J.sub [0, 2] rfl (jX5_readNext_137 ok l0 l2 G8 h hK)
      · refine j_icmp_ne (tgt := 137) ok dX5_readNext_105 (by decide) (fun _ => ?_) (fun z => absurd z c4)
        exact J.sub [0, 2] rfl (jX5_readNext_137 ok l0 l2 G h hK)

def fX5_readNext_86 (l0 : Nat) (s0 : Int32) (G : Mem) : Option (Unit × Mem) :=
  loopM (fun (s : Int32 × Int32) G => fX5_readNext_89 l0 s.1 s.2 G) FU (s0, (0 : Int32)) G

set_option maxRecDepth 100000 in
set_option maxHeartbeats 4000000 in
theorem jX5_readNext_86 {X : Cx} (ok : OK X cX5_readNext RX5 none 3 1 120) (l0 : Nat) (s0 : Int32) (G : Mem) {r : Unit} {G' : Mem} (h : fX5_readNext_86 l0 s0 G = some (r, G')) (hK : (finV X) r G') : J X 3 86 [(0, .ref (X.B + l0))] [.int s0] G := by
  unfold fX5_readNext_86 at h
  refine j_istore_n (L' := [(1, .int s0), (0, .ref (X.B + l0))]) ok dX5_readNext_86 rfl (by decide) rfl ?_
  refine j_iconst (v := 0) ok dX5_readNext_87 (by decide) ?_
  refine j_istore_n (L' := [(2, .int (0 : Int32)), (1, .int s0), (0, .ref (X.B + l0))]) ok dX5_readNext_88 rfl (by decide) rfl ?_
  have hJ : J X 3 89 [(0, .ref (X.B + l0)), (1, .int s0), (2, .int (0 : Int32))] [] G := j_loop (loc := fun s : Int32 × Int32 => [(0, .ref (X.B + l0)), (1, .int s.1), (2, .int s.2)]) (F := (finV X)) (fun s G r G' hb hk => jX5_readNext_89 ok l0 s.1 s.2 G hb hk) _ _ _ _ _ h hK
  exact J.sub [2, 1, 0] rfl hJ

def fX5_readNext_46 (l0 : Nat)  (G : Mem) : Option (Unit × Mem) :=
  (gF G 15 l0 2).bind fun v1 =>
  (pI G 15 l0 4 v1).bind fun G2 =>
  (gF G2 15 l0 2).bind fun v3 =>
  ck G2 15 l0 <| (fX5_byteAt l0 v3 G2).bind fun q4 =>
  (fX5_sortOf q4.1 q4.2).bind fun q5 =>
  (pI q5.2 15 l0 1 q5.1).bind fun G6 =>
  (pI G6 15 l0 3 (0 : Int32)).bind fun G7 =>
  (gF G7 15 l0 1).bind fun v8 =>
  if v8 = (0 : Int32) then
    fX5_readNext_86 l0 (0 : Int32) G7
  else
    fX5_readNext_86 l0 (1 : Int32) G7

set_option maxRecDepth 100000 in
set_option maxHeartbeats 4000000 in
theorem jX5_readNext_46 {X : Cx} (ok : OK X cX5_readNext RX5 none 3 1 120) (l0 : Nat)  (G : Mem) {r : Unit} {G' : Mem} (h : fX5_readNext_46 l0 G = some (r, G')) (hK : (finV X) r G') : J X 3 46 [(0, .ref (X.B + l0))] [] G := by
  unfold fX5_readNext_46 at h
  refine j_aload_n ok dX5_readNext_46 rfl 0 rfl ?_
  refine j_aload_n ok dX5_readNext_47 rfl 0 rfl ?_
  obtain ⟨v1, hv1, h⟩ := obind h
  refine k_getI ok fl_X5_18 hv1 dX5_readNext_48 ?_
  obtain ⟨G2, hG2, h⟩ := obind h
  refine k_putI ok fl_X5_24 fp_X5 rfl (Or.inl rfl) hG2 dX5_readNext_51 ?_
  refine j_aload_n ok dX5_readNext_54 rfl 0 rfl ?_
  refine j_aload_n ok dX5_readNext_55 rfl 0 rfl ?_
  refine j_aload_n ok dX5_readNext_56 rfl 0 rfl ?_
  obtain ⟨v3, hv3, h⟩ := obind h
  refine k_getI ok fl_X5_18 hv3 dX5_readNext_57 ?_
  obtain ⟨kq4, h⟩ := ck_some h
  obtain ⟨q4, hq4, h⟩ := obind h
  refine k_V1 ok kl_X5_34 ⟨Nat.le_of_ble_eq_true rfl, Nat.le_of_ble_eq_true rfl⟩ [.int v3] kq4 rfl rfl (Nat.le_of_ble_eq_true rfl) (tX5_byteAt ok.fl X.V l0 v3 G2 hq4) dX5_readNext_60 ?_
  obtain ⟨q5, hq5, h⟩ := obind h
  refine k_S1 ok kl_X5_38 ⟨Nat.le_of_ble_eq_true rfl, Nat.le_of_ble_eq_true rfl⟩ [.int q4.1] rfl rfl (Nat.le_of_ble_eq_true rfl) (tX5_sortOf ok.fl X.V q4.1 q4.2 hq5) dX5_readNext_63 ?_
  obtain ⟨G6, hG6, h⟩ := obind h
  refine k_putI ok fl_X5_15 fp_X5 rfl (Or.inl rfl) hG6 dX5_readNext_66 ?_
  refine j_aload_n ok dX5_readNext_69 rfl 0 rfl ?_
  refine j_iconst (v := 0) ok dX5_readNext_70 (by decide) ?_
  obtain ⟨G7, hG7, h⟩ := obind h
  refine k_putI ok fl_X5_21 fp_X5 rfl (Or.inl rfl) hG7 dX5_readNext_71 ?_
  refine j_aload_n ok dX5_readNext_74 rfl 0 rfl ?_
  obtain ⟨v8, hv8, h⟩ := obind h
  refine k_getI ok fl_X5_15 hv8 dX5_readNext_75 ?_
  rcases ite_some h with ⟨c9, h⟩ | ⟨c9, h⟩
  · refine j_if_eq (tgt := 85) ok dX5_readNext_78 (by decide) (fun _ => ?_) (fun z => absurd c9 z)
    refine j_iconst (v := 0) ok dX5_readNext_85 (by decide) ?_
    exact J.sub [0] rfl (jX5_readNext_86 ok l0 (0 : Int32) G7 h hK)
  · refine j_if_eq (tgt := 85) ok dX5_readNext_78 (by decide) (fun z => absurd z c9) (fun _ => ?_)
    refine j_iconst (v := 1) ok dX5_readNext_81 (by decide) ?_
    refine j_goto (tgt := 86) ok dX5_readNext_82 (by decide) ?_
    exact J.sub [0] rfl (jX5_readNext_86 ok l0 (1 : Int32) G7 h hK)

def fX5_readNext_10 (l0 : Nat) (l1 : Int32)  (G : Mem) : Option (((Int32) ⊕ Unit) × Mem) :=
  if (600 : Int32) ≤ l1 then
    liftE (fX5_readNext_46 l0 G)
  else
    (gF G 15 l0 2).bind fun v2 =>
    ck G 15 l0 <| (fX5_byteAt l0 v2 G).bind fun q3 =>
    if q3.1 = (32 : Int32) then
      (gF q3.2 15 l0 2).bind fun v5 =>
      (pI q3.2 15 l0 2 (v5 + (1 : Int32))).bind fun G6 =>
      some (.inl ((l1 + (1 : Int32))), G6)
    else
      liftE (fX5_readNext_46 l0 q3.2)

set_option maxRecDepth 100000 in
set_option maxHeartbeats 4000000 in
theorem jX5_readNext_10 {X : Cx} (ok : OK X cX5_readNext RX5 none 3 1 120) (l0 : Nat) (l1 : Int32)  (G : Mem) {r : ((Int32) ⊕ Unit)} {G' : Mem} (h : fX5_readNext_10 l0 l1 G = some (r, G')) (hK : (finL X 3 10 (fun s : Int32 => [(0, .ref (X.B + l0)), (1, .int s)]) (finV X)) r G') : J X 3 10 [(0, .ref (X.B + l0)), (1, .int l1)] [] G := by
  unfold fX5_readNext_10 at h
  refine j_iload_n ok dX5_readNext_10 rfl 1 rfl ?_
  refine j_sipush (v := 600) ok dX5_readNext_11 (by decide) ?_
  rcases ite_some h with ⟨c1, h⟩ | ⟨c1, h⟩
  · refine j_icmp_ge (tgt := 46) ok dX5_readNext_14 (by decide) (fun _ => ?_) (fun z => absurd c1 z)
    obtain ⟨r1, e1, h1⟩ := lift_some h
    subst e1
    exact J.sub [0] rfl (jX5_readNext_46 ok l0 G h1 hK)
  · refine j_icmp_ge (tgt := 46) ok dX5_readNext_14 (by decide) (fun z => absurd z c1) (fun _ => ?_)
    refine j_aload_n ok dX5_readNext_17 rfl 0 rfl ?_
    refine j_aload_n ok dX5_readNext_18 rfl 0 rfl ?_
    obtain ⟨v2, hv2, h⟩ := obind h
    refine k_getI ok fl_X5_18 hv2 dX5_readNext_19 ?_
    obtain ⟨kq3, h⟩ := ck_some h
    obtain ⟨q3, hq3, h⟩ := obind h
    refine k_V1 ok kl_X5_34 ⟨Nat.le_of_ble_eq_true rfl, Nat.le_of_ble_eq_true rfl⟩ [.int v2] kq3 rfl rfl (Nat.le_of_ble_eq_true rfl) (tX5_byteAt ok.fl X.V l0 v2 G hq3) dX5_readNext_22 ?_
    refine j_bipush (v := 32) ok dX5_readNext_25 (by decide) ?_
    rcases ite_some h with ⟨c4, h⟩ | ⟨c4, h⟩
    · refine j_icmp_ne (tgt := 46) ok dX5_readNext_27 (by decide) (fun z => absurd c4 z) (fun _ => ?_)
      refine j_aload_n ok dX5_readNext_30 rfl 0 rfl ?_
      refine j_dup ok dX5_readNext_31 rfl ?_
      obtain ⟨v5, hv5, h⟩ := obind h
      refine k_getI ok fl_X5_18 hv5 dX5_readNext_32 ?_
      refine j_iconst (v := 1) ok dX5_readNext_35 (by decide) ?_
      refine j_iadd ok dX5_readNext_36 ?_
      obtain ⟨G6, hG6, h⟩ := obind h
      refine k_putI ok fl_X5_18 fp_X5 rfl (Or.inl rfl) hG6 dX5_readNext_37 ?_
      refine j_iinc (L' := [(1, .int (l1 + (1 : Int32))), (0, .ref (X.B + l0))]) (v := (l1 + (1 : Int32))) ok dX5_readNext_40 (q := 1) rfl rfl (by decide) rfl ?_
      refine j_goto (tgt := 10) ok dX5_readNext_43 (by decide) ?_
      obtain ⟨er, eG⟩ := inj2 h
      subst er; subst eG
      have hJ : J X 3 10 [(0, .ref (X.B + l0)), (1, .int (l1 + (1 : Int32)))] [] G6 := hK
      exact J.sub [1, 0] rfl hJ
    · refine j_icmp_ne (tgt := 46) ok dX5_readNext_27 (by decide) (fun _ => ?_) (fun z => absurd z c4)
      obtain ⟨r1, e1, h1⟩ := lift_some h
      subst e1
      exact J.sub [0] rfl (jX5_readNext_46 ok l0 q3.2 h1 hK)

def fX5_readNext_0 (l0 : Nat)  (G : Mem) : Option (Unit × Mem) :=
  (gF G 15 l0 4).bind fun v1 =>
  (pI G 15 l0 2 v1).bind fun G2 =>
  loopM (fun (s : Int32) G => fX5_readNext_10 l0 s G) FU ((0 : Int32)) G2

set_option maxRecDepth 100000 in
set_option maxHeartbeats 4000000 in
theorem jX5_readNext_0 {X : Cx} (ok : OK X cX5_readNext RX5 none 3 1 120) (l0 : Nat)  (G : Mem) {r : Unit} {G' : Mem} (h : fX5_readNext_0 l0 G = some (r, G')) (hK : (finV X) r G') : J X 3 0 [(0, .ref (X.B + l0))] [] G := by
  unfold fX5_readNext_0 at h
  refine j_aload_n ok dX5_readNext_0 rfl 0 rfl ?_
  refine j_aload_n ok dX5_readNext_1 rfl 0 rfl ?_
  obtain ⟨v1, hv1, h⟩ := obind h
  refine k_getI ok fl_X5_24 hv1 dX5_readNext_2 ?_
  obtain ⟨G2, hG2, h⟩ := obind h
  refine k_putI ok fl_X5_18 fp_X5 rfl (Or.inl rfl) hG2 dX5_readNext_5 ?_
  refine j_iconst (v := 0) ok dX5_readNext_8 (by decide) ?_
  refine j_istore_n (L' := [(1, .int (0 : Int32)), (0, .ref (X.B + l0))]) ok dX5_readNext_9 rfl (by decide) rfl ?_
  have hJ : J X 3 10 [(0, .ref (X.B + l0)), (1, .int (0 : Int32))] [] G2 := j_loop (loc := fun s : Int32 => [(0, .ref (X.B + l0)), (1, .int s)]) (F := (finV X)) (fun s G r G' hb hk => jX5_readNext_10 ok l0 s G hb hk) _ _ _ _ _ h hK
  exact J.sub [1, 0] rfl hJ

def fX5_readNext (l0 : Nat) (G : Mem) : Option (Unit × Mem) := fX5_readNext_0 l0 G
set_option maxRecDepth 100000 in
theorem tX5_readNext {l : Launch} (hfl : l.stackTraces = false) (V : Wd) (l0 : Nat) (G : Mem) {r : Unit} {G' : Mem} (h : fX5_readNext l0 G = some (r, G')) : Mx l yX5_readNext cX5_readNext 3 none 1 120 V [.ref (V.B + l0)] G (.inl none) G' :=
  mx_of (L := [(0, .ref (V.B + l0))]) hfl (by decide +kernel) (Nat.le_of_ble_eq_true rfl) rfl (fun X hl hV hin ok he => by
    subst hl; subst hV
    exact J.sub [0] rfl (jX5_readNext_0 ok l0 G h he))
def fX5_readFirst_0 (l0 : Nat)  (G : Mem) : Option (Unit × Mem) :=
  (pI G 15 l0 4 (0 : Int32)).bind fun G1 =>
  ck G1 15 l0 <| (fX5_readNext l0 G1).bind fun q2 =>
  some ((), q2.2)

set_option maxRecDepth 100000 in
set_option maxHeartbeats 4000000 in
theorem jX5_readFirst_0 {X : Cx} (ok : OK X cX5_readFirst RX5 none 1 2 142) (l0 : Nat)  (G : Mem) {r : Unit} {G' : Mem} (h : fX5_readFirst_0 l0 G = some (r, G')) (hK : (finV X) r G') : J X 1 0 [(0, .ref (X.B + l0))] [] G := by
  unfold fX5_readFirst_0 at h
  refine j_aload_n ok dX5_readFirst_0 rfl 0 rfl ?_
  refine j_iconst (v := 0) ok dX5_readFirst_1 (by decide) ?_
  obtain ⟨G1, hG1, h⟩ := obind h
  refine k_putI ok fl_X5_24 fp_X5 rfl (Or.inl rfl) hG1 dX5_readFirst_2 ?_
  refine j_aload_n ok dX5_readFirst_5 rfl 0 rfl ?_
  obtain ⟨kq2, h⟩ := ck_some h
  obtain ⟨q2, hq2, h⟩ := obind h
  refine k_V0 ok kl_X5_31 ⟨Nat.le_of_ble_eq_true rfl, Nat.le_of_ble_eq_true rfl⟩ [] kq2 rfl rfl (Nat.le_of_ble_eq_true rfl) (tX5_readNext ok.fl X.V l0 G1 hq2) dX5_readFirst_6 ?_
  obtain ⟨er, eG⟩ := inj2 h
  subst er; subst eG
  exact j_vret ok rfl dX5_readFirst_9 hK

def fX5_readFirst (l0 : Nat) (G : Mem) : Option (Unit × Mem) := fX5_readFirst_0 l0 G
set_option maxRecDepth 100000 in
theorem tX5_readFirst {l : Launch} (hfl : l.stackTraces = false) (V : Wd) (l0 : Nat) (G : Mem) {r : Unit} {G' : Mem} (h : fX5_readFirst l0 G = some (r, G')) : Mx l yX5_readFirst cX5_readFirst 1 none 2 142 V [.ref (V.B + l0)] G (.inl none) G' :=
  mx_of (L := [(0, .ref (V.B + l0))]) hfl (by decide +kernel) (Nat.le_of_ble_eq_true rfl) rfl (fun X hl hV hin ok he => by
    subst hl; subst hV
    exact J.sub [0] rfl (jX5_readFirst_0 ok l0 G h he))
def fX2_begin_0 (l0 : Nat)  (G : Mem) : Option (Unit × Mem) :=
  (pI G 12 l0 1 (0 : Int32)).bind fun G1 =>
  (pI G1 12 l0 2 (-1 : Int32)).bind fun G2 =>
  (pI G2 12 l0 3 (0 : Int32)).bind fun G3 =>
  (pI G3 12 l0 4 (0 : Int32)).bind fun G4 =>
  (pI G4 12 l0 10 (0 : Int32)).bind fun G5 =>
  (gR G5 12 l0 0).bind fun v6 =>
  ck G5 15 v6 <| (fX5_readFirst v6 G5).bind fun q7 =>
  some ((), q7.2)

set_option maxRecDepth 100000 in
set_option maxHeartbeats 4000000 in
theorem jX2_begin_0 {X : Cx} (ok : OK X cX2_begin RX2 none 1 3 162) (l0 : Nat)  (G : Mem) {r : Unit} {G' : Mem} (h : fX2_begin_0 l0 G = some (r, G')) (hK : (finV X) r G') : J X 1 0 [(0, .ref (X.B + l0))] [] G := by
  unfold fX2_begin_0 at h
  refine j_aload_n ok dX2_begin_0 rfl 0 rfl ?_
  refine j_iconst (v := 0) ok dX2_begin_1 (by decide) ?_
  obtain ⟨G1, hG1, h⟩ := obind h
  refine k_putI ok fl_X2_18 fp_X2 rfl (Or.inl rfl) hG1 dX2_begin_2 ?_
  refine j_aload_n ok dX2_begin_5 rfl 0 rfl ?_
  refine j_iconst (v := -1) ok dX2_begin_6 (by decide) ?_
  obtain ⟨G2, hG2, h⟩ := obind h
  refine k_putI ok fl_X2_22 fp_X2 rfl (Or.inl rfl) hG2 dX2_begin_7 ?_
  refine j_aload_n ok dX2_begin_10 rfl 0 rfl ?_
  refine j_iconst (v := 0) ok dX2_begin_11 (by decide) ?_
  obtain ⟨G3, hG3, h⟩ := obind h
  refine k_putI ok fl_X2_25 fp_X2 rfl (Or.inl rfl) hG3 dX2_begin_12 ?_
  refine j_aload_n ok dX2_begin_15 rfl 0 rfl ?_
  refine j_iconst (v := 0) ok dX2_begin_16 (by decide) ?_
  obtain ⟨G4, hG4, h⟩ := obind h
  refine k_putI ok fl_X2_28 fp_X2 rfl (Or.inl rfl) hG4 dX2_begin_17 ?_
  refine j_aload_n ok dX2_begin_20 rfl 0 rfl ?_
  refine j_iconst (v := 0) ok dX2_begin_21 (by decide) ?_
  obtain ⟨G5, hG5, h⟩ := obind h
  refine k_putI ok fl_X2_50 fp_X2 rfl (Or.inl rfl) hG5 dX2_begin_22 ?_
  refine j_aload_n ok dX2_begin_25 rfl 0 rfl ?_
  obtain ⟨v6, hv6, h⟩ := obind h
  refine k_getR ok fl_X2_12 hv6 dX2_begin_26 ?_
  obtain ⟨kq7, h⟩ := ck_some h
  obtain ⟨q7, hq7, h⟩ := obind h
  refine k_V0 ok kl_X2_53 ⟨Nat.le_of_ble_eq_true rfl, Nat.le_of_ble_eq_true rfl⟩ [] kq7 rfl rfl (Nat.le_of_ble_eq_true rfl) (tX5_readFirst ok.fl X.V v6 G5 hq7) dX2_begin_29 ?_
  obtain ⟨er, eG⟩ := inj2 h
  subst er; subst eG
  exact j_vret ok rfl dX2_begin_32 hK

def fX2_begin (l0 : Nat) (G : Mem) : Option (Unit × Mem) := fX2_begin_0 l0 G
set_option maxRecDepth 100000 in
theorem tX2_begin {l : Launch} (hfl : l.stackTraces = false) (V : Wd) (l0 : Nat) (G : Mem) {r : Unit} {G' : Mem} (h : fX2_begin l0 G = some (r, G')) : Mx l yX2_begin cX2_begin 1 none 3 162 V [.ref (V.B + l0)] G (.inl none) G' :=
  mx_of (L := [(0, .ref (V.B + l0))]) hfl (by decide +kernel) (Nat.le_of_ble_eq_true rfl) rfl (fun X hl hV hin ok he => by
    subst hl; subst hV
    exact J.sub [0] rfl (jX2_begin_0 ok l0 G h he))
def fX2_rejectAt_0 (l0 : Nat) (l1 : Int32) (l2 : Int32)  (G : Mem) : Option (Int32 × Mem) :=
  (pI G 12 l0 1 l2).bind fun G1 =>
  (pI G1 12 l0 2 l1).bind fun G2 =>
  some ((0 : Int32), G2)

set_option maxRecDepth 100000 in
set_option maxHeartbeats 4000000 in
theorem jX2_rejectAt_0 {X : Cx} (ok : OK X cX2_rejectAt RX2 (some .boolean) 3 0 0) (l0 : Nat) (l1 : Int32) (l2 : Int32)  (G : Mem) {r : Int32} {G' : Mem} (h : fX2_rejectAt_0 l0 l1 l2 G = some (r, G')) (hK : (finI X) r G') : J X 3 0 [(0, .ref (X.B + l0)), (1, .int l1), (2, .int l2)] [] G := by
  unfold fX2_rejectAt_0 at h
  refine j_aload_n ok dX2_rejectAt_0 rfl 0 rfl ?_
  refine j_iload_n ok dX2_rejectAt_1 rfl 2 rfl ?_
  obtain ⟨G1, hG1, h⟩ := obind h
  refine k_putI ok fl_X2_18 fp_X2 rfl (Or.inl rfl) hG1 dX2_rejectAt_2 ?_
  refine j_aload_n ok dX2_rejectAt_5 rfl 0 rfl ?_
  refine j_iload_n ok dX2_rejectAt_6 rfl 1 rfl ?_
  obtain ⟨G2, hG2, h⟩ := obind h
  refine k_putI ok fl_X2_22 fp_X2 rfl (Or.inl rfl) hG2 dX2_rejectAt_7 ?_
  refine j_iconst (v := 0) ok dX2_rejectAt_10 (by decide) ?_
  obtain ⟨er, eG⟩ := inj2 h
  subst er; subst eG
  exact j_zret ok rfl (Or.inl rfl) dX2_rejectAt_11 hK

def fX2_rejectAt (l0 : Nat) (l1 : Int32) (l2 : Int32) (G : Mem) : Option (Int32 × Mem) := fX2_rejectAt_0 l0 l1 l2 G
set_option maxRecDepth 100000 in
theorem tX2_rejectAt {l : Launch} (hfl : l.stackTraces = false) (V : Wd) (l0 : Nat) (l1 : Int32) (l2 : Int32) (G : Mem) {r : Int32} {G' : Mem} (h : fX2_rejectAt l0 l1 l2 G = some (r, G')) : Mx l yX2_rejectAt cX2_rejectAt 3 (some .boolean) 0 0 V [.ref (V.B + l0), .int l1, .int l2] G (.inl (some (.int r))) G' :=
  mx_of (L := [(0, .ref (V.B + l0)), (1, .int l1), (2, .int l2)]) hfl (by decide +kernel) (Nat.le_of_ble_eq_true rfl) rfl (fun X hl hV hin ok he => by
    subst hl; subst hV
    exact J.sub [0, 1, 2] rfl (jX2_rejectAt_0 ok l0 l1 l2 G h he))
def fX2_reject_0 (l0 : Nat) (l1 : Int32)  (G : Mem) : Option (Int32 × Mem) :=
  (gR G 12 l0 0).bind fun v1 =>
  (gF G 15 v1 2).bind fun v2 =>
  ck G 12 l0 <| (fX2_rejectAt l0 v2 l1 G).bind fun q3 =>
  rz q3.1 <|
  some (q3.1, q3.2)

set_option maxRecDepth 100000 in
set_option maxHeartbeats 4000000 in
theorem jX2_reject_0 {X : Cx} (ok : OK X cX2_reject RX2 (some .boolean) 2 1 22) (l0 : Nat) (l1 : Int32)  (G : Mem) {r : Int32} {G' : Mem} (h : fX2_reject_0 l0 l1 G = some (r, G')) (hK : (finI X) r G') : J X 2 0 [(0, .ref (X.B + l0)), (1, .int l1)] [] G := by
  unfold fX2_reject_0 at h
  refine j_aload_n ok dX2_reject_0 rfl 0 rfl ?_
  refine j_aload_n ok dX2_reject_1 rfl 0 rfl ?_
  obtain ⟨v1, hv1, h⟩ := obind h
  refine k_getR ok fl_X2_12 hv1 dX2_reject_2 ?_
  obtain ⟨v2, hv2, h⟩ := obind h
  refine k_getI ok fl_X2_128 hv2 dX2_reject_5 ?_
  refine j_iload_n ok dX2_reject_8 rfl 1 rfl ?_
  obtain ⟨kq3, h⟩ := ck_some h
  obtain ⟨q3, hq3, h⟩ := obind h
  refine k_V1 ok kl_X2_137 ⟨Nat.le_of_ble_eq_true rfl, Nat.le_of_ble_eq_true rfl⟩ [.int v2, .int l1] kq3 rfl rfl (Nat.le_of_ble_eq_true rfl) (tX2_rejectAt ok.fl X.V l0 v2 l1 G hq3) dX2_reject_9 ?_
  obtain ⟨hz4, h⟩ := rz_some h
  obtain ⟨er, eG⟩ := inj2 h
  subst er; subst eG
  exact j_zret ok rfl hz4 dX2_reject_12 hK

def fX2_reject (l0 : Nat) (l1 : Int32) (G : Mem) : Option (Int32 × Mem) := fX2_reject_0 l0 l1 G
set_option maxRecDepth 100000 in
theorem tX2_reject {l : Launch} (hfl : l.stackTraces = false) (V : Wd) (l0 : Nat) (l1 : Int32) (G : Mem) {r : Int32} {G' : Mem} (h : fX2_reject l0 l1 G = some (r, G')) : Mx l yX2_reject cX2_reject 2 (some .boolean) 1 22 V [.ref (V.B + l0), .int l1] G (.inl (some (.int r))) G' :=
  mx_of (L := [(0, .ref (V.B + l0)), (1, .int l1)]) hfl (by decide +kernel) (Nat.le_of_ble_eq_true rfl) rfl (fun X hl hV hin ok he => by
    subst hl; subst hV
    exact J.sub [0, 1] rfl (jX2_reject_0 ok l0 l1 G h he))
def fX2_endCommand_0 (l0 : Nat) (l1 : Int32)  (G : Mem) : Option (Int32 × Mem) :=
  if l1 = (0 : Int32) then
    ck G 12 l0 <| (fX2_reject l0 (6 : Int32) G).bind fun q2 =>
    rz q2.1 <|
    some (q2.1, q2.2)
  else
    (gF G 12 l0 4).bind fun v2 =>
    (pI G 12 l0 4 (v2 + (1 : Int32))).bind fun G3 =>
    (gR G3 12 l0 0).bind fun v4 =>
    ck G3 15 v4 <| (fX5_readNext v4 G3).bind fun q5 =>
    some ((1 : Int32), q5.2)

set_option maxRecDepth 100000 in
set_option maxHeartbeats 4000000 in
theorem jX2_endCommand_0 {X : Cx} (ok : OK X cX2_endCommand RX2 (some .boolean) 2 2 142) (l0 : Nat) (l1 : Int32)  (G : Mem) {r : Int32} {G' : Mem} (h : fX2_endCommand_0 l0 l1 G = some (r, G')) (hK : (finI X) r G') : J X 2 0 [(0, .ref (X.B + l0)), (1, .int l1)] [] G := by
  unfold fX2_endCommand_0 at h
  refine j_iload_n ok dX2_endCommand_0 rfl 1 rfl ?_
  rcases ite_some h with ⟨c1, h⟩ | ⟨c1, h⟩
  · refine j_if_ne (tgt := 11) ok dX2_endCommand_1 (by decide) (fun z => absurd c1 z) (fun _ => ?_)
    refine j_aload_n ok dX2_endCommand_4 rfl 0 rfl ?_
    refine j_bipush (v := 6) ok dX2_endCommand_5 (by decide) ?_
    obtain ⟨kq2, h⟩ := ck_some h
    obtain ⟨q2, hq2, h⟩ := obind h
    refine k_V1 ok kl_X2_67 ⟨Nat.le_of_ble_eq_true rfl, Nat.le_of_ble_eq_true rfl⟩ [.int (6 : Int32)] kq2 rfl rfl (Nat.le_of_ble_eq_true rfl) (tX2_reject ok.fl X.V l0 (6 : Int32) G hq2) dX2_endCommand_7 ?_
    obtain ⟨hz3, h⟩ := rz_some h
    obtain ⟨er, eG⟩ := inj2 h
    subst er; subst eG
    exact j_zret ok rfl hz3 dX2_endCommand_10 hK
  · refine j_if_ne (tgt := 11) ok dX2_endCommand_1 (by decide) (fun _ => ?_) (fun z => absurd z c1)
    refine j_aload_n ok dX2_endCommand_11 rfl 0 rfl ?_
    refine j_dup ok dX2_endCommand_12 rfl ?_
    obtain ⟨v2, hv2, h⟩ := obind h
    refine k_getI ok fl_X2_28 hv2 dX2_endCommand_13 ?_
    refine j_iconst (v := 1) ok dX2_endCommand_16 (by decide) ?_
    refine j_iadd ok dX2_endCommand_17 ?_
    obtain ⟨G3, hG3, h⟩ := obind h
    refine k_putI ok fl_X2_28 fp_X2 rfl (Or.inl rfl) hG3 dX2_endCommand_18 ?_
    refine j_aload_n ok dX2_endCommand_21 rfl 0 rfl ?_
    obtain ⟨v4, hv4, h⟩ := obind h
    refine k_getR ok fl_X2_12 hv4 dX2_endCommand_22 ?_
    obtain ⟨kq5, h⟩ := ck_some h
    obtain ⟨q5, hq5, h⟩ := obind h
    refine k_V0 ok kl_X2_96 ⟨Nat.le_of_ble_eq_true rfl, Nat.le_of_ble_eq_true rfl⟩ [] kq5 rfl rfl (Nat.le_of_ble_eq_true rfl) (tX5_readNext ok.fl X.V v4 G3 hq5) dX2_endCommand_25 ?_
    refine j_iconst (v := 1) ok dX2_endCommand_28 (by decide) ?_
    obtain ⟨er, eG⟩ := inj2 h
    subst er; subst eG
    exact j_zret ok rfl (Or.inr rfl) dX2_endCommand_29 hK

def fX2_endCommand (l0 : Nat) (l1 : Int32) (G : Mem) : Option (Int32 × Mem) := fX2_endCommand_0 l0 l1 G
set_option maxRecDepth 100000 in
theorem tX2_endCommand {l : Launch} (hfl : l.stackTraces = false) (V : Wd) (l0 : Nat) (l1 : Int32) (G : Mem) {r : Int32} {G' : Mem} (h : fX2_endCommand l0 l1 G = some (r, G')) : Mx l yX2_endCommand cX2_endCommand 2 (some .boolean) 2 142 V [.ref (V.B + l0), .int l1] G (.inl (some (.int r))) G' :=
  mx_of (L := [(0, .ref (V.B + l0)), (1, .int l1)]) hfl (by decide +kernel) (Nat.le_of_ble_eq_true rfl) rfl (fun X hl hV hin ok he => by
    subst hl; subst hV
    exact J.sub [0, 1] rfl (jX2_endCommand_0 ok l0 l1 G h he))
def fX5_init_0 (l0 : Nat)  (G : Mem) : Option (Unit × Mem) :=
  (pI G 15 l0 0 (0 : Int32)).bind fun G1 =>
  (pI G1 15 l0 1 (0 : Int32)).bind fun G2 =>
  (pI G2 15 l0 2 (0 : Int32)).bind fun G3 =>
  (pI G3 15 l0 3 (0 : Int32)).bind fun G4 =>
  (pI G4 15 l0 4 (0 : Int32)).bind fun G5 =>
  (nA G5 2 (600 : Int32)).bind fun q6 =>
  (pR q6.2 15 l0 5 q6.1).bind fun G7 =>
  some ((), G7)

set_option maxRecDepth 100000 in
set_option maxHeartbeats 4000000 in
theorem jX5_init_0 {X : Cx} (ok : OK X cX5_init RX5 none 1 1 120) (hin : X.meth.name = "<init>") (l0 : Nat)  (G : Mem) {r : Unit} {G' : Mem} (h : fX5_init_0 l0 G = some (r, G')) (hK : (finV X) r G') : J X 1 0 [(0, .ref (X.B + l0))] [] G := by
  unfold fX5_init_0 at h
  refine j_aload_n ok dX5_init_0 rfl 0 rfl ?_
  refine k_objI ok wm_X5_3 (Nat.le_of_ble_eq_true rfl) (Nat.le_of_ble_eq_true rfl) (Nat.le_of_ble_eq_true rfl) dX5_init_1 ?_
  refine j_aload_n ok dX5_init_4 rfl 0 rfl ?_
  refine j_iconst (v := 0) ok dX5_init_5 (by decide) ?_
  obtain ⟨G1, hG1, h⟩ := obind h
  refine k_putI ok fl_X5_9 fp_X5 rfl (Or.inl rfl) hG1 dX5_init_6 ?_
  refine j_aload_n ok dX5_init_9 rfl 0 rfl ?_
  refine j_iconst (v := 0) ok dX5_init_10 (by decide) ?_
  obtain ⟨G2, hG2, h⟩ := obind h
  refine k_putI ok fl_X5_15 fp_X5 rfl (Or.inl rfl) hG2 dX5_init_11 ?_
  refine j_aload_n ok dX5_init_14 rfl 0 rfl ?_
  refine j_iconst (v := 0) ok dX5_init_15 (by decide) ?_
  obtain ⟨G3, hG3, h⟩ := obind h
  refine k_putI ok fl_X5_18 fp_X5 rfl (Or.inl rfl) hG3 dX5_init_16 ?_
  refine j_aload_n ok dX5_init_19 rfl 0 rfl ?_
  refine j_iconst (v := 0) ok dX5_init_20 (by decide) ?_
  obtain ⟨G4, hG4, h⟩ := obind h
  refine k_putI ok fl_X5_21 fp_X5 rfl (Or.inl rfl) hG4 dX5_init_21 ?_
  refine j_aload_n ok dX5_init_24 rfl 0 rfl ?_
  refine j_iconst (v := 0) ok dX5_init_25 (by decide) ?_
  obtain ⟨G5, hG5, h⟩ := obind h
  refine k_putI ok fl_X5_24 fp_X5 rfl (Or.inl rfl) hG5 dX5_init_26 ?_
  refine j_aload_n ok dX5_init_29 rfl 0 rfl ?_
  refine j_sipush (v := 600) ok dX5_init_30 (by decide) ?_
  obtain ⟨q6, hq6, h⟩ := obind h
  refine k_newaT ok (t := 2) (Or.inr (Or.inl ⟨rfl, rfl⟩)) wa_2 hq6 dX5_init_33 ?_
  obtain ⟨G7, hG7, h⟩ := obind h
  refine k_putR ok fl_X5_27 fp_X5 rfl (Or.inr ⟨_, rfl⟩) (Or.inr ⟨rfl, hin, rfl⟩) hG7 dX5_init_35 ?_
  obtain ⟨er, eG⟩ := inj2 h
  subst er; subst eG
  exact j_vret ok rfl dX5_init_38 hK

def fX5_init (l0 : Nat) (G : Mem) : Option (Unit × Mem) := fX5_init_0 l0 G
set_option maxRecDepth 100000 in
theorem tX5_init {l : Launch} (hfl : l.stackTraces = false) (V : Wd) (l0 : Nat) (G : Mem) {r : Unit} {G' : Mem} (h : fX5_init l0 G = some (r, G')) : Mx l yX5_init cX5_init 1 none 1 120 V [.ref (V.B + l0)] G (.inl none) G' :=
  mx_of (L := [(0, .ref (V.B + l0))]) hfl (by decide +kernel) (Nat.le_of_ble_eq_true rfl) rfl (fun X hl hV hin ok he => by
    subst hl; subst hV
    exact J.sub [0] rfl (jX5_init_0 ok (hin rfl) l0 G h he))
def fX2_init_0 (l0 : Nat)  (G : Mem) : Option (Unit × Mem) :=
  (nO G 15 6).bind fun q1 =>
  (fX5_init q1.1 q1.2).bind fun q2 =>
  (pR q2.2 12 l0 0 q1.1).bind fun G3 =>
  (pI G3 12 l0 1 (0 : Int32)).bind fun G4 =>
  (pI G4 12 l0 2 (-1 : Int32)).bind fun G5 =>
  (pI G5 12 l0 3 (0 : Int32)).bind fun G6 =>
  (pI G6 12 l0 4 (0 : Int32)).bind fun G7 =>
  (pI G7 12 l0 5 (2 : Int32)).bind fun G8 =>
  (nO G8 11 7).bind fun q9 =>
  (fX1_init q9.1 q9.2).bind fun q10 =>
  (pR q10.2 12 l0 6 q9.1).bind fun G11 =>
  (pI G11 12 l0 7 (0 : Int32)).bind fun G12 =>
  (pI G12 12 l0 8 (0 : Int32)).bind fun G13 =>
  (pI G13 12 l0 9 (0 : Int32)).bind fun G14 =>
  (pI G14 12 l0 10 (0 : Int32)).bind fun G15 =>
  some ((), G15)

set_option maxRecDepth 100000 in
set_option maxHeartbeats 4000000 in
theorem jX2_init_0 {X : Cx} (ok : OK X cX2_init RX2 none 1 8 160) (hin : X.meth.name = "<init>") (l0 : Nat)  (G : Mem) {r : Unit} {G' : Mem} (h : fX2_init_0 l0 G = some (r, G')) (hK : (finV X) r G') : J X 1 0 [(0, .ref (X.B + l0))] [] G := by
  unfold fX2_init_0 at h
  refine j_aload_n ok dX2_init_0 rfl 0 rfl ?_
  refine k_objI ok wm_X2_3 (Nat.le_of_ble_eq_true rfl) (Nat.le_of_ble_eq_true rfl) (Nat.le_of_ble_eq_true rfl) dX2_init_1 ?_
  refine j_aload_n ok dX2_init_4 rfl 0 rfl ?_
  obtain ⟨q1, hq1, h⟩ := obind h
  refine k_new ok (ci := 5) in_X5 fp_X5 rfl rfl df_X5 wl_X2_9 wx_X5 wn_X5 hq1 dX2_init_5 ?_
  refine j_dup ok dX2_init_8 rfl ?_
  obtain ⟨q2, hq2, h⟩ := obind h
  refine k_I ok kl_X2_11 ⟨Nat.le_of_ble_eq_true rfl, Nat.le_of_ble_eq_true rfl⟩ [] rfl rfl (Nat.le_of_ble_eq_true rfl) (tX5_init ok.fl X.V q1.1 q1.2 hq2) dX2_init_9 ?_
  obtain ⟨G3, hG3, h⟩ := obind h
  refine k_putR ok fl_X2_12 fp_X2 rfl (Or.inl ⟨_, rfl⟩) (Or.inr ⟨rfl, hin, rfl⟩) hG3 dX2_init_12 ?_
  refine j_aload_n ok dX2_init_15 rfl 0 rfl ?_
  refine j_iconst (v := 0) ok dX2_init_16 (by decide) ?_
  obtain ⟨G4, hG4, h⟩ := obind h
  refine k_putI ok fl_X2_18 fp_X2 rfl (Or.inl rfl) hG4 dX2_init_17 ?_
  refine j_aload_n ok dX2_init_20 rfl 0 rfl ?_
  refine j_iconst (v := -1) ok dX2_init_21 (by decide) ?_
  obtain ⟨G5, hG5, h⟩ := obind h
  refine k_putI ok fl_X2_22 fp_X2 rfl (Or.inl rfl) hG5 dX2_init_22 ?_
  refine j_aload_n ok dX2_init_25 rfl 0 rfl ?_
  refine j_iconst (v := 0) ok dX2_init_26 (by decide) ?_
  obtain ⟨G6, hG6, h⟩ := obind h
  refine k_putI ok fl_X2_25 fp_X2 rfl (Or.inl rfl) hG6 dX2_init_27 ?_
  refine j_aload_n ok dX2_init_30 rfl 0 rfl ?_
  refine j_iconst (v := 0) ok dX2_init_31 (by decide) ?_
  obtain ⟨G7, hG7, h⟩ := obind h
  refine k_putI ok fl_X2_28 fp_X2 rfl (Or.inl rfl) hG7 dX2_init_32 ?_
  refine j_aload_n ok dX2_init_35 rfl 0 rfl ?_
  refine j_iconst (v := 2) ok dX2_init_36 (by decide) ?_
  obtain ⟨G8, hG8, h⟩ := obind h
  refine k_putI ok fl_X2_31 fp_X2 rfl (Or.inl rfl) hG8 dX2_init_37 ?_
  refine j_aload_n ok dX2_init_40 rfl 0 rfl ?_
  obtain ⟨q9, hq9, h⟩ := obind h
  refine k_new ok (ci := 1) in_X1 fp_X1 rfl rfl df_X1 wl_X2_34 wx_X1 wn_X1 hq9 dX2_init_41 ?_
  refine j_dup ok dX2_init_44 rfl ?_
  obtain ⟨q10, hq10, h⟩ := obind h
  refine k_I ok kl_X2_36 ⟨Nat.le_of_ble_eq_true rfl, Nat.le_of_ble_eq_true rfl⟩ [] rfl rfl (Nat.le_of_ble_eq_true rfl) (tX1_init ok.fl X.V q9.1 q9.2 hq10) dX2_init_45 ?_
  obtain ⟨G11, hG11, h⟩ := obind h
  refine k_putR ok fl_X2_37 fp_X2 rfl (Or.inl ⟨_, rfl⟩) (Or.inr ⟨rfl, hin, rfl⟩) hG11 dX2_init_48 ?_
  refine j_aload_n ok dX2_init_51 rfl 0 rfl ?_
  refine j_iconst (v := 0) ok dX2_init_52 (by decide) ?_
  obtain ⟨G12, hG12, h⟩ := obind h
  refine k_putI ok fl_X2_41 fp_X2 rfl (Or.inl rfl) hG12 dX2_init_53 ?_
  refine j_aload_n ok dX2_init_56 rfl 0 rfl ?_
  refine j_iconst (v := 0) ok dX2_init_57 (by decide) ?_
  obtain ⟨G13, hG13, h⟩ := obind h
  refine k_putI ok fl_X2_44 fp_X2 rfl (Or.inl rfl) hG13 dX2_init_58 ?_
  refine j_aload_n ok dX2_init_61 rfl 0 rfl ?_
  refine j_iconst (v := 0) ok dX2_init_62 (by decide) ?_
  obtain ⟨G14, hG14, h⟩ := obind h
  refine k_putI ok fl_X2_47 fp_X2 rfl (Or.inl rfl) hG14 dX2_init_63 ?_
  refine j_aload_n ok dX2_init_66 rfl 0 rfl ?_
  refine j_iconst (v := 0) ok dX2_init_67 (by decide) ?_
  obtain ⟨G15, hG15, h⟩ := obind h
  refine k_putI ok fl_X2_50 fp_X2 rfl (Or.inl rfl) hG15 dX2_init_68 ?_
  obtain ⟨er, eG⟩ := inj2 h
  subst er; subst eG
  exact j_vret ok rfl dX2_init_71 hK

def fX2_init (l0 : Nat) (G : Mem) : Option (Unit × Mem) := fX2_init_0 l0 G
set_option maxRecDepth 100000 in
theorem tX2_init {l : Launch} (hfl : l.stackTraces = false) (V : Wd) (l0 : Nat) (G : Mem) {r : Unit} {G' : Mem} (h : fX2_init l0 G = some (r, G')) : Mx l yX2_init cX2_init 1 none 8 160 V [.ref (V.B + l0)] G (.inl none) G' :=
  mx_of (L := [(0, .ref (V.B + l0))]) hfl (by decide +kernel) (Nat.le_of_ble_eq_true rfl) rfl (fun X hl hV hin ok he => by
    subst hl; subst hV
    exact J.sub [0] rfl (jX2_init_0 ok (hin rfl) l0 G h he))
def fX2_isAtEnd_15  (s0 : Int32) (G : Mem) : Option (Int32 × Mem) :=
  rz s0 <|
  some (s0, G)

set_option maxRecDepth 100000 in
set_option maxHeartbeats 4000000 in
theorem jX2_isAtEnd_15 {X : Cx} (ok : OK X cX2_isAtEnd RX2 (some .boolean) 1 0 0)  (s0 : Int32) (G : Mem) {r : Int32} {G' : Mem} (h : fX2_isAtEnd_15 s0 G = some (r, G')) (hK : (finI X) r G') : J X 1 15 [] [.int s0] G := by
  unfold fX2_isAtEnd_15 at h
  obtain ⟨hz1, h⟩ := rz_some h
  obtain ⟨er, eG⟩ := inj2 h
  subst er; subst eG
  exact j_zret ok rfl hz1 dX2_isAtEnd_15 hK

def fX2_isAtEnd_0 (l0 : Nat)  (G : Mem) : Option (Int32 × Mem) :=
  (gR G 12 l0 0).bind fun v1 =>
  (gF G 15 v1 1).bind fun v2 =>
  if v2 = (0 : Int32) then
    fX2_isAtEnd_15 (1 : Int32) G
  else
    fX2_isAtEnd_15 (0 : Int32) G

set_option maxRecDepth 100000 in
set_option maxHeartbeats 4000000 in
theorem jX2_isAtEnd_0 {X : Cx} (ok : OK X cX2_isAtEnd RX2 (some .boolean) 1 0 0) (l0 : Nat)  (G : Mem) {r : Int32} {G' : Mem} (h : fX2_isAtEnd_0 l0 G = some (r, G')) (hK : (finI X) r G') : J X 1 0 [(0, .ref (X.B + l0))] [] G := by
  unfold fX2_isAtEnd_0 at h
  refine j_aload_n ok dX2_isAtEnd_0 rfl 0 rfl ?_
  obtain ⟨v1, hv1, h⟩ := obind h
  refine k_getR ok fl_X2_12 hv1 dX2_isAtEnd_1 ?_
  obtain ⟨v2, hv2, h⟩ := obind h
  refine k_getI ok fl_X2_56 hv2 dX2_isAtEnd_4 ?_
  rcases ite_some h with ⟨c3, h⟩ | ⟨c3, h⟩
  · refine j_if_ne (tgt := 14) ok dX2_isAtEnd_7 (by decide) (fun z => absurd c3 z) (fun _ => ?_)
    refine j_iconst (v := 1) ok dX2_isAtEnd_10 (by decide) ?_
    refine j_goto (tgt := 15) ok dX2_isAtEnd_11 (by decide) ?_
    exact J.sub [] rfl (jX2_isAtEnd_15 ok (1 : Int32) G h hK)
  · refine j_if_ne (tgt := 14) ok dX2_isAtEnd_7 (by decide) (fun _ => ?_) (fun z => absurd z c3)
    refine j_iconst (v := 0) ok dX2_isAtEnd_14 (by decide) ?_
    exact J.sub [] rfl (jX2_isAtEnd_15 ok (0 : Int32) G h hK)

def fX2_isAtEnd (l0 : Nat) (G : Mem) : Option (Int32 × Mem) := fX2_isAtEnd_0 l0 G
set_option maxRecDepth 100000 in
theorem tX2_isAtEnd {l : Launch} (hfl : l.stackTraces = false) (V : Wd) (l0 : Nat) (G : Mem) {r : Int32} {G' : Mem} (h : fX2_isAtEnd l0 G = some (r, G')) : Mx l yX2_isAtEnd cX2_isAtEnd 1 (some .boolean) 0 0 V [.ref (V.B + l0)] G (.inl (some (.int r))) G' :=
  mx_of (L := [(0, .ref (V.B + l0))]) hfl (by decide +kernel) (Nat.le_of_ble_eq_true rfl) rfl (fun X hl hV hin ok he => by
    subst hl; subst hV
    exact J.sub [0] rfl (jX2_isAtEnd_0 ok l0 G h he))
def fX5_is_24   (G : Mem) : Option (Int32 × Mem) :=
  some ((0 : Int32), G)

set_option maxRecDepth 100000 in
set_option maxHeartbeats 4000000 in
theorem jX5_is_24 {X : Cx} (ok : OK X cX5_is RX5 (some .boolean) 3 4 85)   (G : Mem) {r : Int32} {G' : Mem} (h : fX5_is_24  G = some (r, G')) (hK : (finI X) r G') : J X 3 24 [] [] G := by
  unfold fX5_is_24 at h
  refine j_iconst (v := 0) ok dX5_is_24 (by decide) ?_
  obtain ⟨er, eG⟩ := inj2 h
  subst er; subst eG
  exact j_zret ok rfl (Or.inl rfl) dX5_is_25 hK

def fX5_is_62   (G : Mem) : Option (Int32 × Mem) :=
  some ((1 : Int32), G)

set_option maxRecDepth 100000 in
set_option maxHeartbeats 4000000 in
theorem jX5_is_62 {X : Cx} (ok : OK X cX5_is RX5 (some .boolean) 3 4 85)   (G : Mem) {r : Int32} {G' : Mem} (h : fX5_is_62  G = some (r, G')) (hK : (finI X) r G') : J X 3 62 [] [] G := by
  unfold fX5_is_62 at h
  refine j_iconst (v := 1) ok dX5_is_62 (by decide) ?_
  obtain ⟨er, eG⟩ := inj2 h
  subst er; subst eG
  exact j_zret ok rfl (Or.inr rfl) dX5_is_63 hK

def fX5_is_54   (G : Mem) : Option (Int32 × Mem) :=
  some ((0 : Int32), G)

set_option maxRecDepth 100000 in
set_option maxHeartbeats 4000000 in
theorem jX5_is_54 {X : Cx} (ok : OK X cX5_is RX5 (some .boolean) 3 4 85)   (G : Mem) {r : Int32} {G' : Mem} (h : fX5_is_54  G = some (r, G')) (hK : (finI X) r G') : J X 3 54 [] [] G := by
  unfold fX5_is_54 at h
  refine j_iconst (v := 0) ok dX5_is_54 (by decide) ?_
  obtain ⟨er, eG⟩ := inj2 h
  subst er; subst eG
  exact j_zret ok rfl (Or.inl rfl) dX5_is_55 hK

def fX5_is_28 (l0 : Nat) (l1 : Nat) (l2 : Int32)  (G : Mem) : Option (((Int32) ⊕ Int32) × Mem) :=
  ckS l1 <| (fJ0_length_8abf5 l1 G).bind fun q1 =>
  if q1.1 ≤ l2 then
    liftE (fX5_is_62 q1.2)
  else
    (gF q1.2 15 l0 2).bind fun v3 =>
    ck q1.2 15 l0 <| (fX5_byteAt l0 (v3 + l2) q1.2).bind fun q4 =>
    ckS l1 <| (fJ0_charAt_5068e l1 l2 q4.2).bind fun q5 =>
    if q4.1 = q5.1 then
      some (.inl ((l2 + (1 : Int32))), q5.2)
    else
      liftE (fX5_is_54 q5.2)

set_option maxRecDepth 100000 in
set_option maxHeartbeats 4000000 in
theorem jX5_is_28 {X : Cx} (ok : OK X cX5_is RX5 (some .boolean) 3 4 85) (l0 : Nat) (l1 : Nat) (l2 : Int32)  (G : Mem) {r : ((Int32) ⊕ Int32)} {G' : Mem} (h : fX5_is_28 l0 l1 l2 G = some (r, G')) (hK : (finL X 3 28 (fun s : Int32 => [(0, .ref (X.B + l0)), (1, .ref (X.V.sa l1)), (2, .int s)]) (finI X)) r G') : J X 3 28 [(0, .ref (X.B + l0)), (1, .ref (X.V.sa l1)), (2, .int l2)] [] G := by
  unfold fX5_is_28 at h
  refine j_iload_n ok dX5_is_28 rfl 2 rfl ?_
  refine j_aload_n ok dX5_is_29 rfl 1 rfl ?_
  obtain ⟨kq1, h⟩ := ckS_some h
  obtain ⟨q1, hq1, h⟩ := obind h
  refine k_T1 ok kl_X5_47 ⟨Nat.le_of_ble_eq_true rfl, Nat.le_of_ble_eq_true rfl⟩ [] kq1 rfl rfl (Nat.le_of_ble_eq_true rfl) (tJ0_length_8abf5 ok.fl X.V l1 G hq1) dX5_is_30 ?_
  rcases ite_some h with ⟨c2, h⟩ | ⟨c2, h⟩
  · refine j_icmp_ge (tgt := 62) ok dX5_is_33 (by decide) (fun _ => ?_) (fun z => absurd c2 z)
    obtain ⟨r1, e1, h1⟩ := lift_some h
    subst e1
    exact J.sub [] rfl (jX5_is_62 ok q1.2 h1 hK)
  · refine j_icmp_ge (tgt := 62) ok dX5_is_33 (by decide) (fun z => absurd z c2) (fun _ => ?_)
    refine j_aload_n ok dX5_is_36 rfl 0 rfl ?_
    refine j_aload_n ok dX5_is_37 rfl 0 rfl ?_
    obtain ⟨v3, hv3, h⟩ := obind h
    refine k_getI ok fl_X5_18 hv3 dX5_is_38 ?_
    refine j_iload_n ok dX5_is_41 rfl 2 rfl ?_
    refine j_iadd ok dX5_is_42 ?_
    obtain ⟨kq4, h⟩ := ck_some h
    obtain ⟨q4, hq4, h⟩ := obind h
    refine k_V1 ok kl_X5_34 ⟨Nat.le_of_ble_eq_true rfl, Nat.le_of_ble_eq_true rfl⟩ [.int (v3 + l2)] kq4 rfl rfl (Nat.le_of_ble_eq_true rfl) (tX5_byteAt ok.fl X.V l0 (v3 + l2) q1.2 hq4) dX5_is_43 ?_
    refine j_aload_n ok dX5_is_46 rfl 1 rfl ?_
    refine j_iload_n ok dX5_is_47 rfl 2 rfl ?_
    obtain ⟨kq5, h⟩ := ckS_some h
    obtain ⟨q5, hq5, h⟩ := obind h
    refine k_T1 ok kl_X5_52 ⟨Nat.le_of_ble_eq_true rfl, Nat.le_of_ble_eq_true rfl⟩ [.int l2] kq5 rfl rfl (Nat.le_of_ble_eq_true rfl) (tJ0_charAt_5068e ok.fl X.V l1 l2 q4.2 hq5) dX5_is_48 ?_
    rcases ite_some h with ⟨c6, h⟩ | ⟨c6, h⟩
    · refine j_icmp_eq (tgt := 56) ok dX5_is_51 (by decide) (fun _ => ?_) (fun z => absurd c6 z)
      refine j_iinc (L' := [(2, .int (l2 + (1 : Int32))), (0, .ref (X.B + l0)), (1, .ref (X.V.sa l1))]) (v := (l2 + (1 : Int32))) ok dX5_is_56 (q := 2) rfl rfl (by decide) rfl ?_
      refine j_goto (tgt := 28) ok dX5_is_59 (by decide) ?_
      obtain ⟨er, eG⟩ := inj2 h
      subst er; subst eG
      have hJ : J X 3 28 [(0, .ref (X.B + l0)), (1, .ref (X.V.sa l1)), (2, .int (l2 + (1 : Int32)))] [] q5.2 := hK
      exact J.sub [1, 2, 0] rfl hJ
    · refine j_icmp_eq (tgt := 56) ok dX5_is_51 (by decide) (fun z => absurd z c6) (fun _ => ?_)
      obtain ⟨r1, e1, h1⟩ := lift_some h
      subst e1
      exact J.sub [] rfl (jX5_is_54 ok q5.2 h1 hK)

def fX5_is_0 (l0 : Nat) (l1 : Nat)  (G : Mem) : Option (Int32 × Mem) :=
  (gF G 15 l0 1).bind fun v1 =>
  if v1 = (2 : Int32) then
    (gF G 15 l0 4).bind fun v3 =>
    (gF G 15 l0 2).bind fun v4 =>
    ckS l1 <| (fJ0_length_8abf5 l1 G).bind fun q5 =>
    if (v3 - v4) = q5.1 then
      loopM (fun (s : Int32) G => fX5_is_28 l0 l1 s G) FU ((0 : Int32)) q5.2
    else
      fX5_is_24 q5.2
  else
    fX5_is_24 G

set_option maxRecDepth 100000 in
set_option maxHeartbeats 4000000 in
theorem jX5_is_0 {X : Cx} (ok : OK X cX5_is RX5 (some .boolean) 3 4 85) (l0 : Nat) (l1 : Nat)  (G : Mem) {r : Int32} {G' : Mem} (h : fX5_is_0 l0 l1 G = some (r, G')) (hK : (finI X) r G') : J X 3 0 [(0, .ref (X.B + l0)), (1, .ref (X.V.sa l1))] [] G := by
  unfold fX5_is_0 at h
  refine j_aload_n ok dX5_is_0 rfl 0 rfl ?_
  obtain ⟨v1, hv1, h⟩ := obind h
  refine k_getI ok fl_X5_15 hv1 dX5_is_1 ?_
  refine j_iconst (v := 2) ok dX5_is_4 (by decide) ?_
  rcases ite_some h with ⟨c2, h⟩ | ⟨c2, h⟩
  · refine j_icmp_ne (tgt := 24) ok dX5_is_5 (by decide) (fun z => absurd c2 z) (fun _ => ?_)
    refine j_aload_n ok dX5_is_8 rfl 0 rfl ?_
    obtain ⟨v3, hv3, h⟩ := obind h
    refine k_getI ok fl_X5_24 hv3 dX5_is_9 ?_
    refine j_aload_n ok dX5_is_12 rfl 0 rfl ?_
    obtain ⟨v4, hv4, h⟩ := obind h
    refine k_getI ok fl_X5_18 hv4 dX5_is_13 ?_
    refine j_isub ok dX5_is_16 ?_
    refine j_aload_n ok dX5_is_17 rfl 1 rfl ?_
    obtain ⟨kq5, h⟩ := ckS_some h
    obtain ⟨q5, hq5, h⟩ := obind h
    refine k_T1 ok kl_X5_47 ⟨Nat.le_of_ble_eq_true rfl, Nat.le_of_ble_eq_true rfl⟩ [] kq5 rfl rfl (Nat.le_of_ble_eq_true rfl) (tJ0_length_8abf5 ok.fl X.V l1 G hq5) dX5_is_18 ?_
    rcases ite_some h with ⟨c6, h⟩ | ⟨c6, h⟩
    · refine j_icmp_eq (tgt := 26) ok dX5_is_21 (by decide) (fun _ => ?_) (fun z => absurd c6 z)
      refine j_iconst (v := 0) ok dX5_is_26 (by decide) ?_
      refine j_istore_n (L' := [(2, .int (0 : Int32)), (0, .ref (X.B + l0)), (1, .ref (X.V.sa l1))]) ok dX5_is_27 rfl (by decide) rfl ?_
      have hJ : J X 3 28 [(0, .ref (X.B + l0)), (1, .ref (X.V.sa l1)), (2, .int (0 : Int32))] [] q5.2 := j_loop (loc := fun s : Int32 => [(0, .ref (X.B + l0)), (1, .ref (X.V.sa l1)), (2, .int s)]) (F := (finI X)) (fun s G r G' hb hk => jX5_is_28 ok l0 l1 s G hb hk) _ _ _ _ _ h hK
      exact J.sub [1, 2, 0] rfl hJ
    · refine j_icmp_eq (tgt := 26) ok dX5_is_21 (by decide) (fun z => absurd z c6) (fun _ => ?_)
      exact J.sub [] rfl (jX5_is_24 ok q5.2 h hK)
  · refine j_icmp_ne (tgt := 24) ok dX5_is_5 (by decide) (fun _ => ?_) (fun z => absurd z c2)
    exact J.sub [] rfl (jX5_is_24 ok G h hK)

def fX5_is (l0 : Nat) (l1 : Nat) (G : Mem) : Option (Int32 × Mem) := fX5_is_0 l0 l1 G
set_option maxRecDepth 100000 in
theorem tX5_is {l : Launch} (hfl : l.stackTraces = false) (V : Wd) (l0 : Nat) (l1 : Nat) (G : Mem) {r : Int32} {G' : Mem} (h : fX5_is l0 l1 G = some (r, G')) : Mx l yX5_is cX5_is 3 (some .boolean) 4 85 V [.ref (V.B + l0), .ref (V.sa l1)] G (.inl (some (.int r))) G' :=
  mx_of (L := [(0, .ref (V.B + l0)), (1, .ref (V.sa l1))]) hfl (by decide +kernel) (Nat.le_of_ble_eq_true rfl) rfl (fun X hl hV hin ok he => by
    subst hl; subst hV
    exact J.sub [0, 1] rfl (jX5_is_0 ok l0 l1 G h he))
def fX2_isColour_29  (s0 : Int32) (G : Mem) : Option (Int32 × Mem) :=
  rz s0 <|
  some (s0, G)

set_option maxRecDepth 100000 in
set_option maxHeartbeats 4000000 in
theorem jX2_isColour_29 {X : Cx} (ok : OK X cX2_isColour RX2 (some .boolean) 1 5 107)  (s0 : Int32) (G : Mem) {r : Int32} {G' : Mem} (h : fX2_isColour_29 s0 G = some (r, G')) (hK : (finI X) r G') : J X 1 29 [] [.int s0] G := by
  unfold fX2_isColour_29 at h
  obtain ⟨hz1, h⟩ := rz_some h
  obtain ⟨er, eG⟩ := inj2 h
  subst er; subst eG
  exact j_zret ok rfl hz1 dX2_isColour_29 hK

def fX2_isColour_24   (G : Mem) : Option (Int32 × Mem) :=
  fX2_isColour_29 (1 : Int32) G

set_option maxRecDepth 100000 in
set_option maxHeartbeats 4000000 in
theorem jX2_isColour_24 {X : Cx} (ok : OK X cX2_isColour RX2 (some .boolean) 1 5 107)   (G : Mem) {r : Int32} {G' : Mem} (h : fX2_isColour_24  G = some (r, G')) (hK : (finI X) r G') : J X 1 24 [] [] G := by
  unfold fX2_isColour_24 at h
  refine j_iconst (v := 1) ok dX2_isColour_24 (by decide) ?_
  refine j_goto (tgt := 29) ok dX2_isColour_25 (by decide) ?_
  exact J.sub [] rfl (jX2_isColour_29 ok (1 : Int32) G h hK)

def fX2_isColour_0 (l0 : Nat)  (G : Mem) : Option (Int32 × Mem) :=
  (gR G 12 l0 0).bind fun v1 =>
  ck G 15 v1 <| (fX5_is v1 1 G).bind fun q2 =>
  if q2.1 = (0 : Int32) then
    (gR q2.2 12 l0 0).bind fun v4 =>
    ck q2.2 15 v4 <| (fX5_is v4 2 q2.2).bind fun q5 =>
    if q5.1 = (0 : Int32) then
      fX2_isColour_29 (0 : Int32) q5.2
    else
      fX2_isColour_24 q5.2
  else
    fX2_isColour_24 q2.2

set_option maxRecDepth 100000 in
set_option maxHeartbeats 4000000 in
theorem jX2_isColour_0 {X : Cx} (ok : OK X cX2_isColour RX2 (some .boolean) 1 5 107) (l0 : Nat)  (G : Mem) {r : Int32} {G' : Mem} (h : fX2_isColour_0 l0 G = some (r, G')) (hK : (finI X) r G') : J X 1 0 [(0, .ref (X.B + l0))] [] G := by
  unfold fX2_isColour_0 at h
  refine j_aload_n ok dX2_isColour_0 rfl 0 rfl ?_
  obtain ⟨v1, hv1, h⟩ := obind h
  refine k_getR ok fl_X2_12 hv1 dX2_isColour_1 ?_
  refine k_str ok st_X2_117 dX2_isColour_4 ?_
  obtain ⟨kq2, h⟩ := ck_some h
  obtain ⟨q2, hq2, h⟩ := obind h
  refine k_V1 ok kl_X2_79 ⟨Nat.le_of_ble_eq_true rfl, Nat.le_of_ble_eq_true rfl⟩ [.ref (X.V.sa 1)] kq2 rfl rfl (Nat.le_of_ble_eq_true rfl) (tX5_is ok.fl X.V v1 1 G hq2) dX2_isColour_6 ?_
  rcases ite_some h with ⟨c3, h⟩ | ⟨c3, h⟩
  · refine j_if_ne (tgt := 24) ok dX2_isColour_9 (by decide) (fun z => absurd c3 z) (fun _ => ?_)
    refine j_aload_n ok dX2_isColour_12 rfl 0 rfl ?_
    obtain ⟨v4, hv4, h⟩ := obind h
    refine k_getR ok fl_X2_12 hv4 dX2_isColour_13 ?_
    refine k_str ok st_X2_119 dX2_isColour_16 ?_
    obtain ⟨kq5, h⟩ := ck_some h
    obtain ⟨q5, hq5, h⟩ := obind h
    refine k_V1 ok kl_X2_79 ⟨Nat.le_of_ble_eq_true rfl, Nat.le_of_ble_eq_true rfl⟩ [.ref (X.V.sa 2)] kq5 rfl rfl (Nat.le_of_ble_eq_true rfl) (tX5_is ok.fl X.V v4 2 q2.2 hq5) dX2_isColour_18 ?_
    rcases ite_some h with ⟨c6, h⟩ | ⟨c6, h⟩
    · refine j_if_eq (tgt := 28) ok dX2_isColour_21 (by decide) (fun _ => ?_) (fun z => absurd c6 z)
      refine j_iconst (v := 0) ok dX2_isColour_28 (by decide) ?_
      exact J.sub [] rfl (jX2_isColour_29 ok (0 : Int32) q5.2 h hK)
    · refine j_if_eq (tgt := 28) ok dX2_isColour_21 (by decide) (fun z => absurd z c6) (fun _ => ?_)
      exact J.sub [] rfl (jX2_isColour_24 ok q5.2 h hK)
  · refine j_if_ne (tgt := 24) ok dX2_isColour_9 (by decide) (fun _ => ?_) (fun z => absurd z c3)
    exact J.sub [] rfl (jX2_isColour_24 ok q2.2 h hK)

def fX2_isColour (l0 : Nat) (G : Mem) : Option (Int32 × Mem) := fX2_isColour_0 l0 G
set_option maxRecDepth 100000 in
theorem tX2_isColour {l : Launch} (hfl : l.stackTraces = false) (V : Wd) (l0 : Nat) (G : Mem) {r : Int32} {G' : Mem} (h : fX2_isColour l0 G = some (r, G')) : Mx l yX2_isColour cX2_isColour 1 (some .boolean) 5 107 V [.ref (V.B + l0)] G (.inl (some (.int r))) G' :=
  mx_of (L := [(0, .ref (V.B + l0))]) hfl (by decide +kernel) (Nat.le_of_ble_eq_true rfl) rfl (fun X hl hV hin ok he => by
    subst hl; subst hV
    exact J.sub [0] rfl (jX2_isColour_0 ok l0 G h he))
def fX2_isPassed_0 (l0 : Nat) (l1 : Nat)  (G : Mem) : Option (Int32 × Mem) :=
  (gR G 12 l0 0).bind fun v1 =>
  ck G 15 v1 <| (fX5_is v1 l1 G).bind fun q2 =>
  if q2.1 = (0 : Int32) then
    some ((0 : Int32), q2.2)
  else
    (gR q2.2 12 l0 0).bind fun v4 =>
    ck q2.2 15 v4 <| (fX5_readNext v4 q2.2).bind fun q5 =>
    some ((1 : Int32), q5.2)

set_option maxRecDepth 100000 in
set_option maxHeartbeats 4000000 in
theorem jX2_isPassed_0 {X : Cx} (ok : OK X cX2_isPassed RX2 (some .boolean) 2 5 142) (l0 : Nat) (l1 : Nat)  (G : Mem) {r : Int32} {G' : Mem} (h : fX2_isPassed_0 l0 l1 G = some (r, G')) (hK : (finI X) r G') : J X 2 0 [(0, .ref (X.B + l0)), (1, .ref (X.V.sa l1))] [] G := by
  unfold fX2_isPassed_0 at h
  refine j_aload_n ok dX2_isPassed_0 rfl 0 rfl ?_
  obtain ⟨v1, hv1, h⟩ := obind h
  refine k_getR ok fl_X2_12 hv1 dX2_isPassed_1 ?_
  refine j_aload_n ok dX2_isPassed_4 rfl 1 rfl ?_
  obtain ⟨kq2, h⟩ := ck_some h
  obtain ⟨q2, hq2, h⟩ := obind h
  refine k_V1 ok kl_X2_79 ⟨Nat.le_of_ble_eq_true rfl, Nat.le_of_ble_eq_true rfl⟩ [.ref (X.V.sa l1)] kq2 rfl rfl (Nat.le_of_ble_eq_true rfl) (tX5_is ok.fl X.V v1 l1 G hq2) dX2_isPassed_5 ?_
  rcases ite_some h with ⟨c3, h⟩ | ⟨c3, h⟩
  · refine j_if_ne (tgt := 13) ok dX2_isPassed_8 (by decide) (fun z => absurd c3 z) (fun _ => ?_)
    refine j_iconst (v := 0) ok dX2_isPassed_11 (by decide) ?_
    obtain ⟨er, eG⟩ := inj2 h
    subst er; subst eG
    exact j_zret ok rfl (Or.inl rfl) dX2_isPassed_12 hK
  · refine j_if_ne (tgt := 13) ok dX2_isPassed_8 (by decide) (fun _ => ?_) (fun z => absurd z c3)
    refine j_aload_n ok dX2_isPassed_13 rfl 0 rfl ?_
    obtain ⟨v4, hv4, h⟩ := obind h
    refine k_getR ok fl_X2_12 hv4 dX2_isPassed_14 ?_
    obtain ⟨kq5, h⟩ := ck_some h
    obtain ⟨q5, hq5, h⟩ := obind h
    refine k_V0 ok kl_X2_96 ⟨Nat.le_of_ble_eq_true rfl, Nat.le_of_ble_eq_true rfl⟩ [] kq5 rfl rfl (Nat.le_of_ble_eq_true rfl) (tX5_readNext ok.fl X.V v4 q2.2 hq5) dX2_isPassed_17 ?_
    refine j_iconst (v := 1) ok dX2_isPassed_20 (by decide) ?_
    obtain ⟨er, eG⟩ := inj2 h
    subst er; subst eG
    exact j_zret ok rfl (Or.inr rfl) dX2_isPassed_21 hK

def fX2_isPassed (l0 : Nat) (l1 : Nat) (G : Mem) : Option (Int32 × Mem) := fX2_isPassed_0 l0 l1 G
set_option maxRecDepth 100000 in
theorem tX2_isPassed {l : Launch} (hfl : l.stackTraces = false) (V : Wd) (l0 : Nat) (l1 : Nat) (G : Mem) {r : Int32} {G' : Mem} (h : fX2_isPassed l0 l1 G = some (r, G')) : Mx l yX2_isPassed cX2_isPassed 2 (some .boolean) 5 142 V [.ref (V.B + l0), .ref (V.sa l1)] G (.inl (some (.int r))) G' :=
  mx_of (L := [(0, .ref (V.B + l0)), (1, .ref (V.sa l1))]) hfl (by decide +kernel) (Nat.le_of_ble_eq_true rfl) rfl (fun X hl hV hin ok he => by
    subst hl; subst hV
    exact J.sub [0, 1] rfl (jX2_isPassed_0 ok l0 l1 G h he))
def fX2_isSemicolon_24  (s0 : Int32) (G : Mem) : Option (Int32 × Mem) :=
  rz s0 <|
  some (s0, G)

set_option maxRecDepth 100000 in
set_option maxHeartbeats 4000000 in
theorem jX2_isSemicolon_24 {X : Cx} (ok : OK X cX2_isSemicolon RX2 (some .boolean) 1 2 43)  (s0 : Int32) (G : Mem) {r : Int32} {G' : Mem} (h : fX2_isSemicolon_24 s0 G = some (r, G')) (hK : (finI X) r G') : J X 1 24 [] [.int s0] G := by
  unfold fX2_isSemicolon_24 at h
  obtain ⟨hz1, h⟩ := rz_some h
  obtain ⟨er, eG⟩ := inj2 h
  subst er; subst eG
  exact j_zret ok rfl hz1 dX2_isSemicolon_24 hK

def fX2_isSemicolon_19   (G : Mem) : Option (Int32 × Mem) :=
  fX2_isSemicolon_24 (1 : Int32) G

set_option maxRecDepth 100000 in
set_option maxHeartbeats 4000000 in
theorem jX2_isSemicolon_19 {X : Cx} (ok : OK X cX2_isSemicolon RX2 (some .boolean) 1 2 43)   (G : Mem) {r : Int32} {G' : Mem} (h : fX2_isSemicolon_19  G = some (r, G')) (hK : (finI X) r G') : J X 1 19 [] [] G := by
  unfold fX2_isSemicolon_19 at h
  refine j_iconst (v := 1) ok dX2_isSemicolon_19 (by decide) ?_
  refine j_goto (tgt := 24) ok dX2_isSemicolon_20 (by decide) ?_
  exact J.sub [] rfl (jX2_isSemicolon_24 ok (1 : Int32) G h hK)

def fX2_isSemicolon_0 (l0 : Nat)  (G : Mem) : Option (Int32 × Mem) :=
  (gR G 12 l0 0).bind fun v1 =>
  (gF G 15 v1 1).bind fun v2 =>
  if v2 = (4 : Int32) then
    fX2_isSemicolon_19 G
  else
    ck G 12 l0 <| (fX2_reject l0 (1 : Int32) G).bind fun q4 =>
    if q4.1 = (0 : Int32) then
      fX2_isSemicolon_24 (0 : Int32) q4.2
    else
      fX2_isSemicolon_19 q4.2

set_option maxRecDepth 100000 in
set_option maxHeartbeats 4000000 in
theorem jX2_isSemicolon_0 {X : Cx} (ok : OK X cX2_isSemicolon RX2 (some .boolean) 1 2 43) (l0 : Nat)  (G : Mem) {r : Int32} {G' : Mem} (h : fX2_isSemicolon_0 l0 G = some (r, G')) (hK : (finI X) r G') : J X 1 0 [(0, .ref (X.B + l0))] [] G := by
  unfold fX2_isSemicolon_0 at h
  refine j_aload_n ok dX2_isSemicolon_0 rfl 0 rfl ?_
  obtain ⟨v1, hv1, h⟩ := obind h
  refine k_getR ok fl_X2_12 hv1 dX2_isSemicolon_1 ?_
  obtain ⟨v2, hv2, h⟩ := obind h
  refine k_getI ok fl_X2_56 hv2 dX2_isSemicolon_4 ?_
  refine j_iconst (v := 4) ok dX2_isSemicolon_7 (by decide) ?_
  rcases ite_some h with ⟨c3, h⟩ | ⟨c3, h⟩
  · refine j_icmp_eq (tgt := 19) ok dX2_isSemicolon_8 (by decide) (fun _ => ?_) (fun z => absurd c3 z)
    exact J.sub [] rfl (jX2_isSemicolon_19 ok G h hK)
  · refine j_icmp_eq (tgt := 19) ok dX2_isSemicolon_8 (by decide) (fun z => absurd z c3) (fun _ => ?_)
    refine j_aload_n ok dX2_isSemicolon_11 rfl 0 rfl ?_
    refine j_iconst (v := 1) ok dX2_isSemicolon_12 (by decide) ?_
    obtain ⟨kq4, h⟩ := ck_some h
    obtain ⟨q4, hq4, h⟩ := obind h
    refine k_V1 ok kl_X2_67 ⟨Nat.le_of_ble_eq_true rfl, Nat.le_of_ble_eq_true rfl⟩ [.int (1 : Int32)] kq4 rfl rfl (Nat.le_of_ble_eq_true rfl) (tX2_reject ok.fl X.V l0 (1 : Int32) G hq4) dX2_isSemicolon_13 ?_
    rcases ite_some h with ⟨c5, h⟩ | ⟨c5, h⟩
    · refine j_if_eq (tgt := 23) ok dX2_isSemicolon_16 (by decide) (fun _ => ?_) (fun z => absurd c5 z)
      refine j_iconst (v := 0) ok dX2_isSemicolon_23 (by decide) ?_
      exact J.sub [] rfl (jX2_isSemicolon_24 ok (0 : Int32) q4.2 h hK)
    · refine j_if_eq (tgt := 23) ok dX2_isSemicolon_16 (by decide) (fun z => absurd z c5) (fun _ => ?_)
      exact J.sub [] rfl (jX2_isSemicolon_19 ok q4.2 h hK)

def fX2_isSemicolon (l0 : Nat) (G : Mem) : Option (Int32 × Mem) := fX2_isSemicolon_0 l0 G
set_option maxRecDepth 100000 in
theorem tX2_isSemicolon {l : Launch} (hfl : l.stackTraces = false) (V : Wd) (l0 : Nat) (G : Mem) {r : Int32} {G' : Mem} (h : fX2_isSemicolon l0 G = some (r, G')) : Mx l yX2_isSemicolon cX2_isSemicolon 1 (some .boolean) 2 43 V [.ref (V.B + l0)] G (.inl (some (.int r))) G' :=
  mx_of (L := [(0, .ref (V.B + l0))]) hfl (by decide +kernel) (Nat.le_of_ble_eq_true rfl) rfl (fun X hl hV hin ok he => by
    subst hl; subst hV
    exact J.sub [0] rfl (jX2_isSemicolon_0 ok l0 G h he))
def fX2_kindHere_73  (s0 : Int32) (G : Mem) : Option (Int32 × Mem) :=
  some (s0, G)

set_option maxRecDepth 100000 in
set_option maxHeartbeats 4000000 in
theorem jX2_kindHere_73 {X : Cx} (ok : OK X cX2_kindHere RX2 (some .int) 1 5 107)  (s0 : Int32) (G : Mem) {r : Int32} {G' : Mem} (h : fX2_kindHere_73 s0 G = some (r, G')) (hK : (finI X) r G') : J X 1 73 [] [.int s0] G := by
  unfold fX2_kindHere_73 at h
  obtain ⟨er, eG⟩ := inj2 h
  subst er; subst eG
  exact j_iret ok rfl dX2_kindHere_73 hK

def fX2_kindHere_0 (l0 : Nat)  (G : Mem) : Option (Int32 × Mem) :=
  (gR G 12 l0 0).bind fun v1 =>
  ck G 15 v1 <| (fX5_is v1 3 G).bind fun q2 =>
  if q2.1 = (0 : Int32) then
    (gR q2.2 12 l0 0).bind fun v4 =>
    ck q2.2 15 v4 <| (fX5_is v4 4 q2.2).bind fun q5 =>
    if q5.1 = (0 : Int32) then
      (gR q5.2 12 l0 0).bind fun v7 =>
      ck q5.2 15 v7 <| (fX5_is v7 5 q5.2).bind fun q8 =>
      if q8.1 = (0 : Int32) then
        (gR q8.2 12 l0 0).bind fun v10 =>
        ck q8.2 15 v10 <| (fX5_is v10 6 q8.2).bind fun q11 =>
        if q11.1 = (0 : Int32) then
          (gR q11.2 12 l0 0).bind fun v13 =>
          ck q11.2 15 v13 <| (fX5_is v13 7 q11.2).bind fun q14 =>
          if q14.1 = (0 : Int32) then
            fX2_kindHere_73 (-1 : Int32) q14.2
          else
            fX2_kindHere_73 (4 : Int32) q14.2
        else
          some ((3 : Int32), q11.2)
      else
        some ((2 : Int32), q8.2)
    else
      some ((1 : Int32), q5.2)
  else
    some ((0 : Int32), q2.2)

set_option maxRecDepth 100000 in
set_option maxHeartbeats 4000000 in
theorem jX2_kindHere_0 {X : Cx} (ok : OK X cX2_kindHere RX2 (some .int) 1 5 107) (l0 : Nat)  (G : Mem) {r : Int32} {G' : Mem} (h : fX2_kindHere_0 l0 G = some (r, G')) (hK : (finI X) r G') : J X 1 0 [(0, .ref (X.B + l0))] [] G := by
  unfold fX2_kindHere_0 at h
  refine j_aload_n ok dX2_kindHere_0 rfl 0 rfl ?_
  obtain ⟨v1, hv1, h⟩ := obind h
  refine k_getR ok fl_X2_12 hv1 dX2_kindHere_1 ?_
  refine k_str ok st_X2_148 dX2_kindHere_4 ?_
  obtain ⟨kq2, h⟩ := ck_some h
  obtain ⟨q2, hq2, h⟩ := obind h
  refine k_V1 ok kl_X2_79 ⟨Nat.le_of_ble_eq_true rfl, Nat.le_of_ble_eq_true rfl⟩ [.ref (X.V.sa 3)] kq2 rfl rfl (Nat.le_of_ble_eq_true rfl) (tX5_is ok.fl X.V v1 3 G hq2) dX2_kindHere_6 ?_
  rcases ite_some h with ⟨c3, h⟩ | ⟨c3, h⟩
  · refine j_if_eq (tgt := 14) ok dX2_kindHere_9 (by decide) (fun _ => ?_) (fun z => absurd c3 z)
    refine j_aload_n ok dX2_kindHere_14 rfl 0 rfl ?_
    obtain ⟨v4, hv4, h⟩ := obind h
    refine k_getR ok fl_X2_12 hv4 dX2_kindHere_15 ?_
    refine k_str ok st_X2_150 dX2_kindHere_18 ?_
    obtain ⟨kq5, h⟩ := ck_some h
    obtain ⟨q5, hq5, h⟩ := obind h
    refine k_V1 ok kl_X2_79 ⟨Nat.le_of_ble_eq_true rfl, Nat.le_of_ble_eq_true rfl⟩ [.ref (X.V.sa 4)] kq5 rfl rfl (Nat.le_of_ble_eq_true rfl) (tX5_is ok.fl X.V v4 4 q2.2 hq5) dX2_kindHere_20 ?_
    rcases ite_some h with ⟨c6, h⟩ | ⟨c6, h⟩
    · refine j_if_eq (tgt := 28) ok dX2_kindHere_23 (by decide) (fun _ => ?_) (fun z => absurd c6 z)
      refine j_aload_n ok dX2_kindHere_28 rfl 0 rfl ?_
      obtain ⟨v7, hv7, h⟩ := obind h
      refine k_getR ok fl_X2_12 hv7 dX2_kindHere_29 ?_
      refine k_str ok st_X2_152 dX2_kindHere_32 ?_
      obtain ⟨kq8, h⟩ := ck_some h
      obtain ⟨q8, hq8, h⟩ := obind h
      refine k_V1 ok kl_X2_79 ⟨Nat.le_of_ble_eq_true rfl, Nat.le_of_ble_eq_true rfl⟩ [.ref (X.V.sa 5)] kq8 rfl rfl (Nat.le_of_ble_eq_true rfl) (tX5_is ok.fl X.V v7 5 q5.2 hq8) dX2_kindHere_34 ?_
      rcases ite_some h with ⟨c9, h⟩ | ⟨c9, h⟩
      · refine j_if_eq (tgt := 42) ok dX2_kindHere_37 (by decide) (fun _ => ?_) (fun z => absurd c9 z)
        refine j_aload_n ok dX2_kindHere_42 rfl 0 rfl ?_
        obtain ⟨v10, hv10, h⟩ := obind h
        refine k_getR ok fl_X2_12 hv10 dX2_kindHere_43 ?_
        refine k_str ok st_X2_154 dX2_kindHere_46 ?_
        obtain ⟨kq11, h⟩ := ck_some h
        obtain ⟨q11, hq11, h⟩ := obind h
        refine k_V1 ok kl_X2_79 ⟨Nat.le_of_ble_eq_true rfl, Nat.le_of_ble_eq_true rfl⟩ [.ref (X.V.sa 6)] kq11 rfl rfl (Nat.le_of_ble_eq_true rfl) (tX5_is ok.fl X.V v10 6 q8.2 hq11) dX2_kindHere_48 ?_
        rcases ite_some h with ⟨c12, h⟩ | ⟨c12, h⟩
        · refine j_if_eq (tgt := 56) ok dX2_kindHere_51 (by decide) (fun _ => ?_) (fun z => absurd c12 z)
          refine j_aload_n ok dX2_kindHere_56 rfl 0 rfl ?_
          obtain ⟨v13, hv13, h⟩ := obind h
          refine k_getR ok fl_X2_12 hv13 dX2_kindHere_57 ?_
          refine k_str ok st_X2_156 dX2_kindHere_60 ?_
          obtain ⟨kq14, h⟩ := ck_some h
          obtain ⟨q14, hq14, h⟩ := obind h
          refine k_V1 ok kl_X2_79 ⟨Nat.le_of_ble_eq_true rfl, Nat.le_of_ble_eq_true rfl⟩ [.ref (X.V.sa 7)] kq14 rfl rfl (Nat.le_of_ble_eq_true rfl) (tX5_is ok.fl X.V v13 7 q11.2 hq14) dX2_kindHere_62 ?_
          rcases ite_some h with ⟨c15, h⟩ | ⟨c15, h⟩
          · refine j_if_eq (tgt := 72) ok dX2_kindHere_65 (by decide) (fun _ => ?_) (fun z => absurd c15 z)
            refine j_iconst (v := -1) ok dX2_kindHere_72 (by decide) ?_
            exact J.sub [] rfl (jX2_kindHere_73 ok (-1 : Int32) q14.2 h hK)
          · refine j_if_eq (tgt := 72) ok dX2_kindHere_65 (by decide) (fun z => absurd z c15) (fun _ => ?_)
            refine j_iconst (v := 4) ok dX2_kindHere_68 (by decide) ?_
            refine j_goto (tgt := 73) ok dX2_kindHere_69 (by decide) ?_
            exact J.sub [] rfl (jX2_kindHere_73 ok (4 : Int32) q14.2 h hK)
        · refine j_if_eq (tgt := 56) ok dX2_kindHere_51 (by decide) (fun z => absurd z c12) (fun _ => ?_)
          refine j_iconst (v := 3) ok dX2_kindHere_54 (by decide) ?_
          obtain ⟨er, eG⟩ := inj2 h
          subst er; subst eG
          exact j_iret ok rfl dX2_kindHere_55 hK
      · refine j_if_eq (tgt := 42) ok dX2_kindHere_37 (by decide) (fun z => absurd z c9) (fun _ => ?_)
        refine j_iconst (v := 2) ok dX2_kindHere_40 (by decide) ?_
        obtain ⟨er, eG⟩ := inj2 h
        subst er; subst eG
        exact j_iret ok rfl dX2_kindHere_41 hK
    · refine j_if_eq (tgt := 28) ok dX2_kindHere_23 (by decide) (fun z => absurd z c6) (fun _ => ?_)
      refine j_iconst (v := 1) ok dX2_kindHere_26 (by decide) ?_
      obtain ⟨er, eG⟩ := inj2 h
      subst er; subst eG
      exact j_iret ok rfl dX2_kindHere_27 hK
  · refine j_if_eq (tgt := 14) ok dX2_kindHere_9 (by decide) (fun z => absurd z c3) (fun _ => ?_)
    refine j_iconst (v := 0) ok dX2_kindHere_12 (by decide) ?_
    obtain ⟨er, eG⟩ := inj2 h
    subst er; subst eG
    exact j_iret ok rfl dX2_kindHere_13 hK

def fX2_kindHere (l0 : Nat) (G : Mem) : Option (Int32 × Mem) := fX2_kindHere_0 l0 G
set_option maxRecDepth 100000 in
theorem tX2_kindHere {l : Launch} (hfl : l.stackTraces = false) (V : Wd) (l0 : Nat) (G : Mem) {r : Int32} {G' : Mem} (h : fX2_kindHere l0 G = some (r, G')) : Mx l yX2_kindHere cX2_kindHere 1 (some .int) 5 107 V [.ref (V.B + l0)] G (.inl (some (.int r))) G' :=
  mx_of (L := [(0, .ref (V.B + l0))]) hfl (by decide +kernel) (Nat.le_of_ble_eq_true rfl) rfl (fun X hl hV hin ok he => by
    subst hl; subst hV
    exact J.sub [0] rfl (jX2_kindHere_0 ok l0 G h he))
def fX2_readNumber_41 (l0 : Nat)  (G : Mem) : Option (Int32 × Mem) :=
  ck G 12 l0 <| (fX2_reject l0 (2 : Int32) G).bind fun q1 =>
  some ((-1 : Int32), q1.2)

set_option maxRecDepth 100000 in
set_option maxHeartbeats 4000000 in
theorem jX2_readNumber_41 {X : Cx} (ok : OK X cX2_readNumber RX2 (some .int) 4 2 142) (l0 : Nat)  (G : Mem) {r : Int32} {G' : Mem} (h : fX2_readNumber_41 l0 G = some (r, G')) (hK : (finI X) r G') : J X 4 41 [(0, .ref (X.B + l0))] [] G := by
  unfold fX2_readNumber_41 at h
  refine j_aload_n ok dX2_readNumber_41 rfl 0 rfl ?_
  refine j_iconst (v := 2) ok dX2_readNumber_42 (by decide) ?_
  obtain ⟨kq1, h⟩ := ck_some h
  obtain ⟨q1, hq1, h⟩ := obind h
  refine k_V1 ok kl_X2_67 ⟨Nat.le_of_ble_eq_true rfl, Nat.le_of_ble_eq_true rfl⟩ [.int (2 : Int32)] kq1 rfl rfl (Nat.le_of_ble_eq_true rfl) (tX2_reject ok.fl X.V l0 (2 : Int32) G hq1) dX2_readNumber_43 ?_
  refine j_pop ok dX2_readNumber_46 rfl ?_
  refine j_iconst (v := -1) ok dX2_readNumber_47 (by decide) ?_
  obtain ⟨er, eG⟩ := inj2 h
  subst er; subst eG
  exact j_iret ok rfl dX2_readNumber_48 hK

def fX2_readNumber_0 (l0 : Nat) (l1 : Int32) (l2 : Int32)  (G : Mem) : Option (Int32 × Mem) :=
  (gR G 12 l0 0).bind fun v1 =>
  (gF G 15 v1 1).bind fun v2 =>
  if v2 = (3 : Int32) then
    (gR G 12 l0 0).bind fun v4 =>
    (gF G 15 v4 3).bind fun v5 =>
    if v5 < l1 then
      fX2_readNumber_41 l0 G
    else
      (gR G 12 l0 0).bind fun v7 =>
      (gF G 15 v7 3).bind fun v8 =>
      if v8 ≤ l2 then
        (gR G 12 l0 0).bind fun v10 =>
        (gF G 15 v10 3).bind fun v11 =>
        (gR G 12 l0 0).bind fun v12 =>
        ck G 15 v12 <| (fX5_readNext v12 G).bind fun q13 =>
        some (v11, q13.2)
      else
        fX2_readNumber_41 l0 G
  else
    ck G 12 l0 <| (fX2_reject l0 (1 : Int32) G).bind fun q4 =>
    some ((-1 : Int32), q4.2)

set_option maxRecDepth 100000 in
set_option maxHeartbeats 4000000 in
theorem jX2_readNumber_0 {X : Cx} (ok : OK X cX2_readNumber RX2 (some .int) 4 2 142) (l0 : Nat) (l1 : Int32) (l2 : Int32)  (G : Mem) {r : Int32} {G' : Mem} (h : fX2_readNumber_0 l0 l1 l2 G = some (r, G')) (hK : (finI X) r G') : J X 4 0 [(0, .ref (X.B + l0)), (1, .int l1), (2, .int l2)] [] G := by
  unfold fX2_readNumber_0 at h
  refine j_aload_n ok dX2_readNumber_0 rfl 0 rfl ?_
  obtain ⟨v1, hv1, h⟩ := obind h
  refine k_getR ok fl_X2_12 hv1 dX2_readNumber_1 ?_
  obtain ⟨v2, hv2, h⟩ := obind h
  refine k_getI ok fl_X2_56 hv2 dX2_readNumber_4 ?_
  refine j_iconst (v := 3) ok dX2_readNumber_7 (by decide) ?_
  rcases ite_some h with ⟨c3, h⟩ | ⟨c3, h⟩
  · refine j_icmp_eq (tgt := 19) ok dX2_readNumber_8 (by decide) (fun _ => ?_) (fun z => absurd c3 z)
    refine j_aload_n ok dX2_readNumber_19 rfl 0 rfl ?_
    obtain ⟨v4, hv4, h⟩ := obind h
    refine k_getR ok fl_X2_12 hv4 dX2_readNumber_20 ?_
    obtain ⟨v5, hv5, h⟩ := obind h
    refine k_getI ok fl_X2_192 hv5 dX2_readNumber_23 ?_
    refine j_iload_n ok dX2_readNumber_26 rfl 1 rfl ?_
    rcases ite_some h with ⟨c6, h⟩ | ⟨c6, h⟩
    · refine j_icmp_lt (tgt := 41) ok dX2_readNumber_27 (by decide) (fun _ => ?_) (fun z => absurd c6 z)
      exact J.sub [0] rfl (jX2_readNumber_41 ok l0 G h hK)
    · refine j_icmp_lt (tgt := 41) ok dX2_readNumber_27 (by decide) (fun z => absurd z c6) (fun _ => ?_)
      refine j_aload_n ok dX2_readNumber_30 rfl 0 rfl ?_
      obtain ⟨v7, hv7, h⟩ := obind h
      refine k_getR ok fl_X2_12 hv7 dX2_readNumber_31 ?_
      obtain ⟨v8, hv8, h⟩ := obind h
      refine k_getI ok fl_X2_192 hv8 dX2_readNumber_34 ?_
      refine j_iload_n ok dX2_readNumber_37 rfl 2 rfl ?_
      rcases ite_some h with ⟨c9, h⟩ | ⟨c9, h⟩
      · refine j_icmp_le (tgt := 49) ok dX2_readNumber_38 (by decide) (fun _ => ?_) (fun z => absurd c9 z)
        refine j_aload_n ok dX2_readNumber_49 rfl 0 rfl ?_
        obtain ⟨v10, hv10, h⟩ := obind h
        refine k_getR ok fl_X2_12 hv10 dX2_readNumber_50 ?_
        obtain ⟨v11, hv11, h⟩ := obind h
        refine k_getI ok fl_X2_192 hv11 dX2_readNumber_53 ?_
        refine j_istore_n (L' := [(3, .int v11), (0, .ref (X.B + l0)), (1, .int l1), (2, .int l2)]) ok dX2_readNumber_56 rfl (by decide) rfl ?_
        refine j_aload_n ok dX2_readNumber_57 rfl 1 rfl ?_
        obtain ⟨v12, hv12, h⟩ := obind h
        refine k_getR ok fl_X2_12 hv12 dX2_readNumber_58 ?_
        obtain ⟨kq13, h⟩ := ck_some h
        obtain ⟨q13, hq13, h⟩ := obind h
        refine k_V0 ok kl_X2_96 ⟨Nat.le_of_ble_eq_true rfl, Nat.le_of_ble_eq_true rfl⟩ [] kq13 rfl rfl (Nat.le_of_ble_eq_true rfl) (tX5_readNext ok.fl X.V v12 G hq13) dX2_readNumber_61 ?_
        refine j_iload_n ok dX2_readNumber_64 rfl 0 rfl ?_
        obtain ⟨er, eG⟩ := inj2 h
        subst er; subst eG
        exact j_iret ok rfl dX2_readNumber_65 hK
      · refine j_icmp_le (tgt := 49) ok dX2_readNumber_38 (by decide) (fun z => absurd z c9) (fun _ => ?_)
        exact J.sub [0] rfl (jX2_readNumber_41 ok l0 G h hK)
  · refine j_icmp_eq (tgt := 19) ok dX2_readNumber_8 (by decide) (fun z => absurd z c3) (fun _ => ?_)
    refine j_aload_n ok dX2_readNumber_11 rfl 0 rfl ?_
    refine j_iconst (v := 1) ok dX2_readNumber_12 (by decide) ?_
    obtain ⟨kq4, h⟩ := ck_some h
    obtain ⟨q4, hq4, h⟩ := obind h
    refine k_V1 ok kl_X2_67 ⟨Nat.le_of_ble_eq_true rfl, Nat.le_of_ble_eq_true rfl⟩ [.int (1 : Int32)] kq4 rfl rfl (Nat.le_of_ble_eq_true rfl) (tX2_reject ok.fl X.V l0 (1 : Int32) G hq4) dX2_readNumber_13 ?_
    refine j_pop ok dX2_readNumber_16 rfl ?_
    refine j_iconst (v := -1) ok dX2_readNumber_17 (by decide) ?_
    obtain ⟨er, eG⟩ := inj2 h
    subst er; subst eG
    exact j_iret ok rfl dX2_readNumber_18 hK

def fX2_readNumber (l0 : Nat) (l1 : Int32) (l2 : Int32) (G : Mem) : Option (Int32 × Mem) := fX2_readNumber_0 l0 l1 l2 G
set_option maxRecDepth 100000 in
theorem tX2_readNumber {l : Launch} (hfl : l.stackTraces = false) (V : Wd) (l0 : Nat) (l1 : Int32) (l2 : Int32) (G : Mem) {r : Int32} {G' : Mem} (h : fX2_readNumber l0 l1 l2 G = some (r, G')) : Mx l yX2_readNumber cX2_readNumber 4 (some .int) 2 142 V [.ref (V.B + l0), .int l1, .int l2] G (.inl (some (.int r))) G' :=
  mx_of (L := [(0, .ref (V.B + l0)), (1, .int l1), (2, .int l2)]) hfl (by decide +kernel) (Nat.le_of_ble_eq_true rfl) rfl (fun X hl hV hin ok he => by
    subst hl; subst hV
    exact J.sub [0, 1, 2] rfl (jX2_readNumber_0 ok l0 l1 l2 G h he))
def fX2_readBoard_60   (G : Mem) : Option (Int32 × Mem) :=
  some ((0 : Int32), G)

set_option maxRecDepth 100000 in
set_option maxHeartbeats 4000000 in
theorem jX2_readBoard_60 {X : Cx} (ok : OK X cX2_readBoard RX2 (some .boolean) 4 5 165)   (G : Mem) {r : Int32} {G' : Mem} (h : fX2_readBoard_60  G = some (r, G')) (hK : (finI X) r G') : J X 4 60 [] [] G := by
  unfold fX2_readBoard_60 at h
  refine j_iconst (v := 0) ok dX2_readBoard_60 (by decide) ?_
  obtain ⟨er, eG⟩ := inj2 h
  subst er; subst eG
  exact j_zret ok rfl (Or.inl rfl) dX2_readBoard_61 hK

def fX2_readBoard_0 (l0 : Nat) (l1 : Nat)  (G : Mem) : Option (Int32 × Mem) :=
  (gR G 12 l0 0).bind fun v1 =>
  ck G 15 v1 <| (fX5_is v1 0 G).bind fun q2 =>
  if q2.1 = (0 : Int32) then
    ck q2.2 12 l0 <| (fX2_reject l0 (1 : Int32) q2.2).bind fun q4 =>
    rz q4.1 <|
    some (q4.1, q4.2)
  else
    (gR q2.2 12 l0 0).bind fun v4 =>
    ck q2.2 15 v4 <| (fX5_readNext v4 q2.2).bind fun q5 =>
    ck q5.2 12 l0 <| (fX2_readNumber l0 (3 : Int32) (6 : Int32) q5.2).bind fun q6 =>
    if q6.1 = (-1 : Int32) then
      some ((0 : Int32), q6.2)
    else
      ck q6.2 12 l0 <| (fX2_readNumber l0 (3 : Int32) (6 : Int32) q6.2).bind fun q8 =>
      if q8.1 = (-1 : Int32) then
        fX2_readBoard_60 q8.2
      else
        ck q8.2 12 l0 <| (fX2_isSemicolon l0 q8.2).bind fun q10 =>
        if q10.1 = (0 : Int32) then
          fX2_readBoard_60 q10.2
        else
          (gR q10.2 12 l0 0).bind fun v12 =>
          ck q10.2 15 v12 <| (fX5_readNext v12 q10.2).bind fun q13 =>
          ck q13.2 10 l1 <| (fX0_resize l1 q6.1 q8.1 q13.2).bind fun q14 =>
          some ((1 : Int32), q14.2)

set_option maxRecDepth 100000 in
set_option maxHeartbeats 4000000 in
theorem jX2_readBoard_0 {X : Cx} (ok : OK X cX2_readBoard RX2 (some .boolean) 4 5 165) (l0 : Nat) (l1 : Nat)  (G : Mem) {r : Int32} {G' : Mem} (h : fX2_readBoard_0 l0 l1 G = some (r, G')) (hK : (finI X) r G') : J X 4 0 [(0, .ref (X.B + l0)), (1, .ref (X.B + l1))] [] G := by
  unfold fX2_readBoard_0 at h
  refine j_aload_n ok dX2_readBoard_0 rfl 0 rfl ?_
  obtain ⟨v1, hv1, h⟩ := obind h
  refine k_getR ok fl_X2_12 hv1 dX2_readBoard_1 ?_
  refine k_str ok st_X2_106 dX2_readBoard_4 ?_
  obtain ⟨kq2, h⟩ := ck_some h
  obtain ⟨q2, hq2, h⟩ := obind h
  refine k_V1 ok kl_X2_79 ⟨Nat.le_of_ble_eq_true rfl, Nat.le_of_ble_eq_true rfl⟩ [.ref (X.V.sa 0)] kq2 rfl rfl (Nat.le_of_ble_eq_true rfl) (tX5_is ok.fl X.V v1 0 G hq2) dX2_readBoard_6 ?_
  rcases ite_some h with ⟨c3, h⟩ | ⟨c3, h⟩
  · refine j_if_ne (tgt := 18) ok dX2_readBoard_9 (by decide) (fun z => absurd c3 z) (fun _ => ?_)
    refine j_aload_n ok dX2_readBoard_12 rfl 0 rfl ?_
    refine j_iconst (v := 1) ok dX2_readBoard_13 (by decide) ?_
    obtain ⟨kq4, h⟩ := ck_some h
    obtain ⟨q4, hq4, h⟩ := obind h
    refine k_V1 ok kl_X2_67 ⟨Nat.le_of_ble_eq_true rfl, Nat.le_of_ble_eq_true rfl⟩ [.int (1 : Int32)] kq4 rfl rfl (Nat.le_of_ble_eq_true rfl) (tX2_reject ok.fl X.V l0 (1 : Int32) q2.2 hq4) dX2_readBoard_14 ?_
    obtain ⟨hz5, h⟩ := rz_some h
    obtain ⟨er, eG⟩ := inj2 h
    subst er; subst eG
    exact j_zret ok rfl hz5 dX2_readBoard_17 hK
  · refine j_if_ne (tgt := 18) ok dX2_readBoard_9 (by decide) (fun _ => ?_) (fun z => absurd z c3)
    refine j_aload_n ok dX2_readBoard_18 rfl 0 rfl ?_
    obtain ⟨v4, hv4, h⟩ := obind h
    refine k_getR ok fl_X2_12 hv4 dX2_readBoard_19 ?_
    obtain ⟨kq5, h⟩ := ck_some h
    obtain ⟨q5, hq5, h⟩ := obind h
    refine k_V0 ok kl_X2_96 ⟨Nat.le_of_ble_eq_true rfl, Nat.le_of_ble_eq_true rfl⟩ [] kq5 rfl rfl (Nat.le_of_ble_eq_true rfl) (tX5_readNext ok.fl X.V v4 q2.2 hq5) dX2_readBoard_22 ?_
    refine j_aload_n ok dX2_readBoard_25 rfl 0 rfl ?_
    refine j_iconst (v := 3) ok dX2_readBoard_26 (by decide) ?_
    refine j_bipush (v := 6) ok dX2_readBoard_27 (by decide) ?_
    obtain ⟨kq6, h⟩ := ck_some h
    obtain ⟨q6, hq6, h⟩ := obind h
    refine k_V1 ok kl_X2_107 ⟨Nat.le_of_ble_eq_true rfl, Nat.le_of_ble_eq_true rfl⟩ [.int (3 : Int32), .int (6 : Int32)] kq6 rfl rfl (Nat.le_of_ble_eq_true rfl) (tX2_readNumber ok.fl X.V l0 (3 : Int32) (6 : Int32) q5.2 hq6) dX2_readBoard_29 ?_
    refine j_istore_n (L' := [(2, .int q6.1), (0, .ref (X.B + l0)), (1, .ref (X.B + l1))]) ok dX2_readBoard_32 rfl (by decide) rfl ?_
    refine j_iload_n ok dX2_readBoard_33 rfl 0 rfl ?_
    refine j_iconst (v := -1) ok dX2_readBoard_34 (by decide) ?_
    rcases ite_some h with ⟨c7, h⟩ | ⟨c7, h⟩
    · refine j_icmp_ne (tgt := 40) ok dX2_readBoard_35 (by decide) (fun z => absurd c7 z) (fun _ => ?_)
      refine j_iconst (v := 0) ok dX2_readBoard_38 (by decide) ?_
      obtain ⟨er, eG⟩ := inj2 h
      subst er; subst eG
      exact j_zret ok rfl (Or.inl rfl) dX2_readBoard_39 hK
    · refine j_icmp_ne (tgt := 40) ok dX2_readBoard_35 (by decide) (fun _ => ?_) (fun z => absurd z c7)
      refine j_aload_n ok dX2_readBoard_40 rfl 1 rfl ?_
      refine j_iconst (v := 3) ok dX2_readBoard_41 (by decide) ?_
      refine j_bipush (v := 6) ok dX2_readBoard_42 (by decide) ?_
      obtain ⟨kq8, h⟩ := ck_some h
      obtain ⟨q8, hq8, h⟩ := obind h
      refine k_V1 ok kl_X2_107 ⟨Nat.le_of_ble_eq_true rfl, Nat.le_of_ble_eq_true rfl⟩ [.int (3 : Int32), .int (6 : Int32)] kq8 rfl rfl (Nat.le_of_ble_eq_true rfl) (tX2_readNumber ok.fl X.V l0 (3 : Int32) (6 : Int32) q6.2 hq8) dX2_readBoard_44 ?_
      refine j_istore_n (L' := [(3, .int q8.1), (2, .int q6.1), (0, .ref (X.B + l0)), (1, .ref (X.B + l1))]) ok dX2_readBoard_47 rfl (by decide) rfl ?_
      refine j_iload_n ok dX2_readBoard_48 rfl 0 rfl ?_
      refine j_iconst (v := -1) ok dX2_readBoard_49 (by decide) ?_
      rcases ite_some h with ⟨c9, h⟩ | ⟨c9, h⟩
      · refine j_icmp_eq (tgt := 60) ok dX2_readBoard_50 (by decide) (fun _ => ?_) (fun z => absurd c9 z)
        exact J.sub [] rfl (jX2_readBoard_60 ok q8.2 h hK)
      · refine j_icmp_eq (tgt := 60) ok dX2_readBoard_50 (by decide) (fun z => absurd z c9) (fun _ => ?_)
        refine j_aload_n ok dX2_readBoard_53 rfl 2 rfl ?_
        obtain ⟨kq10, h⟩ := ck_some h
        obtain ⟨q10, hq10, h⟩ := obind h
        refine k_V1 ok kl_X2_103 ⟨Nat.le_of_ble_eq_true rfl, Nat.le_of_ble_eq_true rfl⟩ [] kq10 rfl rfl (Nat.le_of_ble_eq_true rfl) (tX2_isSemicolon ok.fl X.V l0 q8.2 hq10) dX2_readBoard_54 ?_
        rcases ite_some h with ⟨c11, h⟩ | ⟨c11, h⟩
        · refine j_if_ne (tgt := 62) ok dX2_readBoard_57 (by decide) (fun z => absurd c11 z) (fun _ => ?_)
          exact J.sub [] rfl (jX2_readBoard_60 ok q10.2 h hK)
        · refine j_if_ne (tgt := 62) ok dX2_readBoard_57 (by decide) (fun _ => ?_) (fun z => absurd z c11)
          refine j_aload_n ok dX2_readBoard_62 rfl 2 rfl ?_
          obtain ⟨v12, hv12, h⟩ := obind h
          refine k_getR ok fl_X2_12 hv12 dX2_readBoard_63 ?_
          obtain ⟨kq13, h⟩ := ck_some h
          obtain ⟨q13, hq13, h⟩ := obind h
          refine k_V0 ok kl_X2_96 ⟨Nat.le_of_ble_eq_true rfl, Nat.le_of_ble_eq_true rfl⟩ [] kq13 rfl rfl (Nat.le_of_ble_eq_true rfl) (tX5_readNext ok.fl X.V v12 q10.2 hq13) dX2_readBoard_66 ?_
          refine j_aload_n ok dX2_readBoard_69 rfl 3 rfl ?_
          refine j_iload_n ok dX2_readBoard_70 rfl 1 rfl ?_
          refine j_iload_n ok dX2_readBoard_71 rfl 0 rfl ?_
          obtain ⟨kq14, h⟩ := ck_some h
          obtain ⟨q14, hq14, h⟩ := obind h
          refine k_V0 ok kl_X2_111 ⟨Nat.le_of_ble_eq_true rfl, Nat.le_of_ble_eq_true rfl⟩ [.int q6.1, .int q8.1] kq14 rfl rfl (Nat.le_of_ble_eq_true rfl) (tX0_resize ok.fl X.V l1 q6.1 q8.1 q13.2 hq14) dX2_readBoard_72 ?_
          refine j_iconst (v := 1) ok dX2_readBoard_75 (by decide) ?_
          obtain ⟨er, eG⟩ := inj2 h
          subst er; subst eG
          exact j_zret ok rfl (Or.inr rfl) dX2_readBoard_76 hK

def fX2_readBoard (l0 : Nat) (l1 : Nat) (G : Mem) : Option (Int32 × Mem) := fX2_readBoard_0 l0 l1 G
set_option maxRecDepth 100000 in
theorem tX2_readBoard {l : Launch} (hfl : l.stackTraces = false) (V : Wd) (l0 : Nat) (l1 : Nat) (G : Mem) {r : Int32} {G' : Mem} (h : fX2_readBoard l0 l1 G = some (r, G')) : Mx l yX2_readBoard cX2_readBoard 4 (some .boolean) 5 165 V [.ref (V.B + l0), .ref (V.B + l1)] G (.inl (some (.int r))) G' :=
  mx_of (L := [(0, .ref (V.B + l0)), (1, .ref (V.B + l1))]) hfl (by decide +kernel) (Nat.le_of_ble_eq_true rfl) rfl (fun X hl hV hin ok he => by
    subst hl; subst hV
    exact J.sub [0, 1] rfl (jX2_readBoard_0 ok l0 l1 G h he))
def fX2_readNote_166 (l0 : Nat)  (G : Mem) : Option (Int32 × Mem) :=
  (gR G 12 l0 6).bind fun v1 =>
  ck G 12 l0 <| (fX2_isPassed l0 14 G).bind fun q2 =>
  (pZ q2.2 11 v1 5 q2.1).bind fun G3 =>
  (gR G3 12 l0 6).bind fun v4 =>
  ck G3 12 l0 <| (fX2_isPassed l0 15 G3).bind fun q5 =>
  (pZ q5.2 11 v4 6 q5.1).bind fun G6 =>
  ck G6 12 l0 <| (fX2_isSemicolon l0 G6).bind fun q7 =>
  rz q7.1 <|
  some (q7.1, q7.2)

set_option maxRecDepth 100000 in
set_option maxHeartbeats 4000000 in
theorem jX2_readNote_166 {X : Cx} (ok : OK X cX2_readNote RX2 (some .boolean) 3 6 165) (l0 : Nat)  (G : Mem) {r : Int32} {G' : Mem} (h : fX2_readNote_166 l0 G = some (r, G')) (hK : (finI X) r G') : J X 3 166 [(0, .ref (X.B + l0))] [] G := by
  unfold fX2_readNote_166 at h
  refine j_aload_n ok dX2_readNote_166 rfl 0 rfl ?_
  obtain ⟨v1, hv1, h⟩ := obind h
  refine k_getR ok fl_X2_37 hv1 dX2_readNote_167 ?_
  refine j_aload_n ok dX2_readNote_170 rfl 0 rfl ?_
  refine k_str ok st_X2_180 dX2_readNote_171 ?_
  obtain ⟨kq2, h⟩ := ck_some h
  obtain ⟨q2, hq2, h⟩ := obind h
  refine k_V1 ok kl_X2_166 ⟨Nat.le_of_ble_eq_true rfl, Nat.le_of_ble_eq_true rfl⟩ [.ref (X.V.sa 14)] kq2 rfl rfl (Nat.le_of_ble_eq_true rfl) (tX2_isPassed ok.fl X.V l0 14 G hq2) dX2_readNote_173 ?_
  obtain ⟨G3, hG3, h⟩ := obind h
  refine k_putZ ok fl_X2_182 fp_X1 rfl (Or.inl rfl) hG3 dX2_readNote_176 ?_
  refine j_aload_n ok dX2_readNote_179 rfl 0 rfl ?_
  obtain ⟨v4, hv4, h⟩ := obind h
  refine k_getR ok fl_X2_37 hv4 dX2_readNote_180 ?_
  refine j_aload_n ok dX2_readNote_183 rfl 0 rfl ?_
  refine k_str ok st_X2_185 dX2_readNote_184 ?_
  obtain ⟨kq5, h⟩ := ck_some h
  obtain ⟨q5, hq5, h⟩ := obind h
  refine k_V1 ok kl_X2_166 ⟨Nat.le_of_ble_eq_true rfl, Nat.le_of_ble_eq_true rfl⟩ [.ref (X.V.sa 15)] kq5 rfl rfl (Nat.le_of_ble_eq_true rfl) (tX2_isPassed ok.fl X.V l0 15 G3 hq5) dX2_readNote_186 ?_
  obtain ⟨G6, hG6, h⟩ := obind h
  refine k_putZ ok fl_X2_187 fp_X1 rfl (Or.inl rfl) hG6 dX2_readNote_189 ?_
  refine j_aload_n ok dX2_readNote_192 rfl 0 rfl ?_
  obtain ⟨kq7, h⟩ := ck_some h
  obtain ⟨q7, hq7, h⟩ := obind h
  refine k_V1 ok kl_X2_103 ⟨Nat.le_of_ble_eq_true rfl, Nat.le_of_ble_eq_true rfl⟩ [] kq7 rfl rfl (Nat.le_of_ble_eq_true rfl) (tX2_isSemicolon ok.fl X.V l0 G6 hq7) dX2_readNote_193 ?_
  obtain ⟨hz8, h⟩ := rz_some h
  obtain ⟨er, eG⟩ := inj2 h
  subst er; subst eG
  exact j_zret ok rfl hz8 dX2_readNote_196 hK

def fX2_readNote_95 (l0 : Nat) (l1 : Nat)  (G : Mem) : Option (Int32 × Mem) :=
  ck G 12 l0 <| (fX2_isPassed l0 13 G).bind fun q1 =>
  if q1.1 = (0 : Int32) then
    fX2_readNote_166 l0 q1.2
  else
    (gR q1.2 12 l0 6).bind fun v3 =>
    (gF q1.2 10 l1 0).bind fun v4 =>
    ck q1.2 12 l0 <| (fX2_readNumber l0 (0 : Int32) (v4 - (1 : Int32)) q1.2).bind fun q5 =>
    (pI q5.2 11 v3 3 q5.1).bind fun G6 =>
    (gR G6 12 l0 6).bind fun v7 =>
    (gF G6 11 v7 3).bind fun v8 =>
    if v8 = (-1 : Int32) then
      some ((0 : Int32), G6)
    else
      (gR G6 12 l0 6).bind fun v10 =>
      (gF G6 10 l1 1).bind fun v11 =>
      ck G6 12 l0 <| (fX2_readNumber l0 (0 : Int32) (v11 - (1 : Int32)) G6).bind fun q12 =>
      (pI q12.2 11 v10 4 q12.1).bind fun G13 =>
      (gR G13 12 l0 6).bind fun v14 =>
      (gF G13 11 v14 4).bind fun v15 =>
      if v15 = (-1 : Int32) then
        some ((0 : Int32), G13)
      else
        fX2_readNote_166 l0 G13

set_option maxRecDepth 100000 in
set_option maxHeartbeats 4000000 in
theorem jX2_readNote_95 {X : Cx} (ok : OK X cX2_readNote RX2 (some .boolean) 3 6 165) (l0 : Nat) (l1 : Nat)  (G : Mem) {r : Int32} {G' : Mem} (h : fX2_readNote_95 l0 l1 G = some (r, G')) (hK : (finI X) r G') : J X 3 95 [(0, .ref (X.B + l0)), (1, .ref (X.B + l1))] [] G := by
  unfold fX2_readNote_95 at h
  refine j_aload_n ok dX2_readNote_95 rfl 0 rfl ?_
  refine k_str ok st_X2_172 dX2_readNote_96 ?_
  obtain ⟨kq1, h⟩ := ck_some h
  obtain ⟨q1, hq1, h⟩ := obind h
  refine k_V1 ok kl_X2_166 ⟨Nat.le_of_ble_eq_true rfl, Nat.le_of_ble_eq_true rfl⟩ [.ref (X.V.sa 13)] kq1 rfl rfl (Nat.le_of_ble_eq_true rfl) (tX2_isPassed ok.fl X.V l0 13 G hq1) dX2_readNote_98 ?_
  rcases ite_some h with ⟨c2, h⟩ | ⟨c2, h⟩
  · refine j_if_eq (tgt := 166) ok dX2_readNote_101 (by decide) (fun _ => ?_) (fun z => absurd c2 z)
    exact J.sub [0] rfl (jX2_readNote_166 ok l0 q1.2 h hK)
  · refine j_if_eq (tgt := 166) ok dX2_readNote_101 (by decide) (fun z => absurd z c2) (fun _ => ?_)
    refine j_aload_n ok dX2_readNote_104 rfl 0 rfl ?_
    obtain ⟨v3, hv3, h⟩ := obind h
    refine k_getR ok fl_X2_37 hv3 dX2_readNote_105 ?_
    refine j_aload_n ok dX2_readNote_108 rfl 0 rfl ?_
    refine j_iconst (v := 0) ok dX2_readNote_109 (by decide) ?_
    refine j_aload_n ok dX2_readNote_110 rfl 1 rfl ?_
    obtain ⟨v4, hv4, h⟩ := obind h
    refine k_getI ok fl_X2_125 hv4 dX2_readNote_111 ?_
    refine j_iconst (v := 1) ok dX2_readNote_114 (by decide) ?_
    refine j_isub ok dX2_readNote_115 ?_
    obtain ⟨kq5, h⟩ := ck_some h
    obtain ⟨q5, hq5, h⟩ := obind h
    refine k_V1 ok kl_X2_107 ⟨Nat.le_of_ble_eq_true rfl, Nat.le_of_ble_eq_true rfl⟩ [.int (0 : Int32), .int (v4 - (1 : Int32))] kq5 rfl rfl (Nat.le_of_ble_eq_true rfl) (tX2_readNumber ok.fl X.V l0 (0 : Int32) (v4 - (1 : Int32)) q1.2 hq5) dX2_readNote_116 ?_
    obtain ⟨G6, hG6, h⟩ := obind h
    refine k_putI ok fl_X2_174 fp_X1 rfl (Or.inl rfl) hG6 dX2_readNote_119 ?_
    refine j_aload_n ok dX2_readNote_122 rfl 0 rfl ?_
    obtain ⟨v7, hv7, h⟩ := obind h
    refine k_getR ok fl_X2_37 hv7 dX2_readNote_123 ?_
    obtain ⟨v8, hv8, h⟩ := obind h
    refine k_getI ok fl_X2_174 hv8 dX2_readNote_126 ?_
    refine j_iconst (v := -1) ok dX2_readNote_129 (by decide) ?_
    rcases ite_some h with ⟨c9, h⟩ | ⟨c9, h⟩
    · refine j_icmp_ne (tgt := 135) ok dX2_readNote_130 (by decide) (fun z => absurd c9 z) (fun _ => ?_)
      refine j_iconst (v := 0) ok dX2_readNote_133 (by decide) ?_
      obtain ⟨er, eG⟩ := inj2 h
      subst er; subst eG
      exact j_zret ok rfl (Or.inl rfl) dX2_readNote_134 hK
    · refine j_icmp_ne (tgt := 135) ok dX2_readNote_130 (by decide) (fun _ => ?_) (fun z => absurd z c9)
      refine j_aload_n ok dX2_readNote_135 rfl 0 rfl ?_
      obtain ⟨v10, hv10, h⟩ := obind h
      refine k_getR ok fl_X2_37 hv10 dX2_readNote_136 ?_
      refine j_aload_n ok dX2_readNote_139 rfl 0 rfl ?_
      refine j_iconst (v := 0) ok dX2_readNote_140 (by decide) ?_
      refine j_aload_n ok dX2_readNote_141 rfl 1 rfl ?_
      obtain ⟨v11, hv11, h⟩ := obind h
      refine k_getI ok fl_X2_131 hv11 dX2_readNote_142 ?_
      refine j_iconst (v := 1) ok dX2_readNote_145 (by decide) ?_
      refine j_isub ok dX2_readNote_146 ?_
      obtain ⟨kq12, h⟩ := ck_some h
      obtain ⟨q12, hq12, h⟩ := obind h
      refine k_V1 ok kl_X2_107 ⟨Nat.le_of_ble_eq_true rfl, Nat.le_of_ble_eq_true rfl⟩ [.int (0 : Int32), .int (v11 - (1 : Int32))] kq12 rfl rfl (Nat.le_of_ble_eq_true rfl) (tX2_readNumber ok.fl X.V l0 (0 : Int32) (v11 - (1 : Int32)) G6 hq12) dX2_readNote_147 ?_
      obtain ⟨G13, hG13, h⟩ := obind h
      refine k_putI ok fl_X2_177 fp_X1 rfl (Or.inl rfl) hG13 dX2_readNote_150 ?_
      refine j_aload_n ok dX2_readNote_153 rfl 0 rfl ?_
      obtain ⟨v14, hv14, h⟩ := obind h
      refine k_getR ok fl_X2_37 hv14 dX2_readNote_154 ?_
      obtain ⟨v15, hv15, h⟩ := obind h
      refine k_getI ok fl_X2_177 hv15 dX2_readNote_157 ?_
      refine j_iconst (v := -1) ok dX2_readNote_160 (by decide) ?_
      rcases ite_some h with ⟨c16, h⟩ | ⟨c16, h⟩
      · refine j_icmp_ne (tgt := 166) ok dX2_readNote_161 (by decide) (fun z => absurd c16 z) (fun _ => ?_)
        refine j_iconst (v := 0) ok dX2_readNote_164 (by decide) ?_
        obtain ⟨er, eG⟩ := inj2 h
        subst er; subst eG
        exact j_zret ok rfl (Or.inl rfl) dX2_readNote_165 hK
      · refine j_icmp_ne (tgt := 166) ok dX2_readNote_161 (by decide) (fun _ => ?_) (fun z => absurd z c16)
        exact J.sub [0] rfl (jX2_readNote_166 ok l0 G13 h hK)

def fX2_readNote_35 (l0 : Nat) (l1 : Nat) (l2 : Int32)  (G : Mem) : Option (Int32 × Mem) :=
  (gR G 12 l0 0).bind fun v1 =>
  ck G 15 v1 <| (fX5_readNext v1 G).bind fun q2 =>
  (gR q2.2 12 l0 6).bind fun v3 =>
  ck q2.2 11 v3 <| (fX1_state v3 l2 (-1 : Int32) (-1 : Int32) (-1 : Int32) (0 : Int32) (0 : Int32) q2.2).bind fun q4 =>
  ck q4.2 12 l0 <| (fX2_isPassed l0 12 q4.2).bind fun q5 =>
  if q5.1 = (0 : Int32) then
    fX2_readNote_95 l0 l1 q5.2
  else
    (gR q5.2 12 l0 6).bind fun v7 =>
    (gF q5.2 10 l1 0).bind fun v8 =>
    ck q5.2 12 l0 <| (fX2_readNumber l0 (0 : Int32) (v8 - (1 : Int32)) q5.2).bind fun q9 =>
    (pI q9.2 11 v7 1 q9.1).bind fun G10 =>
    (gR G10 12 l0 6).bind fun v11 =>
    (gF G10 11 v11 1).bind fun v12 =>
    if v12 = (-1 : Int32) then
      some ((0 : Int32), G10)
    else
      fX2_readNote_95 l0 l1 G10

set_option maxRecDepth 100000 in
set_option maxHeartbeats 4000000 in
theorem jX2_readNote_35 {X : Cx} (ok : OK X cX2_readNote RX2 (some .boolean) 3 6 165) (l0 : Nat) (l1 : Nat) (l2 : Int32)  (G : Mem) {r : Int32} {G' : Mem} (h : fX2_readNote_35 l0 l1 l2 G = some (r, G')) (hK : (finI X) r G') : J X 3 35 [(0, .ref (X.B + l0)), (1, .ref (X.B + l1)), (2, .int l2)] [] G := by
  unfold fX2_readNote_35 at h
  refine j_aload_n ok dX2_readNote_35 rfl 0 rfl ?_
  obtain ⟨v1, hv1, h⟩ := obind h
  refine k_getR ok fl_X2_12 hv1 dX2_readNote_36 ?_
  obtain ⟨kq2, h⟩ := ck_some h
  obtain ⟨q2, hq2, h⟩ := obind h
  refine k_V0 ok kl_X2_96 ⟨Nat.le_of_ble_eq_true rfl, Nat.le_of_ble_eq_true rfl⟩ [] kq2 rfl rfl (Nat.le_of_ble_eq_true rfl) (tX5_readNext ok.fl X.V v1 G hq2) dX2_readNote_39 ?_
  refine j_aload_n ok dX2_readNote_42 rfl 0 rfl ?_
  obtain ⟨v3, hv3, h⟩ := obind h
  refine k_getR ok fl_X2_37 hv3 dX2_readNote_43 ?_
  refine j_iload_n ok dX2_readNote_46 rfl 2 rfl ?_
  refine j_iconst (v := -1) ok dX2_readNote_47 (by decide) ?_
  refine j_iconst (v := -1) ok dX2_readNote_48 (by decide) ?_
  refine j_iconst (v := -1) ok dX2_readNote_49 (by decide) ?_
  refine j_iconst (v := 0) ok dX2_readNote_50 (by decide) ?_
  refine j_iconst (v := 0) ok dX2_readNote_51 (by decide) ?_
  obtain ⟨kq4, h⟩ := ck_some h
  obtain ⟨q4, hq4, h⟩ := obind h
  refine k_V0 ok kl_X2_160 ⟨Nat.le_of_ble_eq_true rfl, Nat.le_of_ble_eq_true rfl⟩ [.int l2, .int (-1 : Int32), .int (-1 : Int32), .int (-1 : Int32), .int (0 : Int32), .int (0 : Int32)] kq4 rfl rfl (Nat.le_of_ble_eq_true rfl) (tX1_state ok.fl X.V v3 l2 (-1 : Int32) (-1 : Int32) (-1 : Int32) (0 : Int32) (0 : Int32) q2.2 hq4) dX2_readNote_52 ?_
  refine j_aload_n ok dX2_readNote_55 rfl 0 rfl ?_
  refine k_str ok st_X2_164 dX2_readNote_56 ?_
  obtain ⟨kq5, h⟩ := ck_some h
  obtain ⟨q5, hq5, h⟩ := obind h
  refine k_V1 ok kl_X2_166 ⟨Nat.le_of_ble_eq_true rfl, Nat.le_of_ble_eq_true rfl⟩ [.ref (X.V.sa 12)] kq5 rfl rfl (Nat.le_of_ble_eq_true rfl) (tX2_isPassed ok.fl X.V l0 12 q4.2 hq5) dX2_readNote_58 ?_
  rcases ite_some h with ⟨c6, h⟩ | ⟨c6, h⟩
  · refine j_if_eq (tgt := 95) ok dX2_readNote_61 (by decide) (fun _ => ?_) (fun z => absurd c6 z)
    exact J.sub [0, 1] rfl (jX2_readNote_95 ok l0 l1 q5.2 h hK)
  · refine j_if_eq (tgt := 95) ok dX2_readNote_61 (by decide) (fun z => absurd z c6) (fun _ => ?_)
    refine j_aload_n ok dX2_readNote_64 rfl 0 rfl ?_
    obtain ⟨v7, hv7, h⟩ := obind h
    refine k_getR ok fl_X2_37 hv7 dX2_readNote_65 ?_
    refine j_aload_n ok dX2_readNote_68 rfl 0 rfl ?_
    refine j_iconst (v := 0) ok dX2_readNote_69 (by decide) ?_
    refine j_aload_n ok dX2_readNote_70 rfl 1 rfl ?_
    obtain ⟨v8, hv8, h⟩ := obind h
    refine k_getI ok fl_X2_125 hv8 dX2_readNote_71 ?_
    refine j_iconst (v := 1) ok dX2_readNote_74 (by decide) ?_
    refine j_isub ok dX2_readNote_75 ?_
    obtain ⟨kq9, h⟩ := ck_some h
    obtain ⟨q9, hq9, h⟩ := obind h
    refine k_V1 ok kl_X2_107 ⟨Nat.le_of_ble_eq_true rfl, Nat.le_of_ble_eq_true rfl⟩ [.int (0 : Int32), .int (v8 - (1 : Int32))] kq9 rfl rfl (Nat.le_of_ble_eq_true rfl) (tX2_readNumber ok.fl X.V l0 (0 : Int32) (v8 - (1 : Int32)) q5.2 hq9) dX2_readNote_76 ?_
    obtain ⟨G10, hG10, h⟩ := obind h
    refine k_putI ok fl_X2_169 fp_X1 rfl (Or.inl rfl) hG10 dX2_readNote_79 ?_
    refine j_aload_n ok dX2_readNote_82 rfl 0 rfl ?_
    obtain ⟨v11, hv11, h⟩ := obind h
    refine k_getR ok fl_X2_37 hv11 dX2_readNote_83 ?_
    obtain ⟨v12, hv12, h⟩ := obind h
    refine k_getI ok fl_X2_169 hv12 dX2_readNote_86 ?_
    refine j_iconst (v := -1) ok dX2_readNote_89 (by decide) ?_
    rcases ite_some h with ⟨c13, h⟩ | ⟨c13, h⟩
    · refine j_icmp_ne (tgt := 95) ok dX2_readNote_90 (by decide) (fun z => absurd c13 z) (fun _ => ?_)
      refine j_iconst (v := 0) ok dX2_readNote_93 (by decide) ?_
      obtain ⟨er, eG⟩ := inj2 h
      subst er; subst eG
      exact j_zret ok rfl (Or.inl rfl) dX2_readNote_94 hK
    · refine j_icmp_ne (tgt := 95) ok dX2_readNote_90 (by decide) (fun _ => ?_) (fun z => absurd z c13)
      exact J.sub [0, 1] rfl (jX2_readNote_95 ok l0 l1 G10 h hK)

def fX2_readNote_0 (l0 : Nat) (l1 : Nat)  (G : Mem) : Option (Int32 × Mem) :=
  (gR G 12 l0 0).bind fun v1 =>
  ck G 15 v1 <| (fX5_readNext v1 G).bind fun q2 =>
  ck q2.2 12 l0 <| (fX2_kindHere l0 q2.2).bind fun q3 =>
  if q3.1 = (-1 : Int32) then
    (gR q3.2 12 l0 0).bind fun v5 =>
    ck q3.2 15 v5 <| (fX5_is v5 11 q3.2).bind fun q6 =>
    if q6.1 = (0 : Int32) then
      ck q6.2 12 l0 <| (fX2_reject l0 (1 : Int32) q6.2).bind fun q8 =>
      rz q8.1 <|
      some (q8.1, q8.2)
    else
      fX2_readNote_35 l0 l1 q3.1 q6.2
  else
    fX2_readNote_35 l0 l1 q3.1 q3.2

set_option maxRecDepth 100000 in
set_option maxHeartbeats 4000000 in
theorem jX2_readNote_0 {X : Cx} (ok : OK X cX2_readNote RX2 (some .boolean) 3 6 165) (l0 : Nat) (l1 : Nat)  (G : Mem) {r : Int32} {G' : Mem} (h : fX2_readNote_0 l0 l1 G = some (r, G')) (hK : (finI X) r G') : J X 3 0 [(0, .ref (X.B + l0)), (1, .ref (X.B + l1))] [] G := by
  unfold fX2_readNote_0 at h
  refine j_aload_n ok dX2_readNote_0 rfl 0 rfl ?_
  obtain ⟨v1, hv1, h⟩ := obind h
  refine k_getR ok fl_X2_12 hv1 dX2_readNote_1 ?_
  obtain ⟨kq2, h⟩ := ck_some h
  obtain ⟨q2, hq2, h⟩ := obind h
  refine k_V0 ok kl_X2_96 ⟨Nat.le_of_ble_eq_true rfl, Nat.le_of_ble_eq_true rfl⟩ [] kq2 rfl rfl (Nat.le_of_ble_eq_true rfl) (tX5_readNext ok.fl X.V v1 G hq2) dX2_readNote_4 ?_
  refine j_aload_n ok dX2_readNote_7 rfl 0 rfl ?_
  obtain ⟨kq3, h⟩ := ck_some h
  obtain ⟨q3, hq3, h⟩ := obind h
  refine k_V1 ok kl_X2_121 ⟨Nat.le_of_ble_eq_true rfl, Nat.le_of_ble_eq_true rfl⟩ [] kq3 rfl rfl (Nat.le_of_ble_eq_true rfl) (tX2_kindHere ok.fl X.V l0 q2.2 hq3) dX2_readNote_8 ?_
  refine j_istore_n (L' := [(2, .int q3.1), (0, .ref (X.B + l0)), (1, .ref (X.B + l1))]) ok dX2_readNote_11 rfl (by decide) rfl ?_
  refine j_iload_n ok dX2_readNote_12 rfl 0 rfl ?_
  refine j_iconst (v := -1) ok dX2_readNote_13 (by decide) ?_
  rcases ite_some h with ⟨c4, h⟩ | ⟨c4, h⟩
  · refine j_icmp_ne (tgt := 35) ok dX2_readNote_14 (by decide) (fun z => absurd c4 z) (fun _ => ?_)
    refine j_aload_n ok dX2_readNote_17 rfl 1 rfl ?_
    obtain ⟨v5, hv5, h⟩ := obind h
    refine k_getR ok fl_X2_12 hv5 dX2_readNote_18 ?_
    refine k_str ok st_X2_158 dX2_readNote_21 ?_
    obtain ⟨kq6, h⟩ := ck_some h
    obtain ⟨q6, hq6, h⟩ := obind h
    refine k_V1 ok kl_X2_79 ⟨Nat.le_of_ble_eq_true rfl, Nat.le_of_ble_eq_true rfl⟩ [.ref (X.V.sa 11)] kq6 rfl rfl (Nat.le_of_ble_eq_true rfl) (tX5_is ok.fl X.V v5 11 q3.2 hq6) dX2_readNote_23 ?_
    rcases ite_some h with ⟨c7, h⟩ | ⟨c7, h⟩
    · refine j_if_ne (tgt := 35) ok dX2_readNote_26 (by decide) (fun z => absurd c7 z) (fun _ => ?_)
      refine j_aload_n ok dX2_readNote_29 rfl 1 rfl ?_
      refine j_iconst (v := 1) ok dX2_readNote_30 (by decide) ?_
      obtain ⟨kq8, h⟩ := ck_some h
      obtain ⟨q8, hq8, h⟩ := obind h
      refine k_V1 ok kl_X2_67 ⟨Nat.le_of_ble_eq_true rfl, Nat.le_of_ble_eq_true rfl⟩ [.int (1 : Int32)] kq8 rfl rfl (Nat.le_of_ble_eq_true rfl) (tX2_reject ok.fl X.V l0 (1 : Int32) q6.2 hq8) dX2_readNote_31 ?_
      obtain ⟨hz9, h⟩ := rz_some h
      obtain ⟨er, eG⟩ := inj2 h
      subst er; subst eG
      exact j_zret ok rfl hz9 dX2_readNote_34 hK
    · refine j_if_ne (tgt := 35) ok dX2_readNote_26 (by decide) (fun _ => ?_) (fun z => absurd z c7)
      exact J.sub [1, 2, 0] rfl (jX2_readNote_35 ok l0 l1 q3.1 q6.2 h hK)
  · refine j_icmp_ne (tgt := 35) ok dX2_readNote_14 (by decide) (fun _ => ?_) (fun z => absurd z c4)
    exact J.sub [1, 2, 0] rfl (jX2_readNote_35 ok l0 l1 q3.1 q3.2 h hK)

def fX2_readNote (l0 : Nat) (l1 : Nat) (G : Mem) : Option (Int32 × Mem) := fX2_readNote_0 l0 l1 G
set_option maxRecDepth 100000 in
theorem tX2_readNote {l : Launch} (hfl : l.stackTraces = false) (V : Wd) (l0 : Nat) (l1 : Nat) (G : Mem) {r : Int32} {G' : Mem} (h : fX2_readNote l0 l1 G = some (r, G')) : Mx l yX2_readNote cX2_readNote 3 (some .boolean) 6 165 V [.ref (V.B + l0), .ref (V.B + l1)] G (.inl (some (.int r))) G' :=
  mx_of (L := [(0, .ref (V.B + l0)), (1, .ref (V.B + l1))]) hfl (by decide +kernel) (Nat.le_of_ble_eq_true rfl) rfl (fun X hl hV hin ok he => by
    subst hl; subst hV
    exact J.sub [0, 1] rfl (jX2_readNote_0 ok l0 l1 G h he))
def fX2_readOrigin_84  (s0 : Int32) (G : Mem) : Option (Int32 × Mem) :=
  rz s0 <|
  some (s0, G)

set_option maxRecDepth 100000 in
set_option maxHeartbeats 4000000 in
theorem jX2_readOrigin_84 {X : Cx} (ok : OK X cX2_readOrigin RX2 (some .boolean) 2 3 165)  (s0 : Int32) (G : Mem) {r : Int32} {G' : Mem} (h : fX2_readOrigin_84 s0 G = some (r, G')) (hK : (finI X) r G') : J X 2 84 [] [.int s0] G := by
  unfold fX2_readOrigin_84 at h
  obtain ⟨hz1, h⟩ := rz_some h
  obtain ⟨er, eG⟩ := inj2 h
  subst er; subst eG
  exact j_zret ok rfl hz1 dX2_readOrigin_84 hK

def fX2_readOrigin_0 (l0 : Nat) (l1 : Nat)  (G : Mem) : Option (Int32 × Mem) :=
  (gF G 13 l1 1).bind fun v1 =>
  ck G 12 l0 <| (fX2_readNumber l0 (0 : Int32) (v1 - (1 : Int32)) G).bind fun q2 =>
  (pI q2.2 12 l0 7 q2.1).bind fun G3 =>
  (gF G3 12 l0 7).bind fun v4 =>
  if v4 = (-1 : Int32) then
    some ((0 : Int32), G3)
  else
    (gR G3 13 l1 0).bind fun v6 =>
    (gF G3 10 v6 0).bind fun v7 =>
    ck G3 12 l0 <| (fX2_readNumber l0 (0 : Int32) (v7 - (1 : Int32)) G3).bind fun q8 =>
    (pI q8.2 12 l0 8 q8.1).bind fun G9 =>
    (gF G9 12 l0 8).bind fun v10 =>
    if v10 = (-1 : Int32) then
      some ((0 : Int32), G9)
    else
      (gR G9 13 l1 0).bind fun v12 =>
      (gF G9 10 v12 1).bind fun v13 =>
      ck G9 12 l0 <| (fX2_readNumber l0 (0 : Int32) (v13 - (1 : Int32)) G9).bind fun q14 =>
      (pI q14.2 12 l0 9 q14.1).bind fun G15 =>
      (gF G15 12 l0 9).bind fun v16 =>
      if v16 = (-1 : Int32) then
        fX2_readOrigin_84 (0 : Int32) G15
      else
        fX2_readOrigin_84 (1 : Int32) G15

set_option maxRecDepth 100000 in
set_option maxHeartbeats 4000000 in
theorem jX2_readOrigin_0 {X : Cx} (ok : OK X cX2_readOrigin RX2 (some .boolean) 2 3 165) (l0 : Nat) (l1 : Nat)  (G : Mem) {r : Int32} {G' : Mem} (h : fX2_readOrigin_0 l0 l1 G = some (r, G')) (hK : (finI X) r G') : J X 2 0 [(0, .ref (X.B + l0)), (1, .ref (X.B + l1))] [] G := by
  unfold fX2_readOrigin_0 at h
  refine j_aload_n ok dX2_readOrigin_0 rfl 0 rfl ?_
  refine j_aload_n ok dX2_readOrigin_1 rfl 0 rfl ?_
  refine j_iconst (v := 0) ok dX2_readOrigin_2 (by decide) ?_
  refine j_aload_n ok dX2_readOrigin_3 rfl 1 rfl ?_
  obtain ⟨v1, hv1, h⟩ := obind h
  refine k_getI ok fl_X2_189 hv1 dX2_readOrigin_4 ?_
  refine j_iconst (v := 1) ok dX2_readOrigin_7 (by decide) ?_
  refine j_isub ok dX2_readOrigin_8 ?_
  obtain ⟨kq2, h⟩ := ck_some h
  obtain ⟨q2, hq2, h⟩ := obind h
  refine k_V1 ok kl_X2_107 ⟨Nat.le_of_ble_eq_true rfl, Nat.le_of_ble_eq_true rfl⟩ [.int (0 : Int32), .int (v1 - (1 : Int32))] kq2 rfl rfl (Nat.le_of_ble_eq_true rfl) (tX2_readNumber ok.fl X.V l0 (0 : Int32) (v1 - (1 : Int32)) G hq2) dX2_readOrigin_9 ?_
  obtain ⟨G3, hG3, h⟩ := obind h
  refine k_putI ok fl_X2_41 fp_X2 rfl (Or.inl rfl) hG3 dX2_readOrigin_12 ?_
  refine j_aload_n ok dX2_readOrigin_15 rfl 0 rfl ?_
  obtain ⟨v4, hv4, h⟩ := obind h
  refine k_getI ok fl_X2_41 hv4 dX2_readOrigin_16 ?_
  refine j_iconst (v := -1) ok dX2_readOrigin_19 (by decide) ?_
  rcases ite_some h with ⟨c5, h⟩ | ⟨c5, h⟩
  · refine j_icmp_ne (tgt := 25) ok dX2_readOrigin_20 (by decide) (fun z => absurd c5 z) (fun _ => ?_)
    refine j_iconst (v := 0) ok dX2_readOrigin_23 (by decide) ?_
    obtain ⟨er, eG⟩ := inj2 h
    subst er; subst eG
    exact j_zret ok rfl (Or.inl rfl) dX2_readOrigin_24 hK
  · refine j_icmp_ne (tgt := 25) ok dX2_readOrigin_20 (by decide) (fun _ => ?_) (fun z => absurd z c5)
    refine j_aload_n ok dX2_readOrigin_25 rfl 0 rfl ?_
    refine j_aload_n ok dX2_readOrigin_26 rfl 0 rfl ?_
    refine j_iconst (v := 0) ok dX2_readOrigin_27 (by decide) ?_
    refine j_aload_n ok dX2_readOrigin_28 rfl 1 rfl ?_
    obtain ⟨v6, hv6, h⟩ := obind h
    refine k_getR ok fl_X2_87 hv6 dX2_readOrigin_29 ?_
    obtain ⟨v7, hv7, h⟩ := obind h
    refine k_getI ok fl_X2_125 hv7 dX2_readOrigin_32 ?_
    refine j_iconst (v := 1) ok dX2_readOrigin_35 (by decide) ?_
    refine j_isub ok dX2_readOrigin_36 ?_
    obtain ⟨kq8, h⟩ := ck_some h
    obtain ⟨q8, hq8, h⟩ := obind h
    refine k_V1 ok kl_X2_107 ⟨Nat.le_of_ble_eq_true rfl, Nat.le_of_ble_eq_true rfl⟩ [.int (0 : Int32), .int (v7 - (1 : Int32))] kq8 rfl rfl (Nat.le_of_ble_eq_true rfl) (tX2_readNumber ok.fl X.V l0 (0 : Int32) (v7 - (1 : Int32)) G3 hq8) dX2_readOrigin_37 ?_
    obtain ⟨G9, hG9, h⟩ := obind h
    refine k_putI ok fl_X2_44 fp_X2 rfl (Or.inl rfl) hG9 dX2_readOrigin_40 ?_
    refine j_aload_n ok dX2_readOrigin_43 rfl 0 rfl ?_
    obtain ⟨v10, hv10, h⟩ := obind h
    refine k_getI ok fl_X2_44 hv10 dX2_readOrigin_44 ?_
    refine j_iconst (v := -1) ok dX2_readOrigin_47 (by decide) ?_
    rcases ite_some h with ⟨c11, h⟩ | ⟨c11, h⟩
    · refine j_icmp_ne (tgt := 53) ok dX2_readOrigin_48 (by decide) (fun z => absurd c11 z) (fun _ => ?_)
      refine j_iconst (v := 0) ok dX2_readOrigin_51 (by decide) ?_
      obtain ⟨er, eG⟩ := inj2 h
      subst er; subst eG
      exact j_zret ok rfl (Or.inl rfl) dX2_readOrigin_52 hK
    · refine j_icmp_ne (tgt := 53) ok dX2_readOrigin_48 (by decide) (fun _ => ?_) (fun z => absurd z c11)
      refine j_aload_n ok dX2_readOrigin_53 rfl 0 rfl ?_
      refine j_aload_n ok dX2_readOrigin_54 rfl 0 rfl ?_
      refine j_iconst (v := 0) ok dX2_readOrigin_55 (by decide) ?_
      refine j_aload_n ok dX2_readOrigin_56 rfl 1 rfl ?_
      obtain ⟨v12, hv12, h⟩ := obind h
      refine k_getR ok fl_X2_87 hv12 dX2_readOrigin_57 ?_
      obtain ⟨v13, hv13, h⟩ := obind h
      refine k_getI ok fl_X2_131 hv13 dX2_readOrigin_60 ?_
      refine j_iconst (v := 1) ok dX2_readOrigin_63 (by decide) ?_
      refine j_isub ok dX2_readOrigin_64 ?_
      obtain ⟨kq14, h⟩ := ck_some h
      obtain ⟨q14, hq14, h⟩ := obind h
      refine k_V1 ok kl_X2_107 ⟨Nat.le_of_ble_eq_true rfl, Nat.le_of_ble_eq_true rfl⟩ [.int (0 : Int32), .int (v13 - (1 : Int32))] kq14 rfl rfl (Nat.le_of_ble_eq_true rfl) (tX2_readNumber ok.fl X.V l0 (0 : Int32) (v13 - (1 : Int32)) G9 hq14) dX2_readOrigin_65 ?_
      obtain ⟨G15, hG15, h⟩ := obind h
      refine k_putI ok fl_X2_47 fp_X2 rfl (Or.inl rfl) hG15 dX2_readOrigin_68 ?_
      refine j_aload_n ok dX2_readOrigin_71 rfl 0 rfl ?_
      obtain ⟨v16, hv16, h⟩ := obind h
      refine k_getI ok fl_X2_47 hv16 dX2_readOrigin_72 ?_
      refine j_iconst (v := -1) ok dX2_readOrigin_75 (by decide) ?_
      rcases ite_some h with ⟨c17, h⟩ | ⟨c17, h⟩
      · refine j_icmp_eq (tgt := 83) ok dX2_readOrigin_76 (by decide) (fun _ => ?_) (fun z => absurd c17 z)
        refine j_iconst (v := 0) ok dX2_readOrigin_83 (by decide) ?_
        exact J.sub [] rfl (jX2_readOrigin_84 ok (0 : Int32) G15 h hK)
      · refine j_icmp_eq (tgt := 83) ok dX2_readOrigin_76 (by decide) (fun z => absurd z c17) (fun _ => ?_)
        refine j_iconst (v := 1) ok dX2_readOrigin_79 (by decide) ?_
        refine j_goto (tgt := 84) ok dX2_readOrigin_80 (by decide) ?_
        exact J.sub [] rfl (jX2_readOrigin_84 ok (1 : Int32) G15 h hK)

def fX2_readOrigin (l0 : Nat) (l1 : Nat) (G : Mem) : Option (Int32 × Mem) := fX2_readOrigin_0 l0 l1 G
set_option maxRecDepth 100000 in
theorem tX2_readOrigin {l : Launch} (hfl : l.stackTraces = false) (V : Wd) (l0 : Nat) (l1 : Nat) (G : Mem) {r : Int32} {G' : Mem} (h : fX2_readOrigin l0 l1 G = some (r, G')) : Mx l yX2_readOrigin cX2_readOrigin 2 (some .boolean) 3 165 V [.ref (V.B + l0), .ref (V.B + l1)] G (.inl (some (.int r))) G' :=
  mx_of (L := [(0, .ref (V.B + l0)), (1, .ref (V.B + l1))]) hfl (by decide +kernel) (Nat.le_of_ble_eq_true rfl) rfl (fun X hl hV hin ok he => by
    subst hl; subst hV
    exact J.sub [0, 1] rfl (jX2_readOrigin_0 ok l0 l1 G h he))
