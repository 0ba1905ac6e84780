def fX7_starts_0 (l0 : Nat)  (G : Mem) : Option (Unit × Mem) :=
  (pI G 17 l0 6 (0 : Int32)).bind fun G1 =>
  (pI G1 17 l0 23 (0 : Int32)).bind fun G2 =>
  (pZ G2 17 l0 25 (0 : Int32)).bind fun G3 =>
  (pI G3 17 l0 11 (0 : Int32)).bind fun G4 =>
  (pI G4 17 l0 12 (-1 : Int32)).bind fun G5 =>
  (gR G5 17 l0 0).bind fun v6 =>
  (gR G5 17 l0 3).bind fun v7 =>
  (fX7_copy v6 (0 : Int32) v7 (0 : Int32) G5).bind fun q8 =>
  ck q8.2 17 l0 <| (fX7_next l0 q8.2).bind fun q9 =>
  some ((), q9.2)

set_option maxRecDepth 100000 in
set_option maxHeartbeats 4000000 in
theorem jX7_starts_0 {X : Cx} (ok : OK X cX7_starts RX7 none 1 3 143) (l0 : Nat)  (G : Mem) {r : Unit} {G' : Mem} (h : fX7_starts_0 l0 G = some (r, G')) (hK : (finV X) r G') : J X 1 0 [(0, .ref (X.B + l0))] [] G := by
  unfold fX7_starts_0 at h
  refine j_aload_n ok dX7_starts_0 rfl 0 rfl ?_
  refine j_iconst (v := 0) ok dX7_starts_1 (by decide) ?_
  obtain ⟨G1, hG1, h⟩ := obind h
  refine k_putI ok fl_X7_86 fp_X7 rfl (Or.inl rfl) hG1 dX7_starts_2 ?_
  refine j_aload_n ok dX7_starts_5 rfl 0 rfl ?_
  refine j_iconst (v := 0) ok dX7_starts_6 (by decide) ?_
  obtain ⟨G2, hG2, h⟩ := obind h
  refine k_putI ok fl_X7_190 fp_X7 rfl (Or.inl rfl) hG2 dX7_starts_7 ?_
  refine j_aload_n ok dX7_starts_10 rfl 0 rfl ?_
  refine j_iconst (v := 0) ok dX7_starts_11 (by decide) ?_
  obtain ⟨G3, hG3, h⟩ := obind h
  refine k_putZ ok fl_X7_212 fp_X7 rfl (Or.inl rfl) hG3 dX7_starts_12 ?_
  refine j_aload_n ok dX7_starts_15 rfl 0 rfl ?_
  refine j_iconst (v := 0) ok dX7_starts_16 (by decide) ?_
  obtain ⟨G4, hG4, h⟩ := obind h
  refine k_putI ok fl_X7_216 fp_X7 rfl (Or.inl rfl) hG4 dX7_starts_17 ?_
  refine j_aload_n ok dX7_starts_20 rfl 0 rfl ?_
  refine j_iconst (v := -1) ok dX7_starts_21 (by decide) ?_
  obtain ⟨G5, hG5, h⟩ := obind h
  refine k_putI ok fl_X7_32 fp_X7 rfl (Or.inl rfl) hG5 dX7_starts_22 ?_
  refine j_aload_n ok dX7_starts_25 rfl 0 rfl ?_
  obtain ⟨v6, hv6, h⟩ := obind h
  refine k_getR ok fl_X7_9 hv6 dX7_starts_26 ?_
  refine j_iconst (v := 0) ok dX7_starts_29 (by decide) ?_
  refine j_aload_n ok dX7_starts_30 rfl 0 rfl ?_
  obtain ⟨v7, hv7, h⟩ := obind h
  refine k_getR ok fl_X7_19 hv7 dX7_starts_31 ?_
  refine j_iconst (v := 0) ok dX7_starts_34 (by decide) ?_
  obtain ⟨q8, hq8, h⟩ := obind h
  refine k_S0 ok kl_X7_95 ⟨Nat.le_of_ble_eq_true rfl, Nat.le_of_ble_eq_true rfl⟩ [.ref (X.B + v6), .int (0 : Int32), .ref (X.B + v7), .int (0 : Int32)] rfl rfl (Nat.le_of_ble_eq_true rfl) (tX7_copy ok.fl X.V v6 (0 : Int32) v7 (0 : Int32) G5 hq8) dX7_starts_35 ?_
  refine j_aload_n ok dX7_starts_38 rfl 0 rfl ?_
  obtain ⟨kq9, h⟩ := ck_some h
  obtain ⟨q9, hq9, h⟩ := obind h
  refine k_V0 ok kl_X7_219 ⟨Nat.le_of_ble_eq_true rfl, Nat.le_of_ble_eq_true rfl⟩ [] kq9 rfl rfl (Nat.le_of_ble_eq_true rfl) (tX7_next ok.fl X.V l0 q8.2 hq9) dX7_starts_39 ?_
  obtain ⟨er, eG⟩ := inj2 h
  subst er; subst eG
  exact j_vret ok rfl dX7_starts_42 hK

def fX7_starts (l0 : Nat) (G : Mem) : Option (Unit × Mem) := fX7_starts_0 l0 G
set_option maxRecDepth 100000 in
theorem tX7_starts {l : Launch} (hfl : l.stackTraces = false) (V : Wd) (l0 : Nat) (G : Mem) {r : Unit} {G' : Mem} (h : fX7_starts l0 G = some (r, G')) : Mx l yX7_starts cX7_starts 1 none 3 143 V [.ref (V.B + l0)] G (.inl none) G' :=
  mx_of (L := [(0, .ref (V.B + l0))]) hfl (by decide +kernel) (Nat.le_of_ble_eq_true rfl) rfl (fun X hl hV hin ok he => by
    subst hl; subst hV
    exact J.sub [0] rfl (jX7_starts_0 ok l0 G h he))
def fX7_semicolon_14 (l0 : Nat) (s0 : Nat) (s1 : Int32) (G : Mem) : Option (Unit × Mem) :=
  ck G 17 s0 <| (fX7_wrong s0 s1 (1 : Int32) G).bind fun q1 =>
  ck q1.2 17 l0 <| (fX7_go l0 q1.2).bind fun q2 =>
  some ((), q2.2)

set_option maxRecDepth 100000 in
set_option maxHeartbeats 4000000 in
theorem jX7_semicolon_14 {X : Cx} (ok : OK X cX7_semicolon RX7 none 1 4 160) (l0 : Nat) (s0 : Nat) (s1 : Int32) (G : Mem) {r : Unit} {G' : Mem} (h : fX7_semicolon_14 l0 s0 s1 G = some (r, G')) (hK : (finV X) r G') : J X 1 14 [(0, .ref (X.B + l0))] [.int s1, .ref (X.B + s0)] G := by
  unfold fX7_semicolon_14 at h
  refine j_iconst (v := 1) ok dX7_semicolon_14 (by decide) ?_
  obtain ⟨kq1, h⟩ := ck_some h
  obtain ⟨q1, hq1, h⟩ := obind h
  refine k_V0 ok kl_X7_222 ⟨Nat.le_of_ble_eq_true rfl, Nat.le_of_ble_eq_true rfl⟩ [.int s1, .int (1 : Int32)] kq1 rfl rfl (Nat.le_of_ble_eq_true rfl) (tX7_wrong ok.fl X.V s0 s1 (1 : Int32) G hq1) dX7_semicolon_15 ?_
  refine j_aload_n ok dX7_semicolon_18 rfl 0 rfl ?_
  obtain ⟨kq2, h⟩ := ck_some h
  obtain ⟨q2, hq2, h⟩ := obind h
  refine k_V0 ok kl_X7_229 ⟨Nat.le_of_ble_eq_true rfl, Nat.le_of_ble_eq_true rfl⟩ [] kq2 rfl rfl (Nat.le_of_ble_eq_true rfl) (tX7_go ok.fl X.V l0 q1.2 hq2) dX7_semicolon_19 ?_
  obtain ⟨er, eG⟩ := inj2 h
  subst er; subst eG
  exact j_vret ok rfl dX7_semicolon_22 hK

def fX7_semicolon_0 (l0 : Nat)  (G : Mem) : Option (Unit × Mem) :=
  (gF G 17 l0 21).bind fun v1 =>
  if v1 = (3 : Int32) then
    fX7_semicolon_14 l0 l0 (0 : Int32) G
  else
    fX7_semicolon_14 l0 l0 (1 : Int32) G

set_option maxRecDepth 100000 in
set_option maxHeartbeats 4000000 in
theorem jX7_semicolon_0 {X : Cx} (ok : OK X cX7_semicolon RX7 none 1 4 160) (l0 : Nat)  (G : Mem) {r : Unit} {G' : Mem} (h : fX7_semicolon_0 l0 G = some (r, G')) (hK : (finV X) r G') : J X 1 0 [(0, .ref (X.B + l0))] [] G := by
  unfold fX7_semicolon_0 at h
  refine j_aload_n ok dX7_semicolon_0 rfl 0 rfl ?_
  refine j_aload_n ok dX7_semicolon_1 rfl 0 rfl ?_
  obtain ⟨v1, hv1, h⟩ := obind h
  refine k_getI ok fl_X7_196 hv1 dX7_semicolon_2 ?_
  refine j_iconst (v := 3) ok dX7_semicolon_5 (by decide) ?_
  rcases ite_some h with ⟨c2, h⟩ | ⟨c2, h⟩
  · refine j_icmp_eq (tgt := 13) ok dX7_semicolon_6 (by decide) (fun _ => ?_) (fun z => absurd c2 z)
    refine j_iconst (v := 0) ok dX7_semicolon_13 (by decide) ?_
    exact J.sub [0] rfl (jX7_semicolon_14 ok l0 l0 (0 : Int32) G h hK)
  · refine j_icmp_eq (tgt := 13) ok dX7_semicolon_6 (by decide) (fun z => absurd z c2) (fun _ => ?_)
    refine j_iconst (v := 1) ok dX7_semicolon_9 (by decide) ?_
    refine j_goto (tgt := 14) ok dX7_semicolon_10 (by decide) ?_
    exact J.sub [0] rfl (jX7_semicolon_14 ok l0 l0 (1 : Int32) G h hK)

def fX7_semicolon (l0 : Nat) (G : Mem) : Option (Unit × Mem) := fX7_semicolon_0 l0 G
set_option maxRecDepth 100000 in
theorem tX7_semicolon {l : Launch} (hfl : l.stackTraces = false) (V : Wd) (l0 : Nat) (G : Mem) {r : Unit} {G' : Mem} (h : fX7_semicolon l0 G = some (r, G')) : Mx l yX7_semicolon cX7_semicolon 1 none 4 160 V [.ref (V.B + l0)] G (.inl none) G' :=
  mx_of (L := [(0, .ref (V.B + l0))]) hfl (by decide +kernel) (Nat.le_of_ble_eq_true rfl) rfl (fun X hl hV hin ok he => by
    subst hl; subst hV
    exact J.sub [0] rfl (jX7_semicolon_0 ok l0 G h he))
def fX7_pieces_32 (l1 : Int32)  (G : Mem) : Option (Int32 × Mem) :=
  some (l1, G)

set_option maxRecDepth 100000 in
set_option maxHeartbeats 4000000 in
theorem jX7_pieces_32 {X : Cx} (ok : OK X cX7_pieces RX7 (some .int) 3 1 20) (l1 : Int32)  (G : Mem) {r : Int32} {G' : Mem} (h : fX7_pieces_32 l1 G = some (r, G')) (hK : (finI X) r G') : J X 3 32 [(1, .int l1)] [] G := by
  unfold fX7_pieces_32 at h
  refine j_iload_n ok dX7_pieces_32 rfl 0 rfl ?_
  obtain ⟨er, eG⟩ := inj2 h
  subst er; subst eG
  exact j_iret ok rfl dX7_pieces_33 hK

def fX7_pieces_26 (l0 : Nat) (l1 : Int32) (l2 : Int32)  (G : Mem) : Option (((Int32 × Int32) ⊕ Int32) × Mem) :=
  some (.inl (l1, (l2 + (1 : Int32))), G)

set_option maxRecDepth 100000 in
set_option maxHeartbeats 4000000 in
theorem jX7_pieces_26 {X : Cx} (ok : OK X cX7_pieces RX7 (some .int) 3 1 20) (l0 : Nat) (l1 : Int32) (l2 : Int32)  (G : Mem) {r : ((Int32 × Int32) ⊕ Int32)} {G' : Mem} (h : fX7_pieces_26 l0 l1 l2 G = some (r, G')) (hK : (finL X 3 4 (fun s : Int32 × Int32 => [(0, .ref (X.B + l0)), (1, .int s.1), (2, .int s.2)]) (finI X)) r G') : J X 3 26 [(0, .ref (X.B + l0)), (1, .int l1), (2, .int l2)] [] G := by
  unfold fX7_pieces_26 at h
  refine j_iinc (L' := [(2, .int (l2 + (1 : Int32))), (0, .ref (X.B + l0)), (1, .int l1)]) (v := (l2 + (1 : Int32))) ok dX7_pieces_26 (q := 2) rfl rfl (by decide) rfl ?_
  refine j_goto (tgt := 4) ok dX7_pieces_29 (by decide) ?_
  obtain ⟨er, eG⟩ := inj2 h
  subst er; subst eG
  have hJ : J X 3 4 [(0, .ref (X.B + l0)), (1, .int l1), (2, .int (l2 + (1 : Int32)))] [] G := hK
  exact J.sub [1, 2, 0] rfl hJ

def fX7_pieces_4 (l0 : Nat) (l1 : Int32) (l2 : Int32)  (G : Mem) : Option (((Int32 × Int32) ⊕ Int32) × Mem) :=
  ck G 17 l0 <| (fX7_squareMany l0 G).bind fun q1 =>
  if q1.1 ≤ l2 then
    liftE (fX7_pieces_32 l1 q1.2)
  else
    (gR q1.2 17 l0 0).bind fun v3 =>
    (gA q1.2 1 v3 ((3 : Int32) + l2)).bind fun v4 =>
    if v4 ≤ (0 : Int32) then
      fX7_pieces_26 l0 l1 l2 q1.2
    else
      fX7_pieces_26 l0 (l1 + (1 : Int32)) l2 q1.2

set_option maxRecDepth 100000 in
set_option maxHeartbeats 4000000 in
theorem jX7_pieces_4 {X : Cx} (ok : OK X cX7_pieces RX7 (some .int) 3 1 20) (l0 : Nat) (l1 : Int32) (l2 : Int32)  (G : Mem) {r : ((Int32 × Int32) ⊕ Int32)} {G' : Mem} (h : fX7_pieces_4 l0 l1 l2 G = some (r, G')) (hK : (finL X 3 4 (fun s : Int32 × Int32 => [(0, .ref (X.B + l0)), (1, .int s.1), (2, .int s.2)]) (finI X)) r G') : J X 3 4 [(0, .ref (X.B + l0)), (1, .int l1), (2, .int l2)] [] G := by
  unfold fX7_pieces_4 at h
  refine j_iload_n ok dX7_pieces_4 rfl 2 rfl ?_
  refine j_aload_n ok dX7_pieces_5 rfl 0 rfl ?_
  obtain ⟨kq1, h⟩ := ck_some h
  obtain ⟨q1, hq1, h⟩ := obind h
  refine k_V1 ok kl_X7_120 ⟨Nat.le_of_ble_eq_true rfl, Nat.le_of_ble_eq_true rfl⟩ [] kq1 rfl rfl (Nat.le_of_ble_eq_true rfl) (tX7_squareMany ok.fl X.V l0 G hq1) dX7_pieces_6 ?_
  rcases ite_some h with ⟨c2, h⟩ | ⟨c2, h⟩
  · refine j_icmp_ge (tgt := 32) ok dX7_pieces_9 (by decide) (fun _ => ?_) (fun z => absurd c2 z)
    obtain ⟨r1, e1, h1⟩ := lift_some h
    subst e1
    exact J.sub [1] rfl (jX7_pieces_32 ok l1 q1.2 h1 hK)
  · refine j_icmp_ge (tgt := 32) ok dX7_pieces_9 (by decide) (fun z => absurd z c2) (fun _ => ?_)
    refine j_aload_n ok dX7_pieces_12 rfl 0 rfl ?_
    obtain ⟨v3, hv3, h⟩ := obind h
    refine k_getR ok fl_X7_9 hv3 dX7_pieces_13 ?_
    refine j_iconst (v := 3) ok dX7_pieces_16 (by decide) ?_
    refine j_iload_n ok dX7_pieces_17 rfl 2 rfl ?_
    refine j_iadd ok dX7_pieces_18 ?_
    obtain ⟨v4, hv4, h⟩ := obind h
    refine j_iald ok hv4 dX7_pieces_19 ?_
    rcases ite_some h with ⟨c5, h⟩ | ⟨c5, h⟩
    · refine j_if_le (tgt := 26) ok dX7_pieces_20 (by decide) (fun _ => ?_) (fun z => absurd c5 z)
      exact J.sub [0, 1, 2] rfl (jX7_pieces_26 ok l0 l1 l2 q1.2 h hK)
    · refine j_if_le (tgt := 26) ok dX7_pieces_20 (by decide) (fun z => absurd z c5) (fun _ => ?_)
      refine j_iinc (L' := [(1, .int (l1 + (1 : Int32))), (0, .ref (X.B + l0)), (2, .int l2)]) (v := (l1 + (1 : Int32))) ok dX7_pieces_23 (q := 1) rfl rfl (by decide) rfl ?_
      exact J.sub [1, 0, 2] rfl (jX7_pieces_26 ok l0 (l1 + (1 : Int32)) l2 q1.2 h hK)

def fX7_pieces_0 (l0 : Nat)  (G : Mem) : Option (Int32 × Mem) :=
  loopM (fun (s : Int32 × Int32) G => fX7_pieces_4 l0 s.1 s.2 G) FU ((0 : Int32), (0 : Int32)) G

set_option maxRecDepth 100000 in
set_option maxHeartbeats 4000000 in
theorem jX7_pieces_0 {X : Cx} (ok : OK X cX7_pieces RX7 (some .int) 3 1 20) (l0 : Nat)  (G : Mem) {r : Int32} {G' : Mem} (h : fX7_pieces_0 l0 G = some (r, G')) (hK : (finI X) r G') : J X 3 0 [(0, .ref (X.B + l0))] [] G := by
  unfold fX7_pieces_0 at h
  refine j_iconst (v := 0) ok dX7_pieces_0 (by decide) ?_
  refine j_istore_n (L' := [(1, .int (0 : Int32)), (0, .ref (X.B + l0))]) ok dX7_pieces_1 rfl (by decide) rfl ?_
  refine j_iconst (v := 0) ok dX7_pieces_2 (by decide) ?_
  refine j_istore_n (L' := [(2, .int (0 : Int32)), (1, .int (0 : Int32)), (0, .ref (X.B + l0))]) ok dX7_pieces_3 rfl (by decide) rfl ?_
  have hJ : J X 3 4 [(0, .ref (X.B + l0)), (1, .int (0 : Int32)), (2, .int (0 : Int32))] [] G := j_loop (loc := fun s : Int32 × Int32 => [(0, .ref (X.B + l0)), (1, .int s.1), (2, .int s.2)]) (F := (finI X)) (fun s G r G' hb hk => jX7_pieces_4 ok l0 s.1 s.2 G hb hk) _ _ _ _ _ h hK
  exact J.sub [2, 1, 0] rfl hJ

def fX7_pieces (l0 : Nat) (G : Mem) : Option (Int32 × Mem) := fX7_pieces_0 l0 G
set_option maxRecDepth 100000 in
theorem tX7_pieces {l : Launch} (hfl : l.stackTraces = false) (V : Wd) (l0 : Nat) (G : Mem) {r : Int32} {G' : Mem} (h : fX7_pieces l0 G = some (r, G')) : Mx l yX7_pieces cX7_pieces 3 (some .int) 1 20 V [.ref (V.B + l0)] G (.inl (some (.int r))) G' :=
  mx_of (L := [(0, .ref (V.B + l0))]) hfl (by decide +kernel) (Nat.le_of_ble_eq_true rfl) rfl (fun X hl hV hin ok he => by
    subst hl; subst hV
    exact J.sub [0] rfl (jX7_pieces_0 ok l0 G h he))
def fX7_pieceTold_232   (G : Mem) : Option (Unit × Mem) :=
  some ((), G)

set_option maxRecDepth 100000 in
set_option maxHeartbeats 4000000 in
theorem jX7_pieceTold_232 {X : Cx} (ok : OK X cX7_pieceTold RX7 none 6 6 203)   (G : Mem) {r : Unit} {G' : Mem} (h : fX7_pieceTold_232  G = some (r, G')) (hK : (finV X) r G') : J X 6 232 [] [] G := by
  unfold fX7_pieceTold_232 at h
  obtain ⟨er, eG⟩ := inj2 h
  subst er; subst eG
  exact j_vret ok rfl dX7_pieceTold_232 hK

def fX7_pieceTold_189 (l0 : Nat) (l2 : Int32) (l3 : Int32) (l4 : Int32) (l5 : Int32) (s0 : Nat) (s1 : Int32) (G : Mem) : Option (Unit × Mem) :=
  ck G 17 s0 <| (fX7_wrong s0 s1 (3 : Int32) G).bind fun q1 =>
  ck q1.2 17 l0 <| (fX7_go l0 q1.2).bind fun q2 =>
  ck q2.2 17 l0 <| (fX7_semicolon l0 q2.2).bind fun q3 =>
  (gF q3.2 17 l0 25).bind fun v4 =>
  if v4 = (0 : Int32) then
    (gR q3.2 17 l0 0).bind fun v6 =>
    (gR q3.2 17 l0 0).bind fun v7 =>
    (gA q3.2 1 v7 (0 : Int32)).bind fun v8 =>
    (fX7_pieceOf l2 l3 q3.2).bind fun q9 =>
    (pA q9.2 v6 (((3 : Int32) + (l5 * v8)) + l4) q9.1).bind fun G10 =>
    fX7_pieceTold_232 G10
  else
    fX7_pieceTold_232 q3.2

set_option maxRecDepth 100000 in
set_option maxHeartbeats 4000000 in
theorem jX7_pieceTold_189 {X : Cx} (ok : OK X cX7_pieceTold RX7 none 6 6 203) (l0 : Nat) (l2 : Int32) (l3 : Int32) (l4 : Int32) (l5 : Int32) (s0 : Nat) (s1 : Int32) (G : Mem) {r : Unit} {G' : Mem} (h : fX7_pieceTold_189 l0 l2 l3 l4 l5 s0 s1 G = some (r, G')) (hK : (finV X) r G') : J X 6 189 [(0, .ref (X.B + l0)), (2, .int l2), (3, .int l3), (4, .int l4), (5, .int l5)] [.int s1, .ref (X.B + s0)] G := by
  unfold fX7_pieceTold_189 at h
  refine j_iconst (v := 3) ok dX7_pieceTold_189 (by decide) ?_
  obtain ⟨kq1, h⟩ := ck_some h
  obtain ⟨q1, hq1, h⟩ := obind h
  refine k_V0 ok kl_X7_222 ⟨Nat.le_of_ble_eq_true rfl, Nat.le_of_ble_eq_true rfl⟩ [.int s1, .int (3 : Int32)] kq1 rfl rfl (Nat.le_of_ble_eq_true rfl) (tX7_wrong ok.fl X.V s0 s1 (3 : Int32) G hq1) dX7_pieceTold_190 ?_
  refine j_aload_n ok dX7_pieceTold_193 rfl 0 rfl ?_
  obtain ⟨kq2, h⟩ := ck_some h
  obtain ⟨q2, hq2, h⟩ := obind h
  refine k_V0 ok kl_X7_229 ⟨Nat.le_of_ble_eq_true rfl, Nat.le_of_ble_eq_true rfl⟩ [] kq2 rfl rfl (Nat.le_of_ble_eq_true rfl) (tX7_go ok.fl X.V l0 q1.2 hq2) dX7_pieceTold_194 ?_
  refine j_aload_n ok dX7_pieceTold_197 rfl 0 rfl ?_
  obtain ⟨kq3, h⟩ := ck_some h
  obtain ⟨q3, hq3, h⟩ := obind h
  refine k_V0 ok kl_X7_262 ⟨Nat.le_of_ble_eq_true rfl, Nat.le_of_ble_eq_true rfl⟩ [] kq3 rfl rfl (Nat.le_of_ble_eq_true rfl) (tX7_semicolon ok.fl X.V l0 q2.2 hq3) dX7_pieceTold_198 ?_
  refine j_aload_n ok dX7_pieceTold_201 rfl 0 rfl ?_
  obtain ⟨v4, hv4, h⟩ := obind h
  refine k_getI ok fl_X7_212 hv4 dX7_pieceTold_202 ?_
  rcases ite_some h with ⟨c5, h⟩ | ⟨c5, h⟩
  · refine j_if_ne (tgt := 232) ok dX7_pieceTold_205 (by decide) (fun z => absurd c5 z) (fun _ => ?_)
    refine j_aload_n ok dX7_pieceTold_208 rfl 0 rfl ?_
    obtain ⟨v6, hv6, h⟩ := obind h
    refine k_getR ok fl_X7_9 hv6 dX7_pieceTold_209 ?_
    refine j_iconst (v := 3) ok dX7_pieceTold_212 (by decide) ?_
    refine j_iload ok dX7_pieceTold_213 4 rfl ?_
    refine j_aload_n ok dX7_pieceTold_215 rfl 0 rfl ?_
    obtain ⟨v7, hv7, h⟩ := obind h
    refine k_getR ok fl_X7_9 hv7 dX7_pieceTold_216 ?_
    refine j_iconst (v := 0) ok dX7_pieceTold_219 (by decide) ?_
    obtain ⟨v8, hv8, h⟩ := obind h
    refine j_iald ok hv8 dX7_pieceTold_220 ?_
    refine j_imul ok dX7_pieceTold_221 ?_
    refine j_iadd ok dX7_pieceTold_222 ?_
    refine j_iload ok dX7_pieceTold_223 3 rfl ?_
    refine j_iadd ok dX7_pieceTold_225 ?_
    refine j_iload_n ok dX7_pieceTold_226 rfl 1 rfl ?_
    refine j_iload_n ok dX7_pieceTold_227 rfl 2 rfl ?_
    obtain ⟨q9, hq9, h⟩ := obind h
    refine k_S1 ok kl_X7_130 ⟨Nat.le_of_ble_eq_true rfl, Nat.le_of_ble_eq_true rfl⟩ [.int l2, .int l3] rfl rfl (Nat.le_of_ble_eq_true rfl) (tX7_pieceOf ok.fl X.V l2 l3 q3.2 hq9) dX7_pieceTold_228 ?_
    obtain ⟨G10, hG10, h⟩ := obind h
    refine j_iast ok hG10 dX7_pieceTold_231 ?_
    exact J.sub [] rfl (jX7_pieceTold_232 ok G10 h hK)
  · refine j_if_ne (tgt := 232) ok dX7_pieceTold_205 (by decide) (fun _ => ?_) (fun z => absurd z c5)
    exact J.sub [] rfl (jX7_pieceTold_232 ok q3.2 h hK)

def fX7_pieceTold_188 (l0 : Nat) (l2 : Int32) (l3 : Int32) (l4 : Int32) (l5 : Int32) (s0 : Nat) (G : Mem) : Option (Unit × Mem) :=
  fX7_pieceTold_189 l0 l2 l3 l4 l5 s0 (0 : Int32) G

set_option maxRecDepth 100000 in
set_option maxHeartbeats 4000000 in
theorem jX7_pieceTold_188 {X : Cx} (ok : OK X cX7_pieceTold RX7 none 6 6 203) (l0 : Nat) (l2 : Int32) (l3 : Int32) (l4 : Int32) (l5 : Int32) (s0 : Nat) (G : Mem) {r : Unit} {G' : Mem} (h : fX7_pieceTold_188 l0 l2 l3 l4 l5 s0 G = some (r, G')) (hK : (finV X) r G') : J X 6 188 [(0, .ref (X.B + l0)), (2, .int l2), (3, .int l3), (4, .int l4), (5, .int l5)] [.ref (X.B + s0)] G := by
  unfold fX7_pieceTold_188 at h
  refine j_iconst (v := 0) ok dX7_pieceTold_188 (by decide) ?_
  exact J.sub [0, 1, 2, 3, 4] rfl (jX7_pieceTold_189 ok l0 l2 l3 l4 l5 s0 (0 : Int32) G h hK)

def fX7_pieceTold_125 (l0 : Nat) (l2 : Int32) (l3 : Int32) (s0 : Nat) (s1 : Int32) (G : Mem) : Option (Unit × Mem) :=
  ck G 17 s0 <| (fX7_wrong s0 s1 (4 : Int32) G).bind fun q1 =>
  ck q1.2 17 l0 <| (fX7_go l0 q1.2).bind fun q2 =>
  ck q2.2 17 l0 <| (fX7_column l0 q2.2).bind fun q3 =>
  (gR q3.2 17 l0 0).bind fun v4 =>
  (gA q3.2 1 v4 (1 : Int32)).bind fun v5 =>
  ck q3.2 17 l0 <| (fX7_here l0 (0 : Int32) (v5 - (1 : Int32)) q3.2).bind fun q6 =>
  (gF q6.2 17 l0 25).bind fun v7 =>
  if v7 = (0 : Int32) then
    (gR q6.2 17 l0 0).bind fun v9 =>
    (gR q6.2 17 l0 0).bind fun v10 =>
    (gA q6.2 1 v10 (0 : Int32)).bind fun v11 =>
    (gA q6.2 1 v9 (((3 : Int32) + (q6.1 * v11)) + q3.1)).bind fun v12 =>
    if v12 ≤ (0 : Int32) then
      fX7_pieceTold_188 l0 l2 l3 q3.1 q6.1 l0 q6.2
    else
      fX7_pieceTold_189 l0 l2 l3 q3.1 q6.1 l0 (1 : Int32) q6.2
  else
    fX7_pieceTold_188 l0 l2 l3 q3.1 q6.1 l0 q6.2

set_option maxRecDepth 100000 in
set_option maxHeartbeats 4000000 in
theorem jX7_pieceTold_125 {X : Cx} (ok : OK X cX7_pieceTold RX7 none 6 6 203) (l0 : Nat) (l2 : Int32) (l3 : Int32) (s0 : Nat) (s1 : Int32) (G : Mem) {r : Unit} {G' : Mem} (h : fX7_pieceTold_125 l0 l2 l3 s0 s1 G = some (r, G')) (hK : (finV X) r G') : J X 6 125 [(0, .ref (X.B + l0)), (2, .int l2), (3, .int l3)] [.int s1, .ref (X.B + s0)] G := by
  unfold fX7_pieceTold_125 at h
  refine j_iconst (v := 4) ok dX7_pieceTold_125 (by decide) ?_
  obtain ⟨kq1, h⟩ := ck_some h
  obtain ⟨q1, hq1, h⟩ := obind h
  refine k_V0 ok kl_X7_222 ⟨Nat.le_of_ble_eq_true rfl, Nat.le_of_ble_eq_true rfl⟩ [.int s1, .int (4 : Int32)] kq1 rfl rfl (Nat.le_of_ble_eq_true rfl) (tX7_wrong ok.fl X.V s0 s1 (4 : Int32) G hq1) dX7_pieceTold_126 ?_
  refine j_aload_n ok dX7_pieceTold_129 rfl 0 rfl ?_
  obtain ⟨kq2, h⟩ := ck_some h
  obtain ⟨q2, hq2, h⟩ := obind h
  refine k_V0 ok kl_X7_229 ⟨Nat.le_of_ble_eq_true rfl, Nat.le_of_ble_eq_true rfl⟩ [] kq2 rfl rfl (Nat.le_of_ble_eq_true rfl) (tX7_go ok.fl X.V l0 q1.2 hq2) dX7_pieceTold_130 ?_
  refine j_aload_n ok dX7_pieceTold_133 rfl 0 rfl ?_
  obtain ⟨kq3, h⟩ := ck_some h
  obtain ⟨q3, hq3, h⟩ := obind h
  refine k_V1 ok kl_X7_259 ⟨Nat.le_of_ble_eq_true rfl, Nat.le_of_ble_eq_true rfl⟩ [] kq3 rfl rfl (Nat.le_of_ble_eq_true rfl) (tX7_column ok.fl X.V l0 q2.2 hq3) dX7_pieceTold_134 ?_
  refine j_istore (L' := [(4, .int q3.1), (0, .ref (X.B + l0)), (2, .int l2), (3, .int l3)]) ok dX7_pieceTold_137 (by decide) rfl ?_
  refine j_aload_n ok dX7_pieceTold_139 rfl 1 rfl ?_
  refine j_iconst (v := 0) ok dX7_pieceTold_140 (by decide) ?_
  refine j_aload_n ok dX7_pieceTold_141 rfl 1 rfl ?_
  obtain ⟨v4, hv4, h⟩ := obind h
  refine k_getR ok fl_X7_9 hv4 dX7_pieceTold_142 ?_
  refine j_iconst (v := 1) ok dX7_pieceTold_145 (by decide) ?_
  obtain ⟨v5, hv5, h⟩ := obind h
  refine j_iald ok hv5 dX7_pieceTold_146 ?_
  refine j_iconst (v := 1) ok dX7_pieceTold_147 (by decide) ?_
  refine j_isub ok dX7_pieceTold_148 ?_
  obtain ⟨kq6, h⟩ := ck_some h
  obtain ⟨q6, hq6, h⟩ := obind h
  refine k_V1 ok kl_X7_226 ⟨Nat.le_of_ble_eq_true rfl, Nat.le_of_ble_eq_true rfl⟩ [.int (0 : Int32), .int (v5 - (1 : Int32))] kq6 rfl rfl (Nat.le_of_ble_eq_true rfl) (tX7_here ok.fl X.V l0 (0 : Int32) (v5 - (1 : Int32)) q3.2 hq6) dX7_pieceTold_149 ?_
  refine j_istore (L' := [(5, .int q6.1), (4, .int q3.1), (0, .ref (X.B + l0)), (2, .int l2), (3, .int l3)]) ok dX7_pieceTold_152 (by decide) rfl ?_
  refine j_aload_n ok dX7_pieceTold_154 rfl 2 rfl ?_
  refine j_aload_n ok dX7_pieceTold_155 rfl 2 rfl ?_
  obtain ⟨v7, hv7, h⟩ := obind h
  refine k_getI ok fl_X7_212 hv7 dX7_pieceTold_156 ?_
  rcases ite_some h with ⟨c8, h⟩ | ⟨c8, h⟩
  · refine j_if_ne (tgt := 188) ok dX7_pieceTold_159 (by decide) (fun z => absurd c8 z) (fun _ => ?_)
    refine j_aload_n ok dX7_pieceTold_162 rfl 2 rfl ?_
    obtain ⟨v9, hv9, h⟩ := obind h
    refine k_getR ok fl_X7_9 hv9 dX7_pieceTold_163 ?_
    refine j_iconst (v := 3) ok dX7_pieceTold_166 (by decide) ?_
    refine j_iload ok dX7_pieceTold_167 0 rfl ?_
    refine j_aload_n ok dX7_pieceTold_169 rfl 2 rfl ?_
    obtain ⟨v10, hv10, h⟩ := obind h
    refine k_getR ok fl_X7_9 hv10 dX7_pieceTold_170 ?_
    refine j_iconst (v := 0) ok dX7_pieceTold_173 (by decide) ?_
    obtain ⟨v11, hv11, h⟩ := obind h
    refine j_iald ok hv11 dX7_pieceTold_174 ?_
    refine j_imul ok dX7_pieceTold_175 ?_
    refine j_iadd ok dX7_pieceTold_176 ?_
    refine j_iload ok dX7_pieceTold_177 1 rfl ?_
    refine j_iadd ok dX7_pieceTold_179 ?_
    obtain ⟨v12, hv12, h⟩ := obind h
    refine j_iald ok hv12 dX7_pieceTold_180 ?_
    rcases ite_some h with ⟨c13, h⟩ | ⟨c13, h⟩
    · refine j_if_le (tgt := 188) ok dX7_pieceTold_181 (by decide) (fun _ => ?_) (fun z => absurd c13 z)
      exact J.sub [2, 3, 4, 1, 0] rfl (jX7_pieceTold_188 ok l0 l2 l3 q3.1 q6.1 l0 q6.2 h hK)
    · refine j_if_le (tgt := 188) ok dX7_pieceTold_181 (by decide) (fun z => absurd z c13) (fun _ => ?_)
      refine j_iconst (v := 1) ok dX7_pieceTold_184 (by decide) ?_
      refine j_goto (tgt := 189) ok dX7_pieceTold_185 (by decide) ?_
      exact J.sub [2, 3, 4, 1, 0] rfl (jX7_pieceTold_189 ok l0 l2 l3 q3.1 q6.1 l0 (1 : Int32) q6.2 h hK)
  · refine j_if_ne (tgt := 188) ok dX7_pieceTold_159 (by decide) (fun _ => ?_) (fun z => absurd z c8)
    exact J.sub [2, 3, 4, 1, 0] rfl (jX7_pieceTold_188 ok l0 l2 l3 q3.1 q6.1 l0 q6.2 h hK)

def fX7_pieceTold_124 (l0 : Nat) (l2 : Int32) (l3 : Int32) (s0 : Nat) (G : Mem) : Option (Unit × Mem) :=
  fX7_pieceTold_125 l0 l2 l3 s0 (0 : Int32) G

set_option maxRecDepth 100000 in
set_option maxHeartbeats 4000000 in
theorem jX7_pieceTold_124 {X : Cx} (ok : OK X cX7_pieceTold RX7 none 6 6 203) (l0 : Nat) (l2 : Int32) (l3 : Int32) (s0 : Nat) (G : Mem) {r : Unit} {G' : Mem} (h : fX7_pieceTold_124 l0 l2 l3 s0 G = some (r, G')) (hK : (finV X) r G') : J X 6 124 [(0, .ref (X.B + l0)), (2, .int l2), (3, .int l3)] [.ref (X.B + s0)] G := by
  unfold fX7_pieceTold_124 at h
  refine j_iconst (v := 0) ok dX7_pieceTold_124 (by decide) ?_
  exact J.sub [0, 1, 2] rfl (jX7_pieceTold_125 ok l0 l2 l3 s0 (0 : Int32) G h hK)

def fX7_pieceTold_90 (l0 : Nat) (l2 : Int32) (l3 : Int32) (s0 : Nat) (s1 : Int32) (G : Mem) : Option (Unit × Mem) :=
  ck G 17 s0 <| (fX7_wrong s0 s1 (1 : Int32) G).bind fun q1 =>
  (gF q1.2 17 l0 25).bind fun v2 =>
  if v2 = (0 : Int32) then
    if l3 = (0 : Int32) then
      (gR q1.2 17 l0 0).bind fun v5 =>
      ck q1.2 17 l0 <| (fX7_kingOf l0 v5 (3 : Int32) l2 q1.2).bind fun q6 =>
      if q6.1 = (-1 : Int32) then
        fX7_pieceTold_124 l0 l2 l3 l0 q6.2
      else
        fX7_pieceTold_125 l0 l2 l3 l0 (1 : Int32) q6.2
    else
      fX7_pieceTold_124 l0 l2 l3 l0 q1.2
  else
    fX7_pieceTold_124 l0 l2 l3 l0 q1.2

set_option maxRecDepth 100000 in
set_option maxHeartbeats 4000000 in
theorem jX7_pieceTold_90 {X : Cx} (ok : OK X cX7_pieceTold RX7 none 6 6 203) (l0 : Nat) (l2 : Int32) (l3 : Int32) (s0 : Nat) (s1 : Int32) (G : Mem) {r : Unit} {G' : Mem} (h : fX7_pieceTold_90 l0 l2 l3 s0 s1 G = some (r, G')) (hK : (finV X) r G') : J X 6 90 [(0, .ref (X.B + l0)), (2, .int l2), (3, .int l3)] [.int s1, .ref (X.B + s0)] G := by
  unfold fX7_pieceTold_90 at h
  refine j_iconst (v := 1) ok dX7_pieceTold_90 (by decide) ?_
  obtain ⟨kq1, h⟩ := ck_some h
  obtain ⟨q1, hq1, h⟩ := obind h
  refine k_V0 ok kl_X7_222 ⟨Nat.le_of_ble_eq_true rfl, Nat.le_of_ble_eq_true rfl⟩ [.int s1, .int (1 : Int32)] kq1 rfl rfl (Nat.le_of_ble_eq_true rfl) (tX7_wrong ok.fl X.V s0 s1 (1 : Int32) G hq1) dX7_pieceTold_91 ?_
  refine j_aload_n ok dX7_pieceTold_94 rfl 0 rfl ?_
  refine j_aload_n ok dX7_pieceTold_95 rfl 0 rfl ?_
  obtain ⟨v2, hv2, h⟩ := obind h
  refine k_getI ok fl_X7_212 hv2 dX7_pieceTold_96 ?_
  rcases ite_some h with ⟨c3, h⟩ | ⟨c3, h⟩
  · refine j_if_ne (tgt := 124) ok dX7_pieceTold_99 (by decide) (fun z => absurd c3 z) (fun _ => ?_)
    refine j_iload_n ok dX7_pieceTold_102 rfl 2 rfl ?_
    rcases ite_some h with ⟨c4, h⟩ | ⟨c4, h⟩
    · refine j_if_ne (tgt := 124) ok dX7_pieceTold_103 (by decide) (fun z => absurd c4 z) (fun _ => ?_)
      refine j_aload_n ok dX7_pieceTold_106 rfl 0 rfl ?_
      refine j_aload_n ok dX7_pieceTold_107 rfl 0 rfl ?_
      obtain ⟨v5, hv5, h⟩ := obind h
      refine k_getR ok fl_X7_9 hv5 dX7_pieceTold_108 ?_
      refine j_iconst (v := 3) ok dX7_pieceTold_111 (by decide) ?_
      refine j_iload_n ok dX7_pieceTold_112 rfl 1 rfl ?_
      obtain ⟨kq6, h⟩ := ck_some h
      obtain ⟨q6, hq6, h⟩ := obind h
      refine k_V1 ok kl_X7_137 ⟨Nat.le_of_ble_eq_true rfl, Nat.le_of_ble_eq_true rfl⟩ [.ref (X.B + v5), .int (3 : Int32), .int l2] kq6 rfl rfl (Nat.le_of_ble_eq_true rfl) (tX7_kingOf ok.fl X.V l0 v5 (3 : Int32) l2 q1.2 hq6) dX7_pieceTold_113 ?_
      refine j_iconst (v := -1) ok dX7_pieceTold_116 (by decide) ?_
      rcases ite_some h with ⟨c7, h⟩ | ⟨c7, h⟩
      · refine j_icmp_eq (tgt := 124) ok dX7_pieceTold_117 (by decide) (fun _ => ?_) (fun z => absurd c7 z)
        exact J.sub [0, 1, 2] rfl (jX7_pieceTold_124 ok l0 l2 l3 l0 q6.2 h hK)
      · refine j_icmp_eq (tgt := 124) ok dX7_pieceTold_117 (by decide) (fun z => absurd z c7) (fun _ => ?_)
        refine j_iconst (v := 1) ok dX7_pieceTold_120 (by decide) ?_
        refine j_goto (tgt := 125) ok dX7_pieceTold_121 (by decide) ?_
        exact J.sub [0, 1, 2] rfl (jX7_pieceTold_125 ok l0 l2 l3 l0 (1 : Int32) q6.2 h hK)
    · refine j_if_ne (tgt := 124) ok dX7_pieceTold_103 (by decide) (fun _ => ?_) (fun z => absurd z c4)
      exact J.sub [0, 1, 2] rfl (jX7_pieceTold_124 ok l0 l2 l3 l0 q1.2 h hK)
  · refine j_if_ne (tgt := 124) ok dX7_pieceTold_99 (by decide) (fun _ => ?_) (fun z => absurd z c3)
    exact J.sub [0, 1, 2] rfl (jX7_pieceTold_124 ok l0 l2 l3 l0 q1.2 h hK)

def fX7_pieceTold_78 (l0 : Nat) (l2 : Int32) (s0 : Int32) (G : Mem) : Option (Unit × Mem) :=
  if s0 = (-1 : Int32) then
    fX7_pieceTold_90 l0 l2 s0 l0 (1 : Int32) G
  else
    fX7_pieceTold_90 l0 l2 s0 l0 (0 : Int32) G

set_option maxRecDepth 100000 in
set_option maxHeartbeats 4000000 in
theorem jX7_pieceTold_78 {X : Cx} (ok : OK X cX7_pieceTold RX7 none 6 6 203) (l0 : Nat) (l2 : Int32) (s0 : Int32) (G : Mem) {r : Unit} {G' : Mem} (h : fX7_pieceTold_78 l0 l2 s0 G = some (r, G')) (hK : (finV X) r G') : J X 6 78 [(0, .ref (X.B + l0)), (2, .int l2)] [.int s0] G := by
  unfold fX7_pieceTold_78 at h
  refine j_istore_n (L' := [(3, .int s0), (0, .ref (X.B + l0)), (2, .int l2)]) ok dX7_pieceTold_78 rfl (by decide) rfl ?_
  refine j_aload_n ok dX7_pieceTold_79 rfl 1 rfl ?_
  refine j_iload_n ok dX7_pieceTold_80 rfl 0 rfl ?_
  refine j_iconst (v := -1) ok dX7_pieceTold_81 (by decide) ?_
  rcases ite_some h with ⟨c1, h⟩ | ⟨c1, h⟩
  · refine j_icmp_ne (tgt := 89) ok dX7_pieceTold_82 (by decide) (fun z => absurd c1 z) (fun _ => ?_)
    refine j_iconst (v := 1) ok dX7_pieceTold_85 (by decide) ?_
    refine j_goto (tgt := 90) ok dX7_pieceTold_86 (by decide) ?_
    exact J.sub [1, 2, 0] rfl (jX7_pieceTold_90 ok l0 l2 s0 l0 (1 : Int32) G h hK)
  · refine j_icmp_ne (tgt := 89) ok dX7_pieceTold_82 (by decide) (fun _ => ?_) (fun z => absurd z c1)
    refine j_iconst (v := 0) ok dX7_pieceTold_89 (by decide) ?_
    exact J.sub [1, 2, 0] rfl (jX7_pieceTold_90 ok l0 l2 s0 l0 (0 : Int32) G h hK)

def fX7_pieceTold_62 (l0 : Nat) (s0 : Int32) (G : Mem) : Option (Unit × Mem) :=
  (gF G 17 l0 25).bind fun v1 =>
  if v1 = (0 : Int32) then
    ck G 17 l0 <| (fX7_kindHere l0 G).bind fun q3 =>
    fX7_pieceTold_78 l0 s0 q3.1 q3.2
  else
    fX7_pieceTold_78 l0 s0 (0 : Int32) G

set_option maxRecDepth 100000 in
set_option maxHeartbeats 4000000 in
theorem jX7_pieceTold_62 {X : Cx} (ok : OK X cX7_pieceTold RX7 none 6 6 203) (l0 : Nat) (s0 : Int32) (G : Mem) {r : Unit} {G' : Mem} (h : fX7_pieceTold_62 l0 s0 G = some (r, G')) (hK : (finV X) r G') : J X 6 62 [(0, .ref (X.B + l0))] [.int s0] G := by
  unfold fX7_pieceTold_62 at h
  refine j_istore_n (L' := [(2, .int s0), (0, .ref (X.B + l0))]) ok dX7_pieceTold_62 rfl (by decide) rfl ?_
  refine j_aload_n ok dX7_pieceTold_63 rfl 1 rfl ?_
  obtain ⟨v1, hv1, h⟩ := obind h
  refine k_getI ok fl_X7_212 hv1 dX7_pieceTold_64 ?_
  rcases ite_some h with ⟨c2, h⟩ | ⟨c2, h⟩
  · refine j_if_eq (tgt := 74) ok dX7_pieceTold_67 (by decide) (fun _ => ?_) (fun z => absurd c2 z)
    refine j_aload_n ok dX7_pieceTold_74 rfl 1 rfl ?_
    obtain ⟨kq3, h⟩ := ck_some h
    obtain ⟨q3, hq3, h⟩ := obind h
    refine k_V1 ok kl_X7_256 ⟨Nat.le_of_ble_eq_true rfl, Nat.le_of_ble_eq_true rfl⟩ [] kq3 rfl rfl (Nat.le_of_ble_eq_true rfl) (tX7_kindHere ok.fl X.V l0 G hq3) dX7_pieceTold_75 ?_
    exact J.sub [1, 0] rfl (jX7_pieceTold_78 ok l0 s0 q3.1 q3.2 h hK)
  · refine j_if_eq (tgt := 74) ok dX7_pieceTold_67 (by decide) (fun z => absurd z c2) (fun _ => ?_)
    refine j_iconst (v := 0) ok dX7_pieceTold_70 (by decide) ?_
    refine j_goto (tgt := 78) ok dX7_pieceTold_71 (by decide) ?_
    exact J.sub [1, 0] rfl (jX7_pieceTold_78 ok l0 s0 (0 : Int32) G h hK)

def fX7_pieceTold_45 (l0 : Nat) (l1 : Int32) (s0 : Nat) (s1 : Int32) (G : Mem) : Option (Unit × Mem) :=
  ck G 17 s0 <| (fX7_wrong s0 s1 (4 : Int32) G).bind fun q1 =>
  ck q1.2 17 l0 <| (fX7_go l0 q1.2).bind fun q2 =>
  if l1 = (0 : Int32) then
    fX7_pieceTold_62 l0 (1 : Int32) q2.2
  else
    fX7_pieceTold_62 l0 (0 : Int32) q2.2

set_option maxRecDepth 100000 in
set_option maxHeartbeats 4000000 in
theorem jX7_pieceTold_45 {X : Cx} (ok : OK X cX7_pieceTold RX7 none 6 6 203) (l0 : Nat) (l1 : Int32) (s0 : Nat) (s1 : Int32) (G : Mem) {r : Unit} {G' : Mem} (h : fX7_pieceTold_45 l0 l1 s0 s1 G = some (r, G')) (hK : (finV X) r G') : J X 6 45 [(0, .ref (X.B + l0)), (1, .int l1)] [.int s1, .ref (X.B + s0)] G := by
  unfold fX7_pieceTold_45 at h
  refine j_iconst (v := 4) ok dX7_pieceTold_45 (by decide) ?_
  obtain ⟨kq1, h⟩ := ck_some h
  obtain ⟨q1, hq1, h⟩ := obind h
  refine k_V0 ok kl_X7_222 ⟨Nat.le_of_ble_eq_true rfl, Nat.le_of_ble_eq_true rfl⟩ [.int s1, .int (4 : Int32)] kq1 rfl rfl (Nat.le_of_ble_eq_true rfl) (tX7_wrong ok.fl X.V s0 s1 (4 : Int32) G hq1) dX7_pieceTold_46 ?_
  refine j_aload_n ok dX7_pieceTold_49 rfl 0 rfl ?_
  obtain ⟨kq2, h⟩ := ck_some h
  obtain ⟨q2, hq2, h⟩ := obind h
  refine k_V0 ok kl_X7_229 ⟨Nat.le_of_ble_eq_true rfl, Nat.le_of_ble_eq_true rfl⟩ [] kq2 rfl rfl (Nat.le_of_ble_eq_true rfl) (tX7_go ok.fl X.V l0 q1.2 hq2) dX7_pieceTold_50 ?_
  refine j_iload_n ok dX7_pieceTold_53 rfl 1 rfl ?_
  rcases ite_some h with ⟨c3, h⟩ | ⟨c3, h⟩
  · refine j_if_eq (tgt := 61) ok dX7_pieceTold_54 (by decide) (fun _ => ?_) (fun z => absurd c3 z)
    refine j_iconst (v := 1) ok dX7_pieceTold_61 (by decide) ?_
    exact J.sub [0] rfl (jX7_pieceTold_62 ok l0 (1 : Int32) q2.2 h hK)
  · refine j_if_eq (tgt := 61) ok dX7_pieceTold_54 (by decide) (fun z => absurd z c3) (fun _ => ?_)
    refine j_iconst (v := 0) ok dX7_pieceTold_57 (by decide) ?_
    refine j_goto (tgt := 62) ok dX7_pieceTold_58 (by decide) ?_
    exact J.sub [0] rfl (jX7_pieceTold_62 ok l0 (0 : Int32) q2.2 h hK)

def fX7_pieceTold_26 (l0 : Nat) (l1 : Int32) (s0 : Nat) (s1 : Int32) (G : Mem) : Option (Unit × Mem) :=
  ck G 17 s0 <| (fX7_wrong s0 s1 (1 : Int32) G).bind fun q1 =>
  ck q1.2 17 l0 <| (fX7_pieces l0 q1.2).bind fun q2 =>
  if q2.1 = (10 : Int32) then
    fX7_pieceTold_45 l0 l1 l0 (1 : Int32) q2.2
  else
    fX7_pieceTold_45 l0 l1 l0 (0 : Int32) q2.2

set_option maxRecDepth 100000 in
set_option maxHeartbeats 4000000 in
theorem jX7_pieceTold_26 {X : Cx} (ok : OK X cX7_pieceTold RX7 none 6 6 203) (l0 : Nat) (l1 : Int32) (s0 : Nat) (s1 : Int32) (G : Mem) {r : Unit} {G' : Mem} (h : fX7_pieceTold_26 l0 l1 s0 s1 G = some (r, G')) (hK : (finV X) r G') : J X 6 26 [(0, .ref (X.B + l0)), (1, .int l1)] [.int s1, .ref (X.B + s0)] G := by
  unfold fX7_pieceTold_26 at h
  refine j_iconst (v := 1) ok dX7_pieceTold_26 (by decide) ?_
  obtain ⟨kq1, h⟩ := ck_some h
  obtain ⟨q1, hq1, h⟩ := obind h
  refine k_V0 ok kl_X7_222 ⟨Nat.le_of_ble_eq_true rfl, Nat.le_of_ble_eq_true rfl⟩ [.int s1, .int (1 : Int32)] kq1 rfl rfl (Nat.le_of_ble_eq_true rfl) (tX7_wrong ok.fl X.V s0 s1 (1 : Int32) G hq1) dX7_pieceTold_27 ?_
  refine j_aload_n ok dX7_pieceTold_30 rfl 0 rfl ?_
  refine j_aload_n ok dX7_pieceTold_31 rfl 0 rfl ?_
  obtain ⟨kq2, h⟩ := ck_some h
  obtain ⟨q2, hq2, h⟩ := obind h
  refine k_V1 ok kl_X7_253 ⟨Nat.le_of_ble_eq_true rfl, Nat.le_of_ble_eq_true rfl⟩ [] kq2 rfl rfl (Nat.le_of_ble_eq_true rfl) (tX7_pieces ok.fl X.V l0 q1.2 hq2) dX7_pieceTold_32 ?_
  refine j_bipush (v := 10) ok dX7_pieceTold_35 (by decide) ?_
  rcases ite_some h with ⟨c3, h⟩ | ⟨c3, h⟩
  · refine j_icmp_ne (tgt := 44) ok dX7_pieceTold_37 (by decide) (fun z => absurd c3 z) (fun _ => ?_)
    refine j_iconst (v := 1) ok dX7_pieceTold_40 (by decide) ?_
    refine j_goto (tgt := 45) ok dX7_pieceTold_41 (by decide) ?_
    exact J.sub [0, 1] rfl (jX7_pieceTold_45 ok l0 l1 l0 (1 : Int32) q2.2 h hK)
  · refine j_icmp_ne (tgt := 44) ok dX7_pieceTold_37 (by decide) (fun _ => ?_) (fun z => absurd z c3)
    refine j_iconst (v := 0) ok dX7_pieceTold_44 (by decide) ?_
    exact J.sub [0, 1] rfl (jX7_pieceTold_45 ok l0 l1 l0 (0 : Int32) q2.2 h hK)

def fX7_pieceTold_25 (l0 : Nat) (l1 : Int32) (s0 : Nat) (G : Mem) : Option (Unit × Mem) :=
  fX7_pieceTold_26 l0 l1 s0 (0 : Int32) G

set_option maxRecDepth 100000 in
set_option maxHeartbeats 4000000 in
theorem jX7_pieceTold_25 {X : Cx} (ok : OK X cX7_pieceTold RX7 none 6 6 203) (l0 : Nat) (l1 : Int32) (s0 : Nat) (G : Mem) {r : Unit} {G' : Mem} (h : fX7_pieceTold_25 l0 l1 s0 G = some (r, G')) (hK : (finV X) r G') : J X 6 25 [(0, .ref (X.B + l0)), (1, .int l1)] [.ref (X.B + s0)] G := by
  unfold fX7_pieceTold_25 at h
  refine j_iconst (v := 0) ok dX7_pieceTold_25 (by decide) ?_
  exact J.sub [0, 1] rfl (jX7_pieceTold_26 ok l0 l1 s0 (0 : Int32) G h hK)

def fX7_pieceTold_0 (l0 : Nat)  (G : Mem) : Option (Unit × Mem) :=
  ck G 17 l0 <| (fX7_is l0 1 G).bind fun q1 =>
  if q1.1 = (0 : Int32) then
    ck q1.2 17 l0 <| (fX7_is l0 2 q1.2).bind fun q3 =>
    if q3.1 = (0 : Int32) then
      fX7_pieceTold_26 l0 q1.1 l0 (1 : Int32) q3.2
    else
      fX7_pieceTold_25 l0 q1.1 l0 q3.2
  else
    fX7_pieceTold_25 l0 q1.1 l0 q1.2

set_option maxRecDepth 100000 in
set_option maxHeartbeats 4000000 in
theorem jX7_pieceTold_0 {X : Cx} (ok : OK X cX7_pieceTold RX7 none 6 6 203) (l0 : Nat)  (G : Mem) {r : Unit} {G' : Mem} (h : fX7_pieceTold_0 l0 G = some (r, G')) (hK : (finV X) r G') : J X 6 0 [(0, .ref (X.B + l0))] [] G := by
  unfold fX7_pieceTold_0 at h
  refine j_aload_n ok dX7_pieceTold_0 rfl 0 rfl ?_
  refine k_str ok st_X7_249 dX7_pieceTold_1 ?_
  obtain ⟨kq1, h⟩ := ck_some h
  obtain ⟨q1, hq1, h⟩ := obind h
  refine k_V1 ok kl_X7_237 ⟨Nat.le_of_ble_eq_true rfl, Nat.le_of_ble_eq_true rfl⟩ [.ref (X.V.sa 1)] kq1 rfl rfl (Nat.le_of_ble_eq_true rfl) (tX7_is ok.fl X.V l0 1 G hq1) dX7_pieceTold_3 ?_
  refine j_istore_n (L' := [(1, .int q1.1), (0, .ref (X.B + l0))]) ok dX7_pieceTold_6 rfl (by decide) rfl ?_
  refine j_aload_n ok dX7_pieceTold_7 rfl 1 rfl ?_
  refine j_iload_n ok dX7_pieceTold_8 rfl 0 rfl ?_
  rcases ite_some h with ⟨c2, h⟩ | ⟨c2, h⟩
  · refine j_if_ne (tgt := 25) ok dX7_pieceTold_9 (by decide) (fun z => absurd c2 z) (fun _ => ?_)
    refine j_aload_n ok dX7_pieceTold_12 rfl 1 rfl ?_
    refine k_str ok st_X7_251 dX7_pieceTold_13 ?_
    obtain ⟨kq3, h⟩ := ck_some h
    obtain ⟨q3, hq3, h⟩ := obind h
    refine k_V1 ok kl_X7_237 ⟨Nat.le_of_ble_eq_true rfl, Nat.le_of_ble_eq_true rfl⟩ [.ref (X.V.sa 2)] kq3 rfl rfl (Nat.le_of_ble_eq_true rfl) (tX7_is ok.fl X.V l0 2 q1.2 hq3) dX7_pieceTold_15 ?_
    rcases ite_some h with ⟨c4, h⟩ | ⟨c4, h⟩
    · refine j_if_ne (tgt := 25) ok dX7_pieceTold_18 (by decide) (fun z => absurd c4 z) (fun _ => ?_)
      refine j_iconst (v := 1) ok dX7_pieceTold_21 (by decide) ?_
      refine j_goto (tgt := 26) ok dX7_pieceTold_22 (by decide) ?_
      exact J.sub [1, 0] rfl (jX7_pieceTold_26 ok l0 q1.1 l0 (1 : Int32) q3.2 h hK)
    · refine j_if_ne (tgt := 25) ok dX7_pieceTold_18 (by decide) (fun _ => ?_) (fun z => absurd z c4)
      exact J.sub [1, 0] rfl (jX7_pieceTold_25 ok l0 q1.1 l0 q3.2 h hK)
  · refine j_if_ne (tgt := 25) ok dX7_pieceTold_9 (by decide) (fun _ => ?_) (fun z => absurd z c2)
    exact J.sub [1, 0] rfl (jX7_pieceTold_25 ok l0 q1.1 l0 q1.2 h hK)

def fX7_pieceTold (l0 : Nat) (G : Mem) : Option (Unit × Mem) := fX7_pieceTold_0 l0 G
set_option maxRecDepth 100000 in
theorem tX7_pieceTold {l : Launch} (hfl : l.stackTraces = false) (V : Wd) (l0 : Nat) (G : Mem) {r : Unit} {G' : Mem} (h : fX7_pieceTold l0 G = some (r, G')) : Mx l yX7_pieceTold cX7_pieceTold 6 none 6 203 V [.ref (V.B + l0)] G (.inl none) G' :=
  mx_of (L := [(0, .ref (V.B + l0))]) hfl (by decide +kernel) (Nat.le_of_ble_eq_true rfl) rfl (fun X hl hV hin ok he => by
    subst hl; subst hV
    exact J.sub [0] rfl (jX7_pieceTold_0 ok l0 G h he))
def fX7_lacksKing_33  (s0 : Int32) (G : Mem) : Option (Int32 × Mem) :=
  rz s0 <|
  some (s0, G)

set_option maxRecDepth 100000 in
set_option maxHeartbeats 4000000 in
theorem jX7_lacksKing_33 {X : Cx} (ok : OK X cX7_lacksKing RX7 (some .boolean) 1 2 45)  (s0 : Int32) (G : Mem) {r : Int32} {G' : Mem} (h : fX7_lacksKing_33 s0 G = some (r, G')) (hK : (finI X) r G') : J X 1 33 [] [.int s0] G := by
  unfold fX7_lacksKing_33 at h
  obtain ⟨hz1, h⟩ := rz_some h
  obtain ⟨er, eG⟩ := inj2 h
  subst er; subst eG
  exact j_zret ok rfl hz1 dX7_lacksKing_33 hK

def fX7_lacksKing_28   (G : Mem) : Option (Int32 × Mem) :=
  fX7_lacksKing_33 (1 : Int32) G

set_option maxRecDepth 100000 in
set_option maxHeartbeats 4000000 in
theorem jX7_lacksKing_28 {X : Cx} (ok : OK X cX7_lacksKing RX7 (some .boolean) 1 2 45)   (G : Mem) {r : Int32} {G' : Mem} (h : fX7_lacksKing_28  G = some (r, G')) (hK : (finI X) r G') : J X 1 28 [] [] G := by
  unfold fX7_lacksKing_28 at h
  refine j_iconst (v := 1) ok dX7_lacksKing_28 (by decide) ?_
  refine j_goto (tgt := 33) ok dX7_lacksKing_29 (by decide) ?_
  exact J.sub [] rfl (jX7_lacksKing_33 ok (1 : Int32) G h hK)

def fX7_lacksKing_0 (l0 : Nat)  (G : Mem) : Option (Int32 × Mem) :=
  (gR G 17 l0 0).bind fun v1 =>
  ck G 17 l0 <| (fX7_kingOf l0 v1 (3 : Int32) (0 : Int32) G).bind fun q2 =>
  if q2.1 = (-1 : Int32) then
    fX7_lacksKing_28 q2.2
  else
    (gR q2.2 17 l0 0).bind fun v4 =>
    ck q2.2 17 l0 <| (fX7_kingOf l0 v4 (3 : Int32) (1 : Int32) q2.2).bind fun q5 =>
    if q5.1 = (-1 : Int32) then
      fX7_lacksKing_28 q5.2
    else
      fX7_lacksKing_33 (0 : Int32) q5.2

set_option maxRecDepth 100000 in
set_option maxHeartbeats 4000000 in
theorem jX7_lacksKing_0 {X : Cx} (ok : OK X cX7_lacksKing RX7 (some .boolean) 1 2 45) (l0 : Nat)  (G : Mem) {r : Int32} {G' : Mem} (h : fX7_lacksKing_0 l0 G = some (r, G')) (hK : (finI X) r G') : J X 1 0 [(0, .ref (X.B + l0))] [] G := by
  unfold fX7_lacksKing_0 at h
  refine j_aload_n ok dX7_lacksKing_0 rfl 0 rfl ?_
  refine j_aload_n ok dX7_lacksKing_1 rfl 0 rfl ?_
  obtain ⟨v1, hv1, h⟩ := obind h
  refine k_getR ok fl_X7_9 hv1 dX7_lacksKing_2 ?_
  refine j_iconst (v := 3) ok dX7_lacksKing_5 (by decide) ?_
  refine j_iconst (v := 0) ok dX7_lacksKing_6 (by decide) ?_
  obtain ⟨kq2, h⟩ := ck_some h
  obtain ⟨q2, hq2, h⟩ := obind h
  refine k_V1 ok kl_X7_137 ⟨Nat.le_of_ble_eq_true rfl, Nat.le_of_ble_eq_true rfl⟩ [.ref (X.B + v1), .int (3 : Int32), .int (0 : Int32)] kq2 rfl rfl (Nat.le_of_ble_eq_true rfl) (tX7_kingOf ok.fl X.V l0 v1 (3 : Int32) (0 : Int32) G hq2) dX7_lacksKing_7 ?_
  refine j_iconst (v := -1) ok dX7_lacksKing_10 (by decide) ?_
  rcases ite_some h with ⟨c3, h⟩ | ⟨c3, h⟩
  · refine j_icmp_eq (tgt := 28) ok dX7_lacksKing_11 (by decide) (fun _ => ?_) (fun z => absurd c3 z)
    exact J.sub [] rfl (jX7_lacksKing_28 ok q2.2 h hK)
  · refine j_icmp_eq (tgt := 28) ok dX7_lacksKing_11 (by decide) (fun z => absurd z c3) (fun _ => ?_)
    refine j_aload_n ok dX7_lacksKing_14 rfl 0 rfl ?_
    refine j_aload_n ok dX7_lacksKing_15 rfl 0 rfl ?_
    obtain ⟨v4, hv4, h⟩ := obind h
    refine k_getR ok fl_X7_9 hv4 dX7_lacksKing_16 ?_
    refine j_iconst (v := 3) ok dX7_lacksKing_19 (by decide) ?_
    refine j_iconst (v := 1) ok dX7_lacksKing_20 (by decide) ?_
    obtain ⟨kq5, h⟩ := ck_some h
    obtain ⟨q5, hq5, h⟩ := obind h
    refine k_V1 ok kl_X7_137 ⟨Nat.le_of_ble_eq_true rfl, Nat.le_of_ble_eq_true rfl⟩ [.ref (X.B + v4), .int (3 : Int32), .int (1 : Int32)] kq5 rfl rfl (Nat.le_of_ble_eq_true rfl) (tX7_kingOf ok.fl X.V l0 v4 (3 : Int32) (1 : Int32) q2.2 hq5) dX7_lacksKing_21 ?_
    refine j_iconst (v := -1) ok dX7_lacksKing_24 (by decide) ?_
    rcases ite_some h with ⟨c6, h⟩ | ⟨c6, h⟩
    · refine j_icmp_ne (tgt := 32) ok dX7_lacksKing_25 (by decide) (fun z => absurd c6 z) (fun _ => ?_)
      exact J.sub [] rfl (jX7_lacksKing_28 ok q5.2 h hK)
    · refine j_icmp_ne (tgt := 32) ok dX7_lacksKing_25 (by decide) (fun _ => ?_) (fun z => absurd z c6)
      refine j_iconst (v := 0) ok dX7_lacksKing_32 (by decide) ?_
      exact J.sub [] rfl (jX7_lacksKing_33 ok (0 : Int32) q5.2 h hK)

def fX7_lacksKing (l0 : Nat) (G : Mem) : Option (Int32 × Mem) := fX7_lacksKing_0 l0 G
set_option maxRecDepth 100000 in
theorem tX7_lacksKing {l : Launch} (hfl : l.stackTraces = false) (V : Wd) (l0 : Nat) (G : Mem) {r : Int32} {G' : Mem} (h : fX7_lacksKing l0 G = some (r, G')) : Mx l yX7_lacksKing cX7_lacksKing 1 (some .boolean) 2 45 V [.ref (V.B + l0)] G (.inl (some (.int r))) G' :=
  mx_of (L := [(0, .ref (V.B + l0))]) hfl (by decide +kernel) (Nat.le_of_ble_eq_true rfl) rfl (fun X hl hV hin ok he => by
    subst hl; subst hV
    exact J.sub [0] rfl (jX7_lacksKing_0 ok l0 G h he))
def fX7_load_260  (s0 : Int32) (G : Mem) : Option (Int32 × Mem) :=
  some (s0, G)

set_option maxRecDepth 100000 in
set_option maxHeartbeats 4000000 in
theorem jX7_load_260 {X : Cx} (ok : OK X cX7_load RX7 (some .int) 2 11 338)  (s0 : Int32) (G : Mem) {r : Int32} {G' : Mem} (h : fX7_load_260 s0 G = some (r, G')) (hK : (finI X) r G') : J X 2 260 [] [.int s0] G := by
  unfold fX7_load_260 at h
  obtain ⟨er, eG⟩ := inj2 h
  subst er; subst eG
  exact j_iret ok rfl dX7_load_260 hK

def fX7_load_244 (l0 : Nat)  (G : Mem) : Option (Int32 × Mem) :=
  ck G 17 l0 <| (fX7_commands l0 G).bind fun q1 =>
  if q1.1 = (-1 : Int32) then
    fX7_load_260 (-1 : Int32) q1.2
  else
    ck q1.2 17 l0 <| (fX7_pieces l0 q1.2).bind fun q3 =>
    fX7_load_260 q3.1 q3.2

set_option maxRecDepth 100000 in
set_option maxHeartbeats 4000000 in
theorem jX7_load_244 {X : Cx} (ok : OK X cX7_load RX7 (some .int) 2 11 338) (l0 : Nat)  (G : Mem) {r : Int32} {G' : Mem} (h : fX7_load_244 l0 G = some (r, G')) (hK : (finI X) r G') : J X 2 244 [(0, .ref (X.B + l0))] [] G := by
  unfold fX7_load_244 at h
  refine j_aload_n ok dX7_load_244 rfl 0 rfl ?_
  obtain ⟨kq1, h⟩ := ck_some h
  obtain ⟨q1, hq1, h⟩ := obind h
  refine k_V1 ok kl_X7_324 ⟨Nat.le_of_ble_eq_true rfl, Nat.le_of_ble_eq_true rfl⟩ [] kq1 rfl rfl (Nat.le_of_ble_eq_true rfl) (tX7_commands ok.fl X.V l0 G hq1) dX7_load_245 ?_
  refine j_iconst (v := -1) ok dX7_load_248 (by decide) ?_
  rcases ite_some h with ⟨c2, h⟩ | ⟨c2, h⟩
  · refine j_icmp_ne (tgt := 256) ok dX7_load_249 (by decide) (fun z => absurd c2 z) (fun _ => ?_)
    refine j_iconst (v := -1) ok dX7_load_252 (by decide) ?_
    refine j_goto (tgt := 260) ok dX7_load_253 (by decide) ?_
    exact J.sub [] rfl (jX7_load_260 ok (-1 : Int32) q1.2 h hK)
  · refine j_icmp_ne (tgt := 256) ok dX7_load_249 (by decide) (fun _ => ?_) (fun z => absurd z c2)
    refine j_aload_n ok dX7_load_256 rfl 0 rfl ?_
    obtain ⟨kq3, h⟩ := ck_some h
    obtain ⟨q3, hq3, h⟩ := obind h
    refine k_V1 ok kl_X7_253 ⟨Nat.le_of_ble_eq_true rfl, Nat.le_of_ble_eq_true rfl⟩ [] kq3 rfl rfl (Nat.le_of_ble_eq_true rfl) (tX7_pieces ok.fl X.V l0 q1.2 hq3) dX7_load_257 ?_
    exact J.sub [] rfl (jX7_load_260 ok q3.1 q3.2 h hK)

def fX7_load_241 (l0 : Nat) (s0 : Nat) (s1 : Int32) (G : Mem) : Option (Int32 × Mem) :=
  (pZ G 17 s0 25 s1).bind fun G1 =>
  fX7_load_244 l0 G1

set_option maxRecDepth 100000 in
set_option maxHeartbeats 4000000 in
theorem jX7_load_241 {X : Cx} (ok : OK X cX7_load RX7 (some .int) 2 11 338) (l0 : Nat) (s0 : Nat) (s1 : Int32) (G : Mem) {r : Int32} {G' : Mem} (h : fX7_load_241 l0 s0 s1 G = some (r, G')) (hK : (finI X) r G') : J X 2 241 [(0, .ref (X.B + l0))] [.int s1, .ref (X.B + s0)] G := by
  unfold fX7_load_241 at h
  obtain ⟨G1, hG1, h⟩ := obind h
  refine k_putZ ok fl_X7_212 fp_X7 rfl (Or.inl rfl) hG1 dX7_load_241 ?_
  exact J.sub [0] rfl (jX7_load_244 ok l0 G1 h hK)

def fX7_load_217 (l0 : Nat) (s0 : Nat) (s1 : Int32) (G : Mem) : Option (Int32 × Mem) :=
  ck G 17 s0 <| (fX7_wrong s0 s1 (5 : Int32) G).bind fun q1 =>
  (gF q1.2 17 l0 25).bind fun v2 =>
  if v2 = (0 : Int32) then
    ck q1.2 17 l0 <| (fX7_finds l0 q1.2).bind fun q4 =>
    if q4.1 = (0 : Int32) then
      fX7_load_241 l0 l0 (1 : Int32) q4.2
    else
      fX7_load_241 l0 l0 (0 : Int32) q4.2
  else
    fX7_load_244 l0 q1.2

set_option maxRecDepth 100000 in
set_option maxHeartbeats 4000000 in
theorem jX7_load_217 {X : Cx} (ok : OK X cX7_load RX7 (some .int) 2 11 338) (l0 : Nat) (s0 : Nat) (s1 : Int32) (G : Mem) {r : Int32} {G' : Mem} (h : fX7_load_217 l0 s0 s1 G = some (r, G')) (hK : (finI X) r G') : J X 2 217 [(0, .ref (X.B + l0))] [.int s1, .ref (X.B + s0)] G := by
  unfold fX7_load_217 at h
  refine j_iconst (v := 5) ok dX7_load_217 (by decide) ?_
  obtain ⟨kq1, h⟩ := ck_some h
  obtain ⟨q1, hq1, h⟩ := obind h
  refine k_V0 ok kl_X7_222 ⟨Nat.le_of_ble_eq_true rfl, Nat.le_of_ble_eq_true rfl⟩ [.int s1, .int (5 : Int32)] kq1 rfl rfl (Nat.le_of_ble_eq_true rfl) (tX7_wrong ok.fl X.V s0 s1 (5 : Int32) G hq1) dX7_load_218 ?_
  refine j_aload_n ok dX7_load_221 rfl 0 rfl ?_
  obtain ⟨v2, hv2, h⟩ := obind h
  refine k_getI ok fl_X7_212 hv2 dX7_load_222 ?_
  rcases ite_some h with ⟨c3, h⟩ | ⟨c3, h⟩
  · refine j_if_ne (tgt := 244) ok dX7_load_225 (by decide) (fun z => absurd c3 z) (fun _ => ?_)
    refine j_aload_n ok dX7_load_228 rfl 0 rfl ?_
    refine j_aload_n ok dX7_load_229 rfl 0 rfl ?_
    obtain ⟨kq4, h⟩ := ck_some h
    obtain ⟨q4, hq4, h⟩ := obind h
    refine k_V1 ok kl_X7_174 ⟨Nat.le_of_ble_eq_true rfl, Nat.le_of_ble_eq_true rfl⟩ [] kq4 rfl rfl (Nat.le_of_ble_eq_true rfl) (tX7_finds ok.fl X.V l0 q1.2 hq4) dX7_load_230 ?_
    rcases ite_some h with ⟨c5, h⟩ | ⟨c5, h⟩
    · refine j_if_ne (tgt := 240) ok dX7_load_233 (by decide) (fun z => absurd c5 z) (fun _ => ?_)
      refine j_iconst (v := 1) ok dX7_load_236 (by decide) ?_
      refine j_goto (tgt := 241) ok dX7_load_237 (by decide) ?_
      exact J.sub [0] rfl (jX7_load_241 ok l0 l0 (1 : Int32) q4.2 h hK)
    · refine j_if_ne (tgt := 240) ok dX7_load_233 (by decide) (fun _ => ?_) (fun z => absurd z c5)
      refine j_iconst (v := 0) ok dX7_load_240 (by decide) ?_
      exact J.sub [0] rfl (jX7_load_241 ok l0 l0 (0 : Int32) q4.2 h hK)
  · refine j_if_ne (tgt := 244) ok dX7_load_225 (by decide) (fun _ => ?_) (fun z => absurd z c3)
    exact J.sub [0] rfl (jX7_load_244 ok l0 q1.2 h hK)

def fX7_load_216 (l0 : Nat) (s0 : Nat) (G : Mem) : Option (Int32 × Mem) :=
  fX7_load_217 l0 s0 (0 : Int32) G

set_option maxRecDepth 100000 in
set_option maxHeartbeats 4000000 in
theorem jX7_load_216 {X : Cx} (ok : OK X cX7_load RX7 (some .int) 2 11 338) (l0 : Nat) (s0 : Nat) (G : Mem) {r : Int32} {G' : Mem} (h : fX7_load_216 l0 s0 G = some (r, G')) (hK : (finI X) r G') : J X 2 216 [(0, .ref (X.B + l0))] [.ref (X.B + s0)] G := by
  unfold fX7_load_216 at h
  refine j_iconst (v := 0) ok dX7_load_216 (by decide) ?_
  exact J.sub [0] rfl (jX7_load_217 ok l0 s0 (0 : Int32) G h hK)

def fX7_load_193 (l0 : Nat) (s0 : Nat) (s1 : Int32) (G : Mem) : Option (Int32 × Mem) :=
  ck G 17 s0 <| (fX7_wrong s0 s1 (1 : Int32) G).bind fun q1 =>
  (gF q1.2 17 l0 25).bind fun v2 =>
  if v2 = (0 : Int32) then
    ck q1.2 17 l0 <| (fX7_lacksKing l0 q1.2).bind fun q4 =>
    if q4.1 = (0 : Int32) then
      fX7_load_216 l0 l0 q4.2
    else
      fX7_load_217 l0 l0 (1 : Int32) q4.2
  else
    fX7_load_216 l0 l0 q1.2

set_option maxRecDepth 100000 in
set_option maxHeartbeats 4000000 in
theorem jX7_load_193 {X : Cx} (ok : OK X cX7_load RX7 (some .int) 2 11 338) (l0 : Nat) (s0 : Nat) (s1 : Int32) (G : Mem) {r : Int32} {G' : Mem} (h : fX7_load_193 l0 s0 s1 G = some (r, G')) (hK : (finI X) r G') : J X 2 193 [(0, .ref (X.B + l0))] [.int s1, .ref (X.B + s0)] G := by
  unfold fX7_load_193 at h
  refine j_iconst (v := 1) ok dX7_load_193 (by decide) ?_
  obtain ⟨kq1, h⟩ := ck_some h
  obtain ⟨q1, hq1, h⟩ := obind h
  refine k_V0 ok kl_X7_222 ⟨Nat.le_of_ble_eq_true rfl, Nat.le_of_ble_eq_true rfl⟩ [.int s1, .int (1 : Int32)] kq1 rfl rfl (Nat.le_of_ble_eq_true rfl) (tX7_wrong ok.fl X.V s0 s1 (1 : Int32) G hq1) dX7_load_194 ?_
  refine j_aload_n ok dX7_load_197 rfl 0 rfl ?_
  refine j_aload_n ok dX7_load_198 rfl 0 rfl ?_
  obtain ⟨v2, hv2, h⟩ := obind h
  refine k_getI ok fl_X7_212 hv2 dX7_load_199 ?_
  rcases ite_some h with ⟨c3, h⟩ | ⟨c3, h⟩
  · refine j_if_ne (tgt := 216) ok dX7_load_202 (by decide) (fun z => absurd c3 z) (fun _ => ?_)
    refine j_aload_n ok dX7_load_205 rfl 0 rfl ?_
    obtain ⟨kq4, h⟩ := ck_some h
    obtain ⟨q4, hq4, h⟩ := obind h
    refine k_V1 ok kl_X7_321 ⟨Nat.le_of_ble_eq_true rfl, Nat.le_of_ble_eq_true rfl⟩ [] kq4 rfl rfl (Nat.le_of_ble_eq_true rfl) (tX7_lacksKing ok.fl X.V l0 q1.2 hq4) dX7_load_206 ?_
    rcases ite_some h with ⟨c5, h⟩ | ⟨c5, h⟩
    · refine j_if_eq (tgt := 216) ok dX7_load_209 (by decide) (fun _ => ?_) (fun z => absurd c5 z)
      exact J.sub [0] rfl (jX7_load_216 ok l0 l0 q4.2 h hK)
    · refine j_if_eq (tgt := 216) ok dX7_load_209 (by decide) (fun z => absurd z c5) (fun _ => ?_)
      refine j_iconst (v := 1) ok dX7_load_212 (by decide) ?_
      refine j_goto (tgt := 217) ok dX7_load_213 (by decide) ?_
      exact J.sub [0] rfl (jX7_load_217 ok l0 l0 (1 : Int32) q4.2 h hK)
  · refine j_if_ne (tgt := 216) ok dX7_load_202 (by decide) (fun _ => ?_) (fun z => absurd z c3)
    exact J.sub [0] rfl (jX7_load_216 ok l0 l0 q1.2 h hK)

def fX7_load_192 (l0 : Nat) (s0 : Nat) (G : Mem) : Option (Int32 × Mem) :=
  fX7_load_193 l0 s0 (0 : Int32) G

set_option maxRecDepth 100000 in
set_option maxHeartbeats 4000000 in
theorem jX7_load_192 {X : Cx} (ok : OK X cX7_load RX7 (some .int) 2 11 338) (l0 : Nat) (s0 : Nat) (G : Mem) {r : Int32} {G' : Mem} (h : fX7_load_192 l0 s0 G = some (r, G')) (hK : (finI X) r G') : J X 2 192 [(0, .ref (X.B + l0))] [.ref (X.B + s0)] G := by
  unfold fX7_load_192 at h
  refine j_iconst (v := 0) ok dX7_load_192 (by decide) ?_
  exact J.sub [0] rfl (jX7_load_193 ok l0 s0 (0 : Int32) G h hK)

def fX7_load_175 (l0 : Nat) (s0 : Int32) (G : Mem) : Option (Int32 × Mem) :=
  (gF G 17 l0 25).bind fun v1 =>
  if v1 = (0 : Int32) then
    if s0 = (0 : Int32) then
      fX7_load_193 l0 l0 (1 : Int32) G
    else
      fX7_load_192 l0 l0 G
  else
    fX7_load_192 l0 l0 G

set_option maxRecDepth 100000 in
set_option maxHeartbeats 4000000 in
theorem jX7_load_175 {X : Cx} (ok : OK X cX7_load RX7 (some .int) 2 11 338) (l0 : Nat) (s0 : Int32) (G : Mem) {r : Int32} {G' : Mem} (h : fX7_load_175 l0 s0 G = some (r, G')) (hK : (finI X) r G') : J X 2 175 [(0, .ref (X.B + l0))] [.int s0] G := by
  unfold fX7_load_175 at h
  refine j_istore_n (L' := [(1, .int s0), (0, .ref (X.B + l0))]) ok dX7_load_175 rfl (by decide) rfl ?_
  refine j_aload_n ok dX7_load_176 rfl 1 rfl ?_
  refine j_aload_n ok dX7_load_177 rfl 1 rfl ?_
  obtain ⟨v1, hv1, h⟩ := obind h
  refine k_getI ok fl_X7_212 hv1 dX7_load_178 ?_
  rcases ite_some h with ⟨c2, h⟩ | ⟨c2, h⟩
  · refine j_if_ne (tgt := 192) ok dX7_load_181 (by decide) (fun z => absurd c2 z) (fun _ => ?_)
    refine j_iload_n ok dX7_load_184 rfl 0 rfl ?_
    rcases ite_some h with ⟨c3, h⟩ | ⟨c3, h⟩
    · refine j_if_ne (tgt := 192) ok dX7_load_185 (by decide) (fun z => absurd c3 z) (fun _ => ?_)
      refine j_iconst (v := 1) ok dX7_load_188 (by decide) ?_
      refine j_goto (tgt := 193) ok dX7_load_189 (by decide) ?_
      exact J.sub [1] rfl (jX7_load_193 ok l0 l0 (1 : Int32) G h hK)
    · refine j_if_ne (tgt := 192) ok dX7_load_185 (by decide) (fun _ => ?_) (fun z => absurd z c3)
      exact J.sub [1] rfl (jX7_load_192 ok l0 l0 G h hK)
  · refine j_if_ne (tgt := 192) ok dX7_load_181 (by decide) (fun _ => ?_) (fun z => absurd z c2)
    exact J.sub [1] rfl (jX7_load_192 ok l0 l0 G h hK)

def fX7_load_170 (l0 : Nat)  (G : Mem) : Option (Int32 × Mem) :=
  fX7_load_175 l0 (1 : Int32) G

set_option maxRecDepth 100000 in
set_option maxHeartbeats 4000000 in
theorem jX7_load_170 {X : Cx} (ok : OK X cX7_load RX7 (some .int) 2 11 338) (l0 : Nat)  (G : Mem) {r : Int32} {G' : Mem} (h : fX7_load_170 l0 G = some (r, G')) (hK : (finI X) r G') : J X 2 170 [(0, .ref (X.B + l0))] [] G := by
  unfold fX7_load_170 at h
  refine j_iconst (v := 1) ok dX7_load_170 (by decide) ?_
  refine j_goto (tgt := 175) ok dX7_load_171 (by decide) ?_
  exact J.sub [0] rfl (jX7_load_175 ok l0 (1 : Int32) G h hK)

def fX7_load_133 (l0 : Nat)  (G : Mem) : Option (Int32 × Mem) :=
  (gF G 17 l0 21).bind fun v1 =>
  if v1 = (0 : Int32) then
    fX7_load_170 l0 G
  else
    ck G 17 l0 <| (fX7_is l0 8 G).bind fun q3 =>
    if q3.1 = (0 : Int32) then
      ck q3.2 17 l0 <| (fX7_is l0 9 q3.2).bind fun q5 =>
      if q5.1 = (0 : Int32) then
        ck q5.2 17 l0 <| (fX7_is l0 10 q5.2).bind fun q7 =>
        if q7.1 = (0 : Int32) then
          fX7_load_175 l0 (0 : Int32) q7.2
        else
          fX7_load_170 l0 q7.2
      else
        fX7_load_170 l0 q5.2
    else
      fX7_load_170 l0 q3.2

set_option maxRecDepth 100000 in
set_option maxHeartbeats 4000000 in
theorem jX7_load_133 {X : Cx} (ok : OK X cX7_load RX7 (some .int) 2 11 338) (l0 : Nat)  (G : Mem) {r : Int32} {G' : Mem} (h : fX7_load_133 l0 G = some (r, G')) (hK : (finI X) r G') : J X 2 133 [(0, .ref (X.B + l0))] [] G := by
  unfold fX7_load_133 at h
  refine j_aload_n ok dX7_load_133 rfl 0 rfl ?_
  obtain ⟨v1, hv1, h⟩ := obind h
  refine k_getI ok fl_X7_196 hv1 dX7_load_134 ?_
  rcases ite_some h with ⟨c2, h⟩ | ⟨c2, h⟩
  · refine j_if_eq (tgt := 170) ok dX7_load_137 (by decide) (fun _ => ?_) (fun z => absurd c2 z)
    exact J.sub [0] rfl (jX7_load_170 ok l0 G h hK)
  · refine j_if_eq (tgt := 170) ok dX7_load_137 (by decide) (fun z => absurd z c2) (fun _ => ?_)
    refine j_aload_n ok dX7_load_140 rfl 0 rfl ?_
    refine k_strw ok st_X7_292 dX7_load_141 ?_
    obtain ⟨kq3, h⟩ := ck_some h
    obtain ⟨q3, hq3, h⟩ := obind h
    refine k_V1 ok kl_X7_237 ⟨Nat.le_of_ble_eq_true rfl, Nat.le_of_ble_eq_true rfl⟩ [.ref (X.V.sa 8)] kq3 rfl rfl (Nat.le_of_ble_eq_true rfl) (tX7_is ok.fl X.V l0 8 G hq3) dX7_load_144 ?_
    rcases ite_some h with ⟨c4, h⟩ | ⟨c4, h⟩
    · refine j_if_ne (tgt := 170) ok dX7_load_147 (by decide) (fun z => absurd c4 z) (fun _ => ?_)
      refine j_aload_n ok dX7_load_150 rfl 0 rfl ?_
      refine k_strw ok st_X7_297 dX7_load_151 ?_
      obtain ⟨kq5, h⟩ := ck_some h
      obtain ⟨q5, hq5, h⟩ := obind h
      refine k_V1 ok kl_X7_237 ⟨Nat.le_of_ble_eq_true rfl, Nat.le_of_ble_eq_true rfl⟩ [.ref (X.V.sa 9)] kq5 rfl rfl (Nat.le_of_ble_eq_true rfl) (tX7_is ok.fl X.V l0 9 q3.2 hq5) dX7_load_154 ?_
      rcases ite_some h with ⟨c6, h⟩ | ⟨c6, h⟩
      · refine j_if_ne (tgt := 170) ok dX7_load_157 (by decide) (fun z => absurd c6 z) (fun _ => ?_)
        refine j_aload_n ok dX7_load_160 rfl 0 rfl ?_
        refine k_strw ok st_X7_302 dX7_load_161 ?_
        obtain ⟨kq7, h⟩ := ck_some h
        obtain ⟨q7, hq7, h⟩ := obind h
        refine k_V1 ok kl_X7_237 ⟨Nat.le_of_ble_eq_true rfl, Nat.le_of_ble_eq_true rfl⟩ [.ref (X.V.sa 10)] kq7 rfl rfl (Nat.le_of_ble_eq_true rfl) (tX7_is ok.fl X.V l0 10 q5.2 hq7) dX7_load_164 ?_
        rcases ite_some h with ⟨c8, h⟩ | ⟨c8, h⟩
        · refine j_if_eq (tgt := 174) ok dX7_load_167 (by decide) (fun _ => ?_) (fun z => absurd c8 z)
          refine j_iconst (v := 0) ok dX7_load_174 (by decide) ?_
          exact J.sub [0] rfl (jX7_load_175 ok l0 (0 : Int32) q7.2 h hK)
        · refine j_if_eq (tgt := 174) ok dX7_load_167 (by decide) (fun z => absurd z c8) (fun _ => ?_)
          exact J.sub [0] rfl (jX7_load_170 ok l0 q7.2 h hK)
      · refine j_if_ne (tgt := 170) ok dX7_load_157 (by decide) (fun _ => ?_) (fun z => absurd z c6)
        exact J.sub [0] rfl (jX7_load_170 ok l0 q5.2 h hK)
    · refine j_if_ne (tgt := 170) ok dX7_load_147 (by decide) (fun _ => ?_) (fun z => absurd z c4)
      exact J.sub [0] rfl (jX7_load_170 ok l0 q3.2 h hK)

def fX7_load_126 (l0 : Nat)  (G : Mem) : Option (((Unit) ⊕ Int32) × Mem) :=
  ck G 17 l0 <| (fX7_pieceTold l0 G).bind fun q1 =>
  some (.inl (), q1.2)

set_option maxRecDepth 100000 in
set_option maxHeartbeats 4000000 in
theorem jX7_load_126 {X : Cx} (ok : OK X cX7_load RX7 (some .int) 2 11 338) (l0 : Nat)  (G : Mem) {r : ((Unit) ⊕ Int32)} {G' : Mem} (h : fX7_load_126 l0 G = some (r, G')) (hK : (finL X 2 101 (fun s : Unit => [(0, .ref (X.B + l0))]) (finI X)) r G') : J X 2 126 [(0, .ref (X.B + l0))] [] G := by
  unfold fX7_load_126 at h
  refine j_aload_n ok dX7_load_126 rfl 0 rfl ?_
  obtain ⟨kq1, h⟩ := ck_some h
  obtain ⟨q1, hq1, h⟩ := obind h
  refine k_V0 ok kl_X7_318 ⟨Nat.le_of_ble_eq_true rfl, Nat.le_of_ble_eq_true rfl⟩ [] kq1 rfl rfl (Nat.le_of_ble_eq_true rfl) (tX7_pieceTold ok.fl X.V l0 G hq1) dX7_load_127 ?_
  refine j_goto (tgt := 101) ok dX7_load_130 (by decide) ?_
  obtain ⟨er, eG⟩ := inj2 h
  subst er; subst eG
  have hJ : J X 2 101 [(0, .ref (X.B + l0))] [] q1.2 := hK
  exact J.sub [0] rfl hJ

def fX7_load_101 (l0 : Nat)  (G : Mem) : Option (((Unit) ⊕ Int32) × Mem) :=
  (gF G 17 l0 25).bind fun v1 =>
  if v1 = (0 : Int32) then
    ck G 17 l0 <| (fX7_is l0 1 G).bind fun q3 =>
    if q3.1 = (0 : Int32) then
      ck q3.2 17 l0 <| (fX7_is l0 2 q3.2).bind fun q5 =>
      if q5.1 = (0 : Int32) then
        liftE (fX7_load_133 l0 q5.2)
      else
        fX7_load_126 l0 q5.2
    else
      fX7_load_126 l0 q3.2
  else
    liftE (fX7_load_133 l0 G)

set_option maxRecDepth 100000 in
set_option maxHeartbeats 4000000 in
theorem jX7_load_101 {X : Cx} (ok : OK X cX7_load RX7 (some .int) 2 11 338) (l0 : Nat)  (G : Mem) {r : ((Unit) ⊕ Int32)} {G' : Mem} (h : fX7_load_101 l0 G = some (r, G')) (hK : (finL X 2 101 (fun s : Unit => [(0, .ref (X.B + l0))]) (finI X)) r G') : J X 2 101 [(0, .ref (X.B + l0))] [] G := by
  unfold fX7_load_101 at h
  refine j_aload_n ok dX7_load_101 rfl 0 rfl ?_
  obtain ⟨v1, hv1, h⟩ := obind h
  refine k_getI ok fl_X7_212 hv1 dX7_load_102 ?_
  rcases ite_some h with ⟨c2, h⟩ | ⟨c2, h⟩
  · refine j_if_ne (tgt := 133) ok dX7_load_105 (by decide) (fun z => absurd c2 z) (fun _ => ?_)
    refine j_aload_n ok dX7_load_108 rfl 0 rfl ?_
    refine k_str ok st_X7_249 dX7_load_109 ?_
    obtain ⟨kq3, h⟩ := ck_some h
    obtain ⟨q3, hq3, h⟩ := obind h
    refine k_V1 ok kl_X7_237 ⟨Nat.le_of_ble_eq_true rfl, Nat.le_of_ble_eq_true rfl⟩ [.ref (X.V.sa 1)] kq3 rfl rfl (Nat.le_of_ble_eq_true rfl) (tX7_is ok.fl X.V l0 1 G hq3) dX7_load_111 ?_
    rcases ite_some h with ⟨c4, h⟩ | ⟨c4, h⟩
    · refine j_if_ne (tgt := 126) ok dX7_load_114 (by decide) (fun z => absurd c4 z) (fun _ => ?_)
      refine j_aload_n ok dX7_load_117 rfl 0 rfl ?_
      refine k_str ok st_X7_251 dX7_load_118 ?_
      obtain ⟨kq5, h⟩ := ck_some h
      obtain ⟨q5, hq5, h⟩ := obind h
      refine k_V1 ok kl_X7_237 ⟨Nat.le_of_ble_eq_true rfl, Nat.le_of_ble_eq_true rfl⟩ [.ref (X.V.sa 2)] kq5 rfl rfl (Nat.le_of_ble_eq_true rfl) (tX7_is ok.fl X.V l0 2 q3.2 hq5) dX7_load_120 ?_
      rcases ite_some h with ⟨c6, h⟩ | ⟨c6, h⟩
      · refine j_if_eq (tgt := 133) ok dX7_load_123 (by decide) (fun _ => ?_) (fun z => absurd c6 z)
        obtain ⟨r1, e1, h1⟩ := lift_some h
        subst e1
        exact J.sub [0] rfl (jX7_load_133 ok l0 q5.2 h1 hK)
      · refine j_if_eq (tgt := 133) ok dX7_load_123 (by decide) (fun z => absurd z c6) (fun _ => ?_)
        exact J.sub [0] rfl (jX7_load_126 ok l0 q5.2 h hK)
    · refine j_if_ne (tgt := 126) ok dX7_load_114 (by decide) (fun _ => ?_) (fun z => absurd z c4)
      exact J.sub [0] rfl (jX7_load_126 ok l0 q3.2 h hK)
  · refine j_if_ne (tgt := 133) ok dX7_load_105 (by decide) (fun _ => ?_) (fun z => absurd z c2)
    obtain ⟨r1, e1, h1⟩ := lift_some h
    subst e1
    exact J.sub [0] rfl (jX7_load_133 ok l0 G h1 hK)

def fX7_load_90 (l0 : Nat)  (G : Mem) : Option (Int32 × Mem) :=
  (gF G 17 l0 25).bind fun v1 =>
  if v1 = (0 : Int32) then
    ck G 17 l0 <| (fX7_pieceTold l0 G).bind fun q3 =>
    loopM (fun (s : Unit) G => fX7_load_101 l0 G) FU () q3.2
  else
    loopM (fun (s : Unit) G => fX7_load_101 l0 G) FU () G

set_option maxRecDepth 100000 in
set_option maxHeartbeats 4000000 in
theorem jX7_load_90 {X : Cx} (ok : OK X cX7_load RX7 (some .int) 2 11 338) (l0 : Nat)  (G : Mem) {r : Int32} {G' : Mem} (h : fX7_load_90 l0 G = some (r, G')) (hK : (finI X) r G') : J X 2 90 [(0, .ref (X.B + l0))] [] G := by
  unfold fX7_load_90 at h
  refine j_aload_n ok dX7_load_90 rfl 0 rfl ?_
  obtain ⟨v1, hv1, h⟩ := obind h
  refine k_getI ok fl_X7_212 hv1 dX7_load_91 ?_
  rcases ite_some h with ⟨c2, h⟩ | ⟨c2, h⟩
  · refine j_if_ne (tgt := 101) ok dX7_load_94 (by decide) (fun z => absurd c2 z) (fun _ => ?_)
    refine j_aload_n ok dX7_load_97 rfl 0 rfl ?_
    obtain ⟨kq3, h⟩ := ck_some h
    obtain ⟨q3, hq3, h⟩ := obind h
    refine k_V0 ok kl_X7_318 ⟨Nat.le_of_ble_eq_true rfl, Nat.le_of_ble_eq_true rfl⟩ [] kq3 rfl rfl (Nat.le_of_ble_eq_true rfl) (tX7_pieceTold ok.fl X.V l0 G hq3) dX7_load_98 ?_
    have hJ : J X 2 101 [(0, .ref (X.B + l0))] [] q3.2 := j_loop (loc := fun s : Unit => [(0, .ref (X.B + l0))]) (F := (finI X)) (fun s G r G' hb hk => jX7_load_101 ok l0 G hb hk) _ _ _ _ _ h hK
    exact J.sub [0] rfl hJ
  · refine j_if_ne (tgt := 101) ok dX7_load_94 (by decide) (fun _ => ?_) (fun z => absurd z c2)
    have hJ : J X 2 101 [(0, .ref (X.B + l0))] [] G := j_loop (loc := fun s : Unit => [(0, .ref (X.B + l0))]) (F := (finI X)) (fun s G r G' hb hk => jX7_load_101 ok l0 G hb hk) _ _ _ _ _ h hK
    exact J.sub [0] rfl hJ

def fX7_load_41 (l0 : Nat) (s0 : Nat) (s1 : Int32) (G : Mem) : Option (Int32 × Mem) :=
  ck G 17 s0 <| (fX7_wrong s0 s1 (1 : Int32) G).bind fun q1 =>
  ck q1.2 17 l0 <| (fX7_go l0 q1.2).bind fun q2 =>
  (gR q2.2 17 l0 0).bind fun v3 =>
  ck q2.2 17 l0 <| (fX7_number l0 (3 : Int32) (6 : Int32) q2.2).bind fun q4 =>
  (pA q4.2 v3 (0 : Int32) q4.1).bind fun G5 =>
  (gR G5 17 l0 0).bind fun v6 =>
  ck G5 17 l0 <| (fX7_number l0 (3 : Int32) (6 : Int32) G5).bind fun q7 =>
  (pA q7.2 v6 (1 : Int32) q7.1).bind fun G8 =>
  ck G8 17 l0 <| (fX7_semicolon l0 G8).bind fun q9 =>
  (gF q9.2 17 l0 25).bind fun v10 =>
  if v10 = (0 : Int32) then
    ck q9.2 17 l0 <| (fX7_pieceTold l0 q9.2).bind fun q12 =>
    fX7_load_90 l0 q12.2
  else
    fX7_load_90 l0 q9.2

set_option maxRecDepth 100000 in
set_option maxHeartbeats 4000000 in
theorem jX7_load_41 {X : Cx} (ok : OK X cX7_load RX7 (some .int) 2 11 338) (l0 : Nat) (s0 : Nat) (s1 : Int32) (G : Mem) {r : Int32} {G' : Mem} (h : fX7_load_41 l0 s0 s1 G = some (r, G')) (hK : (finI X) r G') : J X 2 41 [(0, .ref (X.B + l0))] [.int s1, .ref (X.B + s0)] G := by
  unfold fX7_load_41 at h
  refine j_iconst (v := 1) ok dX7_load_41 (by decide) ?_
  obtain ⟨kq1, h⟩ := ck_some h
  obtain ⟨q1, hq1, h⟩ := obind h
  refine k_V0 ok kl_X7_222 ⟨Nat.le_of_ble_eq_true rfl, Nat.le_of_ble_eq_true rfl⟩ [.int s1, .int (1 : Int32)] kq1 rfl rfl (Nat.le_of_ble_eq_true rfl) (tX7_wrong ok.fl X.V s0 s1 (1 : Int32) G hq1) dX7_load_42 ?_
  refine j_aload_n ok dX7_load_45 rfl 0 rfl ?_
  obtain ⟨kq2, h⟩ := ck_some h
  obtain ⟨q2, hq2, h⟩ := obind h
  refine k_V0 ok kl_X7_229 ⟨Nat.le_of_ble_eq_true rfl, Nat.le_of_ble_eq_true rfl⟩ [] kq2 rfl rfl (Nat.le_of_ble_eq_true rfl) (tX7_go ok.fl X.V l0 q1.2 hq2) dX7_load_46 ?_
  refine j_aload_n ok dX7_load_49 rfl 0 rfl ?_
  obtain ⟨v3, hv3, h⟩ := obind h
  refine k_getR ok fl_X7_9 hv3 dX7_load_50 ?_
  refine j_iconst (v := 0) ok dX7_load_53 (by decide) ?_
  refine j_aload_n ok dX7_load_54 rfl 0 rfl ?_
  refine j_iconst (v := 3) ok dX7_load_55 (by decide) ?_
  refine j_bipush (v := 6) ok dX7_load_56 (by decide) ?_
  obtain ⟨kq4, h⟩ := ck_some h
  obtain ⟨q4, hq4, h⟩ := obind h
  refine k_V1 ok kl_X7_232 ⟨Nat.le_of_ble_eq_true rfl, Nat.le_of_ble_eq_true rfl⟩ [.int (3 : Int32), .int (6 : Int32)] kq4 rfl rfl (Nat.le_of_ble_eq_true rfl) (tX7_number ok.fl X.V l0 (3 : Int32) (6 : Int32) q2.2 hq4) dX7_load_58 ?_
  obtain ⟨G5, hG5, h⟩ := obind h
  refine j_iast ok hG5 dX7_load_61 ?_
  refine j_aload_n ok dX7_load_62 rfl 0 rfl ?_
  obtain ⟨v6, hv6, h⟩ := obind h
  refine k_getR ok fl_X7_9 hv6 dX7_load_63 ?_
  refine j_iconst (v := 1) ok dX7_load_66 (by decide) ?_
  refine j_aload_n ok dX7_load_67 rfl 0 rfl ?_
  refine j_iconst (v := 3) ok dX7_load_68 (by decide) ?_
  refine j_bipush (v := 6) ok dX7_load_69 (by decide) ?_
  obtain ⟨kq7, h⟩ := ck_some h
  obtain ⟨q7, hq7, h⟩ := obind h
  refine k_V1 ok kl_X7_232 ⟨Nat.le_of_ble_eq_true rfl, Nat.le_of_ble_eq_true rfl⟩ [.int (3 : Int32), .int (6 : Int32)] kq7 rfl rfl (Nat.le_of_ble_eq_true rfl) (tX7_number ok.fl X.V l0 (3 : Int32) (6 : Int32) G5 hq7) dX7_load_71 ?_
  obtain ⟨G8, hG8, h⟩ := obind h
  refine j_iast ok hG8 dX7_load_74 ?_
  refine j_aload_n ok dX7_load_75 rfl 0 rfl ?_
  obtain ⟨kq9, h⟩ := ck_some h
  obtain ⟨q9, hq9, h⟩ := obind h
  refine k_V0 ok kl_X7_262 ⟨Nat.le_of_ble_eq_true rfl, Nat.le_of_ble_eq_true rfl⟩ [] kq9 rfl rfl (Nat.le_of_ble_eq_true rfl) (tX7_semicolon ok.fl X.V l0 G8 hq9) dX7_load_76 ?_
  refine j_aload_n ok dX7_load_79 rfl 0 rfl ?_
  obtain ⟨v10, hv10, h⟩ := obind h
  refine k_getI ok fl_X7_212 hv10 dX7_load_80 ?_
  rcases ite_some h with ⟨c11, h⟩ | ⟨c11, h⟩
  · refine j_if_ne (tgt := 90) ok dX7_load_83 (by decide) (fun z => absurd c11 z) (fun _ => ?_)
    refine j_aload_n ok dX7_load_86 rfl 0 rfl ?_
    obtain ⟨kq12, h⟩ := ck_some h
    obtain ⟨q12, hq12, h⟩ := obind h
    refine k_V0 ok kl_X7_318 ⟨Nat.le_of_ble_eq_true rfl, Nat.le_of_ble_eq_true rfl⟩ [] kq12 rfl rfl (Nat.le_of_ble_eq_true rfl) (tX7_pieceTold ok.fl X.V l0 q9.2 hq12) dX7_load_87 ?_
    exact J.sub [0] rfl (jX7_load_90 ok l0 q12.2 h hK)
  · refine j_if_ne (tgt := 90) ok dX7_load_83 (by decide) (fun _ => ?_) (fun z => absurd z c11)
    exact J.sub [0] rfl (jX7_load_90 ok l0 q9.2 h hK)

def fX7_load_25 (l0 : Nat)  (G : Mem) : Option (Int32 × Mem) :=
  ck G 17 l0 <| (fX7_is l0 0 G).bind fun q1 =>
  if q1.1 = (0 : Int32) then
    fX7_load_41 l0 l0 (1 : Int32) q1.2
  else
    fX7_load_41 l0 l0 (0 : Int32) q1.2

set_option maxRecDepth 100000 in
set_option maxHeartbeats 4000000 in
theorem jX7_load_25 {X : Cx} (ok : OK X cX7_load RX7 (some .int) 2 11 338) (l0 : Nat)  (G : Mem) {r : Int32} {G' : Mem} (h : fX7_load_25 l0 G = some (r, G')) (hK : (finI X) r G') : J X 2 25 [(0, .ref (X.B + l0))] [] G := by
  unfold fX7_load_25 at h
  refine j_aload_n ok dX7_load_25 rfl 0 rfl ?_
  refine j_aload_n ok dX7_load_26 rfl 0 rfl ?_
  refine k_strw ok st_X7_317 dX7_load_27 ?_
  obtain ⟨kq1, h⟩ := ck_some h
  obtain ⟨q1, hq1, h⟩ := obind h
  refine k_V1 ok kl_X7_237 ⟨Nat.le_of_ble_eq_true rfl, Nat.le_of_ble_eq_true rfl⟩ [.ref (X.V.sa 0)] kq1 rfl rfl (Nat.le_of_ble_eq_true rfl) (tX7_is ok.fl X.V l0 0 G hq1) dX7_load_30 ?_
  rcases ite_some h with ⟨c2, h⟩ | ⟨c2, h⟩
  · refine j_if_ne (tgt := 40) ok dX7_load_33 (by decide) (fun z => absurd c2 z) (fun _ => ?_)
    refine j_iconst (v := 1) ok dX7_load_36 (by decide) ?_
    refine j_goto (tgt := 41) ok dX7_load_37 (by decide) ?_
    exact J.sub [0] rfl (jX7_load_41 ok l0 l0 (1 : Int32) q1.2 h hK)
  · refine j_if_ne (tgt := 40) ok dX7_load_33 (by decide) (fun _ => ?_) (fun z => absurd z c2)
    refine j_iconst (v := 0) ok dX7_load_40 (by decide) ?_
    exact J.sub [0] rfl (jX7_load_41 ok l0 l0 (0 : Int32) q1.2 h hK)

def fX7_load_6 (l0 : Nat) (l1 : Int32)  (G : Mem) : Option (((Int32) ⊕ Int32) × Mem) :=
  if (109 : Int32) ≤ l1 then
    liftE (fX7_load_25 l0 G)
  else
    (gR G 17 l0 0).bind fun v2 =>
    (pA G v2 l1 (0 : Int32)).bind fun G3 =>
    some (.inl ((l1 + (1 : Int32))), G3)

set_option maxRecDepth 100000 in
set_option maxHeartbeats 4000000 in
theorem jX7_load_6 {X : Cx} (ok : OK X cX7_load RX7 (some .int) 2 11 338) (l0 : Nat) (l1 : Int32)  (G : Mem) {r : ((Int32) ⊕ Int32)} {G' : Mem} (h : fX7_load_6 l0 l1 G = some (r, G')) (hK : (finL X 2 6 (fun s : Int32 => [(0, .ref (X.B + l0)), (1, .int s)]) (finI X)) r G') : J X 2 6 [(0, .ref (X.B + l0)), (1, .int l1)] [] G := by
  unfold fX7_load_6 at h
  refine j_iload_n ok dX7_load_6 rfl 1 rfl ?_
  refine j_bipush (v := 109) ok dX7_load_7 (by decide) ?_
  rcases ite_some h with ⟨c1, h⟩ | ⟨c1, h⟩
  · refine j_icmp_ge (tgt := 25) ok dX7_load_9 (by decide) (fun _ => ?_) (fun z => absurd c1 z)
    obtain ⟨r1, e1, h1⟩ := lift_some h
    subst e1
    exact J.sub [0] rfl (jX7_load_25 ok l0 G h1 hK)
  · refine j_icmp_ge (tgt := 25) ok dX7_load_9 (by decide) (fun z => absurd z c1) (fun _ => ?_)
    refine j_aload_n ok dX7_load_12 rfl 0 rfl ?_
    obtain ⟨v2, hv2, h⟩ := obind h
    refine k_getR ok fl_X7_9 hv2 dX7_load_13 ?_
    refine j_iload_n ok dX7_load_16 rfl 1 rfl ?_
    refine j_iconst (v := 0) ok dX7_load_17 (by decide) ?_
    obtain ⟨G3, hG3, h⟩ := obind h
    refine j_iast ok hG3 dX7_load_18 ?_
    refine j_iinc (L' := [(1, .int (l1 + (1 : Int32))), (0, .ref (X.B + l0))]) (v := (l1 + (1 : Int32))) ok dX7_load_19 (q := 1) rfl rfl (by decide) rfl ?_
    refine j_goto (tgt := 6) ok dX7_load_22 (by decide) ?_
    obtain ⟨er, eG⟩ := inj2 h
    subst er; subst eG
    have hJ : J X 2 6 [(0, .ref (X.B + l0)), (1, .int (l1 + (1 : Int32)))] [] G3 := hK
    exact J.sub [1, 0] rfl hJ

def fX7_load_0 (l0 : Nat)  (G : Mem) : Option (Int32 × Mem) :=
  ck G 17 l0 <| (fX7_starts l0 G).bind fun q1 =>
  loopM (fun (s : Int32) G => fX7_load_6 l0 s G) FU ((0 : Int32)) q1.2

set_option maxRecDepth 100000 in
set_option maxHeartbeats 4000000 in
theorem jX7_load_0 {X : Cx} (ok : OK X cX7_load RX7 (some .int) 2 11 338) (l0 : Nat)  (G : Mem) {r : Int32} {G' : Mem} (h : fX7_load_0 l0 G = some (r, G')) (hK : (finI X) r G') : J X 2 0 [(0, .ref (X.B + l0))] [] G := by
  unfold fX7_load_0 at h
  refine j_aload_n ok dX7_load_0 rfl 0 rfl ?_
  obtain ⟨kq1, h⟩ := ck_some h
  obtain ⟨q1, hq1, h⟩ := obind h
  refine k_V0 ok kl_X7_314 ⟨Nat.le_of_ble_eq_true rfl, Nat.le_of_ble_eq_true rfl⟩ [] kq1 rfl rfl (Nat.le_of_ble_eq_true rfl) (tX7_starts ok.fl X.V l0 G hq1) dX7_load_1 ?_
  refine j_iconst (v := 0) ok dX7_load_4 (by decide) ?_
  refine j_istore_n (L' := [(1, .int (0 : Int32)), (0, .ref (X.B + l0))]) ok dX7_load_5 rfl (by decide) rfl ?_
  have hJ : J X 2 6 [(0, .ref (X.B + l0)), (1, .int (0 : Int32))] [] q1.2 := j_loop (loc := fun s : Int32 => [(0, .ref (X.B + l0)), (1, .int s)]) (F := (finI X)) (fun s G r G' hb hk => jX7_load_6 ok l0 s G hb hk) _ _ _ _ _ h hK
  exact J.sub [1, 0] rfl hJ

def fX7_load (l0 : Nat) (G : Mem) : Option (Int32 × Mem) := fX7_load_0 l0 G
set_option maxRecDepth 100000 in
theorem tX7_load {l : Launch} (hfl : l.stackTraces = false) (V : Wd) (l0 : Nat) (G : Mem) {r : Int32} {G' : Mem} (h : fX7_load l0 G = some (r, G')) : Mx l yX7_load cX7_load 2 (some .int) 11 338 V [.ref (V.B + l0)] G (.inl (some (.int r))) G' :=
  mx_of (L := [(0, .ref (V.B + l0))]) hfl (by decide +kernel) (Nat.le_of_ble_eq_true rfl) rfl (fun X hl hV hin ok he => by
    subst hl; subst hV
    exact J.sub [0] rfl (jX7_load_0 ok l0 G h he))
def fX7_lays_35 (l0 : Nat)  (G : Mem) : Option (Unit × Mem) :=
  ck G 17 l0 <| (fX7_load l0 G).bind fun q1 =>
  (pI q1.2 17 l0 5 (0 : Int32)).bind fun G2 =>
  some ((), G2)

set_option maxRecDepth 100000 in
set_option maxHeartbeats 4000000 in
theorem jX7_lays_35 {X : Cx} (ok : OK X cX7_lays RX7 none 3 12 359) (l0 : Nat)  (G : Mem) {r : Unit} {G' : Mem} (h : fX7_lays_35 l0 G = some (r, G')) (hK : (finV X) r G') : J X 3 35 [(0, .ref (X.B + l0))] [] G := by
  unfold fX7_lays_35 at h
  refine j_aload_n ok dX7_lays_35 rfl 0 rfl ?_
  obtain ⟨kq1, h⟩ := ck_some h
  obtain ⟨q1, hq1, h⟩ := obind h
  refine k_V1 ok kl_X7_80 ⟨Nat.le_of_ble_eq_true rfl, Nat.le_of_ble_eq_true rfl⟩ [] kq1 rfl rfl (Nat.le_of_ble_eq_true rfl) (tX7_load ok.fl X.V l0 G hq1) dX7_lays_36 ?_
  refine j_istore_n (L' := [(2, .int q1.1), (0, .ref (X.B + l0))]) ok dX7_lays_39 rfl (by decide) rfl ?_
  refine j_aload_n ok dX7_lays_40 rfl 1 rfl ?_
  refine j_iconst (v := 0) ok dX7_lays_41 (by decide) ?_
  obtain ⟨G2, hG2, h⟩ := obind h
  refine k_putI ok fl_X7_83 fp_X7 rfl (Or.inl rfl) hG2 dX7_lays_42 ?_
  obtain ⟨er, eG⟩ := inj2 h
  subst er; subst eG
  exact j_vret ok rfl dX7_lays_45 hK

def fX7_lays_10 (l0 : Nat) (l1 : Nat) (l2 : Int32)  (G : Mem) : Option (((Int32) ⊕ Unit) × Mem) :=
  (gF G 17 l0 9).bind fun v1 =>
  if v1 ≤ l2 then
    liftE (fX7_lays_35 l0 G)
  else
    (gR G 17 l0 7).bind fun v3 =>
    ckS l1 <| (fJ0_charAt_5068e l1 l2 G).bind fun q4 =>
    (pA q4.2 v3 l2 q4.1).bind fun G5 =>
    some (.inl ((l2 + (1 : Int32))), G5)

set_option maxRecDepth 100000 in
set_option maxHeartbeats 4000000 in
theorem jX7_lays_10 {X : Cx} (ok : OK X cX7_lays RX7 none 3 12 359) (l0 : Nat) (l1 : Nat) (l2 : Int32)  (G : Mem) {r : ((Int32) ⊕ Unit)} {G' : Mem} (h : fX7_lays_10 l0 l1 l2 G = some (r, G')) (hK : (finL X 3 10 (fun s : Int32 => [(0, .ref (X.B + l0)), (1, .ref (X.V.sa l1)), (2, .int s)]) (finV X)) r G') : J X 3 10 [(0, .ref (X.B + l0)), (1, .ref (X.V.sa l1)), (2, .int l2)] [] G := by
  unfold fX7_lays_10 at h
  refine j_iload_n ok dX7_lays_10 rfl 2 rfl ?_
  refine j_aload_n ok dX7_lays_11 rfl 0 rfl ?_
  obtain ⟨v1, hv1, h⟩ := obind h
  refine k_getI ok fl_X7_73 hv1 dX7_lays_12 ?_
  rcases ite_some h with ⟨c2, h⟩ | ⟨c2, h⟩
  · refine j_icmp_ge (tgt := 35) ok dX7_lays_15 (by decide) (fun _ => ?_) (fun z => absurd c2 z)
    obtain ⟨r1, e1, h1⟩ := lift_some h
    subst e1
    exact J.sub [0] rfl (jX7_lays_35 ok l0 G h1 hK)
  · refine j_icmp_ge (tgt := 35) ok dX7_lays_15 (by decide) (fun z => absurd z c2) (fun _ => ?_)
    refine j_aload_n ok dX7_lays_18 rfl 0 rfl ?_
    obtain ⟨v3, hv3, h⟩ := obind h
    refine k_getR ok fl_X7_26 hv3 dX7_lays_19 ?_
    refine j_iload_n ok dX7_lays_22 rfl 2 rfl ?_
    refine j_aload_n ok dX7_lays_23 rfl 1 rfl ?_
    refine j_iload_n ok dX7_lays_24 rfl 2 rfl ?_
    obtain ⟨kq4, h⟩ := ckS_some h
    obtain ⟨q4, hq4, h⟩ := obind h
    refine k_T1 ok kl_X7_76 ⟨Nat.le_of_ble_eq_true rfl, Nat.le_of_ble_eq_true rfl⟩ [.int l2] kq4 rfl rfl (Nat.le_of_ble_eq_true rfl) (tJ0_charAt_5068e ok.fl X.V l1 l2 G hq4) dX7_lays_25 ?_
    obtain ⟨G5, hG5, h⟩ := obind h
    refine j_iast ok hG5 dX7_lays_28 ?_
    refine j_iinc (L' := [(2, .int (l2 + (1 : Int32))), (0, .ref (X.B + l0)), (1, .ref (X.V.sa l1))]) (v := (l2 + (1 : Int32))) ok dX7_lays_29 (q := 2) rfl rfl (by decide) rfl ?_
    refine j_goto (tgt := 10) ok dX7_lays_32 (by decide) ?_
    obtain ⟨er, eG⟩ := inj2 h
    subst er; subst eG
    have hJ : J X 3 10 [(0, .ref (X.B + l0)), (1, .ref (X.V.sa l1)), (2, .int (l2 + (1 : Int32)))] [] G5 := hK
    exact J.sub [1, 2, 0] rfl hJ

def fX7_lays_0 (l0 : Nat) (l1 : Nat)  (G : Mem) : Option (Unit × Mem) :=
  ckS l1 <| (fJ0_length_8abf5 l1 G).bind fun q1 =>
  (pI q1.2 17 l0 9 q1.1).bind fun G2 =>
  loopM (fun (s : Int32) G => fX7_lays_10 l0 l1 s G) FU ((0 : Int32)) G2

set_option maxRecDepth 100000 in
set_option maxHeartbeats 4000000 in
theorem jX7_lays_0 {X : Cx} (ok : OK X cX7_lays RX7 none 3 12 359) (l0 : Nat) (l1 : Nat)  (G : Mem) {r : Unit} {G' : Mem} (h : fX7_lays_0 l0 l1 G = some (r, G')) (hK : (finV X) r G') : J X 3 0 [(0, .ref (X.B + l0)), (1, .ref (X.V.sa l1))] [] G := by
  unfold fX7_lays_0 at h
  refine j_aload_n ok dX7_lays_0 rfl 0 rfl ?_
  refine j_aload_n ok dX7_lays_1 rfl 1 rfl ?_
  obtain ⟨kq1, h⟩ := ckS_some h
  obtain ⟨q1, hq1, h⟩ := obind h
  refine k_T1 ok kl_X7_67 ⟨Nat.le_of_ble_eq_true rfl, Nat.le_of_ble_eq_true rfl⟩ [] kq1 rfl rfl (Nat.le_of_ble_eq_true rfl) (tJ0_length_8abf5 ok.fl X.V l1 G hq1) dX7_lays_2 ?_
  obtain ⟨G2, hG2, h⟩ := obind h
  refine k_putI ok fl_X7_73 fp_X7 rfl (Or.inl rfl) hG2 dX7_lays_5 ?_
  refine j_iconst (v := 0) ok dX7_lays_8 (by decide) ?_
  refine j_istore_n (L' := [(2, .int (0 : Int32)), (0, .ref (X.B + l0)), (1, .ref (X.V.sa l1))]) ok dX7_lays_9 rfl (by decide) rfl ?_
  have hJ : J X 3 10 [(0, .ref (X.B + l0)), (1, .ref (X.V.sa l1)), (2, .int (0 : Int32))] [] G2 := j_loop (loc := fun s : Int32 => [(0, .ref (X.B + l0)), (1, .ref (X.V.sa l1)), (2, .int s)]) (F := (finV X)) (fun s G r G' hb hk => jX7_lays_10 ok l0 l1 s G hb hk) _ _ _ _ _ h hK
  exact J.sub [1, 2, 0] rfl hJ

def fX7_lays (l0 : Nat) (l1 : Nat) (G : Mem) : Option (Unit × Mem) := fX7_lays_0 l0 l1 G
set_option maxRecDepth 100000 in
theorem tX7_lays {l : Launch} (hfl : l.stackTraces = false) (V : Wd) (l0 : Nat) (l1 : Nat) (G : Mem) {r : Unit} {G' : Mem} (h : fX7_lays l0 l1 G = some (r, G')) : Mx l yX7_lays cX7_lays 3 none 12 359 V [.ref (V.B + l0), .ref (V.sa l1)] G (.inl none) G' :=
  mx_of (L := [(0, .ref (V.B + l0)), (1, .ref (V.sa l1))]) hfl (by decide +kernel) (Nat.le_of_ble_eq_true rfl) rfl (fun X hl hV hin ok he => by
    subst hl; subst hV
    exact J.sub [0, 1] rfl (jX7_lays_0 ok l0 l1 G h he))
def fX7_init_0 (l0 : Nat)  (G : Mem) : Option (Unit × Mem) :=
  (nA G 1 (109 : Int32)).bind fun q1 =>
  (pR q1.2 17 l0 0 q1.1).bind fun G2 =>
  (nA G2 1 (872 : Int32)).bind fun q3 =>
  (pR q3.2 17 l0 1 q3.1).bind fun G4 =>
  (nA G4 1 (218 : Int32)).bind fun q5 =>
  (pR q5.2 17 l0 2 q5.1).bind fun G6 =>
  (nA G6 1 (109 : Int32)).bind fun q7 =>
  (pR q7.2 17 l0 3 q7.1).bind fun G8 =>
  (nA G8 3 (2 : Int32)).bind fun q9 =>
  (pR q9.2 17 l0 4 q9.1).bind fun G10 =>
  (nA G10 1 (600 : Int32)).bind fun q11 =>
  (pR q11.2 17 l0 7 q11.1).bind fun G12 =>
  (nA G12 1 (60 : Int32)).bind fun q13 =>
  (pR q13.2 17 l0 8 q13.1).bind fun G14 =>
  (pI G14 17 l0 12 (-1 : Int32)).bind fun G15 =>
  (nA G15 1 (15840 : Int32)).bind fun q16 =>
  (pR q16.2 17 l0 13 q16.1).bind fun G17 =>
  (nA G17 1 (11 : Int32)).bind fun q18 =>
  (pR q18.2 17 l0 14 q18.1).bind fun G19 =>
  (nA G19 1 (16000 : Int32)).bind fun q20 =>
  (pR q20.2 17 l0 15 q20.1).bind fun G21 =>
  (nA G21 1 (10 : Int32)).bind fun q22 =>
  (pR q22.2 17 l0 16 q22.1).bind fun G23 =>
  (nA G23 1 (36 : Int32)).bind fun q24 =>
  (pR q24.2 17 l0 17 q24.1).bind fun G25 =>
  (nA G25 5 (440 : Int32)).bind fun q26 =>
  (pR q26.2 17 l0 18 q26.1).bind fun G27 =>
  (nA G27 5 (440 : Int32)).bind fun q28 =>
  (pR q28.2 17 l0 19 q28.1).bind fun G29 =>
  (nA G29 3 (1296 : Int32)).bind fun q30 =>
  (pR q30.2 17 l0 20 q30.1).bind fun G31 =>
  ck G31 17 l0 <| (fX7_lays l0 37 G31).bind fun q32 =>
  some ((), q32.2)

set_option maxRecDepth 100000 in
set_option maxHeartbeats 4000000 in
theorem jX7_init_0 {X : Cx} (ok : OK X cX7_init RX7 none 1 13 381) (hin : X.meth.name = "<init>") (l0 : Nat)  (G : Mem) {r : Unit} {G' : Mem} (h : fX7_init_0 l0 G = some (r, G')) (hK : (finV X) r G') : J X 1 0 [(0, .ref (X.B + l0))] [] G := by
  unfold fX7_init_0 at h
  refine j_aload_n ok dX7_init_0 rfl 0 rfl ?_
  refine k_objI ok wm_X7_3 (Nat.le_of_ble_eq_true rfl) (Nat.le_of_ble_eq_true rfl) (Nat.le_of_ble_eq_true rfl) dX7_init_1 ?_
  refine j_aload_n ok dX7_init_4 rfl 0 rfl ?_
  refine j_bipush (v := 109) ok dX7_init_5 (by decide) ?_
  obtain ⟨q1, hq1, h⟩ := obind h
  refine k_newaT ok (t := 1) (Or.inl ⟨rfl, rfl⟩) wa_1 hq1 dX7_init_7 ?_
  obtain ⟨G2, hG2, h⟩ := obind h
  refine k_putR ok fl_X7_9 fp_X7 rfl (Or.inr ⟨_, rfl⟩) (Or.inr ⟨rfl, hin, rfl⟩) hG2 dX7_init_9 ?_
  refine j_aload_n ok dX7_init_12 rfl 0 rfl ?_
  refine j_sipush (v := 872) ok dX7_init_13 (by decide) ?_
  obtain ⟨q3, hq3, h⟩ := obind h
  refine k_newaT ok (t := 1) (Or.inl ⟨rfl, rfl⟩) wa_1 hq3 dX7_init_16 ?_
  obtain ⟨G4, hG4, h⟩ := obind h
  refine k_putR ok fl_X7_13 fp_X7 rfl (Or.inr ⟨_, rfl⟩) (Or.inr ⟨rfl, hin, rfl⟩) hG4 dX7_init_18 ?_
  refine j_aload_n ok dX7_init_21 rfl 0 rfl ?_
  refine j_sipush (v := 218) ok dX7_init_22 (by decide) ?_
  obtain ⟨q5, hq5, h⟩ := obind h
  refine k_newaT ok (t := 1) (Or.inl ⟨rfl, rfl⟩) wa_1 hq5 dX7_init_25 ?_
  obtain ⟨G6, hG6, h⟩ := obind h
  refine k_putR ok fl_X7_16 fp_X7 rfl (Or.inr ⟨_, rfl⟩) (Or.inr ⟨rfl, hin, rfl⟩) hG6 dX7_init_27 ?_
  refine j_aload_n ok dX7_init_30 rfl 0 rfl ?_
  refine j_bipush (v := 109) ok dX7_init_31 (by decide) ?_
  obtain ⟨q7, hq7, h⟩ := obind h
  refine k_newaT ok (t := 1) (Or.inl ⟨rfl, rfl⟩) wa_1 hq7 dX7_init_33 ?_
  obtain ⟨G8, hG8, h⟩ := obind h
  refine k_putR ok fl_X7_19 fp_X7 rfl (Or.inr ⟨_, rfl⟩) (Or.inr ⟨rfl, hin, rfl⟩) hG8 dX7_init_35 ?_
  refine j_aload_n ok dX7_init_38 rfl 0 rfl ?_
  refine j_iconst (v := 2) ok dX7_init_39 (by decide) ?_
  obtain ⟨q9, hq9, h⟩ := obind h
  refine k_newaT ok (t := 3) (Or.inr (Or.inr (Or.inl ⟨rfl, rfl⟩))) wa_3 hq9 dX7_init_40 ?_
  obtain ⟨G10, hG10, h⟩ := obind h
  refine k_putR ok fl_X7_22 fp_X7 rfl (Or.inr ⟨_, rfl⟩) (Or.inr ⟨rfl, hin, rfl⟩) hG10 dX7_init_42 ?_
  refine j_aload_n ok dX7_init_45 rfl 0 rfl ?_
  refine j_sipush (v := 600) ok dX7_init_46 (by decide) ?_
  obtain ⟨q11, hq11, h⟩ := obind h
  refine k_newaT ok (t := 1) (Or.inl ⟨rfl, rfl⟩) wa_1 hq11 dX7_init_49 ?_
  obtain ⟨G12, hG12, h⟩ := obind h
  refine k_putR ok fl_X7_26 fp_X7 rfl (Or.inr ⟨_, rfl⟩) (Or.inr ⟨rfl, hin, rfl⟩) hG12 dX7_init_51 ?_
  refine j_aload_n ok dX7_init_54 rfl 0 rfl ?_
  refine j_bipush (v := 60) ok dX7_init_55 (by decide) ?_
  obtain ⟨q13, hq13, h⟩ := obind h
  refine k_newaT ok (t := 1) (Or.inl ⟨rfl, rfl⟩) wa_1 hq13 dX7_init_57 ?_
  obtain ⟨G14, hG14, h⟩ := obind h
  refine k_putR ok fl_X7_29 fp_X7 rfl (Or.inr ⟨_, rfl⟩) (Or.inr ⟨rfl, hin, rfl⟩) hG14 dX7_init_59 ?_
  refine j_aload_n ok dX7_init_62 rfl 0 rfl ?_
  refine j_iconst (v := -1) ok dX7_init_63 (by decide) ?_
  obtain ⟨G15, hG15, h⟩ := obind h
  refine k_putI ok fl_X7_32 fp_X7 rfl (Or.inl rfl) hG15 dX7_init_64 ?_
  refine j_aload_n ok dX7_init_67 rfl 0 rfl ?_
  refine j_sipush (v := 15840) ok dX7_init_68 (by decide) ?_
  obtain ⟨q16, hq16, h⟩ := obind h
  refine k_newaT ok (t := 1) (Or.inl ⟨rfl, rfl⟩) wa_1 hq16 dX7_init_71 ?_
  obtain ⟨G17, hG17, h⟩ := obind h
  refine k_putR ok fl_X7_36 fp_X7 rfl (Or.inr ⟨_, rfl⟩) (Or.inr ⟨rfl, hin, rfl⟩) hG17 dX7_init_73 ?_
  refine j_aload_n ok dX7_init_76 rfl 0 rfl ?_
  refine j_bipush (v := 11) ok dX7_init_77 (by decide) ?_
  obtain ⟨q18, hq18, h⟩ := obind h
  refine k_newaT ok (t := 1) (Or.inl ⟨rfl, rfl⟩) wa_1 hq18 dX7_init_79 ?_
  obtain ⟨G19, hG19, h⟩ := obind h
  refine k_putR ok fl_X7_39 fp_X7 rfl (Or.inr ⟨_, rfl⟩) (Or.inr ⟨rfl, hin, rfl⟩) hG19 dX7_init_81 ?_
  refine j_aload_n ok dX7_init_84 rfl 0 rfl ?_
  refine j_sipush (v := 16000) ok dX7_init_85 (by decide) ?_
  obtain ⟨q20, hq20, h⟩ := obind h
  refine k_newaT ok (t := 1) (Or.inl ⟨rfl, rfl⟩) wa_1 hq20 dX7_init_88 ?_
  obtain ⟨G21, hG21, h⟩ := obind h
  refine k_putR ok fl_X7_42 fp_X7 rfl (Or.inr ⟨_, rfl⟩) (Or.inr ⟨rfl, hin, rfl⟩) hG21 dX7_init_90 ?_
  refine j_aload_n ok dX7_init_93 rfl 0 rfl ?_
  refine j_bipush (v := 10) ok dX7_init_94 (by decide) ?_
  obtain ⟨q22, hq22, h⟩ := obind h
  refine k_newaT ok (t := 1) (Or.inl ⟨rfl, rfl⟩) wa_1 hq22 dX7_init_96 ?_
  obtain ⟨G23, hG23, h⟩ := obind h
  refine k_putR ok fl_X7_45 fp_X7 rfl (Or.inr ⟨_, rfl⟩) (Or.inr ⟨rfl, hin, rfl⟩) hG23 dX7_init_98 ?_
  refine j_aload_n ok dX7_init_101 rfl 0 rfl ?_
  refine j_bipush (v := 36) ok dX7_init_102 (by decide) ?_
  obtain ⟨q24, hq24, h⟩ := obind h
  refine k_newaT ok (t := 1) (Or.inl ⟨rfl, rfl⟩) wa_1 hq24 dX7_init_104 ?_
  obtain ⟨G25, hG25, h⟩ := obind h
  refine k_putR ok fl_X7_48 fp_X7 rfl (Or.inr ⟨_, rfl⟩) (Or.inr ⟨rfl, hin, rfl⟩) hG25 dX7_init_106 ?_
  refine j_aload_n ok dX7_init_109 rfl 0 rfl ?_
  refine j_sipush (v := 440) ok dX7_init_110 (by decide) ?_
  obtain ⟨q26, hq26, h⟩ := obind h
  refine k_newaT ok (t := 5) (Or.inr (Or.inr (Or.inr ⟨rfl, rfl⟩))) wa_5 hq26 dX7_init_113 ?_
  obtain ⟨G27, hG27, h⟩ := obind h
  refine k_putR ok fl_X7_51 fp_X7 rfl (Or.inr ⟨_, rfl⟩) (Or.inr ⟨rfl, hin, rfl⟩) hG27 dX7_init_115 ?_
  refine j_aload_n ok dX7_init_118 rfl 0 rfl ?_
  refine j_sipush (v := 440) ok dX7_init_119 (by decide) ?_
  obtain ⟨q28, hq28, h⟩ := obind h
  refine k_newaT ok (t := 5) (Or.inr (Or.inr (Or.inr ⟨rfl, rfl⟩))) wa_5 hq28 dX7_init_122 ?_
  obtain ⟨G29, hG29, h⟩ := obind h
  refine k_putR ok fl_X7_55 fp_X7 rfl (Or.inr ⟨_, rfl⟩) (Or.inr ⟨rfl, hin, rfl⟩) hG29 dX7_init_124 ?_
  refine j_aload_n ok dX7_init_127 rfl 0 rfl ?_
  refine j_sipush (v := 1296) ok dX7_init_128 (by decide) ?_
  obtain ⟨q30, hq30, h⟩ := obind h
  refine k_newaT ok (t := 3) (Or.inr (Or.inr (Or.inl ⟨rfl, rfl⟩))) wa_3 hq30 dX7_init_131 ?_
  obtain ⟨G31, hG31, h⟩ := obind h
  refine k_putR ok fl_X7_58 fp_X7 rfl (Or.inr ⟨_, rfl⟩) (Or.inr ⟨rfl, hin, rfl⟩) hG31 dX7_init_133 ?_
  refine j_aload_n ok dX7_init_136 rfl 0 rfl ?_
  refine k_str ok st_X7_61 dX7_init_137 ?_
  obtain ⟨kq32, h⟩ := ck_some h
  obtain ⟨q32, hq32, h⟩ := obind h
  refine k_V0 ok kl_X7_63 ⟨Nat.le_of_ble_eq_true rfl, Nat.le_of_ble_eq_true rfl⟩ [.ref (X.V.sa 37)] kq32 rfl rfl (Nat.le_of_ble_eq_true rfl) (tX7_lays ok.fl X.V l0 37 G31 hq32) dX7_init_139 ?_
  obtain ⟨er, eG⟩ := inj2 h
  subst er; subst eG
  exact j_vret ok rfl dX7_init_142 hK

def fX7_init (l0 : Nat) (G : Mem) : Option (Unit × Mem) := fX7_init_0 l0 G
set_option maxRecDepth 100000 in
theorem tX7_init {l : Launch} (hfl : l.stackTraces = false) (V : Wd) (l0 : Nat) (G : Mem) {r : Unit} {G' : Mem} (h : fX7_init l0 G = some (r, G')) : Mx l yX7_init cX7_init 1 none 13 381 V [.ref (V.B + l0)] G (.inl none) G' :=
  mx_of (L := [(0, .ref (V.B + l0))]) hfl (by decide +kernel) (Nat.le_of_ble_eq_true rfl) rfl (fun X hl hV hin ok he => by
    subst hl; subst hV
    exact J.sub [0] rfl (jX7_init_0 ok (hin rfl) l0 G h he))
def fX7_isAttacked_38 (l0 : Nat) (l1 : Int32) (l2 : Int32) (l3 : Int32) (l4 : Int32) (s0 : Nat) (s1 : Int32) (s2 : Int32) (G : Mem) : Option (Int32 × Mem) :=
  ck G 17 s0 <| (fX7_fails s0 s1 s2 (0 : Int32) G).bind fun q1 =>
  if q1.1 = (0 : Int32) then
    (gR q1.2 17 l0 13).bind fun v3 =>
    (gR q1.2 17 l0 0).bind fun v4 =>
    (gA q1.2 1 v4 (2 : Int32)).bind fun v5 =>
    (fX7_position v5 l1 q1.2).bind fun q6 =>
    ck q6.2 17 l0 <| (fX7_square l0 l2 l3 q6.2).bind fun q7 =>
    ck q7.2 17 l0 <| (fX7_attacks l0 v3 q6.1 l4 q7.1 q7.2).bind fun q8 =>
    rz q8.1 <|
    some (q8.1, q8.2)
  else
    some ((0 : Int32), q1.2)

set_option maxRecDepth 100000 in
set_option maxHeartbeats 4000000 in
theorem jX7_isAttacked_38 {X : Cx} (ok : OK X cX7_isAttacked RX7 (some .boolean) 5 4 172) (l0 : Nat) (l1 : Int32) (l2 : Int32) (l3 : Int32) (l4 : Int32) (s0 : Nat) (s1 : Int32) (s2 : Int32) (G : Mem) {r : Int32} {G' : Mem} (h : fX7_isAttacked_38 l0 l1 l2 l3 l4 s0 s1 s2 G = some (r, G')) (hK : (finI X) r G') : J X 5 38 [(0, .ref (X.B + l0)), (1, .int l1), (2, .int l2), (3, .int l3), (4, .int l4)] [.int s2, .int s1, .ref (X.B + s0)] G := by
  unfold fX7_isAttacked_38 at h
  refine j_iconst (v := 0) ok dX7_isAttacked_38 (by decide) ?_
  obtain ⟨kq1, h⟩ := ck_some h
  obtain ⟨q1, hq1, h⟩ := obind h
  refine k_V1 ok kl_X7_186 ⟨Nat.le_of_ble_eq_true rfl, Nat.le_of_ble_eq_true rfl⟩ [.int s1, .int s2, .int (0 : Int32)] kq1 rfl rfl (Nat.le_of_ble_eq_true rfl) (tX7_fails ok.fl X.V s0 s1 s2 (0 : Int32) G hq1) dX7_isAttacked_39 ?_
  rcases ite_some h with ⟨c2, h⟩ | ⟨c2, h⟩
  · refine j_if_eq (tgt := 47) ok dX7_isAttacked_42 (by decide) (fun _ => ?_) (fun z => absurd c2 z)
    refine j_aload_n ok dX7_isAttacked_47 rfl 0 rfl ?_
    refine j_aload_n ok dX7_isAttacked_48 rfl 0 rfl ?_
    obtain ⟨v3, hv3, h⟩ := obind h
    refine k_getR ok fl_X7_36 hv3 dX7_isAttacked_49 ?_
    refine j_aload_n ok dX7_isAttacked_52 rfl 0 rfl ?_
    obtain ⟨v4, hv4, h⟩ := obind h
    refine k_getR ok fl_X7_9 hv4 dX7_isAttacked_53 ?_
    refine j_iconst (v := 2) ok dX7_isAttacked_56 (by decide) ?_
    obtain ⟨v5, hv5, h⟩ := obind h
    refine j_iald ok hv5 dX7_isAttacked_57 ?_
    refine j_iload_n ok dX7_isAttacked_58 rfl 1 rfl ?_
    obtain ⟨q6, hq6, h⟩ := obind h
    refine k_S1 ok kl_X7_134 ⟨Nat.le_of_ble_eq_true rfl, Nat.le_of_ble_eq_true rfl⟩ [.int v5, .int l1] rfl rfl (Nat.le_of_ble_eq_true rfl) (tX7_position ok.fl X.V v5 l1 q1.2 hq6) dX7_isAttacked_59 ?_
    refine j_iload ok dX7_isAttacked_62 4 rfl ?_
    refine j_aload_n ok dX7_isAttacked_64 rfl 0 rfl ?_
    refine j_iload_n ok dX7_isAttacked_65 rfl 2 rfl ?_
    refine j_iload_n ok dX7_isAttacked_66 rfl 3 rfl ?_
    obtain ⟨kq7, h⟩ := ck_some h
    obtain ⟨q7, hq7, h⟩ := obind h
    refine k_V1 ok kl_X7_349 ⟨Nat.le_of_ble_eq_true rfl, Nat.le_of_ble_eq_true rfl⟩ [.int l2, .int l3] kq7 rfl rfl (Nat.le_of_ble_eq_true rfl) (tX7_square ok.fl X.V l0 l2 l3 q6.2 hq7) dX7_isAttacked_67 ?_
    obtain ⟨kq8, h⟩ := ck_some h
    obtain ⟨q8, hq8, h⟩ := obind h
    refine k_V1 ok kl_X7_141 ⟨Nat.le_of_ble_eq_true rfl, Nat.le_of_ble_eq_true rfl⟩ [.ref (X.B + v3), .int q6.1, .int l4, .int q7.1] kq8 rfl rfl (Nat.le_of_ble_eq_true rfl) (tX7_attacks ok.fl X.V l0 v3 q6.1 l4 q7.1 q7.2 hq8) dX7_isAttacked_70 ?_
    obtain ⟨hz9, h⟩ := rz_some h
    obtain ⟨er, eG⟩ := inj2 h
    subst er; subst eG
    exact j_zret ok rfl hz9 dX7_isAttacked_73 hK
  · refine j_if_eq (tgt := 47) ok dX7_isAttacked_42 (by decide) (fun z => absurd z c2) (fun _ => ?_)
    refine j_iconst (v := 0) ok dX7_isAttacked_45 (by decide) ?_
    obtain ⟨er, eG⟩ := inj2 h
    subst er; subst eG
    exact j_zret ok rfl (Or.inl rfl) dX7_isAttacked_46 hK

def fX7_isAttacked_23 (l0 : Nat) (l1 : Int32) (l2 : Int32) (l3 : Int32) (l4 : Int32) (s0 : Nat) (s1 : Int32) (G : Mem) : Option (Int32 × Mem) :=
  (fX7_isIn l4 (0 : Int32) (1 : Int32) G).bind fun q1 =>
  if q1.1 = (0 : Int32) then
    fX7_isAttacked_38 l0 l1 l2 l3 l4 s0 s1 (1 : Int32) q1.2
  else
    fX7_isAttacked_38 l0 l1 l2 l3 l4 s0 s1 (0 : Int32) q1.2

set_option maxRecDepth 100000 in
set_option maxHeartbeats 4000000 in
theorem jX7_isAttacked_23 {X : Cx} (ok : OK X cX7_isAttacked RX7 (some .boolean) 5 4 172) (l0 : Nat) (l1 : Int32) (l2 : Int32) (l3 : Int32) (l4 : Int32) (s0 : Nat) (s1 : Int32) (G : Mem) {r : Int32} {G' : Mem} (h : fX7_isAttacked_23 l0 l1 l2 l3 l4 s0 s1 G = some (r, G')) (hK : (finI X) r G') : J X 5 23 [(0, .ref (X.B + l0)), (1, .int l1), (2, .int l2), (3, .int l3), (4, .int l4)] [.int s1, .ref (X.B + s0)] G := by
  unfold fX7_isAttacked_23 at h
  refine j_iload ok dX7_isAttacked_23 4 rfl ?_
  refine j_iconst (v := 0) ok dX7_isAttacked_25 (by decide) ?_
  refine j_iconst (v := 1) ok dX7_isAttacked_26 (by decide) ?_
  obtain ⟨q1, hq1, h⟩ := obind h
  refine k_S1 ok kl_X7_182 ⟨Nat.le_of_ble_eq_true rfl, Nat.le_of_ble_eq_true rfl⟩ [.int l4, .int (0 : Int32), .int (1 : Int32)] rfl rfl (Nat.le_of_ble_eq_true rfl) (tX7_isIn ok.fl X.V l4 (0 : Int32) (1 : Int32) G hq1) dX7_isAttacked_27 ?_
  rcases ite_some h with ⟨c2, h⟩ | ⟨c2, h⟩
  · refine j_if_ne (tgt := 37) ok dX7_isAttacked_30 (by decide) (fun z => absurd c2 z) (fun _ => ?_)
    refine j_iconst (v := 1) ok dX7_isAttacked_33 (by decide) ?_
    refine j_goto (tgt := 38) ok dX7_isAttacked_34 (by decide) ?_
    exact J.sub [0, 1, 2, 3, 4] rfl (jX7_isAttacked_38 ok l0 l1 l2 l3 l4 s0 s1 (1 : Int32) q1.2 h hK)
  · refine j_if_ne (tgt := 37) ok dX7_isAttacked_30 (by decide) (fun _ => ?_) (fun z => absurd z c2)
    refine j_iconst (v := 0) ok dX7_isAttacked_37 (by decide) ?_
    exact J.sub [0, 1, 2, 3, 4] rfl (jX7_isAttacked_38 ok l0 l1 l2 l3 l4 s0 s1 (0 : Int32) q1.2 h hK)

def fX7_isAttacked_18 (l0 : Nat) (l1 : Int32) (l2 : Int32) (l3 : Int32) (l4 : Int32) (s0 : Nat) (G : Mem) : Option (Int32 × Mem) :=
  fX7_isAttacked_23 l0 l1 l2 l3 l4 s0 (1 : Int32) G

set_option maxRecDepth 100000 in
set_option maxHeartbeats 4000000 in
theorem jX7_isAttacked_18 {X : Cx} (ok : OK X cX7_isAttacked RX7 (some .boolean) 5 4 172) (l0 : Nat) (l1 : Int32) (l2 : Int32) (l3 : Int32) (l4 : Int32) (s0 : Nat) (G : Mem) {r : Int32} {G' : Mem} (h : fX7_isAttacked_18 l0 l1 l2 l3 l4 s0 G = some (r, G')) (hK : (finI X) r G') : J X 5 18 [(0, .ref (X.B + l0)), (1, .int l1), (2, .int l2), (3, .int l3), (4, .int l4)] [.ref (X.B + s0)] G := by
  unfold fX7_isAttacked_18 at h
  refine j_iconst (v := 1) ok dX7_isAttacked_18 (by decide) ?_
  refine j_goto (tgt := 23) ok dX7_isAttacked_19 (by decide) ?_
  exact J.sub [0, 1, 2, 3, 4] rfl (jX7_isAttacked_23 ok l0 l1 l2 l3 l4 s0 (1 : Int32) G h hK)

def fX7_isAttacked_0 (l0 : Nat) (l1 : Int32) (l2 : Int32) (l3 : Int32) (l4 : Int32)  (G : Mem) : Option (Int32 × Mem) :=
  ck G 17 l0 <| (fX7_noPosition l0 l1 G).bind fun q1 =>
  if q1.1 = (0 : Int32) then
    ck q1.2 17 l0 <| (fX7_noSquare l0 l2 l3 q1.2).bind fun q3 =>
    if q3.1 = (0 : Int32) then
      fX7_isAttacked_23 l0 l1 l2 l3 l4 l0 (0 : Int32) q3.2
    else
      fX7_isAttacked_18 l0 l1 l2 l3 l4 l0 q3.2
  else
    fX7_isAttacked_18 l0 l1 l2 l3 l4 l0 q1.2

set_option maxRecDepth 100000 in
set_option maxHeartbeats 4000000 in
theorem jX7_isAttacked_0 {X : Cx} (ok : OK X cX7_isAttacked RX7 (some .boolean) 5 4 172) (l0 : Nat) (l1 : Int32) (l2 : Int32) (l3 : Int32) (l4 : Int32)  (G : Mem) {r : Int32} {G' : Mem} (h : fX7_isAttacked_0 l0 l1 l2 l3 l4 G = some (r, G')) (hK : (finI X) r G') : J X 5 0 [(0, .ref (X.B + l0)), (1, .int l1), (2, .int l2), (3, .int l3), (4, .int l4)] [] G := by
  unfold fX7_isAttacked_0 at h
  refine j_aload_n ok dX7_isAttacked_0 rfl 0 rfl ?_
  refine j_aload_n ok dX7_isAttacked_1 rfl 0 rfl ?_
  refine j_iload_n ok dX7_isAttacked_2 rfl 1 rfl ?_
  obtain ⟨kq1, h⟩ := ck_some h
  obtain ⟨q1, hq1, h⟩ := obind h
  refine k_V1 ok kl_X7_343 ⟨Nat.le_of_ble_eq_true rfl, Nat.le_of_ble_eq_true rfl⟩ [.int l1] kq1 rfl rfl (Nat.le_of_ble_eq_true rfl) (tX7_noPosition ok.fl X.V l0 l1 G hq1) dX7_isAttacked_3 ?_
  rcases ite_some h with ⟨c2, h⟩ | ⟨c2, h⟩
  · refine j_if_ne (tgt := 18) ok dX7_isAttacked_6 (by decide) (fun z => absurd c2 z) (fun _ => ?_)
    refine j_aload_n ok dX7_isAttacked_9 rfl 0 rfl ?_
    refine j_iload_n ok dX7_isAttacked_10 rfl 2 rfl ?_
    refine j_iload_n ok dX7_isAttacked_11 rfl 3 rfl ?_
    obtain ⟨kq3, h⟩ := ck_some h
    obtain ⟨q3, hq3, h⟩ := obind h
    refine k_V1 ok kl_X7_346 ⟨Nat.le_of_ble_eq_true rfl, Nat.le_of_ble_eq_true rfl⟩ [.int l2, .int l3] kq3 rfl rfl (Nat.le_of_ble_eq_true rfl) (tX7_noSquare ok.fl X.V l0 l2 l3 q1.2 hq3) dX7_isAttacked_12 ?_
    rcases ite_some h with ⟨c4, h⟩ | ⟨c4, h⟩
    · refine j_if_eq (tgt := 22) ok dX7_isAttacked_15 (by decide) (fun _ => ?_) (fun z => absurd c4 z)
      refine j_iconst (v := 0) ok dX7_isAttacked_22 (by decide) ?_
      exact J.sub [0, 1, 2, 3, 4] rfl (jX7_isAttacked_23 ok l0 l1 l2 l3 l4 l0 (0 : Int32) q3.2 h hK)
    · refine j_if_eq (tgt := 22) ok dX7_isAttacked_15 (by decide) (fun z => absurd z c4) (fun _ => ?_)
      exact J.sub [0, 1, 2, 3, 4] rfl (jX7_isAttacked_18 ok l0 l1 l2 l3 l4 l0 q3.2 h hK)
  · refine j_if_ne (tgt := 18) ok dX7_isAttacked_6 (by decide) (fun _ => ?_) (fun z => absurd z c2)
    exact J.sub [0, 1, 2, 3, 4] rfl (jX7_isAttacked_18 ok l0 l1 l2 l3 l4 l0 q1.2 h hK)

def fX7_isAttacked (l0 : Nat) (l1 : Int32) (l2 : Int32) (l3 : Int32) (l4 : Int32) (G : Mem) : Option (Int32 × Mem) := fX7_isAttacked_0 l0 l1 l2 l3 l4 G
set_option maxRecDepth 100000 in
theorem tX7_isAttacked {l : Launch} (hfl : l.stackTraces = false) (V : Wd) (l0 : Nat) (l1 : Int32) (l2 : Int32) (l3 : Int32) (l4 : Int32) (G : Mem) {r : Int32} {G' : Mem} (h : fX7_isAttacked l0 l1 l2 l3 l4 G = some (r, G')) : Mx l yX7_isAttacked cX7_isAttacked 5 (some .boolean) 4 172 V [.ref (V.B + l0), .int l1, .int l2, .int l3, .int l4] G (.inl (some (.int r))) G' :=
  mx_of (L := [(0, .ref (V.B + l0)), (1, .int l1), (2, .int l2), (3, .int l3), (4, .int l4)]) hfl (by decide +kernel) (Nat.le_of_ble_eq_true rfl) rfl (fun X hl hV hin ok he => by
    subst hl; subst hV
    exact J.sub [0, 1, 2, 3, 4] rfl (jX7_isAttacked_0 ok l0 l1 l2 l3 l4 G h he))
def fX7_isCertain_19  (s0 : Int32) (G : Mem) : Option (Int32 × Mem) :=
  rz s0 <|
  some (s0, G)

set_option maxRecDepth 100000 in
set_option maxHeartbeats 4000000 in
theorem jX7_isCertain_19 {X : Cx} (ok : OK X cX7_isCertain RX7 (some .boolean) 1 1 23)  (s0 : Int32) (G : Mem) {r : Int32} {G' : Mem} (h : fX7_isCertain_19 s0 G = some (r, G')) (hK : (finI X) r G') : J X 1 19 [] [.int s0] G := by
  unfold fX7_isCertain_19 at h
  obtain ⟨hz1, h⟩ := rz_some h
  obtain ⟨er, eG⟩ := inj2 h
  subst er; subst eG
  exact j_zret ok rfl hz1 dX7_isCertain_19 hK

def fX7_isCertain_0 (l0 : Nat)  (G : Mem) : Option (Int32 × Mem) :=
  (pI G 17 l0 6 (0 : Int32)).bind fun G1 =>
  ck G1 17 l0 <| (fX7_games l0 G1).bind fun q2 =>
  if (lg_cmp q2.1 (1 : Int64)) = (0 : Int32) then
    fX7_isCertain_19 (1 : Int32) q2.2
  else
    fX7_isCertain_19 (0 : Int32) q2.2

set_option maxRecDepth 100000 in
set_option maxHeartbeats 4000000 in
theorem jX7_isCertain_0 {X : Cx} (ok : OK X cX7_isCertain RX7 (some .boolean) 1 1 23) (l0 : Nat)  (G : Mem) {r : Int32} {G' : Mem} (h : fX7_isCertain_0 l0 G = some (r, G')) (hK : (finI X) r G') : J X 1 0 [(0, .ref (X.B + l0))] [] G := by
  unfold fX7_isCertain_0 at h
  refine j_aload_n ok dX7_isCertain_0 rfl 0 rfl ?_
  refine j_iconst (v := 0) ok dX7_isCertain_1 (by decide) ?_
  obtain ⟨G1, hG1, h⟩ := obind h
  refine k_putI ok fl_X7_86 fp_X7 rfl (Or.inl rfl) hG1 dX7_isCertain_2 ?_
  refine j_aload_n ok dX7_isCertain_5 rfl 0 rfl ?_
  obtain ⟨kq2, h⟩ := ck_some h
  obtain ⟨q2, hq2, h⟩ := obind h
  refine k_V1 ok kl_X7_361 ⟨Nat.le_of_ble_eq_true rfl, Nat.le_of_ble_eq_true rfl⟩ [] kq2 rfl rfl (Nat.le_of_ble_eq_true rfl) (tX7_games ok.fl X.V l0 G1 hq2) dX7_isCertain_6 ?_
  refine j_lconst (v := 1) ok dX7_isCertain_9 (by decide) ?_
  refine j_lcmp ok dX7_isCertain_10 ?_
  rcases ite_some h with ⟨c3, h⟩ | ⟨c3, h⟩
  · refine j_if_ne (tgt := 18) ok dX7_isCertain_11 (by decide) (fun z => absurd c3 z) (fun _ => ?_)
    refine j_iconst (v := 1) ok dX7_isCertain_14 (by decide) ?_
    refine j_goto (tgt := 19) ok dX7_isCertain_15 (by decide) ?_
    exact J.sub [] rfl (jX7_isCertain_19 ok (1 : Int32) q2.2 h hK)
  · refine j_if_ne (tgt := 18) ok dX7_isCertain_11 (by decide) (fun _ => ?_) (fun z => absurd z c3)
    refine j_iconst (v := 0) ok dX7_isCertain_18 (by decide) ?_
    exact J.sub [] rfl (jX7_isCertain_19 ok (0 : Int32) q2.2 h hK)

def fX7_isCertain (l0 : Nat) (G : Mem) : Option (Int32 × Mem) := fX7_isCertain_0 l0 G
set_option maxRecDepth 100000 in
theorem tX7_isCertain {l : Launch} (hfl : l.stackTraces = false) (V : Wd) (l0 : Nat) (G : Mem) {r : Int32} {G' : Mem} (h : fX7_isCertain l0 G = some (r, G')) : Mx l yX7_isCertain cX7_isCertain 1 (some .boolean) 1 23 V [.ref (V.B + l0)] G (.inl (some (.int r))) G' :=
  mx_of (L := [(0, .ref (V.B + l0))]) hfl (by decide +kernel) (Nat.le_of_ble_eq_true rfl) rfl (fun X hl hV hin ok he => by
    subst hl; subst hV
    exact J.sub [0] rfl (jX7_isCertain_0 ok l0 G h he))
def fX7_kindAt_60  (s0 : Int32) (G : Mem) : Option (Int32 × Mem) :=
  some (s0, G)

set_option maxRecDepth 100000 in
set_option maxHeartbeats 4000000 in
theorem jX7_kindAt_60 {X : Cx} (ok : OK X cX7_kindAt RX7 (some .int) 5 2 44)  (s0 : Int32) (G : Mem) {r : Int32} {G' : Mem} (h : fX7_kindAt_60 s0 G = some (r, G')) (hK : (finI X) r G') : J X 5 60 [] [.int s0] G := by
  unfold fX7_kindAt_60 at h
  obtain ⟨er, eG⟩ := inj2 h
  subst er; subst eG
  exact j_iret ok rfl dX7_kindAt_60 hK

def fX7_kindAt_23 (l0 : Nat) (l1 : Int32) (l2 : Int32) (l3 : Int32) (s0 : Nat) (s1 : Int32) (G : Mem) : Option (Int32 × Mem) :=
  ck G 17 s0 <| (fX7_fails s0 s1 (0 : Int32) (0 : Int32) G).bind fun q1 =>
  if q1.1 = (0 : Int32) then
    ck q1.2 17 l0 <| (fX7_square l0 l2 l3 q1.2).bind fun q3 =>
    ck q3.2 17 l0 <| (fX7_last l0 l1 q3.1 q3.2).bind fun q4 =>
    if q4.1 = (0 : Int32) then
      fX7_kindAt_60 (-1 : Int32) q4.2
    else
      (fX7_kindOf q4.1 q4.2).bind fun q6 =>
      fX7_kindAt_60 q6.1 q6.2
  else
    some ((0 : Int32), q1.2)

set_option maxRecDepth 100000 in
set_option maxHeartbeats 4000000 in
theorem jX7_kindAt_23 {X : Cx} (ok : OK X cX7_kindAt RX7 (some .int) 5 2 44) (l0 : Nat) (l1 : Int32) (l2 : Int32) (l3 : Int32) (s0 : Nat) (s1 : Int32) (G : Mem) {r : Int32} {G' : Mem} (h : fX7_kindAt_23 l0 l1 l2 l3 s0 s1 G = some (r, G')) (hK : (finI X) r G') : J X 5 23 [(0, .ref (X.B + l0)), (1, .int l1), (2, .int l2), (3, .int l3)] [.int s1, .ref (X.B + s0)] G := by
  unfold fX7_kindAt_23 at h
  refine j_iconst (v := 0) ok dX7_kindAt_23 (by decide) ?_
  refine j_iconst (v := 0) ok dX7_kindAt_24 (by decide) ?_
  obtain ⟨kq1, h⟩ := ck_some h
  obtain ⟨q1, hq1, h⟩ := obind h
  refine k_V1 ok kl_X7_186 ⟨Nat.le_of_ble_eq_true rfl, Nat.le_of_ble_eq_true rfl⟩ [.int s1, .int (0 : Int32), .int (0 : Int32)] kq1 rfl rfl (Nat.le_of_ble_eq_true rfl) (tX7_fails ok.fl X.V s0 s1 (0 : Int32) (0 : Int32) G hq1) dX7_kindAt_25 ?_
  rcases ite_some h with ⟨c2, h⟩ | ⟨c2, h⟩
  · refine j_if_eq (tgt := 33) ok dX7_kindAt_28 (by decide) (fun _ => ?_) (fun z => absurd c2 z)
    refine j_aload_n ok dX7_kindAt_33 rfl 0 rfl ?_
    refine j_iload_n ok dX7_kindAt_34 rfl 1 rfl ?_
    refine j_aload_n ok dX7_kindAt_35 rfl 0 rfl ?_
    refine j_iload_n ok dX7_kindAt_36 rfl 2 rfl ?_
    refine j_iload_n ok dX7_kindAt_37 rfl 3 rfl ?_
    obtain ⟨kq3, h⟩ := ck_some h
    obtain ⟨q3, hq3, h⟩ := obind h
    refine k_V1 ok kl_X7_349 ⟨Nat.le_of_ble_eq_true rfl, Nat.le_of_ble_eq_true rfl⟩ [.int l2, .int l3] kq3 rfl rfl (Nat.le_of_ble_eq_true rfl) (tX7_square ok.fl X.V l0 l2 l3 q1.2 hq3) dX7_kindAt_38 ?_
    obtain ⟨kq4, h⟩ := ck_some h
    obtain ⟨q4, hq4, h⟩ := obind h
    refine k_V1 ok kl_X7_352 ⟨Nat.le_of_ble_eq_true rfl, Nat.le_of_ble_eq_true rfl⟩ [.int l1, .int q3.1] kq4 rfl rfl (Nat.le_of_ble_eq_true rfl) (tX7_last ok.fl X.V l0 l1 q3.1 q3.2 hq4) dX7_kindAt_41 ?_
    refine j_istore (L' := [(4, .int q4.1), (0, .ref (X.B + l0)), (1, .int l1), (2, .int l2), (3, .int l3)]) ok dX7_kindAt_44 (by decide) rfl ?_
    refine j_iload ok dX7_kindAt_46 0 rfl ?_
    rcases ite_some h with ⟨c5, h⟩ | ⟨c5, h⟩
    · refine j_if_ne (tgt := 55) ok dX7_kindAt_48 (by decide) (fun z => absurd c5 z) (fun _ => ?_)
      refine j_iconst (v := -1) ok dX7_kindAt_51 (by decide) ?_
      refine j_goto (tgt := 60) ok dX7_kindAt_52 (by decide) ?_
      exact J.sub [] rfl (jX7_kindAt_60 ok (-1 : Int32) q4.2 h hK)
    · refine j_if_ne (tgt := 55) ok dX7_kindAt_48 (by decide) (fun _ => ?_) (fun z => absurd z c5)
      refine j_iload ok dX7_kindAt_55 0 rfl ?_
      obtain ⟨q6, hq6, h⟩ := obind h
      refine k_S1 ok kl_X7_113 ⟨Nat.le_of_ble_eq_true rfl, Nat.le_of_ble_eq_true rfl⟩ [.int q4.1] rfl rfl (Nat.le_of_ble_eq_true rfl) (tX7_kindOf ok.fl X.V q4.1 q4.2 hq6) dX7_kindAt_57 ?_
      exact J.sub [] rfl (jX7_kindAt_60 ok q6.1 q6.2 h hK)
  · refine j_if_eq (tgt := 33) ok dX7_kindAt_28 (by decide) (fun z => absurd z c2) (fun _ => ?_)
    refine j_iconst (v := 0) ok dX7_kindAt_31 (by decide) ?_
    obtain ⟨er, eG⟩ := inj2 h
    subst er; subst eG
    exact j_iret ok rfl dX7_kindAt_32 hK

def fX7_kindAt_18 (l0 : Nat) (l1 : Int32) (l2 : Int32) (l3 : Int32) (s0 : Nat) (G : Mem) : Option (Int32 × Mem) :=
  fX7_kindAt_23 l0 l1 l2 l3 s0 (1 : Int32) G

set_option maxRecDepth 100000 in
set_option maxHeartbeats 4000000 in
theorem jX7_kindAt_18 {X : Cx} (ok : OK X cX7_kindAt RX7 (some .int) 5 2 44) (l0 : Nat) (l1 : Int32) (l2 : Int32) (l3 : Int32) (s0 : Nat) (G : Mem) {r : Int32} {G' : Mem} (h : fX7_kindAt_18 l0 l1 l2 l3 s0 G = some (r, G')) (hK : (finI X) r G') : J X 5 18 [(0, .ref (X.B + l0)), (1, .int l1), (2, .int l2), (3, .int l3)] [.ref (X.B + s0)] G := by
  unfold fX7_kindAt_18 at h
  refine j_iconst (v := 1) ok dX7_kindAt_18 (by decide) ?_
  refine j_goto (tgt := 23) ok dX7_kindAt_19 (by decide) ?_
  exact J.sub [0, 1, 2, 3] rfl (jX7_kindAt_23 ok l0 l1 l2 l3 s0 (1 : Int32) G h hK)

def fX7_kindAt_0 (l0 : Nat) (l1 : Int32) (l2 : Int32) (l3 : Int32)  (G : Mem) : Option (Int32 × Mem) :=
  ck G 17 l0 <| (fX7_noPosition l0 l1 G).bind fun q1 =>
  if q1.1 = (0 : Int32) then
    ck q1.2 17 l0 <| (fX7_noSquare l0 l2 l3 q1.2).bind fun q3 =>
    if q3.1 = (0 : Int32) then
      fX7_kindAt_23 l0 l1 l2 l3 l0 (0 : Int32) q3.2
    else
      fX7_kindAt_18 l0 l1 l2 l3 l0 q3.2
  else
    fX7_kindAt_18 l0 l1 l2 l3 l0 q1.2

set_option maxRecDepth 100000 in
set_option maxHeartbeats 4000000 in
theorem jX7_kindAt_0 {X : Cx} (ok : OK X cX7_kindAt RX7 (some .int) 5 2 44) (l0 : Nat) (l1 : Int32) (l2 : Int32) (l3 : Int32)  (G : Mem) {r : Int32} {G' : Mem} (h : fX7_kindAt_0 l0 l1 l2 l3 G = some (r, G')) (hK : (finI X) r G') : J X 5 0 [(0, .ref (X.B + l0)), (1, .int l1), (2, .int l2), (3, .int l3)] [] G := by
  unfold fX7_kindAt_0 at h
  refine j_aload_n ok dX7_kindAt_0 rfl 0 rfl ?_
  refine j_aload_n ok dX7_kindAt_1 rfl 0 rfl ?_
  refine j_iload_n ok dX7_kindAt_2 rfl 1 rfl ?_
  obtain ⟨kq1, h⟩ := ck_some h
  obtain ⟨q1, hq1, h⟩ := obind h
  refine k_V1 ok kl_X7_343 ⟨Nat.le_of_ble_eq_true rfl, Nat.le_of_ble_eq_true rfl⟩ [.int l1] kq1 rfl rfl (Nat.le_of_ble_eq_true rfl) (tX7_noPosition ok.fl X.V l0 l1 G hq1) dX7_kindAt_3 ?_
  rcases ite_some h with ⟨c2, h⟩ | ⟨c2, h⟩
  · refine j_if_ne (tgt := 18) ok dX7_kindAt_6 (by decide) (fun z => absurd c2 z) (fun _ => ?_)
    refine j_aload_n ok dX7_kindAt_9 rfl 0 rfl ?_
    refine j_iload_n ok dX7_kindAt_10 rfl 2 rfl ?_
    refine j_iload_n ok dX7_kindAt_11 rfl 3 rfl ?_
    obtain ⟨kq3, h⟩ := ck_some h
    obtain ⟨q3, hq3, h⟩ := obind h
    refine k_V1 ok kl_X7_346 ⟨Nat.le_of_ble_eq_true rfl, Nat.le_of_ble_eq_true rfl⟩ [.int l2, .int l3] kq3 rfl rfl (Nat.le_of_ble_eq_true rfl) (tX7_noSquare ok.fl X.V l0 l2 l3 q1.2 hq3) dX7_kindAt_12 ?_
    rcases ite_some h with ⟨c4, h⟩ | ⟨c4, h⟩
    · refine j_if_eq (tgt := 22) ok dX7_kindAt_15 (by decide) (fun _ => ?_) (fun z => absurd c4 z)
      refine j_iconst (v := 0) ok dX7_kindAt_22 (by decide) ?_
      exact J.sub [0, 1, 2, 3] rfl (jX7_kindAt_23 ok l0 l1 l2 l3 l0 (0 : Int32) q3.2 h hK)
    · refine j_if_eq (tgt := 22) ok dX7_kindAt_15 (by decide) (fun z => absurd z c4) (fun _ => ?_)
      exact J.sub [0, 1, 2, 3] rfl (jX7_kindAt_18 ok l0 l1 l2 l3 l0 q3.2 h hK)
  · refine j_if_ne (tgt := 18) ok dX7_kindAt_6 (by decide) (fun _ => ?_) (fun z => absurd z c2)
    exact J.sub [0, 1, 2, 3] rfl (jX7_kindAt_18 ok l0 l1 l2 l3 l0 q1.2 h hK)

def fX7_kindAt (l0 : Nat) (l1 : Int32) (l2 : Int32) (l3 : Int32) (G : Mem) : Option (Int32 × Mem) := fX7_kindAt_0 l0 l1 l2 l3 G
set_option maxRecDepth 100000 in
theorem tX7_kindAt {l : Launch} (hfl : l.stackTraces = false) (V : Wd) (l0 : Nat) (l1 : Int32) (l2 : Int32) (l3 : Int32) (G : Mem) {r : Int32} {G' : Mem} (h : fX7_kindAt l0 l1 l2 l3 G = some (r, G')) : Mx l yX7_kindAt cX7_kindAt 5 (some .int) 2 44 V [.ref (V.B + l0), .int l1, .int l2, .int l3] G (.inl (some (.int r))) G' :=
  mx_of (L := [(0, .ref (V.B + l0)), (1, .int l1), (2, .int l2), (3, .int l3)]) hfl (by decide +kernel) (Nat.le_of_ble_eq_true rfl) rfl (fun X hl hV hin ok he => by
    subst hl; subst hV
    exact J.sub [0, 1, 2, 3] rfl (jX7_kindAt_0 ok l0 l1 l2 l3 G h he))
def fX7_legalMoves_76 (l2 : Int32)  (G : Mem) : Option (Int32 × Mem) :=
  some (l2, G)

set_option maxRecDepth 100000 in
set_option maxHeartbeats 4000000 in
theorem jX7_legalMoves_76 {X : Cx} (ok : OK X cX7_legalMoves RX7 (some .int) 4 5 199) (l2 : Int32)  (G : Mem) {r : Int32} {G' : Mem} (h : fX7_legalMoves_76 l2 G = some (r, G')) (hK : (finI X) r G') : J X 4 76 [(2, .int l2)] [] G := by
  unfold fX7_legalMoves_76 at h
  refine j_iload_n ok dX7_legalMoves_76 rfl 0 rfl ?_
  obtain ⟨er, eG⟩ := inj2 h
  subst er; subst eG
  exact j_iret ok rfl dX7_legalMoves_77 hK

def fX7_legalMoves_70 (l0 : Nat) (l1 : Int32) (l2 : Int32) (l3 : Int32)  (G : Mem) : Option (((Int32 × Int32) ⊕ Int32) × Mem) :=
  some (.inl (l2, (l3 + (1 : Int32))), G)

set_option maxRecDepth 100000 in
set_option maxHeartbeats 4000000 in
theorem jX7_legalMoves_70 {X : Cx} (ok : OK X cX7_legalMoves RX7 (some .int) 4 5 199) (l0 : Nat) (l1 : Int32) (l2 : Int32) (l3 : Int32)  (G : Mem) {r : ((Int32 × Int32) ⊕ Int32)} {G' : Mem} (h : fX7_legalMoves_70 l0 l1 l2 l3 G = some (r, G')) (hK : (finL X 4 20 (fun s : Int32 × Int32 => [(0, .ref (X.B + l0)), (1, .int l1), (2, .int s.1), (3, .int s.2)]) (finI X)) r G') : J X 4 70 [(0, .ref (X.B + l0)), (1, .int l1), (2, .int l2), (3, .int l3)] [] G := by
  unfold fX7_legalMoves_70 at h
  refine j_iinc (L' := [(3, .int (l3 + (1 : Int32))), (0, .ref (X.B + l0)), (1, .int l1), (2, .int l2)]) (v := (l3 + (1 : Int32))) ok dX7_legalMoves_70 (q := 3) rfl rfl (by decide) rfl ?_
  refine j_goto (tgt := 20) ok dX7_legalMoves_73 (by decide) ?_
  obtain ⟨er, eG⟩ := inj2 h
  subst er; subst eG
  have hJ : J X 4 20 [(0, .ref (X.B + l0)), (1, .int l1), (2, .int l2), (3, .int (l3 + (1 : Int32)))] [] G := hK
  exact J.sub [1, 2, 3, 0] rfl hJ

def fX7_legalMoves_20 (l0 : Nat) (l1 : Int32) (l2 : Int32) (l3 : Int32)  (G : Mem) : Option (((Int32 × Int32) ⊕ Int32) × Mem) :=
  ck G 17 l0 <| (fX7_squareMany l0 G).bind fun q1 =>
  ck q1.2 17 l0 <| (fX7_squareMany l0 q1.2).bind fun q2 =>
  if (q1.1 * q2.1) ≤ l3 then
    liftE (fX7_legalMoves_76 l2 q2.2)
  else
    (gR q2.2 17 l0 0).bind fun v4 =>
    (gA q2.2 1 v4 (2 : Int32)).bind fun v5 =>
    ck q2.2 17 l0 <| (fX7_squareMany l0 q2.2).bind fun q6 =>
    dz q6.1 <|
    ck q6.2 17 l0 <| (fX7_squareMany l0 q6.2).bind fun q8 =>
    dz q8.1 <|
    (gR q8.2 17 l0 0).bind fun v10 =>
    (gA q8.2 1 v10 (2 : Int32)).bind fun v11 =>
    ck q8.2 17 l0 <| (fX7_moves l0 v5 l1 (l3 / q6.1) (l3 - l3 / q8.1 * q8.1) (v11 - v11 / (2 : Int32) * (2 : Int32)) q8.2).bind fun q12 =>
    if q12.1 = (0 : Int32) then
      fX7_legalMoves_70 l0 l1 l2 l3 q12.2
    else
      fX7_legalMoves_70 l0 l1 (l2 + (1 : Int32)) l3 q12.2

set_option maxRecDepth 100000 in
set_option maxHeartbeats 4000000 in
theorem jX7_legalMoves_20 {X : Cx} (ok : OK X cX7_legalMoves RX7 (some .int) 4 5 199) (l0 : Nat) (l1 : Int32) (l2 : Int32) (l3 : Int32)  (G : Mem) {r : ((Int32 × Int32) ⊕ Int32)} {G' : Mem} (h : fX7_legalMoves_20 l0 l1 l2 l3 G = some (r, G')) (hK : (finL X 4 20 (fun s : Int32 × Int32 => [(0, .ref (X.B + l0)), (1, .int l1), (2, .int s.1), (3, .int s.2)]) (finI X)) r G') : J X 4 20 [(0, .ref (X.B + l0)), (1, .int l1), (2, .int l2), (3, .int l3)] [] G := by
  unfold fX7_legalMoves_20 at h
  refine j_iload_n ok dX7_legalMoves_20 rfl 3 rfl ?_
  refine j_aload_n ok dX7_legalMoves_21 rfl 0 rfl ?_
  obtain ⟨kq1, h⟩ := ck_some h
  obtain ⟨q1, hq1, h⟩ := obind h
  refine k_V1 ok kl_X7_120 ⟨Nat.le_of_ble_eq_true rfl, Nat.le_of_ble_eq_true rfl⟩ [] kq1 rfl rfl (Nat.le_of_ble_eq_true rfl) (tX7_squareMany ok.fl X.V l0 G hq1) dX7_legalMoves_22 ?_
  refine j_aload_n ok dX7_legalMoves_25 rfl 0 rfl ?_
  obtain ⟨kq2, h⟩ := ck_some h
  obtain ⟨q2, hq2, h⟩ := obind h
  refine k_V1 ok kl_X7_120 ⟨Nat.le_of_ble_eq_true rfl, Nat.le_of_ble_eq_true rfl⟩ [] kq2 rfl rfl (Nat.le_of_ble_eq_true rfl) (tX7_squareMany ok.fl X.V l0 q1.2 hq2) dX7_legalMoves_26 ?_
  refine j_imul ok dX7_legalMoves_29 ?_
  rcases ite_some h with ⟨c3, h⟩ | ⟨c3, h⟩
  · refine j_icmp_ge (tgt := 76) ok dX7_legalMoves_30 (by decide) (fun _ => ?_) (fun z => absurd c3 z)
    obtain ⟨r1, e1, h1⟩ := lift_some h
    subst e1
    exact J.sub [2] rfl (jX7_legalMoves_76 ok l2 q2.2 h1 hK)
  · refine j_icmp_ge (tgt := 76) ok dX7_legalMoves_30 (by decide) (fun z => absurd z c3) (fun _ => ?_)
    refine j_aload_n ok dX7_legalMoves_33 rfl 0 rfl ?_
    refine j_aload_n ok dX7_legalMoves_34 rfl 0 rfl ?_
    obtain ⟨v4, hv4, h⟩ := obind h
    refine k_getR ok fl_X7_9 hv4 dX7_legalMoves_35 ?_
    refine j_iconst (v := 2) ok dX7_legalMoves_38 (by decide) ?_
    obtain ⟨v5, hv5, h⟩ := obind h
    refine j_iald ok hv5 dX7_legalMoves_39 ?_
    refine j_iload_n ok dX7_legalMoves_40 rfl 1 rfl ?_
    refine j_iload_n ok dX7_legalMoves_41 rfl 3 rfl ?_
    refine j_aload_n ok dX7_legalMoves_42 rfl 0 rfl ?_
    obtain ⟨kq6, h⟩ := ck_some h
    obtain ⟨q6, hq6, h⟩ := obind h
    refine k_V1 ok kl_X7_120 ⟨Nat.le_of_ble_eq_true rfl, Nat.le_of_ble_eq_true rfl⟩ [] kq6 rfl rfl (Nat.le_of_ble_eq_true rfl) (tX7_squareMany ok.fl X.V l0 q2.2 hq6) dX7_legalMoves_43 ?_
    obtain ⟨hz6, h⟩ := dz_some h
    refine j_idiv ok dX7_legalMoves_46 hz6 ?_
    refine j_iload_n ok dX7_legalMoves_47 rfl 3 rfl ?_
    refine j_aload_n ok dX7_legalMoves_48 rfl 0 rfl ?_
    obtain ⟨kq8, h⟩ := ck_some h
    obtain ⟨q8, hq8, h⟩ := obind h
    refine k_V1 ok kl_X7_120 ⟨Nat.le_of_ble_eq_true rfl, Nat.le_of_ble_eq_true rfl⟩ [] kq8 rfl rfl (Nat.le_of_ble_eq_true rfl) (tX7_squareMany ok.fl X.V l0 q6.2 hq8) dX7_legalMoves_49 ?_
    obtain ⟨hz8, h⟩ := dz_some h
    refine j_irem ok dX7_legalMoves_52 hz8 ?_
    refine j_aload_n ok dX7_legalMoves_53 rfl 0 rfl ?_
    obtain ⟨v10, hv10, h⟩ := obind h
    refine k_getR ok fl_X7_9 hv10 dX7_legalMoves_54 ?_
    refine j_iconst (v := 2) ok dX7_legalMoves_57 (by decide) ?_
    obtain ⟨v11, hv11, h⟩ := obind h
    refine j_iald ok hv11 dX7_legalMoves_58 ?_
    refine j_iconst (v := 2) ok dX7_legalMoves_59 (by decide) ?_
    refine j_irem ok dX7_legalMoves_60 (by decide) ?_
    obtain ⟨kq12, h⟩ := ck_some h
    obtain ⟨q12, hq12, h⟩ := obind h
    refine k_V1 ok kl_X7_150 ⟨Nat.le_of_ble_eq_true rfl, Nat.le_of_ble_eq_true rfl⟩ [.int v5, .int l1, .int (l3 / q6.1), .int (l3 - l3 / q8.1 * q8.1), .int (v11 - v11 / (2 : Int32) * (2 : Int32))] kq12 rfl rfl (Nat.le_of_ble_eq_true rfl) (tX7_moves ok.fl X.V l0 v5 l1 (l3 / q6.1) (l3 - l3 / q8.1 * q8.1) (v11 - v11 / (2 : Int32) * (2 : Int32)) q8.2 hq12) dX7_legalMoves_61 ?_
    rcases ite_some h with ⟨c13, h⟩ | ⟨c13, h⟩
    · refine j_if_eq (tgt := 70) ok dX7_legalMoves_64 (by decide) (fun _ => ?_) (fun z => absurd c13 z)
      exact J.sub [0, 1, 2, 3] rfl (jX7_legalMoves_70 ok l0 l1 l2 l3 q12.2 h hK)
    · refine j_if_eq (tgt := 70) ok dX7_legalMoves_64 (by decide) (fun z => absurd z c13) (fun _ => ?_)
      refine j_iinc (L' := [(2, .int (l2 + (1 : Int32))), (0, .ref (X.B + l0)), (1, .int l1), (3, .int l3)]) (v := (l2 + (1 : Int32))) ok dX7_legalMoves_67 (q := 2) rfl rfl (by decide) rfl ?_
      exact J.sub [1, 2, 0, 3] rfl (jX7_legalMoves_70 ok l0 l1 (l2 + (1 : Int32)) l3 q12.2 h hK)

def fX7_legalMoves_0 (l0 : Nat) (l1 : Int32)  (G : Mem) : Option (Int32 × Mem) :=
  ck G 17 l0 <| (fX7_noPosition l0 l1 G).bind fun q1 =>
  ck q1.2 17 l0 <| (fX7_fails l0 q1.1 (0 : Int32) (0 : Int32) q1.2).bind fun q2 =>
  if q2.1 = (0 : Int32) then
    loopM (fun (s : Int32 × Int32) G => fX7_legalMoves_20 l0 l1 s.1 s.2 G) FU ((0 : Int32), (0 : Int32)) q2.2
  else
    some ((0 : Int32), q2.2)

set_option maxRecDepth 100000 in
set_option maxHeartbeats 4000000 in
theorem jX7_legalMoves_0 {X : Cx} (ok : OK X cX7_legalMoves RX7 (some .int) 4 5 199) (l0 : Nat) (l1 : Int32)  (G : Mem) {r : Int32} {G' : Mem} (h : fX7_legalMoves_0 l0 l1 G = some (r, G')) (hK : (finI X) r G') : J X 4 0 [(0, .ref (X.B + l0)), (1, .int l1)] [] G := by
  unfold fX7_legalMoves_0 at h
  refine j_aload_n ok dX7_legalMoves_0 rfl 0 rfl ?_
  refine j_aload_n ok dX7_legalMoves_1 rfl 0 rfl ?_
  refine j_iload_n ok dX7_legalMoves_2 rfl 1 rfl ?_
  obtain ⟨kq1, h⟩ := ck_some h
  obtain ⟨q1, hq1, h⟩ := obind h
  refine k_V1 ok kl_X7_343 ⟨Nat.le_of_ble_eq_true rfl, Nat.le_of_ble_eq_true rfl⟩ [.int l1] kq1 rfl rfl (Nat.le_of_ble_eq_true rfl) (tX7_noPosition ok.fl X.V l0 l1 G hq1) dX7_legalMoves_3 ?_
  refine j_iconst (v := 0) ok dX7_legalMoves_6 (by decide) ?_
  refine j_iconst (v := 0) ok dX7_legalMoves_7 (by decide) ?_
  obtain ⟨kq2, h⟩ := ck_some h
  obtain ⟨q2, hq2, h⟩ := obind h
  refine k_V1 ok kl_X7_186 ⟨Nat.le_of_ble_eq_true rfl, Nat.le_of_ble_eq_true rfl⟩ [.int q1.1, .int (0 : Int32), .int (0 : Int32)] kq2 rfl rfl (Nat.le_of_ble_eq_true rfl) (tX7_fails ok.fl X.V l0 q1.1 (0 : Int32) (0 : Int32) q1.2 hq2) dX7_legalMoves_8 ?_
  rcases ite_some h with ⟨c3, h⟩ | ⟨c3, h⟩
  · refine j_if_eq (tgt := 16) ok dX7_legalMoves_11 (by decide) (fun _ => ?_) (fun z => absurd c3 z)
    refine j_iconst (v := 0) ok dX7_legalMoves_16 (by decide) ?_
    refine j_istore_n (L' := [(2, .int (0 : Int32)), (0, .ref (X.B + l0)), (1, .int l1)]) ok dX7_legalMoves_17 rfl (by decide) rfl ?_
    refine j_iconst (v := 0) ok dX7_legalMoves_18 (by decide) ?_
    refine j_istore_n (L' := [(3, .int (0 : Int32)), (2, .int (0 : Int32)), (0, .ref (X.B + l0)), (1, .int l1)]) ok dX7_legalMoves_19 rfl (by decide) rfl ?_
    have hJ : J X 4 20 [(0, .ref (X.B + l0)), (1, .int l1), (2, .int (0 : Int32)), (3, .int (0 : Int32))] [] q2.2 := j_loop (loc := fun s : Int32 × Int32 => [(0, .ref (X.B + l0)), (1, .int l1), (2, .int s.1), (3, .int s.2)]) (F := (finI X)) (fun s G r G' hb hk => jX7_legalMoves_20 ok l0 l1 s.1 s.2 G hb hk) _ _ _ _ _ h hK
    exact J.sub [2, 3, 1, 0] rfl hJ
  · refine j_if_eq (tgt := 16) ok dX7_legalMoves_11 (by decide) (fun z => absurd z c3) (fun _ => ?_)
    refine j_iconst (v := 0) ok dX7_legalMoves_14 (by decide) ?_
    obtain ⟨er, eG⟩ := inj2 h
    subst er; subst eG
    exact j_iret ok rfl dX7_legalMoves_15 hK

def fX7_legalMoves (l0 : Nat) (l1 : Int32) (G : Mem) : Option (Int32 × Mem) := fX7_legalMoves_0 l0 l1 G
set_option maxRecDepth 100000 in
theorem tX7_legalMoves {l : Launch} (hfl : l.stackTraces = false) (V : Wd) (l0 : Nat) (l1 : Int32) (G : Mem) {r : Int32} {G' : Mem} (h : fX7_legalMoves l0 l1 G = some (r, G')) : Mx l yX7_legalMoves cX7_legalMoves 4 (some .int) 5 199 V [.ref (V.B + l0), .int l1] G (.inl (some (.int r))) G' :=
  mx_of (L := [(0, .ref (V.B + l0)), (1, .int l1)]) hfl (by decide +kernel) (Nat.le_of_ble_eq_true rfl) rfl (fun X hl hV hin ok he => by
    subst hl; subst hV
    exact J.sub [0, 1] rfl (jX7_legalMoves_0 ok l0 l1 G h he))
def fX7_letter_69  (s0 : Int32) (G : Mem) : Option (Int32 × Mem) :=
  some (s0, G)

set_option maxRecDepth 100000 in
set_option maxHeartbeats 4000000 in
theorem jX7_letter_69 {X : Cx} (ok : OK X cX7_letter RX7 (some .int) 3 1 20)  (s0 : Int32) (G : Mem) {r : Int32} {G' : Mem} (h : fX7_letter_69 s0 G = some (r, G')) (hK : (finI X) r G') : J X 3 69 [] [.int s0] G := by
  unfold fX7_letter_69 at h
  obtain ⟨er, eG⟩ := inj2 h
  subst er; subst eG
  exact j_iret ok rfl dX7_letter_69 hK

def fX7_letter_53 (l0 : Int32) (s0 : Int32) (G : Mem) : Option (Int32 × Mem) :=
  (fX7_colourOf l0 G).bind fun q1 =>
  if q1.1 = (0 : Int32) then
    fX7_letter_69 s0 q1.2
  else
    fX7_letter_69 (s0 + (32 : Int32)) q1.2

set_option maxRecDepth 100000 in
set_option maxHeartbeats 4000000 in
theorem jX7_letter_53 {X : Cx} (ok : OK X cX7_letter RX7 (some .int) 3 1 20) (l0 : Int32) (s0 : Int32) (G : Mem) {r : Int32} {G' : Mem} (h : fX7_letter_53 l0 s0 G = some (r, G')) (hK : (finI X) r G') : J X 3 53 [(0, .int l0)] [.int s0] G := by
  unfold fX7_letter_53 at h
  refine j_istore_n (L' := [(2, .int s0), (0, .int l0)]) ok dX7_letter_53 rfl (by decide) rfl ?_
  refine j_iload_n ok dX7_letter_54 rfl 1 rfl ?_
  obtain ⟨q1, hq1, h⟩ := obind h
  refine k_S1 ok kl_X7_99 ⟨Nat.le_of_ble_eq_true rfl, Nat.le_of_ble_eq_true rfl⟩ [.int l0] rfl rfl (Nat.le_of_ble_eq_true rfl) (tX7_colourOf ok.fl X.V l0 G hq1) dX7_letter_55 ?_
  rcases ite_some h with ⟨c2, h⟩ | ⟨c2, h⟩
  · refine j_if_ne (tgt := 65) ok dX7_letter_58 (by decide) (fun z => absurd c2 z) (fun _ => ?_)
    refine j_iload_n ok dX7_letter_61 rfl 0 rfl ?_
    refine j_goto (tgt := 69) ok dX7_letter_62 (by decide) ?_
    exact J.sub [] rfl (jX7_letter_69 ok s0 q1.2 h hK)
  · refine j_if_ne (tgt := 65) ok dX7_letter_58 (by decide) (fun _ => ?_) (fun z => absurd z c2)
    refine j_iload_n ok dX7_letter_65 rfl 0 rfl ?_
    refine j_bipush (v := 32) ok dX7_letter_66 (by decide) ?_
    refine j_iadd ok dX7_letter_68 ?_
    exact J.sub [] rfl (jX7_letter_69 ok (s0 + (32 : Int32)) q1.2 h hK)

def fX7_letter_0 (l0 : Int32)  (G : Mem) : Option (Int32 × Mem) :=
  if l0 = (0 : Int32) then
    some ((46 : Int32), G)
  else
    (fX7_kindOf l0 G).bind fun q2 =>
    if q2.1 = (0 : Int32) then
      fX7_letter_53 l0 (75 : Int32) q2.2
    else
      if q2.1 = (1 : Int32) then
        fX7_letter_53 l0 (81 : Int32) q2.2
      else
        if q2.1 = (2 : Int32) then
          fX7_letter_53 l0 (82 : Int32) q2.2
        else
          if q2.1 = (3 : Int32) then
            fX7_letter_53 l0 (66 : Int32) q2.2
          else
            fX7_letter_53 l0 (78 : Int32) q2.2

set_option maxRecDepth 100000 in
set_option maxHeartbeats 4000000 in
theorem jX7_letter_0 {X : Cx} (ok : OK X cX7_letter RX7 (some .int) 3 1 20) (l0 : Int32)  (G : Mem) {r : Int32} {G' : Mem} (h : fX7_letter_0 l0 G = some (r, G')) (hK : (finI X) r G') : J X 3 0 [(0, .int l0)] [] G := by
  unfold fX7_letter_0 at h
  refine j_iload_n ok dX7_letter_0 rfl 0 rfl ?_
  rcases ite_some h with ⟨c1, h⟩ | ⟨c1, h⟩
  · refine j_if_ne (tgt := 7) ok dX7_letter_1 (by decide) (fun z => absurd c1 z) (fun _ => ?_)
    refine j_bipush (v := 46) ok dX7_letter_4 (by decide) ?_
    obtain ⟨er, eG⟩ := inj2 h
    subst er; subst eG
    exact j_iret ok rfl dX7_letter_6 hK
  · refine j_if_ne (tgt := 7) ok dX7_letter_1 (by decide) (fun _ => ?_) (fun z => absurd z c1)
    refine j_iload_n ok dX7_letter_7 rfl 0 rfl ?_
    obtain ⟨q2, hq2, h⟩ := obind h
    refine k_S1 ok kl_X7_113 ⟨Nat.le_of_ble_eq_true rfl, Nat.le_of_ble_eq_true rfl⟩ [.int l0] rfl rfl (Nat.le_of_ble_eq_true rfl) (tX7_kindOf ok.fl X.V l0 G hq2) dX7_letter_8 ?_
    refine j_istore_n (L' := [(1, .int q2.1), (0, .int l0)]) ok dX7_letter_11 rfl (by decide) rfl ?_
    refine j_iload_n ok dX7_letter_12 rfl 0 rfl ?_
    rcases ite_some h with ⟨c3, h⟩ | ⟨c3, h⟩
    · refine j_if_ne (tgt := 21) ok dX7_letter_13 (by decide) (fun z => absurd c3 z) (fun _ => ?_)
      refine j_bipush (v := 75) ok dX7_letter_16 (by decide) ?_
      refine j_goto (tgt := 53) ok dX7_letter_18 (by decide) ?_
      exact J.sub [1] rfl (jX7_letter_53 ok l0 (75 : Int32) q2.2 h hK)
    · refine j_if_ne (tgt := 21) ok dX7_letter_13 (by decide) (fun _ => ?_) (fun z => absurd z c3)
      refine j_iload_n ok dX7_letter_21 rfl 0 rfl ?_
      refine j_iconst (v := 1) ok dX7_letter_22 (by decide) ?_
      rcases ite_some h with ⟨c4, h⟩ | ⟨c4, h⟩
      · refine j_icmp_ne (tgt := 31) ok dX7_letter_23 (by decide) (fun z => absurd c4 z) (fun _ => ?_)
        refine j_bipush (v := 81) ok dX7_letter_26 (by decide) ?_
        refine j_goto (tgt := 53) ok dX7_letter_28 (by decide) ?_
        exact J.sub [1] rfl (jX7_letter_53 ok l0 (81 : Int32) q2.2 h hK)
      · refine j_icmp_ne (tgt := 31) ok dX7_letter_23 (by decide) (fun _ => ?_) (fun z => absurd z c4)
        refine j_iload_n ok dX7_letter_31 rfl 0 rfl ?_
        refine j_iconst (v := 2) ok dX7_letter_32 (by decide) ?_
        rcases ite_some h with ⟨c5, h⟩ | ⟨c5, h⟩
        · refine j_icmp_ne (tgt := 41) ok dX7_letter_33 (by decide) (fun z => absurd c5 z) (fun _ => ?_)
          refine j_bipush (v := 82) ok dX7_letter_36 (by decide) ?_
          refine j_goto (tgt := 53) ok dX7_letter_38 (by decide) ?_
          exact J.sub [1] rfl (jX7_letter_53 ok l0 (82 : Int32) q2.2 h hK)
        · refine j_icmp_ne (tgt := 41) ok dX7_letter_33 (by decide) (fun _ => ?_) (fun z => absurd z c5)
          refine j_iload_n ok dX7_letter_41 rfl 0 rfl ?_
          refine j_iconst (v := 3) ok dX7_letter_42 (by decide) ?_
          rcases ite_some h with ⟨c6, h⟩ | ⟨c6, h⟩
          · refine j_icmp_ne (tgt := 51) ok dX7_letter_43 (by decide) (fun z => absurd c6 z) (fun _ => ?_)
            refine j_bipush (v := 66) ok dX7_letter_46 (by decide) ?_
            refine j_goto (tgt := 53) ok dX7_letter_48 (by decide) ?_
            exact J.sub [1] rfl (jX7_letter_53 ok l0 (66 : Int32) q2.2 h hK)
          · refine j_icmp_ne (tgt := 51) ok dX7_letter_43 (by decide) (fun _ => ?_) (fun z => absurd z c6)
            refine j_bipush (v := 78) ok dX7_letter_51 (by decide) ?_
            exact J.sub [1] rfl (jX7_letter_53 ok l0 (78 : Int32) q2.2 h hK)

def fX7_letter (l0 : Int32) (G : Mem) : Option (Int32 × Mem) := fX7_letter_0 l0 G
set_option maxRecDepth 100000 in
theorem tX7_letter {l : Launch} (hfl : l.stackTraces = false) (V : Wd) (l0 : Int32) (G : Mem) {r : Int32} {G' : Mem} (h : fX7_letter l0 G = some (r, G')) : Mx l yX7_letter cX7_letter 3 (some .int) 1 20 V [.int l0] G (.inl (some (.int r))) G' :=
  mx_of (L := [(0, .int l0)]) hfl (by decide +kernel) (Nat.le_of_ble_eq_true rfl) rfl (fun X hl hV hin ok he => by
    subst hl; subst hV
    exact J.sub [0] rfl (jX7_letter_0 ok l0 G h he))
def fX7_meanGames_0 (l0 : Nat)  (G : Mem) : Option (UInt64 × Mem) :=
  (pI G 17 l0 6 (0 : Int32)).bind fun G1 =>
  ck G1 17 l0 <| (fX7_games l0 G1).bind fun q2 =>
  (gR q2.2 17 l0 14).bind fun v3 =>
  (gR q2.2 17 l0 0).bind fun v4 =>
  (gA q2.2 1 v4 (2 : Int32)).bind fun v5 =>
  (gA q2.2 1 v3 v5).bind fun v6 =>
  nk64 (FP.ddiv (FP.l2d q2.1) (FP.i2d v6)) <|
  some ((FP.ddiv (FP.l2d q2.1) (FP.i2d v6)), q2.2)

set_option maxRecDepth 100000 in
set_option maxHeartbeats 4000000 in
theorem jX7_meanGames_0 {X : Cx} (ok : OK X cX7_meanGames RX7 (some .double) 1 1 23) (l0 : Nat)  (G : Mem) {r : UInt64} {G' : Mem} (h : fX7_meanGames_0 l0 G = some (r, G')) (hK : (finD X) r G') : J X 1 0 [(0, .ref (X.B + l0))] [] G := by
  unfold fX7_meanGames_0 at h
  refine j_aload_n ok dX7_meanGames_0 rfl 0 rfl ?_
  refine j_iconst (v := 0) ok dX7_meanGames_1 (by decide) ?_
  obtain ⟨G1, hG1, h⟩ := obind h
  refine k_putI ok fl_X7_86 fp_X7 rfl (Or.inl rfl) hG1 dX7_meanGames_2 ?_
  refine j_aload_n ok dX7_meanGames_5 rfl 0 rfl ?_
  obtain ⟨kq2, h⟩ := ck_some h
  obtain ⟨q2, hq2, h⟩ := obind h
  refine k_V1 ok kl_X7_361 ⟨Nat.le_of_ble_eq_true rfl, Nat.le_of_ble_eq_true rfl⟩ [] kq2 rfl rfl (Nat.le_of_ble_eq_true rfl) (tX7_games ok.fl X.V l0 G1 hq2) dX7_meanGames_6 ?_
  refine j_l2d ok dX7_meanGames_9 ?_
  refine j_aload_n ok dX7_meanGames_10 rfl 0 rfl ?_
  obtain ⟨v3, hv3, h⟩ := obind h
  refine k_getR ok fl_X7_39 hv3 dX7_meanGames_11 ?_
  refine j_aload_n ok dX7_meanGames_14 rfl 0 rfl ?_
  obtain ⟨v4, hv4, h⟩ := obind h
  refine k_getR ok fl_X7_9 hv4 dX7_meanGames_15 ?_
  refine j_iconst (v := 2) ok dX7_meanGames_18 (by decide) ?_
  obtain ⟨v5, hv5, h⟩ := obind h
  refine j_iald ok hv5 dX7_meanGames_19 ?_
  obtain ⟨v6, hv6, h⟩ := obind h
  refine j_iald ok hv6 dX7_meanGames_20 ?_
  refine j_i2d ok dX7_meanGames_21 ?_
  obtain ⟨hz7, h⟩ := nk64_some h
  refine j_ddiv ok hz7 dX7_meanGames_22 ?_
  obtain ⟨er, eG⟩ := inj2 h
  subst er; subst eG
  exact j_dret ok rfl dX7_meanGames_23 hK

def fX7_meanGames (l0 : Nat) (G : Mem) : Option (UInt64 × Mem) := fX7_meanGames_0 l0 G
set_option maxRecDepth 100000 in
theorem tX7_meanGames {l : Launch} (hfl : l.stackTraces = false) (V : Wd) (l0 : Nat) (G : Mem) {r : UInt64} {G' : Mem} (h : fX7_meanGames l0 G = some (r, G')) : Mx l yX7_meanGames cX7_meanGames 1 (some .double) 1 23 V [.ref (V.B + l0)] G (.inl (some (.double r))) G' :=
  mx_of (L := [(0, .ref (V.B + l0))]) hfl (by decide +kernel) (Nat.le_of_ble_eq_true rfl) rfl (fun X hl hV hin ok he => by
    subst hl; subst hV
    exact J.sub [0] rfl (jX7_meanGames_0 ok l0 G h he))
def fX7_mostDoubtfulNote_48 (l1 : Int32)  (G : Mem) : Option (Int32 × Mem) :=
  some (l1, G)

set_option maxRecDepth 100000 in
set_option maxHeartbeats 4000000 in
theorem jX7_mostDoubtfulNote_48 {X : Cx} (ok : OK X cX7_mostDoubtfulNote RX7 (some .int) 5 3 67) (l1 : Int32)  (G : Mem) {r : Int32} {G' : Mem} (h : fX7_mostDoubtfulNote_48 l1 G = some (r, G')) (hK : (finI X) r G') : J X 5 48 [(1, .int l1)] [] G := by
  unfold fX7_mostDoubtfulNote_48 at h
  refine j_iload_n ok dX7_mostDoubtfulNote_48 rfl 0 rfl ?_
  obtain ⟨er, eG⟩ := inj2 h
  subst er; subst eG
  exact j_iret ok rfl dX7_mostDoubtfulNote_49 hK

def fX7_mostDoubtfulNote_42 (l0 : Nat) (l1 : Int32) (l2 : Int32) (l3 : Int32)  (G : Mem) : Option (((Int32 × Int32 × Int32) ⊕ Int32) × Mem) :=
  some (.inl (l1, l2, (l3 + (1 : Int32))), G)

set_option maxRecDepth 100000 in
set_option maxHeartbeats 4000000 in
theorem jX7_mostDoubtfulNote_42 {X : Cx} (ok : OK X cX7_mostDoubtfulNote RX7 (some .int) 5 3 67) (l0 : Nat) (l1 : Int32) (l2 : Int32) (l3 : Int32)  (G : Mem) {r : ((Int32 × Int32 × Int32) ⊕ Int32)} {G' : Mem} (h : fX7_mostDoubtfulNote_42 l0 l1 l2 l3 G = some (r, G')) (hK : (finL X 5 11 (fun s : Int32 × Int32 × Int32 => [(0, .ref (X.B + l0)), (1, .int s.1), (2, .int s.2.1), (3, .int s.2.2)]) (finI X)) r G') : J X 5 42 [(0, .ref (X.B + l0)), (1, .int l1), (2, .int l2), (3, .int l3)] [] G := by
  unfold fX7_mostDoubtfulNote_42 at h
  refine j_iinc (L' := [(3, .int (l3 + (1 : Int32))), (0, .ref (X.B + l0)), (1, .int l1), (2, .int l2)]) (v := (l3 + (1 : Int32))) ok dX7_mostDoubtfulNote_42 (q := 3) rfl rfl (by decide) rfl ?_
  refine j_goto (tgt := 11) ok dX7_mostDoubtfulNote_45 (by decide) ?_
  obtain ⟨er, eG⟩ := inj2 h
  subst er; subst eG
  have hJ : J X 5 11 [(0, .ref (X.B + l0)), (1, .int l1), (2, .int l2), (3, .int (l3 + (1 : Int32)))] [] G := hK
  exact J.sub [1, 2, 3, 0] rfl hJ

def fX7_mostDoubtfulNote_11 (l0 : Nat) (l1 : Int32) (l2 : Int32) (l3 : Int32)  (G : Mem) : Option (((Int32 × Int32 × Int32) ⊕ Int32) × Mem) :=
  (gR G 17 l0 0).bind fun v1 =>
  (gA G 1 v1 (2 : Int32)).bind fun v2 =>
  if v2 ≤ l3 then
    liftE (fX7_mostDoubtfulNote_48 l1 G)
  else
    ck G 17 l0 <| (fX7_marks l0 l3 G).bind fun q4 =>
    if l2 < q4.1 then
      fX7_mostDoubtfulNote_42 l0 l3 q4.1 l3 q4.2
    else
      fX7_mostDoubtfulNote_42 l0 l1 l2 l3 q4.2

set_option maxRecDepth 100000 in
set_option maxHeartbeats 4000000 in
theorem jX7_mostDoubtfulNote_11 {X : Cx} (ok : OK X cX7_mostDoubtfulNote RX7 (some .int) 5 3 67) (l0 : Nat) (l1 : Int32) (l2 : Int32) (l3 : Int32)  (G : Mem) {r : ((Int32 × Int32 × Int32) ⊕ Int32)} {G' : Mem} (h : fX7_mostDoubtfulNote_11 l0 l1 l2 l3 G = some (r, G')) (hK : (finL X 5 11 (fun s : Int32 × Int32 × Int32 => [(0, .ref (X.B + l0)), (1, .int s.1), (2, .int s.2.1), (3, .int s.2.2)]) (finI X)) r G') : J X 5 11 [(0, .ref (X.B + l0)), (1, .int l1), (2, .int l2), (3, .int l3)] [] G := by
  unfold fX7_mostDoubtfulNote_11 at h
  refine j_iload_n ok dX7_mostDoubtfulNote_11 rfl 3 rfl ?_
  refine j_aload_n ok dX7_mostDoubtfulNote_12 rfl 0 rfl ?_
  obtain ⟨v1, hv1, h⟩ := obind h
  refine k_getR ok fl_X7_9 hv1 dX7_mostDoubtfulNote_13 ?_
  refine j_iconst (v := 2) ok dX7_mostDoubtfulNote_16 (by decide) ?_
  obtain ⟨v2, hv2, h⟩ := obind h
  refine j_iald ok hv2 dX7_mostDoubtfulNote_17 ?_
  rcases ite_some h with ⟨c3, h⟩ | ⟨c3, h⟩
  · refine j_icmp_ge (tgt := 48) ok dX7_mostDoubtfulNote_18 (by decide) (fun _ => ?_) (fun z => absurd c3 z)
    obtain ⟨r1, e1, h1⟩ := lift_some h
    subst e1
    exact J.sub [1] rfl (jX7_mostDoubtfulNote_48 ok l1 G h1 hK)
  · refine j_icmp_ge (tgt := 48) ok dX7_mostDoubtfulNote_18 (by decide) (fun z => absurd z c3) (fun _ => ?_)
    refine j_aload_n ok dX7_mostDoubtfulNote_21 rfl 0 rfl ?_
    refine j_iload_n ok dX7_mostDoubtfulNote_22 rfl 3 rfl ?_
    obtain ⟨kq4, h⟩ := ck_some h
    obtain ⟨q4, hq4, h⟩ := obind h
    refine k_V1 ok kl_X7_375 ⟨Nat.le_of_ble_eq_true rfl, Nat.le_of_ble_eq_true rfl⟩ [.int l3] kq4 rfl rfl (Nat.le_of_ble_eq_true rfl) (tX7_marks ok.fl X.V l0 l3 G hq4) dX7_mostDoubtfulNote_23 ?_
    refine j_istore (L' := [(4, .int q4.1), (0, .ref (X.B + l0)), (1, .int l1), (2, .int l2), (3, .int l3)]) ok dX7_mostDoubtfulNote_26 (by decide) rfl ?_
    refine j_iload ok dX7_mostDoubtfulNote_28 0 rfl ?_
    refine j_iload_n ok dX7_mostDoubtfulNote_30 rfl 3 rfl ?_
    rcases ite_some h with ⟨c5, h⟩ | ⟨c5, h⟩
    · refine j_icmp_gt (tgt := 37) ok dX7_mostDoubtfulNote_31 (by decide) (fun _ => ?_) (fun z => absurd c5 z)
      refine j_iload_n ok dX7_mostDoubtfulNote_37 rfl 4 rfl ?_
      refine j_istore_n (L' := [(1, .int l3), (4, .int q4.1), (0, .ref (X.B + l0)), (2, .int l2), (3, .int l3)]) ok dX7_mostDoubtfulNote_38 rfl (by decide) rfl ?_
      refine j_iload ok dX7_mostDoubtfulNote_39 1 rfl ?_
      refine j_istore_n (L' := [(2, .int q4.1), (1, .int l3), (4, .int q4.1), (0, .ref (X.B + l0)), (3, .int l3)]) ok dX7_mostDoubtfulNote_41 rfl (by decide) rfl ?_
      exact J.sub [3, 1, 0, 4] rfl (jX7_mostDoubtfulNote_42 ok l0 l3 q4.1 l3 q4.2 h hK)
    · refine j_icmp_gt (tgt := 37) ok dX7_mostDoubtfulNote_31 (by decide) (fun z => absurd z c5) (fun _ => ?_)
      refine j_goto (tgt := 42) ok dX7_mostDoubtfulNote_34 (by decide) ?_
      exact J.sub [1, 2, 3, 4] rfl (jX7_mostDoubtfulNote_42 ok l0 l1 l2 l3 q4.2 h hK)

def fX7_mostDoubtfulNote_0 (l0 : Nat)  (G : Mem) : Option (Int32 × Mem) :=
  (pI G 17 l0 6 (0 : Int32)).bind fun G1 =>
  loopM (fun (s : Int32 × Int32 × Int32) G => fX7_mostDoubtfulNote_11 l0 s.1 s.2.1 s.2.2 G) FU ((-1 : Int32), (1 : Int32), (0 : Int32)) G1

set_option maxRecDepth 100000 in
set_option maxHeartbeats 4000000 in
theorem jX7_mostDoubtfulNote_0 {X : Cx} (ok : OK X cX7_mostDoubtfulNote RX7 (some .int) 5 3 67) (l0 : Nat)  (G : Mem) {r : Int32} {G' : Mem} (h : fX7_mostDoubtfulNote_0 l0 G = some (r, G')) (hK : (finI X) r G') : J X 5 0 [(0, .ref (X.B + l0))] [] G := by
  unfold fX7_mostDoubtfulNote_0 at h
  refine j_aload_n ok dX7_mostDoubtfulNote_0 rfl 0 rfl ?_
  refine j_iconst (v := 0) ok dX7_mostDoubtfulNote_1 (by decide) ?_
  obtain ⟨G1, hG1, h⟩ := obind h
  refine k_putI ok fl_X7_86 fp_X7 rfl (Or.inl rfl) hG1 dX7_mostDoubtfulNote_2 ?_
  refine j_iconst (v := -1) ok dX7_mostDoubtfulNote_5 (by decide) ?_
  refine j_istore_n (L' := [(1, .int (-1 : Int32)), (0, .ref (X.B + l0))]) ok dX7_mostDoubtfulNote_6 rfl (by decide) rfl ?_
  refine j_iconst (v := 1) ok dX7_mostDoubtfulNote_7 (by decide) ?_
  refine j_istore_n (L' := [(2, .int (1 : Int32)), (1, .int (-1 : Int32)), (0, .ref (X.B + l0))]) ok dX7_mostDoubtfulNote_8 rfl (by decide) rfl ?_
  refine j_iconst (v := 0) ok dX7_mostDoubtfulNote_9 (by decide) ?_
  refine j_istore_n (L' := [(3, .int (0 : Int32)), (2, .int (1 : Int32)), (1, .int (-1 : Int32)), (0, .ref (X.B + l0))]) ok dX7_mostDoubtfulNote_10 rfl (by decide) rfl ?_
  have hJ : J X 5 11 [(0, .ref (X.B + l0)), (1, .int (-1 : Int32)), (2, .int (1 : Int32)), (3, .int (0 : Int32))] [] G1 := j_loop (loc := fun s : Int32 × Int32 × Int32 => [(0, .ref (X.B + l0)), (1, .int s.1), (2, .int s.2.1), (3, .int s.2.2)]) (F := (finI X)) (fun s G r G' hb hk => jX7_mostDoubtfulNote_11 ok l0 s.1 s.2.1 s.2.2 G hb hk) _ _ _ _ _ h hK
  exact J.sub [3, 2, 1, 0] rfl hJ

def fX7_mostDoubtfulNote (l0 : Nat) (G : Mem) : Option (Int32 × Mem) := fX7_mostDoubtfulNote_0 l0 G
set_option maxRecDepth 100000 in
theorem tX7_mostDoubtfulNote {l : Launch} (hfl : l.stackTraces = false) (V : Wd) (l0 : Nat) (G : Mem) {r : Int32} {G' : Mem} (h : fX7_mostDoubtfulNote l0 G = some (r, G')) : Mx l yX7_mostDoubtfulNote cX7_mostDoubtfulNote 5 (some .int) 3 67 V [.ref (V.B + l0)] G (.inl (some (.int r))) G' :=
  mx_of (L := [(0, .ref (V.B + l0))]) hfl (by decide +kernel) (Nat.le_of_ble_eq_true rfl) rfl (fun X hl hV hin ok he => by
    subst hl; subst hV
    exact J.sub [0] rfl (jX7_mostDoubtfulNote_0 ok l0 G h he))
def fX7_moveOrigin_22  (s0 : Int32) (G : Mem) : Option (Int32 × Mem) :=
  some (s0, G)

set_option maxRecDepth 100000 in
set_option maxHeartbeats 4000000 in
theorem jX7_moveOrigin_22 {X : Cx} (ok : OK X cX7_moveOrigin RX7 (some .int) 3 5 113)  (s0 : Int32) (G : Mem) {r : Int32} {G' : Mem} (h : fX7_moveOrigin_22 s0 G = some (r, G')) (hK : (finI X) r G') : J X 3 22 [] [.int s0] G := by
  unfold fX7_moveOrigin_22 at h
  obtain ⟨er, eG⟩ := inj2 h
  subst er; subst eG
  exact j_iret ok rfl dX7_moveOrigin_22 hK

def fX7_moveOrigin_0 (l0 : Nat) (l1 : Int32) (l2 : Int32)  (G : Mem) : Option (Int32 × Mem) :=
  ck G 17 l0 <| (fX7_noMove l0 l1 l2 G).bind fun q1 =>
  if q1.1 = (0 : Int32) then
    ck q1.2 17 l0 <| (fX7_move l0 l1 l2 q1.2).bind fun q3 =>
    fX7_moveOrigin_22 (q3.1 / (36 : Int32)) q3.2
  else
    fX7_moveOrigin_22 (0 : Int32) q1.2

set_option maxRecDepth 100000 in
set_option maxHeartbeats 4000000 in
theorem jX7_moveOrigin_0 {X : Cx} (ok : OK X cX7_moveOrigin RX7 (some .int) 3 5 113) (l0 : Nat) (l1 : Int32) (l2 : Int32)  (G : Mem) {r : Int32} {G' : Mem} (h : fX7_moveOrigin_0 l0 l1 l2 G = some (r, G')) (hK : (finI X) r G') : J X 3 0 [(0, .ref (X.B + l0)), (1, .int l1), (2, .int l2)] [] G := by
  unfold fX7_moveOrigin_0 at h
  refine j_aload_n ok dX7_moveOrigin_0 rfl 0 rfl ?_
  refine j_iload_n ok dX7_moveOrigin_1 rfl 1 rfl ?_
  refine j_iload_n ok dX7_moveOrigin_2 rfl 2 rfl ?_
  obtain ⟨kq1, h⟩ := ck_some h
  obtain ⟨q1, hq1, h⟩ := obind h
  refine k_V1 ok kl_X7_381 ⟨Nat.le_of_ble_eq_true rfl, Nat.le_of_ble_eq_true rfl⟩ [.int l1, .int l2] kq1 rfl rfl (Nat.le_of_ble_eq_true rfl) (tX7_noMove ok.fl X.V l0 l1 l2 G hq1) dX7_moveOrigin_3 ?_
  rcases ite_some h with ⟨c2, h⟩ | ⟨c2, h⟩
  · refine j_if_eq (tgt := 13) ok dX7_moveOrigin_6 (by decide) (fun _ => ?_) (fun z => absurd c2 z)
    refine j_aload_n ok dX7_moveOrigin_13 rfl 0 rfl ?_
    refine j_iload_n ok dX7_moveOrigin_14 rfl 1 rfl ?_
    refine j_iload_n ok dX7_moveOrigin_15 rfl 2 rfl ?_
    obtain ⟨kq3, h⟩ := ck_some h
    obtain ⟨q3, hq3, h⟩ := obind h
    refine k_V1 ok kl_X7_378 ⟨Nat.le_of_ble_eq_true rfl, Nat.le_of_ble_eq_true rfl⟩ [.int l1, .int l2] kq3 rfl rfl (Nat.le_of_ble_eq_true rfl) (tX7_move ok.fl X.V l0 l1 l2 q1.2 hq3) dX7_moveOrigin_16 ?_
    refine j_bipush (v := 36) ok dX7_moveOrigin_19 (by decide) ?_
    refine j_idiv ok dX7_moveOrigin_21 (by decide) ?_
    exact J.sub [] rfl (jX7_moveOrigin_22 ok (q3.1 / (36 : Int32)) q3.2 h hK)
  · refine j_if_eq (tgt := 13) ok dX7_moveOrigin_6 (by decide) (fun z => absurd z c2) (fun _ => ?_)
    refine j_iconst (v := 0) ok dX7_moveOrigin_9 (by decide) ?_
    refine j_goto (tgt := 22) ok dX7_moveOrigin_10 (by decide) ?_
    exact J.sub [] rfl (jX7_moveOrigin_22 ok (0 : Int32) q1.2 h hK)

def fX7_moveOrigin (l0 : Nat) (l1 : Int32) (l2 : Int32) (G : Mem) : Option (Int32 × Mem) := fX7_moveOrigin_0 l0 l1 l2 G
set_option maxRecDepth 100000 in
theorem tX7_moveOrigin {l : Launch} (hfl : l.stackTraces = false) (V : Wd) (l0 : Nat) (l1 : Int32) (l2 : Int32) (G : Mem) {r : Int32} {G' : Mem} (h : fX7_moveOrigin l0 l1 l2 G = some (r, G')) : Mx l yX7_moveOrigin cX7_moveOrigin 3 (some .int) 5 113 V [.ref (V.B + l0), .int l1, .int l2] G (.inl (some (.int r))) G' :=
  mx_of (L := [(0, .ref (V.B + l0)), (1, .int l1), (2, .int l2)]) hfl (by decide +kernel) (Nat.le_of_ble_eq_true rfl) rfl (fun X hl hV hin ok he => by
    subst hl; subst hV
    exact J.sub [0, 1, 2] rfl (jX7_moveOrigin_0 ok l0 l1 l2 G h he))
def fX7_moveTarget_22  (s0 : Int32) (G : Mem) : Option (Int32 × Mem) :=
  some (s0, G)

set_option maxRecDepth 100000 in
set_option maxHeartbeats 4000000 in
theorem jX7_moveTarget_22 {X : Cx} (ok : OK X cX7_moveTarget RX7 (some .int) 3 5 113)  (s0 : Int32) (G : Mem) {r : Int32} {G' : Mem} (h : fX7_moveTarget_22 s0 G = some (r, G')) (hK : (finI X) r G') : J X 3 22 [] [.int s0] G := by
  unfold fX7_moveTarget_22 at h
  obtain ⟨er, eG⟩ := inj2 h
  subst er; subst eG
  exact j_iret ok rfl dX7_moveTarget_22 hK

def fX7_moveTarget_0 (l0 : Nat) (l1 : Int32) (l2 : Int32)  (G : Mem) : Option (Int32 × Mem) :=
  ck G 17 l0 <| (fX7_noMove l0 l1 l2 G).bind fun q1 =>
  if q1.1 = (0 : Int32) then
    ck q1.2 17 l0 <| (fX7_move l0 l1 l2 q1.2).bind fun q3 =>
    fX7_moveTarget_22 (q3.1 - q3.1 / (36 : Int32) * (36 : Int32)) q3.2
  else
    fX7_moveTarget_22 (0 : Int32) q1.2

set_option maxRecDepth 100000 in
set_option maxHeartbeats 4000000 in
theorem jX7_moveTarget_0 {X : Cx} (ok : OK X cX7_moveTarget RX7 (some .int) 3 5 113) (l0 : Nat) (l1 : Int32) (l2 : Int32)  (G : Mem) {r : Int32} {G' : Mem} (h : fX7_moveTarget_0 l0 l1 l2 G = some (r, G')) (hK : (finI X) r G') : J X 3 0 [(0, .ref (X.B + l0)), (1, .int l1), (2, .int l2)] [] G := by
  unfold fX7_moveTarget_0 at h
  refine j_aload_n ok dX7_moveTarget_0 rfl 0 rfl ?_
  refine j_iload_n ok dX7_moveTarget_1 rfl 1 rfl ?_
  refine j_iload_n ok dX7_moveTarget_2 rfl 2 rfl ?_
  obtain ⟨kq1, h⟩ := ck_some h
  obtain ⟨q1, hq1, h⟩ := obind h
  refine k_V1 ok kl_X7_381 ⟨Nat.le_of_ble_eq_true rfl, Nat.le_of_ble_eq_true rfl⟩ [.int l1, .int l2] kq1 rfl rfl (Nat.le_of_ble_eq_true rfl) (tX7_noMove ok.fl X.V l0 l1 l2 G hq1) dX7_moveTarget_3 ?_
  rcases ite_some h with ⟨c2, h⟩ | ⟨c2, h⟩
  · refine j_if_eq (tgt := 13) ok dX7_moveTarget_6 (by decide) (fun _ => ?_) (fun z => absurd c2 z)
    refine j_aload_n ok dX7_moveTarget_13 rfl 0 rfl ?_
    refine j_iload_n ok dX7_moveTarget_14 rfl 1 rfl ?_
    refine j_iload_n ok dX7_moveTarget_15 rfl 2 rfl ?_
    obtain ⟨kq3, h⟩ := ck_some h
    obtain ⟨q3, hq3, h⟩ := obind h
    refine k_V1 ok kl_X7_378 ⟨Nat.le_of_ble_eq_true rfl, Nat.le_of_ble_eq_true rfl⟩ [.int l1, .int l2] kq3 rfl rfl (Nat.le_of_ble_eq_true rfl) (tX7_move ok.fl X.V l0 l1 l2 q1.2 hq3) dX7_moveTarget_16 ?_
    refine j_bipush (v := 36) ok dX7_moveTarget_19 (by decide) ?_
    refine j_irem ok dX7_moveTarget_21 (by decide) ?_
    exact J.sub [] rfl (jX7_moveTarget_22 ok (q3.1 - q3.1 / (36 : Int32) * (36 : Int32)) q3.2 h hK)
  · refine j_if_eq (tgt := 13) ok dX7_moveTarget_6 (by decide) (fun z => absurd z c2) (fun _ => ?_)
    refine j_iconst (v := 0) ok dX7_moveTarget_9 (by decide) ?_
    refine j_goto (tgt := 22) ok dX7_moveTarget_10 (by decide) ?_
    exact J.sub [] rfl (jX7_moveTarget_22 ok (0 : Int32) q1.2 h hK)

def fX7_moveTarget (l0 : Nat) (l1 : Int32) (l2 : Int32) (G : Mem) : Option (Int32 × Mem) := fX7_moveTarget_0 l0 l1 l2 G
set_option maxRecDepth 100000 in
theorem tX7_moveTarget {l : Launch} (hfl : l.stackTraces = false) (V : Wd) (l0 : Nat) (l1 : Int32) (l2 : Int32) (G : Mem) {r : Int32} {G' : Mem} (h : fX7_moveTarget l0 l1 l2 G = some (r, G')) : Mx l yX7_moveTarget cX7_moveTarget 3 (some .int) 5 113 V [.ref (V.B + l0), .int l1, .int l2] G (.inl (some (.int r))) G' :=
  mx_of (L := [(0, .ref (V.B + l0)), (1, .int l1), (2, .int l2)]) hfl (by decide +kernel) (Nat.le_of_ble_eq_true rfl) rfl (fun X hl hV hin ok he => by
    subst hl; subst hV
    exact J.sub [0, 1, 2] rfl (jX7_moveTarget_0 ok l0 l1 l2 G h he))
def fX7_ofNote_24  (s0 : Int32) (G : Mem) : Option (Int32 × Mem) :=
  some (s0, G)

set_option maxRecDepth 100000 in
set_option maxHeartbeats 4000000 in
theorem jX7_ofNote_24 {X : Cx} (ok : OK X cX7_ofNote RX7 (some .int) 3 2 43)  (s0 : Int32) (G : Mem) {r : Int32} {G' : Mem} (h : fX7_ofNote_24 s0 G = some (r, G')) (hK : (finI X) r G') : J X 3 24 [] [.int s0] G := by
  unfold fX7_ofNote_24 at h
  obtain ⟨er, eG⟩ := inj2 h
  subst er; subst eG
  exact j_iret ok rfl dX7_ofNote_24 hK

def fX7_ofNote_0 (l0 : Nat) (l1 : Int32) (l2 : Int32)  (G : Mem) : Option (Int32 × Mem) :=
  ck G 17 l0 <| (fX7_noNote l0 l1 G).bind fun q1 =>
  ck q1.2 17 l0 <| (fX7_fails l0 q1.1 (0 : Int32) (0 : Int32) q1.2).bind fun q2 =>
  if q2.1 = (0 : Int32) then
    ck q2.2 17 l0 <| (fX7_of l0 l1 l2 q2.2).bind fun q4 =>
    fX7_ofNote_24 q4.1 q4.2
  else
    fX7_ofNote_24 (0 : Int32) q2.2

set_option maxRecDepth 100000 in
set_option maxHeartbeats 4000000 in
theorem jX7_ofNote_0 {X : Cx} (ok : OK X cX7_ofNote RX7 (some .int) 3 2 43) (l0 : Nat) (l1 : Int32) (l2 : Int32)  (G : Mem) {r : Int32} {G' : Mem} (h : fX7_ofNote_0 l0 l1 l2 G = some (r, G')) (hK : (finI X) r G') : J X 3 0 [(0, .ref (X.B + l0)), (1, .int l1), (2, .int l2)] [] G := by
  unfold fX7_ofNote_0 at h
  refine j_aload_n ok dX7_ofNote_0 rfl 0 rfl ?_
  refine j_aload_n ok dX7_ofNote_1 rfl 0 rfl ?_
  refine j_iload_n ok dX7_ofNote_2 rfl 1 rfl ?_
  obtain ⟨kq1, h⟩ := ck_some h
  obtain ⟨q1, hq1, h⟩ := obind h
  refine k_V1 ok kl_X7_337 ⟨Nat.le_of_ble_eq_true rfl, Nat.le_of_ble_eq_true rfl⟩ [.int l1] kq1 rfl rfl (Nat.le_of_ble_eq_true rfl) (tX7_noNote ok.fl X.V l0 l1 G hq1) dX7_ofNote_3 ?_
  refine j_iconst (v := 0) ok dX7_ofNote_6 (by decide) ?_
  refine j_iconst (v := 0) ok dX7_ofNote_7 (by decide) ?_
  obtain ⟨kq2, h⟩ := ck_some h
  obtain ⟨q2, hq2, h⟩ := obind h
  refine k_V1 ok kl_X7_186 ⟨Nat.le_of_ble_eq_true rfl, Nat.le_of_ble_eq_true rfl⟩ [.int q1.1, .int (0 : Int32), .int (0 : Int32)] kq2 rfl rfl (Nat.le_of_ble_eq_true rfl) (tX7_fails ok.fl X.V l0 q1.1 (0 : Int32) (0 : Int32) q1.2 hq2) dX7_ofNote_8 ?_
  rcases ite_some h with ⟨c3, h⟩ | ⟨c3, h⟩
  · refine j_if_eq (tgt := 18) ok dX7_ofNote_11 (by decide) (fun _ => ?_) (fun z => absurd c3 z)
    refine j_aload_n ok dX7_ofNote_18 rfl 0 rfl ?_
    refine j_iload_n ok dX7_ofNote_19 rfl 1 rfl ?_
    refine j_iload_n ok dX7_ofNote_20 rfl 2 rfl ?_
    obtain ⟨kq4, h⟩ := ck_some h
    obtain ⟨q4, hq4, h⟩ := obind h
    refine k_V1 ok kl_X7_144 ⟨Nat.le_of_ble_eq_true rfl, Nat.le_of_ble_eq_true rfl⟩ [.int l1, .int l2] kq4 rfl rfl (Nat.le_of_ble_eq_true rfl) (tX7_of ok.fl X.V l0 l1 l2 q2.2 hq4) dX7_ofNote_21 ?_
    exact J.sub [] rfl (jX7_ofNote_24 ok q4.1 q4.2 h hK)
  · refine j_if_eq (tgt := 18) ok dX7_ofNote_11 (by decide) (fun z => absurd z c3) (fun _ => ?_)
    refine j_iconst (v := 0) ok dX7_ofNote_14 (by decide) ?_
    refine j_goto (tgt := 24) ok dX7_ofNote_15 (by decide) ?_
    exact J.sub [] rfl (jX7_ofNote_24 ok (0 : Int32) q2.2 h hK)

def fX7_ofNote (l0 : Nat) (l1 : Int32) (l2 : Int32) (G : Mem) : Option (Int32 × Mem) := fX7_ofNote_0 l0 l1 l2 G
set_option maxRecDepth 100000 in
theorem tX7_ofNote {l : Launch} (hfl : l.stackTraces = false) (V : Wd) (l0 : Nat) (l1 : Int32) (l2 : Int32) (G : Mem) {r : Int32} {G' : Mem} (h : fX7_ofNote l0 l1 l2 G = some (r, G')) : Mx l yX7_ofNote cX7_ofNote 3 (some .int) 2 43 V [.ref (V.B + l0), .int l1, .int l2] G (.inl (some (.int r))) G' :=
  mx_of (L := [(0, .ref (V.B + l0)), (1, .int l1), (2, .int l2)]) hfl (by decide +kernel) (Nat.le_of_ble_eq_true rfl) rfl (fun X hl hV hin ok he => by
    subst hl; subst hV
    exact J.sub [0, 1, 2] rfl (jX7_ofNote_0 ok l0 l1 l2 G h he))
def fX7_noteChecks_16  (s0 : Int32) (G : Mem) : Option (Int32 × Mem) :=
  rz s0 <|
  some (s0, G)

set_option maxRecDepth 100000 in
set_option maxHeartbeats 4000000 in
theorem jX7_noteChecks_16 {X : Cx} (ok : OK X cX7_noteChecks RX7 (some .boolean) 2 3 65)  (s0 : Int32) (G : Mem) {r : Int32} {G' : Mem} (h : fX7_noteChecks_16 s0 G = some (r, G')) (hK : (finI X) r G') : J X 2 16 [] [.int s0] G := by
  unfold fX7_noteChecks_16 at h
  obtain ⟨hz1, h⟩ := rz_some h
  obtain ⟨er, eG⟩ := inj2 h
  subst er; subst eG
  exact j_zret ok rfl hz1 dX7_noteChecks_16 hK

def fX7_noteChecks_0 (l0 : Nat) (l1 : Int32)  (G : Mem) : Option (Int32 × Mem) :=
  ck G 17 l0 <| (fX7_ofNote l0 l1 (6 : Int32) G).bind fun q1 =>
  if q1.1 = (1 : Int32) then
    fX7_noteChecks_16 (1 : Int32) q1.2
  else
    fX7_noteChecks_16 (0 : Int32) q1.2

set_option maxRecDepth 100000 in
set_option maxHeartbeats 4000000 in
theorem jX7_noteChecks_0 {X : Cx} (ok : OK X cX7_noteChecks RX7 (some .boolean) 2 3 65) (l0 : Nat) (l1 : Int32)  (G : Mem) {r : Int32} {G' : Mem} (h : fX7_noteChecks_0 l0 l1 G = some (r, G')) (hK : (finI X) r G') : J X 2 0 [(0, .ref (X.B + l0)), (1, .int l1)] [] G := by
  unfold fX7_noteChecks_0 at h
  refine j_aload_n ok dX7_noteChecks_0 rfl 0 rfl ?_
  refine j_iload_n ok dX7_noteChecks_1 rfl 1 rfl ?_
  refine j_bipush (v := 6) ok dX7_noteChecks_2 (by decide) ?_
  obtain ⟨kq1, h⟩ := ck_some h
  obtain ⟨q1, hq1, h⟩ := obind h
  refine k_V1 ok kl_X7_340 ⟨Nat.le_of_ble_eq_true rfl, Nat.le_of_ble_eq_true rfl⟩ [.int l1, .int (6 : Int32)] kq1 rfl rfl (Nat.le_of_ble_eq_true rfl) (tX7_ofNote ok.fl X.V l0 l1 (6 : Int32) G hq1) dX7_noteChecks_4 ?_
  refine j_iconst (v := 1) ok dX7_noteChecks_7 (by decide) ?_
  rcases ite_some h with ⟨c2, h⟩ | ⟨c2, h⟩
  · refine j_icmp_ne (tgt := 15) ok dX7_noteChecks_8 (by decide) (fun z => absurd c2 z) (fun _ => ?_)
    refine j_iconst (v := 1) ok dX7_noteChecks_11 (by decide) ?_
    refine j_goto (tgt := 16) ok dX7_noteChecks_12 (by decide) ?_
    exact J.sub [] rfl (jX7_noteChecks_16 ok (1 : Int32) q1.2 h hK)
  · refine j_icmp_ne (tgt := 15) ok dX7_noteChecks_8 (by decide) (fun _ => ?_) (fun z => absurd z c2)
    refine j_iconst (v := 0) ok dX7_noteChecks_15 (by decide) ?_
    exact J.sub [] rfl (jX7_noteChecks_16 ok (0 : Int32) q1.2 h hK)

def fX7_noteChecks (l0 : Nat) (l1 : Int32) (G : Mem) : Option (Int32 × Mem) := fX7_noteChecks_0 l0 l1 G
set_option maxRecDepth 100000 in
theorem tX7_noteChecks {l : Launch} (hfl : l.stackTraces = false) (V : Wd) (l0 : Nat) (l1 : Int32) (G : Mem) {r : Int32} {G' : Mem} (h : fX7_noteChecks l0 l1 G = some (r, G')) : Mx l yX7_noteChecks cX7_noteChecks 2 (some .boolean) 3 65 V [.ref (V.B + l0), .int l1] G (.inl (some (.int r))) G' :=
  mx_of (L := [(0, .ref (V.B + l0)), (1, .int l1)]) hfl (by decide +kernel) (Nat.le_of_ble_eq_true rfl) rfl (fun X hl hV hin ok he => by
    subst hl; subst hV
    exact J.sub [0, 1] rfl (jX7_noteChecks_0 ok l0 l1 G h he))
def fX7_noteCount_0 (l0 : Nat)  (G : Mem) : Option (Int32 × Mem) :=
  (gR G 17 l0 0).bind fun v1 =>
  (gA G 1 v1 (2 : Int32)).bind fun v2 =>
  ck G 17 l0 <| (fX7_told l0 v2 G).bind fun q3 =>
  some (q3.1, q3.2)

set_option maxRecDepth 100000 in
set_option maxHeartbeats 4000000 in
theorem jX7_noteCount_0 {X : Cx} (ok : OK X cX7_noteCount RX7 (some .int) 1 1 21) (l0 : Nat)  (G : Mem) {r : Int32} {G' : Mem} (h : fX7_noteCount_0 l0 G = some (r, G')) (hK : (finI X) r G') : J X 1 0 [(0, .ref (X.B + l0))] [] G := by
  unfold fX7_noteCount_0 at h
  refine j_aload_n ok dX7_noteCount_0 rfl 0 rfl ?_
  refine j_aload_n ok dX7_noteCount_1 rfl 0 rfl ?_
  obtain ⟨v1, hv1, h⟩ := obind h
  refine k_getR ok fl_X7_9 hv1 dX7_noteCount_2 ?_
  refine j_iconst (v := 2) ok dX7_noteCount_5 (by decide) ?_
  obtain ⟨v2, hv2, h⟩ := obind h
  refine j_iald ok hv2 dX7_noteCount_6 ?_
  obtain ⟨kq3, h⟩ := ck_some h
  obtain ⟨q3, hq3, h⟩ := obind h
  refine k_V1 ok kl_X7_327 ⟨Nat.le_of_ble_eq_true rfl, Nat.le_of_ble_eq_true rfl⟩ [.int v2] kq3 rfl rfl (Nat.le_of_ble_eq_true rfl) (tX7_told ok.fl X.V l0 v2 G hq3) dX7_noteCount_7 ?_
  obtain ⟨er, eG⟩ := inj2 h
  subst er; subst eG
  exact j_iret ok rfl dX7_noteCount_10 hK

def fX7_noteCount (l0 : Nat) (G : Mem) : Option (Int32 × Mem) := fX7_noteCount_0 l0 G
set_option maxRecDepth 100000 in
theorem tX7_noteCount {l : Launch} (hfl : l.stackTraces = false) (V : Wd) (l0 : Nat) (G : Mem) {r : Int32} {G' : Mem} (h : fX7_noteCount l0 G = some (r, G')) : Mx l yX7_noteCount cX7_noteCount 1 (some .int) 1 21 V [.ref (V.B + l0)] G (.inl (some (.int r))) G' :=
  mx_of (L := [(0, .ref (V.B + l0))]) hfl (by decide +kernel) (Nat.le_of_ble_eq_true rfl) rfl (fun X hl hV hin ok he => by
    subst hl; subst hV
    exact J.sub [0] rfl (jX7_noteCount_0 ok l0 G h he))
def fX7_noteFromColumn_0 (l0 : Nat) (l1 : Int32)  (G : Mem) : Option (Int32 × Mem) :=
  ck G 17 l0 <| (fX7_ofNote l0 l1 (1 : Int32) G).bind fun q1 =>
  some (q1.1, q1.2)

set_option maxRecDepth 100000 in
set_option maxHeartbeats 4000000 in
theorem jX7_noteFromColumn_0 {X : Cx} (ok : OK X cX7_noteFromColumn RX7 (some .int) 2 3 65) (l0 : Nat) (l1 : Int32)  (G : Mem) {r : Int32} {G' : Mem} (h : fX7_noteFromColumn_0 l0 l1 G = some (r, G')) (hK : (finI X) r G') : J X 2 0 [(0, .ref (X.B + l0)), (1, .int l1)] [] G := by
  unfold fX7_noteFromColumn_0 at h
  refine j_aload_n ok dX7_noteFromColumn_0 rfl 0 rfl ?_
  refine j_iload_n ok dX7_noteFromColumn_1 rfl 1 rfl ?_
  refine j_iconst (v := 1) ok dX7_noteFromColumn_2 (by decide) ?_
  obtain ⟨kq1, h⟩ := ck_some h
  obtain ⟨q1, hq1, h⟩ := obind h
  refine k_V1 ok kl_X7_340 ⟨Nat.le_of_ble_eq_true rfl, Nat.le_of_ble_eq_true rfl⟩ [.int l1, .int (1 : Int32)] kq1 rfl rfl (Nat.le_of_ble_eq_true rfl) (tX7_ofNote ok.fl X.V l0 l1 (1 : Int32) G hq1) dX7_noteFromColumn_3 ?_
  obtain ⟨er, eG⟩ := inj2 h
  subst er; subst eG
  exact j_iret ok rfl dX7_noteFromColumn_6 hK

def fX7_noteFromColumn (l0 : Nat) (l1 : Int32) (G : Mem) : Option (Int32 × Mem) := fX7_noteFromColumn_0 l0 l1 G
set_option maxRecDepth 100000 in
theorem tX7_noteFromColumn {l : Launch} (hfl : l.stackTraces = false) (V : Wd) (l0 : Nat) (l1 : Int32) (G : Mem) {r : Int32} {G' : Mem} (h : fX7_noteFromColumn l0 l1 G = some (r, G')) : Mx l yX7_noteFromColumn cX7_noteFromColumn 2 (some .int) 3 65 V [.ref (V.B + l0), .int l1] G (.inl (some (.int r))) G' :=
  mx_of (L := [(0, .ref (V.B + l0)), (1, .int l1)]) hfl (by decide +kernel) (Nat.le_of_ble_eq_true rfl) rfl (fun X hl hV hin ok he => by
    subst hl; subst hV
    exact J.sub [0, 1] rfl (jX7_noteFromColumn_0 ok l0 l1 G h he))
def fX7_noteFromRow_0 (l0 : Nat) (l1 : Int32)  (G : Mem) : Option (Int32 × Mem) :=
  ck G 17 l0 <| (fX7_ofNote l0 l1 (2 : Int32) G).bind fun q1 =>
  some (q1.1, q1.2)

set_option maxRecDepth 100000 in
set_option maxHeartbeats 4000000 in
theorem jX7_noteFromRow_0 {X : Cx} (ok : OK X cX7_noteFromRow RX7 (some .int) 2 3 65) (l0 : Nat) (l1 : Int32)  (G : Mem) {r : Int32} {G' : Mem} (h : fX7_noteFromRow_0 l0 l1 G = some (r, G')) (hK : (finI X) r G') : J X 2 0 [(0, .ref (X.B + l0)), (1, .int l1)] [] G := by
  unfold fX7_noteFromRow_0 at h
  refine j_aload_n ok dX7_noteFromRow_0 rfl 0 rfl ?_
  refine j_iload_n ok dX7_noteFromRow_1 rfl 1 rfl ?_
  refine j_iconst (v := 2) ok dX7_noteFromRow_2 (by decide) ?_
  obtain ⟨kq1, h⟩ := ck_some h
  obtain ⟨q1, hq1, h⟩ := obind h
  refine k_V1 ok kl_X7_340 ⟨Nat.le_of_ble_eq_true rfl, Nat.le_of_ble_eq_true rfl⟩ [.int l1, .int (2 : Int32)] kq1 rfl rfl (Nat.le_of_ble_eq_true rfl) (tX7_ofNote ok.fl X.V l0 l1 (2 : Int32) G hq1) dX7_noteFromRow_3 ?_
  obtain ⟨er, eG⟩ := inj2 h
  subst er; subst eG
  exact j_iret ok rfl dX7_noteFromRow_6 hK

def fX7_noteFromRow (l0 : Nat) (l1 : Int32) (G : Mem) : Option (Int32 × Mem) := fX7_noteFromRow_0 l0 l1 G
set_option maxRecDepth 100000 in
theorem tX7_noteFromRow {l : Launch} (hfl : l.stackTraces = false) (V : Wd) (l0 : Nat) (l1 : Int32) (G : Mem) {r : Int32} {G' : Mem} (h : fX7_noteFromRow l0 l1 G = some (r, G')) : Mx l yX7_noteFromRow cX7_noteFromRow 2 (some .int) 3 65 V [.ref (V.B + l0), .int l1] G (.inl (some (.int r))) G' :=
  mx_of (L := [(0, .ref (V.B + l0)), (1, .int l1)]) hfl (by decide +kernel) (Nat.le_of_ble_eq_true rfl) rfl (fun X hl hV hin ok he => by
    subst hl; subst hV
    exact J.sub [0, 1] rfl (jX7_noteFromRow_0 ok l0 l1 G h he))
def fX7_noteKind_0 (l0 : Nat) (l1 : Int32)  (G : Mem) : Option (Int32 × Mem) :=
  ck G 17 l0 <| (fX7_ofNote l0 l1 (0 : Int32) G).bind fun q1 =>
  some (q1.1, q1.2)

set_option maxRecDepth 100000 in
set_option maxHeartbeats 4000000 in
theorem jX7_noteKind_0 {X : Cx} (ok : OK X cX7_noteKind RX7 (some .int) 2 3 65) (l0 : Nat) (l1 : Int32)  (G : Mem) {r : Int32} {G' : Mem} (h : fX7_noteKind_0 l0 l1 G = some (r, G')) (hK : (finI X) r G') : J X 2 0 [(0, .ref (X.B + l0)), (1, .int l1)] [] G := by
  unfold fX7_noteKind_0 at h
  refine j_aload_n ok dX7_noteKind_0 rfl 0 rfl ?_
  refine j_iload_n ok dX7_noteKind_1 rfl 1 rfl ?_
  refine j_iconst (v := 0) ok dX7_noteKind_2 (by decide) ?_
  obtain ⟨kq1, h⟩ := ck_some h
  obtain ⟨q1, hq1, h⟩ := obind h
  refine k_V1 ok kl_X7_340 ⟨Nat.le_of_ble_eq_true rfl, Nat.le_of_ble_eq_true rfl⟩ [.int l1, .int (0 : Int32)] kq1 rfl rfl (Nat.le_of_ble_eq_true rfl) (tX7_ofNote ok.fl X.V l0 l1 (0 : Int32) G hq1) dX7_noteKind_3 ?_
  obtain ⟨er, eG⟩ := inj2 h
  subst er; subst eG
  exact j_iret ok rfl dX7_noteKind_6 hK

def fX7_noteKind (l0 : Nat) (l1 : Int32) (G : Mem) : Option (Int32 × Mem) := fX7_noteKind_0 l0 l1 G
set_option maxRecDepth 100000 in
theorem tX7_noteKind {l : Launch} (hfl : l.stackTraces = false) (V : Wd) (l0 : Nat) (l1 : Int32) (G : Mem) {r : Int32} {G' : Mem} (h : fX7_noteKind l0 l1 G = some (r, G')) : Mx l yX7_noteKind cX7_noteKind 2 (some .int) 3 65 V [.ref (V.B + l0), .int l1] G (.inl (some (.int r))) G' :=
  mx_of (L := [(0, .ref (V.B + l0)), (1, .int l1)]) hfl (by decide +kernel) (Nat.le_of_ble_eq_true rfl) rfl (fun X hl hV hin ok he => by
    subst hl; subst hV
    exact J.sub [0, 1] rfl (jX7_noteKind_0 ok l0 l1 G h he))
def fX7_noteTakes_15  (s0 : Int32) (G : Mem) : Option (Int32 × Mem) :=
  rz s0 <|
  some (s0, G)

set_option maxRecDepth 100000 in
set_option maxHeartbeats 4000000 in
theorem jX7_noteTakes_15 {X : Cx} (ok : OK X cX7_noteTakes RX7 (some .boolean) 2 3 65)  (s0 : Int32) (G : Mem) {r : Int32} {G' : Mem} (h : fX7_noteTakes_15 s0 G = some (r, G')) (hK : (finI X) r G') : J X 2 15 [] [.int s0] G := by
  unfold fX7_noteTakes_15 at h
  obtain ⟨hz1, h⟩ := rz_some h
  obtain ⟨er, eG⟩ := inj2 h
  subst er; subst eG
  exact j_zret ok rfl hz1 dX7_noteTakes_15 hK

def fX7_noteTakes_0 (l0 : Nat) (l1 : Int32)  (G : Mem) : Option (Int32 × Mem) :=
  ck G 17 l0 <| (fX7_ofNote l0 l1 (5 : Int32) G).bind fun q1 =>
  if q1.1 = (1 : Int32) then
    fX7_noteTakes_15 (1 : Int32) q1.2
  else
    fX7_noteTakes_15 (0 : Int32) q1.2

set_option maxRecDepth 100000 in
set_option maxHeartbeats 4000000 in
theorem jX7_noteTakes_0 {X : Cx} (ok : OK X cX7_noteTakes RX7 (some .boolean) 2 3 65) (l0 : Nat) (l1 : Int32)  (G : Mem) {r : Int32} {G' : Mem} (h : fX7_noteTakes_0 l0 l1 G = some (r, G')) (hK : (finI X) r G') : J X 2 0 [(0, .ref (X.B + l0)), (1, .int l1)] [] G := by
  unfold fX7_noteTakes_0 at h
  refine j_aload_n ok dX7_noteTakes_0 rfl 0 rfl ?_
  refine j_iload_n ok dX7_noteTakes_1 rfl 1 rfl ?_
  refine j_iconst (v := 5) ok dX7_noteTakes_2 (by decide) ?_
  obtain ⟨kq1, h⟩ := ck_some h
  obtain ⟨q1, hq1, h⟩ := obind h
  refine k_V1 ok kl_X7_340 ⟨Nat.le_of_ble_eq_true rfl, Nat.le_of_ble_eq_true rfl⟩ [.int l1, .int (5 : Int32)] kq1 rfl rfl (Nat.le_of_ble_eq_true rfl) (tX7_ofNote ok.fl X.V l0 l1 (5 : Int32) G hq1) dX7_noteTakes_3 ?_
  refine j_iconst (v := 1) ok dX7_noteTakes_6 (by decide) ?_
  rcases ite_some h with ⟨c2, h⟩ | ⟨c2, h⟩
  · refine j_icmp_ne (tgt := 14) ok dX7_noteTakes_7 (by decide) (fun z => absurd c2 z) (fun _ => ?_)
    refine j_iconst (v := 1) ok dX7_noteTakes_10 (by decide) ?_
    refine j_goto (tgt := 15) ok dX7_noteTakes_11 (by decide) ?_
    exact J.sub [] rfl (jX7_noteTakes_15 ok (1 : Int32) q1.2 h hK)
  · refine j_icmp_ne (tgt := 14) ok dX7_noteTakes_7 (by decide) (fun _ => ?_) (fun z => absurd z c2)
    refine j_iconst (v := 0) ok dX7_noteTakes_14 (by decide) ?_
    exact J.sub [] rfl (jX7_noteTakes_15 ok (0 : Int32) q1.2 h hK)

def fX7_noteTakes (l0 : Nat) (l1 : Int32) (G : Mem) : Option (Int32 × Mem) := fX7_noteTakes_0 l0 l1 G
set_option maxRecDepth 100000 in
theorem tX7_noteTakes {l : Launch} (hfl : l.stackTraces = false) (V : Wd) (l0 : Nat) (l1 : Int32) (G : Mem) {r : Int32} {G' : Mem} (h : fX7_noteTakes l0 l1 G = some (r, G')) : Mx l yX7_noteTakes cX7_noteTakes 2 (some .boolean) 3 65 V [.ref (V.B + l0), .int l1] G (.inl (some (.int r))) G' :=
  mx_of (L := [(0, .ref (V.B + l0)), (1, .int l1)]) hfl (by decide +kernel) (Nat.le_of_ble_eq_true rfl) rfl (fun X hl hV hin ok he => by
    subst hl; subst hV
    exact J.sub [0, 1] rfl (jX7_noteTakes_0 ok l0 l1 G h he))
def fX7_noteToColumn_0 (l0 : Nat) (l1 : Int32)  (G : Mem) : Option (Int32 × Mem) :=
  ck G 17 l0 <| (fX7_ofNote l0 l1 (3 : Int32) G).bind fun q1 =>
  some (q1.1, q1.2)

set_option maxRecDepth 100000 in
set_option maxHeartbeats 4000000 in
theorem jX7_noteToColumn_0 {X : Cx} (ok : OK X cX7_noteToColumn RX7 (some .int) 2 3 65) (l0 : Nat) (l1 : Int32)  (G : Mem) {r : Int32} {G' : Mem} (h : fX7_noteToColumn_0 l0 l1 G = some (r, G')) (hK : (finI X) r G') : J X 2 0 [(0, .ref (X.B + l0)), (1, .int l1)] [] G := by
  unfold fX7_noteToColumn_0 at h
  refine j_aload_n ok dX7_noteToColumn_0 rfl 0 rfl ?_
  refine j_iload_n ok dX7_noteToColumn_1 rfl 1 rfl ?_
  refine j_iconst (v := 3) ok dX7_noteToColumn_2 (by decide) ?_
  obtain ⟨kq1, h⟩ := ck_some h
  obtain ⟨q1, hq1, h⟩ := obind h
  refine k_V1 ok kl_X7_340 ⟨Nat.le_of_ble_eq_true rfl, Nat.le_of_ble_eq_true rfl⟩ [.int l1, .int (3 : Int32)] kq1 rfl rfl (Nat.le_of_ble_eq_true rfl) (tX7_ofNote ok.fl X.V l0 l1 (3 : Int32) G hq1) dX7_noteToColumn_3 ?_
  obtain ⟨er, eG⟩ := inj2 h
  subst er; subst eG
  exact j_iret ok rfl dX7_noteToColumn_6 hK

def fX7_noteToColumn (l0 : Nat) (l1 : Int32) (G : Mem) : Option (Int32 × Mem) := fX7_noteToColumn_0 l0 l1 G
set_option maxRecDepth 100000 in
theorem tX7_noteToColumn {l : Launch} (hfl : l.stackTraces = false) (V : Wd) (l0 : Nat) (l1 : Int32) (G : Mem) {r : Int32} {G' : Mem} (h : fX7_noteToColumn l0 l1 G = some (r, G')) : Mx l yX7_noteToColumn cX7_noteToColumn 2 (some .int) 3 65 V [.ref (V.B + l0), .int l1] G (.inl (some (.int r))) G' :=
  mx_of (L := [(0, .ref (V.B + l0)), (1, .int l1)]) hfl (by decide +kernel) (Nat.le_of_ble_eq_true rfl) rfl (fun X hl hV hin ok he => by
    subst hl; subst hV
    exact J.sub [0, 1] rfl (jX7_noteToColumn_0 ok l0 l1 G h he))
def fX7_noteToRow_0 (l0 : Nat) (l1 : Int32)  (G : Mem) : Option (Int32 × Mem) :=
  ck G 17 l0 <| (fX7_ofNote l0 l1 (4 : Int32) G).bind fun q1 =>
  some (q1.1, q1.2)

set_option maxRecDepth 100000 in
set_option maxHeartbeats 4000000 in
theorem jX7_noteToRow_0 {X : Cx} (ok : OK X cX7_noteToRow RX7 (some .int) 2 3 65) (l0 : Nat) (l1 : Int32)  (G : Mem) {r : Int32} {G' : Mem} (h : fX7_noteToRow_0 l0 l1 G = some (r, G')) (hK : (finI X) r G') : J X 2 0 [(0, .ref (X.B + l0)), (1, .int l1)] [] G := by
  unfold fX7_noteToRow_0 at h
  refine j_aload_n ok dX7_noteToRow_0 rfl 0 rfl ?_
  refine j_iload_n ok dX7_noteToRow_1 rfl 1 rfl ?_
  refine j_iconst (v := 4) ok dX7_noteToRow_2 (by decide) ?_
  obtain ⟨kq1, h⟩ := ck_some h
  obtain ⟨q1, hq1, h⟩ := obind h
  refine k_V1 ok kl_X7_340 ⟨Nat.le_of_ble_eq_true rfl, Nat.le_of_ble_eq_true rfl⟩ [.int l1, .int (4 : Int32)] kq1 rfl rfl (Nat.le_of_ble_eq_true rfl) (tX7_ofNote ok.fl X.V l0 l1 (4 : Int32) G hq1) dX7_noteToRow_3 ?_
  obtain ⟨er, eG⟩ := inj2 h
  subst er; subst eG
  exact j_iret ok rfl dX7_noteToRow_6 hK

def fX7_noteToRow (l0 : Nat) (l1 : Int32) (G : Mem) : Option (Int32 × Mem) := fX7_noteToRow_0 l0 l1 G
set_option maxRecDepth 100000 in
theorem tX7_noteToRow {l : Launch} (hfl : l.stackTraces = false) (V : Wd) (l0 : Nat) (l1 : Int32) (G : Mem) {r : Int32} {G' : Mem} (h : fX7_noteToRow l0 l1 G = some (r, G')) : Mx l yX7_noteToRow cX7_noteToRow 2 (some .int) 3 65 V [.ref (V.B + l0), .int l1] G (.inl (some (.int r))) G' :=
  mx_of (L := [(0, .ref (V.B + l0)), (1, .int l1)]) hfl (by decide +kernel) (Nat.le_of_ble_eq_true rfl) rfl (fun X hl hV hin ok he => by
    subst hl; subst hV
    exact J.sub [0, 1] rfl (jX7_noteToRow_0 ok l0 l1 G h he))
def fX7_out_0 (l0 : Nat) (l1 : Int32)  (G : Mem) : Option (Unit × Mem) :=
  (gR G 17 l0 8).bind fun v1 =>
  (gF G 17 l0 10).bind fun v2 =>
  (pA G v1 v2 l1).bind fun G3 =>
  (gF G3 17 l0 10).bind fun v4 =>
  (pI G3 17 l0 10 (v4 + (1 : Int32))).bind fun G5 =>
  some ((), G5)

set_option maxRecDepth 100000 in
set_option maxHeartbeats 4000000 in
theorem jX7_out_0 {X : Cx} (ok : OK X cX7_out RX7 none 2 0 0) (l0 : Nat) (l1 : Int32)  (G : Mem) {r : Unit} {G' : Mem} (h : fX7_out_0 l0 l1 G = some (r, G')) (hK : (finV X) r G') : J X 2 0 [(0, .ref (X.B + l0)), (1, .int l1)] [] G := by
  unfold fX7_out_0 at h
  refine j_aload_n ok dX7_out_0 rfl 0 rfl ?_
  obtain ⟨v1, hv1, h⟩ := obind h
  refine k_getR ok fl_X7_29 hv1 dX7_out_1 ?_
  refine j_aload_n ok dX7_out_4 rfl 0 rfl ?_
  obtain ⟨v2, hv2, h⟩ := obind h
  refine k_getI ok fl_X7_395 hv2 dX7_out_5 ?_
  refine j_iload_n ok dX7_out_8 rfl 1 rfl ?_
  obtain ⟨G3, hG3, h⟩ := obind h
  refine j_iast ok hG3 dX7_out_9 ?_
  refine j_aload_n ok dX7_out_10 rfl 0 rfl ?_
  refine j_dup ok dX7_out_11 rfl ?_
  obtain ⟨v4, hv4, h⟩ := obind h
  refine k_getI ok fl_X7_395 hv4 dX7_out_12 ?_
  refine j_iconst (v := 1) ok dX7_out_15 (by decide) ?_
  refine j_iadd ok dX7_out_16 ?_
  obtain ⟨G5, hG5, h⟩ := obind h
  refine k_putI ok fl_X7_395 fp_X7 rfl (Or.inl rfl) hG5 dX7_out_17 ?_
  obtain ⟨er, eG⟩ := inj2 h
  subst er; subst eG
  exact j_vret ok rfl dX7_out_20 hK

def fX7_out (l0 : Nat) (l1 : Int32) (G : Mem) : Option (Unit × Mem) := fX7_out_0 l0 l1 G
set_option maxRecDepth 100000 in
theorem tX7_out {l : Launch} (hfl : l.stackTraces = false) (V : Wd) (l0 : Nat) (l1 : Int32) (G : Mem) {r : Unit} {G' : Mem} (h : fX7_out l0 l1 G = some (r, G')) : Mx l yX7_out cX7_out 2 none 0 0 V [.ref (V.B + l0), .int l1] G (.inl none) G' :=
  mx_of (L := [(0, .ref (V.B + l0)), (1, .int l1)]) hfl (by decide +kernel) (Nat.le_of_ble_eq_true rfl) rfl (fun X hl hV hin ok he => by
    subst hl; subst hV
    exact J.sub [0, 1] rfl (jX7_out_0 ok l0 l1 G h he))
def fX7_outputByte_29  (s0 : Int32) (G : Mem) : Option (Int32 × Mem) :=
  some (s0, G)

set_option maxRecDepth 100000 in
set_option maxHeartbeats 4000000 in
theorem jX7_outputByte_29 {X : Cx} (ok : OK X cX7_outputByte RX7 (some .int) 2 1 22)  (s0 : Int32) (G : Mem) {r : Int32} {G' : Mem} (h : fX7_outputByte_29 s0 G = some (r, G')) (hK : (finI X) r G') : J X 2 29 [] [.int s0] G := by
  unfold fX7_outputByte_29 at h
  obtain ⟨er, eG⟩ := inj2 h
  subst er; subst eG
  exact j_iret ok rfl dX7_outputByte_29 hK

def fX7_outputByte_0 (l0 : Nat) (l1 : Int32)  (G : Mem) : Option (Int32 × Mem) :=
  (pI G 17 l0 6 (0 : Int32)).bind fun G1 =>
  (gF G1 17 l0 10).bind fun v2 =>
  (fX7_isIn l1 (0 : Int32) (v2 - (1 : Int32)) G1).bind fun q3 =>
  if q3.1 = (0 : Int32) then
    fX7_outputByte_29 (-1 : Int32) q3.2
  else
    (gR q3.2 17 l0 8).bind fun v5 =>
    (gA q3.2 1 v5 l1).bind fun v6 =>
    fX7_outputByte_29 v6 q3.2

set_option maxRecDepth 100000 in
set_option maxHeartbeats 4000000 in
theorem jX7_outputByte_0 {X : Cx} (ok : OK X cX7_outputByte RX7 (some .int) 2 1 22) (l0 : Nat) (l1 : Int32)  (G : Mem) {r : Int32} {G' : Mem} (h : fX7_outputByte_0 l0 l1 G = some (r, G')) (hK : (finI X) r G') : J X 2 0 [(0, .ref (X.B + l0)), (1, .int l1)] [] G := by
  unfold fX7_outputByte_0 at h
  refine j_aload_n ok dX7_outputByte_0 rfl 0 rfl ?_
  refine j_iconst (v := 0) ok dX7_outputByte_1 (by decide) ?_
  obtain ⟨G1, hG1, h⟩ := obind h
  refine k_putI ok fl_X7_86 fp_X7 rfl (Or.inl rfl) hG1 dX7_outputByte_2 ?_
  refine j_iload_n ok dX7_outputByte_5 rfl 1 rfl ?_
  refine j_iconst (v := 0) ok dX7_outputByte_6 (by decide) ?_
  refine j_aload_n ok dX7_outputByte_7 rfl 0 rfl ?_
  obtain ⟨v2, hv2, h⟩ := obind h
  refine k_getI ok fl_X7_395 hv2 dX7_outputByte_8 ?_
  refine j_iconst (v := 1) ok dX7_outputByte_11 (by decide) ?_
  refine j_isub ok dX7_outputByte_12 ?_
  obtain ⟨q3, hq3, h⟩ := obind h
  refine k_S1 ok kl_X7_182 ⟨Nat.le_of_ble_eq_true rfl, Nat.le_of_ble_eq_true rfl⟩ [.int l1, .int (0 : Int32), .int (v2 - (1 : Int32))] rfl rfl (Nat.le_of_ble_eq_true rfl) (tX7_isIn ok.fl X.V l1 (0 : Int32) (v2 - (1 : Int32)) G1 hq3) dX7_outputByte_13 ?_
  rcases ite_some h with ⟨c4, h⟩ | ⟨c4, h⟩
  · refine j_if_eq (tgt := 28) ok dX7_outputByte_16 (by decide) (fun _ => ?_) (fun z => absurd c4 z)
    refine j_iconst (v := -1) ok dX7_outputByte_28 (by decide) ?_
    exact J.sub [] rfl (jX7_outputByte_29 ok (-1 : Int32) q3.2 h hK)
  · refine j_if_eq (tgt := 28) ok dX7_outputByte_16 (by decide) (fun z => absurd z c4) (fun _ => ?_)
    refine j_aload_n ok dX7_outputByte_19 rfl 0 rfl ?_
    obtain ⟨v5, hv5, h⟩ := obind h
    refine k_getR ok fl_X7_29 hv5 dX7_outputByte_20 ?_
    refine j_iload_n ok dX7_outputByte_23 rfl 1 rfl ?_
    obtain ⟨v6, hv6, h⟩ := obind h
    refine j_iald ok hv6 dX7_outputByte_24 ?_
    refine j_goto (tgt := 29) ok dX7_outputByte_25 (by decide) ?_
    exact J.sub [] rfl (jX7_outputByte_29 ok v6 q3.2 h hK)

def fX7_outputByte (l0 : Nat) (l1 : Int32) (G : Mem) : Option (Int32 × Mem) := fX7_outputByte_0 l0 l1 G
set_option maxRecDepth 100000 in
theorem tX7_outputByte {l : Launch} (hfl : l.stackTraces = false) (V : Wd) (l0 : Nat) (l1 : Int32) (G : Mem) {r : Int32} {G' : Mem} (h : fX7_outputByte l0 l1 G = some (r, G')) : Mx l yX7_outputByte cX7_outputByte 2 (some .int) 1 22 V [.ref (V.B + l0), .int l1] G (.inl (some (.int r))) G' :=
  mx_of (L := [(0, .ref (V.B + l0)), (1, .int l1)]) hfl (by decide +kernel) (Nat.le_of_ble_eq_true rfl) rfl (fun X hl hV hin ok he => by
    subst hl; subst hV
    exact J.sub [0, 1] rfl (jX7_outputByte_0 ok l0 l1 G h he))
def fX7_play_0 (l0 : Nat)  (G : Mem) : Option (Int32 × Mem) :=
  ck G 17 l0 <| (fX7_starts l0 G).bind fun q1 =>
  ck q1.2 17 l0 <| (fX7_commands l0 q1.2).bind fun q2 =>
  some (q2.1, q2.2)

set_option maxRecDepth 100000 in
set_option maxHeartbeats 4000000 in
theorem jX7_play_0 {X : Cx} (ok : OK X cX7_play RX7 (some .int) 1 11 338) (l0 : Nat)  (G : Mem) {r : Int32} {G' : Mem} (h : fX7_play_0 l0 G = some (r, G')) (hK : (finI X) r G') : J X 1 0 [(0, .ref (X.B + l0))] [] G := by
  unfold fX7_play_0 at h
  refine j_aload_n ok dX7_play_0 rfl 0 rfl ?_
  obtain ⟨kq1, h⟩ := ck_some h
  obtain ⟨q1, hq1, h⟩ := obind h
  refine k_V0 ok kl_X7_314 ⟨Nat.le_of_ble_eq_true rfl, Nat.le_of_ble_eq_true rfl⟩ [] kq1 rfl rfl (Nat.le_of_ble_eq_true rfl) (tX7_starts ok.fl X.V l0 G hq1) dX7_play_1 ?_
  refine j_aload_n ok dX7_play_4 rfl 0 rfl ?_
  obtain ⟨kq2, h⟩ := ck_some h
  obtain ⟨q2, hq2, h⟩ := obind h
  refine k_V1 ok kl_X7_324 ⟨Nat.le_of_ble_eq_true rfl, Nat.le_of_ble_eq_true rfl⟩ [] kq2 rfl rfl (Nat.le_of_ble_eq_true rfl) (tX7_commands ok.fl X.V l0 q1.2 hq2) dX7_play_5 ?_
  obtain ⟨er, eG⟩ := inj2 h
  subst er; subst eG
  exact j_iret ok rfl dX7_play_8 hK

def fX7_play (l0 : Nat) (G : Mem) : Option (Int32 × Mem) := fX7_play_0 l0 G
set_option maxRecDepth 100000 in
theorem tX7_play {l : Launch} (hfl : l.stackTraces = false) (V : Wd) (l0 : Nat) (G : Mem) {r : Int32} {G' : Mem} (h : fX7_play l0 G = some (r, G')) : Mx l yX7_play cX7_play 1 (some .int) 11 338 V [.ref (V.B + l0)] G (.inl (some (.int r))) G' :=
  mx_of (L := [(0, .ref (V.B + l0))]) hfl (by decide +kernel) (Nat.le_of_ble_eq_true rfl) rfl (fun X hl hV hin ok he => by
    subst hl; subst hV
    exact J.sub [0] rfl (jX7_play_0 ok l0 G h he))
def fX7_positionsAfter_38  (s0 : Int32) (G : Mem) : Option (Int32 × Mem) :=
  some (s0, G)

set_option maxRecDepth 100000 in
set_option maxHeartbeats 4000000 in
theorem jX7_positionsAfter_38 {X : Cx} (ok : OK X cX7_positionsAfter RX7 (some .int) 2 1 23)  (s0 : Int32) (G : Mem) {r : Int32} {G' : Mem} (h : fX7_positionsAfter_38 s0 G = some (r, G')) (hK : (finI X) r G') : J X 2 38 [] [.int s0] G := by
  unfold fX7_positionsAfter_38 at h
  obtain ⟨er, eG⟩ := inj2 h
  subst er; subst eG
  exact j_iret ok rfl dX7_positionsAfter_38 hK

def fX7_positionsAfter_20 (l0 : Nat) (l1 : Int32) (s0 : Nat) (s1 : Int32) (G : Mem) : Option (Int32 × Mem) :=
  ck G 17 s0 <| (fX7_fails s0 s1 (0 : Int32) (0 : Int32) G).bind fun q1 =>
  if q1.1 = (0 : Int32) then
    (gR q1.2 17 l0 14).bind fun v3 =>
    (gA q1.2 1 v3 l1).bind fun v4 =>
    fX7_positionsAfter_38 v4 q1.2
  else
    fX7_positionsAfter_38 (0 : Int32) q1.2

set_option maxRecDepth 100000 in
set_option maxHeartbeats 4000000 in
theorem jX7_positionsAfter_20 {X : Cx} (ok : OK X cX7_positionsAfter RX7 (some .int) 2 1 23) (l0 : Nat) (l1 : Int32) (s0 : Nat) (s1 : Int32) (G : Mem) {r : Int32} {G' : Mem} (h : fX7_positionsAfter_20 l0 l1 s0 s1 G = some (r, G')) (hK : (finI X) r G') : J X 2 20 [(0, .ref (X.B + l0)), (1, .int l1)] [.int s1, .ref (X.B + s0)] G := by
  unfold fX7_positionsAfter_20 at h
  refine j_iconst (v := 0) ok dX7_positionsAfter_20 (by decide) ?_
  refine j_iconst (v := 0) ok dX7_positionsAfter_21 (by decide) ?_
  obtain ⟨kq1, h⟩ := ck_some h
  obtain ⟨q1, hq1, h⟩ := obind h
  refine k_V1 ok kl_X7_186 ⟨Nat.le_of_ble_eq_true rfl, Nat.le_of_ble_eq_true rfl⟩ [.int s1, .int (0 : Int32), .int (0 : Int32)] kq1 rfl rfl (Nat.le_of_ble_eq_true rfl) (tX7_fails ok.fl X.V s0 s1 (0 : Int32) (0 : Int32) G hq1) dX7_positionsAfter_22 ?_
  rcases ite_some h with ⟨c2, h⟩ | ⟨c2, h⟩
  · refine j_if_eq (tgt := 32) ok dX7_positionsAfter_25 (by decide) (fun _ => ?_) (fun z => absurd c2 z)
    refine j_aload_n ok dX7_positionsAfter_32 rfl 0 rfl ?_
    obtain ⟨v3, hv3, h⟩ := obind h
    refine k_getR ok fl_X7_39 hv3 dX7_positionsAfter_33 ?_
    refine j_iload_n ok dX7_positionsAfter_36 rfl 1 rfl ?_
    obtain ⟨v4, hv4, h⟩ := obind h
    refine j_iald ok hv4 dX7_positionsAfter_37 ?_
    exact J.sub [] rfl (jX7_positionsAfter_38 ok v4 q1.2 h hK)
  · refine j_if_eq (tgt := 32) ok dX7_positionsAfter_25 (by decide) (fun z => absurd z c2) (fun _ => ?_)
    refine j_iconst (v := 0) ok dX7_positionsAfter_28 (by decide) ?_
    refine j_goto (tgt := 38) ok dX7_positionsAfter_29 (by decide) ?_
    exact J.sub [] rfl (jX7_positionsAfter_38 ok (0 : Int32) q1.2 h hK)

def fX7_positionsAfter_0 (l0 : Nat) (l1 : Int32)  (G : Mem) : Option (Int32 × Mem) :=
  (gR G 17 l0 0).bind fun v1 =>
  (gA G 1 v1 (2 : Int32)).bind fun v2 =>
  (fX7_isIn l1 (0 : Int32) v2 G).bind fun q3 =>
  if q3.1 = (0 : Int32) then
    fX7_positionsAfter_20 l0 l1 l0 (1 : Int32) q3.2
  else
    fX7_positionsAfter_20 l0 l1 l0 (0 : Int32) q3.2

set_option maxRecDepth 100000 in
set_option maxHeartbeats 4000000 in
theorem jX7_positionsAfter_0 {X : Cx} (ok : OK X cX7_positionsAfter RX7 (some .int) 2 1 23) (l0 : Nat) (l1 : Int32)  (G : Mem) {r : Int32} {G' : Mem} (h : fX7_positionsAfter_0 l0 l1 G = some (r, G')) (hK : (finI X) r G') : J X 2 0 [(0, .ref (X.B + l0)), (1, .int l1)] [] G := by
  unfold fX7_positionsAfter_0 at h
  refine j_aload_n ok dX7_positionsAfter_0 rfl 0 rfl ?_
  refine j_iload_n ok dX7_positionsAfter_1 rfl 1 rfl ?_
  refine j_iconst (v := 0) ok dX7_positionsAfter_2 (by decide) ?_
  refine j_aload_n ok dX7_positionsAfter_3 rfl 0 rfl ?_
  obtain ⟨v1, hv1, h⟩ := obind h
  refine k_getR ok fl_X7_9 hv1 dX7_positionsAfter_4 ?_
  refine j_iconst (v := 2) ok dX7_positionsAfter_7 (by decide) ?_
  obtain ⟨v2, hv2, h⟩ := obind h
  refine j_iald ok hv2 dX7_positionsAfter_8 ?_
  obtain ⟨q3, hq3, h⟩ := obind h
  refine k_S1 ok kl_X7_182 ⟨Nat.le_of_ble_eq_true rfl, Nat.le_of_ble_eq_true rfl⟩ [.int l1, .int (0 : Int32), .int v2] rfl rfl (Nat.le_of_ble_eq_true rfl) (tX7_isIn ok.fl X.V l1 (0 : Int32) v2 G hq3) dX7_positionsAfter_9 ?_
  rcases ite_some h with ⟨c4, h⟩ | ⟨c4, h⟩
  · refine j_if_ne (tgt := 19) ok dX7_positionsAfter_12 (by decide) (fun z => absurd c4 z) (fun _ => ?_)
    refine j_iconst (v := 1) ok dX7_positionsAfter_15 (by decide) ?_
    refine j_goto (tgt := 20) ok dX7_positionsAfter_16 (by decide) ?_
    exact J.sub [0, 1] rfl (jX7_positionsAfter_20 ok l0 l1 l0 (1 : Int32) q3.2 h hK)
  · refine j_if_ne (tgt := 19) ok dX7_positionsAfter_12 (by decide) (fun _ => ?_) (fun z => absurd z c4)
    refine j_iconst (v := 0) ok dX7_positionsAfter_19 (by decide) ?_
    exact J.sub [0, 1] rfl (jX7_positionsAfter_20 ok l0 l1 l0 (0 : Int32) q3.2 h hK)

def fX7_positionsAfter (l0 : Nat) (l1 : Int32) (G : Mem) : Option (Int32 × Mem) := fX7_positionsAfter_0 l0 l1 G
set_option maxRecDepth 100000 in
theorem tX7_positionsAfter {l : Launch} (hfl : l.stackTraces = false) (V : Wd) (l0 : Nat) (l1 : Int32) (G : Mem) {r : Int32} {G' : Mem} (h : fX7_positionsAfter l0 l1 G = some (r, G')) : Mx l yX7_positionsAfter cX7_positionsAfter 2 (some .int) 1 23 V [.ref (V.B + l0), .int l1] G (.inl (some (.int r))) G' :=
  mx_of (L := [(0, .ref (V.B + l0)), (1, .int l1)]) hfl (by decide +kernel) (Nat.le_of_ble_eq_true rfl) rfl (fun X hl hV hin ok he => by
    subst hl; subst hV
    exact J.sub [0, 1] rfl (jX7_positionsAfter_0 ok l0 l1 G h he))
