def fJ4_append_15ec4_0 (l0 : Nat) (l1 : Nat)  (G : Mem) : Option (Nat × Mem) :=
  ck G 18 l0 <| (fJ5_append_cf1ce l0 l1 G).bind fun q1 =>
  some (l0, q1.2)

set_option maxRecDepth 100000 in
set_option maxHeartbeats 4000000 in
theorem jJ4_append_15ec4_0 {X : Cx} (ok : OK X cJ4_append_15ec4 RJ4 (some (.object "java/lang/StringBuilder")) 2 5 212) (l0 : Nat) (l1 : Nat)  (G : Mem) {r : Nat} {G' : Mem} (h : fJ4_append_15ec4_0 l0 l1 G = some (r, G')) (hK : (finR X) r G') : J X 2 0 [(0, .ref (X.B + l0)), (1, .ref (X.V.sa l1))] [] G := by
  unfold fJ4_append_15ec4_0 at h
  refine j_aload_n ok dJ4_append_15ec4_0 rfl 0 rfl ?_
  refine j_aload_n ok dJ4_append_15ec4_1 rfl 1 rfl ?_
  obtain ⟨kq1, h⟩ := ck_some h
  obtain ⟨q1, hq1, h⟩ := obind h
  refine k_P1 ok kl_J4_29 ⟨Nat.le_of_ble_eq_true rfl, Nat.le_of_ble_eq_true rfl⟩ [.ref (X.V.sa l1)] kq1 rfl rfl (Nat.le_of_ble_eq_true rfl) (tJ5_append_cf1ce ok.fl X.V l0 l1 G hq1) dJ4_append_15ec4_2 ?_
  refine j_pop ok dJ4_append_15ec4_5 rfl ?_
  refine j_aload_n ok dJ4_append_15ec4_6 rfl 0 rfl ?_
  obtain ⟨er, eG⟩ := inj2 h
  subst er; subst eG
  exact j_aret ok rfl (Or.inl ⟨_, rfl⟩) dJ4_append_15ec4_7 hK

def fJ4_append_15ec4 (l0 : Nat) (l1 : Nat) (G : Mem) : Option (Nat × Mem) := fJ4_append_15ec4_0 l0 l1 G
set_option maxRecDepth 100000 in
theorem tJ4_append_15ec4 {l : Launch} (hfl : l.stackTraces = false) (V : Wd) (l0 : Nat) (l1 : Nat) (G : Mem) {r : Nat} {G' : Mem} (h : fJ4_append_15ec4 l0 l1 G = some (r, G')) : Mx l yJ4_append_15ec4 cJ4_append_15ec4 2 (some (.object "java/lang/StringBuilder")) 5 212 V [.ref (V.B + l0), .ref (V.sa l1)] G (.inl (some (.ref (V.B + r)))) G' :=
  mx_of (L := [(0, .ref (V.B + l0)), (1, .ref (V.sa l1))]) hfl (by decide +kernel) (Nat.le_of_ble_eq_true rfl) rfl (fun X hl hV hin ok he => by
    subst hl; subst hV
    exact J.sub [0, 1] rfl (jJ4_append_15ec4_0 ok l0 l1 G h he))
def fJ6_stringSize_0f7a4_42 (l1 : Int32)  (G : Mem) : Option (Int32 × Mem) :=
  some (((10 : Int32) + l1), G)

set_option maxRecDepth 100000 in
set_option maxHeartbeats 4000000 in
theorem jJ6_stringSize_0f7a4_42 {X : Cx} (ok : OK X cJ6_stringSize_0f7a4 RJ6 (some .int) 4 0 0) (l1 : Int32)  (G : Mem) {r : Int32} {G' : Mem} (h : fJ6_stringSize_0f7a4_42 l1 G = some (r, G')) (hK : (finI X) r G') : J X 4 42 [(1, .int l1)] [] G := by
  unfold fJ6_stringSize_0f7a4_42 at h
  refine j_bipush (v := 10) ok dJ6_stringSize_0f7a4_42 (by decide) ?_
  refine j_iload_n ok dJ6_stringSize_0f7a4_44 rfl 0 rfl ?_
  refine j_iadd ok dJ6_stringSize_0f7a4_45 ?_
  obtain ⟨er, eG⟩ := inj2 h
  subst er; subst eG
  exact j_iret ok rfl dJ6_stringSize_0f7a4_46 hK

def fJ6_stringSize_0f7a4_27 (l1 : Int32) (l3 : Int32)  (G : Mem) : Option (Int32 × Mem) :=
  some ((l3 + l1), G)

set_option maxRecDepth 100000 in
set_option maxHeartbeats 4000000 in
theorem jJ6_stringSize_0f7a4_27 {X : Cx} (ok : OK X cJ6_stringSize_0f7a4 RJ6 (some .int) 4 0 0) (l1 : Int32) (l3 : Int32)  (G : Mem) {r : Int32} {G' : Mem} (h : fJ6_stringSize_0f7a4_27 l1 l3 G = some (r, G')) (hK : (finI X) r G') : J X 4 27 [(1, .int l1), (3, .int l3)] [] G := by
  unfold fJ6_stringSize_0f7a4_27 at h
  refine j_iload_n ok dJ6_stringSize_0f7a4_27 rfl 1 rfl ?_
  refine j_iload_n ok dJ6_stringSize_0f7a4_28 rfl 0 rfl ?_
  refine j_iadd ok dJ6_stringSize_0f7a4_29 ?_
  obtain ⟨er, eG⟩ := inj2 h
  subst er; subst eG
  exact j_iret ok rfl dJ6_stringSize_0f7a4_30 hK

def fJ6_stringSize_0f7a4_16 (l0 : Int32) (l1 : Int32) (l2 : Int32) (l3 : Int32)  (G : Mem) : Option (((Int32 × Int32) ⊕ Int32) × Mem) :=
  if (10 : Int32) ≤ l3 then
    liftE (fJ6_stringSize_0f7a4_42 l1 G)
  else
    if l0 ≤ l2 then
      some (.inl (((10 : Int32) * l2), (l3 + (1 : Int32))), G)
    else
      liftE (fJ6_stringSize_0f7a4_27 l1 l3 G)

set_option maxRecDepth 100000 in
set_option maxHeartbeats 4000000 in
theorem jJ6_stringSize_0f7a4_16 {X : Cx} (ok : OK X cJ6_stringSize_0f7a4 RJ6 (some .int) 4 0 0) (l0 : Int32) (l1 : Int32) (l2 : Int32) (l3 : Int32)  (G : Mem) {r : ((Int32 × Int32) ⊕ Int32)} {G' : Mem} (h : fJ6_stringSize_0f7a4_16 l0 l1 l2 l3 G = some (r, G')) (hK : (finL X 4 16 (fun s : Int32 × Int32 => [(0, .int l0), (1, .int l1), (2, .int s.1), (3, .int s.2)]) (finI X)) r G') : J X 4 16 [(0, .int l0), (1, .int l1), (2, .int l2), (3, .int l3)] [] G := by
  unfold fJ6_stringSize_0f7a4_16 at h
  refine j_iload_n ok dJ6_stringSize_0f7a4_16 rfl 3 rfl ?_
  refine j_bipush (v := 10) ok dJ6_stringSize_0f7a4_17 (by decide) ?_
  rcases ite_some h with ⟨c1, h⟩ | ⟨c1, h⟩
  · refine j_icmp_ge (tgt := 42) ok dJ6_stringSize_0f7a4_19 (by decide) (fun _ => ?_) (fun z => absurd c1 z)
    obtain ⟨r1, e1, h1⟩ := lift_some h
    subst e1
    exact J.sub [1] rfl (jJ6_stringSize_0f7a4_42 ok l1 G h1 hK)
  · refine j_icmp_ge (tgt := 42) ok dJ6_stringSize_0f7a4_19 (by decide) (fun z => absurd z c1) (fun _ => ?_)
    refine j_iload_n ok dJ6_stringSize_0f7a4_22 rfl 0 rfl ?_
    refine j_iload_n ok dJ6_stringSize_0f7a4_23 rfl 2 rfl ?_
    rcases ite_some h with ⟨c2, h⟩ | ⟨c2, h⟩
    · refine j_icmp_le (tgt := 31) ok dJ6_stringSize_0f7a4_24 (by decide) (fun _ => ?_) (fun z => absurd c2 z)
      refine j_bipush (v := 10) ok dJ6_stringSize_0f7a4_31 (by decide) ?_
      refine j_iload_n ok dJ6_stringSize_0f7a4_33 rfl 2 rfl ?_
      refine j_imul ok dJ6_stringSize_0f7a4_34 ?_
      refine j_istore_n (L' := [(2, .int ((10 : Int32) * l2)), (0, .int l0), (1, .int l1), (3, .int l3)]) ok dJ6_stringSize_0f7a4_35 rfl (by decide) rfl ?_
      refine j_iinc (L' := [(3, .int (l3 + (1 : Int32))), (2, .int ((10 : Int32) * l2)), (0, .int l0), (1, .int l1)]) (v := (l3 + (1 : Int32))) ok dJ6_stringSize_0f7a4_36 (q := 3) rfl rfl (by decide) rfl ?_
      refine j_goto (tgt := 16) ok dJ6_stringSize_0f7a4_39 (by decide) ?_
      obtain ⟨er, eG⟩ := inj2 h
      subst er; subst eG
      have hJ : J X 4 16 [(0, .int l0), (1, .int l1), (2, .int ((10 : Int32) * l2)), (3, .int (l3 + (1 : Int32)))] [] G := hK
      exact J.sub [2, 3, 1, 0] rfl hJ
    · refine j_icmp_le (tgt := 31) ok dJ6_stringSize_0f7a4_24 (by decide) (fun z => absurd z c2) (fun _ => ?_)
      obtain ⟨r1, e1, h1⟩ := lift_some h
      subst e1
      exact J.sub [1, 3] rfl (jJ6_stringSize_0f7a4_27 ok l1 l3 G h1 hK)

def fJ6_stringSize_0f7a4_11 (l0 : Int32) (l1 : Int32)  (G : Mem) : Option (Int32 × Mem) :=
  loopM (fun (s : Int32 × Int32) G => fJ6_stringSize_0f7a4_16 l0 l1 s.1 s.2 G) FU ((-10 : Int32), (1 : Int32)) G

set_option maxRecDepth 100000 in
set_option maxHeartbeats 4000000 in
theorem jJ6_stringSize_0f7a4_11 {X : Cx} (ok : OK X cJ6_stringSize_0f7a4 RJ6 (some .int) 4 0 0) (l0 : Int32) (l1 : Int32)  (G : Mem) {r : Int32} {G' : Mem} (h : fJ6_stringSize_0f7a4_11 l0 l1 G = some (r, G')) (hK : (finI X) r G') : J X 4 11 [(0, .int l0), (1, .int l1)] [] G := by
  unfold fJ6_stringSize_0f7a4_11 at h
  refine j_bipush (v := -10) ok dJ6_stringSize_0f7a4_11 (by decide) ?_
  refine j_istore_n (L' := [(2, .int (-10 : Int32)), (0, .int l0), (1, .int l1)]) ok dJ6_stringSize_0f7a4_13 rfl (by decide) rfl ?_
  refine j_iconst (v := 1) ok dJ6_stringSize_0f7a4_14 (by decide) ?_
  refine j_istore_n (L' := [(3, .int (1 : Int32)), (2, .int (-10 : Int32)), (0, .int l0), (1, .int l1)]) ok dJ6_stringSize_0f7a4_15 rfl (by decide) rfl ?_
  have hJ : J X 4 16 [(0, .int l0), (1, .int l1), (2, .int (-10 : Int32)), (3, .int (1 : Int32))] [] G := j_loop (loc := fun s : Int32 × Int32 => [(0, .int l0), (1, .int l1), (2, .int s.1), (3, .int s.2)]) (F := (finI X)) (fun s G r G' hb hk => jJ6_stringSize_0f7a4_16 ok l0 l1 s.1 s.2 G hb hk) _ _ _ _ _ h hK
  exact J.sub [2, 3, 1, 0] rfl hJ

def fJ6_stringSize_0f7a4_0 (l0 : Int32)  (G : Mem) : Option (Int32 × Mem) :=
  if l0 < (0 : Int32) then
    fJ6_stringSize_0f7a4_11 l0 (1 : Int32) G
  else
    fJ6_stringSize_0f7a4_11 (-l0) (0 : Int32) G

set_option maxRecDepth 100000 in
set_option maxHeartbeats 4000000 in
theorem jJ6_stringSize_0f7a4_0 {X : Cx} (ok : OK X cJ6_stringSize_0f7a4 RJ6 (some .int) 4 0 0) (l0 : Int32)  (G : Mem) {r : Int32} {G' : Mem} (h : fJ6_stringSize_0f7a4_0 l0 G = some (r, G')) (hK : (finI X) r G') : J X 4 0 [(0, .int l0)] [] G := by
  unfold fJ6_stringSize_0f7a4_0 at h
  refine j_iconst (v := 1) ok dJ6_stringSize_0f7a4_0 (by decide) ?_
  refine j_istore_n (L' := [(1, .int (1 : Int32)), (0, .int l0)]) ok dJ6_stringSize_0f7a4_1 rfl (by decide) rfl ?_
  refine j_iload_n ok dJ6_stringSize_0f7a4_2 rfl 1 rfl ?_
  rcases ite_some h with ⟨c1, h⟩ | ⟨c1, h⟩
  · refine j_if_lt (tgt := 11) ok dJ6_stringSize_0f7a4_3 (by decide) (fun _ => ?_) (fun z => absurd c1 z)
    exact J.sub [1, 0] rfl (jJ6_stringSize_0f7a4_11 ok l0 (1 : Int32) G h hK)
  · refine j_if_lt (tgt := 11) ok dJ6_stringSize_0f7a4_3 (by decide) (fun z => absurd z c1) (fun _ => ?_)
    refine j_iconst (v := 0) ok dJ6_stringSize_0f7a4_6 (by decide) ?_
    refine j_istore_n (L' := [(1, .int (0 : Int32)), (0, .int l0)]) ok dJ6_stringSize_0f7a4_7 rfl (by decide) rfl ?_
    refine j_iload_n ok dJ6_stringSize_0f7a4_8 rfl 1 rfl ?_
    refine j_ineg ok dJ6_stringSize_0f7a4_9 ?_
    refine j_istore_n (L' := [(0, .int (-l0)), (1, .int (0 : Int32))]) ok dJ6_stringSize_0f7a4_10 rfl (by decide) rfl ?_
    exact J.sub [0, 1] rfl (jJ6_stringSize_0f7a4_11 ok (-l0) (0 : Int32) G h hK)

def fJ6_stringSize_0f7a4 (l0 : Int32) (G : Mem) : Option (Int32 × Mem) := fJ6_stringSize_0f7a4_0 l0 G
set_option maxRecDepth 100000 in
theorem tJ6_stringSize_0f7a4 {l : Launch} (hfl : l.stackTraces = false) (V : Wd) (l0 : Int32) (G : Mem) {r : Int32} {G' : Mem} (h : fJ6_stringSize_0f7a4 l0 G = some (r, G')) : Mx l yJ6_stringSize_0f7a4 cJ6_stringSize_0f7a4 4 (some .int) 0 0 V [.int l0] G (.inl (some (.int r))) G' :=
  mx_of (L := [(0, .int l0)]) hfl (by decide +kernel) (Nat.le_of_ble_eq_true rfl) rfl (fun X hl hV hin ok he => by
    subst hl; subst hV
    exact J.sub [0] rfl (jJ6_stringSize_0f7a4_0 ok l0 G h he))
def fJ6_getChars_ba4f3_118 (l5 : Int32)  (G : Mem) : Option (Int32 × Mem) :=
  some (l5, G)

set_option maxRecDepth 100000 in
set_option maxHeartbeats 4000000 in
theorem jJ6_getChars_ba4f3_118 {X : Cx} (ok : OK X cJ6_getChars_ba4f3 RJ6 (some .int) 7 0 0) (l5 : Int32)  (G : Mem) {r : Int32} {G' : Mem} (h : fJ6_getChars_ba4f3_118 l5 G = some (r, G')) (hK : (finI X) r G') : J X 7 118 [(5, .int l5)] [] G := by
  unfold fJ6_getChars_ba4f3_118 at h
  refine j_iload ok dJ6_getChars_ba4f3_118 0 rfl ?_
  obtain ⟨er, eG⟩ := inj2 h
  subst er; subst eG
  exact j_iret ok rfl dJ6_getChars_ba4f3_120 hK

def fJ6_getChars_ba4f3_22 (l0 : Int32) (l2 : Nat) (l5 : Int32) (l6 : Int32)  (G : Mem) : Option (Int32 × Mem) :=
  if (-100 : Int32) < l0 then
    (tb 0 (-l0)).bind fun v2 =>
    (pB G l2 (l5 + (-1 : Int32)) v2).bind fun G3 =>
    if (-9 : Int32) ≤ l0 then
      if l6 = (0 : Int32) then
        fJ6_getChars_ba4f3_118 (l5 + (-1 : Int32)) G3
      else
        (pB G3 l2 ((l5 + (-1 : Int32)) + (-1 : Int32)) (45 : Int32)).bind fun G6 =>
        fJ6_getChars_ba4f3_118 ((l5 + (-1 : Int32)) + (-1 : Int32)) G6
    else
      none
  else
    (tb 0 (((l0 / (100 : Int32)) * (100 : Int32)) - l0)).bind fun v2 =>
    (pB G l2 (l5 + (-1 : Int32)) v2).bind fun G3 =>
    none

set_option maxRecDepth 100000 in
set_option maxHeartbeats 4000000 in
theorem jJ6_getChars_ba4f3_22 {X : Cx} (ok : OK X cJ6_getChars_ba4f3 RJ6 (some .int) 7 0 0) (l0 : Int32) (l2 : Nat) (l5 : Int32) (l6 : Int32)  (G : Mem) {r : Int32} {G' : Mem} (h : fJ6_getChars_ba4f3_22 l0 l2 l5 l6 G = some (r, G')) (hK : (finI X) r G') : J X 7 22 [(0, .int l0), (2, .ref (X.B + l2)), (5, .int l5), (6, .int l6)] [] G := by
  unfold fJ6_getChars_ba4f3_22 at h
  refine j_iload_n ok dJ6_getChars_ba4f3_22 rfl 0 rfl ?_
  refine j_bipush (v := -100) ok dJ6_getChars_ba4f3_23 (by decide) ?_
  rcases ite_some h with ⟨c1, h⟩ | ⟨c1, h⟩
  · refine j_icmp_gt (tgt := 72) ok dJ6_getChars_ba4f3_25 (by decide) (fun _ => ?_) (fun z => absurd c1 z)
    refine j_aload_n ok dJ6_getChars_ba4f3_72 rfl 1 rfl ?_
    refine j_iinc (L' := [(5, .int (l5 + (-1 : Int32))), (0, .int l0), (2, .ref (X.B + l2)), (6, .int l6)]) (v := (l5 + (-1 : Int32))) ok dJ6_getChars_ba4f3_73 (q := 2) rfl rfl (by decide) rfl ?_
    refine j_iload ok dJ6_getChars_ba4f3_76 0 rfl ?_
    refine k_tab ok (k := 0) (by decide) wg_J6_83 dJ6_getChars_ba4f3_78 ?_
    refine j_iload_n ok dJ6_getChars_ba4f3_81 rfl 1 rfl ?_
    refine j_ineg ok dJ6_getChars_ba4f3_82 ?_
    obtain ⟨v2, hv2, h⟩ := obind h
    refine k_tbaload ok (k := 0) (by decide) hv2 dJ6_getChars_ba4f3_83 ?_
    obtain ⟨G3, hG3, h⟩ := obind h
    refine j_bast ok hG3 dJ6_getChars_ba4f3_84 ?_
    refine j_iload_n ok dJ6_getChars_ba4f3_85 rfl 1 rfl ?_
    refine j_bipush (v := -9) ok dJ6_getChars_ba4f3_86 (by decide) ?_
    rcases ite_some h with ⟨c4, h⟩ | ⟨c4, h⟩
    · refine j_icmp_ge (tgt := 104) ok dJ6_getChars_ba4f3_88 (by decide) (fun _ => ?_) (fun z => absurd c4 z)
      refine j_iload ok dJ6_getChars_ba4f3_104 3 rfl ?_
      rcases ite_some h with ⟨c5, h⟩ | ⟨c5, h⟩
      · refine j_if_eq (tgt := 118) ok dJ6_getChars_ba4f3_106 (by decide) (fun _ => ?_) (fun z => absurd c5 z)
        exact J.sub [0] rfl (jJ6_getChars_ba4f3_118 ok (l5 + (-1 : Int32)) G3 h hK)
      · refine j_if_eq (tgt := 118) ok dJ6_getChars_ba4f3_106 (by decide) (fun z => absurd z c5) (fun _ => ?_)
        refine j_aload_n ok dJ6_getChars_ba4f3_109 rfl 2 rfl ?_
        refine j_iinc (L' := [(5, .int ((l5 + (-1 : Int32)) + (-1 : Int32))), (0, .int l0), (2, .ref (X.B + l2)), (6, .int l6)]) (v := ((l5 + (-1 : Int32)) + (-1 : Int32))) ok dJ6_getChars_ba4f3_110 (q := 0) rfl rfl (by decide) rfl ?_
        refine j_iload ok dJ6_getChars_ba4f3_113 0 rfl ?_
        refine j_bipush (v := 45) ok dJ6_getChars_ba4f3_115 (by decide) ?_
        obtain ⟨G6, hG6, h⟩ := obind h
        refine j_bast ok hG6 dJ6_getChars_ba4f3_117 ?_
        exact J.sub [0] rfl (jJ6_getChars_ba4f3_118 ok ((l5 + (-1 : Int32)) + (-1 : Int32)) G6 h hK)
    · refine j_icmp_ge (tgt := 104) ok dJ6_getChars_ba4f3_88 (by decide) (fun z => absurd z c4) (fun _ => ?_)
      refine j_aload_n ok dJ6_getChars_ba4f3_91 rfl 2 rfl ?_
      refine j_iinc (L' := [(5, .int ((l5 + (-1 : Int32)) + (-1 : Int32))), (0, .int l0), (2, .ref (X.B + l2)), (6, .int l6)]) (v := ((l5 + (-1 : Int32)) + (-1 : Int32))) ok dJ6_getChars_ba4f3_92 (q := 0) rfl rfl (by decide) rfl ?_
      refine j_iload ok dJ6_getChars_ba4f3_95 0 rfl ?_
      cases h
  · refine j_icmp_gt (tgt := 72) ok dJ6_getChars_ba4f3_25 (by decide) (fun z => absurd z c1) (fun _ => ?_)
    refine j_iload_n ok dJ6_getChars_ba4f3_28 rfl 0 rfl ?_
    refine j_bipush (v := 100) ok dJ6_getChars_ba4f3_29 (by decide) ?_
    refine j_idiv ok dJ6_getChars_ba4f3_31 (by decide) ?_
    refine j_istore_n (L' := [(3, .int (l0 / (100 : Int32))), (0, .int l0), (2, .ref (X.B + l2)), (5, .int l5), (6, .int l6)]) ok dJ6_getChars_ba4f3_32 rfl (by decide) rfl ?_
    refine j_iload_n ok dJ6_getChars_ba4f3_33 rfl 0 rfl ?_
    refine j_bipush (v := 100) ok dJ6_getChars_ba4f3_34 (by decide) ?_
    refine j_imul ok dJ6_getChars_ba4f3_36 ?_
    refine j_iload_n ok dJ6_getChars_ba4f3_37 rfl 1 rfl ?_
    refine j_isub ok dJ6_getChars_ba4f3_38 ?_
    refine j_istore (L' := [(4, .int (((l0 / (100 : Int32)) * (100 : Int32)) - l0)), (3, .int (l0 / (100 : Int32))), (0, .int l0), (2, .ref (X.B + l2)), (5, .int l5), (6, .int l6)]) ok dJ6_getChars_ba4f3_39 (by decide) rfl ?_
    refine j_iload_n ok dJ6_getChars_ba4f3_41 rfl 1 rfl ?_
    refine j_istore_n (L' := [(0, .int (l0 / (100 : Int32))), (4, .int (((l0 / (100 : Int32)) * (100 : Int32)) - l0)), (3, .int (l0 / (100 : Int32))), (2, .ref (X.B + l2)), (5, .int l5), (6, .int l6)]) ok dJ6_getChars_ba4f3_42 rfl (by decide) rfl ?_
    refine j_aload_n ok dJ6_getChars_ba4f3_43 rfl 3 rfl ?_
    refine j_iinc (L' := [(5, .int (l5 + (-1 : Int32))), (0, .int (l0 / (100 : Int32))), (4, .int (((l0 / (100 : Int32)) * (100 : Int32)) - l0)), (3, .int (l0 / (100 : Int32))), (2, .ref (X.B + l2)), (6, .int l6)]) (v := (l5 + (-1 : Int32))) ok dJ6_getChars_ba4f3_44 (q := 4) rfl rfl (by decide) rfl ?_
    refine j_iload ok dJ6_getChars_ba4f3_47 0 rfl ?_
    refine k_tab ok (k := 0) (by decide) wg_J6_83 dJ6_getChars_ba4f3_49 ?_
    refine j_iload ok dJ6_getChars_ba4f3_52 2 rfl ?_
    obtain ⟨v2, hv2, h⟩ := obind h
    refine k_tbaload ok (k := 0) (by decide) hv2 dJ6_getChars_ba4f3_54 ?_
    obtain ⟨G3, hG3, h⟩ := obind h
    refine j_bast ok hG3 dJ6_getChars_ba4f3_55 ?_
    refine j_aload_n ok dJ6_getChars_ba4f3_56 rfl 4 rfl ?_
    refine j_iinc (L' := [(5, .int ((l5 + (-1 : Int32)) + (-1 : Int32))), (0, .int (l0 / (100 : Int32))), (4, .int (((l0 / (100 : Int32)) * (100 : Int32)) - l0)), (3, .int (l0 / (100 : Int32))), (2, .ref (X.B + l2)), (6, .int l6)]) (v := ((l5 + (-1 : Int32)) + (-1 : Int32))) ok dJ6_getChars_ba4f3_57 (q := 0) rfl rfl (by decide) rfl ?_
    refine j_iload ok dJ6_getChars_ba4f3_60 0 rfl ?_
    cases h

def fJ6_getChars_ba4f3_12 (l0 : Int32) (l2 : Nat) (l5 : Int32) (s0 : Int32) (G : Mem) : Option (Int32 × Mem) :=
  if s0 = (0 : Int32) then
    fJ6_getChars_ba4f3_22 (-l0) l2 l5 s0 G
  else
    fJ6_getChars_ba4f3_22 l0 l2 l5 s0 G

set_option maxRecDepth 100000 in
set_option maxHeartbeats 4000000 in
theorem jJ6_getChars_ba4f3_12 {X : Cx} (ok : OK X cJ6_getChars_ba4f3 RJ6 (some .int) 7 0 0) (l0 : Int32) (l2 : Nat) (l5 : Int32) (s0 : Int32) (G : Mem) {r : Int32} {G' : Mem} (h : fJ6_getChars_ba4f3_12 l0 l2 l5 s0 G = some (r, G')) (hK : (finI X) r G') : J X 7 12 [(0, .int l0), (2, .ref (X.B + l2)), (5, .int l5)] [.int s0] G := by
  unfold fJ6_getChars_ba4f3_12 at h
  refine j_istore (L' := [(6, .int s0), (0, .int l0), (2, .ref (X.B + l2)), (5, .int l5)]) ok dJ6_getChars_ba4f3_12 (by decide) rfl ?_
  refine j_iload ok dJ6_getChars_ba4f3_14 0 rfl ?_
  rcases ite_some h with ⟨c1, h⟩ | ⟨c1, h⟩
  · refine j_if_ne (tgt := 22) ok dJ6_getChars_ba4f3_16 (by decide) (fun z => absurd c1 z) (fun _ => ?_)
    refine j_iload_n ok dJ6_getChars_ba4f3_19 rfl 1 rfl ?_
    refine j_ineg ok dJ6_getChars_ba4f3_20 ?_
    refine j_istore_n (L' := [(0, .int (-l0)), (6, .int s0), (2, .ref (X.B + l2)), (5, .int l5)]) ok dJ6_getChars_ba4f3_21 rfl (by decide) rfl ?_
    exact J.sub [0, 2, 3, 1] rfl (jJ6_getChars_ba4f3_22 ok (-l0) l2 l5 s0 G h hK)
  · refine j_if_ne (tgt := 22) ok dJ6_getChars_ba4f3_16 (by decide) (fun _ => ?_) (fun z => absurd z c1)
    exact J.sub [1, 2, 3, 0] rfl (jJ6_getChars_ba4f3_22 ok l0 l2 l5 s0 G h hK)

def fJ6_getChars_ba4f3_0 (l0 : Int32) (l1 : Int32) (l2 : Nat)  (G : Mem) : Option (Int32 × Mem) :=
  if (0 : Int32) ≤ l0 then
    fJ6_getChars_ba4f3_12 l0 l2 l1 (0 : Int32) G
  else
    fJ6_getChars_ba4f3_12 l0 l2 l1 (1 : Int32) G

set_option maxRecDepth 100000 in
set_option maxHeartbeats 4000000 in
theorem jJ6_getChars_ba4f3_0 {X : Cx} (ok : OK X cJ6_getChars_ba4f3 RJ6 (some .int) 7 0 0) (l0 : Int32) (l1 : Int32) (l2 : Nat)  (G : Mem) {r : Int32} {G' : Mem} (h : fJ6_getChars_ba4f3_0 l0 l1 l2 G = some (r, G')) (hK : (finI X) r G') : J X 7 0 [(0, .int l0), (1, .int l1), (2, .ref (X.B + l2))] [] G := by
  unfold fJ6_getChars_ba4f3_0 at h
  refine j_iload_n ok dJ6_getChars_ba4f3_0 rfl 1 rfl ?_
  refine j_istore (L' := [(5, .int l1), (0, .int l0), (1, .int l1), (2, .ref (X.B + l2))]) ok dJ6_getChars_ba4f3_1 (by decide) rfl ?_
  refine j_iload_n ok dJ6_getChars_ba4f3_3 rfl 1 rfl ?_
  rcases ite_some h with ⟨c1, h⟩ | ⟨c1, h⟩
  · refine j_if_ge (tgt := 11) ok dJ6_getChars_ba4f3_4 (by decide) (fun _ => ?_) (fun z => absurd c1 z)
    refine j_iconst (v := 0) ok dJ6_getChars_ba4f3_11 (by decide) ?_
    exact J.sub [1, 3, 0] rfl (jJ6_getChars_ba4f3_12 ok l0 l2 l1 (0 : Int32) G h hK)
  · refine j_if_ge (tgt := 11) ok dJ6_getChars_ba4f3_4 (by decide) (fun z => absurd z c1) (fun _ => ?_)
    refine j_iconst (v := 1) ok dJ6_getChars_ba4f3_7 (by decide) ?_
    refine j_goto (tgt := 12) ok dJ6_getChars_ba4f3_8 (by decide) ?_
    exact J.sub [1, 3, 0] rfl (jJ6_getChars_ba4f3_12 ok l0 l2 l1 (1 : Int32) G h hK)

def fJ6_getChars_ba4f3 (l0 : Int32) (l1 : Int32) (l2 : Nat) (G : Mem) : Option (Int32 × Mem) := fJ6_getChars_ba4f3_0 l0 l1 l2 G
set_option maxRecDepth 100000 in
theorem tJ6_getChars_ba4f3 {l : Launch} (hfl : l.stackTraces = false) (V : Wd) (l0 : Int32) (l1 : Int32) (l2 : Nat) (G : Mem) {r : Int32} {G' : Mem} (h : fJ6_getChars_ba4f3 l0 l1 l2 G = some (r, G')) : Mx l yJ6_getChars_ba4f3 cJ6_getChars_ba4f3 7 (some .int) 0 0 V [.int l0, .int l1, .ref (V.B + l2)] G (.inl (some (.int r))) G' :=
  mx_of (L := [(0, .int l0), (1, .int l1), (2, .ref (V.B + l2))]) hfl (by decide +kernel) (Nat.le_of_ble_eq_true rfl) rfl (fun X hl hV hin ok he => by
    subst hl; subst hV
    exact J.sub [0, 1, 2] rfl (jJ6_getChars_ba4f3_0 ok l0 l1 l2 G h he))
def fJ5_append_c97b9_0 (l0 : Nat) (l1 : Int32)  (G : Mem) : Option (Nat × Mem) :=
  (gF G 18 l0 3).bind fun v1 =>
  (fJ6_stringSize_0f7a4 l1 G).bind fun q2 =>
  ck q2.2 18 l0 <| (fJ5_ensureCapacityInternal_d00df l0 (v1 + q2.1) q2.2).bind fun q3 =>
  ck q3.2 18 l0 <| (fJ5_isLatin1_aae02 l0 q3.2).bind fun q4 =>
  if q4.1 = (0 : Int32) then
    (gR q4.2 18 l0 0).bind fun v6 =>
    none
  else
    (gR q4.2 18 l0 0).bind fun v6 =>
    (fJ6_getChars_ba4f3 l1 (v1 + q2.1) v6 q4.2).bind fun q7 =>
    (pI q7.2 18 l0 3 (v1 + q2.1)).bind fun G8 =>
    some (l0, G8)

set_option maxRecDepth 100000 in
set_option maxHeartbeats 4000000 in
theorem jJ5_append_c97b9_0 {X : Cx} (ok : OK X cJ5_append_c97b9 RJ5 (some (.object "java/lang/AbstractStringBuilder")) 4 4 190) (l0 : Nat) (l1 : Int32)  (G : Mem) {r : Nat} {G' : Mem} (h : fJ5_append_c97b9_0 l0 l1 G = some (r, G')) (hK : (finR X) r G') : J X 4 0 [(0, .ref (X.B + l0)), (1, .int l1)] [] G := by
  unfold fJ5_append_c97b9_0 at h
  refine j_aload_n ok dJ5_append_c97b9_0 rfl 0 rfl ?_
  obtain ⟨v1, hv1, h⟩ := obind h
  refine k_getI ok fl_J5_79 hv1 dJ5_append_c97b9_1 ?_
  refine j_istore_n (L' := [(2, .int v1), (0, .ref (X.B + l0)), (1, .int l1)]) ok dJ5_append_c97b9_4 rfl (by decide) rfl ?_
  refine j_iload_n ok dJ5_append_c97b9_5 rfl 0 rfl ?_
  refine j_iload_n ok dJ5_append_c97b9_6 rfl 2 rfl ?_
  obtain ⟨q2, hq2, h⟩ := obind h
  refine k_S1 ok kl_J5_245 ⟨Nat.le_of_ble_eq_true rfl, Nat.le_of_ble_eq_true rfl⟩ [.int l1] rfl rfl (Nat.le_of_ble_eq_true rfl) (tJ6_stringSize_0f7a4 ok.fl X.V l1 G hq2) dJ5_append_c97b9_7 ?_
  refine j_iadd ok dJ5_append_c97b9_10 ?_
  refine j_istore_n (L' := [(3, .int (v1 + q2.1)), (2, .int v1), (0, .ref (X.B + l0)), (1, .int l1)]) ok dJ5_append_c97b9_11 rfl (by decide) rfl ?_
  refine j_aload_n ok dJ5_append_c97b9_12 rfl 2 rfl ?_
  refine j_iload_n ok dJ5_append_c97b9_13 rfl 0 rfl ?_
  obtain ⟨kq3, h⟩ := ck_some h
  obtain ⟨q3, hq3, h⟩ := obind h
  refine k_U0 ok kl_J5_100 ⟨Nat.le_of_ble_eq_true rfl, Nat.le_of_ble_eq_true rfl⟩ [.int (v1 + q2.1)] kq3 rfl rfl (Nat.le_of_ble_eq_true rfl) (tJ5_ensureCapacityInternal_d00df ok.fl X.V l0 (v1 + q2.1) q2.2 hq3) dJ5_append_c97b9_14 ?_
  refine j_aload_n ok dJ5_append_c97b9_17 rfl 2 rfl ?_
  obtain ⟨kq4, h⟩ := ck_some h
  obtain ⟨q4, hq4, h⟩ := obind h
  refine k_U1 ok kl_J5_83 ⟨Nat.le_of_ble_eq_true rfl, Nat.le_of_ble_eq_true rfl⟩ [] kq4 rfl rfl (Nat.le_of_ble_eq_true rfl) (tJ5_isLatin1_aae02 ok.fl X.V l0 q3.2 hq4) dJ5_append_c97b9_18 ?_
  rcases ite_some h with ⟨c5, h⟩ | ⟨c5, h⟩
  · refine j_if_eq (tgt := 37) ok dJ5_append_c97b9_21 (by decide) (fun _ => ?_) (fun z => absurd c5 z)
    refine j_iload_n ok dJ5_append_c97b9_37 rfl 3 rfl ?_
    refine j_iload_n ok dJ5_append_c97b9_38 rfl 1 rfl ?_
    refine j_iload_n ok dJ5_append_c97b9_39 rfl 0 rfl ?_
    refine j_aload_n ok dJ5_append_c97b9_40 rfl 2 rfl ?_
    obtain ⟨v6, hv6, h⟩ := obind h
    refine k_getR ok fl_J5_15 hv6 dJ5_append_c97b9_41 ?_
    cases h
  · refine j_if_eq (tgt := 37) ok dJ5_append_c97b9_21 (by decide) (fun z => absurd z c5) (fun _ => ?_)
    refine j_iload_n ok dJ5_append_c97b9_24 rfl 3 rfl ?_
    refine j_iload_n ok dJ5_append_c97b9_25 rfl 0 rfl ?_
    refine j_aload_n ok dJ5_append_c97b9_26 rfl 2 rfl ?_
    obtain ⟨v6, hv6, h⟩ := obind h
    refine k_getR ok fl_J5_15 hv6 dJ5_append_c97b9_27 ?_
    obtain ⟨q7, hq7, h⟩ := obind h
    refine k_S1 ok kl_J5_248 ⟨Nat.le_of_ble_eq_true rfl, Nat.le_of_ble_eq_true rfl⟩ [.int l1, .int (v1 + q2.1), .ref (X.B + v6)] rfl rfl (Nat.le_of_ble_eq_true rfl) (tJ6_getChars_ba4f3 ok.fl X.V l1 (v1 + q2.1) v6 q4.2 hq7) dJ5_append_c97b9_30 ?_
    refine j_pop ok dJ5_append_c97b9_33 rfl ?_
    refine j_goto (tgt := 48) ok dJ5_append_c97b9_34 (by decide) ?_
    refine j_aload_n ok dJ5_append_c97b9_48 rfl 2 rfl ?_
    refine j_iload_n ok dJ5_append_c97b9_49 rfl 0 rfl ?_
    obtain ⟨G8, hG8, h⟩ := obind h
    refine k_putI ok fl_J5_79 fp_X8 rfl (Or.inl rfl) hG8 dJ5_append_c97b9_50 ?_
    refine j_aload_n ok dJ5_append_c97b9_53 rfl 2 rfl ?_
    obtain ⟨er, eG⟩ := inj2 h
    subst er; subst eG
    exact j_aret ok rfl (Or.inl ⟨_, rfl⟩) dJ5_append_c97b9_54 hK

def fJ5_append_c97b9 (l0 : Nat) (l1 : Int32) (G : Mem) : Option (Nat × Mem) := fJ5_append_c97b9_0 l0 l1 G
set_option maxRecDepth 100000 in
theorem tJ5_append_c97b9 {l : Launch} (hfl : l.stackTraces = false) (V : Wd) (l0 : Nat) (l1 : Int32) (G : Mem) {r : Nat} {G' : Mem} (h : fJ5_append_c97b9 l0 l1 G = some (r, G')) : Mx l yJ5_append_c97b9 cJ5_append_c97b9 4 (some (.object "java/lang/AbstractStringBuilder")) 4 190 V [.ref (V.B + l0), .int l1] G (.inl (some (.ref (V.B + r)))) G' :=
  mx_of (L := [(0, .ref (V.B + l0)), (1, .int l1)]) hfl (by decide +kernel) (Nat.le_of_ble_eq_true rfl) rfl (fun X hl hV hin ok he => by
    subst hl; subst hV
    exact J.sub [0, 1] rfl (jJ5_append_c97b9_0 ok l0 l1 G h he))
def fJ4_append_bf812_0 (l0 : Nat) (l1 : Int32)  (G : Mem) : Option (Nat × Mem) :=
  ck G 18 l0 <| (fJ5_append_c97b9 l0 l1 G).bind fun q1 =>
  some (l0, q1.2)

set_option maxRecDepth 100000 in
set_option maxHeartbeats 4000000 in
theorem jJ4_append_bf812_0 {X : Cx} (ok : OK X cJ4_append_bf812 RJ4 (some (.object "java/lang/StringBuilder")) 2 5 213) (l0 : Nat) (l1 : Int32)  (G : Mem) {r : Nat} {G' : Mem} (h : fJ4_append_bf812_0 l0 l1 G = some (r, G')) (hK : (finR X) r G') : J X 2 0 [(0, .ref (X.B + l0)), (1, .int l1)] [] G := by
  unfold fJ4_append_bf812_0 at h
  refine j_aload_n ok dJ4_append_bf812_0 rfl 0 rfl ?_
  refine j_iload_n ok dJ4_append_bf812_1 rfl 1 rfl ?_
  obtain ⟨kq1, h⟩ := ck_some h
  obtain ⟨q1, hq1, h⟩ := obind h
  refine k_P1 ok kl_J4_53 ⟨Nat.le_of_ble_eq_true rfl, Nat.le_of_ble_eq_true rfl⟩ [.int l1] kq1 rfl rfl (Nat.le_of_ble_eq_true rfl) (tJ5_append_c97b9 ok.fl X.V l0 l1 G hq1) dJ4_append_bf812_2 ?_
  refine j_pop ok dJ4_append_bf812_5 rfl ?_
  refine j_aload_n ok dJ4_append_bf812_6 rfl 0 rfl ?_
  obtain ⟨er, eG⟩ := inj2 h
  subst er; subst eG
  exact j_aret ok rfl (Or.inl ⟨_, rfl⟩) dJ4_append_bf812_7 hK

def fJ4_append_bf812 (l0 : Nat) (l1 : Int32) (G : Mem) : Option (Nat × Mem) := fJ4_append_bf812_0 l0 l1 G
set_option maxRecDepth 100000 in
theorem tJ4_append_bf812 {l : Launch} (hfl : l.stackTraces = false) (V : Wd) (l0 : Nat) (l1 : Int32) (G : Mem) {r : Nat} {G' : Mem} (h : fJ4_append_bf812 l0 l1 G = some (r, G')) : Mx l yJ4_append_bf812 cJ4_append_bf812 2 (some (.object "java/lang/StringBuilder")) 5 213 V [.ref (V.B + l0), .int l1] G (.inl (some (.ref (V.B + r)))) G' :=
  mx_of (L := [(0, .ref (V.B + l0)), (1, .int l1)]) hfl (by decide +kernel) (Nat.le_of_ble_eq_true rfl) rfl (fun X hl hV hin ok he => by
    subst hl; subst hV
    exact J.sub [0, 1] rfl (jJ4_append_bf812_0 ok l0 l1 G h he))
def fJ4_append_cf1ce_0 (l0 : Nat) (l1 : Nat)  (G : Mem) : Option (Nat × Mem) :=
  ck G 18 l0 <| (fJ4_append_15ec4 l0 l1 G).bind fun q1 =>
  some (q1.1, q1.2)

set_option maxRecDepth 100000 in
set_option maxHeartbeats 4000000 in
theorem jJ4_append_cf1ce_0 {X : Cx} (ok : OK X cJ4_append_cf1ce RJ4 (some (.object "java/lang/AbstractStringBuilder")) 2 6 233) (l0 : Nat) (l1 : Nat)  (G : Mem) {r : Nat} {G' : Mem} (h : fJ4_append_cf1ce_0 l0 l1 G = some (r, G')) (hK : (finR X) r G') : J X 2 0 [(0, .ref (X.B + l0)), (1, .ref (X.V.sa l1))] [] G := by
  unfold fJ4_append_cf1ce_0 at h
  refine j_aload_n ok dJ4_append_cf1ce_0 rfl 0 rfl ?_
  refine j_aload_n ok dJ4_append_cf1ce_1 rfl 1 rfl ?_
  obtain ⟨kq1, h⟩ := ck_some h
  obtain ⟨q1, hq1, h⟩ := obind h
  refine k_V1 ok kl_J4_23 ⟨Nat.le_of_ble_eq_true rfl, Nat.le_of_ble_eq_true rfl⟩ [.ref (X.V.sa l1)] kq1 rfl rfl (Nat.le_of_ble_eq_true rfl) (tJ4_append_15ec4 ok.fl X.V l0 l1 G hq1) dJ4_append_cf1ce_2 ?_
  obtain ⟨er, eG⟩ := inj2 h
  subst er; subst eG
  exact j_aret ok rfl (Or.inl ⟨_, rfl⟩) dJ4_append_cf1ce_5 hK

def fJ4_append_cf1ce (l0 : Nat) (l1 : Nat) (G : Mem) : Option (Nat × Mem) := fJ4_append_cf1ce_0 l0 l1 G
set_option maxRecDepth 100000 in
theorem tJ4_append_cf1ce {l : Launch} (hfl : l.stackTraces = false) (V : Wd) (l0 : Nat) (l1 : Nat) (G : Mem) {r : Nat} {G' : Mem} (h : fJ4_append_cf1ce l0 l1 G = some (r, G')) : Mx l yJ4_append_cf1ce cJ4_append_cf1ce 2 (some (.object "java/lang/AbstractStringBuilder")) 6 233 V [.ref (V.B + l0), .ref (V.sa l1)] G (.inl (some (.ref (V.B + r)))) G' :=
  mx_of (L := [(0, .ref (V.B + l0)), (1, .ref (V.sa l1))]) hfl (by decide +kernel) (Nat.le_of_ble_eq_true rfl) rfl (fun X hl hV hin ok he => by
    subst hl; subst hV
    exact J.sub [0, 1] rfl (jJ4_append_cf1ce_0 ok l0 l1 G h he))
def fJ5_append_3fe6f_45 (l0 : Nat) (l1 : Int32)  (G : Mem) : Option (Nat × Mem) :=
  ck G 18 l0 <| (fJ5_isLatin1_aae02 l0 G).bind fun q1 =>
  if q1.1 = (0 : Int32) then
    (gR q1.2 18 l0 0).bind fun v3 =>
    (gF q1.2 18 l0 3).bind fun v4 =>
    (pI q1.2 18 l0 3 (v4 + (1 : Int32))).bind fun G5 =>
    none
  else
    none

set_option maxRecDepth 100000 in
set_option maxHeartbeats 4000000 in
theorem jJ5_append_3fe6f_45 {X : Cx} (ok : OK X cJ5_append_3fe6f RJ5 (some (.object "java/lang/AbstractStringBuilder")) 2 4 190) (l0 : Nat) (l1 : Int32)  (G : Mem) {r : Nat} {G' : Mem} (h : fJ5_append_3fe6f_45 l0 l1 G = some (r, G')) (hK : (finR X) r G') : J X 2 45 [(0, .ref (X.B + l0)), (1, .int l1)] [] G := by
  unfold fJ5_append_3fe6f_45 at h
  refine j_aload_n ok dJ5_append_3fe6f_45 rfl 0 rfl ?_
  obtain ⟨kq1, h⟩ := ck_some h
  obtain ⟨q1, hq1, h⟩ := obind h
  refine k_U1 ok kl_J5_83 ⟨Nat.le_of_ble_eq_true rfl, Nat.le_of_ble_eq_true rfl⟩ [] kq1 rfl rfl (Nat.le_of_ble_eq_true rfl) (tJ5_isLatin1_aae02 ok.fl X.V l0 G hq1) dJ5_append_3fe6f_46 ?_
  rcases ite_some h with ⟨c2, h⟩ | ⟨c2, h⟩
  · refine j_if_eq (tgt := 56) ok dJ5_append_3fe6f_49 (by decide) (fun _ => ?_) (fun z => absurd c2 z)
    refine j_aload_n ok dJ5_append_3fe6f_56 rfl 0 rfl ?_
    obtain ⟨v3, hv3, h⟩ := obind h
    refine k_getR ok fl_J5_15 hv3 dJ5_append_3fe6f_57 ?_
    refine j_aload_n ok dJ5_append_3fe6f_60 rfl 0 rfl ?_
    refine j_dup ok dJ5_append_3fe6f_61 rfl ?_
    obtain ⟨v4, hv4, h⟩ := obind h
    refine k_getI ok fl_J5_79 hv4 dJ5_append_3fe6f_62 ?_
    refine j_dup_x1 ok dJ5_append_3fe6f_65 rfl rfl ?_
    refine j_iconst (v := 1) ok dJ5_append_3fe6f_66 (by decide) ?_
    refine j_iadd ok dJ5_append_3fe6f_67 ?_
    obtain ⟨G5, hG5, h⟩ := obind h
    refine k_putI ok fl_J5_79 fp_X8 rfl (Or.inl rfl) hG5 dJ5_append_3fe6f_68 ?_
    refine j_iload_n ok dJ5_append_3fe6f_71 rfl 1 rfl ?_
    cases h
  · refine j_if_eq (tgt := 56) ok dJ5_append_3fe6f_49 (by decide) (fun z => absurd z c2) (fun _ => ?_)
    refine j_aload_n ok dJ5_append_3fe6f_52 rfl 0 rfl ?_
    cases h

def fJ5_append_3fe6f_0 (l0 : Nat) (l1 : Int32)  (G : Mem) : Option (Nat × Mem) :=
  (gF G 18 l0 3).bind fun v1 =>
  ck G 18 l0 <| (fJ5_ensureCapacityInternal_d00df l0 (v1 + (1 : Int32)) G).bind fun q2 =>
  ck q2.2 18 l0 <| (fJ5_isLatin1_aae02 l0 q2.2).bind fun q3 =>
  if q3.1 = (0 : Int32) then
    fJ5_append_3fe6f_45 l0 l1 q3.2
  else
    (fJ1_canEncode_fc78d l1 q3.2).bind fun q5 =>
    if q5.1 = (0 : Int32) then
      fJ5_append_3fe6f_45 l0 l1 q5.2
    else
      (gR q5.2 18 l0 0).bind fun v7 =>
      (gF q5.2 18 l0 3).bind fun v8 =>
      (pI q5.2 18 l0 3 (v8 + (1 : Int32))).bind fun G9 =>
      (pB G9 v7 v8 (l1.toInt8.toInt32)).bind fun G10 =>
      some (l0, G10)

set_option maxRecDepth 100000 in
set_option maxHeartbeats 4000000 in
theorem jJ5_append_3fe6f_0 {X : Cx} (ok : OK X cJ5_append_3fe6f RJ5 (some (.object "java/lang/AbstractStringBuilder")) 2 4 190) (l0 : Nat) (l1 : Int32)  (G : Mem) {r : Nat} {G' : Mem} (h : fJ5_append_3fe6f_0 l0 l1 G = some (r, G')) (hK : (finR X) r G') : J X 2 0 [(0, .ref (X.B + l0)), (1, .int l1)] [] G := by
  unfold fJ5_append_3fe6f_0 at h
  refine j_aload_n ok dJ5_append_3fe6f_0 rfl 0 rfl ?_
  refine j_aload_n ok dJ5_append_3fe6f_1 rfl 0 rfl ?_
  obtain ⟨v1, hv1, h⟩ := obind h
  refine k_getI ok fl_J5_79 hv1 dJ5_append_3fe6f_2 ?_
  refine j_iconst (v := 1) ok dJ5_append_3fe6f_5 (by decide) ?_
  refine j_iadd ok dJ5_append_3fe6f_6 ?_
  obtain ⟨kq2, h⟩ := ck_some h
  obtain ⟨q2, hq2, h⟩ := obind h
  refine k_U0 ok kl_J5_100 ⟨Nat.le_of_ble_eq_true rfl, Nat.le_of_ble_eq_true rfl⟩ [.int (v1 + (1 : Int32))] kq2 rfl rfl (Nat.le_of_ble_eq_true rfl) (tJ5_ensureCapacityInternal_d00df ok.fl X.V l0 (v1 + (1 : Int32)) G hq2) dJ5_append_3fe6f_7 ?_
  refine j_aload_n ok dJ5_append_3fe6f_10 rfl 0 rfl ?_
  obtain ⟨kq3, h⟩ := ck_some h
  obtain ⟨q3, hq3, h⟩ := obind h
  refine k_U1 ok kl_J5_83 ⟨Nat.le_of_ble_eq_true rfl, Nat.le_of_ble_eq_true rfl⟩ [] kq3 rfl rfl (Nat.le_of_ble_eq_true rfl) (tJ5_isLatin1_aae02 ok.fl X.V l0 q2.2 hq3) dJ5_append_3fe6f_11 ?_
  rcases ite_some h with ⟨c4, h⟩ | ⟨c4, h⟩
  · refine j_if_eq (tgt := 45) ok dJ5_append_3fe6f_14 (by decide) (fun _ => ?_) (fun z => absurd c4 z)
    exact J.sub [0, 1] rfl (jJ5_append_3fe6f_45 ok l0 l1 q3.2 h hK)
  · refine j_if_eq (tgt := 45) ok dJ5_append_3fe6f_14 (by decide) (fun z => absurd z c4) (fun _ => ?_)
    refine j_iload_n ok dJ5_append_3fe6f_17 rfl 1 rfl ?_
    obtain ⟨q5, hq5, h⟩ := obind h
    refine k_S1 ok kl_J5_191 ⟨Nat.le_of_ble_eq_true rfl, Nat.le_of_ble_eq_true rfl⟩ [.int l1] rfl rfl (Nat.le_of_ble_eq_true rfl) (tJ1_canEncode_fc78d ok.fl X.V l1 q3.2 hq5) dJ5_append_3fe6f_18 ?_
    rcases ite_some h with ⟨c6, h⟩ | ⟨c6, h⟩
    · refine j_if_eq (tgt := 45) ok dJ5_append_3fe6f_21 (by decide) (fun _ => ?_) (fun z => absurd c6 z)
      exact J.sub [0, 1] rfl (jJ5_append_3fe6f_45 ok l0 l1 q5.2 h hK)
    · refine j_if_eq (tgt := 45) ok dJ5_append_3fe6f_21 (by decide) (fun z => absurd z c6) (fun _ => ?_)
      refine j_aload_n ok dJ5_append_3fe6f_24 rfl 0 rfl ?_
      obtain ⟨v7, hv7, h⟩ := obind h
      refine k_getR ok fl_J5_15 hv7 dJ5_append_3fe6f_25 ?_
      refine j_aload_n ok dJ5_append_3fe6f_28 rfl 0 rfl ?_
      refine j_dup ok dJ5_append_3fe6f_29 rfl ?_
      obtain ⟨v8, hv8, h⟩ := obind h
      refine k_getI ok fl_J5_79 hv8 dJ5_append_3fe6f_30 ?_
      refine j_dup_x1 ok dJ5_append_3fe6f_33 rfl rfl ?_
      refine j_iconst (v := 1) ok dJ5_append_3fe6f_34 (by decide) ?_
      refine j_iadd ok dJ5_append_3fe6f_35 ?_
      obtain ⟨G9, hG9, h⟩ := obind h
      refine k_putI ok fl_J5_79 fp_X8 rfl (Or.inl rfl) hG9 dJ5_append_3fe6f_36 ?_
      refine j_iload_n ok dJ5_append_3fe6f_39 rfl 1 rfl ?_
      refine j_i2b ok dJ5_append_3fe6f_40 ?_
      obtain ⟨G10, hG10, h⟩ := obind h
      refine j_bast ok hG10 dJ5_append_3fe6f_41 ?_
      refine j_goto (tgt := 75) ok dJ5_append_3fe6f_42 (by decide) ?_
      refine j_aload_n ok dJ5_append_3fe6f_75 rfl 0 rfl ?_
      obtain ⟨er, eG⟩ := inj2 h
      subst er; subst eG
      exact j_aret ok rfl (Or.inl ⟨_, rfl⟩) dJ5_append_3fe6f_76 hK

def fJ5_append_3fe6f (l0 : Nat) (l1 : Int32) (G : Mem) : Option (Nat × Mem) := fJ5_append_3fe6f_0 l0 l1 G
set_option maxRecDepth 100000 in
theorem tJ5_append_3fe6f {l : Launch} (hfl : l.stackTraces = false) (V : Wd) (l0 : Nat) (l1 : Int32) (G : Mem) {r : Nat} {G' : Mem} (h : fJ5_append_3fe6f l0 l1 G = some (r, G')) : Mx l yJ5_append_3fe6f cJ5_append_3fe6f 2 (some (.object "java/lang/AbstractStringBuilder")) 4 190 V [.ref (V.B + l0), .int l1] G (.inl (some (.ref (V.B + r)))) G' :=
  mx_of (L := [(0, .ref (V.B + l0)), (1, .int l1)]) hfl (by decide +kernel) (Nat.le_of_ble_eq_true rfl) rfl (fun X hl hV hin ok he => by
    subst hl; subst hV
    exact J.sub [0, 1] rfl (jJ5_append_3fe6f_0 ok l0 l1 G h he))
def fJ4_append_cf468_0 (l0 : Nat) (l1 : Int32)  (G : Mem) : Option (Nat × Mem) :=
  ck G 18 l0 <| (fJ5_append_3fe6f l0 l1 G).bind fun q1 =>
  some (l0, q1.2)

set_option maxRecDepth 100000 in
set_option maxHeartbeats 4000000 in
theorem jJ4_append_cf468_0 {X : Cx} (ok : OK X cJ4_append_cf468 RJ4 (some (.object "java/lang/StringBuilder")) 2 5 211) (l0 : Nat) (l1 : Int32)  (G : Mem) {r : Nat} {G' : Mem} (h : fJ4_append_cf468_0 l0 l1 G = some (r, G')) (hK : (finR X) r G') : J X 2 0 [(0, .ref (X.B + l0)), (1, .int l1)] [] G := by
  unfold fJ4_append_cf468_0 at h
  refine j_aload_n ok dJ4_append_cf468_0 rfl 0 rfl ?_
  refine j_iload_n ok dJ4_append_cf468_1 rfl 1 rfl ?_
  obtain ⟨kq1, h⟩ := ck_some h
  obtain ⟨q1, hq1, h⟩ := obind h
  refine k_P1 ok kl_J4_50 ⟨Nat.le_of_ble_eq_true rfl, Nat.le_of_ble_eq_true rfl⟩ [.int l1] kq1 rfl rfl (Nat.le_of_ble_eq_true rfl) (tJ5_append_3fe6f ok.fl X.V l0 l1 G hq1) dJ4_append_cf468_2 ?_
  refine j_pop ok dJ4_append_cf468_5 rfl ?_
  refine j_aload_n ok dJ4_append_cf468_6 rfl 0 rfl ?_
  obtain ⟨er, eG⟩ := inj2 h
  subst er; subst eG
  exact j_aret ok rfl (Or.inl ⟨_, rfl⟩) dJ4_append_cf468_7 hK

def fJ4_append_cf468 (l0 : Nat) (l1 : Int32) (G : Mem) : Option (Nat × Mem) := fJ4_append_cf468_0 l0 l1 G
set_option maxRecDepth 100000 in
theorem tJ4_append_cf468 {l : Launch} (hfl : l.stackTraces = false) (V : Wd) (l0 : Nat) (l1 : Int32) (G : Mem) {r : Nat} {G' : Mem} (h : fJ4_append_cf468 l0 l1 G = some (r, G')) : Mx l yJ4_append_cf468 cJ4_append_cf468 2 (some (.object "java/lang/StringBuilder")) 5 211 V [.ref (V.B + l0), .int l1] G (.inl (some (.ref (V.B + r)))) G' :=
  mx_of (L := [(0, .ref (V.B + l0)), (1, .int l1)]) hfl (by decide +kernel) (Nat.le_of_ble_eq_true rfl) rfl (fun X hl hV hin ok he => by
    subst hl; subst hV
    exact J.sub [0, 1] rfl (jJ4_append_cf468_0 ok l0 l1 G h he))
def fJ5_init_a7421_24 (l0 : Nat) (l1 : Nat) (s0 : Int32) (G : Mem) : Option (Unit × Mem) :=
  ckS l1 <| (fJ0_coder_7d493 l1 G).bind fun q1 =>
  (pZ q1.2 18 l0 1 q1.1).bind fun G2 =>
  if q1.1 = (0 : Int32) then
    (nA G2 2 s0).bind fun q4 =>
    (pR q4.2 18 l0 0 q4.1).bind fun G5 =>
    ck G5 18 l0 <| (fJ4_append_cf1ce l0 l1 G5).bind fun q6 =>
    some ((), q6.2)
  else
    none

set_option maxRecDepth 100000 in
set_option maxHeartbeats 4000000 in
theorem jJ5_init_a7421_24 {X : Cx} (ok : OK X cJ5_init_a7421 RJ5 none 5 7 254) (hin : X.meth.name = "<init>") (l0 : Nat) (l1 : Nat) (s0 : Int32) (G : Mem) {r : Unit} {G' : Mem} (h : fJ5_init_a7421_24 l0 l1 s0 G = some (r, G')) (hK : (finV X) r G') : J X 5 24 [(0, .ref (X.B + l0)), (1, .ref (X.V.sa l1))] [.int s0] G := by
  unfold fJ5_init_a7421_24 at h
  refine j_istore_n (L' := [(3, .int s0), (0, .ref (X.B + l0)), (1, .ref (X.V.sa l1))]) ok dJ5_init_a7421_24 rfl (by decide) rfl ?_
  refine j_aload_n ok dJ5_init_a7421_25 rfl 2 rfl ?_
  obtain ⟨kq1, h⟩ := ckS_some h
  obtain ⟨q1, hq1, h⟩ := obind h
  refine k_T1 ok kl_J5_40 ⟨Nat.le_of_ble_eq_true rfl, Nat.le_of_ble_eq_true rfl⟩ [] kq1 rfl rfl (Nat.le_of_ble_eq_true rfl) (tJ0_coder_7d493 ok.fl X.V l1 G hq1) dJ5_init_a7421_26 ?_
  refine j_istore (L' := [(4, .int q1.1), (3, .int s0), (0, .ref (X.B + l0)), (1, .ref (X.V.sa l1))]) ok dJ5_init_a7421_29 (by decide) rfl ?_
  refine j_aload_n ok dJ5_init_a7421_31 rfl 2 rfl ?_
  refine j_iload ok dJ5_init_a7421_32 0 rfl ?_
  obtain ⟨G2, hG2, h⟩ := obind h
  refine k_putB ok fl_J5_22 fp_X8 rfl (Or.inl rfl) hG2 dJ5_init_a7421_34 ?_
  refine j_aload_n ok dJ5_init_a7421_37 rfl 2 rfl ?_
  refine j_iload ok dJ5_init_a7421_38 0 rfl ?_
  rcases ite_some h with ⟨c3, h⟩ | ⟨c3, h⟩
  · refine j_if_ne (tgt := 49) ok dJ5_init_a7421_40 (by decide) (fun z => absurd c3 z) (fun _ => ?_)
    refine j_iload_n ok dJ5_init_a7421_43 rfl 1 rfl ?_
    obtain ⟨q4, hq4, h⟩ := obind h
    refine k_newaT ok (t := 2) (Or.inr (Or.inl ⟨rfl, rfl⟩)) wa_2 hq4 dJ5_init_a7421_44 ?_
    refine j_goto (tgt := 53) ok dJ5_init_a7421_46 (by decide) ?_
    obtain ⟨G5, hG5, h⟩ := obind h
    refine k_putR ok fl_J5_15 fp_X8 rfl (Or.inr ⟨_, rfl⟩) (Or.inl rfl) hG5 dJ5_init_a7421_53 ?_
    refine j_aload_n ok dJ5_init_a7421_56 rfl 2 rfl ?_
    refine j_aload_n ok dJ5_init_a7421_57 rfl 3 rfl ?_
    obtain ⟨kq6, h⟩ := ck_some h
    obtain ⟨q6, hq6, h⟩ := obind h
    refine k_U1 ok kl_J5_43 ⟨Nat.le_of_ble_eq_true rfl, Nat.le_of_ble_eq_true rfl⟩ [.ref (X.V.sa l1)] kq6 rfl rfl (Nat.le_of_ble_eq_true rfl) (tJ4_append_cf1ce ok.fl X.V l0 l1 G5 hq6) dJ5_init_a7421_58 ?_
    refine j_pop ok dJ5_init_a7421_61 rfl ?_
    obtain ⟨er, eG⟩ := inj2 h
    subst er; subst eG
    exact j_vret ok rfl dJ5_init_a7421_62 hK
  · refine j_if_ne (tgt := 49) ok dJ5_init_a7421_40 (by decide) (fun _ => ?_) (fun z => absurd z c3)
    refine j_iload_n ok dJ5_init_a7421_49 rfl 1 rfl ?_
    cases h

def fJ5_init_a7421_0 (l0 : Nat) (l1 : Nat)  (G : Mem) : Option (Unit × Mem) :=
  ckS l1 <| (fJ0_length_8abf5 l1 G).bind fun q1 =>
  if (2147483631 : Int32) ≤ q1.1 then
    fJ5_init_a7421_24 l0 l1 (2147483647 : Int32) q1.2
  else
    fJ5_init_a7421_24 l0 l1 (q1.1 + (16 : Int32)) q1.2

set_option maxRecDepth 100000 in
set_option maxHeartbeats 4000000 in
theorem jJ5_init_a7421_0 {X : Cx} (ok : OK X cJ5_init_a7421 RJ5 none 5 7 254) (hin : X.meth.name = "<init>") (l0 : Nat) (l1 : Nat)  (G : Mem) {r : Unit} {G' : Mem} (h : fJ5_init_a7421_0 l0 l1 G = some (r, G')) (hK : (finV X) r G') : J X 5 0 [(0, .ref (X.B + l0)), (1, .ref (X.V.sa l1))] [] G := by
  unfold fJ5_init_a7421_0 at h
  refine j_aload_n ok dJ5_init_a7421_0 rfl 0 rfl ?_
  refine k_objI ok wm_J5_3 (Nat.le_of_ble_eq_true rfl) (Nat.le_of_ble_eq_true rfl) (Nat.le_of_ble_eq_true rfl) dJ5_init_a7421_1 ?_
  refine j_aload_n ok dJ5_init_a7421_4 rfl 1 rfl ?_
  obtain ⟨kq1, h⟩ := ckS_some h
  obtain ⟨q1, hq1, h⟩ := obind h
  refine k_T1 ok kl_J5_32 ⟨Nat.le_of_ble_eq_true rfl, Nat.le_of_ble_eq_true rfl⟩ [] kq1 rfl rfl (Nat.le_of_ble_eq_true rfl) (tJ0_length_8abf5 ok.fl X.V l1 G hq1) dJ5_init_a7421_5 ?_
  refine j_istore_n (L' := [(2, .int q1.1), (0, .ref (X.B + l0)), (1, .ref (X.V.sa l1))]) ok dJ5_init_a7421_8 rfl (by decide) rfl ?_
  refine j_iload_n ok dJ5_init_a7421_9 rfl 0 rfl ?_
  refine j_ldc ok wk_J5_38 dJ5_init_a7421_10 ?_
  rcases ite_some h with ⟨c2, h⟩ | ⟨c2, h⟩
  · refine j_icmp_ge (tgt := 22) ok dJ5_init_a7421_12 (by decide) (fun _ => ?_) (fun z => absurd c2 z)
    refine j_ldc ok wk_J5_39 dJ5_init_a7421_22 ?_
    exact J.sub [1, 2] rfl (jJ5_init_a7421_24 ok hin l0 l1 (2147483647 : Int32) q1.2 h hK)
  · refine j_icmp_ge (tgt := 22) ok dJ5_init_a7421_12 (by decide) (fun z => absurd z c2) (fun _ => ?_)
    refine j_iload_n ok dJ5_init_a7421_15 rfl 0 rfl ?_
    refine j_bipush (v := 16) ok dJ5_init_a7421_16 (by decide) ?_
    refine j_iadd ok dJ5_init_a7421_18 ?_
    refine j_goto (tgt := 24) ok dJ5_init_a7421_19 (by decide) ?_
    exact J.sub [1, 2] rfl (jJ5_init_a7421_24 ok hin l0 l1 (q1.1 + (16 : Int32)) q1.2 h hK)

def fJ5_init_a7421 (l0 : Nat) (l1 : Nat) (G : Mem) : Option (Unit × Mem) := fJ5_init_a7421_0 l0 l1 G
set_option maxRecDepth 100000 in
theorem tJ5_init_a7421 {l : Launch} (hfl : l.stackTraces = false) (V : Wd) (l0 : Nat) (l1 : Nat) (G : Mem) {r : Unit} {G' : Mem} (h : fJ5_init_a7421 l0 l1 G = some (r, G')) : Mx l yJ5_init_a7421 cJ5_init_a7421 5 none 7 254 V [.ref (V.B + l0), .ref (V.sa l1)] G (.inl none) G' :=
  mx_of (L := [(0, .ref (V.B + l0)), (1, .ref (V.sa l1))]) hfl (by decide +kernel) (Nat.le_of_ble_eq_true rfl) rfl (fun X hl hV hin ok he => by
    subst hl; subst hV
    exact J.sub [0, 1] rfl (jJ5_init_a7421_0 ok (hin rfl) l0 l1 G h he))
def fJ4_init_a7421_0 (l0 : Nat) (l1 : Nat)  (G : Mem) : Option (Unit × Mem) :=
  (fJ5_init_a7421 l0 l1 G).bind fun q1 =>
  some ((), q1.2)

set_option maxRecDepth 100000 in
set_option maxHeartbeats 4000000 in
theorem jJ4_init_a7421_0 {X : Cx} (ok : OK X cJ4_init_a7421 RJ4 none 2 8 278) (hin : X.meth.name = "<init>") (l0 : Nat) (l1 : Nat)  (G : Mem) {r : Unit} {G' : Mem} (h : fJ4_init_a7421_0 l0 l1 G = some (r, G')) (hK : (finV X) r G') : J X 2 0 [(0, .ref (X.B + l0)), (1, .ref (X.V.sa l1))] [] G := by
  unfold fJ4_init_a7421_0 at h
  refine j_aload_n ok dJ4_init_a7421_0 rfl 0 rfl ?_
  refine j_aload_n ok dJ4_init_a7421_1 rfl 1 rfl ?_
  obtain ⟨q1, hq1, h⟩ := obind h
  refine k_I ok kl_J4_7 ⟨Nat.le_of_ble_eq_true rfl, Nat.le_of_ble_eq_true rfl⟩ [.ref (X.V.sa l1)] rfl rfl (Nat.le_of_ble_eq_true rfl) (tJ5_init_a7421 ok.fl X.V l0 l1 G hq1) dJ4_init_a7421_2 ?_
  obtain ⟨er, eG⟩ := inj2 h
  subst er; subst eG
  exact j_vret ok rfl dJ4_init_a7421_5 hK

def fJ4_init_a7421 (l0 : Nat) (l1 : Nat) (G : Mem) : Option (Unit × Mem) := fJ4_init_a7421_0 l0 l1 G
set_option maxRecDepth 100000 in
theorem tJ4_init_a7421 {l : Launch} (hfl : l.stackTraces = false) (V : Wd) (l0 : Nat) (l1 : Nat) (G : Mem) {r : Unit} {G' : Mem} (h : fJ4_init_a7421 l0 l1 G = some (r, G')) : Mx l yJ4_init_a7421 cJ4_init_a7421 2 none 8 278 V [.ref (V.B + l0), .ref (V.sa l1)] G (.inl none) G' :=
  mx_of (L := [(0, .ref (V.B + l0)), (1, .ref (V.sa l1))]) hfl (by decide +kernel) (Nat.le_of_ble_eq_true rfl) rfl (fun X hl hV hin ok he => by
    subst hl; subst hV
    exact J.sub [0, 1] rfl (jJ4_init_a7421_0 ok (hin rfl) l0 l1 G h he))
def fJ4_toString_0e30d_0 (l0 : Nat)  (G : Mem) : Option (Nat × Mem) :=
  (nO G 17 4).bind fun q1 =>
  (fJ0_init_81219 q1.1 l0 q1.2).bind fun q2 =>
  some (q1.1, q2.2)

set_option maxRecDepth 100000 in
set_option maxHeartbeats 4000000 in
theorem jJ4_toString_0e30d_0 {X : Cx} (ok : OK X cJ4_toString_0e30d RJ4 (some (.object "java/lang/String")) 1 5 211) (l0 : Nat)  (G : Mem) {r : Nat} {G' : Mem} (h : fJ4_toString_0e30d_0 l0 G = some (r, G')) (hK : (finR X) r G') : J X 1 0 [(0, .ref (X.B + l0))] [] G := by
  unfold fJ4_toString_0e30d_0 at h
  obtain ⟨q1, hq1, h⟩ := obind h
  refine k_new ok (ci := 7) in_X7 fp_X7 rfl rfl df_X7 wl_J4_18 wx_X7 wn_X7 hq1 dJ4_toString_0e30d_0 ?_
  refine j_dup ok dJ4_toString_0e30d_3 rfl ?_
  refine j_aload_n ok dJ4_toString_0e30d_4 rfl 0 rfl ?_
  obtain ⟨q2, hq2, h⟩ := obind h
  refine k_I ok kl_J4_137 ⟨Nat.le_of_ble_eq_true rfl, Nat.le_of_ble_eq_true rfl⟩ [.ref (X.B + l0)] rfl rfl (Nat.le_of_ble_eq_true rfl) (tJ0_init_81219 ok.fl X.V q1.1 l0 q1.2 hq2) dJ4_toString_0e30d_5 ?_
  obtain ⟨er, eG⟩ := inj2 h
  subst er; subst eG
  exact j_aret ok rfl (Or.inl ⟨_, rfl⟩) dJ4_toString_0e30d_8 hK

def fJ4_toString_0e30d (l0 : Nat) (G : Mem) : Option (Nat × Mem) := fJ4_toString_0e30d_0 l0 G
set_option maxRecDepth 100000 in
theorem tJ4_toString_0e30d {l : Launch} (hfl : l.stackTraces = false) (V : Wd) (l0 : Nat) (G : Mem) {r : Nat} {G' : Mem} (h : fJ4_toString_0e30d l0 G = some (r, G')) : Mx l yJ4_toString_0e30d cJ4_toString_0e30d 1 (some (.object "java/lang/String")) 5 211 V [.ref (V.B + l0)] G (.inl (some (.ref (V.B + r)))) G' :=
  mx_of (L := [(0, .ref (V.B + l0))]) hfl (by decide +kernel) (Nat.le_of_ble_eq_true rfl) rfl (fun X hl hV hin ok he => by
    subst hl; subst hV
    exact J.sub [0] rfl (jJ4_toString_0e30d_0 ok l0 G h he))
def fJ7_copyOf_59c91_0 (l0 : Nat) (l1 : Int32)  (G : Mem) : Option (Nat × Mem) :=
  (gL G l0).bind fun v1 =>
  if l1 = v1 then
    none
  else
    (nA G 1 l1).bind fun q3 =>
    (gL q3.2 l0).bind fun v4 =>
    (cpI q3.2 l0 (0 : Int32) q3.1 (0 : Int32) (if l1 < v4 then l1 else v4)).bind fun G5 =>
    some (q3.1, G5)

set_option maxRecDepth 100000 in
set_option maxHeartbeats 4000000 in
theorem jJ7_copyOf_59c91_0 {X : Cx} (ok : OK X cJ7_copyOf_59c91 RJ7 (some (.array .int)) 3 1 120) (l0 : Nat) (l1 : Int32)  (G : Mem) {r : Nat} {G' : Mem} (h : fJ7_copyOf_59c91_0 l0 l1 G = some (r, G')) (hK : (finR X) r G') : J X 3 0 [(0, .ref (X.B + l0)), (1, .int l1)] [] G := by
  unfold fJ7_copyOf_59c91_0 at h
  refine j_iload_n ok dJ7_copyOf_59c91_0 rfl 1 rfl ?_
  refine j_aload_n ok dJ7_copyOf_59c91_1 rfl 0 rfl ?_
  obtain ⟨v1, hv1, h⟩ := obind h
  refine j_alen ok hv1 dJ7_copyOf_59c91_2 ?_
  rcases ite_some h with ⟨c2, h⟩ | ⟨c2, h⟩
  · refine j_icmp_ne (tgt := 14) ok dJ7_copyOf_59c91_3 (by decide) (fun z => absurd c2 z) (fun _ => ?_)
    refine j_aload_n ok dJ7_copyOf_59c91_6 rfl 0 rfl ?_
    cases h
  · refine j_icmp_ne (tgt := 14) ok dJ7_copyOf_59c91_3 (by decide) (fun _ => ?_) (fun z => absurd z c2)
    refine j_iload_n ok dJ7_copyOf_59c91_14 rfl 1 rfl ?_
    obtain ⟨q3, hq3, h⟩ := obind h
    refine k_newaT ok (t := 1) (Or.inl ⟨rfl, rfl⟩) wa_1 hq3 dJ7_copyOf_59c91_15 ?_
    refine j_astore_n (L' := [(2, .ref (X.B + q3.1)), (0, .ref (X.B + l0)), (1, .int l1)]) ok dJ7_copyOf_59c91_17 rfl (by decide) rfl ?_
    refine j_aload_n ok dJ7_copyOf_59c91_18 rfl 1 rfl ?_
    refine j_iconst (v := 0) ok dJ7_copyOf_59c91_19 (by decide) ?_
    refine j_aload_n ok dJ7_copyOf_59c91_20 rfl 0 rfl ?_
    refine j_iconst (v := 0) ok dJ7_copyOf_59c91_21 (by decide) ?_
    refine j_aload_n ok dJ7_copyOf_59c91_22 rfl 1 rfl ?_
    obtain ⟨v4, hv4, h⟩ := obind h
    refine j_alen ok hv4 dJ7_copyOf_59c91_23 ?_
    refine j_iload_n ok dJ7_copyOf_59c91_24 rfl 2 rfl ?_
    refine k_mmin ok wm_J7_304 (Nat.le_of_ble_eq_true rfl) (Nat.le_of_ble_eq_true rfl) (Nat.le_of_ble_eq_true rfl) dJ7_copyOf_59c91_25 ?_
    obtain ⟨G5, hG5, h⟩ := obind h
    refine k_cpI ok wm_J7_150 (Nat.le_of_ble_eq_true rfl) (Nat.le_of_ble_eq_true rfl) (Nat.le_of_ble_eq_true rfl) hG5 dJ7_copyOf_59c91_28 ?_
    refine j_aload_n ok dJ7_copyOf_59c91_31 rfl 0 rfl ?_
    obtain ⟨er, eG⟩ := inj2 h
    subst er; subst eG
    exact j_aret ok rfl (Or.inr ⟨_, rfl⟩) dJ7_copyOf_59c91_32 hK

def fJ7_copyOf_59c91 (l0 : Nat) (l1 : Int32) (G : Mem) : Option (Nat × Mem) := fJ7_copyOf_59c91_0 l0 l1 G
set_option maxRecDepth 100000 in
theorem tJ7_copyOf_59c91 {l : Launch} (hfl : l.stackTraces = false) (V : Wd) (l0 : Nat) (l1 : Int32) (G : Mem) {r : Nat} {G' : Mem} (h : fJ7_copyOf_59c91 l0 l1 G = some (r, G')) : Mx l yJ7_copyOf_59c91 cJ7_copyOf_59c91 3 (some (.array .int)) 1 120 V [.ref (V.B + l0), .int l1] G (.inl (some (.ref (V.B + r)))) G' :=
  mx_of (L := [(0, .ref (V.B + l0)), (1, .int l1)]) hfl (by decide +kernel) (Nat.le_of_ble_eq_true rfl) rfl (fun X hl hV hin ok he => by
    subst hl; subst hV
    exact J.sub [0, 1] rfl (jJ7_copyOf_59c91_0 ok l0 l1 G h he))
def fJ7_fill_53178_20   (G : Mem) : Option (Unit × Mem) :=
  some ((), G)

set_option maxRecDepth 100000 in
set_option maxHeartbeats 4000000 in
theorem jJ7_fill_53178_20 {X : Cx} (ok : OK X cJ7_fill_53178 RJ7 none 4 0 0)   (G : Mem) {r : Unit} {G' : Mem} (h : fJ7_fill_53178_20  G = some (r, G')) (hK : (finV X) r G') : J X 4 20 [] [] G := by
  unfold fJ7_fill_53178_20 at h
  obtain ⟨er, eG⟩ := inj2 h
  subst er; subst eG
  exact j_vret ok rfl dJ7_fill_53178_20 hK

def fJ7_fill_53178_5 (l0 : Nat) (l1 : Int32) (l2 : Int32) (l3 : Int32)  (G : Mem) : Option (((Int32) ⊕ Unit) × Mem) :=
  if l3 ≤ l2 then
    liftE (fJ7_fill_53178_20 G)
  else
    (pA G l0 l2 l1).bind fun G2 =>
    some (.inl ((l2 + (1 : Int32))), G2)

set_option maxRecDepth 100000 in
set_option maxHeartbeats 4000000 in
theorem jJ7_fill_53178_5 {X : Cx} (ok : OK X cJ7_fill_53178 RJ7 none 4 0 0) (l0 : Nat) (l1 : Int32) (l2 : Int32) (l3 : Int32)  (G : Mem) {r : ((Int32) ⊕ Unit)} {G' : Mem} (h : fJ7_fill_53178_5 l0 l1 l2 l3 G = some (r, G')) (hK : (finL X 4 5 (fun s : Int32 => [(0, .ref (X.B + l0)), (1, .int l1), (2, .int s), (3, .int l3)]) (finV X)) r G') : J X 4 5 [(0, .ref (X.B + l0)), (1, .int l1), (2, .int l2), (3, .int l3)] [] G := by
  unfold fJ7_fill_53178_5 at h
  refine j_iload_n ok dJ7_fill_53178_5 rfl 2 rfl ?_
  refine j_iload_n ok dJ7_fill_53178_6 rfl 3 rfl ?_
  rcases ite_some h with ⟨c1, h⟩ | ⟨c1, h⟩
  · refine j_icmp_ge (tgt := 20) ok dJ7_fill_53178_7 (by decide) (fun _ => ?_) (fun z => absurd c1 z)
    obtain ⟨r1, e1, h1⟩ := lift_some h
    subst e1
    exact J.sub [] rfl (jJ7_fill_53178_20 ok G h1 hK)
  · refine j_icmp_ge (tgt := 20) ok dJ7_fill_53178_7 (by decide) (fun z => absurd z c1) (fun _ => ?_)
    refine j_aload_n ok dJ7_fill_53178_10 rfl 0 rfl ?_
    refine j_iload_n ok dJ7_fill_53178_11 rfl 2 rfl ?_
    refine j_iload_n ok dJ7_fill_53178_12 rfl 1 rfl ?_
    obtain ⟨G2, hG2, h⟩ := obind h
    refine j_iast ok hG2 dJ7_fill_53178_13 ?_
    refine j_iinc (L' := [(2, .int (l2 + (1 : Int32))), (0, .ref (X.B + l0)), (1, .int l1), (3, .int l3)]) (v := (l2 + (1 : Int32))) ok dJ7_fill_53178_14 (q := 2) rfl rfl (by decide) rfl ?_
    refine j_goto (tgt := 5) ok dJ7_fill_53178_17 (by decide) ?_
    obtain ⟨er, eG⟩ := inj2 h
    subst er; subst eG
    have hJ : J X 4 5 [(0, .ref (X.B + l0)), (1, .int l1), (2, .int (l2 + (1 : Int32))), (3, .int l3)] [] G2 := hK
    exact J.sub [1, 2, 0, 3] rfl hJ

def fJ7_fill_53178_0 (l0 : Nat) (l1 : Int32)  (G : Mem) : Option (Unit × Mem) :=
  (gL G l0).bind fun v1 =>
  loopM (fun (s : Int32) G => fJ7_fill_53178_5 l0 l1 s v1 G) FU ((0 : Int32)) G

set_option maxRecDepth 100000 in
set_option maxHeartbeats 4000000 in
theorem jJ7_fill_53178_0 {X : Cx} (ok : OK X cJ7_fill_53178 RJ7 none 4 0 0) (l0 : Nat) (l1 : Int32)  (G : Mem) {r : Unit} {G' : Mem} (h : fJ7_fill_53178_0 l0 l1 G = some (r, G')) (hK : (finV X) r G') : J X 4 0 [(0, .ref (X.B + l0)), (1, .int l1)] [] G := by
  unfold fJ7_fill_53178_0 at h
  refine j_iconst (v := 0) ok dJ7_fill_53178_0 (by decide) ?_
  refine j_istore_n (L' := [(2, .int (0 : Int32)), (0, .ref (X.B + l0)), (1, .int l1)]) ok dJ7_fill_53178_1 rfl (by decide) rfl ?_
  refine j_aload_n ok dJ7_fill_53178_2 rfl 1 rfl ?_
  obtain ⟨v1, hv1, h⟩ := obind h
  refine j_alen ok hv1 dJ7_fill_53178_3 ?_
  refine j_istore_n (L' := [(3, .int v1), (2, .int (0 : Int32)), (0, .ref (X.B + l0)), (1, .int l1)]) ok dJ7_fill_53178_4 rfl (by decide) rfl ?_
  have hJ : J X 4 5 [(0, .ref (X.B + l0)), (1, .int l1), (2, .int (0 : Int32)), (3, .int v1)] [] G := j_loop (loc := fun s : Int32 => [(0, .ref (X.B + l0)), (1, .int l1), (2, .int s), (3, .int v1)]) (F := (finV X)) (fun s G r G' hb hk => jJ7_fill_53178_5 ok l0 l1 s v1 G hb hk) _ _ _ _ _ h hK
  exact J.sub [2, 3, 1, 0] rfl hJ

def fJ7_fill_53178 (l0 : Nat) (l1 : Int32) (G : Mem) : Option (Unit × Mem) := fJ7_fill_53178_0 l0 l1 G
set_option maxRecDepth 100000 in
theorem tJ7_fill_53178 {l : Launch} (hfl : l.stackTraces = false) (V : Wd) (l0 : Nat) (l1 : Int32) (G : Mem) {r : Unit} {G' : Mem} (h : fJ7_fill_53178 l0 l1 G = some (r, G')) : Mx l yJ7_fill_53178 cJ7_fill_53178 4 none 0 0 V [.ref (V.B + l0), .int l1] G (.inl none) G' :=
  mx_of (L := [(0, .ref (V.B + l0)), (1, .int l1)]) hfl (by decide +kernel) (Nat.le_of_ble_eq_true rfl) rfl (fun X hl hV hin ok he => by
    subst hl; subst hV
    exact J.sub [0, 1] rfl (jJ7_fill_53178_0 ok l0 l1 G h he))
def fJ7_rangeCheck_23922_0 (l0 : Int32) (l1 : Int32) (l2 : Int32)  (G : Mem) : Option (Unit × Mem) :=
  if l1 ≤ l2 then
    if (0 : Int32) ≤ l1 then
      if l2 ≤ l0 then
        some ((), G)
      else
        none
    else
      none
  else
    none

set_option maxRecDepth 100000 in
set_option maxHeartbeats 4000000 in
theorem jJ7_rangeCheck_23922_0 {X : Cx} (ok : OK X cJ7_rangeCheck_23922 RJ7 none 3 0 0) (l0 : Int32) (l1 : Int32) (l2 : Int32)  (G : Mem) {r : Unit} {G' : Mem} (h : fJ7_rangeCheck_23922_0 l0 l1 l2 G = some (r, G')) (hK : (finV X) r G') : J X 3 0 [(0, .int l0), (1, .int l1), (2, .int l2)] [] G := by
  unfold fJ7_rangeCheck_23922_0 at h
  refine j_iload_n ok dJ7_rangeCheck_23922_0 rfl 1 rfl ?_
  refine j_iload_n ok dJ7_rangeCheck_23922_1 rfl 2 rfl ?_
  rcases ite_some h with ⟨c1, h⟩ | ⟨c1, h⟩
  · refine j_icmp_le (tgt := 46) ok dJ7_rangeCheck_23922_2 (by decide) (fun _ => ?_) (fun z => absurd c1 z)
    refine j_iload_n ok dJ7_rangeCheck_23922_46 rfl 1 rfl ?_
    rcases ite_some h with ⟨c2, h⟩ | ⟨c2, h⟩
    · refine j_if_ge (tgt := 59) ok dJ7_rangeCheck_23922_47 (by decide) (fun _ => ?_) (fun z => absurd c2 z)
      refine j_iload_n ok dJ7_rangeCheck_23922_59 rfl 2 rfl ?_
      refine j_iload_n ok dJ7_rangeCheck_23922_60 rfl 0 rfl ?_
      rcases ite_some h with ⟨c3, h⟩ | ⟨c3, h⟩
      · refine j_icmp_le (tgt := 73) ok dJ7_rangeCheck_23922_61 (by decide) (fun _ => ?_) (fun z => absurd c3 z)
        obtain ⟨er, eG⟩ := inj2 h
        subst er; subst eG
        exact j_vret ok rfl dJ7_rangeCheck_23922_73 hK
      · refine j_icmp_le (tgt := 73) ok dJ7_rangeCheck_23922_61 (by decide) (fun z => absurd z c3) (fun _ => ?_)
        cases h
    · refine j_if_ge (tgt := 59) ok dJ7_rangeCheck_23922_47 (by decide) (fun z => absurd z c2) (fun _ => ?_)
      cases h
  · refine j_icmp_le (tgt := 46) ok dJ7_rangeCheck_23922_2 (by decide) (fun z => absurd z c1) (fun _ => ?_)
    cases h

def fJ7_rangeCheck_23922 (l0 : Int32) (l1 : Int32) (l2 : Int32) (G : Mem) : Option (Unit × Mem) := fJ7_rangeCheck_23922_0 l0 l1 l2 G
set_option maxRecDepth 100000 in
theorem tJ7_rangeCheck_23922 {l : Launch} (hfl : l.stackTraces = false) (V : Wd) (l0 : Int32) (l1 : Int32) (l2 : Int32) (G : Mem) {r : Unit} {G' : Mem} (h : fJ7_rangeCheck_23922 l0 l1 l2 G = some (r, G')) : Mx l yJ7_rangeCheck_23922 cJ7_rangeCheck_23922 3 none 0 0 V [.int l0, .int l1, .int l2] G (.inl none) G' :=
  mx_of (L := [(0, .int l0), (1, .int l1), (2, .int l2)]) hfl (by decide +kernel) (Nat.le_of_ble_eq_true rfl) rfl (fun X hl hV hin ok he => by
    subst hl; subst hV
    exact J.sub [0, 1, 2] rfl (jJ7_rangeCheck_23922_0 ok l0 l1 l2 G h he))
def fJ7_fill_bad5a_27   (G : Mem) : Option (Unit × Mem) :=
  some ((), G)

set_option maxRecDepth 100000 in
set_option maxHeartbeats 4000000 in
theorem jJ7_fill_bad5a_27 {X : Cx} (ok : OK X cJ7_fill_bad5a RJ7 none 6 1 22)   (G : Mem) {r : Unit} {G' : Mem} (h : fJ7_fill_bad5a_27  G = some (r, G')) (hK : (finV X) r G') : J X 6 27 [] [] G := by
  unfold fJ7_fill_bad5a_27 at h
  obtain ⟨er, eG⟩ := inj2 h
  subst er; subst eG
  exact j_vret ok rfl dJ7_fill_bad5a_27 hK

def fJ7_fill_bad5a_10 (l0 : Nat) (l2 : Int32) (l3 : Int64) (l5 : Int32)  (G : Mem) : Option (((Int32) ⊕ Unit) × Mem) :=
  if l2 ≤ l5 then
    liftE (fJ7_fill_bad5a_27 G)
  else
    (pJ G l0 l5 l3).bind fun G2 =>
    some (.inl ((l5 + (1 : Int32))), G2)

set_option maxRecDepth 100000 in
set_option maxHeartbeats 4000000 in
theorem jJ7_fill_bad5a_10 {X : Cx} (ok : OK X cJ7_fill_bad5a RJ7 none 6 1 22) (l0 : Nat) (l2 : Int32) (l3 : Int64) (l5 : Int32)  (G : Mem) {r : ((Int32) ⊕ Unit)} {G' : Mem} (h : fJ7_fill_bad5a_10 l0 l2 l3 l5 G = some (r, G')) (hK : (finL X 6 10 (fun s : Int32 => [(0, .ref (X.B + l0)), (2, .int l2), (3, .long l3), (5, .int s)]) (finV X)) r G') : J X 6 10 [(0, .ref (X.B + l0)), (2, .int l2), (3, .long l3), (5, .int l5)] [] G := by
  unfold fJ7_fill_bad5a_10 at h
  refine j_iload ok dJ7_fill_bad5a_10 3 rfl ?_
  refine j_iload_n ok dJ7_fill_bad5a_12 rfl 1 rfl ?_
  rcases ite_some h with ⟨c1, h⟩ | ⟨c1, h⟩
  · refine j_icmp_ge (tgt := 27) ok dJ7_fill_bad5a_13 (by decide) (fun _ => ?_) (fun z => absurd c1 z)
    obtain ⟨r1, e1, h1⟩ := lift_some h
    subst e1
    exact J.sub [] rfl (jJ7_fill_bad5a_27 ok G h1 hK)
  · refine j_icmp_ge (tgt := 27) ok dJ7_fill_bad5a_13 (by decide) (fun z => absurd z c1) (fun _ => ?_)
    refine j_aload_n ok dJ7_fill_bad5a_16 rfl 0 rfl ?_
    refine j_iload ok dJ7_fill_bad5a_17 3 rfl ?_
    refine j_lload_n ok dJ7_fill_bad5a_19 rfl 2 rfl ?_
    obtain ⟨G2, hG2, h⟩ := obind h
    refine j_last ok hG2 dJ7_fill_bad5a_20 ?_
    refine j_iinc (L' := [(5, .int (l5 + (1 : Int32))), (0, .ref (X.B + l0)), (2, .int l2), (3, .long l3)]) (v := (l5 + (1 : Int32))) ok dJ7_fill_bad5a_21 (q := 3) rfl rfl (by decide) rfl ?_
    refine j_goto (tgt := 10) ok dJ7_fill_bad5a_24 (by decide) ?_
    obtain ⟨er, eG⟩ := inj2 h
    subst er; subst eG
    have hJ : J X 6 10 [(0, .ref (X.B + l0)), (2, .int l2), (3, .long l3), (5, .int (l5 + (1 : Int32)))] [] G2 := hK
    exact J.sub [1, 2, 3, 0] rfl hJ

def fJ7_fill_bad5a_0 (l0 : Nat) (l1 : Int32) (l2 : Int32) (l3 : Int64)  (G : Mem) : Option (Unit × Mem) :=
  (gL G l0).bind fun v1 =>
  (fJ7_rangeCheck_23922 v1 l1 l2 G).bind fun q2 =>
  loopM (fun (s : Int32) G => fJ7_fill_bad5a_10 l0 l2 l3 s G) FU (l1) q2.2

set_option maxRecDepth 100000 in
set_option maxHeartbeats 4000000 in
theorem jJ7_fill_bad5a_0 {X : Cx} (ok : OK X cJ7_fill_bad5a RJ7 none 6 1 22) (l0 : Nat) (l1 : Int32) (l2 : Int32) (l3 : Int64)  (G : Mem) {r : Unit} {G' : Mem} (h : fJ7_fill_bad5a_0 l0 l1 l2 l3 G = some (r, G')) (hK : (finV X) r G') : J X 6 0 [(0, .ref (X.B + l0)), (1, .int l1), (2, .int l2), (3, .long l3)] [] G := by
  unfold fJ7_fill_bad5a_0 at h
  refine j_aload_n ok dJ7_fill_bad5a_0 rfl 0 rfl ?_
  obtain ⟨v1, hv1, h⟩ := obind h
  refine j_alen ok hv1 dJ7_fill_bad5a_1 ?_
  refine j_iload_n ok dJ7_fill_bad5a_2 rfl 1 rfl ?_
  refine j_iload_n ok dJ7_fill_bad5a_3 rfl 2 rfl ?_
  obtain ⟨q2, hq2, h⟩ := obind h
  refine k_S0 ok kl_J7_13 ⟨Nat.le_of_ble_eq_true rfl, Nat.le_of_ble_eq_true rfl⟩ [.int v1, .int l1, .int l2] rfl rfl (Nat.le_of_ble_eq_true rfl) (tJ7_rangeCheck_23922 ok.fl X.V v1 l1 l2 G hq2) dJ7_fill_bad5a_4 ?_
  refine j_iload_n ok dJ7_fill_bad5a_7 rfl 1 rfl ?_
  refine j_istore (L' := [(5, .int l1), (0, .ref (X.B + l0)), (1, .int l1), (2, .int l2), (3, .long l3)]) ok dJ7_fill_bad5a_8 (by decide) rfl ?_
  have hJ : J X 6 10 [(0, .ref (X.B + l0)), (2, .int l2), (3, .long l3), (5, .int l1)] [] q2.2 := j_loop (loc := fun s : Int32 => [(0, .ref (X.B + l0)), (2, .int l2), (3, .long l3), (5, .int s)]) (F := (finV X)) (fun s G r G' hb hk => jJ7_fill_bad5a_10 ok l0 l2 l3 s G hb hk) _ _ _ _ _ h hK
  exact J.sub [1, 3, 4, 0] rfl hJ

def fJ7_fill_bad5a (l0 : Nat) (l1 : Int32) (l2 : Int32) (l3 : Int64) (G : Mem) : Option (Unit × Mem) := fJ7_fill_bad5a_0 l0 l1 l2 l3 G
set_option maxRecDepth 100000 in
theorem tJ7_fill_bad5a {l : Launch} (hfl : l.stackTraces = false) (V : Wd) (l0 : Nat) (l1 : Int32) (l2 : Int32) (l3 : Int64) (G : Mem) {r : Unit} {G' : Mem} (h : fJ7_fill_bad5a l0 l1 l2 l3 G = some (r, G')) : Mx l yJ7_fill_bad5a cJ7_fill_bad5a 6 none 1 22 V [.ref (V.B + l0), .int l1, .int l2, .long l3] G (.inl none) G' :=
  mx_of (L := [(0, .ref (V.B + l0)), (1, .int l1), (2, .int l2), (3, .long l3)]) hfl (by decide +kernel) (Nat.le_of_ble_eq_true rfl) rfl (fun X hl hV hin ok he => by
    subst hl; subst hV
    exact J.sub [0, 1, 2, 3] rfl (jJ7_fill_bad5a_0 ok l0 l1 l2 l3 G h he))
def fJ7_fill_d0a16_22   (G : Mem) : Option (Unit × Mem) :=
  some ((), G)

set_option maxRecDepth 100000 in
set_option maxHeartbeats 4000000 in
theorem jJ7_fill_d0a16_22 {X : Cx} (ok : OK X cJ7_fill_d0a16 RJ7 none 5 0 0)   (G : Mem) {r : Unit} {G' : Mem} (h : fJ7_fill_d0a16_22  G = some (r, G')) (hK : (finV X) r G') : J X 5 22 [] [] G := by
  unfold fJ7_fill_d0a16_22 at h
  obtain ⟨er, eG⟩ := inj2 h
  subst er; subst eG
  exact j_vret ok rfl dJ7_fill_d0a16_22 hK

def fJ7_fill_d0a16_6 (l0 : Nat) (l1 : Int64) (l3 : Int32) (l4 : Int32)  (G : Mem) : Option (((Int32) ⊕ Unit) × Mem) :=
  if l4 ≤ l3 then
    liftE (fJ7_fill_d0a16_22 G)
  else
    (pJ G l0 l3 l1).bind fun G2 =>
    some (.inl ((l3 + (1 : Int32))), G2)

set_option maxRecDepth 100000 in
set_option maxHeartbeats 4000000 in
theorem jJ7_fill_d0a16_6 {X : Cx} (ok : OK X cJ7_fill_d0a16 RJ7 none 5 0 0) (l0 : Nat) (l1 : Int64) (l3 : Int32) (l4 : Int32)  (G : Mem) {r : ((Int32) ⊕ Unit)} {G' : Mem} (h : fJ7_fill_d0a16_6 l0 l1 l3 l4 G = some (r, G')) (hK : (finL X 5 6 (fun s : Int32 => [(0, .ref (X.B + l0)), (1, .long l1), (3, .int s), (4, .int l4)]) (finV X)) r G') : J X 5 6 [(0, .ref (X.B + l0)), (1, .long l1), (3, .int l3), (4, .int l4)] [] G := by
  unfold fJ7_fill_d0a16_6 at h
  refine j_iload_n ok dJ7_fill_d0a16_6 rfl 2 rfl ?_
  refine j_iload ok dJ7_fill_d0a16_7 3 rfl ?_
  rcases ite_some h with ⟨c1, h⟩ | ⟨c1, h⟩
  · refine j_icmp_ge (tgt := 22) ok dJ7_fill_d0a16_9 (by decide) (fun _ => ?_) (fun z => absurd c1 z)
    obtain ⟨r1, e1, h1⟩ := lift_some h
    subst e1
    exact J.sub [] rfl (jJ7_fill_d0a16_22 ok G h1 hK)
  · refine j_icmp_ge (tgt := 22) ok dJ7_fill_d0a16_9 (by decide) (fun z => absurd z c1) (fun _ => ?_)
    refine j_aload_n ok dJ7_fill_d0a16_12 rfl 0 rfl ?_
    refine j_iload_n ok dJ7_fill_d0a16_13 rfl 2 rfl ?_
    refine j_lload_n ok dJ7_fill_d0a16_14 rfl 1 rfl ?_
    obtain ⟨G2, hG2, h⟩ := obind h
    refine j_last ok hG2 dJ7_fill_d0a16_15 ?_
    refine j_iinc (L' := [(3, .int (l3 + (1 : Int32))), (0, .ref (X.B + l0)), (1, .long l1), (4, .int l4)]) (v := (l3 + (1 : Int32))) ok dJ7_fill_d0a16_16 (q := 2) rfl rfl (by decide) rfl ?_
    refine j_goto (tgt := 6) ok dJ7_fill_d0a16_19 (by decide) ?_
    obtain ⟨er, eG⟩ := inj2 h
    subst er; subst eG
    have hJ : J X 5 6 [(0, .ref (X.B + l0)), (1, .long l1), (3, .int (l3 + (1 : Int32))), (4, .int l4)] [] G2 := hK
    exact J.sub [1, 2, 0, 3] rfl hJ

def fJ7_fill_d0a16_0 (l0 : Nat) (l1 : Int64)  (G : Mem) : Option (Unit × Mem) :=
  (gL G l0).bind fun v1 =>
  loopM (fun (s : Int32) G => fJ7_fill_d0a16_6 l0 l1 s v1 G) FU ((0 : Int32)) G

set_option maxRecDepth 100000 in
set_option maxHeartbeats 4000000 in
theorem jJ7_fill_d0a16_0 {X : Cx} (ok : OK X cJ7_fill_d0a16 RJ7 none 5 0 0) (l0 : Nat) (l1 : Int64)  (G : Mem) {r : Unit} {G' : Mem} (h : fJ7_fill_d0a16_0 l0 l1 G = some (r, G')) (hK : (finV X) r G') : J X 5 0 [(0, .ref (X.B + l0)), (1, .long l1)] [] G := by
  unfold fJ7_fill_d0a16_0 at h
  refine j_iconst (v := 0) ok dJ7_fill_d0a16_0 (by decide) ?_
  refine j_istore_n (L' := [(3, .int (0 : Int32)), (0, .ref (X.B + l0)), (1, .long l1)]) ok dJ7_fill_d0a16_1 rfl (by decide) rfl ?_
  refine j_aload_n ok dJ7_fill_d0a16_2 rfl 1 rfl ?_
  obtain ⟨v1, hv1, h⟩ := obind h
  refine j_alen ok hv1 dJ7_fill_d0a16_3 ?_
  refine j_istore (L' := [(4, .int v1), (3, .int (0 : Int32)), (0, .ref (X.B + l0)), (1, .long l1)]) ok dJ7_fill_d0a16_4 (by decide) rfl ?_
  have hJ : J X 5 6 [(0, .ref (X.B + l0)), (1, .long l1), (3, .int (0 : Int32)), (4, .int v1)] [] G := j_loop (loc := fun s : Int32 => [(0, .ref (X.B + l0)), (1, .long l1), (3, .int s), (4, .int v1)]) (F := (finV X)) (fun s G r G' hb hk => jJ7_fill_d0a16_6 ok l0 l1 s v1 G hb hk) _ _ _ _ _ h hK
  exact J.sub [2, 3, 1, 0] rfl hJ

def fJ7_fill_d0a16 (l0 : Nat) (l1 : Int64) (G : Mem) : Option (Unit × Mem) := fJ7_fill_d0a16_0 l0 l1 G
set_option maxRecDepth 100000 in
theorem tJ7_fill_d0a16 {l : Launch} (hfl : l.stackTraces = false) (V : Wd) (l0 : Nat) (l1 : Int64) (G : Mem) {r : Unit} {G' : Mem} (h : fJ7_fill_d0a16 l0 l1 G = some (r, G')) : Mx l yJ7_fill_d0a16 cJ7_fill_d0a16 5 none 0 0 V [.ref (V.B + l0), .long l1] G (.inl none) G' :=
  mx_of (L := [(0, .ref (V.B + l0)), (1, .long l1)]) hfl (by decide +kernel) (Nat.le_of_ble_eq_true rfl) rfl (fun X hl hV hin ok he => by
    subst hl; subst hV
    exact J.sub [0, 1] rfl (jJ7_fill_d0a16_0 ok l0 l1 G h he))
def fX0_placeOf_0 (l1 : Int32) (l2 : Int32)  (G : Mem) : Option (Int32 × Mem) :=
  some ((((18 : Int32) + (l2 * (8 : Int32))) + l1), G)

set_option maxRecDepth 100000 in
set_option maxHeartbeats 4000000 in
theorem jX0_placeOf_0 {X : Cx} (ok : OK X cX0_placeOf RX0 (some .int) 3 0 0) (l1 : Int32) (l2 : Int32)  (G : Mem) {r : Int32} {G' : Mem} (h : fX0_placeOf_0 l1 l2 G = some (r, G')) (hK : (finI X) r G') : J X 3 0 [(1, .int l1), (2, .int l2)] [] G := by
  unfold fX0_placeOf_0 at h
  refine j_bipush (v := 18) ok dX0_placeOf_0 (by decide) ?_
  refine j_iload_n ok dX0_placeOf_2 rfl 1 rfl ?_
  refine j_bipush (v := 8) ok dX0_placeOf_3 (by decide) ?_
  refine j_imul ok dX0_placeOf_5 ?_
  refine j_iadd ok dX0_placeOf_6 ?_
  refine j_iload_n ok dX0_placeOf_7 rfl 0 rfl ?_
  refine j_iadd ok dX0_placeOf_8 ?_
  obtain ⟨er, eG⟩ := inj2 h
  subst er; subst eG
  exact j_iret ok rfl dX0_placeOf_9 hK

def fX0_placeOf (l0 : Nat) (l1 : Int32) (l2 : Int32) (G : Mem) : Option (Int32 × Mem) := fX0_placeOf_0 l1 l2 G
set_option maxRecDepth 100000 in
theorem tX0_placeOf {l : Launch} (hfl : l.stackTraces = false) (V : Wd) (l0 : Nat) (l1 : Int32) (l2 : Int32) (G : Mem) {r : Int32} {G' : Mem} (h : fX0_placeOf l0 l1 l2 G = some (r, G')) : Mx l yX0_placeOf cX0_placeOf 3 (some .int) 0 0 V [.ref (V.B + l0), .int l1, .int l2] G (.inl (some (.int r))) G' :=
  mx_of (L := [(0, .ref (V.B + l0)), (1, .int l1), (2, .int l2)]) hfl (by decide +kernel) (Nat.le_of_ble_eq_true rfl) rfl (fun X hl hV hin ok he => by
    subst hl; subst hV
    exact J.sub [1, 2] rfl (jX0_placeOf_0 ok l1 l2 G h he))
def fX0_on_24  (s0 : Int32) (G : Mem) : Option (Int32 × Mem) :=
  some (s0, G)

set_option maxRecDepth 100000 in
set_option maxHeartbeats 4000000 in
theorem jX0_on_24 {X : Cx} (ok : OK X cX0_on RX0 (some .int) 2 0 0)  (s0 : Int32) (G : Mem) {r : Int32} {G' : Mem} (h : fX0_on_24 s0 G = some (r, G')) (hK : (finI X) r G') : J X 2 24 [] [.int s0] G := by
  unfold fX0_on_24 at h
  obtain ⟨er, eG⟩ := inj2 h
  subst er; subst eG
  exact j_iret ok rfl dX0_on_24 hK

def fX0_on_22   (G : Mem) : Option (Int32 × Mem) :=
  fX0_on_24 (15 : Int32) G

set_option maxRecDepth 100000 in
set_option maxHeartbeats 4000000 in
theorem jX0_on_22 {X : Cx} (ok : OK X cX0_on RX0 (some .int) 2 0 0)   (G : Mem) {r : Int32} {G' : Mem} (h : fX0_on_22  G = some (r, G')) (hK : (finI X) r G') : J X 2 22 [] [] G := by
  unfold fX0_on_22 at h
  refine j_bipush (v := 15) ok dX0_on_22 (by decide) ?_
  exact J.sub [] rfl (jX0_on_24 ok (15 : Int32) G h hK)

def fX0_on_0 (l0 : Nat) (l1 : Int32)  (G : Mem) : Option (Int32 × Mem) :=
  if l1 < (0 : Int32) then
    fX0_on_22 G
  else
    (gR G 10 l0 4).bind fun v2 =>
    (gL G v2).bind fun v3 =>
    if v3 ≤ l1 then
      fX0_on_22 G
    else
      (gR G 10 l0 4).bind fun v5 =>
      (gA G 1 v5 l1).bind fun v6 =>
      fX0_on_24 v6 G

set_option maxRecDepth 100000 in
set_option maxHeartbeats 4000000 in
theorem jX0_on_0 {X : Cx} (ok : OK X cX0_on RX0 (some .int) 2 0 0) (l0 : Nat) (l1 : Int32)  (G : Mem) {r : Int32} {G' : Mem} (h : fX0_on_0 l0 l1 G = some (r, G')) (hK : (finI X) r G') : J X 2 0 [(0, .ref (X.B + l0)), (1, .int l1)] [] G := by
  unfold fX0_on_0 at h
  refine j_iload_n ok dX0_on_0 rfl 1 rfl ?_
  rcases ite_some h with ⟨c1, h⟩ | ⟨c1, h⟩
  · refine j_if_lt (tgt := 22) ok dX0_on_1 (by decide) (fun _ => ?_) (fun z => absurd c1 z)
    exact J.sub [] rfl (jX0_on_22 ok G h hK)
  · refine j_if_lt (tgt := 22) ok dX0_on_1 (by decide) (fun z => absurd z c1) (fun _ => ?_)
    refine j_iload_n ok dX0_on_4 rfl 1 rfl ?_
    refine j_aload_n ok dX0_on_5 rfl 0 rfl ?_
    obtain ⟨v2, hv2, h⟩ := obind h
    refine k_getR ok fl_X0_25 hv2 dX0_on_6 ?_
    obtain ⟨v3, hv3, h⟩ := obind h
    refine j_alen ok hv3 dX0_on_9 ?_
    rcases ite_some h with ⟨c4, h⟩ | ⟨c4, h⟩
    · refine j_icmp_ge (tgt := 22) ok dX0_on_10 (by decide) (fun _ => ?_) (fun z => absurd c4 z)
      exact J.sub [] rfl (jX0_on_22 ok G h hK)
    · refine j_icmp_ge (tgt := 22) ok dX0_on_10 (by decide) (fun z => absurd z c4) (fun _ => ?_)
      refine j_aload_n ok dX0_on_13 rfl 0 rfl ?_
      obtain ⟨v5, hv5, h⟩ := obind h
      refine k_getR ok fl_X0_25 hv5 dX0_on_14 ?_
      refine j_iload_n ok dX0_on_17 rfl 1 rfl ?_
      obtain ⟨v6, hv6, h⟩ := obind h
      refine j_iald ok hv6 dX0_on_18 ?_
      refine j_goto (tgt := 24) ok dX0_on_19 (by decide) ?_
      exact J.sub [] rfl (jX0_on_24 ok v6 G h hK)

def fX0_on (l0 : Nat) (l1 : Int32) (G : Mem) : Option (Int32 × Mem) := fX0_on_0 l0 l1 G
set_option maxRecDepth 100000 in
theorem tX0_on {l : Launch} (hfl : l.stackTraces = false) (V : Wd) (l0 : Nat) (l1 : Int32) (G : Mem) {r : Int32} {G' : Mem} (h : fX0_on l0 l1 G = some (r, G')) : Mx l yX0_on cX0_on 2 (some .int) 0 0 V [.ref (V.B + l0), .int l1] G (.inl (some (.int r))) G' :=
  mx_of (L := [(0, .ref (V.B + l0)), (1, .int l1)]) hfl (by decide +kernel) (Nat.le_of_ble_eq_true rfl) rfl (fun X hl hV hin ok he => by
    subst hl; subst hV
    exact J.sub [0, 1] rfl (jX0_on_0 ok l0 l1 G h he))
def fX0_at_0 (l0 : Nat) (l1 : Int32) (l2 : Int32)  (G : Mem) : Option (Int32 × Mem) :=
  ck G 10 l0 <| (fX0_placeOf l0 l1 l2 G).bind fun q1 =>
  ck q1.2 10 l0 <| (fX0_on l0 q1.1 q1.2).bind fun q2 =>
  some (q2.1, q2.2)

set_option maxRecDepth 100000 in
set_option maxHeartbeats 4000000 in
theorem jX0_at_0 {X : Cx} (ok : OK X cX0_at RX0 (some .int) 3 1 22) (l0 : Nat) (l1 : Int32) (l2 : Int32)  (G : Mem) {r : Int32} {G' : Mem} (h : fX0_at_0 l0 l1 l2 G = some (r, G')) (hK : (finI X) r G') : J X 3 0 [(0, .ref (X.B + l0)), (1, .int l1), (2, .int l2)] [] G := by
  unfold fX0_at_0 at h
  refine j_aload_n ok dX0_at_0 rfl 0 rfl ?_
  refine j_aload_n ok dX0_at_1 rfl 0 rfl ?_
  refine j_iload_n ok dX0_at_2 rfl 1 rfl ?_
  refine j_iload_n ok dX0_at_3 rfl 2 rfl ?_
  obtain ⟨kq1, h⟩ := ck_some h
  obtain ⟨q1, hq1, h⟩ := obind h
  refine k_V1 ok kl_X0_44 ⟨Nat.le_of_ble_eq_true rfl, Nat.le_of_ble_eq_true rfl⟩ [.int l1, .int l2] kq1 rfl rfl (Nat.le_of_ble_eq_true rfl) (tX0_placeOf ok.fl X.V l0 l1 l2 G hq1) dX0_at_4 ?_
  obtain ⟨kq2, h⟩ := ck_some h
  obtain ⟨q2, hq2, h⟩ := obind h
  refine k_V1 ok kl_X0_48 ⟨Nat.le_of_ble_eq_true rfl, Nat.le_of_ble_eq_true rfl⟩ [.int q1.1] kq2 rfl rfl (Nat.le_of_ble_eq_true rfl) (tX0_on ok.fl X.V l0 q1.1 q1.2 hq2) dX0_at_7 ?_
  obtain ⟨er, eG⟩ := inj2 h
  subst er; subst eG
  exact j_iret ok rfl dX0_at_10 hK

def fX0_at (l0 : Nat) (l1 : Int32) (l2 : Int32) (G : Mem) : Option (Int32 × Mem) := fX0_at_0 l0 l1 l2 G
set_option maxRecDepth 100000 in
theorem tX0_at {l : Launch} (hfl : l.stackTraces = false) (V : Wd) (l0 : Nat) (l1 : Int32) (l2 : Int32) (G : Mem) {r : Int32} {G' : Mem} (h : fX0_at l0 l1 l2 G = some (r, G')) : Mx l yX0_at cX0_at 3 (some .int) 1 22 V [.ref (V.B + l0), .int l1, .int l2] G (.inl (some (.int r))) G' :=
  mx_of (L := [(0, .ref (V.B + l0)), (1, .int l1), (2, .int l2)]) hfl (by decide +kernel) (Nat.le_of_ble_eq_true rfl) rfl (fun X hl hV hin ok he => by
    subst hl; subst hV
    exact J.sub [0, 1, 2] rfl (jX0_at_0 ok l0 l1 l2 G h he))
def fX0_bitOf_0 (l0 : Int32)  (G : Mem) : Option (Int64 × Mem) :=
  some (((1 : Int64) <<< ((l0 - (18 : Int32)).toInt64 &&& 63)), G)

set_option maxRecDepth 100000 in
set_option maxHeartbeats 4000000 in
theorem jX0_bitOf_0 {X : Cx} (ok : OK X cX0_bitOf RX0 (some .long) 1 0 0) (l0 : Int32)  (G : Mem) {r : Int64} {G' : Mem} (h : fX0_bitOf_0 l0 G = some (r, G')) (hK : (finJ X) r G') : J X 1 0 [(0, .int l0)] [] G := by
  unfold fX0_bitOf_0 at h
  refine j_lconst (v := 1) ok dX0_bitOf_0 (by decide) ?_
  refine j_iload_n ok dX0_bitOf_1 rfl 0 rfl ?_
  refine j_bipush (v := 18) ok dX0_bitOf_2 (by decide) ?_
  refine j_isub ok dX0_bitOf_4 ?_
  refine j_lshl ok dX0_bitOf_5 ?_
  obtain ⟨er, eG⟩ := inj2 h
  subst er; subst eG
  exact j_lret ok rfl dX0_bitOf_6 hK

def fX0_bitOf (l0 : Int32) (G : Mem) : Option (Int64 × Mem) := fX0_bitOf_0 l0 G
set_option maxRecDepth 100000 in
theorem tX0_bitOf {l : Launch} (hfl : l.stackTraces = false) (V : Wd) (l0 : Int32) (G : Mem) {r : Int64} {G' : Mem} (h : fX0_bitOf l0 G = some (r, G')) : Mx l yX0_bitOf cX0_bitOf 1 (some .long) 0 0 V [.int l0] G (.inl (some (.long r))) G' :=
  mx_of (L := [(0, .int l0)]) hfl (by decide +kernel) (Nat.le_of_ble_eq_true rfl) rfl (fun X hl hV hin ok he => by
    subst hl; subst hV
    exact J.sub [0] rfl (jX0_bitOf_0 ok l0 G h he))
def fX0_count_32 (l2 : Int32)  (G : Mem) : Option (Int32 × Mem) :=
  some (l2, G)

set_option maxRecDepth 100000 in
set_option maxHeartbeats 4000000 in
theorem jX0_count_32 {X : Cx} (ok : OK X cX0_count RX0 (some .int) 4 0 0) (l2 : Int32)  (G : Mem) {r : Int32} {G' : Mem} (h : fX0_count_32 l2 G = some (r, G')) (hK : (finI X) r G') : J X 4 32 [(2, .int l2)] [] G := by
  unfold fX0_count_32 at h
  refine j_iload_n ok dX0_count_32 rfl 0 rfl ?_
  obtain ⟨er, eG⟩ := inj2 h
  subst er; subst eG
  exact j_iret ok rfl dX0_count_33 hK

def fX0_count_26 (l0 : Nat) (l1 : Int32) (l2 : Int32) (l3 : Int32)  (G : Mem) : Option (((Int32 × Int32) ⊕ Int32) × Mem) :=
  some (.inl (l2, (l3 + (1 : Int32))), G)

set_option maxRecDepth 100000 in
set_option maxHeartbeats 4000000 in
theorem jX0_count_26 {X : Cx} (ok : OK X cX0_count RX0 (some .int) 4 0 0) (l0 : Nat) (l1 : Int32) (l2 : Int32) (l3 : Int32)  (G : Mem) {r : ((Int32 × Int32) ⊕ Int32)} {G' : Mem} (h : fX0_count_26 l0 l1 l2 l3 G = some (r, G')) (hK : (finL X 4 4 (fun s : Int32 × Int32 => [(0, .ref (X.B + l0)), (1, .int l1), (2, .int s.1), (3, .int s.2)]) (finI X)) r G') : J X 4 26 [(0, .ref (X.B + l0)), (1, .int l1), (2, .int l2), (3, .int l3)] [] G := by
  unfold fX0_count_26 at h
  refine j_iinc (L' := [(3, .int (l3 + (1 : Int32))), (0, .ref (X.B + l0)), (1, .int l1), (2, .int l2)]) (v := (l3 + (1 : Int32))) ok dX0_count_26 (q := 3) rfl rfl (by decide) rfl ?_
  refine j_goto (tgt := 4) ok dX0_count_29 (by decide) ?_
  obtain ⟨er, eG⟩ := inj2 h
  subst er; subst eG
  have hJ : J X 4 4 [(0, .ref (X.B + l0)), (1, .int l1), (2, .int l2), (3, .int (l3 + (1 : Int32)))] [] G := hK
  exact J.sub [1, 2, 3, 0] rfl hJ

def fX0_count_4 (l0 : Nat) (l1 : Int32) (l2 : Int32) (l3 : Int32)  (G : Mem) : Option (((Int32 × Int32) ⊕ Int32) × Mem) :=
  (gR G 10 l0 4).bind fun v1 =>
  (gL G v1).bind fun v2 =>
  if v2 ≤ l3 then
    liftE (fX0_count_32 l2 G)
  else
    (gR G 10 l0 4).bind fun v4 =>
    (gA G 1 v4 l3).bind fun v5 =>
    if v5 = l1 then
      fX0_count_26 l0 l1 (l2 + (1 : Int32)) l3 G
    else
      fX0_count_26 l0 l1 l2 l3 G

set_option maxRecDepth 100000 in
set_option maxHeartbeats 4000000 in
theorem jX0_count_4 {X : Cx} (ok : OK X cX0_count RX0 (some .int) 4 0 0) (l0 : Nat) (l1 : Int32) (l2 : Int32) (l3 : Int32)  (G : Mem) {r : ((Int32 × Int32) ⊕ Int32)} {G' : Mem} (h : fX0_count_4 l0 l1 l2 l3 G = some (r, G')) (hK : (finL X 4 4 (fun s : Int32 × Int32 => [(0, .ref (X.B + l0)), (1, .int l1), (2, .int s.1), (3, .int s.2)]) (finI X)) r G') : J X 4 4 [(0, .ref (X.B + l0)), (1, .int l1), (2, .int l2), (3, .int l3)] [] G := by
  unfold fX0_count_4 at h
  refine j_iload_n ok dX0_count_4 rfl 3 rfl ?_
  refine j_aload_n ok dX0_count_5 rfl 0 rfl ?_
  obtain ⟨v1, hv1, h⟩ := obind h
  refine k_getR ok fl_X0_25 hv1 dX0_count_6 ?_
  obtain ⟨v2, hv2, h⟩ := obind h
  refine j_alen ok hv2 dX0_count_9 ?_
  rcases ite_some h with ⟨c3, h⟩ | ⟨c3, h⟩
  · refine j_icmp_ge (tgt := 32) ok dX0_count_10 (by decide) (fun _ => ?_) (fun z => absurd c3 z)
    obtain ⟨r1, e1, h1⟩ := lift_some h
    subst e1
    exact J.sub [2] rfl (jX0_count_32 ok l2 G h1 hK)
  · refine j_icmp_ge (tgt := 32) ok dX0_count_10 (by decide) (fun z => absurd z c3) (fun _ => ?_)
    refine j_aload_n ok dX0_count_13 rfl 0 rfl ?_
    obtain ⟨v4, hv4, h⟩ := obind h
    refine k_getR ok fl_X0_25 hv4 dX0_count_14 ?_
    refine j_iload_n ok dX0_count_17 rfl 3 rfl ?_
    obtain ⟨v5, hv5, h⟩ := obind h
    refine j_iald ok hv5 dX0_count_18 ?_
    refine j_iload_n ok dX0_count_19 rfl 1 rfl ?_
    rcases ite_some h with ⟨c6, h⟩ | ⟨c6, h⟩
    · refine j_icmp_ne (tgt := 26) ok dX0_count_20 (by decide) (fun z => absurd c6 z) (fun _ => ?_)
      refine j_iinc (L' := [(2, .int (l2 + (1 : Int32))), (0, .ref (X.B + l0)), (1, .int l1), (3, .int l3)]) (v := (l2 + (1 : Int32))) ok dX0_count_23 (q := 2) rfl rfl (by decide) rfl ?_
      exact J.sub [1, 2, 0, 3] rfl (jX0_count_26 ok l0 l1 (l2 + (1 : Int32)) l3 G h hK)
    · refine j_icmp_ne (tgt := 26) ok dX0_count_20 (by decide) (fun _ => ?_) (fun z => absurd z c6)
      exact J.sub [0, 1, 2, 3] rfl (jX0_count_26 ok l0 l1 l2 l3 G h hK)

def fX0_count_0 (l0 : Nat) (l1 : Int32)  (G : Mem) : Option (Int32 × Mem) :=
  loopM (fun (s : Int32 × Int32) G => fX0_count_4 l0 l1 s.1 s.2 G) FU ((0 : Int32), (0 : Int32)) G

set_option maxRecDepth 100000 in
set_option maxHeartbeats 4000000 in
theorem jX0_count_0 {X : Cx} (ok : OK X cX0_count RX0 (some .int) 4 0 0) (l0 : Nat) (l1 : Int32)  (G : Mem) {r : Int32} {G' : Mem} (h : fX0_count_0 l0 l1 G = some (r, G')) (hK : (finI X) r G') : J X 4 0 [(0, .ref (X.B + l0)), (1, .int l1)] [] G := by
  unfold fX0_count_0 at h
  refine j_iconst (v := 0) ok dX0_count_0 (by decide) ?_
  refine j_istore_n (L' := [(2, .int (0 : Int32)), (0, .ref (X.B + l0)), (1, .int l1)]) ok dX0_count_1 rfl (by decide) rfl ?_
  refine j_iconst (v := 0) ok dX0_count_2 (by decide) ?_
  refine j_istore_n (L' := [(3, .int (0 : Int32)), (2, .int (0 : Int32)), (0, .ref (X.B + l0)), (1, .int l1)]) ok dX0_count_3 rfl (by decide) rfl ?_
  have hJ : J X 4 4 [(0, .ref (X.B + l0)), (1, .int l1), (2, .int (0 : Int32)), (3, .int (0 : Int32))] [] G := j_loop (loc := fun s : Int32 × Int32 => [(0, .ref (X.B + l0)), (1, .int l1), (2, .int s.1), (3, .int s.2)]) (F := (finI X)) (fun s G r G' hb hk => jX0_count_4 ok l0 l1 s.1 s.2 G hb hk) _ _ _ _ _ h hK
  exact J.sub [2, 3, 1, 0] rfl hJ

def fX0_count (l0 : Nat) (l1 : Int32) (G : Mem) : Option (Int32 × Mem) := fX0_count_0 l0 l1 G
set_option maxRecDepth 100000 in
theorem tX0_count {l : Launch} (hfl : l.stackTraces = false) (V : Wd) (l0 : Nat) (l1 : Int32) (G : Mem) {r : Int32} {G' : Mem} (h : fX0_count l0 l1 G = some (r, G')) : Mx l yX0_count cX0_count 4 (some .int) 0 0 V [.ref (V.B + l0), .int l1] G (.inl (some (.int r))) G' :=
  mx_of (L := [(0, .ref (V.B + l0)), (1, .int l1)]) hfl (by decide +kernel) (Nat.le_of_ble_eq_true rfl) rfl (fun X hl hV hin ok he => by
    subst hl; subst hV
    exact J.sub [0, 1] rfl (jX0_count_0 ok l0 l1 G h he))
def fX6_colourOf_11  (s0 : Int32) (G : Mem) : Option (Int32 × Mem) :=
  some (s0, G)

set_option maxRecDepth 100000 in
set_option maxHeartbeats 4000000 in
theorem jX6_colourOf_11 {X : Cx} (ok : OK X cX6_colourOf RX6 (some .int) 1 0 0)  (s0 : Int32) (G : Mem) {r : Int32} {G' : Mem} (h : fX6_colourOf_11 s0 G = some (r, G')) (hK : (finI X) r G') : J X 1 11 [] [.int s0] G := by
  unfold fX6_colourOf_11 at h
  obtain ⟨er, eG⟩ := inj2 h
  subst er; subst eG
  exact j_iret ok rfl dX6_colourOf_11 hK

def fX6_colourOf_0 (l0 : Int32)  (G : Mem) : Option (Int32 × Mem) :=
  if l0 = (0 : Int32) then
    fX6_colourOf_11 (-1 : Int32) G
  else
    fX6_colourOf_11 (l0 >>> ((3 : Int32) &&& 31)) G

set_option maxRecDepth 100000 in
set_option maxHeartbeats 4000000 in
theorem jX6_colourOf_0 {X : Cx} (ok : OK X cX6_colourOf RX6 (some .int) 1 0 0) (l0 : Int32)  (G : Mem) {r : Int32} {G' : Mem} (h : fX6_colourOf_0 l0 G = some (r, G')) (hK : (finI X) r G') : J X 1 0 [(0, .int l0)] [] G := by
  unfold fX6_colourOf_0 at h
  refine j_iload_n ok dX6_colourOf_0 rfl 0 rfl ?_
  rcases ite_some h with ⟨c1, h⟩ | ⟨c1, h⟩
  · refine j_if_ne (tgt := 8) ok dX6_colourOf_1 (by decide) (fun z => absurd c1 z) (fun _ => ?_)
    refine j_iconst (v := -1) ok dX6_colourOf_4 (by decide) ?_
    refine j_goto (tgt := 11) ok dX6_colourOf_5 (by decide) ?_
    exact J.sub [] rfl (jX6_colourOf_11 ok (-1 : Int32) G h hK)
  · refine j_if_ne (tgt := 8) ok dX6_colourOf_1 (by decide) (fun _ => ?_) (fun z => absurd z c1)
    refine j_iload_n ok dX6_colourOf_8 rfl 0 rfl ?_
    refine j_iconst (v := 3) ok dX6_colourOf_9 (by decide) ?_
    refine j_ishr ok dX6_colourOf_10 ?_
    exact J.sub [] rfl (jX6_colourOf_11 ok (l0 >>> ((3 : Int32) &&& 31)) G h hK)

def fX6_colourOf (l0 : Int32) (G : Mem) : Option (Int32 × Mem) := fX6_colourOf_0 l0 G
set_option maxRecDepth 100000 in
theorem tX6_colourOf {l : Launch} (hfl : l.stackTraces = false) (V : Wd) (l0 : Int32) (G : Mem) {r : Int32} {G' : Mem} (h : fX6_colourOf l0 G = some (r, G')) : Mx l yX6_colourOf cX6_colourOf 1 (some .int) 0 0 V [.int l0] G (.inl (some (.int r))) G' :=
  mx_of (L := [(0, .int l0)]) hfl (by decide +kernel) (Nat.le_of_ble_eq_true rfl) rfl (fun X hl hV hin ok he => by
    subst hl; subst hV
    exact J.sub [0] rfl (jX6_colourOf_0 ok l0 G h he))
def fX6_kindOf_0 (l0 : Int32)  (G : Mem) : Option (Int32 × Mem) :=
  some (((l0 &&& (7 : Int32)) - (1 : Int32)), G)

set_option maxRecDepth 100000 in
set_option maxHeartbeats 4000000 in
theorem jX6_kindOf_0 {X : Cx} (ok : OK X cX6_kindOf RX6 (some .int) 1 0 0) (l0 : Int32)  (G : Mem) {r : Int32} {G' : Mem} (h : fX6_kindOf_0 l0 G = some (r, G')) (hK : (finI X) r G') : J X 1 0 [(0, .int l0)] [] G := by
  unfold fX6_kindOf_0 at h
  refine j_iload_n ok dX6_kindOf_0 rfl 0 rfl ?_
  refine j_bipush (v := 7) ok dX6_kindOf_1 (by decide) ?_
  refine j_iand ok dX6_kindOf_3 ?_
  refine j_iconst (v := 1) ok dX6_kindOf_4 (by decide) ?_
  refine j_isub ok dX6_kindOf_5 ?_
  obtain ⟨er, eG⟩ := inj2 h
  subst er; subst eG
  exact j_iret ok rfl dX6_kindOf_6 hK

def fX6_kindOf (l0 : Int32) (G : Mem) : Option (Int32 × Mem) := fX6_kindOf_0 l0 G
set_option maxRecDepth 100000 in
theorem tX6_kindOf {l : Launch} (hfl : l.stackTraces = false) (V : Wd) (l0 : Int32) (G : Mem) {r : Int32} {G' : Mem} (h : fX6_kindOf l0 G = some (r, G')) : Mx l yX6_kindOf cX6_kindOf 1 (some .int) 0 0 V [.int l0] G (.inl (some (.int r))) G' :=
  mx_of (L := [(0, .int l0)]) hfl (by decide +kernel) (Nat.le_of_ble_eq_true rfl) rfl (fun X hl hV hin ok he => by
    subst hl; subst hV
    exact J.sub [0] rfl (jX6_kindOf_0 ok l0 G h he))
def fX1_allowsOrigin_53  (s0 : Int32) (G : Mem) : Option (Int32 × Mem) :=
  rz s0 <|
  some (s0, G)

set_option maxRecDepth 100000 in
set_option maxHeartbeats 4000000 in
theorem jX1_allowsOrigin_53 {X : Cx} (ok : OK X cX1_allowsOrigin RX1 (some .boolean) 4 0 0)  (s0 : Int32) (G : Mem) {r : Int32} {G' : Mem} (h : fX1_allowsOrigin_53 s0 G = some (r, G')) (hK : (finI X) r G') : J X 4 53 [] [.int s0] G := by
  unfold fX1_allowsOrigin_53 at h
  obtain ⟨hz1, h⟩ := rz_some h
  obtain ⟨er, eG⟩ := inj2 h
  subst er; subst eG
  exact j_zret ok rfl hz1 dX1_allowsOrigin_53 hK

def fX1_allowsOrigin_48   (G : Mem) : Option (Int32 × Mem) :=
  fX1_allowsOrigin_53 (1 : Int32) G

set_option maxRecDepth 100000 in
set_option maxHeartbeats 4000000 in
theorem jX1_allowsOrigin_48 {X : Cx} (ok : OK X cX1_allowsOrigin RX1 (some .boolean) 4 0 0)   (G : Mem) {r : Int32} {G' : Mem} (h : fX1_allowsOrigin_48  G = some (r, G')) (hK : (finI X) r G') : J X 4 48 [] [] G := by
  unfold fX1_allowsOrigin_48 at h
  refine j_iconst (v := 1) ok dX1_allowsOrigin_48 (by decide) ?_
  refine j_goto (tgt := 53) ok dX1_allowsOrigin_49 (by decide) ?_
  exact J.sub [] rfl (jX1_allowsOrigin_53 ok (1 : Int32) G h hK)

def fX1_allowsOrigin_52   (G : Mem) : Option (Int32 × Mem) :=
  fX1_allowsOrigin_53 (0 : Int32) G

set_option maxRecDepth 100000 in
set_option maxHeartbeats 4000000 in
theorem jX1_allowsOrigin_52 {X : Cx} (ok : OK X cX1_allowsOrigin RX1 (some .boolean) 4 0 0)   (G : Mem) {r : Int32} {G' : Mem} (h : fX1_allowsOrigin_52  G = some (r, G')) (hK : (finI X) r G') : J X 4 52 [] [] G := by
  unfold fX1_allowsOrigin_52 at h
  refine j_iconst (v := 0) ok dX1_allowsOrigin_52 (by decide) ?_
  exact J.sub [] rfl (jX1_allowsOrigin_53 ok (0 : Int32) G h hK)

def fX1_allowsOrigin_32 (l0 : Nat) (l3 : Int32)  (G : Mem) : Option (Int32 × Mem) :=
  (gF G 11 l0 2).bind fun v1 =>
  if v1 = (-1 : Int32) then
    fX1_allowsOrigin_48 G
  else
    (gF G 11 l0 2).bind fun v3 =>
    if v3 = l3 then
      fX1_allowsOrigin_48 G
    else
      fX1_allowsOrigin_52 G

set_option maxRecDepth 100000 in
set_option maxHeartbeats 4000000 in
theorem jX1_allowsOrigin_32 {X : Cx} (ok : OK X cX1_allowsOrigin RX1 (some .boolean) 4 0 0) (l0 : Nat) (l3 : Int32)  (G : Mem) {r : Int32} {G' : Mem} (h : fX1_allowsOrigin_32 l0 l3 G = some (r, G')) (hK : (finI X) r G') : J X 4 32 [(0, .ref (X.B + l0)), (3, .int l3)] [] G := by
  unfold fX1_allowsOrigin_32 at h
  refine j_aload_n ok dX1_allowsOrigin_32 rfl 0 rfl ?_
  obtain ⟨v1, hv1, h⟩ := obind h
  refine k_getI ok fl_X1_18 hv1 dX1_allowsOrigin_33 ?_
  refine j_iconst (v := -1) ok dX1_allowsOrigin_36 (by decide) ?_
  rcases ite_some h with ⟨c2, h⟩ | ⟨c2, h⟩
  · refine j_icmp_eq (tgt := 48) ok dX1_allowsOrigin_37 (by decide) (fun _ => ?_) (fun z => absurd c2 z)
    exact J.sub [] rfl (jX1_allowsOrigin_48 ok G h hK)
  · refine j_icmp_eq (tgt := 48) ok dX1_allowsOrigin_37 (by decide) (fun z => absurd z c2) (fun _ => ?_)
    refine j_aload_n ok dX1_allowsOrigin_40 rfl 0 rfl ?_
    obtain ⟨v3, hv3, h⟩ := obind h
    refine k_getI ok fl_X1_18 hv3 dX1_allowsOrigin_41 ?_
    refine j_iload_n ok dX1_allowsOrigin_44 rfl 1 rfl ?_
    rcases ite_some h with ⟨c4, h⟩ | ⟨c4, h⟩
    · refine j_icmp_ne (tgt := 52) ok dX1_allowsOrigin_45 (by decide) (fun z => absurd c4 z) (fun _ => ?_)
      exact J.sub [] rfl (jX1_allowsOrigin_48 ok G h hK)
    · refine j_icmp_ne (tgt := 52) ok dX1_allowsOrigin_45 (by decide) (fun _ => ?_) (fun z => absurd z c4)
      exact J.sub [] rfl (jX1_allowsOrigin_52 ok G h hK)

def fX1_allowsOrigin_16 (l0 : Nat) (l2 : Int32) (l3 : Int32)  (G : Mem) : Option (Int32 × Mem) :=
  (gF G 11 l0 1).bind fun v1 =>
  if v1 = (-1 : Int32) then
    fX1_allowsOrigin_32 l0 l3 G
  else
    (gF G 11 l0 1).bind fun v3 =>
    if v3 = l2 then
      fX1_allowsOrigin_32 l0 l3 G
    else
      fX1_allowsOrigin_52 G

set_option maxRecDepth 100000 in
set_option maxHeartbeats 4000000 in
theorem jX1_allowsOrigin_16 {X : Cx} (ok : OK X cX1_allowsOrigin RX1 (some .boolean) 4 0 0) (l0 : Nat) (l2 : Int32) (l3 : Int32)  (G : Mem) {r : Int32} {G' : Mem} (h : fX1_allowsOrigin_16 l0 l2 l3 G = some (r, G')) (hK : (finI X) r G') : J X 4 16 [(0, .ref (X.B + l0)), (2, .int l2), (3, .int l3)] [] G := by
  unfold fX1_allowsOrigin_16 at h
  refine j_aload_n ok dX1_allowsOrigin_16 rfl 0 rfl ?_
  obtain ⟨v1, hv1, h⟩ := obind h
  refine k_getI ok fl_X1_15 hv1 dX1_allowsOrigin_17 ?_
  refine j_iconst (v := -1) ok dX1_allowsOrigin_20 (by decide) ?_
  rcases ite_some h with ⟨c2, h⟩ | ⟨c2, h⟩
  · refine j_icmp_eq (tgt := 32) ok dX1_allowsOrigin_21 (by decide) (fun _ => ?_) (fun z => absurd c2 z)
    exact J.sub [0, 2] rfl (jX1_allowsOrigin_32 ok l0 l3 G h hK)
  · refine j_icmp_eq (tgt := 32) ok dX1_allowsOrigin_21 (by decide) (fun z => absurd z c2) (fun _ => ?_)
    refine j_aload_n ok dX1_allowsOrigin_24 rfl 0 rfl ?_
    obtain ⟨v3, hv3, h⟩ := obind h
    refine k_getI ok fl_X1_15 hv3 dX1_allowsOrigin_25 ?_
    refine j_iload_n ok dX1_allowsOrigin_28 rfl 1 rfl ?_
    rcases ite_some h with ⟨c4, h⟩ | ⟨c4, h⟩
    · refine j_icmp_ne (tgt := 52) ok dX1_allowsOrigin_29 (by decide) (fun z => absurd c4 z) (fun _ => ?_)
      exact J.sub [0, 2] rfl (jX1_allowsOrigin_32 ok l0 l3 G h hK)
    · refine j_icmp_ne (tgt := 52) ok dX1_allowsOrigin_29 (by decide) (fun _ => ?_) (fun z => absurd z c4)
      exact J.sub [] rfl (jX1_allowsOrigin_52 ok G h hK)

def fX1_allowsOrigin_0 (l0 : Nat) (l1 : Int32) (l2 : Int32) (l3 : Int32)  (G : Mem) : Option (Int32 × Mem) :=
  (gF G 11 l0 0).bind fun v1 =>
  if v1 = (-1 : Int32) then
    fX1_allowsOrigin_16 l0 l2 l3 G
  else
    (gF G 11 l0 0).bind fun v3 =>
    if v3 = l1 then
      fX1_allowsOrigin_16 l0 l2 l3 G
    else
      fX1_allowsOrigin_52 G

set_option maxRecDepth 100000 in
set_option maxHeartbeats 4000000 in
theorem jX1_allowsOrigin_0 {X : Cx} (ok : OK X cX1_allowsOrigin RX1 (some .boolean) 4 0 0) (l0 : Nat) (l1 : Int32) (l2 : Int32) (l3 : Int32)  (G : Mem) {r : Int32} {G' : Mem} (h : fX1_allowsOrigin_0 l0 l1 l2 l3 G = some (r, G')) (hK : (finI X) r G') : J X 4 0 [(0, .ref (X.B + l0)), (1, .int l1), (2, .int l2), (3, .int l3)] [] G := by
  unfold fX1_allowsOrigin_0 at h
  refine j_aload_n ok dX1_allowsOrigin_0 rfl 0 rfl ?_
  obtain ⟨v1, hv1, h⟩ := obind h
  refine k_getI ok fl_X1_9 hv1 dX1_allowsOrigin_1 ?_
  refine j_iconst (v := -1) ok dX1_allowsOrigin_4 (by decide) ?_
  rcases ite_some h with ⟨c2, h⟩ | ⟨c2, h⟩
  · refine j_icmp_eq (tgt := 16) ok dX1_allowsOrigin_5 (by decide) (fun _ => ?_) (fun z => absurd c2 z)
    exact J.sub [0, 2, 3] rfl (jX1_allowsOrigin_16 ok l0 l2 l3 G h hK)
  · refine j_icmp_eq (tgt := 16) ok dX1_allowsOrigin_5 (by decide) (fun z => absurd z c2) (fun _ => ?_)
    refine j_aload_n ok dX1_allowsOrigin_8 rfl 0 rfl ?_
    obtain ⟨v3, hv3, h⟩ := obind h
    refine k_getI ok fl_X1_9 hv3 dX1_allowsOrigin_9 ?_
    refine j_iload_n ok dX1_allowsOrigin_12 rfl 1 rfl ?_
    rcases ite_some h with ⟨c4, h⟩ | ⟨c4, h⟩
    · refine j_icmp_ne (tgt := 52) ok dX1_allowsOrigin_13 (by decide) (fun z => absurd c4 z) (fun _ => ?_)
      exact J.sub [0, 2, 3] rfl (jX1_allowsOrigin_16 ok l0 l2 l3 G h hK)
    · refine j_icmp_ne (tgt := 52) ok dX1_allowsOrigin_13 (by decide) (fun _ => ?_) (fun z => absurd z c4)
      exact J.sub [] rfl (jX1_allowsOrigin_52 ok G h hK)

def fX1_allowsOrigin (l0 : Nat) (l1 : Int32) (l2 : Int32) (l3 : Int32) (G : Mem) : Option (Int32 × Mem) := fX1_allowsOrigin_0 l0 l1 l2 l3 G
set_option maxRecDepth 100000 in
theorem tX1_allowsOrigin {l : Launch} (hfl : l.stackTraces = false) (V : Wd) (l0 : Nat) (l1 : Int32) (l2 : Int32) (l3 : Int32) (G : Mem) {r : Int32} {G' : Mem} (h : fX1_allowsOrigin l0 l1 l2 l3 G = some (r, G')) : Mx l yX1_allowsOrigin cX1_allowsOrigin 4 (some .boolean) 0 0 V [.ref (V.B + l0), .int l1, .int l2, .int l3] G (.inl (some (.int r))) G' :=
  mx_of (L := [(0, .ref (V.B + l0)), (1, .int l1), (2, .int l2), (3, .int l3)]) hfl (by decide +kernel) (Nat.le_of_ble_eq_true rfl) rfl (fun X hl hV hin ok he => by
    subst hl; subst hV
    exact J.sub [0, 1, 2, 3] rfl (jX1_allowsOrigin_0 ok l0 l1 l2 l3 G h he))
def fX0_rangeOf_181 (l3 : Int64)  (G : Mem) : Option (Int64 × Mem) :=
  some (l3, G)

set_option maxRecDepth 100000 in
set_option maxHeartbeats 4000000 in
theorem jX0_rangeOf_181 {X : Cx} (ok : OK X cX0_rangeOf RX0 (some .long) 12 1 21) (l3 : Int64)  (G : Mem) {r : Int64} {G' : Mem} (h : fX0_rangeOf_181 l3 G = some (r, G')) (hK : (finJ X) r G') : J X 12 181 [(3, .long l3)] [] G := by
  unfold fX0_rangeOf_181 at h
  refine j_lload_n ok dX0_rangeOf_181 rfl 0 rfl ?_
  obtain ⟨er, eG⟩ := inj2 h
  subst er; subst eG
  exact j_lret ok rfl dX0_rangeOf_182 hK

def fX0_rangeOf_175 (l0 : Nat) (l1 : Int32) (l3 : Int64) (l6 : Int32) (l7 : Int32) (l8 : Int32)  (G : Mem) : Option (((Int64 × Int32) ⊕ Int64) × Mem) :=
  some (.inl (l3, (l8 + (1 : Int32))), G)

set_option maxRecDepth 100000 in
set_option maxHeartbeats 4000000 in
theorem jX0_rangeOf_175 {X : Cx} (ok : OK X cX0_rangeOf RX0 (some .long) 12 1 21) (l0 : Nat) (l1 : Int32) (l3 : Int64) (l6 : Int32) (l7 : Int32) (l8 : Int32)  (G : Mem) {r : ((Int64 × Int32) ⊕ Int64)} {G' : Mem} (h : fX0_rangeOf_175 l0 l1 l3 l6 l7 l8 G = some (r, G')) (hK : (finL X 12 107 (fun s : Int64 × Int32 => [(0, .ref (X.B + l0)), (1, .int l1), (3, .long s.1), (6, .int l6), (7, .int l7), (8, .int s.2)]) (finJ X)) r G') : J X 12 175 [(0, .ref (X.B + l0)), (1, .int l1), (3, .long l3), (6, .int l6), (7, .int l7), (8, .int l8)] [] G := by
  unfold fX0_rangeOf_175 at h
  refine j_iinc (L' := [(8, .int (l8 + (1 : Int32))), (0, .ref (X.B + l0)), (1, .int l1), (3, .long l3), (6, .int l6), (7, .int l7)]) (v := (l8 + (1 : Int32))) ok dX0_rangeOf_175 (q := 5) rfl rfl (by decide) rfl ?_
  refine j_goto (tgt := 107) ok dX0_rangeOf_178 (by decide) ?_
  obtain ⟨er, eG⟩ := inj2 h
  subst er; subst eG
  have hJ : J X 12 107 [(0, .ref (X.B + l0)), (1, .int l1), (3, .long l3), (6, .int l6), (7, .int l7), (8, .int (l8 + (1 : Int32)))] [] G := hK
  exact J.sub [1, 2, 3, 4, 5, 0] rfl hJ

def fX0_rangeOf_169 (l0 : Nat) (l1 : Int32) (l3 : Int64) (l6 : Int32) (l7 : Int32) (l8 : Int32) (l9 : Int32) (l10 : Int32) (l11 : Int32)  (G : Mem) : Option (((Int64 × Int32 × Int32 × Int32) ⊕ ((Int64 × Int32) ⊕ Int64)) × Mem) :=
  some (.inl (l3, l9, l10, (l11 + (1 : Int32))), G)

set_option maxRecDepth 100000 in
set_option maxHeartbeats 4000000 in
theorem jX0_rangeOf_169 {X : Cx} (ok : OK X cX0_rangeOf RX0 (some .long) 12 1 21) (l0 : Nat) (l1 : Int32) (l3 : Int64) (l6 : Int32) (l7 : Int32) (l8 : Int32) (l9 : Int32) (l10 : Int32) (l11 : Int32)  (G : Mem) {r : ((Int64 × Int32 × Int32 × Int32) ⊕ ((Int64 × Int32) ⊕ Int64))} {G' : Mem} (h : fX0_rangeOf_169 l0 l1 l3 l6 l7 l8 l9 l10 l11 G = some (r, G')) (hK : (finL X 12 123 (fun s : Int64 × Int32 × Int32 × Int32 => [(0, .ref (X.B + l0)), (1, .int l1), (3, .long s.1), (6, .int l6), (7, .int l7), (8, .int l8), (9, .int s.2.1), (10, .int s.2.2.1), (11, .int s.2.2.2)]) (finL X 12 107 (fun s : Int64 × Int32 => [(0, .ref (X.B + l0)), (1, .int l1), (3, .long s.1), (6, .int l6), (7, .int l7), (8, .int s.2)]) (finJ X))) r G') : J X 12 169 [(0, .ref (X.B + l0)), (1, .int l1), (3, .long l3), (6, .int l6), (7, .int l7), (8, .int l8), (9, .int l9), (10, .int l10), (11, .int l11)] [] G := by
  unfold fX0_rangeOf_169 at h
  refine j_iinc (L' := [(11, .int (l11 + (1 : Int32))), (0, .ref (X.B + l0)), (1, .int l1), (3, .long l3), (6, .int l6), (7, .int l7), (8, .int l8), (9, .int l9), (10, .int l10)]) (v := (l11 + (1 : Int32))) ok dX0_rangeOf_169 (q := 8) rfl rfl (by decide) rfl ?_
  refine j_goto (tgt := 123) ok dX0_rangeOf_172 (by decide) ?_
  obtain ⟨er, eG⟩ := inj2 h
  subst er; subst eG
  have hJ : J X 12 123 [(0, .ref (X.B + l0)), (1, .int l1), (3, .long l3), (6, .int l6), (7, .int l7), (8, .int l8), (9, .int l9), (10, .int l10), (11, .int (l11 + (1 : Int32)))] [] G := hK
  exact J.sub [1, 2, 3, 4, 5, 6, 7, 8, 0] rfl hJ

def fX0_rangeOf_123 (l0 : Nat) (l1 : Int32) (l3 : Int64) (l6 : Int32) (l7 : Int32) (l8 : Int32) (l9 : Int32) (l10 : Int32) (l11 : Int32)  (G : Mem) : Option (((Int64 × Int32 × Int32 × Int32) ⊕ ((Int64 × Int32) ⊕ Int64)) × Mem) :=
  if l7 ≤ l11 then
    liftE (fX0_rangeOf_175 l0 l1 l3 l6 l7 l8 G)
  else
    if l10 = (0 : Int32) then
      (tb 1 l8).bind fun v3 =>
      ck G 10 l0 <| (fX0_on l0 (l9 + v3) G).bind fun q4 =>
      if q4.1 = (15 : Int32) then
        fX0_rangeOf_169 l0 l1 l3 l6 l7 l8 (l9 + v3) q4.1 l11 q4.2
      else
        (fX0_bitOf (l9 + v3) q4.2).bind fun q6 =>
        fX0_rangeOf_169 l0 l1 (l3 ||| q6.1) l6 l7 l8 (l9 + v3) q4.1 l11 q6.2
    else
      liftE (fX0_rangeOf_175 l0 l1 l3 l6 l7 l8 G)

set_option maxRecDepth 100000 in
set_option maxHeartbeats 4000000 in
theorem jX0_rangeOf_123 {X : Cx} (ok : OK X cX0_rangeOf RX0 (some .long) 12 1 21) (l0 : Nat) (l1 : Int32) (l3 : Int64) (l6 : Int32) (l7 : Int32) (l8 : Int32) (l9 : Int32) (l10 : Int32) (l11 : Int32)  (G : Mem) {r : ((Int64 × Int32 × Int32 × Int32) ⊕ ((Int64 × Int32) ⊕ Int64))} {G' : Mem} (h : fX0_rangeOf_123 l0 l1 l3 l6 l7 l8 l9 l10 l11 G = some (r, G')) (hK : (finL X 12 123 (fun s : Int64 × Int32 × Int32 × Int32 => [(0, .ref (X.B + l0)), (1, .int l1), (3, .long s.1), (6, .int l6), (7, .int l7), (8, .int l8), (9, .int s.2.1), (10, .int s.2.2.1), (11, .int s.2.2.2)]) (finL X 12 107 (fun s : Int64 × Int32 => [(0, .ref (X.B + l0)), (1, .int l1), (3, .long s.1), (6, .int l6), (7, .int l7), (8, .int s.2)]) (finJ X))) r G') : J X 12 123 [(0, .ref (X.B + l0)), (1, .int l1), (3, .long l3), (6, .int l6), (7, .int l7), (8, .int l8), (9, .int l9), (10, .int l10), (11, .int l11)] [] G := by
  unfold fX0_rangeOf_123 at h
  refine j_iload ok dX0_rangeOf_123 8 rfl ?_
  refine j_iload ok dX0_rangeOf_125 4 rfl ?_
  rcases ite_some h with ⟨c1, h⟩ | ⟨c1, h⟩
  · refine j_icmp_ge (tgt := 175) ok dX0_rangeOf_127 (by decide) (fun _ => ?_) (fun z => absurd c1 z)
    obtain ⟨r1, e1, h1⟩ := lift_some h
    subst e1
    exact J.sub [0, 1, 2, 3, 4, 5] rfl (jX0_rangeOf_175 ok l0 l1 l3 l6 l7 l8 G h1 hK)
  · refine j_icmp_ge (tgt := 175) ok dX0_rangeOf_127 (by decide) (fun z => absurd z c1) (fun _ => ?_)
    refine j_iload ok dX0_rangeOf_130 7 rfl ?_
    rcases ite_some h with ⟨c2, h⟩ | ⟨c2, h⟩
    · refine j_if_ne (tgt := 175) ok dX0_rangeOf_132 (by decide) (fun z => absurd c2 z) (fun _ => ?_)
      refine j_iload ok dX0_rangeOf_135 6 rfl ?_
      refine k_tab ok (k := 1) (by decide) wg_X0_56 dX0_rangeOf_137 ?_
      refine j_iload ok dX0_rangeOf_140 5 rfl ?_
      obtain ⟨v3, hv3, h⟩ := obind h
      refine k_tiaload ok (k := 1) (by decide) hv3 dX0_rangeOf_142 ?_
      refine j_iadd ok dX0_rangeOf_143 ?_
      refine j_istore (L' := [(9, .int (l9 + v3)), (0, .ref (X.B + l0)), (1, .int l1), (3, .long l3), (6, .int l6), (7, .int l7), (8, .int l8), (10, .int l10), (11, .int l11)]) ok dX0_rangeOf_144 (by decide) rfl ?_
      refine j_aload_n ok dX0_rangeOf_146 rfl 1 rfl ?_
      refine j_iload ok dX0_rangeOf_147 0 rfl ?_
      obtain ⟨kq4, h⟩ := ck_some h
      obtain ⟨q4, hq4, h⟩ := obind h
      refine k_V1 ok kl_X0_48 ⟨Nat.le_of_ble_eq_true rfl, Nat.le_of_ble_eq_true rfl⟩ [.int (l9 + v3)] kq4 rfl rfl (Nat.le_of_ble_eq_true rfl) (tX0_on ok.fl X.V l0 (l9 + v3) G hq4) dX0_rangeOf_149 ?_
      refine j_istore (L' := [(10, .int q4.1), (9, .int (l9 + v3)), (0, .ref (X.B + l0)), (1, .int l1), (3, .long l3), (6, .int l6), (7, .int l7), (8, .int l8), (11, .int l11)]) ok dX0_rangeOf_152 (by decide) rfl ?_
      refine j_iload ok dX0_rangeOf_154 0 rfl ?_
      refine j_bipush (v := 15) ok dX0_rangeOf_156 (by decide) ?_
      rcases ite_some h with ⟨c5, h⟩ | ⟨c5, h⟩
      · refine j_icmp_eq (tgt := 169) ok dX0_rangeOf_158 (by decide) (fun _ => ?_) (fun z => absurd c5 z)
        exact J.sub [2, 3, 4, 5, 6, 7, 1, 0, 8] rfl (jX0_rangeOf_169 ok l0 l1 l3 l6 l7 l8 (l9 + v3) q4.1 l11 q4.2 h hK)
      · refine j_icmp_eq (tgt := 169) ok dX0_rangeOf_158 (by decide) (fun z => absurd z c5) (fun _ => ?_)
        refine j_lload_n ok dX0_rangeOf_161 rfl 4 rfl ?_
        refine j_iload ok dX0_rangeOf_162 1 rfl ?_
        obtain ⟨q6, hq6, h⟩ := obind h
        refine k_S1 ok kl_X0_85 ⟨Nat.le_of_ble_eq_true rfl, Nat.le_of_ble_eq_true rfl⟩ [.int (l9 + v3)] rfl rfl (Nat.le_of_ble_eq_true rfl) (tX0_bitOf ok.fl X.V (l9 + v3) q4.2 hq6) dX0_rangeOf_164 ?_
        refine j_lor ok dX0_rangeOf_167 ?_
        refine j_lstore_n (L' := [(3, .long (l3 ||| q6.1)), (10, .int q4.1), (9, .int (l9 + v3)), (0, .ref (X.B + l0)), (1, .int l1), (6, .int l6), (7, .int l7), (8, .int l8), (11, .int l11)]) ok dX0_rangeOf_168 rfl (by decide) rfl ?_
        exact J.sub [3, 4, 0, 5, 6, 7, 2, 1, 8] rfl (jX0_rangeOf_169 ok l0 l1 (l3 ||| q6.1) l6 l7 l8 (l9 + v3) q4.1 l11 q6.2 h hK)
    · refine j_if_ne (tgt := 175) ok dX0_rangeOf_132 (by decide) (fun _ => ?_) (fun z => absurd z c2)
      obtain ⟨r1, e1, h1⟩ := lift_some h
      subst e1
      exact J.sub [0, 1, 2, 3, 4, 5] rfl (jX0_rangeOf_175 ok l0 l1 l3 l6 l7 l8 G h1 hK)

def fX0_rangeOf_107 (l0 : Nat) (l1 : Int32) (l3 : Int64) (l6 : Int32) (l7 : Int32) (l8 : Int32)  (G : Mem) : Option (((Int64 × Int32) ⊕ Int64) × Mem) :=
  if l6 ≤ l8 then
    liftE (fX0_rangeOf_181 l3 G)
  else
    loopM (fun (s : Int64 × Int32 × Int32 × Int32) G => fX0_rangeOf_123 l0 l1 s.1 l6 l7 l8 s.2.1 s.2.2.1 s.2.2.2 G) FU (l3, l1, (0 : Int32), (0 : Int32)) G

set_option maxRecDepth 100000 in
set_option maxHeartbeats 4000000 in
theorem jX0_rangeOf_107 {X : Cx} (ok : OK X cX0_rangeOf RX0 (some .long) 12 1 21) (l0 : Nat) (l1 : Int32) (l3 : Int64) (l6 : Int32) (l7 : Int32) (l8 : Int32)  (G : Mem) {r : ((Int64 × Int32) ⊕ Int64)} {G' : Mem} (h : fX0_rangeOf_107 l0 l1 l3 l6 l7 l8 G = some (r, G')) (hK : (finL X 12 107 (fun s : Int64 × Int32 => [(0, .ref (X.B + l0)), (1, .int l1), (3, .long s.1), (6, .int l6), (7, .int l7), (8, .int s.2)]) (finJ X)) r G') : J X 12 107 [(0, .ref (X.B + l0)), (1, .int l1), (3, .long l3), (6, .int l6), (7, .int l7), (8, .int l8)] [] G := by
  unfold fX0_rangeOf_107 at h
  refine j_iload ok dX0_rangeOf_107 5 rfl ?_
  refine j_iload ok dX0_rangeOf_109 3 rfl ?_
  rcases ite_some h with ⟨c1, h⟩ | ⟨c1, h⟩
  · refine j_icmp_ge (tgt := 181) ok dX0_rangeOf_111 (by decide) (fun _ => ?_) (fun z => absurd c1 z)
    obtain ⟨r1, e1, h1⟩ := lift_some h
    subst e1
    exact J.sub [2] rfl (jX0_rangeOf_181 ok l3 G h1 hK)
  · refine j_icmp_ge (tgt := 181) ok dX0_rangeOf_111 (by decide) (fun z => absurd z c1) (fun _ => ?_)
    refine j_iload_n ok dX0_rangeOf_114 rfl 1 rfl ?_
    refine j_istore (L' := [(9, .int l1), (0, .ref (X.B + l0)), (1, .int l1), (3, .long l3), (6, .int l6), (7, .int l7), (8, .int l8)]) ok dX0_rangeOf_115 (by decide) rfl ?_
    refine j_iconst (v := 0) ok dX0_rangeOf_117 (by decide) ?_
    refine j_istore (L' := [(10, .int (0 : Int32)), (9, .int l1), (0, .ref (X.B + l0)), (1, .int l1), (3, .long l3), (6, .int l6), (7, .int l7), (8, .int l8)]) ok dX0_rangeOf_118 (by decide) rfl ?_
    refine j_iconst (v := 0) ok dX0_rangeOf_120 (by decide) ?_
    refine j_istore (L' := [(11, .int (0 : Int32)), (10, .int (0 : Int32)), (9, .int l1), (0, .ref (X.B + l0)), (1, .int l1), (3, .long l3), (6, .int l6), (7, .int l7), (8, .int l8)]) ok dX0_rangeOf_121 (by decide) rfl ?_
    have hJ : J X 12 123 [(0, .ref (X.B + l0)), (1, .int l1), (3, .long l3), (6, .int l6), (7, .int l7), (8, .int l8), (9, .int l1), (10, .int (0 : Int32)), (11, .int (0 : Int32))] [] G := j_loop (loc := fun s : Int64 × Int32 × Int32 × Int32 => [(0, .ref (X.B + l0)), (1, .int l1), (3, .long s.1), (6, .int l6), (7, .int l7), (8, .int l8), (9, .int s.2.1), (10, .int s.2.2.1), (11, .int s.2.2.2)]) (F := (finL X 12 107 (fun s : Int64 × Int32 => [(0, .ref (X.B + l0)), (1, .int l1), (3, .long s.1), (6, .int l6), (7, .int l7), (8, .int s.2)]) (finJ X))) (fun s G r G' hb hk => jX0_rangeOf_123 ok l0 l1 s.1 l6 l7 l8 s.2.1 s.2.2.1 s.2.2.2 G hb hk) _ _ _ _ _ h hK
    exact J.sub [3, 4, 5, 6, 7, 8, 2, 1, 0] rfl hJ

def fX0_rangeOf_101 (l0 : Nat) (l1 : Int32) (l3 : Int64) (l5 : Int32) (l6 : Int32) (s0 : Int32) (G : Mem) : Option (Int64 × Mem) :=
  loopM (fun (s : Int64 × Int32) G => fX0_rangeOf_107 l0 l1 s.1 l6 s0 s.2 G) FU (l3, l5) G

set_option maxRecDepth 100000 in
set_option maxHeartbeats 4000000 in
theorem jX0_rangeOf_101 {X : Cx} (ok : OK X cX0_rangeOf RX0 (some .long) 12 1 21) (l0 : Nat) (l1 : Int32) (l3 : Int64) (l5 : Int32) (l6 : Int32) (s0 : Int32) (G : Mem) {r : Int64} {G' : Mem} (h : fX0_rangeOf_101 l0 l1 l3 l5 l6 s0 G = some (r, G')) (hK : (finJ X) r G') : J X 12 101 [(0, .ref (X.B + l0)), (1, .int l1), (3, .long l3), (5, .int l5), (6, .int l6)] [.int s0] G := by
  unfold fX0_rangeOf_101 at h
  refine j_istore (L' := [(7, .int s0), (0, .ref (X.B + l0)), (1, .int l1), (3, .long l3), (5, .int l5), (6, .int l6)]) ok dX0_rangeOf_101 (by decide) rfl ?_
  refine j_iload ok dX0_rangeOf_103 4 rfl ?_
  refine j_istore (L' := [(8, .int l5), (7, .int s0), (0, .ref (X.B + l0)), (1, .int l1), (3, .long l3), (5, .int l5), (6, .int l6)]) ok dX0_rangeOf_105 (by decide) rfl ?_
  have hJ : J X 12 107 [(0, .ref (X.B + l0)), (1, .int l1), (3, .long l3), (6, .int l6), (7, .int s0), (8, .int l5)] [] G := j_loop (loc := fun s : Int64 × Int32 => [(0, .ref (X.B + l0)), (1, .int l1), (3, .long s.1), (6, .int l6), (7, .int s0), (8, .int s.2)]) (F := (finJ X)) (fun s G r G' hb hk => jX0_rangeOf_107 ok l0 l1 s.1 l6 s0 s.2 G hb hk) _ _ _ _ _ h hK
  exact J.sub [2, 3, 4, 6, 1, 0] rfl hJ

def fX0_rangeOf_90 (l0 : Nat) (l1 : Int32) (l2 : Int32) (l3 : Int64) (l5 : Int32) (s0 : Int32) (G : Mem) : Option (Int64 × Mem) :=
  if l2 = (0 : Int32) then
    fX0_rangeOf_101 l0 l1 l3 l5 s0 (1 : Int32) G
  else
    fX0_rangeOf_101 l0 l1 l3 l5 s0 (5 : Int32) G

set_option maxRecDepth 100000 in
set_option maxHeartbeats 4000000 in
theorem jX0_rangeOf_90 {X : Cx} (ok : OK X cX0_rangeOf RX0 (some .long) 12 1 21) (l0 : Nat) (l1 : Int32) (l2 : Int32) (l3 : Int64) (l5 : Int32) (s0 : Int32) (G : Mem) {r : Int64} {G' : Mem} (h : fX0_rangeOf_90 l0 l1 l2 l3 l5 s0 G = some (r, G')) (hK : (finJ X) r G') : J X 12 90 [(0, .ref (X.B + l0)), (1, .int l1), (2, .int l2), (3, .long l3), (5, .int l5)] [.int s0] G := by
  unfold fX0_rangeOf_90 at h
  refine j_istore (L' := [(6, .int s0), (0, .ref (X.B + l0)), (1, .int l1), (2, .int l2), (3, .long l3), (5, .int l5)]) ok dX0_rangeOf_90 (by decide) rfl ?_
  refine j_iload_n ok dX0_rangeOf_92 rfl 3 rfl ?_
  rcases ite_some h with ⟨c1, h⟩ | ⟨c1, h⟩
  · refine j_if_ne (tgt := 100) ok dX0_rangeOf_93 (by decide) (fun z => absurd c1 z) (fun _ => ?_)
    refine j_iconst (v := 1) ok dX0_rangeOf_96 (by decide) ?_
    refine j_goto (tgt := 101) ok dX0_rangeOf_97 (by decide) ?_
    exact J.sub [1, 2, 4, 5, 0] rfl (jX0_rangeOf_101 ok l0 l1 l3 l5 s0 (1 : Int32) G h hK)
  · refine j_if_ne (tgt := 100) ok dX0_rangeOf_93 (by decide) (fun _ => ?_) (fun z => absurd z c1)
    refine j_iconst (v := 5) ok dX0_rangeOf_100 (by decide) ?_
    exact J.sub [1, 2, 4, 5, 0] rfl (jX0_rangeOf_101 ok l0 l1 l3 l5 s0 (5 : Int32) G h hK)

def fX0_rangeOf_75 (l0 : Nat) (l1 : Int32) (l2 : Int32) (l3 : Int64) (s0 : Int32) (G : Mem) : Option (Int64 × Mem) :=
  if l2 = (2 : Int32) then
    fX0_rangeOf_90 l0 l1 l2 l3 s0 (4 : Int32) G
  else
    fX0_rangeOf_90 l0 l1 l2 l3 s0 (8 : Int32) G

set_option maxRecDepth 100000 in
set_option maxHeartbeats 4000000 in
theorem jX0_rangeOf_75 {X : Cx} (ok : OK X cX0_rangeOf RX0 (some .long) 12 1 21) (l0 : Nat) (l1 : Int32) (l2 : Int32) (l3 : Int64) (s0 : Int32) (G : Mem) {r : Int64} {G' : Mem} (h : fX0_rangeOf_75 l0 l1 l2 l3 s0 G = some (r, G')) (hK : (finJ X) r G') : J X 12 75 [(0, .ref (X.B + l0)), (1, .int l1), (2, .int l2), (3, .long l3)] [.int s0] G := by
  unfold fX0_rangeOf_75 at h
  refine j_istore (L' := [(5, .int s0), (0, .ref (X.B + l0)), (1, .int l1), (2, .int l2), (3, .long l3)]) ok dX0_rangeOf_75 (by decide) rfl ?_
  refine j_iload_n ok dX0_rangeOf_77 rfl 3 rfl ?_
  refine j_iconst (v := 2) ok dX0_rangeOf_78 (by decide) ?_
  rcases ite_some h with ⟨c1, h⟩ | ⟨c1, h⟩
  · refine j_icmp_ne (tgt := 86) ok dX0_rangeOf_79 (by decide) (fun z => absurd c1 z) (fun _ => ?_)
    refine j_iconst (v := 4) ok dX0_rangeOf_82 (by decide) ?_
    refine j_goto (tgt := 90) ok dX0_rangeOf_83 (by decide) ?_
    exact J.sub [1, 2, 3, 4, 0] rfl (jX0_rangeOf_90 ok l0 l1 l2 l3 s0 (4 : Int32) G h hK)
  · refine j_icmp_ne (tgt := 86) ok dX0_rangeOf_79 (by decide) (fun _ => ?_) (fun z => absurd z c1)
    refine k_tab ok (k := 1) (by decide) wg_X0_56 dX0_rangeOf_86 ?_
    refine k_tlen ok (k := 1) (by decide) rfl dX0_rangeOf_89 ?_
    exact J.sub [1, 2, 3, 4, 0] rfl (jX0_rangeOf_90 ok l0 l1 l2 l3 s0 (8 : Int32) G h hK)

def fX0_rangeOf_63 (l3 : Int64)  (G : Mem) : Option (Int64 × Mem) :=
  some (l3, G)

set_option maxRecDepth 100000 in
set_option maxHeartbeats 4000000 in
theorem jX0_rangeOf_63 {X : Cx} (ok : OK X cX0_rangeOf RX0 (some .long) 12 1 21) (l3 : Int64)  (G : Mem) {r : Int64} {G' : Mem} (h : fX0_rangeOf_63 l3 G = some (r, G')) (hK : (finJ X) r G') : J X 12 63 [(3, .long l3)] [] G := by
  unfold fX0_rangeOf_63 at h
  refine j_lload_n ok dX0_rangeOf_63 rfl 0 rfl ?_
  obtain ⟨er, eG⟩ := inj2 h
  subst er; subst eG
  exact j_lret ok rfl dX0_rangeOf_64 hK

def fX0_rangeOf_57 (l0 : Nat) (l1 : Int32) (l3 : Int64) (l5 : Int32)  (G : Mem) : Option (((Int64 × Int32) ⊕ Int64) × Mem) :=
  some (.inl (l3, (l5 + (1 : Int32))), G)

set_option maxRecDepth 100000 in
set_option maxHeartbeats 4000000 in
theorem jX0_rangeOf_57 {X : Cx} (ok : OK X cX0_rangeOf RX0 (some .long) 12 1 21) (l0 : Nat) (l1 : Int32) (l3 : Int64) (l5 : Int32)  (G : Mem) {r : ((Int64 × Int32) ⊕ Int64)} {G' : Mem} (h : fX0_rangeOf_57 l0 l1 l3 l5 G = some (r, G')) (hK : (finL X 12 19 (fun s : Int64 × Int32 => [(0, .ref (X.B + l0)), (1, .int l1), (3, .long s.1), (5, .int s.2)]) (finJ X)) r G') : J X 12 57 [(0, .ref (X.B + l0)), (1, .int l1), (3, .long l3), (5, .int l5)] [] G := by
  unfold fX0_rangeOf_57 at h
  refine j_iinc (L' := [(5, .int (l5 + (1 : Int32))), (0, .ref (X.B + l0)), (1, .int l1), (3, .long l3)]) (v := (l5 + (1 : Int32))) ok dX0_rangeOf_57 (q := 3) rfl rfl (by decide) rfl ?_
  refine j_goto (tgt := 19) ok dX0_rangeOf_60 (by decide) ?_
  obtain ⟨er, eG⟩ := inj2 h
  subst er; subst eG
  have hJ : J X 12 19 [(0, .ref (X.B + l0)), (1, .int l1), (3, .long l3), (5, .int (l5 + (1 : Int32)))] [] G := hK
  exact J.sub [1, 2, 3, 0] rfl hJ

def fX0_rangeOf_19 (l0 : Nat) (l1 : Int32) (l3 : Int64) (l5 : Int32)  (G : Mem) : Option (((Int64 × Int32) ⊕ Int64) × Mem) :=
  if (8 : Int32) ≤ l5 then
    liftE (fX0_rangeOf_63 l3 G)
  else
    (tb 2 l5).bind fun v2 =>
    ck G 10 l0 <| (fX0_on l0 (l1 + v2) G).bind fun q3 =>
    if q3.1 = (15 : Int32) then
      fX0_rangeOf_57 l0 l1 l3 l5 q3.2
    else
      (fX0_bitOf (l1 + v2) q3.2).bind fun q5 =>
      fX0_rangeOf_57 l0 l1 (l3 ||| q5.1) l5 q5.2

set_option maxRecDepth 100000 in
set_option maxHeartbeats 4000000 in
theorem jX0_rangeOf_19 {X : Cx} (ok : OK X cX0_rangeOf RX0 (some .long) 12 1 21) (l0 : Nat) (l1 : Int32) (l3 : Int64) (l5 : Int32)  (G : Mem) {r : ((Int64 × Int32) ⊕ Int64)} {G' : Mem} (h : fX0_rangeOf_19 l0 l1 l3 l5 G = some (r, G')) (hK : (finL X 12 19 (fun s : Int64 × Int32 => [(0, .ref (X.B + l0)), (1, .int l1), (3, .long s.1), (5, .int s.2)]) (finJ X)) r G') : J X 12 19 [(0, .ref (X.B + l0)), (1, .int l1), (3, .long l3), (5, .int l5)] [] G := by
  unfold fX0_rangeOf_19 at h
  refine j_iload ok dX0_rangeOf_19 3 rfl ?_
  refine k_tab ok (k := 2) (by decide) wg_X0_59 dX0_rangeOf_21 ?_
  refine k_tlen ok (k := 2) (by decide) rfl dX0_rangeOf_24 ?_
  rcases ite_some h with ⟨c1, h⟩ | ⟨c1, h⟩
  · refine j_icmp_ge (tgt := 63) ok dX0_rangeOf_25 (by decide) (fun _ => ?_) (fun z => absurd c1 z)
    obtain ⟨r1, e1, h1⟩ := lift_some h
    subst e1
    exact J.sub [2] rfl (jX0_rangeOf_63 ok l3 G h1 hK)
  · refine j_icmp_ge (tgt := 63) ok dX0_rangeOf_25 (by decide) (fun z => absurd z c1) (fun _ => ?_)
    refine j_iload_n ok dX0_rangeOf_28 rfl 1 rfl ?_
    refine k_tab ok (k := 2) (by decide) wg_X0_59 dX0_rangeOf_29 ?_
    refine j_iload ok dX0_rangeOf_32 3 rfl ?_
    obtain ⟨v2, hv2, h⟩ := obind h
    refine k_tiaload ok (k := 2) (by decide) hv2 dX0_rangeOf_34 ?_
    refine j_iadd ok dX0_rangeOf_35 ?_
    refine j_istore (L' := [(6, .int (l1 + v2)), (0, .ref (X.B + l0)), (1, .int l1), (3, .long l3), (5, .int l5)]) ok dX0_rangeOf_36 (by decide) rfl ?_
    refine j_aload_n ok dX0_rangeOf_38 rfl 1 rfl ?_
    refine j_iload ok dX0_rangeOf_39 0 rfl ?_
    obtain ⟨kq3, h⟩ := ck_some h
    obtain ⟨q3, hq3, h⟩ := obind h
    refine k_V1 ok kl_X0_48 ⟨Nat.le_of_ble_eq_true rfl, Nat.le_of_ble_eq_true rfl⟩ [.int (l1 + v2)] kq3 rfl rfl (Nat.le_of_ble_eq_true rfl) (tX0_on ok.fl X.V l0 (l1 + v2) G hq3) dX0_rangeOf_41 ?_
    refine j_bipush (v := 15) ok dX0_rangeOf_44 (by decide) ?_
    rcases ite_some h with ⟨c4, h⟩ | ⟨c4, h⟩
    · refine j_icmp_eq (tgt := 57) ok dX0_rangeOf_46 (by decide) (fun _ => ?_) (fun z => absurd c4 z)
      exact J.sub [1, 2, 3, 4] rfl (jX0_rangeOf_57 ok l0 l1 l3 l5 q3.2 h hK)
    · refine j_icmp_eq (tgt := 57) ok dX0_rangeOf_46 (by decide) (fun z => absurd z c4) (fun _ => ?_)
      refine j_lload_n ok dX0_rangeOf_49 rfl 3 rfl ?_
      refine j_iload ok dX0_rangeOf_50 0 rfl ?_
      obtain ⟨q5, hq5, h⟩ := obind h
      refine k_S1 ok kl_X0_85 ⟨Nat.le_of_ble_eq_true rfl, Nat.le_of_ble_eq_true rfl⟩ [.int (l1 + v2)] rfl rfl (Nat.le_of_ble_eq_true rfl) (tX0_bitOf ok.fl X.V (l1 + v2) q3.2 hq5) dX0_rangeOf_52 ?_
      refine j_lor ok dX0_rangeOf_55 ?_
      refine j_lstore_n (L' := [(3, .long (l3 ||| q5.1)), (6, .int (l1 + v2)), (0, .ref (X.B + l0)), (1, .int l1), (5, .int l5)]) ok dX0_rangeOf_56 rfl (by decide) rfl ?_
      exact J.sub [2, 3, 0, 4] rfl (jX0_rangeOf_57 ok l0 l1 (l3 ||| q5.1) l5 q5.2 h hK)

def fX0_rangeOf_0 (l0 : Nat) (l1 : Int32)  (G : Mem) : Option (Int64 × Mem) :=
  ck G 10 l0 <| (fX0_on l0 l1 G).bind fun q1 =>
  (fX6_kindOf q1.1 q1.2).bind fun q2 =>
  if q2.1 = (4 : Int32) then
    loopM (fun (s : Int64 × Int32) G => fX0_rangeOf_19 l0 l1 s.1 s.2 G) FU ((0 : Int64), (0 : Int32)) q2.2
  else
    if q2.1 = (3 : Int32) then
      fX0_rangeOf_75 l0 l1 q2.1 (0 : Int64) (4 : Int32) q2.2
    else
      fX0_rangeOf_75 l0 l1 q2.1 (0 : Int64) (0 : Int32) q2.2

set_option maxRecDepth 100000 in
set_option maxHeartbeats 4000000 in
theorem jX0_rangeOf_0 {X : Cx} (ok : OK X cX0_rangeOf RX0 (some .long) 12 1 21) (l0 : Nat) (l1 : Int32)  (G : Mem) {r : Int64} {G' : Mem} (h : fX0_rangeOf_0 l0 l1 G = some (r, G')) (hK : (finJ X) r G') : J X 12 0 [(0, .ref (X.B + l0)), (1, .int l1)] [] G := by
  unfold fX0_rangeOf_0 at h
  refine j_aload_n ok dX0_rangeOf_0 rfl 0 rfl ?_
  refine j_iload_n ok dX0_rangeOf_1 rfl 1 rfl ?_
  obtain ⟨kq1, h⟩ := ck_some h
  obtain ⟨q1, hq1, h⟩ := obind h
  refine k_V1 ok kl_X0_48 ⟨Nat.le_of_ble_eq_true rfl, Nat.le_of_ble_eq_true rfl⟩ [.int l1] kq1 rfl rfl (Nat.le_of_ble_eq_true rfl) (tX0_on ok.fl X.V l0 l1 G hq1) dX0_rangeOf_2 ?_
  obtain ⟨q2, hq2, h⟩ := obind h
  refine k_N1 ok kl_X0_68 ⟨Nat.le_of_ble_eq_true rfl, Nat.le_of_ble_eq_true rfl⟩ [.int q1.1] rfl rfl (Nat.le_of_ble_eq_true rfl) (tX6_kindOf ok.fl X.V q1.1 q1.2 hq2) dX0_rangeOf_5 ?_
  refine j_istore_n (L' := [(2, .int q2.1), (0, .ref (X.B + l0)), (1, .int l1)]) ok dX0_rangeOf_8 rfl (by decide) rfl ?_
  refine j_lconst (v := 0) ok dX0_rangeOf_9 (by decide) ?_
  refine j_lstore_n (L' := [(3, .long (0 : Int64)), (2, .int q2.1), (0, .ref (X.B + l0)), (1, .int l1)]) ok dX0_rangeOf_10 rfl (by decide) rfl ?_
  refine j_iload_n ok dX0_rangeOf_11 rfl 1 rfl ?_
  refine j_iconst (v := 4) ok dX0_rangeOf_12 (by decide) ?_
  rcases ite_some h with ⟨c3, h⟩ | ⟨c3, h⟩
  · refine j_icmp_ne (tgt := 65) ok dX0_rangeOf_13 (by decide) (fun z => absurd c3 z) (fun _ => ?_)
    refine j_iconst (v := 0) ok dX0_rangeOf_16 (by decide) ?_
    refine j_istore (L' := [(5, .int (0 : Int32)), (3, .long (0 : Int64)), (2, .int q2.1), (0, .ref (X.B + l0)), (1, .int l1)]) ok dX0_rangeOf_17 (by decide) rfl ?_
    have hJ : J X 12 19 [(0, .ref (X.B + l0)), (1, .int l1), (3, .long (0 : Int64)), (5, .int (0 : Int32))] [] q2.2 := j_loop (loc := fun s : Int64 × Int32 => [(0, .ref (X.B + l0)), (1, .int l1), (3, .long s.1), (5, .int s.2)]) (F := (finJ X)) (fun s G r G' hb hk => jX0_rangeOf_19 ok l0 l1 s.1 s.2 G hb hk) _ _ _ _ _ h hK
    exact J.sub [3, 4, 1, 0] rfl hJ
  · refine j_icmp_ne (tgt := 65) ok dX0_rangeOf_13 (by decide) (fun _ => ?_) (fun z => absurd z c3)
    refine j_iload_n ok dX0_rangeOf_65 rfl 1 rfl ?_
    refine j_iconst (v := 3) ok dX0_rangeOf_66 (by decide) ?_
    rcases ite_some h with ⟨c4, h⟩ | ⟨c4, h⟩
    · refine j_icmp_ne (tgt := 74) ok dX0_rangeOf_67 (by decide) (fun z => absurd c4 z) (fun _ => ?_)
      refine j_iconst (v := 4) ok dX0_rangeOf_70 (by decide) ?_
      refine j_goto (tgt := 75) ok dX0_rangeOf_71 (by decide) ?_
      exact J.sub [2, 3, 1, 0] rfl (jX0_rangeOf_75 ok l0 l1 q2.1 (0 : Int64) (4 : Int32) q2.2 h hK)
    · refine j_icmp_ne (tgt := 74) ok dX0_rangeOf_67 (by decide) (fun _ => ?_) (fun z => absurd z c4)
      refine j_iconst (v := 0) ok dX0_rangeOf_74 (by decide) ?_
      exact J.sub [2, 3, 1, 0] rfl (jX0_rangeOf_75 ok l0 l1 q2.1 (0 : Int64) (0 : Int32) q2.2 h hK)

def fX0_rangeOf (l0 : Nat) (l1 : Int32) (G : Mem) : Option (Int64 × Mem) := fX0_rangeOf_0 l0 l1 G
set_option maxRecDepth 100000 in
theorem tX0_rangeOf {l : Launch} (hfl : l.stackTraces = false) (V : Wd) (l0 : Nat) (l1 : Int32) (G : Mem) {r : Int64} {G' : Mem} (h : fX0_rangeOf l0 l1 G = some (r, G')) : Mx l yX0_rangeOf cX0_rangeOf 12 (some .long) 1 21 V [.ref (V.B + l0), .int l1] G (.inl (some (.long r))) G' :=
  mx_of (L := [(0, .ref (V.B + l0)), (1, .int l1)]) hfl (by decide +kernel) (Nat.le_of_ble_eq_true rfl) rfl (fun X hl hV hin ok he => by
    subst hl; subst hV
    exact J.sub [0, 1] rfl (jX0_rangeOf_0 ok l0 l1 G h he))
def fX1_allowsTarget_48  (s0 : Int32) (G : Mem) : Option (Int32 × Mem) :=
  rz s0 <|
  some (s0, G)

set_option maxRecDepth 100000 in
set_option maxHeartbeats 4000000 in
theorem jX1_allowsTarget_48 {X : Cx} (ok : OK X cX1_allowsTarget RX1 (some .boolean) 4 0 0)  (s0 : Int32) (G : Mem) {r : Int32} {G' : Mem} (h : fX1_allowsTarget_48 s0 G = some (r, G')) (hK : (finI X) r G') : J X 4 48 [] [.int s0] G := by
  unfold fX1_allowsTarget_48 at h
  obtain ⟨hz1, h⟩ := rz_some h
  obtain ⟨er, eG⟩ := inj2 h
  subst er; subst eG
  exact j_zret ok rfl hz1 dX1_allowsTarget_48 hK

def fX1_allowsTarget_43   (G : Mem) : Option (Int32 × Mem) :=
  fX1_allowsTarget_48 (1 : Int32) G

set_option maxRecDepth 100000 in
set_option maxHeartbeats 4000000 in
theorem jX1_allowsTarget_43 {X : Cx} (ok : OK X cX1_allowsTarget RX1 (some .boolean) 4 0 0)   (G : Mem) {r : Int32} {G' : Mem} (h : fX1_allowsTarget_43  G = some (r, G')) (hK : (finI X) r G') : J X 4 43 [] [] G := by
  unfold fX1_allowsTarget_43 at h
  refine j_iconst (v := 1) ok dX1_allowsTarget_43 (by decide) ?_
  refine j_goto (tgt := 48) ok dX1_allowsTarget_44 (by decide) ?_
  exact J.sub [] rfl (jX1_allowsTarget_48 ok (1 : Int32) G h hK)

def fX1_allowsTarget_47   (G : Mem) : Option (Int32 × Mem) :=
  fX1_allowsTarget_48 (0 : Int32) G

set_option maxRecDepth 100000 in
set_option maxHeartbeats 4000000 in
theorem jX1_allowsTarget_47 {X : Cx} (ok : OK X cX1_allowsTarget RX1 (some .boolean) 4 0 0)   (G : Mem) {r : Int32} {G' : Mem} (h : fX1_allowsTarget_47  G = some (r, G')) (hK : (finI X) r G') : J X 4 47 [] [] G := by
  unfold fX1_allowsTarget_47 at h
  refine j_iconst (v := 0) ok dX1_allowsTarget_47 (by decide) ?_
  exact J.sub [] rfl (jX1_allowsTarget_48 ok (0 : Int32) G h hK)

def fX1_allowsTarget_32 (l0 : Nat) (l3 : Int32)  (G : Mem) : Option (Int32 × Mem) :=
  if l3 = (0 : Int32) then
    (gF G 11 l0 5).bind fun v2 =>
    if v2 = (0 : Int32) then
      fX1_allowsTarget_43 G
    else
      fX1_allowsTarget_47 G
  else
    fX1_allowsTarget_43 G

set_option maxRecDepth 100000 in
set_option maxHeartbeats 4000000 in
theorem jX1_allowsTarget_32 {X : Cx} (ok : OK X cX1_allowsTarget RX1 (some .boolean) 4 0 0) (l0 : Nat) (l3 : Int32)  (G : Mem) {r : Int32} {G' : Mem} (h : fX1_allowsTarget_32 l0 l3 G = some (r, G')) (hK : (finI X) r G') : J X 4 32 [(0, .ref (X.B + l0)), (3, .int l3)] [] G := by
  unfold fX1_allowsTarget_32 at h
  refine j_iload_n ok dX1_allowsTarget_32 rfl 1 rfl ?_
  rcases ite_some h with ⟨c1, h⟩ | ⟨c1, h⟩
  · refine j_if_ne (tgt := 43) ok dX1_allowsTarget_33 (by decide) (fun z => absurd c1 z) (fun _ => ?_)
    refine j_aload_n ok dX1_allowsTarget_36 rfl 0 rfl ?_
    obtain ⟨v2, hv2, h⟩ := obind h
    refine k_getI ok fl_X1_27 hv2 dX1_allowsTarget_37 ?_
    rcases ite_some h with ⟨c3, h⟩ | ⟨c3, h⟩
    · refine j_if_ne (tgt := 47) ok dX1_allowsTarget_40 (by decide) (fun z => absurd c3 z) (fun _ => ?_)
      exact J.sub [] rfl (jX1_allowsTarget_43 ok G h hK)
    · refine j_if_ne (tgt := 47) ok dX1_allowsTarget_40 (by decide) (fun _ => ?_) (fun z => absurd z c3)
      exact J.sub [] rfl (jX1_allowsTarget_47 ok G h hK)
  · refine j_if_ne (tgt := 43) ok dX1_allowsTarget_33 (by decide) (fun _ => ?_) (fun z => absurd z c1)
    exact J.sub [] rfl (jX1_allowsTarget_43 ok G h hK)

def fX1_allowsTarget_16 (l0 : Nat) (l2 : Int32) (l3 : Int32)  (G : Mem) : Option (Int32 × Mem) :=
  (gF G 11 l0 4).bind fun v1 =>
  if v1 = (-1 : Int32) then
    fX1_allowsTarget_32 l0 l3 G
  else
    (gF G 11 l0 4).bind fun v3 =>
    if v3 = l2 then
      fX1_allowsTarget_32 l0 l3 G
    else
      fX1_allowsTarget_47 G

set_option maxRecDepth 100000 in
set_option maxHeartbeats 4000000 in
theorem jX1_allowsTarget_16 {X : Cx} (ok : OK X cX1_allowsTarget RX1 (some .boolean) 4 0 0) (l0 : Nat) (l2 : Int32) (l3 : Int32)  (G : Mem) {r : Int32} {G' : Mem} (h : fX1_allowsTarget_16 l0 l2 l3 G = some (r, G')) (hK : (finI X) r G') : J X 4 16 [(0, .ref (X.B + l0)), (2, .int l2), (3, .int l3)] [] G := by
  unfold fX1_allowsTarget_16 at h
  refine j_aload_n ok dX1_allowsTarget_16 rfl 0 rfl ?_
  obtain ⟨v1, hv1, h⟩ := obind h
  refine k_getI ok fl_X1_24 hv1 dX1_allowsTarget_17 ?_
  refine j_iconst (v := -1) ok dX1_allowsTarget_20 (by decide) ?_
  rcases ite_some h with ⟨c2, h⟩ | ⟨c2, h⟩
  · refine j_icmp_eq (tgt := 32) ok dX1_allowsTarget_21 (by decide) (fun _ => ?_) (fun z => absurd c2 z)
    exact J.sub [0, 2] rfl (jX1_allowsTarget_32 ok l0 l3 G h hK)
  · refine j_icmp_eq (tgt := 32) ok dX1_allowsTarget_21 (by decide) (fun z => absurd z c2) (fun _ => ?_)
    refine j_aload_n ok dX1_allowsTarget_24 rfl 0 rfl ?_
    obtain ⟨v3, hv3, h⟩ := obind h
    refine k_getI ok fl_X1_24 hv3 dX1_allowsTarget_25 ?_
    refine j_iload_n ok dX1_allowsTarget_28 rfl 1 rfl ?_
    rcases ite_some h with ⟨c4, h⟩ | ⟨c4, h⟩
    · refine j_icmp_ne (tgt := 47) ok dX1_allowsTarget_29 (by decide) (fun z => absurd c4 z) (fun _ => ?_)
      exact J.sub [0, 2] rfl (jX1_allowsTarget_32 ok l0 l3 G h hK)
    · refine j_icmp_ne (tgt := 47) ok dX1_allowsTarget_29 (by decide) (fun _ => ?_) (fun z => absurd z c4)
      exact J.sub [] rfl (jX1_allowsTarget_47 ok G h hK)

def fX1_allowsTarget_0 (l0 : Nat) (l1 : Int32) (l2 : Int32) (l3 : Int32)  (G : Mem) : Option (Int32 × Mem) :=
  (gF G 11 l0 3).bind fun v1 =>
  if v1 = (-1 : Int32) then
    fX1_allowsTarget_16 l0 l2 l3 G
  else
    (gF G 11 l0 3).bind fun v3 =>
    if v3 = l1 then
      fX1_allowsTarget_16 l0 l2 l3 G
    else
      fX1_allowsTarget_47 G

set_option maxRecDepth 100000 in
set_option maxHeartbeats 4000000 in
theorem jX1_allowsTarget_0 {X : Cx} (ok : OK X cX1_allowsTarget RX1 (some .boolean) 4 0 0) (l0 : Nat) (l1 : Int32) (l2 : Int32) (l3 : Int32)  (G : Mem) {r : Int32} {G' : Mem} (h : fX1_allowsTarget_0 l0 l1 l2 l3 G = some (r, G')) (hK : (finI X) r G') : J X 4 0 [(0, .ref (X.B + l0)), (1, .int l1), (2, .int l2), (3, .int l3)] [] G := by
  unfold fX1_allowsTarget_0 at h
  refine j_aload_n ok dX1_allowsTarget_0 rfl 0 rfl ?_
  obtain ⟨v1, hv1, h⟩ := obind h
  refine k_getI ok fl_X1_21 hv1 dX1_allowsTarget_1 ?_
  refine j_iconst (v := -1) ok dX1_allowsTarget_4 (by decide) ?_
  rcases ite_some h with ⟨c2, h⟩ | ⟨c2, h⟩
  · refine j_icmp_eq (tgt := 16) ok dX1_allowsTarget_5 (by decide) (fun _ => ?_) (fun z => absurd c2 z)
    exact J.sub [0, 2, 3] rfl (jX1_allowsTarget_16 ok l0 l2 l3 G h hK)
  · refine j_icmp_eq (tgt := 16) ok dX1_allowsTarget_5 (by decide) (fun z => absurd z c2) (fun _ => ?_)
    refine j_aload_n ok dX1_allowsTarget_8 rfl 0 rfl ?_
    obtain ⟨v3, hv3, h⟩ := obind h
    refine k_getI ok fl_X1_21 hv3 dX1_allowsTarget_9 ?_
    refine j_iload_n ok dX1_allowsTarget_12 rfl 1 rfl ?_
    rcases ite_some h with ⟨c4, h⟩ | ⟨c4, h⟩
    · refine j_icmp_ne (tgt := 47) ok dX1_allowsTarget_13 (by decide) (fun z => absurd c4 z) (fun _ => ?_)
      exact J.sub [0, 2, 3] rfl (jX1_allowsTarget_16 ok l0 l2 l3 G h hK)
    · refine j_icmp_ne (tgt := 47) ok dX1_allowsTarget_13 (by decide) (fun _ => ?_) (fun z => absurd z c4)
      exact J.sub [] rfl (jX1_allowsTarget_47 ok G h hK)

def fX1_allowsTarget (l0 : Nat) (l1 : Int32) (l2 : Int32) (l3 : Int32) (G : Mem) : Option (Int32 × Mem) := fX1_allowsTarget_0 l0 l1 l2 l3 G
set_option maxRecDepth 100000 in
theorem tX1_allowsTarget {l : Launch} (hfl : l.stackTraces = false) (V : Wd) (l0 : Nat) (l1 : Int32) (l2 : Int32) (l3 : Int32) (G : Mem) {r : Int32} {G' : Mem} (h : fX1_allowsTarget l0 l1 l2 l3 G = some (r, G')) : Mx l yX1_allowsTarget cX1_allowsTarget 4 (some .boolean) 0 0 V [.ref (V.B + l0), .int l1, .int l2, .int l3] G (.inl (some (.int r))) G' :=
  mx_of (L := [(0, .ref (V.B + l0)), (1, .int l1), (2, .int l2), (3, .int l3)]) hfl (by decide +kernel) (Nat.le_of_ble_eq_true rfl) rfl (fun X hl hV hin ok he => by
    subst hl; subst hV
    exact J.sub [0, 1, 2, 3] rfl (jX1_allowsTarget_0 ok l0 l1 l2 l3 G h he))
def fX0_set_20   (G : Mem) : Option (Unit × Mem) :=
  some ((), G)

set_option maxRecDepth 100000 in
set_option maxHeartbeats 4000000 in
theorem jX0_set_20 {X : Cx} (ok : OK X cX0_set RX0 none 3 0 0)   (G : Mem) {r : Unit} {G' : Mem} (h : fX0_set_20  G = some (r, G')) (hK : (finV X) r G') : J X 3 20 [] [] G := by
  unfold fX0_set_20 at h
  obtain ⟨er, eG⟩ := inj2 h
  subst er; subst eG
  exact j_vret ok rfl dX0_set_20 hK

def fX0_set_0 (l0 : Nat) (l1 : Int32) (l2 : Int32)  (G : Mem) : Option (Unit × Mem) :=
  if l1 < (0 : Int32) then
    fX0_set_20 G
  else
    (gR G 10 l0 4).bind fun v2 =>
    (gL G v2).bind fun v3 =>
    if v3 ≤ l1 then
      fX0_set_20 G
    else
      (gR G 10 l0 4).bind fun v5 =>
      (pA G v5 l1 l2).bind fun G6 =>
      fX0_set_20 G6

set_option maxRecDepth 100000 in
set_option maxHeartbeats 4000000 in
theorem jX0_set_0 {X : Cx} (ok : OK X cX0_set RX0 none 3 0 0) (l0 : Nat) (l1 : Int32) (l2 : Int32)  (G : Mem) {r : Unit} {G' : Mem} (h : fX0_set_0 l0 l1 l2 G = some (r, G')) (hK : (finV X) r G') : J X 3 0 [(0, .ref (X.B + l0)), (1, .int l1), (2, .int l2)] [] G := by
  unfold fX0_set_0 at h
  refine j_iload_n ok dX0_set_0 rfl 1 rfl ?_
  rcases ite_some h with ⟨c1, h⟩ | ⟨c1, h⟩
  · refine j_if_lt (tgt := 20) ok dX0_set_1 (by decide) (fun _ => ?_) (fun z => absurd c1 z)
    exact J.sub [] rfl (jX0_set_20 ok G h hK)
  · refine j_if_lt (tgt := 20) ok dX0_set_1 (by decide) (fun z => absurd z c1) (fun _ => ?_)
    refine j_iload_n ok dX0_set_4 rfl 1 rfl ?_
    refine j_aload_n ok dX0_set_5 rfl 0 rfl ?_
    obtain ⟨v2, hv2, h⟩ := obind h
    refine k_getR ok fl_X0_25 hv2 dX0_set_6 ?_
    obtain ⟨v3, hv3, h⟩ := obind h
    refine j_alen ok hv3 dX0_set_9 ?_
    rcases ite_some h with ⟨c4, h⟩ | ⟨c4, h⟩
    · refine j_icmp_ge (tgt := 20) ok dX0_set_10 (by decide) (fun _ => ?_) (fun z => absurd c4 z)
      exact J.sub [] rfl (jX0_set_20 ok G h hK)
    · refine j_icmp_ge (tgt := 20) ok dX0_set_10 (by decide) (fun z => absurd z c4) (fun _ => ?_)
      refine j_aload_n ok dX0_set_13 rfl 0 rfl ?_
      obtain ⟨v5, hv5, h⟩ := obind h
      refine k_getR ok fl_X0_25 hv5 dX0_set_14 ?_
      refine j_iload_n ok dX0_set_17 rfl 1 rfl ?_
      refine j_iload_n ok dX0_set_18 rfl 2 rfl ?_
      obtain ⟨G6, hG6, h⟩ := obind h
      refine j_iast ok hG6 dX0_set_19 ?_
      exact J.sub [] rfl (jX0_set_20 ok G6 h hK)

def fX0_set (l0 : Nat) (l1 : Int32) (l2 : Int32) (G : Mem) : Option (Unit × Mem) := fX0_set_0 l0 l1 l2 G
set_option maxRecDepth 100000 in
theorem tX0_set {l : Launch} (hfl : l.stackTraces = false) (V : Wd) (l0 : Nat) (l1 : Int32) (l2 : Int32) (G : Mem) {r : Unit} {G' : Mem} (h : fX0_set l0 l1 l2 G = some (r, G')) : Mx l yX0_set cX0_set 3 none 0 0 V [.ref (V.B + l0), .int l1, .int l2] G (.inl none) G' :=
  mx_of (L := [(0, .ref (V.B + l0)), (1, .int l1), (2, .int l2)]) hfl (by decide +kernel) (Nat.le_of_ble_eq_true rfl) rfl (fun X hl hV hin ok he => by
    subst hl; subst hV
    exact J.sub [0, 1, 2] rfl (jX0_set_0 ok l0 l1 l2 G h he))
def fX0_kingPlace_15  (s0 : Int32) (G : Mem) : Option (Int32 × Mem) :=
  some (s0, G)

set_option maxRecDepth 100000 in
set_option maxHeartbeats 4000000 in
theorem jX0_kingPlace_15 {X : Cx} (ok : OK X cX0_kingPlace RX0 (some .int) 2 0 0)  (s0 : Int32) (G : Mem) {r : Int32} {G' : Mem} (h : fX0_kingPlace_15 s0 G = some (r, G')) (hK : (finI X) r G') : J X 2 15 [] [.int s0] G := by
  unfold fX0_kingPlace_15 at h
  obtain ⟨er, eG⟩ := inj2 h
  subst er; subst eG
  exact j_iret ok rfl dX0_kingPlace_15 hK

def fX0_kingPlace_0 (l0 : Nat) (l1 : Int32)  (G : Mem) : Option (Int32 × Mem) :=
  if l1 = (0 : Int32) then
    (gF G 10 l0 5).bind fun v2 =>
    fX0_kingPlace_15 v2 G
  else
    (gF G 10 l0 6).bind fun v2 =>
    fX0_kingPlace_15 v2 G

set_option maxRecDepth 100000 in
set_option maxHeartbeats 4000000 in
theorem jX0_kingPlace_0 {X : Cx} (ok : OK X cX0_kingPlace RX0 (some .int) 2 0 0) (l0 : Nat) (l1 : Int32)  (G : Mem) {r : Int32} {G' : Mem} (h : fX0_kingPlace_0 l0 l1 G = some (r, G')) (hK : (finI X) r G') : J X 2 0 [(0, .ref (X.B + l0)), (1, .int l1)] [] G := by
  unfold fX0_kingPlace_0 at h
  refine j_iload_n ok dX0_kingPlace_0 rfl 1 rfl ?_
  rcases ite_some h with ⟨c1, h⟩ | ⟨c1, h⟩
  · refine j_if_ne (tgt := 11) ok dX0_kingPlace_1 (by decide) (fun z => absurd c1 z) (fun _ => ?_)
    refine j_aload_n ok dX0_kingPlace_4 rfl 0 rfl ?_
    obtain ⟨v2, hv2, h⟩ := obind h
    refine k_getI ok fl_X0_28 hv2 dX0_kingPlace_5 ?_
    refine j_goto (tgt := 15) ok dX0_kingPlace_8 (by decide) ?_
    exact J.sub [] rfl (jX0_kingPlace_15 ok v2 G h hK)
  · refine j_if_ne (tgt := 11) ok dX0_kingPlace_1 (by decide) (fun _ => ?_) (fun z => absurd z c1)
    refine j_aload_n ok dX0_kingPlace_11 rfl 0 rfl ?_
    obtain ⟨v2, hv2, h⟩ := obind h
    refine k_getI ok fl_X0_31 hv2 dX0_kingPlace_12 ?_
    exact J.sub [] rfl (jX0_kingPlace_15 ok v2 G h hK)

def fX0_kingPlace (l0 : Nat) (l1 : Int32) (G : Mem) : Option (Int32 × Mem) := fX0_kingPlace_0 l0 l1 G
set_option maxRecDepth 100000 in
theorem tX0_kingPlace {l : Launch} (hfl : l.stackTraces = false) (V : Wd) (l0 : Nat) (l1 : Int32) (G : Mem) {r : Int32} {G' : Mem} (h : fX0_kingPlace l0 l1 G = some (r, G')) : Mx l yX0_kingPlace cX0_kingPlace 2 (some .int) 0 0 V [.ref (V.B + l0), .int l1] G (.inl (some (.int r))) G' :=
  mx_of (L := [(0, .ref (V.B + l0)), (1, .int l1)]) hfl (by decide +kernel) (Nat.le_of_ble_eq_true rfl) rfl (fun X hl hV hin ok he => by
    subst hl; subst hV
    exact J.sub [0, 1] rfl (jX0_kingPlace_0 ok l0 l1 G h he))
def fX0_isReached_163   (G : Mem) : Option (Int32 × Mem) :=
  some ((0 : Int32), G)

set_option maxRecDepth 100000 in
set_option maxHeartbeats 4000000 in
theorem jX0_isReached_163 {X : Cx} (ok : OK X cX0_isReached RX0 (some .boolean) 8 1 21)   (G : Mem) {r : Int32} {G' : Mem} (h : fX0_isReached_163  G = some (r, G')) (hK : (finI X) r G') : J X 8 163 [] [] G := by
  unfold fX0_isReached_163 at h
  refine j_iconst (v := 0) ok dX0_isReached_163 (by decide) ?_
  obtain ⟨er, eG⟩ := inj2 h
  subst er; subst eG
  exact j_zret ok rfl (Or.inl rfl) dX0_isReached_164 hK

def fX0_isReached_155   (G : Mem) : Option (Int32 × Mem) :=
  some ((1 : Int32), G)

set_option maxRecDepth 100000 in
set_option maxHeartbeats 4000000 in
theorem jX0_isReached_155 {X : Cx} (ok : OK X cX0_isReached RX0 (some .boolean) 8 1 21)   (G : Mem) {r : Int32} {G' : Mem} (h : fX0_isReached_155  G = some (r, G')) (hK : (finI X) r G') : J X 8 155 [] [] G := by
  unfold fX0_isReached_155 at h
  refine j_iconst (v := 1) ok dX0_isReached_155 (by decide) ?_
  obtain ⟨er, eG⟩ := inj2 h
  subst er; subst eG
  exact j_zret ok rfl (Or.inr rfl) dX0_isReached_156 hK

def fX0_isReached_128 (l0 : Nat) (l1 : Int32) (l3 : Int32) (l4 : Int32)  (G : Mem) : Option (((Int32) ⊕ Int32) × Mem) :=
  if (8 : Int32) ≤ l4 then
    liftE (fX0_isReached_163 G)
  else
    (tb 2 l4).bind fun v2 =>
    ck G 10 l0 <| (fX0_on l0 (l1 + v2) G).bind fun q3 =>
    if (q3.1 - l3) = (4 : Int32) then
      liftE (fX0_isReached_155 q3.2)
    else
      some (.inl ((l4 + (1 : Int32))), q3.2)

set_option maxRecDepth 100000 in
set_option maxHeartbeats 4000000 in
theorem jX0_isReached_128 {X : Cx} (ok : OK X cX0_isReached RX0 (some .boolean) 8 1 21) (l0 : Nat) (l1 : Int32) (l3 : Int32) (l4 : Int32)  (G : Mem) {r : ((Int32) ⊕ Int32)} {G' : Mem} (h : fX0_isReached_128 l0 l1 l3 l4 G = some (r, G')) (hK : (finL X 8 128 (fun s : Int32 => [(0, .ref (X.B + l0)), (1, .int l1), (3, .int l3), (4, .int s)]) (finI X)) r G') : J X 8 128 [(0, .ref (X.B + l0)), (1, .int l1), (3, .int l3), (4, .int l4)] [] G := by
  unfold fX0_isReached_128 at h
  refine j_iload ok dX0_isReached_128 3 rfl ?_
  refine k_tab ok (k := 2) (by decide) wg_X0_59 dX0_isReached_130 ?_
  refine k_tlen ok (k := 2) (by decide) rfl dX0_isReached_133 ?_
  rcases ite_some h with ⟨c1, h⟩ | ⟨c1, h⟩
  · refine j_icmp_ge (tgt := 163) ok dX0_isReached_134 (by decide) (fun _ => ?_) (fun z => absurd c1 z)
    obtain ⟨r1, e1, h1⟩ := lift_some h
    subst e1
    exact J.sub [] rfl (jX0_isReached_163 ok G h1 hK)
  · refine j_icmp_ge (tgt := 163) ok dX0_isReached_134 (by decide) (fun z => absurd z c1) (fun _ => ?_)
    refine j_aload_n ok dX0_isReached_137 rfl 0 rfl ?_
    refine j_iload_n ok dX0_isReached_138 rfl 1 rfl ?_
    refine k_tab ok (k := 2) (by decide) wg_X0_59 dX0_isReached_139 ?_
    refine j_iload ok dX0_isReached_142 3 rfl ?_
    obtain ⟨v2, hv2, h⟩ := obind h
    refine k_tiaload ok (k := 2) (by decide) hv2 dX0_isReached_144 ?_
    refine j_iadd ok dX0_isReached_145 ?_
    obtain ⟨kq3, h⟩ := ck_some h
    obtain ⟨q3, hq3, h⟩ := obind h
    refine k_V1 ok kl_X0_48 ⟨Nat.le_of_ble_eq_true rfl, Nat.le_of_ble_eq_true rfl⟩ [.int (l1 + v2)] kq3 rfl rfl (Nat.le_of_ble_eq_true rfl) (tX0_on ok.fl X.V l0 (l1 + v2) G hq3) dX0_isReached_146 ?_
    refine j_iload_n ok dX0_isReached_149 rfl 2 rfl ?_
    refine j_isub ok dX0_isReached_150 ?_
    refine j_iconst (v := 4) ok dX0_isReached_151 (by decide) ?_
    rcases ite_some h with ⟨c4, h⟩ | ⟨c4, h⟩
    · refine j_icmp_ne (tgt := 157) ok dX0_isReached_152 (by decide) (fun z => absurd c4 z) (fun _ => ?_)
      obtain ⟨r1, e1, h1⟩ := lift_some h
      subst e1
      exact J.sub [] rfl (jX0_isReached_155 ok q3.2 h1 hK)
    · refine j_icmp_ne (tgt := 157) ok dX0_isReached_152 (by decide) (fun _ => ?_) (fun z => absurd z c4)
      refine j_iinc (L' := [(4, .int (l4 + (1 : Int32))), (0, .ref (X.B + l0)), (1, .int l1), (3, .int l3)]) (v := (l4 + (1 : Int32))) ok dX0_isReached_157 (q := 3) rfl rfl (by decide) rfl ?_
      refine j_goto (tgt := 128) ok dX0_isReached_160 (by decide) ?_
      obtain ⟨er, eG⟩ := inj2 h
      subst er; subst eG
      have hJ : J X 8 128 [(0, .ref (X.B + l0)), (1, .int l1), (3, .int l3), (4, .int (l4 + (1 : Int32)))] [] q3.2 := hK
      exact J.sub [1, 2, 3, 0] rfl hJ

def fX0_isReached_125 (l0 : Nat) (l1 : Int32) (l3 : Int32)  (G : Mem) : Option (Int32 × Mem) :=
  loopM (fun (s : Int32) G => fX0_isReached_128 l0 l1 l3 s G) FU ((0 : Int32)) G

set_option maxRecDepth 100000 in
set_option maxHeartbeats 4000000 in
theorem jX0_isReached_125 {X : Cx} (ok : OK X cX0_isReached RX0 (some .boolean) 8 1 21) (l0 : Nat) (l1 : Int32) (l3 : Int32)  (G : Mem) {r : Int32} {G' : Mem} (h : fX0_isReached_125 l0 l1 l3 G = some (r, G')) (hK : (finI X) r G') : J X 8 125 [(0, .ref (X.B + l0)), (1, .int l1), (3, .int l3)] [] G := by
  unfold fX0_isReached_125 at h
  refine j_iconst (v := 0) ok dX0_isReached_125 (by decide) ?_
  refine j_istore (L' := [(4, .int (0 : Int32)), (0, .ref (X.B + l0)), (1, .int l1), (3, .int l3)]) ok dX0_isReached_126 (by decide) rfl ?_
  have hJ : J X 8 128 [(0, .ref (X.B + l0)), (1, .int l1), (3, .int l3), (4, .int (0 : Int32))] [] G := j_loop (loc := fun s : Int32 => [(0, .ref (X.B + l0)), (1, .int l1), (3, .int l3), (4, .int s)]) (F := (finI X)) (fun s G r G' hb hk => jX0_isReached_128 ok l0 l1 l3 s G hb hk) _ _ _ _ _ h hK
  exact J.sub [1, 2, 3, 0] rfl hJ

def fX0_isReached_117   (G : Mem) : Option (Int32 × Mem) :=
  some ((1 : Int32), G)

set_option maxRecDepth 100000 in
set_option maxHeartbeats 4000000 in
theorem jX0_isReached_117 {X : Cx} (ok : OK X cX0_isReached RX0 (some .boolean) 8 1 21)   (G : Mem) {r : Int32} {G' : Mem} (h : fX0_isReached_117  G = some (r, G')) (hK : (finI X) r G') : J X 8 117 [] [] G := by
  unfold fX0_isReached_117 at h
  refine j_iconst (v := 1) ok dX0_isReached_117 (by decide) ?_
  obtain ⟨er, eG⟩ := inj2 h
  subst er; subst eG
  exact j_zret ok rfl (Or.inr rfl) dX0_isReached_118 hK

def fX0_isReached_114 (l0 : Nat) (l1 : Int32) (l3 : Int32) (l4 : Int32) (s0 : Int32) (s1 : Int32) (G : Mem) : Option (((Int32) ⊕ Int32) × Mem) :=
  if s0 = s1 then
    liftE (fX0_isReached_117 G)
  else
    some (.inl ((l4 + (1 : Int32))), G)

set_option maxRecDepth 100000 in
set_option maxHeartbeats 4000000 in
theorem jX0_isReached_114 {X : Cx} (ok : OK X cX0_isReached RX0 (some .boolean) 8 1 21) (l0 : Nat) (l1 : Int32) (l3 : Int32) (l4 : Int32) (s0 : Int32) (s1 : Int32) (G : Mem) {r : ((Int32) ⊕ Int32)} {G' : Mem} (h : fX0_isReached_114 l0 l1 l3 l4 s0 s1 G = some (r, G')) (hK : (finL X 8 14 (fun s : Int32 => [(0, .ref (X.B + l0)), (1, .int l1), (3, .int l3), (4, .int s)]) (finI X)) r G') : J X 8 114 [(0, .ref (X.B + l0)), (1, .int l1), (3, .int l3), (4, .int l4)] [.int s1, .int s0] G := by
  unfold fX0_isReached_114 at h
  rcases ite_some h with ⟨c1, h⟩ | ⟨c1, h⟩
  · refine j_icmp_ne (tgt := 119) ok dX0_isReached_114 (by decide) (fun z => absurd c1 z) (fun _ => ?_)
    obtain ⟨r1, e1, h1⟩ := lift_some h
    subst e1
    exact J.sub [] rfl (jX0_isReached_117 ok G h1 hK)
  · refine j_icmp_ne (tgt := 119) ok dX0_isReached_114 (by decide) (fun _ => ?_) (fun z => absurd z c1)
    refine j_iinc (L' := [(4, .int (l4 + (1 : Int32))), (0, .ref (X.B + l0)), (1, .int l1), (3, .int l3)]) (v := (l4 + (1 : Int32))) ok dX0_isReached_119 (q := 3) rfl rfl (by decide) rfl ?_
    refine j_goto (tgt := 14) ok dX0_isReached_122 (by decide) ?_
    obtain ⟨er, eG⟩ := inj2 h
    subst er; subst eG
    have hJ : J X 8 14 [(0, .ref (X.B + l0)), (1, .int l1), (3, .int l3), (4, .int (l4 + (1 : Int32)))] [] G := hK
    exact J.sub [1, 2, 3, 0] rfl hJ

def fX0_isReached_89 (l0 : Nat) (l1 : Int32) (l3 : Int32) (l4 : Int32) (l6 : Int32)  (G : Mem) : Option (((Int32) ⊕ Int32) × Mem) :=
  if (l6 - l3) = (1 : Int32) then
    liftE (fX0_isReached_117 G)
  else
    if (4 : Int32) ≤ l4 then
      fX0_isReached_114 l0 l1 l3 l4 (l6 - l3) (3 : Int32) G
    else
      fX0_isReached_114 l0 l1 l3 l4 (l6 - l3) (2 : Int32) G

set_option maxRecDepth 100000 in
set_option maxHeartbeats 4000000 in
theorem jX0_isReached_89 {X : Cx} (ok : OK X cX0_isReached RX0 (some .boolean) 8 1 21) (l0 : Nat) (l1 : Int32) (l3 : Int32) (l4 : Int32) (l6 : Int32)  (G : Mem) {r : ((Int32) ⊕ Int32)} {G' : Mem} (h : fX0_isReached_89 l0 l1 l3 l4 l6 G = some (r, G')) (hK : (finL X 8 14 (fun s : Int32 => [(0, .ref (X.B + l0)), (1, .int l1), (3, .int l3), (4, .int s)]) (finI X)) r G') : J X 8 89 [(0, .ref (X.B + l0)), (1, .int l1), (3, .int l3), (4, .int l4), (6, .int l6)] [] G := by
  unfold fX0_isReached_89 at h
  refine j_iload ok dX0_isReached_89 4 rfl ?_
  refine j_iload_n ok dX0_isReached_91 rfl 2 rfl ?_
  refine j_isub ok dX0_isReached_92 ?_
  refine j_istore (L' := [(7, .int (l6 - l3)), (0, .ref (X.B + l0)), (1, .int l1), (3, .int l3), (4, .int l4), (6, .int l6)]) ok dX0_isReached_93 (by decide) rfl ?_
  refine j_iload ok dX0_isReached_95 0 rfl ?_
  refine j_iconst (v := 1) ok dX0_isReached_97 (by decide) ?_
  rcases ite_some h with ⟨c1, h⟩ | ⟨c1, h⟩
  · refine j_icmp_eq (tgt := 117) ok dX0_isReached_98 (by decide) (fun _ => ?_) (fun z => absurd c1 z)
    obtain ⟨r1, e1, h1⟩ := lift_some h
    subst e1
    exact J.sub [] rfl (jX0_isReached_117 ok G h1 hK)
  · refine j_icmp_eq (tgt := 117) ok dX0_isReached_98 (by decide) (fun z => absurd z c1) (fun _ => ?_)
    refine j_iload ok dX0_isReached_101 0 rfl ?_
    refine j_iload ok dX0_isReached_103 4 rfl ?_
    refine j_iconst (v := 4) ok dX0_isReached_105 (by decide) ?_
    rcases ite_some h with ⟨c2, h⟩ | ⟨c2, h⟩
    · refine j_icmp_ge (tgt := 113) ok dX0_isReached_106 (by decide) (fun _ => ?_) (fun z => absurd c2 z)
      refine j_iconst (v := 3) ok dX0_isReached_113 (by decide) ?_
      exact J.sub [1, 2, 3, 4] rfl (jX0_isReached_114 ok l0 l1 l3 l4 (l6 - l3) (3 : Int32) G h hK)
    · refine j_icmp_ge (tgt := 113) ok dX0_isReached_106 (by decide) (fun z => absurd z c2) (fun _ => ?_)
      refine j_iconst (v := 2) ok dX0_isReached_109 (by decide) ?_
      refine j_goto (tgt := 114) ok dX0_isReached_110 (by decide) ?_
      exact J.sub [1, 2, 3, 4] rfl (jX0_isReached_114 ok l0 l1 l3 l4 (l6 - l3) (2 : Int32) G h hK)

def fX0_isReached_52 (l0 : Nat) (l1 : Int32) (l3 : Int32) (l4 : Int32) (l5 : Int32) (l6 : Int32) (l7 : Int32)  (G : Mem) : Option (((Int32 × Int32 × Int32) ⊕ ((Int32) ⊕ Int32)) × Mem) :=
  if (6 : Int32) ≤ l7 then
    liftE (fX0_isReached_89 l0 l1 l3 l4 l6 G)
  else
    if l6 = (0 : Int32) then
      (tb 1 l4).bind fun v3 =>
      ck G 10 l0 <| (fX0_on l0 (l5 + v3) G).bind fun q4 =>
      some (.inl ((l5 + v3), q4.1, (l7 + (1 : Int32))), q4.2)
    else
      liftE (fX0_isReached_89 l0 l1 l3 l4 l6 G)

set_option maxRecDepth 100000 in
set_option maxHeartbeats 4000000 in
theorem jX0_isReached_52 {X : Cx} (ok : OK X cX0_isReached RX0 (some .boolean) 8 1 21) (l0 : Nat) (l1 : Int32) (l3 : Int32) (l4 : Int32) (l5 : Int32) (l6 : Int32) (l7 : Int32)  (G : Mem) {r : ((Int32 × Int32 × Int32) ⊕ ((Int32) ⊕ Int32))} {G' : Mem} (h : fX0_isReached_52 l0 l1 l3 l4 l5 l6 l7 G = some (r, G')) (hK : (finL X 8 52 (fun s : Int32 × Int32 × Int32 => [(0, .ref (X.B + l0)), (1, .int l1), (3, .int l3), (4, .int l4), (5, .int s.1), (6, .int s.2.1), (7, .int s.2.2)]) (finL X 8 14 (fun s : Int32 => [(0, .ref (X.B + l0)), (1, .int l1), (3, .int l3), (4, .int s)]) (finI X))) r G') : J X 8 52 [(0, .ref (X.B + l0)), (1, .int l1), (3, .int l3), (4, .int l4), (5, .int l5), (6, .int l6), (7, .int l7)] [] G := by
  unfold fX0_isReached_52 at h
  refine j_iload ok dX0_isReached_52 6 rfl ?_
  refine j_bipush (v := 6) ok dX0_isReached_54 (by decide) ?_
  rcases ite_some h with ⟨c1, h⟩ | ⟨c1, h⟩
  · refine j_icmp_ge (tgt := 89) ok dX0_isReached_56 (by decide) (fun _ => ?_) (fun z => absurd c1 z)
    obtain ⟨r1, e1, h1⟩ := lift_some h
    subst e1
    exact J.sub [0, 1, 2, 3, 5] rfl (jX0_isReached_89 ok l0 l1 l3 l4 l6 G h1 hK)
  · refine j_icmp_ge (tgt := 89) ok dX0_isReached_56 (by decide) (fun z => absurd z c1) (fun _ => ?_)
    refine j_iload ok dX0_isReached_59 5 rfl ?_
    rcases ite_some h with ⟨c2, h⟩ | ⟨c2, h⟩
    · refine j_if_ne (tgt := 89) ok dX0_isReached_61 (by decide) (fun z => absurd c2 z) (fun _ => ?_)
      refine j_iload ok dX0_isReached_64 4 rfl ?_
      refine k_tab ok (k := 1) (by decide) wg_X0_56 dX0_isReached_66 ?_
      refine j_iload ok dX0_isReached_69 3 rfl ?_
      obtain ⟨v3, hv3, h⟩ := obind h
      refine k_tiaload ok (k := 1) (by decide) hv3 dX0_isReached_71 ?_
      refine j_iadd ok dX0_isReached_72 ?_
      refine j_istore (L' := [(5, .int (l5 + v3)), (0, .ref (X.B + l0)), (1, .int l1), (3, .int l3), (4, .int l4), (6, .int l6), (7, .int l7)]) ok dX0_isReached_73 (by decide) rfl ?_
      refine j_aload_n ok dX0_isReached_75 rfl 1 rfl ?_
      refine j_iload ok dX0_isReached_76 0 rfl ?_
      obtain ⟨kq4, h⟩ := ck_some h
      obtain ⟨q4, hq4, h⟩ := obind h
      refine k_V1 ok kl_X0_48 ⟨Nat.le_of_ble_eq_true rfl, Nat.le_of_ble_eq_true rfl⟩ [.int (l5 + v3)] kq4 rfl rfl (Nat.le_of_ble_eq_true rfl) (tX0_on ok.fl X.V l0 (l5 + v3) G hq4) dX0_isReached_78 ?_
      refine j_istore (L' := [(6, .int q4.1), (5, .int (l5 + v3)), (0, .ref (X.B + l0)), (1, .int l1), (3, .int l3), (4, .int l4), (7, .int l7)]) ok dX0_isReached_81 (by decide) rfl ?_
      refine j_iinc (L' := [(7, .int (l7 + (1 : Int32))), (6, .int q4.1), (5, .int (l5 + v3)), (0, .ref (X.B + l0)), (1, .int l1), (3, .int l3), (4, .int l4)]) (v := (l7 + (1 : Int32))) ok dX0_isReached_83 (q := 6) rfl rfl (by decide) rfl ?_
      refine j_goto (tgt := 52) ok dX0_isReached_86 (by decide) ?_
      obtain ⟨er, eG⟩ := inj2 h
      subst er; subst eG
      have hJ : J X 8 52 [(0, .ref (X.B + l0)), (1, .int l1), (3, .int l3), (4, .int l4), (5, .int (l5 + v3)), (6, .int q4.1), (7, .int (l7 + (1 : Int32)))] [] q4.2 := hK
      exact J.sub [3, 4, 5, 6, 2, 1, 0] rfl hJ
    · refine j_if_ne (tgt := 89) ok dX0_isReached_61 (by decide) (fun _ => ?_) (fun z => absurd z c2)
      obtain ⟨r1, e1, h1⟩ := lift_some h
      subst e1
      exact J.sub [0, 1, 2, 3, 5] rfl (jX0_isReached_89 ok l0 l1 l3 l4 l6 G h1 hK)

def fX0_isReached_47   (G : Mem) : Option (Int32 × Mem) :=
  some ((1 : Int32), G)

set_option maxRecDepth 100000 in
set_option maxHeartbeats 4000000 in
theorem jX0_isReached_47 {X : Cx} (ok : OK X cX0_isReached RX0 (some .boolean) 8 1 21)   (G : Mem) {r : Int32} {G' : Mem} (h : fX0_isReached_47  G = some (r, G')) (hK : (finI X) r G') : J X 8 47 [] [] G := by
  unfold fX0_isReached_47 at h
  refine j_iconst (v := 1) ok dX0_isReached_47 (by decide) ?_
  obtain ⟨er, eG⟩ := inj2 h
  subst er; subst eG
  exact j_zret ok rfl (Or.inr rfl) dX0_isReached_48 hK

def fX0_isReached_14 (l0 : Nat) (l1 : Int32) (l3 : Int32) (l4 : Int32)  (G : Mem) : Option (((Int32) ⊕ Int32) × Mem) :=
  if (8 : Int32) ≤ l4 then
    liftE (fX0_isReached_125 l0 l1 l3 G)
  else
    (tb 1 l4).bind fun v2 =>
    ck G 10 l0 <| (fX0_on l0 (l1 + v2) G).bind fun q3 =>
    if q3.1 = l3 then
      liftE (fX0_isReached_47 q3.2)
    else
      loopM (fun (s : Int32 × Int32 × Int32) G => fX0_isReached_52 l0 l1 l3 l4 s.1 s.2.1 s.2.2 G) FU ((l1 + v2), q3.1, (1 : Int32)) q3.2

set_option maxRecDepth 100000 in
set_option maxHeartbeats 4000000 in
theorem jX0_isReached_14 {X : Cx} (ok : OK X cX0_isReached RX0 (some .boolean) 8 1 21) (l0 : Nat) (l1 : Int32) (l3 : Int32) (l4 : Int32)  (G : Mem) {r : ((Int32) ⊕ Int32)} {G' : Mem} (h : fX0_isReached_14 l0 l1 l3 l4 G = some (r, G')) (hK : (finL X 8 14 (fun s : Int32 => [(0, .ref (X.B + l0)), (1, .int l1), (3, .int l3), (4, .int s)]) (finI X)) r G') : J X 8 14 [(0, .ref (X.B + l0)), (1, .int l1), (3, .int l3), (4, .int l4)] [] G := by
  unfold fX0_isReached_14 at h
  refine j_iload ok dX0_isReached_14 3 rfl ?_
  refine k_tab ok (k := 1) (by decide) wg_X0_56 dX0_isReached_16 ?_
  refine k_tlen ok (k := 1) (by decide) rfl dX0_isReached_19 ?_
  rcases ite_some h with ⟨c1, h⟩ | ⟨c1, h⟩
  · refine j_icmp_ge (tgt := 125) ok dX0_isReached_20 (by decide) (fun _ => ?_) (fun z => absurd c1 z)
    obtain ⟨r1, e1, h1⟩ := lift_some h
    subst e1
    exact J.sub [0, 1, 2] rfl (jX0_isReached_125 ok l0 l1 l3 G h1 hK)
  · refine j_icmp_ge (tgt := 125) ok dX0_isReached_20 (by decide) (fun z => absurd z c1) (fun _ => ?_)
    refine j_iload_n ok dX0_isReached_23 rfl 1 rfl ?_
    refine k_tab ok (k := 1) (by decide) wg_X0_56 dX0_isReached_24 ?_
    refine j_iload ok dX0_isReached_27 3 rfl ?_
    obtain ⟨v2, hv2, h⟩ := obind h
    refine k_tiaload ok (k := 1) (by decide) hv2 dX0_isReached_29 ?_
    refine j_iadd ok dX0_isReached_30 ?_
    refine j_istore (L' := [(5, .int (l1 + v2)), (0, .ref (X.B + l0)), (1, .int l1), (3, .int l3), (4, .int l4)]) ok dX0_isReached_31 (by decide) rfl ?_
    refine j_aload_n ok dX0_isReached_33 rfl 1 rfl ?_
    refine j_iload ok dX0_isReached_34 0 rfl ?_
    obtain ⟨kq3, h⟩ := ck_some h
    obtain ⟨q3, hq3, h⟩ := obind h
    refine k_V1 ok kl_X0_48 ⟨Nat.le_of_ble_eq_true rfl, Nat.le_of_ble_eq_true rfl⟩ [.int (l1 + v2)] kq3 rfl rfl (Nat.le_of_ble_eq_true rfl) (tX0_on ok.fl X.V l0 (l1 + v2) G hq3) dX0_isReached_36 ?_
    refine j_istore (L' := [(6, .int q3.1), (5, .int (l1 + v2)), (0, .ref (X.B + l0)), (1, .int l1), (3, .int l3), (4, .int l4)]) ok dX0_isReached_39 (by decide) rfl ?_
    refine j_iload ok dX0_isReached_41 0 rfl ?_
    refine j_iload_n ok dX0_isReached_43 rfl 4 rfl ?_
    rcases ite_some h with ⟨c4, h⟩ | ⟨c4, h⟩
    · refine j_icmp_ne (tgt := 49) ok dX0_isReached_44 (by decide) (fun z => absurd c4 z) (fun _ => ?_)
      obtain ⟨r1, e1, h1⟩ := lift_some h
      subst e1
      exact J.sub [] rfl (jX0_isReached_47 ok q3.2 h1 hK)
    · refine j_icmp_ne (tgt := 49) ok dX0_isReached_44 (by decide) (fun _ => ?_) (fun z => absurd z c4)
      refine j_iconst (v := 1) ok dX0_isReached_49 (by decide) ?_
      refine j_istore (L' := [(7, .int (1 : Int32)), (6, .int q3.1), (5, .int (l1 + v2)), (0, .ref (X.B + l0)), (1, .int l1), (3, .int l3), (4, .int l4)]) ok dX0_isReached_50 (by decide) rfl ?_
      have hJ : J X 8 52 [(0, .ref (X.B + l0)), (1, .int l1), (3, .int l3), (4, .int l4), (5, .int (l1 + v2)), (6, .int q3.1), (7, .int (1 : Int32))] [] q3.2 := j_loop (loc := fun s : Int32 × Int32 × Int32 => [(0, .ref (X.B + l0)), (1, .int l1), (3, .int l3), (4, .int l4), (5, .int s.1), (6, .int s.2.1), (7, .int s.2.2)]) (F := (finL X 8 14 (fun s : Int32 => [(0, .ref (X.B + l0)), (1, .int l1), (3, .int l3), (4, .int s)]) (finI X))) (fun s G r G' hb hk => jX0_isReached_52 ok l0 l1 l3 l4 s.1 s.2.1 s.2.2 G hb hk) _ _ _ _ _ h hK
      exact J.sub [3, 4, 5, 6, 2, 1, 0] rfl hJ

def fX0_isReached_10 (l0 : Nat) (l1 : Int32) (s0 : Int32) (G : Mem) : Option (Int32 × Mem) :=
  loopM (fun (s : Int32) G => fX0_isReached_14 l0 l1 s0 s G) FU ((0 : Int32)) G

set_option maxRecDepth 100000 in
set_option maxHeartbeats 4000000 in
theorem jX0_isReached_10 {X : Cx} (ok : OK X cX0_isReached RX0 (some .boolean) 8 1 21) (l0 : Nat) (l1 : Int32) (s0 : Int32) (G : Mem) {r : Int32} {G' : Mem} (h : fX0_isReached_10 l0 l1 s0 G = some (r, G')) (hK : (finI X) r G') : J X 8 10 [(0, .ref (X.B + l0)), (1, .int l1)] [.int s0] G := by
  unfold fX0_isReached_10 at h
  refine j_istore_n (L' := [(3, .int s0), (0, .ref (X.B + l0)), (1, .int l1)]) ok dX0_isReached_10 rfl (by decide) rfl ?_
  refine j_iconst (v := 0) ok dX0_isReached_11 (by decide) ?_
  refine j_istore (L' := [(4, .int (0 : Int32)), (3, .int s0), (0, .ref (X.B + l0)), (1, .int l1)]) ok dX0_isReached_12 (by decide) rfl ?_
  have hJ : J X 8 14 [(0, .ref (X.B + l0)), (1, .int l1), (3, .int s0), (4, .int (0 : Int32))] [] G := j_loop (loc := fun s : Int32 => [(0, .ref (X.B + l0)), (1, .int l1), (3, .int s0), (4, .int s)]) (F := (finI X)) (fun s G r G' hb hk => jX0_isReached_14 ok l0 l1 s0 s G hb hk) _ _ _ _ _ h hK
  exact J.sub [2, 3, 1, 0] rfl hJ

def fX0_isReached_0 (l0 : Nat) (l1 : Int32) (l2 : Int32)  (G : Mem) : Option (Int32 × Mem) :=
  if l2 = (0 : Int32) then
    fX0_isReached_10 l0 l1 (1 : Int32) G
  else
    fX0_isReached_10 l0 l1 (9 : Int32) G

set_option maxRecDepth 100000 in
set_option maxHeartbeats 4000000 in
theorem jX0_isReached_0 {X : Cx} (ok : OK X cX0_isReached RX0 (some .boolean) 8 1 21) (l0 : Nat) (l1 : Int32) (l2 : Int32)  (G : Mem) {r : Int32} {G' : Mem} (h : fX0_isReached_0 l0 l1 l2 G = some (r, G')) (hK : (finI X) r G') : J X 8 0 [(0, .ref (X.B + l0)), (1, .int l1), (2, .int l2)] [] G := by
  unfold fX0_isReached_0 at h
  refine j_iload_n ok dX0_isReached_0 rfl 2 rfl ?_
  rcases ite_some h with ⟨c1, h⟩ | ⟨c1, h⟩
  · refine j_if_ne (tgt := 8) ok dX0_isReached_1 (by decide) (fun z => absurd c1 z) (fun _ => ?_)
    refine j_iconst (v := 1) ok dX0_isReached_4 (by decide) ?_
    refine j_goto (tgt := 10) ok dX0_isReached_5 (by decide) ?_
    exact J.sub [0, 1] rfl (jX0_isReached_10 ok l0 l1 (1 : Int32) G h hK)
  · refine j_if_ne (tgt := 8) ok dX0_isReached_1 (by decide) (fun _ => ?_) (fun z => absurd z c1)
    refine j_bipush (v := 9) ok dX0_isReached_8 (by decide) ?_
    exact J.sub [0, 1] rfl (jX0_isReached_10 ok l0 l1 (9 : Int32) G h hK)

def fX0_isReached (l0 : Nat) (l1 : Int32) (l2 : Int32) (G : Mem) : Option (Int32 × Mem) := fX0_isReached_0 l0 l1 l2 G
set_option maxRecDepth 100000 in
theorem tX0_isReached {l : Launch} (hfl : l.stackTraces = false) (V : Wd) (l0 : Nat) (l1 : Int32) (l2 : Int32) (G : Mem) {r : Int32} {G' : Mem} (h : fX0_isReached l0 l1 l2 G = some (r, G')) : Mx l yX0_isReached cX0_isReached 8 (some .boolean) 1 21 V [.ref (V.B + l0), .int l1, .int l2] G (.inl (some (.int r))) G' :=
  mx_of (L := [(0, .ref (V.B + l0)), (1, .int l1), (2, .int l2)]) hfl (by decide +kernel) (Nat.le_of_ble_eq_true rfl) rfl (fun X hl hV hin ok he => by
    subst hl; subst hV
    exact J.sub [0, 1, 2] rfl (jX0_isReached_0 ok l0 l1 l2 G h he))
def fX0_isLegal_93 (l0 : Nat) (l1 : Int32) (l2 : Int32) (l4 : Int32) (l5 : Int32) (s0 : Int32) (G : Mem) : Option (Int32 × Mem) :=
  ck G 10 l0 <| (fX0_set l0 l1 l4 G).bind fun q1 =>
  ck q1.2 10 l0 <| (fX0_set l0 l2 l5 q1.2).bind fun q2 =>
  rz s0 <|
  some (s0, q2.2)

set_option maxRecDepth 100000 in
set_option maxHeartbeats 4000000 in
theorem jX0_isLegal_93 {X : Cx} (ok : OK X cX0_isLegal RX0 (some .boolean) 9 2 48) (l0 : Nat) (l1 : Int32) (l2 : Int32) (l4 : Int32) (l5 : Int32) (s0 : Int32) (G : Mem) {r : Int32} {G' : Mem} (h : fX0_isLegal_93 l0 l1 l2 l4 l5 s0 G = some (r, G')) (hK : (finI X) r G') : J X 9 93 [(0, .ref (X.B + l0)), (1, .int l1), (2, .int l2), (4, .int l4), (5, .int l5)] [.int s0] G := by
  unfold fX0_isLegal_93 at h
  refine j_istore (L' := [(8, .int s0), (0, .ref (X.B + l0)), (1, .int l1), (2, .int l2), (4, .int l4), (5, .int l5)]) ok dX0_isLegal_93 (by decide) rfl ?_
  refine j_aload_n ok dX0_isLegal_95 rfl 1 rfl ?_
  refine j_iload_n ok dX0_isLegal_96 rfl 2 rfl ?_
  refine j_iload ok dX0_isLegal_97 4 rfl ?_
  obtain ⟨kq1, h⟩ := ck_some h
  obtain ⟨q1, hq1, h⟩ := obind h
  refine k_V0 ok kl_X0_52 ⟨Nat.le_of_ble_eq_true rfl, Nat.le_of_ble_eq_true rfl⟩ [.int l1, .int l4] kq1 rfl rfl (Nat.le_of_ble_eq_true rfl) (tX0_set ok.fl X.V l0 l1 l4 G hq1) dX0_isLegal_99 ?_
  refine j_aload_n ok dX0_isLegal_102 rfl 1 rfl ?_
  refine j_iload_n ok dX0_isLegal_103 rfl 3 rfl ?_
  refine j_iload ok dX0_isLegal_104 5 rfl ?_
  obtain ⟨kq2, h⟩ := ck_some h
  obtain ⟨q2, hq2, h⟩ := obind h
  refine k_V0 ok kl_X0_52 ⟨Nat.le_of_ble_eq_true rfl, Nat.le_of_ble_eq_true rfl⟩ [.int l2, .int l5] kq2 rfl rfl (Nat.le_of_ble_eq_true rfl) (tX0_set ok.fl X.V l0 l2 l5 q1.2 hq2) dX0_isLegal_106 ?_
  refine j_iload ok dX0_isLegal_109 0 rfl ?_
  obtain ⟨hz3, h⟩ := rz_some h
  obtain ⟨er, eG⟩ := inj2 h
  subst er; subst eG
  exact j_zret ok rfl hz3 dX0_isLegal_111 hK

def fX0_isLegal_92 (l0 : Nat) (l1 : Int32) (l2 : Int32) (l4 : Int32) (l5 : Int32)  (G : Mem) : Option (Int32 × Mem) :=
  fX0_isLegal_93 l0 l1 l2 l4 l5 (0 : Int32) G

set_option maxRecDepth 100000 in
set_option maxHeartbeats 4000000 in
theorem jX0_isLegal_92 {X : Cx} (ok : OK X cX0_isLegal RX0 (some .boolean) 9 2 48) (l0 : Nat) (l1 : Int32) (l2 : Int32) (l4 : Int32) (l5 : Int32)  (G : Mem) {r : Int32} {G' : Mem} (h : fX0_isLegal_92 l0 l1 l2 l4 l5 G = some (r, G')) (hK : (finI X) r G') : J X 9 92 [(0, .ref (X.B + l0)), (1, .int l1), (2, .int l2), (4, .int l4), (5, .int l5)] [] G := by
  unfold fX0_isLegal_92 at h
  refine j_iconst (v := 0) ok dX0_isLegal_92 (by decide) ?_
  exact J.sub [0, 1, 2, 3, 4] rfl (jX0_isLegal_93 ok l0 l1 l2 l4 l5 (0 : Int32) G h hK)

def fX0_isLegal_88 (l0 : Nat) (l1 : Int32) (l2 : Int32) (l4 : Int32) (l5 : Int32)  (G : Mem) : Option (Int32 × Mem) :=
  fX0_isLegal_93 l0 l1 l2 l4 l5 (1 : Int32) G

set_option maxRecDepth 100000 in
set_option maxHeartbeats 4000000 in
theorem jX0_isLegal_88 {X : Cx} (ok : OK X cX0_isLegal RX0 (some .boolean) 9 2 48) (l0 : Nat) (l1 : Int32) (l2 : Int32) (l4 : Int32) (l5 : Int32)  (G : Mem) {r : Int32} {G' : Mem} (h : fX0_isLegal_88 l0 l1 l2 l4 l5 G = some (r, G')) (hK : (finI X) r G') : J X 9 88 [(0, .ref (X.B + l0)), (1, .int l1), (2, .int l2), (4, .int l4), (5, .int l5)] [] G := by
  unfold fX0_isLegal_88 at h
  refine j_iconst (v := 1) ok dX0_isLegal_88 (by decide) ?_
  refine j_goto (tgt := 93) ok dX0_isLegal_89 (by decide) ?_
  exact J.sub [0, 1, 2, 3, 4] rfl (jX0_isLegal_93 ok l0 l1 l2 l4 l5 (1 : Int32) G h hK)

def fX0_isLegal_52 (l0 : Nat) (l1 : Int32) (l2 : Int32) (l3 : Int32) (l4 : Int32) (l5 : Int32) (l6 : Int32) (s0 : Int32) (G : Mem) : Option (Int32 × Mem) :=
  ck G 10 l0 <| (fX0_isReached l0 s0 ((1 : Int32) - l6) G).bind fun q1 =>
  if q1.1 = (0 : Int32) then
    if l3 = (0 : Int32) then
      fX0_isLegal_88 l0 l1 l2 l4 l5 q1.2
    else
      ck q1.2 10 l0 <| (fX0_kingPlace l0 ((1 : Int32) - l6) q1.2).bind fun q4 =>
      ck q4.2 10 l0 <| (fX0_isReached l0 q4.1 l6 q4.2).bind fun q5 =>
      if q5.1 = (0 : Int32) then
        fX0_isLegal_92 l0 l1 l2 l4 l5 q5.2
      else
        fX0_isLegal_88 l0 l1 l2 l4 l5 q5.2
  else
    fX0_isLegal_92 l0 l1 l2 l4 l5 q1.2

set_option maxRecDepth 100000 in
set_option maxHeartbeats 4000000 in
theorem jX0_isLegal_52 {X : Cx} (ok : OK X cX0_isLegal RX0 (some .boolean) 9 2 48) (l0 : Nat) (l1 : Int32) (l2 : Int32) (l3 : Int32) (l4 : Int32) (l5 : Int32) (l6 : Int32) (s0 : Int32) (G : Mem) {r : Int32} {G' : Mem} (h : fX0_isLegal_52 l0 l1 l2 l3 l4 l5 l6 s0 G = some (r, G')) (hK : (finI X) r G') : J X 9 52 [(0, .ref (X.B + l0)), (1, .int l1), (2, .int l2), (3, .int l3), (4, .int l4), (5, .int l5), (6, .int l6)] [.int s0] G := by
  unfold fX0_isLegal_52 at h
  refine j_istore (L' := [(7, .int s0), (0, .ref (X.B + l0)), (1, .int l1), (2, .int l2), (3, .int l3), (4, .int l4), (5, .int l5), (6, .int l6)]) ok dX0_isLegal_52 (by decide) rfl ?_
  refine j_aload_n ok dX0_isLegal_54 rfl 1 rfl ?_
  refine j_iload ok dX0_isLegal_55 0 rfl ?_
  refine j_iconst (v := 1) ok dX0_isLegal_57 (by decide) ?_
  refine j_iload ok dX0_isLegal_58 7 rfl ?_
  refine j_isub ok dX0_isLegal_60 ?_
  obtain ⟨kq1, h⟩ := ck_some h
  obtain ⟨q1, hq1, h⟩ := obind h
  refine k_V1 ok kl_X0_105 ⟨Nat.le_of_ble_eq_true rfl, Nat.le_of_ble_eq_true rfl⟩ [.int s0, .int ((1 : Int32) - l6)] kq1 rfl rfl (Nat.le_of_ble_eq_true rfl) (tX0_isReached ok.fl X.V l0 s0 ((1 : Int32) - l6) G hq1) dX0_isLegal_61 ?_
  rcases ite_some h with ⟨c2, h⟩ | ⟨c2, h⟩
  · refine j_if_ne (tgt := 92) ok dX0_isLegal_64 (by decide) (fun z => absurd c2 z) (fun _ => ?_)
    refine j_iload_n ok dX0_isLegal_67 rfl 4 rfl ?_
    rcases ite_some h with ⟨c3, h⟩ | ⟨c3, h⟩
    · refine j_if_eq (tgt := 88) ok dX0_isLegal_68 (by decide) (fun _ => ?_) (fun z => absurd c3 z)
      exact J.sub [1, 2, 3, 5, 6] rfl (jX0_isLegal_88 ok l0 l1 l2 l4 l5 q1.2 h hK)
    · refine j_if_eq (tgt := 88) ok dX0_isLegal_68 (by decide) (fun z => absurd z c3) (fun _ => ?_)
      refine j_aload_n ok dX0_isLegal_71 rfl 1 rfl ?_
      refine j_aload_n ok dX0_isLegal_72 rfl 1 rfl ?_
      refine j_iconst (v := 1) ok dX0_isLegal_73 (by decide) ?_
      refine j_iload ok dX0_isLegal_74 7 rfl ?_
      refine j_isub ok dX0_isLegal_76 ?_
      obtain ⟨kq4, h⟩ := ck_some h
      obtain ⟨q4, hq4, h⟩ := obind h
      refine k_V1 ok kl_X0_102 ⟨Nat.le_of_ble_eq_true rfl, Nat.le_of_ble_eq_true rfl⟩ [.int ((1 : Int32) - l6)] kq4 rfl rfl (Nat.le_of_ble_eq_true rfl) (tX0_kingPlace ok.fl X.V l0 ((1 : Int32) - l6) q1.2 hq4) dX0_isLegal_77 ?_
      refine j_iload ok dX0_isLegal_80 7 rfl ?_
      obtain ⟨kq5, h⟩ := ck_some h
      obtain ⟨q5, hq5, h⟩ := obind h
      refine k_V1 ok kl_X0_105 ⟨Nat.le_of_ble_eq_true rfl, Nat.le_of_ble_eq_true rfl⟩ [.int q4.1, .int l6] kq5 rfl rfl (Nat.le_of_ble_eq_true rfl) (tX0_isReached ok.fl X.V l0 q4.1 l6 q4.2 hq5) dX0_isLegal_82 ?_
      rcases ite_some h with ⟨c6, h⟩ | ⟨c6, h⟩
      · refine j_if_eq (tgt := 92) ok dX0_isLegal_85 (by decide) (fun _ => ?_) (fun z => absurd c6 z)
        exact J.sub [1, 2, 3, 5, 6] rfl (jX0_isLegal_92 ok l0 l1 l2 l4 l5 q5.2 h hK)
      · refine j_if_eq (tgt := 92) ok dX0_isLegal_85 (by decide) (fun z => absurd z c6) (fun _ => ?_)
        exact J.sub [1, 2, 3, 5, 6] rfl (jX0_isLegal_88 ok l0 l1 l2 l4 l5 q5.2 h hK)
  · refine j_if_ne (tgt := 92) ok dX0_isLegal_64 (by decide) (fun _ => ?_) (fun z => absurd z c2)
    exact J.sub [1, 2, 3, 5, 6] rfl (jX0_isLegal_92 ok l0 l1 l2 l4 l5 q1.2 h hK)

def fX0_isLegal_0 (l0 : Nat) (l1 : Int32) (l2 : Int32) (l3 : Int32)  (G : Mem) : Option (Int32 × Mem) :=
  ck G 10 l0 <| (fX0_on l0 l1 G).bind fun q1 =>
  ck q1.2 10 l0 <| (fX0_on l0 l2 q1.2).bind fun q2 =>
  (fX6_colourOf q1.1 q2.2).bind fun q3 =>
  ck q3.2 10 l0 <| (fX0_set l0 l2 q1.1 q3.2).bind fun q4 =>
  ck q4.2 10 l0 <| (fX0_set l0 l1 (0 : Int32) q4.2).bind fun q5 =>
  (fX6_kindOf q1.1 q5.2).bind fun q6 =>
  if q6.1 = (0 : Int32) then
    fX0_isLegal_52 l0 l1 l2 l3 q1.1 q2.1 q3.1 l2 q6.2
  else
    ck q6.2 10 l0 <| (fX0_kingPlace l0 q3.1 q6.2).bind fun q8 =>
    fX0_isLegal_52 l0 l1 l2 l3 q1.1 q2.1 q3.1 q8.1 q8.2

set_option maxRecDepth 100000 in
set_option maxHeartbeats 4000000 in
theorem jX0_isLegal_0 {X : Cx} (ok : OK X cX0_isLegal RX0 (some .boolean) 9 2 48) (l0 : Nat) (l1 : Int32) (l2 : Int32) (l3 : Int32)  (G : Mem) {r : Int32} {G' : Mem} (h : fX0_isLegal_0 l0 l1 l2 l3 G = some (r, G')) (hK : (finI X) r G') : J X 9 0 [(0, .ref (X.B + l0)), (1, .int l1), (2, .int l2), (3, .int l3)] [] G := by
  unfold fX0_isLegal_0 at h
  refine j_aload_n ok dX0_isLegal_0 rfl 0 rfl ?_
  refine j_iload_n ok dX0_isLegal_1 rfl 1 rfl ?_
  obtain ⟨kq1, h⟩ := ck_some h
  obtain ⟨q1, hq1, h⟩ := obind h
  refine k_V1 ok kl_X0_48 ⟨Nat.le_of_ble_eq_true rfl, Nat.le_of_ble_eq_true rfl⟩ [.int l1] kq1 rfl rfl (Nat.le_of_ble_eq_true rfl) (tX0_on ok.fl X.V l0 l1 G hq1) dX0_isLegal_2 ?_
  refine j_istore (L' := [(4, .int q1.1), (0, .ref (X.B + l0)), (1, .int l1), (2, .int l2), (3, .int l3)]) ok dX0_isLegal_5 (by decide) rfl ?_
  refine j_aload_n ok dX0_isLegal_7 rfl 1 rfl ?_
  refine j_iload_n ok dX0_isLegal_8 rfl 3 rfl ?_
  obtain ⟨kq2, h⟩ := ck_some h
  obtain ⟨q2, hq2, h⟩ := obind h
  refine k_V1 ok kl_X0_48 ⟨Nat.le_of_ble_eq_true rfl, Nat.le_of_ble_eq_true rfl⟩ [.int l2] kq2 rfl rfl (Nat.le_of_ble_eq_true rfl) (tX0_on ok.fl X.V l0 l2 q1.2 hq2) dX0_isLegal_9 ?_
  refine j_istore (L' := [(5, .int q2.1), (4, .int q1.1), (0, .ref (X.B + l0)), (1, .int l1), (2, .int l2), (3, .int l3)]) ok dX0_isLegal_12 (by decide) rfl ?_
  refine j_iload ok dX0_isLegal_14 1 rfl ?_
  obtain ⟨q3, hq3, h⟩ := obind h
  refine k_N1 ok kl_X0_65 ⟨Nat.le_of_ble_eq_true rfl, Nat.le_of_ble_eq_true rfl⟩ [.int q1.1] rfl rfl (Nat.le_of_ble_eq_true rfl) (tX6_colourOf ok.fl X.V q1.1 q2.2 hq3) dX0_isLegal_16 ?_
  refine j_istore (L' := [(6, .int q3.1), (5, .int q2.1), (4, .int q1.1), (0, .ref (X.B + l0)), (1, .int l1), (2, .int l2), (3, .int l3)]) ok dX0_isLegal_19 (by decide) rfl ?_
  refine j_aload_n ok dX0_isLegal_21 rfl 3 rfl ?_
  refine j_iload_n ok dX0_isLegal_22 rfl 5 rfl ?_
  refine j_iload ok dX0_isLegal_23 2 rfl ?_
  obtain ⟨kq4, h⟩ := ck_some h
  obtain ⟨q4, hq4, h⟩ := obind h
  refine k_V0 ok kl_X0_52 ⟨Nat.le_of_ble_eq_true rfl, Nat.le_of_ble_eq_true rfl⟩ [.int l2, .int q1.1] kq4 rfl rfl (Nat.le_of_ble_eq_true rfl) (tX0_set ok.fl X.V l0 l2 q1.1 q3.2 hq4) dX0_isLegal_25 ?_
  refine j_aload_n ok dX0_isLegal_28 rfl 3 rfl ?_
  refine j_iload_n ok dX0_isLegal_29 rfl 4 rfl ?_
  refine j_iconst (v := 0) ok dX0_isLegal_30 (by decide) ?_
  obtain ⟨kq5, h⟩ := ck_some h
  obtain ⟨q5, hq5, h⟩ := obind h
  refine k_V0 ok kl_X0_52 ⟨Nat.le_of_ble_eq_true rfl, Nat.le_of_ble_eq_true rfl⟩ [.int l1, .int (0 : Int32)] kq5 rfl rfl (Nat.le_of_ble_eq_true rfl) (tX0_set ok.fl X.V l0 l1 (0 : Int32) q4.2 hq5) dX0_isLegal_31 ?_
  refine j_iload ok dX0_isLegal_34 2 rfl ?_
  obtain ⟨q6, hq6, h⟩ := obind h
  refine k_N1 ok kl_X0_68 ⟨Nat.le_of_ble_eq_true rfl, Nat.le_of_ble_eq_true rfl⟩ [.int q1.1] rfl rfl (Nat.le_of_ble_eq_true rfl) (tX6_kindOf ok.fl X.V q1.1 q5.2 hq6) dX0_isLegal_36 ?_
  rcases ite_some h with ⟨c7, h⟩ | ⟨c7, h⟩
  · refine j_if_ne (tgt := 46) ok dX0_isLegal_39 (by decide) (fun z => absurd c7 z) (fun _ => ?_)
    refine j_iload_n ok dX0_isLegal_42 rfl 5 rfl ?_
    refine j_goto (tgt := 52) ok dX0_isLegal_43 (by decide) ?_
    exact J.sub [3, 4, 5, 6, 2, 1, 0] rfl (jX0_isLegal_52 ok l0 l1 l2 l3 q1.1 q2.1 q3.1 l2 q6.2 h hK)
  · refine j_if_ne (tgt := 46) ok dX0_isLegal_39 (by decide) (fun _ => ?_) (fun z => absurd z c7)
    refine j_aload_n ok dX0_isLegal_46 rfl 3 rfl ?_
    refine j_iload ok dX0_isLegal_47 0 rfl ?_
    obtain ⟨kq8, h⟩ := ck_some h
    obtain ⟨q8, hq8, h⟩ := obind h
    refine k_V1 ok kl_X0_102 ⟨Nat.le_of_ble_eq_true rfl, Nat.le_of_ble_eq_true rfl⟩ [.int q3.1] kq8 rfl rfl (Nat.le_of_ble_eq_true rfl) (tX0_kingPlace ok.fl X.V l0 q3.1 q6.2 hq8) dX0_isLegal_49 ?_
    exact J.sub [3, 4, 5, 6, 2, 1, 0] rfl (jX0_isLegal_52 ok l0 l1 l2 l3 q1.1 q2.1 q3.1 q8.1 q8.2 h hK)

def fX0_isLegal (l0 : Nat) (l1 : Int32) (l2 : Int32) (l3 : Int32) (G : Mem) : Option (Int32 × Mem) := fX0_isLegal_0 l0 l1 l2 l3 G
set_option maxRecDepth 100000 in
theorem tX0_isLegal {l : Launch} (hfl : l.stackTraces = false) (V : Wd) (l0 : Nat) (l1 : Int32) (l2 : Int32) (l3 : Int32) (G : Mem) {r : Int32} {G' : Mem} (h : fX0_isLegal l0 l1 l2 l3 G = some (r, G')) : Mx l yX0_isLegal cX0_isLegal 9 (some .boolean) 2 48 V [.ref (V.B + l0), .int l1, .int l2, .int l3] G (.inl (some (.int r))) G' :=
  mx_of (L := [(0, .ref (V.B + l0)), (1, .int l1), (2, .int l2), (3, .int l3)]) hfl (by decide +kernel) (Nat.le_of_ble_eq_true rfl) rfl (fun X hl hV hin ok he => by
    subst hl; subst hV
    exact J.sub [0, 1, 2, 3] rfl (jX0_isLegal_0 ok l0 l1 l2 l3 G h he))
