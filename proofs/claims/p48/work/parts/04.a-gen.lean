def fJ0_isLatin1_aae02_18  (s0 : Int32) (G : Mem) : Option (Int32 × Mem) :=
  rz s0 <|
  some (s0, G)

set_option maxRecDepth 100000 in
set_option maxHeartbeats 4000000 in
theorem jJ0_isLatin1_aae02_18 {X : Cx} (ok : OK X cJ0_isLatin1_aae02 RJ0 (some .boolean) 1 0 0)  (s0 : Int32) (G : Mem) {r : Int32} {G' : Mem} (h : fJ0_isLatin1_aae02_18 s0 G = some (r, G')) (hK : (finI X) r G') : J X 1 18 [] [.int s0] G := by
  unfold fJ0_isLatin1_aae02_18 at h
  obtain ⟨hz1, h⟩ := rz_some h
  obtain ⟨er, eG⟩ := inj2 h
  subst er; subst eG
  exact j_zret ok rfl hz1 dJ0_isLatin1_aae02_18 hK

def fJ0_isLatin1_aae02_17   (G : Mem) : Option (Int32 × Mem) :=
  fJ0_isLatin1_aae02_18 (0 : Int32) G

set_option maxRecDepth 100000 in
set_option maxHeartbeats 4000000 in
theorem jJ0_isLatin1_aae02_17 {X : Cx} (ok : OK X cJ0_isLatin1_aae02 RJ0 (some .boolean) 1 0 0)   (G : Mem) {r : Int32} {G' : Mem} (h : fJ0_isLatin1_aae02_17  G = some (r, G')) (hK : (finI X) r G') : J X 1 17 [] [] G := by
  unfold fJ0_isLatin1_aae02_17 at h
  refine j_iconst (v := 0) ok dJ0_isLatin1_aae02_17 (by decide) ?_
  exact J.sub [] rfl (jJ0_isLatin1_aae02_18 ok (0 : Int32) G h hK)

def fJ0_isLatin1_aae02_0 (l0 : Nat)  (G : Mem) : Option (Int32 × Mem) :=
  if (1 : Int32) = (0 : Int32) then
    fJ0_isLatin1_aae02_17 G
  else
    ckS l0 <|
    if (0 : Int32) = (0 : Int32) then
      fJ0_isLatin1_aae02_18 (1 : Int32) G
    else
      fJ0_isLatin1_aae02_17 G

set_option maxRecDepth 100000 in
set_option maxHeartbeats 4000000 in
theorem jJ0_isLatin1_aae02_0 {X : Cx} (ok : OK X cJ0_isLatin1_aae02 RJ0 (some .boolean) 1 0 0) (l0 : Nat)  (G : Mem) {r : Int32} {G' : Mem} (h : fJ0_isLatin1_aae02_0 l0 G = some (r, G')) (hK : (finI X) r G') : J X 1 0 [(0, .ref (X.V.sa l0))] [] G := by
  unfold fJ0_isLatin1_aae02_0 at h
  refine k_gets1 ok wf_J0_38 dJ0_isLatin1_aae02_0 ?_
  rcases ite_some h with ⟨c1, h⟩ | ⟨c1, h⟩
  · refine j_if_eq (tgt := 17) ok dJ0_isLatin1_aae02_3 (by decide) (fun _ => ?_) (fun z => absurd c1 z)
    exact J.sub [] rfl (jJ0_isLatin1_aae02_17 ok G h hK)
  · refine j_if_eq (tgt := 17) ok dJ0_isLatin1_aae02_3 (by decide) (fun z => absurd z c1) (fun _ => ?_)
    refine j_aload_n ok dJ0_isLatin1_aae02_6 rfl 0 rfl ?_
    obtain ⟨hs2, h⟩ := ckS_some h
    refine k_scod ok hs2 wf_J0_15 dJ0_isLatin1_aae02_7 ?_
    rcases ite_some h with ⟨c3, h⟩ | ⟨c3, h⟩
    · refine j_if_ne (tgt := 17) ok dJ0_isLatin1_aae02_10 (by decide) (fun z => absurd c3 z) (fun _ => ?_)
      refine j_iconst (v := 1) ok dJ0_isLatin1_aae02_13 (by decide) ?_
      refine j_goto (tgt := 18) ok dJ0_isLatin1_aae02_14 (by decide) ?_
      exact J.sub [] rfl (jJ0_isLatin1_aae02_18 ok (1 : Int32) G h hK)
    · refine j_if_ne (tgt := 17) ok dJ0_isLatin1_aae02_10 (by decide) (fun _ => ?_) (fun z => absurd z c3)
      exact J.sub [] rfl (jJ0_isLatin1_aae02_17 ok G h hK)

def fJ0_isLatin1_aae02 (l0 : Nat) (G : Mem) : Option (Int32 × Mem) := fJ0_isLatin1_aae02_0 l0 G
set_option maxRecDepth 100000 in
theorem tJ0_isLatin1_aae02 {l : Launch} (hfl : l.stackTraces = false) (V : Wd) (l0 : Nat) (G : Mem) {r : Int32} {G' : Mem} (h : fJ0_isLatin1_aae02 l0 G = some (r, G')) : Mx l yJ0_isLatin1_aae02 cJ0_isLatin1_aae02 1 (some .boolean) 0 0 V [.ref (V.sa l0)] G (.inl (some (.int r))) G' :=
  mx_of (L := [(0, .ref (V.sa l0))]) hfl (by decide +kernel) (Nat.le_of_ble_eq_true rfl) rfl (fun X hl hV hin ok he => by
    subst hl; subst hV
    exact J.sub [0] rfl (jJ0_isLatin1_aae02_0 ok l0 G h he))
def fJ0_isLatin1_aae02h_18  (s0 : Int32) (G : Mem) : Option (Int32 × Mem) :=
  rz s0 <|
  some (s0, G)

set_option maxRecDepth 100000 in
set_option maxHeartbeats 4000000 in
theorem jJ0_isLatin1_aae02h_18 {X : Cx} (ok : OK X cJ0_isLatin1_aae02 RJ0 (some .boolean) 1 0 0)  (s0 : Int32) (G : Mem) {r : Int32} {G' : Mem} (h : fJ0_isLatin1_aae02h_18 s0 G = some (r, G')) (hK : (finI X) r G') : J X 1 18 [] [.int s0] G := by
  unfold fJ0_isLatin1_aae02h_18 at h
  obtain ⟨hz1, h⟩ := rz_some h
  obtain ⟨er, eG⟩ := inj2 h
  subst er; subst eG
  exact j_zret ok rfl hz1 dJ0_isLatin1_aae02_18 hK

def fJ0_isLatin1_aae02h_17   (G : Mem) : Option (Int32 × Mem) :=
  fJ0_isLatin1_aae02h_18 (0 : Int32) G

set_option maxRecDepth 100000 in
set_option maxHeartbeats 4000000 in
theorem jJ0_isLatin1_aae02h_17 {X : Cx} (ok : OK X cJ0_isLatin1_aae02 RJ0 (some .boolean) 1 0 0)   (G : Mem) {r : Int32} {G' : Mem} (h : fJ0_isLatin1_aae02h_17  G = some (r, G')) (hK : (finI X) r G') : J X 1 17 [] [] G := by
  unfold fJ0_isLatin1_aae02h_17 at h
  refine j_iconst (v := 0) ok dJ0_isLatin1_aae02_17 (by decide) ?_
  exact J.sub [] rfl (jJ0_isLatin1_aae02h_18 ok (0 : Int32) G h hK)

def fJ0_isLatin1_aae02h_0 (l0 : Nat)  (G : Mem) : Option (Int32 × Mem) :=
  if (1 : Int32) = (0 : Int32) then
    fJ0_isLatin1_aae02h_17 G
  else
    (gF G 17 l0 1).bind fun v2 =>
    if v2 = (0 : Int32) then
      fJ0_isLatin1_aae02h_18 (1 : Int32) G
    else
      fJ0_isLatin1_aae02h_17 G

set_option maxRecDepth 100000 in
set_option maxHeartbeats 4000000 in
theorem jJ0_isLatin1_aae02h_0 {X : Cx} (ok : OK X cJ0_isLatin1_aae02 RJ0 (some .boolean) 1 0 0) (l0 : Nat)  (G : Mem) {r : Int32} {G' : Mem} (h : fJ0_isLatin1_aae02h_0 l0 G = some (r, G')) (hK : (finI X) r G') : J X 1 0 [(0, .ref (X.B + l0))] [] G := by
  unfold fJ0_isLatin1_aae02h_0 at h
  refine k_gets1 ok wf_J0_38 dJ0_isLatin1_aae02_0 ?_
  rcases ite_some h with ⟨c1, h⟩ | ⟨c1, h⟩
  · refine j_if_eq (tgt := 17) ok dJ0_isLatin1_aae02_3 (by decide) (fun _ => ?_) (fun z => absurd c1 z)
    exact J.sub [] rfl (jJ0_isLatin1_aae02h_17 ok G h hK)
  · refine j_if_eq (tgt := 17) ok dJ0_isLatin1_aae02_3 (by decide) (fun z => absurd z c1) (fun _ => ?_)
    refine j_aload_n ok dJ0_isLatin1_aae02_6 rfl 0 rfl ?_
    obtain ⟨v2, hv2, h⟩ := obind h
    refine k_getI ok fl_J0_15 hv2 dJ0_isLatin1_aae02_7 ?_
    rcases ite_some h with ⟨c3, h⟩ | ⟨c3, h⟩
    · refine j_if_ne (tgt := 17) ok dJ0_isLatin1_aae02_10 (by decide) (fun z => absurd c3 z) (fun _ => ?_)
      refine j_iconst (v := 1) ok dJ0_isLatin1_aae02_13 (by decide) ?_
      refine j_goto (tgt := 18) ok dJ0_isLatin1_aae02_14 (by decide) ?_
      exact J.sub [] rfl (jJ0_isLatin1_aae02h_18 ok (1 : Int32) G h hK)
    · refine j_if_ne (tgt := 17) ok dJ0_isLatin1_aae02_10 (by decide) (fun _ => ?_) (fun z => absurd z c3)
      exact J.sub [] rfl (jJ0_isLatin1_aae02h_17 ok G h hK)

def fJ0_isLatin1_aae02h (l0 : Nat) (G : Mem) : Option (Int32 × Mem) := fJ0_isLatin1_aae02h_0 l0 G
set_option maxRecDepth 100000 in
theorem tJ0_isLatin1_aae02h {l : Launch} (hfl : l.stackTraces = false) (V : Wd) (l0 : Nat) (G : Mem) {r : Int32} {G' : Mem} (h : fJ0_isLatin1_aae02h l0 G = some (r, G')) : Mx l yJ0_isLatin1_aae02 cJ0_isLatin1_aae02 1 (some .boolean) 0 0 V [.ref (V.B + l0)] G (.inl (some (.int r))) G' :=
  mx_of (L := [(0, .ref (V.B + l0))]) hfl (by decide +kernel) (Nat.le_of_ble_eq_true rfl) rfl (fun X hl hV hin ok he => by
    subst hl; subst hV
    exact J.sub [0] rfl (jJ0_isLatin1_aae02h_0 ok l0 G h he))
def fJ3_checkIndex_8e157_9   (G : Mem) : Option (Int32 × Mem) :=
  none

set_option maxRecDepth 100000 in
set_option maxHeartbeats 4000000 in
theorem jJ3_checkIndex_8e157_9 {X : Cx} (ok : OK X cJ3_checkIndex_8e157 RJ3 (some .int) 3 0 0)   (G : Mem) {r : Int32} {G' : Mem} (h : fJ3_checkIndex_8e157_9  G = some (r, G')) (hK : (finI X) r G') : J X 3 9 [] [] G := by
  unfold fJ3_checkIndex_8e157_9 at h
  cases h

def fJ3_checkIndex_8e157_0 (l0 : Int32) (l1 : Int32)  (G : Mem) : Option (Int32 × Mem) :=
  if l0 < (0 : Int32) then
    fJ3_checkIndex_8e157_9 G
  else
    if l0 < l1 then
      some (l0, G)
    else
      fJ3_checkIndex_8e157_9 G

set_option maxRecDepth 100000 in
set_option maxHeartbeats 4000000 in
theorem jJ3_checkIndex_8e157_0 {X : Cx} (ok : OK X cJ3_checkIndex_8e157 RJ3 (some .int) 3 0 0) (l0 : Int32) (l1 : Int32)  (G : Mem) {r : Int32} {G' : Mem} (h : fJ3_checkIndex_8e157_0 l0 l1 G = some (r, G')) (hK : (finI X) r G') : J X 3 0 [(0, .int l0), (1, .int l1)] [] G := by
  unfold fJ3_checkIndex_8e157_0 at h
  refine j_iload_n ok dJ3_checkIndex_8e157_0 rfl 0 rfl ?_
  rcases ite_some h with ⟨c1, h⟩ | ⟨c1, h⟩
  · refine j_if_lt (tgt := 9) ok dJ3_checkIndex_8e157_1 (by decide) (fun _ => ?_) (fun z => absurd c1 z)
    exact J.sub [] rfl (jJ3_checkIndex_8e157_9 ok G h hK)
  · refine j_if_lt (tgt := 9) ok dJ3_checkIndex_8e157_1 (by decide) (fun z => absurd z c1) (fun _ => ?_)
    refine j_iload_n ok dJ3_checkIndex_8e157_4 rfl 0 rfl ?_
    refine j_iload_n ok dJ3_checkIndex_8e157_5 rfl 1 rfl ?_
    rcases ite_some h with ⟨c2, h⟩ | ⟨c2, h⟩
    · refine j_icmp_lt (tgt := 16) ok dJ3_checkIndex_8e157_6 (by decide) (fun _ => ?_) (fun z => absurd c2 z)
      refine j_iload_n ok dJ3_checkIndex_8e157_16 rfl 0 rfl ?_
      obtain ⟨er, eG⟩ := inj2 h
      subst er; subst eG
      exact j_iret ok rfl dJ3_checkIndex_8e157_17 hK
    · refine j_icmp_lt (tgt := 16) ok dJ3_checkIndex_8e157_6 (by decide) (fun z => absurd z c2) (fun _ => ?_)
      exact J.sub [] rfl (jJ3_checkIndex_8e157_9 ok G h hK)

def fJ3_checkIndex_8e157 (l0 : Int32) (l1 : Int32) (G : Mem) : Option (Int32 × Mem) := fJ3_checkIndex_8e157_0 l0 l1 G
set_option maxRecDepth 100000 in
theorem tJ3_checkIndex_8e157 {l : Launch} (hfl : l.stackTraces = false) (V : Wd) (l0 : Int32) (l1 : Int32) (G : Mem) {r : Int32} {G' : Mem} (h : fJ3_checkIndex_8e157 l0 l1 G = some (r, G')) : Mx l yJ3_checkIndex_8e157 cJ3_checkIndex_8e157 3 (some .int) 0 0 V [.int l0, .int l1, va_rf V.fm] G (.inl (some (.int r))) G' := by
  rcases h9 : V.fm with _ | z
  · exact mx_of (L := [(0, .int l0), (1, .int l1), (2, va_rf none)]) hfl (by decide +kernel) (Nat.le_of_ble_eq_true rfl) rfl (fun X hl hV hin ok he => by
        subst hl; subst hV
        exact J.sub [0, 1] rfl (jJ3_checkIndex_8e157_0 ok l0 l1 G h he))
  · exact mx_of (L := [(0, .int l0), (1, .int l1), (2, va_rf (some z))]) hfl (by decide +kernel) (Nat.le_of_ble_eq_true rfl) rfl (fun X hl hV hin ok he => by
        subst hl; subst hV
        exact J.sub [0, 1] rfl (jJ3_checkIndex_8e157_0 ok l0 l1 G h he))

def fJ0_checkIndex_df160_0 (l0 : Int32) (l1 : Int32)  (G : Mem) : Option (Unit × Mem) :=
  (fJ3_checkIndex_8e157 l0 l1 G).bind fun q1 =>
  some ((), q1.2)

set_option maxRecDepth 100000 in
set_option maxHeartbeats 4000000 in
theorem jJ0_checkIndex_df160_0 {X : Cx} (ok : OK X cJ0_checkIndex_df160 RJ0 none 2 1 22) (l0 : Int32) (l1 : Int32)  (G : Mem) {r : Unit} {G' : Mem} (h : fJ0_checkIndex_df160_0 l0 l1 G = some (r, G')) (hK : (finV X) r G') : J X 2 0 [(0, .int l0), (1, .int l1)] [] G := by
  unfold fJ0_checkIndex_df160_0 at h
  refine j_iload_n ok dJ0_checkIndex_df160_0 rfl 0 rfl ?_
  refine j_iload_n ok dJ0_checkIndex_df160_1 rfl 1 rfl ?_
  refine k_getsF ok wf_J0_1053 dJ0_checkIndex_df160_2 ?_
  obtain ⟨q1, hq1, h⟩ := obind h
  refine k_S1 ok kl_J0_1059 ⟨Nat.le_of_ble_eq_true rfl, Nat.le_of_ble_eq_true rfl⟩ [.int l0, .int l1, va_rf X.V.fm] rfl rfl (Nat.le_of_ble_eq_true rfl) (tJ3_checkIndex_8e157 ok.fl X.V l0 l1 G hq1) dJ0_checkIndex_df160_5 ?_
  refine j_pop ok dJ0_checkIndex_df160_8 rfl ?_
  obtain ⟨er, eG⟩ := inj2 h
  subst er; subst eG
  exact j_vret ok rfl dJ0_checkIndex_df160_9 hK

def fJ0_checkIndex_df160 (l0 : Int32) (l1 : Int32) (G : Mem) : Option (Unit × Mem) := fJ0_checkIndex_df160_0 l0 l1 G
set_option maxRecDepth 100000 in
theorem tJ0_checkIndex_df160 {l : Launch} (hfl : l.stackTraces = false) (V : Wd) (l0 : Int32) (l1 : Int32) (G : Mem) {r : Unit} {G' : Mem} (h : fJ0_checkIndex_df160 l0 l1 G = some (r, G')) : Mx l yJ0_checkIndex_df160 cJ0_checkIndex_df160 2 none 1 22 V [.int l0, .int l1] G (.inl none) G' :=
  mx_of (L := [(0, .int l0), (1, .int l1)]) hfl (by decide +kernel) (Nat.le_of_ble_eq_true rfl) rfl (fun X hl hV hin ok he => by
    subst hl; subst hV
    exact J.sub [0, 1] rfl (jJ0_checkIndex_df160_0 ok l0 l1 G h he))
def fJ1_charAt_3b067_0 (l0 : Nat) (l1 : Int32)  (G : Mem) : Option (Int32 × Mem) :=
  (slen l0).bind fun v1 =>
  (fJ0_checkIndex_df160 l1 v1 G).bind fun q2 =>
  (sbyt l0 l1).bind fun v3 =>
  rc (((v3 &&& (255 : Int32)).toUInt32 % 65536).toInt32) <|
  some ((((v3 &&& (255 : Int32)).toUInt32 % 65536).toInt32), q2.2)

set_option maxRecDepth 100000 in
set_option maxHeartbeats 4000000 in
theorem jJ1_charAt_3b067_0 {X : Cx} (ok : OK X cJ1_charAt_3b067 RJ1 (some .char) 2 2 43) (l0 : Nat) (l1 : Int32)  (G : Mem) {r : Int32} {G' : Mem} (h : fJ1_charAt_3b067_0 l0 l1 G = some (r, G')) (hK : (finI X) r G') : J X 2 0 [(0, .ref (X.V.sb l0)), (1, .int l1)] [] G := by
  unfold fJ1_charAt_3b067_0 at h
  refine j_iload_n ok dJ1_charAt_3b067_0 rfl 1 rfl ?_
  refine j_aload_n ok dJ1_charAt_3b067_1 rfl 0 rfl ?_
  obtain ⟨v1, hv1, h⟩ := obind h
  refine k_salen ok hv1 dJ1_charAt_3b067_2 ?_
  obtain ⟨q2, hq2, h⟩ := obind h
  refine k_S0 ok kl_J1_9 ⟨Nat.le_of_ble_eq_true rfl, Nat.le_of_ble_eq_true rfl⟩ [.int l1, .int v1] rfl rfl (Nat.le_of_ble_eq_true rfl) (tJ0_checkIndex_df160 ok.fl X.V l1 v1 G hq2) dJ1_charAt_3b067_3 ?_
  refine j_aload_n ok dJ1_charAt_3b067_6 rfl 0 rfl ?_
  refine j_iload_n ok dJ1_charAt_3b067_7 rfl 1 rfl ?_
  obtain ⟨v3, hv3, h⟩ := obind h
  refine k_sald ok hv3 dJ1_charAt_3b067_8 ?_
  refine j_sipush (v := 255) ok dJ1_charAt_3b067_9 (by decide) ?_
  refine j_iand ok dJ1_charAt_3b067_12 ?_
  refine j_i2c ok dJ1_charAt_3b067_13 ?_
  obtain ⟨hz4, h⟩ := rc_some h
  obtain ⟨er, eG⟩ := inj2 h
  subst er; subst eG
  exact j_cret ok rfl hz4 dJ1_charAt_3b067_14 hK

def fJ1_charAt_3b067 (l0 : Nat) (l1 : Int32) (G : Mem) : Option (Int32 × Mem) := fJ1_charAt_3b067_0 l0 l1 G
set_option maxRecDepth 100000 in
theorem tJ1_charAt_3b067 {l : Launch} (hfl : l.stackTraces = false) (V : Wd) (l0 : Nat) (l1 : Int32) (G : Mem) {r : Int32} {G' : Mem} (h : fJ1_charAt_3b067 l0 l1 G = some (r, G')) : Mx l yJ1_charAt_3b067 cJ1_charAt_3b067 2 (some .char) 2 43 V [.ref (V.sb l0), .int l1] G (.inl (some (.int r))) G' :=
  mx_of (L := [(0, .ref (V.sb l0)), (1, .int l1)]) hfl (by decide +kernel) (Nat.le_of_ble_eq_true rfl) rfl (fun X hl hV hin ok he => by
    subst hl; subst hV
    exact J.sub [0, 1] rfl (jJ1_charAt_3b067_0 ok l0 l1 G h he))
def fJ1_charAt_3b067h_0 (l0 : Nat) (l1 : Int32)  (G : Mem) : Option (Int32 × Mem) :=
  (gL G l0).bind fun v1 =>
  (fJ0_checkIndex_df160 l1 v1 G).bind fun q2 =>
  (gA q2.2 2 l0 l1).bind fun v3 =>
  rc (((v3 &&& (255 : Int32)).toUInt32 % 65536).toInt32) <|
  some ((((v3 &&& (255 : Int32)).toUInt32 % 65536).toInt32), q2.2)

set_option maxRecDepth 100000 in
set_option maxHeartbeats 4000000 in
theorem jJ1_charAt_3b067h_0 {X : Cx} (ok : OK X cJ1_charAt_3b067 RJ1 (some .char) 2 2 43) (l0 : Nat) (l1 : Int32)  (G : Mem) {r : Int32} {G' : Mem} (h : fJ1_charAt_3b067h_0 l0 l1 G = some (r, G')) (hK : (finI X) r G') : J X 2 0 [(0, .ref (X.B + l0)), (1, .int l1)] [] G := by
  unfold fJ1_charAt_3b067h_0 at h
  refine j_iload_n ok dJ1_charAt_3b067_0 rfl 1 rfl ?_
  refine j_aload_n ok dJ1_charAt_3b067_1 rfl 0 rfl ?_
  obtain ⟨v1, hv1, h⟩ := obind h
  refine j_alen ok hv1 dJ1_charAt_3b067_2 ?_
  obtain ⟨q2, hq2, h⟩ := obind h
  refine k_S0 ok kl_J1_9 ⟨Nat.le_of_ble_eq_true rfl, Nat.le_of_ble_eq_true rfl⟩ [.int l1, .int v1] rfl rfl (Nat.le_of_ble_eq_true rfl) (tJ0_checkIndex_df160 ok.fl X.V l1 v1 G hq2) dJ1_charAt_3b067_3 ?_
  refine j_aload_n ok dJ1_charAt_3b067_6 rfl 0 rfl ?_
  refine j_iload_n ok dJ1_charAt_3b067_7 rfl 1 rfl ?_
  obtain ⟨v3, hv3, h⟩ := obind h
  refine j_bald ok hv3 dJ1_charAt_3b067_8 ?_
  refine j_sipush (v := 255) ok dJ1_charAt_3b067_9 (by decide) ?_
  refine j_iand ok dJ1_charAt_3b067_12 ?_
  refine j_i2c ok dJ1_charAt_3b067_13 ?_
  obtain ⟨hz4, h⟩ := rc_some h
  obtain ⟨er, eG⟩ := inj2 h
  subst er; subst eG
  exact j_cret ok rfl hz4 dJ1_charAt_3b067_14 hK

def fJ1_charAt_3b067h (l0 : Nat) (l1 : Int32) (G : Mem) : Option (Int32 × Mem) := fJ1_charAt_3b067h_0 l0 l1 G
set_option maxRecDepth 100000 in
theorem tJ1_charAt_3b067h {l : Launch} (hfl : l.stackTraces = false) (V : Wd) (l0 : Nat) (l1 : Int32) (G : Mem) {r : Int32} {G' : Mem} (h : fJ1_charAt_3b067h l0 l1 G = some (r, G')) : Mx l yJ1_charAt_3b067 cJ1_charAt_3b067 2 (some .char) 2 43 V [.ref (V.B + l0), .int l1] G (.inl (some (.int r))) G' :=
  mx_of (L := [(0, .ref (V.B + l0)), (1, .int l1)]) hfl (by decide +kernel) (Nat.le_of_ble_eq_true rfl) rfl (fun X hl hV hin ok he => by
    subst hl; subst hV
    exact J.sub [0, 1] rfl (jJ1_charAt_3b067h_0 ok l0 l1 G h he))
def fJ0_charAt_5068e_0 (l0 : Nat) (l1 : Int32)  (G : Mem) : Option (Int32 × Mem) :=
  ckS l0 <| (fJ0_isLatin1_aae02 l0 G).bind fun q1 =>
  if q1.1 = (0 : Int32) then
    ckS l0 <|
    none
  else
    ckS l0 <|
    (fJ1_charAt_3b067 l0 l1 q1.2).bind fun q4 =>
    rc q4.1 <|
    some (q4.1, q4.2)

set_option maxRecDepth 100000 in
set_option maxHeartbeats 4000000 in
theorem jJ0_charAt_5068e_0 {X : Cx} (ok : OK X cJ0_charAt_5068e RJ0 (some .char) 2 3 64) (l0 : Nat) (l1 : Int32)  (G : Mem) {r : Int32} {G' : Mem} (h : fJ0_charAt_5068e_0 l0 l1 G = some (r, G')) (hK : (finI X) r G') : J X 2 0 [(0, .ref (X.V.sa l0)), (1, .int l1)] [] G := by
  unfold fJ0_charAt_5068e_0 at h
  refine j_aload_n ok dJ0_charAt_5068e_0 rfl 0 rfl ?_
  obtain ⟨kq1, h⟩ := ckS_some h
  obtain ⟨q1, hq1, h⟩ := obind h
  refine k_T1 ok kl_J0_492 ⟨Nat.le_of_ble_eq_true rfl, Nat.le_of_ble_eq_true rfl⟩ [] kq1 rfl rfl (Nat.le_of_ble_eq_true rfl) (tJ0_isLatin1_aae02 ok.fl X.V l0 G hq1) dJ0_charAt_5068e_1 ?_
  rcases ite_some h with ⟨c2, h⟩ | ⟨c2, h⟩
  · refine j_if_eq (tgt := 16) ok dJ0_charAt_5068e_4 (by decide) (fun _ => ?_) (fun z => absurd c2 z)
    refine j_aload_n ok dJ0_charAt_5068e_16 rfl 0 rfl ?_
    obtain ⟨hs3, h⟩ := ckS_some h
    refine k_sval ok hs3 wf_J0_9 dJ0_charAt_5068e_17 ?_
    refine j_iload_n ok dJ0_charAt_5068e_20 rfl 1 rfl ?_
    cases h
  · refine j_if_eq (tgt := 16) ok dJ0_charAt_5068e_4 (by decide) (fun z => absurd z c2) (fun _ => ?_)
    refine j_aload_n ok dJ0_charAt_5068e_7 rfl 0 rfl ?_
    obtain ⟨hs3, h⟩ := ckS_some h
    refine k_sval ok hs3 wf_J0_9 dJ0_charAt_5068e_8 ?_
    refine j_iload_n ok dJ0_charAt_5068e_11 rfl 1 rfl ?_
    obtain ⟨q4, hq4, h⟩ := obind h
    refine k_S1 ok kl_J0_495 ⟨Nat.le_of_ble_eq_true rfl, Nat.le_of_ble_eq_true rfl⟩ [.ref (X.V.sb l0), .int l1] rfl rfl (Nat.le_of_ble_eq_true rfl) (tJ1_charAt_3b067 ok.fl X.V l0 l1 q1.2 hq4) dJ0_charAt_5068e_12 ?_
    obtain ⟨hz5, h⟩ := rc_some h
    obtain ⟨er, eG⟩ := inj2 h
    subst er; subst eG
    exact j_cret ok rfl hz5 dJ0_charAt_5068e_15 hK

def fJ0_charAt_5068e (l0 : Nat) (l1 : Int32) (G : Mem) : Option (Int32 × Mem) := fJ0_charAt_5068e_0 l0 l1 G
set_option maxRecDepth 100000 in
theorem tJ0_charAt_5068e {l : Launch} (hfl : l.stackTraces = false) (V : Wd) (l0 : Nat) (l1 : Int32) (G : Mem) {r : Int32} {G' : Mem} (h : fJ0_charAt_5068e l0 l1 G = some (r, G')) : Mx l yJ0_charAt_5068e cJ0_charAt_5068e 2 (some .char) 3 64 V [.ref (V.sa l0), .int l1] G (.inl (some (.int r))) G' :=
  mx_of (L := [(0, .ref (V.sa l0)), (1, .int l1)]) hfl (by decide +kernel) (Nat.le_of_ble_eq_true rfl) rfl (fun X hl hV hin ok he => by
    subst hl; subst hV
    exact J.sub [0, 1] rfl (jJ0_charAt_5068e_0 ok l0 l1 G h he))
def fJ0_charAt_5068eh_0 (l0 : Nat) (l1 : Int32)  (G : Mem) : Option (Int32 × Mem) :=
  ck G 17 l0 <| (fJ0_isLatin1_aae02h l0 G).bind fun q1 =>
  if q1.1 = (0 : Int32) then
    (gR q1.2 17 l0 0).bind fun v3 =>
    none
  else
    (gR q1.2 17 l0 0).bind fun v3 =>
    (fJ1_charAt_3b067h v3 l1 q1.2).bind fun q4 =>
    rc q4.1 <|
    some (q4.1, q4.2)

set_option maxRecDepth 100000 in
set_option maxHeartbeats 4000000 in
theorem jJ0_charAt_5068eh_0 {X : Cx} (ok : OK X cJ0_charAt_5068e RJ0 (some .char) 2 3 64) (l0 : Nat) (l1 : Int32)  (G : Mem) {r : Int32} {G' : Mem} (h : fJ0_charAt_5068eh_0 l0 l1 G = some (r, G')) (hK : (finI X) r G') : J X 2 0 [(0, .ref (X.B + l0)), (1, .int l1)] [] G := by
  unfold fJ0_charAt_5068eh_0 at h
  refine j_aload_n ok dJ0_charAt_5068e_0 rfl 0 rfl ?_
  obtain ⟨kq1, h⟩ := ck_some h
  obtain ⟨q1, hq1, h⟩ := obind h
  refine k_V1 ok klh_J0_492 ⟨Nat.le_of_ble_eq_true rfl, Nat.le_of_ble_eq_true rfl⟩ [] kq1 rfl rfl (Nat.le_of_ble_eq_true rfl) (tJ0_isLatin1_aae02h ok.fl X.V l0 G hq1) dJ0_charAt_5068e_1 ?_
  rcases ite_some h with ⟨c2, h⟩ | ⟨c2, h⟩
  · refine j_if_eq (tgt := 16) ok dJ0_charAt_5068e_4 (by decide) (fun _ => ?_) (fun z => absurd c2 z)
    refine j_aload_n ok dJ0_charAt_5068e_16 rfl 0 rfl ?_
    obtain ⟨v3, hv3, h⟩ := obind h
    refine k_getR ok fl_J0_9 hv3 dJ0_charAt_5068e_17 ?_
    refine j_iload_n ok dJ0_charAt_5068e_20 rfl 1 rfl ?_
    cases h
  · refine j_if_eq (tgt := 16) ok dJ0_charAt_5068e_4 (by decide) (fun z => absurd z c2) (fun _ => ?_)
    refine j_aload_n ok dJ0_charAt_5068e_7 rfl 0 rfl ?_
    obtain ⟨v3, hv3, h⟩ := obind h
    refine k_getR ok fl_J0_9 hv3 dJ0_charAt_5068e_8 ?_
    refine j_iload_n ok dJ0_charAt_5068e_11 rfl 1 rfl ?_
    obtain ⟨q4, hq4, h⟩ := obind h
    refine k_S1 ok kl_J0_495 ⟨Nat.le_of_ble_eq_true rfl, Nat.le_of_ble_eq_true rfl⟩ [.ref (X.B + v3), .int l1] rfl rfl (Nat.le_of_ble_eq_true rfl) (tJ1_charAt_3b067h ok.fl X.V v3 l1 q1.2 hq4) dJ0_charAt_5068e_12 ?_
    obtain ⟨hz5, h⟩ := rc_some h
    obtain ⟨er, eG⟩ := inj2 h
    subst er; subst eG
    exact j_cret ok rfl hz5 dJ0_charAt_5068e_15 hK

def fJ0_charAt_5068eh (l0 : Nat) (l1 : Int32) (G : Mem) : Option (Int32 × Mem) := fJ0_charAt_5068eh_0 l0 l1 G
set_option maxRecDepth 100000 in
theorem tJ0_charAt_5068eh {l : Launch} (hfl : l.stackTraces = false) (V : Wd) (l0 : Nat) (l1 : Int32) (G : Mem) {r : Int32} {G' : Mem} (h : fJ0_charAt_5068eh l0 l1 G = some (r, G')) : Mx l yJ0_charAt_5068e cJ0_charAt_5068e 2 (some .char) 3 64 V [.ref (V.B + l0), .int l1] G (.inl (some (.int r))) G' :=
  mx_of (L := [(0, .ref (V.B + l0)), (1, .int l1)]) hfl (by decide +kernel) (Nat.le_of_ble_eq_true rfl) rfl (fun X hl hV hin ok he => by
    subst hl; subst hV
    exact J.sub [0, 1] rfl (jJ0_charAt_5068eh_0 ok l0 l1 G h he))
def fJ0_coder_7d493_14  (s0 : Int32) (G : Mem) : Option (Int32 × Mem) :=
  rz s0 <|
  some (s0, G)

set_option maxRecDepth 100000 in
set_option maxHeartbeats 4000000 in
theorem jJ0_coder_7d493_14 {X : Cx} (ok : OK X cJ0_coder_7d493 RJ0 (some .byte) 1 0 0)  (s0 : Int32) (G : Mem) {r : Int32} {G' : Mem} (h : fJ0_coder_7d493_14 s0 G = some (r, G')) (hK : (finI X) r G') : J X 1 14 [] [.int s0] G := by
  unfold fJ0_coder_7d493_14 at h
  obtain ⟨hz1, h⟩ := rz_some h
  obtain ⟨er, eG⟩ := inj2 h
  subst er; subst eG
  exact j_bret ok rfl hz1 dJ0_coder_7d493_14 hK

def fJ0_coder_7d493_0 (l0 : Nat)  (G : Mem) : Option (Int32 × Mem) :=
  if (1 : Int32) = (0 : Int32) then
    fJ0_coder_7d493_14 (1 : Int32) G
  else
    ckS l0 <|
    fJ0_coder_7d493_14 (0 : Int32) G

set_option maxRecDepth 100000 in
set_option maxHeartbeats 4000000 in
theorem jJ0_coder_7d493_0 {X : Cx} (ok : OK X cJ0_coder_7d493 RJ0 (some .byte) 1 0 0) (l0 : Nat)  (G : Mem) {r : Int32} {G' : Mem} (h : fJ0_coder_7d493_0 l0 G = some (r, G')) (hK : (finI X) r G') : J X 1 0 [(0, .ref (X.V.sa l0))] [] G := by
  unfold fJ0_coder_7d493_0 at h
  refine k_gets1 ok wf_J0_38 dJ0_coder_7d493_0 ?_
  rcases ite_some h with ⟨c1, h⟩ | ⟨c1, h⟩
  · refine j_if_eq (tgt := 13) ok dJ0_coder_7d493_3 (by decide) (fun _ => ?_) (fun z => absurd c1 z)
    refine j_iconst (v := 1) ok dJ0_coder_7d493_13 (by decide) ?_
    exact J.sub [] rfl (jJ0_coder_7d493_14 ok (1 : Int32) G h hK)
  · refine j_if_eq (tgt := 13) ok dJ0_coder_7d493_3 (by decide) (fun z => absurd z c1) (fun _ => ?_)
    refine j_aload_n ok dJ0_coder_7d493_6 rfl 0 rfl ?_
    obtain ⟨hs2, h⟩ := ckS_some h
    refine k_scod ok hs2 wf_J0_15 dJ0_coder_7d493_7 ?_
    refine j_goto (tgt := 14) ok dJ0_coder_7d493_10 (by decide) ?_
    exact J.sub [] rfl (jJ0_coder_7d493_14 ok (0 : Int32) G h hK)

def fJ0_coder_7d493 (l0 : Nat) (G : Mem) : Option (Int32 × Mem) := fJ0_coder_7d493_0 l0 G
set_option maxRecDepth 100000 in
theorem tJ0_coder_7d493 {l : Launch} (hfl : l.stackTraces = false) (V : Wd) (l0 : Nat) (G : Mem) {r : Int32} {G' : Mem} (h : fJ0_coder_7d493 l0 G = some (r, G')) : Mx l yJ0_coder_7d493 cJ0_coder_7d493 1 (some .byte) 0 0 V [.ref (V.sa l0)] G (.inl (some (.int r))) G' :=
  mx_of (L := [(0, .ref (V.sa l0))]) hfl (by decide +kernel) (Nat.le_of_ble_eq_true rfl) rfl (fun X hl hV hin ok he => by
    subst hl; subst hV
    exact J.sub [0] rfl (jJ0_coder_7d493_0 ok l0 G h he))
def fJ0_coder_7d493h_14  (s0 : Int32) (G : Mem) : Option (Int32 × Mem) :=
  rz s0 <|
  some (s0, G)

set_option maxRecDepth 100000 in
set_option maxHeartbeats 4000000 in
theorem jJ0_coder_7d493h_14 {X : Cx} (ok : OK X cJ0_coder_7d493 RJ0 (some .byte) 1 0 0)  (s0 : Int32) (G : Mem) {r : Int32} {G' : Mem} (h : fJ0_coder_7d493h_14 s0 G = some (r, G')) (hK : (finI X) r G') : J X 1 14 [] [.int s0] G := by
  unfold fJ0_coder_7d493h_14 at h
  obtain ⟨hz1, h⟩ := rz_some h
  obtain ⟨er, eG⟩ := inj2 h
  subst er; subst eG
  exact j_bret ok rfl hz1 dJ0_coder_7d493_14 hK

def fJ0_coder_7d493h_0 (l0 : Nat)  (G : Mem) : Option (Int32 × Mem) :=
  if (1 : Int32) = (0 : Int32) then
    fJ0_coder_7d493h_14 (1 : Int32) G
  else
    (gF G 17 l0 1).bind fun v2 =>
    fJ0_coder_7d493h_14 v2 G

set_option maxRecDepth 100000 in
set_option maxHeartbeats 4000000 in
theorem jJ0_coder_7d493h_0 {X : Cx} (ok : OK X cJ0_coder_7d493 RJ0 (some .byte) 1 0 0) (l0 : Nat)  (G : Mem) {r : Int32} {G' : Mem} (h : fJ0_coder_7d493h_0 l0 G = some (r, G')) (hK : (finI X) r G') : J X 1 0 [(0, .ref (X.B + l0))] [] G := by
  unfold fJ0_coder_7d493h_0 at h
  refine k_gets1 ok wf_J0_38 dJ0_coder_7d493_0 ?_
  rcases ite_some h with ⟨c1, h⟩ | ⟨c1, h⟩
  · refine j_if_eq (tgt := 13) ok dJ0_coder_7d493_3 (by decide) (fun _ => ?_) (fun z => absurd c1 z)
    refine j_iconst (v := 1) ok dJ0_coder_7d493_13 (by decide) ?_
    exact J.sub [] rfl (jJ0_coder_7d493h_14 ok (1 : Int32) G h hK)
  · refine j_if_eq (tgt := 13) ok dJ0_coder_7d493_3 (by decide) (fun z => absurd z c1) (fun _ => ?_)
    refine j_aload_n ok dJ0_coder_7d493_6 rfl 0 rfl ?_
    obtain ⟨v2, hv2, h⟩ := obind h
    refine k_getI ok fl_J0_15 hv2 dJ0_coder_7d493_7 ?_
    refine j_goto (tgt := 14) ok dJ0_coder_7d493_10 (by decide) ?_
    exact J.sub [] rfl (jJ0_coder_7d493h_14 ok v2 G h hK)

def fJ0_coder_7d493h (l0 : Nat) (G : Mem) : Option (Int32 × Mem) := fJ0_coder_7d493h_0 l0 G
set_option maxRecDepth 100000 in
theorem tJ0_coder_7d493h {l : Launch} (hfl : l.stackTraces = false) (V : Wd) (l0 : Nat) (G : Mem) {r : Int32} {G' : Mem} (h : fJ0_coder_7d493h l0 G = some (r, G')) : Mx l yJ0_coder_7d493 cJ0_coder_7d493 1 (some .byte) 0 0 V [.ref (V.B + l0)] G (.inl (some (.int r))) G' :=
  mx_of (L := [(0, .ref (V.B + l0))]) hfl (by decide +kernel) (Nat.le_of_ble_eq_true rfl) rfl (fun X hl hV hin ok he => by
    subst hl; subst hV
    exact J.sub [0] rfl (jJ0_coder_7d493h_0 ok l0 G h he))
def fJ0_getBytes_840e7_0 (l0 : Nat) (l1 : Nat) (l2 : Int32) (l3 : Int32)  (G : Mem) : Option (Unit × Mem) :=
  ckS l0 <| (fJ0_coder_7d493 l0 G).bind fun q1 =>
  if q1.1 = l3 then
    ckS l0 <|
    ckS l0 <|
    (slen l0).bind fun v5 =>
    (cpS q1.2 l0 (0 : Int32) l1 (l2 <<< (l3 &&& 31)) v5).bind fun G6 =>
    some ((), G6)
  else
    ckS l0 <|
    ckS l0 <|
    (slen l0).bind fun v5 =>
    none

set_option maxRecDepth 100000 in
set_option maxHeartbeats 4000000 in
theorem jJ0_getBytes_840e7_0 {X : Cx} (ok : OK X cJ0_getBytes_840e7 RJ0 none 4 1 120) (l0 : Nat) (l1 : Nat) (l2 : Int32) (l3 : Int32)  (G : Mem) {r : Unit} {G' : Mem} (h : fJ0_getBytes_840e7_0 l0 l1 l2 l3 G = some (r, G')) (hK : (finV X) r G') : J X 4 0 [(0, .ref (X.V.sa l0)), (1, .ref (X.B + l1)), (2, .int l2), (3, .int l3)] [] G := by
  unfold fJ0_getBytes_840e7_0 at h
  refine j_aload_n ok dJ0_getBytes_840e7_0 rfl 0 rfl ?_
  obtain ⟨kq1, h⟩ := ckS_some h
  obtain ⟨q1, hq1, h⟩ := obind h
  refine k_T1 ok kl_J0_335 ⟨Nat.le_of_ble_eq_true rfl, Nat.le_of_ble_eq_true rfl⟩ [] kq1 rfl rfl (Nat.le_of_ble_eq_true rfl) (tJ0_coder_7d493 ok.fl X.V l0 G hq1) dJ0_getBytes_840e7_1 ?_
  refine j_iload_n ok dJ0_getBytes_840e7_4 rfl 3 rfl ?_
  rcases ite_some h with ⟨c2, h⟩ | ⟨c2, h⟩
  · refine j_icmp_ne (tgt := 28) ok dJ0_getBytes_840e7_5 (by decide) (fun z => absurd c2 z) (fun _ => ?_)
    refine j_aload_n ok dJ0_getBytes_840e7_8 rfl 0 rfl ?_
    obtain ⟨hs3, h⟩ := ckS_some h
    refine k_sval ok hs3 wf_J0_9 dJ0_getBytes_840e7_9 ?_
    refine j_iconst (v := 0) ok dJ0_getBytes_840e7_12 (by decide) ?_
    refine j_aload_n ok dJ0_getBytes_840e7_13 rfl 1 rfl ?_
    refine j_iload_n ok dJ0_getBytes_840e7_14 rfl 2 rfl ?_
    refine j_iload_n ok dJ0_getBytes_840e7_15 rfl 3 rfl ?_
    refine j_ishl ok dJ0_getBytes_840e7_16 ?_
    refine j_aload_n ok dJ0_getBytes_840e7_17 rfl 0 rfl ?_
    obtain ⟨hs4, h⟩ := ckS_some h
    refine k_sval ok hs4 wf_J0_9 dJ0_getBytes_840e7_18 ?_
    obtain ⟨v5, hv5, h⟩ := obind h
    refine k_salen ok hv5 dJ0_getBytes_840e7_21 ?_
    obtain ⟨G6, hG6, h⟩ := obind h
    refine k_cpS ok wm_J0_212 (Nat.le_of_ble_eq_true rfl) (Nat.le_of_ble_eq_true rfl) (Nat.le_of_ble_eq_true rfl) hG6 dJ0_getBytes_840e7_22 ?_
    refine j_goto (tgt := 43) ok dJ0_getBytes_840e7_25 (by decide) ?_
    obtain ⟨er, eG⟩ := inj2 h
    subst er; subst eG
    exact j_vret ok rfl dJ0_getBytes_840e7_43 hK
  · refine j_icmp_ne (tgt := 28) ok dJ0_getBytes_840e7_5 (by decide) (fun _ => ?_) (fun z => absurd z c2)
    refine j_aload_n ok dJ0_getBytes_840e7_28 rfl 0 rfl ?_
    obtain ⟨hs3, h⟩ := ckS_some h
    refine k_sval ok hs3 wf_J0_9 dJ0_getBytes_840e7_29 ?_
    refine j_iconst (v := 0) ok dJ0_getBytes_840e7_32 (by decide) ?_
    refine j_aload_n ok dJ0_getBytes_840e7_33 rfl 1 rfl ?_
    refine j_iload_n ok dJ0_getBytes_840e7_34 rfl 2 rfl ?_
    refine j_aload_n ok dJ0_getBytes_840e7_35 rfl 0 rfl ?_
    obtain ⟨hs4, h⟩ := ckS_some h
    refine k_sval ok hs4 wf_J0_9 dJ0_getBytes_840e7_36 ?_
    obtain ⟨v5, hv5, h⟩ := obind h
    refine k_salen ok hv5 dJ0_getBytes_840e7_39 ?_
    cases h

def fJ0_getBytes_840e7 (l0 : Nat) (l1 : Nat) (l2 : Int32) (l3 : Int32) (G : Mem) : Option (Unit × Mem) := fJ0_getBytes_840e7_0 l0 l1 l2 l3 G
set_option maxRecDepth 100000 in
theorem tJ0_getBytes_840e7 {l : Launch} (hfl : l.stackTraces = false) (V : Wd) (l0 : Nat) (l1 : Nat) (l2 : Int32) (l3 : Int32) (G : Mem) {r : Unit} {G' : Mem} (h : fJ0_getBytes_840e7 l0 l1 l2 l3 G = some (r, G')) : Mx l yJ0_getBytes_840e7 cJ0_getBytes_840e7 4 none 1 120 V [.ref (V.sa l0), .ref (V.B + l1), .int l2, .int l3] G (.inl none) G' :=
  mx_of (L := [(0, .ref (V.sa l0)), (1, .ref (V.B + l1)), (2, .int l2), (3, .int l3)]) hfl (by decide +kernel) (Nat.le_of_ble_eq_true rfl) rfl (fun X hl hV hin ok he => by
    subst hl; subst hV
    exact J.sub [0, 1, 2, 3] rfl (jJ0_getBytes_840e7_0 ok l0 l1 l2 l3 G h he))
def fJ5_getValue_6d5f1_0 (l0 : Nat)  (G : Mem) : Option (Nat × Mem) :=
  (gR G 18 l0 0).bind fun v1 =>
  some (v1, G)

set_option maxRecDepth 100000 in
set_option maxHeartbeats 4000000 in
theorem jJ5_getValue_6d5f1_0 {X : Cx} (ok : OK X cJ5_getValue_6d5f1 RJ5 (some (.array .byte)) 1 0 0) (l0 : Nat)  (G : Mem) {r : Nat} {G' : Mem} (h : fJ5_getValue_6d5f1_0 l0 G = some (r, G')) (hK : (finR X) r G') : J X 1 0 [(0, .ref (X.B + l0))] [] G := by
  unfold fJ5_getValue_6d5f1_0 at h
  refine j_aload_n ok dJ5_getValue_6d5f1_0 rfl 0 rfl ?_
  obtain ⟨v1, hv1, h⟩ := obind h
  refine k_getR ok fl_J5_15 hv1 dJ5_getValue_6d5f1_1 ?_
  obtain ⟨er, eG⟩ := inj2 h
  subst er; subst eG
  exact j_aret ok rfl (Or.inr ⟨_, rfl⟩) dJ5_getValue_6d5f1_4 hK

def fJ5_getValue_6d5f1 (l0 : Nat) (G : Mem) : Option (Nat × Mem) := fJ5_getValue_6d5f1_0 l0 G
set_option maxRecDepth 100000 in
theorem tJ5_getValue_6d5f1 {l : Launch} (hfl : l.stackTraces = false) (V : Wd) (l0 : Nat) (G : Mem) {r : Nat} {G' : Mem} (h : fJ5_getValue_6d5f1 l0 G = some (r, G')) : Mx l yJ5_getValue_6d5f1 cJ5_getValue_6d5f1 1 (some (.array .byte)) 0 0 V [.ref (V.B + l0)] G (.inl (some (.ref (V.B + r)))) G' :=
  mx_of (L := [(0, .ref (V.B + l0))]) hfl (by decide +kernel) (Nat.le_of_ble_eq_true rfl) rfl (fun X hl hV hin ok he => by
    subst hl; subst hV
    exact J.sub [0] rfl (jJ5_getValue_6d5f1_0 ok l0 G h he))
def fJ5_length_8abf5_0 (l0 : Nat)  (G : Mem) : Option (Int32 × Mem) :=
  (gF G 18 l0 3).bind fun v1 =>
  some (v1, G)

set_option maxRecDepth 100000 in
set_option maxHeartbeats 4000000 in
theorem jJ5_length_8abf5_0 {X : Cx} (ok : OK X cJ5_length_8abf5 RJ5 (some .int) 1 0 0) (l0 : Nat)  (G : Mem) {r : Int32} {G' : Mem} (h : fJ5_length_8abf5_0 l0 G = some (r, G')) (hK : (finI X) r G') : J X 1 0 [(0, .ref (X.B + l0))] [] G := by
  unfold fJ5_length_8abf5_0 at h
  refine j_aload_n ok dJ5_length_8abf5_0 rfl 0 rfl ?_
  obtain ⟨v1, hv1, h⟩ := obind h
  refine k_getI ok fl_J5_79 hv1 dJ5_length_8abf5_1 ?_
  obtain ⟨er, eG⟩ := inj2 h
  subst er; subst eG
  exact j_iret ok rfl dJ5_length_8abf5_4 hK

def fJ5_length_8abf5 (l0 : Nat) (G : Mem) : Option (Int32 × Mem) := fJ5_length_8abf5_0 l0 G
set_option maxRecDepth 100000 in
theorem tJ5_length_8abf5 {l : Launch} (hfl : l.stackTraces = false) (V : Wd) (l0 : Nat) (G : Mem) {r : Int32} {G' : Mem} (h : fJ5_length_8abf5 l0 G = some (r, G')) : Mx l yJ5_length_8abf5 cJ5_length_8abf5 1 (some .int) 0 0 V [.ref (V.B + l0)] G (.inl (some (.int r))) G' :=
  mx_of (L := [(0, .ref (V.B + l0))]) hfl (by decide +kernel) (Nat.le_of_ble_eq_true rfl) rfl (fun X hl hV hin ok he => by
    subst hl; subst hV
    exact J.sub [0] rfl (jJ5_length_8abf5_0 ok l0 G h he))
def fJ4_length_8abf5_0 (l0 : Nat)  (G : Mem) : Option (Int32 × Mem) :=
  ck G 18 l0 <| (fJ5_length_8abf5 l0 G).bind fun q1 =>
  some (q1.1, q1.2)

set_option maxRecDepth 100000 in
set_option maxHeartbeats 4000000 in
theorem jJ4_length_8abf5_0 {X : Cx} (ok : OK X cJ4_length_8abf5 RJ4 (some .int) 1 1 20) (l0 : Nat)  (G : Mem) {r : Int32} {G' : Mem} (h : fJ4_length_8abf5_0 l0 G = some (r, G')) (hK : (finI X) r G') : J X 1 0 [(0, .ref (X.B + l0))] [] G := by
  unfold fJ4_length_8abf5_0 at h
  refine j_aload_n ok dJ4_length_8abf5_0 rfl 0 rfl ?_
  obtain ⟨kq1, h⟩ := ck_some h
  obtain ⟨q1, hq1, h⟩ := obind h
  refine k_P1 ok kl_J4_343 ⟨Nat.le_of_ble_eq_true rfl, Nat.le_of_ble_eq_true rfl⟩ [] kq1 rfl rfl (Nat.le_of_ble_eq_true rfl) (tJ5_length_8abf5 ok.fl X.V l0 G hq1) dJ4_length_8abf5_1 ?_
  obtain ⟨er, eG⟩ := inj2 h
  subst er; subst eG
  exact j_iret ok rfl dJ4_length_8abf5_4 hK

def fJ4_length_8abf5 (l0 : Nat) (G : Mem) : Option (Int32 × Mem) := fJ4_length_8abf5_0 l0 G
set_option maxRecDepth 100000 in
theorem tJ4_length_8abf5 {l : Launch} (hfl : l.stackTraces = false) (V : Wd) (l0 : Nat) (G : Mem) {r : Int32} {G' : Mem} (h : fJ4_length_8abf5 l0 G = some (r, G')) : Mx l yJ4_length_8abf5 cJ4_length_8abf5 1 (some .int) 1 20 V [.ref (V.B + l0)] G (.inl (some (.int r))) G' :=
  mx_of (L := [(0, .ref (V.B + l0))]) hfl (by decide +kernel) (Nat.le_of_ble_eq_true rfl) rfl (fun X hl hV hin ok he => by
    subst hl; subst hV
    exact J.sub [0] rfl (jJ4_length_8abf5_0 ok l0 G h he))
def fJ5_isLatin1_aae02_18  (s0 : Int32) (G : Mem) : Option (Int32 × Mem) :=
  rz s0 <|
  some (s0, G)

set_option maxRecDepth 100000 in
set_option maxHeartbeats 4000000 in
theorem jJ5_isLatin1_aae02_18 {X : Cx} (ok : OK X cJ5_isLatin1_aae02 RJ5 (some .boolean) 1 0 0)  (s0 : Int32) (G : Mem) {r : Int32} {G' : Mem} (h : fJ5_isLatin1_aae02_18 s0 G = some (r, G')) (hK : (finI X) r G') : J X 1 18 [] [.int s0] G := by
  unfold fJ5_isLatin1_aae02_18 at h
  obtain ⟨hz1, h⟩ := rz_some h
  obtain ⟨er, eG⟩ := inj2 h
  subst er; subst eG
  exact j_zret ok rfl hz1 dJ5_isLatin1_aae02_18 hK

def fJ5_isLatin1_aae02_17   (G : Mem) : Option (Int32 × Mem) :=
  fJ5_isLatin1_aae02_18 (0 : Int32) G

set_option maxRecDepth 100000 in
set_option maxHeartbeats 4000000 in
theorem jJ5_isLatin1_aae02_17 {X : Cx} (ok : OK X cJ5_isLatin1_aae02 RJ5 (some .boolean) 1 0 0)   (G : Mem) {r : Int32} {G' : Mem} (h : fJ5_isLatin1_aae02_17  G = some (r, G')) (hK : (finI X) r G') : J X 1 17 [] [] G := by
  unfold fJ5_isLatin1_aae02_17 at h
  refine j_iconst (v := 0) ok dJ5_isLatin1_aae02_17 (by decide) ?_
  exact J.sub [] rfl (jJ5_isLatin1_aae02_18 ok (0 : Int32) G h hK)

def fJ5_isLatin1_aae02_0 (l0 : Nat)  (G : Mem) : Option (Int32 × Mem) :=
  if (1 : Int32) = (0 : Int32) then
    fJ5_isLatin1_aae02_17 G
  else
    (gF G 18 l0 1).bind fun v2 =>
    if v2 = (0 : Int32) then
      fJ5_isLatin1_aae02_18 (1 : Int32) G
    else
      fJ5_isLatin1_aae02_17 G

set_option maxRecDepth 100000 in
set_option maxHeartbeats 4000000 in
theorem jJ5_isLatin1_aae02_0 {X : Cx} (ok : OK X cJ5_isLatin1_aae02 RJ5 (some .boolean) 1 0 0) (l0 : Nat)  (G : Mem) {r : Int32} {G' : Mem} (h : fJ5_isLatin1_aae02_0 l0 G = some (r, G')) (hK : (finI X) r G') : J X 1 0 [(0, .ref (X.B + l0))] [] G := by
  unfold fJ5_isLatin1_aae02_0 at h
  refine k_gets1 ok wf_J5_18 dJ5_isLatin1_aae02_0 ?_
  rcases ite_some h with ⟨c1, h⟩ | ⟨c1, h⟩
  · refine j_if_eq (tgt := 17) ok dJ5_isLatin1_aae02_3 (by decide) (fun _ => ?_) (fun z => absurd c1 z)
    exact J.sub [] rfl (jJ5_isLatin1_aae02_17 ok G h hK)
  · refine j_if_eq (tgt := 17) ok dJ5_isLatin1_aae02_3 (by decide) (fun z => absurd z c1) (fun _ => ?_)
    refine j_aload_n ok dJ5_isLatin1_aae02_6 rfl 0 rfl ?_
    obtain ⟨v2, hv2, h⟩ := obind h
    refine k_getI ok fl_J5_22 hv2 dJ5_isLatin1_aae02_7 ?_
    rcases ite_some h with ⟨c3, h⟩ | ⟨c3, h⟩
    · refine j_if_ne (tgt := 17) ok dJ5_isLatin1_aae02_10 (by decide) (fun z => absurd c3 z) (fun _ => ?_)
      refine j_iconst (v := 1) ok dJ5_isLatin1_aae02_13 (by decide) ?_
      refine j_goto (tgt := 18) ok dJ5_isLatin1_aae02_14 (by decide) ?_
      exact J.sub [] rfl (jJ5_isLatin1_aae02_18 ok (1 : Int32) G h hK)
    · refine j_if_ne (tgt := 17) ok dJ5_isLatin1_aae02_10 (by decide) (fun _ => ?_) (fun z => absurd z c3)
      exact J.sub [] rfl (jJ5_isLatin1_aae02_17 ok G h hK)

def fJ5_isLatin1_aae02 (l0 : Nat) (G : Mem) : Option (Int32 × Mem) := fJ5_isLatin1_aae02_0 l0 G
set_option maxRecDepth 100000 in
theorem tJ5_isLatin1_aae02 {l : Launch} (hfl : l.stackTraces = false) (V : Wd) (l0 : Nat) (G : Mem) {r : Int32} {G' : Mem} (h : fJ5_isLatin1_aae02 l0 G = some (r, G')) : Mx l yJ5_isLatin1_aae02 cJ5_isLatin1_aae02 1 (some .boolean) 0 0 V [.ref (V.B + l0)] G (.inl (some (.int r))) G' :=
  mx_of (L := [(0, .ref (V.B + l0))]) hfl (by decide +kernel) (Nat.le_of_ble_eq_true rfl) rfl (fun X hl hV hin ok he => by
    subst hl; subst hV
    exact J.sub [0] rfl (jJ5_isLatin1_aae02_0 ok l0 G h he))
def fJ7_checkLength_df160_0 (l0 : Int32) (l1 : Int32)  (G : Mem) : Option (Unit × Mem) :=
  if l0 ≤ l1 then
    some ((), G)
  else
    none

set_option maxRecDepth 100000 in
set_option maxHeartbeats 4000000 in
theorem jJ7_checkLength_df160_0 {X : Cx} (ok : OK X cJ7_checkLength_df160 RJ7 none 2 0 0) (l0 : Int32) (l1 : Int32)  (G : Mem) {r : Unit} {G' : Mem} (h : fJ7_checkLength_df160_0 l0 l1 G = some (r, G')) (hK : (finV X) r G') : J X 2 0 [(0, .int l0), (1, .int l1)] [] G := by
  unfold fJ7_checkLength_df160_0 at h
  refine j_iload_n ok dJ7_checkLength_df160_0 rfl 1 rfl ?_
  refine j_iload_n ok dJ7_checkLength_df160_1 rfl 0 rfl ?_
  rcases ite_some h with ⟨c1, h⟩ | ⟨c1, h⟩
  · refine j_icmp_ge (tgt := 37) ok dJ7_checkLength_df160_2 (by decide) (fun _ => ?_) (fun z => absurd c1 z)
    obtain ⟨er, eG⟩ := inj2 h
    subst er; subst eG
    exact j_vret ok rfl dJ7_checkLength_df160_37 hK
  · refine j_icmp_ge (tgt := 37) ok dJ7_checkLength_df160_2 (by decide) (fun z => absurd z c1) (fun _ => ?_)
    cases h

def fJ7_checkLength_df160 (l0 : Int32) (l1 : Int32) (G : Mem) : Option (Unit × Mem) := fJ7_checkLength_df160_0 l0 l1 G
set_option maxRecDepth 100000 in
theorem tJ7_checkLength_df160 {l : Launch} (hfl : l.stackTraces = false) (V : Wd) (l0 : Int32) (l1 : Int32) (G : Mem) {r : Unit} {G' : Mem} (h : fJ7_checkLength_df160 l0 l1 G = some (r, G')) : Mx l yJ7_checkLength_df160 cJ7_checkLength_df160 2 none 0 0 V [.int l0, .int l1] G (.inl none) G' :=
  mx_of (L := [(0, .int l0), (1, .int l1)]) hfl (by decide +kernel) (Nat.le_of_ble_eq_true rfl) rfl (fun X hl hV hin ok he => by
    subst hl; subst hV
    exact J.sub [0, 1] rfl (jJ7_checkLength_df160_0 ok l0 l1 G h he))
def fJ7_copyOfRangeByte_39247_0 (l0 : Nat) (l1 : Int32) (l2 : Int32)  (G : Mem) : Option (Nat × Mem) :=
  (fJ7_checkLength_df160 l1 l2 G).bind fun q1 =>
  (nA q1.2 2 (l2 - l1)).bind fun q2 =>
  (gL q2.2 l0).bind fun v3 =>
  (cpB q2.2 l0 l1 q2.1 (0 : Int32) (if (l2 - l1) < (v3 - l1) then (l2 - l1) else (v3 - l1))).bind fun G4 =>
  some (q2.1, G4)

set_option maxRecDepth 100000 in
set_option maxHeartbeats 4000000 in
theorem jJ7_copyOfRangeByte_39247_0 {X : Cx} (ok : OK X cJ7_copyOfRangeByte_39247 RJ7 (some (.array .byte)) 5 1 120) (l0 : Nat) (l1 : Int32) (l2 : Int32)  (G : Mem) {r : Nat} {G' : Mem} (h : fJ7_copyOfRangeByte_39247_0 l0 l1 l2 G = some (r, G')) (hK : (finR X) r G') : J X 5 0 [(0, .ref (X.B + l0)), (1, .int l1), (2, .int l2)] [] G := by
  unfold fJ7_copyOfRangeByte_39247_0 at h
  refine j_iload_n ok dJ7_copyOfRangeByte_39247_0 rfl 1 rfl ?_
  refine j_iload_n ok dJ7_copyOfRangeByte_39247_1 rfl 2 rfl ?_
  obtain ⟨q1, hq1, h⟩ := obind h
  refine k_S0 ok kl_J7_343 ⟨Nat.le_of_ble_eq_true rfl, Nat.le_of_ble_eq_true rfl⟩ [.int l1, .int l2] rfl rfl (Nat.le_of_ble_eq_true rfl) (tJ7_checkLength_df160 ok.fl X.V l1 l2 G hq1) dJ7_copyOfRangeByte_39247_2 ?_
  refine j_iload_n ok dJ7_copyOfRangeByte_39247_5 rfl 2 rfl ?_
  refine j_iload_n ok dJ7_copyOfRangeByte_39247_6 rfl 1 rfl ?_
  refine j_isub ok dJ7_copyOfRangeByte_39247_7 ?_
  refine j_istore_n (L' := [(3, .int (l2 - l1)), (0, .ref (X.B + l0)), (1, .int l1), (2, .int l2)]) ok dJ7_copyOfRangeByte_39247_8 rfl (by decide) rfl ?_
  refine j_iload_n ok dJ7_copyOfRangeByte_39247_9 rfl 0 rfl ?_
  obtain ⟨q2, hq2, h⟩ := obind h
  refine k_newaT ok (t := 2) (Or.inr (Or.inl ⟨rfl, rfl⟩)) wa_2 hq2 dJ7_copyOfRangeByte_39247_10 ?_
  refine j_astore (L' := [(4, .ref (X.B + q2.1)), (3, .int (l2 - l1)), (0, .ref (X.B + l0)), (1, .int l1), (2, .int l2)]) ok dJ7_copyOfRangeByte_39247_12 (by decide) rfl ?_
  refine j_aload_n ok dJ7_copyOfRangeByte_39247_14 rfl 2 rfl ?_
  refine j_iload_n ok dJ7_copyOfRangeByte_39247_15 rfl 3 rfl ?_
  refine j_aload ok dJ7_copyOfRangeByte_39247_16 0 rfl ?_
  refine j_iconst (v := 0) ok dJ7_copyOfRangeByte_39247_18 (by decide) ?_
  refine j_aload_n ok dJ7_copyOfRangeByte_39247_19 rfl 2 rfl ?_
  obtain ⟨v3, hv3, h⟩ := obind h
  refine j_alen ok hv3 dJ7_copyOfRangeByte_39247_20 ?_
  refine j_iload_n ok dJ7_copyOfRangeByte_39247_21 rfl 3 rfl ?_
  refine j_isub ok dJ7_copyOfRangeByte_39247_22 ?_
  refine j_iload_n ok dJ7_copyOfRangeByte_39247_23 rfl 1 rfl ?_
  refine k_mmin ok wm_J7_304 (Nat.le_of_ble_eq_true rfl) (Nat.le_of_ble_eq_true rfl) (Nat.le_of_ble_eq_true rfl) dJ7_copyOfRangeByte_39247_24 ?_
  obtain ⟨G4, hG4, h⟩ := obind h
  refine k_cpB ok wm_J7_150 (Nat.le_of_ble_eq_true rfl) (Nat.le_of_ble_eq_true rfl) (Nat.le_of_ble_eq_true rfl) hG4 dJ7_copyOfRangeByte_39247_27 ?_
  refine j_aload ok dJ7_copyOfRangeByte_39247_30 0 rfl ?_
  obtain ⟨er, eG⟩ := inj2 h
  subst er; subst eG
  exact j_aret ok rfl (Or.inr ⟨_, rfl⟩) dJ7_copyOfRangeByte_39247_32 hK

def fJ7_copyOfRangeByte_39247 (l0 : Nat) (l1 : Int32) (l2 : Int32) (G : Mem) : Option (Nat × Mem) := fJ7_copyOfRangeByte_39247_0 l0 l1 l2 G
set_option maxRecDepth 100000 in
theorem tJ7_copyOfRangeByte_39247 {l : Launch} (hfl : l.stackTraces = false) (V : Wd) (l0 : Nat) (l1 : Int32) (l2 : Int32) (G : Mem) {r : Nat} {G' : Mem} (h : fJ7_copyOfRangeByte_39247 l0 l1 l2 G = some (r, G')) : Mx l yJ7_copyOfRangeByte_39247 cJ7_copyOfRangeByte_39247 5 (some (.array .byte)) 1 120 V [.ref (V.B + l0), .int l1, .int l2] G (.inl (some (.ref (V.B + r)))) G' :=
  mx_of (L := [(0, .ref (V.B + l0)), (1, .int l1), (2, .int l2)]) hfl (by decide +kernel) (Nat.le_of_ble_eq_true rfl) rfl (fun X hl hV hin ok he => by
    subst hl; subst hV
    exact J.sub [0, 1, 2] rfl (jJ7_copyOfRangeByte_39247_0 ok l0 l1 l2 G h he))
def fJ7_copyOfRange_39247_10 (l0 : Nat) (l1 : Int32) (l2 : Int32)  (G : Mem) : Option (Nat × Mem) :=
  (fJ7_copyOfRangeByte_39247 l0 l1 l2 G).bind fun q1 =>
  some (q1.1, q1.2)

set_option maxRecDepth 100000 in
set_option maxHeartbeats 4000000 in
theorem jJ7_copyOfRange_39247_10 {X : Cx} (ok : OK X cJ7_copyOfRange_39247 RJ7 (some (.array .byte)) 3 2 144) (l0 : Nat) (l1 : Int32) (l2 : Int32)  (G : Mem) {r : Nat} {G' : Mem} (h : fJ7_copyOfRange_39247_10 l0 l1 l2 G = some (r, G')) (hK : (finR X) r G') : J X 3 10 [(0, .ref (X.B + l0)), (1, .int l1), (2, .int l2)] [] G := by
  unfold fJ7_copyOfRange_39247_10 at h
  refine j_aload_n ok dJ7_copyOfRange_39247_10 rfl 0 rfl ?_
  refine j_iload_n ok dJ7_copyOfRange_39247_11 rfl 1 rfl ?_
  refine j_iload_n ok dJ7_copyOfRange_39247_12 rfl 2 rfl ?_
  obtain ⟨q1, hq1, h⟩ := obind h
  refine k_S1 ok kl_J7_339 ⟨Nat.le_of_ble_eq_true rfl, Nat.le_of_ble_eq_true rfl⟩ [.ref (X.B + l0), .int l1, .int l2] rfl rfl (Nat.le_of_ble_eq_true rfl) (tJ7_copyOfRangeByte_39247 ok.fl X.V l0 l1 l2 G hq1) dJ7_copyOfRange_39247_13 ?_
  obtain ⟨er, eG⟩ := inj2 h
  subst er; subst eG
  exact j_aret ok rfl (Or.inr ⟨_, rfl⟩) dJ7_copyOfRange_39247_16 hK

def fJ7_copyOfRange_39247_0 (l0 : Nat) (l1 : Int32) (l2 : Int32)  (G : Mem) : Option (Nat × Mem) :=
  if l1 = (0 : Int32) then
    (gL G l0).bind fun v2 =>
    if l2 = v2 then
      none
    else
      fJ7_copyOfRange_39247_10 l0 l1 l2 G
  else
    fJ7_copyOfRange_39247_10 l0 l1 l2 G

set_option maxRecDepth 100000 in
set_option maxHeartbeats 4000000 in
theorem jJ7_copyOfRange_39247_0 {X : Cx} (ok : OK X cJ7_copyOfRange_39247 RJ7 (some (.array .byte)) 3 2 144) (l0 : Nat) (l1 : Int32) (l2 : Int32)  (G : Mem) {r : Nat} {G' : Mem} (h : fJ7_copyOfRange_39247_0 l0 l1 l2 G = some (r, G')) (hK : (finR X) r G') : J X 3 0 [(0, .ref (X.B + l0)), (1, .int l1), (2, .int l2)] [] G := by
  unfold fJ7_copyOfRange_39247_0 at h
  refine j_iload_n ok dJ7_copyOfRange_39247_0 rfl 1 rfl ?_
  rcases ite_some h with ⟨c1, h⟩ | ⟨c1, h⟩
  · refine j_if_ne (tgt := 10) ok dJ7_copyOfRange_39247_1 (by decide) (fun z => absurd c1 z) (fun _ => ?_)
    refine j_iload_n ok dJ7_copyOfRange_39247_4 rfl 2 rfl ?_
    refine j_aload_n ok dJ7_copyOfRange_39247_5 rfl 0 rfl ?_
    obtain ⟨v2, hv2, h⟩ := obind h
    refine j_alen ok hv2 dJ7_copyOfRange_39247_6 ?_
    rcases ite_some h with ⟨c3, h⟩ | ⟨c3, h⟩
    · refine j_icmp_eq (tgt := 17) ok dJ7_copyOfRange_39247_7 (by decide) (fun _ => ?_) (fun z => absurd c3 z)
      refine j_aload_n ok dJ7_copyOfRange_39247_17 rfl 0 rfl ?_
      cases h
    · refine j_icmp_eq (tgt := 17) ok dJ7_copyOfRange_39247_7 (by decide) (fun z => absurd z c3) (fun _ => ?_)
      exact J.sub [0, 1, 2] rfl (jJ7_copyOfRange_39247_10 ok l0 l1 l2 G h hK)
  · refine j_if_ne (tgt := 10) ok dJ7_copyOfRange_39247_1 (by decide) (fun _ => ?_) (fun z => absurd z c1)
    exact J.sub [0, 1, 2] rfl (jJ7_copyOfRange_39247_10 ok l0 l1 l2 G h hK)

def fJ7_copyOfRange_39247 (l0 : Nat) (l1 : Int32) (l2 : Int32) (G : Mem) : Option (Nat × Mem) := fJ7_copyOfRange_39247_0 l0 l1 l2 G
set_option maxRecDepth 100000 in
theorem tJ7_copyOfRange_39247 {l : Launch} (hfl : l.stackTraces = false) (V : Wd) (l0 : Nat) (l1 : Int32) (l2 : Int32) (G : Mem) {r : Nat} {G' : Mem} (h : fJ7_copyOfRange_39247 l0 l1 l2 G = some (r, G')) : Mx l yJ7_copyOfRange_39247 cJ7_copyOfRange_39247 3 (some (.array .byte)) 2 144 V [.ref (V.B + l0), .int l1, .int l2] G (.inl (some (.ref (V.B + r)))) G' :=
  mx_of (L := [(0, .ref (V.B + l0)), (1, .int l1), (2, .int l2)]) hfl (by decide +kernel) (Nat.le_of_ble_eq_true rfl) rfl (fun X hl hV hin ok he => by
    subst hl; subst hV
    exact J.sub [0, 1, 2] rfl (jJ7_copyOfRange_39247_0 ok l0 l1 l2 G h he))
def fJ0_init_db425_97   (G : Mem) : Option (Unit × Mem) :=
  some ((), G)

set_option maxRecDepth 100000 in
set_option maxHeartbeats 4000000 in
theorem jJ0_init_db425_97 {X : Cx} (ok : OK X cJ0_init_db425 RJ0 none 5 3 166) (hin : X.meth.name = "<init>")   (G : Mem) {r : Unit} {G' : Mem} (h : fJ0_init_db425_97  G = some (r, G')) (hK : (finV X) r G') : J X 5 97 [] [] G := by
  unfold fJ0_init_db425_97 at h
  obtain ⟨er, eG⟩ := inj2 h
  subst er; subst eG
  exact j_vret ok rfl dJ0_init_db425_97 hK

def fJ0_init_db425_79 (l0 : Nat) (l3 : Nat) (l4 : Int32)  (G : Mem) : Option (Unit × Mem) :=
  (pZ G 17 l0 1 (1 : Int32)).bind fun G1 =>
  (fJ7_copyOfRange_39247 l3 (0 : Int32) (l4 <<< ((1 : Int32) &&& 31)) G1).bind fun q2 =>
  (pR q2.2 17 l0 0 q2.1).bind fun G3 =>
  fJ0_init_db425_97 G3

set_option maxRecDepth 100000 in
set_option maxHeartbeats 4000000 in
theorem jJ0_init_db425_79 {X : Cx} (ok : OK X cJ0_init_db425 RJ0 none 5 3 166) (hin : X.meth.name = "<init>") (l0 : Nat) (l3 : Nat) (l4 : Int32)  (G : Mem) {r : Unit} {G' : Mem} (h : fJ0_init_db425_79 l0 l3 l4 G = some (r, G')) (hK : (finV X) r G') : J X 5 79 [(0, .ref (X.B + l0)), (3, .ref (X.B + l3)), (4, .int l4)] [] G := by
  unfold fJ0_init_db425_79 at h
  refine j_aload_n ok dJ0_init_db425_79 rfl 0 rfl ?_
  refine j_iconst (v := 1) ok dJ0_init_db425_80 (by decide) ?_
  obtain ⟨G1, hG1, h⟩ := obind h
  refine k_putB ok fl_J0_15 fp_X7 rfl (Or.inr ⟨rfl, hin, rfl⟩) hG1 dJ0_init_db425_81 ?_
  refine j_aload_n ok dJ0_init_db425_84 rfl 0 rfl ?_
  refine j_aload_n ok dJ0_init_db425_85 rfl 1 rfl ?_
  refine j_iconst (v := 0) ok dJ0_init_db425_86 (by decide) ?_
  refine j_iload ok dJ0_init_db425_87 2 rfl ?_
  refine j_iconst (v := 1) ok dJ0_init_db425_89 (by decide) ?_
  refine j_ishl ok dJ0_init_db425_90 ?_
  obtain ⟨q2, hq2, h⟩ := obind h
  refine k_S1 ok kl_J0_54 ⟨Nat.le_of_ble_eq_true rfl, Nat.le_of_ble_eq_true rfl⟩ [.ref (X.B + l3), .int (0 : Int32), .int (l4 <<< ((1 : Int32) &&& 31))] rfl rfl (Nat.le_of_ble_eq_true rfl) (tJ7_copyOfRange_39247 ok.fl X.V l3 (0 : Int32) (l4 <<< ((1 : Int32) &&& 31)) G1 hq2) dJ0_init_db425_91 ?_
  obtain ⟨G3, hG3, h⟩ := obind h
  refine k_putR ok fl_J0_9 fp_X7 rfl (Or.inr ⟨_, rfl⟩) (Or.inr ⟨rfl, hin, rfl⟩) hG3 dJ0_init_db425_94 ?_
  exact J.sub [] rfl (jJ0_init_db425_97 ok hin G3 h hK)

def fJ0_init_db425_0 (l0 : Nat) (l1 : Nat)  (G : Mem) : Option (Unit × Mem) :=
  ck G 18 l1 <| (fJ5_getValue_6d5f1 l1 G).bind fun q1 =>
  ck q1.2 18 l1 <| (fJ4_length_8abf5 l1 q1.2).bind fun q2 =>
  ck q2.2 18 l1 <| (fJ5_isLatin1_aae02 l1 q2.2).bind fun q3 =>
  if q3.1 = (0 : Int32) then
    if (1 : Int32) = (0 : Int32) then
      fJ0_init_db425_79 l0 q1.1 q2.1 q3.2
    else
      (gF q3.2 18 l1 2).bind fun v6 =>
      if v6 = (0 : Int32) then
        fJ0_init_db425_79 l0 q1.1 q2.1 q3.2
      else
        none
  else
    (pZ q3.2 17 l0 1 (0 : Int32)).bind fun G5 =>
    (fJ7_copyOfRange_39247 q1.1 (0 : Int32) q2.1 G5).bind fun q6 =>
    (pR q6.2 17 l0 0 q6.1).bind fun G7 =>
    fJ0_init_db425_97 G7

set_option maxRecDepth 100000 in
set_option maxHeartbeats 4000000 in
theorem jJ0_init_db425_0 {X : Cx} (ok : OK X cJ0_init_db425 RJ0 none 5 3 166) (hin : X.meth.name = "<init>") (l0 : Nat) (l1 : Nat)  (G : Mem) {r : Unit} {G' : Mem} (h : fJ0_init_db425_0 l0 l1 G = some (r, G')) (hK : (finV X) r G') : J X 5 0 [(0, .ref (X.B + l0)), (1, .ref (X.B + l1))] [] G := by
  unfold fJ0_init_db425_0 at h
  refine j_aload_n ok dJ0_init_db425_0 rfl 0 rfl ?_
  refine k_objI ok wm_J0_1 (Nat.le_of_ble_eq_true rfl) (Nat.le_of_ble_eq_true rfl) (Nat.le_of_ble_eq_true rfl) dJ0_init_db425_1 ?_
  refine j_aload_n ok dJ0_init_db425_4 rfl 1 rfl ?_
  obtain ⟨kq1, h⟩ := ck_some h
  obtain ⟨q1, hq1, h⟩ := obind h
  refine k_U1 ok kl_J0_552 ⟨Nat.le_of_ble_eq_true rfl, Nat.le_of_ble_eq_true rfl⟩ [] kq1 rfl rfl (Nat.le_of_ble_eq_true rfl) (tJ5_getValue_6d5f1 ok.fl X.V l1 G hq1) dJ0_init_db425_5 ?_
  refine j_astore_n (L' := [(3, .ref (X.B + q1.1)), (0, .ref (X.B + l0)), (1, .ref (X.B + l1))]) ok dJ0_init_db425_8 rfl (by decide) rfl ?_
  refine j_aload_n ok dJ0_init_db425_9 rfl 2 rfl ?_
  obtain ⟨kq2, h⟩ := ck_some h
  obtain ⟨q2, hq2, h⟩ := obind h
  refine k_U1 ok kl_J0_549 ⟨Nat.le_of_ble_eq_true rfl, Nat.le_of_ble_eq_true rfl⟩ [] kq2 rfl rfl (Nat.le_of_ble_eq_true rfl) (tJ4_length_8abf5 ok.fl X.V l1 q1.2 hq2) dJ0_init_db425_10 ?_
  refine j_istore (L' := [(4, .int q2.1), (3, .ref (X.B + q1.1)), (0, .ref (X.B + l0)), (1, .ref (X.B + l1))]) ok dJ0_init_db425_13 (by decide) rfl ?_
  refine j_aload_n ok dJ0_init_db425_15 rfl 3 rfl ?_
  obtain ⟨kq3, h⟩ := ck_some h
  obtain ⟨q3, hq3, h⟩ := obind h
  refine k_U1 ok kl_J0_1047 ⟨Nat.le_of_ble_eq_true rfl, Nat.le_of_ble_eq_true rfl⟩ [] kq3 rfl rfl (Nat.le_of_ble_eq_true rfl) (tJ5_isLatin1_aae02 ok.fl X.V l1 q2.2 hq3) dJ0_init_db425_16 ?_
  rcases ite_some h with ⟨c4, h⟩ | ⟨c4, h⟩
  · refine j_if_eq (tgt := 41) ok dJ0_init_db425_19 (by decide) (fun _ => ?_) (fun z => absurd c4 z)
    refine k_gets1 ok wf_J0_38 dJ0_init_db425_41 ?_
    rcases ite_some h with ⟨c5, h⟩ | ⟨c5, h⟩
    · refine j_if_eq (tgt := 79) ok dJ0_init_db425_44 (by decide) (fun _ => ?_) (fun z => absurd c5 z)
      exact J.sub [2, 1, 0] rfl (jJ0_init_db425_79 ok hin l0 q1.1 q2.1 q3.2 h hK)
    · refine j_if_eq (tgt := 79) ok dJ0_init_db425_44 (by decide) (fun z => absurd z c5) (fun _ => ?_)
      refine j_aload_n ok dJ0_init_db425_47 rfl 3 rfl ?_
      obtain ⟨v6, hv6, h⟩ := obind h
      refine k_getI ok fl_J0_1048 hv6 dJ0_init_db425_48 ?_
      rcases ite_some h with ⟨c7, h⟩ | ⟨c7, h⟩
      · refine j_if_eq (tgt := 79) ok dJ0_init_db425_51 (by decide) (fun _ => ?_) (fun z => absurd c7 z)
        exact J.sub [2, 1, 0] rfl (jJ0_init_db425_79 ok hin l0 q1.1 q2.1 q3.2 h hK)
      · refine j_if_eq (tgt := 79) ok dJ0_init_db425_51 (by decide) (fun z => absurd z c7) (fun _ => ?_)
        refine j_aload_n ok dJ0_init_db425_54 rfl 2 rfl ?_
        refine j_aload_n ok dJ0_init_db425_55 rfl 1 rfl ?_
        refine j_iconst (v := 0) ok dJ0_init_db425_56 (by decide) ?_
        refine j_iload ok dJ0_init_db425_57 0 rfl ?_
        cases h
  · refine j_if_eq (tgt := 41) ok dJ0_init_db425_19 (by decide) (fun z => absurd z c4) (fun _ => ?_)
    refine j_aload_n ok dJ0_init_db425_22 rfl 2 rfl ?_
    refine j_iconst (v := 0) ok dJ0_init_db425_23 (by decide) ?_
    obtain ⟨G5, hG5, h⟩ := obind h
    refine k_putB ok fl_J0_15 fp_X7 rfl (Or.inr ⟨rfl, hin, rfl⟩) hG5 dJ0_init_db425_24 ?_
    refine j_aload_n ok dJ0_init_db425_27 rfl 2 rfl ?_
    refine j_aload_n ok dJ0_init_db425_28 rfl 1 rfl ?_
    refine j_iconst (v := 0) ok dJ0_init_db425_29 (by decide) ?_
    refine j_iload ok dJ0_init_db425_30 0 rfl ?_
    obtain ⟨q6, hq6, h⟩ := obind h
    refine k_S1 ok kl_J0_54 ⟨Nat.le_of_ble_eq_true rfl, Nat.le_of_ble_eq_true rfl⟩ [.ref (X.B + q1.1), .int (0 : Int32), .int q2.1] rfl rfl (Nat.le_of_ble_eq_true rfl) (tJ7_copyOfRange_39247 ok.fl X.V q1.1 (0 : Int32) q2.1 G5 hq6) dJ0_init_db425_32 ?_
    obtain ⟨G7, hG7, h⟩ := obind h
    refine k_putR ok fl_J0_9 fp_X7 rfl (Or.inr ⟨_, rfl⟩) (Or.inr ⟨rfl, hin, rfl⟩) hG7 dJ0_init_db425_35 ?_
    refine j_goto (tgt := 97) ok dJ0_init_db425_38 (by decide) ?_
    exact J.sub [] rfl (jJ0_init_db425_97 ok hin G7 h hK)

def fJ0_init_db425 (l0 : Nat) (l1 : Nat) (G : Mem) : Option (Unit × Mem) := fJ0_init_db425_0 l0 l1 G
set_option maxRecDepth 100000 in
theorem tJ0_init_db425 {l : Launch} (hfl : l.stackTraces = false) (V : Wd) (l0 : Nat) (l1 : Nat) (G : Mem) {r : Unit} {G' : Mem} (h : fJ0_init_db425 l0 l1 G = some (r, G')) : Mx l yJ0_init_db425 cJ0_init_db425 5 none 3 166 V [.ref (V.B + l0), .ref (V.B + l1), .null] G (.inl none) G' :=
  mx_of (L := [(0, .ref (V.B + l0)), (1, .ref (V.B + l1)), (2, .null)]) hfl (by decide +kernel) (Nat.le_of_ble_eq_true rfl) rfl (fun X hl hV hin ok he => by
    subst hl; subst hV
    exact J.sub [0, 1] rfl (jJ0_init_db425_0 ok (hin rfl) l0 l1 G h he))
def fJ0_init_81219_0 (l0 : Nat) (l1 : Nat)  (G : Mem) : Option (Unit × Mem) :=
  (fJ0_init_db425 l0 l1 G).bind fun q1 =>
  some ((), q1.2)

set_option maxRecDepth 100000 in
set_option maxHeartbeats 4000000 in
theorem jJ0_init_81219_0 {X : Cx} (ok : OK X cJ0_init_81219 RJ0 none 2 4 190) (hin : X.meth.name = "<init>") (l0 : Nat) (l1 : Nat)  (G : Mem) {r : Unit} {G' : Mem} (h : fJ0_init_81219_0 l0 l1 G = some (r, G')) (hK : (finV X) r G') : J X 2 0 [(0, .ref (X.B + l0)), (1, .ref (X.B + l1))] [] G := by
  unfold fJ0_init_81219_0 at h
  refine j_aload_n ok dJ0_init_81219_0 rfl 0 rfl ?_
  refine j_aload_n ok dJ0_init_81219_1 rfl 1 rfl ?_
  refine j_anull ok dJ0_init_81219_2 ?_
  obtain ⟨q1, hq1, h⟩ := obind h
  refine k_I ok kl_J0_489 ⟨Nat.le_of_ble_eq_true rfl, Nat.le_of_ble_eq_true rfl⟩ [.ref (X.B + l1), .null] rfl rfl (Nat.le_of_ble_eq_true rfl) (tJ0_init_db425 ok.fl X.V l0 l1 G hq1) dJ0_init_81219_3 ?_
  obtain ⟨er, eG⟩ := inj2 h
  subst er; subst eG
  exact j_vret ok rfl dJ0_init_81219_6 hK

def fJ0_init_81219 (l0 : Nat) (l1 : Nat) (G : Mem) : Option (Unit × Mem) := fJ0_init_81219_0 l0 l1 G
set_option maxRecDepth 100000 in
theorem tJ0_init_81219 {l : Launch} (hfl : l.stackTraces = false) (V : Wd) (l0 : Nat) (l1 : Nat) (G : Mem) {r : Unit} {G' : Mem} (h : fJ0_init_81219 l0 l1 G = some (r, G')) : Mx l yJ0_init_81219 cJ0_init_81219 2 none 4 190 V [.ref (V.B + l0), .ref (V.B + l1)] G (.inl none) G' :=
  mx_of (L := [(0, .ref (V.B + l0)), (1, .ref (V.B + l1))]) hfl (by decide +kernel) (Nat.le_of_ble_eq_true rfl) rfl (fun X hl hV hin ok he => by
    subst hl; subst hV
    exact J.sub [0, 1] rfl (jJ0_init_81219_0 ok (hin rfl) l0 l1 G h he))
def fJ0_length_8abf5_0 (l0 : Nat)  (G : Mem) : Option (Int32 × Mem) :=
  ckS l0 <|
  (slen l0).bind fun v2 =>
  ckS l0 <| (fJ0_coder_7d493 l0 G).bind fun q3 =>
  some ((v2 >>> (q3.1 &&& 31)), q3.2)

set_option maxRecDepth 100000 in
set_option maxHeartbeats 4000000 in
theorem jJ0_length_8abf5_0 {X : Cx} (ok : OK X cJ0_length_8abf5 RJ0 (some .int) 1 1 20) (l0 : Nat)  (G : Mem) {r : Int32} {G' : Mem} (h : fJ0_length_8abf5_0 l0 G = some (r, G')) (hK : (finI X) r G') : J X 1 0 [(0, .ref (X.V.sa l0))] [] G := by
  unfold fJ0_length_8abf5_0 at h
  refine j_aload_n ok dJ0_length_8abf5_0 rfl 0 rfl ?_
  obtain ⟨hs1, h⟩ := ckS_some h
  refine k_sval ok hs1 wf_J0_9 dJ0_length_8abf5_1 ?_
  obtain ⟨v2, hv2, h⟩ := obind h
  refine k_salen ok hv2 dJ0_length_8abf5_4 ?_
  refine j_aload_n ok dJ0_length_8abf5_5 rfl 0 rfl ?_
  obtain ⟨kq3, h⟩ := ckS_some h
  obtain ⟨q3, hq3, h⟩ := obind h
  refine k_T1 ok kl_J0_335 ⟨Nat.le_of_ble_eq_true rfl, Nat.le_of_ble_eq_true rfl⟩ [] kq3 rfl rfl (Nat.le_of_ble_eq_true rfl) (tJ0_coder_7d493 ok.fl X.V l0 G hq3) dJ0_length_8abf5_6 ?_
  refine j_ishr ok dJ0_length_8abf5_9 ?_
  obtain ⟨er, eG⟩ := inj2 h
  subst er; subst eG
  exact j_iret ok rfl dJ0_length_8abf5_10 hK

def fJ0_length_8abf5 (l0 : Nat) (G : Mem) : Option (Int32 × Mem) := fJ0_length_8abf5_0 l0 G
set_option maxRecDepth 100000 in
theorem tJ0_length_8abf5 {l : Launch} (hfl : l.stackTraces = false) (V : Wd) (l0 : Nat) (G : Mem) {r : Int32} {G' : Mem} (h : fJ0_length_8abf5 l0 G = some (r, G')) : Mx l yJ0_length_8abf5 cJ0_length_8abf5 1 (some .int) 1 20 V [.ref (V.sa l0)] G (.inl (some (.int r))) G' :=
  mx_of (L := [(0, .ref (V.sa l0))]) hfl (by decide +kernel) (Nat.le_of_ble_eq_true rfl) rfl (fun X hl hV hin ok he => by
    subst hl; subst hV
    exact J.sub [0] rfl (jJ0_length_8abf5_0 ok l0 G h he))
def fJ0_length_8abf5h_0 (l0 : Nat)  (G : Mem) : Option (Int32 × Mem) :=
  (gR G 17 l0 0).bind fun v1 =>
  (gL G v1).bind fun v2 =>
  ck G 17 l0 <| (fJ0_coder_7d493h l0 G).bind fun q3 =>
  some ((v2 >>> (q3.1 &&& 31)), q3.2)

set_option maxRecDepth 100000 in
set_option maxHeartbeats 4000000 in
theorem jJ0_length_8abf5h_0 {X : Cx} (ok : OK X cJ0_length_8abf5 RJ0 (some .int) 1 1 20) (l0 : Nat)  (G : Mem) {r : Int32} {G' : Mem} (h : fJ0_length_8abf5h_0 l0 G = some (r, G')) (hK : (finI X) r G') : J X 1 0 [(0, .ref (X.B + l0))] [] G := by
  unfold fJ0_length_8abf5h_0 at h
  refine j_aload_n ok dJ0_length_8abf5_0 rfl 0 rfl ?_
  obtain ⟨v1, hv1, h⟩ := obind h
  refine k_getR ok fl_J0_9 hv1 dJ0_length_8abf5_1 ?_
  obtain ⟨v2, hv2, h⟩ := obind h
  refine j_alen ok hv2 dJ0_length_8abf5_4 ?_
  refine j_aload_n ok dJ0_length_8abf5_5 rfl 0 rfl ?_
  obtain ⟨kq3, h⟩ := ck_some h
  obtain ⟨q3, hq3, h⟩ := obind h
  refine k_V1 ok klh_J0_335 ⟨Nat.le_of_ble_eq_true rfl, Nat.le_of_ble_eq_true rfl⟩ [] kq3 rfl rfl (Nat.le_of_ble_eq_true rfl) (tJ0_coder_7d493h ok.fl X.V l0 G hq3) dJ0_length_8abf5_6 ?_
  refine j_ishr ok dJ0_length_8abf5_9 ?_
  obtain ⟨er, eG⟩ := inj2 h
  subst er; subst eG
  exact j_iret ok rfl dJ0_length_8abf5_10 hK

def fJ0_length_8abf5h (l0 : Nat) (G : Mem) : Option (Int32 × Mem) := fJ0_length_8abf5h_0 l0 G
set_option maxRecDepth 100000 in
theorem tJ0_length_8abf5h {l : Launch} (hfl : l.stackTraces = false) (V : Wd) (l0 : Nat) (G : Mem) {r : Int32} {G' : Mem} (h : fJ0_length_8abf5h l0 G = some (r, G')) : Mx l yJ0_length_8abf5 cJ0_length_8abf5 1 (some .int) 1 20 V [.ref (V.B + l0)] G (.inl (some (.int r))) G' :=
  mx_of (L := [(0, .ref (V.B + l0))]) hfl (by decide +kernel) (Nat.le_of_ble_eq_true rfl) rfl (fun X hl hV hin ok he => by
    subst hl; subst hV
    exact J.sub [0] rfl (jJ0_length_8abf5h_0 ok l0 G h he))
def fJ1_canEncode_fc78d_12  (s0 : Int32) (G : Mem) : Option (Int32 × Mem) :=
  rz s0 <|
  some (s0, G)

set_option maxRecDepth 100000 in
set_option maxHeartbeats 4000000 in
theorem jJ1_canEncode_fc78d_12 {X : Cx} (ok : OK X cJ1_canEncode_fc78d RJ1 (some .boolean) 1 0 0)  (s0 : Int32) (G : Mem) {r : Int32} {G' : Mem} (h : fJ1_canEncode_fc78d_12 s0 G = some (r, G')) (hK : (finI X) r G') : J X 1 12 [] [.int s0] G := by
  unfold fJ1_canEncode_fc78d_12 at h
  obtain ⟨hz1, h⟩ := rz_some h
  obtain ⟨er, eG⟩ := inj2 h
  subst er; subst eG
  exact j_zret ok rfl hz1 dJ1_canEncode_fc78d_12 hK

def fJ1_canEncode_fc78d_0 (l0 : Int32)  (G : Mem) : Option (Int32 × Mem) :=
  if (255 : Int32) < l0 then
    fJ1_canEncode_fc78d_12 (0 : Int32) G
  else
    fJ1_canEncode_fc78d_12 (1 : Int32) G

set_option maxRecDepth 100000 in
set_option maxHeartbeats 4000000 in
theorem jJ1_canEncode_fc78d_0 {X : Cx} (ok : OK X cJ1_canEncode_fc78d RJ1 (some .boolean) 1 0 0) (l0 : Int32)  (G : Mem) {r : Int32} {G' : Mem} (h : fJ1_canEncode_fc78d_0 l0 G = some (r, G')) (hK : (finI X) r G') : J X 1 0 [(0, .int l0)] [] G := by
  unfold fJ1_canEncode_fc78d_0 at h
  refine j_iload_n ok dJ1_canEncode_fc78d_0 rfl 0 rfl ?_
  refine j_sipush (v := 255) ok dJ1_canEncode_fc78d_1 (by decide) ?_
  rcases ite_some h with ⟨c1, h⟩ | ⟨c1, h⟩
  · refine j_icmp_gt (tgt := 11) ok dJ1_canEncode_fc78d_4 (by decide) (fun _ => ?_) (fun z => absurd c1 z)
    refine j_iconst (v := 0) ok dJ1_canEncode_fc78d_11 (by decide) ?_
    exact J.sub [] rfl (jJ1_canEncode_fc78d_12 ok (0 : Int32) G h hK)
  · refine j_icmp_gt (tgt := 11) ok dJ1_canEncode_fc78d_4 (by decide) (fun z => absurd z c1) (fun _ => ?_)
    refine j_iconst (v := 1) ok dJ1_canEncode_fc78d_7 (by decide) ?_
    refine j_goto (tgt := 12) ok dJ1_canEncode_fc78d_8 (by decide) ?_
    exact J.sub [] rfl (jJ1_canEncode_fc78d_12 ok (1 : Int32) G h hK)

def fJ1_canEncode_fc78d (l0 : Int32) (G : Mem) : Option (Int32 × Mem) := fJ1_canEncode_fc78d_0 l0 G
set_option maxRecDepth 100000 in
theorem tJ1_canEncode_fc78d {l : Launch} (hfl : l.stackTraces = false) (V : Wd) (l0 : Int32) (G : Mem) {r : Int32} {G' : Mem} (h : fJ1_canEncode_fc78d l0 G = some (r, G')) : Mx l yJ1_canEncode_fc78d cJ1_canEncode_fc78d 1 (some .boolean) 0 0 V [.int l0] G (.inl (some (.int r))) G' :=
  mx_of (L := [(0, .int l0)]) hfl (by decide +kernel) (Nat.le_of_ble_eq_true rfl) rfl (fun X hl hV hin ok he => by
    subst hl; subst hV
    exact J.sub [0] rfl (jJ1_canEncode_fc78d_0 ok l0 G h he))
def fJ8_newLength_cabcc_21 (l0 : Int32) (l1 : Int32)  (G : Mem) : Option (Int32 × Mem) :=
  none

set_option maxRecDepth 100000 in
set_option maxHeartbeats 4000000 in
theorem jJ8_newLength_cabcc_21 {X : Cx} (ok : OK X cJ8_newLength_cabcc RJ8 (some .int) 4 1 120) (l0 : Int32) (l1 : Int32)  (G : Mem) {r : Int32} {G' : Mem} (h : fJ8_newLength_cabcc_21 l0 l1 G = some (r, G')) (hK : (finI X) r G') : J X 4 21 [(0, .int l0), (1, .int l1)] [] G := by
  unfold fJ8_newLength_cabcc_21 at h
  refine j_iload_n ok dJ8_newLength_cabcc_21 rfl 0 rfl ?_
  refine j_iload_n ok dJ8_newLength_cabcc_22 rfl 1 rfl ?_
  cases h

def fJ8_newLength_cabcc_0 (l0 : Int32) (l1 : Int32) (l2 : Int32)  (G : Mem) : Option (Int32 × Mem) :=
  if (l0 + (if l1 < l2 then l2 else l1)) ≤ (0 : Int32) then
    fJ8_newLength_cabcc_21 l0 l1 G
  else
    if (2147483639 : Int32) < (l0 + (if l1 < l2 then l2 else l1)) then
      fJ8_newLength_cabcc_21 l0 l1 G
    else
      some ((l0 + (if l1 < l2 then l2 else l1)), G)

set_option maxRecDepth 100000 in
set_option maxHeartbeats 4000000 in
theorem jJ8_newLength_cabcc_0 {X : Cx} (ok : OK X cJ8_newLength_cabcc RJ8 (some .int) 4 1 120) (l0 : Int32) (l1 : Int32) (l2 : Int32)  (G : Mem) {r : Int32} {G' : Mem} (h : fJ8_newLength_cabcc_0 l0 l1 l2 G = some (r, G')) (hK : (finI X) r G') : J X 4 0 [(0, .int l0), (1, .int l1), (2, .int l2)] [] G := by
  unfold fJ8_newLength_cabcc_0 at h
  refine j_iload_n ok dJ8_newLength_cabcc_0 rfl 0 rfl ?_
  refine j_iload_n ok dJ8_newLength_cabcc_1 rfl 1 rfl ?_
  refine j_iload_n ok dJ8_newLength_cabcc_2 rfl 2 rfl ?_
  refine k_mmax ok wm_J8_194 (Nat.le_of_ble_eq_true rfl) (Nat.le_of_ble_eq_true rfl) (Nat.le_of_ble_eq_true rfl) dJ8_newLength_cabcc_3 ?_
  refine j_iadd ok dJ8_newLength_cabcc_6 ?_
  refine j_istore_n (L' := [(3, .int (l0 + (if l1 < l2 then l2 else l1))), (0, .int l0), (1, .int l1), (2, .int l2)]) ok dJ8_newLength_cabcc_7 rfl (by decide) rfl ?_
  refine j_iconst (v := 0) ok dJ8_newLength_cabcc_8 (by decide) ?_
  refine j_iload_n ok dJ8_newLength_cabcc_9 rfl 0 rfl ?_
  rcases ite_some h with ⟨c1, h⟩ | ⟨c1, h⟩
  · refine j_icmp_ge (tgt := 21) ok dJ8_newLength_cabcc_10 (by decide) (fun _ => ?_) (fun z => absurd c1 z)
    exact J.sub [1, 2] rfl (jJ8_newLength_cabcc_21 ok l0 l1 G h hK)
  · refine j_icmp_ge (tgt := 21) ok dJ8_newLength_cabcc_10 (by decide) (fun z => absurd z c1) (fun _ => ?_)
    refine j_iload_n ok dJ8_newLength_cabcc_13 rfl 0 rfl ?_
    refine j_ldc ok wk_J8_200 dJ8_newLength_cabcc_14 ?_
    rcases ite_some h with ⟨c2, h⟩ | ⟨c2, h⟩
    · refine j_icmp_gt (tgt := 21) ok dJ8_newLength_cabcc_16 (by decide) (fun _ => ?_) (fun z => absurd c2 z)
      exact J.sub [1, 2] rfl (jJ8_newLength_cabcc_21 ok l0 l1 G h hK)
    · refine j_icmp_gt (tgt := 21) ok dJ8_newLength_cabcc_16 (by decide) (fun z => absurd z c2) (fun _ => ?_)
      refine j_iload_n ok dJ8_newLength_cabcc_19 rfl 0 rfl ?_
      obtain ⟨er, eG⟩ := inj2 h
      subst er; subst eG
      exact j_iret ok rfl dJ8_newLength_cabcc_20 hK

def fJ8_newLength_cabcc (l0 : Int32) (l1 : Int32) (l2 : Int32) (G : Mem) : Option (Int32 × Mem) := fJ8_newLength_cabcc_0 l0 l1 l2 G
set_option maxRecDepth 100000 in
theorem tJ8_newLength_cabcc {l : Launch} (hfl : l.stackTraces = false) (V : Wd) (l0 : Int32) (l1 : Int32) (l2 : Int32) (G : Mem) {r : Int32} {G' : Mem} (h : fJ8_newLength_cabcc l0 l1 l2 G = some (r, G')) : Mx l yJ8_newLength_cabcc cJ8_newLength_cabcc 4 (some .int) 1 120 V [.int l0, .int l1, .int l2] G (.inl (some (.int r))) G' :=
  mx_of (L := [(0, .int l0), (1, .int l1), (2, .int l2)]) hfl (by decide +kernel) (Nat.le_of_ble_eq_true rfl) rfl (fun X hl hV hin ok he => by
    subst hl; subst hV
    exact J.sub [0, 1, 2] rfl (jJ8_newLength_cabcc_0 ok l0 l1 l2 G h he))
def fJ5_newCapacity_0f7a4_0 (l0 : Nat) (l1 : Int32)  (G : Mem) : Option (Int32 × Mem) :=
  (gR G 18 l0 0).bind fun v1 =>
  (gL G v1).bind fun v2 =>
  (gF G 18 l0 1).bind fun v3 =>
  (gF G 18 l0 1).bind fun v4 =>
  (fJ8_newLength_cabcc v2 ((l1 <<< (v3 &&& 31)) - v2) (v2 + ((2 : Int32) <<< (v4 &&& 31))) G).bind fun q5 =>
  if q5.1 = (2147483647 : Int32) then
    none
  else
    (gF q5.2 18 l0 1).bind fun v7 =>
    some ((q5.1 >>> (v7 &&& 31)), q5.2)

set_option maxRecDepth 100000 in
set_option maxHeartbeats 4000000 in
theorem jJ5_newCapacity_0f7a4_0 {X : Cx} (ok : OK X cJ5_newCapacity_0f7a4 RJ5 (some .int) 6 2 143) (l0 : Nat) (l1 : Int32)  (G : Mem) {r : Int32} {G' : Mem} (h : fJ5_newCapacity_0f7a4_0 l0 l1 G = some (r, G')) (hK : (finI X) r G') : J X 6 0 [(0, .ref (X.B + l0)), (1, .int l1)] [] G := by
  unfold fJ5_newCapacity_0f7a4_0 at h
  refine j_aload_n ok dJ5_newCapacity_0f7a4_0 rfl 0 rfl ?_
  obtain ⟨v1, hv1, h⟩ := obind h
  refine k_getR ok fl_J5_15 hv1 dJ5_newCapacity_0f7a4_1 ?_
  obtain ⟨v2, hv2, h⟩ := obind h
  refine j_alen ok hv2 dJ5_newCapacity_0f7a4_4 ?_
  refine j_istore_n (L' := [(2, .int v2), (0, .ref (X.B + l0)), (1, .int l1)]) ok dJ5_newCapacity_0f7a4_5 rfl (by decide) rfl ?_
  refine j_iload_n ok dJ5_newCapacity_0f7a4_6 rfl 2 rfl ?_
  refine j_aload_n ok dJ5_newCapacity_0f7a4_7 rfl 1 rfl ?_
  obtain ⟨v3, hv3, h⟩ := obind h
  refine k_getI ok fl_J5_22 hv3 dJ5_newCapacity_0f7a4_8 ?_
  refine j_ishl ok dJ5_newCapacity_0f7a4_11 ?_
  refine j_istore_n (L' := [(3, .int (l1 <<< (v3 &&& 31))), (2, .int v2), (0, .ref (X.B + l0)), (1, .int l1)]) ok dJ5_newCapacity_0f7a4_12 rfl (by decide) rfl ?_
  refine j_iload_n ok dJ5_newCapacity_0f7a4_13 rfl 0 rfl ?_
  refine j_iload_n ok dJ5_newCapacity_0f7a4_14 rfl 1 rfl ?_
  refine j_isub ok dJ5_newCapacity_0f7a4_15 ?_
  refine j_istore (L' := [(4, .int ((l1 <<< (v3 &&& 31)) - v2)), (3, .int (l1 <<< (v3 &&& 31))), (2, .int v2), (0, .ref (X.B + l0)), (1, .int l1)]) ok dJ5_newCapacity_0f7a4_16 (by decide) rfl ?_
  refine j_iload_n ok dJ5_newCapacity_0f7a4_18 rfl 2 rfl ?_
  refine j_iload ok dJ5_newCapacity_0f7a4_19 0 rfl ?_
  refine j_iload_n ok dJ5_newCapacity_0f7a4_21 rfl 2 rfl ?_
  refine j_iconst (v := 2) ok dJ5_newCapacity_0f7a4_22 (by decide) ?_
  refine j_aload_n ok dJ5_newCapacity_0f7a4_23 rfl 3 rfl ?_
  obtain ⟨v4, hv4, h⟩ := obind h
  refine k_getI ok fl_J5_22 hv4 dJ5_newCapacity_0f7a4_24 ?_
  refine j_ishl ok dJ5_newCapacity_0f7a4_27 ?_
  refine j_iadd ok dJ5_newCapacity_0f7a4_28 ?_
  obtain ⟨q5, hq5, h⟩ := obind h
  refine k_S1 ok kl_J5_114 ⟨Nat.le_of_ble_eq_true rfl, Nat.le_of_ble_eq_true rfl⟩ [.int v2, .int ((l1 <<< (v3 &&& 31)) - v2), .int (v2 + ((2 : Int32) <<< (v4 &&& 31)))] rfl rfl (Nat.le_of_ble_eq_true rfl) (tJ8_newLength_cabcc ok.fl X.V v2 ((l1 <<< (v3 &&& 31)) - v2) (v2 + ((2 : Int32) <<< (v4 &&& 31))) G hq5) dJ5_newCapacity_0f7a4_29 ?_
  refine j_istore (L' := [(5, .int q5.1), (4, .int ((l1 <<< (v3 &&& 31)) - v2)), (3, .int (l1 <<< (v3 &&& 31))), (2, .int v2), (0, .ref (X.B + l0)), (1, .int l1)]) ok dJ5_newCapacity_0f7a4_32 (by decide) rfl ?_
  refine j_iload ok dJ5_newCapacity_0f7a4_34 0 rfl ?_
  refine j_ldc ok wk_J5_39 dJ5_newCapacity_0f7a4_36 ?_
  rcases ite_some h with ⟨c6, h⟩ | ⟨c6, h⟩
  · refine j_icmp_ne (tgt := 51) ok dJ5_newCapacity_0f7a4_38 (by decide) (fun z => absurd c6 z) (fun _ => ?_)
    cases h
  · refine j_icmp_ne (tgt := 51) ok dJ5_newCapacity_0f7a4_38 (by decide) (fun _ => ?_) (fun z => absurd z c6)
    refine j_iload ok dJ5_newCapacity_0f7a4_51 0 rfl ?_
    refine j_aload_n ok dJ5_newCapacity_0f7a4_53 rfl 4 rfl ?_
    obtain ⟨v7, hv7, h⟩ := obind h
    refine k_getI ok fl_J5_22 hv7 dJ5_newCapacity_0f7a4_54 ?_
    refine j_ishr ok dJ5_newCapacity_0f7a4_57 ?_
    obtain ⟨er, eG⟩ := inj2 h
    subst er; subst eG
    exact j_iret ok rfl dJ5_newCapacity_0f7a4_58 hK

def fJ5_newCapacity_0f7a4 (l0 : Nat) (l1 : Int32) (G : Mem) : Option (Int32 × Mem) := fJ5_newCapacity_0f7a4_0 l0 l1 G
set_option maxRecDepth 100000 in
theorem tJ5_newCapacity_0f7a4 {l : Launch} (hfl : l.stackTraces = false) (V : Wd) (l0 : Nat) (l1 : Int32) (G : Mem) {r : Int32} {G' : Mem} (h : fJ5_newCapacity_0f7a4 l0 l1 G = some (r, G')) : Mx l yJ5_newCapacity_0f7a4 cJ5_newCapacity_0f7a4 6 (some .int) 2 143 V [.ref (V.B + l0), .int l1] G (.inl (some (.int r))) G' :=
  mx_of (L := [(0, .ref (V.B + l0)), (1, .int l1)]) hfl (by decide +kernel) (Nat.le_of_ble_eq_true rfl) rfl (fun X hl hV hin ok he => by
    subst hl; subst hV
    exact J.sub [0, 1] rfl (jJ5_newCapacity_0f7a4_0 ok l0 l1 G h he))
def fJ7_copyOf_9075b_0 (l0 : Nat) (l1 : Int32)  (G : Mem) : Option (Nat × Mem) :=
  (gL G l0).bind fun v1 =>
  if l1 = v1 then
    none
  else
    (nA G 2 l1).bind fun q3 =>
    (gL q3.2 l0).bind fun v4 =>
    (cpB q3.2 l0 (0 : Int32) q3.1 (0 : Int32) (if l1 < v4 then l1 else v4)).bind fun G5 =>
    some (q3.1, G5)

set_option maxRecDepth 100000 in
set_option maxHeartbeats 4000000 in
theorem jJ7_copyOf_9075b_0 {X : Cx} (ok : OK X cJ7_copyOf_9075b RJ7 (some (.array .byte)) 3 1 120) (l0 : Nat) (l1 : Int32)  (G : Mem) {r : Nat} {G' : Mem} (h : fJ7_copyOf_9075b_0 l0 l1 G = some (r, G')) (hK : (finR X) r G') : J X 3 0 [(0, .ref (X.B + l0)), (1, .int l1)] [] G := by
  unfold fJ7_copyOf_9075b_0 at h
  refine j_iload_n ok dJ7_copyOf_9075b_0 rfl 1 rfl ?_
  refine j_aload_n ok dJ7_copyOf_9075b_1 rfl 0 rfl ?_
  obtain ⟨v1, hv1, h⟩ := obind h
  refine j_alen ok hv1 dJ7_copyOf_9075b_2 ?_
  rcases ite_some h with ⟨c2, h⟩ | ⟨c2, h⟩
  · refine j_icmp_ne (tgt := 14) ok dJ7_copyOf_9075b_3 (by decide) (fun z => absurd c2 z) (fun _ => ?_)
    refine j_aload_n ok dJ7_copyOf_9075b_6 rfl 0 rfl ?_
    cases h
  · refine j_icmp_ne (tgt := 14) ok dJ7_copyOf_9075b_3 (by decide) (fun _ => ?_) (fun z => absurd z c2)
    refine j_iload_n ok dJ7_copyOf_9075b_14 rfl 1 rfl ?_
    obtain ⟨q3, hq3, h⟩ := obind h
    refine k_newaT ok (t := 2) (Or.inr (Or.inl ⟨rfl, rfl⟩)) wa_2 hq3 dJ7_copyOf_9075b_15 ?_
    refine j_astore_n (L' := [(2, .ref (X.B + q3.1)), (0, .ref (X.B + l0)), (1, .int l1)]) ok dJ7_copyOf_9075b_17 rfl (by decide) rfl ?_
    refine j_aload_n ok dJ7_copyOf_9075b_18 rfl 1 rfl ?_
    refine j_iconst (v := 0) ok dJ7_copyOf_9075b_19 (by decide) ?_
    refine j_aload_n ok dJ7_copyOf_9075b_20 rfl 0 rfl ?_
    refine j_iconst (v := 0) ok dJ7_copyOf_9075b_21 (by decide) ?_
    refine j_aload_n ok dJ7_copyOf_9075b_22 rfl 1 rfl ?_
    obtain ⟨v4, hv4, h⟩ := obind h
    refine j_alen ok hv4 dJ7_copyOf_9075b_23 ?_
    refine j_iload_n ok dJ7_copyOf_9075b_24 rfl 2 rfl ?_
    refine k_mmin ok wm_J7_304 (Nat.le_of_ble_eq_true rfl) (Nat.le_of_ble_eq_true rfl) (Nat.le_of_ble_eq_true rfl) dJ7_copyOf_9075b_25 ?_
    obtain ⟨G5, hG5, h⟩ := obind h
    refine k_cpB ok wm_J7_150 (Nat.le_of_ble_eq_true rfl) (Nat.le_of_ble_eq_true rfl) (Nat.le_of_ble_eq_true rfl) hG5 dJ7_copyOf_9075b_28 ?_
    refine j_aload_n ok dJ7_copyOf_9075b_31 rfl 0 rfl ?_
    obtain ⟨er, eG⟩ := inj2 h
    subst er; subst eG
    exact j_aret ok rfl (Or.inr ⟨_, rfl⟩) dJ7_copyOf_9075b_32 hK

def fJ7_copyOf_9075b (l0 : Nat) (l1 : Int32) (G : Mem) : Option (Nat × Mem) := fJ7_copyOf_9075b_0 l0 l1 G
set_option maxRecDepth 100000 in
theorem tJ7_copyOf_9075b {l : Launch} (hfl : l.stackTraces = false) (V : Wd) (l0 : Nat) (l1 : Int32) (G : Mem) {r : Nat} {G' : Mem} (h : fJ7_copyOf_9075b l0 l1 G = some (r, G')) : Mx l yJ7_copyOf_9075b cJ7_copyOf_9075b 3 (some (.array .byte)) 1 120 V [.ref (V.B + l0), .int l1] G (.inl (some (.ref (V.B + r)))) G' :=
  mx_of (L := [(0, .ref (V.B + l0)), (1, .int l1)]) hfl (by decide +kernel) (Nat.le_of_ble_eq_true rfl) rfl (fun X hl hV hin ok he => by
    subst hl; subst hV
    exact J.sub [0, 1] rfl (jJ7_copyOf_9075b_0 ok l0 l1 G h he))
def fJ5_ensureCapacityInternal_d00df_38   (G : Mem) : Option (Unit × Mem) :=
  some ((), G)

set_option maxRecDepth 100000 in
set_option maxHeartbeats 4000000 in
theorem jJ5_ensureCapacityInternal_d00df_38 {X : Cx} (ok : OK X cJ5_ensureCapacityInternal_d00df RJ5 none 3 3 168)   (G : Mem) {r : Unit} {G' : Mem} (h : fJ5_ensureCapacityInternal_d00df_38  G = some (r, G')) (hK : (finV X) r G') : J X 3 38 [] [] G := by
  unfold fJ5_ensureCapacityInternal_d00df_38 at h
  obtain ⟨er, eG⟩ := inj2 h
  subst er; subst eG
  exact j_vret ok rfl dJ5_ensureCapacityInternal_d00df_38 hK

def fJ5_ensureCapacityInternal_d00df_0 (l0 : Nat) (l1 : Int32)  (G : Mem) : Option (Unit × Mem) :=
  (gR G 18 l0 0).bind fun v1 =>
  (gL G v1).bind fun v2 =>
  (gF G 18 l0 1).bind fun v3 =>
  if (l1 - (v2 >>> (v3 &&& 31))) ≤ (0 : Int32) then
    fJ5_ensureCapacityInternal_d00df_38 G
  else
    (gR G 18 l0 0).bind fun v5 =>
    ck G 18 l0 <| (fJ5_newCapacity_0f7a4 l0 l1 G).bind fun q6 =>
    (gF q6.2 18 l0 1).bind fun v7 =>
    (fJ7_copyOf_9075b v5 (q6.1 <<< (v7 &&& 31)) q6.2).bind fun q8 =>
    (pR q8.2 18 l0 0 q8.1).bind fun G9 =>
    fJ5_ensureCapacityInternal_d00df_38 G9

set_option maxRecDepth 100000 in
set_option maxHeartbeats 4000000 in
theorem jJ5_ensureCapacityInternal_d00df_0 {X : Cx} (ok : OK X cJ5_ensureCapacityInternal_d00df RJ5 none 3 3 168) (l0 : Nat) (l1 : Int32)  (G : Mem) {r : Unit} {G' : Mem} (h : fJ5_ensureCapacityInternal_d00df_0 l0 l1 G = some (r, G')) (hK : (finV X) r G') : J X 3 0 [(0, .ref (X.B + l0)), (1, .int l1)] [] G := by
  unfold fJ5_ensureCapacityInternal_d00df_0 at h
  refine j_aload_n ok dJ5_ensureCapacityInternal_d00df_0 rfl 0 rfl ?_
  obtain ⟨v1, hv1, h⟩ := obind h
  refine k_getR ok fl_J5_15 hv1 dJ5_ensureCapacityInternal_d00df_1 ?_
  obtain ⟨v2, hv2, h⟩ := obind h
  refine j_alen ok hv2 dJ5_ensureCapacityInternal_d00df_4 ?_
  refine j_aload_n ok dJ5_ensureCapacityInternal_d00df_5 rfl 0 rfl ?_
  obtain ⟨v3, hv3, h⟩ := obind h
  refine k_getI ok fl_J5_22 hv3 dJ5_ensureCapacityInternal_d00df_6 ?_
  refine j_ishr ok dJ5_ensureCapacityInternal_d00df_9 ?_
  refine j_istore_n (L' := [(2, .int (v2 >>> (v3 &&& 31))), (0, .ref (X.B + l0)), (1, .int l1)]) ok dJ5_ensureCapacityInternal_d00df_10 rfl (by decide) rfl ?_
  refine j_iload_n ok dJ5_ensureCapacityInternal_d00df_11 rfl 2 rfl ?_
  refine j_iload_n ok dJ5_ensureCapacityInternal_d00df_12 rfl 0 rfl ?_
  refine j_isub ok dJ5_ensureCapacityInternal_d00df_13 ?_
  rcases ite_some h with ⟨c4, h⟩ | ⟨c4, h⟩
  · refine j_if_le (tgt := 38) ok dJ5_ensureCapacityInternal_d00df_14 (by decide) (fun _ => ?_) (fun z => absurd c4 z)
    exact J.sub [] rfl (jJ5_ensureCapacityInternal_d00df_38 ok G h hK)
  · refine j_if_le (tgt := 38) ok dJ5_ensureCapacityInternal_d00df_14 (by decide) (fun z => absurd z c4) (fun _ => ?_)
    refine j_aload_n ok dJ5_ensureCapacityInternal_d00df_17 rfl 1 rfl ?_
    refine j_aload_n ok dJ5_ensureCapacityInternal_d00df_18 rfl 1 rfl ?_
    obtain ⟨v5, hv5, h⟩ := obind h
    refine k_getR ok fl_J5_15 hv5 dJ5_ensureCapacityInternal_d00df_19 ?_
    refine j_aload_n ok dJ5_ensureCapacityInternal_d00df_22 rfl 1 rfl ?_
    refine j_iload_n ok dJ5_ensureCapacityInternal_d00df_23 rfl 2 rfl ?_
    obtain ⟨kq6, h⟩ := ck_some h
    obtain ⟨q6, hq6, h⟩ := obind h
    refine k_U1 ok kl_J5_104 ⟨Nat.le_of_ble_eq_true rfl, Nat.le_of_ble_eq_true rfl⟩ [.int l1] kq6 rfl rfl (Nat.le_of_ble_eq_true rfl) (tJ5_newCapacity_0f7a4 ok.fl X.V l0 l1 G hq6) dJ5_ensureCapacityInternal_d00df_24 ?_
    refine j_aload_n ok dJ5_ensureCapacityInternal_d00df_27 rfl 1 rfl ?_
    obtain ⟨v7, hv7, h⟩ := obind h
    refine k_getI ok fl_J5_22 hv7 dJ5_ensureCapacityInternal_d00df_28 ?_
    refine j_ishl ok dJ5_ensureCapacityInternal_d00df_31 ?_
    obtain ⟨q8, hq8, h⟩ := obind h
    refine k_S1 ok kl_J5_108 ⟨Nat.le_of_ble_eq_true rfl, Nat.le_of_ble_eq_true rfl⟩ [.ref (X.B + v5), .int (q6.1 <<< (v7 &&& 31))] rfl rfl (Nat.le_of_ble_eq_true rfl) (tJ7_copyOf_9075b ok.fl X.V v5 (q6.1 <<< (v7 &&& 31)) q6.2 hq8) dJ5_ensureCapacityInternal_d00df_32 ?_
    obtain ⟨G9, hG9, h⟩ := obind h
    refine k_putR ok fl_J5_15 fp_X8 rfl (Or.inr ⟨_, rfl⟩) (Or.inl rfl) hG9 dJ5_ensureCapacityInternal_d00df_35 ?_
    exact J.sub [] rfl (jJ5_ensureCapacityInternal_d00df_38 ok G9 h hK)

def fJ5_ensureCapacityInternal_d00df (l0 : Nat) (l1 : Int32) (G : Mem) : Option (Unit × Mem) := fJ5_ensureCapacityInternal_d00df_0 l0 l1 G
set_option maxRecDepth 100000 in
theorem tJ5_ensureCapacityInternal_d00df {l : Launch} (hfl : l.stackTraces = false) (V : Wd) (l0 : Nat) (l1 : Int32) (G : Mem) {r : Unit} {G' : Mem} (h : fJ5_ensureCapacityInternal_d00df l0 l1 G = some (r, G')) : Mx l yJ5_ensureCapacityInternal_d00df cJ5_ensureCapacityInternal_d00df 3 none 3 168 V [.ref (V.B + l0), .int l1] G (.inl none) G' :=
  mx_of (L := [(0, .ref (V.B + l0)), (1, .int l1)]) hfl (by decide +kernel) (Nat.le_of_ble_eq_true rfl) rfl (fun X hl hV hin ok he => by
    subst hl; subst hV
    exact J.sub [0, 1] rfl (jJ5_ensureCapacityInternal_d00df_0 ok l0 l1 G h he))
def fJ5_inflateIfNeededFor_a7421_21   (G : Mem) : Option (Unit × Mem) :=
  some ((), G)

set_option maxRecDepth 100000 in
set_option maxHeartbeats 4000000 in
theorem jJ5_inflateIfNeededFor_a7421_21 {X : Cx} (ok : OK X cJ5_inflateIfNeededFor_a7421 RJ5 none 2 1 20)   (G : Mem) {r : Unit} {G' : Mem} (h : fJ5_inflateIfNeededFor_a7421_21  G = some (r, G')) (hK : (finV X) r G') : J X 2 21 [] [] G := by
  unfold fJ5_inflateIfNeededFor_a7421_21 at h
  obtain ⟨er, eG⟩ := inj2 h
  subst er; subst eG
  exact j_vret ok rfl dJ5_inflateIfNeededFor_a7421_21 hK

def fJ5_inflateIfNeededFor_a7421_0 (l0 : Nat) (l1 : Nat)  (G : Mem) : Option (Unit × Mem) :=
  if (1 : Int32) = (0 : Int32) then
    fJ5_inflateIfNeededFor_a7421_21 G
  else
    (gF G 18 l0 1).bind fun v2 =>
    ckS l1 <| (fJ0_coder_7d493 l1 G).bind fun q3 =>
    if v2 = q3.1 then
      fJ5_inflateIfNeededFor_a7421_21 q3.2
    else
      none

set_option maxRecDepth 100000 in
set_option maxHeartbeats 4000000 in
theorem jJ5_inflateIfNeededFor_a7421_0 {X : Cx} (ok : OK X cJ5_inflateIfNeededFor_a7421 RJ5 none 2 1 20) (l0 : Nat) (l1 : Nat)  (G : Mem) {r : Unit} {G' : Mem} (h : fJ5_inflateIfNeededFor_a7421_0 l0 l1 G = some (r, G')) (hK : (finV X) r G') : J X 2 0 [(0, .ref (X.B + l0)), (1, .ref (X.V.sa l1))] [] G := by
  unfold fJ5_inflateIfNeededFor_a7421_0 at h
  refine k_gets1 ok wf_J5_18 dJ5_inflateIfNeededFor_a7421_0 ?_
  rcases ite_some h with ⟨c1, h⟩ | ⟨c1, h⟩
  · refine j_if_eq (tgt := 21) ok dJ5_inflateIfNeededFor_a7421_3 (by decide) (fun _ => ?_) (fun z => absurd c1 z)
    exact J.sub [] rfl (jJ5_inflateIfNeededFor_a7421_21 ok G h hK)
  · refine j_if_eq (tgt := 21) ok dJ5_inflateIfNeededFor_a7421_3 (by decide) (fun z => absurd z c1) (fun _ => ?_)
    refine j_aload_n ok dJ5_inflateIfNeededFor_a7421_6 rfl 0 rfl ?_
    obtain ⟨v2, hv2, h⟩ := obind h
    refine k_getI ok fl_J5_22 hv2 dJ5_inflateIfNeededFor_a7421_7 ?_
    refine j_aload_n ok dJ5_inflateIfNeededFor_a7421_10 rfl 1 rfl ?_
    obtain ⟨kq3, h⟩ := ckS_some h
    obtain ⟨q3, hq3, h⟩ := obind h
    refine k_T1 ok kl_J5_40 ⟨Nat.le_of_ble_eq_true rfl, Nat.le_of_ble_eq_true rfl⟩ [] kq3 rfl rfl (Nat.le_of_ble_eq_true rfl) (tJ0_coder_7d493 ok.fl X.V l1 G hq3) dJ5_inflateIfNeededFor_a7421_11 ?_
    rcases ite_some h with ⟨c4, h⟩ | ⟨c4, h⟩
    · refine j_icmp_eq (tgt := 21) ok dJ5_inflateIfNeededFor_a7421_14 (by decide) (fun _ => ?_) (fun z => absurd c4 z)
      exact J.sub [] rfl (jJ5_inflateIfNeededFor_a7421_21 ok q3.2 h hK)
    · refine j_icmp_eq (tgt := 21) ok dJ5_inflateIfNeededFor_a7421_14 (by decide) (fun z => absurd z c4) (fun _ => ?_)
      refine j_aload_n ok dJ5_inflateIfNeededFor_a7421_17 rfl 0 rfl ?_
      cases h

def fJ5_inflateIfNeededFor_a7421 (l0 : Nat) (l1 : Nat) (G : Mem) : Option (Unit × Mem) := fJ5_inflateIfNeededFor_a7421_0 l0 l1 G
set_option maxRecDepth 100000 in
theorem tJ5_inflateIfNeededFor_a7421 {l : Launch} (hfl : l.stackTraces = false) (V : Wd) (l0 : Nat) (l1 : Nat) (G : Mem) {r : Unit} {G' : Mem} (h : fJ5_inflateIfNeededFor_a7421 l0 l1 G = some (r, G')) : Mx l yJ5_inflateIfNeededFor_a7421 cJ5_inflateIfNeededFor_a7421 2 none 1 20 V [.ref (V.B + l0), .ref (V.sa l1)] G (.inl none) G' :=
  mx_of (L := [(0, .ref (V.B + l0)), (1, .ref (V.sa l1))]) hfl (by decide +kernel) (Nat.le_of_ble_eq_true rfl) rfl (fun X hl hV hin ok he => by
    subst hl; subst hV
    exact J.sub [0, 1] rfl (jJ5_inflateIfNeededFor_a7421_0 ok l0 l1 G h he))
def fJ5_putStringAt_47b60_0 (l0 : Nat) (l1 : Int32) (l2 : Nat)  (G : Mem) : Option (Unit × Mem) :=
  ck G 18 l0 <| (fJ5_inflateIfNeededFor_a7421 l0 l2 G).bind fun q1 =>
  (gR q1.2 18 l0 0).bind fun v2 =>
  (gF q1.2 18 l0 1).bind fun v3 =>
  ckS l2 <| (fJ0_getBytes_840e7 l2 v2 l1 v3 q1.2).bind fun q4 =>
  some ((), q4.2)

set_option maxRecDepth 100000 in
set_option maxHeartbeats 4000000 in
theorem jJ5_putStringAt_47b60_0 {X : Cx} (ok : OK X cJ5_putStringAt_47b60 RJ5 none 3 2 143) (l0 : Nat) (l1 : Int32) (l2 : Nat)  (G : Mem) {r : Unit} {G' : Mem} (h : fJ5_putStringAt_47b60_0 l0 l1 l2 G = some (r, G')) (hK : (finV X) r G') : J X 3 0 [(0, .ref (X.B + l0)), (1, .int l1), (2, .ref (X.V.sa l2))] [] G := by
  unfold fJ5_putStringAt_47b60_0 at h
  refine j_aload_n ok dJ5_putStringAt_47b60_0 rfl 0 rfl ?_
  refine j_aload_n ok dJ5_putStringAt_47b60_1 rfl 2 rfl ?_
  obtain ⟨kq1, h⟩ := ck_some h
  obtain ⟨q1, hq1, h⟩ := obind h
  refine k_U0 ok kl_J5_397 ⟨Nat.le_of_ble_eq_true rfl, Nat.le_of_ble_eq_true rfl⟩ [.ref (X.V.sa l2)] kq1 rfl rfl (Nat.le_of_ble_eq_true rfl) (tJ5_inflateIfNeededFor_a7421 ok.fl X.V l0 l2 G hq1) dJ5_putStringAt_47b60_2 ?_
  refine j_aload_n ok dJ5_putStringAt_47b60_5 rfl 2 rfl ?_
  refine j_aload_n ok dJ5_putStringAt_47b60_6 rfl 0 rfl ?_
  obtain ⟨v2, hv2, h⟩ := obind h
  refine k_getR ok fl_J5_15 hv2 dJ5_putStringAt_47b60_7 ?_
  refine j_iload_n ok dJ5_putStringAt_47b60_10 rfl 1 rfl ?_
  refine j_aload_n ok dJ5_putStringAt_47b60_11 rfl 0 rfl ?_
  obtain ⟨v3, hv3, h⟩ := obind h
  refine k_getI ok fl_J5_22 hv3 dJ5_putStringAt_47b60_12 ?_
  obtain ⟨kq4, h⟩ := ckS_some h
  obtain ⟨q4, hq4, h⟩ := obind h
  refine k_T0 ok kl_J5_399 ⟨Nat.le_of_ble_eq_true rfl, Nat.le_of_ble_eq_true rfl⟩ [.ref (X.B + v2), .int l1, .int v3] kq4 rfl rfl (Nat.le_of_ble_eq_true rfl) (tJ0_getBytes_840e7 ok.fl X.V l2 v2 l1 v3 q1.2 hq4) dJ5_putStringAt_47b60_15 ?_
  obtain ⟨er, eG⟩ := inj2 h
  subst er; subst eG
  exact j_vret ok rfl dJ5_putStringAt_47b60_18 hK

def fJ5_putStringAt_47b60 (l0 : Nat) (l1 : Int32) (l2 : Nat) (G : Mem) : Option (Unit × Mem) := fJ5_putStringAt_47b60_0 l0 l1 l2 G
set_option maxRecDepth 100000 in
theorem tJ5_putStringAt_47b60 {l : Launch} (hfl : l.stackTraces = false) (V : Wd) (l0 : Nat) (l1 : Int32) (l2 : Nat) (G : Mem) {r : Unit} {G' : Mem} (h : fJ5_putStringAt_47b60 l0 l1 l2 G = some (r, G')) : Mx l yJ5_putStringAt_47b60 cJ5_putStringAt_47b60 3 none 2 143 V [.ref (V.B + l0), .int l1, .ref (V.sa l2)] G (.inl none) G' :=
  mx_of (L := [(0, .ref (V.B + l0)), (1, .int l1), (2, .ref (V.sa l2))]) hfl (by decide +kernel) (Nat.le_of_ble_eq_true rfl) rfl (fun X hl hV hin ok he => by
    subst hl; subst hV
    exact J.sub [0, 1, 2] rfl (jJ5_putStringAt_47b60_0 ok l0 l1 l2 G h he))
def fJ5_append_cf1ce_0 (l0 : Nat) (l1 : Nat)  (G : Mem) : Option (Nat × Mem) :=
  ckS l1 <| (fJ0_length_8abf5 l1 G).bind fun q1 =>
  (gF q1.2 18 l0 3).bind fun v2 =>
  ck q1.2 18 l0 <| (fJ5_ensureCapacityInternal_d00df l0 (v2 + q1.1) q1.2).bind fun q3 =>
  (gF q3.2 18 l0 3).bind fun v4 =>
  ck q3.2 18 l0 <| (fJ5_putStringAt_47b60 l0 v4 l1 q3.2).bind fun q5 =>
  (gF q5.2 18 l0 3).bind fun v6 =>
  (pI q5.2 18 l0 3 (v6 + q1.1)).bind fun G7 =>
  some (l0, G7)

set_option maxRecDepth 100000 in
set_option maxHeartbeats 4000000 in
theorem jJ5_append_cf1ce_0 {X : Cx} (ok : OK X cJ5_append_cf1ce RJ5 (some (.object "java/lang/AbstractStringBuilder")) 3 4 190) (l0 : Nat) (l1 : Nat)  (G : Mem) {r : Nat} {G' : Mem} (h : fJ5_append_cf1ce_0 l0 l1 G = some (r, G')) (hK : (finR X) r G') : J X 3 0 [(0, .ref (X.B + l0)), (1, .ref (X.V.sa l1))] [] G := by
  unfold fJ5_append_cf1ce_0 at h
  refine j_aload_n ok dJ5_append_cf1ce_0 rfl 1 rfl ?_
  refine j_ifnn (tgt := 9) ok dJ5_append_cf1ce_1 (by decide) ?_
  refine j_aload_n ok dJ5_append_cf1ce_9 rfl 1 rfl ?_
  obtain ⟨kq1, h⟩ := ckS_some h
  obtain ⟨q1, hq1, h⟩ := obind h
  refine k_T1 ok kl_J5_32 ⟨Nat.le_of_ble_eq_true rfl, Nat.le_of_ble_eq_true rfl⟩ [] kq1 rfl rfl (Nat.le_of_ble_eq_true rfl) (tJ0_length_8abf5 ok.fl X.V l1 G hq1) dJ5_append_cf1ce_10 ?_
  refine j_istore_n (L' := [(2, .int q1.1), (0, .ref (X.B + l0)), (1, .ref (X.V.sa l1))]) ok dJ5_append_cf1ce_13 rfl (by decide) rfl ?_
  refine j_aload_n ok dJ5_append_cf1ce_14 rfl 1 rfl ?_
  refine j_aload_n ok dJ5_append_cf1ce_15 rfl 1 rfl ?_
  obtain ⟨v2, hv2, h⟩ := obind h
  refine k_getI ok fl_J5_79 hv2 dJ5_append_cf1ce_16 ?_
  refine j_iload_n ok dJ5_append_cf1ce_19 rfl 0 rfl ?_
  refine j_iadd ok dJ5_append_cf1ce_20 ?_
  obtain ⟨kq3, h⟩ := ck_some h
  obtain ⟨q3, hq3, h⟩ := obind h
  refine k_U0 ok kl_J5_100 ⟨Nat.le_of_ble_eq_true rfl, Nat.le_of_ble_eq_true rfl⟩ [.int (v2 + q1.1)] kq3 rfl rfl (Nat.le_of_ble_eq_true rfl) (tJ5_ensureCapacityInternal_d00df ok.fl X.V l0 (v2 + q1.1) q1.2 hq3) dJ5_append_cf1ce_21 ?_
  refine j_aload_n ok dJ5_append_cf1ce_24 rfl 1 rfl ?_
  refine j_aload_n ok dJ5_append_cf1ce_25 rfl 1 rfl ?_
  obtain ⟨v4, hv4, h⟩ := obind h
  refine k_getI ok fl_J5_79 hv4 dJ5_append_cf1ce_26 ?_
  refine j_aload_n ok dJ5_append_cf1ce_29 rfl 2 rfl ?_
  obtain ⟨kq5, h⟩ := ck_some h
  obtain ⟨q5, hq5, h⟩ := obind h
  refine k_U0 ok kl_J5_208 ⟨Nat.le_of_ble_eq_true rfl, Nat.le_of_ble_eq_true rfl⟩ [.int v4, .ref (X.V.sa l1)] kq5 rfl rfl (Nat.le_of_ble_eq_true rfl) (tJ5_putStringAt_47b60 ok.fl X.V l0 v4 l1 q3.2 hq5) dJ5_append_cf1ce_30 ?_
  refine j_aload_n ok dJ5_append_cf1ce_33 rfl 1 rfl ?_
  refine j_dup ok dJ5_append_cf1ce_34 rfl ?_
  obtain ⟨v6, hv6, h⟩ := obind h
  refine k_getI ok fl_J5_79 hv6 dJ5_append_cf1ce_35 ?_
  refine j_iload_n ok dJ5_append_cf1ce_38 rfl 0 rfl ?_
  refine j_iadd ok dJ5_append_cf1ce_39 ?_
  obtain ⟨G7, hG7, h⟩ := obind h
  refine k_putI ok fl_J5_79 fp_X8 rfl (Or.inl rfl) hG7 dJ5_append_cf1ce_40 ?_
  refine j_aload_n ok dJ5_append_cf1ce_43 rfl 1 rfl ?_
  obtain ⟨er, eG⟩ := inj2 h
  subst er; subst eG
  exact j_aret ok rfl (Or.inl ⟨_, rfl⟩) dJ5_append_cf1ce_44 hK

def fJ5_append_cf1ce (l0 : Nat) (l1 : Nat) (G : Mem) : Option (Nat × Mem) := fJ5_append_cf1ce_0 l0 l1 G
set_option maxRecDepth 100000 in
theorem tJ5_append_cf1ce {l : Launch} (hfl : l.stackTraces = false) (V : Wd) (l0 : Nat) (l1 : Nat) (G : Mem) {r : Nat} {G' : Mem} (h : fJ5_append_cf1ce l0 l1 G = some (r, G')) : Mx l yJ5_append_cf1ce cJ5_append_cf1ce 3 (some (.object "java/lang/AbstractStringBuilder")) 4 190 V [.ref (V.B + l0), .ref (V.sa l1)] G (.inl (some (.ref (V.B + r)))) G' :=
  mx_of (L := [(0, .ref (V.B + l0)), (1, .ref (V.sa l1))]) hfl (by decide +kernel) (Nat.le_of_ble_eq_true rfl) rfl (fun X hl hV hin ok he => by
    subst hl; subst hV
    exact J.sub [0, 1] rfl (jJ5_append_cf1ce_0 ok l0 l1 G h he))
