def fJ0_isLatin1_aae02_18  (s0 : Int32) (G : Mem) : Option (Int32 × Mem) :=
  rz s0 <|
  some (s0, G)

set_option maxRecDepth 100000 in
set_option maxHeartbeats 4000000 in
theorem jJ0_isLatin1_aae02_18 {X : Cx} (ok : OK X cJ0_isLatin1_aae02 RJ0 (some .boolean) 1 0 0)  (s0 : Int32) (G : Mem) {r : Int32} {G' : Mem} (h : fJ0_isLatin1_aae02_18 s0 G = some (r, G')) (hK : (finI X) r G') : J X 1 18 [] [.int s0] G := by
  unfold fJ0_isLatin1_aae02_18 at h
  obtain ⟨hz1, h⟩ := rz_some h
  obtain ⟨er, eG⟩ := inj2 h
  subst er; subst eG
  exact j_zret ok rfl hz1 dJ0_isLatin1_aae02_18 hK

def fJ0_isLatin1_aae02_17   (G : Mem) : Option (Int32 × Mem) :=
  fJ0_isLatin1_aae02_18 (0 : Int32) G

set_option maxRecDepth 100000 in
set_option maxHeartbeats 4000000 in
theorem jJ0_isLatin1_aae02_17 {X : Cx} (ok : OK X cJ0_isLatin1_aae02 RJ0 (some .boolean) 1 0 0)   (G : Mem) {r : Int32} {G' : Mem} (h : fJ0_isLatin1_aae02_17  G = some (r, G')) (hK : (finI X) r G') : J X 1 17 [] [] G := by
  unfold fJ0_isLatin1_aae02_17 at h
  refine j_iconst (v := 0) ok dJ0_isLatin1_aae02_17 (by decide) ?_
  exact J.sub [] rfl (jJ0_isLatin1_aae02_18 ok (0 : Int32) G h hK)

def fJ0_isLatin1_aae02_0 (l0 : Nat)  (G : Mem) : Option (Int32 × Mem) :=
  if (1 : Int32) = (0 : Int32) then
    fJ0_isLatin1_aae02_17 G
  else
    ckS l0 <|
    if (0 : Int32) = (0 : Int32) then
      fJ0_isLatin1_aae02_18 (1 : Int32) G
    else
      fJ0_isLatin1_aae02_17 G

set_option maxRecDepth 100000 in
set_option maxHeartbeats 4000000 in
theorem jJ0_isLatin1_aae02_0 {X : Cx} (ok : OK X cJ0_isLatin1_aae02 RJ0 (some .boolean) 1 0 0) (l0 : Nat)  (G : Mem) {r : Int32} {G' : Mem} (h : fJ0_isLatin1_aae02_0 l0 G = some (r, G')) (hK : (finI X) r G') : J X 1 0 [(0, .ref (X.V.sa l0))] [] G := by
  unfold fJ0_isLatin1_aae02_0 at h
  refine k_gets1 ok wf_J0_38 dJ0_isLatin1_aae02_0 ?_
  rcases ite_some h with ⟨c1, h⟩ | ⟨c1, h⟩
  · refine j_if_eq (tgt := 17) ok dJ0_isLatin1_aae02_3 (by decide) (fun _ => ?_) (fun z => absurd c1 z)
    exact J.sub [] rfl (jJ0_isLatin1_aae02_17 ok G h hK)
  · refine j_if_eq (tgt := 17) ok dJ0_isLatin1_aae02_3 (by decide) (fun z => absurd z c1) (fun _ => ?_)
    refine j_aload_n ok dJ0_isLatin1_aae02_6 rfl 0 rfl ?_
    obtain ⟨hs2, h⟩ := ckS_some h
    refine k_scod ok hs2 wf_J0_15 dJ0_isLatin1_aae02_7 ?_
    rcases ite_some h with ⟨c3, h⟩ | ⟨c3, h⟩
    · refine j_if_ne (tgt := 17) ok dJ0_isLatin1_aae02_10 (by decide) (fun z => absurd c3 z) (fun _ => ?_)
      refine j_iconst (v := 1) ok dJ0_isLatin1_aae02_13 (by decide) ?_
      refine j_goto (tgt := 18) ok dJ0_isLatin1_aae02_14 (by decide) ?_
      exact J.sub [] rfl (jJ0_isLatin1_aae02_18 ok (1 : Int32) G h hK)
    · refine j_if_ne (tgt := 17) ok dJ0_isLatin1_aae02_10 (by decide) (fun _ => ?_) (fun z => absurd z c3)
      exact J.sub [] rfl (jJ0_isLatin1_aae02_17 ok G h hK)

def fJ0_isLatin1_aae02 (l0 : Nat) (G : Mem) : Option (Int32 × Mem) := fJ0_isLatin1_aae02_0 l0 G
set_option maxRecDepth 100000 in
theorem tJ0_isLatin1_aae02 {l : Launch} (hfl : l.stackTraces = false) (V : Wd) (l0 : Nat) (G : Mem) {r : Int32} {G' : Mem} (h : fJ0_isLatin1_aae02 l0 G = some (r, G')) : Mx l yJ0_isLatin1_aae02 cJ0_isLatin1_aae02 1 (some .boolean) 0 0 V [.ref (V.sa l0)] G (.inl (some (.int r))) G' :=
  mx_of (L := [(0, .ref (V.sa l0))]) hfl (by decide +kernel) (Nat.le_of_ble_eq_true rfl) rfl (fun X hl hV hin ok he => by
    subst hl; subst hV
    exact J.sub [0] rfl (jJ0_isLatin1_aae02_0 ok l0 G h he))
def fJ3_checkIndex_8e157_9   (G : Mem) : Option (Int32 × Mem) :=
  none

set_option maxRecDepth 100000 in
set_option maxHeartbeats 4000000 in
theorem jJ3_checkIndex_8e157_9 {X : Cx} (ok : OK X cJ3_checkIndex_8e157 RJ3 (some .int) 3 0 0)   (G : Mem) {r : Int32} {G' : Mem} (h : fJ3_checkIndex_8e157_9  G = some (r, G')) (hK : (finI X) r G') : J X 3 9 [] [] G := by
  unfold fJ3_checkIndex_8e157_9 at h
  cases h

def fJ3_checkIndex_8e157_0 (l0 : Int32) (l1 : Int32)  (G : Mem) : Option (Int32 × Mem) :=
  if l0 < (0 : Int32) then
    fJ3_checkIndex_8e157_9 G
  else
    if l0 < l1 then
      some (l0, G)
    else
      fJ3_checkIndex_8e157_9 G

set_option maxRecDepth 100000 in
set_option maxHeartbeats 4000000 in
theorem jJ3_checkIndex_8e157_0 {X : Cx} (ok : OK X cJ3_checkIndex_8e157 RJ3 (some .int) 3 0 0) (l0 : Int32) (l1 : Int32)  (G : Mem) {r : Int32} {G' : Mem} (h : fJ3_checkIndex_8e157_0 l0 l1 G = some (r, G')) (hK : (finI X) r G') : J X 3 0 [(0, .int l0), (1, .int l1)] [] G := by
  unfold fJ3_checkIndex_8e157_0 at h
  refine j_iload_n ok dJ3_checkIndex_8e157_0 rfl 0 rfl ?_
  rcases ite_some h with ⟨c1, h⟩ | ⟨c1, h⟩
  · refine j_if_lt (tgt := 9) ok dJ3_checkIndex_8e157_1 (by decide) (fun _ => ?_) (fun z => absurd c1 z)
    exact J.sub [] rfl (jJ3_checkIndex_8e157_9 ok G h hK)
  · refine j_if_lt (tgt := 9) ok dJ3_checkIndex_8e157_1 (by decide) (fun z => absurd z c1) (fun _ => ?_)
    refine j_iload_n ok dJ3_checkIndex_8e157_4 rfl 0 rfl ?_
    refine j_iload_n ok dJ3_checkIndex_8e157_5 rfl 1 rfl ?_
    rcases ite_some h with ⟨c2, h⟩ | ⟨c2, h⟩
    · refine j_icmp_lt (tgt := 16) ok dJ3_checkIndex_8e157_6 (by decide) (fun _ => ?_) (fun z => absurd c2 z)
      refine j_iload_n ok dJ3_checkIndex_8e157_16 rfl 0 rfl ?_
      obtain ⟨er, eG⟩ := inj2 h
      subst er; subst eG
      exact j_iret ok rfl dJ3_checkIndex_8e157_17 hK
    · refine j_icmp_lt (tgt := 16) ok dJ3_checkIndex_8e157_6 (by decide) (fun z => absurd z c2) (fun _ => ?_)
      exact J.sub [] rfl (jJ3_checkIndex_8e157_9 ok G h hK)

def fJ3_checkIndex_8e157 (l0 : Int32) (l1 : Int32) (G : Mem) : Option (Int32 × Mem) := fJ3_checkIndex_8e157_0 l0 l1 G
set_option maxRecDepth 100000 in
theorem tJ3_checkIndex_8e157 {l : Launch} (hfl : l.stackTraces = false) (V : Wd) (l0 : Int32) (l1 : Int32) (G : Mem) {r : Int32} {G' : Mem} (h : fJ3_checkIndex_8e157 l0 l1 G = some (r, G')) : Mx l yJ3_checkIndex_8e157 cJ3_checkIndex_8e157 3 (some .int) 0 0 V [.int l0, .int l1, va_rf V.fm] G (.inl (some (.int r))) G' := by
  rcases h9 : V.fm with _ | z
  · exact mx_of (L := [(0, .int l0), (1, .int l1), (2, va_rf none)]) hfl (by decide +kernel) (Nat.le_of_ble_eq_true rfl) rfl (fun X hl hV hin ok he => by
        subst hl; subst hV
        exact J.sub [0, 1] rfl (jJ3_checkIndex_8e157_0 ok l0 l1 G h he))
  · exact mx_of (L := [(0, .int l0), (1, .int l1), (2, va_rf (some z))]) hfl (by decide +kernel) (Nat.le_of_ble_eq_true rfl) rfl (fun X hl hV hin ok he => by
        subst hl; subst hV
        exact J.sub [0, 1] rfl (jJ3_checkIndex_8e157_0 ok l0 l1 G h he))

def fJ0_checkIndex_df160_0 (l0 : Int32) (l1 : Int32)  (G : Mem) : Option (Unit × Mem) :=
  (fJ3_checkIndex_8e157 l0 l1 G).bind fun q1 =>
  some ((), q1.2)

set_option maxRecDepth 100000 in
set_option maxHeartbeats 4000000 in
theorem jJ0_checkIndex_df160_0 {X : Cx} (ok : OK X cJ0_checkIndex_df160 RJ0 none 2 1 22) (l0 : Int32) (l1 : Int32)  (G : Mem) {r : Unit} {G' : Mem} (h : fJ0_checkIndex_df160_0 l0 l1 G = some (r, G')) (hK : (finV X) r G') : J X 2 0 [(0, .int l0), (1, .int l1)] [] G := by
  unfold fJ0_checkIndex_df160_0 at h
  refine j_iload_n ok dJ0_checkIndex_df160_0 rfl 0 rfl ?_
  refine j_iload_n ok dJ0_checkIndex_df160_1 rfl 1 rfl ?_
  refine k_getsF ok wf_J0_1053 dJ0_checkIndex_df160_2 ?_
  obtain ⟨q1, hq1, h⟩ := obind h
  refine k_S1 ok kl_J0_1059 ⟨Nat.le_of_ble_eq_true rfl, Nat.le_of_ble_eq_true rfl⟩ [.int l0, .int l1, va_rf X.V.fm] rfl rfl (Nat.le_of_ble_eq_true rfl) (tJ3_checkIndex_8e157 ok.fl X.V l0 l1 G hq1) dJ0_checkIndex_df160_5 ?_
  refine j_pop ok dJ0_checkIndex_df160_8 rfl ?_
  obtain ⟨er, eG⟩ := inj2 h
  subst er; subst eG
  exact j_vret ok rfl dJ0_checkIndex_df160_9 hK

def fJ0_checkIndex_df160 (l0 : Int32) (l1 : Int32) (G : Mem) : Option (Unit × Mem) := fJ0_checkIndex_df160_0 l0 l1 G
set_option maxRecDepth 100000 in
theorem tJ0_checkIndex_df160 {l : Launch} (hfl : l.stackTraces = false) (V : Wd) (l0 : Int32) (l1 : Int32) (G : Mem) {r : Unit} {G' : Mem} (h : fJ0_checkIndex_df160 l0 l1 G = some (r, G')) : Mx l yJ0_checkIndex_df160 cJ0_checkIndex_df160 2 none 1 22 V [.int l0, .int l1] G (.inl none) G' :=
  mx_of (L := [(0, .int l0), (1, .int l1)]) hfl (by decide +kernel) (Nat.le_of_ble_eq_true rfl) rfl (fun X hl hV hin ok he => by
    subst hl; subst hV
    exact J.sub [0, 1] rfl (jJ0_checkIndex_df160_0 ok l0 l1 G h he))
def fJ1_charAt_3b067_0 (l0 : Nat) (l1 : Int32)  (G : Mem) : Option (Int32 × Mem) :=
  (slen l0).bind fun v1 =>
  (fJ0_checkIndex_df160 l1 v1 G).bind fun q2 =>
  (sbyt l0 l1).bind fun v3 =>
  rc (((v3 &&& (255 : Int32)).toUInt32 % 65536).toInt32) <|
  some ((((v3 &&& (255 : Int32)).toUInt32 % 65536).toInt32), q2.2)

set_option maxRecDepth 100000 in
set_option maxHeartbeats 4000000 in
theorem jJ1_charAt_3b067_0 {X : Cx} (ok : OK X cJ1_charAt_3b067 RJ1 (some .char) 2 2 43) (l0 : Nat) (l1 : Int32)  (G : Mem) {r : Int32} {G' : Mem} (h : fJ1_charAt_3b067_0 l0 l1 G = some (r, G')) (hK : (finI X) r G') : J X 2 0 [(0, .ref (X.V.sb l0)), (1, .int l1)] [] G := by
  unfold fJ1_charAt_3b067_0 at h
  refine j_iload_n ok dJ1_charAt_3b067_0 rfl 1 rfl ?_
  refine j_aload_n ok dJ1_charAt_3b067_1 rfl 0 rfl ?_
  obtain ⟨v1, hv1, h⟩ := obind h
  refine k_salen ok hv1 dJ1_charAt_3b067_2 ?_
  obtain ⟨q2, hq2, h⟩ := obind h
  refine k_S0 ok kl_J1_9 ⟨Nat.le_of_ble_eq_true rfl, Nat.le_of_ble_eq_true rfl⟩ [.int l1, .int v1] rfl rfl (Nat.le_of_ble_eq_true rfl) (tJ0_checkIndex_df160 ok.fl X.V l1 v1 G hq2) dJ1_charAt_3b067_3 ?_
  refine j_aload_n ok dJ1_charAt_3b067_6 rfl 0 rfl ?_
  refine j_iload_n ok dJ1_charAt_3b067_7 rfl 1 rfl ?_
  obtain ⟨v3, hv3, h⟩ := obind h
  refine k_sald ok hv3 dJ1_charAt_3b067_8 ?_
  refine j_sipush (v := 255) ok dJ1_charAt_3b067_9 (by decide) ?_
  refine j_iand ok dJ1_charAt_3b067_12 ?_
  refine j_i2c ok dJ1_charAt_3b067_13 ?_
  obtain ⟨hz4, h⟩ := rc_some h
  obtain ⟨er, eG⟩ := inj2 h
  subst er; subst eG
  exact j_cret ok rfl hz4 dJ1_charAt_3b067_14 hK

def fJ1_charAt_3b067 (l0 : Nat) (l1 : Int32) (G : Mem) : Option (Int32 × Mem) := fJ1_charAt_3b067_0 l0 l1 G
set_option maxRecDepth 100000 in
theorem tJ1_charAt_3b067 {l : Launch} (hfl : l.stackTraces = false) (V : Wd) (l0 : Nat) (l1 : Int32) (G : Mem) {r : Int32} {G' : Mem} (h : fJ1_charAt_3b067 l0 l1 G = some (r, G')) : Mx l yJ1_charAt_3b067 cJ1_charAt_3b067 2 (some .char) 2 43 V [.ref (V.sb l0), .int l1] G (.inl (some (.int r))) G' :=
  mx_of (L := [(0, .ref (V.sb l0)), (1, .int l1)]) hfl (by decide +kernel) (Nat.le_of_ble_eq_true rfl) rfl (fun X hl hV hin ok he => by
    subst hl; subst hV
    exact J.sub [0, 1] rfl (jJ1_charAt_3b067_0 ok l0 l1 G h he))
def fJ0_charAt_5068e_0 (l0 : Nat) (l1 : Int32)  (G : Mem) : Option (Int32 × Mem) :=
  ckS l0 <| (fJ0_isLatin1_aae02 l0 G).bind fun q1 =>
  if q1.1 = (0 : Int32) then
    ckS l0 <|
    none
  else
    ckS l0 <|
    (fJ1_charAt_3b067 l0 l1 q1.2).bind fun q4 =>
    rc q4.1 <|
    some (q4.1, q4.2)

set_option maxRecDepth 100000 in
set_option maxHeartbeats 4000000 in
theorem jJ0_charAt_5068e_0 {X : Cx} (ok : OK X cJ0_charAt_5068e RJ0 (some .char) 2 3 64) (l0 : Nat) (l1 : Int32)  (G : Mem) {r : Int32} {G' : Mem} (h : fJ0_charAt_5068e_0 l0 l1 G = some (r, G')) (hK : (finI X) r G') : J X 2 0 [(0, .ref (X.V.sa l0)), (1, .int l1)] [] G := by
  unfold fJ0_charAt_5068e_0 at h
  refine j_aload_n ok dJ0_charAt_5068e_0 rfl 0 rfl ?_
  obtain ⟨kq1, h⟩ := ckS_some h
  obtain ⟨q1, hq1, h⟩ := obind h
  refine k_T1 ok kl_J0_492 ⟨Nat.le_of_ble_eq_true rfl, Nat.le_of_ble_eq_true rfl⟩ [] kq1 rfl rfl (Nat.le_of_ble_eq_true rfl) (tJ0_isLatin1_aae02 ok.fl X.V l0 G hq1) dJ0_charAt_5068e_1 ?_
  rcases ite_some h with ⟨c2, h⟩ | ⟨c2, h⟩
  · refine j_if_eq (tgt := 16) ok dJ0_charAt_5068e_4 (by decide) (fun _ => ?_) (fun z => absurd c2 z)
    refine j_aload_n ok dJ0_charAt_5068e_16 rfl 0 rfl ?_
    obtain ⟨hs3, h⟩ := ckS_some h
    refine k_sval ok hs3 wf_J0_9 dJ0_charAt_5068e_17 ?_
    refine j_iload_n ok dJ0_charAt_5068e_20 rfl 1 rfl ?_
    cases h
  · refine j_if_eq (tgt := 16) ok dJ0_charAt_5068e_4 (by decide) (fun z => absurd z c2) (fun _ => ?_)
    refine j_aload_n ok dJ0_charAt_5068e_7 rfl 0 rfl ?_
    obtain ⟨hs3, h⟩ := ckS_some h
    refine k_sval ok hs3 wf_J0_9 dJ0_charAt_5068e_8 ?_
    refine j_iload_n ok dJ0_charAt_5068e_11 rfl 1 rfl ?_
    obtain ⟨q4, hq4, h⟩ := obind h
    refine k_S1 ok kl_J0_495 ⟨Nat.le_of_ble_eq_true rfl, Nat.le_of_ble_eq_true rfl⟩ [.ref (X.V.sb l0), .int l1] rfl rfl (Nat.le_of_ble_eq_true rfl) (tJ1_charAt_3b067 ok.fl X.V l0 l1 q1.2 hq4) dJ0_charAt_5068e_12 ?_
    obtain ⟨hz5, h⟩ := rc_some h
    obtain ⟨er, eG⟩ := inj2 h
    subst er; subst eG
    exact j_cret ok rfl hz5 dJ0_charAt_5068e_15 hK

def fJ0_charAt_5068e (l0 : Nat) (l1 : Int32) (G : Mem) : Option (Int32 × Mem) := fJ0_charAt_5068e_0 l0 l1 G
set_option maxRecDepth 100000 in
theorem tJ0_charAt_5068e {l : Launch} (hfl : l.stackTraces = false) (V : Wd) (l0 : Nat) (l1 : Int32) (G : Mem) {r : Int32} {G' : Mem} (h : fJ0_charAt_5068e l0 l1 G = some (r, G')) : Mx l yJ0_charAt_5068e cJ0_charAt_5068e 2 (some .char) 3 64 V [.ref (V.sa l0), .int l1] G (.inl (some (.int r))) G' :=
  mx_of (L := [(0, .ref (V.sa l0)), (1, .int l1)]) hfl (by decide +kernel) (Nat.le_of_ble_eq_true rfl) rfl (fun X hl hV hin ok he => by
    subst hl; subst hV
    exact J.sub [0, 1] rfl (jJ0_charAt_5068e_0 ok l0 l1 G h he))
def fJ0_coder_7d493_14  (s0 : Int32) (G : Mem) : Option (Int32 × Mem) :=
  rz s0 <|
  some (s0, G)

set_option maxRecDepth 100000 in
set_option maxHeartbeats 4000000 in
theorem jJ0_coder_7d493_14 {X : Cx} (ok : OK X cJ0_coder_7d493 RJ0 (some .byte) 1 0 0)  (s0 : Int32) (G : Mem) {r : Int32} {G' : Mem} (h : fJ0_coder_7d493_14 s0 G = some (r, G')) (hK : (finI X) r G') : J X 1 14 [] [.int s0] G := by
  unfold fJ0_coder_7d493_14 at h
  obtain ⟨hz1, h⟩ := rz_some h
  obtain ⟨er, eG⟩ := inj2 h
  subst er; subst eG
  exact j_bret ok rfl hz1 dJ0_coder_7d493_14 hK

def fJ0_coder_7d493_0 (l0 : Nat)  (G : Mem) : Option (Int32 × Mem) :=
  if (1 : Int32) = (0 : Int32) then
    fJ0_coder_7d493_14 (1 : Int32) G
  else
    ckS l0 <|
    fJ0_coder_7d493_14 (0 : Int32) G

set_option maxRecDepth 100000 in
set_option maxHeartbeats 4000000 in
theorem jJ0_coder_7d493_0 {X : Cx} (ok : OK X cJ0_coder_7d493 RJ0 (some .byte) 1 0 0) (l0 : Nat)  (G : Mem) {r : Int32} {G' : Mem} (h : fJ0_coder_7d493_0 l0 G = some (r, G')) (hK : (finI X) r G') : J X 1 0 [(0, .ref (X.V.sa l0))] [] G := by
  unfold fJ0_coder_7d493_0 at h
  refine k_gets1 ok wf_J0_38 dJ0_coder_7d493_0 ?_
  rcases ite_some h with ⟨c1, h⟩ | ⟨c1, h⟩
  · refine j_if_eq (tgt := 13) ok dJ0_coder_7d493_3 (by decide) (fun _ => ?_) (fun z => absurd c1 z)
    refine j_iconst (v := 1) ok dJ0_coder_7d493_13 (by decide) ?_
    exact J.sub [] rfl (jJ0_coder_7d493_14 ok (1 : Int32) G h hK)
  · refine j_if_eq (tgt := 13) ok dJ0_coder_7d493_3 (by decide) (fun z => absurd z c1) (fun _ => ?_)
    refine j_aload_n ok dJ0_coder_7d493_6 rfl 0 rfl ?_
    obtain ⟨hs2, h⟩ := ckS_some h
    refine k_scod ok hs2 wf_J0_15 dJ0_coder_7d493_7 ?_
    refine j_goto (tgt := 14) ok dJ0_coder_7d493_10 (by decide) ?_
    exact J.sub [] rfl (jJ0_coder_7d493_14 ok (0 : Int32) G h hK)

def fJ0_coder_7d493 (l0 : Nat) (G : Mem) : Option (Int32 × Mem) := fJ0_coder_7d493_0 l0 G
set_option maxRecDepth 100000 in
theorem tJ0_coder_7d493 {l : Launch} (hfl : l.stackTraces = false) (V : Wd) (l0 : Nat) (G : Mem) {r : Int32} {G' : Mem} (h : fJ0_coder_7d493 l0 G = some (r, G')) : Mx l yJ0_coder_7d493 cJ0_coder_7d493 1 (some .byte) 0 0 V [.ref (V.sa l0)] G (.inl (some (.int r))) G' :=
  mx_of (L := [(0, .ref (V.sa l0))]) hfl (by decide +kernel) (Nat.le_of_ble_eq_true rfl) rfl (fun X hl hV hin ok he => by
    subst hl; subst hV
    exact J.sub [0] rfl (jJ0_coder_7d493_0 ok l0 G h he))
def fJ0_length_8abf5_0 (l0 : Nat)  (G : Mem) : Option (Int32 × Mem) :=
  ckS l0 <|
  (slen l0).bind fun v2 =>
  ckS l0 <| (fJ0_coder_7d493 l0 G).bind fun q3 =>
  some ((v2 >>> (q3.1 &&& 31)), q3.2)

set_option maxRecDepth 100000 in
set_option maxHeartbeats 4000000 in
theorem jJ0_length_8abf5_0 {X : Cx} (ok : OK X cJ0_length_8abf5 RJ0 (some .int) 1 1 20) (l0 : Nat)  (G : Mem) {r : Int32} {G' : Mem} (h : fJ0_length_8abf5_0 l0 G = some (r, G')) (hK : (finI X) r G') : J X 1 0 [(0, .ref (X.V.sa l0))] [] G := by
  unfold fJ0_length_8abf5_0 at h
  refine j_aload_n ok dJ0_length_8abf5_0 rfl 0 rfl ?_
  obtain ⟨hs1, h⟩ := ckS_some h
  refine k_sval ok hs1 wf_J0_9 dJ0_length_8abf5_1 ?_
  obtain ⟨v2, hv2, h⟩ := obind h
  refine k_salen ok hv2 dJ0_length_8abf5_4 ?_
  refine j_aload_n ok dJ0_length_8abf5_5 rfl 0 rfl ?_
  obtain ⟨kq3, h⟩ := ckS_some h
  obtain ⟨q3, hq3, h⟩ := obind h
  refine k_T1 ok kl_J0_335 ⟨Nat.le_of_ble_eq_true rfl, Nat.le_of_ble_eq_true rfl⟩ [] kq3 rfl rfl (Nat.le_of_ble_eq_true rfl) (tJ0_coder_7d493 ok.fl X.V l0 G hq3) dJ0_length_8abf5_6 ?_
  refine j_ishr ok dJ0_length_8abf5_9 ?_
  obtain ⟨er, eG⟩ := inj2 h
  subst er; subst eG
  exact j_iret ok rfl dJ0_length_8abf5_10 hK

def fJ0_length_8abf5 (l0 : Nat) (G : Mem) : Option (Int32 × Mem) := fJ0_length_8abf5_0 l0 G
set_option maxRecDepth 100000 in
theorem tJ0_length_8abf5 {l : Launch} (hfl : l.stackTraces = false) (V : Wd) (l0 : Nat) (G : Mem) {r : Int32} {G' : Mem} (h : fJ0_length_8abf5 l0 G = some (r, G')) : Mx l yJ0_length_8abf5 cJ0_length_8abf5 1 (some .int) 1 20 V [.ref (V.sa l0)] G (.inl (some (.int r))) G' :=
  mx_of (L := [(0, .ref (V.sa l0))]) hfl (by decide +kernel) (Nat.le_of_ble_eq_true rfl) rfl (fun X hl hV hin ok he => by
    subst hl; subst hV
    exact J.sub [0] rfl (jJ0_length_8abf5_0 ok l0 G h he))
def fJ6_signum_0f7a4_0 (l0 : Int32)  (G : Mem) : Option (Int32 × Mem) :=
  some (((l0 >>> ((31 : Int32) &&& 31)) ||| (((-l0).toUInt32 >>> ((31 : Int32).toUInt32 &&& Int32.toUInt32 31)).toInt32)), G)

set_option maxRecDepth 100000 in
set_option maxHeartbeats 4000000 in
theorem jJ6_signum_0f7a4_0 {X : Cx} (ok : OK X cJ6_signum_0f7a4 RJ6 (some .int) 1 0 0) (l0 : Int32)  (G : Mem) {r : Int32} {G' : Mem} (h : fJ6_signum_0f7a4_0 l0 G = some (r, G')) (hK : (finI X) r G') : J X 1 0 [(0, .int l0)] [] G := by
  unfold fJ6_signum_0f7a4_0 at h
  refine j_iload_n ok dJ6_signum_0f7a4_0 rfl 0 rfl ?_
  refine j_bipush (v := 31) ok dJ6_signum_0f7a4_1 (by decide) ?_
  refine j_ishr ok dJ6_signum_0f7a4_3 ?_
  refine j_iload_n ok dJ6_signum_0f7a4_4 rfl 0 rfl ?_
  refine j_ineg ok dJ6_signum_0f7a4_5 ?_
  refine j_bipush (v := 31) ok dJ6_signum_0f7a4_6 (by decide) ?_
  refine j_iushr ok dJ6_signum_0f7a4_8 ?_
  refine j_ior ok dJ6_signum_0f7a4_9 ?_
  obtain ⟨er, eG⟩ := inj2 h
  subst er; subst eG
  exact j_iret ok rfl dJ6_signum_0f7a4_10 hK

def fJ6_signum_0f7a4 (l0 : Int32) (G : Mem) : Option (Int32 × Mem) := fJ6_signum_0f7a4_0 l0 G
set_option maxRecDepth 100000 in
theorem tJ6_signum_0f7a4 {l : Launch} (hfl : l.stackTraces = false) (V : Wd) (l0 : Int32) (G : Mem) {r : Int32} {G' : Mem} (h : fJ6_signum_0f7a4 l0 G = some (r, G')) : Mx l yJ6_signum_0f7a4 cJ6_signum_0f7a4 1 (some .int) 0 0 V [.int l0] G (.inl (some (.int r))) G' :=
  mx_of (L := [(0, .int l0)]) hfl (by decide +kernel) (Nat.le_of_ble_eq_true rfl) rfl (fun X hl hV hin ok he => by
    subst hl; subst hV
    exact J.sub [0] rfl (jJ6_signum_0f7a4_0 ok l0 G h he))
def fJ7_copyOf_59c91_0 (l0 : Nat) (l1 : Int32)  (G : Mem) : Option (Nat × Mem) :=
  (gL G l0).bind fun v1 =>
  if l1 = v1 then
    none
  else
    (nA G 1 l1).bind fun q3 =>
    (gL q3.2 l0).bind fun v4 =>
    (cpI q3.2 l0 (0 : Int32) q3.1 (0 : Int32) (if l1 < v4 then l1 else v4)).bind fun G5 =>
    some (q3.1, G5)

set_option maxRecDepth 100000 in
set_option maxHeartbeats 4000000 in
theorem jJ7_copyOf_59c91_0 {X : Cx} (ok : OK X cJ7_copyOf_59c91 RJ7 (some (.array .int)) 3 1 120) (l0 : Nat) (l1 : Int32)  (G : Mem) {r : Nat} {G' : Mem} (h : fJ7_copyOf_59c91_0 l0 l1 G = some (r, G')) (hK : (finR X) r G') : J X 3 0 [(0, .ref (X.B + l0)), (1, .int l1)] [] G := by
  unfold fJ7_copyOf_59c91_0 at h
  refine j_iload_n ok dJ7_copyOf_59c91_0 rfl 1 rfl ?_
  refine j_aload_n ok dJ7_copyOf_59c91_1 rfl 0 rfl ?_
  obtain ⟨v1, hv1, h⟩ := obind h
  refine j_alen ok hv1 dJ7_copyOf_59c91_2 ?_
  rcases ite_some h with ⟨c2, h⟩ | ⟨c2, h⟩
  · refine j_icmp_ne (tgt := 14) ok dJ7_copyOf_59c91_3 (by decide) (fun z => absurd c2 z) (fun _ => ?_)
    refine j_aload_n ok dJ7_copyOf_59c91_6 rfl 0 rfl ?_
    cases h
  · refine j_icmp_ne (tgt := 14) ok dJ7_copyOf_59c91_3 (by decide) (fun _ => ?_) (fun z => absurd z c2)
    refine j_iload_n ok dJ7_copyOf_59c91_14 rfl 1 rfl ?_
    obtain ⟨q3, hq3, h⟩ := obind h
    refine k_newaT ok (t := 1) (Or.inl ⟨rfl, rfl⟩) wa_1 hq3 dJ7_copyOf_59c91_15 ?_
    refine j_astore_n (L' := [(2, .ref (X.B + q3.1)), (0, .ref (X.B + l0)), (1, .int l1)]) ok dJ7_copyOf_59c91_17 rfl (by decide) rfl ?_
    refine j_aload_n ok dJ7_copyOf_59c91_18 rfl 1 rfl ?_
    refine j_iconst (v := 0) ok dJ7_copyOf_59c91_19 (by decide) ?_
    refine j_aload_n ok dJ7_copyOf_59c91_20 rfl 0 rfl ?_
    refine j_iconst (v := 0) ok dJ7_copyOf_59c91_21 (by decide) ?_
    refine j_aload_n ok dJ7_copyOf_59c91_22 rfl 1 rfl ?_
    obtain ⟨v4, hv4, h⟩ := obind h
    refine j_alen ok hv4 dJ7_copyOf_59c91_23 ?_
    refine j_iload_n ok dJ7_copyOf_59c91_24 rfl 2 rfl ?_
    refine k_mmin ok wm_J7_304 (Nat.le_of_ble_eq_true rfl) (Nat.le_of_ble_eq_true rfl) (Nat.le_of_ble_eq_true rfl) dJ7_copyOf_59c91_25 ?_
    obtain ⟨G5, hG5, h⟩ := obind h
    refine k_cpI ok wm_J7_150 (Nat.le_of_ble_eq_true rfl) (Nat.le_of_ble_eq_true rfl) (Nat.le_of_ble_eq_true rfl) hG5 dJ7_copyOf_59c91_28 ?_
    refine j_aload_n ok dJ7_copyOf_59c91_31 rfl 0 rfl ?_
    obtain ⟨er, eG⟩ := inj2 h
    subst er; subst eG
    exact j_aret ok rfl (Or.inr ⟨_, rfl⟩) dJ7_copyOf_59c91_32 hK

def fJ7_copyOf_59c91 (l0 : Nat) (l1 : Int32) (G : Mem) : Option (Nat × Mem) := fJ7_copyOf_59c91_0 l0 l1 G
set_option maxRecDepth 100000 in
theorem tJ7_copyOf_59c91 {l : Launch} (hfl : l.stackTraces = false) (V : Wd) (l0 : Nat) (l1 : Int32) (G : Mem) {r : Nat} {G' : Mem} (h : fJ7_copyOf_59c91 l0 l1 G = some (r, G')) : Mx l yJ7_copyOf_59c91 cJ7_copyOf_59c91 3 (some (.array .int)) 1 120 V [.ref (V.B + l0), .int l1] G (.inl (some (.ref (V.B + r)))) G' :=
  mx_of (L := [(0, .ref (V.B + l0)), (1, .int l1)]) hfl (by decide +kernel) (Nat.le_of_ble_eq_true rfl) rfl (fun X hl hV hin ok he => by
    subst hl; subst hV
    exact J.sub [0, 1] rfl (jJ7_copyOf_59c91_0 ok l0 l1 G h he))
def fJ7_fill_53178_20   (G : Mem) : Option (Unit × Mem) :=
  some ((), G)

set_option maxRecDepth 100000 in
set_option maxHeartbeats 4000000 in
theorem jJ7_fill_53178_20 {X : Cx} (ok : OK X cJ7_fill_53178 RJ7 none 4 0 0)   (G : Mem) {r : Unit} {G' : Mem} (h : fJ7_fill_53178_20  G = some (r, G')) (hK : (finV X) r G') : J X 4 20 [] [] G := by
  unfold fJ7_fill_53178_20 at h
  obtain ⟨er, eG⟩ := inj2 h
  subst er; subst eG
  exact j_vret ok rfl dJ7_fill_53178_20 hK

def fJ7_fill_53178_5 (l0 : Nat) (l1 : Int32) (l2 : Int32) (l3 : Int32)  (G : Mem) : Option (((Int32) ⊕ Unit) × Mem) :=
  if l3 ≤ l2 then
    liftE (fJ7_fill_53178_20 G)
  else
    (pA G l0 l2 l1).bind fun G2 =>
    some (.inl ((l2 + (1 : Int32))), G2)

set_option maxRecDepth 100000 in
set_option maxHeartbeats 4000000 in
theorem jJ7_fill_53178_5 {X : Cx} (ok : OK X cJ7_fill_53178 RJ7 none 4 0 0) (l0 : Nat) (l1 : Int32) (l2 : Int32) (l3 : Int32)  (G : Mem) {r : ((Int32) ⊕ Unit)} {G' : Mem} (h : fJ7_fill_53178_5 l0 l1 l2 l3 G = some (r, G')) (hK : (finL X 4 5 (fun s : Int32 => [(0, .ref (X.B + l0)), (1, .int l1), (2, .int s), (3, .int l3)]) (finV X)) r G') : J X 4 5 [(0, .ref (X.B + l0)), (1, .int l1), (2, .int l2), (3, .int l3)] [] G := by
  unfold fJ7_fill_53178_5 at h
  refine j_iload_n ok dJ7_fill_53178_5 rfl 2 rfl ?_
  refine j_iload_n ok dJ7_fill_53178_6 rfl 3 rfl ?_
  rcases ite_some h with ⟨c1, h⟩ | ⟨c1, h⟩
  · refine j_icmp_ge (tgt := 20) ok dJ7_fill_53178_7 (by decide) (fun _ => ?_) (fun z => absurd c1 z)
    obtain ⟨r1, e1, h1⟩ := lift_some h
    subst e1
    exact J.sub [] rfl (jJ7_fill_53178_20 ok G h1 hK)
  · refine j_icmp_ge (tgt := 20) ok dJ7_fill_53178_7 (by decide) (fun z => absurd z c1) (fun _ => ?_)
    refine j_aload_n ok dJ7_fill_53178_10 rfl 0 rfl ?_
    refine j_iload_n ok dJ7_fill_53178_11 rfl 2 rfl ?_
    refine j_iload_n ok dJ7_fill_53178_12 rfl 1 rfl ?_
    obtain ⟨G2, hG2, h⟩ := obind h
    refine j_iast ok hG2 dJ7_fill_53178_13 ?_
    refine j_iinc (L' := [(2, .int (l2 + (1 : Int32))), (0, .ref (X.B + l0)), (1, .int l1), (3, .int l3)]) (v := (l2 + (1 : Int32))) ok dJ7_fill_53178_14 (q := 2) rfl rfl (by decide) rfl ?_
    refine j_goto (tgt := 5) ok dJ7_fill_53178_17 (by decide) ?_
    obtain ⟨er, eG⟩ := inj2 h
    subst er; subst eG
    have hJ : J X 4 5 [(0, .ref (X.B + l0)), (1, .int l1), (2, .int (l2 + (1 : Int32))), (3, .int l3)] [] G2 := hK
    exact J.sub [1, 2, 0, 3] rfl hJ

def fJ7_fill_53178_0 (l0 : Nat) (l1 : Int32)  (G : Mem) : Option (Unit × Mem) :=
  (gL G l0).bind fun v1 =>
  loopM (fun (s : Int32) G => fJ7_fill_53178_5 l0 l1 s v1 G) FU ((0 : Int32)) G

set_option maxRecDepth 100000 in
set_option maxHeartbeats 4000000 in
theorem jJ7_fill_53178_0 {X : Cx} (ok : OK X cJ7_fill_53178 RJ7 none 4 0 0) (l0 : Nat) (l1 : Int32)  (G : Mem) {r : Unit} {G' : Mem} (h : fJ7_fill_53178_0 l0 l1 G = some (r, G')) (hK : (finV X) r G') : J X 4 0 [(0, .ref (X.B + l0)), (1, .int l1)] [] G := by
  unfold fJ7_fill_53178_0 at h
  refine j_iconst (v := 0) ok dJ7_fill_53178_0 (by decide) ?_
  refine j_istore_n (L' := [(2, .int (0 : Int32)), (0, .ref (X.B + l0)), (1, .int l1)]) ok dJ7_fill_53178_1 rfl (by decide) rfl ?_
  refine j_aload_n ok dJ7_fill_53178_2 rfl 1 rfl ?_
  obtain ⟨v1, hv1, h⟩ := obind h
  refine j_alen ok hv1 dJ7_fill_53178_3 ?_
  refine j_istore_n (L' := [(3, .int v1), (2, .int (0 : Int32)), (0, .ref (X.B + l0)), (1, .int l1)]) ok dJ7_fill_53178_4 rfl (by decide) rfl ?_
  have hJ : J X 4 5 [(0, .ref (X.B + l0)), (1, .int l1), (2, .int (0 : Int32)), (3, .int v1)] [] G := j_loop (loc := fun s : Int32 => [(0, .ref (X.B + l0)), (1, .int l1), (2, .int s), (3, .int v1)]) (F := (finV X)) (fun s G r G' hb hk => jJ7_fill_53178_5 ok l0 l1 s v1 G hb hk) _ _ _ _ _ h hK
  exact J.sub [2, 3, 1, 0] rfl hJ

def fJ7_fill_53178 (l0 : Nat) (l1 : Int32) (G : Mem) : Option (Unit × Mem) := fJ7_fill_53178_0 l0 l1 G
set_option maxRecDepth 100000 in
theorem tJ7_fill_53178 {l : Launch} (hfl : l.stackTraces = false) (V : Wd) (l0 : Nat) (l1 : Int32) (G : Mem) {r : Unit} {G' : Mem} (h : fJ7_fill_53178 l0 l1 G = some (r, G')) : Mx l yJ7_fill_53178 cJ7_fill_53178 4 none 0 0 V [.ref (V.B + l0), .int l1] G (.inl none) G' :=
  mx_of (L := [(0, .ref (V.B + l0)), (1, .int l1)]) hfl (by decide +kernel) (Nat.le_of_ble_eq_true rfl) rfl (fun X hl hV hin ok he => by
    subst hl; subst hV
    exact J.sub [0, 1] rfl (jJ7_fill_53178_0 ok l0 l1 G h he))
def fJ7_rangeCheck_23922_0 (l0 : Int32) (l1 : Int32) (l2 : Int32)  (G : Mem) : Option (Unit × Mem) :=
  if l1 ≤ l2 then
    if (0 : Int32) ≤ l1 then
      if l2 ≤ l0 then
        some ((), G)
      else
        none
    else
      none
  else
    none

set_option maxRecDepth 100000 in
set_option maxHeartbeats 4000000 in
theorem jJ7_rangeCheck_23922_0 {X : Cx} (ok : OK X cJ7_rangeCheck_23922 RJ7 none 3 0 0) (l0 : Int32) (l1 : Int32) (l2 : Int32)  (G : Mem) {r : Unit} {G' : Mem} (h : fJ7_rangeCheck_23922_0 l0 l1 l2 G = some (r, G')) (hK : (finV X) r G') : J X 3 0 [(0, .int l0), (1, .int l1), (2, .int l2)] [] G := by
  unfold fJ7_rangeCheck_23922_0 at h
  refine j_iload_n ok dJ7_rangeCheck_23922_0 rfl 1 rfl ?_
  refine j_iload_n ok dJ7_rangeCheck_23922_1 rfl 2 rfl ?_
  rcases ite_some h with ⟨c1, h⟩ | ⟨c1, h⟩
  · refine j_icmp_le (tgt := 46) ok dJ7_rangeCheck_23922_2 (by decide) (fun _ => ?_) (fun z => absurd c1 z)
    refine j_iload_n ok dJ7_rangeCheck_23922_46 rfl 1 rfl ?_
    rcases ite_some h with ⟨c2, h⟩ | ⟨c2, h⟩
    · refine j_if_ge (tgt := 59) ok dJ7_rangeCheck_23922_47 (by decide) (fun _ => ?_) (fun z => absurd c2 z)
      refine j_iload_n ok dJ7_rangeCheck_23922_59 rfl 2 rfl ?_
      refine j_iload_n ok dJ7_rangeCheck_23922_60 rfl 0 rfl ?_
      rcases ite_some h with ⟨c3, h⟩ | ⟨c3, h⟩
      · refine j_icmp_le (tgt := 73) ok dJ7_rangeCheck_23922_61 (by decide) (fun _ => ?_) (fun z => absurd c3 z)
        obtain ⟨er, eG⟩ := inj2 h
        subst er; subst eG
        exact j_vret ok rfl dJ7_rangeCheck_23922_73 hK
      · refine j_icmp_le (tgt := 73) ok dJ7_rangeCheck_23922_61 (by decide) (fun z => absurd z c3) (fun _ => ?_)
        cases h
    · refine j_if_ge (tgt := 59) ok dJ7_rangeCheck_23922_47 (by decide) (fun z => absurd z c2) (fun _ => ?_)
      cases h
  · refine j_icmp_le (tgt := 46) ok dJ7_rangeCheck_23922_2 (by decide) (fun z => absurd z c1) (fun _ => ?_)
    cases h

def fJ7_rangeCheck_23922 (l0 : Int32) (l1 : Int32) (l2 : Int32) (G : Mem) : Option (Unit × Mem) := fJ7_rangeCheck_23922_0 l0 l1 l2 G
set_option maxRecDepth 100000 in
theorem tJ7_rangeCheck_23922 {l : Launch} (hfl : l.stackTraces = false) (V : Wd) (l0 : Int32) (l1 : Int32) (l2 : Int32) (G : Mem) {r : Unit} {G' : Mem} (h : fJ7_rangeCheck_23922 l0 l1 l2 G = some (r, G')) : Mx l yJ7_rangeCheck_23922 cJ7_rangeCheck_23922 3 none 0 0 V [.int l0, .int l1, .int l2] G (.inl none) G' :=
  mx_of (L := [(0, .int l0), (1, .int l1), (2, .int l2)]) hfl (by decide +kernel) (Nat.le_of_ble_eq_true rfl) rfl (fun X hl hV hin ok he => by
    subst hl; subst hV
    exact J.sub [0, 1, 2] rfl (jJ7_rangeCheck_23922_0 ok l0 l1 l2 G h he))
def fJ7_fill_bad5a_27   (G : Mem) : Option (Unit × Mem) :=
  some ((), G)

set_option maxRecDepth 100000 in
set_option maxHeartbeats 4000000 in
theorem jJ7_fill_bad5a_27 {X : Cx} (ok : OK X cJ7_fill_bad5a RJ7 none 6 1 22)   (G : Mem) {r : Unit} {G' : Mem} (h : fJ7_fill_bad5a_27  G = some (r, G')) (hK : (finV X) r G') : J X 6 27 [] [] G := by
  unfold fJ7_fill_bad5a_27 at h
  obtain ⟨er, eG⟩ := inj2 h
  subst er; subst eG
  exact j_vret ok rfl dJ7_fill_bad5a_27 hK

def fJ7_fill_bad5a_10 (l0 : Nat) (l2 : Int32) (l3 : Int64) (l5 : Int32)  (G : Mem) : Option (((Int32) ⊕ Unit) × Mem) :=
  if l2 ≤ l5 then
    liftE (fJ7_fill_bad5a_27 G)
  else
    (pJ G l0 l5 l3).bind fun G2 =>
    some (.inl ((l5 + (1 : Int32))), G2)

set_option maxRecDepth 100000 in
set_option maxHeartbeats 4000000 in
theorem jJ7_fill_bad5a_10 {X : Cx} (ok : OK X cJ7_fill_bad5a RJ7 none 6 1 22) (l0 : Nat) (l2 : Int32) (l3 : Int64) (l5 : Int32)  (G : Mem) {r : ((Int32) ⊕ Unit)} {G' : Mem} (h : fJ7_fill_bad5a_10 l0 l2 l3 l5 G = some (r, G')) (hK : (finL X 6 10 (fun s : Int32 => [(0, .ref (X.B + l0)), (2, .int l2), (3, .long l3), (5, .int s)]) (finV X)) r G') : J X 6 10 [(0, .ref (X.B + l0)), (2, .int l2), (3, .long l3), (5, .int l5)] [] G := by
  unfold fJ7_fill_bad5a_10 at h
  refine j_iload ok dJ7_fill_bad5a_10 3 rfl ?_
  refine j_iload_n ok dJ7_fill_bad5a_12 rfl 1 rfl ?_
  rcases ite_some h with ⟨c1, h⟩ | ⟨c1, h⟩
  · refine j_icmp_ge (tgt := 27) ok dJ7_fill_bad5a_13 (by decide) (fun _ => ?_) (fun z => absurd c1 z)
    obtain ⟨r1, e1, h1⟩ := lift_some h
    subst e1
    exact J.sub [] rfl (jJ7_fill_bad5a_27 ok G h1 hK)
  · refine j_icmp_ge (tgt := 27) ok dJ7_fill_bad5a_13 (by decide) (fun z => absurd z c1) (fun _ => ?_)
    refine j_aload_n ok dJ7_fill_bad5a_16 rfl 0 rfl ?_
    refine j_iload ok dJ7_fill_bad5a_17 3 rfl ?_
    refine j_lload_n ok dJ7_fill_bad5a_19 rfl 2 rfl ?_
    obtain ⟨G2, hG2, h⟩ := obind h
    refine j_last ok hG2 dJ7_fill_bad5a_20 ?_
    refine j_iinc (L' := [(5, .int (l5 + (1 : Int32))), (0, .ref (X.B + l0)), (2, .int l2), (3, .long l3)]) (v := (l5 + (1 : Int32))) ok dJ7_fill_bad5a_21 (q := 3) rfl rfl (by decide) rfl ?_
    refine j_goto (tgt := 10) ok dJ7_fill_bad5a_24 (by decide) ?_
    obtain ⟨er, eG⟩ := inj2 h
    subst er; subst eG
    have hJ : J X 6 10 [(0, .ref (X.B + l0)), (2, .int l2), (3, .long l3), (5, .int (l5 + (1 : Int32)))] [] G2 := hK
    exact J.sub [1, 2, 3, 0] rfl hJ

def fJ7_fill_bad5a_0 (l0 : Nat) (l1 : Int32) (l2 : Int32) (l3 : Int64)  (G : Mem) : Option (Unit × Mem) :=
  (gL G l0).bind fun v1 =>
  (fJ7_rangeCheck_23922 v1 l1 l2 G).bind fun q2 =>
  loopM (fun (s : Int32) G => fJ7_fill_bad5a_10 l0 l2 l3 s G) FU (l1) q2.2

set_option maxRecDepth 100000 in
set_option maxHeartbeats 4000000 in
theorem jJ7_fill_bad5a_0 {X : Cx} (ok : OK X cJ7_fill_bad5a RJ7 none 6 1 22) (l0 : Nat) (l1 : Int32) (l2 : Int32) (l3 : Int64)  (G : Mem) {r : Unit} {G' : Mem} (h : fJ7_fill_bad5a_0 l0 l1 l2 l3 G = some (r, G')) (hK : (finV X) r G') : J X 6 0 [(0, .ref (X.B + l0)), (1, .int l1), (2, .int l2), (3, .long l3)] [] G := by
  unfold fJ7_fill_bad5a_0 at h
  refine j_aload_n ok dJ7_fill_bad5a_0 rfl 0 rfl ?_
  obtain ⟨v1, hv1, h⟩ := obind h
  refine j_alen ok hv1 dJ7_fill_bad5a_1 ?_
  refine j_iload_n ok dJ7_fill_bad5a_2 rfl 1 rfl ?_
  refine j_iload_n ok dJ7_fill_bad5a_3 rfl 2 rfl ?_
  obtain ⟨q2, hq2, h⟩ := obind h
  refine k_S0 ok kl_J7_13 ⟨Nat.le_of_ble_eq_true rfl, Nat.le_of_ble_eq_true rfl⟩ [.int v1, .int l1, .int l2] rfl rfl (Nat.le_of_ble_eq_true rfl) (tJ7_rangeCheck_23922 ok.fl X.V v1 l1 l2 G hq2) dJ7_fill_bad5a_4 ?_
  refine j_iload_n ok dJ7_fill_bad5a_7 rfl 1 rfl ?_
  refine j_istore (L' := [(5, .int l1), (0, .ref (X.B + l0)), (1, .int l1), (2, .int l2), (3, .long l3)]) ok dJ7_fill_bad5a_8 (by decide) rfl ?_
  have hJ : J X 6 10 [(0, .ref (X.B + l0)), (2, .int l2), (3, .long l3), (5, .int l1)] [] q2.2 := j_loop (loc := fun s : Int32 => [(0, .ref (X.B + l0)), (2, .int l2), (3, .long l3), (5, .int s)]) (F := (finV X)) (fun s G r G' hb hk => jJ7_fill_bad5a_10 ok l0 l2 l3 s G hb hk) _ _ _ _ _ h hK
  exact J.sub [1, 3, 4, 0] rfl hJ

def fJ7_fill_bad5a (l0 : Nat) (l1 : Int32) (l2 : Int32) (l3 : Int64) (G : Mem) : Option (Unit × Mem) := fJ7_fill_bad5a_0 l0 l1 l2 l3 G
set_option maxRecDepth 100000 in
theorem tJ7_fill_bad5a {l : Launch} (hfl : l.stackTraces = false) (V : Wd) (l0 : Nat) (l1 : Int32) (l2 : Int32) (l3 : Int64) (G : Mem) {r : Unit} {G' : Mem} (h : fJ7_fill_bad5a l0 l1 l2 l3 G = some (r, G')) : Mx l yJ7_fill_bad5a cJ7_fill_bad5a 6 none 1 22 V [.ref (V.B + l0), .int l1, .int l2, .long l3] G (.inl none) G' :=
  mx_of (L := [(0, .ref (V.B + l0)), (1, .int l1), (2, .int l2), (3, .long l3)]) hfl (by decide +kernel) (Nat.le_of_ble_eq_true rfl) rfl (fun X hl hV hin ok he => by
    subst hl; subst hV
    exact J.sub [0, 1, 2, 3] rfl (jJ7_fill_bad5a_0 ok l0 l1 l2 l3 G h he))
def fJ7_fill_d0a16_22   (G : Mem) : Option (Unit × Mem) :=
  some ((), G)

set_option maxRecDepth 100000 in
set_option maxHeartbeats 4000000 in
theorem jJ7_fill_d0a16_22 {X : Cx} (ok : OK X cJ7_fill_d0a16 RJ7 none 5 0 0)   (G : Mem) {r : Unit} {G' : Mem} (h : fJ7_fill_d0a16_22  G = some (r, G')) (hK : (finV X) r G') : J X 5 22 [] [] G := by
  unfold fJ7_fill_d0a16_22 at h
  obtain ⟨er, eG⟩ := inj2 h
  subst er; subst eG
  exact j_vret ok rfl dJ7_fill_d0a16_22 hK

def fJ7_fill_d0a16_6 (l0 : Nat) (l1 : Int64) (l3 : Int32) (l4 : Int32)  (G : Mem) : Option (((Int32) ⊕ Unit) × Mem) :=
  if l4 ≤ l3 then
    liftE (fJ7_fill_d0a16_22 G)
  else
    (pJ G l0 l3 l1).bind fun G2 =>
    some (.inl ((l3 + (1 : Int32))), G2)

set_option maxRecDepth 100000 in
set_option maxHeartbeats 4000000 in
theorem jJ7_fill_d0a16_6 {X : Cx} (ok : OK X cJ7_fill_d0a16 RJ7 none 5 0 0) (l0 : Nat) (l1 : Int64) (l3 : Int32) (l4 : Int32)  (G : Mem) {r : ((Int32) ⊕ Unit)} {G' : Mem} (h : fJ7_fill_d0a16_6 l0 l1 l3 l4 G = some (r, G')) (hK : (finL X 5 6 (fun s : Int32 => [(0, .ref (X.B + l0)), (1, .long l1), (3, .int s), (4, .int l4)]) (finV X)) r G') : J X 5 6 [(0, .ref (X.B + l0)), (1, .long l1), (3, .int l3), (4, .int l4)] [] G := by
  unfold fJ7_fill_d0a16_6 at h
  refine j_iload_n ok dJ7_fill_d0a16_6 rfl 2 rfl ?_
  refine j_iload ok dJ7_fill_d0a16_7 3 rfl ?_
  rcases ite_some h with ⟨c1, h⟩ | ⟨c1, h⟩
  · refine j_icmp_ge (tgt := 22) ok dJ7_fill_d0a16_9 (by decide) (fun _ => ?_) (fun z => absurd c1 z)
    obtain ⟨r1, e1, h1⟩ := lift_some h
    subst e1
    exact J.sub [] rfl (jJ7_fill_d0a16_22 ok G h1 hK)
  · refine j_icmp_ge (tgt := 22) ok dJ7_fill_d0a16_9 (by decide) (fun z => absurd z c1) (fun _ => ?_)
    refine j_aload_n ok dJ7_fill_d0a16_12 rfl 0 rfl ?_
    refine j_iload_n ok dJ7_fill_d0a16_13 rfl 2 rfl ?_
    refine j_lload_n ok dJ7_fill_d0a16_14 rfl 1 rfl ?_
    obtain ⟨G2, hG2, h⟩ := obind h
    refine j_last ok hG2 dJ7_fill_d0a16_15 ?_
    refine j_iinc (L' := [(3, .int (l3 + (1 : Int32))), (0, .ref (X.B + l0)), (1, .long l1), (4, .int l4)]) (v := (l3 + (1 : Int32))) ok dJ7_fill_d0a16_16 (q := 2) rfl rfl (by decide) rfl ?_
    refine j_goto (tgt := 6) ok dJ7_fill_d0a16_19 (by decide) ?_
    obtain ⟨er, eG⟩ := inj2 h
    subst er; subst eG
    have hJ : J X 5 6 [(0, .ref (X.B + l0)), (1, .long l1), (3, .int (l3 + (1 : Int32))), (4, .int l4)] [] G2 := hK
    exact J.sub [1, 2, 0, 3] rfl hJ

def fJ7_fill_d0a16_0 (l0 : Nat) (l1 : Int64)  (G : Mem) : Option (Unit × Mem) :=
  (gL G l0).bind fun v1 =>
  loopM (fun (s : Int32) G => fJ7_fill_d0a16_6 l0 l1 s v1 G) FU ((0 : Int32)) G

set_option maxRecDepth 100000 in
set_option maxHeartbeats 4000000 in
theorem jJ7_fill_d0a16_0 {X : Cx} (ok : OK X cJ7_fill_d0a16 RJ7 none 5 0 0) (l0 : Nat) (l1 : Int64)  (G : Mem) {r : Unit} {G' : Mem} (h : fJ7_fill_d0a16_0 l0 l1 G = some (r, G')) (hK : (finV X) r G') : J X 5 0 [(0, .ref (X.B + l0)), (1, .long l1)] [] G := by
  unfold fJ7_fill_d0a16_0 at h
  refine j_iconst (v := 0) ok dJ7_fill_d0a16_0 (by decide) ?_
  refine j_istore_n (L' := [(3, .int (0 : Int32)), (0, .ref (X.B + l0)), (1, .long l1)]) ok dJ7_fill_d0a16_1 rfl (by decide) rfl ?_
  refine j_aload_n ok dJ7_fill_d0a16_2 rfl 1 rfl ?_
  obtain ⟨v1, hv1, h⟩ := obind h
  refine j_alen ok hv1 dJ7_fill_d0a16_3 ?_
  refine j_istore (L' := [(4, .int v1), (3, .int (0 : Int32)), (0, .ref (X.B + l0)), (1, .long l1)]) ok dJ7_fill_d0a16_4 (by decide) rfl ?_
  have hJ : J X 5 6 [(0, .ref (X.B + l0)), (1, .long l1), (3, .int (0 : Int32)), (4, .int v1)] [] G := j_loop (loc := fun s : Int32 => [(0, .ref (X.B + l0)), (1, .long l1), (3, .int s), (4, .int v1)]) (F := (finV X)) (fun s G r G' hb hk => jJ7_fill_d0a16_6 ok l0 l1 s v1 G hb hk) _ _ _ _ _ h hK
  exact J.sub [2, 3, 1, 0] rfl hJ

def fJ7_fill_d0a16 (l0 : Nat) (l1 : Int64) (G : Mem) : Option (Unit × Mem) := fJ7_fill_d0a16_0 l0 l1 G
set_option maxRecDepth 100000 in
theorem tJ7_fill_d0a16 {l : Launch} (hfl : l.stackTraces = false) (V : Wd) (l0 : Nat) (l1 : Int64) (G : Mem) {r : Unit} {G' : Mem} (h : fJ7_fill_d0a16 l0 l1 G = some (r, G')) : Mx l yJ7_fill_d0a16 cJ7_fill_d0a16 5 none 0 0 V [.ref (V.B + l0), .long l1] G (.inl none) G' :=
  mx_of (L := [(0, .ref (V.B + l0)), (1, .long l1)]) hfl (by decide +kernel) (Nat.le_of_ble_eq_true rfl) rfl (fun X hl hV hin ok he => by
    subst hl; subst hV
    exact J.sub [0, 1] rfl (jJ7_fill_d0a16_0 ok l0 l1 G h he))
def fX0_placeOf_0 (l1 : Int32) (l2 : Int32)  (G : Mem) : Option (Int32 × Mem) :=
  some ((((18 : Int32) + (l2 * (8 : Int32))) + l1), G)

set_option maxRecDepth 100000 in
set_option maxHeartbeats 4000000 in
theorem jX0_placeOf_0 {X : Cx} (ok : OK X cX0_placeOf RX0 (some .int) 3 0 0) (l1 : Int32) (l2 : Int32)  (G : Mem) {r : Int32} {G' : Mem} (h : fX0_placeOf_0 l1 l2 G = some (r, G')) (hK : (finI X) r G') : J X 3 0 [(1, .int l1), (2, .int l2)] [] G := by
  unfold fX0_placeOf_0 at h
  refine j_bipush (v := 18) ok dX0_placeOf_0 (by decide) ?_
  refine j_iload_n ok dX0_placeOf_2 rfl 1 rfl ?_
  refine j_bipush (v := 8) ok dX0_placeOf_3 (by decide) ?_
  refine j_imul ok dX0_placeOf_5 ?_
  refine j_iadd ok dX0_placeOf_6 ?_
  refine j_iload_n ok dX0_placeOf_7 rfl 0 rfl ?_
  refine j_iadd ok dX0_placeOf_8 ?_
  obtain ⟨er, eG⟩ := inj2 h
  subst er; subst eG
  exact j_iret ok rfl dX0_placeOf_9 hK

def fX0_placeOf (l0 : Nat) (l1 : Int32) (l2 : Int32) (G : Mem) : Option (Int32 × Mem) := fX0_placeOf_0 l1 l2 G
set_option maxRecDepth 100000 in
theorem tX0_placeOf {l : Launch} (hfl : l.stackTraces = false) (V : Wd) (l0 : Nat) (l1 : Int32) (l2 : Int32) (G : Mem) {r : Int32} {G' : Mem} (h : fX0_placeOf l0 l1 l2 G = some (r, G')) : Mx l yX0_placeOf cX0_placeOf 3 (some .int) 0 0 V [.ref (V.B + l0), .int l1, .int l2] G (.inl (some (.int r))) G' :=
  mx_of (L := [(0, .ref (V.B + l0)), (1, .int l1), (2, .int l2)]) hfl (by decide +kernel) (Nat.le_of_ble_eq_true rfl) rfl (fun X hl hV hin ok he => by
    subst hl; subst hV
    exact J.sub [1, 2] rfl (jX0_placeOf_0 ok l1 l2 G h he))
def fX0_on_24  (s0 : Int32) (G : Mem) : Option (Int32 × Mem) :=
  some (s0, G)

set_option maxRecDepth 100000 in
set_option maxHeartbeats 4000000 in
theorem jX0_on_24 {X : Cx} (ok : OK X cX0_on RX0 (some .int) 2 0 0)  (s0 : Int32) (G : Mem) {r : Int32} {G' : Mem} (h : fX0_on_24 s0 G = some (r, G')) (hK : (finI X) r G') : J X 2 24 [] [.int s0] G := by
  unfold fX0_on_24 at h
  obtain ⟨er, eG⟩ := inj2 h
  subst er; subst eG
  exact j_iret ok rfl dX0_on_24 hK

def fX0_on_22   (G : Mem) : Option (Int32 × Mem) :=
  fX0_on_24 (15 : Int32) G

set_option maxRecDepth 100000 in
set_option maxHeartbeats 4000000 in
theorem jX0_on_22 {X : Cx} (ok : OK X cX0_on RX0 (some .int) 2 0 0)   (G : Mem) {r : Int32} {G' : Mem} (h : fX0_on_22  G = some (r, G')) (hK : (finI X) r G') : J X 2 22 [] [] G := by
  unfold fX0_on_22 at h
  refine j_bipush (v := 15) ok dX0_on_22 (by decide) ?_
  exact J.sub [] rfl (jX0_on_24 ok (15 : Int32) G h hK)

def fX0_on_0 (l0 : Nat) (l1 : Int32)  (G : Mem) : Option (Int32 × Mem) :=
  if l1 < (0 : Int32) then
    fX0_on_22 G
  else
    (gR G 10 l0 4).bind fun v2 =>
    (gL G v2).bind fun v3 =>
    if v3 ≤ l1 then
      fX0_on_22 G
    else
      (gR G 10 l0 4).bind fun v5 =>
      (gA G 1 v5 l1).bind fun v6 =>
      fX0_on_24 v6 G

set_option maxRecDepth 100000 in
set_option maxHeartbeats 4000000 in
theorem jX0_on_0 {X : Cx} (ok : OK X cX0_on RX0 (some .int) 2 0 0) (l0 : Nat) (l1 : Int32)  (G : Mem) {r : Int32} {G' : Mem} (h : fX0_on_0 l0 l1 G = some (r, G')) (hK : (finI X) r G') : J X 2 0 [(0, .ref (X.B + l0)), (1, .int l1)] [] G := by
  unfold fX0_on_0 at h
  refine j_iload_n ok dX0_on_0 rfl 1 rfl ?_
  rcases ite_some h with ⟨c1, h⟩ | ⟨c1, h⟩
  · refine j_if_lt (tgt := 22) ok dX0_on_1 (by decide) (fun _ => ?_) (fun z => absurd c1 z)
    exact J.sub [] rfl (jX0_on_22 ok G h hK)
  · refine j_if_lt (tgt := 22) ok dX0_on_1 (by decide) (fun z => absurd z c1) (fun _ => ?_)
    refine j_iload_n ok dX0_on_4 rfl 1 rfl ?_
    refine j_aload_n ok dX0_on_5 rfl 0 rfl ?_
    obtain ⟨v2, hv2, h⟩ := obind h
    refine k_getR ok fl_X0_25 hv2 dX0_on_6 ?_
    obtain ⟨v3, hv3, h⟩ := obind h
    refine j_alen ok hv3 dX0_on_9 ?_
    rcases ite_some h with ⟨c4, h⟩ | ⟨c4, h⟩
    · refine j_icmp_ge (tgt := 22) ok dX0_on_10 (by decide) (fun _ => ?_) (fun z => absurd c4 z)
      exact J.sub [] rfl (jX0_on_22 ok G h hK)
    · refine j_icmp_ge (tgt := 22) ok dX0_on_10 (by decide) (fun z => absurd z c4) (fun _ => ?_)
      refine j_aload_n ok dX0_on_13 rfl 0 rfl ?_
      obtain ⟨v5, hv5, h⟩ := obind h
      refine k_getR ok fl_X0_25 hv5 dX0_on_14 ?_
      refine j_iload_n ok dX0_on_17 rfl 1 rfl ?_
      obtain ⟨v6, hv6, h⟩ := obind h
      refine j_iald ok hv6 dX0_on_18 ?_
      refine j_goto (tgt := 24) ok dX0_on_19 (by decide) ?_
      exact J.sub [] rfl (jX0_on_24 ok v6 G h hK)

def fX0_on (l0 : Nat) (l1 : Int32) (G : Mem) : Option (Int32 × Mem) := fX0_on_0 l0 l1 G
set_option maxRecDepth 100000 in
theorem tX0_on {l : Launch} (hfl : l.stackTraces = false) (V : Wd) (l0 : Nat) (l1 : Int32) (G : Mem) {r : Int32} {G' : Mem} (h : fX0_on l0 l1 G = some (r, G')) : Mx l yX0_on cX0_on 2 (some .int) 0 0 V [.ref (V.B + l0), .int l1] G (.inl (some (.int r))) G' :=
  mx_of (L := [(0, .ref (V.B + l0)), (1, .int l1)]) hfl (by decide +kernel) (Nat.le_of_ble_eq_true rfl) rfl (fun X hl hV hin ok he => by
    subst hl; subst hV
    exact J.sub [0, 1] rfl (jX0_on_0 ok l0 l1 G h he))
def fX0_at_0 (l0 : Nat) (l1 : Int32) (l2 : Int32)  (G : Mem) : Option (Int32 × Mem) :=
  ck G 10 l0 <| (fX0_placeOf l0 l1 l2 G).bind fun q1 =>
  ck q1.2 10 l0 <| (fX0_on l0 q1.1 q1.2).bind fun q2 =>
  some (q2.1, q2.2)

set_option maxRecDepth 100000 in
set_option maxHeartbeats 4000000 in
theorem jX0_at_0 {X : Cx} (ok : OK X cX0_at RX0 (some .int) 3 1 22) (l0 : Nat) (l1 : Int32) (l2 : Int32)  (G : Mem) {r : Int32} {G' : Mem} (h : fX0_at_0 l0 l1 l2 G = some (r, G')) (hK : (finI X) r G') : J X 3 0 [(0, .ref (X.B + l0)), (1, .int l1), (2, .int l2)] [] G := by
  unfold fX0_at_0 at h
  refine j_aload_n ok dX0_at_0 rfl 0 rfl ?_
  refine j_aload_n ok dX0_at_1 rfl 0 rfl ?_
  refine j_iload_n ok dX0_at_2 rfl 1 rfl ?_
  refine j_iload_n ok dX0_at_3 rfl 2 rfl ?_
  obtain ⟨kq1, h⟩ := ck_some h
  obtain ⟨q1, hq1, h⟩ := obind h
  refine k_V1 ok kl_X0_44 ⟨Nat.le_of_ble_eq_true rfl, Nat.le_of_ble_eq_true rfl⟩ [.int l1, .int l2] kq1 rfl rfl (Nat.le_of_ble_eq_true rfl) (tX0_placeOf ok.fl X.V l0 l1 l2 G hq1) dX0_at_4 ?_
  obtain ⟨kq2, h⟩ := ck_some h
  obtain ⟨q2, hq2, h⟩ := obind h
  refine k_V1 ok kl_X0_48 ⟨Nat.le_of_ble_eq_true rfl, Nat.le_of_ble_eq_true rfl⟩ [.int q1.1] kq2 rfl rfl (Nat.le_of_ble_eq_true rfl) (tX0_on ok.fl X.V l0 q1.1 q1.2 hq2) dX0_at_7 ?_
  obtain ⟨er, eG⟩ := inj2 h
  subst er; subst eG
  exact j_iret ok rfl dX0_at_10 hK

def fX0_at (l0 : Nat) (l1 : Int32) (l2 : Int32) (G : Mem) : Option (Int32 × Mem) := fX0_at_0 l0 l1 l2 G
set_option maxRecDepth 100000 in
theorem tX0_at {l : Launch} (hfl : l.stackTraces = false) (V : Wd) (l0 : Nat) (l1 : Int32) (l2 : Int32) (G : Mem) {r : Int32} {G' : Mem} (h : fX0_at l0 l1 l2 G = some (r, G')) : Mx l yX0_at cX0_at 3 (some .int) 1 22 V [.ref (V.B + l0), .int l1, .int l2] G (.inl (some (.int r))) G' :=
  mx_of (L := [(0, .ref (V.B + l0)), (1, .int l1), (2, .int l2)]) hfl (by decide +kernel) (Nat.le_of_ble_eq_true rfl) rfl (fun X hl hV hin ok he => by
    subst hl; subst hV
    exact J.sub [0, 1, 2] rfl (jX0_at_0 ok l0 l1 l2 G h he))
def fX0_bitOf_0 (l0 : Int32)  (G : Mem) : Option (Int64 × Mem) :=
  some (((1 : Int64) <<< ((l0 - (18 : Int32)).toInt64 &&& 63)), G)

set_option maxRecDepth 100000 in
set_option maxHeartbeats 4000000 in
theorem jX0_bitOf_0 {X : Cx} (ok : OK X cX0_bitOf RX0 (some .long) 1 0 0) (l0 : Int32)  (G : Mem) {r : Int64} {G' : Mem} (h : fX0_bitOf_0 l0 G = some (r, G')) (hK : (finJ X) r G') : J X 1 0 [(0, .int l0)] [] G := by
  unfold fX0_bitOf_0 at h
  refine j_lconst (v := 1) ok dX0_bitOf_0 (by decide) ?_
  refine j_iload_n ok dX0_bitOf_1 rfl 0 rfl ?_
  refine j_bipush (v := 18) ok dX0_bitOf_2 (by decide) ?_
  refine j_isub ok dX0_bitOf_4 ?_
  refine j_lshl ok dX0_bitOf_5 ?_
  obtain ⟨er, eG⟩ := inj2 h
  subst er; subst eG
  exact j_lret ok rfl dX0_bitOf_6 hK

def fX0_bitOf (l0 : Int32) (G : Mem) : Option (Int64 × Mem) := fX0_bitOf_0 l0 G
set_option maxRecDepth 100000 in
theorem tX0_bitOf {l : Launch} (hfl : l.stackTraces = false) (V : Wd) (l0 : Int32) (G : Mem) {r : Int64} {G' : Mem} (h : fX0_bitOf l0 G = some (r, G')) : Mx l yX0_bitOf cX0_bitOf 1 (some .long) 0 0 V [.int l0] G (.inl (some (.long r))) G' :=
  mx_of (L := [(0, .int l0)]) hfl (by decide +kernel) (Nat.le_of_ble_eq_true rfl) rfl (fun X hl hV hin ok he => by
    subst hl; subst hV
    exact J.sub [0] rfl (jX0_bitOf_0 ok l0 G h he))
def fX0_count_32 (l2 : Int32)  (G : Mem) : Option (Int32 × Mem) :=
  some (l2, G)

set_option maxRecDepth 100000 in
set_option maxHeartbeats 4000000 in
theorem jX0_count_32 {X : Cx} (ok : OK X cX0_count RX0 (some .int) 4 0 0) (l2 : Int32)  (G : Mem) {r : Int32} {G' : Mem} (h : fX0_count_32 l2 G = some (r, G')) (hK : (finI X) r G') : J X 4 32 [(2, .int l2)] [] G := by
  unfold fX0_count_32 at h
  refine j_iload_n ok dX0_count_32 rfl 0 rfl ?_
  obtain ⟨er, eG⟩ := inj2 h
  subst er; subst eG
  exact j_iret ok rfl dX0_count_33 hK

def fX0_count_26 (l0 : Nat) (l1 : Int32) (l2 : Int32) (l3 : Int32)  (G : Mem) : Option (((Int32 × Int32) ⊕ Int32) × Mem) :=
  some (.inl (l2, (l3 + (1 : Int32))), G)

set_option maxRecDepth 100000 in
set_option maxHeartbeats 4000000 in
theorem jX0_count_26 {X : Cx} (ok : OK X cX0_count RX0 (some .int) 4 0 0) (l0 : Nat) (l1 : Int32) (l2 : Int32) (l3 : Int32)  (G : Mem) {r : ((Int32 × Int32) ⊕ Int32)} {G' : Mem} (h : fX0_count_26 l0 l1 l2 l3 G = some (r, G')) (hK : (finL X 4 4 (fun s : Int32 × Int32 => [(0, .ref (X.B + l0)), (1, .int l1), (2, .int s.1), (3, .int s.2)]) (finI X)) r G') : J X 4 26 [(0, .ref (X.B + l0)), (1, .int l1), (2, .int l2), (3, .int l3)] [] G := by
  unfold fX0_count_26 at h
  refine j_iinc (L' := [(3, .int (l3 + (1 : Int32))), (0, .ref (X.B + l0)), (1, .int l1), (2, .int l2)]) (v := (l3 + (1 : Int32))) ok dX0_count_26 (q := 3) rfl rfl (by decide) rfl ?_
  refine j_goto (tgt := 4) ok dX0_count_29 (by decide) ?_
  obtain ⟨er, eG⟩ := inj2 h
  subst er; subst eG
  have hJ : J X 4 4 [(0, .ref (X.B + l0)), (1, .int l1), (2, .int l2), (3, .int (l3 + (1 : Int32)))] [] G := hK
  exact J.sub [1, 2, 3, 0] rfl hJ

def fX0_count_4 (l0 : Nat) (l1 : Int32) (l2 : Int32) (l3 : Int32)  (G : Mem) : Option (((Int32 × Int32) ⊕ Int32) × Mem) :=
  (gR G 10 l0 4).bind fun v1 =>
  (gL G v1).bind fun v2 =>
  if v2 ≤ l3 then
    liftE (fX0_count_32 l2 G)
  else
    (gR G 10 l0 4).bind fun v4 =>
    (gA G 1 v4 l3).bind fun v5 =>
    if v5 = l1 then
      fX0_count_26 l0 l1 (l2 + (1 : Int32)) l3 G
    else
      fX0_count_26 l0 l1 l2 l3 G

set_option maxRecDepth 100000 in
set_option maxHeartbeats 4000000 in
theorem jX0_count_4 {X : Cx} (ok : OK X cX0_count RX0 (some .int) 4 0 0) (l0 : Nat) (l1 : Int32) (l2 : Int32) (l3 : Int32)  (G : Mem) {r : ((Int32 × Int32) ⊕ Int32)} {G' : Mem} (h : fX0_count_4 l0 l1 l2 l3 G = some (r, G')) (hK : (finL X 4 4 (fun s : Int32 × Int32 => [(0, .ref (X.B + l0)), (1, .int l1), (2, .int s.1), (3, .int s.2)]) (finI X)) r G') : J X 4 4 [(0, .ref (X.B + l0)), (1, .int l1), (2, .int l2), (3, .int l3)] [] G := by
  unfold fX0_count_4 at h
  refine j_iload_n ok dX0_count_4 rfl 3 rfl ?_
  refine j_aload_n ok dX0_count_5 rfl 0 rfl ?_
  obtain ⟨v1, hv1, h⟩ := obind h
  refine k_getR ok fl_X0_25 hv1 dX0_count_6 ?_
  obtain ⟨v2, hv2, h⟩ := obind h
  refine j_alen ok hv2 dX0_count_9 ?_
  rcases ite_some h with ⟨c3, h⟩ | ⟨c3, h⟩
  · refine j_icmp_ge (tgt := 32) ok dX0_count_10 (by decide) (fun _ => ?_) (fun z => absurd c3 z)
    obtain ⟨r1, e1, h1⟩ := lift_some h
    subst e1
    exact J.sub [2] rfl (jX0_count_32 ok l2 G h1 hK)
  · refine j_icmp_ge (tgt := 32) ok dX0_count_10 (by decide) (fun z => absurd z c3) (fun _ => ?_)
    refine j_aload_n ok dX0_count_13 rfl 0 rfl ?_
    obtain ⟨v4, hv4, h⟩ := obind h
    refine k_getR ok fl_X0_25 hv4 dX0_count_14 ?_
    refine j_iload_n ok dX0_count_17 rfl 3 rfl ?_
    obtain ⟨v5, hv5, h⟩ := obind h
    refine j_iald ok hv5 dX0_count_18 ?_
    refine j_iload_n ok dX0_count_19 rfl 1 rfl ?_
    rcases ite_some h with ⟨c6, h⟩ | ⟨c6, h⟩
    · refine j_icmp_ne (tgt := 26) ok dX0_count_20 (by decide) (fun z => absurd c6 z) (fun _ => ?_)
      refine j_iinc (L' := [(2, .int (l2 + (1 : Int32))), (0, .ref (X.B + l0)), (1, .int l1), (3, .int l3)]) (v := (l2 + (1 : Int32))) ok dX0_count_23 (q := 2) rfl rfl (by decide) rfl ?_
      exact J.sub [1, 2, 0, 3] rfl (jX0_count_26 ok l0 l1 (l2 + (1 : Int32)) l3 G h hK)
    · refine j_icmp_ne (tgt := 26) ok dX0_count_20 (by decide) (fun _ => ?_) (fun z => absurd z c6)
      exact J.sub [0, 1, 2, 3] rfl (jX0_count_26 ok l0 l1 l2 l3 G h hK)

def fX0_count_0 (l0 : Nat) (l1 : Int32)  (G : Mem) : Option (Int32 × Mem) :=
  loopM (fun (s : Int32 × Int32) G => fX0_count_4 l0 l1 s.1 s.2 G) FU ((0 : Int32), (0 : Int32)) G

set_option maxRecDepth 100000 in
set_option maxHeartbeats 4000000 in
theorem jX0_count_0 {X : Cx} (ok : OK X cX0_count RX0 (some .int) 4 0 0) (l0 : Nat) (l1 : Int32)  (G : Mem) {r : Int32} {G' : Mem} (h : fX0_count_0 l0 l1 G = some (r, G')) (hK : (finI X) r G') : J X 4 0 [(0, .ref (X.B + l0)), (1, .int l1)] [] G := by
  unfold fX0_count_0 at h
  refine j_iconst (v := 0) ok dX0_count_0 (by decide) ?_
  refine j_istore_n (L' := [(2, .int (0 : Int32)), (0, .ref (X.B + l0)), (1, .int l1)]) ok dX0_count_1 rfl (by decide) rfl ?_
  refine j_iconst (v := 0) ok dX0_count_2 (by decide) ?_
  refine j_istore_n (L' := [(3, .int (0 : Int32)), (2, .int (0 : Int32)), (0, .ref (X.B + l0)), (1, .int l1)]) ok dX0_count_3 rfl (by decide) rfl ?_
  have hJ : J X 4 4 [(0, .ref (X.B + l0)), (1, .int l1), (2, .int (0 : Int32)), (3, .int (0 : Int32))] [] G := j_loop (loc := fun s : Int32 × Int32 => [(0, .ref (X.B + l0)), (1, .int l1), (2, .int s.1), (3, .int s.2)]) (F := (finI X)) (fun s G r G' hb hk => jX0_count_4 ok l0 l1 s.1 s.2 G hb hk) _ _ _ _ _ h hK
  exact J.sub [2, 3, 1, 0] rfl hJ

def fX0_count (l0 : Nat) (l1 : Int32) (G : Mem) : Option (Int32 × Mem) := fX0_count_0 l0 l1 G
set_option maxRecDepth 100000 in
theorem tX0_count {l : Launch} (hfl : l.stackTraces = false) (V : Wd) (l0 : Nat) (l1 : Int32) (G : Mem) {r : Int32} {G' : Mem} (h : fX0_count l0 l1 G = some (r, G')) : Mx l yX0_count cX0_count 4 (some .int) 0 0 V [.ref (V.B + l0), .int l1] G (.inl (some (.int r))) G' :=
  mx_of (L := [(0, .ref (V.B + l0)), (1, .int l1)]) hfl (by decide +kernel) (Nat.le_of_ble_eq_true rfl) rfl (fun X hl hV hin ok he => by
    subst hl; subst hV
    exact J.sub [0, 1] rfl (jX0_count_0 ok l0 l1 G h he))
def fX6_colourOf_11  (s0 : Int32) (G : Mem) : Option (Int32 × Mem) :=
  some (s0, G)

set_option maxRecDepth 100000 in
set_option maxHeartbeats 4000000 in
theorem jX6_colourOf_11 {X : Cx} (ok : OK X cX6_colourOf RX6 (some .int) 1 0 0)  (s0 : Int32) (G : Mem) {r : Int32} {G' : Mem} (h : fX6_colourOf_11 s0 G = some (r, G')) (hK : (finI X) r G') : J X 1 11 [] [.int s0] G := by
  unfold fX6_colourOf_11 at h
  obtain ⟨er, eG⟩ := inj2 h
  subst er; subst eG
  exact j_iret ok rfl dX6_colourOf_11 hK

def fX6_colourOf_0 (l0 : Int32)  (G : Mem) : Option (Int32 × Mem) :=
  if l0 = (0 : Int32) then
    fX6_colourOf_11 (-1 : Int32) G
  else
    fX6_colourOf_11 (l0 >>> ((3 : Int32) &&& 31)) G

set_option maxRecDepth 100000 in
set_option maxHeartbeats 4000000 in
theorem jX6_colourOf_0 {X : Cx} (ok : OK X cX6_colourOf RX6 (some .int) 1 0 0) (l0 : Int32)  (G : Mem) {r : Int32} {G' : Mem} (h : fX6_colourOf_0 l0 G = some (r, G')) (hK : (finI X) r G') : J X 1 0 [(0, .int l0)] [] G := by
  unfold fX6_colourOf_0 at h
  refine j_iload_n ok dX6_colourOf_0 rfl 0 rfl ?_
  rcases ite_some h with ⟨c1, h⟩ | ⟨c1, h⟩
  · refine j_if_ne (tgt := 8) ok dX6_colourOf_1 (by decide) (fun z => absurd c1 z) (fun _ => ?_)
    refine j_iconst (v := -1) ok dX6_colourOf_4 (by decide) ?_
    refine j_goto (tgt := 11) ok dX6_colourOf_5 (by decide) ?_
    exact J.sub [] rfl (jX6_colourOf_11 ok (-1 : Int32) G h hK)
  · refine j_if_ne (tgt := 8) ok dX6_colourOf_1 (by decide) (fun _ => ?_) (fun z => absurd z c1)
    refine j_iload_n ok dX6_colourOf_8 rfl 0 rfl ?_
    refine j_iconst (v := 3) ok dX6_colourOf_9 (by decide) ?_
    refine j_ishr ok dX6_colourOf_10 ?_
    exact J.sub [] rfl (jX6_colourOf_11 ok (l0 >>> ((3 : Int32) &&& 31)) G h hK)

def fX6_colourOf (l0 : Int32) (G : Mem) : Option (Int32 × Mem) := fX6_colourOf_0 l0 G
set_option maxRecDepth 100000 in
theorem tX6_colourOf {l : Launch} (hfl : l.stackTraces = false) (V : Wd) (l0 : Int32) (G : Mem) {r : Int32} {G' : Mem} (h : fX6_colourOf l0 G = some (r, G')) : Mx l yX6_colourOf cX6_colourOf 1 (some .int) 0 0 V [.int l0] G (.inl (some (.int r))) G' :=
  mx_of (L := [(0, .int l0)]) hfl (by decide +kernel) (Nat.le_of_ble_eq_true rfl) rfl (fun X hl hV hin ok he => by
    subst hl; subst hV
    exact J.sub [0] rfl (jX6_colourOf_0 ok l0 G h he))
def fX6_kindOf_0 (l0 : Int32)  (G : Mem) : Option (Int32 × Mem) :=
  some (((l0 &&& (7 : Int32)) - (1 : Int32)), G)

set_option maxRecDepth 100000 in
set_option maxHeartbeats 4000000 in
theorem jX6_kindOf_0 {X : Cx} (ok : OK X cX6_kindOf RX6 (some .int) 1 0 0) (l0 : Int32)  (G : Mem) {r : Int32} {G' : Mem} (h : fX6_kindOf_0 l0 G = some (r, G')) (hK : (finI X) r G') : J X 1 0 [(0, .int l0)] [] G := by
  unfold fX6_kindOf_0 at h
  refine j_iload_n ok dX6_kindOf_0 rfl 0 rfl ?_
  refine j_bipush (v := 7) ok dX6_kindOf_1 (by decide) ?_
  refine j_iand ok dX6_kindOf_3 ?_
  refine j_iconst (v := 1) ok dX6_kindOf_4 (by decide) ?_
  refine j_isub ok dX6_kindOf_5 ?_
  obtain ⟨er, eG⟩ := inj2 h
  subst er; subst eG
  exact j_iret ok rfl dX6_kindOf_6 hK

def fX6_kindOf (l0 : Int32) (G : Mem) : Option (Int32 × Mem) := fX6_kindOf_0 l0 G
set_option maxRecDepth 100000 in
theorem tX6_kindOf {l : Launch} (hfl : l.stackTraces = false) (V : Wd) (l0 : Int32) (G : Mem) {r : Int32} {G' : Mem} (h : fX6_kindOf l0 G = some (r, G')) : Mx l yX6_kindOf cX6_kindOf 1 (some .int) 0 0 V [.int l0] G (.inl (some (.int r))) G' :=
  mx_of (L := [(0, .int l0)]) hfl (by decide +kernel) (Nat.le_of_ble_eq_true rfl) rfl (fun X hl hV hin ok he => by
    subst hl; subst hV
    exact J.sub [0] rfl (jX6_kindOf_0 ok l0 G h he))
def fX1_allowsOrigin_53  (s0 : Int32) (G : Mem) : Option (Int32 × Mem) :=
  rz s0 <|
  some (s0, G)

set_option maxRecDepth 100000 in
set_option maxHeartbeats 4000000 in
theorem jX1_allowsOrigin_53 {X : Cx} (ok : OK X cX1_allowsOrigin RX1 (some .boolean) 4 0 0)  (s0 : Int32) (G : Mem) {r : Int32} {G' : Mem} (h : fX1_allowsOrigin_53 s0 G = some (r, G')) (hK : (finI X) r G') : J X 4 53 [] [.int s0] G := by
  unfold fX1_allowsOrigin_53 at h
  obtain ⟨hz1, h⟩ := rz_some h
  obtain ⟨er, eG⟩ := inj2 h
  subst er; subst eG
  exact j_zret ok rfl hz1 dX1_allowsOrigin_53 hK

def fX1_allowsOrigin_48   (G : Mem) : Option (Int32 × Mem) :=
  fX1_allowsOrigin_53 (1 : Int32) G

set_option maxRecDepth 100000 in
set_option maxHeartbeats 4000000 in
theorem jX1_allowsOrigin_48 {X : Cx} (ok : OK X cX1_allowsOrigin RX1 (some .boolean) 4 0 0)   (G : Mem) {r : Int32} {G' : Mem} (h : fX1_allowsOrigin_48  G = some (r, G')) (hK : (finI X) r G') : J X 4 48 [] [] G := by
  unfold fX1_allowsOrigin_48 at h
  refine j_iconst (v := 1) ok dX1_allowsOrigin_48 (by decide) ?_
  refine j_goto (tgt := 53) ok dX1_allowsOrigin_49 (by decide) ?_
  exact J.sub [] rfl (jX1_allowsOrigin_53 ok (1 : Int32) G h hK)

def fX1_allowsOrigin_52   (G : Mem) : Option (Int32 × Mem) :=
  fX1_allowsOrigin_53 (0 : Int32) G

set_option maxRecDepth 100000 in
set_option maxHeartbeats 4000000 in
theorem jX1_allowsOrigin_52 {X : Cx} (ok : OK X cX1_allowsOrigin RX1 (some .boolean) 4 0 0)   (G : Mem) {r : Int32} {G' : Mem} (h : fX1_allowsOrigin_52  G = some (r, G')) (hK : (finI X) r G') : J X 4 52 [] [] G := by
  unfold fX1_allowsOrigin_52 at h
  refine j_iconst (v := 0) ok dX1_allowsOrigin_52 (by decide) ?_
  exact J.sub [] rfl (jX1_allowsOrigin_53 ok (0 : Int32) G h hK)

def fX1_allowsOrigin_32 (l0 : Nat) (l3 : Int32)  (G : Mem) : Option (Int32 × Mem) :=
  (gF G 11 l0 2).bind fun v1 =>
  if v1 = (-1 : Int32) then
    fX1_allowsOrigin_48 G
  else
    (gF G 11 l0 2).bind fun v3 =>
    if v3 = l3 then
      fX1_allowsOrigin_48 G
    else
      fX1_allowsOrigin_52 G

set_option maxRecDepth 100000 in
set_option maxHeartbeats 4000000 in
theorem jX1_allowsOrigin_32 {X : Cx} (ok : OK X cX1_allowsOrigin RX1 (some .boolean) 4 0 0) (l0 : Nat) (l3 : Int32)  (G : Mem) {r : Int32} {G' : Mem} (h : fX1_allowsOrigin_32 l0 l3 G = some (r, G')) (hK : (finI X) r G') : J X 4 32 [(0, .ref (X.B + l0)), (3, .int l3)] [] G := by
  unfold fX1_allowsOrigin_32 at h
  refine j_aload_n ok dX1_allowsOrigin_32 rfl 0 rfl ?_
  obtain ⟨v1, hv1, h⟩ := obind h
  refine k_getI ok fl_X1_18 hv1 dX1_allowsOrigin_33 ?_
  refine j_iconst (v := -1) ok dX1_allowsOrigin_36 (by decide) ?_
  rcases ite_some h with ⟨c2, h⟩ | ⟨c2, h⟩
  · refine j_icmp_eq (tgt := 48) ok dX1_allowsOrigin_37 (by decide) (fun _ => ?_) (fun z => absurd c2 z)
    exact J.sub [] rfl (jX1_allowsOrigin_48 ok G h hK)
  · refine j_icmp_eq (tgt := 48) ok dX1_allowsOrigin_37 (by decide) (fun z => absurd z c2) (fun _ => ?_)
    refine j_aload_n ok dX1_allowsOrigin_40 rfl 0 rfl ?_
    obtain ⟨v3, hv3, h⟩ := obind h
    refine k_getI ok fl_X1_18 hv3 dX1_allowsOrigin_41 ?_
    refine j_iload_n ok dX1_allowsOrigin_44 rfl 1 rfl ?_
    rcases ite_some h with ⟨c4, h⟩ | ⟨c4, h⟩
    · refine j_icmp_ne (tgt := 52) ok dX1_allowsOrigin_45 (by decide) (fun z => absurd c4 z) (fun _ => ?_)
      exact J.sub [] rfl (jX1_allowsOrigin_48 ok G h hK)
    · refine j_icmp_ne (tgt := 52) ok dX1_allowsOrigin_45 (by decide) (fun _ => ?_) (fun z => absurd z c4)
      exact J.sub [] rfl (jX1_allowsOrigin_52 ok G h hK)

def fX1_allowsOrigin_16 (l0 : Nat) (l2 : Int32) (l3 : Int32)  (G : Mem) : Option (Int32 × Mem) :=
  (gF G 11 l0 1).bind fun v1 =>
  if v1 = (-1 : Int32) then
    fX1_allowsOrigin_32 l0 l3 G
  else
    (gF G 11 l0 1).bind fun v3 =>
    if v3 = l2 then
      fX1_allowsOrigin_32 l0 l3 G
    else
      fX1_allowsOrigin_52 G

set_option maxRecDepth 100000 in
set_option maxHeartbeats 4000000 in
theorem jX1_allowsOrigin_16 {X : Cx} (ok : OK X cX1_allowsOrigin RX1 (some .boolean) 4 0 0) (l0 : Nat) (l2 : Int32) (l3 : Int32)  (G : Mem) {r : Int32} {G' : Mem} (h : fX1_allowsOrigin_16 l0 l2 l3 G = some (r, G')) (hK : (finI X) r G') : J X 4 16 [(0, .ref (X.B + l0)), (2, .int l2), (3, .int l3)] [] G := by
  unfold fX1_allowsOrigin_16 at h
  refine j_aload_n ok dX1_allowsOrigin_16 rfl 0 rfl ?_
  obtain ⟨v1, hv1, h⟩ := obind h
  refine k_getI ok fl_X1_15 hv1 dX1_allowsOrigin_17 ?_
  refine j_iconst (v := -1) ok dX1_allowsOrigin_20 (by decide) ?_
  rcases ite_some h with ⟨c2, h⟩ | ⟨c2, h⟩
  · refine j_icmp_eq (tgt := 32) ok dX1_allowsOrigin_21 (by decide) (fun _ => ?_) (fun z => absurd c2 z)
    exact J.sub [0, 2] rfl (jX1_allowsOrigin_32 ok l0 l3 G h hK)
  · refine j_icmp_eq (tgt := 32) ok dX1_allowsOrigin_21 (by decide) (fun z => absurd z c2) (fun _ => ?_)
    refine j_aload_n ok dX1_allowsOrigin_24 rfl 0 rfl ?_
    obtain ⟨v3, hv3, h⟩ := obind h
    refine k_getI ok fl_X1_15 hv3 dX1_allowsOrigin_25 ?_
    refine j_iload_n ok dX1_allowsOrigin_28 rfl 1 rfl ?_
    rcases ite_some h with ⟨c4, h⟩ | ⟨c4, h⟩
    · refine j_icmp_ne (tgt := 52) ok dX1_allowsOrigin_29 (by decide) (fun z => absurd c4 z) (fun _ => ?_)
      exact J.sub [0, 2] rfl (jX1_allowsOrigin_32 ok l0 l3 G h hK)
    · refine j_icmp_ne (tgt := 52) ok dX1_allowsOrigin_29 (by decide) (fun _ => ?_) (fun z => absurd z c4)
      exact J.sub [] rfl (jX1_allowsOrigin_52 ok G h hK)

def fX1_allowsOrigin_0 (l0 : Nat) (l1 : Int32) (l2 : Int32) (l3 : Int32)  (G : Mem) : Option (Int32 × Mem) :=
  (gF G 11 l0 0).bind fun v1 =>
  if v1 = (-1 : Int32) then
    fX1_allowsOrigin_16 l0 l2 l3 G
  else
    (gF G 11 l0 0).bind fun v3 =>
    if v3 = l1 then
      fX1_allowsOrigin_16 l0 l2 l3 G
    else
      fX1_allowsOrigin_52 G

set_option maxRecDepth 100000 in
set_option maxHeartbeats 4000000 in
theorem jX1_allowsOrigin_0 {X : Cx} (ok : OK X cX1_allowsOrigin RX1 (some .boolean) 4 0 0) (l0 : Nat) (l1 : Int32) (l2 : Int32) (l3 : Int32)  (G : Mem) {r : Int32} {G' : Mem} (h : fX1_allowsOrigin_0 l0 l1 l2 l3 G = some (r, G')) (hK : (finI X) r G') : J X 4 0 [(0, .ref (X.B + l0)), (1, .int l1), (2, .int l2), (3, .int l3)] [] G := by
  unfold fX1_allowsOrigin_0 at h
  refine j_aload_n ok dX1_allowsOrigin_0 rfl 0 rfl ?_
  obtain ⟨v1, hv1, h⟩ := obind h
  refine k_getI ok fl_X1_9 hv1 dX1_allowsOrigin_1 ?_
  refine j_iconst (v := -1) ok dX1_allowsOrigin_4 (by decide) ?_
  rcases ite_some h with ⟨c2, h⟩ | ⟨c2, h⟩
  · refine j_icmp_eq (tgt := 16) ok dX1_allowsOrigin_5 (by decide) (fun _ => ?_) (fun z => absurd c2 z)
    exact J.sub [0, 2, 3] rfl (jX1_allowsOrigin_16 ok l0 l2 l3 G h hK)
  · refine j_icmp_eq (tgt := 16) ok dX1_allowsOrigin_5 (by decide) (fun z => absurd z c2) (fun _ => ?_)
    refine j_aload_n ok dX1_allowsOrigin_8 rfl 0 rfl ?_
    obtain ⟨v3, hv3, h⟩ := obind h
    refine k_getI ok fl_X1_9 hv3 dX1_allowsOrigin_9 ?_
    refine j_iload_n ok dX1_allowsOrigin_12 rfl 1 rfl ?_
    rcases ite_some h with ⟨c4, h⟩ | ⟨c4, h⟩
    · refine j_icmp_ne (tgt := 52) ok dX1_allowsOrigin_13 (by decide) (fun z => absurd c4 z) (fun _ => ?_)
      exact J.sub [0, 2, 3] rfl (jX1_allowsOrigin_16 ok l0 l2 l3 G h hK)
    · refine j_icmp_ne (tgt := 52) ok dX1_allowsOrigin_13 (by decide) (fun _ => ?_) (fun z => absurd z c4)
      exact J.sub [] rfl (jX1_allowsOrigin_52 ok G h hK)

def fX1_allowsOrigin (l0 : Nat) (l1 : Int32) (l2 : Int32) (l3 : Int32) (G : Mem) : Option (Int32 × Mem) := fX1_allowsOrigin_0 l0 l1 l2 l3 G
set_option maxRecDepth 100000 in
theorem tX1_allowsOrigin {l : Launch} (hfl : l.stackTraces = false) (V : Wd) (l0 : Nat) (l1 : Int32) (l2 : Int32) (l3 : Int32) (G : Mem) {r : Int32} {G' : Mem} (h : fX1_allowsOrigin l0 l1 l2 l3 G = some (r, G')) : Mx l yX1_allowsOrigin cX1_allowsOrigin 4 (some .boolean) 0 0 V [.ref (V.B + l0), .int l1, .int l2, .int l3] G (.inl (some (.int r))) G' :=
  mx_of (L := [(0, .ref (V.B + l0)), (1, .int l1), (2, .int l2), (3, .int l3)]) hfl (by decide +kernel) (Nat.le_of_ble_eq_true rfl) rfl (fun X hl hV hin ok he => by
    subst hl; subst hV
    exact J.sub [0, 1, 2, 3] rfl (jX1_allowsOrigin_0 ok l0 l1 l2 l3 G h he))
def fX0_rangeOf_181 (l3 : Int64)  (G : Mem) : Option (Int64 × Mem) :=
  some (l3, G)

set_option maxRecDepth 100000 in
set_option maxHeartbeats 4000000 in
theorem jX0_rangeOf_181 {X : Cx} (ok : OK X cX0_rangeOf RX0 (some .long) 12 1 21) (l3 : Int64)  (G : Mem) {r : Int64} {G' : Mem} (h : fX0_rangeOf_181 l3 G = some (r, G')) (hK : (finJ X) r G') : J X 12 181 [(3, .long l3)] [] G := by
  unfold fX0_rangeOf_181 at h
  refine j_lload_n ok dX0_rangeOf_181 rfl 0 rfl ?_
  obtain ⟨er, eG⟩ := inj2 h
  subst er; subst eG
  exact j_lret ok rfl dX0_rangeOf_182 hK

def fX0_rangeOf_175 (l0 : Nat) (l1 : Int32) (l3 : Int64) (l6 : Int32) (l7 : Int32) (l8 : Int32)  (G : Mem) : Option (((Int64 × Int32) ⊕ Int64) × Mem) :=
  some (.inl (l3, (l8 + (1 : Int32))), G)

set_option maxRecDepth 100000 in
set_option maxHeartbeats 4000000 in
theorem jX0_rangeOf_175 {X : Cx} (ok : OK X cX0_rangeOf RX0 (some .long) 12 1 21) (l0 : Nat) (l1 : Int32) (l3 : Int64) (l6 : Int32) (l7 : Int32) (l8 : Int32)  (G : Mem) {r : ((Int64 × Int32) ⊕ Int64)} {G' : Mem} (h : fX0_rangeOf_175 l0 l1 l3 l6 l7 l8 G = some (r, G')) (hK : (finL X 12 107 (fun s : Int64 × Int32 => [(0, .ref (X.B + l0)), (1, .int l1), (3, .long s.1), (6, .int l6), (7, .int l7), (8, .int s.2)]) (finJ X)) r G') : J X 12 175 [(0, .ref (X.B + l0)), (1, .int l1), (3, .long l3), (6, .int l6), (7, .int l7), (8, .int l8)] [] G := by
  unfold fX0_rangeOf_175 at h
  refine j_iinc (L' := [(8, .int (l8 + (1 : Int32))), (0, .ref (X.B + l0)), (1, .int l1), (3, .long l3), (6, .int l6), (7, .int l7)]) (v := (l8 + (1 : Int32))) ok dX0_rangeOf_175 (q := 5) rfl rfl (by decide) rfl ?_
  refine j_goto (tgt := 107) ok dX0_rangeOf_178 (by decide) ?_
  obtain ⟨er, eG⟩ := inj2 h
  subst er; subst eG
  have hJ : J X 12 107 [(0, .ref (X.B + l0)), (1, .int l1), (3, .long l3), (6, .int l6), (7, .int l7), (8, .int (l8 + (1 : Int32)))] [] G := hK
  exact J.sub [1, 2, 3, 4, 5, 0] rfl hJ

def fX0_rangeOf_169 (l0 : Nat) (l1 : Int32) (l3 : Int64) (l6 : Int32) (l7 : Int32) (l8 : Int32) (l9 : Int32) (l10 : Int32) (l11 : Int32)  (G : Mem) : Option (((Int64 × Int32 × Int32 × Int32) ⊕ ((Int64 × Int32) ⊕ Int64)) × Mem) :=
  some (.inl (l3, l9, l10, (l11 + (1 : Int32))), G)

set_option maxRecDepth 100000 in
set_option maxHeartbeats 4000000 in
theorem jX0_rangeOf_169 {X : Cx} (ok : OK X cX0_rangeOf RX0 (some .long) 12 1 21) (l0 : Nat) (l1 : Int32) (l3 : Int64) (l6 : Int32) (l7 : Int32) (l8 : Int32) (l9 : Int32) (l10 : Int32) (l11 : Int32)  (G : Mem) {r : ((Int64 × Int32 × Int32 × Int32) ⊕ ((Int64 × Int32) ⊕ Int64))} {G' : Mem} (h : fX0_rangeOf_169 l0 l1 l3 l6 l7 l8 l9 l10 l11 G = some (r, G')) (hK : (finL X 12 123 (fun s : Int64 × Int32 × Int32 × Int32 => [(0, .ref (X.B + l0)), (1, .int l1), (3, .long s.1), (6, .int l6), (7, .int l7), (8, .int l8), (9, .int s.2.1), (10, .int s.2.2.1), (11, .int s.2.2.2)]) (finL X 12 107 (fun s : Int64 × Int32 => [(0, .ref (X.B + l0)), (1, .int l1), (3, .long s.1), (6, .int l6), (7, .int l7), (8, .int s.2)]) (finJ X))) r G') : J X 12 169 [(0, .ref (X.B + l0)), (1, .int l1), (3, .long l3), (6, .int l6), (7, .int l7), (8, .int l8), (9, .int l9), (10, .int l10), (11, .int l11)] [] G := by
  unfold fX0_rangeOf_169 at h
  refine j_iinc (L' := [(11, .int (l11 + (1 : Int32))), (0, .ref (X.B + l0)), (1, .int l1), (3, .long l3), (6, .int l6), (7, .int l7), (8, .int l8), (9, .int l9), (10, .int l10)]) (v := (l11 + (1 : Int32))) ok dX0_rangeOf_169 (q := 8) rfl rfl (by decide) rfl ?_
  refine j_goto (tgt := 123) ok dX0_rangeOf_172 (by decide) ?_
  obtain ⟨er, eG⟩ := inj2 h
  subst er; subst eG
  have hJ : J X 12 123 [(0, .ref (X.B + l0)), (1, .int l1), (3, .long l3), (6, .int l6), (7, .int l7), (8, .int l8), (9, .int l9), (10, .int l10), (11, .int (l11 + (1 : Int32)))] [] G := hK
  exact J.sub [1, 2, 3, 4, 5, 6, 7, 8, 0] rfl hJ

def fX0_rangeOf_123 (l0 : Nat) (l1 : Int32) (l3 : Int64) (l6 : Int32) (l7 : Int32) (l8 : Int32) (l9 : Int32) (l10 : Int32) (l11 : Int32)  (G : Mem) : Option (((Int64 × Int32 × Int32 × Int32) ⊕ ((Int64 × Int32) ⊕ Int64)) × Mem) :=
  if l7 ≤ l11 then
    liftE (fX0_rangeOf_175 l0 l1 l3 l6 l7 l8 G)
  else
    if l10 = (0 : Int32) then
      (tb 1 l8).bind fun v3 =>
      ck G 10 l0 <| (fX0_on l0 (l9 + v3) G).bind fun q4 =>
      if q4.1 = (15 : Int32) then
        fX0_rangeOf_169 l0 l1 l3 l6 l7 l8 (l9 + v3) q4.1 l11 q4.2
      else
        (fX0_bitOf (l9 + v3) q4.2).bind fun q6 =>
        fX0_rangeOf_169 l0 l1 (l3 ||| q6.1) l6 l7 l8 (l9 + v3) q4.1 l11 q6.2
    else
      liftE (fX0_rangeOf_175 l0 l1 l3 l6 l7 l8 G)

set_option maxRecDepth 100000 in
set_option maxHeartbeats 4000000 in
theorem jX0_rangeOf_123 {X : Cx} (ok : OK X cX0_rangeOf RX0 (some .long) 12 1 21) (l0 : Nat) (l1 : Int32) (l3 : Int64) (l6 : Int32) (l7 : Int32) (l8 : Int32) (l9 : Int32) (l10 : Int32) (l11 : Int32)  (G : Mem) {r : ((Int64 × Int32 × Int32 × Int32) ⊕ ((Int64 × Int32) ⊕ Int64))} {G' : Mem} (h : fX0_rangeOf_123 l0 l1 l3 l6 l7 l8 l9 l10 l11 G = some (r, G')) (hK : (finL X 12 123 (fun s : Int64 × Int32 × Int32 × Int32 => [(0, .ref (X.B + l0)), (1, .int l1), (3, .long s.1), (6, .int l6), (7, .int l7), (8, .int l8), (9, .int s.2.1), (10, .int s.2.2.1), (11, .int s.2.2.2)]) (finL X 12 107 (fun s : Int64 × Int32 => [(0, .ref (X.B + l0)), (1, .int l1), (3, .long s.1), (6, .int l6), (7, .int l7), (8, .int s.2)]) (finJ X))) r G') : J X 12 123 [(0, .ref (X.B + l0)), (1, .int l1), (3, .long l3), (6, .int l6), (7, .int l7), (8, .int l8), (9, .int l9), (10, .int l10), (11, .int l11)] [] G := by
  unfold fX0_rangeOf_123 at h
  refine j_iload ok dX0_rangeOf_123 8 rfl ?_
  refine j_iload ok dX0_rangeOf_125 4 rfl ?_
  rcases ite_some h with ⟨c1, h⟩ | ⟨c1, h⟩
  · refine j_icmp_ge (tgt := 175) ok dX0_rangeOf_127 (by decide) (fun _ => ?_) (fun z => absurd c1 z)
    obtain ⟨r1, e1, h1⟩ := lift_some h
    subst e1
    exact J.sub [0, 1, 2, 3, 4, 5] rfl (jX0_rangeOf_175 ok l0 l1 l3 l6 l7 l8 G h1 hK)
  · refine j_icmp_ge (tgt := 175) ok dX0_rangeOf_127 (by decide) (fun z => absurd z c1) (fun _ => ?_)
    refine j_iload ok dX0_rangeOf_130 7 rfl ?_
    rcases ite_some h with ⟨c2, h⟩ | ⟨c2, h⟩
    · refine j_if_ne (tgt := 175) ok dX0_rangeOf_132 (by decide) (fun z => absurd c2 z) (fun _ => ?_)
      refine j_iload ok dX0_rangeOf_135 6 rfl ?_
      refine k_tab ok (k := 1) (by decide) wg_X0_56 dX0_rangeOf_137 ?_
      refine j_iload ok dX0_rangeOf_140 5 rfl ?_
      obtain ⟨v3, hv3, h⟩ := obind h
      refine k_tiaload ok (k := 1) (by decide) hv3 dX0_rangeOf_142 ?_
      refine j_iadd ok dX0_rangeOf_143 ?_
      refine j_istore (L' := [(9, .int (l9 + v3)), (0, .ref (X.B + l0)), (1, .int l1), (3, .long l3), (6, .int l6), (7, .int l7), (8, .int l8), (10, .int l10), (11, .int l11)]) ok dX0_rangeOf_144 (by decide) rfl ?_
      refine j_aload_n ok dX0_rangeOf_146 rfl 1 rfl ?_
      refine j_iload ok dX0_rangeOf_147 0 rfl ?_
      obtain ⟨kq4, h⟩ := ck_some h
      obtain ⟨q4, hq4, h⟩ := obind h
      refine k_V1 ok kl_X0_48 ⟨Nat.le_of_ble_eq_true rfl, Nat.le_of_ble_eq_true rfl⟩ [.int (l9 + v3)] kq4 rfl rfl (Nat.le_of_ble_eq_true rfl) (tX0_on ok.fl X.V l0 (l9 + v3) G hq4) dX0_rangeOf_149 ?_
      refine j_istore (L' := [(10, .int q4.1), (9, .int (l9 + v3)), (0, .ref (X.B + l0)), (1, .int l1), (3, .long l3), (6, .int l6), (7, .int l7), (8, .int l8), (11, .int l11)]) ok dX0_rangeOf_152 (by decide) rfl ?_
      refine j_iload ok dX0_rangeOf_154 0 rfl ?_
      refine j_bipush (v := 15) ok dX0_rangeOf_156 (by decide) ?_
      rcases ite_some h with ⟨c5, h⟩ | ⟨c5, h⟩
      · refine j_icmp_eq (tgt := 169) ok dX0_rangeOf_158 (by decide) (fun _ => ?_) (fun z => absurd c5 z)
        exact J.sub [2, 3, 4, 5, 6, 7, 1, 0, 8] rfl (jX0_rangeOf_169 ok l0 l1 l3 l6 l7 l8 (l9 + v3) q4.1 l11 q4.2 h hK)
      · refine j_icmp_eq (tgt := 169) ok dX0_rangeOf_158 (by decide) (fun z => absurd z c5) (fun _ => ?_)
        refine j_lload_n ok dX0_rangeOf_161 rfl 4 rfl ?_
        refine j_iload ok dX0_rangeOf_162 1 rfl ?_
        obtain ⟨q6, hq6, h⟩ := obind h
        refine k_S1 ok kl_X0_85 ⟨Nat.le_of_ble_eq_true rfl, Nat.le_of_ble_eq_true rfl⟩ [.int (l9 + v3)] rfl rfl (Nat.le_of_ble_eq_true rfl) (tX0_bitOf ok.fl X.V (l9 + v3) q4.2 hq6) dX0_rangeOf_164 ?_
        refine j_lor ok dX0_rangeOf_167 ?_
        refine j_lstore_n (L' := [(3, .long (l3 ||| q6.1)), (10, .int q4.1), (9, .int (l9 + v3)), (0, .ref (X.B + l0)), (1, .int l1), (6, .int l6), (7, .int l7), (8, .int l8), (11, .int l11)]) ok dX0_rangeOf_168 rfl (by decide) rfl ?_
        exact J.sub [3, 4, 0, 5, 6, 7, 2, 1, 8] rfl (jX0_rangeOf_169 ok l0 l1 (l3 ||| q6.1) l6 l7 l8 (l9 + v3) q4.1 l11 q6.2 h hK)
    · refine j_if_ne (tgt := 175) ok dX0_rangeOf_132 (by decide) (fun _ => ?_) (fun z => absurd z c2)
      obtain ⟨r1, e1, h1⟩ := lift_some h
      subst e1
      exact J.sub [0, 1, 2, 3, 4, 5] rfl (jX0_rangeOf_175 ok l0 l1 l3 l6 l7 l8 G h1 hK)

def fX0_rangeOf_107 (l0 : Nat) (l1 : Int32) (l3 : Int64) (l6 : Int32) (l7 : Int32) (l8 : Int32)  (G : Mem) : Option (((Int64 × Int32) ⊕ Int64) × Mem) :=
  if l6 ≤ l8 then
    liftE (fX0_rangeOf_181 l3 G)
  else
    loopM (fun (s : Int64 × Int32 × Int32 × Int32) G => fX0_rangeOf_123 l0 l1 s.1 l6 l7 l8 s.2.1 s.2.2.1 s.2.2.2 G) FU (l3, l1, (0 : Int32), (0 : Int32)) G

set_option maxRecDepth 100000 in
set_option maxHeartbeats 4000000 in
theorem jX0_rangeOf_107 {X : Cx} (ok : OK X cX0_rangeOf RX0 (some .long) 12 1 21) (l0 : Nat) (l1 : Int32) (l3 : Int64) (l6 : Int32) (l7 : Int32) (l8 : Int32)  (G : Mem) {r : ((Int64 × Int32) ⊕ Int64)} {G' : Mem} (h : fX0_rangeOf_107 l0 l1 l3 l6 l7 l8 G = some (r, G')) (hK : (finL X 12 107 (fun s : Int64 × Int32 => [(0, .ref (X.B + l0)), (1, .int l1), (3, .long s.1), (6, .int l6), (7, .int l7), (8, .int s.2)]) (finJ X)) r G') : J X 12 107 [(0, .ref (X.B + l0)), (1, .int l1), (3, .long l3), (6, .int l6), (7, .int l7), (8, .int l8)] [] G := by
  unfold fX0_rangeOf_107 at h
  refine j_iload ok dX0_rangeOf_107 5 rfl ?_
  refine j_iload ok dX0_rangeOf_109 3 rfl ?_
  rcases ite_some h with ⟨c1, h⟩ | ⟨c1, h⟩
  · refine j_icmp_ge (tgt := 181) ok dX0_rangeOf_111 (by decide) (fun _ => ?_) (fun z => absurd c1 z)
    obtain ⟨r1, e1, h1⟩ := lift_some h
    subst e1
    exact J.sub [2] rfl (jX0_rangeOf_181 ok l3 G h1 hK)
  · refine j_icmp_ge (tgt := 181) ok dX0_rangeOf_111 (by decide) (fun z => absurd z c1) (fun _ => ?_)
    refine j_iload_n ok dX0_rangeOf_114 rfl 1 rfl ?_
    refine j_istore (L' := [(9, .int l1), (0, .ref (X.B + l0)), (1, .int l1), (3, .long l3), (6, .int l6), (7, .int l7), (8, .int l8)]) ok dX0_rangeOf_115 (by decide) rfl ?_
    refine j_iconst (v := 0) ok dX0_rangeOf_117 (by decide) ?_
    refine j_istore (L' := [(10, .int (0 : Int32)), (9, .int l1), (0, .ref (X.B + l0)), (1, .int l1), (3, .long l3), (6, .int l6), (7, .int l7), (8, .int l8)]) ok dX0_rangeOf_118 (by decide) rfl ?_
    refine j_iconst (v := 0) ok dX0_rangeOf_120 (by decide) ?_
    refine j_istore (L' := [(11, .int (0 : Int32)), (10, .int (0 : Int32)), (9, .int l1), (0, .ref (X.B + l0)), (1, .int l1), (3, .long l3), (6, .int l6), (7, .int l7), (8, .int l8)]) ok dX0_rangeOf_121 (by decide) rfl ?_
    have hJ : J X 12 123 [(0, .ref (X.B + l0)), (1, .int l1), (3, .long l3), (6, .int l6), (7, .int l7), (8, .int l8), (9, .int l1), (10, .int (0 : Int32)), (11, .int (0 : Int32))] [] G := j_loop (loc := fun s : Int64 × Int32 × Int32 × Int32 => [(0, .ref (X.B + l0)), (1, .int l1), (3, .long s.1), (6, .int l6), (7, .int l7), (8, .int l8), (9, .int s.2.1), (10, .int s.2.2.1), (11, .int s.2.2.2)]) (F := (finL X 12 107 (fun s : Int64 × Int32 => [(0, .ref (X.B + l0)), (1, .int l1), (3, .long s.1), (6, .int l6), (7, .int l7), (8, .int s.2)]) (finJ X))) (fun s G r G' hb hk => jX0_rangeOf_123 ok l0 l1 s.1 l6 l7 l8 s.2.1 s.2.2.1 s.2.2.2 G hb hk) _ _ _ _ _ h hK
    exact J.sub [3, 4, 5, 6, 7, 8, 2, 1, 0] rfl hJ

def fX0_rangeOf_101 (l0 : Nat) (l1 : Int32) (l3 : Int64) (l5 : Int32) (l6 : Int32) (s0 : Int32) (G : Mem) : Option (Int64 × Mem) :=
  loopM (fun (s : Int64 × Int32) G => fX0_rangeOf_107 l0 l1 s.1 l6 s0 s.2 G) FU (l3, l5) G

set_option maxRecDepth 100000 in
set_option maxHeartbeats 4000000 in
theorem jX0_rangeOf_101 {X : Cx} (ok : OK X cX0_rangeOf RX0 (some .long) 12 1 21) (l0 : Nat) (l1 : Int32) (l3 : Int64) (l5 : Int32) (l6 : Int32) (s0 : Int32) (G : Mem) {r : Int64} {G' : Mem} (h : fX0_rangeOf_101 l0 l1 l3 l5 l6 s0 G = some (r, G')) (hK : (finJ X) r G') : J X 12 101 [(0, .ref (X.B + l0)), (1, .int l1), (3, .long l3), (5, .int l5), (6, .int l6)] [.int s0] G := by
  unfold fX0_rangeOf_101 at h
  refine j_istore (L' := [(7, .int s0), (0, .ref (X.B + l0)), (1, .int l1), (3, .long l3), (5, .int l5), (6, .int l6)]) ok dX0_rangeOf_101 (by decide) rfl ?_
  refine j_iload ok dX0_rangeOf_103 4 rfl ?_
  refine j_istore (L' := [(8, .int l5), (7, .int s0), (0, .ref (X.B + l0)), (1, .int l1), (3, .long l3), (5, .int l5), (6, .int l6)]) ok dX0_rangeOf_105 (by decide) rfl ?_
  have hJ : J X 12 107 [(0, .ref (X.B + l0)), (1, .int l1), (3, .long l3), (6, .int l6), (7, .int s0), (8, .int l5)] [] G := j_loop (loc := fun s : Int64 × Int32 => [(0, .ref (X.B + l0)), (1, .int l1), (3, .long s.1), (6, .int l6), (7, .int s0), (8, .int s.2)]) (F := (finJ X)) (fun s G r G' hb hk => jX0_rangeOf_107 ok l0 l1 s.1 l6 s0 s.2 G hb hk) _ _ _ _ _ h hK
  exact J.sub [2, 3, 4, 6, 1, 0] rfl hJ

def fX0_rangeOf_90 (l0 : Nat) (l1 : Int32) (l2 : Int32) (l3 : Int64) (l5 : Int32) (s0 : Int32) (G : Mem) : Option (Int64 × Mem) :=
  if l2 = (0 : Int32) then
    fX0_rangeOf_101 l0 l1 l3 l5 s0 (1 : Int32) G
  else
    fX0_rangeOf_101 l0 l1 l3 l5 s0 (5 : Int32) G

set_option maxRecDepth 100000 in
set_option maxHeartbeats 4000000 in
theorem jX0_rangeOf_90 {X : Cx} (ok : OK X cX0_rangeOf RX0 (some .long) 12 1 21) (l0 : Nat) (l1 : Int32) (l2 : Int32) (l3 : Int64) (l5 : Int32) (s0 : Int32) (G : Mem) {r : Int64} {G' : Mem} (h : fX0_rangeOf_90 l0 l1 l2 l3 l5 s0 G = some (r, G')) (hK : (finJ X) r G') : J X 12 90 [(0, .ref (X.B + l0)), (1, .int l1), (2, .int l2), (3, .long l3), (5, .int l5)] [.int s0] G := by
  unfold fX0_rangeOf_90 at h
  refine j_istore (L' := [(6, .int s0), (0, .ref (X.B + l0)), (1, .int l1), (2, .int l2), (3, .long l3), (5, .int l5)]) ok dX0_rangeOf_90 (by decide) rfl ?_
  refine j_iload_n ok dX0_rangeOf_92 rfl 3 rfl ?_
  rcases ite_some h with ⟨c1, h⟩ | ⟨c1, h⟩
  · refine j_if_ne (tgt := 100) ok dX0_rangeOf_93 (by decide) (fun z => absurd c1 z) (fun _ => ?_)
    refine j_iconst (v := 1) ok dX0_rangeOf_96 (by decide) ?_
    refine j_goto (tgt := 101) ok dX0_rangeOf_97 (by decide) ?_
    exact J.sub [1, 2, 4, 5, 0] rfl (jX0_rangeOf_101 ok l0 l1 l3 l5 s0 (1 : Int32) G h hK)
  · refine j_if_ne (tgt := 100) ok dX0_rangeOf_93 (by decide) (fun _ => ?_) (fun z => absurd z c1)
    refine j_iconst (v := 5) ok dX0_rangeOf_100 (by decide) ?_
    exact J.sub [1, 2, 4, 5, 0] rfl (jX0_rangeOf_101 ok l0 l1 l3 l5 s0 (5 : Int32) G h hK)

def fX0_rangeOf_75 (l0 : Nat) (l1 : Int32) (l2 : Int32) (l3 : Int64) (s0 : Int32) (G : Mem) : Option (Int64 × Mem) :=
  if l2 = (2 : Int32) then
    fX0_rangeOf_90 l0 l1 l2 l3 s0 (4 : Int32) G
  else
    fX0_rangeOf_90 l0 l1 l2 l3 s0 (8 : Int32) G

set_option maxRecDepth 100000 in
set_option maxHeartbeats 4000000 in
theorem jX0_rangeOf_75 {X : Cx} (ok : OK X cX0_rangeOf RX0 (some .long) 12 1 21) (l0 : Nat) (l1 : Int32) (l2 : Int32) (l3 : Int64) (s0 : Int32) (G : Mem) {r : Int64} {G' : Mem} (h : fX0_rangeOf_75 l0 l1 l2 l3 s0 G = some (r, G')) (hK : (finJ X) r G') : J X 12 75 [(0, .ref (X.B + l0)), (1, .int l1), (2, .int l2), (3, .long l3)] [.int s0] G := by
  unfold fX0_rangeOf_75 at h
  refine j_istore (L' := [(5, .int s0), (0, .ref (X.B + l0)), (1, .int l1), (2, .int l2), (3, .long l3)]) ok dX0_rangeOf_75 (by decide) rfl ?_
  refine j_iload_n ok dX0_rangeOf_77 rfl 3 rfl ?_
  refine j_iconst (v := 2) ok dX0_rangeOf_78 (by decide) ?_
  rcases ite_some h with ⟨c1, h⟩ | ⟨c1, h⟩
  · refine j_icmp_ne (tgt := 86) ok dX0_rangeOf_79 (by decide) (fun z => absurd c1 z) (fun _ => ?_)
    refine j_iconst (v := 4) ok dX0_rangeOf_82 (by decide) ?_
    refine j_goto (tgt := 90) ok dX0_rangeOf_83 (by decide) ?_
    exact J.sub [1, 2, 3, 4, 0] rfl (jX0_rangeOf_90 ok l0 l1 l2 l3 s0 (4 : Int32) G h hK)
  · refine j_icmp_ne (tgt := 86) ok dX0_rangeOf_79 (by decide) (fun _ => ?_) (fun z => absurd z c1)
    refine k_tab ok (k := 1) (by decide) wg_X0_56 dX0_rangeOf_86 ?_
    refine k_tlen ok (k := 1) (by decide) rfl dX0_rangeOf_89 ?_
    exact J.sub [1, 2, 3, 4, 0] rfl (jX0_rangeOf_90 ok l0 l1 l2 l3 s0 (8 : Int32) G h hK)

def fX0_rangeOf_63 (l3 : Int64)  (G : Mem) : Option (Int64 × Mem) :=
  some (l3, G)

set_option maxRecDepth 100000 in
set_option maxHeartbeats 4000000 in
theorem jX0_rangeOf_63 {X : Cx} (ok : OK X cX0_rangeOf RX0 (some .long) 12 1 21) (l3 : Int64)  (G : Mem) {r : Int64} {G' : Mem} (h : fX0_rangeOf_63 l3 G = some (r, G')) (hK : (finJ X) r G') : J X 12 63 [(3, .long l3)] [] G := by
  unfold fX0_rangeOf_63 at h
  refine j_lload_n ok dX0_rangeOf_63 rfl 0 rfl ?_
  obtain ⟨er, eG⟩ := inj2 h
  subst er; subst eG
  exact j_lret ok rfl dX0_rangeOf_64 hK

def fX0_rangeOf_57 (l0 : Nat) (l1 : Int32) (l3 : Int64) (l5 : Int32)  (G : Mem) : Option (((Int64 × Int32) ⊕ Int64) × Mem) :=
  some (.inl (l3, (l5 + (1 : Int32))), G)

set_option maxRecDepth 100000 in
set_option maxHeartbeats 4000000 in
theorem jX0_rangeOf_57 {X : Cx} (ok : OK X cX0_rangeOf RX0 (some .long) 12 1 21) (l0 : Nat) (l1 : Int32) (l3 : Int64) (l5 : Int32)  (G : Mem) {r : ((Int64 × Int32) ⊕ Int64)} {G' : Mem} (h : fX0_rangeOf_57 l0 l1 l3 l5 G = some (r, G')) (hK : (finL X 12 19 (fun s : Int64 × Int32 => [(0, .ref (X.B + l0)), (1, .int l1), (3, .long s.1), (5, .int s.2)]) (finJ X)) r G') : J X 12 57 [(0, .ref (X.B + l0)), (1, .int l1), (3, .long l3), (5, .int l5)] [] G := by
  unfold fX0_rangeOf_57 at h
  refine j_iinc (L' := [(5, .int (l5 + (1 : Int32))), (0, .ref (X.B + l0)), (1, .int l1), (3, .long l3)]) (v := (l5 + (1 : Int32))) ok dX0_rangeOf_57 (q := 3) rfl rfl (by decide) rfl ?_
  refine j_goto (tgt := 19) ok dX0_rangeOf_60 (by decide) ?_
  obtain ⟨er, eG⟩ := inj2 h
  subst er; subst eG
  have hJ : J X 12 19 [(0, .ref (X.B + l0)), (1, .int l1), (3, .long l3), (5, .int (l5 + (1 : Int32)))] [] G := hK
  exact J.sub [1, 2, 3, 0] rfl hJ

def fX0_rangeOf_19 (l0 : Nat) (l1 : Int32) (l3 : Int64) (l5 : Int32)  (G : Mem) : Option (((Int64 × Int32) ⊕ Int64) × Mem) :=
  if (8 : Int32) ≤ l5 then
    liftE (fX0_rangeOf_63 l3 G)
  else
    (tb 2 l5).bind fun v2 =>
    ck G 10 l0 <| (fX0_on l0 (l1 + v2) G).bind fun q3 =>
    if q3.1 = (15 : Int32) then
      fX0_rangeOf_57 l0 l1 l3 l5 q3.2
    else
      (fX0_bitOf (l1 + v2) q3.2).bind fun q5 =>
      fX0_rangeOf_57 l0 l1 (l3 ||| q5.1) l5 q5.2

set_option maxRecDepth 100000 in
set_option maxHeartbeats 4000000 in
theorem jX0_rangeOf_19 {X : Cx} (ok : OK X cX0_rangeOf RX0 (some .long) 12 1 21) (l0 : Nat) (l1 : Int32) (l3 : Int64) (l5 : Int32)  (G : Mem) {r : ((Int64 × Int32) ⊕ Int64)} {G' : Mem} (h : fX0_rangeOf_19 l0 l1 l3 l5 G = some (r, G')) (hK : (finL X 12 19 (fun s : Int64 × Int32 => [(0, .ref (X.B + l0)), (1, .int l1), (3, .long s.1), (5, .int s.2)]) (finJ X)) r G') : J X 12 19 [(0, .ref (X.B + l0)), (1, .int l1), (3, .long l3), (5, .int l5)] [] G := by
  unfold fX0_rangeOf_19 at h
  refine j_iload ok dX0_rangeOf_19 3 rfl ?_
  refine k_tab ok (k := 2) (by decide) wg_X0_59 dX0_rangeOf_21 ?_
  refine k_tlen ok (k := 2) (by decide) rfl dX0_rangeOf_24 ?_
  rcases ite_some h with ⟨c1, h⟩ | ⟨c1, h⟩
  · refine j_icmp_ge (tgt := 63) ok dX0_rangeOf_25 (by decide) (fun _ => ?_) (fun z => absurd c1 z)
    obtain ⟨r1, e1, h1⟩ := lift_some h
    subst e1
    exact J.sub [2] rfl (jX0_rangeOf_63 ok l3 G h1 hK)
  · refine j_icmp_ge (tgt := 63) ok dX0_rangeOf_25 (by decide) (fun z => absurd z c1) (fun _ => ?_)
    refine j_iload_n ok dX0_rangeOf_28 rfl 1 rfl ?_
    refine k_tab ok (k := 2) (by decide) wg_X0_59 dX0_rangeOf_29 ?_
    refine j_iload ok dX0_rangeOf_32 3 rfl ?_
    obtain ⟨v2, hv2, h⟩ := obind h
    refine k_tiaload ok (k := 2) (by decide) hv2 dX0_rangeOf_34 ?_
    refine j_iadd ok dX0_rangeOf_35 ?_
    refine j_istore (L' := [(6, .int (l1 + v2)), (0, .ref (X.B + l0)), (1, .int l1), (3, .long l3), (5, .int l5)]) ok dX0_rangeOf_36 (by decide) rfl ?_
    refine j_aload_n ok dX0_rangeOf_38 rfl 1 rfl ?_
    refine j_iload ok dX0_rangeOf_39 0 rfl ?_
    obtain ⟨kq3, h⟩ := ck_some h
    obtain ⟨q3, hq3, h⟩ := obind h
    refine k_V1 ok kl_X0_48 ⟨Nat.le_of_ble_eq_true rfl, Nat.le_of_ble_eq_true rfl⟩ [.int (l1 + v2)] kq3 rfl rfl (Nat.le_of_ble_eq_true rfl) (tX0_on ok.fl X.V l0 (l1 + v2) G hq3) dX0_rangeOf_41 ?_
    refine j_bipush (v := 15) ok dX0_rangeOf_44 (by decide) ?_
    rcases ite_some h with ⟨c4, h⟩ | ⟨c4, h⟩
    · refine j_icmp_eq (tgt := 57) ok dX0_rangeOf_46 (by decide) (fun _ => ?_) (fun z => absurd c4 z)
      exact J.sub [1, 2, 3, 4] rfl (jX0_rangeOf_57 ok l0 l1 l3 l5 q3.2 h hK)
    · refine j_icmp_eq (tgt := 57) ok dX0_rangeOf_46 (by decide) (fun z => absurd z c4) (fun _ => ?_)
      refine j_lload_n ok dX0_rangeOf_49 rfl 3 rfl ?_
      refine j_iload ok dX0_rangeOf_50 0 rfl ?_
      obtain ⟨q5, hq5, h⟩ := obind h
      refine k_S1 ok kl_X0_85 ⟨Nat.le_of_ble_eq_true rfl, Nat.le_of_ble_eq_true rfl⟩ [.int (l1 + v2)] rfl rfl (Nat.le_of_ble_eq_true rfl) (tX0_bitOf ok.fl X.V (l1 + v2) q3.2 hq5) dX0_rangeOf_52 ?_
      refine j_lor ok dX0_rangeOf_55 ?_
      refine j_lstore_n (L' := [(3, .long (l3 ||| q5.1)), (6, .int (l1 + v2)), (0, .ref (X.B + l0)), (1, .int l1), (5, .int l5)]) ok dX0_rangeOf_56 rfl (by decide) rfl ?_
      exact J.sub [2, 3, 0, 4] rfl (jX0_rangeOf_57 ok l0 l1 (l3 ||| q5.1) l5 q5.2 h hK)

def fX0_rangeOf_0 (l0 : Nat) (l1 : Int32)  (G : Mem) : Option (Int64 × Mem) :=
  ck G 10 l0 <| (fX0_on l0 l1 G).bind fun q1 =>
  (fX6_kindOf q1.1 q1.2).bind fun q2 =>
  if q2.1 = (4 : Int32) then
    loopM (fun (s : Int64 × Int32) G => fX0_rangeOf_19 l0 l1 s.1 s.2 G) FU ((0 : Int64), (0 : Int32)) q2.2
  else
    if q2.1 = (3 : Int32) then
      fX0_rangeOf_75 l0 l1 q2.1 (0 : Int64) (4 : Int32) q2.2
    else
      fX0_rangeOf_75 l0 l1 q2.1 (0 : Int64) (0 : Int32) q2.2

set_option maxRecDepth 100000 in
set_option maxHeartbeats 4000000 in
theorem jX0_rangeOf_0 {X : Cx} (ok : OK X cX0_rangeOf RX0 (some .long) 12 1 21) (l0 : Nat) (l1 : Int32)  (G : Mem) {r : Int64} {G' : Mem} (h : fX0_rangeOf_0 l0 l1 G = some (r, G')) (hK : (finJ X) r G') : J X 12 0 [(0, .ref (X.B + l0)), (1, .int l1)] [] G := by
  unfold fX0_rangeOf_0 at h
  refine j_aload_n ok dX0_rangeOf_0 rfl 0 rfl ?_
  refine j_iload_n ok dX0_rangeOf_1 rfl 1 rfl ?_
  obtain ⟨kq1, h⟩ := ck_some h
  obtain ⟨q1, hq1, h⟩ := obind h
  refine k_V1 ok kl_X0_48 ⟨Nat.le_of_ble_eq_true rfl, Nat.le_of_ble_eq_true rfl⟩ [.int l1] kq1 rfl rfl (Nat.le_of_ble_eq_true rfl) (tX0_on ok.fl X.V l0 l1 G hq1) dX0_rangeOf_2 ?_
  obtain ⟨q2, hq2, h⟩ := obind h
  refine k_N1 ok kl_X0_68 ⟨Nat.le_of_ble_eq_true rfl, Nat.le_of_ble_eq_true rfl⟩ [.int q1.1] rfl rfl (Nat.le_of_ble_eq_true rfl) (tX6_kindOf ok.fl X.V q1.1 q1.2 hq2) dX0_rangeOf_5 ?_
  refine j_istore_n (L' := [(2, .int q2.1), (0, .ref (X.B + l0)), (1, .int l1)]) ok dX0_rangeOf_8 rfl (by decide) rfl ?_
  refine j_lconst (v := 0) ok dX0_rangeOf_9 (by decide) ?_
  refine j_lstore_n (L' := [(3, .long (0 : Int64)), (2, .int q2.1), (0, .ref (X.B + l0)), (1, .int l1)]) ok dX0_rangeOf_10 rfl (by decide) rfl ?_
  refine j_iload_n ok dX0_rangeOf_11 rfl 1 rfl ?_
  refine j_iconst (v := 4) ok dX0_rangeOf_12 (by decide) ?_
  rcases ite_some h with ⟨c3, h⟩ | ⟨c3, h⟩
  · refine j_icmp_ne (tgt := 65) ok dX0_rangeOf_13 (by decide) (fun z => absurd c3 z) (fun _ => ?_)
    refine j_iconst (v := 0) ok dX0_rangeOf_16 (by decide) ?_
    refine j_istore (L' := [(5, .int (0 : Int32)), (3, .long (0 : Int64)), (2, .int q2.1), (0, .ref (X.B + l0)), (1, .int l1)]) ok dX0_rangeOf_17 (by decide) rfl ?_
    have hJ : J X 12 19 [(0, .ref (X.B + l0)), (1, .int l1), (3, .long (0 : Int64)), (5, .int (0 : Int32))] [] q2.2 := j_loop (loc := fun s : Int64 × Int32 => [(0, .ref (X.B + l0)), (1, .int l1), (3, .long s.1), (5, .int s.2)]) (F := (finJ X)) (fun s G r G' hb hk => jX0_rangeOf_19 ok l0 l1 s.1 s.2 G hb hk) _ _ _ _ _ h hK
    exact J.sub [3, 4, 1, 0] rfl hJ
  · refine j_icmp_ne (tgt := 65) ok dX0_rangeOf_13 (by decide) (fun _ => ?_) (fun z => absurd z c3)
    refine j_iload_n ok dX0_rangeOf_65 rfl 1 rfl ?_
    refine j_iconst (v := 3) ok dX0_rangeOf_66 (by decide) ?_
    rcases ite_some h with ⟨c4, h⟩ | ⟨c4, h⟩
    · refine j_icmp_ne (tgt := 74) ok dX0_rangeOf_67 (by decide) (fun z => absurd c4 z) (fun _ => ?_)
      refine j_iconst (v := 4) ok dX0_rangeOf_70 (by decide) ?_
      refine j_goto (tgt := 75) ok dX0_rangeOf_71 (by decide) ?_
      exact J.sub [2, 3, 1, 0] rfl (jX0_rangeOf_75 ok l0 l1 q2.1 (0 : Int64) (4 : Int32) q2.2 h hK)
    · refine j_icmp_ne (tgt := 74) ok dX0_rangeOf_67 (by decide) (fun _ => ?_) (fun z => absurd z c4)
      refine j_iconst (v := 0) ok dX0_rangeOf_74 (by decide) ?_
      exact J.sub [2, 3, 1, 0] rfl (jX0_rangeOf_75 ok l0 l1 q2.1 (0 : Int64) (0 : Int32) q2.2 h hK)

def fX0_rangeOf (l0 : Nat) (l1 : Int32) (G : Mem) : Option (Int64 × Mem) := fX0_rangeOf_0 l0 l1 G
set_option maxRecDepth 100000 in
theorem tX0_rangeOf {l : Launch} (hfl : l.stackTraces = false) (V : Wd) (l0 : Nat) (l1 : Int32) (G : Mem) {r : Int64} {G' : Mem} (h : fX0_rangeOf l0 l1 G = some (r, G')) : Mx l yX0_rangeOf cX0_rangeOf 12 (some .long) 1 21 V [.ref (V.B + l0), .int l1] G (.inl (some (.long r))) G' :=
  mx_of (L := [(0, .ref (V.B + l0)), (1, .int l1)]) hfl (by decide +kernel) (Nat.le_of_ble_eq_true rfl) rfl (fun X hl hV hin ok he => by
    subst hl; subst hV
    exact J.sub [0, 1] rfl (jX0_rangeOf_0 ok l0 l1 G h he))
def fX1_allowsTarget_48  (s0 : Int32) (G : Mem) : Option (Int32 × Mem) :=
  rz s0 <|
  some (s0, G)

set_option maxRecDepth 100000 in
set_option maxHeartbeats 4000000 in
theorem jX1_allowsTarget_48 {X : Cx} (ok : OK X cX1_allowsTarget RX1 (some .boolean) 4 0 0)  (s0 : Int32) (G : Mem) {r : Int32} {G' : Mem} (h : fX1_allowsTarget_48 s0 G = some (r, G')) (hK : (finI X) r G') : J X 4 48 [] [.int s0] G := by
  unfold fX1_allowsTarget_48 at h
  obtain ⟨hz1, h⟩ := rz_some h
  obtain ⟨er, eG⟩ := inj2 h
  subst er; subst eG
  exact j_zret ok rfl hz1 dX1_allowsTarget_48 hK

def fX1_allowsTarget_43   (G : Mem) : Option (Int32 × Mem) :=
  fX1_allowsTarget_48 (1 : Int32) G

set_option maxRecDepth 100000 in
set_option maxHeartbeats 4000000 in
theorem jX1_allowsTarget_43 {X : Cx} (ok : OK X cX1_allowsTarget RX1 (some .boolean) 4 0 0)   (G : Mem) {r : Int32} {G' : Mem} (h : fX1_allowsTarget_43  G = some (r, G')) (hK : (finI X) r G') : J X 4 43 [] [] G := by
  unfold fX1_allowsTarget_43 at h
  refine j_iconst (v := 1) ok dX1_allowsTarget_43 (by decide) ?_
  refine j_goto (tgt := 48) ok dX1_allowsTarget_44 (by decide) ?_
  exact J.sub [] rfl (jX1_allowsTarget_48 ok (1 : Int32) G h hK)

def fX1_allowsTarget_47   (G : Mem) : Option (Int32 × Mem) :=
  fX1_allowsTarget_48 (0 : Int32) G

set_option maxRecDepth 100000 in
set_option maxHeartbeats 4000000 in
theorem jX1_allowsTarget_47 {X : Cx} (ok : OK X cX1_allowsTarget RX1 (some .boolean) 4 0 0)   (G : Mem) {r : Int32} {G' : Mem} (h : fX1_allowsTarget_47  G = some (r, G')) (hK : (finI X) r G') : J X 4 47 [] [] G := by
  unfold fX1_allowsTarget_47 at h
  refine j_iconst (v := 0) ok dX1_allowsTarget_47 (by decide) ?_
  exact J.sub [] rfl (jX1_allowsTarget_48 ok (0 : Int32) G h hK)

def fX1_allowsTarget_32 (l0 : Nat) (l3 : Int32)  (G : Mem) : Option (Int32 × Mem) :=
  if l3 = (0 : Int32) then
    (gF G 11 l0 5).bind fun v2 =>
    if v2 = (0 : Int32) then
      fX1_allowsTarget_43 G
    else
      fX1_allowsTarget_47 G
  else
    fX1_allowsTarget_43 G

set_option maxRecDepth 100000 in
set_option maxHeartbeats 4000000 in
theorem jX1_allowsTarget_32 {X : Cx} (ok : OK X cX1_allowsTarget RX1 (some .boolean) 4 0 0) (l0 : Nat) (l3 : Int32)  (G : Mem) {r : Int32} {G' : Mem} (h : fX1_allowsTarget_32 l0 l3 G = some (r, G')) (hK : (finI X) r G') : J X 4 32 [(0, .ref (X.B + l0)), (3, .int l3)] [] G := by
  unfold fX1_allowsTarget_32 at h
  refine j_iload_n ok dX1_allowsTarget_32 rfl 1 rfl ?_
  rcases ite_some h with ⟨c1, h⟩ | ⟨c1, h⟩
  · refine j_if_ne (tgt := 43) ok dX1_allowsTarget_33 (by decide) (fun z => absurd c1 z) (fun _ => ?_)
    refine j_aload_n ok dX1_allowsTarget_36 rfl 0 rfl ?_
    obtain ⟨v2, hv2, h⟩ := obind h
    refine k_getI ok fl_X1_27 hv2 dX1_allowsTarget_37 ?_
    rcases ite_some h with ⟨c3, h⟩ | ⟨c3, h⟩
    · refine j_if_ne (tgt := 47) ok dX1_allowsTarget_40 (by decide) (fun z => absurd c3 z) (fun _ => ?_)
      exact J.sub [] rfl (jX1_allowsTarget_43 ok G h hK)
    · refine j_if_ne (tgt := 47) ok dX1_allowsTarget_40 (by decide) (fun _ => ?_) (fun z => absurd z c3)
      exact J.sub [] rfl (jX1_allowsTarget_47 ok G h hK)
  · refine j_if_ne (tgt := 43) ok dX1_allowsTarget_33 (by decide) (fun _ => ?_) (fun z => absurd z c1)
    exact J.sub [] rfl (jX1_allowsTarget_43 ok G h hK)

def fX1_allowsTarget_16 (l0 : Nat) (l2 : Int32) (l3 : Int32)  (G : Mem) : Option (Int32 × Mem) :=
  (gF G 11 l0 4).bind fun v1 =>
  if v1 = (-1 : Int32) then
    fX1_allowsTarget_32 l0 l3 G
  else
    (gF G 11 l0 4).bind fun v3 =>
    if v3 = l2 then
      fX1_allowsTarget_32 l0 l3 G
    else
      fX1_allowsTarget_47 G

set_option maxRecDepth 100000 in
set_option maxHeartbeats 4000000 in
theorem jX1_allowsTarget_16 {X : Cx} (ok : OK X cX1_allowsTarget RX1 (some .boolean) 4 0 0) (l0 : Nat) (l2 : Int32) (l3 : Int32)  (G : Mem) {r : Int32} {G' : Mem} (h : fX1_allowsTarget_16 l0 l2 l3 G = some (r, G')) (hK : (finI X) r G') : J X 4 16 [(0, .ref (X.B + l0)), (2, .int l2), (3, .int l3)] [] G := by
  unfold fX1_allowsTarget_16 at h
  refine j_aload_n ok dX1_allowsTarget_16 rfl 0 rfl ?_
  obtain ⟨v1, hv1, h⟩ := obind h
  refine k_getI ok fl_X1_24 hv1 dX1_allowsTarget_17 ?_
  refine j_iconst (v := -1) ok dX1_allowsTarget_20 (by decide) ?_
  rcases ite_some h with ⟨c2, h⟩ | ⟨c2, h⟩
  · refine j_icmp_eq (tgt := 32) ok dX1_allowsTarget_21 (by decide) (fun _ => ?_) (fun z => absurd c2 z)
    exact J.sub [0, 2] rfl (jX1_allowsTarget_32 ok l0 l3 G h hK)
  · refine j_icmp_eq (tgt := 32) ok dX1_allowsTarget_21 (by decide) (fun z => absurd z c2) (fun _ => ?_)
    refine j_aload_n ok dX1_allowsTarget_24 rfl 0 rfl ?_
    obtain ⟨v3, hv3, h⟩ := obind h
    refine k_getI ok fl_X1_24 hv3 dX1_allowsTarget_25 ?_
    refine j_iload_n ok dX1_allowsTarget_28 rfl 1 rfl ?_
    rcases ite_some h with ⟨c4, h⟩ | ⟨c4, h⟩
    · refine j_icmp_ne (tgt := 47) ok dX1_allowsTarget_29 (by decide) (fun z => absurd c4 z) (fun _ => ?_)
      exact J.sub [0, 2] rfl (jX1_allowsTarget_32 ok l0 l3 G h hK)
    · refine j_icmp_ne (tgt := 47) ok dX1_allowsTarget_29 (by decide) (fun _ => ?_) (fun z => absurd z c4)
      exact J.sub [] rfl (jX1_allowsTarget_47 ok G h hK)

def fX1_allowsTarget_0 (l0 : Nat) (l1 : Int32) (l2 : Int32) (l3 : Int32)  (G : Mem) : Option (Int32 × Mem) :=
  (gF G 11 l0 3).bind fun v1 =>
  if v1 = (-1 : Int32) then
    fX1_allowsTarget_16 l0 l2 l3 G
  else
    (gF G 11 l0 3).bind fun v3 =>
    if v3 = l1 then
      fX1_allowsTarget_16 l0 l2 l3 G
    else
      fX1_allowsTarget_47 G

set_option maxRecDepth 100000 in
set_option maxHeartbeats 4000000 in
theorem jX1_allowsTarget_0 {X : Cx} (ok : OK X cX1_allowsTarget RX1 (some .boolean) 4 0 0) (l0 : Nat) (l1 : Int32) (l2 : Int32) (l3 : Int32)  (G : Mem) {r : Int32} {G' : Mem} (h : fX1_allowsTarget_0 l0 l1 l2 l3 G = some (r, G')) (hK : (finI X) r G') : J X 4 0 [(0, .ref (X.B + l0)), (1, .int l1), (2, .int l2), (3, .int l3)] [] G := by
  unfold fX1_allowsTarget_0 at h
  refine j_aload_n ok dX1_allowsTarget_0 rfl 0 rfl ?_
  obtain ⟨v1, hv1, h⟩ := obind h
  refine k_getI ok fl_X1_21 hv1 dX1_allowsTarget_1 ?_
  refine j_iconst (v := -1) ok dX1_allowsTarget_4 (by decide) ?_
  rcases ite_some h with ⟨c2, h⟩ | ⟨c2, h⟩
  · refine j_icmp_eq (tgt := 16) ok dX1_allowsTarget_5 (by decide) (fun _ => ?_) (fun z => absurd c2 z)
    exact J.sub [0, 2, 3] rfl (jX1_allowsTarget_16 ok l0 l2 l3 G h hK)
  · refine j_icmp_eq (tgt := 16) ok dX1_allowsTarget_5 (by decide) (fun z => absurd z c2) (fun _ => ?_)
    refine j_aload_n ok dX1_allowsTarget_8 rfl 0 rfl ?_
    obtain ⟨v3, hv3, h⟩ := obind h
    refine k_getI ok fl_X1_21 hv3 dX1_allowsTarget_9 ?_
    refine j_iload_n ok dX1_allowsTarget_12 rfl 1 rfl ?_
    rcases ite_some h with ⟨c4, h⟩ | ⟨c4, h⟩
    · refine j_icmp_ne (tgt := 47) ok dX1_allowsTarget_13 (by decide) (fun z => absurd c4 z) (fun _ => ?_)
      exact J.sub [0, 2, 3] rfl (jX1_allowsTarget_16 ok l0 l2 l3 G h hK)
    · refine j_icmp_ne (tgt := 47) ok dX1_allowsTarget_13 (by decide) (fun _ => ?_) (fun z => absurd z c4)
      exact J.sub [] rfl (jX1_allowsTarget_47 ok G h hK)

def fX1_allowsTarget (l0 : Nat) (l1 : Int32) (l2 : Int32) (l3 : Int32) (G : Mem) : Option (Int32 × Mem) := fX1_allowsTarget_0 l0 l1 l2 l3 G
set_option maxRecDepth 100000 in
theorem tX1_allowsTarget {l : Launch} (hfl : l.stackTraces = false) (V : Wd) (l0 : Nat) (l1 : Int32) (l2 : Int32) (l3 : Int32) (G : Mem) {r : Int32} {G' : Mem} (h : fX1_allowsTarget l0 l1 l2 l3 G = some (r, G')) : Mx l yX1_allowsTarget cX1_allowsTarget 4 (some .boolean) 0 0 V [.ref (V.B + l0), .int l1, .int l2, .int l3] G (.inl (some (.int r))) G' :=
  mx_of (L := [(0, .ref (V.B + l0)), (1, .int l1), (2, .int l2), (3, .int l3)]) hfl (by decide +kernel) (Nat.le_of_ble_eq_true rfl) rfl (fun X hl hV hin ok he => by
    subst hl; subst hV
    exact J.sub [0, 1, 2, 3] rfl (jX1_allowsTarget_0 ok l0 l1 l2 l3 G h he))
def fX0_set_20   (G : Mem) : Option (Unit × Mem) :=
  some ((), G)

set_option maxRecDepth 100000 in
set_option maxHeartbeats 4000000 in
theorem jX0_set_20 {X : Cx} (ok : OK X cX0_set RX0 none 3 0 0)   (G : Mem) {r : Unit} {G' : Mem} (h : fX0_set_20  G = some (r, G')) (hK : (finV X) r G') : J X 3 20 [] [] G := by
  unfold fX0_set_20 at h
  obtain ⟨er, eG⟩ := inj2 h
  subst er; subst eG
  exact j_vret ok rfl dX0_set_20 hK

def fX0_set_0 (l0 : Nat) (l1 : Int32) (l2 : Int32)  (G : Mem) : Option (Unit × Mem) :=
  if l1 < (0 : Int32) then
    fX0_set_20 G
  else
    (gR G 10 l0 4).bind fun v2 =>
    (gL G v2).bind fun v3 =>
    if v3 ≤ l1 then
      fX0_set_20 G
    else
      (gR G 10 l0 4).bind fun v5 =>
      (pA G v5 l1 l2).bind fun G6 =>
      fX0_set_20 G6

set_option maxRecDepth 100000 in
set_option maxHeartbeats 4000000 in
theorem jX0_set_0 {X : Cx} (ok : OK X cX0_set RX0 none 3 0 0) (l0 : Nat) (l1 : Int32) (l2 : Int32)  (G : Mem) {r : Unit} {G' : Mem} (h : fX0_set_0 l0 l1 l2 G = some (r, G')) (hK : (finV X) r G') : J X 3 0 [(0, .ref (X.B + l0)), (1, .int l1), (2, .int l2)] [] G := by
  unfold fX0_set_0 at h
  refine j_iload_n ok dX0_set_0 rfl 1 rfl ?_
  rcases ite_some h with ⟨c1, h⟩ | ⟨c1, h⟩
  · refine j_if_lt (tgt := 20) ok dX0_set_1 (by decide) (fun _ => ?_) (fun z => absurd c1 z)
    exact J.sub [] rfl (jX0_set_20 ok G h hK)
  · refine j_if_lt (tgt := 20) ok dX0_set_1 (by decide) (fun z => absurd z c1) (fun _ => ?_)
    refine j_iload_n ok dX0_set_4 rfl 1 rfl ?_
    refine j_aload_n ok dX0_set_5 rfl 0 rfl ?_
    obtain ⟨v2, hv2, h⟩ := obind h
    refine k_getR ok fl_X0_25 hv2 dX0_set_6 ?_
    obtain ⟨v3, hv3, h⟩ := obind h
    refine j_alen ok hv3 dX0_set_9 ?_
    rcases ite_some h with ⟨c4, h⟩ | ⟨c4, h⟩
    · refine j_icmp_ge (tgt := 20) ok dX0_set_10 (by decide) (fun _ => ?_) (fun z => absurd c4 z)
      exact J.sub [] rfl (jX0_set_20 ok G h hK)
    · refine j_icmp_ge (tgt := 20) ok dX0_set_10 (by decide) (fun z => absurd z c4) (fun _ => ?_)
      refine j_aload_n ok dX0_set_13 rfl 0 rfl ?_
      obtain ⟨v5, hv5, h⟩ := obind h
      refine k_getR ok fl_X0_25 hv5 dX0_set_14 ?_
      refine j_iload_n ok dX0_set_17 rfl 1 rfl ?_
      refine j_iload_n ok dX0_set_18 rfl 2 rfl ?_
      obtain ⟨G6, hG6, h⟩ := obind h
      refine j_iast ok hG6 dX0_set_19 ?_
      exact J.sub [] rfl (jX0_set_20 ok G6 h hK)

def fX0_set (l0 : Nat) (l1 : Int32) (l2 : Int32) (G : Mem) : Option (Unit × Mem) := fX0_set_0 l0 l1 l2 G
set_option maxRecDepth 100000 in
theorem tX0_set {l : Launch} (hfl : l.stackTraces = false) (V : Wd) (l0 : Nat) (l1 : Int32) (l2 : Int32) (G : Mem) {r : Unit} {G' : Mem} (h : fX0_set l0 l1 l2 G = some (r, G')) : Mx l yX0_set cX0_set 3 none 0 0 V [.ref (V.B + l0), .int l1, .int l2] G (.inl none) G' :=
  mx_of (L := [(0, .ref (V.B + l0)), (1, .int l1), (2, .int l2)]) hfl (by decide +kernel) (Nat.le_of_ble_eq_true rfl) rfl (fun X hl hV hin ok he => by
    subst hl; subst hV
    exact J.sub [0, 1, 2] rfl (jX0_set_0 ok l0 l1 l2 G h he))
def fX0_kingPlace_15  (s0 : Int32) (G : Mem) : Option (Int32 × Mem) :=
  some (s0, G)

set_option maxRecDepth 100000 in
set_option maxHeartbeats 4000000 in
theorem jX0_kingPlace_15 {X : Cx} (ok : OK X cX0_kingPlace RX0 (some .int) 2 0 0)  (s0 : Int32) (G : Mem) {r : Int32} {G' : Mem} (h : fX0_kingPlace_15 s0 G = some (r, G')) (hK : (finI X) r G') : J X 2 15 [] [.int s0] G := by
  unfold fX0_kingPlace_15 at h
  obtain ⟨er, eG⟩ := inj2 h
  subst er; subst eG
  exact j_iret ok rfl dX0_kingPlace_15 hK

def fX0_kingPlace_0 (l0 : Nat) (l1 : Int32)  (G : Mem) : Option (Int32 × Mem) :=
  if l1 = (0 : Int32) then
    (gF G 10 l0 5).bind fun v2 =>
    fX0_kingPlace_15 v2 G
  else
    (gF G 10 l0 6).bind fun v2 =>
    fX0_kingPlace_15 v2 G

set_option maxRecDepth 100000 in
set_option maxHeartbeats 4000000 in
theorem jX0_kingPlace_0 {X : Cx} (ok : OK X cX0_kingPlace RX0 (some .int) 2 0 0) (l0 : Nat) (l1 : Int32)  (G : Mem) {r : Int32} {G' : Mem} (h : fX0_kingPlace_0 l0 l1 G = some (r, G')) (hK : (finI X) r G') : J X 2 0 [(0, .ref (X.B + l0)), (1, .int l1)] [] G := by
  unfold fX0_kingPlace_0 at h
  refine j_iload_n ok dX0_kingPlace_0 rfl 1 rfl ?_
  rcases ite_some h with ⟨c1, h⟩ | ⟨c1, h⟩
  · refine j_if_ne (tgt := 11) ok dX0_kingPlace_1 (by decide) (fun z => absurd c1 z) (fun _ => ?_)
    refine j_aload_n ok dX0_kingPlace_4 rfl 0 rfl ?_
    obtain ⟨v2, hv2, h⟩ := obind h
    refine k_getI ok fl_X0_28 hv2 dX0_kingPlace_5 ?_
    refine j_goto (tgt := 15) ok dX0_kingPlace_8 (by decide) ?_
    exact J.sub [] rfl (jX0_kingPlace_15 ok v2 G h hK)
  · refine j_if_ne (tgt := 11) ok dX0_kingPlace_1 (by decide) (fun _ => ?_) (fun z => absurd z c1)
    refine j_aload_n ok dX0_kingPlace_11 rfl 0 rfl ?_
    obtain ⟨v2, hv2, h⟩ := obind h
    refine k_getI ok fl_X0_31 hv2 dX0_kingPlace_12 ?_
    exact J.sub [] rfl (jX0_kingPlace_15 ok v2 G h hK)

def fX0_kingPlace (l0 : Nat) (l1 : Int32) (G : Mem) : Option (Int32 × Mem) := fX0_kingPlace_0 l0 l1 G
set_option maxRecDepth 100000 in
theorem tX0_kingPlace {l : Launch} (hfl : l.stackTraces = false) (V : Wd) (l0 : Nat) (l1 : Int32) (G : Mem) {r : Int32} {G' : Mem} (h : fX0_kingPlace l0 l1 G = some (r, G')) : Mx l yX0_kingPlace cX0_kingPlace 2 (some .int) 0 0 V [.ref (V.B + l0), .int l1] G (.inl (some (.int r))) G' :=
  mx_of (L := [(0, .ref (V.B + l0)), (1, .int l1)]) hfl (by decide +kernel) (Nat.le_of_ble_eq_true rfl) rfl (fun X hl hV hin ok he => by
    subst hl; subst hV
    exact J.sub [0, 1] rfl (jX0_kingPlace_0 ok l0 l1 G h he))
def fX0_isReached_163   (G : Mem) : Option (Int32 × Mem) :=
  some ((0 : Int32), G)

set_option maxRecDepth 100000 in
set_option maxHeartbeats 4000000 in
theorem jX0_isReached_163 {X : Cx} (ok : OK X cX0_isReached RX0 (some .boolean) 8 1 21)   (G : Mem) {r : Int32} {G' : Mem} (h : fX0_isReached_163  G = some (r, G')) (hK : (finI X) r G') : J X 8 163 [] [] G := by
  unfold fX0_isReached_163 at h
  refine j_iconst (v := 0) ok dX0_isReached_163 (by decide) ?_
  obtain ⟨er, eG⟩ := inj2 h
  subst er; subst eG
  exact j_zret ok rfl (Or.inl rfl) dX0_isReached_164 hK

def fX0_isReached_155   (G : Mem) : Option (Int32 × Mem) :=
  some ((1 : Int32), G)

set_option maxRecDepth 100000 in
set_option maxHeartbeats 4000000 in
theorem jX0_isReached_155 {X : Cx} (ok : OK X cX0_isReached RX0 (some .boolean) 8 1 21)   (G : Mem) {r : Int32} {G' : Mem} (h : fX0_isReached_155  G = some (r, G')) (hK : (finI X) r G') : J X 8 155 [] [] G := by
  unfold fX0_isReached_155 at h
  refine j_iconst (v := 1) ok dX0_isReached_155 (by decide) ?_
  obtain ⟨er, eG⟩ := inj2 h
  subst er; subst eG
  exact j_zret ok rfl (Or.inr rfl) dX0_isReached_156 hK

def fX0_isReached_128 (l0 : Nat) (l1 : Int32) (l3 : Int32) (l4 : Int32)  (G : Mem) : Option (((Int32) ⊕ Int32) × Mem) :=
  if (8 : Int32) ≤ l4 then
    liftE (fX0_isReached_163 G)
  else
    (tb 2 l4).bind fun v2 =>
    ck G 10 l0 <| (fX0_on l0 (l1 + v2) G).bind fun q3 =>
    if (q3.1 - l3) = (4 : Int32) then
      liftE (fX0_isReached_155 q3.2)
    else
      some (.inl ((l4 + (1 : Int32))), q3.2)

set_option maxRecDepth 100000 in
set_option maxHeartbeats 4000000 in
theorem jX0_isReached_128 {X : Cx} (ok : OK X cX0_isReached RX0 (some .boolean) 8 1 21) (l0 : Nat) (l1 : Int32) (l3 : Int32) (l4 : Int32)  (G : Mem) {r : ((Int32) ⊕ Int32)} {G' : Mem} (h : fX0_isReached_128 l0 l1 l3 l4 G = some (r, G')) (hK : (finL X 8 128 (fun s : Int32 => [(0, .ref (X.B + l0)), (1, .int l1), (3, .int l3), (4, .int s)]) (finI X)) r G') : J X 8 128 [(0, .ref (X.B + l0)), (1, .int l1), (3, .int l3), (4, .int l4)] [] G := by
  unfold fX0_isReached_128 at h
  refine j_iload ok dX0_isReached_128 3 rfl ?_
  refine k_tab ok (k := 2) (by decide) wg_X0_59 dX0_isReached_130 ?_
  refine k_tlen ok (k := 2) (by decide) rfl dX0_isReached_133 ?_
  rcases ite_some h with ⟨c1, h⟩ | ⟨c1, h⟩
  · refine j_icmp_ge (tgt := 163) ok dX0_isReached_134 (by decide) (fun _ => ?_) (fun z => absurd c1 z)
    obtain ⟨r1, e1, h1⟩ := lift_some h
    subst e1
    exact J.sub [] rfl (jX0_isReached_163 ok G h1 hK)
  · refine j_icmp_ge (tgt := 163) ok dX0_isReached_134 (by decide) (fun z => absurd z c1) (fun _ => ?_)
    refine j_aload_n ok dX0_isReached_137 rfl 0 rfl ?_
    refine j_iload_n ok dX0_isReached_138 rfl 1 rfl ?_
    refine k_tab ok (k := 2) (by decide) wg_X0_59 dX0_isReached_139 ?_
    refine j_iload ok dX0_isReached_142 3 rfl ?_
    obtain ⟨v2, hv2, h⟩ := obind h
    refine k_tiaload ok (k := 2) (by decide) hv2 dX0_isReached_144 ?_
    refine j_iadd ok dX0_isReached_145 ?_
    obtain ⟨kq3, h⟩ := ck_some h
    obtain ⟨q3, hq3, h⟩ := obind h
    refine k_V1 ok kl_X0_48 ⟨Nat.le_of_ble_eq_true rfl, Nat.le_of_ble_eq_true rfl⟩ [.int (l1 + v2)] kq3 rfl rfl (Nat.le_of_ble_eq_true rfl) (tX0_on ok.fl X.V l0 (l1 + v2) G hq3) dX0_isReached_146 ?_
    refine j_iload_n ok dX0_isReached_149 rfl 2 rfl ?_
    refine j_isub ok dX0_isReached_150 ?_
    refine j_iconst (v := 4) ok dX0_isReached_151 (by decide) ?_
    rcases ite_some h with ⟨c4, h⟩ | ⟨c4, h⟩
    · refine j_icmp_ne (tgt := 157) ok dX0_isReached_152 (by decide) (fun z => absurd c4 z) (fun _ => ?_)
      obtain ⟨r1, e1, h1⟩ := lift_some h
      subst e1
      exact J.sub [] rfl (jX0_isReached_155 ok q3.2 h1 hK)
    · refine j_icmp_ne (tgt := 157) ok dX0_isReached_152 (by decide) (fun _ => ?_) (fun z => absurd z c4)
      refine j_iinc (L' := [(4, .int (l4 + (1 : Int32))), (0, .ref (X.B + l0)), (1, .int l1), (3, .int l3)]) (v := (l4 + (1 : Int32))) ok dX0_isReached_157 (q := 3) rfl rfl (by decide) rfl ?_
      refine j_goto (tgt := 128) ok dX0_isReached_160 (by decide) ?_
      obtain ⟨er, eG⟩ := inj2 h
      subst er; subst eG
      have hJ : J X 8 128 [(0, .ref (X.B + l0)), (1, .int l1), (3, .int l3), (4, .int (l4 + (1 : Int32)))] [] q3.2 := hK
      exact J.sub [1, 2, 3, 0] rfl hJ

def fX0_isReached_125 (l0 : Nat) (l1 : Int32) (l3 : Int32)  (G : Mem) : Option (Int32 × Mem) :=
  loopM (fun (s : Int32) G => fX0_isReached_128 l0 l1 l3 s G) FU ((0 : Int32)) G

set_option maxRecDepth 100000 in
set_option maxHeartbeats 4000000 in
theorem jX0_isReached_125 {X : Cx} (ok : OK X cX0_isReached RX0 (some .boolean) 8 1 21) (l0 : Nat) (l1 : Int32) (l3 : Int32)  (G : Mem) {r : Int32} {G' : Mem} (h : fX0_isReached_125 l0 l1 l3 G = some (r, G')) (hK : (finI X) r G') : J X 8 125 [(0, .ref (X.B + l0)), (1, .int l1), (3, .int l3)] [] G := by
  unfold fX0_isReached_125 at h
  refine j_iconst (v := 0) ok dX0_isReached_125 (by decide) ?_
  refine j_istore (L' := [(4, .int (0 : Int32)), (0, .ref (X.B + l0)), (1, .int l1), (3, .int l3)]) ok dX0_isReached_126 (by decide) rfl ?_
  have hJ : J X 8 128 [(0, .ref (X.B + l0)), (1, .int l1), (3, .int l3), (4, .int (0 : Int32))] [] G := j_loop (loc := fun s : Int32 => [(0, .ref (X.B + l0)), (1, .int l1), (3, .int l3), (4, .int s)]) (F := (finI X)) (fun s G r G' hb hk => jX0_isReached_128 ok l0 l1 l3 s G hb hk) _ _ _ _ _ h hK
  exact J.sub [1, 2, 3, 0] rfl hJ

def fX0_isReached_117   (G : Mem) : Option (Int32 × Mem) :=
  some ((1 : Int32), G)

set_option maxRecDepth 100000 in
set_option maxHeartbeats 4000000 in
theorem jX0_isReached_117 {X : Cx} (ok : OK X cX0_isReached RX0 (some .boolean) 8 1 21)   (G : Mem) {r : Int32} {G' : Mem} (h : fX0_isReached_117  G = some (r, G')) (hK : (finI X) r G') : J X 8 117 [] [] G := by
  unfold fX0_isReached_117 at h
  refine j_iconst (v := 1) ok dX0_isReached_117 (by decide) ?_
  obtain ⟨er, eG⟩ := inj2 h
  subst er; subst eG
  exact j_zret ok rfl (Or.inr rfl) dX0_isReached_118 hK

def fX0_isReached_114 (l0 : Nat) (l1 : Int32) (l3 : Int32) (l4 : Int32) (s0 : Int32) (s1 : Int32) (G : Mem) : Option (((Int32) ⊕ Int32) × Mem) :=
  if s0 = s1 then
    liftE (fX0_isReached_117 G)
  else
    some (.inl ((l4 + (1 : Int32))), G)

set_option maxRecDepth 100000 in
set_option maxHeartbeats 4000000 in
theorem jX0_isReached_114 {X : Cx} (ok : OK X cX0_isReached RX0 (some .boolean) 8 1 21) (l0 : Nat) (l1 : Int32) (l3 : Int32) (l4 : Int32) (s0 : Int32) (s1 : Int32) (G : Mem) {r : ((Int32) ⊕ Int32)} {G' : Mem} (h : fX0_isReached_114 l0 l1 l3 l4 s0 s1 G = some (r, G')) (hK : (finL X 8 14 (fun s : Int32 => [(0, .ref (X.B + l0)), (1, .int l1), (3, .int l3), (4, .int s)]) (finI X)) r G') : J X 8 114 [(0, .ref (X.B + l0)), (1, .int l1), (3, .int l3), (4, .int l4)] [.int s1, .int s0] G := by
  unfold fX0_isReached_114 at h
  rcases ite_some h with ⟨c1, h⟩ | ⟨c1, h⟩
  · refine j_icmp_ne (tgt := 119) ok dX0_isReached_114 (by decide) (fun z => absurd c1 z) (fun _ => ?_)
    obtain ⟨r1, e1, h1⟩ := lift_some h
    subst e1
    exact J.sub [] rfl (jX0_isReached_117 ok G h1 hK)
  · refine j_icmp_ne (tgt := 119) ok dX0_isReached_114 (by decide) (fun _ => ?_) (fun z => absurd z c1)
    refine j_iinc (L' := [(4, .int (l4 + (1 : Int32))), (0, .ref (X.B + l0)), (1, .int l1), (3, .int l3)]) (v := (l4 + (1 : Int32))) ok dX0_isReached_119 (q := 3) rfl rfl (by decide) rfl ?_
    refine j_goto (tgt := 14) ok dX0_isReached_122 (by decide) ?_
    obtain ⟨er, eG⟩ := inj2 h
    subst er; subst eG
    have hJ : J X 8 14 [(0, .ref (X.B + l0)), (1, .int l1), (3, .int l3), (4, .int (l4 + (1 : Int32)))] [] G := hK
    exact J.sub [1, 2, 3, 0] rfl hJ

def fX0_isReached_89 (l0 : Nat) (l1 : Int32) (l3 : Int32) (l4 : Int32) (l6 : Int32)  (G : Mem) : Option (((Int32) ⊕ Int32) × Mem) :=
  if (l6 - l3) = (1 : Int32) then
    liftE (fX0_isReached_117 G)
  else
    if (4 : Int32) ≤ l4 then
      fX0_isReached_114 l0 l1 l3 l4 (l6 - l3) (3 : Int32) G
    else
      fX0_isReached_114 l0 l1 l3 l4 (l6 - l3) (2 : Int32) G

set_option maxRecDepth 100000 in
set_option maxHeartbeats 4000000 in
theorem jX0_isReached_89 {X : Cx} (ok : OK X cX0_isReached RX0 (some .boolean) 8 1 21) (l0 : Nat) (l1 : Int32) (l3 : Int32) (l4 : Int32) (l6 : Int32)  (G : Mem) {r : ((Int32) ⊕ Int32)} {G' : Mem} (h : fX0_isReached_89 l0 l1 l3 l4 l6 G = some (r, G')) (hK : (finL X 8 14 (fun s : Int32 => [(0, .ref (X.B + l0)), (1, .int l1), (3, .int l3), (4, .int s)]) (finI X)) r G') : J X 8 89 [(0, .ref (X.B + l0)), (1, .int l1), (3, .int l3), (4, .int l4), (6, .int l6)] [] G := by
  unfold fX0_isReached_89 at h
  refine j_iload ok dX0_isReached_89 4 rfl ?_
  refine j_iload_n ok dX0_isReached_91 rfl 2 rfl ?_
  refine j_isub ok dX0_isReached_92 ?_
  refine j_istore (L' := [(7, .int (l6 - l3)), (0, .ref (X.B + l0)), (1, .int l1), (3, .int l3), (4, .int l4), (6, .int l6)]) ok dX0_isReached_93 (by decide) rfl ?_
  refine j_iload ok dX0_isReached_95 0 rfl ?_
  refine j_iconst (v := 1) ok dX0_isReached_97 (by decide) ?_
  rcases ite_some h with ⟨c1, h⟩ | ⟨c1, h⟩
  · refine j_icmp_eq (tgt := 117) ok dX0_isReached_98 (by decide) (fun _ => ?_) (fun z => absurd c1 z)
    obtain ⟨r1, e1, h1⟩ := lift_some h
    subst e1
    exact J.sub [] rfl (jX0_isReached_117 ok G h1 hK)
  · refine j_icmp_eq (tgt := 117) ok dX0_isReached_98 (by decide) (fun z => absurd z c1) (fun _ => ?_)
    refine j_iload ok dX0_isReached_101 0 rfl ?_
    refine j_iload ok dX0_isReached_103 4 rfl ?_
    refine j_iconst (v := 4) ok dX0_isReached_105 (by decide) ?_
    rcases ite_some h with ⟨c2, h⟩ | ⟨c2, h⟩
    · refine j_icmp_ge (tgt := 113) ok dX0_isReached_106 (by decide) (fun _ => ?_) (fun z => absurd c2 z)
      refine j_iconst (v := 3) ok dX0_isReached_113 (by decide) ?_
      exact J.sub [1, 2, 3, 4] rfl (jX0_isReached_114 ok l0 l1 l3 l4 (l6 - l3) (3 : Int32) G h hK)
    · refine j_icmp_ge (tgt := 113) ok dX0_isReached_106 (by decide) (fun z => absurd z c2) (fun _ => ?_)
      refine j_iconst (v := 2) ok dX0_isReached_109 (by decide) ?_
      refine j_goto (tgt := 114) ok dX0_isReached_110 (by decide) ?_
      exact J.sub [1, 2, 3, 4] rfl (jX0_isReached_114 ok l0 l1 l3 l4 (l6 - l3) (2 : Int32) G h hK)

def fX0_isReached_52 (l0 : Nat) (l1 : Int32) (l3 : Int32) (l4 : Int32) (l5 : Int32) (l6 : Int32) (l7 : Int32)  (G : Mem) : Option (((Int32 × Int32 × Int32) ⊕ ((Int32) ⊕ Int32)) × Mem) :=
  if (6 : Int32) ≤ l7 then
    liftE (fX0_isReached_89 l0 l1 l3 l4 l6 G)
  else
    if l6 = (0 : Int32) then
      (tb 1 l4).bind fun v3 =>
      ck G 10 l0 <| (fX0_on l0 (l5 + v3) G).bind fun q4 =>
      some (.inl ((l5 + v3), q4.1, (l7 + (1 : Int32))), q4.2)
    else
      liftE (fX0_isReached_89 l0 l1 l3 l4 l6 G)

set_option maxRecDepth 100000 in
set_option maxHeartbeats 4000000 in
theorem jX0_isReached_52 {X : Cx} (ok : OK X cX0_isReached RX0 (some .boolean) 8 1 21) (l0 : Nat) (l1 : Int32) (l3 : Int32) (l4 : Int32) (l5 : Int32) (l6 : Int32) (l7 : Int32)  (G : Mem) {r : ((Int32 × Int32 × Int32) ⊕ ((Int32) ⊕ Int32))} {G' : Mem} (h : fX0_isReached_52 l0 l1 l3 l4 l5 l6 l7 G = some (r, G')) (hK : (finL X 8 52 (fun s : Int32 × Int32 × Int32 => [(0, .ref (X.B + l0)), (1, .int l1), (3, .int l3), (4, .int l4), (5, .int s.1), (6, .int s.2.1), (7, .int s.2.2)]) (finL X 8 14 (fun s : Int32 => [(0, .ref (X.B + l0)), (1, .int l1), (3, .int l3), (4, .int s)]) (finI X))) r G') : J X 8 52 [(0, .ref (X.B + l0)), (1, .int l1), (3, .int l3), (4, .int l4), (5, .int l5), (6, .int l6), (7, .int l7)] [] G := by
  unfold fX0_isReached_52 at h
  refine j_iload ok dX0_isReached_52 6 rfl ?_
  refine j_bipush (v := 6) ok dX0_isReached_54 (by decide) ?_
  rcases ite_some h with ⟨c1, h⟩ | ⟨c1, h⟩
  · refine j_icmp_ge (tgt := 89) ok dX0_isReached_56 (by decide) (fun _ => ?_) (fun z => absurd c1 z)
    obtain ⟨r1, e1, h1⟩ := lift_some h
    subst e1
    exact J.sub [0, 1, 2, 3, 5] rfl (jX0_isReached_89 ok l0 l1 l3 l4 l6 G h1 hK)
  · refine j_icmp_ge (tgt := 89) ok dX0_isReached_56 (by decide) (fun z => absurd z c1) (fun _ => ?_)
    refine j_iload ok dX0_isReached_59 5 rfl ?_
    rcases ite_some h with ⟨c2, h⟩ | ⟨c2, h⟩
    · refine j_if_ne (tgt := 89) ok dX0_isReached_61 (by decide) (fun z => absurd c2 z) (fun _ => ?_)
      refine j_iload ok dX0_isReached_64 4 rfl ?_
      refine k_tab ok (k := 1) (by decide) wg_X0_56 dX0_isReached_66 ?_
      refine j_iload ok dX0_isReached_69 3 rfl ?_
      obtain ⟨v3, hv3, h⟩ := obind h
      refine k_tiaload ok (k := 1) (by decide) hv3 dX0_isReached_71 ?_
      refine j_iadd ok dX0_isReached_72 ?_
      refine j_istore (L' := [(5, .int (l5 + v3)), (0, .ref (X.B + l0)), (1, .int l1), (3, .int l3), (4, .int l4), (6, .int l6), (7, .int l7)]) ok dX0_isReached_73 (by decide) rfl ?_
      refine j_aload_n ok dX0_isReached_75 rfl 1 rfl ?_
      refine j_iload ok dX0_isReached_76 0 rfl ?_
      obtain ⟨kq4, h⟩ := ck_some h
      obtain ⟨q4, hq4, h⟩ := obind h
      refine k_V1 ok kl_X0_48 ⟨Nat.le_of_ble_eq_true rfl, Nat.le_of_ble_eq_true rfl⟩ [.int (l5 + v3)] kq4 rfl rfl (Nat.le_of_ble_eq_true rfl) (tX0_on ok.fl X.V l0 (l5 + v3) G hq4) dX0_isReached_78 ?_
      refine j_istore (L' := [(6, .int q4.1), (5, .int (l5 + v3)), (0, .ref (X.B + l0)), (1, .int l1), (3, .int l3), (4, .int l4), (7, .int l7)]) ok dX0_isReached_81 (by decide) rfl ?_
      refine j_iinc (L' := [(7, .int (l7 + (1 : Int32))), (6, .int q4.1), (5, .int (l5 + v3)), (0, .ref (X.B + l0)), (1, .int l1), (3, .int l3), (4, .int l4)]) (v := (l7 + (1 : Int32))) ok dX0_isReached_83 (q := 6) rfl rfl (by decide) rfl ?_
      refine j_goto (tgt := 52) ok dX0_isReached_86 (by decide) ?_
      obtain ⟨er, eG⟩ := inj2 h
      subst er; subst eG
      have hJ : J X 8 52 [(0, .ref (X.B + l0)), (1, .int l1), (3, .int l3), (4, .int l4), (5, .int (l5 + v3)), (6, .int q4.1), (7, .int (l7 + (1 : Int32)))] [] q4.2 := hK
      exact J.sub [3, 4, 5, 6, 2, 1, 0] rfl hJ
    · refine j_if_ne (tgt := 89) ok dX0_isReached_61 (by decide) (fun _ => ?_) (fun z => absurd z c2)
      obtain ⟨r1, e1, h1⟩ := lift_some h
      subst e1
      exact J.sub [0, 1, 2, 3, 5] rfl (jX0_isReached_89 ok l0 l1 l3 l4 l6 G h1 hK)

def fX0_isReached_47   (G : Mem) : Option (Int32 × Mem) :=
  some ((1 : Int32), G)

set_option maxRecDepth 100000 in
set_option maxHeartbeats 4000000 in
theorem jX0_isReached_47 {X : Cx} (ok : OK X cX0_isReached RX0 (some .boolean) 8 1 21)   (G : Mem) {r : Int32} {G' : Mem} (h : fX0_isReached_47  G = some (r, G')) (hK : (finI X) r G') : J X 8 47 [] [] G := by
  unfold fX0_isReached_47 at h
  refine j_iconst (v := 1) ok dX0_isReached_47 (by decide) ?_
  obtain ⟨er, eG⟩ := inj2 h
  subst er; subst eG
  exact j_zret ok rfl (Or.inr rfl) dX0_isReached_48 hK

def fX0_isReached_14 (l0 : Nat) (l1 : Int32) (l3 : Int32) (l4 : Int32)  (G : Mem) : Option (((Int32) ⊕ Int32) × Mem) :=
  if (8 : Int32) ≤ l4 then
    liftE (fX0_isReached_125 l0 l1 l3 G)
  else
    (tb 1 l4).bind fun v2 =>
    ck G 10 l0 <| (fX0_on l0 (l1 + v2) G).bind fun q3 =>
    if q3.1 = l3 then
      liftE (fX0_isReached_47 q3.2)
    else
      loopM (fun (s : Int32 × Int32 × Int32) G => fX0_isReached_52 l0 l1 l3 l4 s.1 s.2.1 s.2.2 G) FU ((l1 + v2), q3.1, (1 : Int32)) q3.2

set_option maxRecDepth 100000 in
set_option maxHeartbeats 4000000 in
theorem jX0_isReached_14 {X : Cx} (ok : OK X cX0_isReached RX0 (some .boolean) 8 1 21) (l0 : Nat) (l1 : Int32) (l3 : Int32) (l4 : Int32)  (G : Mem) {r : ((Int32) ⊕ Int32)} {G' : Mem} (h : fX0_isReached_14 l0 l1 l3 l4 G = some (r, G')) (hK : (finL X 8 14 (fun s : Int32 => [(0, .ref (X.B + l0)), (1, .int l1), (3, .int l3), (4, .int s)]) (finI X)) r G') : J X 8 14 [(0, .ref (X.B + l0)), (1, .int l1), (3, .int l3), (4, .int l4)] [] G := by
  unfold fX0_isReached_14 at h
  refine j_iload ok dX0_isReached_14 3 rfl ?_
  refine k_tab ok (k := 1) (by decide) wg_X0_56 dX0_isReached_16 ?_
  refine k_tlen ok (k := 1) (by decide) rfl dX0_isReached_19 ?_
  rcases ite_some h with ⟨c1, h⟩ | ⟨c1, h⟩
  · refine j_icmp_ge (tgt := 125) ok dX0_isReached_20 (by decide) (fun _ => ?_) (fun z => absurd c1 z)
    obtain ⟨r1, e1, h1⟩ := lift_some h
    subst e1
    exact J.sub [0, 1, 2] rfl (jX0_isReached_125 ok l0 l1 l3 G h1 hK)
  · refine j_icmp_ge (tgt := 125) ok dX0_isReached_20 (by decide) (fun z => absurd z c1) (fun _ => ?_)
    refine j_iload_n ok dX0_isReached_23 rfl 1 rfl ?_
    refine k_tab ok (k := 1) (by decide) wg_X0_56 dX0_isReached_24 ?_
    refine j_iload ok dX0_isReached_27 3 rfl ?_
    obtain ⟨v2, hv2, h⟩ := obind h
    refine k_tiaload ok (k := 1) (by decide) hv2 dX0_isReached_29 ?_
    refine j_iadd ok dX0_isReached_30 ?_
    refine j_istore (L' := [(5, .int (l1 + v2)), (0, .ref (X.B + l0)), (1, .int l1), (3, .int l3), (4, .int l4)]) ok dX0_isReached_31 (by decide) rfl ?_
    refine j_aload_n ok dX0_isReached_33 rfl 1 rfl ?_
    refine j_iload ok dX0_isReached_34 0 rfl ?_
    obtain ⟨kq3, h⟩ := ck_some h
    obtain ⟨q3, hq3, h⟩ := obind h
    refine k_V1 ok kl_X0_48 ⟨Nat.le_of_ble_eq_true rfl, Nat.le_of_ble_eq_true rfl⟩ [.int (l1 + v2)] kq3 rfl rfl (Nat.le_of_ble_eq_true rfl) (tX0_on ok.fl X.V l0 (l1 + v2) G hq3) dX0_isReached_36 ?_
    refine j_istore (L' := [(6, .int q3.1), (5, .int (l1 + v2)), (0, .ref (X.B + l0)), (1, .int l1), (3, .int l3), (4, .int l4)]) ok dX0_isReached_39 (by decide) rfl ?_
    refine j_iload ok dX0_isReached_41 0 rfl ?_
    refine j_iload_n ok dX0_isReached_43 rfl 4 rfl ?_
    rcases ite_some h with ⟨c4, h⟩ | ⟨c4, h⟩
    · refine j_icmp_ne (tgt := 49) ok dX0_isReached_44 (by decide) (fun z => absurd c4 z) (fun _ => ?_)
      obtain ⟨r1, e1, h1⟩ := lift_some h
      subst e1
      exact J.sub [] rfl (jX0_isReached_47 ok q3.2 h1 hK)
    · refine j_icmp_ne (tgt := 49) ok dX0_isReached_44 (by decide) (fun _ => ?_) (fun z => absurd z c4)
      refine j_iconst (v := 1) ok dX0_isReached_49 (by decide) ?_
      refine j_istore (L' := [(7, .int (1 : Int32)), (6, .int q3.1), (5, .int (l1 + v2)), (0, .ref (X.B + l0)), (1, .int l1), (3, .int l3), (4, .int l4)]) ok dX0_isReached_50 (by decide) rfl ?_
      have hJ : J X 8 52 [(0, .ref (X.B + l0)), (1, .int l1), (3, .int l3), (4, .int l4), (5, .int (l1 + v2)), (6, .int q3.1), (7, .int (1 : Int32))] [] q3.2 := j_loop (loc := fun s : Int32 × Int32 × Int32 => [(0, .ref (X.B + l0)), (1, .int l1), (3, .int l3), (4, .int l4), (5, .int s.1), (6, .int s.2.1), (7, .int s.2.2)]) (F := (finL X 8 14 (fun s : Int32 => [(0, .ref (X.B + l0)), (1, .int l1), (3, .int l3), (4, .int s)]) (finI X))) (fun s G r G' hb hk => jX0_isReached_52 ok l0 l1 l3 l4 s.1 s.2.1 s.2.2 G hb hk) _ _ _ _ _ h hK
      exact J.sub [3, 4, 5, 6, 2, 1, 0] rfl hJ

def fX0_isReached_10 (l0 : Nat) (l1 : Int32) (s0 : Int32) (G : Mem) : Option (Int32 × Mem) :=
  loopM (fun (s : Int32) G => fX0_isReached_14 l0 l1 s0 s G) FU ((0 : Int32)) G

set_option maxRecDepth 100000 in
set_option maxHeartbeats 4000000 in
theorem jX0_isReached_10 {X : Cx} (ok : OK X cX0_isReached RX0 (some .boolean) 8 1 21) (l0 : Nat) (l1 : Int32) (s0 : Int32) (G : Mem) {r : Int32} {G' : Mem} (h : fX0_isReached_10 l0 l1 s0 G = some (r, G')) (hK : (finI X) r G') : J X 8 10 [(0, .ref (X.B + l0)), (1, .int l1)] [.int s0] G := by
  unfold fX0_isReached_10 at h
  refine j_istore_n (L' := [(3, .int s0), (0, .ref (X.B + l0)), (1, .int l1)]) ok dX0_isReached_10 rfl (by decide) rfl ?_
  refine j_iconst (v := 0) ok dX0_isReached_11 (by decide) ?_
  refine j_istore (L' := [(4, .int (0 : Int32)), (3, .int s0), (0, .ref (X.B + l0)), (1, .int l1)]) ok dX0_isReached_12 (by decide) rfl ?_
  have hJ : J X 8 14 [(0, .ref (X.B + l0)), (1, .int l1), (3, .int s0), (4, .int (0 : Int32))] [] G := j_loop (loc := fun s : Int32 => [(0, .ref (X.B + l0)), (1, .int l1), (3, .int s0), (4, .int s)]) (F := (finI X)) (fun s G r G' hb hk => jX0_isReached_14 ok l0 l1 s0 s G hb hk) _ _ _ _ _ h hK
  exact J.sub [2, 3, 1, 0] rfl hJ

def fX0_isReached_0 (l0 : Nat) (l1 : Int32) (l2 : Int32)  (G : Mem) : Option (Int32 × Mem) :=
  if l2 = (0 : Int32) then
    fX0_isReached_10 l0 l1 (1 : Int32) G
  else
    fX0_isReached_10 l0 l1 (9 : Int32) G

set_option maxRecDepth 100000 in
set_option maxHeartbeats 4000000 in
theorem jX0_isReached_0 {X : Cx} (ok : OK X cX0_isReached RX0 (some .boolean) 8 1 21) (l0 : Nat) (l1 : Int32) (l2 : Int32)  (G : Mem) {r : Int32} {G' : Mem} (h : fX0_isReached_0 l0 l1 l2 G = some (r, G')) (hK : (finI X) r G') : J X 8 0 [(0, .ref (X.B + l0)), (1, .int l1), (2, .int l2)] [] G := by
  unfold fX0_isReached_0 at h
  refine j_iload_n ok dX0_isReached_0 rfl 2 rfl ?_
  rcases ite_some h with ⟨c1, h⟩ | ⟨c1, h⟩
  · refine j_if_ne (tgt := 8) ok dX0_isReached_1 (by decide) (fun z => absurd c1 z) (fun _ => ?_)
    refine j_iconst (v := 1) ok dX0_isReached_4 (by decide) ?_
    refine j_goto (tgt := 10) ok dX0_isReached_5 (by decide) ?_
    exact J.sub [0, 1] rfl (jX0_isReached_10 ok l0 l1 (1 : Int32) G h hK)
  · refine j_if_ne (tgt := 8) ok dX0_isReached_1 (by decide) (fun _ => ?_) (fun z => absurd z c1)
    refine j_bipush (v := 9) ok dX0_isReached_8 (by decide) ?_
    exact J.sub [0, 1] rfl (jX0_isReached_10 ok l0 l1 (9 : Int32) G h hK)

def fX0_isReached (l0 : Nat) (l1 : Int32) (l2 : Int32) (G : Mem) : Option (Int32 × Mem) := fX0_isReached_0 l0 l1 l2 G
set_option maxRecDepth 100000 in
theorem tX0_isReached {l : Launch} (hfl : l.stackTraces = false) (V : Wd) (l0 : Nat) (l1 : Int32) (l2 : Int32) (G : Mem) {r : Int32} {G' : Mem} (h : fX0_isReached l0 l1 l2 G = some (r, G')) : Mx l yX0_isReached cX0_isReached 8 (some .boolean) 1 21 V [.ref (V.B + l0), .int l1, .int l2] G (.inl (some (.int r))) G' :=
  mx_of (L := [(0, .ref (V.B + l0)), (1, .int l1), (2, .int l2)]) hfl (by decide +kernel) (Nat.le_of_ble_eq_true rfl) rfl (fun X hl hV hin ok he => by
    subst hl; subst hV
    exact J.sub [0, 1, 2] rfl (jX0_isReached_0 ok l0 l1 l2 G h he))
def fX0_isLegal_93 (l0 : Nat) (l1 : Int32) (l2 : Int32) (l4 : Int32) (l5 : Int32) (s0 : Int32) (G : Mem) : Option (Int32 × Mem) :=
  ck G 10 l0 <| (fX0_set l0 l1 l4 G).bind fun q1 =>
  ck q1.2 10 l0 <| (fX0_set l0 l2 l5 q1.2).bind fun q2 =>
  rz s0 <|
  some (s0, q2.2)

set_option maxRecDepth 100000 in
set_option maxHeartbeats 4000000 in
theorem jX0_isLegal_93 {X : Cx} (ok : OK X cX0_isLegal RX0 (some .boolean) 9 2 48) (l0 : Nat) (l1 : Int32) (l2 : Int32) (l4 : Int32) (l5 : Int32) (s0 : Int32) (G : Mem) {r : Int32} {G' : Mem} (h : fX0_isLegal_93 l0 l1 l2 l4 l5 s0 G = some (r, G')) (hK : (finI X) r G') : J X 9 93 [(0, .ref (X.B + l0)), (1, .int l1), (2, .int l2), (4, .int l4), (5, .int l5)] [.int s0] G := by
  unfold fX0_isLegal_93 at h
  refine j_istore (L' := [(8, .int s0), (0, .ref (X.B + l0)), (1, .int l1), (2, .int l2), (4, .int l4), (5, .int l5)]) ok dX0_isLegal_93 (by decide) rfl ?_
  refine j_aload_n ok dX0_isLegal_95 rfl 1 rfl ?_
  refine j_iload_n ok dX0_isLegal_96 rfl 2 rfl ?_
  refine j_iload ok dX0_isLegal_97 4 rfl ?_
  obtain ⟨kq1, h⟩ := ck_some h
  obtain ⟨q1, hq1, h⟩ := obind h
  refine k_V0 ok kl_X0_52 ⟨Nat.le_of_ble_eq_true rfl, Nat.le_of_ble_eq_true rfl⟩ [.int l1, .int l4] kq1 rfl rfl (Nat.le_of_ble_eq_true rfl) (tX0_set ok.fl X.V l0 l1 l4 G hq1) dX0_isLegal_99 ?_
  refine j_aload_n ok dX0_isLegal_102 rfl 1 rfl ?_
  refine j_iload_n ok dX0_isLegal_103 rfl 3 rfl ?_
  refine j_iload ok dX0_isLegal_104 5 rfl ?_
  obtain ⟨kq2, h⟩ := ck_some h
  obtain ⟨q2, hq2, h⟩ := obind h
  refine k_V0 ok kl_X0_52 ⟨Nat.le_of_ble_eq_true rfl, Nat.le_of_ble_eq_true rfl⟩ [.int l2, .int l5] kq2 rfl rfl (Nat.le_of_ble_eq_true rfl) (tX0_set ok.fl X.V l0 l2 l5 q1.2 hq2) dX0_isLegal_106 ?_
  refine j_iload ok dX0_isLegal_109 0 rfl ?_
  obtain ⟨hz3, h⟩ := rz_some h
  obtain ⟨er, eG⟩ := inj2 h
  subst er; subst eG
  exact j_zret ok rfl hz3 dX0_isLegal_111 hK

def fX0_isLegal_92 (l0 : Nat) (l1 : Int32) (l2 : Int32) (l4 : Int32) (l5 : Int32)  (G : Mem) : Option (Int32 × Mem) :=
  fX0_isLegal_93 l0 l1 l2 l4 l5 (0 : Int32) G

set_option maxRecDepth 100000 in
set_option maxHeartbeats 4000000 in
theorem jX0_isLegal_92 {X : Cx} (ok : OK X cX0_isLegal RX0 (some .boolean) 9 2 48) (l0 : Nat) (l1 : Int32) (l2 : Int32) (l4 : Int32) (l5 : Int32)  (G : Mem) {r : Int32} {G' : Mem} (h : fX0_isLegal_92 l0 l1 l2 l4 l5 G = some (r, G')) (hK : (finI X) r G') : J X 9 92 [(0, .ref (X.B + l0)), (1, .int l1), (2, .int l2), (4, .int l4), (5, .int l5)] [] G := by
  unfold fX0_isLegal_92 at h
  refine j_iconst (v := 0) ok dX0_isLegal_92 (by decide) ?_
  exact J.sub [0, 1, 2, 3, 4] rfl (jX0_isLegal_93 ok l0 l1 l2 l4 l5 (0 : Int32) G h hK)

def fX0_isLegal_88 (l0 : Nat) (l1 : Int32) (l2 : Int32) (l4 : Int32) (l5 : Int32)  (G : Mem) : Option (Int32 × Mem) :=
  fX0_isLegal_93 l0 l1 l2 l4 l5 (1 : Int32) G

set_option maxRecDepth 100000 in
set_option maxHeartbeats 4000000 in
theorem jX0_isLegal_88 {X : Cx} (ok : OK X cX0_isLegal RX0 (some .boolean) 9 2 48) (l0 : Nat) (l1 : Int32) (l2 : Int32) (l4 : Int32) (l5 : Int32)  (G : Mem) {r : Int32} {G' : Mem} (h : fX0_isLegal_88 l0 l1 l2 l4 l5 G = some (r, G')) (hK : (finI X) r G') : J X 9 88 [(0, .ref (X.B + l0)), (1, .int l1), (2, .int l2), (4, .int l4), (5, .int l5)] [] G := by
  unfold fX0_isLegal_88 at h
  refine j_iconst (v := 1) ok dX0_isLegal_88 (by decide) ?_
  refine j_goto (tgt := 93) ok dX0_isLegal_89 (by decide) ?_
  exact J.sub [0, 1, 2, 3, 4] rfl (jX0_isLegal_93 ok l0 l1 l2 l4 l5 (1 : Int32) G h hK)

def fX0_isLegal_52 (l0 : Nat) (l1 : Int32) (l2 : Int32) (l3 : Int32) (l4 : Int32) (l5 : Int32) (l6 : Int32) (s0 : Int32) (G : Mem) : Option (Int32 × Mem) :=
  ck G 10 l0 <| (fX0_isReached l0 s0 ((1 : Int32) - l6) G).bind fun q1 =>
  if q1.1 = (0 : Int32) then
    if l3 = (0 : Int32) then
      fX0_isLegal_88 l0 l1 l2 l4 l5 q1.2
    else
      ck q1.2 10 l0 <| (fX0_kingPlace l0 ((1 : Int32) - l6) q1.2).bind fun q4 =>
      ck q4.2 10 l0 <| (fX0_isReached l0 q4.1 l6 q4.2).bind fun q5 =>
      if q5.1 = (0 : Int32) then
        fX0_isLegal_92 l0 l1 l2 l4 l5 q5.2
      else
        fX0_isLegal_88 l0 l1 l2 l4 l5 q5.2
  else
    fX0_isLegal_92 l0 l1 l2 l4 l5 q1.2

set_option maxRecDepth 100000 in
set_option maxHeartbeats 4000000 in
theorem jX0_isLegal_52 {X : Cx} (ok : OK X cX0_isLegal RX0 (some .boolean) 9 2 48) (l0 : Nat) (l1 : Int32) (l2 : Int32) (l3 : Int32) (l4 : Int32) (l5 : Int32) (l6 : Int32) (s0 : Int32) (G : Mem) {r : Int32} {G' : Mem} (h : fX0_isLegal_52 l0 l1 l2 l3 l4 l5 l6 s0 G = some (r, G')) (hK : (finI X) r G') : J X 9 52 [(0, .ref (X.B + l0)), (1, .int l1), (2, .int l2), (3, .int l3), (4, .int l4), (5, .int l5), (6, .int l6)] [.int s0] G := by
  unfold fX0_isLegal_52 at h
  refine j_istore (L' := [(7, .int s0), (0, .ref (X.B + l0)), (1, .int l1), (2, .int l2), (3, .int l3), (4, .int l4), (5, .int l5), (6, .int l6)]) ok dX0_isLegal_52 (by decide) rfl ?_
  refine j_aload_n ok dX0_isLegal_54 rfl 1 rfl ?_
  refine j_iload ok dX0_isLegal_55 0 rfl ?_
  refine j_iconst (v := 1) ok dX0_isLegal_57 (by decide) ?_
  refine j_iload ok dX0_isLegal_58 7 rfl ?_
  refine j_isub ok dX0_isLegal_60 ?_
  obtain ⟨kq1, h⟩ := ck_some h
  obtain ⟨q1, hq1, h⟩ := obind h
  refine k_V1 ok kl_X0_105 ⟨Nat.le_of_ble_eq_true rfl, Nat.le_of_ble_eq_true rfl⟩ [.int s0, .int ((1 : Int32) - l6)] kq1 rfl rfl (Nat.le_of_ble_eq_true rfl) (tX0_isReached ok.fl X.V l0 s0 ((1 : Int32) - l6) G hq1) dX0_isLegal_61 ?_
  rcases ite_some h with ⟨c2, h⟩ | ⟨c2, h⟩
  · refine j_if_ne (tgt := 92) ok dX0_isLegal_64 (by decide) (fun z => absurd c2 z) (fun _ => ?_)
    refine j_iload_n ok dX0_isLegal_67 rfl 4 rfl ?_
    rcases ite_some h with ⟨c3, h⟩ | ⟨c3, h⟩
    · refine j_if_eq (tgt := 88) ok dX0_isLegal_68 (by decide) (fun _ => ?_) (fun z => absurd c3 z)
      exact J.sub [1, 2, 3, 5, 6] rfl (jX0_isLegal_88 ok l0 l1 l2 l4 l5 q1.2 h hK)
    · refine j_if_eq (tgt := 88) ok dX0_isLegal_68 (by decide) (fun z => absurd z c3) (fun _ => ?_)
      refine j_aload_n ok dX0_isLegal_71 rfl 1 rfl ?_
      refine j_aload_n ok dX0_isLegal_72 rfl 1 rfl ?_
      refine j_iconst (v := 1) ok dX0_isLegal_73 (by decide) ?_
      refine j_iload ok dX0_isLegal_74 7 rfl ?_
      refine j_isub ok dX0_isLegal_76 ?_
      obtain ⟨kq4, h⟩ := ck_some h
      obtain ⟨q4, hq4, h⟩ := obind h
      refine k_V1 ok kl_X0_102 ⟨Nat.le_of_ble_eq_true rfl, Nat.le_of_ble_eq_true rfl⟩ [.int ((1 : Int32) - l6)] kq4 rfl rfl (Nat.le_of_ble_eq_true rfl) (tX0_kingPlace ok.fl X.V l0 ((1 : Int32) - l6) q1.2 hq4) dX0_isLegal_77 ?_
      refine j_iload ok dX0_isLegal_80 7 rfl ?_
      obtain ⟨kq5, h⟩ := ck_some h
      obtain ⟨q5, hq5, h⟩ := obind h
      refine k_V1 ok kl_X0_105 ⟨Nat.le_of_ble_eq_true rfl, Nat.le_of_ble_eq_true rfl⟩ [.int q4.1, .int l6] kq5 rfl rfl (Nat.le_of_ble_eq_true rfl) (tX0_isReached ok.fl X.V l0 q4.1 l6 q4.2 hq5) dX0_isLegal_82 ?_
      rcases ite_some h with ⟨c6, h⟩ | ⟨c6, h⟩
      · refine j_if_eq (tgt := 92) ok dX0_isLegal_85 (by decide) (fun _ => ?_) (fun z => absurd c6 z)
        exact J.sub [1, 2, 3, 5, 6] rfl (jX0_isLegal_92 ok l0 l1 l2 l4 l5 q5.2 h hK)
      · refine j_if_eq (tgt := 92) ok dX0_isLegal_85 (by decide) (fun z => absurd z c6) (fun _ => ?_)
        exact J.sub [1, 2, 3, 5, 6] rfl (jX0_isLegal_88 ok l0 l1 l2 l4 l5 q5.2 h hK)
  · refine j_if_ne (tgt := 92) ok dX0_isLegal_64 (by decide) (fun _ => ?_) (fun z => absurd z c2)
    exact J.sub [1, 2, 3, 5, 6] rfl (jX0_isLegal_92 ok l0 l1 l2 l4 l5 q1.2 h hK)

def fX0_isLegal_0 (l0 : Nat) (l1 : Int32) (l2 : Int32) (l3 : Int32)  (G : Mem) : Option (Int32 × Mem) :=
  ck G 10 l0 <| (fX0_on l0 l1 G).bind fun q1 =>
  ck q1.2 10 l0 <| (fX0_on l0 l2 q1.2).bind fun q2 =>
  (fX6_colourOf q1.1 q2.2).bind fun q3 =>
  ck q3.2 10 l0 <| (fX0_set l0 l2 q1.1 q3.2).bind fun q4 =>
  ck q4.2 10 l0 <| (fX0_set l0 l1 (0 : Int32) q4.2).bind fun q5 =>
  (fX6_kindOf q1.1 q5.2).bind fun q6 =>
  if q6.1 = (0 : Int32) then
    fX0_isLegal_52 l0 l1 l2 l3 q1.1 q2.1 q3.1 l2 q6.2
  else
    ck q6.2 10 l0 <| (fX0_kingPlace l0 q3.1 q6.2).bind fun q8 =>
    fX0_isLegal_52 l0 l1 l2 l3 q1.1 q2.1 q3.1 q8.1 q8.2

set_option maxRecDepth 100000 in
set_option maxHeartbeats 4000000 in
theorem jX0_isLegal_0 {X : Cx} (ok : OK X cX0_isLegal RX0 (some .boolean) 9 2 48) (l0 : Nat) (l1 : Int32) (l2 : Int32) (l3 : Int32)  (G : Mem) {r : Int32} {G' : Mem} (h : fX0_isLegal_0 l0 l1 l2 l3 G = some (r, G')) (hK : (finI X) r G') : J X 9 0 [(0, .ref (X.B + l0)), (1, .int l1), (2, .int l2), (3, .int l3)] [] G := by
  unfold fX0_isLegal_0 at h
  refine j_aload_n ok dX0_isLegal_0 rfl 0 rfl ?_
  refine j_iload_n ok dX0_isLegal_1 rfl 1 rfl ?_
  obtain ⟨kq1, h⟩ := ck_some h
  obtain ⟨q1, hq1, h⟩ := obind h
  refine k_V1 ok kl_X0_48 ⟨Nat.le_of_ble_eq_true rfl, Nat.le_of_ble_eq_true rfl⟩ [.int l1] kq1 rfl rfl (Nat.le_of_ble_eq_true rfl) (tX0_on ok.fl X.V l0 l1 G hq1) dX0_isLegal_2 ?_
  refine j_istore (L' := [(4, .int q1.1), (0, .ref (X.B + l0)), (1, .int l1), (2, .int l2), (3, .int l3)]) ok dX0_isLegal_5 (by decide) rfl ?_
  refine j_aload_n ok dX0_isLegal_7 rfl 1 rfl ?_
  refine j_iload_n ok dX0_isLegal_8 rfl 3 rfl ?_
  obtain ⟨kq2, h⟩ := ck_some h
  obtain ⟨q2, hq2, h⟩ := obind h
  refine k_V1 ok kl_X0_48 ⟨Nat.le_of_ble_eq_true rfl, Nat.le_of_ble_eq_true rfl⟩ [.int l2] kq2 rfl rfl (Nat.le_of_ble_eq_true rfl) (tX0_on ok.fl X.V l0 l2 q1.2 hq2) dX0_isLegal_9 ?_
  refine j_istore (L' := [(5, .int q2.1), (4, .int q1.1), (0, .ref (X.B + l0)), (1, .int l1), (2, .int l2), (3, .int l3)]) ok dX0_isLegal_12 (by decide) rfl ?_
  refine j_iload ok dX0_isLegal_14 1 rfl ?_
  obtain ⟨q3, hq3, h⟩ := obind h
  refine k_N1 ok kl_X0_65 ⟨Nat.le_of_ble_eq_true rfl, Nat.le_of_ble_eq_true rfl⟩ [.int q1.1] rfl rfl (Nat.le_of_ble_eq_true rfl) (tX6_colourOf ok.fl X.V q1.1 q2.2 hq3) dX0_isLegal_16 ?_
  refine j_istore (L' := [(6, .int q3.1), (5, .int q2.1), (4, .int q1.1), (0, .ref (X.B + l0)), (1, .int l1), (2, .int l2), (3, .int l3)]) ok dX0_isLegal_19 (by decide) rfl ?_
  refine j_aload_n ok dX0_isLegal_21 rfl 3 rfl ?_
  refine j_iload_n ok dX0_isLegal_22 rfl 5 rfl ?_
  refine j_iload ok dX0_isLegal_23 2 rfl ?_
  obtain ⟨kq4, h⟩ := ck_some h
  obtain ⟨q4, hq4, h⟩ := obind h
  refine k_V0 ok kl_X0_52 ⟨Nat.le_of_ble_eq_true rfl, Nat.le_of_ble_eq_true rfl⟩ [.int l2, .int q1.1] kq4 rfl rfl (Nat.le_of_ble_eq_true rfl) (tX0_set ok.fl X.V l0 l2 q1.1 q3.2 hq4) dX0_isLegal_25 ?_
  refine j_aload_n ok dX0_isLegal_28 rfl 3 rfl ?_
  refine j_iload_n ok dX0_isLegal_29 rfl 4 rfl ?_
  refine j_iconst (v := 0) ok dX0_isLegal_30 (by decide) ?_
  obtain ⟨kq5, h⟩ := ck_some h
  obtain ⟨q5, hq5, h⟩ := obind h
  refine k_V0 ok kl_X0_52 ⟨Nat.le_of_ble_eq_true rfl, Nat.le_of_ble_eq_true rfl⟩ [.int l1, .int (0 : Int32)] kq5 rfl rfl (Nat.le_of_ble_eq_true rfl) (tX0_set ok.fl X.V l0 l1 (0 : Int32) q4.2 hq5) dX0_isLegal_31 ?_
  refine j_iload ok dX0_isLegal_34 2 rfl ?_
  obtain ⟨q6, hq6, h⟩ := obind h
  refine k_N1 ok kl_X0_68 ⟨Nat.le_of_ble_eq_true rfl, Nat.le_of_ble_eq_true rfl⟩ [.int q1.1] rfl rfl (Nat.le_of_ble_eq_true rfl) (tX6_kindOf ok.fl X.V q1.1 q5.2 hq6) dX0_isLegal_36 ?_
  rcases ite_some h with ⟨c7, h⟩ | ⟨c7, h⟩
  · refine j_if_ne (tgt := 46) ok dX0_isLegal_39 (by decide) (fun z => absurd c7 z) (fun _ => ?_)
    refine j_iload_n ok dX0_isLegal_42 rfl 5 rfl ?_
    refine j_goto (tgt := 52) ok dX0_isLegal_43 (by decide) ?_
    exact J.sub [3, 4, 5, 6, 2, 1, 0] rfl (jX0_isLegal_52 ok l0 l1 l2 l3 q1.1 q2.1 q3.1 l2 q6.2 h hK)
  · refine j_if_ne (tgt := 46) ok dX0_isLegal_39 (by decide) (fun _ => ?_) (fun z => absurd z c7)
    refine j_aload_n ok dX0_isLegal_46 rfl 3 rfl ?_
    refine j_iload ok dX0_isLegal_47 0 rfl ?_
    obtain ⟨kq8, h⟩ := ck_some h
    obtain ⟨q8, hq8, h⟩ := obind h
    refine k_V1 ok kl_X0_102 ⟨Nat.le_of_ble_eq_true rfl, Nat.le_of_ble_eq_true rfl⟩ [.int q3.1] kq8 rfl rfl (Nat.le_of_ble_eq_true rfl) (tX0_kingPlace ok.fl X.V l0 q3.1 q6.2 hq8) dX0_isLegal_49 ?_
    exact J.sub [3, 4, 5, 6, 2, 1, 0] rfl (jX0_isLegal_52 ok l0 l1 l2 l3 q1.1 q2.1 q3.1 q8.1 q8.2 h hK)

def fX0_isLegal (l0 : Nat) (l1 : Int32) (l2 : Int32) (l3 : Int32) (G : Mem) : Option (Int32 × Mem) := fX0_isLegal_0 l0 l1 l2 l3 G
set_option maxRecDepth 100000 in
theorem tX0_isLegal {l : Launch} (hfl : l.stackTraces = false) (V : Wd) (l0 : Nat) (l1 : Int32) (l2 : Int32) (l3 : Int32) (G : Mem) {r : Int32} {G' : Mem} (h : fX0_isLegal l0 l1 l2 l3 G = some (r, G')) : Mx l yX0_isLegal cX0_isLegal 9 (some .boolean) 2 48 V [.ref (V.B + l0), .int l1, .int l2, .int l3] G (.inl (some (.int r))) G' :=
  mx_of (L := [(0, .ref (V.B + l0)), (1, .int l1), (2, .int l2), (3, .int l3)]) hfl (by decide +kernel) (Nat.le_of_ble_eq_true rfl) rfl (fun X hl hV hin ok he => by
    subst hl; subst hV
    exact J.sub [0, 1, 2, 3] rfl (jX0_isLegal_0 ok l0 l1 l2 l3 G h he))
def fX0_squareOf_0 (l0 : Nat) (l1 : Int32) (l2 : Int32)  (G : Mem) : Option (Int32 × Mem) :=
  (gF G 10 l0 0).bind fun v1 =>
  some (((l2 * v1) + l1), G)

set_option maxRecDepth 100000 in
set_option maxHeartbeats 4000000 in
theorem jX0_squareOf_0 {X : Cx} (ok : OK X cX0_squareOf RX0 (some .int) 3 0 0) (l0 : Nat) (l1 : Int32) (l2 : Int32)  (G : Mem) {r : Int32} {G' : Mem} (h : fX0_squareOf_0 l0 l1 l2 G = some (r, G')) (hK : (finI X) r G') : J X 3 0 [(0, .ref (X.B + l0)), (1, .int l1), (2, .int l2)] [] G := by
  unfold fX0_squareOf_0 at h
  refine j_iload_n ok dX0_squareOf_0 rfl 2 rfl ?_
  refine j_aload_n ok dX0_squareOf_1 rfl 0 rfl ?_
  obtain ⟨v1, hv1, h⟩ := obind h
  refine k_getI ok fl_X0_9 hv1 dX0_squareOf_2 ?_
  refine j_imul ok dX0_squareOf_5 ?_
  refine j_iload_n ok dX0_squareOf_6 rfl 1 rfl ?_
  refine j_iadd ok dX0_squareOf_7 ?_
  obtain ⟨er, eG⟩ := inj2 h
  subst er; subst eG
  exact j_iret ok rfl dX0_squareOf_8 hK

def fX0_squareOf (l0 : Nat) (l1 : Int32) (l2 : Int32) (G : Mem) : Option (Int32 × Mem) := fX0_squareOf_0 l0 l1 l2 G
set_option maxRecDepth 100000 in
theorem tX0_squareOf {l : Launch} (hfl : l.stackTraces = false) (V : Wd) (l0 : Nat) (l1 : Int32) (l2 : Int32) (G : Mem) {r : Int32} {G' : Mem} (h : fX0_squareOf l0 l1 l2 G = some (r, G')) : Mx l yX0_squareOf cX0_squareOf 3 (some .int) 0 0 V [.ref (V.B + l0), .int l1, .int l2] G (.inl (some (.int r))) G' :=
  mx_of (L := [(0, .ref (V.B + l0)), (1, .int l1), (2, .int l2)]) hfl (by decide +kernel) (Nat.le_of_ble_eq_true rfl) rfl (fun X hl hV hin ok he => by
    subst hl; subst hV
    exact J.sub [0, 1, 2] rfl (jX0_squareOf_0 ok l0 l1 l2 G h he))
def fX0_findMovesFrom_217   (G : Mem) : Option (Unit × Mem) :=
  some ((), G)

set_option maxRecDepth 100000 in
set_option maxHeartbeats 4000000 in
theorem jX0_findMovesFrom_217 {X : Cx} (ok : OK X cX0_findMovesFrom RX0 none 13 3 76)   (G : Mem) {r : Unit} {G' : Mem} (h : fX0_findMovesFrom_217  G = some (r, G')) (hK : (finV X) r G') : J X 13 217 [] [] G := by
  unfold fX0_findMovesFrom_217 at h
  obtain ⟨er, eG⟩ := inj2 h
  subst er; subst eG
  exact j_vret ok rfl dX0_findMovesFrom_217 hK

def fX0_findMovesFrom_211 (l0 : Nat) (l1 : Int32) (l2 : Int32) (l3 : Nat) (l4 : Int32) (l5 : Int32) (l6 : Int64) (l8 : Int32)  (G : Mem) : Option (((Int32) ⊕ Unit) × Mem) :=
  some (.inl ((l8 + (1 : Int32))), G)

set_option maxRecDepth 100000 in
set_option maxHeartbeats 4000000 in
theorem jX0_findMovesFrom_211 {X : Cx} (ok : OK X cX0_findMovesFrom RX0 none 13 3 76) (l0 : Nat) (l1 : Int32) (l2 : Int32) (l3 : Nat) (l4 : Int32) (l5 : Int32) (l6 : Int64) (l8 : Int32)  (G : Mem) {r : ((Int32) ⊕ Unit)} {G' : Mem} (h : fX0_findMovesFrom_211 l0 l1 l2 l3 l4 l5 l6 l8 G = some (r, G')) (hK : (finL X 13 30 (fun s : Int32 => [(0, .ref (X.B + l0)), (1, .int l1), (2, .int l2), (3, .ref (X.B + l3)), (4, .int l4), (5, .int l5), (6, .long l6), (8, .int s)]) (finV X)) r G') : J X 13 211 [(0, .ref (X.B + l0)), (1, .int l1), (2, .int l2), (3, .ref (X.B + l3)), (4, .int l4), (5, .int l5), (6, .long l6), (8, .int l8)] [] G := by
  unfold fX0_findMovesFrom_211 at h
  refine j_iinc (L' := [(8, .int (l8 + (1 : Int32))), (0, .ref (X.B + l0)), (1, .int l1), (2, .int l2), (3, .ref (X.B + l3)), (4, .int l4), (5, .int l5), (6, .long l6)]) (v := (l8 + (1 : Int32))) ok dX0_findMovesFrom_211 (q := 7) rfl rfl (by decide) rfl ?_
  refine j_goto (tgt := 30) ok dX0_findMovesFrom_214 (by decide) ?_
  obtain ⟨er, eG⟩ := inj2 h
  subst er; subst eG
  have hJ : J X 13 30 [(0, .ref (X.B + l0)), (1, .int l1), (2, .int l2), (3, .ref (X.B + l3)), (4, .int l4), (5, .int l5), (6, .long l6), (8, .int (l8 + (1 : Int32)))] [] G := hK
  exact J.sub [1, 2, 3, 4, 5, 6, 7, 0] rfl hJ

def fX0_findMovesFrom_205 (l0 : Nat) (l1 : Int32) (l2 : Int32) (l3 : Nat) (l4 : Int32) (l5 : Int32) (l6 : Int64) (l8 : Int32) (l9 : Int32)  (G : Mem) : Option (((Int32) ⊕ ((Int32) ⊕ Unit)) × Mem) :=
  some (.inl ((l9 + (1 : Int32))), G)

set_option maxRecDepth 100000 in
set_option maxHeartbeats 4000000 in
theorem jX0_findMovesFrom_205 {X : Cx} (ok : OK X cX0_findMovesFrom RX0 none 13 3 76) (l0 : Nat) (l1 : Int32) (l2 : Int32) (l3 : Nat) (l4 : Int32) (l5 : Int32) (l6 : Int64) (l8 : Int32) (l9 : Int32)  (G : Mem) {r : ((Int32) ⊕ ((Int32) ⊕ Unit))} {G' : Mem} (h : fX0_findMovesFrom_205 l0 l1 l2 l3 l4 l5 l6 l8 l9 G = some (r, G')) (hK : (finL X 13 42 (fun s : Int32 => [(0, .ref (X.B + l0)), (1, .int l1), (2, .int l2), (3, .ref (X.B + l3)), (4, .int l4), (5, .int l5), (6, .long l6), (8, .int l8), (9, .int s)]) (finL X 13 30 (fun s : Int32 => [(0, .ref (X.B + l0)), (1, .int l1), (2, .int l2), (3, .ref (X.B + l3)), (4, .int l4), (5, .int l5), (6, .long l6), (8, .int s)]) (finV X))) r G') : J X 13 205 [(0, .ref (X.B + l0)), (1, .int l1), (2, .int l2), (3, .ref (X.B + l3)), (4, .int l4), (5, .int l5), (6, .long l6), (8, .int l8), (9, .int l9)] [] G := by
  unfold fX0_findMovesFrom_205 at h
  refine j_iinc (L' := [(9, .int (l9 + (1 : Int32))), (0, .ref (X.B + l0)), (1, .int l1), (2, .int l2), (3, .ref (X.B + l3)), (4, .int l4), (5, .int l5), (6, .long l6), (8, .int l8)]) (v := (l9 + (1 : Int32))) ok dX0_findMovesFrom_205 (q := 8) rfl rfl (by decide) rfl ?_
  refine j_goto (tgt := 42) ok dX0_findMovesFrom_208 (by decide) ?_
  obtain ⟨er, eG⟩ := inj2 h
  subst er; subst eG
  have hJ : J X 13 42 [(0, .ref (X.B + l0)), (1, .int l1), (2, .int l2), (3, .ref (X.B + l3)), (4, .int l4), (5, .int l5), (6, .long l6), (8, .int l8), (9, .int (l9 + (1 : Int32)))] [] G := hK
  exact J.sub [1, 2, 3, 4, 5, 6, 7, 8, 0] rfl hJ

def fX0_findMovesFrom_138 (l0 : Nat) (l1 : Int32) (l2 : Int32) (l3 : Nat) (l4 : Int32) (l5 : Int32) (l6 : Int64) (l8 : Int32) (l9 : Int32) (l10 : Int32) (s0 : Nat) (s1 : Int32) (s2 : Int32) (s3 : Int32) (G : Mem) : Option (((Int32) ⊕ ((Int32) ⊕ Unit)) × Mem) :=
  ck G 11 s0 <| (fX1_allowsTarget s0 s1 s2 s3 G).bind fun q1 =>
  if q1.1 = (0 : Int32) then
    fX0_findMovesFrom_205 l0 l1 l2 l3 l4 l5 l6 l8 l9 q1.2
  else
    (gF q1.2 11 l3 6).bind fun v3 =>
    ck q1.2 10 l0 <| (fX0_isLegal l0 l4 l10 v3 q1.2).bind fun q4 =>
    if q4.1 = (0 : Int32) then
      fX0_findMovesFrom_205 l0 l1 l2 l3 l4 l5 l6 l8 l9 q4.2
    else
      (gF q4.2 10 l0 3).bind fun v6 =>
      (gR q4.2 10 l0 2).bind fun v7 =>
      (gL q4.2 v7).bind fun v8 =>
      if v8 ≤ v6 then
        fX0_findMovesFrom_205 l0 l1 l2 l3 l4 l5 l6 l8 l9 q4.2
      else
        (gR q4.2 10 l0 2).bind fun v10 =>
        (gF q4.2 10 l0 3).bind fun v11 =>
        (pI q4.2 10 l0 3 (v11 + (1 : Int32))).bind fun G12 =>
        ck G12 10 l0 <| (fX0_squareOf l0 l1 l2 G12).bind fun q13 =>
        ck q13.2 10 l0 <| (fX0_squareOf l0 l9 l8 q13.2).bind fun q14 =>
        (pA q14.2 v10 v11 ((q13.1 <<< ((6 : Int32) &&& 31)) ||| q14.1)).bind fun G15 =>
        fX0_findMovesFrom_205 l0 l1 l2 l3 l4 l5 l6 l8 l9 G15

set_option maxRecDepth 100000 in
set_option maxHeartbeats 4000000 in
theorem jX0_findMovesFrom_138 {X : Cx} (ok : OK X cX0_findMovesFrom RX0 none 13 3 76) (l0 : Nat) (l1 : Int32) (l2 : Int32) (l3 : Nat) (l4 : Int32) (l5 : Int32) (l6 : Int64) (l8 : Int32) (l9 : Int32) (l10 : Int32) (s0 : Nat) (s1 : Int32) (s2 : Int32) (s3 : Int32) (G : Mem) {r : ((Int32) ⊕ ((Int32) ⊕ Unit))} {G' : Mem} (h : fX0_findMovesFrom_138 l0 l1 l2 l3 l4 l5 l6 l8 l9 l10 s0 s1 s2 s3 G = some (r, G')) (hK : (finL X 13 42 (fun s : Int32 => [(0, .ref (X.B + l0)), (1, .int l1), (2, .int l2), (3, .ref (X.B + l3)), (4, .int l4), (5, .int l5), (6, .long l6), (8, .int l8), (9, .int s)]) (finL X 13 30 (fun s : Int32 => [(0, .ref (X.B + l0)), (1, .int l1), (2, .int l2), (3, .ref (X.B + l3)), (4, .int l4), (5, .int l5), (6, .long l6), (8, .int s)]) (finV X))) r G') : J X 13 138 [(0, .ref (X.B + l0)), (1, .int l1), (2, .int l2), (3, .ref (X.B + l3)), (4, .int l4), (5, .int l5), (6, .long l6), (8, .int l8), (9, .int l9), (10, .int l10)] [.int s3, .int s2, .int s1, .ref (X.B + s0)] G := by
  unfold fX0_findMovesFrom_138 at h
  obtain ⟨kq1, h⟩ := ck_some h
  obtain ⟨q1, hq1, h⟩ := obind h
  refine k_V1 ok kl_X0_88 ⟨Nat.le_of_ble_eq_true rfl, Nat.le_of_ble_eq_true rfl⟩ [.int s1, .int s2, .int s3] kq1 rfl rfl (Nat.le_of_ble_eq_true rfl) (tX1_allowsTarget ok.fl X.V s0 s1 s2 s3 G hq1) dX0_findMovesFrom_138 ?_
  rcases ite_some h with ⟨c2, h⟩ | ⟨c2, h⟩
  · refine j_if_eq (tgt := 205) ok dX0_findMovesFrom_141 (by decide) (fun _ => ?_) (fun z => absurd c2 z)
    exact J.sub [0, 1, 2, 3, 4, 5, 6, 7, 8] rfl (jX0_findMovesFrom_205 ok l0 l1 l2 l3 l4 l5 l6 l8 l9 q1.2 h hK)
  · refine j_if_eq (tgt := 205) ok dX0_findMovesFrom_141 (by decide) (fun z => absurd z c2) (fun _ => ?_)
    refine j_aload_n ok dX0_findMovesFrom_144 rfl 0 rfl ?_
    refine j_iload ok dX0_findMovesFrom_145 4 rfl ?_
    refine j_iload ok dX0_findMovesFrom_147 9 rfl ?_
    refine j_aload_n ok dX0_findMovesFrom_149 rfl 3 rfl ?_
    obtain ⟨v3, hv3, h⟩ := obind h
    refine k_getI ok fl_X0_92 hv3 dX0_findMovesFrom_150 ?_
    obtain ⟨kq4, h⟩ := ck_some h
    obtain ⟨q4, hq4, h⟩ := obind h
    refine k_V1 ok kl_X0_96 ⟨Nat.le_of_ble_eq_true rfl, Nat.le_of_ble_eq_true rfl⟩ [.int l4, .int l10, .int v3] kq4 rfl rfl (Nat.le_of_ble_eq_true rfl) (tX0_isLegal ok.fl X.V l0 l4 l10 v3 q1.2 hq4) dX0_findMovesFrom_153 ?_
    rcases ite_some h with ⟨c5, h⟩ | ⟨c5, h⟩
    · refine j_if_eq (tgt := 205) ok dX0_findMovesFrom_156 (by decide) (fun _ => ?_) (fun z => absurd c5 z)
      exact J.sub [0, 1, 2, 3, 4, 5, 6, 7, 8] rfl (jX0_findMovesFrom_205 ok l0 l1 l2 l3 l4 l5 l6 l8 l9 q4.2 h hK)
    · refine j_if_eq (tgt := 205) ok dX0_findMovesFrom_156 (by decide) (fun z => absurd z c5) (fun _ => ?_)
      refine j_aload_n ok dX0_findMovesFrom_159 rfl 0 rfl ?_
      obtain ⟨v6, hv6, h⟩ := obind h
      refine k_getI ok fl_X0_22 hv6 dX0_findMovesFrom_160 ?_
      refine j_aload_n ok dX0_findMovesFrom_163 rfl 0 rfl ?_
      obtain ⟨v7, hv7, h⟩ := obind h
      refine k_getR ok fl_X0_18 hv7 dX0_findMovesFrom_164 ?_
      obtain ⟨v8, hv8, h⟩ := obind h
      refine j_alen ok hv8 dX0_findMovesFrom_167 ?_
      rcases ite_some h with ⟨c9, h⟩ | ⟨c9, h⟩
      · refine j_icmp_ge (tgt := 205) ok dX0_findMovesFrom_168 (by decide) (fun _ => ?_) (fun z => absurd c9 z)
        exact J.sub [0, 1, 2, 3, 4, 5, 6, 7, 8] rfl (jX0_findMovesFrom_205 ok l0 l1 l2 l3 l4 l5 l6 l8 l9 q4.2 h hK)
      · refine j_icmp_ge (tgt := 205) ok dX0_findMovesFrom_168 (by decide) (fun z => absurd z c9) (fun _ => ?_)
        refine j_aload_n ok dX0_findMovesFrom_171 rfl 0 rfl ?_
        obtain ⟨v10, hv10, h⟩ := obind h
        refine k_getR ok fl_X0_18 hv10 dX0_findMovesFrom_172 ?_
        refine j_aload_n ok dX0_findMovesFrom_175 rfl 0 rfl ?_
        refine j_dup ok dX0_findMovesFrom_176 rfl ?_
        obtain ⟨v11, hv11, h⟩ := obind h
        refine k_getI ok fl_X0_22 hv11 dX0_findMovesFrom_177 ?_
        refine j_dup_x1 ok dX0_findMovesFrom_180 rfl rfl ?_
        refine j_iconst (v := 1) ok dX0_findMovesFrom_181 (by decide) ?_
        refine j_iadd ok dX0_findMovesFrom_182 ?_
        obtain ⟨G12, hG12, h⟩ := obind h
        refine k_putI ok fl_X0_22 fp_X0 rfl (Or.inl rfl) hG12 dX0_findMovesFrom_183 ?_
        refine j_aload_n ok dX0_findMovesFrom_186 rfl 0 rfl ?_
        refine j_iload_n ok dX0_findMovesFrom_187 rfl 1 rfl ?_
        refine j_iload_n ok dX0_findMovesFrom_188 rfl 2 rfl ?_
        obtain ⟨kq13, h⟩ := ck_some h
        obtain ⟨q13, hq13, h⟩ := obind h
        refine k_V1 ok kl_X0_99 ⟨Nat.le_of_ble_eq_true rfl, Nat.le_of_ble_eq_true rfl⟩ [.int l1, .int l2] kq13 rfl rfl (Nat.le_of_ble_eq_true rfl) (tX0_squareOf ok.fl X.V l0 l1 l2 G12 hq13) dX0_findMovesFrom_189 ?_
        refine j_bipush (v := 6) ok dX0_findMovesFrom_192 (by decide) ?_
        refine j_ishl ok dX0_findMovesFrom_194 ?_
        refine j_aload_n ok dX0_findMovesFrom_195 rfl 0 rfl ?_
        refine j_iload ok dX0_findMovesFrom_196 8 rfl ?_
        refine j_iload ok dX0_findMovesFrom_198 7 rfl ?_
        obtain ⟨kq14, h⟩ := ck_some h
        obtain ⟨q14, hq14, h⟩ := obind h
        refine k_V1 ok kl_X0_99 ⟨Nat.le_of_ble_eq_true rfl, Nat.le_of_ble_eq_true rfl⟩ [.int l9, .int l8] kq14 rfl rfl (Nat.le_of_ble_eq_true rfl) (tX0_squareOf ok.fl X.V l0 l9 l8 q13.2 hq14) dX0_findMovesFrom_200 ?_
        refine j_ior ok dX0_findMovesFrom_203 ?_
        obtain ⟨G15, hG15, h⟩ := obind h
        refine j_iast ok hG15 dX0_findMovesFrom_204 ?_
        exact J.sub [0, 1, 2, 3, 4, 5, 6, 7, 8] rfl (jX0_findMovesFrom_205 ok l0 l1 l2 l3 l4 l5 l6 l8 l9 G15 h hK)

def fX0_findMovesFrom_123 (l0 : Nat) (l1 : Int32) (l2 : Int32) (l3 : Nat) (l4 : Int32) (l5 : Int32) (l6 : Int64) (l8 : Int32) (l9 : Int32) (l10 : Int32) (l12 : Int32)  (G : Mem) : Option (((Int32) ⊕ ((Int32) ⊕ Unit)) × Mem) :=
  if l12 = (0 : Int32) then
    fX0_findMovesFrom_138 l0 l1 l2 l3 l4 l5 l6 l8 l9 l10 l3 l9 l8 (1 : Int32) G
  else
    fX0_findMovesFrom_138 l0 l1 l2 l3 l4 l5 l6 l8 l9 l10 l3 l9 l8 (0 : Int32) G

set_option maxRecDepth 100000 in
set_option maxHeartbeats 4000000 in
theorem jX0_findMovesFrom_123 {X : Cx} (ok : OK X cX0_findMovesFrom RX0 none 13 3 76) (l0 : Nat) (l1 : Int32) (l2 : Int32) (l3 : Nat) (l4 : Int32) (l5 : Int32) (l6 : Int64) (l8 : Int32) (l9 : Int32) (l10 : Int32) (l12 : Int32)  (G : Mem) {r : ((Int32) ⊕ ((Int32) ⊕ Unit))} {G' : Mem} (h : fX0_findMovesFrom_123 l0 l1 l2 l3 l4 l5 l6 l8 l9 l10 l12 G = some (r, G')) (hK : (finL X 13 42 (fun s : Int32 => [(0, .ref (X.B + l0)), (1, .int l1), (2, .int l2), (3, .ref (X.B + l3)), (4, .int l4), (5, .int l5), (6, .long l6), (8, .int l8), (9, .int s)]) (finL X 13 30 (fun s : Int32 => [(0, .ref (X.B + l0)), (1, .int l1), (2, .int l2), (3, .ref (X.B + l3)), (4, .int l4), (5, .int l5), (6, .long l6), (8, .int s)]) (finV X))) r G') : J X 13 123 [(0, .ref (X.B + l0)), (1, .int l1), (2, .int l2), (3, .ref (X.B + l3)), (4, .int l4), (5, .int l5), (6, .long l6), (8, .int l8), (9, .int l9), (10, .int l10), (12, .int l12)] [] G := by
  unfold fX0_findMovesFrom_123 at h
  refine j_aload_n ok dX0_findMovesFrom_123 rfl 3 rfl ?_
  refine j_iload ok dX0_findMovesFrom_124 8 rfl ?_
  refine j_iload ok dX0_findMovesFrom_126 7 rfl ?_
  refine j_iload ok dX0_findMovesFrom_128 10 rfl ?_
  rcases ite_some h with ⟨c1, h⟩ | ⟨c1, h⟩
  · refine j_if_ne (tgt := 137) ok dX0_findMovesFrom_130 (by decide) (fun z => absurd c1 z) (fun _ => ?_)
    refine j_iconst (v := 1) ok dX0_findMovesFrom_133 (by decide) ?_
    refine j_goto (tgt := 138) ok dX0_findMovesFrom_134 (by decide) ?_
    exact J.sub [0, 1, 2, 3, 4, 5, 6, 7, 8, 9] rfl (jX0_findMovesFrom_138 ok l0 l1 l2 l3 l4 l5 l6 l8 l9 l10 l3 l9 l8 (1 : Int32) G h hK)
  · refine j_if_ne (tgt := 137) ok dX0_findMovesFrom_130 (by decide) (fun _ => ?_) (fun z => absurd z c1)
    refine j_iconst (v := 0) ok dX0_findMovesFrom_137 (by decide) ?_
    exact J.sub [0, 1, 2, 3, 4, 5, 6, 7, 8, 9] rfl (jX0_findMovesFrom_138 ok l0 l1 l2 l3 l4 l5 l6 l8 l9 l10 l3 l9 l8 (0 : Int32) G h hK)

def fX0_findMovesFrom_95 (l0 : Nat) (l1 : Int32) (l2 : Int32) (l3 : Nat) (l4 : Int32) (l5 : Int32) (l6 : Int64) (l8 : Int32) (l9 : Int32) (l10 : Int32) (l11 : Int32) (s0 : Int32) (G : Mem) : Option (((Int32) ⊕ ((Int32) ⊕ Unit)) × Mem) :=
  if s0 = (0 : Int32) then
    (fX6_colourOf l11 G).bind fun q2 =>
    if q2.1 = l5 then
      fX0_findMovesFrom_205 l0 l1 l2 l3 l4 l5 l6 l8 l9 q2.2
    else
      (fX6_kindOf l11 q2.2).bind fun q4 =>
      if q4.1 = (0 : Int32) then
        fX0_findMovesFrom_205 l0 l1 l2 l3 l4 l5 l6 l8 l9 q4.2
      else
        fX0_findMovesFrom_123 l0 l1 l2 l3 l4 l5 l6 l8 l9 l10 s0 q4.2
  else
    fX0_findMovesFrom_123 l0 l1 l2 l3 l4 l5 l6 l8 l9 l10 s0 G

set_option maxRecDepth 100000 in
set_option maxHeartbeats 4000000 in
theorem jX0_findMovesFrom_95 {X : Cx} (ok : OK X cX0_findMovesFrom RX0 none 13 3 76) (l0 : Nat) (l1 : Int32) (l2 : Int32) (l3 : Nat) (l4 : Int32) (l5 : Int32) (l6 : Int64) (l8 : Int32) (l9 : Int32) (l10 : Int32) (l11 : Int32) (s0 : Int32) (G : Mem) {r : ((Int32) ⊕ ((Int32) ⊕ Unit))} {G' : Mem} (h : fX0_findMovesFrom_95 l0 l1 l2 l3 l4 l5 l6 l8 l9 l10 l11 s0 G = some (r, G')) (hK : (finL X 13 42 (fun s : Int32 => [(0, .ref (X.B + l0)), (1, .int l1), (2, .int l2), (3, .ref (X.B + l3)), (4, .int l4), (5, .int l5), (6, .long l6), (8, .int l8), (9, .int s)]) (finL X 13 30 (fun s : Int32 => [(0, .ref (X.B + l0)), (1, .int l1), (2, .int l2), (3, .ref (X.B + l3)), (4, .int l4), (5, .int l5), (6, .long l6), (8, .int s)]) (finV X))) r G') : J X 13 95 [(0, .ref (X.B + l0)), (1, .int l1), (2, .int l2), (3, .ref (X.B + l3)), (4, .int l4), (5, .int l5), (6, .long l6), (8, .int l8), (9, .int l9), (10, .int l10), (11, .int l11)] [.int s0] G := by
  unfold fX0_findMovesFrom_95 at h
  refine j_istore (L' := [(12, .int s0), (0, .ref (X.B + l0)), (1, .int l1), (2, .int l2), (3, .ref (X.B + l3)), (4, .int l4), (5, .int l5), (6, .long l6), (8, .int l8), (9, .int l9), (10, .int l10), (11, .int l11)]) ok dX0_findMovesFrom_95 (by decide) rfl ?_
  refine j_iload ok dX0_findMovesFrom_97 0 rfl ?_
  rcases ite_some h with ⟨c1, h⟩ | ⟨c1, h⟩
  · refine j_if_ne (tgt := 123) ok dX0_findMovesFrom_99 (by decide) (fun z => absurd c1 z) (fun _ => ?_)
    refine j_iload ok dX0_findMovesFrom_102 11 rfl ?_
    obtain ⟨q2, hq2, h⟩ := obind h
    refine k_N1 ok kl_X0_65 ⟨Nat.le_of_ble_eq_true rfl, Nat.le_of_ble_eq_true rfl⟩ [.int l11] rfl rfl (Nat.le_of_ble_eq_true rfl) (tX6_colourOf ok.fl X.V l11 G hq2) dX0_findMovesFrom_104 ?_
    refine j_iload ok dX0_findMovesFrom_107 6 rfl ?_
    rcases ite_some h with ⟨c3, h⟩ | ⟨c3, h⟩
    · refine j_icmp_eq (tgt := 205) ok dX0_findMovesFrom_109 (by decide) (fun _ => ?_) (fun z => absurd c3 z)
      exact J.sub [1, 2, 3, 4, 5, 6, 7, 8, 9] rfl (jX0_findMovesFrom_205 ok l0 l1 l2 l3 l4 l5 l6 l8 l9 q2.2 h hK)
    · refine j_icmp_eq (tgt := 205) ok dX0_findMovesFrom_109 (by decide) (fun z => absurd z c3) (fun _ => ?_)
      refine j_iload ok dX0_findMovesFrom_112 11 rfl ?_
      obtain ⟨q4, hq4, h⟩ := obind h
      refine k_N1 ok kl_X0_68 ⟨Nat.le_of_ble_eq_true rfl, Nat.le_of_ble_eq_true rfl⟩ [.int l11] rfl rfl (Nat.le_of_ble_eq_true rfl) (tX6_kindOf ok.fl X.V l11 q2.2 hq4) dX0_findMovesFrom_114 ?_
      rcases ite_some h with ⟨c5, h⟩ | ⟨c5, h⟩
      · refine j_if_ne (tgt := 123) ok dX0_findMovesFrom_117 (by decide) (fun z => absurd c5 z) (fun _ => ?_)
        refine j_goto (tgt := 205) ok dX0_findMovesFrom_120 (by decide) ?_
        exact J.sub [1, 2, 3, 4, 5, 6, 7, 8, 9] rfl (jX0_findMovesFrom_205 ok l0 l1 l2 l3 l4 l5 l6 l8 l9 q4.2 h hK)
      · refine j_if_ne (tgt := 123) ok dX0_findMovesFrom_117 (by decide) (fun _ => ?_) (fun z => absurd z c5)
        exact J.sub [1, 2, 3, 4, 5, 6, 7, 8, 9, 10, 0] rfl (jX0_findMovesFrom_123 ok l0 l1 l2 l3 l4 l5 l6 l8 l9 l10 s0 q4.2 h hK)
  · refine j_if_ne (tgt := 123) ok dX0_findMovesFrom_99 (by decide) (fun _ => ?_) (fun z => absurd z c1)
    exact J.sub [1, 2, 3, 4, 5, 6, 7, 8, 9, 10, 0] rfl (jX0_findMovesFrom_123 ok l0 l1 l2 l3 l4 l5 l6 l8 l9 l10 s0 G h hK)

def fX0_findMovesFrom_42 (l0 : Nat) (l1 : Int32) (l2 : Int32) (l3 : Nat) (l4 : Int32) (l5 : Int32) (l6 : Int64) (l8 : Int32) (l9 : Int32)  (G : Mem) : Option (((Int32) ⊕ ((Int32) ⊕ Unit)) × Mem) :=
  (gF G 10 l0 0).bind fun v1 =>
  if v1 ≤ l9 then
    liftE (fX0_findMovesFrom_211 l0 l1 l2 l3 l4 l5 l6 l8 G)
  else
    ck G 10 l0 <| (fX0_placeOf l0 l9 l8 G).bind fun q3 =>
    (fX0_bitOf q3.1 q3.2).bind fun q4 =>
    if (lg_cmp (l6 &&& q4.1) (0 : Int64)) = (0 : Int32) then
      fX0_findMovesFrom_205 l0 l1 l2 l3 l4 l5 l6 l8 l9 q4.2
    else
      ck q4.2 10 l0 <| (fX0_on l0 q3.1 q4.2).bind fun q6 =>
      if q6.1 = (0 : Int32) then
        fX0_findMovesFrom_95 l0 l1 l2 l3 l4 l5 l6 l8 l9 q3.1 q6.1 (1 : Int32) q6.2
      else
        fX0_findMovesFrom_95 l0 l1 l2 l3 l4 l5 l6 l8 l9 q3.1 q6.1 (0 : Int32) q6.2

set_option maxRecDepth 100000 in
set_option maxHeartbeats 4000000 in
theorem jX0_findMovesFrom_42 {X : Cx} (ok : OK X cX0_findMovesFrom RX0 none 13 3 76) (l0 : Nat) (l1 : Int32) (l2 : Int32) (l3 : Nat) (l4 : Int32) (l5 : Int32) (l6 : Int64) (l8 : Int32) (l9 : Int32)  (G : Mem) {r : ((Int32) ⊕ ((Int32) ⊕ Unit))} {G' : Mem} (h : fX0_findMovesFrom_42 l0 l1 l2 l3 l4 l5 l6 l8 l9 G = some (r, G')) (hK : (finL X 13 42 (fun s : Int32 => [(0, .ref (X.B + l0)), (1, .int l1), (2, .int l2), (3, .ref (X.B + l3)), (4, .int l4), (5, .int l5), (6, .long l6), (8, .int l8), (9, .int s)]) (finL X 13 30 (fun s : Int32 => [(0, .ref (X.B + l0)), (1, .int l1), (2, .int l2), (3, .ref (X.B + l3)), (4, .int l4), (5, .int l5), (6, .long l6), (8, .int s)]) (finV X))) r G') : J X 13 42 [(0, .ref (X.B + l0)), (1, .int l1), (2, .int l2), (3, .ref (X.B + l3)), (4, .int l4), (5, .int l5), (6, .long l6), (8, .int l8), (9, .int l9)] [] G := by
  unfold fX0_findMovesFrom_42 at h
  refine j_iload ok dX0_findMovesFrom_42 8 rfl ?_
  refine j_aload_n ok dX0_findMovesFrom_44 rfl 0 rfl ?_
  obtain ⟨v1, hv1, h⟩ := obind h
  refine k_getI ok fl_X0_9 hv1 dX0_findMovesFrom_45 ?_
  rcases ite_some h with ⟨c2, h⟩ | ⟨c2, h⟩
  · refine j_icmp_ge (tgt := 211) ok dX0_findMovesFrom_48 (by decide) (fun _ => ?_) (fun z => absurd c2 z)
    obtain ⟨r1, e1, h1⟩ := lift_some h
    subst e1
    exact J.sub [0, 1, 2, 3, 4, 5, 6, 7] rfl (jX0_findMovesFrom_211 ok l0 l1 l2 l3 l4 l5 l6 l8 G h1 hK)
  · refine j_icmp_ge (tgt := 211) ok dX0_findMovesFrom_48 (by decide) (fun z => absurd z c2) (fun _ => ?_)
    refine j_aload_n ok dX0_findMovesFrom_51 rfl 0 rfl ?_
    refine j_iload ok dX0_findMovesFrom_52 8 rfl ?_
    refine j_iload ok dX0_findMovesFrom_54 7 rfl ?_
    obtain ⟨kq3, h⟩ := ck_some h
    obtain ⟨q3, hq3, h⟩ := obind h
    refine k_V1 ok kl_X0_44 ⟨Nat.le_of_ble_eq_true rfl, Nat.le_of_ble_eq_true rfl⟩ [.int l9, .int l8] kq3 rfl rfl (Nat.le_of_ble_eq_true rfl) (tX0_placeOf ok.fl X.V l0 l9 l8 G hq3) dX0_findMovesFrom_56 ?_
    refine j_istore (L' := [(10, .int q3.1), (0, .ref (X.B + l0)), (1, .int l1), (2, .int l2), (3, .ref (X.B + l3)), (4, .int l4), (5, .int l5), (6, .long l6), (8, .int l8), (9, .int l9)]) ok dX0_findMovesFrom_59 (by decide) rfl ?_
    refine j_lload ok dX0_findMovesFrom_61 7 rfl ?_
    refine j_iload ok dX0_findMovesFrom_63 0 rfl ?_
    obtain ⟨q4, hq4, h⟩ := obind h
    refine k_S1 ok kl_X0_85 ⟨Nat.le_of_ble_eq_true rfl, Nat.le_of_ble_eq_true rfl⟩ [.int q3.1] rfl rfl (Nat.le_of_ble_eq_true rfl) (tX0_bitOf ok.fl X.V q3.1 q3.2 hq4) dX0_findMovesFrom_65 ?_
    refine j_land ok dX0_findMovesFrom_68 ?_
    refine j_lconst (v := 0) ok dX0_findMovesFrom_69 (by decide) ?_
    refine j_lcmp ok dX0_findMovesFrom_70 ?_
    rcases ite_some h with ⟨c5, h⟩ | ⟨c5, h⟩
    · refine j_if_ne (tgt := 77) ok dX0_findMovesFrom_71 (by decide) (fun z => absurd c5 z) (fun _ => ?_)
      refine j_goto (tgt := 205) ok dX0_findMovesFrom_74 (by decide) ?_
      exact J.sub [1, 2, 3, 4, 5, 6, 7, 8, 9] rfl (jX0_findMovesFrom_205 ok l0 l1 l2 l3 l4 l5 l6 l8 l9 q4.2 h hK)
    · refine j_if_ne (tgt := 77) ok dX0_findMovesFrom_71 (by decide) (fun _ => ?_) (fun z => absurd z c5)
      refine j_aload_n ok dX0_findMovesFrom_77 rfl 1 rfl ?_
      refine j_iload ok dX0_findMovesFrom_78 0 rfl ?_
      obtain ⟨kq6, h⟩ := ck_some h
      obtain ⟨q6, hq6, h⟩ := obind h
      refine k_V1 ok kl_X0_48 ⟨Nat.le_of_ble_eq_true rfl, Nat.le_of_ble_eq_true rfl⟩ [.int q3.1] kq6 rfl rfl (Nat.le_of_ble_eq_true rfl) (tX0_on ok.fl X.V l0 q3.1 q4.2 hq6) dX0_findMovesFrom_80 ?_
      refine j_istore (L' := [(11, .int q6.1), (10, .int q3.1), (0, .ref (X.B + l0)), (1, .int l1), (2, .int l2), (3, .ref (X.B + l3)), (4, .int l4), (5, .int l5), (6, .long l6), (8, .int l8), (9, .int l9)]) ok dX0_findMovesFrom_83 (by decide) rfl ?_
      refine j_iload ok dX0_findMovesFrom_85 0 rfl ?_
      rcases ite_some h with ⟨c7, h⟩ | ⟨c7, h⟩
      · refine j_if_ne (tgt := 94) ok dX0_findMovesFrom_87 (by decide) (fun z => absurd c7 z) (fun _ => ?_)
        refine j_iconst (v := 1) ok dX0_findMovesFrom_90 (by decide) ?_
        refine j_goto (tgt := 95) ok dX0_findMovesFrom_91 (by decide) ?_
        exact J.sub [2, 3, 4, 5, 6, 7, 8, 9, 10, 1, 0] rfl (jX0_findMovesFrom_95 ok l0 l1 l2 l3 l4 l5 l6 l8 l9 q3.1 q6.1 (1 : Int32) q6.2 h hK)
      · refine j_if_ne (tgt := 94) ok dX0_findMovesFrom_87 (by decide) (fun _ => ?_) (fun z => absurd z c7)
        refine j_iconst (v := 0) ok dX0_findMovesFrom_94 (by decide) ?_
        exact J.sub [2, 3, 4, 5, 6, 7, 8, 9, 10, 1, 0] rfl (jX0_findMovesFrom_95 ok l0 l1 l2 l3 l4 l5 l6 l8 l9 q3.1 q6.1 (0 : Int32) q6.2 h hK)

def fX0_findMovesFrom_30 (l0 : Nat) (l1 : Int32) (l2 : Int32) (l3 : Nat) (l4 : Int32) (l5 : Int32) (l6 : Int64) (l8 : Int32)  (G : Mem) : Option (((Int32) ⊕ Unit) × Mem) :=
  (gF G 10 l0 1).bind fun v1 =>
  if v1 ≤ l8 then
    liftE (fX0_findMovesFrom_217 G)
  else
    loopM (fun (s : Int32) G => fX0_findMovesFrom_42 l0 l1 l2 l3 l4 l5 l6 l8 s G) FU ((0 : Int32)) G

set_option maxRecDepth 100000 in
set_option maxHeartbeats 4000000 in
theorem jX0_findMovesFrom_30 {X : Cx} (ok : OK X cX0_findMovesFrom RX0 none 13 3 76) (l0 : Nat) (l1 : Int32) (l2 : Int32) (l3 : Nat) (l4 : Int32) (l5 : Int32) (l6 : Int64) (l8 : Int32)  (G : Mem) {r : ((Int32) ⊕ Unit)} {G' : Mem} (h : fX0_findMovesFrom_30 l0 l1 l2 l3 l4 l5 l6 l8 G = some (r, G')) (hK : (finL X 13 30 (fun s : Int32 => [(0, .ref (X.B + l0)), (1, .int l1), (2, .int l2), (3, .ref (X.B + l3)), (4, .int l4), (5, .int l5), (6, .long l6), (8, .int s)]) (finV X)) r G') : J X 13 30 [(0, .ref (X.B + l0)), (1, .int l1), (2, .int l2), (3, .ref (X.B + l3)), (4, .int l4), (5, .int l5), (6, .long l6), (8, .int l8)] [] G := by
  unfold fX0_findMovesFrom_30 at h
  refine j_iload ok dX0_findMovesFrom_30 7 rfl ?_
  refine j_aload_n ok dX0_findMovesFrom_32 rfl 0 rfl ?_
  obtain ⟨v1, hv1, h⟩ := obind h
  refine k_getI ok fl_X0_15 hv1 dX0_findMovesFrom_33 ?_
  rcases ite_some h with ⟨c2, h⟩ | ⟨c2, h⟩
  · refine j_icmp_ge (tgt := 217) ok dX0_findMovesFrom_36 (by decide) (fun _ => ?_) (fun z => absurd c2 z)
    obtain ⟨r1, e1, h1⟩ := lift_some h
    subst e1
    exact J.sub [] rfl (jX0_findMovesFrom_217 ok G h1 hK)
  · refine j_icmp_ge (tgt := 217) ok dX0_findMovesFrom_36 (by decide) (fun z => absurd z c2) (fun _ => ?_)
    refine j_iconst (v := 0) ok dX0_findMovesFrom_39 (by decide) ?_
    refine j_istore (L' := [(9, .int (0 : Int32)), (0, .ref (X.B + l0)), (1, .int l1), (2, .int l2), (3, .ref (X.B + l3)), (4, .int l4), (5, .int l5), (6, .long l6), (8, .int l8)]) ok dX0_findMovesFrom_40 (by decide) rfl ?_
    have hJ : J X 13 42 [(0, .ref (X.B + l0)), (1, .int l1), (2, .int l2), (3, .ref (X.B + l3)), (4, .int l4), (5, .int l5), (6, .long l6), (8, .int l8), (9, .int (0 : Int32))] [] G := j_loop (loc := fun s : Int32 => [(0, .ref (X.B + l0)), (1, .int l1), (2, .int l2), (3, .ref (X.B + l3)), (4, .int l4), (5, .int l5), (6, .long l6), (8, .int l8), (9, .int s)]) (F := (finL X 13 30 (fun s : Int32 => [(0, .ref (X.B + l0)), (1, .int l1), (2, .int l2), (3, .ref (X.B + l3)), (4, .int l4), (5, .int l5), (6, .long l6), (8, .int s)]) (finV X))) (fun s G r G' hb hk => jX0_findMovesFrom_42 ok l0 l1 l2 l3 l4 l5 l6 l8 s G hb hk) _ _ _ _ _ h hK
    exact J.sub [1, 2, 3, 4, 5, 6, 7, 8, 0] rfl hJ

def fX0_findMovesFrom_0 (l0 : Nat) (l1 : Int32) (l2 : Int32) (l3 : Nat)  (G : Mem) : Option (Unit × Mem) :=
  ck G 10 l0 <| (fX0_placeOf l0 l1 l2 G).bind fun q1 =>
  ck q1.2 10 l0 <| (fX0_on l0 q1.1 q1.2).bind fun q2 =>
  (fX6_colourOf q2.1 q2.2).bind fun q3 =>
  ck q3.2 10 l0 <| (fX0_rangeOf l0 q1.1 q3.2).bind fun q4 =>
  loopM (fun (s : Int32) G => fX0_findMovesFrom_30 l0 l1 l2 l3 q1.1 q3.1 q4.1 s G) FU ((0 : Int32)) q4.2

set_option maxRecDepth 100000 in
set_option maxHeartbeats 4000000 in
theorem jX0_findMovesFrom_0 {X : Cx} (ok : OK X cX0_findMovesFrom RX0 none 13 3 76) (l0 : Nat) (l1 : Int32) (l2 : Int32) (l3 : Nat)  (G : Mem) {r : Unit} {G' : Mem} (h : fX0_findMovesFrom_0 l0 l1 l2 l3 G = some (r, G')) (hK : (finV X) r G') : J X 13 0 [(0, .ref (X.B + l0)), (1, .int l1), (2, .int l2), (3, .ref (X.B + l3))] [] G := by
  unfold fX0_findMovesFrom_0 at h
  refine j_aload_n ok dX0_findMovesFrom_0 rfl 0 rfl ?_
  refine j_iload_n ok dX0_findMovesFrom_1 rfl 1 rfl ?_
  refine j_iload_n ok dX0_findMovesFrom_2 rfl 2 rfl ?_
  obtain ⟨kq1, h⟩ := ck_some h
  obtain ⟨q1, hq1, h⟩ := obind h
  refine k_V1 ok kl_X0_44 ⟨Nat.le_of_ble_eq_true rfl, Nat.le_of_ble_eq_true rfl⟩ [.int l1, .int l2] kq1 rfl rfl (Nat.le_of_ble_eq_true rfl) (tX0_placeOf ok.fl X.V l0 l1 l2 G hq1) dX0_findMovesFrom_3 ?_
  refine j_istore (L' := [(4, .int q1.1), (0, .ref (X.B + l0)), (1, .int l1), (2, .int l2), (3, .ref (X.B + l3))]) ok dX0_findMovesFrom_6 (by decide) rfl ?_
  refine j_aload_n ok dX0_findMovesFrom_8 rfl 1 rfl ?_
  refine j_iload ok dX0_findMovesFrom_9 0 rfl ?_
  obtain ⟨kq2, h⟩ := ck_some h
  obtain ⟨q2, hq2, h⟩ := obind h
  refine k_V1 ok kl_X0_48 ⟨Nat.le_of_ble_eq_true rfl, Nat.le_of_ble_eq_true rfl⟩ [.int q1.1] kq2 rfl rfl (Nat.le_of_ble_eq_true rfl) (tX0_on ok.fl X.V l0 q1.1 q1.2 hq2) dX0_findMovesFrom_11 ?_
  obtain ⟨q3, hq3, h⟩ := obind h
  refine k_N1 ok kl_X0_65 ⟨Nat.le_of_ble_eq_true rfl, Nat.le_of_ble_eq_true rfl⟩ [.int q2.1] rfl rfl (Nat.le_of_ble_eq_true rfl) (tX6_colourOf ok.fl X.V q2.1 q2.2 hq3) dX0_findMovesFrom_14 ?_
  refine j_istore (L' := [(5, .int q3.1), (4, .int q1.1), (0, .ref (X.B + l0)), (1, .int l1), (2, .int l2), (3, .ref (X.B + l3))]) ok dX0_findMovesFrom_17 (by decide) rfl ?_
  refine j_aload_n ok dX0_findMovesFrom_19 rfl 2 rfl ?_
  refine j_iload ok dX0_findMovesFrom_20 1 rfl ?_
  obtain ⟨kq4, h⟩ := ck_some h
  obtain ⟨q4, hq4, h⟩ := obind h
  refine k_V1 ok kl_X0_81 ⟨Nat.le_of_ble_eq_true rfl, Nat.le_of_ble_eq_true rfl⟩ [.int q1.1] kq4 rfl rfl (Nat.le_of_ble_eq_true rfl) (tX0_rangeOf ok.fl X.V l0 q1.1 q3.2 hq4) dX0_findMovesFrom_22 ?_
  refine j_lstore (L' := [(6, .long q4.1), (5, .int q3.1), (4, .int q1.1), (0, .ref (X.B + l0)), (1, .int l1), (2, .int l2), (3, .ref (X.B + l3))]) ok dX0_findMovesFrom_25 (by decide) rfl ?_
  refine j_iconst (v := 0) ok dX0_findMovesFrom_27 (by decide) ?_
  refine j_istore (L' := [(8, .int (0 : Int32)), (6, .long q4.1), (5, .int q3.1), (4, .int q1.1), (0, .ref (X.B + l0)), (1, .int l1), (2, .int l2), (3, .ref (X.B + l3))]) ok dX0_findMovesFrom_28 (by decide) rfl ?_
  have hJ : J X 13 30 [(0, .ref (X.B + l0)), (1, .int l1), (2, .int l2), (3, .ref (X.B + l3)), (4, .int q1.1), (5, .int q3.1), (6, .long q4.1), (8, .int (0 : Int32))] [] q4.2 := j_loop (loc := fun s : Int32 => [(0, .ref (X.B + l0)), (1, .int l1), (2, .int l2), (3, .ref (X.B + l3)), (4, .int q1.1), (5, .int q3.1), (6, .long q4.1), (8, .int s)]) (F := (finV X)) (fun s G r G' hb hk => jX0_findMovesFrom_30 ok l0 l1 l2 l3 q1.1 q3.1 q4.1 s G hb hk) _ _ _ _ _ h hK
  exact J.sub [4, 5, 6, 7, 3, 2, 1, 0] rfl hJ

def fX0_findMovesFrom (l0 : Nat) (l1 : Int32) (l2 : Int32) (l3 : Nat) (G : Mem) : Option (Unit × Mem) := fX0_findMovesFrom_0 l0 l1 l2 l3 G
set_option maxRecDepth 100000 in
theorem tX0_findMovesFrom {l : Launch} (hfl : l.stackTraces = false) (V : Wd) (l0 : Nat) (l1 : Int32) (l2 : Int32) (l3 : Nat) (G : Mem) {r : Unit} {G' : Mem} (h : fX0_findMovesFrom l0 l1 l2 l3 G = some (r, G')) : Mx l yX0_findMovesFrom cX0_findMovesFrom 13 none 3 76 V [.ref (V.B + l0), .int l1, .int l2, .ref (V.B + l3)] G (.inl none) G' :=
  mx_of (L := [(0, .ref (V.B + l0)), (1, .int l1), (2, .int l2), (3, .ref (V.B + l3))]) hfl (by decide +kernel) (Nat.le_of_ble_eq_true rfl) rfl (fun X hl hV hin ok he => by
    subst hl; subst hV
    exact J.sub [0, 1, 2, 3] rfl (jX0_findMovesFrom_0 ok l0 l1 l2 l3 G h he))
def fX0_findMoves_80 (l0 : Nat)  (G : Mem) : Option (Int32 × Mem) :=
  (gF G 10 l0 3).bind fun v1 =>
  some (v1, G)

set_option maxRecDepth 100000 in
set_option maxHeartbeats 4000000 in
theorem jX0_findMoves_80 {X : Cx} (ok : OK X cX0_findMoves RX0 (some .int) 6 4 108) (l0 : Nat)  (G : Mem) {r : Int32} {G' : Mem} (h : fX0_findMoves_80 l0 G = some (r, G')) (hK : (finI X) r G') : J X 6 80 [(0, .ref (X.B + l0))] [] G := by
  unfold fX0_findMoves_80 at h
  refine j_aload_n ok dX0_findMoves_80 rfl 0 rfl ?_
  obtain ⟨v1, hv1, h⟩ := obind h
  refine k_getI ok fl_X0_22 hv1 dX0_findMoves_81 ?_
  obtain ⟨er, eG⟩ := inj2 h
  subst er; subst eG
  exact j_iret ok rfl dX0_findMoves_84 hK

def fX0_findMoves_74 (l0 : Nat) (l1 : Nat) (l2 : Int32) (l3 : Int32)  (G : Mem) : Option (((Int32) ⊕ Int32) × Mem) :=
  some (.inl ((l3 + (1 : Int32))), G)

set_option maxRecDepth 100000 in
set_option maxHeartbeats 4000000 in
theorem jX0_findMoves_74 {X : Cx} (ok : OK X cX0_findMoves RX0 (some .int) 6 4 108) (l0 : Nat) (l1 : Nat) (l2 : Int32) (l3 : Int32)  (G : Mem) {r : ((Int32) ⊕ Int32)} {G' : Mem} (h : fX0_findMoves_74 l0 l1 l2 l3 G = some (r, G')) (hK : (finL X 6 7 (fun s : Int32 => [(0, .ref (X.B + l0)), (1, .ref (X.B + l1)), (2, .int l2), (3, .int s)]) (finI X)) r G') : J X 6 74 [(0, .ref (X.B + l0)), (1, .ref (X.B + l1)), (2, .int l2), (3, .int l3)] [] G := by
  unfold fX0_findMoves_74 at h
  refine j_iinc (L' := [(3, .int (l3 + (1 : Int32))), (0, .ref (X.B + l0)), (1, .ref (X.B + l1)), (2, .int l2)]) (v := (l3 + (1 : Int32))) ok dX0_findMoves_74 (q := 3) rfl rfl (by decide) rfl ?_
  refine j_goto (tgt := 7) ok dX0_findMoves_77 (by decide) ?_
  obtain ⟨er, eG⟩ := inj2 h
  subst er; subst eG
  have hJ : J X 6 7 [(0, .ref (X.B + l0)), (1, .ref (X.B + l1)), (2, .int l2), (3, .int (l3 + (1 : Int32)))] [] G := hK
  exact J.sub [1, 2, 3, 0] rfl hJ

def fX0_findMoves_68 (l0 : Nat) (l1 : Nat) (l2 : Int32) (l3 : Int32) (l4 : Int32)  (G : Mem) : Option (((Int32) ⊕ ((Int32) ⊕ Int32)) × Mem) :=
  some (.inl ((l4 + (1 : Int32))), G)

set_option maxRecDepth 100000 in
set_option maxHeartbeats 4000000 in
theorem jX0_findMoves_68 {X : Cx} (ok : OK X cX0_findMoves RX0 (some .int) 6 4 108) (l0 : Nat) (l1 : Nat) (l2 : Int32) (l3 : Int32) (l4 : Int32)  (G : Mem) {r : ((Int32) ⊕ ((Int32) ⊕ Int32))} {G' : Mem} (h : fX0_findMoves_68 l0 l1 l2 l3 l4 G = some (r, G')) (hK : (finL X 6 18 (fun s : Int32 => [(0, .ref (X.B + l0)), (1, .ref (X.B + l1)), (2, .int l2), (3, .int l3), (4, .int s)]) (finL X 6 7 (fun s : Int32 => [(0, .ref (X.B + l0)), (1, .ref (X.B + l1)), (2, .int l2), (3, .int s)]) (finI X))) r G') : J X 6 68 [(0, .ref (X.B + l0)), (1, .ref (X.B + l1)), (2, .int l2), (3, .int l3), (4, .int l4)] [] G := by
  unfold fX0_findMoves_68 at h
  refine j_iinc (L' := [(4, .int (l4 + (1 : Int32))), (0, .ref (X.B + l0)), (1, .ref (X.B + l1)), (2, .int l2), (3, .int l3)]) (v := (l4 + (1 : Int32))) ok dX0_findMoves_68 (q := 4) rfl rfl (by decide) rfl ?_
  refine j_goto (tgt := 18) ok dX0_findMoves_71 (by decide) ?_
  obtain ⟨er, eG⟩ := inj2 h
  subst er; subst eG
  have hJ : J X 6 18 [(0, .ref (X.B + l0)), (1, .ref (X.B + l1)), (2, .int l2), (3, .int l3), (4, .int (l4 + (1 : Int32)))] [] G := hK
  exact J.sub [1, 2, 3, 4, 0] rfl hJ

def fX0_findMoves_18 (l0 : Nat) (l1 : Nat) (l2 : Int32) (l3 : Int32) (l4 : Int32)  (G : Mem) : Option (((Int32) ⊕ ((Int32) ⊕ Int32)) × Mem) :=
  (gF G 10 l0 0).bind fun v1 =>
  if v1 ≤ l4 then
    liftE (fX0_findMoves_74 l0 l1 l2 l3 G)
  else
    ck G 10 l0 <| (fX0_at l0 l4 l3 G).bind fun q3 =>
    (fX6_colourOf q3.1 q3.2).bind fun q4 =>
    if q4.1 = l2 then
      (fX6_kindOf q3.1 q4.2).bind fun q6 =>
      ck q6.2 11 l1 <| (fX1_allowsOrigin l1 q6.1 l4 l3 q6.2).bind fun q7 =>
      if q7.1 = (0 : Int32) then
        fX0_findMoves_68 l0 l1 l2 l3 l4 q7.2
      else
        ck q7.2 10 l0 <| (fX0_findMovesFrom l0 l4 l3 l1 q7.2).bind fun q9 =>
        fX0_findMoves_68 l0 l1 l2 l3 l4 q9.2
    else
      fX0_findMoves_68 l0 l1 l2 l3 l4 q4.2

set_option maxRecDepth 100000 in
set_option maxHeartbeats 4000000 in
theorem jX0_findMoves_18 {X : Cx} (ok : OK X cX0_findMoves RX0 (some .int) 6 4 108) (l0 : Nat) (l1 : Nat) (l2 : Int32) (l3 : Int32) (l4 : Int32)  (G : Mem) {r : ((Int32) ⊕ ((Int32) ⊕ Int32))} {G' : Mem} (h : fX0_findMoves_18 l0 l1 l2 l3 l4 G = some (r, G')) (hK : (finL X 6 18 (fun s : Int32 => [(0, .ref (X.B + l0)), (1, .ref (X.B + l1)), (2, .int l2), (3, .int l3), (4, .int s)]) (finL X 6 7 (fun s : Int32 => [(0, .ref (X.B + l0)), (1, .ref (X.B + l1)), (2, .int l2), (3, .int s)]) (finI X))) r G') : J X 6 18 [(0, .ref (X.B + l0)), (1, .ref (X.B + l1)), (2, .int l2), (3, .int l3), (4, .int l4)] [] G := by
  unfold fX0_findMoves_18 at h
  refine j_iload ok dX0_findMoves_18 4 rfl ?_
  refine j_aload_n ok dX0_findMoves_20 rfl 0 rfl ?_
  obtain ⟨v1, hv1, h⟩ := obind h
  refine k_getI ok fl_X0_9 hv1 dX0_findMoves_21 ?_
  rcases ite_some h with ⟨c2, h⟩ | ⟨c2, h⟩
  · refine j_icmp_ge (tgt := 74) ok dX0_findMoves_24 (by decide) (fun _ => ?_) (fun z => absurd c2 z)
    obtain ⟨r1, e1, h1⟩ := lift_some h
    subst e1
    exact J.sub [0, 1, 2, 3] rfl (jX0_findMoves_74 ok l0 l1 l2 l3 G h1 hK)
  · refine j_icmp_ge (tgt := 74) ok dX0_findMoves_24 (by decide) (fun z => absurd z c2) (fun _ => ?_)
    refine j_aload_n ok dX0_findMoves_27 rfl 0 rfl ?_
    refine j_iload ok dX0_findMoves_28 4 rfl ?_
    refine j_iload_n ok dX0_findMoves_30 rfl 3 rfl ?_
    obtain ⟨kq3, h⟩ := ck_some h
    obtain ⟨q3, hq3, h⟩ := obind h
    refine k_V1 ok kl_X0_62 ⟨Nat.le_of_ble_eq_true rfl, Nat.le_of_ble_eq_true rfl⟩ [.int l4, .int l3] kq3 rfl rfl (Nat.le_of_ble_eq_true rfl) (tX0_at ok.fl X.V l0 l4 l3 G hq3) dX0_findMoves_31 ?_
    refine j_istore (L' := [(5, .int q3.1), (0, .ref (X.B + l0)), (1, .ref (X.B + l1)), (2, .int l2), (3, .int l3), (4, .int l4)]) ok dX0_findMoves_34 (by decide) rfl ?_
    refine j_iload ok dX0_findMoves_36 0 rfl ?_
    obtain ⟨q4, hq4, h⟩ := obind h
    refine k_N1 ok kl_X0_65 ⟨Nat.le_of_ble_eq_true rfl, Nat.le_of_ble_eq_true rfl⟩ [.int q3.1] rfl rfl (Nat.le_of_ble_eq_true rfl) (tX6_colourOf ok.fl X.V q3.1 q3.2 hq4) dX0_findMoves_38 ?_
    refine j_iload_n ok dX0_findMoves_41 rfl 3 rfl ?_
    rcases ite_some h with ⟨c5, h⟩ | ⟨c5, h⟩
    · refine j_icmp_ne (tgt := 68) ok dX0_findMoves_42 (by decide) (fun z => absurd c5 z) (fun _ => ?_)
      refine j_aload_n ok dX0_findMoves_45 rfl 2 rfl ?_
      refine j_iload ok dX0_findMoves_46 0 rfl ?_
      obtain ⟨q6, hq6, h⟩ := obind h
      refine k_N1 ok kl_X0_68 ⟨Nat.le_of_ble_eq_true rfl, Nat.le_of_ble_eq_true rfl⟩ [.int q3.1] rfl rfl (Nat.le_of_ble_eq_true rfl) (tX6_kindOf ok.fl X.V q3.1 q4.2 hq6) dX0_findMoves_48 ?_
      refine j_iload ok dX0_findMoves_51 5 rfl ?_
      refine j_iload_n ok dX0_findMoves_53 rfl 4 rfl ?_
      obtain ⟨kq7, h⟩ := ck_some h
      obtain ⟨q7, hq7, h⟩ := obind h
      refine k_V1 ok kl_X0_71 ⟨Nat.le_of_ble_eq_true rfl, Nat.le_of_ble_eq_true rfl⟩ [.int q6.1, .int l4, .int l3] kq7 rfl rfl (Nat.le_of_ble_eq_true rfl) (tX1_allowsOrigin ok.fl X.V l1 q6.1 l4 l3 q6.2 hq7) dX0_findMoves_54 ?_
      rcases ite_some h with ⟨c8, h⟩ | ⟨c8, h⟩
      · refine j_if_eq (tgt := 68) ok dX0_findMoves_57 (by decide) (fun _ => ?_) (fun z => absurd c8 z)
        exact J.sub [1, 2, 3, 4, 5] rfl (jX0_findMoves_68 ok l0 l1 l2 l3 l4 q7.2 h hK)
      · refine j_if_eq (tgt := 68) ok dX0_findMoves_57 (by decide) (fun z => absurd z c8) (fun _ => ?_)
        refine j_aload_n ok dX0_findMoves_60 rfl 1 rfl ?_
        refine j_iload ok dX0_findMoves_61 5 rfl ?_
        refine j_iload_n ok dX0_findMoves_63 rfl 4 rfl ?_
        refine j_aload_n ok dX0_findMoves_64 rfl 2 rfl ?_
        obtain ⟨kq9, h⟩ := ck_some h
        obtain ⟨q9, hq9, h⟩ := obind h
        refine k_V0 ok kl_X0_77 ⟨Nat.le_of_ble_eq_true rfl, Nat.le_of_ble_eq_true rfl⟩ [.int l4, .int l3, .ref (X.B + l1)] kq9 rfl rfl (Nat.le_of_ble_eq_true rfl) (tX0_findMovesFrom ok.fl X.V l0 l4 l3 l1 q7.2 hq9) dX0_findMoves_65 ?_
        exact J.sub [1, 2, 3, 4, 5] rfl (jX0_findMoves_68 ok l0 l1 l2 l3 l4 q9.2 h hK)
    · refine j_icmp_ne (tgt := 68) ok dX0_findMoves_42 (by decide) (fun _ => ?_) (fun z => absurd z c5)
      exact J.sub [1, 2, 3, 4, 5] rfl (jX0_findMoves_68 ok l0 l1 l2 l3 l4 q4.2 h hK)

def fX0_findMoves_7 (l0 : Nat) (l1 : Nat) (l2 : Int32) (l3 : Int32)  (G : Mem) : Option (((Int32) ⊕ Int32) × Mem) :=
  (gF G 10 l0 1).bind fun v1 =>
  if v1 ≤ l3 then
    liftE (fX0_findMoves_80 l0 G)
  else
    loopM (fun (s : Int32) G => fX0_findMoves_18 l0 l1 l2 l3 s G) FU ((0 : Int32)) G

set_option maxRecDepth 100000 in
set_option maxHeartbeats 4000000 in
theorem jX0_findMoves_7 {X : Cx} (ok : OK X cX0_findMoves RX0 (some .int) 6 4 108) (l0 : Nat) (l1 : Nat) (l2 : Int32) (l3 : Int32)  (G : Mem) {r : ((Int32) ⊕ Int32)} {G' : Mem} (h : fX0_findMoves_7 l0 l1 l2 l3 G = some (r, G')) (hK : (finL X 6 7 (fun s : Int32 => [(0, .ref (X.B + l0)), (1, .ref (X.B + l1)), (2, .int l2), (3, .int s)]) (finI X)) r G') : J X 6 7 [(0, .ref (X.B + l0)), (1, .ref (X.B + l1)), (2, .int l2), (3, .int l3)] [] G := by
  unfold fX0_findMoves_7 at h
  refine j_iload_n ok dX0_findMoves_7 rfl 3 rfl ?_
  refine j_aload_n ok dX0_findMoves_8 rfl 0 rfl ?_
  obtain ⟨v1, hv1, h⟩ := obind h
  refine k_getI ok fl_X0_15 hv1 dX0_findMoves_9 ?_
  rcases ite_some h with ⟨c2, h⟩ | ⟨c2, h⟩
  · refine j_icmp_ge (tgt := 80) ok dX0_findMoves_12 (by decide) (fun _ => ?_) (fun z => absurd c2 z)
    obtain ⟨r1, e1, h1⟩ := lift_some h
    subst e1
    exact J.sub [0] rfl (jX0_findMoves_80 ok l0 G h1 hK)
  · refine j_icmp_ge (tgt := 80) ok dX0_findMoves_12 (by decide) (fun z => absurd z c2) (fun _ => ?_)
    refine j_iconst (v := 0) ok dX0_findMoves_15 (by decide) ?_
    refine j_istore (L' := [(4, .int (0 : Int32)), (0, .ref (X.B + l0)), (1, .ref (X.B + l1)), (2, .int l2), (3, .int l3)]) ok dX0_findMoves_16 (by decide) rfl ?_
    have hJ : J X 6 18 [(0, .ref (X.B + l0)), (1, .ref (X.B + l1)), (2, .int l2), (3, .int l3), (4, .int (0 : Int32))] [] G := j_loop (loc := fun s : Int32 => [(0, .ref (X.B + l0)), (1, .ref (X.B + l1)), (2, .int l2), (3, .int l3), (4, .int s)]) (F := (finL X 6 7 (fun s : Int32 => [(0, .ref (X.B + l0)), (1, .ref (X.B + l1)), (2, .int l2), (3, .int s)]) (finI X))) (fun s G r G' hb hk => jX0_findMoves_18 ok l0 l1 l2 l3 s G hb hk) _ _ _ _ _ h hK
    exact J.sub [1, 2, 3, 4, 0] rfl hJ

def fX0_findMoves_0 (l0 : Nat) (l1 : Nat) (l2 : Int32)  (G : Mem) : Option (Int32 × Mem) :=
  (pI G 10 l0 3 (0 : Int32)).bind fun G1 =>
  loopM (fun (s : Int32) G => fX0_findMoves_7 l0 l1 l2 s G) FU ((0 : Int32)) G1

set_option maxRecDepth 100000 in
set_option maxHeartbeats 4000000 in
theorem jX0_findMoves_0 {X : Cx} (ok : OK X cX0_findMoves RX0 (some .int) 6 4 108) (l0 : Nat) (l1 : Nat) (l2 : Int32)  (G : Mem) {r : Int32} {G' : Mem} (h : fX0_findMoves_0 l0 l1 l2 G = some (r, G')) (hK : (finI X) r G') : J X 6 0 [(0, .ref (X.B + l0)), (1, .ref (X.B + l1)), (2, .int l2)] [] G := by
  unfold fX0_findMoves_0 at h
  refine j_aload_n ok dX0_findMoves_0 rfl 0 rfl ?_
  refine j_iconst (v := 0) ok dX0_findMoves_1 (by decide) ?_
  obtain ⟨G1, hG1, h⟩ := obind h
  refine k_putI ok fl_X0_22 fp_X0 rfl (Or.inl rfl) hG1 dX0_findMoves_2 ?_
  refine j_iconst (v := 0) ok dX0_findMoves_5 (by decide) ?_
  refine j_istore_n (L' := [(3, .int (0 : Int32)), (0, .ref (X.B + l0)), (1, .ref (X.B + l1)), (2, .int l2)]) ok dX0_findMoves_6 rfl (by decide) rfl ?_
  have hJ : J X 6 7 [(0, .ref (X.B + l0)), (1, .ref (X.B + l1)), (2, .int l2), (3, .int (0 : Int32))] [] G1 := j_loop (loc := fun s : Int32 => [(0, .ref (X.B + l0)), (1, .ref (X.B + l1)), (2, .int l2), (3, .int s)]) (F := (finI X)) (fun s G r G' hb hk => jX0_findMoves_7 ok l0 l1 l2 s G hb hk) _ _ _ _ _ h hK
  exact J.sub [1, 2, 3, 0] rfl hJ

def fX0_findMoves (l0 : Nat) (l1 : Nat) (l2 : Int32) (G : Mem) : Option (Int32 × Mem) := fX0_findMoves_0 l0 l1 l2 G
set_option maxRecDepth 100000 in
theorem tX0_findMoves {l : Launch} (hfl : l.stackTraces = false) (V : Wd) (l0 : Nat) (l1 : Nat) (l2 : Int32) (G : Mem) {r : Int32} {G' : Mem} (h : fX0_findMoves l0 l1 l2 G = some (r, G')) : Mx l yX0_findMoves cX0_findMoves 6 (some .int) 4 108 V [.ref (V.B + l0), .ref (V.B + l1), .int l2] G (.inl (some (.int r))) G' :=
  mx_of (L := [(0, .ref (V.B + l0)), (1, .ref (V.B + l1)), (2, .int l2)]) hfl (by decide +kernel) (Nat.le_of_ble_eq_true rfl) rfl (fun X hl hV hin ok he => by
    subst hl; subst hV
    exact J.sub [0, 1, 2] rfl (jX0_findMoves_0 ok l0 l1 l2 G h he))
