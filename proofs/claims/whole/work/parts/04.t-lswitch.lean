def wc (k : Nat) (xs : Nat → Int32) (n x m o : Nat) (i : Int32) (c1 c2 : Nat) (G : Mem) (K : Mem → Prop) : Prop := match k with
  | 0 => wc_0 xs n x m o i c1 c2 G K
  | 1 => wc_1 xs n x m o i c1 c2 G K
  | 2 => wc_2 xs n x m o i c1 c2 G K
  | 3 => wc_3 xs n x m o i c1 c2 G K
  | 4 => wc_4 xs n x m o i c1 c2 G K
  | 5 => wc_5 xs n x m o i c1 c2 G K
  | 6 => wc_6 xs n x m o i c1 c2 G K
  | 7 => wc_7 xs n x m o i c1 c2 G K
  | 8 => wc_8 xs n x m o i c1 c2 G K
  | 9 => wc_9 xs n x m o i c1 c2 G K
  | 10 => wc_10 xs n x m o i c1 c2 G K
  | 11 => wc_11 xs n x m o i c1 c2 G K
  | 12 => wc_12 xs n x m o i c1 c2 G K
  | 13 => wc_13 xs n x m o i c1 c2 G K
  | 14 => wc_14 xs n x m o i c1 c2 G K
  | 15 => wc_15 xs n x m o i c1 c2 G K
  | 16 => wc_16 xs n x m o i c1 c2 G K
  | 17 => wc_17 xs n x m o i c1 c2 G K
  | 18 => wc_18 xs n x m o i c1 c2 G K
  | 19 => wc_19 xs n x m o i c1 c2 G K
  | 20 => wc_20 xs n x m o i c1 c2 G K
  | 21 => wc_21 xs n x m o i c1 c2 G K
  | 22 => wc_22 xs n x m o i c1 c2 G K
  | 23 => wc_23 xs n x m o i c1 c2 G K
  | 24 => wc_24 xs n x m o i c1 c2 G K
  | 25 => wc_25 xs n x m o i c1 c2 G K
  | 26 => wc_26 xs n x m o i c1 c2 G K
  | 27 => wc_27 xs n x m o i c1 c2 G K
  | 28 => wc_28 xs n x m o i c1 c2 G K
  | 29 => wc_29 xs n x m o i c1 c2 G K
  | 30 => wc_30 xs n x m o i c1 c2 G K
  | 31 => wc_31 xs n x m o i c1 c2 G K
  | 32 => wc_32 xs n x m o i c1 c2 G K
  | 33 => wc_33 xs n x m o i c1 c2 G K
  | 34 => wc_34 xs n x m o i c1 c2 G K
  | 35 => wc_35 xs n x m o i c1 c2 G K
  | 36 => wc_36 xs n x m o i c1 c2 G K
  | 37 => wc_37 xs n x m o i c1 c2 G K
  | 38 => wc_38 xs n x m o i c1 c2 G K
  | 39 => wc_39 xs n x m o i c1 c2 G K
  | 40 => wc_40 xs n x m o i c1 c2 G K
  | 41 => wc_41 xs n x m o i c1 c2 G K
  | 42 => wc_42 xs n x m o i c1 c2 G K
  | 43 => wc_43 xs n x m o i c1 c2 G K
  | 44 => wc_44 xs n x m o i c1 c2 G K
  | _ => K G
set_option maxRecDepth 100000 in
set_option maxHeartbeats 4000000 in
theorem jl_switch {X : Cx} (ok : OK X cL_law RL (some .boolean) 9 LFR LLO) {b n x m o : Nat} {xs : Nat → Int32} {i v : Int32} {c1 c2 : Nat} (hcc : X.V.cc = c1) (hcs : X.V.cs = c2) (hscr : SC X b n xs) (G : Mem) (K : Mem → Prop) (hK : ∀ G', K G' → J X 9 2474 [(0, .ref b), (1, .ref (X.B + x)), (2, .ref (X.B + m)), (3, .ref (X.B + o)), (4, .int i)] [] G') (hstep : ∀ {k : Nat}, v = Int32.ofNat k → wc k xs n x m o i c1 c2 G K) (hskip : K G) : J X 9 40 [(0, .ref b), (1, .ref (X.B + x)), (2, .ref (X.B + m)), (3, .ref (X.B + o)), (4, .int i)] [.int v] G := by
  by_cases hv : v.toInt < 0 ∨ 44 < v.toInt
  · exact j_tsw_out (tgt := 2474) ok dL_law_40 hv (by decide) (hK G hskip)
  obtain ⟨k, hk, hvk⟩ : ∃ k : Nat, k < 45 ∧ v = Int32.ofNat k := ⟨v.toInt.toNat, by omega, Int32.toInt_inj.mp (by rw [Int32.toInt_ofNat_of_lt (by omega)]; omega)⟩
  rcases (show k = 0 ∨ k = 1 ∨ k = 2 ∨ k = 3 ∨ k = 4 ∨ k = 5 ∨ k = 6 ∨ k = 7 ∨ k = 8 ∨ k = 9 ∨ k = 10 ∨ k = 11 ∨ k = 12 ∨ k = 13 ∨ k = 14 ∨ k = 15 ∨ k = 16 ∨ k = 17 ∨ k = 18 ∨ k = 19 ∨ k = 20 ∨ k = 21 ∨ k = 22 ∨ k = 23 ∨ k = 24 ∨ k = 25 ∨ k = 26 ∨ k = 27 ∨ k = 28 ∨ k = 29 ∨ k = 30 ∨ k = 31 ∨ k = 32 ∨ k = 33 ∨ k = 34 ∨ k = 35 ∨ k = 36 ∨ k = 37 ∨ k = 38 ∨ k = 39 ∨ k = 40 ∨ k = 41 ∨ k = 42 ∨ k = 43 ∨ k = 44 by omega) with rfl | rfl | rfl | rfl | rfl | rfl | rfl | rfl | rfl | rfl | rfl | rfl | rfl | rfl | rfl | rfl | rfl | rfl | rfl | rfl | rfl | rfl | rfl | rfl | rfl | rfl | rfl | rfl | rfl | rfl | rfl | rfl | rfl | rfl | rfl | rfl | rfl | rfl | rfl | rfl | rfl | rfl | rfl | rfl | rfl
  · refine j_tsw_in (tgt := 236) (off := 196) ok dL_law_40 (by rw [hvk]; decide) (by rw [hvk]; decide) (by rw [hvk]; rfl) (by decide) ?_
    exact jc_0 ok hcc hcs hscr G _ hK (hstep hvk)
  · refine j_tsw_in (tgt := 309) (off := 269) ok dL_law_40 (by rw [hvk]; decide) (by rw [hvk]; decide) (by rw [hvk]; rfl) (by decide) ?_
    exact jc_1 ok hcc hcs hscr G _ hK (hstep hvk)
  · refine j_tsw_in (tgt := 365) (off := 325) ok dL_law_40 (by rw [hvk]; decide) (by rw [hvk]; decide) (by rw [hvk]; rfl) (by decide) ?_
    exact jc_2 ok hcc hcs hscr G _ hK (hstep hvk)
  · refine j_tsw_in (tgt := 378) (off := 338) ok dL_law_40 (by rw [hvk]; decide) (by rw [hvk]; decide) (by rw [hvk]; rfl) (by decide) ?_
    exact jc_3 ok hcc hcs hscr G _ hK (hstep hvk)
  · refine j_tsw_in (tgt := 391) (off := 351) ok dL_law_40 (by rw [hvk]; decide) (by rw [hvk]; decide) (by rw [hvk]; rfl) (by decide) ?_
    exact jc_4 ok hcc hcs hscr G _ hK (hstep hvk)
  · refine j_tsw_in (tgt := 404) (off := 364) ok dL_law_40 (by rw [hvk]; decide) (by rw [hvk]; decide) (by rw [hvk]; rfl) (by decide) ?_
    exact jc_5 ok hcc hcs hscr G _ hK (hstep hvk)
  · refine j_tsw_in (tgt := 417) (off := 377) ok dL_law_40 (by rw [hvk]; decide) (by rw [hvk]; decide) (by rw [hvk]; rfl) (by decide) ?_
    exact jc_6 ok hcc hcs hscr G _ hK (hstep hvk)
  · refine j_tsw_in (tgt := 567) (off := 527) ok dL_law_40 (by rw [hvk]; decide) (by rw [hvk]; decide) (by rw [hvk]; rfl) (by decide) ?_
    exact jc_7 ok hcc hcs hscr G _ hK (hstep hvk)
  · refine j_tsw_in (tgt := 647) (off := 607) ok dL_law_40 (by rw [hvk]; decide) (by rw [hvk]; decide) (by rw [hvk]; rfl) (by decide) ?_
    exact jc_8 ok hcc hcs hscr G _ hK (hstep hvk)
  · refine j_tsw_in (tgt := 691) (off := 651) ok dL_law_40 (by rw [hvk]; decide) (by rw [hvk]; decide) (by rw [hvk]; rfl) (by decide) ?_
    exact jc_9 ok hcc hcs hscr G _ hK (hstep hvk)
  · refine j_tsw_in (tgt := 735) (off := 695) ok dL_law_40 (by rw [hvk]; decide) (by rw [hvk]; decide) (by rw [hvk]; rfl) (by decide) ?_
    exact jc_10 ok hcc hcs hscr G _ hK (hstep hvk)
  · refine j_tsw_in (tgt := 791) (off := 751) ok dL_law_40 (by rw [hvk]; decide) (by rw [hvk]; decide) (by rw [hvk]; rfl) (by decide) ?_
    exact jc_11 ok hcc hcs hscr G _ hK (hstep hvk)
  · refine j_tsw_in (tgt := 847) (off := 807) ok dL_law_40 (by rw [hvk]; decide) (by rw [hvk]; decide) (by rw [hvk]; rfl) (by decide) ?_
    exact jc_12 ok hcc hcs hscr G _ hK (hstep hvk)
  · refine j_tsw_in (tgt := 860) (off := 820) ok dL_law_40 (by rw [hvk]; decide) (by rw [hvk]; decide) (by rw [hvk]; rfl) (by decide) ?_
    exact jc_13 ok hcc hcs hscr G _ hK (hstep hvk)
  · refine j_tsw_in (tgt := 873) (off := 833) ok dL_law_40 (by rw [hvk]; decide) (by rw [hvk]; decide) (by rw [hvk]; rfl) (by decide) ?_
    exact jc_14 ok hcc hcs hscr G _ hK (hstep hvk)
  · refine j_tsw_in (tgt := 886) (off := 846) ok dL_law_40 (by rw [hvk]; decide) (by rw [hvk]; decide) (by rw [hvk]; rfl) (by decide) ?_
    exact jc_15 ok hcc hcs hscr G _ hK (hstep hvk)
  · refine j_tsw_in (tgt := 899) (off := 859) ok dL_law_40 (by rw [hvk]; decide) (by rw [hvk]; decide) (by rw [hvk]; rfl) (by decide) ?_
    exact jc_16 ok hcc hcs hscr G _ hK (hstep hvk)
  · refine j_tsw_in (tgt := 912) (off := 872) ok dL_law_40 (by rw [hvk]; decide) (by rw [hvk]; decide) (by rw [hvk]; rfl) (by decide) ?_
    exact jc_17 ok hcc hcs hscr G _ hK (hstep hvk)
  · refine j_tsw_in (tgt := 968) (off := 928) ok dL_law_40 (by rw [hvk]; decide) (by rw [hvk]; decide) (by rw [hvk]; rfl) (by decide) ?_
    exact jc_18 ok hcc hcs hscr G _ hK (hstep hvk)
  · refine j_tsw_in (tgt := 1024) (off := 984) ok dL_law_40 (by rw [hvk]; decide) (by rw [hvk]; decide) (by rw [hvk]; rfl) (by decide) ?_
    exact jc_19 ok hcc hcs hscr G _ hK (hstep hvk)
  · refine j_tsw_in (tgt := 1080) (off := 1040) ok dL_law_40 (by rw [hvk]; decide) (by rw [hvk]; decide) (by rw [hvk]; rfl) (by decide) ?_
    exact jc_20 ok hcc hcs hscr G _ hK (hstep hvk)
  · refine j_tsw_in (tgt := 1136) (off := 1096) ok dL_law_40 (by rw [hvk]; decide) (by rw [hvk]; decide) (by rw [hvk]; rfl) (by decide) ?_
    exact jc_21 ok hcc hcs hscr G _ hK (hstep hvk)
  · refine j_tsw_in (tgt := 1192) (off := 1152) ok dL_law_40 (by rw [hvk]; decide) (by rw [hvk]; decide) (by rw [hvk]; rfl) (by decide) ?_
    exact jc_22 ok hcc hcs hscr G _ hK (hstep hvk)
  · refine j_tsw_in (tgt := 1255) (off := 1215) ok dL_law_40 (by rw [hvk]; decide) (by rw [hvk]; decide) (by rw [hvk]; rfl) (by decide) ?_
    exact jc_23 ok hcc hcs hscr G _ hK (hstep hvk)
  · refine j_tsw_in (tgt := 1318) (off := 1278) ok dL_law_40 (by rw [hvk]; decide) (by rw [hvk]; decide) (by rw [hvk]; rfl) (by decide) ?_
    exact jc_24 ok hcc hcs hscr G _ hK (hstep hvk)
  · refine j_tsw_in (tgt := 1374) (off := 1334) ok dL_law_40 (by rw [hvk]; decide) (by rw [hvk]; decide) (by rw [hvk]; rfl) (by decide) ?_
    exact jc_25 ok hcc hcs hscr G _ hK (hstep hvk)
  · refine j_tsw_in (tgt := 1454) (off := 1414) ok dL_law_40 (by rw [hvk]; decide) (by rw [hvk]; decide) (by rw [hvk]; rfl) (by decide) ?_
    exact jc_26 ok hcc hcs hscr G _ hK (hstep hvk)
  · refine j_tsw_in (tgt := 1534) (off := 1494) ok dL_law_40 (by rw [hvk]; decide) (by rw [hvk]; decide) (by rw [hvk]; rfl) (by decide) ?_
    exact jc_27 ok hcc hcs hscr G _ hK (hstep hvk)
  · refine j_tsw_in (tgt := 1633) (off := 1593) ok dL_law_40 (by rw [hvk]; decide) (by rw [hvk]; decide) (by rw [hvk]; rfl) (by decide) ?_
    exact jc_28 ok hcc hcs hscr G _ hK (hstep hvk)
  · refine j_tsw_in (tgt := 1689) (off := 1649) ok dL_law_40 (by rw [hvk]; decide) (by rw [hvk]; decide) (by rw [hvk]; rfl) (by decide) ?_
    exact jc_29 ok hcc hcs hscr G _ hK (hstep hvk)
  · refine j_tsw_in (tgt := 1744) (off := 1704) ok dL_law_40 (by rw [hvk]; decide) (by rw [hvk]; decide) (by rw [hvk]; rfl) (by decide) ?_
    exact jc_30 ok hcc hcs hscr G _ hK (hstep hvk)
  · refine j_tsw_in (tgt := 1757) (off := 1717) ok dL_law_40 (by rw [hvk]; decide) (by rw [hvk]; decide) (by rw [hvk]; rfl) (by decide) ?_
    exact jc_31 ok hcc hcs hscr G _ hK (hstep hvk)
  · refine j_tsw_in (tgt := 1771) (off := 1731) ok dL_law_40 (by rw [hvk]; decide) (by rw [hvk]; decide) (by rw [hvk]; rfl) (by decide) ?_
    exact jc_32 ok hcc hcs hscr G _ hK (hstep hvk)
  · refine j_tsw_in (tgt := 1784) (off := 1744) ok dL_law_40 (by rw [hvk]; decide) (by rw [hvk]; decide) (by rw [hvk]; rfl) (by decide) ?_
    exact jc_33 ok hcc hcs hscr G _ hK (hstep hvk)
  · refine j_tsw_in (tgt := 1840) (off := 1800) ok dL_law_40 (by rw [hvk]; decide) (by rw [hvk]; decide) (by rw [hvk]; rfl) (by decide) ?_
    exact jc_34 ok hcc hcs hscr G _ hK (hstep hvk)
  · refine j_tsw_in (tgt := 1908) (off := 1868) ok dL_law_40 (by rw [hvk]; decide) (by rw [hvk]; decide) (by rw [hvk]; rfl) (by decide) ?_
    exact jc_35 ok hcc hcs hscr G _ hK (hstep hvk)
  · refine j_tsw_in (tgt := 1976) (off := 1936) ok dL_law_40 (by rw [hvk]; decide) (by rw [hvk]; decide) (by rw [hvk]; rfl) (by decide) ?_
    exact jc_36 ok hcc hcs hscr G _ hK (hstep hvk)
  · refine j_tsw_in (tgt := 2043) (off := 2003) ok dL_law_40 (by rw [hvk]; decide) (by rw [hvk]; decide) (by rw [hvk]; rfl) (by decide) ?_
    exact jc_37 ok hcc hcs hscr G _ hK (hstep hvk)
  · refine j_tsw_in (tgt := 2134) (off := 2094) ok dL_law_40 (by rw [hvk]; decide) (by rw [hvk]; decide) (by rw [hvk]; rfl) (by decide) ?_
    exact jc_38 ok hcc hcs hscr G _ hK (hstep hvk)
  · refine j_tsw_in (tgt := 2147) (off := 2107) ok dL_law_40 (by rw [hvk]; decide) (by rw [hvk]; decide) (by rw [hvk]; rfl) (by decide) ?_
    exact jc_39 ok hcc hcs hscr G _ hK (hstep hvk)
  · refine j_tsw_in (tgt := 2296) (off := 2256) ok dL_law_40 (by rw [hvk]; decide) (by rw [hvk]; decide) (by rw [hvk]; rfl) (by decide) ?_
    exact jc_40 ok hcc hcs hscr G _ hK (hstep hvk)
  · refine j_tsw_in (tgt := 2309) (off := 2269) ok dL_law_40 (by rw [hvk]; decide) (by rw [hvk]; decide) (by rw [hvk]; rfl) (by decide) ?_
    exact jc_41 ok hcc hcs hscr G _ hK (hstep hvk)
  · refine j_tsw_in (tgt := 2350) (off := 2310) ok dL_law_40 (by rw [hvk]; decide) (by rw [hvk]; decide) (by rw [hvk]; rfl) (by decide) ?_
    exact jc_42 ok hcc hcs hscr G _ hK (hstep hvk)
  · refine j_tsw_in (tgt := 2393) (off := 2353) ok dL_law_40 (by rw [hvk]; decide) (by rw [hvk]; decide) (by rw [hvk]; rfl) (by decide) ?_
    exact jc_43 ok hcc hcs hscr G _ hK (hstep hvk)
  · refine j_tsw_in (tgt := 2449) (off := 2409) ok dL_law_40 (by rw [hvk]; decide) (by rw [hvk]; decide) (by rw [hvk]; rfl) (by decide) ?_
    exact jc_44 ok hcc hcs hscr G _ hK (hstep hvk)

def fL_start (G : Mem) : Option (Nat × Nat × Nat × Mem) :=
  (nO G 16 12).bind fun q1 =>
  (fX6_init q1.1 q1.2).bind fun q2 =>
  (nO q2.2 17 27).bind fun q3 =>
  (fX7_init q3.1 q3.2).bind fun q4 =>
  (nA q4.2 5 (1 : Int32)).bind fun q5 =>
  some (q1.1, q3.1, q5.1, q5.2)
set_option maxRecDepth 100000 in
set_option maxHeartbeats 4000000 in
theorem jl_start {X : Cx} (ok : OK X cL_law RL (some .boolean) 9 LFR LLO) {b x m o : Nat} {G G1 : Mem} (h : fL_start G = some (x, m, o, G1)) (kk : J X 9 23 [(0, .ref b), (1, .ref (X.B + x)), (2, .ref (X.B + m)), (3, .ref (X.B + o)), (4, .int (Int32.ofNat (7 * 0)))] [] G1) : J X 9 0 [(0, .ref b)] [] G := by
  unfold fL_start at h
  obtain ⟨q1, hq1, h⟩ := obind h
  refine k_new ok (ci := 6) in_X6 fp_X6 rfl rfl df_X6 wl_L_8 wx_X6 wn_X6 hq1 dL_law_0 ?_
  refine j_dup ok dL_law_3 rfl ?_
  obtain ⟨q2, hq2, h⟩ := obind h
  refine k_I ok kl_L_107 ⟨Nat.le_of_ble_eq_true rfl, Nat.le_of_ble_eq_true rfl⟩ [] rfl rfl (Nat.le_of_ble_eq_true rfl) (tX6_init ok.fl X.V q1.1 q1.2 hq2) dL_law_4 ?_
  refine j_astore_n (L' := [(1, .ref (X.B + q1.1)), (0, .ref b)]) ok dL_law_7 rfl (by decide) rfl ?_
  obtain ⟨q3, hq3, h⟩ := obind h
  refine k_new ok (ci := 7) in_X7 fp_X7 rfl rfl df_X7 wl_L_108 wx_X7 wn_X7 hq3 dL_law_8 ?_
  refine j_dup ok dL_law_11 rfl ?_
  obtain ⟨q4, hq4, h⟩ := obind h
  refine k_I ok kl_L_110 ⟨Nat.le_of_ble_eq_true rfl, Nat.le_of_ble_eq_true rfl⟩ [] rfl rfl (Nat.le_of_ble_eq_true rfl) (tX7_init ok.fl X.V q3.1 q3.2 hq4) dL_law_12 ?_
  refine j_astore_n (L' := [(2, .ref (X.B + q3.1)), (1, .ref (X.B + q1.1)), (0, .ref b)]) ok dL_law_15 rfl (by decide) rfl ?_
  refine j_iconst (v := 1) ok dL_law_16 (by decide) ?_
  obtain ⟨q5, hq5, h⟩ := obind h
  refine k_newaT ok (t := 5) (Or.inr (Or.inr (Or.inr ⟨rfl, rfl⟩))) wa_5 hq5 dL_law_17 ?_
  refine j_astore_n (L' := [(3, .ref (X.B + q5.1)), (2, .ref (X.B + q3.1)), (1, .ref (X.B + q1.1)), (0, .ref b)]) ok dL_law_19 rfl (by decide) rfl ?_
  refine j_iconst (v := 0) ok dL_law_20 (by decide) ?_
  refine j_istore (L' := [(4, .int 0), (3, .ref (X.B + q5.1)), (2, .ref (X.B + q3.1)), (1, .ref (X.B + q1.1)), (0, .ref b)]) ok dL_law_21 (by decide) rfl ?_
  cases h
  exact J.sub [4, 3, 2, 1, 0] rfl kk
