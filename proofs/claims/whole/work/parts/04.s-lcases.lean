def wc_0 (xs : Nat → Int32) (n x m o : Nat) (i : Int32) (c1 c2 : Nat) (G : Mem) (K : Mem → Prop) : Prop :=
  inb (i + (1 : Int32)) n ∧ (
  inb (i + (2 : Int32)) n ∧ (
  inb (i + (3 : Int32)) n ∧ (
  inb (i + (4 : Int32)) n ∧ (
  inb (i + (5 : Int32)) n ∧ (
  mt G x = 16 ∧ ∃ q6, fX6_append x (xs ((i + (1 : Int32))).toNatClampNeg) (xs ((i + (2 : Int32))).toNatClampNeg) (xs ((i + (3 : Int32))).toNatClampNeg) (xs ((i + (4 : Int32))).toNatClampNeg) (xs ((i + (5 : Int32))).toNatClampNeg) G = some q6 ∧ (
  inb (i + (1 : Int32)) n ∧ (
  inb (i + (2 : Int32)) n ∧ (
  inb (i + (3 : Int32)) n ∧ (
  inb (i + (4 : Int32)) n ∧ (
  inb (i + (5 : Int32)) n ∧ (
  mt q6.2 m = 17 ∧ ∃ q12, fX7_append m (xs ((i + (1 : Int32))).toNatClampNeg) (xs ((i + (2 : Int32))).toNatClampNeg) (xs ((i + (3 : Int32))).toNatClampNeg) (xs ((i + (4 : Int32))).toNatClampNeg) (xs ((i + (5 : Int32))).toNatClampNeg) q6.2 = some q12 ∧ (
  (q6.1 = q12.1 → (
    K q12.2)) ∧ (¬ q6.1 = q12.1 → (
    False))))))))))))))

set_option maxRecDepth 100000 in
set_option maxHeartbeats 4000000 in
theorem jc_0 {X : Cx} (ok : OK X cL_law RL (some .boolean) 9 LFR LLO) {b n x m o : Nat} {xs : Nat → Int32} {i : Int32} {c1 c2 : Nat} (hcc : X.V.cc = c1) (hcs : X.V.cs = c2) (hscr : SC X b n xs) (G : Mem) (K : Mem → Prop) (hK : ∀ G', K G' → J X 9 2474 [(0, .ref b), (1, .ref (X.B + x)), (2, .ref (X.B + m)), (3, .ref (X.B + o)), (4, .int i)] [] G') (h : wc_0 xs n x m o i c1 c2 G K) : J X 9 236 [(0, .ref b), (1, .ref (X.B + x)), (2, .ref (X.B + m)), (3, .ref (X.B + o)), (4, .int i)] [] G := by
  unfold wc_0 at h
  refine j_aload_n ok dL_law_236 rfl 1 rfl ?_
  refine j_aload_n ok dL_law_237 rfl 0 rfl ?_
  refine j_iload ok dL_law_238 4 rfl ?_
  refine j_iconst (v := 1) ok dL_law_240 (by decide) ?_
  refine j_iadd ok dL_law_241 ?_
  obtain ⟨hz1, h⟩ := h
  refine j_scr ok hscr hz1 dL_law_242 ?_
  refine j_aload_n ok dL_law_243 rfl 0 rfl ?_
  refine j_iload ok dL_law_244 4 rfl ?_
  refine j_iconst (v := 2) ok dL_law_246 (by decide) ?_
  refine j_iadd ok dL_law_247 ?_
  obtain ⟨hz2, h⟩ := h
  refine j_scr ok hscr hz2 dL_law_248 ?_
  refine j_aload_n ok dL_law_249 rfl 0 rfl ?_
  refine j_iload ok dL_law_250 4 rfl ?_
  refine j_iconst (v := 3) ok dL_law_252 (by decide) ?_
  refine j_iadd ok dL_law_253 ?_
  obtain ⟨hz3, h⟩ := h
  refine j_scr ok hscr hz3 dL_law_254 ?_
  refine j_aload_n ok dL_law_255 rfl 0 rfl ?_
  refine j_iload ok dL_law_256 4 rfl ?_
  refine j_iconst (v := 4) ok dL_law_258 (by decide) ?_
  refine j_iadd ok dL_law_259 ?_
  obtain ⟨hz4, h⟩ := h
  refine j_scr ok hscr hz4 dL_law_260 ?_
  refine j_aload_n ok dL_law_261 rfl 0 rfl ?_
  refine j_iload ok dL_law_262 4 rfl ?_
  refine j_iconst (v := 5) ok dL_law_264 (by decide) ?_
  refine j_iadd ok dL_law_265 ?_
  obtain ⟨hz5, h⟩ := h
  refine j_scr ok hscr hz5 dL_law_266 ?_
  obtain ⟨kq6, q6, hq6, h⟩ := h
  refine k_V1 ok kl_L_111 ⟨Nat.le_of_ble_eq_true rfl, Nat.le_of_ble_eq_true rfl⟩ [.int (xs ((i + (1 : Int32))).toNatClampNeg), .int (xs ((i + (2 : Int32))).toNatClampNeg), .int (xs ((i + (3 : Int32))).toNatClampNeg), .int (xs ((i + (4 : Int32))).toNatClampNeg), .int (xs ((i + (5 : Int32))).toNatClampNeg)] kq6 rfl rfl (Nat.le_of_ble_eq_true rfl) (tX6_append ok.fl X.V x (xs ((i + (1 : Int32))).toNatClampNeg) (xs ((i + (2 : Int32))).toNatClampNeg) (xs ((i + (3 : Int32))).toNatClampNeg) (xs ((i + (4 : Int32))).toNatClampNeg) (xs ((i + (5 : Int32))).toNatClampNeg) G hq6) dL_law_267 ?_
  refine j_aload_n ok dL_law_270 rfl 2 rfl ?_
  refine j_aload_n ok dL_law_271 rfl 0 rfl ?_
  refine j_iload ok dL_law_272 4 rfl ?_
  refine j_iconst (v := 1) ok dL_law_274 (by decide) ?_
  refine j_iadd ok dL_law_275 ?_
  obtain ⟨hz7, h⟩ := h
  refine j_scr ok hscr hz7 dL_law_276 ?_
  refine j_aload_n ok dL_law_277 rfl 0 rfl ?_
  refine j_iload ok dL_law_278 4 rfl ?_
  refine j_iconst (v := 2) ok dL_law_280 (by decide) ?_
  refine j_iadd ok dL_law_281 ?_
  obtain ⟨hz8, h⟩ := h
  refine j_scr ok hscr hz8 dL_law_282 ?_
  refine j_aload_n ok dL_law_283 rfl 0 rfl ?_
  refine j_iload ok dL_law_284 4 rfl ?_
  refine j_iconst (v := 3) ok dL_law_286 (by decide) ?_
  refine j_iadd ok dL_law_287 ?_
  obtain ⟨hz9, h⟩ := h
  refine j_scr ok hscr hz9 dL_law_288 ?_
  refine j_aload_n ok dL_law_289 rfl 0 rfl ?_
  refine j_iload ok dL_law_290 4 rfl ?_
  refine j_iconst (v := 4) ok dL_law_292 (by decide) ?_
  refine j_iadd ok dL_law_293 ?_
  obtain ⟨hz10, h⟩ := h
  refine j_scr ok hscr hz10 dL_law_294 ?_
  refine j_aload_n ok dL_law_295 rfl 0 rfl ?_
  refine j_iload ok dL_law_296 4 rfl ?_
  refine j_iconst (v := 5) ok dL_law_298 (by decide) ?_
  refine j_iadd ok dL_law_299 ?_
  obtain ⟨hz11, h⟩ := h
  refine j_scr ok hscr hz11 dL_law_300 ?_
  obtain ⟨kq12, q12, hq12, h⟩ := h
  refine k_V1 ok kl_L_115 ⟨Nat.le_of_ble_eq_true rfl, Nat.le_of_ble_eq_true rfl⟩ [.int (xs ((i + (1 : Int32))).toNatClampNeg), .int (xs ((i + (2 : Int32))).toNatClampNeg), .int (xs ((i + (3 : Int32))).toNatClampNeg), .int (xs ((i + (4 : Int32))).toNatClampNeg), .int (xs ((i + (5 : Int32))).toNatClampNeg)] kq12 rfl rfl (Nat.le_of_ble_eq_true rfl) (tX7_append ok.fl X.V m (xs ((i + (1 : Int32))).toNatClampNeg) (xs ((i + (2 : Int32))).toNatClampNeg) (xs ((i + (3 : Int32))).toNatClampNeg) (xs ((i + (4 : Int32))).toNatClampNeg) (xs ((i + (5 : Int32))).toNatClampNeg) q6.2 hq12) dL_law_301 ?_
  by_cases c13 : q6.1 = q12.1
  · have h := h.1 c13
    refine j_icmp_eq (tgt := 2474) ok dL_law_304 (by decide) (fun _ => ?_) (fun z => absurd c13 z)
    exact J.sub [0, 1, 2, 3, 4] rfl (hK _ h)
  · have h := h.2 c13
    refine j_icmp_eq (tgt := 2474) ok dL_law_304 (by decide) (fun z => absurd z c13) (fun _ => ?_)
    refine j_iconst (v := 0) ok dL_law_307 (by decide) ?_
    exact h.elim

def wc_1 (xs : Nat → Int32) (n x m o : Nat) (i : Int32) (c1 c2 : Nat) (G : Mem) (K : Mem → Prop) : Prop :=
  inb (i + (1 : Int32)) n ∧ (
  wpL (fL_truncateInput x (xs ((i + (1 : Int32))).toNatClampNeg) o G) hsL_truncateInput c1 c2 (fun v2 G3 => (
  inb (i + (1 : Int32)) n ∧ (
  mt G3 m = 17 ∧ ∃ q6, fX7_truncateInput m (xs ((i + (1 : Int32))).toNatClampNeg) G3 = some q6 ∧ (
  mt q6.2 m = 17 ∧ ∃ q7, fX7_thrown m q6.2 = some q7 ∧ (
  (q7.1 = v2 → (
    (v2 = (0 : Int32) → (
      ∃ v10, gJ q7.2 o (0 : Int32) = some v10 ∧ (
      ((lg_cmp v10 q6.1.toInt64) = (0 : Int32) → (
        K q7.2)) ∧ (¬ (lg_cmp v10 q6.1.toInt64) = (0 : Int32) → (
        False))))) ∧ (¬ v2 = (0 : Int32) → (
      K q7.2)))) ∧ (¬ q7.1 = v2 → (
    False))))))))

set_option maxRecDepth 100000 in
set_option maxHeartbeats 4000000 in
theorem jc_1 {X : Cx} (ok : OK X cL_law RL (some .boolean) 9 LFR LLO) {b n x m o : Nat} {xs : Nat → Int32} {i : Int32} {c1 c2 : Nat} (hcc : X.V.cc = c1) (hcs : X.V.cs = c2) (hscr : SC X b n xs) (G : Mem) (K : Mem → Prop) (hK : ∀ G', K G' → J X 9 2474 [(0, .ref b), (1, .ref (X.B + x)), (2, .ref (X.B + m)), (3, .ref (X.B + o)), (4, .int i)] [] G') (h : wc_1 xs n x m o i c1 c2 G K) : J X 9 309 [(0, .ref b), (1, .ref (X.B + x)), (2, .ref (X.B + m)), (3, .ref (X.B + o)), (4, .int i)] [] G := by
  unfold wc_1 at h
  refine j_aload_n ok dL_law_309 rfl 1 rfl ?_
  refine j_aload_n ok dL_law_310 rfl 0 rfl ?_
  refine j_iload ok dL_law_311 4 rfl ?_
  refine j_iconst (v := 1) ok dL_law_313 (by decide) ?_
  refine j_iadd ok dL_law_314 ?_
  obtain ⟨hz1, h⟩ := h
  refine j_scr ok hscr hz1 dL_law_315 ?_
  refine j_aload_n ok dL_law_316 rfl 3 rfl ?_
  have hw4 := h
  obtain ⟨q0, hq0, -⟩ := h
  refine k_L ok kl_L_116 ⟨Nat.le_of_ble_eq_true rfl, Nat.le_of_ble_eq_true rfl⟩ [.ref (X.B + x), .int (xs ((i + (1 : Int32))).toNatClampNeg), .ref (X.B + o)] rfl rfl (Nat.le_of_ble_eq_true rfl) (tL_truncateInput ok.fl X.V x (xs ((i + (1 : Int32))).toNatClampNeg) o G (by rw [hq0]; rfl)) dL_law_317 (fun v2 G3 hP => ?_)
  rw [hcc, hcs] at hP
  have h := pl_wp hw4 hP
  clear hw4 hP hq0
  refine j_istore (L' := [(5, .int v2), (0, .ref b), (1, .ref (X.B + x)), (2, .ref (X.B + m)), (3, .ref (X.B + o)), (4, .int i)]) ok dL_law_320 (by decide) rfl ?_
  refine j_aload_n ok dL_law_322 rfl 3 rfl ?_
  refine j_aload_n ok dL_law_323 rfl 1 rfl ?_
  refine j_iload ok dL_law_324 5 rfl ?_
  refine j_iconst (v := 1) ok dL_law_326 (by decide) ?_
  refine j_iadd ok dL_law_327 ?_
  obtain ⟨hz5, h⟩ := h
  refine j_scr ok hscr hz5 dL_law_328 ?_
  obtain ⟨kq6, q6, hq6, h⟩ := h
  refine k_V1 ok kl_L_121 ⟨Nat.le_of_ble_eq_true rfl, Nat.le_of_ble_eq_true rfl⟩ [.int (xs ((i + (1 : Int32))).toNatClampNeg)] kq6 rfl rfl (Nat.le_of_ble_eq_true rfl) (tX7_truncateInput ok.fl X.V m (xs ((i + (1 : Int32))).toNatClampNeg) G3 hq6) dL_law_329 ?_
  refine j_istore (L' := [(6, .int q6.1), (5, .int v2), (0, .ref b), (1, .ref (X.B + x)), (2, .ref (X.B + m)), (3, .ref (X.B + o)), (4, .int i)]) ok dL_law_332 (by decide) rfl ?_
  refine j_aload_n ok dL_law_334 rfl 4 rfl ?_
  obtain ⟨kq7, q7, hq7, h⟩ := h
  refine k_V1 ok kl_L_122 ⟨Nat.le_of_ble_eq_true rfl, Nat.le_of_ble_eq_true rfl⟩ [] kq7 rfl rfl (Nat.le_of_ble_eq_true rfl) (tX7_thrown ok.fl X.V m q6.2 hq7) dL_law_335 ?_
  refine j_iload ok dL_law_338 1 rfl ?_
  by_cases c8 : q7.1 = v2
  · have h := h.1 c8
    refine j_icmp_eq (tgt := 345) ok dL_law_340 (by decide) (fun _ => ?_) (fun z => absurd c8 z)
    refine j_iload ok dL_law_345 1 rfl ?_
    by_cases c9 : v2 = (0 : Int32)
    · have h := h.1 c9
      refine j_if_ne (tgt := 362) ok dL_law_347 (by decide) (fun z => absurd c9 z) (fun _ => ?_)
      refine j_aload_n ok dL_law_350 rfl 5 rfl ?_
      refine j_iconst (v := 0) ok dL_law_351 (by decide) ?_
      obtain ⟨v10, hv10, h⟩ := h
      refine j_lald ok hv10 dL_law_352 ?_
      refine j_iload ok dL_law_353 0 rfl ?_
      refine j_i2l ok dL_law_355 ?_
      refine j_lcmp ok dL_law_356 ?_
      by_cases c11 : (lg_cmp v10 q6.1.toInt64) = (0 : Int32)
      · have h := h.1 c11
        refine j_if_eq (tgt := 362) ok dL_law_357 (by decide) (fun _ => ?_) (fun z => absurd c11 z)
        refine j_goto (tgt := 2474) ok dL_law_362 (by decide) ?_
        exact J.sub [2, 3, 4, 5, 6] rfl (hK _ h)
      · have h := h.2 c11
        refine j_if_eq (tgt := 362) ok dL_law_357 (by decide) (fun z => absurd z c11) (fun _ => ?_)
        refine j_iconst (v := 0) ok dL_law_360 (by decide) ?_
        exact h.elim
    · have h := h.2 c9
      refine j_if_ne (tgt := 362) ok dL_law_347 (by decide) (fun _ => ?_) (fun z => absurd z c9)
      refine j_goto (tgt := 2474) ok dL_law_362 (by decide) ?_
      exact J.sub [2, 3, 4, 5, 6] rfl (hK _ h)
  · have h := h.2 c8
    refine j_icmp_eq (tgt := 345) ok dL_law_340 (by decide) (fun z => absurd z c8) (fun _ => ?_)
    refine j_iconst (v := 0) ok dL_law_343 (by decide) ?_
    exact h.elim

def wc_2 (xs : Nat → Int32) (n x m o : Nat) (i : Int32) (c1 c2 : Nat) (G : Mem) (K : Mem → Prop) : Prop :=
  mt G x = 16 ∧ ∃ q1, fX6_load x G = some q1 ∧ (
  mt q1.2 m = 17 ∧ ∃ q2, fX7_load m q1.2 = some q2 ∧ (
  (q1.1 = q2.1 → (
    K q2.2)) ∧ (¬ q1.1 = q2.1 → (
    False))))

set_option maxRecDepth 100000 in
set_option maxHeartbeats 4000000 in
theorem jc_2 {X : Cx} (ok : OK X cL_law RL (some .boolean) 9 LFR LLO) {b n x m o : Nat} {xs : Nat → Int32} {i : Int32} {c1 c2 : Nat} (hcc : X.V.cc = c1) (hcs : X.V.cs = c2) (hscr : SC X b n xs) (G : Mem) (K : Mem → Prop) (hK : ∀ G', K G' → J X 9 2474 [(0, .ref b), (1, .ref (X.B + x)), (2, .ref (X.B + m)), (3, .ref (X.B + o)), (4, .int i)] [] G') (h : wc_2 xs n x m o i c1 c2 G K) : J X 9 365 [(0, .ref b), (1, .ref (X.B + x)), (2, .ref (X.B + m)), (3, .ref (X.B + o)), (4, .int i)] [] G := by
  unfold wc_2 at h
  refine j_aload_n ok dL_law_365 rfl 1 rfl ?_
  obtain ⟨kq1, q1, hq1, h⟩ := h
  refine k_V1 ok kl_L_125 ⟨Nat.le_of_ble_eq_true rfl, Nat.le_of_ble_eq_true rfl⟩ [] kq1 rfl rfl (Nat.le_of_ble_eq_true rfl) (tX6_load ok.fl X.V x G hq1) dL_law_366 ?_
  refine j_aload_n ok dL_law_369 rfl 2 rfl ?_
  obtain ⟨kq2, q2, hq2, h⟩ := h
  refine k_V1 ok kl_L_128 ⟨Nat.le_of_ble_eq_true rfl, Nat.le_of_ble_eq_true rfl⟩ [] kq2 rfl rfl (Nat.le_of_ble_eq_true rfl) (tX7_load ok.fl X.V m q1.2 hq2) dL_law_370 ?_
  by_cases c3 : q1.1 = q2.1
  · have h := h.1 c3
    refine j_icmp_eq (tgt := 2474) ok dL_law_373 (by decide) (fun _ => ?_) (fun z => absurd c3 z)
    exact J.sub [0, 1, 2, 3, 4] rfl (hK _ h)
  · have h := h.2 c3
    refine j_icmp_eq (tgt := 2474) ok dL_law_373 (by decide) (fun z => absurd z c3) (fun _ => ?_)
    refine j_iconst (v := 0) ok dL_law_376 (by decide) ?_
    exact h.elim

def wc_3 (xs : Nat → Int32) (n x m o : Nat) (i : Int32) (c1 c2 : Nat) (G : Mem) (K : Mem → Prop) : Prop :=
  mt G x = 16 ∧ ∃ q1, fX6_play x G = some q1 ∧ (
  mt q1.2 m = 17 ∧ ∃ q2, fX7_play m q1.2 = some q2 ∧ (
  (q1.1 = q2.1 → (
    K q2.2)) ∧ (¬ q1.1 = q2.1 → (
    False))))

set_option maxRecDepth 100000 in
set_option maxHeartbeats 4000000 in
theorem jc_3 {X : Cx} (ok : OK X cL_law RL (some .boolean) 9 LFR LLO) {b n x m o : Nat} {xs : Nat → Int32} {i : Int32} {c1 c2 : Nat} (hcc : X.V.cc = c1) (hcs : X.V.cs = c2) (hscr : SC X b n xs) (G : Mem) (K : Mem → Prop) (hK : ∀ G', K G' → J X 9 2474 [(0, .ref b), (1, .ref (X.B + x)), (2, .ref (X.B + m)), (3, .ref (X.B + o)), (4, .int i)] [] G') (h : wc_3 xs n x m o i c1 c2 G K) : J X 9 378 [(0, .ref b), (1, .ref (X.B + x)), (2, .ref (X.B + m)), (3, .ref (X.B + o)), (4, .int i)] [] G := by
  unfold wc_3 at h
  refine j_aload_n ok dL_law_378 rfl 1 rfl ?_
  obtain ⟨kq1, q1, hq1, h⟩ := h
  refine k_V1 ok kl_L_129 ⟨Nat.le_of_ble_eq_true rfl, Nat.le_of_ble_eq_true rfl⟩ [] kq1 rfl rfl (Nat.le_of_ble_eq_true rfl) (tX6_play ok.fl X.V x G hq1) dL_law_379 ?_
  refine j_aload_n ok dL_law_382 rfl 2 rfl ?_
  obtain ⟨kq2, q2, hq2, h⟩ := h
  refine k_V1 ok kl_L_132 ⟨Nat.le_of_ble_eq_true rfl, Nat.le_of_ble_eq_true rfl⟩ [] kq2 rfl rfl (Nat.le_of_ble_eq_true rfl) (tX7_play ok.fl X.V m q1.2 hq2) dL_law_383 ?_
  by_cases c3 : q1.1 = q2.1
  · have h := h.1 c3
    refine j_icmp_eq (tgt := 2474) ok dL_law_386 (by decide) (fun _ => ?_) (fun z => absurd c3 z)
    exact J.sub [0, 1, 2, 3, 4] rfl (hK _ h)
  · have h := h.2 c3
    refine j_icmp_eq (tgt := 2474) ok dL_law_386 (by decide) (fun z => absurd z c3) (fun _ => ?_)
    refine j_iconst (v := 0) ok dL_law_389 (by decide) ?_
    exact h.elim

def wc_4 (xs : Nat → Int32) (n x m o : Nat) (i : Int32) (c1 c2 : Nat) (G : Mem) (K : Mem → Prop) : Prop :=
  mt G x = 16 ∧ ∃ q1, fX6_errorCode x G = some q1 ∧ (
  mt q1.2 m = 17 ∧ ∃ q2, fX7_errorCode m q1.2 = some q2 ∧ (
  (q1.1 = q2.1 → (
    K q2.2)) ∧ (¬ q1.1 = q2.1 → (
    False))))

set_option maxRecDepth 100000 in
set_option maxHeartbeats 4000000 in
theorem jc_4 {X : Cx} (ok : OK X cL_law RL (some .boolean) 9 LFR LLO) {b n x m o : Nat} {xs : Nat → Int32} {i : Int32} {c1 c2 : Nat} (hcc : X.V.cc = c1) (hcs : X.V.cs = c2) (hscr : SC X b n xs) (G : Mem) (K : Mem → Prop) (hK : ∀ G', K G' → J X 9 2474 [(0, .ref b), (1, .ref (X.B + x)), (2, .ref (X.B + m)), (3, .ref (X.B + o)), (4, .int i)] [] G') (h : wc_4 xs n x m o i c1 c2 G K) : J X 9 391 [(0, .ref b), (1, .ref (X.B + x)), (2, .ref (X.B + m)), (3, .ref (X.B + o)), (4, .int i)] [] G := by
  unfold wc_4 at h
  refine j_aload_n ok dL_law_391 rfl 1 rfl ?_
  obtain ⟨kq1, q1, hq1, h⟩ := h
  refine k_V1 ok kl_L_133 ⟨Nat.le_of_ble_eq_true rfl, Nat.le_of_ble_eq_true rfl⟩ [] kq1 rfl rfl (Nat.le_of_ble_eq_true rfl) (tX6_errorCode ok.fl X.V x G hq1) dL_law_392 ?_
  refine j_aload_n ok dL_law_395 rfl 2 rfl ?_
  obtain ⟨kq2, q2, hq2, h⟩ := h
  refine k_V1 ok kl_L_136 ⟨Nat.le_of_ble_eq_true rfl, Nat.le_of_ble_eq_true rfl⟩ [] kq2 rfl rfl (Nat.le_of_ble_eq_true rfl) (tX7_errorCode ok.fl X.V m q1.2 hq2) dL_law_396 ?_
  by_cases c3 : q1.1 = q2.1
  · have h := h.1 c3
    refine j_icmp_eq (tgt := 2474) ok dL_law_399 (by decide) (fun _ => ?_) (fun z => absurd c3 z)
    exact J.sub [0, 1, 2, 3, 4] rfl (hK _ h)
  · have h := h.2 c3
    refine j_icmp_eq (tgt := 2474) ok dL_law_399 (by decide) (fun z => absurd z c3) (fun _ => ?_)
    refine j_iconst (v := 0) ok dL_law_402 (by decide) ?_
    exact h.elim

def wc_5 (xs : Nat → Int32) (n x m o : Nat) (i : Int32) (c1 c2 : Nat) (G : Mem) (K : Mem → Prop) : Prop :=
  mt G x = 16 ∧ ∃ q1, fX6_errorOffset x G = some q1 ∧ (
  mt q1.2 m = 17 ∧ ∃ q2, fX7_errorOffset m q1.2 = some q2 ∧ (
  (q1.1 = q2.1 → (
    K q2.2)) ∧ (¬ q1.1 = q2.1 → (
    False))))

set_option maxRecDepth 100000 in
set_option maxHeartbeats 4000000 in
theorem jc_5 {X : Cx} (ok : OK X cL_law RL (some .boolean) 9 LFR LLO) {b n x m o : Nat} {xs : Nat → Int32} {i : Int32} {c1 c2 : Nat} (hcc : X.V.cc = c1) (hcs : X.V.cs = c2) (hscr : SC X b n xs) (G : Mem) (K : Mem → Prop) (hK : ∀ G', K G' → J X 9 2474 [(0, .ref b), (1, .ref (X.B + x)), (2, .ref (X.B + m)), (3, .ref (X.B + o)), (4, .int i)] [] G') (h : wc_5 xs n x m o i c1 c2 G K) : J X 9 404 [(0, .ref b), (1, .ref (X.B + x)), (2, .ref (X.B + m)), (3, .ref (X.B + o)), (4, .int i)] [] G := by
  unfold wc_5 at h
  refine j_aload_n ok dL_law_404 rfl 1 rfl ?_
  obtain ⟨kq1, q1, hq1, h⟩ := h
  refine k_V1 ok kl_L_137 ⟨Nat.le_of_ble_eq_true rfl, Nat.le_of_ble_eq_true rfl⟩ [] kq1 rfl rfl (Nat.le_of_ble_eq_true rfl) (tX6_errorOffset ok.fl X.V x G hq1) dL_law_405 ?_
  refine j_aload_n ok dL_law_408 rfl 2 rfl ?_
  obtain ⟨kq2, q2, hq2, h⟩ := h
  refine k_V1 ok kl_L_140 ⟨Nat.le_of_ble_eq_true rfl, Nat.le_of_ble_eq_true rfl⟩ [] kq2 rfl rfl (Nat.le_of_ble_eq_true rfl) (tX7_errorOffset ok.fl X.V m q1.2 hq2) dL_law_409 ?_
  by_cases c3 : q1.1 = q2.1
  · have h := h.1 c3
    refine j_icmp_eq (tgt := 2474) ok dL_law_412 (by decide) (fun _ => ?_) (fun z => absurd c3 z)
    exact J.sub [0, 1, 2, 3, 4] rfl (hK _ h)
  · have h := h.2 c3
    refine j_icmp_eq (tgt := 2474) ok dL_law_412 (by decide) (fun z => absurd z c3) (fun _ => ?_)
    refine j_iconst (v := 0) ok dL_law_415 (by decide) ?_
    exact h.elim

def wc_6 (xs : Nat → Int32) (n x m o : Nat) (i : Int32) (c1 c2 : Nat) (G : Mem) (K : Mem → Prop) : Prop :=
  inb (i + (1 : Int32)) n ∧ (
  inb (i + (2 : Int32)) n ∧ (
  inb (i + (3 : Int32)) n ∧ (
  inb (i + (4 : Int32)) n ∧ (
  inb (i + (5 : Int32)) n ∧ (
  inb (i + (6 : Int32)) n ∧ (
  wpL (fL_addNote x (xs ((i + (1 : Int32))).toNatClampNeg) (xs ((i + (2 : Int32))).toNatClampNeg) (xs ((i + (3 : Int32))).toNatClampNeg) (xs ((i + (4 : Int32))).toNatClampNeg) (bz (xs ((i + (5 : Int32))).toNatClampNeg)) (bz (xs ((i + (6 : Int32))).toNatClampNeg)) o G) hsL_addNote c1 c2 (fun v7 G8 => (
  inb (i + (1 : Int32)) n ∧ (
  inb (i + (2 : Int32)) n ∧ (
  inb (i + (3 : Int32)) n ∧ (
  inb (i + (4 : Int32)) n ∧ (
  inb (i + (5 : Int32)) n ∧ (
  inb (i + (6 : Int32)) n ∧ (
  mt G8 m = 17 ∧ ∃ q16, fX7_addNote m (xs ((i + (1 : Int32))).toNatClampNeg) (xs ((i + (2 : Int32))).toNatClampNeg) (xs ((i + (3 : Int32))).toNatClampNeg) (xs ((i + (4 : Int32))).toNatClampNeg) (bz (xs ((i + (5 : Int32))).toNatClampNeg)) (bz (xs ((i + (6 : Int32))).toNatClampNeg)) G8 = some q16 ∧ (
  mt q16.2 m = 17 ∧ ∃ q17, fX7_thrown m q16.2 = some q17 ∧ (
  (q17.1 = v7 → (
    (v7 = (0 : Int32) → (
      ∃ v20, gJ q17.2 o (0 : Int32) = some v20 ∧ (
      ((lg_cmp v20 q16.1.toInt64) = (0 : Int32) → (
        K q17.2)) ∧ (¬ (lg_cmp v20 q16.1.toInt64) = (0 : Int32) → (
        False))))) ∧ (¬ v7 = (0 : Int32) → (
      K q17.2)))) ∧ (¬ q17.1 = v7 → (
    False))))))))))))))))))

set_option maxRecDepth 100000 in
set_option maxHeartbeats 4000000 in
theorem jc_6 {X : Cx} (ok : OK X cL_law RL (some .boolean) 9 LFR LLO) {b n x m o : Nat} {xs : Nat → Int32} {i : Int32} {c1 c2 : Nat} (hcc : X.V.cc = c1) (hcs : X.V.cs = c2) (hscr : SC X b n xs) (G : Mem) (K : Mem → Prop) (hK : ∀ G', K G' → J X 9 2474 [(0, .ref b), (1, .ref (X.B + x)), (2, .ref (X.B + m)), (3, .ref (X.B + o)), (4, .int i)] [] G') (h : wc_6 xs n x m o i c1 c2 G K) : J X 9 417 [(0, .ref b), (1, .ref (X.B + x)), (2, .ref (X.B + m)), (3, .ref (X.B + o)), (4, .int i)] [] G := by
  unfold wc_6 at h
  refine j_aload_n ok dL_law_417 rfl 1 rfl ?_
  refine j_aload_n ok dL_law_418 rfl 0 rfl ?_
  refine j_iload ok dL_law_419 4 rfl ?_
  refine j_iconst (v := 1) ok dL_law_421 (by decide) ?_
  refine j_iadd ok dL_law_422 ?_
  obtain ⟨hz1, h⟩ := h
  refine j_scr ok hscr hz1 dL_law_423 ?_
  refine j_aload_n ok dL_law_424 rfl 0 rfl ?_
  refine j_iload ok dL_law_425 4 rfl ?_
  refine j_iconst (v := 2) ok dL_law_427 (by decide) ?_
  refine j_iadd ok dL_law_428 ?_
  obtain ⟨hz2, h⟩ := h
  refine j_scr ok hscr hz2 dL_law_429 ?_
  refine j_aload_n ok dL_law_430 rfl 0 rfl ?_
  refine j_iload ok dL_law_431 4 rfl ?_
  refine j_iconst (v := 3) ok dL_law_433 (by decide) ?_
  refine j_iadd ok dL_law_434 ?_
  obtain ⟨hz3, h⟩ := h
  refine j_scr ok hscr hz3 dL_law_435 ?_
  refine j_aload_n ok dL_law_436 rfl 0 rfl ?_
  refine j_iload ok dL_law_437 4 rfl ?_
  refine j_iconst (v := 4) ok dL_law_439 (by decide) ?_
  refine j_iadd ok dL_law_440 ?_
  obtain ⟨hz4, h⟩ := h
  refine j_scr ok hscr hz4 dL_law_441 ?_
  refine j_aload_n ok dL_law_442 rfl 0 rfl ?_
  refine j_iload ok dL_law_443 4 rfl ?_
  refine j_iconst (v := 5) ok dL_law_445 (by decide) ?_
  refine j_iadd ok dL_law_446 ?_
  obtain ⟨hz5, h⟩ := h
  refine j_scr ok hscr hz5 dL_law_447 ?_
  refine j_nz ok dL_law_448 dL_law_451 dL_law_452 dL_law_455 ?_
  refine j_aload_n ok dL_law_456 rfl 0 rfl ?_
  refine j_iload ok dL_law_457 4 rfl ?_
  refine j_bipush (v := 6) ok dL_law_459 (by decide) ?_
  refine j_iadd ok dL_law_461 ?_
  obtain ⟨hz6, h⟩ := h
  refine j_scr ok hscr hz6 dL_law_462 ?_
  refine j_nz ok dL_law_463 dL_law_466 dL_law_467 dL_law_470 ?_
  refine j_aload_n ok dL_law_471 rfl 3 rfl ?_
  have hw9 := h
  obtain ⟨q0, hq0, -⟩ := h
  refine k_L ok kl_L_141 ⟨Nat.le_of_ble_eq_true rfl, Nat.le_of_ble_eq_true rfl⟩ [.ref (X.B + x), .int (xs ((i + (1 : Int32))).toNatClampNeg), .int (xs ((i + (2 : Int32))).toNatClampNeg), .int (xs ((i + (3 : Int32))).toNatClampNeg), .int (xs ((i + (4 : Int32))).toNatClampNeg), .int (bz (xs ((i + (5 : Int32))).toNatClampNeg)), .int (bz (xs ((i + (6 : Int32))).toNatClampNeg)), .ref (X.B + o)] rfl rfl (Nat.le_of_ble_eq_true rfl) (tL_addNote ok.fl X.V x (xs ((i + (1 : Int32))).toNatClampNeg) (xs ((i + (2 : Int32))).toNatClampNeg) (xs ((i + (3 : Int32))).toNatClampNeg) (xs ((i + (4 : Int32))).toNatClampNeg) (bz (xs ((i + (5 : Int32))).toNatClampNeg)) (bz (xs ((i + (6 : Int32))).toNatClampNeg)) o G (by rw [hq0]; rfl)) dL_law_472 (fun v7 G8 hP => ?_)
  rw [hcc, hcs] at hP
  have h := pl_wp hw9 hP
  clear hw9 hP hq0
  refine j_istore (L' := [(5, .int v7), (0, .ref b), (1, .ref (X.B + x)), (2, .ref (X.B + m)), (3, .ref (X.B + o)), (4, .int i)]) ok dL_law_475 (by decide) rfl ?_
  refine j_aload_n ok dL_law_477 rfl 3 rfl ?_
  refine j_aload_n ok dL_law_478 rfl 1 rfl ?_
  refine j_iload ok dL_law_479 5 rfl ?_
  refine j_iconst (v := 1) ok dL_law_481 (by decide) ?_
  refine j_iadd ok dL_law_482 ?_
  obtain ⟨hz10, h⟩ := h
  refine j_scr ok hscr hz10 dL_law_483 ?_
  refine j_aload_n ok dL_law_484 rfl 1 rfl ?_
  refine j_iload ok dL_law_485 5 rfl ?_
  refine j_iconst (v := 2) ok dL_law_487 (by decide) ?_
  refine j_iadd ok dL_law_488 ?_
  obtain ⟨hz11, h⟩ := h
  refine j_scr ok hscr hz11 dL_law_489 ?_
  refine j_aload_n ok dL_law_490 rfl 1 rfl ?_
  refine j_iload ok dL_law_491 5 rfl ?_
  refine j_iconst (v := 3) ok dL_law_493 (by decide) ?_
  refine j_iadd ok dL_law_494 ?_
  obtain ⟨hz12, h⟩ := h
  refine j_scr ok hscr hz12 dL_law_495 ?_
  refine j_aload_n ok dL_law_496 rfl 1 rfl ?_
  refine j_iload ok dL_law_497 5 rfl ?_
  refine j_iconst (v := 4) ok dL_law_499 (by decide) ?_
  refine j_iadd ok dL_law_500 ?_
  obtain ⟨hz13, h⟩ := h
  refine j_scr ok hscr hz13 dL_law_501 ?_
  refine j_aload_n ok dL_law_502 rfl 1 rfl ?_
  refine j_iload ok dL_law_503 5 rfl ?_
  refine j_iconst (v := 5) ok dL_law_505 (by decide) ?_
  refine j_iadd ok dL_law_506 ?_
  obtain ⟨hz14, h⟩ := h
  refine j_scr ok hscr hz14 dL_law_507 ?_
  refine j_nz ok dL_law_508 dL_law_511 dL_law_512 dL_law_515 ?_
  refine j_aload_n ok dL_law_516 rfl 1 rfl ?_
  refine j_iload ok dL_law_517 5 rfl ?_
  refine j_bipush (v := 6) ok dL_law_519 (by decide) ?_
  refine j_iadd ok dL_law_521 ?_
  obtain ⟨hz15, h⟩ := h
  refine j_scr ok hscr hz15 dL_law_522 ?_
  refine j_nz ok dL_law_523 dL_law_526 dL_law_527 dL_law_530 ?_
  obtain ⟨kq16, q16, hq16, h⟩ := h
  refine k_V1 ok kl_L_144 ⟨Nat.le_of_ble_eq_true rfl, Nat.le_of_ble_eq_true rfl⟩ [.int (xs ((i + (1 : Int32))).toNatClampNeg), .int (xs ((i + (2 : Int32))).toNatClampNeg), .int (xs ((i + (3 : Int32))).toNatClampNeg), .int (xs ((i + (4 : Int32))).toNatClampNeg), .int (bz (xs ((i + (5 : Int32))).toNatClampNeg)), .int (bz (xs ((i + (6 : Int32))).toNatClampNeg))] kq16 rfl rfl (Nat.le_of_ble_eq_true rfl) (tX7_addNote ok.fl X.V m (xs ((i + (1 : Int32))).toNatClampNeg) (xs ((i + (2 : Int32))).toNatClampNeg) (xs ((i + (3 : Int32))).toNatClampNeg) (xs ((i + (4 : Int32))).toNatClampNeg) (bz (xs ((i + (5 : Int32))).toNatClampNeg)) (bz (xs ((i + (6 : Int32))).toNatClampNeg)) G8 hq16) dL_law_531 ?_
  refine j_istore (L' := [(6, .int q16.1), (5, .int v7), (0, .ref b), (1, .ref (X.B + x)), (2, .ref (X.B + m)), (3, .ref (X.B + o)), (4, .int i)]) ok dL_law_534 (by decide) rfl ?_
  refine j_aload_n ok dL_law_536 rfl 4 rfl ?_
  obtain ⟨kq17, q17, hq17, h⟩ := h
  refine k_V1 ok kl_L_122 ⟨Nat.le_of_ble_eq_true rfl, Nat.le_of_ble_eq_true rfl⟩ [] kq17 rfl rfl (Nat.le_of_ble_eq_true rfl) (tX7_thrown ok.fl X.V m q16.2 hq17) dL_law_537 ?_
  refine j_iload ok dL_law_540 1 rfl ?_
  by_cases c18 : q17.1 = v7
  · have h := h.1 c18
    refine j_icmp_eq (tgt := 547) ok dL_law_542 (by decide) (fun _ => ?_) (fun z => absurd c18 z)
    refine j_iload ok dL_law_547 1 rfl ?_
    by_cases c19 : v7 = (0 : Int32)
    · have h := h.1 c19
      refine j_if_ne (tgt := 564) ok dL_law_549 (by decide) (fun z => absurd c19 z) (fun _ => ?_)
      refine j_aload_n ok dL_law_552 rfl 5 rfl ?_
      refine j_iconst (v := 0) ok dL_law_553 (by decide) ?_
      obtain ⟨v20, hv20, h⟩ := h
      refine j_lald ok hv20 dL_law_554 ?_
      refine j_iload ok dL_law_555 0 rfl ?_
      refine j_i2l ok dL_law_557 ?_
      refine j_lcmp ok dL_law_558 ?_
      by_cases c21 : (lg_cmp v20 q16.1.toInt64) = (0 : Int32)
      · have h := h.1 c21
        refine j_if_eq (tgt := 564) ok dL_law_559 (by decide) (fun _ => ?_) (fun z => absurd c21 z)
        refine j_goto (tgt := 2474) ok dL_law_564 (by decide) ?_
        exact J.sub [2, 3, 4, 5, 6] rfl (hK _ h)
      · have h := h.2 c21
        refine j_if_eq (tgt := 564) ok dL_law_559 (by decide) (fun z => absurd z c21) (fun _ => ?_)
        refine j_iconst (v := 0) ok dL_law_562 (by decide) ?_
        exact h.elim
    · have h := h.2 c19
      refine j_if_ne (tgt := 564) ok dL_law_549 (by decide) (fun _ => ?_) (fun z => absurd z c19)
      refine j_goto (tgt := 2474) ok dL_law_564 (by decide) ?_
      exact J.sub [2, 3, 4, 5, 6] rfl (hK _ h)
  · have h := h.2 c18
    refine j_icmp_eq (tgt := 547) ok dL_law_542 (by decide) (fun z => absurd z c18) (fun _ => ?_)
    refine j_iconst (v := 0) ok dL_law_545 (by decide) ?_
    exact h.elim

def wc_7 (xs : Nat → Int32) (n x m o : Nat) (i : Int32) (c1 c2 : Nat) (G : Mem) (K : Mem → Prop) : Prop :=
  inb (i + (1 : Int32)) n ∧ (
  inb (i + (2 : Int32)) n ∧ (
  inb (i + (3 : Int32)) n ∧ (
  wpL (fL_clarify x (xs ((i + (1 : Int32))).toNatClampNeg) (xs ((i + (2 : Int32))).toNatClampNeg) (xs ((i + (3 : Int32))).toNatClampNeg) o G) hsL_clarify c1 c2 (fun v4 G5 => (
  inb (i + (1 : Int32)) n ∧ (
  inb (i + (2 : Int32)) n ∧ (
  inb (i + (3 : Int32)) n ∧ (
  mt G5 m = 17 ∧ ∃ q10, fX7_clarify m (xs ((i + (1 : Int32))).toNatClampNeg) (xs ((i + (2 : Int32))).toNatClampNeg) (xs ((i + (3 : Int32))).toNatClampNeg) G5 = some q10 ∧ (
  mt q10.2 m = 17 ∧ ∃ q11, fX7_thrown m q10.2 = some q11 ∧ (
  (q11.1 = v4 → (
    (v4 = (0 : Int32) → (
      ∃ v14, gJ q11.2 o (0 : Int32) = some v14 ∧ (
      ((lg_cmp v14 q10.1.toInt64) = (0 : Int32) → (
        K q11.2)) ∧ (¬ (lg_cmp v14 q10.1.toInt64) = (0 : Int32) → (
        False))))) ∧ (¬ v4 = (0 : Int32) → (
      K q11.2)))) ∧ (¬ q11.1 = v4 → (
    False))))))))))))

set_option maxRecDepth 100000 in
set_option maxHeartbeats 4000000 in
theorem jc_7 {X : Cx} (ok : OK X cL_law RL (some .boolean) 9 LFR LLO) {b n x m o : Nat} {xs : Nat → Int32} {i : Int32} {c1 c2 : Nat} (hcc : X.V.cc = c1) (hcs : X.V.cs = c2) (hscr : SC X b n xs) (G : Mem) (K : Mem → Prop) (hK : ∀ G', K G' → J X 9 2474 [(0, .ref b), (1, .ref (X.B + x)), (2, .ref (X.B + m)), (3, .ref (X.B + o)), (4, .int i)] [] G') (h : wc_7 xs n x m o i c1 c2 G K) : J X 9 567 [(0, .ref b), (1, .ref (X.B + x)), (2, .ref (X.B + m)), (3, .ref (X.B + o)), (4, .int i)] [] G := by
  unfold wc_7 at h
  refine j_aload_n ok dL_law_567 rfl 1 rfl ?_
  refine j_aload_n ok dL_law_568 rfl 0 rfl ?_
  refine j_iload ok dL_law_569 4 rfl ?_
  refine j_iconst (v := 1) ok dL_law_571 (by decide) ?_
  refine j_iadd ok dL_law_572 ?_
  obtain ⟨hz1, h⟩ := h
  refine j_scr ok hscr hz1 dL_law_573 ?_
  refine j_aload_n ok dL_law_574 rfl 0 rfl ?_
  refine j_iload ok dL_law_575 4 rfl ?_
  refine j_iconst (v := 2) ok dL_law_577 (by decide) ?_
  refine j_iadd ok dL_law_578 ?_
  obtain ⟨hz2, h⟩ := h
  refine j_scr ok hscr hz2 dL_law_579 ?_
  refine j_aload_n ok dL_law_580 rfl 0 rfl ?_
  refine j_iload ok dL_law_581 4 rfl ?_
  refine j_iconst (v := 3) ok dL_law_583 (by decide) ?_
  refine j_iadd ok dL_law_584 ?_
  obtain ⟨hz3, h⟩ := h
  refine j_scr ok hscr hz3 dL_law_585 ?_
  refine j_aload_n ok dL_law_586 rfl 3 rfl ?_
  have hw6 := h
  obtain ⟨q0, hq0, -⟩ := h
  refine k_L ok kl_L_145 ⟨Nat.le_of_ble_eq_true rfl, Nat.le_of_ble_eq_true rfl⟩ [.ref (X.B + x), .int (xs ((i + (1 : Int32))).toNatClampNeg), .int (xs ((i + (2 : Int32))).toNatClampNeg), .int (xs ((i + (3 : Int32))).toNatClampNeg), .ref (X.B + o)] rfl rfl (Nat.le_of_ble_eq_true rfl) (tL_clarify ok.fl X.V x (xs ((i + (1 : Int32))).toNatClampNeg) (xs ((i + (2 : Int32))).toNatClampNeg) (xs ((i + (3 : Int32))).toNatClampNeg) o G (by rw [hq0]; rfl)) dL_law_587 (fun v4 G5 hP => ?_)
  rw [hcc, hcs] at hP
  have h := pl_wp hw6 hP
  clear hw6 hP hq0
  refine j_istore (L' := [(5, .int v4), (0, .ref b), (1, .ref (X.B + x)), (2, .ref (X.B + m)), (3, .ref (X.B + o)), (4, .int i)]) ok dL_law_590 (by decide) rfl ?_
  refine j_aload_n ok dL_law_592 rfl 3 rfl ?_
  refine j_aload_n ok dL_law_593 rfl 1 rfl ?_
  refine j_iload ok dL_law_594 5 rfl ?_
  refine j_iconst (v := 1) ok dL_law_596 (by decide) ?_
  refine j_iadd ok dL_law_597 ?_
  obtain ⟨hz7, h⟩ := h
  refine j_scr ok hscr hz7 dL_law_598 ?_
  refine j_aload_n ok dL_law_599 rfl 1 rfl ?_
  refine j_iload ok dL_law_600 5 rfl ?_
  refine j_iconst (v := 2) ok dL_law_602 (by decide) ?_
  refine j_iadd ok dL_law_603 ?_
  obtain ⟨hz8, h⟩ := h
  refine j_scr ok hscr hz8 dL_law_604 ?_
  refine j_aload_n ok dL_law_605 rfl 1 rfl ?_
  refine j_iload ok dL_law_606 5 rfl ?_
  refine j_iconst (v := 3) ok dL_law_608 (by decide) ?_
  refine j_iadd ok dL_law_609 ?_
  obtain ⟨hz9, h⟩ := h
  refine j_scr ok hscr hz9 dL_law_610 ?_
  obtain ⟨kq10, q10, hq10, h⟩ := h
  refine k_V1 ok kl_L_148 ⟨Nat.le_of_ble_eq_true rfl, Nat.le_of_ble_eq_true rfl⟩ [.int (xs ((i + (1 : Int32))).toNatClampNeg), .int (xs ((i + (2 : Int32))).toNatClampNeg), .int (xs ((i + (3 : Int32))).toNatClampNeg)] kq10 rfl rfl (Nat.le_of_ble_eq_true rfl) (tX7_clarify ok.fl X.V m (xs ((i + (1 : Int32))).toNatClampNeg) (xs ((i + (2 : Int32))).toNatClampNeg) (xs ((i + (3 : Int32))).toNatClampNeg) G5 hq10) dL_law_611 ?_
  refine j_istore (L' := [(6, .int q10.1), (5, .int v4), (0, .ref b), (1, .ref (X.B + x)), (2, .ref (X.B + m)), (3, .ref (X.B + o)), (4, .int i)]) ok dL_law_614 (by decide) rfl ?_
  refine j_aload_n ok dL_law_616 rfl 4 rfl ?_
  obtain ⟨kq11, q11, hq11, h⟩ := h
  refine k_V1 ok kl_L_122 ⟨Nat.le_of_ble_eq_true rfl, Nat.le_of_ble_eq_true rfl⟩ [] kq11 rfl rfl (Nat.le_of_ble_eq_true rfl) (tX7_thrown ok.fl X.V m q10.2 hq11) dL_law_617 ?_
  refine j_iload ok dL_law_620 1 rfl ?_
  by_cases c12 : q11.1 = v4
  · have h := h.1 c12
    refine j_icmp_eq (tgt := 627) ok dL_law_622 (by decide) (fun _ => ?_) (fun z => absurd c12 z)
    refine j_iload ok dL_law_627 1 rfl ?_
    by_cases c13 : v4 = (0 : Int32)
    · have h := h.1 c13
      refine j_if_ne (tgt := 644) ok dL_law_629 (by decide) (fun z => absurd c13 z) (fun _ => ?_)
      refine j_aload_n ok dL_law_632 rfl 5 rfl ?_
      refine j_iconst (v := 0) ok dL_law_633 (by decide) ?_
      obtain ⟨v14, hv14, h⟩ := h
      refine j_lald ok hv14 dL_law_634 ?_
      refine j_iload ok dL_law_635 0 rfl ?_
      refine j_i2l ok dL_law_637 ?_
      refine j_lcmp ok dL_law_638 ?_
      by_cases c15 : (lg_cmp v14 q10.1.toInt64) = (0 : Int32)
      · have h := h.1 c15
        refine j_if_eq (tgt := 644) ok dL_law_639 (by decide) (fun _ => ?_) (fun z => absurd c15 z)
        refine j_goto (tgt := 2474) ok dL_law_644 (by decide) ?_
        exact J.sub [2, 3, 4, 5, 6] rfl (hK _ h)
      · have h := h.2 c15
        refine j_if_eq (tgt := 644) ok dL_law_639 (by decide) (fun z => absurd z c15) (fun _ => ?_)
        refine j_iconst (v := 0) ok dL_law_642 (by decide) ?_
        exact h.elim
    · have h := h.2 c13
      refine j_if_ne (tgt := 644) ok dL_law_629 (by decide) (fun _ => ?_) (fun z => absurd z c13)
      refine j_goto (tgt := 2474) ok dL_law_644 (by decide) ?_
      exact J.sub [2, 3, 4, 5, 6] rfl (hK _ h)
  · have h := h.2 c12
    refine j_icmp_eq (tgt := 627) ok dL_law_622 (by decide) (fun z => absurd z c12) (fun _ => ?_)
    refine j_iconst (v := 0) ok dL_law_625 (by decide) ?_
    exact h.elim

def wc_8 (xs : Nat → Int32) (n x m o : Nat) (i : Int32) (c1 c2 : Nat) (G : Mem) (K : Mem → Prop) : Prop :=
  wpL (fL_dropNote x o G) hsL_dropNote c1 c2 (fun v1 G2 => (
  mt G2 m = 17 ∧ ∃ q4, fX7_dropNote m G2 = some q4 ∧ (
  mt q4.2 m = 17 ∧ ∃ q5, fX7_thrown m q4.2 = some q5 ∧ (
  (q5.1 = v1 → (
    (v1 = (0 : Int32) → (
      ∃ v8, gJ q5.2 o (0 : Int32) = some v8 ∧ (
      ((lg_cmp v8 q4.1.toInt64) = (0 : Int32) → (
        K q5.2)) ∧ (¬ (lg_cmp v8 q4.1.toInt64) = (0 : Int32) → (
        False))))) ∧ (¬ v1 = (0 : Int32) → (
      K q5.2)))) ∧ (¬ q5.1 = v1 → (
    False))))))

set_option maxRecDepth 100000 in
set_option maxHeartbeats 4000000 in
theorem jc_8 {X : Cx} (ok : OK X cL_law RL (some .boolean) 9 LFR LLO) {b n x m o : Nat} {xs : Nat → Int32} {i : Int32} {c1 c2 : Nat} (hcc : X.V.cc = c1) (hcs : X.V.cs = c2) (hscr : SC X b n xs) (G : Mem) (K : Mem → Prop) (hK : ∀ G', K G' → J X 9 2474 [(0, .ref b), (1, .ref (X.B + x)), (2, .ref (X.B + m)), (3, .ref (X.B + o)), (4, .int i)] [] G') (h : wc_8 xs n x m o i c1 c2 G K) : J X 9 647 [(0, .ref b), (1, .ref (X.B + x)), (2, .ref (X.B + m)), (3, .ref (X.B + o)), (4, .int i)] [] G := by
  unfold wc_8 at h
  refine j_aload_n ok dL_law_647 rfl 1 rfl ?_
  refine j_aload_n ok dL_law_648 rfl 3 rfl ?_
  have hw3 := h
  obtain ⟨q0, hq0, -⟩ := h
  refine k_L ok kl_L_149 ⟨Nat.le_of_ble_eq_true rfl, Nat.le_of_ble_eq_true rfl⟩ [.ref (X.B + x), .ref (X.B + o)] rfl rfl (Nat.le_of_ble_eq_true rfl) (tL_dropNote ok.fl X.V x o G (by rw [hq0]; rfl)) dL_law_649 (fun v1 G2 hP => ?_)
  rw [hcc, hcs] at hP
  have h := pl_wp hw3 hP
  clear hw3 hP hq0
  refine j_istore (L' := [(5, .int v1), (0, .ref b), (1, .ref (X.B + x)), (2, .ref (X.B + m)), (3, .ref (X.B + o)), (4, .int i)]) ok dL_law_652 (by decide) rfl ?_
  refine j_aload_n ok dL_law_654 rfl 3 rfl ?_
  obtain ⟨kq4, q4, hq4, h⟩ := h
  refine k_V1 ok kl_L_152 ⟨Nat.le_of_ble_eq_true rfl, Nat.le_of_ble_eq_true rfl⟩ [] kq4 rfl rfl (Nat.le_of_ble_eq_true rfl) (tX7_dropNote ok.fl X.V m G2 hq4) dL_law_655 ?_
  refine j_istore (L' := [(6, .int q4.1), (5, .int v1), (0, .ref b), (1, .ref (X.B + x)), (2, .ref (X.B + m)), (3, .ref (X.B + o)), (4, .int i)]) ok dL_law_658 (by decide) rfl ?_
  refine j_aload_n ok dL_law_660 rfl 4 rfl ?_
  obtain ⟨kq5, q5, hq5, h⟩ := h
  refine k_V1 ok kl_L_122 ⟨Nat.le_of_ble_eq_true rfl, Nat.le_of_ble_eq_true rfl⟩ [] kq5 rfl rfl (Nat.le_of_ble_eq_true rfl) (tX7_thrown ok.fl X.V m q4.2 hq5) dL_law_661 ?_
  refine j_iload ok dL_law_664 1 rfl ?_
  by_cases c6 : q5.1 = v1
  · have h := h.1 c6
    refine j_icmp_eq (tgt := 671) ok dL_law_666 (by decide) (fun _ => ?_) (fun z => absurd c6 z)
    refine j_iload ok dL_law_671 1 rfl ?_
    by_cases c7 : v1 = (0 : Int32)
    · have h := h.1 c7
      refine j_if_ne (tgt := 688) ok dL_law_673 (by decide) (fun z => absurd c7 z) (fun _ => ?_)
      refine j_aload_n ok dL_law_676 rfl 5 rfl ?_
      refine j_iconst (v := 0) ok dL_law_677 (by decide) ?_
      obtain ⟨v8, hv8, h⟩ := h
      refine j_lald ok hv8 dL_law_678 ?_
      refine j_iload ok dL_law_679 0 rfl ?_
      refine j_i2l ok dL_law_681 ?_
      refine j_lcmp ok dL_law_682 ?_
      by_cases c9 : (lg_cmp v8 q4.1.toInt64) = (0 : Int32)
      · have h := h.1 c9
        refine j_if_eq (tgt := 688) ok dL_law_683 (by decide) (fun _ => ?_) (fun z => absurd c9 z)
        refine j_goto (tgt := 2474) ok dL_law_688 (by decide) ?_
        exact J.sub [2, 3, 4, 5, 6] rfl (hK _ h)
      · have h := h.2 c9
        refine j_if_eq (tgt := 688) ok dL_law_683 (by decide) (fun z => absurd z c9) (fun _ => ?_)
        refine j_iconst (v := 0) ok dL_law_686 (by decide) ?_
        exact h.elim
    · have h := h.2 c7
      refine j_if_ne (tgt := 688) ok dL_law_673 (by decide) (fun _ => ?_) (fun z => absurd z c7)
      refine j_goto (tgt := 2474) ok dL_law_688 (by decide) ?_
      exact J.sub [2, 3, 4, 5, 6] rfl (hK _ h)
  · have h := h.2 c6
    refine j_icmp_eq (tgt := 671) ok dL_law_666 (by decide) (fun z => absurd z c6) (fun _ => ?_)
    refine j_iconst (v := 0) ok dL_law_669 (by decide) ?_
    exact h.elim

def wc_9 (xs : Nat → Int32) (n x m o : Nat) (i : Int32) (c1 c2 : Nat) (G : Mem) (K : Mem → Prop) : Prop :=
  wpL (fL_undo x o G) hsL_undo c1 c2 (fun v1 G2 => (
  mt G2 m = 17 ∧ ∃ q4, fX7_undo m G2 = some q4 ∧ (
  mt q4.2 m = 17 ∧ ∃ q5, fX7_thrown m q4.2 = some q5 ∧ (
  (q5.1 = v1 → (
    (v1 = (0 : Int32) → (
      ∃ v8, gJ q5.2 o (0 : Int32) = some v8 ∧ (
      ((lg_cmp v8 q4.1.toInt64) = (0 : Int32) → (
        K q5.2)) ∧ (¬ (lg_cmp v8 q4.1.toInt64) = (0 : Int32) → (
        False))))) ∧ (¬ v1 = (0 : Int32) → (
      K q5.2)))) ∧ (¬ q5.1 = v1 → (
    False))))))

set_option maxRecDepth 100000 in
set_option maxHeartbeats 4000000 in
theorem jc_9 {X : Cx} (ok : OK X cL_law RL (some .boolean) 9 LFR LLO) {b n x m o : Nat} {xs : Nat → Int32} {i : Int32} {c1 c2 : Nat} (hcc : X.V.cc = c1) (hcs : X.V.cs = c2) (hscr : SC X b n xs) (G : Mem) (K : Mem → Prop) (hK : ∀ G', K G' → J X 9 2474 [(0, .ref b), (1, .ref (X.B + x)), (2, .ref (X.B + m)), (3, .ref (X.B + o)), (4, .int i)] [] G') (h : wc_9 xs n x m o i c1 c2 G K) : J X 9 691 [(0, .ref b), (1, .ref (X.B + x)), (2, .ref (X.B + m)), (3, .ref (X.B + o)), (4, .int i)] [] G := by
  unfold wc_9 at h
  refine j_aload_n ok dL_law_691 rfl 1 rfl ?_
  refine j_aload_n ok dL_law_692 rfl 3 rfl ?_
  have hw3 := h
  obtain ⟨q0, hq0, -⟩ := h
  refine k_L ok kl_L_153 ⟨Nat.le_of_ble_eq_true rfl, Nat.le_of_ble_eq_true rfl⟩ [.ref (X.B + x), .ref (X.B + o)] rfl rfl (Nat.le_of_ble_eq_true rfl) (tL_undo ok.fl X.V x o G (by rw [hq0]; rfl)) dL_law_693 (fun v1 G2 hP => ?_)
  rw [hcc, hcs] at hP
  have h := pl_wp hw3 hP
  clear hw3 hP hq0
  refine j_istore (L' := [(5, .int v1), (0, .ref b), (1, .ref (X.B + x)), (2, .ref (X.B + m)), (3, .ref (X.B + o)), (4, .int i)]) ok dL_law_696 (by decide) rfl ?_
  refine j_aload_n ok dL_law_698 rfl 3 rfl ?_
  obtain ⟨kq4, q4, hq4, h⟩ := h
  refine k_V1 ok kl_L_155 ⟨Nat.le_of_ble_eq_true rfl, Nat.le_of_ble_eq_true rfl⟩ [] kq4 rfl rfl (Nat.le_of_ble_eq_true rfl) (tX7_undo ok.fl X.V m G2 hq4) dL_law_699 ?_
  refine j_istore (L' := [(6, .int q4.1), (5, .int v1), (0, .ref b), (1, .ref (X.B + x)), (2, .ref (X.B + m)), (3, .ref (X.B + o)), (4, .int i)]) ok dL_law_702 (by decide) rfl ?_
  refine j_aload_n ok dL_law_704 rfl 4 rfl ?_
  obtain ⟨kq5, q5, hq5, h⟩ := h
  refine k_V1 ok kl_L_122 ⟨Nat.le_of_ble_eq_true rfl, Nat.le_of_ble_eq_true rfl⟩ [] kq5 rfl rfl (Nat.le_of_ble_eq_true rfl) (tX7_thrown ok.fl X.V m q4.2 hq5) dL_law_705 ?_
  refine j_iload ok dL_law_708 1 rfl ?_
  by_cases c6 : q5.1 = v1
  · have h := h.1 c6
    refine j_icmp_eq (tgt := 715) ok dL_law_710 (by decide) (fun _ => ?_) (fun z => absurd c6 z)
    refine j_iload ok dL_law_715 1 rfl ?_
    by_cases c7 : v1 = (0 : Int32)
    · have h := h.1 c7
      refine j_if_ne (tgt := 732) ok dL_law_717 (by decide) (fun z => absurd c7 z) (fun _ => ?_)
      refine j_aload_n ok dL_law_720 rfl 5 rfl ?_
      refine j_iconst (v := 0) ok dL_law_721 (by decide) ?_
      obtain ⟨v8, hv8, h⟩ := h
      refine j_lald ok hv8 dL_law_722 ?_
      refine j_iload ok dL_law_723 0 rfl ?_
      refine j_i2l ok dL_law_725 ?_
      refine j_lcmp ok dL_law_726 ?_
      by_cases c9 : (lg_cmp v8 q4.1.toInt64) = (0 : Int32)
      · have h := h.1 c9
        refine j_if_eq (tgt := 732) ok dL_law_727 (by decide) (fun _ => ?_) (fun z => absurd c9 z)
        refine j_goto (tgt := 2474) ok dL_law_732 (by decide) ?_
        exact J.sub [2, 3, 4, 5, 6] rfl (hK _ h)
      · have h := h.2 c9
        refine j_if_eq (tgt := 732) ok dL_law_727 (by decide) (fun z => absurd z c9) (fun _ => ?_)
        refine j_iconst (v := 0) ok dL_law_730 (by decide) ?_
        exact h.elim
    · have h := h.2 c7
      refine j_if_ne (tgt := 732) ok dL_law_717 (by decide) (fun _ => ?_) (fun z => absurd z c7)
      refine j_goto (tgt := 2474) ok dL_law_732 (by decide) ?_
      exact J.sub [2, 3, 4, 5, 6] rfl (hK _ h)
  · have h := h.2 c6
    refine j_icmp_eq (tgt := 715) ok dL_law_710 (by decide) (fun z => absurd z c6) (fun _ => ?_)
    refine j_iconst (v := 0) ok dL_law_713 (by decide) ?_
    exact h.elim

def wc_10 (xs : Nat → Int32) (n x m o : Nat) (i : Int32) (c1 c2 : Nat) (G : Mem) (K : Mem → Prop) : Prop :=
  inb (i + (1 : Int32)) n ∧ (
  wpL (fL_save x (xs ((i + (1 : Int32))).toNatClampNeg) o G) hsL_save c1 c2 (fun v2 G3 => (
  inb (i + (1 : Int32)) n ∧ (
  mt G3 m = 17 ∧ ∃ q6, fX7_save m (xs ((i + (1 : Int32))).toNatClampNeg) G3 = some q6 ∧ (
  mt q6.2 m = 17 ∧ ∃ q7, fX7_thrown m q6.2 = some q7 ∧ (
  (q7.1 = v2 → (
    (v2 = (0 : Int32) → (
      ∃ v10, gJ q7.2 o (0 : Int32) = some v10 ∧ (
      ((lg_cmp v10 q6.1.toInt64) = (0 : Int32) → (
        K q7.2)) ∧ (¬ (lg_cmp v10 q6.1.toInt64) = (0 : Int32) → (
        False))))) ∧ (¬ v2 = (0 : Int32) → (
      K q7.2)))) ∧ (¬ q7.1 = v2 → (
    False))))))))

set_option maxRecDepth 100000 in
set_option maxHeartbeats 4000000 in
theorem jc_10 {X : Cx} (ok : OK X cL_law RL (some .boolean) 9 LFR LLO) {b n x m o : Nat} {xs : Nat → Int32} {i : Int32} {c1 c2 : Nat} (hcc : X.V.cc = c1) (hcs : X.V.cs = c2) (hscr : SC X b n xs) (G : Mem) (K : Mem → Prop) (hK : ∀ G', K G' → J X 9 2474 [(0, .ref b), (1, .ref (X.B + x)), (2, .ref (X.B + m)), (3, .ref (X.B + o)), (4, .int i)] [] G') (h : wc_10 xs n x m o i c1 c2 G K) : J X 9 735 [(0, .ref b), (1, .ref (X.B + x)), (2, .ref (X.B + m)), (3, .ref (X.B + o)), (4, .int i)] [] G := by
  unfold wc_10 at h
  refine j_aload_n ok dL_law_735 rfl 1 rfl ?_
  refine j_aload_n ok dL_law_736 rfl 0 rfl ?_
  refine j_iload ok dL_law_737 4 rfl ?_
  refine j_iconst (v := 1) ok dL_law_739 (by decide) ?_
  refine j_iadd ok dL_law_740 ?_
  obtain ⟨hz1, h⟩ := h
  refine j_scr ok hscr hz1 dL_law_741 ?_
  refine j_aload_n ok dL_law_742 rfl 3 rfl ?_
  have hw4 := h
  obtain ⟨q0, hq0, -⟩ := h
  refine k_L ok kl_L_156 ⟨Nat.le_of_ble_eq_true rfl, Nat.le_of_ble_eq_true rfl⟩ [.ref (X.B + x), .int (xs ((i + (1 : Int32))).toNatClampNeg), .ref (X.B + o)] rfl rfl (Nat.le_of_ble_eq_true rfl) (tL_save ok.fl X.V x (xs ((i + (1 : Int32))).toNatClampNeg) o G (by rw [hq0]; rfl)) dL_law_743 (fun v2 G3 hP => ?_)
  rw [hcc, hcs] at hP
  have h := pl_wp hw4 hP
  clear hw4 hP hq0
  refine j_istore (L' := [(5, .int v2), (0, .ref b), (1, .ref (X.B + x)), (2, .ref (X.B + m)), (3, .ref (X.B + o)), (4, .int i)]) ok dL_law_746 (by decide) rfl ?_
  refine j_aload_n ok dL_law_748 rfl 3 rfl ?_
  refine j_aload_n ok dL_law_749 rfl 1 rfl ?_
  refine j_iload ok dL_law_750 5 rfl ?_
  refine j_iconst (v := 1) ok dL_law_752 (by decide) ?_
  refine j_iadd ok dL_law_753 ?_
  obtain ⟨hz5, h⟩ := h
  refine j_scr ok hscr hz5 dL_law_754 ?_
  obtain ⟨kq6, q6, hq6, h⟩ := h
  refine k_V1 ok kl_L_158 ⟨Nat.le_of_ble_eq_true rfl, Nat.le_of_ble_eq_true rfl⟩ [.int (xs ((i + (1 : Int32))).toNatClampNeg)] kq6 rfl rfl (Nat.le_of_ble_eq_true rfl) (tX7_save ok.fl X.V m (xs ((i + (1 : Int32))).toNatClampNeg) G3 hq6) dL_law_755 ?_
  refine j_istore (L' := [(6, .int q6.1), (5, .int v2), (0, .ref b), (1, .ref (X.B + x)), (2, .ref (X.B + m)), (3, .ref (X.B + o)), (4, .int i)]) ok dL_law_758 (by decide) rfl ?_
  refine j_aload_n ok dL_law_760 rfl 4 rfl ?_
  obtain ⟨kq7, q7, hq7, h⟩ := h
  refine k_V1 ok kl_L_122 ⟨Nat.le_of_ble_eq_true rfl, Nat.le_of_ble_eq_true rfl⟩ [] kq7 rfl rfl (Nat.le_of_ble_eq_true rfl) (tX7_thrown ok.fl X.V m q6.2 hq7) dL_law_761 ?_
  refine j_iload ok dL_law_764 1 rfl ?_
  by_cases c8 : q7.1 = v2
  · have h := h.1 c8
    refine j_icmp_eq (tgt := 771) ok dL_law_766 (by decide) (fun _ => ?_) (fun z => absurd c8 z)
    refine j_iload ok dL_law_771 1 rfl ?_
    by_cases c9 : v2 = (0 : Int32)
    · have h := h.1 c9
      refine j_if_ne (tgt := 788) ok dL_law_773 (by decide) (fun z => absurd c9 z) (fun _ => ?_)
      refine j_aload_n ok dL_law_776 rfl 5 rfl ?_
      refine j_iconst (v := 0) ok dL_law_777 (by decide) ?_
      obtain ⟨v10, hv10, h⟩ := h
      refine j_lald ok hv10 dL_law_778 ?_
      refine j_iload ok dL_law_779 0 rfl ?_
      refine j_i2l ok dL_law_781 ?_
      refine j_lcmp ok dL_law_782 ?_
      by_cases c11 : (lg_cmp v10 q6.1.toInt64) = (0 : Int32)
      · have h := h.1 c11
        refine j_if_eq (tgt := 788) ok dL_law_783 (by decide) (fun _ => ?_) (fun z => absurd c11 z)
        refine j_goto (tgt := 2474) ok dL_law_788 (by decide) ?_
        exact J.sub [2, 3, 4, 5, 6] rfl (hK _ h)
      · have h := h.2 c11
        refine j_if_eq (tgt := 788) ok dL_law_783 (by decide) (fun z => absurd z c11) (fun _ => ?_)
        refine j_iconst (v := 0) ok dL_law_786 (by decide) ?_
        exact h.elim
    · have h := h.2 c9
      refine j_if_ne (tgt := 788) ok dL_law_773 (by decide) (fun _ => ?_) (fun z => absurd z c9)
      refine j_goto (tgt := 2474) ok dL_law_788 (by decide) ?_
      exact J.sub [2, 3, 4, 5, 6] rfl (hK _ h)
  · have h := h.2 c8
    refine j_icmp_eq (tgt := 771) ok dL_law_766 (by decide) (fun z => absurd z c8) (fun _ => ?_)
    refine j_iconst (v := 0) ok dL_law_769 (by decide) ?_
    exact h.elim

def wc_11 (xs : Nat → Int32) (n x m o : Nat) (i : Int32) (c1 c2 : Nat) (G : Mem) (K : Mem → Prop) : Prop :=
  inb (i + (1 : Int32)) n ∧ (
  wpL (fL_restore x (xs ((i + (1 : Int32))).toNatClampNeg) o G) hsL_restore c1 c2 (fun v2 G3 => (
  inb (i + (1 : Int32)) n ∧ (
  mt G3 m = 17 ∧ ∃ q6, fX7_restore m (xs ((i + (1 : Int32))).toNatClampNeg) G3 = some q6 ∧ (
  mt q6.2 m = 17 ∧ ∃ q7, fX7_thrown m q6.2 = some q7 ∧ (
  (q7.1 = v2 → (
    (v2 = (0 : Int32) → (
      ∃ v10, gJ q7.2 o (0 : Int32) = some v10 ∧ (
      ((lg_cmp v10 q6.1.toInt64) = (0 : Int32) → (
        K q7.2)) ∧ (¬ (lg_cmp v10 q6.1.toInt64) = (0 : Int32) → (
        False))))) ∧ (¬ v2 = (0 : Int32) → (
      K q7.2)))) ∧ (¬ q7.1 = v2 → (
    False))))))))

set_option maxRecDepth 100000 in
set_option maxHeartbeats 4000000 in
theorem jc_11 {X : Cx} (ok : OK X cL_law RL (some .boolean) 9 LFR LLO) {b n x m o : Nat} {xs : Nat → Int32} {i : Int32} {c1 c2 : Nat} (hcc : X.V.cc = c1) (hcs : X.V.cs = c2) (hscr : SC X b n xs) (G : Mem) (K : Mem → Prop) (hK : ∀ G', K G' → J X 9 2474 [(0, .ref b), (1, .ref (X.B + x)), (2, .ref (X.B + m)), (3, .ref (X.B + o)), (4, .int i)] [] G') (h : wc_11 xs n x m o i c1 c2 G K) : J X 9 791 [(0, .ref b), (1, .ref (X.B + x)), (2, .ref (X.B + m)), (3, .ref (X.B + o)), (4, .int i)] [] G := by
  unfold wc_11 at h
  refine j_aload_n ok dL_law_791 rfl 1 rfl ?_
  refine j_aload_n ok dL_law_792 rfl 0 rfl ?_
  refine j_iload ok dL_law_793 4 rfl ?_
  refine j_iconst (v := 1) ok dL_law_795 (by decide) ?_
  refine j_iadd ok dL_law_796 ?_
  obtain ⟨hz1, h⟩ := h
  refine j_scr ok hscr hz1 dL_law_797 ?_
  refine j_aload_n ok dL_law_798 rfl 3 rfl ?_
  have hw4 := h
  obtain ⟨q0, hq0, -⟩ := h
  refine k_L ok kl_L_159 ⟨Nat.le_of_ble_eq_true rfl, Nat.le_of_ble_eq_true rfl⟩ [.ref (X.B + x), .int (xs ((i + (1 : Int32))).toNatClampNeg), .ref (X.B + o)] rfl rfl (Nat.le_of_ble_eq_true rfl) (tL_restore ok.fl X.V x (xs ((i + (1 : Int32))).toNatClampNeg) o G (by rw [hq0]; rfl)) dL_law_799 (fun v2 G3 hP => ?_)
  rw [hcc, hcs] at hP
  have h := pl_wp hw4 hP
  clear hw4 hP hq0
  refine j_istore (L' := [(5, .int v2), (0, .ref b), (1, .ref (X.B + x)), (2, .ref (X.B + m)), (3, .ref (X.B + o)), (4, .int i)]) ok dL_law_802 (by decide) rfl ?_
  refine j_aload_n ok dL_law_804 rfl 3 rfl ?_
  refine j_aload_n ok dL_law_805 rfl 1 rfl ?_
  refine j_iload ok dL_law_806 5 rfl ?_
  refine j_iconst (v := 1) ok dL_law_808 (by decide) ?_
  refine j_iadd ok dL_law_809 ?_
  obtain ⟨hz5, h⟩ := h
  refine j_scr ok hscr hz5 dL_law_810 ?_
  obtain ⟨kq6, q6, hq6, h⟩ := h
  refine k_V1 ok kl_L_161 ⟨Nat.le_of_ble_eq_true rfl, Nat.le_of_ble_eq_true rfl⟩ [.int (xs ((i + (1 : Int32))).toNatClampNeg)] kq6 rfl rfl (Nat.le_of_ble_eq_true rfl) (tX7_restore ok.fl X.V m (xs ((i + (1 : Int32))).toNatClampNeg) G3 hq6) dL_law_811 ?_
  refine j_istore (L' := [(6, .int q6.1), (5, .int v2), (0, .ref b), (1, .ref (X.B + x)), (2, .ref (X.B + m)), (3, .ref (X.B + o)), (4, .int i)]) ok dL_law_814 (by decide) rfl ?_
  refine j_aload_n ok dL_law_816 rfl 4 rfl ?_
  obtain ⟨kq7, q7, hq7, h⟩ := h
  refine k_V1 ok kl_L_122 ⟨Nat.le_of_ble_eq_true rfl, Nat.le_of_ble_eq_true rfl⟩ [] kq7 rfl rfl (Nat.le_of_ble_eq_true rfl) (tX7_thrown ok.fl X.V m q6.2 hq7) dL_law_817 ?_
  refine j_iload ok dL_law_820 1 rfl ?_
  by_cases c8 : q7.1 = v2
  · have h := h.1 c8
    refine j_icmp_eq (tgt := 827) ok dL_law_822 (by decide) (fun _ => ?_) (fun z => absurd c8 z)
    refine j_iload ok dL_law_827 1 rfl ?_
    by_cases c9 : v2 = (0 : Int32)
    · have h := h.1 c9
      refine j_if_ne (tgt := 844) ok dL_law_829 (by decide) (fun z => absurd c9 z) (fun _ => ?_)
      refine j_aload_n ok dL_law_832 rfl 5 rfl ?_
      refine j_iconst (v := 0) ok dL_law_833 (by decide) ?_
      obtain ⟨v10, hv10, h⟩ := h
      refine j_lald ok hv10 dL_law_834 ?_
      refine j_iload ok dL_law_835 0 rfl ?_
      refine j_i2l ok dL_law_837 ?_
      refine j_lcmp ok dL_law_838 ?_
      by_cases c11 : (lg_cmp v10 q6.1.toInt64) = (0 : Int32)
      · have h := h.1 c11
        refine j_if_eq (tgt := 844) ok dL_law_839 (by decide) (fun _ => ?_) (fun z => absurd c11 z)
        refine j_goto (tgt := 2474) ok dL_law_844 (by decide) ?_
        exact J.sub [2, 3, 4, 5, 6] rfl (hK _ h)
      · have h := h.2 c11
        refine j_if_eq (tgt := 844) ok dL_law_839 (by decide) (fun z => absurd z c11) (fun _ => ?_)
        refine j_iconst (v := 0) ok dL_law_842 (by decide) ?_
        exact h.elim
    · have h := h.2 c9
      refine j_if_ne (tgt := 844) ok dL_law_829 (by decide) (fun _ => ?_) (fun z => absurd z c9)
      refine j_goto (tgt := 2474) ok dL_law_844 (by decide) ?_
      exact J.sub [2, 3, 4, 5, 6] rfl (hK _ h)
  · have h := h.2 c8
    refine j_icmp_eq (tgt := 827) ok dL_law_822 (by decide) (fun z => absurd z c8) (fun _ => ?_)
    refine j_iconst (v := 0) ok dL_law_825 (by decide) ?_
    exact h.elim

def wc_12 (xs : Nat → Int32) (n x m o : Nat) (i : Int32) (c1 c2 : Nat) (G : Mem) (K : Mem → Prop) : Prop :=
  mt G x = 16 ∧ ∃ q1, fX6_columns x G = some q1 ∧ (
  mt q1.2 m = 17 ∧ ∃ q2, fX7_columns m q1.2 = some q2 ∧ (
  (q1.1 = q2.1 → (
    K q2.2)) ∧ (¬ q1.1 = q2.1 → (
    False))))

set_option maxRecDepth 100000 in
set_option maxHeartbeats 4000000 in
theorem jc_12 {X : Cx} (ok : OK X cL_law RL (some .boolean) 9 LFR LLO) {b n x m o : Nat} {xs : Nat → Int32} {i : Int32} {c1 c2 : Nat} (hcc : X.V.cc = c1) (hcs : X.V.cs = c2) (hscr : SC X b n xs) (G : Mem) (K : Mem → Prop) (hK : ∀ G', K G' → J X 9 2474 [(0, .ref b), (1, .ref (X.B + x)), (2, .ref (X.B + m)), (3, .ref (X.B + o)), (4, .int i)] [] G') (h : wc_12 xs n x m o i c1 c2 G K) : J X 9 847 [(0, .ref b), (1, .ref (X.B + x)), (2, .ref (X.B + m)), (3, .ref (X.B + o)), (4, .int i)] [] G := by
  unfold wc_12 at h
  refine j_aload_n ok dL_law_847 rfl 1 rfl ?_
  obtain ⟨kq1, q1, hq1, h⟩ := h
  refine k_V1 ok kl_L_162 ⟨Nat.le_of_ble_eq_true rfl, Nat.le_of_ble_eq_true rfl⟩ [] kq1 rfl rfl (Nat.le_of_ble_eq_true rfl) (tX6_columns ok.fl X.V x G hq1) dL_law_848 ?_
  refine j_aload_n ok dL_law_851 rfl 2 rfl ?_
  obtain ⟨kq2, q2, hq2, h⟩ := h
  refine k_V1 ok kl_L_165 ⟨Nat.le_of_ble_eq_true rfl, Nat.le_of_ble_eq_true rfl⟩ [] kq2 rfl rfl (Nat.le_of_ble_eq_true rfl) (tX7_columns ok.fl X.V m q1.2 hq2) dL_law_852 ?_
  by_cases c3 : q1.1 = q2.1
  · have h := h.1 c3
    refine j_icmp_eq (tgt := 2474) ok dL_law_855 (by decide) (fun _ => ?_) (fun z => absurd c3 z)
    exact J.sub [0, 1, 2, 3, 4] rfl (hK _ h)
  · have h := h.2 c3
    refine j_icmp_eq (tgt := 2474) ok dL_law_855 (by decide) (fun z => absurd z c3) (fun _ => ?_)
    refine j_iconst (v := 0) ok dL_law_858 (by decide) ?_
    exact h.elim

def wc_13 (xs : Nat → Int32) (n x m o : Nat) (i : Int32) (c1 c2 : Nat) (G : Mem) (K : Mem → Prop) : Prop :=
  mt G x = 16 ∧ ∃ q1, fX6_rows x G = some q1 ∧ (
  mt q1.2 m = 17 ∧ ∃ q2, fX7_rows m q1.2 = some q2 ∧ (
  (q1.1 = q2.1 → (
    K q2.2)) ∧ (¬ q1.1 = q2.1 → (
    False))))

set_option maxRecDepth 100000 in
set_option maxHeartbeats 4000000 in
theorem jc_13 {X : Cx} (ok : OK X cL_law RL (some .boolean) 9 LFR LLO) {b n x m o : Nat} {xs : Nat → Int32} {i : Int32} {c1 c2 : Nat} (hcc : X.V.cc = c1) (hcs : X.V.cs = c2) (hscr : SC X b n xs) (G : Mem) (K : Mem → Prop) (hK : ∀ G', K G' → J X 9 2474 [(0, .ref b), (1, .ref (X.B + x)), (2, .ref (X.B + m)), (3, .ref (X.B + o)), (4, .int i)] [] G') (h : wc_13 xs n x m o i c1 c2 G K) : J X 9 860 [(0, .ref b), (1, .ref (X.B + x)), (2, .ref (X.B + m)), (3, .ref (X.B + o)), (4, .int i)] [] G := by
  unfold wc_13 at h
  refine j_aload_n ok dL_law_860 rfl 1 rfl ?_
  obtain ⟨kq1, q1, hq1, h⟩ := h
  refine k_V1 ok kl_L_166 ⟨Nat.le_of_ble_eq_true rfl, Nat.le_of_ble_eq_true rfl⟩ [] kq1 rfl rfl (Nat.le_of_ble_eq_true rfl) (tX6_rows ok.fl X.V x G hq1) dL_law_861 ?_
  refine j_aload_n ok dL_law_864 rfl 2 rfl ?_
  obtain ⟨kq2, q2, hq2, h⟩ := h
  refine k_V1 ok kl_L_169 ⟨Nat.le_of_ble_eq_true rfl, Nat.le_of_ble_eq_true rfl⟩ [] kq2 rfl rfl (Nat.le_of_ble_eq_true rfl) (tX7_rows ok.fl X.V m q1.2 hq2) dL_law_865 ?_
  by_cases c3 : q1.1 = q2.1
  · have h := h.1 c3
    refine j_icmp_eq (tgt := 2474) ok dL_law_868 (by decide) (fun _ => ?_) (fun z => absurd c3 z)
    exact J.sub [0, 1, 2, 3, 4] rfl (hK _ h)
  · have h := h.2 c3
    refine j_icmp_eq (tgt := 2474) ok dL_law_868 (by decide) (fun z => absurd z c3) (fun _ => ?_)
    refine j_iconst (v := 0) ok dL_law_871 (by decide) ?_
    exact h.elim

def wc_14 (xs : Nat → Int32) (n x m o : Nat) (i : Int32) (c1 c2 : Nat) (G : Mem) (K : Mem → Prop) : Prop :=
  mt G x = 16 ∧ ∃ q1, fX6_noteCount x G = some q1 ∧ (
  mt q1.2 m = 17 ∧ ∃ q2, fX7_noteCount m q1.2 = some q2 ∧ (
  (q1.1 = q2.1 → (
    K q2.2)) ∧ (¬ q1.1 = q2.1 → (
    False))))

set_option maxRecDepth 100000 in
set_option maxHeartbeats 4000000 in
theorem jc_14 {X : Cx} (ok : OK X cL_law RL (some .boolean) 9 LFR LLO) {b n x m o : Nat} {xs : Nat → Int32} {i : Int32} {c1 c2 : Nat} (hcc : X.V.cc = c1) (hcs : X.V.cs = c2) (hscr : SC X b n xs) (G : Mem) (K : Mem → Prop) (hK : ∀ G', K G' → J X 9 2474 [(0, .ref b), (1, .ref (X.B + x)), (2, .ref (X.B + m)), (3, .ref (X.B + o)), (4, .int i)] [] G') (h : wc_14 xs n x m o i c1 c2 G K) : J X 9 873 [(0, .ref b), (1, .ref (X.B + x)), (2, .ref (X.B + m)), (3, .ref (X.B + o)), (4, .int i)] [] G := by
  unfold wc_14 at h
  refine j_aload_n ok dL_law_873 rfl 1 rfl ?_
  obtain ⟨kq1, q1, hq1, h⟩ := h
  refine k_V1 ok kl_L_170 ⟨Nat.le_of_ble_eq_true rfl, Nat.le_of_ble_eq_true rfl⟩ [] kq1 rfl rfl (Nat.le_of_ble_eq_true rfl) (tX6_noteCount ok.fl X.V x G hq1) dL_law_874 ?_
  refine j_aload_n ok dL_law_877 rfl 2 rfl ?_
  obtain ⟨kq2, q2, hq2, h⟩ := h
  refine k_V1 ok kl_L_173 ⟨Nat.le_of_ble_eq_true rfl, Nat.le_of_ble_eq_true rfl⟩ [] kq2 rfl rfl (Nat.le_of_ble_eq_true rfl) (tX7_noteCount ok.fl X.V m q1.2 hq2) dL_law_878 ?_
  by_cases c3 : q1.1 = q2.1
  · have h := h.1 c3
    refine j_icmp_eq (tgt := 2474) ok dL_law_881 (by decide) (fun _ => ?_) (fun z => absurd c3 z)
    exact J.sub [0, 1, 2, 3, 4] rfl (hK _ h)
  · have h := h.2 c3
    refine j_icmp_eq (tgt := 2474) ok dL_law_881 (by decide) (fun z => absurd z c3) (fun _ => ?_)
    refine j_iconst (v := 0) ok dL_law_884 (by decide) ?_
    exact h.elim

def wc_15 (xs : Nat → Int32) (n x m o : Nat) (i : Int32) (c1 c2 : Nat) (G : Mem) (K : Mem → Prop) : Prop :=
  mt G x = 16 ∧ ∃ q1, fX6_colourToMove x G = some q1 ∧ (
  mt q1.2 m = 17 ∧ ∃ q2, fX7_colourToMove m q1.2 = some q2 ∧ (
  (q1.1 = q2.1 → (
    K q2.2)) ∧ (¬ q1.1 = q2.1 → (
    False))))

set_option maxRecDepth 100000 in
set_option maxHeartbeats 4000000 in
theorem jc_15 {X : Cx} (ok : OK X cL_law RL (some .boolean) 9 LFR LLO) {b n x m o : Nat} {xs : Nat → Int32} {i : Int32} {c1 c2 : Nat} (hcc : X.V.cc = c1) (hcs : X.V.cs = c2) (hscr : SC X b n xs) (G : Mem) (K : Mem → Prop) (hK : ∀ G', K G' → J X 9 2474 [(0, .ref b), (1, .ref (X.B + x)), (2, .ref (X.B + m)), (3, .ref (X.B + o)), (4, .int i)] [] G') (h : wc_15 xs n x m o i c1 c2 G K) : J X 9 886 [(0, .ref b), (1, .ref (X.B + x)), (2, .ref (X.B + m)), (3, .ref (X.B + o)), (4, .int i)] [] G := by
  unfold wc_15 at h
  refine j_aload_n ok dL_law_886 rfl 1 rfl ?_
  obtain ⟨kq1, q1, hq1, h⟩ := h
  refine k_V1 ok kl_L_174 ⟨Nat.le_of_ble_eq_true rfl, Nat.le_of_ble_eq_true rfl⟩ [] kq1 rfl rfl (Nat.le_of_ble_eq_true rfl) (tX6_colourToMove ok.fl X.V x G hq1) dL_law_887 ?_
  refine j_aload_n ok dL_law_890 rfl 2 rfl ?_
  obtain ⟨kq2, q2, hq2, h⟩ := h
  refine k_V1 ok kl_L_177 ⟨Nat.le_of_ble_eq_true rfl, Nat.le_of_ble_eq_true rfl⟩ [] kq2 rfl rfl (Nat.le_of_ble_eq_true rfl) (tX7_colourToMove ok.fl X.V m q1.2 hq2) dL_law_891 ?_
  by_cases c3 : q1.1 = q2.1
  · have h := h.1 c3
    refine j_icmp_eq (tgt := 2474) ok dL_law_894 (by decide) (fun _ => ?_) (fun z => absurd c3 z)
    exact J.sub [0, 1, 2, 3, 4] rfl (hK _ h)
  · have h := h.2 c3
    refine j_icmp_eq (tgt := 2474) ok dL_law_894 (by decide) (fun z => absurd z c3) (fun _ => ?_)
    refine j_iconst (v := 0) ok dL_law_897 (by decide) ?_
    exact h.elim

def wc_16 (xs : Nat → Int32) (n x m o : Nat) (i : Int32) (c1 c2 : Nat) (G : Mem) (K : Mem → Prop) : Prop :=
  mt G x = 16 ∧ ∃ q1, fX6_undoableChanges x G = some q1 ∧ (
  mt q1.2 m = 17 ∧ ∃ q2, fX7_undoableChanges m q1.2 = some q2 ∧ (
  (q1.1 = q2.1 → (
    K q2.2)) ∧ (¬ q1.1 = q2.1 → (
    False))))

set_option maxRecDepth 100000 in
set_option maxHeartbeats 4000000 in
theorem jc_16 {X : Cx} (ok : OK X cL_law RL (some .boolean) 9 LFR LLO) {b n x m o : Nat} {xs : Nat → Int32} {i : Int32} {c1 c2 : Nat} (hcc : X.V.cc = c1) (hcs : X.V.cs = c2) (hscr : SC X b n xs) (G : Mem) (K : Mem → Prop) (hK : ∀ G', K G' → J X 9 2474 [(0, .ref b), (1, .ref (X.B + x)), (2, .ref (X.B + m)), (3, .ref (X.B + o)), (4, .int i)] [] G') (h : wc_16 xs n x m o i c1 c2 G K) : J X 9 899 [(0, .ref b), (1, .ref (X.B + x)), (2, .ref (X.B + m)), (3, .ref (X.B + o)), (4, .int i)] [] G := by
  unfold wc_16 at h
  refine j_aload_n ok dL_law_899 rfl 1 rfl ?_
  obtain ⟨kq1, q1, hq1, h⟩ := h
  refine k_V1 ok kl_L_178 ⟨Nat.le_of_ble_eq_true rfl, Nat.le_of_ble_eq_true rfl⟩ [] kq1 rfl rfl (Nat.le_of_ble_eq_true rfl) (tX6_undoableChanges ok.fl X.V x G hq1) dL_law_900 ?_
  refine j_aload_n ok dL_law_903 rfl 2 rfl ?_
  obtain ⟨kq2, q2, hq2, h⟩ := h
  refine k_V1 ok kl_L_181 ⟨Nat.le_of_ble_eq_true rfl, Nat.le_of_ble_eq_true rfl⟩ [] kq2 rfl rfl (Nat.le_of_ble_eq_true rfl) (tX7_undoableChanges ok.fl X.V m q1.2 hq2) dL_law_904 ?_
  by_cases c3 : q1.1 = q2.1
  · have h := h.1 c3
    refine j_icmp_eq (tgt := 2474) ok dL_law_907 (by decide) (fun _ => ?_) (fun z => absurd c3 z)
    exact J.sub [0, 1, 2, 3, 4] rfl (hK _ h)
  · have h := h.2 c3
    refine j_icmp_eq (tgt := 2474) ok dL_law_907 (by decide) (fun z => absurd z c3) (fun _ => ?_)
    refine j_iconst (v := 0) ok dL_law_910 (by decide) ?_
    exact h.elim

def wc_17 (xs : Nat → Int32) (n x m o : Nat) (i : Int32) (c1 c2 : Nat) (G : Mem) (K : Mem → Prop) : Prop :=
  inb (i + (1 : Int32)) n ∧ (
  wpL (fL_noteKind x (xs ((i + (1 : Int32))).toNatClampNeg) o G) hsL_noteKind c1 c2 (fun v2 G3 => (
  inb (i + (1 : Int32)) n ∧ (
  mt G3 m = 17 ∧ ∃ q6, fX7_noteKind m (xs ((i + (1 : Int32))).toNatClampNeg) G3 = some q6 ∧ (
  mt q6.2 m = 17 ∧ ∃ q7, fX7_thrown m q6.2 = some q7 ∧ (
  (q7.1 = v2 → (
    (v2 = (0 : Int32) → (
      ∃ v10, gJ q7.2 o (0 : Int32) = some v10 ∧ (
      ((lg_cmp v10 q6.1.toInt64) = (0 : Int32) → (
        K q7.2)) ∧ (¬ (lg_cmp v10 q6.1.toInt64) = (0 : Int32) → (
        False))))) ∧ (¬ v2 = (0 : Int32) → (
      K q7.2)))) ∧ (¬ q7.1 = v2 → (
    False))))))))

set_option maxRecDepth 100000 in
set_option maxHeartbeats 4000000 in
theorem jc_17 {X : Cx} (ok : OK X cL_law RL (some .boolean) 9 LFR LLO) {b n x m o : Nat} {xs : Nat → Int32} {i : Int32} {c1 c2 : Nat} (hcc : X.V.cc = c1) (hcs : X.V.cs = c2) (hscr : SC X b n xs) (G : Mem) (K : Mem → Prop) (hK : ∀ G', K G' → J X 9 2474 [(0, .ref b), (1, .ref (X.B + x)), (2, .ref (X.B + m)), (3, .ref (X.B + o)), (4, .int i)] [] G') (h : wc_17 xs n x m o i c1 c2 G K) : J X 9 912 [(0, .ref b), (1, .ref (X.B + x)), (2, .ref (X.B + m)), (3, .ref (X.B + o)), (4, .int i)] [] G := by
  unfold wc_17 at h
  refine j_aload_n ok dL_law_912 rfl 1 rfl ?_
  refine j_aload_n ok dL_law_913 rfl 0 rfl ?_
  refine j_iload ok dL_law_914 4 rfl ?_
  refine j_iconst (v := 1) ok dL_law_916 (by decide) ?_
  refine j_iadd ok dL_law_917 ?_
  obtain ⟨hz1, h⟩ := h
  refine j_scr ok hscr hz1 dL_law_918 ?_
  refine j_aload_n ok dL_law_919 rfl 3 rfl ?_
  have hw4 := h
  obtain ⟨q0, hq0, -⟩ := h
  refine k_L ok kl_L_182 ⟨Nat.le_of_ble_eq_true rfl, Nat.le_of_ble_eq_true rfl⟩ [.ref (X.B + x), .int (xs ((i + (1 : Int32))).toNatClampNeg), .ref (X.B + o)] rfl rfl (Nat.le_of_ble_eq_true rfl) (tL_noteKind ok.fl X.V x (xs ((i + (1 : Int32))).toNatClampNeg) o G (by rw [hq0]; rfl)) dL_law_920 (fun v2 G3 hP => ?_)
  rw [hcc, hcs] at hP
  have h := pl_wp hw4 hP
  clear hw4 hP hq0
  refine j_istore (L' := [(5, .int v2), (0, .ref b), (1, .ref (X.B + x)), (2, .ref (X.B + m)), (3, .ref (X.B + o)), (4, .int i)]) ok dL_law_923 (by decide) rfl ?_
  refine j_aload_n ok dL_law_925 rfl 3 rfl ?_
  refine j_aload_n ok dL_law_926 rfl 1 rfl ?_
  refine j_iload ok dL_law_927 5 rfl ?_
  refine j_iconst (v := 1) ok dL_law_929 (by decide) ?_
  refine j_iadd ok dL_law_930 ?_
  obtain ⟨hz5, h⟩ := h
  refine j_scr ok hscr hz5 dL_law_931 ?_
  obtain ⟨kq6, q6, hq6, h⟩ := h
  refine k_V1 ok kl_L_184 ⟨Nat.le_of_ble_eq_true rfl, Nat.le_of_ble_eq_true rfl⟩ [.int (xs ((i + (1 : Int32))).toNatClampNeg)] kq6 rfl rfl (Nat.le_of_ble_eq_true rfl) (tX7_noteKind ok.fl X.V m (xs ((i + (1 : Int32))).toNatClampNeg) G3 hq6) dL_law_932 ?_
  refine j_istore (L' := [(6, .int q6.1), (5, .int v2), (0, .ref b), (1, .ref (X.B + x)), (2, .ref (X.B + m)), (3, .ref (X.B + o)), (4, .int i)]) ok dL_law_935 (by decide) rfl ?_
  refine j_aload_n ok dL_law_937 rfl 4 rfl ?_
  obtain ⟨kq7, q7, hq7, h⟩ := h
  refine k_V1 ok kl_L_122 ⟨Nat.le_of_ble_eq_true rfl, Nat.le_of_ble_eq_true rfl⟩ [] kq7 rfl rfl (Nat.le_of_ble_eq_true rfl) (tX7_thrown ok.fl X.V m q6.2 hq7) dL_law_938 ?_
  refine j_iload ok dL_law_941 1 rfl ?_
  by_cases c8 : q7.1 = v2
  · have h := h.1 c8
    refine j_icmp_eq (tgt := 948) ok dL_law_943 (by decide) (fun _ => ?_) (fun z => absurd c8 z)
    refine j_iload ok dL_law_948 1 rfl ?_
    by_cases c9 : v2 = (0 : Int32)
    · have h := h.1 c9
      refine j_if_ne (tgt := 965) ok dL_law_950 (by decide) (fun z => absurd c9 z) (fun _ => ?_)
      refine j_aload_n ok dL_law_953 rfl 5 rfl ?_
      refine j_iconst (v := 0) ok dL_law_954 (by decide) ?_
      obtain ⟨v10, hv10, h⟩ := h
      refine j_lald ok hv10 dL_law_955 ?_
      refine j_iload ok dL_law_956 0 rfl ?_
      refine j_i2l ok dL_law_958 ?_
      refine j_lcmp ok dL_law_959 ?_
      by_cases c11 : (lg_cmp v10 q6.1.toInt64) = (0 : Int32)
      · have h := h.1 c11
        refine j_if_eq (tgt := 965) ok dL_law_960 (by decide) (fun _ => ?_) (fun z => absurd c11 z)
        refine j_goto (tgt := 2474) ok dL_law_965 (by decide) ?_
        exact J.sub [2, 3, 4, 5, 6] rfl (hK _ h)
      · have h := h.2 c11
        refine j_if_eq (tgt := 965) ok dL_law_960 (by decide) (fun z => absurd z c11) (fun _ => ?_)
        refine j_iconst (v := 0) ok dL_law_963 (by decide) ?_
        exact h.elim
    · have h := h.2 c9
      refine j_if_ne (tgt := 965) ok dL_law_950 (by decide) (fun _ => ?_) (fun z => absurd z c9)
      refine j_goto (tgt := 2474) ok dL_law_965 (by decide) ?_
      exact J.sub [2, 3, 4, 5, 6] rfl (hK _ h)
  · have h := h.2 c8
    refine j_icmp_eq (tgt := 948) ok dL_law_943 (by decide) (fun z => absurd z c8) (fun _ => ?_)
    refine j_iconst (v := 0) ok dL_law_946 (by decide) ?_
    exact h.elim

def wc_18 (xs : Nat → Int32) (n x m o : Nat) (i : Int32) (c1 c2 : Nat) (G : Mem) (K : Mem → Prop) : Prop :=
  inb (i + (1 : Int32)) n ∧ (
  wpL (fL_noteFromColumn x (xs ((i + (1 : Int32))).toNatClampNeg) o G) hsL_noteFromColumn c1 c2 (fun v2 G3 => (
  inb (i + (1 : Int32)) n ∧ (
  mt G3 m = 17 ∧ ∃ q6, fX7_noteFromColumn m (xs ((i + (1 : Int32))).toNatClampNeg) G3 = some q6 ∧ (
  mt q6.2 m = 17 ∧ ∃ q7, fX7_thrown m q6.2 = some q7 ∧ (
  (q7.1 = v2 → (
    (v2 = (0 : Int32) → (
      ∃ v10, gJ q7.2 o (0 : Int32) = some v10 ∧ (
      ((lg_cmp v10 q6.1.toInt64) = (0 : Int32) → (
        K q7.2)) ∧ (¬ (lg_cmp v10 q6.1.toInt64) = (0 : Int32) → (
        False))))) ∧ (¬ v2 = (0 : Int32) → (
      K q7.2)))) ∧ (¬ q7.1 = v2 → (
    False))))))))

set_option maxRecDepth 100000 in
set_option maxHeartbeats 4000000 in
theorem jc_18 {X : Cx} (ok : OK X cL_law RL (some .boolean) 9 LFR LLO) {b n x m o : Nat} {xs : Nat → Int32} {i : Int32} {c1 c2 : Nat} (hcc : X.V.cc = c1) (hcs : X.V.cs = c2) (hscr : SC X b n xs) (G : Mem) (K : Mem → Prop) (hK : ∀ G', K G' → J X 9 2474 [(0, .ref b), (1, .ref (X.B + x)), (2, .ref (X.B + m)), (3, .ref (X.B + o)), (4, .int i)] [] G') (h : wc_18 xs n x m o i c1 c2 G K) : J X 9 968 [(0, .ref b), (1, .ref (X.B + x)), (2, .ref (X.B + m)), (3, .ref (X.B + o)), (4, .int i)] [] G := by
  unfold wc_18 at h
  refine j_aload_n ok dL_law_968 rfl 1 rfl ?_
  refine j_aload_n ok dL_law_969 rfl 0 rfl ?_
  refine j_iload ok dL_law_970 4 rfl ?_
  refine j_iconst (v := 1) ok dL_law_972 (by decide) ?_
  refine j_iadd ok dL_law_973 ?_
  obtain ⟨hz1, h⟩ := h
  refine j_scr ok hscr hz1 dL_law_974 ?_
  refine j_aload_n ok dL_law_975 rfl 3 rfl ?_
  have hw4 := h
  obtain ⟨q0, hq0, -⟩ := h
  refine k_L ok kl_L_185 ⟨Nat.le_of_ble_eq_true rfl, Nat.le_of_ble_eq_true rfl⟩ [.ref (X.B + x), .int (xs ((i + (1 : Int32))).toNatClampNeg), .ref (X.B + o)] rfl rfl (Nat.le_of_ble_eq_true rfl) (tL_noteFromColumn ok.fl X.V x (xs ((i + (1 : Int32))).toNatClampNeg) o G (by rw [hq0]; rfl)) dL_law_976 (fun v2 G3 hP => ?_)
  rw [hcc, hcs] at hP
  have h := pl_wp hw4 hP
  clear hw4 hP hq0
  refine j_istore (L' := [(5, .int v2), (0, .ref b), (1, .ref (X.B + x)), (2, .ref (X.B + m)), (3, .ref (X.B + o)), (4, .int i)]) ok dL_law_979 (by decide) rfl ?_
  refine j_aload_n ok dL_law_981 rfl 3 rfl ?_
  refine j_aload_n ok dL_law_982 rfl 1 rfl ?_
  refine j_iload ok dL_law_983 5 rfl ?_
  refine j_iconst (v := 1) ok dL_law_985 (by decide) ?_
  refine j_iadd ok dL_law_986 ?_
  obtain ⟨hz5, h⟩ := h
  refine j_scr ok hscr hz5 dL_law_987 ?_
  obtain ⟨kq6, q6, hq6, h⟩ := h
  refine k_V1 ok kl_L_187 ⟨Nat.le_of_ble_eq_true rfl, Nat.le_of_ble_eq_true rfl⟩ [.int (xs ((i + (1 : Int32))).toNatClampNeg)] kq6 rfl rfl (Nat.le_of_ble_eq_true rfl) (tX7_noteFromColumn ok.fl X.V m (xs ((i + (1 : Int32))).toNatClampNeg) G3 hq6) dL_law_988 ?_
  refine j_istore (L' := [(6, .int q6.1), (5, .int v2), (0, .ref b), (1, .ref (X.B + x)), (2, .ref (X.B + m)), (3, .ref (X.B + o)), (4, .int i)]) ok dL_law_991 (by decide) rfl ?_
  refine j_aload_n ok dL_law_993 rfl 4 rfl ?_
  obtain ⟨kq7, q7, hq7, h⟩ := h
  refine k_V1 ok kl_L_122 ⟨Nat.le_of_ble_eq_true rfl, Nat.le_of_ble_eq_true rfl⟩ [] kq7 rfl rfl (Nat.le_of_ble_eq_true rfl) (tX7_thrown ok.fl X.V m q6.2 hq7) dL_law_994 ?_
  refine j_iload ok dL_law_997 1 rfl ?_
  by_cases c8 : q7.1 = v2
  · have h := h.1 c8
    refine j_icmp_eq (tgt := 1004) ok dL_law_999 (by decide) (fun _ => ?_) (fun z => absurd c8 z)
    refine j_iload ok dL_law_1004 1 rfl ?_
    by_cases c9 : v2 = (0 : Int32)
    · have h := h.1 c9
      refine j_if_ne (tgt := 1021) ok dL_law_1006 (by decide) (fun z => absurd c9 z) (fun _ => ?_)
      refine j_aload_n ok dL_law_1009 rfl 5 rfl ?_
      refine j_iconst (v := 0) ok dL_law_1010 (by decide) ?_
      obtain ⟨v10, hv10, h⟩ := h
      refine j_lald ok hv10 dL_law_1011 ?_
      refine j_iload ok dL_law_1012 0 rfl ?_
      refine j_i2l ok dL_law_1014 ?_
      refine j_lcmp ok dL_law_1015 ?_
      by_cases c11 : (lg_cmp v10 q6.1.toInt64) = (0 : Int32)
      · have h := h.1 c11
        refine j_if_eq (tgt := 1021) ok dL_law_1016 (by decide) (fun _ => ?_) (fun z => absurd c11 z)
        refine j_goto (tgt := 2474) ok dL_law_1021 (by decide) ?_
        exact J.sub [2, 3, 4, 5, 6] rfl (hK _ h)
      · have h := h.2 c11
        refine j_if_eq (tgt := 1021) ok dL_law_1016 (by decide) (fun z => absurd z c11) (fun _ => ?_)
        refine j_iconst (v := 0) ok dL_law_1019 (by decide) ?_
        exact h.elim
    · have h := h.2 c9
      refine j_if_ne (tgt := 1021) ok dL_law_1006 (by decide) (fun _ => ?_) (fun z => absurd z c9)
      refine j_goto (tgt := 2474) ok dL_law_1021 (by decide) ?_
      exact J.sub [2, 3, 4, 5, 6] rfl (hK _ h)
  · have h := h.2 c8
    refine j_icmp_eq (tgt := 1004) ok dL_law_999 (by decide) (fun z => absurd z c8) (fun _ => ?_)
    refine j_iconst (v := 0) ok dL_law_1002 (by decide) ?_
    exact h.elim

def wc_19 (xs : Nat → Int32) (n x m o : Nat) (i : Int32) (c1 c2 : Nat) (G : Mem) (K : Mem → Prop) : Prop :=
  inb (i + (1 : Int32)) n ∧ (
  wpL (fL_noteFromRow x (xs ((i + (1 : Int32))).toNatClampNeg) o G) hsL_noteFromRow c1 c2 (fun v2 G3 => (
  inb (i + (1 : Int32)) n ∧ (
  mt G3 m = 17 ∧ ∃ q6, fX7_noteFromRow m (xs ((i + (1 : Int32))).toNatClampNeg) G3 = some q6 ∧ (
  mt q6.2 m = 17 ∧ ∃ q7, fX7_thrown m q6.2 = some q7 ∧ (
  (q7.1 = v2 → (
    (v2 = (0 : Int32) → (
      ∃ v10, gJ q7.2 o (0 : Int32) = some v10 ∧ (
      ((lg_cmp v10 q6.1.toInt64) = (0 : Int32) → (
        K q7.2)) ∧ (¬ (lg_cmp v10 q6.1.toInt64) = (0 : Int32) → (
        False))))) ∧ (¬ v2 = (0 : Int32) → (
      K q7.2)))) ∧ (¬ q7.1 = v2 → (
    False))))))))

set_option maxRecDepth 100000 in
set_option maxHeartbeats 4000000 in
theorem jc_19 {X : Cx} (ok : OK X cL_law RL (some .boolean) 9 LFR LLO) {b n x m o : Nat} {xs : Nat → Int32} {i : Int32} {c1 c2 : Nat} (hcc : X.V.cc = c1) (hcs : X.V.cs = c2) (hscr : SC X b n xs) (G : Mem) (K : Mem → Prop) (hK : ∀ G', K G' → J X 9 2474 [(0, .ref b), (1, .ref (X.B + x)), (2, .ref (X.B + m)), (3, .ref (X.B + o)), (4, .int i)] [] G') (h : wc_19 xs n x m o i c1 c2 G K) : J X 9 1024 [(0, .ref b), (1, .ref (X.B + x)), (2, .ref (X.B + m)), (3, .ref (X.B + o)), (4, .int i)] [] G := by
  unfold wc_19 at h
  refine j_aload_n ok dL_law_1024 rfl 1 rfl ?_
  refine j_aload_n ok dL_law_1025 rfl 0 rfl ?_
  refine j_iload ok dL_law_1026 4 rfl ?_
  refine j_iconst (v := 1) ok dL_law_1028 (by decide) ?_
  refine j_iadd ok dL_law_1029 ?_
  obtain ⟨hz1, h⟩ := h
  refine j_scr ok hscr hz1 dL_law_1030 ?_
  refine j_aload_n ok dL_law_1031 rfl 3 rfl ?_
  have hw4 := h
  obtain ⟨q0, hq0, -⟩ := h
  refine k_L ok kl_L_188 ⟨Nat.le_of_ble_eq_true rfl, Nat.le_of_ble_eq_true rfl⟩ [.ref (X.B + x), .int (xs ((i + (1 : Int32))).toNatClampNeg), .ref (X.B + o)] rfl rfl (Nat.le_of_ble_eq_true rfl) (tL_noteFromRow ok.fl X.V x (xs ((i + (1 : Int32))).toNatClampNeg) o G (by rw [hq0]; rfl)) dL_law_1032 (fun v2 G3 hP => ?_)
  rw [hcc, hcs] at hP
  have h := pl_wp hw4 hP
  clear hw4 hP hq0
  refine j_istore (L' := [(5, .int v2), (0, .ref b), (1, .ref (X.B + x)), (2, .ref (X.B + m)), (3, .ref (X.B + o)), (4, .int i)]) ok dL_law_1035 (by decide) rfl ?_
  refine j_aload_n ok dL_law_1037 rfl 3 rfl ?_
  refine j_aload_n ok dL_law_1038 rfl 1 rfl ?_
  refine j_iload ok dL_law_1039 5 rfl ?_
  refine j_iconst (v := 1) ok dL_law_1041 (by decide) ?_
  refine j_iadd ok dL_law_1042 ?_
  obtain ⟨hz5, h⟩ := h
  refine j_scr ok hscr hz5 dL_law_1043 ?_
  obtain ⟨kq6, q6, hq6, h⟩ := h
  refine k_V1 ok kl_L_190 ⟨Nat.le_of_ble_eq_true rfl, Nat.le_of_ble_eq_true rfl⟩ [.int (xs ((i + (1 : Int32))).toNatClampNeg)] kq6 rfl rfl (Nat.le_of_ble_eq_true rfl) (tX7_noteFromRow ok.fl X.V m (xs ((i + (1 : Int32))).toNatClampNeg) G3 hq6) dL_law_1044 ?_
  refine j_istore (L' := [(6, .int q6.1), (5, .int v2), (0, .ref b), (1, .ref (X.B + x)), (2, .ref (X.B + m)), (3, .ref (X.B + o)), (4, .int i)]) ok dL_law_1047 (by decide) rfl ?_
  refine j_aload_n ok dL_law_1049 rfl 4 rfl ?_
  obtain ⟨kq7, q7, hq7, h⟩ := h
  refine k_V1 ok kl_L_122 ⟨Nat.le_of_ble_eq_true rfl, Nat.le_of_ble_eq_true rfl⟩ [] kq7 rfl rfl (Nat.le_of_ble_eq_true rfl) (tX7_thrown ok.fl X.V m q6.2 hq7) dL_law_1050 ?_
  refine j_iload ok dL_law_1053 1 rfl ?_
  by_cases c8 : q7.1 = v2
  · have h := h.1 c8
    refine j_icmp_eq (tgt := 1060) ok dL_law_1055 (by decide) (fun _ => ?_) (fun z => absurd c8 z)
    refine j_iload ok dL_law_1060 1 rfl ?_
    by_cases c9 : v2 = (0 : Int32)
    · have h := h.1 c9
      refine j_if_ne (tgt := 1077) ok dL_law_1062 (by decide) (fun z => absurd c9 z) (fun _ => ?_)
      refine j_aload_n ok dL_law_1065 rfl 5 rfl ?_
      refine j_iconst (v := 0) ok dL_law_1066 (by decide) ?_
      obtain ⟨v10, hv10, h⟩ := h
      refine j_lald ok hv10 dL_law_1067 ?_
      refine j_iload ok dL_law_1068 0 rfl ?_
      refine j_i2l ok dL_law_1070 ?_
      refine j_lcmp ok dL_law_1071 ?_
      by_cases c11 : (lg_cmp v10 q6.1.toInt64) = (0 : Int32)
      · have h := h.1 c11
        refine j_if_eq (tgt := 1077) ok dL_law_1072 (by decide) (fun _ => ?_) (fun z => absurd c11 z)
        refine j_goto (tgt := 2474) ok dL_law_1077 (by decide) ?_
        exact J.sub [2, 3, 4, 5, 6] rfl (hK _ h)
      · have h := h.2 c11
        refine j_if_eq (tgt := 1077) ok dL_law_1072 (by decide) (fun z => absurd z c11) (fun _ => ?_)
        refine j_iconst (v := 0) ok dL_law_1075 (by decide) ?_
        exact h.elim
    · have h := h.2 c9
      refine j_if_ne (tgt := 1077) ok dL_law_1062 (by decide) (fun _ => ?_) (fun z => absurd z c9)
      refine j_goto (tgt := 2474) ok dL_law_1077 (by decide) ?_
      exact J.sub [2, 3, 4, 5, 6] rfl (hK _ h)
  · have h := h.2 c8
    refine j_icmp_eq (tgt := 1060) ok dL_law_1055 (by decide) (fun z => absurd z c8) (fun _ => ?_)
    refine j_iconst (v := 0) ok dL_law_1058 (by decide) ?_
    exact h.elim

def wc_20 (xs : Nat → Int32) (n x m o : Nat) (i : Int32) (c1 c2 : Nat) (G : Mem) (K : Mem → Prop) : Prop :=
  inb (i + (1 : Int32)) n ∧ (
  wpL (fL_noteToColumn x (xs ((i + (1 : Int32))).toNatClampNeg) o G) hsL_noteToColumn c1 c2 (fun v2 G3 => (
  inb (i + (1 : Int32)) n ∧ (
  mt G3 m = 17 ∧ ∃ q6, fX7_noteToColumn m (xs ((i + (1 : Int32))).toNatClampNeg) G3 = some q6 ∧ (
  mt q6.2 m = 17 ∧ ∃ q7, fX7_thrown m q6.2 = some q7 ∧ (
  (q7.1 = v2 → (
    (v2 = (0 : Int32) → (
      ∃ v10, gJ q7.2 o (0 : Int32) = some v10 ∧ (
      ((lg_cmp v10 q6.1.toInt64) = (0 : Int32) → (
        K q7.2)) ∧ (¬ (lg_cmp v10 q6.1.toInt64) = (0 : Int32) → (
        False))))) ∧ (¬ v2 = (0 : Int32) → (
      K q7.2)))) ∧ (¬ q7.1 = v2 → (
    False))))))))

set_option maxRecDepth 100000 in
set_option maxHeartbeats 4000000 in
theorem jc_20 {X : Cx} (ok : OK X cL_law RL (some .boolean) 9 LFR LLO) {b n x m o : Nat} {xs : Nat → Int32} {i : Int32} {c1 c2 : Nat} (hcc : X.V.cc = c1) (hcs : X.V.cs = c2) (hscr : SC X b n xs) (G : Mem) (K : Mem → Prop) (hK : ∀ G', K G' → J X 9 2474 [(0, .ref b), (1, .ref (X.B + x)), (2, .ref (X.B + m)), (3, .ref (X.B + o)), (4, .int i)] [] G') (h : wc_20 xs n x m o i c1 c2 G K) : J X 9 1080 [(0, .ref b), (1, .ref (X.B + x)), (2, .ref (X.B + m)), (3, .ref (X.B + o)), (4, .int i)] [] G := by
  unfold wc_20 at h
  refine j_aload_n ok dL_law_1080 rfl 1 rfl ?_
  refine j_aload_n ok dL_law_1081 rfl 0 rfl ?_
  refine j_iload ok dL_law_1082 4 rfl ?_
  refine j_iconst (v := 1) ok dL_law_1084 (by decide) ?_
  refine j_iadd ok dL_law_1085 ?_
  obtain ⟨hz1, h⟩ := h
  refine j_scr ok hscr hz1 dL_law_1086 ?_
  refine j_aload_n ok dL_law_1087 rfl 3 rfl ?_
  have hw4 := h
  obtain ⟨q0, hq0, -⟩ := h
  refine k_L ok kl_L_191 ⟨Nat.le_of_ble_eq_true rfl, Nat.le_of_ble_eq_true rfl⟩ [.ref (X.B + x), .int (xs ((i + (1 : Int32))).toNatClampNeg), .ref (X.B + o)] rfl rfl (Nat.le_of_ble_eq_true rfl) (tL_noteToColumn ok.fl X.V x (xs ((i + (1 : Int32))).toNatClampNeg) o G (by rw [hq0]; rfl)) dL_law_1088 (fun v2 G3 hP => ?_)
  rw [hcc, hcs] at hP
  have h := pl_wp hw4 hP
  clear hw4 hP hq0
  refine j_istore (L' := [(5, .int v2), (0, .ref b), (1, .ref (X.B + x)), (2, .ref (X.B + m)), (3, .ref (X.B + o)), (4, .int i)]) ok dL_law_1091 (by decide) rfl ?_
  refine j_aload_n ok dL_law_1093 rfl 3 rfl ?_
  refine j_aload_n ok dL_law_1094 rfl 1 rfl ?_
  refine j_iload ok dL_law_1095 5 rfl ?_
  refine j_iconst (v := 1) ok dL_law_1097 (by decide) ?_
  refine j_iadd ok dL_law_1098 ?_
  obtain ⟨hz5, h⟩ := h
  refine j_scr ok hscr hz5 dL_law_1099 ?_
  obtain ⟨kq6, q6, hq6, h⟩ := h
  refine k_V1 ok kl_L_193 ⟨Nat.le_of_ble_eq_true rfl, Nat.le_of_ble_eq_true rfl⟩ [.int (xs ((i + (1 : Int32))).toNatClampNeg)] kq6 rfl rfl (Nat.le_of_ble_eq_true rfl) (tX7_noteToColumn ok.fl X.V m (xs ((i + (1 : Int32))).toNatClampNeg) G3 hq6) dL_law_1100 ?_
  refine j_istore (L' := [(6, .int q6.1), (5, .int v2), (0, .ref b), (1, .ref (X.B + x)), (2, .ref (X.B + m)), (3, .ref (X.B + o)), (4, .int i)]) ok dL_law_1103 (by decide) rfl ?_
  refine j_aload_n ok dL_law_1105 rfl 4 rfl ?_
  obtain ⟨kq7, q7, hq7, h⟩ := h
  refine k_V1 ok kl_L_122 ⟨Nat.le_of_ble_eq_true rfl, Nat.le_of_ble_eq_true rfl⟩ [] kq7 rfl rfl (Nat.le_of_ble_eq_true rfl) (tX7_thrown ok.fl X.V m q6.2 hq7) dL_law_1106 ?_
  refine j_iload ok dL_law_1109 1 rfl ?_
  by_cases c8 : q7.1 = v2
  · have h := h.1 c8
    refine j_icmp_eq (tgt := 1116) ok dL_law_1111 (by decide) (fun _ => ?_) (fun z => absurd c8 z)
    refine j_iload ok dL_law_1116 1 rfl ?_
    by_cases c9 : v2 = (0 : Int32)
    · have h := h.1 c9
      refine j_if_ne (tgt := 1133) ok dL_law_1118 (by decide) (fun z => absurd c9 z) (fun _ => ?_)
      refine j_aload_n ok dL_law_1121 rfl 5 rfl ?_
      refine j_iconst (v := 0) ok dL_law_1122 (by decide) ?_
      obtain ⟨v10, hv10, h⟩ := h
      refine j_lald ok hv10 dL_law_1123 ?_
      refine j_iload ok dL_law_1124 0 rfl ?_
      refine j_i2l ok dL_law_1126 ?_
      refine j_lcmp ok dL_law_1127 ?_
      by_cases c11 : (lg_cmp v10 q6.1.toInt64) = (0 : Int32)
      · have h := h.1 c11
        refine j_if_eq (tgt := 1133) ok dL_law_1128 (by decide) (fun _ => ?_) (fun z => absurd c11 z)
        refine j_goto (tgt := 2474) ok dL_law_1133 (by decide) ?_
        exact J.sub [2, 3, 4, 5, 6] rfl (hK _ h)
      · have h := h.2 c11
        refine j_if_eq (tgt := 1133) ok dL_law_1128 (by decide) (fun z => absurd z c11) (fun _ => ?_)
        refine j_iconst (v := 0) ok dL_law_1131 (by decide) ?_
        exact h.elim
    · have h := h.2 c9
      refine j_if_ne (tgt := 1133) ok dL_law_1118 (by decide) (fun _ => ?_) (fun z => absurd z c9)
      refine j_goto (tgt := 2474) ok dL_law_1133 (by decide) ?_
      exact J.sub [2, 3, 4, 5, 6] rfl (hK _ h)
  · have h := h.2 c8
    refine j_icmp_eq (tgt := 1116) ok dL_law_1111 (by decide) (fun z => absurd z c8) (fun _ => ?_)
    refine j_iconst (v := 0) ok dL_law_1114 (by decide) ?_
    exact h.elim

def wc_21 (xs : Nat → Int32) (n x m o : Nat) (i : Int32) (c1 c2 : Nat) (G : Mem) (K : Mem → Prop) : Prop :=
  inb (i + (1 : Int32)) n ∧ (
  wpL (fL_noteToRow x (xs ((i + (1 : Int32))).toNatClampNeg) o G) hsL_noteToRow c1 c2 (fun v2 G3 => (
  inb (i + (1 : Int32)) n ∧ (
  mt G3 m = 17 ∧ ∃ q6, fX7_noteToRow m (xs ((i + (1 : Int32))).toNatClampNeg) G3 = some q6 ∧ (
  mt q6.2 m = 17 ∧ ∃ q7, fX7_thrown m q6.2 = some q7 ∧ (
  (q7.1 = v2 → (
    (v2 = (0 : Int32) → (
      ∃ v10, gJ q7.2 o (0 : Int32) = some v10 ∧ (
      ((lg_cmp v10 q6.1.toInt64) = (0 : Int32) → (
        K q7.2)) ∧ (¬ (lg_cmp v10 q6.1.toInt64) = (0 : Int32) → (
        False))))) ∧ (¬ v2 = (0 : Int32) → (
      K q7.2)))) ∧ (¬ q7.1 = v2 → (
    False))))))))

set_option maxRecDepth 100000 in
set_option maxHeartbeats 4000000 in
theorem jc_21 {X : Cx} (ok : OK X cL_law RL (some .boolean) 9 LFR LLO) {b n x m o : Nat} {xs : Nat → Int32} {i : Int32} {c1 c2 : Nat} (hcc : X.V.cc = c1) (hcs : X.V.cs = c2) (hscr : SC X b n xs) (G : Mem) (K : Mem → Prop) (hK : ∀ G', K G' → J X 9 2474 [(0, .ref b), (1, .ref (X.B + x)), (2, .ref (X.B + m)), (3, .ref (X.B + o)), (4, .int i)] [] G') (h : wc_21 xs n x m o i c1 c2 G K) : J X 9 1136 [(0, .ref b), (1, .ref (X.B + x)), (2, .ref (X.B + m)), (3, .ref (X.B + o)), (4, .int i)] [] G := by
  unfold wc_21 at h
  refine j_aload_n ok dL_law_1136 rfl 1 rfl ?_
  refine j_aload_n ok dL_law_1137 rfl 0 rfl ?_
  refine j_iload ok dL_law_1138 4 rfl ?_
  refine j_iconst (v := 1) ok dL_law_1140 (by decide) ?_
  refine j_iadd ok dL_law_1141 ?_
  obtain ⟨hz1, h⟩ := h
  refine j_scr ok hscr hz1 dL_law_1142 ?_
  refine j_aload_n ok dL_law_1143 rfl 3 rfl ?_
  have hw4 := h
  obtain ⟨q0, hq0, -⟩ := h
  refine k_L ok kl_L_194 ⟨Nat.le_of_ble_eq_true rfl, Nat.le_of_ble_eq_true rfl⟩ [.ref (X.B + x), .int (xs ((i + (1 : Int32))).toNatClampNeg), .ref (X.B + o)] rfl rfl (Nat.le_of_ble_eq_true rfl) (tL_noteToRow ok.fl X.V x (xs ((i + (1 : Int32))).toNatClampNeg) o G (by rw [hq0]; rfl)) dL_law_1144 (fun v2 G3 hP => ?_)
  rw [hcc, hcs] at hP
  have h := pl_wp hw4 hP
  clear hw4 hP hq0
  refine j_istore (L' := [(5, .int v2), (0, .ref b), (1, .ref (X.B + x)), (2, .ref (X.B + m)), (3, .ref (X.B + o)), (4, .int i)]) ok dL_law_1147 (by decide) rfl ?_
  refine j_aload_n ok dL_law_1149 rfl 3 rfl ?_
  refine j_aload_n ok dL_law_1150 rfl 1 rfl ?_
  refine j_iload ok dL_law_1151 5 rfl ?_
  refine j_iconst (v := 1) ok dL_law_1153 (by decide) ?_
  refine j_iadd ok dL_law_1154 ?_
  obtain ⟨hz5, h⟩ := h
  refine j_scr ok hscr hz5 dL_law_1155 ?_
  obtain ⟨kq6, q6, hq6, h⟩ := h
  refine k_V1 ok kl_L_196 ⟨Nat.le_of_ble_eq_true rfl, Nat.le_of_ble_eq_true rfl⟩ [.int (xs ((i + (1 : Int32))).toNatClampNeg)] kq6 rfl rfl (Nat.le_of_ble_eq_true rfl) (tX7_noteToRow ok.fl X.V m (xs ((i + (1 : Int32))).toNatClampNeg) G3 hq6) dL_law_1156 ?_
  refine j_istore (L' := [(6, .int q6.1), (5, .int v2), (0, .ref b), (1, .ref (X.B + x)), (2, .ref (X.B + m)), (3, .ref (X.B + o)), (4, .int i)]) ok dL_law_1159 (by decide) rfl ?_
  refine j_aload_n ok dL_law_1161 rfl 4 rfl ?_
  obtain ⟨kq7, q7, hq7, h⟩ := h
  refine k_V1 ok kl_L_122 ⟨Nat.le_of_ble_eq_true rfl, Nat.le_of_ble_eq_true rfl⟩ [] kq7 rfl rfl (Nat.le_of_ble_eq_true rfl) (tX7_thrown ok.fl X.V m q6.2 hq7) dL_law_1162 ?_
  refine j_iload ok dL_law_1165 1 rfl ?_
  by_cases c8 : q7.1 = v2
  · have h := h.1 c8
    refine j_icmp_eq (tgt := 1172) ok dL_law_1167 (by decide) (fun _ => ?_) (fun z => absurd c8 z)
    refine j_iload ok dL_law_1172 1 rfl ?_
    by_cases c9 : v2 = (0 : Int32)
    · have h := h.1 c9
      refine j_if_ne (tgt := 1189) ok dL_law_1174 (by decide) (fun z => absurd c9 z) (fun _ => ?_)
      refine j_aload_n ok dL_law_1177 rfl 5 rfl ?_
      refine j_iconst (v := 0) ok dL_law_1178 (by decide) ?_
      obtain ⟨v10, hv10, h⟩ := h
      refine j_lald ok hv10 dL_law_1179 ?_
      refine j_iload ok dL_law_1180 0 rfl ?_
      refine j_i2l ok dL_law_1182 ?_
      refine j_lcmp ok dL_law_1183 ?_
      by_cases c11 : (lg_cmp v10 q6.1.toInt64) = (0 : Int32)
      · have h := h.1 c11
        refine j_if_eq (tgt := 1189) ok dL_law_1184 (by decide) (fun _ => ?_) (fun z => absurd c11 z)
        refine j_goto (tgt := 2474) ok dL_law_1189 (by decide) ?_
        exact J.sub [2, 3, 4, 5, 6] rfl (hK _ h)
      · have h := h.2 c11
        refine j_if_eq (tgt := 1189) ok dL_law_1184 (by decide) (fun z => absurd z c11) (fun _ => ?_)
        refine j_iconst (v := 0) ok dL_law_1187 (by decide) ?_
        exact h.elim
    · have h := h.2 c9
      refine j_if_ne (tgt := 1189) ok dL_law_1174 (by decide) (fun _ => ?_) (fun z => absurd z c9)
      refine j_goto (tgt := 2474) ok dL_law_1189 (by decide) ?_
      exact J.sub [2, 3, 4, 5, 6] rfl (hK _ h)
  · have h := h.2 c8
    refine j_icmp_eq (tgt := 1172) ok dL_law_1167 (by decide) (fun z => absurd z c8) (fun _ => ?_)
    refine j_iconst (v := 0) ok dL_law_1170 (by decide) ?_
    exact h.elim

def wc_22 (xs : Nat → Int32) (n x m o : Nat) (i : Int32) (c1 c2 : Nat) (G : Mem) (K : Mem → Prop) : Prop :=
  inb (i + (1 : Int32)) n ∧ (
  wpL (fL_noteTakes x (xs ((i + (1 : Int32))).toNatClampNeg) o G) hsL_noteTakes c1 c2 (fun v2 G3 => (
  inb (i + (1 : Int32)) n ∧ (
  mt G3 m = 17 ∧ ∃ q6, fX7_noteTakes m (xs ((i + (1 : Int32))).toNatClampNeg) G3 = some q6 ∧ (
  mt q6.2 m = 17 ∧ ∃ q7, fX7_thrown m q6.2 = some q7 ∧ (
  (q7.1 = v2 → (
    (v2 = (0 : Int32) → (
      ∃ v10, gJ q7.2 o (0 : Int32) = some v10 ∧ (
      ((lg_cmp v10 (bzl q6.1)) = (0 : Int32) → (
        K q7.2)) ∧ (¬ (lg_cmp v10 (bzl q6.1)) = (0 : Int32) → (
        False))))) ∧ (¬ v2 = (0 : Int32) → (
      K q7.2)))) ∧ (¬ q7.1 = v2 → (
    False))))))))

set_option maxRecDepth 100000 in
set_option maxHeartbeats 4000000 in
theorem jc_22 {X : Cx} (ok : OK X cL_law RL (some .boolean) 9 LFR LLO) {b n x m o : Nat} {xs : Nat → Int32} {i : Int32} {c1 c2 : Nat} (hcc : X.V.cc = c1) (hcs : X.V.cs = c2) (hscr : SC X b n xs) (G : Mem) (K : Mem → Prop) (hK : ∀ G', K G' → J X 9 2474 [(0, .ref b), (1, .ref (X.B + x)), (2, .ref (X.B + m)), (3, .ref (X.B + o)), (4, .int i)] [] G') (h : wc_22 xs n x m o i c1 c2 G K) : J X 9 1192 [(0, .ref b), (1, .ref (X.B + x)), (2, .ref (X.B + m)), (3, .ref (X.B + o)), (4, .int i)] [] G := by
  unfold wc_22 at h
  refine j_aload_n ok dL_law_1192 rfl 1 rfl ?_
  refine j_aload_n ok dL_law_1193 rfl 0 rfl ?_
  refine j_iload ok dL_law_1194 4 rfl ?_
  refine j_iconst (v := 1) ok dL_law_1196 (by decide) ?_
  refine j_iadd ok dL_law_1197 ?_
  obtain ⟨hz1, h⟩ := h
  refine j_scr ok hscr hz1 dL_law_1198 ?_
  refine j_aload_n ok dL_law_1199 rfl 3 rfl ?_
  have hw4 := h
  obtain ⟨q0, hq0, -⟩ := h
  refine k_L ok kl_L_197 ⟨Nat.le_of_ble_eq_true rfl, Nat.le_of_ble_eq_true rfl⟩ [.ref (X.B + x), .int (xs ((i + (1 : Int32))).toNatClampNeg), .ref (X.B + o)] rfl rfl (Nat.le_of_ble_eq_true rfl) (tL_noteTakes ok.fl X.V x (xs ((i + (1 : Int32))).toNatClampNeg) o G (by rw [hq0]; rfl)) dL_law_1200 (fun v2 G3 hP => ?_)
  rw [hcc, hcs] at hP
  have h := pl_wp hw4 hP
  clear hw4 hP hq0
  refine j_istore (L' := [(5, .int v2), (0, .ref b), (1, .ref (X.B + x)), (2, .ref (X.B + m)), (3, .ref (X.B + o)), (4, .int i)]) ok dL_law_1203 (by decide) rfl ?_
  refine j_aload_n ok dL_law_1205 rfl 3 rfl ?_
  refine j_aload_n ok dL_law_1206 rfl 1 rfl ?_
  refine j_iload ok dL_law_1207 5 rfl ?_
  refine j_iconst (v := 1) ok dL_law_1209 (by decide) ?_
  refine j_iadd ok dL_law_1210 ?_
  obtain ⟨hz5, h⟩ := h
  refine j_scr ok hscr hz5 dL_law_1211 ?_
  obtain ⟨kq6, q6, hq6, h⟩ := h
  refine k_V1 ok kl_L_199 ⟨Nat.le_of_ble_eq_true rfl, Nat.le_of_ble_eq_true rfl⟩ [.int (xs ((i + (1 : Int32))).toNatClampNeg)] kq6 rfl rfl (Nat.le_of_ble_eq_true rfl) (tX7_noteTakes ok.fl X.V m (xs ((i + (1 : Int32))).toNatClampNeg) G3 hq6) dL_law_1212 ?_
  refine j_istore (L' := [(6, .int q6.1), (5, .int v2), (0, .ref b), (1, .ref (X.B + x)), (2, .ref (X.B + m)), (3, .ref (X.B + o)), (4, .int i)]) ok dL_law_1215 (by decide) rfl ?_
  refine j_aload_n ok dL_law_1217 rfl 4 rfl ?_
  obtain ⟨kq7, q7, hq7, h⟩ := h
  refine k_V1 ok kl_L_122 ⟨Nat.le_of_ble_eq_true rfl, Nat.le_of_ble_eq_true rfl⟩ [] kq7 rfl rfl (Nat.le_of_ble_eq_true rfl) (tX7_thrown ok.fl X.V m q6.2 hq7) dL_law_1218 ?_
  refine j_iload ok dL_law_1221 1 rfl ?_
  by_cases c8 : q7.1 = v2
  · have h := h.1 c8
    refine j_icmp_eq (tgt := 1228) ok dL_law_1223 (by decide) (fun _ => ?_) (fun z => absurd c8 z)
    refine j_iload ok dL_law_1228 1 rfl ?_
    by_cases c9 : v2 = (0 : Int32)
    · have h := h.1 c9
      refine j_if_ne (tgt := 1252) ok dL_law_1230 (by decide) (fun z => absurd c9 z) (fun _ => ?_)
      refine j_aload_n ok dL_law_1233 rfl 5 rfl ?_
      refine j_iconst (v := 0) ok dL_law_1234 (by decide) ?_
      obtain ⟨v10, hv10, h⟩ := h
      refine j_lald ok hv10 dL_law_1235 ?_
      refine j_iload ok dL_law_1236 0 rfl ?_
      refine j_nzl ok dL_law_1238 dL_law_1241 dL_law_1242 dL_law_1245 ?_
      refine j_lcmp ok dL_law_1246 ?_
      by_cases c11 : (lg_cmp v10 (bzl q6.1)) = (0 : Int32)
      · have h := h.1 c11
        refine j_if_eq (tgt := 1252) ok dL_law_1247 (by decide) (fun _ => ?_) (fun z => absurd c11 z)
        refine j_goto (tgt := 2474) ok dL_law_1252 (by decide) ?_
        exact J.sub [2, 3, 4, 5, 6] rfl (hK _ h)
      · have h := h.2 c11
        refine j_if_eq (tgt := 1252) ok dL_law_1247 (by decide) (fun z => absurd z c11) (fun _ => ?_)
        refine j_iconst (v := 0) ok dL_law_1250 (by decide) ?_
        exact h.elim
    · have h := h.2 c9
      refine j_if_ne (tgt := 1252) ok dL_law_1230 (by decide) (fun _ => ?_) (fun z => absurd z c9)
      refine j_goto (tgt := 2474) ok dL_law_1252 (by decide) ?_
      exact J.sub [2, 3, 4, 5, 6] rfl (hK _ h)
  · have h := h.2 c8
    refine j_icmp_eq (tgt := 1228) ok dL_law_1223 (by decide) (fun z => absurd z c8) (fun _ => ?_)
    refine j_iconst (v := 0) ok dL_law_1226 (by decide) ?_
    exact h.elim

def wc_23 (xs : Nat → Int32) (n x m o : Nat) (i : Int32) (c1 c2 : Nat) (G : Mem) (K : Mem → Prop) : Prop :=
  inb (i + (1 : Int32)) n ∧ (
  wpL (fL_noteChecks x (xs ((i + (1 : Int32))).toNatClampNeg) o G) hsL_noteChecks c1 c2 (fun v2 G3 => (
  inb (i + (1 : Int32)) n ∧ (
  mt G3 m = 17 ∧ ∃ q6, fX7_noteChecks m (xs ((i + (1 : Int32))).toNatClampNeg) G3 = some q6 ∧ (
  mt q6.2 m = 17 ∧ ∃ q7, fX7_thrown m q6.2 = some q7 ∧ (
  (q7.1 = v2 → (
    (v2 = (0 : Int32) → (
      ∃ v10, gJ q7.2 o (0 : Int32) = some v10 ∧ (
      ((lg_cmp v10 (bzl q6.1)) = (0 : Int32) → (
        K q7.2)) ∧ (¬ (lg_cmp v10 (bzl q6.1)) = (0 : Int32) → (
        False))))) ∧ (¬ v2 = (0 : Int32) → (
      K q7.2)))) ∧ (¬ q7.1 = v2 → (
    False))))))))

set_option maxRecDepth 100000 in
set_option maxHeartbeats 4000000 in
theorem jc_23 {X : Cx} (ok : OK X cL_law RL (some .boolean) 9 LFR LLO) {b n x m o : Nat} {xs : Nat → Int32} {i : Int32} {c1 c2 : Nat} (hcc : X.V.cc = c1) (hcs : X.V.cs = c2) (hscr : SC X b n xs) (G : Mem) (K : Mem → Prop) (hK : ∀ G', K G' → J X 9 2474 [(0, .ref b), (1, .ref (X.B + x)), (2, .ref (X.B + m)), (3, .ref (X.B + o)), (4, .int i)] [] G') (h : wc_23 xs n x m o i c1 c2 G K) : J X 9 1255 [(0, .ref b), (1, .ref (X.B + x)), (2, .ref (X.B + m)), (3, .ref (X.B + o)), (4, .int i)] [] G := by
  unfold wc_23 at h
  refine j_aload_n ok dL_law_1255 rfl 1 rfl ?_
  refine j_aload_n ok dL_law_1256 rfl 0 rfl ?_
  refine j_iload ok dL_law_1257 4 rfl ?_
  refine j_iconst (v := 1) ok dL_law_1259 (by decide) ?_
  refine j_iadd ok dL_law_1260 ?_
  obtain ⟨hz1, h⟩ := h
  refine j_scr ok hscr hz1 dL_law_1261 ?_
  refine j_aload_n ok dL_law_1262 rfl 3 rfl ?_
  have hw4 := h
  obtain ⟨q0, hq0, -⟩ := h
  refine k_L ok kl_L_200 ⟨Nat.le_of_ble_eq_true rfl, Nat.le_of_ble_eq_true rfl⟩ [.ref (X.B + x), .int (xs ((i + (1 : Int32))).toNatClampNeg), .ref (X.B + o)] rfl rfl (Nat.le_of_ble_eq_true rfl) (tL_noteChecks ok.fl X.V x (xs ((i + (1 : Int32))).toNatClampNeg) o G (by rw [hq0]; rfl)) dL_law_1263 (fun v2 G3 hP => ?_)
  rw [hcc, hcs] at hP
  have h := pl_wp hw4 hP
  clear hw4 hP hq0
  refine j_istore (L' := [(5, .int v2), (0, .ref b), (1, .ref (X.B + x)), (2, .ref (X.B + m)), (3, .ref (X.B + o)), (4, .int i)]) ok dL_law_1266 (by decide) rfl ?_
  refine j_aload_n ok dL_law_1268 rfl 3 rfl ?_
  refine j_aload_n ok dL_law_1269 rfl 1 rfl ?_
  refine j_iload ok dL_law_1270 5 rfl ?_
  refine j_iconst (v := 1) ok dL_law_1272 (by decide) ?_
  refine j_iadd ok dL_law_1273 ?_
  obtain ⟨hz5, h⟩ := h
  refine j_scr ok hscr hz5 dL_law_1274 ?_
  obtain ⟨kq6, q6, hq6, h⟩ := h
  refine k_V1 ok kl_L_202 ⟨Nat.le_of_ble_eq_true rfl, Nat.le_of_ble_eq_true rfl⟩ [.int (xs ((i + (1 : Int32))).toNatClampNeg)] kq6 rfl rfl (Nat.le_of_ble_eq_true rfl) (tX7_noteChecks ok.fl X.V m (xs ((i + (1 : Int32))).toNatClampNeg) G3 hq6) dL_law_1275 ?_
  refine j_istore (L' := [(6, .int q6.1), (5, .int v2), (0, .ref b), (1, .ref (X.B + x)), (2, .ref (X.B + m)), (3, .ref (X.B + o)), (4, .int i)]) ok dL_law_1278 (by decide) rfl ?_
  refine j_aload_n ok dL_law_1280 rfl 4 rfl ?_
  obtain ⟨kq7, q7, hq7, h⟩ := h
  refine k_V1 ok kl_L_122 ⟨Nat.le_of_ble_eq_true rfl, Nat.le_of_ble_eq_true rfl⟩ [] kq7 rfl rfl (Nat.le_of_ble_eq_true rfl) (tX7_thrown ok.fl X.V m q6.2 hq7) dL_law_1281 ?_
  refine j_iload ok dL_law_1284 1 rfl ?_
  by_cases c8 : q7.1 = v2
  · have h := h.1 c8
    refine j_icmp_eq (tgt := 1291) ok dL_law_1286 (by decide) (fun _ => ?_) (fun z => absurd c8 z)
    refine j_iload ok dL_law_1291 1 rfl ?_
    by_cases c9 : v2 = (0 : Int32)
    · have h := h.1 c9
      refine j_if_ne (tgt := 1315) ok dL_law_1293 (by decide) (fun z => absurd c9 z) (fun _ => ?_)
      refine j_aload_n ok dL_law_1296 rfl 5 rfl ?_
      refine j_iconst (v := 0) ok dL_law_1297 (by decide) ?_
      obtain ⟨v10, hv10, h⟩ := h
      refine j_lald ok hv10 dL_law_1298 ?_
      refine j_iload ok dL_law_1299 0 rfl ?_
      refine j_nzl ok dL_law_1301 dL_law_1304 dL_law_1305 dL_law_1308 ?_
      refine j_lcmp ok dL_law_1309 ?_
      by_cases c11 : (lg_cmp v10 (bzl q6.1)) = (0 : Int32)
      · have h := h.1 c11
        refine j_if_eq (tgt := 1315) ok dL_law_1310 (by decide) (fun _ => ?_) (fun z => absurd c11 z)
        refine j_goto (tgt := 2474) ok dL_law_1315 (by decide) ?_
        exact J.sub [2, 3, 4, 5, 6] rfl (hK _ h)
      · have h := h.2 c11
        refine j_if_eq (tgt := 1315) ok dL_law_1310 (by decide) (fun z => absurd z c11) (fun _ => ?_)
        refine j_iconst (v := 0) ok dL_law_1313 (by decide) ?_
        exact h.elim
    · have h := h.2 c9
      refine j_if_ne (tgt := 1315) ok dL_law_1293 (by decide) (fun _ => ?_) (fun z => absurd z c9)
      refine j_goto (tgt := 2474) ok dL_law_1315 (by decide) ?_
      exact J.sub [2, 3, 4, 5, 6] rfl (hK _ h)
  · have h := h.2 c8
    refine j_icmp_eq (tgt := 1291) ok dL_law_1286 (by decide) (fun z => absurd z c8) (fun _ => ?_)
    refine j_iconst (v := 0) ok dL_law_1289 (by decide) ?_
    exact h.elim

def wc_24 (xs : Nat → Int32) (n x m o : Nat) (i : Int32) (c1 c2 : Nat) (G : Mem) (K : Mem → Prop) : Prop :=
  inb (i + (1 : Int32)) n ∧ (
  wpL (fL_positionsAfter x (xs ((i + (1 : Int32))).toNatClampNeg) o G) hsL_positionsAfter c1 c2 (fun v2 G3 => (
  inb (i + (1 : Int32)) n ∧ (
  mt G3 m = 17 ∧ ∃ q6, fX7_positionsAfter m (xs ((i + (1 : Int32))).toNatClampNeg) G3 = some q6 ∧ (
  mt q6.2 m = 17 ∧ ∃ q7, fX7_thrown m q6.2 = some q7 ∧ (
  (q7.1 = v2 → (
    (v2 = (0 : Int32) → (
      ∃ v10, gJ q7.2 o (0 : Int32) = some v10 ∧ (
      ((lg_cmp v10 q6.1.toInt64) = (0 : Int32) → (
        K q7.2)) ∧ (¬ (lg_cmp v10 q6.1.toInt64) = (0 : Int32) → (
        False))))) ∧ (¬ v2 = (0 : Int32) → (
      K q7.2)))) ∧ (¬ q7.1 = v2 → (
    False))))))))

set_option maxRecDepth 100000 in
set_option maxHeartbeats 4000000 in
theorem jc_24 {X : Cx} (ok : OK X cL_law RL (some .boolean) 9 LFR LLO) {b n x m o : Nat} {xs : Nat → Int32} {i : Int32} {c1 c2 : Nat} (hcc : X.V.cc = c1) (hcs : X.V.cs = c2) (hscr : SC X b n xs) (G : Mem) (K : Mem → Prop) (hK : ∀ G', K G' → J X 9 2474 [(0, .ref b), (1, .ref (X.B + x)), (2, .ref (X.B + m)), (3, .ref (X.B + o)), (4, .int i)] [] G') (h : wc_24 xs n x m o i c1 c2 G K) : J X 9 1318 [(0, .ref b), (1, .ref (X.B + x)), (2, .ref (X.B + m)), (3, .ref (X.B + o)), (4, .int i)] [] G := by
  unfold wc_24 at h
  refine j_aload_n ok dL_law_1318 rfl 1 rfl ?_
  refine j_aload_n ok dL_law_1319 rfl 0 rfl ?_
  refine j_iload ok dL_law_1320 4 rfl ?_
  refine j_iconst (v := 1) ok dL_law_1322 (by decide) ?_
  refine j_iadd ok dL_law_1323 ?_
  obtain ⟨hz1, h⟩ := h
  refine j_scr ok hscr hz1 dL_law_1324 ?_
  refine j_aload_n ok dL_law_1325 rfl 3 rfl ?_
  have hw4 := h
  obtain ⟨q0, hq0, -⟩ := h
  refine k_L ok kl_L_203 ⟨Nat.le_of_ble_eq_true rfl, Nat.le_of_ble_eq_true rfl⟩ [.ref (X.B + x), .int (xs ((i + (1 : Int32))).toNatClampNeg), .ref (X.B + o)] rfl rfl (Nat.le_of_ble_eq_true rfl) (tL_positionsAfter ok.fl X.V x (xs ((i + (1 : Int32))).toNatClampNeg) o G (by rw [hq0]; rfl)) dL_law_1326 (fun v2 G3 hP => ?_)
  rw [hcc, hcs] at hP
  have h := pl_wp hw4 hP
  clear hw4 hP hq0
  refine j_istore (L' := [(5, .int v2), (0, .ref b), (1, .ref (X.B + x)), (2, .ref (X.B + m)), (3, .ref (X.B + o)), (4, .int i)]) ok dL_law_1329 (by decide) rfl ?_
  refine j_aload_n ok dL_law_1331 rfl 3 rfl ?_
  refine j_aload_n ok dL_law_1332 rfl 1 rfl ?_
  refine j_iload ok dL_law_1333 5 rfl ?_
  refine j_iconst (v := 1) ok dL_law_1335 (by decide) ?_
  refine j_iadd ok dL_law_1336 ?_
  obtain ⟨hz5, h⟩ := h
  refine j_scr ok hscr hz5 dL_law_1337 ?_
  obtain ⟨kq6, q6, hq6, h⟩ := h
  refine k_V1 ok kl_L_205 ⟨Nat.le_of_ble_eq_true rfl, Nat.le_of_ble_eq_true rfl⟩ [.int (xs ((i + (1 : Int32))).toNatClampNeg)] kq6 rfl rfl (Nat.le_of_ble_eq_true rfl) (tX7_positionsAfter ok.fl X.V m (xs ((i + (1 : Int32))).toNatClampNeg) G3 hq6) dL_law_1338 ?_
  refine j_istore (L' := [(6, .int q6.1), (5, .int v2), (0, .ref b), (1, .ref (X.B + x)), (2, .ref (X.B + m)), (3, .ref (X.B + o)), (4, .int i)]) ok dL_law_1341 (by decide) rfl ?_
  refine j_aload_n ok dL_law_1343 rfl 4 rfl ?_
  obtain ⟨kq7, q7, hq7, h⟩ := h
  refine k_V1 ok kl_L_122 ⟨Nat.le_of_ble_eq_true rfl, Nat.le_of_ble_eq_true rfl⟩ [] kq7 rfl rfl (Nat.le_of_ble_eq_true rfl) (tX7_thrown ok.fl X.V m q6.2 hq7) dL_law_1344 ?_
  refine j_iload ok dL_law_1347 1 rfl ?_
  by_cases c8 : q7.1 = v2
  · have h := h.1 c8
    refine j_icmp_eq (tgt := 1354) ok dL_law_1349 (by decide) (fun _ => ?_) (fun z => absurd c8 z)
    refine j_iload ok dL_law_1354 1 rfl ?_
    by_cases c9 : v2 = (0 : Int32)
    · have h := h.1 c9
      refine j_if_ne (tgt := 1371) ok dL_law_1356 (by decide) (fun z => absurd c9 z) (fun _ => ?_)
      refine j_aload_n ok dL_law_1359 rfl 5 rfl ?_
      refine j_iconst (v := 0) ok dL_law_1360 (by decide) ?_
      obtain ⟨v10, hv10, h⟩ := h
      refine j_lald ok hv10 dL_law_1361 ?_
      refine j_iload ok dL_law_1362 0 rfl ?_
      refine j_i2l ok dL_law_1364 ?_
      refine j_lcmp ok dL_law_1365 ?_
      by_cases c11 : (lg_cmp v10 q6.1.toInt64) = (0 : Int32)
      · have h := h.1 c11
        refine j_if_eq (tgt := 1371) ok dL_law_1366 (by decide) (fun _ => ?_) (fun z => absurd c11 z)
        refine j_goto (tgt := 2474) ok dL_law_1371 (by decide) ?_
        exact J.sub [2, 3, 4, 5, 6] rfl (hK _ h)
      · have h := h.2 c11
        refine j_if_eq (tgt := 1371) ok dL_law_1366 (by decide) (fun z => absurd z c11) (fun _ => ?_)
        refine j_iconst (v := 0) ok dL_law_1369 (by decide) ?_
        exact h.elim
    · have h := h.2 c9
      refine j_if_ne (tgt := 1371) ok dL_law_1356 (by decide) (fun _ => ?_) (fun z => absurd z c9)
      refine j_goto (tgt := 2474) ok dL_law_1371 (by decide) ?_
      exact J.sub [2, 3, 4, 5, 6] rfl (hK _ h)
  · have h := h.2 c8
    refine j_icmp_eq (tgt := 1354) ok dL_law_1349 (by decide) (fun z => absurd z c8) (fun _ => ?_)
    refine j_iconst (v := 0) ok dL_law_1352 (by decide) ?_
    exact h.elim

def wc_25 (xs : Nat → Int32) (n x m o : Nat) (i : Int32) (c1 c2 : Nat) (G : Mem) (K : Mem → Prop) : Prop :=
  inb (i + (1 : Int32)) n ∧ (
  inb (i + (2 : Int32)) n ∧ (
  inb (i + (3 : Int32)) n ∧ (
  wpL (fL_kindAt x (xs ((i + (1 : Int32))).toNatClampNeg) (xs ((i + (2 : Int32))).toNatClampNeg) (xs ((i + (3 : Int32))).toNatClampNeg) o G) hsL_kindAt c1 c2 (fun v4 G5 => (
  inb (i + (1 : Int32)) n ∧ (
  inb (i + (2 : Int32)) n ∧ (
  inb (i + (3 : Int32)) n ∧ (
  mt G5 m = 17 ∧ ∃ q10, fX7_kindAt m (xs ((i + (1 : Int32))).toNatClampNeg) (xs ((i + (2 : Int32))).toNatClampNeg) (xs ((i + (3 : Int32))).toNatClampNeg) G5 = some q10 ∧ (
  mt q10.2 m = 17 ∧ ∃ q11, fX7_thrown m q10.2 = some q11 ∧ (
  (q11.1 = v4 → (
    (v4 = (0 : Int32) → (
      ∃ v14, gJ q11.2 o (0 : Int32) = some v14 ∧ (
      ((lg_cmp v14 q10.1.toInt64) = (0 : Int32) → (
        K q11.2)) ∧ (¬ (lg_cmp v14 q10.1.toInt64) = (0 : Int32) → (
        False))))) ∧ (¬ v4 = (0 : Int32) → (
      K q11.2)))) ∧ (¬ q11.1 = v4 → (
    False))))))))))))

set_option maxRecDepth 100000 in
set_option maxHeartbeats 4000000 in
theorem jc_25 {X : Cx} (ok : OK X cL_law RL (some .boolean) 9 LFR LLO) {b n x m o : Nat} {xs : Nat → Int32} {i : Int32} {c1 c2 : Nat} (hcc : X.V.cc = c1) (hcs : X.V.cs = c2) (hscr : SC X b n xs) (G : Mem) (K : Mem → Prop) (hK : ∀ G', K G' → J X 9 2474 [(0, .ref b), (1, .ref (X.B + x)), (2, .ref (X.B + m)), (3, .ref (X.B + o)), (4, .int i)] [] G') (h : wc_25 xs n x m o i c1 c2 G K) : J X 9 1374 [(0, .ref b), (1, .ref (X.B + x)), (2, .ref (X.B + m)), (3, .ref (X.B + o)), (4, .int i)] [] G := by
  unfold wc_25 at h
  refine j_aload_n ok dL_law_1374 rfl 1 rfl ?_
  refine j_aload_n ok dL_law_1375 rfl 0 rfl ?_
  refine j_iload ok dL_law_1376 4 rfl ?_
  refine j_iconst (v := 1) ok dL_law_1378 (by decide) ?_
  refine j_iadd ok dL_law_1379 ?_
  obtain ⟨hz1, h⟩ := h
  refine j_scr ok hscr hz1 dL_law_1380 ?_
  refine j_aload_n ok dL_law_1381 rfl 0 rfl ?_
  refine j_iload ok dL_law_1382 4 rfl ?_
  refine j_iconst (v := 2) ok dL_law_1384 (by decide) ?_
  refine j_iadd ok dL_law_1385 ?_
  obtain ⟨hz2, h⟩ := h
  refine j_scr ok hscr hz2 dL_law_1386 ?_
  refine j_aload_n ok dL_law_1387 rfl 0 rfl ?_
  refine j_iload ok dL_law_1388 4 rfl ?_
  refine j_iconst (v := 3) ok dL_law_1390 (by decide) ?_
  refine j_iadd ok dL_law_1391 ?_
  obtain ⟨hz3, h⟩ := h
  refine j_scr ok hscr hz3 dL_law_1392 ?_
  refine j_aload_n ok dL_law_1393 rfl 3 rfl ?_
  have hw6 := h
  obtain ⟨q0, hq0, -⟩ := h
  refine k_L ok kl_L_206 ⟨Nat.le_of_ble_eq_true rfl, Nat.le_of_ble_eq_true rfl⟩ [.ref (X.B + x), .int (xs ((i + (1 : Int32))).toNatClampNeg), .int (xs ((i + (2 : Int32))).toNatClampNeg), .int (xs ((i + (3 : Int32))).toNatClampNeg), .ref (X.B + o)] rfl rfl (Nat.le_of_ble_eq_true rfl) (tL_kindAt ok.fl X.V x (xs ((i + (1 : Int32))).toNatClampNeg) (xs ((i + (2 : Int32))).toNatClampNeg) (xs ((i + (3 : Int32))).toNatClampNeg) o G (by rw [hq0]; rfl)) dL_law_1394 (fun v4 G5 hP => ?_)
  rw [hcc, hcs] at hP
  have h := pl_wp hw6 hP
  clear hw6 hP hq0
  refine j_istore (L' := [(5, .int v4), (0, .ref b), (1, .ref (X.B + x)), (2, .ref (X.B + m)), (3, .ref (X.B + o)), (4, .int i)]) ok dL_law_1397 (by decide) rfl ?_
  refine j_aload_n ok dL_law_1399 rfl 3 rfl ?_
  refine j_aload_n ok dL_law_1400 rfl 1 rfl ?_
  refine j_iload ok dL_law_1401 5 rfl ?_
  refine j_iconst (v := 1) ok dL_law_1403 (by decide) ?_
  refine j_iadd ok dL_law_1404 ?_
  obtain ⟨hz7, h⟩ := h
  refine j_scr ok hscr hz7 dL_law_1405 ?_
  refine j_aload_n ok dL_law_1406 rfl 1 rfl ?_
  refine j_iload ok dL_law_1407 5 rfl ?_
  refine j_iconst (v := 2) ok dL_law_1409 (by decide) ?_
  refine j_iadd ok dL_law_1410 ?_
  obtain ⟨hz8, h⟩ := h
  refine j_scr ok hscr hz8 dL_law_1411 ?_
  refine j_aload_n ok dL_law_1412 rfl 1 rfl ?_
  refine j_iload ok dL_law_1413 5 rfl ?_
  refine j_iconst (v := 3) ok dL_law_1415 (by decide) ?_
  refine j_iadd ok dL_law_1416 ?_
  obtain ⟨hz9, h⟩ := h
  refine j_scr ok hscr hz9 dL_law_1417 ?_
  obtain ⟨kq10, q10, hq10, h⟩ := h
  refine k_V1 ok kl_L_208 ⟨Nat.le_of_ble_eq_true rfl, Nat.le_of_ble_eq_true rfl⟩ [.int (xs ((i + (1 : Int32))).toNatClampNeg), .int (xs ((i + (2 : Int32))).toNatClampNeg), .int (xs ((i + (3 : Int32))).toNatClampNeg)] kq10 rfl rfl (Nat.le_of_ble_eq_true rfl) (tX7_kindAt ok.fl X.V m (xs ((i + (1 : Int32))).toNatClampNeg) (xs ((i + (2 : Int32))).toNatClampNeg) (xs ((i + (3 : Int32))).toNatClampNeg) G5 hq10) dL_law_1418 ?_
  refine j_istore (L' := [(6, .int q10.1), (5, .int v4), (0, .ref b), (1, .ref (X.B + x)), (2, .ref (X.B + m)), (3, .ref (X.B + o)), (4, .int i)]) ok dL_law_1421 (by decide) rfl ?_
  refine j_aload_n ok dL_law_1423 rfl 4 rfl ?_
  obtain ⟨kq11, q11, hq11, h⟩ := h
  refine k_V1 ok kl_L_122 ⟨Nat.le_of_ble_eq_true rfl, Nat.le_of_ble_eq_true rfl⟩ [] kq11 rfl rfl (Nat.le_of_ble_eq_true rfl) (tX7_thrown ok.fl X.V m q10.2 hq11) dL_law_1424 ?_
  refine j_iload ok dL_law_1427 1 rfl ?_
  by_cases c12 : q11.1 = v4
  · have h := h.1 c12
    refine j_icmp_eq (tgt := 1434) ok dL_law_1429 (by decide) (fun _ => ?_) (fun z => absurd c12 z)
    refine j_iload ok dL_law_1434 1 rfl ?_
    by_cases c13 : v4 = (0 : Int32)
    · have h := h.1 c13
      refine j_if_ne (tgt := 1451) ok dL_law_1436 (by decide) (fun z => absurd c13 z) (fun _ => ?_)
      refine j_aload_n ok dL_law_1439 rfl 5 rfl ?_
      refine j_iconst (v := 0) ok dL_law_1440 (by decide) ?_
      obtain ⟨v14, hv14, h⟩ := h
      refine j_lald ok hv14 dL_law_1441 ?_
      refine j_iload ok dL_law_1442 0 rfl ?_
      refine j_i2l ok dL_law_1444 ?_
      refine j_lcmp ok dL_law_1445 ?_
      by_cases c15 : (lg_cmp v14 q10.1.toInt64) = (0 : Int32)
      · have h := h.1 c15
        refine j_if_eq (tgt := 1451) ok dL_law_1446 (by decide) (fun _ => ?_) (fun z => absurd c15 z)
        refine j_goto (tgt := 2474) ok dL_law_1451 (by decide) ?_
        exact J.sub [2, 3, 4, 5, 6] rfl (hK _ h)
      · have h := h.2 c15
        refine j_if_eq (tgt := 1451) ok dL_law_1446 (by decide) (fun z => absurd z c15) (fun _ => ?_)
        refine j_iconst (v := 0) ok dL_law_1449 (by decide) ?_
        exact h.elim
    · have h := h.2 c13
      refine j_if_ne (tgt := 1451) ok dL_law_1436 (by decide) (fun _ => ?_) (fun z => absurd z c13)
      refine j_goto (tgt := 2474) ok dL_law_1451 (by decide) ?_
      exact J.sub [2, 3, 4, 5, 6] rfl (hK _ h)
  · have h := h.2 c12
    refine j_icmp_eq (tgt := 1434) ok dL_law_1429 (by decide) (fun z => absurd z c12) (fun _ => ?_)
    refine j_iconst (v := 0) ok dL_law_1432 (by decide) ?_
    exact h.elim

def wc_26 (xs : Nat → Int32) (n x m o : Nat) (i : Int32) (c1 c2 : Nat) (G : Mem) (K : Mem → Prop) : Prop :=
  inb (i + (1 : Int32)) n ∧ (
  inb (i + (2 : Int32)) n ∧ (
  inb (i + (3 : Int32)) n ∧ (
  wpL (fL_colourAt x (xs ((i + (1 : Int32))).toNatClampNeg) (xs ((i + (2 : Int32))).toNatClampNeg) (xs ((i + (3 : Int32))).toNatClampNeg) o G) hsL_colourAt c1 c2 (fun v4 G5 => (
  inb (i + (1 : Int32)) n ∧ (
  inb (i + (2 : Int32)) n ∧ (
  inb (i + (3 : Int32)) n ∧ (
  mt G5 m = 17 ∧ ∃ q10, fX7_colourAt m (xs ((i + (1 : Int32))).toNatClampNeg) (xs ((i + (2 : Int32))).toNatClampNeg) (xs ((i + (3 : Int32))).toNatClampNeg) G5 = some q10 ∧ (
  mt q10.2 m = 17 ∧ ∃ q11, fX7_thrown m q10.2 = some q11 ∧ (
  (q11.1 = v4 → (
    (v4 = (0 : Int32) → (
      ∃ v14, gJ q11.2 o (0 : Int32) = some v14 ∧ (
      ((lg_cmp v14 q10.1.toInt64) = (0 : Int32) → (
        K q11.2)) ∧ (¬ (lg_cmp v14 q10.1.toInt64) = (0 : Int32) → (
        False))))) ∧ (¬ v4 = (0 : Int32) → (
      K q11.2)))) ∧ (¬ q11.1 = v4 → (
    False))))))))))))

set_option maxRecDepth 100000 in
set_option maxHeartbeats 4000000 in
theorem jc_26 {X : Cx} (ok : OK X cL_law RL (some .boolean) 9 LFR LLO) {b n x m o : Nat} {xs : Nat → Int32} {i : Int32} {c1 c2 : Nat} (hcc : X.V.cc = c1) (hcs : X.V.cs = c2) (hscr : SC X b n xs) (G : Mem) (K : Mem → Prop) (hK : ∀ G', K G' → J X 9 2474 [(0, .ref b), (1, .ref (X.B + x)), (2, .ref (X.B + m)), (3, .ref (X.B + o)), (4, .int i)] [] G') (h : wc_26 xs n x m o i c1 c2 G K) : J X 9 1454 [(0, .ref b), (1, .ref (X.B + x)), (2, .ref (X.B + m)), (3, .ref (X.B + o)), (4, .int i)] [] G := by
  unfold wc_26 at h
  refine j_aload_n ok dL_law_1454 rfl 1 rfl ?_
  refine j_aload_n ok dL_law_1455 rfl 0 rfl ?_
  refine j_iload ok dL_law_1456 4 rfl ?_
  refine j_iconst (v := 1) ok dL_law_1458 (by decide) ?_
  refine j_iadd ok dL_law_1459 ?_
  obtain ⟨hz1, h⟩ := h
  refine j_scr ok hscr hz1 dL_law_1460 ?_
  refine j_aload_n ok dL_law_1461 rfl 0 rfl ?_
  refine j_iload ok dL_law_1462 4 rfl ?_
  refine j_iconst (v := 2) ok dL_law_1464 (by decide) ?_
  refine j_iadd ok dL_law_1465 ?_
  obtain ⟨hz2, h⟩ := h
  refine j_scr ok hscr hz2 dL_law_1466 ?_
  refine j_aload_n ok dL_law_1467 rfl 0 rfl ?_
  refine j_iload ok dL_law_1468 4 rfl ?_
  refine j_iconst (v := 3) ok dL_law_1470 (by decide) ?_
  refine j_iadd ok dL_law_1471 ?_
  obtain ⟨hz3, h⟩ := h
  refine j_scr ok hscr hz3 dL_law_1472 ?_
  refine j_aload_n ok dL_law_1473 rfl 3 rfl ?_
  have hw6 := h
  obtain ⟨q0, hq0, -⟩ := h
  refine k_L ok kl_L_209 ⟨Nat.le_of_ble_eq_true rfl, Nat.le_of_ble_eq_true rfl⟩ [.ref (X.B + x), .int (xs ((i + (1 : Int32))).toNatClampNeg), .int (xs ((i + (2 : Int32))).toNatClampNeg), .int (xs ((i + (3 : Int32))).toNatClampNeg), .ref (X.B + o)] rfl rfl (Nat.le_of_ble_eq_true rfl) (tL_colourAt ok.fl X.V x (xs ((i + (1 : Int32))).toNatClampNeg) (xs ((i + (2 : Int32))).toNatClampNeg) (xs ((i + (3 : Int32))).toNatClampNeg) o G (by rw [hq0]; rfl)) dL_law_1474 (fun v4 G5 hP => ?_)
  rw [hcc, hcs] at hP
  have h := pl_wp hw6 hP
  clear hw6 hP hq0
  refine j_istore (L' := [(5, .int v4), (0, .ref b), (1, .ref (X.B + x)), (2, .ref (X.B + m)), (3, .ref (X.B + o)), (4, .int i)]) ok dL_law_1477 (by decide) rfl ?_
  refine j_aload_n ok dL_law_1479 rfl 3 rfl ?_
  refine j_aload_n ok dL_law_1480 rfl 1 rfl ?_
  refine j_iload ok dL_law_1481 5 rfl ?_
  refine j_iconst (v := 1) ok dL_law_1483 (by decide) ?_
  refine j_iadd ok dL_law_1484 ?_
  obtain ⟨hz7, h⟩ := h
  refine j_scr ok hscr hz7 dL_law_1485 ?_
  refine j_aload_n ok dL_law_1486 rfl 1 rfl ?_
  refine j_iload ok dL_law_1487 5 rfl ?_
  refine j_iconst (v := 2) ok dL_law_1489 (by decide) ?_
  refine j_iadd ok dL_law_1490 ?_
  obtain ⟨hz8, h⟩ := h
  refine j_scr ok hscr hz8 dL_law_1491 ?_
  refine j_aload_n ok dL_law_1492 rfl 1 rfl ?_
  refine j_iload ok dL_law_1493 5 rfl ?_
  refine j_iconst (v := 3) ok dL_law_1495 (by decide) ?_
  refine j_iadd ok dL_law_1496 ?_
  obtain ⟨hz9, h⟩ := h
  refine j_scr ok hscr hz9 dL_law_1497 ?_
  obtain ⟨kq10, q10, hq10, h⟩ := h
  refine k_V1 ok kl_L_211 ⟨Nat.le_of_ble_eq_true rfl, Nat.le_of_ble_eq_true rfl⟩ [.int (xs ((i + (1 : Int32))).toNatClampNeg), .int (xs ((i + (2 : Int32))).toNatClampNeg), .int (xs ((i + (3 : Int32))).toNatClampNeg)] kq10 rfl rfl (Nat.le_of_ble_eq_true rfl) (tX7_colourAt ok.fl X.V m (xs ((i + (1 : Int32))).toNatClampNeg) (xs ((i + (2 : Int32))).toNatClampNeg) (xs ((i + (3 : Int32))).toNatClampNeg) G5 hq10) dL_law_1498 ?_
  refine j_istore (L' := [(6, .int q10.1), (5, .int v4), (0, .ref b), (1, .ref (X.B + x)), (2, .ref (X.B + m)), (3, .ref (X.B + o)), (4, .int i)]) ok dL_law_1501 (by decide) rfl ?_
  refine j_aload_n ok dL_law_1503 rfl 4 rfl ?_
  obtain ⟨kq11, q11, hq11, h⟩ := h
  refine k_V1 ok kl_L_122 ⟨Nat.le_of_ble_eq_true rfl, Nat.le_of_ble_eq_true rfl⟩ [] kq11 rfl rfl (Nat.le_of_ble_eq_true rfl) (tX7_thrown ok.fl X.V m q10.2 hq11) dL_law_1504 ?_
  refine j_iload ok dL_law_1507 1 rfl ?_
  by_cases c12 : q11.1 = v4
  · have h := h.1 c12
    refine j_icmp_eq (tgt := 1514) ok dL_law_1509 (by decide) (fun _ => ?_) (fun z => absurd c12 z)
    refine j_iload ok dL_law_1514 1 rfl ?_
    by_cases c13 : v4 = (0 : Int32)
    · have h := h.1 c13
      refine j_if_ne (tgt := 1531) ok dL_law_1516 (by decide) (fun z => absurd c13 z) (fun _ => ?_)
      refine j_aload_n ok dL_law_1519 rfl 5 rfl ?_
      refine j_iconst (v := 0) ok dL_law_1520 (by decide) ?_
      obtain ⟨v14, hv14, h⟩ := h
      refine j_lald ok hv14 dL_law_1521 ?_
      refine j_iload ok dL_law_1522 0 rfl ?_
      refine j_i2l ok dL_law_1524 ?_
      refine j_lcmp ok dL_law_1525 ?_
      by_cases c15 : (lg_cmp v14 q10.1.toInt64) = (0 : Int32)
      · have h := h.1 c15
        refine j_if_eq (tgt := 1531) ok dL_law_1526 (by decide) (fun _ => ?_) (fun z => absurd c15 z)
        refine j_goto (tgt := 2474) ok dL_law_1531 (by decide) ?_
        exact J.sub [2, 3, 4, 5, 6] rfl (hK _ h)
      · have h := h.2 c15
        refine j_if_eq (tgt := 1531) ok dL_law_1526 (by decide) (fun z => absurd z c15) (fun _ => ?_)
        refine j_iconst (v := 0) ok dL_law_1529 (by decide) ?_
        exact h.elim
    · have h := h.2 c13
      refine j_if_ne (tgt := 1531) ok dL_law_1516 (by decide) (fun _ => ?_) (fun z => absurd z c13)
      refine j_goto (tgt := 2474) ok dL_law_1531 (by decide) ?_
      exact J.sub [2, 3, 4, 5, 6] rfl (hK _ h)
  · have h := h.2 c12
    refine j_icmp_eq (tgt := 1514) ok dL_law_1509 (by decide) (fun z => absurd z c12) (fun _ => ?_)
    refine j_iconst (v := 0) ok dL_law_1512 (by decide) ?_
    exact h.elim

def wc_27 (xs : Nat → Int32) (n x m o : Nat) (i : Int32) (c1 c2 : Nat) (G : Mem) (K : Mem → Prop) : Prop :=
  inb (i + (1 : Int32)) n ∧ (
  inb (i + (2 : Int32)) n ∧ (
  inb (i + (3 : Int32)) n ∧ (
  inb (i + (4 : Int32)) n ∧ (
  wpL (fL_isAttacked x (xs ((i + (1 : Int32))).toNatClampNeg) (xs ((i + (2 : Int32))).toNatClampNeg) (xs ((i + (3 : Int32))).toNatClampNeg) (xs ((i + (4 : Int32))).toNatClampNeg) o G) hsL_isAttacked c1 c2 (fun v5 G6 => (
  inb (i + (1 : Int32)) n ∧ (
  inb (i + (2 : Int32)) n ∧ (
  inb (i + (3 : Int32)) n ∧ (
  inb (i + (4 : Int32)) n ∧ (
  mt G6 m = 17 ∧ ∃ q12, fX7_isAttacked m (xs ((i + (1 : Int32))).toNatClampNeg) (xs ((i + (2 : Int32))).toNatClampNeg) (xs ((i + (3 : Int32))).toNatClampNeg) (xs ((i + (4 : Int32))).toNatClampNeg) G6 = some q12 ∧ (
  mt q12.2 m = 17 ∧ ∃ q13, fX7_thrown m q12.2 = some q13 ∧ (
  (q13.1 = v5 → (
    (v5 = (0 : Int32) → (
      ∃ v16, gJ q13.2 o (0 : Int32) = some v16 ∧ (
      ((lg_cmp v16 (bzl q12.1)) = (0 : Int32) → (
        K q13.2)) ∧ (¬ (lg_cmp v16 (bzl q12.1)) = (0 : Int32) → (
        False))))) ∧ (¬ v5 = (0 : Int32) → (
      K q13.2)))) ∧ (¬ q13.1 = v5 → (
    False))))))))))))))

set_option maxRecDepth 100000 in
set_option maxHeartbeats 4000000 in
theorem jc_27 {X : Cx} (ok : OK X cL_law RL (some .boolean) 9 LFR LLO) {b n x m o : Nat} {xs : Nat → Int32} {i : Int32} {c1 c2 : Nat} (hcc : X.V.cc = c1) (hcs : X.V.cs = c2) (hscr : SC X b n xs) (G : Mem) (K : Mem → Prop) (hK : ∀ G', K G' → J X 9 2474 [(0, .ref b), (1, .ref (X.B + x)), (2, .ref (X.B + m)), (3, .ref (X.B + o)), (4, .int i)] [] G') (h : wc_27 xs n x m o i c1 c2 G K) : J X 9 1534 [(0, .ref b), (1, .ref (X.B + x)), (2, .ref (X.B + m)), (3, .ref (X.B + o)), (4, .int i)] [] G := by
  unfold wc_27 at h
  refine j_aload_n ok dL_law_1534 rfl 1 rfl ?_
  refine j_aload_n ok dL_law_1535 rfl 0 rfl ?_
  refine j_iload ok dL_law_1536 4 rfl ?_
  refine j_iconst (v := 1) ok dL_law_1538 (by decide) ?_
  refine j_iadd ok dL_law_1539 ?_
  obtain ⟨hz1, h⟩ := h
  refine j_scr ok hscr hz1 dL_law_1540 ?_
  refine j_aload_n ok dL_law_1541 rfl 0 rfl ?_
  refine j_iload ok dL_law_1542 4 rfl ?_
  refine j_iconst (v := 2) ok dL_law_1544 (by decide) ?_
  refine j_iadd ok dL_law_1545 ?_
  obtain ⟨hz2, h⟩ := h
  refine j_scr ok hscr hz2 dL_law_1546 ?_
  refine j_aload_n ok dL_law_1547 rfl 0 rfl ?_
  refine j_iload ok dL_law_1548 4 rfl ?_
  refine j_iconst (v := 3) ok dL_law_1550 (by decide) ?_
  refine j_iadd ok dL_law_1551 ?_
  obtain ⟨hz3, h⟩ := h
  refine j_scr ok hscr hz3 dL_law_1552 ?_
  refine j_aload_n ok dL_law_1553 rfl 0 rfl ?_
  refine j_iload ok dL_law_1554 4 rfl ?_
  refine j_iconst (v := 4) ok dL_law_1556 (by decide) ?_
  refine j_iadd ok dL_law_1557 ?_
  obtain ⟨hz4, h⟩ := h
  refine j_scr ok hscr hz4 dL_law_1558 ?_
  refine j_aload_n ok dL_law_1559 rfl 3 rfl ?_
  have hw7 := h
  obtain ⟨q0, hq0, -⟩ := h
  refine k_L ok kl_L_212 ⟨Nat.le_of_ble_eq_true rfl, Nat.le_of_ble_eq_true rfl⟩ [.ref (X.B + x), .int (xs ((i + (1 : Int32))).toNatClampNeg), .int (xs ((i + (2 : Int32))).toNatClampNeg), .int (xs ((i + (3 : Int32))).toNatClampNeg), .int (xs ((i + (4 : Int32))).toNatClampNeg), .ref (X.B + o)] rfl rfl (Nat.le_of_ble_eq_true rfl) (tL_isAttacked ok.fl X.V x (xs ((i + (1 : Int32))).toNatClampNeg) (xs ((i + (2 : Int32))).toNatClampNeg) (xs ((i + (3 : Int32))).toNatClampNeg) (xs ((i + (4 : Int32))).toNatClampNeg) o G (by rw [hq0]; rfl)) dL_law_1560 (fun v5 G6 hP => ?_)
  rw [hcc, hcs] at hP
  have h := pl_wp hw7 hP
  clear hw7 hP hq0
  refine j_istore (L' := [(5, .int v5), (0, .ref b), (1, .ref (X.B + x)), (2, .ref (X.B + m)), (3, .ref (X.B + o)), (4, .int i)]) ok dL_law_1563 (by decide) rfl ?_
  refine j_aload_n ok dL_law_1565 rfl 3 rfl ?_
  refine j_aload_n ok dL_law_1566 rfl 1 rfl ?_
  refine j_iload ok dL_law_1567 5 rfl ?_
  refine j_iconst (v := 1) ok dL_law_1569 (by decide) ?_
  refine j_iadd ok dL_law_1570 ?_
  obtain ⟨hz8, h⟩ := h
  refine j_scr ok hscr hz8 dL_law_1571 ?_
  refine j_aload_n ok dL_law_1572 rfl 1 rfl ?_
  refine j_iload ok dL_law_1573 5 rfl ?_
  refine j_iconst (v := 2) ok dL_law_1575 (by decide) ?_
  refine j_iadd ok dL_law_1576 ?_
  obtain ⟨hz9, h⟩ := h
  refine j_scr ok hscr hz9 dL_law_1577 ?_
  refine j_aload_n ok dL_law_1578 rfl 1 rfl ?_
  refine j_iload ok dL_law_1579 5 rfl ?_
  refine j_iconst (v := 3) ok dL_law_1581 (by decide) ?_
  refine j_iadd ok dL_law_1582 ?_
  obtain ⟨hz10, h⟩ := h
  refine j_scr ok hscr hz10 dL_law_1583 ?_
  refine j_aload_n ok dL_law_1584 rfl 1 rfl ?_
  refine j_iload ok dL_law_1585 5 rfl ?_
  refine j_iconst (v := 4) ok dL_law_1587 (by decide) ?_
  refine j_iadd ok dL_law_1588 ?_
  obtain ⟨hz11, h⟩ := h
  refine j_scr ok hscr hz11 dL_law_1589 ?_
  obtain ⟨kq12, q12, hq12, h⟩ := h
  refine k_V1 ok kl_L_215 ⟨Nat.le_of_ble_eq_true rfl, Nat.le_of_ble_eq_true rfl⟩ [.int (xs ((i + (1 : Int32))).toNatClampNeg), .int (xs ((i + (2 : Int32))).toNatClampNeg), .int (xs ((i + (3 : Int32))).toNatClampNeg), .int (xs ((i + (4 : Int32))).toNatClampNeg)] kq12 rfl rfl (Nat.le_of_ble_eq_true rfl) (tX7_isAttacked ok.fl X.V m (xs ((i + (1 : Int32))).toNatClampNeg) (xs ((i + (2 : Int32))).toNatClampNeg) (xs ((i + (3 : Int32))).toNatClampNeg) (xs ((i + (4 : Int32))).toNatClampNeg) G6 hq12) dL_law_1590 ?_
  refine j_istore (L' := [(6, .int q12.1), (5, .int v5), (0, .ref b), (1, .ref (X.B + x)), (2, .ref (X.B + m)), (3, .ref (X.B + o)), (4, .int i)]) ok dL_law_1593 (by decide) rfl ?_
  refine j_aload_n ok dL_law_1595 rfl 4 rfl ?_
  obtain ⟨kq13, q13, hq13, h⟩ := h
  refine k_V1 ok kl_L_122 ⟨Nat.le_of_ble_eq_true rfl, Nat.le_of_ble_eq_true rfl⟩ [] kq13 rfl rfl (Nat.le_of_ble_eq_true rfl) (tX7_thrown ok.fl X.V m q12.2 hq13) dL_law_1596 ?_
  refine j_iload ok dL_law_1599 1 rfl ?_
  by_cases c14 : q13.1 = v5
  · have h := h.1 c14
    refine j_icmp_eq (tgt := 1606) ok dL_law_1601 (by decide) (fun _ => ?_) (fun z => absurd c14 z)
    refine j_iload ok dL_law_1606 1 rfl ?_
    by_cases c15 : v5 = (0 : Int32)
    · have h := h.1 c15
      refine j_if_ne (tgt := 1630) ok dL_law_1608 (by decide) (fun z => absurd c15 z) (fun _ => ?_)
      refine j_aload_n ok dL_law_1611 rfl 5 rfl ?_
      refine j_iconst (v := 0) ok dL_law_1612 (by decide) ?_
      obtain ⟨v16, hv16, h⟩ := h
      refine j_lald ok hv16 dL_law_1613 ?_
      refine j_iload ok dL_law_1614 0 rfl ?_
      refine j_nzl ok dL_law_1616 dL_law_1619 dL_law_1620 dL_law_1623 ?_
      refine j_lcmp ok dL_law_1624 ?_
      by_cases c17 : (lg_cmp v16 (bzl q12.1)) = (0 : Int32)
      · have h := h.1 c17
        refine j_if_eq (tgt := 1630) ok dL_law_1625 (by decide) (fun _ => ?_) (fun z => absurd c17 z)
        refine j_goto (tgt := 2474) ok dL_law_1630 (by decide) ?_
        exact J.sub [2, 3, 4, 5, 6] rfl (hK _ h)
      · have h := h.2 c17
        refine j_if_eq (tgt := 1630) ok dL_law_1625 (by decide) (fun z => absurd z c17) (fun _ => ?_)
        refine j_iconst (v := 0) ok dL_law_1628 (by decide) ?_
        exact h.elim
    · have h := h.2 c15
      refine j_if_ne (tgt := 1630) ok dL_law_1608 (by decide) (fun _ => ?_) (fun z => absurd z c15)
      refine j_goto (tgt := 2474) ok dL_law_1630 (by decide) ?_
      exact J.sub [2, 3, 4, 5, 6] rfl (hK _ h)
  · have h := h.2 c14
    refine j_icmp_eq (tgt := 1606) ok dL_law_1601 (by decide) (fun z => absurd z c14) (fun _ => ?_)
    refine j_iconst (v := 0) ok dL_law_1604 (by decide) ?_
    exact h.elim

def wc_28 (xs : Nat → Int32) (n x m o : Nat) (i : Int32) (c1 c2 : Nat) (G : Mem) (K : Mem → Prop) : Prop :=
  inb (i + (1 : Int32)) n ∧ (
  wpL (fL_legalMoves x (xs ((i + (1 : Int32))).toNatClampNeg) o G) hsL_legalMoves c1 c2 (fun v2 G3 => (
  inb (i + (1 : Int32)) n ∧ (
  mt G3 m = 17 ∧ ∃ q6, fX7_legalMoves m (xs ((i + (1 : Int32))).toNatClampNeg) G3 = some q6 ∧ (
  mt q6.2 m = 17 ∧ ∃ q7, fX7_thrown m q6.2 = some q7 ∧ (
  (q7.1 = v2 → (
    (v2 = (0 : Int32) → (
      ∃ v10, gJ q7.2 o (0 : Int32) = some v10 ∧ (
      ((lg_cmp v10 q6.1.toInt64) = (0 : Int32) → (
        K q7.2)) ∧ (¬ (lg_cmp v10 q6.1.toInt64) = (0 : Int32) → (
        False))))) ∧ (¬ v2 = (0 : Int32) → (
      K q7.2)))) ∧ (¬ q7.1 = v2 → (
    False))))))))

set_option maxRecDepth 100000 in
set_option maxHeartbeats 4000000 in
theorem jc_28 {X : Cx} (ok : OK X cL_law RL (some .boolean) 9 LFR LLO) {b n x m o : Nat} {xs : Nat → Int32} {i : Int32} {c1 c2 : Nat} (hcc : X.V.cc = c1) (hcs : X.V.cs = c2) (hscr : SC X b n xs) (G : Mem) (K : Mem → Prop) (hK : ∀ G', K G' → J X 9 2474 [(0, .ref b), (1, .ref (X.B + x)), (2, .ref (X.B + m)), (3, .ref (X.B + o)), (4, .int i)] [] G') (h : wc_28 xs n x m o i c1 c2 G K) : J X 9 1633 [(0, .ref b), (1, .ref (X.B + x)), (2, .ref (X.B + m)), (3, .ref (X.B + o)), (4, .int i)] [] G := by
  unfold wc_28 at h
  refine j_aload_n ok dL_law_1633 rfl 1 rfl ?_
  refine j_aload_n ok dL_law_1634 rfl 0 rfl ?_
  refine j_iload ok dL_law_1635 4 rfl ?_
  refine j_iconst (v := 1) ok dL_law_1637 (by decide) ?_
  refine j_iadd ok dL_law_1638 ?_
  obtain ⟨hz1, h⟩ := h
  refine j_scr ok hscr hz1 dL_law_1639 ?_
  refine j_aload_n ok dL_law_1640 rfl 3 rfl ?_
  have hw4 := h
  obtain ⟨q0, hq0, -⟩ := h
  refine k_L ok kl_L_216 ⟨Nat.le_of_ble_eq_true rfl, Nat.le_of_ble_eq_true rfl⟩ [.ref (X.B + x), .int (xs ((i + (1 : Int32))).toNatClampNeg), .ref (X.B + o)] rfl rfl (Nat.le_of_ble_eq_true rfl) (tL_legalMoves ok.fl X.V x (xs ((i + (1 : Int32))).toNatClampNeg) o G (by rw [hq0]; rfl)) dL_law_1641 (fun v2 G3 hP => ?_)
  rw [hcc, hcs] at hP
  have h := pl_wp hw4 hP
  clear hw4 hP hq0
  refine j_istore (L' := [(5, .int v2), (0, .ref b), (1, .ref (X.B + x)), (2, .ref (X.B + m)), (3, .ref (X.B + o)), (4, .int i)]) ok dL_law_1644 (by decide) rfl ?_
  refine j_aload_n ok dL_law_1646 rfl 3 rfl ?_
  refine j_aload_n ok dL_law_1647 rfl 1 rfl ?_
  refine j_iload ok dL_law_1648 5 rfl ?_
  refine j_iconst (v := 1) ok dL_law_1650 (by decide) ?_
  refine j_iadd ok dL_law_1651 ?_
  obtain ⟨hz5, h⟩ := h
  refine j_scr ok hscr hz5 dL_law_1652 ?_
  obtain ⟨kq6, q6, hq6, h⟩ := h
  refine k_V1 ok kl_L_218 ⟨Nat.le_of_ble_eq_true rfl, Nat.le_of_ble_eq_true rfl⟩ [.int (xs ((i + (1 : Int32))).toNatClampNeg)] kq6 rfl rfl (Nat.le_of_ble_eq_true rfl) (tX7_legalMoves ok.fl X.V m (xs ((i + (1 : Int32))).toNatClampNeg) G3 hq6) dL_law_1653 ?_
  refine j_istore (L' := [(6, .int q6.1), (5, .int v2), (0, .ref b), (1, .ref (X.B + x)), (2, .ref (X.B + m)), (3, .ref (X.B + o)), (4, .int i)]) ok dL_law_1656 (by decide) rfl ?_
  refine j_aload_n ok dL_law_1658 rfl 4 rfl ?_
  obtain ⟨kq7, q7, hq7, h⟩ := h
  refine k_V1 ok kl_L_122 ⟨Nat.le_of_ble_eq_true rfl, Nat.le_of_ble_eq_true rfl⟩ [] kq7 rfl rfl (Nat.le_of_ble_eq_true rfl) (tX7_thrown ok.fl X.V m q6.2 hq7) dL_law_1659 ?_
  refine j_iload ok dL_law_1662 1 rfl ?_
  by_cases c8 : q7.1 = v2
  · have h := h.1 c8
    refine j_icmp_eq (tgt := 1669) ok dL_law_1664 (by decide) (fun _ => ?_) (fun z => absurd c8 z)
    refine j_iload ok dL_law_1669 1 rfl ?_
    by_cases c9 : v2 = (0 : Int32)
    · have h := h.1 c9
      refine j_if_ne (tgt := 1686) ok dL_law_1671 (by decide) (fun z => absurd c9 z) (fun _ => ?_)
      refine j_aload_n ok dL_law_1674 rfl 5 rfl ?_
      refine j_iconst (v := 0) ok dL_law_1675 (by decide) ?_
      obtain ⟨v10, hv10, h⟩ := h
      refine j_lald ok hv10 dL_law_1676 ?_
      refine j_iload ok dL_law_1677 0 rfl ?_
      refine j_i2l ok dL_law_1679 ?_
      refine j_lcmp ok dL_law_1680 ?_
      by_cases c11 : (lg_cmp v10 q6.1.toInt64) = (0 : Int32)
      · have h := h.1 c11
        refine j_if_eq (tgt := 1686) ok dL_law_1681 (by decide) (fun _ => ?_) (fun z => absurd c11 z)
        refine j_goto (tgt := 2474) ok dL_law_1686 (by decide) ?_
        exact J.sub [2, 3, 4, 5, 6] rfl (hK _ h)
      · have h := h.2 c11
        refine j_if_eq (tgt := 1686) ok dL_law_1681 (by decide) (fun z => absurd z c11) (fun _ => ?_)
        refine j_iconst (v := 0) ok dL_law_1684 (by decide) ?_
        exact h.elim
    · have h := h.2 c9
      refine j_if_ne (tgt := 1686) ok dL_law_1671 (by decide) (fun _ => ?_) (fun z => absurd z c9)
      refine j_goto (tgt := 2474) ok dL_law_1686 (by decide) ?_
      exact J.sub [2, 3, 4, 5, 6] rfl (hK _ h)
  · have h := h.2 c8
    refine j_icmp_eq (tgt := 1669) ok dL_law_1664 (by decide) (fun z => absurd z c8) (fun _ => ?_)
    refine j_iconst (v := 0) ok dL_law_1667 (by decide) ?_
    exact h.elim

def wc_29 (xs : Nat → Int32) (n x m o : Nat) (i : Int32) (c1 c2 : Nat) (G : Mem) (K : Mem → Prop) : Prop :=
  inb (i + (1 : Int32)) n ∧ (
  wpL (fL_gamesTo x (xs ((i + (1 : Int32))).toNatClampNeg) o G) hsL_gamesTo c1 c2 (fun v2 G3 => (
  inb (i + (1 : Int32)) n ∧ (
  mt G3 m = 17 ∧ ∃ q6, fX7_gamesTo m (xs ((i + (1 : Int32))).toNatClampNeg) G3 = some q6 ∧ (
  mt q6.2 m = 17 ∧ ∃ q7, fX7_thrown m q6.2 = some q7 ∧ (
  (q7.1 = v2 → (
    (v2 = (0 : Int32) → (
      ∃ v10, gJ q7.2 o (0 : Int32) = some v10 ∧ (
      ((lg_cmp v10 q6.1) = (0 : Int32) → (
        K q7.2)) ∧ (¬ (lg_cmp v10 q6.1) = (0 : Int32) → (
        False))))) ∧ (¬ v2 = (0 : Int32) → (
      K q7.2)))) ∧ (¬ q7.1 = v2 → (
    False))))))))

set_option maxRecDepth 100000 in
set_option maxHeartbeats 4000000 in
theorem jc_29 {X : Cx} (ok : OK X cL_law RL (some .boolean) 9 LFR LLO) {b n x m o : Nat} {xs : Nat → Int32} {i : Int32} {c1 c2 : Nat} (hcc : X.V.cc = c1) (hcs : X.V.cs = c2) (hscr : SC X b n xs) (G : Mem) (K : Mem → Prop) (hK : ∀ G', K G' → J X 9 2474 [(0, .ref b), (1, .ref (X.B + x)), (2, .ref (X.B + m)), (3, .ref (X.B + o)), (4, .int i)] [] G') (h : wc_29 xs n x m o i c1 c2 G K) : J X 9 1689 [(0, .ref b), (1, .ref (X.B + x)), (2, .ref (X.B + m)), (3, .ref (X.B + o)), (4, .int i)] [] G := by
  unfold wc_29 at h
  refine j_aload_n ok dL_law_1689 rfl 1 rfl ?_
  refine j_aload_n ok dL_law_1690 rfl 0 rfl ?_
  refine j_iload ok dL_law_1691 4 rfl ?_
  refine j_iconst (v := 1) ok dL_law_1693 (by decide) ?_
  refine j_iadd ok dL_law_1694 ?_
  obtain ⟨hz1, h⟩ := h
  refine j_scr ok hscr hz1 dL_law_1695 ?_
  refine j_aload_n ok dL_law_1696 rfl 3 rfl ?_
  have hw4 := h
  obtain ⟨q0, hq0, -⟩ := h
  refine k_L ok kl_L_219 ⟨Nat.le_of_ble_eq_true rfl, Nat.le_of_ble_eq_true rfl⟩ [.ref (X.B + x), .int (xs ((i + (1 : Int32))).toNatClampNeg), .ref (X.B + o)] rfl rfl (Nat.le_of_ble_eq_true rfl) (tL_gamesTo ok.fl X.V x (xs ((i + (1 : Int32))).toNatClampNeg) o G (by rw [hq0]; rfl)) dL_law_1697 (fun v2 G3 hP => ?_)
  rw [hcc, hcs] at hP
  have h := pl_wp hw4 hP
  clear hw4 hP hq0
  refine j_istore (L' := [(5, .int v2), (0, .ref b), (1, .ref (X.B + x)), (2, .ref (X.B + m)), (3, .ref (X.B + o)), (4, .int i)]) ok dL_law_1700 (by decide) rfl ?_
  refine j_aload_n ok dL_law_1702 rfl 3 rfl ?_
  refine j_aload_n ok dL_law_1703 rfl 1 rfl ?_
  refine j_iload ok dL_law_1704 5 rfl ?_
  refine j_iconst (v := 1) ok dL_law_1706 (by decide) ?_
  refine j_iadd ok dL_law_1707 ?_
  obtain ⟨hz5, h⟩ := h
  refine j_scr ok hscr hz5 dL_law_1708 ?_
  obtain ⟨kq6, q6, hq6, h⟩ := h
  refine k_V1 ok kl_L_221 ⟨Nat.le_of_ble_eq_true rfl, Nat.le_of_ble_eq_true rfl⟩ [.int (xs ((i + (1 : Int32))).toNatClampNeg)] kq6 rfl rfl (Nat.le_of_ble_eq_true rfl) (tX7_gamesTo ok.fl X.V m (xs ((i + (1 : Int32))).toNatClampNeg) G3 hq6) dL_law_1709 ?_
  refine j_lstore (L' := [(6, .long q6.1), (5, .int v2), (0, .ref b), (1, .ref (X.B + x)), (2, .ref (X.B + m)), (3, .ref (X.B + o)), (4, .int i)]) ok dL_law_1712 (by decide) rfl ?_
  refine j_aload_n ok dL_law_1714 rfl 4 rfl ?_
  obtain ⟨kq7, q7, hq7, h⟩ := h
  refine k_V1 ok kl_L_122 ⟨Nat.le_of_ble_eq_true rfl, Nat.le_of_ble_eq_true rfl⟩ [] kq7 rfl rfl (Nat.le_of_ble_eq_true rfl) (tX7_thrown ok.fl X.V m q6.2 hq7) dL_law_1715 ?_
  refine j_iload ok dL_law_1718 1 rfl ?_
  by_cases c8 : q7.1 = v2
  · have h := h.1 c8
    refine j_icmp_eq (tgt := 1725) ok dL_law_1720 (by decide) (fun _ => ?_) (fun z => absurd c8 z)
    refine j_iload ok dL_law_1725 1 rfl ?_
    by_cases c9 : v2 = (0 : Int32)
    · have h := h.1 c9
      refine j_if_ne (tgt := 1741) ok dL_law_1727 (by decide) (fun z => absurd c9 z) (fun _ => ?_)
      refine j_aload_n ok dL_law_1730 rfl 5 rfl ?_
      refine j_iconst (v := 0) ok dL_law_1731 (by decide) ?_
      obtain ⟨v10, hv10, h⟩ := h
      refine j_lald ok hv10 dL_law_1732 ?_
      refine j_lload ok dL_law_1733 0 rfl ?_
      refine j_lcmp ok dL_law_1735 ?_
      by_cases c11 : (lg_cmp v10 q6.1) = (0 : Int32)
      · have h := h.1 c11
        refine j_if_eq (tgt := 1741) ok dL_law_1736 (by decide) (fun _ => ?_) (fun z => absurd c11 z)
        refine j_goto (tgt := 2474) ok dL_law_1741 (by decide) ?_
        exact J.sub [2, 3, 4, 5, 6] rfl (hK _ h)
      · have h := h.2 c11
        refine j_if_eq (tgt := 1741) ok dL_law_1736 (by decide) (fun z => absurd z c11) (fun _ => ?_)
        refine j_iconst (v := 0) ok dL_law_1739 (by decide) ?_
        exact h.elim
    · have h := h.2 c9
      refine j_if_ne (tgt := 1741) ok dL_law_1727 (by decide) (fun _ => ?_) (fun z => absurd z c9)
      refine j_goto (tgt := 2474) ok dL_law_1741 (by decide) ?_
      exact J.sub [2, 3, 4, 5, 6] rfl (hK _ h)
  · have h := h.2 c8
    refine j_icmp_eq (tgt := 1725) ok dL_law_1720 (by decide) (fun z => absurd z c8) (fun _ => ?_)
    refine j_iconst (v := 0) ok dL_law_1723 (by decide) ?_
    exact h.elim

def wc_30 (xs : Nat → Int32) (n x m o : Nat) (i : Int32) (c1 c2 : Nat) (G : Mem) (K : Mem → Prop) : Prop :=
  mt G x = 16 ∧ ∃ q1, fX6_certainSquares x G = some q1 ∧ (
  mt q1.2 m = 17 ∧ ∃ q2, fX7_certainSquares m q1.2 = some q2 ∧ (
  (q1.1 = q2.1 → (
    K q2.2)) ∧ (¬ q1.1 = q2.1 → (
    False))))

set_option maxRecDepth 100000 in
set_option maxHeartbeats 4000000 in
theorem jc_30 {X : Cx} (ok : OK X cL_law RL (some .boolean) 9 LFR LLO) {b n x m o : Nat} {xs : Nat → Int32} {i : Int32} {c1 c2 : Nat} (hcc : X.V.cc = c1) (hcs : X.V.cs = c2) (hscr : SC X b n xs) (G : Mem) (K : Mem → Prop) (hK : ∀ G', K G' → J X 9 2474 [(0, .ref b), (1, .ref (X.B + x)), (2, .ref (X.B + m)), (3, .ref (X.B + o)), (4, .int i)] [] G') (h : wc_30 xs n x m o i c1 c2 G K) : J X 9 1744 [(0, .ref b), (1, .ref (X.B + x)), (2, .ref (X.B + m)), (3, .ref (X.B + o)), (4, .int i)] [] G := by
  unfold wc_30 at h
  refine j_aload_n ok dL_law_1744 rfl 1 rfl ?_
  obtain ⟨kq1, q1, hq1, h⟩ := h
  refine k_V1 ok kl_L_222 ⟨Nat.le_of_ble_eq_true rfl, Nat.le_of_ble_eq_true rfl⟩ [] kq1 rfl rfl (Nat.le_of_ble_eq_true rfl) (tX6_certainSquares ok.fl X.V x G hq1) dL_law_1745 ?_
  refine j_aload_n ok dL_law_1748 rfl 2 rfl ?_
  obtain ⟨kq2, q2, hq2, h⟩ := h
  refine k_V1 ok kl_L_225 ⟨Nat.le_of_ble_eq_true rfl, Nat.le_of_ble_eq_true rfl⟩ [] kq2 rfl rfl (Nat.le_of_ble_eq_true rfl) (tX7_certainSquares ok.fl X.V m q1.2 hq2) dL_law_1749 ?_
  by_cases c3 : q1.1 = q2.1
  · have h := h.1 c3
    refine j_icmp_eq (tgt := 2474) ok dL_law_1752 (by decide) (fun _ => ?_) (fun z => absurd c3 z)
    exact J.sub [0, 1, 2, 3, 4] rfl (hK _ h)
  · have h := h.2 c3
    refine j_icmp_eq (tgt := 2474) ok dL_law_1752 (by decide) (fun z => absurd z c3) (fun _ => ?_)
    refine j_iconst (v := 0) ok dL_law_1755 (by decide) ?_
    exact h.elim

def wc_31 (xs : Nat → Int32) (n x m o : Nat) (i : Int32) (c1 c2 : Nat) (G : Mem) (K : Mem → Prop) : Prop :=
  mt G x = 16 ∧ ∃ q1, fX6_gameCount x G = some q1 ∧ (
  mt q1.2 m = 17 ∧ ∃ q2, fX7_gameCount m q1.2 = some q2 ∧ (
  ((lg_cmp q1.1 q2.1) = (0 : Int32) → (
    K q2.2)) ∧ (¬ (lg_cmp q1.1 q2.1) = (0 : Int32) → (
    False))))

set_option maxRecDepth 100000 in
set_option maxHeartbeats 4000000 in
theorem jc_31 {X : Cx} (ok : OK X cL_law RL (some .boolean) 9 LFR LLO) {b n x m o : Nat} {xs : Nat → Int32} {i : Int32} {c1 c2 : Nat} (hcc : X.V.cc = c1) (hcs : X.V.cs = c2) (hscr : SC X b n xs) (G : Mem) (K : Mem → Prop) (hK : ∀ G', K G' → J X 9 2474 [(0, .ref b), (1, .ref (X.B + x)), (2, .ref (X.B + m)), (3, .ref (X.B + o)), (4, .int i)] [] G') (h : wc_31 xs n x m o i c1 c2 G K) : J X 9 1757 [(0, .ref b), (1, .ref (X.B + x)), (2, .ref (X.B + m)), (3, .ref (X.B + o)), (4, .int i)] [] G := by
  unfold wc_31 at h
  refine j_aload_n ok dL_law_1757 rfl 1 rfl ?_
  obtain ⟨kq1, q1, hq1, h⟩ := h
  refine k_V1 ok kl_L_226 ⟨Nat.le_of_ble_eq_true rfl, Nat.le_of_ble_eq_true rfl⟩ [] kq1 rfl rfl (Nat.le_of_ble_eq_true rfl) (tX6_gameCount ok.fl X.V x G hq1) dL_law_1758 ?_
  refine j_aload_n ok dL_law_1761 rfl 2 rfl ?_
  obtain ⟨kq2, q2, hq2, h⟩ := h
  refine k_V1 ok kl_L_230 ⟨Nat.le_of_ble_eq_true rfl, Nat.le_of_ble_eq_true rfl⟩ [] kq2 rfl rfl (Nat.le_of_ble_eq_true rfl) (tX7_gameCount ok.fl X.V m q1.2 hq2) dL_law_1762 ?_
  refine j_lcmp ok dL_law_1765 ?_
  by_cases c3 : (lg_cmp q1.1 q2.1) = (0 : Int32)
  · have h := h.1 c3
    refine j_if_eq (tgt := 2474) ok dL_law_1766 (by decide) (fun _ => ?_) (fun z => absurd c3 z)
    exact J.sub [0, 1, 2, 3, 4] rfl (hK _ h)
  · have h := h.2 c3
    refine j_if_eq (tgt := 2474) ok dL_law_1766 (by decide) (fun z => absurd z c3) (fun _ => ?_)
    refine j_iconst (v := 0) ok dL_law_1769 (by decide) ?_
    exact h.elim

def wc_32 (xs : Nat → Int32) (n x m o : Nat) (i : Int32) (c1 c2 : Nat) (G : Mem) (K : Mem → Prop) : Prop :=
  mt G x = 16 ∧ ∃ q1, fX6_isCertain x G = some q1 ∧ (
  mt q1.2 m = 17 ∧ ∃ q2, fX7_isCertain m q1.2 = some q2 ∧ (
  (q1.1 = q2.1 → (
    K q2.2)) ∧ (¬ q1.1 = q2.1 → (
    False))))

set_option maxRecDepth 100000 in
set_option maxHeartbeats 4000000 in
theorem jc_32 {X : Cx} (ok : OK X cL_law RL (some .boolean) 9 LFR LLO) {b n x m o : Nat} {xs : Nat → Int32} {i : Int32} {c1 c2 : Nat} (hcc : X.V.cc = c1) (hcs : X.V.cs = c2) (hscr : SC X b n xs) (G : Mem) (K : Mem → Prop) (hK : ∀ G', K G' → J X 9 2474 [(0, .ref b), (1, .ref (X.B + x)), (2, .ref (X.B + m)), (3, .ref (X.B + o)), (4, .int i)] [] G') (h : wc_32 xs n x m o i c1 c2 G K) : J X 9 1771 [(0, .ref b), (1, .ref (X.B + x)), (2, .ref (X.B + m)), (3, .ref (X.B + o)), (4, .int i)] [] G := by
  unfold wc_32 at h
  refine j_aload_n ok dL_law_1771 rfl 1 rfl ?_
  obtain ⟨kq1, q1, hq1, h⟩ := h
  refine k_V1 ok kl_L_231 ⟨Nat.le_of_ble_eq_true rfl, Nat.le_of_ble_eq_true rfl⟩ [] kq1 rfl rfl (Nat.le_of_ble_eq_true rfl) (tX6_isCertain ok.fl X.V x G hq1) dL_law_1772 ?_
  refine j_aload_n ok dL_law_1775 rfl 2 rfl ?_
  obtain ⟨kq2, q2, hq2, h⟩ := h
  refine k_V1 ok kl_L_235 ⟨Nat.le_of_ble_eq_true rfl, Nat.le_of_ble_eq_true rfl⟩ [] kq2 rfl rfl (Nat.le_of_ble_eq_true rfl) (tX7_isCertain ok.fl X.V m q1.2 hq2) dL_law_1776 ?_
  by_cases c3 : q1.1 = q2.1
  · have h := h.1 c3
    refine j_icmp_eq (tgt := 2474) ok dL_law_1779 (by decide) (fun _ => ?_) (fun z => absurd c3 z)
    exact J.sub [0, 1, 2, 3, 4] rfl (hK _ h)
  · have h := h.2 c3
    refine j_icmp_eq (tgt := 2474) ok dL_law_1779 (by decide) (fun z => absurd z c3) (fun _ => ?_)
    refine j_iconst (v := 0) ok dL_law_1782 (by decide) ?_
    exact h.elim

def wc_33 (xs : Nat → Int32) (n x m o : Nat) (i : Int32) (c1 c2 : Nat) (G : Mem) (K : Mem → Prop) : Prop :=
  inb (i + (1 : Int32)) n ∧ (
  wpL (fL_doubt x (xs ((i + (1 : Int32))).toNatClampNeg) o G) hsL_doubt c1 c2 (fun v2 G3 => (
  inb (i + (1 : Int32)) n ∧ (
  mt G3 m = 17 ∧ ∃ q6, fX7_doubt m (xs ((i + (1 : Int32))).toNatClampNeg) G3 = some q6 ∧ (
  mt q6.2 m = 17 ∧ ∃ q7, fX7_thrown m q6.2 = some q7 ∧ (
  (q7.1 = v2 → (
    (v2 = (0 : Int32) → (
      ∃ v10, gJ q7.2 o (0 : Int32) = some v10 ∧ (
      ((lg_cmp v10 q6.1.toInt64) = (0 : Int32) → (
        K q7.2)) ∧ (¬ (lg_cmp v10 q6.1.toInt64) = (0 : Int32) → (
        False))))) ∧ (¬ v2 = (0 : Int32) → (
      K q7.2)))) ∧ (¬ q7.1 = v2 → (
    False))))))))

set_option maxRecDepth 100000 in
set_option maxHeartbeats 4000000 in
theorem jc_33 {X : Cx} (ok : OK X cL_law RL (some .boolean) 9 LFR LLO) {b n x m o : Nat} {xs : Nat → Int32} {i : Int32} {c1 c2 : Nat} (hcc : X.V.cc = c1) (hcs : X.V.cs = c2) (hscr : SC X b n xs) (G : Mem) (K : Mem → Prop) (hK : ∀ G', K G' → J X 9 2474 [(0, .ref b), (1, .ref (X.B + x)), (2, .ref (X.B + m)), (3, .ref (X.B + o)), (4, .int i)] [] G') (h : wc_33 xs n x m o i c1 c2 G K) : J X 9 1784 [(0, .ref b), (1, .ref (X.B + x)), (2, .ref (X.B + m)), (3, .ref (X.B + o)), (4, .int i)] [] G := by
  unfold wc_33 at h
  refine j_aload_n ok dL_law_1784 rfl 1 rfl ?_
  refine j_aload_n ok dL_law_1785 rfl 0 rfl ?_
  refine j_iload ok dL_law_1786 4 rfl ?_
  refine j_iconst (v := 1) ok dL_law_1788 (by decide) ?_
  refine j_iadd ok dL_law_1789 ?_
  obtain ⟨hz1, h⟩ := h
  refine j_scr ok hscr hz1 dL_law_1790 ?_
  refine j_aload_n ok dL_law_1791 rfl 3 rfl ?_
  have hw4 := h
  obtain ⟨q0, hq0, -⟩ := h
  refine k_L ok kl_L_236 ⟨Nat.le_of_ble_eq_true rfl, Nat.le_of_ble_eq_true rfl⟩ [.ref (X.B + x), .int (xs ((i + (1 : Int32))).toNatClampNeg), .ref (X.B + o)] rfl rfl (Nat.le_of_ble_eq_true rfl) (tL_doubt ok.fl X.V x (xs ((i + (1 : Int32))).toNatClampNeg) o G (by rw [hq0]; rfl)) dL_law_1792 (fun v2 G3 hP => ?_)
  rw [hcc, hcs] at hP
  have h := pl_wp hw4 hP
  clear hw4 hP hq0
  refine j_istore (L' := [(5, .int v2), (0, .ref b), (1, .ref (X.B + x)), (2, .ref (X.B + m)), (3, .ref (X.B + o)), (4, .int i)]) ok dL_law_1795 (by decide) rfl ?_
  refine j_aload_n ok dL_law_1797 rfl 3 rfl ?_
  refine j_aload_n ok dL_law_1798 rfl 1 rfl ?_
  refine j_iload ok dL_law_1799 5 rfl ?_
  refine j_iconst (v := 1) ok dL_law_1801 (by decide) ?_
  refine j_iadd ok dL_law_1802 ?_
  obtain ⟨hz5, h⟩ := h
  refine j_scr ok hscr hz5 dL_law_1803 ?_
  obtain ⟨kq6, q6, hq6, h⟩ := h
  refine k_V1 ok kl_L_238 ⟨Nat.le_of_ble_eq_true rfl, Nat.le_of_ble_eq_true rfl⟩ [.int (xs ((i + (1 : Int32))).toNatClampNeg)] kq6 rfl rfl (Nat.le_of_ble_eq_true rfl) (tX7_doubt ok.fl X.V m (xs ((i + (1 : Int32))).toNatClampNeg) G3 hq6) dL_law_1804 ?_
  refine j_istore (L' := [(6, .int q6.1), (5, .int v2), (0, .ref b), (1, .ref (X.B + x)), (2, .ref (X.B + m)), (3, .ref (X.B + o)), (4, .int i)]) ok dL_law_1807 (by decide) rfl ?_
  refine j_aload_n ok dL_law_1809 rfl 4 rfl ?_
  obtain ⟨kq7, q7, hq7, h⟩ := h
  refine k_V1 ok kl_L_122 ⟨Nat.le_of_ble_eq_true rfl, Nat.le_of_ble_eq_true rfl⟩ [] kq7 rfl rfl (Nat.le_of_ble_eq_true rfl) (tX7_thrown ok.fl X.V m q6.2 hq7) dL_law_1810 ?_
  refine j_iload ok dL_law_1813 1 rfl ?_
  by_cases c8 : q7.1 = v2
  · have h := h.1 c8
    refine j_icmp_eq (tgt := 1820) ok dL_law_1815 (by decide) (fun _ => ?_) (fun z => absurd c8 z)
    refine j_iload ok dL_law_1820 1 rfl ?_
    by_cases c9 : v2 = (0 : Int32)
    · have h := h.1 c9
      refine j_if_ne (tgt := 1837) ok dL_law_1822 (by decide) (fun z => absurd c9 z) (fun _ => ?_)
      refine j_aload_n ok dL_law_1825 rfl 5 rfl ?_
      refine j_iconst (v := 0) ok dL_law_1826 (by decide) ?_
      obtain ⟨v10, hv10, h⟩ := h
      refine j_lald ok hv10 dL_law_1827 ?_
      refine j_iload ok dL_law_1828 0 rfl ?_
      refine j_i2l ok dL_law_1830 ?_
      refine j_lcmp ok dL_law_1831 ?_
      by_cases c11 : (lg_cmp v10 q6.1.toInt64) = (0 : Int32)
      · have h := h.1 c11
        refine j_if_eq (tgt := 1837) ok dL_law_1832 (by decide) (fun _ => ?_) (fun z => absurd c11 z)
        refine j_goto (tgt := 2474) ok dL_law_1837 (by decide) ?_
        exact J.sub [2, 3, 4, 5, 6] rfl (hK _ h)
      · have h := h.2 c11
        refine j_if_eq (tgt := 1837) ok dL_law_1832 (by decide) (fun z => absurd z c11) (fun _ => ?_)
        refine j_iconst (v := 0) ok dL_law_1835 (by decide) ?_
        exact h.elim
    · have h := h.2 c9
      refine j_if_ne (tgt := 1837) ok dL_law_1822 (by decide) (fun _ => ?_) (fun z => absurd z c9)
      refine j_goto (tgt := 2474) ok dL_law_1837 (by decide) ?_
      exact J.sub [2, 3, 4, 5, 6] rfl (hK _ h)
  · have h := h.2 c8
    refine j_icmp_eq (tgt := 1820) ok dL_law_1815 (by decide) (fun z => absurd z c8) (fun _ => ?_)
    refine j_iconst (v := 0) ok dL_law_1818 (by decide) ?_
    exact h.elim

def wc_34 (xs : Nat → Int32) (n x m o : Nat) (i : Int32) (c1 c2 : Nat) (G : Mem) (K : Mem → Prop) : Prop :=
  inb (i + (1 : Int32)) n ∧ (
  inb (i + (2 : Int32)) n ∧ (
  wpL (fL_moveOrigin x (xs ((i + (1 : Int32))).toNatClampNeg) (xs ((i + (2 : Int32))).toNatClampNeg) o G) hsL_moveOrigin c1 c2 (fun v3 G4 => (
  inb (i + (1 : Int32)) n ∧ (
  inb (i + (2 : Int32)) n ∧ (
  mt G4 m = 17 ∧ ∃ q8, fX7_moveOrigin m (xs ((i + (1 : Int32))).toNatClampNeg) (xs ((i + (2 : Int32))).toNatClampNeg) G4 = some q8 ∧ (
  mt q8.2 m = 17 ∧ ∃ q9, fX7_thrown m q8.2 = some q9 ∧ (
  (q9.1 = v3 → (
    (v3 = (0 : Int32) → (
      ∃ v12, gJ q9.2 o (0 : Int32) = some v12 ∧ (
      ((lg_cmp v12 q8.1.toInt64) = (0 : Int32) → (
        K q9.2)) ∧ (¬ (lg_cmp v12 q8.1.toInt64) = (0 : Int32) → (
        False))))) ∧ (¬ v3 = (0 : Int32) → (
      K q9.2)))) ∧ (¬ q9.1 = v3 → (
    False))))))))))

set_option maxRecDepth 100000 in
set_option maxHeartbeats 4000000 in
theorem jc_34 {X : Cx} (ok : OK X cL_law RL (some .boolean) 9 LFR LLO) {b n x m o : Nat} {xs : Nat → Int32} {i : Int32} {c1 c2 : Nat} (hcc : X.V.cc = c1) (hcs : X.V.cs = c2) (hscr : SC X b n xs) (G : Mem) (K : Mem → Prop) (hK : ∀ G', K G' → J X 9 2474 [(0, .ref b), (1, .ref (X.B + x)), (2, .ref (X.B + m)), (3, .ref (X.B + o)), (4, .int i)] [] G') (h : wc_34 xs n x m o i c1 c2 G K) : J X 9 1840 [(0, .ref b), (1, .ref (X.B + x)), (2, .ref (X.B + m)), (3, .ref (X.B + o)), (4, .int i)] [] G := by
  unfold wc_34 at h
  refine j_aload_n ok dL_law_1840 rfl 1 rfl ?_
  refine j_aload_n ok dL_law_1841 rfl 0 rfl ?_
  refine j_iload ok dL_law_1842 4 rfl ?_
  refine j_iconst (v := 1) ok dL_law_1844 (by decide) ?_
  refine j_iadd ok dL_law_1845 ?_
  obtain ⟨hz1, h⟩ := h
  refine j_scr ok hscr hz1 dL_law_1846 ?_
  refine j_aload_n ok dL_law_1847 rfl 0 rfl ?_
  refine j_iload ok dL_law_1848 4 rfl ?_
  refine j_iconst (v := 2) ok dL_law_1850 (by decide) ?_
  refine j_iadd ok dL_law_1851 ?_
  obtain ⟨hz2, h⟩ := h
  refine j_scr ok hscr hz2 dL_law_1852 ?_
  refine j_aload_n ok dL_law_1853 rfl 3 rfl ?_
  have hw5 := h
  obtain ⟨q0, hq0, -⟩ := h
  refine k_L ok kl_L_239 ⟨Nat.le_of_ble_eq_true rfl, Nat.le_of_ble_eq_true rfl⟩ [.ref (X.B + x), .int (xs ((i + (1 : Int32))).toNatClampNeg), .int (xs ((i + (2 : Int32))).toNatClampNeg), .ref (X.B + o)] rfl rfl (Nat.le_of_ble_eq_true rfl) (tL_moveOrigin ok.fl X.V x (xs ((i + (1 : Int32))).toNatClampNeg) (xs ((i + (2 : Int32))).toNatClampNeg) o G (by rw [hq0]; rfl)) dL_law_1854 (fun v3 G4 hP => ?_)
  rw [hcc, hcs] at hP
  have h := pl_wp hw5 hP
  clear hw5 hP hq0
  refine j_istore (L' := [(5, .int v3), (0, .ref b), (1, .ref (X.B + x)), (2, .ref (X.B + m)), (3, .ref (X.B + o)), (4, .int i)]) ok dL_law_1857 (by decide) rfl ?_
  refine j_aload_n ok dL_law_1859 rfl 3 rfl ?_
  refine j_aload_n ok dL_law_1860 rfl 1 rfl ?_
  refine j_iload ok dL_law_1861 5 rfl ?_
  refine j_iconst (v := 1) ok dL_law_1863 (by decide) ?_
  refine j_iadd ok dL_law_1864 ?_
  obtain ⟨hz6, h⟩ := h
  refine j_scr ok hscr hz6 dL_law_1865 ?_
  refine j_aload_n ok dL_law_1866 rfl 1 rfl ?_
  refine j_iload ok dL_law_1867 5 rfl ?_
  refine j_iconst (v := 2) ok dL_law_1869 (by decide) ?_
  refine j_iadd ok dL_law_1870 ?_
  obtain ⟨hz7, h⟩ := h
  refine j_scr ok hscr hz7 dL_law_1871 ?_
  obtain ⟨kq8, q8, hq8, h⟩ := h
  refine k_V1 ok kl_L_242 ⟨Nat.le_of_ble_eq_true rfl, Nat.le_of_ble_eq_true rfl⟩ [.int (xs ((i + (1 : Int32))).toNatClampNeg), .int (xs ((i + (2 : Int32))).toNatClampNeg)] kq8 rfl rfl (Nat.le_of_ble_eq_true rfl) (tX7_moveOrigin ok.fl X.V m (xs ((i + (1 : Int32))).toNatClampNeg) (xs ((i + (2 : Int32))).toNatClampNeg) G4 hq8) dL_law_1872 ?_
  refine j_istore (L' := [(6, .int q8.1), (5, .int v3), (0, .ref b), (1, .ref (X.B + x)), (2, .ref (X.B + m)), (3, .ref (X.B + o)), (4, .int i)]) ok dL_law_1875 (by decide) rfl ?_
  refine j_aload_n ok dL_law_1877 rfl 4 rfl ?_
  obtain ⟨kq9, q9, hq9, h⟩ := h
  refine k_V1 ok kl_L_122 ⟨Nat.le_of_ble_eq_true rfl, Nat.le_of_ble_eq_true rfl⟩ [] kq9 rfl rfl (Nat.le_of_ble_eq_true rfl) (tX7_thrown ok.fl X.V m q8.2 hq9) dL_law_1878 ?_
  refine j_iload ok dL_law_1881 1 rfl ?_
  by_cases c10 : q9.1 = v3
  · have h := h.1 c10
    refine j_icmp_eq (tgt := 1888) ok dL_law_1883 (by decide) (fun _ => ?_) (fun z => absurd c10 z)
    refine j_iload ok dL_law_1888 1 rfl ?_
    by_cases c11 : v3 = (0 : Int32)
    · have h := h.1 c11
      refine j_if_ne (tgt := 1905) ok dL_law_1890 (by decide) (fun z => absurd c11 z) (fun _ => ?_)
      refine j_aload_n ok dL_law_1893 rfl 5 rfl ?_
      refine j_iconst (v := 0) ok dL_law_1894 (by decide) ?_
      obtain ⟨v12, hv12, h⟩ := h
      refine j_lald ok hv12 dL_law_1895 ?_
      refine j_iload ok dL_law_1896 0 rfl ?_
      refine j_i2l ok dL_law_1898 ?_
      refine j_lcmp ok dL_law_1899 ?_
      by_cases c13 : (lg_cmp v12 q8.1.toInt64) = (0 : Int32)
      · have h := h.1 c13
        refine j_if_eq (tgt := 1905) ok dL_law_1900 (by decide) (fun _ => ?_) (fun z => absurd c13 z)
        refine j_goto (tgt := 2474) ok dL_law_1905 (by decide) ?_
        exact J.sub [2, 3, 4, 5, 6] rfl (hK _ h)
      · have h := h.2 c13
        refine j_if_eq (tgt := 1905) ok dL_law_1900 (by decide) (fun z => absurd z c13) (fun _ => ?_)
        refine j_iconst (v := 0) ok dL_law_1903 (by decide) ?_
        exact h.elim
    · have h := h.2 c11
      refine j_if_ne (tgt := 1905) ok dL_law_1890 (by decide) (fun _ => ?_) (fun z => absurd z c11)
      refine j_goto (tgt := 2474) ok dL_law_1905 (by decide) ?_
      exact J.sub [2, 3, 4, 5, 6] rfl (hK _ h)
  · have h := h.2 c10
    refine j_icmp_eq (tgt := 1888) ok dL_law_1883 (by decide) (fun z => absurd z c10) (fun _ => ?_)
    refine j_iconst (v := 0) ok dL_law_1886 (by decide) ?_
    exact h.elim

def wc_35 (xs : Nat → Int32) (n x m o : Nat) (i : Int32) (c1 c2 : Nat) (G : Mem) (K : Mem → Prop) : Prop :=
  inb (i + (1 : Int32)) n ∧ (
  inb (i + (2 : Int32)) n ∧ (
  wpL (fL_moveTarget x (xs ((i + (1 : Int32))).toNatClampNeg) (xs ((i + (2 : Int32))).toNatClampNeg) o G) hsL_moveTarget c1 c2 (fun v3 G4 => (
  inb (i + (1 : Int32)) n ∧ (
  inb (i + (2 : Int32)) n ∧ (
  mt G4 m = 17 ∧ ∃ q8, fX7_moveTarget m (xs ((i + (1 : Int32))).toNatClampNeg) (xs ((i + (2 : Int32))).toNatClampNeg) G4 = some q8 ∧ (
  mt q8.2 m = 17 ∧ ∃ q9, fX7_thrown m q8.2 = some q9 ∧ (
  (q9.1 = v3 → (
    (v3 = (0 : Int32) → (
      ∃ v12, gJ q9.2 o (0 : Int32) = some v12 ∧ (
      ((lg_cmp v12 q8.1.toInt64) = (0 : Int32) → (
        K q9.2)) ∧ (¬ (lg_cmp v12 q8.1.toInt64) = (0 : Int32) → (
        False))))) ∧ (¬ v3 = (0 : Int32) → (
      K q9.2)))) ∧ (¬ q9.1 = v3 → (
    False))))))))))

set_option maxRecDepth 100000 in
set_option maxHeartbeats 4000000 in
theorem jc_35 {X : Cx} (ok : OK X cL_law RL (some .boolean) 9 LFR LLO) {b n x m o : Nat} {xs : Nat → Int32} {i : Int32} {c1 c2 : Nat} (hcc : X.V.cc = c1) (hcs : X.V.cs = c2) (hscr : SC X b n xs) (G : Mem) (K : Mem → Prop) (hK : ∀ G', K G' → J X 9 2474 [(0, .ref b), (1, .ref (X.B + x)), (2, .ref (X.B + m)), (3, .ref (X.B + o)), (4, .int i)] [] G') (h : wc_35 xs n x m o i c1 c2 G K) : J X 9 1908 [(0, .ref b), (1, .ref (X.B + x)), (2, .ref (X.B + m)), (3, .ref (X.B + o)), (4, .int i)] [] G := by
  unfold wc_35 at h
  refine j_aload_n ok dL_law_1908 rfl 1 rfl ?_
  refine j_aload_n ok dL_law_1909 rfl 0 rfl ?_
  refine j_iload ok dL_law_1910 4 rfl ?_
  refine j_iconst (v := 1) ok dL_law_1912 (by decide) ?_
  refine j_iadd ok dL_law_1913 ?_
  obtain ⟨hz1, h⟩ := h
  refine j_scr ok hscr hz1 dL_law_1914 ?_
  refine j_aload_n ok dL_law_1915 rfl 0 rfl ?_
  refine j_iload ok dL_law_1916 4 rfl ?_
  refine j_iconst (v := 2) ok dL_law_1918 (by decide) ?_
  refine j_iadd ok dL_law_1919 ?_
  obtain ⟨hz2, h⟩ := h
  refine j_scr ok hscr hz2 dL_law_1920 ?_
  refine j_aload_n ok dL_law_1921 rfl 3 rfl ?_
  have hw5 := h
  obtain ⟨q0, hq0, -⟩ := h
  refine k_L ok kl_L_243 ⟨Nat.le_of_ble_eq_true rfl, Nat.le_of_ble_eq_true rfl⟩ [.ref (X.B + x), .int (xs ((i + (1 : Int32))).toNatClampNeg), .int (xs ((i + (2 : Int32))).toNatClampNeg), .ref (X.B + o)] rfl rfl (Nat.le_of_ble_eq_true rfl) (tL_moveTarget ok.fl X.V x (xs ((i + (1 : Int32))).toNatClampNeg) (xs ((i + (2 : Int32))).toNatClampNeg) o G (by rw [hq0]; rfl)) dL_law_1922 (fun v3 G4 hP => ?_)
  rw [hcc, hcs] at hP
  have h := pl_wp hw5 hP
  clear hw5 hP hq0
  refine j_istore (L' := [(5, .int v3), (0, .ref b), (1, .ref (X.B + x)), (2, .ref (X.B + m)), (3, .ref (X.B + o)), (4, .int i)]) ok dL_law_1925 (by decide) rfl ?_
  refine j_aload_n ok dL_law_1927 rfl 3 rfl ?_
  refine j_aload_n ok dL_law_1928 rfl 1 rfl ?_
  refine j_iload ok dL_law_1929 5 rfl ?_
  refine j_iconst (v := 1) ok dL_law_1931 (by decide) ?_
  refine j_iadd ok dL_law_1932 ?_
  obtain ⟨hz6, h⟩ := h
  refine j_scr ok hscr hz6 dL_law_1933 ?_
  refine j_aload_n ok dL_law_1934 rfl 1 rfl ?_
  refine j_iload ok dL_law_1935 5 rfl ?_
  refine j_iconst (v := 2) ok dL_law_1937 (by decide) ?_
  refine j_iadd ok dL_law_1938 ?_
  obtain ⟨hz7, h⟩ := h
  refine j_scr ok hscr hz7 dL_law_1939 ?_
  obtain ⟨kq8, q8, hq8, h⟩ := h
  refine k_V1 ok kl_L_245 ⟨Nat.le_of_ble_eq_true rfl, Nat.le_of_ble_eq_true rfl⟩ [.int (xs ((i + (1 : Int32))).toNatClampNeg), .int (xs ((i + (2 : Int32))).toNatClampNeg)] kq8 rfl rfl (Nat.le_of_ble_eq_true rfl) (tX7_moveTarget ok.fl X.V m (xs ((i + (1 : Int32))).toNatClampNeg) (xs ((i + (2 : Int32))).toNatClampNeg) G4 hq8) dL_law_1940 ?_
  refine j_istore (L' := [(6, .int q8.1), (5, .int v3), (0, .ref b), (1, .ref (X.B + x)), (2, .ref (X.B + m)), (3, .ref (X.B + o)), (4, .int i)]) ok dL_law_1943 (by decide) rfl ?_
  refine j_aload_n ok dL_law_1945 rfl 4 rfl ?_
  obtain ⟨kq9, q9, hq9, h⟩ := h
  refine k_V1 ok kl_L_122 ⟨Nat.le_of_ble_eq_true rfl, Nat.le_of_ble_eq_true rfl⟩ [] kq9 rfl rfl (Nat.le_of_ble_eq_true rfl) (tX7_thrown ok.fl X.V m q8.2 hq9) dL_law_1946 ?_
  refine j_iload ok dL_law_1949 1 rfl ?_
  by_cases c10 : q9.1 = v3
  · have h := h.1 c10
    refine j_icmp_eq (tgt := 1956) ok dL_law_1951 (by decide) (fun _ => ?_) (fun z => absurd c10 z)
    refine j_iload ok dL_law_1956 1 rfl ?_
    by_cases c11 : v3 = (0 : Int32)
    · have h := h.1 c11
      refine j_if_ne (tgt := 1973) ok dL_law_1958 (by decide) (fun z => absurd c11 z) (fun _ => ?_)
      refine j_aload_n ok dL_law_1961 rfl 5 rfl ?_
      refine j_iconst (v := 0) ok dL_law_1962 (by decide) ?_
      obtain ⟨v12, hv12, h⟩ := h
      refine j_lald ok hv12 dL_law_1963 ?_
      refine j_iload ok dL_law_1964 0 rfl ?_
      refine j_i2l ok dL_law_1966 ?_
      refine j_lcmp ok dL_law_1967 ?_
      by_cases c13 : (lg_cmp v12 q8.1.toInt64) = (0 : Int32)
      · have h := h.1 c13
        refine j_if_eq (tgt := 1973) ok dL_law_1968 (by decide) (fun _ => ?_) (fun z => absurd c13 z)
        refine j_goto (tgt := 2474) ok dL_law_1973 (by decide) ?_
        exact J.sub [2, 3, 4, 5, 6] rfl (hK _ h)
      · have h := h.2 c13
        refine j_if_eq (tgt := 1973) ok dL_law_1968 (by decide) (fun z => absurd z c13) (fun _ => ?_)
        refine j_iconst (v := 0) ok dL_law_1971 (by decide) ?_
        exact h.elim
    · have h := h.2 c11
      refine j_if_ne (tgt := 1973) ok dL_law_1958 (by decide) (fun _ => ?_) (fun z => absurd z c11)
      refine j_goto (tgt := 2474) ok dL_law_1973 (by decide) ?_
      exact J.sub [2, 3, 4, 5, 6] rfl (hK _ h)
  · have h := h.2 c10
    refine j_icmp_eq (tgt := 1956) ok dL_law_1951 (by decide) (fun z => absurd z c10) (fun _ => ?_)
    refine j_iconst (v := 0) ok dL_law_1954 (by decide) ?_
    exact h.elim

def wc_36 (xs : Nat → Int32) (n x m o : Nat) (i : Int32) (c1 c2 : Nat) (G : Mem) (K : Mem → Prop) : Prop :=
  inb (i + (1 : Int32)) n ∧ (
  inb (i + (2 : Int32)) n ∧ (
  wpL (fL_gamesWithMove x (xs ((i + (1 : Int32))).toNatClampNeg) (xs ((i + (2 : Int32))).toNatClampNeg) o G) hsL_gamesWithMove c1 c2 (fun v3 G4 => (
  inb (i + (1 : Int32)) n ∧ (
  inb (i + (2 : Int32)) n ∧ (
  mt G4 m = 17 ∧ ∃ q8, fX7_gamesWithMove m (xs ((i + (1 : Int32))).toNatClampNeg) (xs ((i + (2 : Int32))).toNatClampNeg) G4 = some q8 ∧ (
  mt q8.2 m = 17 ∧ ∃ q9, fX7_thrown m q8.2 = some q9 ∧ (
  (q9.1 = v3 → (
    (v3 = (0 : Int32) → (
      ∃ v12, gJ q9.2 o (0 : Int32) = some v12 ∧ (
      ((lg_cmp v12 q8.1) = (0 : Int32) → (
        K q9.2)) ∧ (¬ (lg_cmp v12 q8.1) = (0 : Int32) → (
        False))))) ∧ (¬ v3 = (0 : Int32) → (
      K q9.2)))) ∧ (¬ q9.1 = v3 → (
    False))))))))))

set_option maxRecDepth 100000 in
set_option maxHeartbeats 4000000 in
theorem jc_36 {X : Cx} (ok : OK X cL_law RL (some .boolean) 9 LFR LLO) {b n x m o : Nat} {xs : Nat → Int32} {i : Int32} {c1 c2 : Nat} (hcc : X.V.cc = c1) (hcs : X.V.cs = c2) (hscr : SC X b n xs) (G : Mem) (K : Mem → Prop) (hK : ∀ G', K G' → J X 9 2474 [(0, .ref b), (1, .ref (X.B + x)), (2, .ref (X.B + m)), (3, .ref (X.B + o)), (4, .int i)] [] G') (h : wc_36 xs n x m o i c1 c2 G K) : J X 9 1976 [(0, .ref b), (1, .ref (X.B + x)), (2, .ref (X.B + m)), (3, .ref (X.B + o)), (4, .int i)] [] G := by
  unfold wc_36 at h
  refine j_aload_n ok dL_law_1976 rfl 1 rfl ?_
  refine j_aload_n ok dL_law_1977 rfl 0 rfl ?_
  refine j_iload ok dL_law_1978 4 rfl ?_
  refine j_iconst (v := 1) ok dL_law_1980 (by decide) ?_
  refine j_iadd ok dL_law_1981 ?_
  obtain ⟨hz1, h⟩ := h
  refine j_scr ok hscr hz1 dL_law_1982 ?_
  refine j_aload_n ok dL_law_1983 rfl 0 rfl ?_
  refine j_iload ok dL_law_1984 4 rfl ?_
  refine j_iconst (v := 2) ok dL_law_1986 (by decide) ?_
  refine j_iadd ok dL_law_1987 ?_
  obtain ⟨hz2, h⟩ := h
  refine j_scr ok hscr hz2 dL_law_1988 ?_
  refine j_aload_n ok dL_law_1989 rfl 3 rfl ?_
  have hw5 := h
  obtain ⟨q0, hq0, -⟩ := h
  refine k_L ok kl_L_246 ⟨Nat.le_of_ble_eq_true rfl, Nat.le_of_ble_eq_true rfl⟩ [.ref (X.B + x), .int (xs ((i + (1 : Int32))).toNatClampNeg), .int (xs ((i + (2 : Int32))).toNatClampNeg), .ref (X.B + o)] rfl rfl (Nat.le_of_ble_eq_true rfl) (tL_gamesWithMove ok.fl X.V x (xs ((i + (1 : Int32))).toNatClampNeg) (xs ((i + (2 : Int32))).toNatClampNeg) o G (by rw [hq0]; rfl)) dL_law_1990 (fun v3 G4 hP => ?_)
  rw [hcc, hcs] at hP
  have h := pl_wp hw5 hP
  clear hw5 hP hq0
  refine j_istore (L' := [(5, .int v3), (0, .ref b), (1, .ref (X.B + x)), (2, .ref (X.B + m)), (3, .ref (X.B + o)), (4, .int i)]) ok dL_law_1993 (by decide) rfl ?_
  refine j_aload_n ok dL_law_1995 rfl 3 rfl ?_
  refine j_aload_n ok dL_law_1996 rfl 1 rfl ?_
  refine j_iload ok dL_law_1997 5 rfl ?_
  refine j_iconst (v := 1) ok dL_law_1999 (by decide) ?_
  refine j_iadd ok dL_law_2000 ?_
  obtain ⟨hz6, h⟩ := h
  refine j_scr ok hscr hz6 dL_law_2001 ?_
  refine j_aload_n ok dL_law_2002 rfl 1 rfl ?_
  refine j_iload ok dL_law_2003 5 rfl ?_
  refine j_iconst (v := 2) ok dL_law_2005 (by decide) ?_
  refine j_iadd ok dL_law_2006 ?_
  obtain ⟨hz7, h⟩ := h
  refine j_scr ok hscr hz7 dL_law_2007 ?_
  obtain ⟨kq8, q8, hq8, h⟩ := h
  refine k_V1 ok kl_L_248 ⟨Nat.le_of_ble_eq_true rfl, Nat.le_of_ble_eq_true rfl⟩ [.int (xs ((i + (1 : Int32))).toNatClampNeg), .int (xs ((i + (2 : Int32))).toNatClampNeg)] kq8 rfl rfl (Nat.le_of_ble_eq_true rfl) (tX7_gamesWithMove ok.fl X.V m (xs ((i + (1 : Int32))).toNatClampNeg) (xs ((i + (2 : Int32))).toNatClampNeg) G4 hq8) dL_law_2008 ?_
  refine j_lstore (L' := [(6, .long q8.1), (5, .int v3), (0, .ref b), (1, .ref (X.B + x)), (2, .ref (X.B + m)), (3, .ref (X.B + o)), (4, .int i)]) ok dL_law_2011 (by decide) rfl ?_
  refine j_aload_n ok dL_law_2013 rfl 4 rfl ?_
  obtain ⟨kq9, q9, hq9, h⟩ := h
  refine k_V1 ok kl_L_122 ⟨Nat.le_of_ble_eq_true rfl, Nat.le_of_ble_eq_true rfl⟩ [] kq9 rfl rfl (Nat.le_of_ble_eq_true rfl) (tX7_thrown ok.fl X.V m q8.2 hq9) dL_law_2014 ?_
  refine j_iload ok dL_law_2017 1 rfl ?_
  by_cases c10 : q9.1 = v3
  · have h := h.1 c10
    refine j_icmp_eq (tgt := 2024) ok dL_law_2019 (by decide) (fun _ => ?_) (fun z => absurd c10 z)
    refine j_iload ok dL_law_2024 1 rfl ?_
    by_cases c11 : v3 = (0 : Int32)
    · have h := h.1 c11
      refine j_if_ne (tgt := 2040) ok dL_law_2026 (by decide) (fun z => absurd c11 z) (fun _ => ?_)
      refine j_aload_n ok dL_law_2029 rfl 5 rfl ?_
      refine j_iconst (v := 0) ok dL_law_2030 (by decide) ?_
      obtain ⟨v12, hv12, h⟩ := h
      refine j_lald ok hv12 dL_law_2031 ?_
      refine j_lload ok dL_law_2032 0 rfl ?_
      refine j_lcmp ok dL_law_2034 ?_
      by_cases c13 : (lg_cmp v12 q8.1) = (0 : Int32)
      · have h := h.1 c13
        refine j_if_eq (tgt := 2040) ok dL_law_2035 (by decide) (fun _ => ?_) (fun z => absurd c13 z)
        refine j_goto (tgt := 2474) ok dL_law_2040 (by decide) ?_
        exact J.sub [2, 3, 4, 5, 6] rfl (hK _ h)
      · have h := h.2 c13
        refine j_if_eq (tgt := 2040) ok dL_law_2035 (by decide) (fun z => absurd z c13) (fun _ => ?_)
        refine j_iconst (v := 0) ok dL_law_2038 (by decide) ?_
        exact h.elim
    · have h := h.2 c11
      refine j_if_ne (tgt := 2040) ok dL_law_2026 (by decide) (fun _ => ?_) (fun z => absurd z c11)
      refine j_goto (tgt := 2474) ok dL_law_2040 (by decide) ?_
      exact J.sub [2, 3, 4, 5, 6] rfl (hK _ h)
  · have h := h.2 c10
    refine j_icmp_eq (tgt := 2024) ok dL_law_2019 (by decide) (fun z => absurd z c10) (fun _ => ?_)
    refine j_iconst (v := 0) ok dL_law_2022 (by decide) ?_
    exact h.elim

def wc_37 (xs : Nat → Int32) (n x m o : Nat) (i : Int32) (c1 c2 : Nat) (G : Mem) (K : Mem → Prop) : Prop :=
  inb (i + (1 : Int32)) n ∧ (
  inb (i + (2 : Int32)) n ∧ (
  inb (i + (3 : Int32)) n ∧ (
  inb (i + (4 : Int32)) n ∧ (
  wpL (fL_gamesWithPiece x (xs ((i + (1 : Int32))).toNatClampNeg) (xs ((i + (2 : Int32))).toNatClampNeg) (xs ((i + (3 : Int32))).toNatClampNeg) (xs ((i + (4 : Int32))).toNatClampNeg) o G) hsL_gamesWithPiece c1 c2 (fun v5 G6 => (
  inb (i + (1 : Int32)) n ∧ (
  inb (i + (2 : Int32)) n ∧ (
  inb (i + (3 : Int32)) n ∧ (
  inb (i + (4 : Int32)) n ∧ (
  mt G6 m = 17 ∧ ∃ q12, fX7_gamesWithPiece m (xs ((i + (1 : Int32))).toNatClampNeg) (xs ((i + (2 : Int32))).toNatClampNeg) (xs ((i + (3 : Int32))).toNatClampNeg) (xs ((i + (4 : Int32))).toNatClampNeg) G6 = some q12 ∧ (
  mt q12.2 m = 17 ∧ ∃ q13, fX7_thrown m q12.2 = some q13 ∧ (
  (q13.1 = v5 → (
    (v5 = (0 : Int32) → (
      ∃ v16, gJ q13.2 o (0 : Int32) = some v16 ∧ (
      ((lg_cmp v16 q12.1) = (0 : Int32) → (
        K q13.2)) ∧ (¬ (lg_cmp v16 q12.1) = (0 : Int32) → (
        False))))) ∧ (¬ v5 = (0 : Int32) → (
      K q13.2)))) ∧ (¬ q13.1 = v5 → (
    False))))))))))))))

set_option maxRecDepth 100000 in
set_option maxHeartbeats 4000000 in
theorem jc_37 {X : Cx} (ok : OK X cL_law RL (some .boolean) 9 LFR LLO) {b n x m o : Nat} {xs : Nat → Int32} {i : Int32} {c1 c2 : Nat} (hcc : X.V.cc = c1) (hcs : X.V.cs = c2) (hscr : SC X b n xs) (G : Mem) (K : Mem → Prop) (hK : ∀ G', K G' → J X 9 2474 [(0, .ref b), (1, .ref (X.B + x)), (2, .ref (X.B + m)), (3, .ref (X.B + o)), (4, .int i)] [] G') (h : wc_37 xs n x m o i c1 c2 G K) : J X 9 2043 [(0, .ref b), (1, .ref (X.B + x)), (2, .ref (X.B + m)), (3, .ref (X.B + o)), (4, .int i)] [] G := by
  unfold wc_37 at h
  refine j_aload_n ok dL_law_2043 rfl 1 rfl ?_
  refine j_aload_n ok dL_law_2044 rfl 0 rfl ?_
  refine j_iload ok dL_law_2045 4 rfl ?_
  refine j_iconst (v := 1) ok dL_law_2047 (by decide) ?_
  refine j_iadd ok dL_law_2048 ?_
  obtain ⟨hz1, h⟩ := h
  refine j_scr ok hscr hz1 dL_law_2049 ?_
  refine j_aload_n ok dL_law_2050 rfl 0 rfl ?_
  refine j_iload ok dL_law_2051 4 rfl ?_
  refine j_iconst (v := 2) ok dL_law_2053 (by decide) ?_
  refine j_iadd ok dL_law_2054 ?_
  obtain ⟨hz2, h⟩ := h
  refine j_scr ok hscr hz2 dL_law_2055 ?_
  refine j_aload_n ok dL_law_2056 rfl 0 rfl ?_
  refine j_iload ok dL_law_2057 4 rfl ?_
  refine j_iconst (v := 3) ok dL_law_2059 (by decide) ?_
  refine j_iadd ok dL_law_2060 ?_
  obtain ⟨hz3, h⟩ := h
  refine j_scr ok hscr hz3 dL_law_2061 ?_
  refine j_aload_n ok dL_law_2062 rfl 0 rfl ?_
  refine j_iload ok dL_law_2063 4 rfl ?_
  refine j_iconst (v := 4) ok dL_law_2065 (by decide) ?_
  refine j_iadd ok dL_law_2066 ?_
  obtain ⟨hz4, h⟩ := h
  refine j_scr ok hscr hz4 dL_law_2067 ?_
  refine j_aload_n ok dL_law_2068 rfl 3 rfl ?_
  have hw7 := h
  obtain ⟨q0, hq0, -⟩ := h
  refine k_L ok kl_L_249 ⟨Nat.le_of_ble_eq_true rfl, Nat.le_of_ble_eq_true rfl⟩ [.ref (X.B + x), .int (xs ((i + (1 : Int32))).toNatClampNeg), .int (xs ((i + (2 : Int32))).toNatClampNeg), .int (xs ((i + (3 : Int32))).toNatClampNeg), .int (xs ((i + (4 : Int32))).toNatClampNeg), .ref (X.B + o)] rfl rfl (Nat.le_of_ble_eq_true rfl) (tL_gamesWithPiece ok.fl X.V x (xs ((i + (1 : Int32))).toNatClampNeg) (xs ((i + (2 : Int32))).toNatClampNeg) (xs ((i + (3 : Int32))).toNatClampNeg) (xs ((i + (4 : Int32))).toNatClampNeg) o G (by rw [hq0]; rfl)) dL_law_2069 (fun v5 G6 hP => ?_)
  rw [hcc, hcs] at hP
  have h := pl_wp hw7 hP
  clear hw7 hP hq0
  refine j_istore (L' := [(5, .int v5), (0, .ref b), (1, .ref (X.B + x)), (2, .ref (X.B + m)), (3, .ref (X.B + o)), (4, .int i)]) ok dL_law_2072 (by decide) rfl ?_
  refine j_aload_n ok dL_law_2074 rfl 3 rfl ?_
  refine j_aload_n ok dL_law_2075 rfl 1 rfl ?_
  refine j_iload ok dL_law_2076 5 rfl ?_
  refine j_iconst (v := 1) ok dL_law_2078 (by decide) ?_
  refine j_iadd ok dL_law_2079 ?_
  obtain ⟨hz8, h⟩ := h
  refine j_scr ok hscr hz8 dL_law_2080 ?_
  refine j_aload_n ok dL_law_2081 rfl 1 rfl ?_
  refine j_iload ok dL_law_2082 5 rfl ?_
  refine j_iconst (v := 2) ok dL_law_2084 (by decide) ?_
  refine j_iadd ok dL_law_2085 ?_
  obtain ⟨hz9, h⟩ := h
  refine j_scr ok hscr hz9 dL_law_2086 ?_
  refine j_aload_n ok dL_law_2087 rfl 1 rfl ?_
  refine j_iload ok dL_law_2088 5 rfl ?_
  refine j_iconst (v := 3) ok dL_law_2090 (by decide) ?_
  refine j_iadd ok dL_law_2091 ?_
  obtain ⟨hz10, h⟩ := h
  refine j_scr ok hscr hz10 dL_law_2092 ?_
  refine j_aload_n ok dL_law_2093 rfl 1 rfl ?_
  refine j_iload ok dL_law_2094 5 rfl ?_
  refine j_iconst (v := 4) ok dL_law_2096 (by decide) ?_
  refine j_iadd ok dL_law_2097 ?_
  obtain ⟨hz11, h⟩ := h
  refine j_scr ok hscr hz11 dL_law_2098 ?_
  obtain ⟨kq12, q12, hq12, h⟩ := h
  refine k_V1 ok kl_L_251 ⟨Nat.le_of_ble_eq_true rfl, Nat.le_of_ble_eq_true rfl⟩ [.int (xs ((i + (1 : Int32))).toNatClampNeg), .int (xs ((i + (2 : Int32))).toNatClampNeg), .int (xs ((i + (3 : Int32))).toNatClampNeg), .int (xs ((i + (4 : Int32))).toNatClampNeg)] kq12 rfl rfl (Nat.le_of_ble_eq_true rfl) (tX7_gamesWithPiece ok.fl X.V m (xs ((i + (1 : Int32))).toNatClampNeg) (xs ((i + (2 : Int32))).toNatClampNeg) (xs ((i + (3 : Int32))).toNatClampNeg) (xs ((i + (4 : Int32))).toNatClampNeg) G6 hq12) dL_law_2099 ?_
  refine j_lstore (L' := [(6, .long q12.1), (5, .int v5), (0, .ref b), (1, .ref (X.B + x)), (2, .ref (X.B + m)), (3, .ref (X.B + o)), (4, .int i)]) ok dL_law_2102 (by decide) rfl ?_
  refine j_aload_n ok dL_law_2104 rfl 4 rfl ?_
  obtain ⟨kq13, q13, hq13, h⟩ := h
  refine k_V1 ok kl_L_122 ⟨Nat.le_of_ble_eq_true rfl, Nat.le_of_ble_eq_true rfl⟩ [] kq13 rfl rfl (Nat.le_of_ble_eq_true rfl) (tX7_thrown ok.fl X.V m q12.2 hq13) dL_law_2105 ?_
  refine j_iload ok dL_law_2108 1 rfl ?_
  by_cases c14 : q13.1 = v5
  · have h := h.1 c14
    refine j_icmp_eq (tgt := 2115) ok dL_law_2110 (by decide) (fun _ => ?_) (fun z => absurd c14 z)
    refine j_iload ok dL_law_2115 1 rfl ?_
    by_cases c15 : v5 = (0 : Int32)
    · have h := h.1 c15
      refine j_if_ne (tgt := 2131) ok dL_law_2117 (by decide) (fun z => absurd c15 z) (fun _ => ?_)
      refine j_aload_n ok dL_law_2120 rfl 5 rfl ?_
      refine j_iconst (v := 0) ok dL_law_2121 (by decide) ?_
      obtain ⟨v16, hv16, h⟩ := h
      refine j_lald ok hv16 dL_law_2122 ?_
      refine j_lload ok dL_law_2123 0 rfl ?_
      refine j_lcmp ok dL_law_2125 ?_
      by_cases c17 : (lg_cmp v16 q12.1) = (0 : Int32)
      · have h := h.1 c17
        refine j_if_eq (tgt := 2131) ok dL_law_2126 (by decide) (fun _ => ?_) (fun z => absurd c17 z)
        refine j_goto (tgt := 2474) ok dL_law_2131 (by decide) ?_
        exact J.sub [2, 3, 4, 5, 6] rfl (hK _ h)
      · have h := h.2 c17
        refine j_if_eq (tgt := 2131) ok dL_law_2126 (by decide) (fun z => absurd z c17) (fun _ => ?_)
        refine j_iconst (v := 0) ok dL_law_2129 (by decide) ?_
        exact h.elim
    · have h := h.2 c15
      refine j_if_ne (tgt := 2131) ok dL_law_2117 (by decide) (fun _ => ?_) (fun z => absurd z c15)
      refine j_goto (tgt := 2474) ok dL_law_2131 (by decide) ?_
      exact J.sub [2, 3, 4, 5, 6] rfl (hK _ h)
  · have h := h.2 c14
    refine j_icmp_eq (tgt := 2115) ok dL_law_2110 (by decide) (fun z => absurd z c14) (fun _ => ?_)
    refine j_iconst (v := 0) ok dL_law_2113 (by decide) ?_
    exact h.elim

def wc_38 (xs : Nat → Int32) (n x m o : Nat) (i : Int32) (c1 c2 : Nat) (G : Mem) (K : Mem → Prop) : Prop :=
  mt G x = 16 ∧ ∃ q1, fX6_mostDoubtfulNote x G = some q1 ∧ (
  mt q1.2 m = 17 ∧ ∃ q2, fX7_mostDoubtfulNote m q1.2 = some q2 ∧ (
  (q1.1 = q2.1 → (
    K q2.2)) ∧ (¬ q1.1 = q2.1 → (
    False))))

set_option maxRecDepth 100000 in
set_option maxHeartbeats 4000000 in
theorem jc_38 {X : Cx} (ok : OK X cL_law RL (some .boolean) 9 LFR LLO) {b n x m o : Nat} {xs : Nat → Int32} {i : Int32} {c1 c2 : Nat} (hcc : X.V.cc = c1) (hcs : X.V.cs = c2) (hscr : SC X b n xs) (G : Mem) (K : Mem → Prop) (hK : ∀ G', K G' → J X 9 2474 [(0, .ref b), (1, .ref (X.B + x)), (2, .ref (X.B + m)), (3, .ref (X.B + o)), (4, .int i)] [] G') (h : wc_38 xs n x m o i c1 c2 G K) : J X 9 2134 [(0, .ref b), (1, .ref (X.B + x)), (2, .ref (X.B + m)), (3, .ref (X.B + o)), (4, .int i)] [] G := by
  unfold wc_38 at h
  refine j_aload_n ok dL_law_2134 rfl 1 rfl ?_
  obtain ⟨kq1, q1, hq1, h⟩ := h
  refine k_V1 ok kl_L_252 ⟨Nat.le_of_ble_eq_true rfl, Nat.le_of_ble_eq_true rfl⟩ [] kq1 rfl rfl (Nat.le_of_ble_eq_true rfl) (tX6_mostDoubtfulNote ok.fl X.V x G hq1) dL_law_2135 ?_
  refine j_aload_n ok dL_law_2138 rfl 2 rfl ?_
  obtain ⟨kq2, q2, hq2, h⟩ := h
  refine k_V1 ok kl_L_255 ⟨Nat.le_of_ble_eq_true rfl, Nat.le_of_ble_eq_true rfl⟩ [] kq2 rfl rfl (Nat.le_of_ble_eq_true rfl) (tX7_mostDoubtfulNote ok.fl X.V m q1.2 hq2) dL_law_2139 ?_
  by_cases c3 : q1.1 = q2.1
  · have h := h.1 c3
    refine j_icmp_eq (tgt := 2474) ok dL_law_2142 (by decide) (fun _ => ?_) (fun z => absurd c3 z)
    exact J.sub [0, 1, 2, 3, 4] rfl (hK _ h)
  · have h := h.2 c3
    refine j_icmp_eq (tgt := 2474) ok dL_law_2142 (by decide) (fun z => absurd z c3) (fun _ => ?_)
    refine j_iconst (v := 0) ok dL_law_2145 (by decide) ?_
    exact h.elim

def wc_39 (xs : Nat → Int32) (n x m o : Nat) (i : Int32) (c1 c2 : Nat) (G : Mem) (K : Mem → Prop) : Prop :=
  inb (i + (1 : Int32)) n ∧ (
  inb (i + (2 : Int32)) n ∧ (
  inb (i + (3 : Int32)) n ∧ (
  inb (i + (4 : Int32)) n ∧ (
  inb (i + (5 : Int32)) n ∧ (
  inb (i + (6 : Int32)) n ∧ (
  wpL (fL_gamesIfNoted x (xs ((i + (1 : Int32))).toNatClampNeg) (xs ((i + (2 : Int32))).toNatClampNeg) (xs ((i + (3 : Int32))).toNatClampNeg) (xs ((i + (4 : Int32))).toNatClampNeg) (bz (xs ((i + (5 : Int32))).toNatClampNeg)) (bz (xs ((i + (6 : Int32))).toNatClampNeg)) o G) hsL_gamesIfNoted c1 c2 (fun v7 G8 => (
  inb (i + (1 : Int32)) n ∧ (
  inb (i + (2 : Int32)) n ∧ (
  inb (i + (3 : Int32)) n ∧ (
  inb (i + (4 : Int32)) n ∧ (
  inb (i + (5 : Int32)) n ∧ (
  inb (i + (6 : Int32)) n ∧ (
  mt G8 m = 17 ∧ ∃ q16, fX7_gamesIfNoted m (xs ((i + (1 : Int32))).toNatClampNeg) (xs ((i + (2 : Int32))).toNatClampNeg) (xs ((i + (3 : Int32))).toNatClampNeg) (xs ((i + (4 : Int32))).toNatClampNeg) (bz (xs ((i + (5 : Int32))).toNatClampNeg)) (bz (xs ((i + (6 : Int32))).toNatClampNeg)) G8 = some q16 ∧ (
  mt q16.2 m = 17 ∧ ∃ q17, fX7_thrown m q16.2 = some q17 ∧ (
  (q17.1 = v7 → (
    (v7 = (0 : Int32) → (
      ∃ v20, gJ q17.2 o (0 : Int32) = some v20 ∧ (
      ((lg_cmp v20 q16.1) = (0 : Int32) → (
        K q17.2)) ∧ (¬ (lg_cmp v20 q16.1) = (0 : Int32) → (
        False))))) ∧ (¬ v7 = (0 : Int32) → (
      K q17.2)))) ∧ (¬ q17.1 = v7 → (
    False))))))))))))))))))

set_option maxRecDepth 100000 in
set_option maxHeartbeats 4000000 in
theorem jc_39 {X : Cx} (ok : OK X cL_law RL (some .boolean) 9 LFR LLO) {b n x m o : Nat} {xs : Nat → Int32} {i : Int32} {c1 c2 : Nat} (hcc : X.V.cc = c1) (hcs : X.V.cs = c2) (hscr : SC X b n xs) (G : Mem) (K : Mem → Prop) (hK : ∀ G', K G' → J X 9 2474 [(0, .ref b), (1, .ref (X.B + x)), (2, .ref (X.B + m)), (3, .ref (X.B + o)), (4, .int i)] [] G') (h : wc_39 xs n x m o i c1 c2 G K) : J X 9 2147 [(0, .ref b), (1, .ref (X.B + x)), (2, .ref (X.B + m)), (3, .ref (X.B + o)), (4, .int i)] [] G := by
  unfold wc_39 at h
  refine j_aload_n ok dL_law_2147 rfl 1 rfl ?_
  refine j_aload_n ok dL_law_2148 rfl 0 rfl ?_
  refine j_iload ok dL_law_2149 4 rfl ?_
  refine j_iconst (v := 1) ok dL_law_2151 (by decide) ?_
  refine j_iadd ok dL_law_2152 ?_
  obtain ⟨hz1, h⟩ := h
  refine j_scr ok hscr hz1 dL_law_2153 ?_
  refine j_aload_n ok dL_law_2154 rfl 0 rfl ?_
  refine j_iload ok dL_law_2155 4 rfl ?_
  refine j_iconst (v := 2) ok dL_law_2157 (by decide) ?_
  refine j_iadd ok dL_law_2158 ?_
  obtain ⟨hz2, h⟩ := h
  refine j_scr ok hscr hz2 dL_law_2159 ?_
  refine j_aload_n ok dL_law_2160 rfl 0 rfl ?_
  refine j_iload ok dL_law_2161 4 rfl ?_
  refine j_iconst (v := 3) ok dL_law_2163 (by decide) ?_
  refine j_iadd ok dL_law_2164 ?_
  obtain ⟨hz3, h⟩ := h
  refine j_scr ok hscr hz3 dL_law_2165 ?_
  refine j_aload_n ok dL_law_2166 rfl 0 rfl ?_
  refine j_iload ok dL_law_2167 4 rfl ?_
  refine j_iconst (v := 4) ok dL_law_2169 (by decide) ?_
  refine j_iadd ok dL_law_2170 ?_
  obtain ⟨hz4, h⟩ := h
  refine j_scr ok hscr hz4 dL_law_2171 ?_
  refine j_aload_n ok dL_law_2172 rfl 0 rfl ?_
  refine j_iload ok dL_law_2173 4 rfl ?_
  refine j_iconst (v := 5) ok dL_law_2175 (by decide) ?_
  refine j_iadd ok dL_law_2176 ?_
  obtain ⟨hz5, h⟩ := h
  refine j_scr ok hscr hz5 dL_law_2177 ?_
  refine j_nz ok dL_law_2178 dL_law_2181 dL_law_2182 dL_law_2185 ?_
  refine j_aload_n ok dL_law_2186 rfl 0 rfl ?_
  refine j_iload ok dL_law_2187 4 rfl ?_
  refine j_bipush (v := 6) ok dL_law_2189 (by decide) ?_
  refine j_iadd ok dL_law_2191 ?_
  obtain ⟨hz6, h⟩ := h
  refine j_scr ok hscr hz6 dL_law_2192 ?_
  refine j_nz ok dL_law_2193 dL_law_2196 dL_law_2197 dL_law_2200 ?_
  refine j_aload_n ok dL_law_2201 rfl 3 rfl ?_
  have hw9 := h
  obtain ⟨q0, hq0, -⟩ := h
  refine k_L ok kl_L_256 ⟨Nat.le_of_ble_eq_true rfl, Nat.le_of_ble_eq_true rfl⟩ [.ref (X.B + x), .int (xs ((i + (1 : Int32))).toNatClampNeg), .int (xs ((i + (2 : Int32))).toNatClampNeg), .int (xs ((i + (3 : Int32))).toNatClampNeg), .int (xs ((i + (4 : Int32))).toNatClampNeg), .int (bz (xs ((i + (5 : Int32))).toNatClampNeg)), .int (bz (xs ((i + (6 : Int32))).toNatClampNeg)), .ref (X.B + o)] rfl rfl (Nat.le_of_ble_eq_true rfl) (tL_gamesIfNoted ok.fl X.V x (xs ((i + (1 : Int32))).toNatClampNeg) (xs ((i + (2 : Int32))).toNatClampNeg) (xs ((i + (3 : Int32))).toNatClampNeg) (xs ((i + (4 : Int32))).toNatClampNeg) (bz (xs ((i + (5 : Int32))).toNatClampNeg)) (bz (xs ((i + (6 : Int32))).toNatClampNeg)) o G (by rw [hq0]; rfl)) dL_law_2202 (fun v7 G8 hP => ?_)
  rw [hcc, hcs] at hP
  have h := pl_wp hw9 hP
  clear hw9 hP hq0
  refine j_istore (L' := [(5, .int v7), (0, .ref b), (1, .ref (X.B + x)), (2, .ref (X.B + m)), (3, .ref (X.B + o)), (4, .int i)]) ok dL_law_2205 (by decide) rfl ?_
  refine j_aload_n ok dL_law_2207 rfl 3 rfl ?_
  refine j_aload_n ok dL_law_2208 rfl 1 rfl ?_
  refine j_iload ok dL_law_2209 5 rfl ?_
  refine j_iconst (v := 1) ok dL_law_2211 (by decide) ?_
  refine j_iadd ok dL_law_2212 ?_
  obtain ⟨hz10, h⟩ := h
  refine j_scr ok hscr hz10 dL_law_2213 ?_
  refine j_aload_n ok dL_law_2214 rfl 1 rfl ?_
  refine j_iload ok dL_law_2215 5 rfl ?_
  refine j_iconst (v := 2) ok dL_law_2217 (by decide) ?_
  refine j_iadd ok dL_law_2218 ?_
  obtain ⟨hz11, h⟩ := h
  refine j_scr ok hscr hz11 dL_law_2219 ?_
  refine j_aload_n ok dL_law_2220 rfl 1 rfl ?_
  refine j_iload ok dL_law_2221 5 rfl ?_
  refine j_iconst (v := 3) ok dL_law_2223 (by decide) ?_
  refine j_iadd ok dL_law_2224 ?_
  obtain ⟨hz12, h⟩ := h
  refine j_scr ok hscr hz12 dL_law_2225 ?_
  refine j_aload_n ok dL_law_2226 rfl 1 rfl ?_
  refine j_iload ok dL_law_2227 5 rfl ?_
  refine j_iconst (v := 4) ok dL_law_2229 (by decide) ?_
  refine j_iadd ok dL_law_2230 ?_
  obtain ⟨hz13, h⟩ := h
  refine j_scr ok hscr hz13 dL_law_2231 ?_
  refine j_aload_n ok dL_law_2232 rfl 1 rfl ?_
  refine j_iload ok dL_law_2233 5 rfl ?_
  refine j_iconst (v := 5) ok dL_law_2235 (by decide) ?_
  refine j_iadd ok dL_law_2236 ?_
  obtain ⟨hz14, h⟩ := h
  refine j_scr ok hscr hz14 dL_law_2237 ?_
  refine j_nz ok dL_law_2238 dL_law_2241 dL_law_2242 dL_law_2245 ?_
  refine j_aload_n ok dL_law_2246 rfl 1 rfl ?_
  refine j_iload ok dL_law_2247 5 rfl ?_
  refine j_bipush (v := 6) ok dL_law_2249 (by decide) ?_
  refine j_iadd ok dL_law_2251 ?_
  obtain ⟨hz15, h⟩ := h
  refine j_scr ok hscr hz15 dL_law_2252 ?_
  refine j_nz ok dL_law_2253 dL_law_2256 dL_law_2257 dL_law_2260 ?_
  obtain ⟨kq16, q16, hq16, h⟩ := h
  refine k_V1 ok kl_L_258 ⟨Nat.le_of_ble_eq_true rfl, Nat.le_of_ble_eq_true rfl⟩ [.int (xs ((i + (1 : Int32))).toNatClampNeg), .int (xs ((i + (2 : Int32))).toNatClampNeg), .int (xs ((i + (3 : Int32))).toNatClampNeg), .int (xs ((i + (4 : Int32))).toNatClampNeg), .int (bz (xs ((i + (5 : Int32))).toNatClampNeg)), .int (bz (xs ((i + (6 : Int32))).toNatClampNeg))] kq16 rfl rfl (Nat.le_of_ble_eq_true rfl) (tX7_gamesIfNoted ok.fl X.V m (xs ((i + (1 : Int32))).toNatClampNeg) (xs ((i + (2 : Int32))).toNatClampNeg) (xs ((i + (3 : Int32))).toNatClampNeg) (xs ((i + (4 : Int32))).toNatClampNeg) (bz (xs ((i + (5 : Int32))).toNatClampNeg)) (bz (xs ((i + (6 : Int32))).toNatClampNeg)) G8 hq16) dL_law_2261 ?_
  refine j_lstore (L' := [(6, .long q16.1), (5, .int v7), (0, .ref b), (1, .ref (X.B + x)), (2, .ref (X.B + m)), (3, .ref (X.B + o)), (4, .int i)]) ok dL_law_2264 (by decide) rfl ?_
  refine j_aload_n ok dL_law_2266 rfl 4 rfl ?_
  obtain ⟨kq17, q17, hq17, h⟩ := h
  refine k_V1 ok kl_L_122 ⟨Nat.le_of_ble_eq_true rfl, Nat.le_of_ble_eq_true rfl⟩ [] kq17 rfl rfl (Nat.le_of_ble_eq_true rfl) (tX7_thrown ok.fl X.V m q16.2 hq17) dL_law_2267 ?_
  refine j_iload ok dL_law_2270 1 rfl ?_
  by_cases c18 : q17.1 = v7
  · have h := h.1 c18
    refine j_icmp_eq (tgt := 2277) ok dL_law_2272 (by decide) (fun _ => ?_) (fun z => absurd c18 z)
    refine j_iload ok dL_law_2277 1 rfl ?_
    by_cases c19 : v7 = (0 : Int32)
    · have h := h.1 c19
      refine j_if_ne (tgt := 2293) ok dL_law_2279 (by decide) (fun z => absurd c19 z) (fun _ => ?_)
      refine j_aload_n ok dL_law_2282 rfl 5 rfl ?_
      refine j_iconst (v := 0) ok dL_law_2283 (by decide) ?_
      obtain ⟨v20, hv20, h⟩ := h
      refine j_lald ok hv20 dL_law_2284 ?_
      refine j_lload ok dL_law_2285 0 rfl ?_
      refine j_lcmp ok dL_law_2287 ?_
      by_cases c21 : (lg_cmp v20 q16.1) = (0 : Int32)
      · have h := h.1 c21
        refine j_if_eq (tgt := 2293) ok dL_law_2288 (by decide) (fun _ => ?_) (fun z => absurd c21 z)
        refine j_goto (tgt := 2474) ok dL_law_2293 (by decide) ?_
        exact J.sub [2, 3, 4, 5, 6] rfl (hK _ h)
      · have h := h.2 c21
        refine j_if_eq (tgt := 2293) ok dL_law_2288 (by decide) (fun z => absurd z c21) (fun _ => ?_)
        refine j_iconst (v := 0) ok dL_law_2291 (by decide) ?_
        exact h.elim
    · have h := h.2 c19
      refine j_if_ne (tgt := 2293) ok dL_law_2279 (by decide) (fun _ => ?_) (fun z => absurd z c19)
      refine j_goto (tgt := 2474) ok dL_law_2293 (by decide) ?_
      exact J.sub [2, 3, 4, 5, 6] rfl (hK _ h)
  · have h := h.2 c18
    refine j_icmp_eq (tgt := 2277) ok dL_law_2272 (by decide) (fun z => absurd z c18) (fun _ => ?_)
    refine j_iconst (v := 0) ok dL_law_2275 (by decide) ?_
    exact h.elim

def wc_40 (xs : Nat → Int32) (n x m o : Nat) (i : Int32) (c1 c2 : Nat) (G : Mem) (K : Mem → Prop) : Prop :=
  mt G x = 16 ∧ ∃ q1, fX6_inconsistencies x G = some q1 ∧ (
  mt q1.2 m = 17 ∧ ∃ q2, fX7_inconsistencies m q1.2 = some q2 ∧ (
  (q1.1 = q2.1 → (
    K q2.2)) ∧ (¬ q1.1 = q2.1 → (
    False))))

set_option maxRecDepth 100000 in
set_option maxHeartbeats 4000000 in
theorem jc_40 {X : Cx} (ok : OK X cL_law RL (some .boolean) 9 LFR LLO) {b n x m o : Nat} {xs : Nat → Int32} {i : Int32} {c1 c2 : Nat} (hcc : X.V.cc = c1) (hcs : X.V.cs = c2) (hscr : SC X b n xs) (G : Mem) (K : Mem → Prop) (hK : ∀ G', K G' → J X 9 2474 [(0, .ref b), (1, .ref (X.B + x)), (2, .ref (X.B + m)), (3, .ref (X.B + o)), (4, .int i)] [] G') (h : wc_40 xs n x m o i c1 c2 G K) : J X 9 2296 [(0, .ref b), (1, .ref (X.B + x)), (2, .ref (X.B + m)), (3, .ref (X.B + o)), (4, .int i)] [] G := by
  unfold wc_40 at h
  refine j_aload_n ok dL_law_2296 rfl 1 rfl ?_
  obtain ⟨kq1, q1, hq1, h⟩ := h
  refine k_V1 ok kl_L_259 ⟨Nat.le_of_ble_eq_true rfl, Nat.le_of_ble_eq_true rfl⟩ [] kq1 rfl rfl (Nat.le_of_ble_eq_true rfl) (tX6_inconsistencies ok.fl X.V x G hq1) dL_law_2297 ?_
  refine j_aload_n ok dL_law_2300 rfl 2 rfl ?_
  obtain ⟨kq2, q2, hq2, h⟩ := h
  refine k_V1 ok kl_L_262 ⟨Nat.le_of_ble_eq_true rfl, Nat.le_of_ble_eq_true rfl⟩ [] kq2 rfl rfl (Nat.le_of_ble_eq_true rfl) (tX7_inconsistencies ok.fl X.V m q1.2 hq2) dL_law_2301 ?_
  by_cases c3 : q1.1 = q2.1
  · have h := h.1 c3
    refine j_icmp_eq (tgt := 2474) ok dL_law_2304 (by decide) (fun _ => ?_) (fun z => absurd c3 z)
    exact J.sub [0, 1, 2, 3, 4] rfl (hK _ h)
  · have h := h.2 c3
    refine j_icmp_eq (tgt := 2474) ok dL_law_2304 (by decide) (fun z => absurd z c3) (fun _ => ?_)
    refine j_iconst (v := 0) ok dL_law_2307 (by decide) ?_
    exact h.elim

def wc_41 (xs : Nat → Int32) (n x m o : Nat) (i : Int32) (c1 c2 : Nat) (G : Mem) (K : Mem → Prop) : Prop :=
  mt G x = 16 ∧ ∃ q1, fX6_meanGames x G = some q1 ∧ (
  mt q1.2 m = 17 ∧ ∃ q2, fX7_meanGames m q1.2 = some q2 ∧ (
  ((Op.cmpValue (FP.dcmp q1.1 q2.1) .l) = (0 : Int32) → (
    K q2.2)) ∧ (¬ (Op.cmpValue (FP.dcmp q1.1 q2.1) .l) = (0 : Int32) → (
    ((Op.cmpValue (FP.dcmp q1.1 q1.1) .l) = (0 : Int32) → (
      False)) ∧ (¬ (Op.cmpValue (FP.dcmp q1.1 q1.1) .l) = (0 : Int32) → (
      ((Op.cmpValue (FP.dcmp q2.1 q2.1) .l) = (0 : Int32) → (
        False)) ∧ (¬ (Op.cmpValue (FP.dcmp q2.1 q2.1) .l) = (0 : Int32) → (
        K q2.2))))))))

set_option maxRecDepth 100000 in
set_option maxHeartbeats 4000000 in
theorem jc_41 {X : Cx} (ok : OK X cL_law RL (some .boolean) 9 LFR LLO) {b n x m o : Nat} {xs : Nat → Int32} {i : Int32} {c1 c2 : Nat} (hcc : X.V.cc = c1) (hcs : X.V.cs = c2) (hscr : SC X b n xs) (G : Mem) (K : Mem → Prop) (hK : ∀ G', K G' → J X 9 2474 [(0, .ref b), (1, .ref (X.B + x)), (2, .ref (X.B + m)), (3, .ref (X.B + o)), (4, .int i)] [] G') (h : wc_41 xs n x m o i c1 c2 G K) : J X 9 2309 [(0, .ref b), (1, .ref (X.B + x)), (2, .ref (X.B + m)), (3, .ref (X.B + o)), (4, .int i)] [] G := by
  unfold wc_41 at h
  refine j_aload_n ok dL_law_2309 rfl 1 rfl ?_
  obtain ⟨kq1, q1, hq1, h⟩ := h
  refine k_V1 ok kl_L_263 ⟨Nat.le_of_ble_eq_true rfl, Nat.le_of_ble_eq_true rfl⟩ [] kq1 rfl rfl (Nat.le_of_ble_eq_true rfl) (tX6_meanGames ok.fl X.V x G hq1) dL_law_2310 ?_
  refine j_dstore (L' := [(5, .double q1.1), (0, .ref b), (1, .ref (X.B + x)), (2, .ref (X.B + m)), (3, .ref (X.B + o)), (4, .int i)]) ok dL_law_2313 (by decide) rfl ?_
  refine j_aload_n ok dL_law_2315 rfl 3 rfl ?_
  obtain ⟨kq2, q2, hq2, h⟩ := h
  refine k_V1 ok kl_L_267 ⟨Nat.le_of_ble_eq_true rfl, Nat.le_of_ble_eq_true rfl⟩ [] kq2 rfl rfl (Nat.le_of_ble_eq_true rfl) (tX7_meanGames ok.fl X.V m q1.2 hq2) dL_law_2316 ?_
  refine j_dstore (L' := [(7, .double q2.1), (5, .double q1.1), (0, .ref b), (1, .ref (X.B + x)), (2, .ref (X.B + m)), (3, .ref (X.B + o)), (4, .int i)]) ok dL_law_2319 (by decide) rfl ?_
  refine j_dload ok dL_law_2321 1 rfl ?_
  refine j_dload ok dL_law_2323 0 rfl ?_
  refine j_dcmp ok dL_law_2325 ?_
  by_cases c3 : (Op.cmpValue (FP.dcmp q1.1 q2.1) .l) = (0 : Int32)
  · have h := h.1 c3
    refine j_if_eq (tgt := 2347) ok dL_law_2326 (by decide) (fun _ => ?_) (fun z => absurd c3 z)
    refine j_goto (tgt := 2474) ok dL_law_2347 (by decide) ?_
    exact J.sub [2, 3, 4, 5, 6] rfl (hK _ h)
  · have h := h.2 c3
    refine j_if_eq (tgt := 2347) ok dL_law_2326 (by decide) (fun z => absurd z c3) (fun _ => ?_)
    refine j_dload ok dL_law_2329 1 rfl ?_
    refine j_dload ok dL_law_2331 1 rfl ?_
    refine j_dcmp ok dL_law_2333 ?_
    by_cases c4 : (Op.cmpValue (FP.dcmp q1.1 q1.1) .l) = (0 : Int32)
    · have h := h.1 c4
      refine j_if_eq (tgt := 2345) ok dL_law_2334 (by decide) (fun _ => ?_) (fun z => absurd c4 z)
      refine j_iconst (v := 0) ok dL_law_2345 (by decide) ?_
      exact h.elim
    · have h := h.2 c4
      refine j_if_eq (tgt := 2345) ok dL_law_2334 (by decide) (fun z => absurd z c4) (fun _ => ?_)
      refine j_dload ok dL_law_2337 0 rfl ?_
      refine j_dload ok dL_law_2339 0 rfl ?_
      refine j_dcmp ok dL_law_2341 ?_
      by_cases c5 : (Op.cmpValue (FP.dcmp q2.1 q2.1) .l) = (0 : Int32)
      · have h := h.1 c5
        refine j_if_ne (tgt := 2347) ok dL_law_2342 (by decide) (fun z => absurd c5 z) (fun _ => ?_)
        refine j_iconst (v := 0) ok dL_law_2345 (by decide) ?_
        exact h.elim
      · have h := h.2 c5
        refine j_if_ne (tgt := 2347) ok dL_law_2342 (by decide) (fun _ => ?_) (fun z => absurd z c5)
        refine j_goto (tgt := 2474) ok dL_law_2347 (by decide) ?_
        exact J.sub [2, 3, 4, 5, 6] rfl (hK _ h)

def wc_42 (xs : Nat → Int32) (n x m o : Nat) (i : Int32) (c1 c2 : Nat) (G : Mem) (K : Mem → Prop) : Prop :=
  mt G x = 16 ∧ ∃ q1, fX6_certainShare x G = some q1 ∧ (
  vf_n64 (FP.f2d q1.1) ∧ (
  mt q1.2 m = 17 ∧ ∃ q3, fX7_certainShare m q1.2 = some q3 ∧ (
  vf_n64 (FP.f2d q3.1) ∧ (
  ((Op.cmpValue (FP.dcmp (FP.f2d q1.1) (FP.f2d q3.1)) .l) = (0 : Int32) → (
    K q3.2)) ∧ (¬ (Op.cmpValue (FP.dcmp (FP.f2d q1.1) (FP.f2d q3.1)) .l) = (0 : Int32) → (
    ((Op.cmpValue (FP.dcmp (FP.f2d q1.1) (FP.f2d q1.1)) .l) = (0 : Int32) → (
      False)) ∧ (¬ (Op.cmpValue (FP.dcmp (FP.f2d q1.1) (FP.f2d q1.1)) .l) = (0 : Int32) → (
      ((Op.cmpValue (FP.dcmp (FP.f2d q3.1) (FP.f2d q3.1)) .l) = (0 : Int32) → (
        False)) ∧ (¬ (Op.cmpValue (FP.dcmp (FP.f2d q3.1) (FP.f2d q3.1)) .l) = (0 : Int32) → (
        K q3.2))))))))))

set_option maxRecDepth 100000 in
set_option maxHeartbeats 4000000 in
theorem jc_42 {X : Cx} (ok : OK X cL_law RL (some .boolean) 9 LFR LLO) {b n x m o : Nat} {xs : Nat → Int32} {i : Int32} {c1 c2 : Nat} (hcc : X.V.cc = c1) (hcs : X.V.cs = c2) (hscr : SC X b n xs) (G : Mem) (K : Mem → Prop) (hK : ∀ G', K G' → J X 9 2474 [(0, .ref b), (1, .ref (X.B + x)), (2, .ref (X.B + m)), (3, .ref (X.B + o)), (4, .int i)] [] G') (h : wc_42 xs n x m o i c1 c2 G K) : J X 9 2350 [(0, .ref b), (1, .ref (X.B + x)), (2, .ref (X.B + m)), (3, .ref (X.B + o)), (4, .int i)] [] G := by
  unfold wc_42 at h
  refine j_aload_n ok dL_law_2350 rfl 1 rfl ?_
  obtain ⟨kq1, q1, hq1, h⟩ := h
  refine k_V1 ok kl_L_268 ⟨Nat.le_of_ble_eq_true rfl, Nat.le_of_ble_eq_true rfl⟩ [] kq1 rfl rfl (Nat.le_of_ble_eq_true rfl) (tX6_certainShare ok.fl X.V x G hq1) dL_law_2351 ?_
  obtain ⟨hz2, h⟩ := h
  refine j_f2d ok hz2 dL_law_2354 ?_
  refine j_dstore (L' := [(5, .double (FP.f2d q1.1)), (0, .ref b), (1, .ref (X.B + x)), (2, .ref (X.B + m)), (3, .ref (X.B + o)), (4, .int i)]) ok dL_law_2355 (by decide) rfl ?_
  refine j_aload_n ok dL_law_2357 rfl 3 rfl ?_
  obtain ⟨kq3, q3, hq3, h⟩ := h
  refine k_V1 ok kl_L_272 ⟨Nat.le_of_ble_eq_true rfl, Nat.le_of_ble_eq_true rfl⟩ [] kq3 rfl rfl (Nat.le_of_ble_eq_true rfl) (tX7_certainShare ok.fl X.V m q1.2 hq3) dL_law_2358 ?_
  obtain ⟨hz4, h⟩ := h
  refine j_f2d ok hz4 dL_law_2361 ?_
  refine j_dstore (L' := [(7, .double (FP.f2d q3.1)), (5, .double (FP.f2d q1.1)), (0, .ref b), (1, .ref (X.B + x)), (2, .ref (X.B + m)), (3, .ref (X.B + o)), (4, .int i)]) ok dL_law_2362 (by decide) rfl ?_
  refine j_dload ok dL_law_2364 1 rfl ?_
  refine j_dload ok dL_law_2366 0 rfl ?_
  refine j_dcmp ok dL_law_2368 ?_
  by_cases c5 : (Op.cmpValue (FP.dcmp (FP.f2d q1.1) (FP.f2d q3.1)) .l) = (0 : Int32)
  · have h := h.1 c5
    refine j_if_eq (tgt := 2390) ok dL_law_2369 (by decide) (fun _ => ?_) (fun z => absurd c5 z)
    refine j_goto (tgt := 2474) ok dL_law_2390 (by decide) ?_
    exact J.sub [2, 3, 4, 5, 6] rfl (hK _ h)
  · have h := h.2 c5
    refine j_if_eq (tgt := 2390) ok dL_law_2369 (by decide) (fun z => absurd z c5) (fun _ => ?_)
    refine j_dload ok dL_law_2372 1 rfl ?_
    refine j_dload ok dL_law_2374 1 rfl ?_
    refine j_dcmp ok dL_law_2376 ?_
    by_cases c6 : (Op.cmpValue (FP.dcmp (FP.f2d q1.1) (FP.f2d q1.1)) .l) = (0 : Int32)
    · have h := h.1 c6
      refine j_if_eq (tgt := 2388) ok dL_law_2377 (by decide) (fun _ => ?_) (fun z => absurd c6 z)
      refine j_iconst (v := 0) ok dL_law_2388 (by decide) ?_
      exact h.elim
    · have h := h.2 c6
      refine j_if_eq (tgt := 2388) ok dL_law_2377 (by decide) (fun z => absurd z c6) (fun _ => ?_)
      refine j_dload ok dL_law_2380 0 rfl ?_
      refine j_dload ok dL_law_2382 0 rfl ?_
      refine j_dcmp ok dL_law_2384 ?_
      by_cases c7 : (Op.cmpValue (FP.dcmp (FP.f2d q3.1) (FP.f2d q3.1)) .l) = (0 : Int32)
      · have h := h.1 c7
        refine j_if_ne (tgt := 2390) ok dL_law_2385 (by decide) (fun z => absurd c7 z) (fun _ => ?_)
        refine j_iconst (v := 0) ok dL_law_2388 (by decide) ?_
        exact h.elim
      · have h := h.2 c7
        refine j_if_ne (tgt := 2390) ok dL_law_2385 (by decide) (fun _ => ?_) (fun z => absurd z c7)
        refine j_goto (tgt := 2474) ok dL_law_2390 (by decide) ?_
        exact J.sub [2, 3, 4, 5, 6] rfl (hK _ h)

def wc_43 (xs : Nat → Int32) (n x m o : Nat) (i : Int32) (c1 c2 : Nat) (G : Mem) (K : Mem → Prop) : Prop :=
  inb (i + (1 : Int32)) n ∧ (
  wpL (fL_writePosition x (xs ((i + (1 : Int32))).toNatClampNeg) o G) hsL_writePosition c1 c2 (fun v2 G3 => (
  inb (i + (1 : Int32)) n ∧ (
  mt G3 m = 17 ∧ ∃ q6, fX7_writePosition m (xs ((i + (1 : Int32))).toNatClampNeg) G3 = some q6 ∧ (
  mt q6.2 m = 17 ∧ ∃ q7, fX7_thrown m q6.2 = some q7 ∧ (
  (q7.1 = v2 → (
    (v2 = (0 : Int32) → (
      ∃ v10, gJ q7.2 o (0 : Int32) = some v10 ∧ (
      ((lg_cmp v10 q6.1.toInt64) = (0 : Int32) → (
        K q7.2)) ∧ (¬ (lg_cmp v10 q6.1.toInt64) = (0 : Int32) → (
        False))))) ∧ (¬ v2 = (0 : Int32) → (
      K q7.2)))) ∧ (¬ q7.1 = v2 → (
    False))))))))

set_option maxRecDepth 100000 in
set_option maxHeartbeats 4000000 in
theorem jc_43 {X : Cx} (ok : OK X cL_law RL (some .boolean) 9 LFR LLO) {b n x m o : Nat} {xs : Nat → Int32} {i : Int32} {c1 c2 : Nat} (hcc : X.V.cc = c1) (hcs : X.V.cs = c2) (hscr : SC X b n xs) (G : Mem) (K : Mem → Prop) (hK : ∀ G', K G' → J X 9 2474 [(0, .ref b), (1, .ref (X.B + x)), (2, .ref (X.B + m)), (3, .ref (X.B + o)), (4, .int i)] [] G') (h : wc_43 xs n x m o i c1 c2 G K) : J X 9 2393 [(0, .ref b), (1, .ref (X.B + x)), (2, .ref (X.B + m)), (3, .ref (X.B + o)), (4, .int i)] [] G := by
  unfold wc_43 at h
  refine j_aload_n ok dL_law_2393 rfl 1 rfl ?_
  refine j_aload_n ok dL_law_2394 rfl 0 rfl ?_
  refine j_iload ok dL_law_2395 4 rfl ?_
  refine j_iconst (v := 1) ok dL_law_2397 (by decide) ?_
  refine j_iadd ok dL_law_2398 ?_
  obtain ⟨hz1, h⟩ := h
  refine j_scr ok hscr hz1 dL_law_2399 ?_
  refine j_aload_n ok dL_law_2400 rfl 3 rfl ?_
  have hw4 := h
  obtain ⟨q0, hq0, -⟩ := h
  refine k_L ok kl_L_273 ⟨Nat.le_of_ble_eq_true rfl, Nat.le_of_ble_eq_true rfl⟩ [.ref (X.B + x), .int (xs ((i + (1 : Int32))).toNatClampNeg), .ref (X.B + o)] rfl rfl (Nat.le_of_ble_eq_true rfl) (tL_writePosition ok.fl X.V x (xs ((i + (1 : Int32))).toNatClampNeg) o G (by rw [hq0]; rfl)) dL_law_2401 (fun v2 G3 hP => ?_)
  rw [hcc, hcs] at hP
  have h := pl_wp hw4 hP
  clear hw4 hP hq0
  refine j_istore (L' := [(5, .int v2), (0, .ref b), (1, .ref (X.B + x)), (2, .ref (X.B + m)), (3, .ref (X.B + o)), (4, .int i)]) ok dL_law_2404 (by decide) rfl ?_
  refine j_aload_n ok dL_law_2406 rfl 3 rfl ?_
  refine j_aload_n ok dL_law_2407 rfl 1 rfl ?_
  refine j_iload ok dL_law_2408 5 rfl ?_
  refine j_iconst (v := 1) ok dL_law_2410 (by decide) ?_
  refine j_iadd ok dL_law_2411 ?_
  obtain ⟨hz5, h⟩ := h
  refine j_scr ok hscr hz5 dL_law_2412 ?_
  obtain ⟨kq6, q6, hq6, h⟩ := h
  refine k_V1 ok kl_L_275 ⟨Nat.le_of_ble_eq_true rfl, Nat.le_of_ble_eq_true rfl⟩ [.int (xs ((i + (1 : Int32))).toNatClampNeg)] kq6 rfl rfl (Nat.le_of_ble_eq_true rfl) (tX7_writePosition ok.fl X.V m (xs ((i + (1 : Int32))).toNatClampNeg) G3 hq6) dL_law_2413 ?_
  refine j_istore (L' := [(6, .int q6.1), (5, .int v2), (0, .ref b), (1, .ref (X.B + x)), (2, .ref (X.B + m)), (3, .ref (X.B + o)), (4, .int i)]) ok dL_law_2416 (by decide) rfl ?_
  refine j_aload_n ok dL_law_2418 rfl 4 rfl ?_
  obtain ⟨kq7, q7, hq7, h⟩ := h
  refine k_V1 ok kl_L_122 ⟨Nat.le_of_ble_eq_true rfl, Nat.le_of_ble_eq_true rfl⟩ [] kq7 rfl rfl (Nat.le_of_ble_eq_true rfl) (tX7_thrown ok.fl X.V m q6.2 hq7) dL_law_2419 ?_
  refine j_iload ok dL_law_2422 1 rfl ?_
  by_cases c8 : q7.1 = v2
  · have h := h.1 c8
    refine j_icmp_eq (tgt := 2429) ok dL_law_2424 (by decide) (fun _ => ?_) (fun z => absurd c8 z)
    refine j_iload ok dL_law_2429 1 rfl ?_
    by_cases c9 : v2 = (0 : Int32)
    · have h := h.1 c9
      refine j_if_ne (tgt := 2446) ok dL_law_2431 (by decide) (fun z => absurd c9 z) (fun _ => ?_)
      refine j_aload_n ok dL_law_2434 rfl 5 rfl ?_
      refine j_iconst (v := 0) ok dL_law_2435 (by decide) ?_
      obtain ⟨v10, hv10, h⟩ := h
      refine j_lald ok hv10 dL_law_2436 ?_
      refine j_iload ok dL_law_2437 0 rfl ?_
      refine j_i2l ok dL_law_2439 ?_
      refine j_lcmp ok dL_law_2440 ?_
      by_cases c11 : (lg_cmp v10 q6.1.toInt64) = (0 : Int32)
      · have h := h.1 c11
        refine j_if_eq (tgt := 2446) ok dL_law_2441 (by decide) (fun _ => ?_) (fun z => absurd c11 z)
        refine j_goto (tgt := 2474) ok dL_law_2446 (by decide) ?_
        exact J.sub [2, 3, 4, 5, 6] rfl (hK _ h)
      · have h := h.2 c11
        refine j_if_eq (tgt := 2446) ok dL_law_2441 (by decide) (fun z => absurd z c11) (fun _ => ?_)
        refine j_iconst (v := 0) ok dL_law_2444 (by decide) ?_
        exact h.elim
    · have h := h.2 c9
      refine j_if_ne (tgt := 2446) ok dL_law_2431 (by decide) (fun _ => ?_) (fun z => absurd z c9)
      refine j_goto (tgt := 2474) ok dL_law_2446 (by decide) ?_
      exact J.sub [2, 3, 4, 5, 6] rfl (hK _ h)
  · have h := h.2 c8
    refine j_icmp_eq (tgt := 2429) ok dL_law_2424 (by decide) (fun z => absurd z c8) (fun _ => ?_)
    refine j_iconst (v := 0) ok dL_law_2427 (by decide) ?_
    exact h.elim

def wc_44 (xs : Nat → Int32) (n x m o : Nat) (i : Int32) (c1 c2 : Nat) (G : Mem) (K : Mem → Prop) : Prop :=
  inb (i + (1 : Int32)) n ∧ (
  mt G x = 16 ∧ ∃ q2, fX6_outputByte x (xs ((i + (1 : Int32))).toNatClampNeg) G = some q2 ∧ (
  inb (i + (1 : Int32)) n ∧ (
  mt q2.2 m = 17 ∧ ∃ q4, fX7_outputByte m (xs ((i + (1 : Int32))).toNatClampNeg) q2.2 = some q4 ∧ (
  (q2.1 = q4.1 → (
    K q4.2)) ∧ (¬ q2.1 = q4.1 → (
    False))))))

set_option maxRecDepth 100000 in
set_option maxHeartbeats 4000000 in
theorem jc_44 {X : Cx} (ok : OK X cL_law RL (some .boolean) 9 LFR LLO) {b n x m o : Nat} {xs : Nat → Int32} {i : Int32} {c1 c2 : Nat} (hcc : X.V.cc = c1) (hcs : X.V.cs = c2) (hscr : SC X b n xs) (G : Mem) (K : Mem → Prop) (hK : ∀ G', K G' → J X 9 2474 [(0, .ref b), (1, .ref (X.B + x)), (2, .ref (X.B + m)), (3, .ref (X.B + o)), (4, .int i)] [] G') (h : wc_44 xs n x m o i c1 c2 G K) : J X 9 2449 [(0, .ref b), (1, .ref (X.B + x)), (2, .ref (X.B + m)), (3, .ref (X.B + o)), (4, .int i)] [] G := by
  unfold wc_44 at h
  refine j_aload_n ok dL_law_2449 rfl 1 rfl ?_
  refine j_aload_n ok dL_law_2450 rfl 0 rfl ?_
  refine j_iload ok dL_law_2451 4 rfl ?_
  refine j_iconst (v := 1) ok dL_law_2453 (by decide) ?_
  refine j_iadd ok dL_law_2454 ?_
  obtain ⟨hz1, h⟩ := h
  refine j_scr ok hscr hz1 dL_law_2455 ?_
  obtain ⟨kq2, q2, hq2, h⟩ := h
  refine k_V1 ok kl_L_276 ⟨Nat.le_of_ble_eq_true rfl, Nat.le_of_ble_eq_true rfl⟩ [.int (xs ((i + (1 : Int32))).toNatClampNeg)] kq2 rfl rfl (Nat.le_of_ble_eq_true rfl) (tX6_outputByte ok.fl X.V x (xs ((i + (1 : Int32))).toNatClampNeg) G hq2) dL_law_2456 ?_
  refine j_aload_n ok dL_law_2459 rfl 2 rfl ?_
  refine j_aload_n ok dL_law_2460 rfl 0 rfl ?_
  refine j_iload ok dL_law_2461 4 rfl ?_
  refine j_iconst (v := 1) ok dL_law_2463 (by decide) ?_
  refine j_iadd ok dL_law_2464 ?_
  obtain ⟨hz3, h⟩ := h
  refine j_scr ok hscr hz3 dL_law_2465 ?_
  obtain ⟨kq4, q4, hq4, h⟩ := h
  refine k_V1 ok kl_L_279 ⟨Nat.le_of_ble_eq_true rfl, Nat.le_of_ble_eq_true rfl⟩ [.int (xs ((i + (1 : Int32))).toNatClampNeg)] kq4 rfl rfl (Nat.le_of_ble_eq_true rfl) (tX7_outputByte ok.fl X.V m (xs ((i + (1 : Int32))).toNatClampNeg) q2.2 hq4) dL_law_2466 ?_
  by_cases c5 : q2.1 = q4.1
  · have h := h.1 c5
    refine j_icmp_eq (tgt := 2474) ok dL_law_2469 (by decide) (fun _ => ?_) (fun z => absurd c5 z)
    exact J.sub [0, 1, 2, 3, 4] rfl (hK _ h)
  · have h := h.2 c5
    refine j_icmp_eq (tgt := 2474) ok dL_law_2469 (by decide) (fun z => absurd z c5) (fun _ => ?_)
    refine j_iconst (v := 0) ok dL_law_2472 (by decide) ?_
    exact h.elim
