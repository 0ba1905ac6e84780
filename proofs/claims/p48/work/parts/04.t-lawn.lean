/-! ===== the draws, and the law's methods that draw ===== -/
theorem dr_rng (x : Int32) {n : Int32} (h : 0 < n.toInt) : 0 ≤ (((x.toUInt32 >>> ((8 : Int32).toUInt32 &&& Int32.toUInt32 31)).toInt32) - ((x.toUInt32 >>> ((8 : Int32).toUInt32 &&& Int32.toUInt32 31)).toInt32) / n * n).toInt ∧ (((x.toUInt32 >>> ((8 : Int32).toUInt32 &&& Int32.toUInt32 31)).toInt32) - ((x.toUInt32 >>> ((8 : Int32).toUInt32 &&& Int32.toUInt32 31)).toInt32) / n * n).toInt < n.toInt := by
  have e : ((8 : Int32).toUInt32 &&& Int32.toUInt32 31) = (8 : UInt32) := by decide
  rw [e]
  have h1 : (x.toUInt32 >>> (8 : UInt32)).toNat < 2 ^ 24 := by
    rw [UInt32.toNat_shiftRight]
    have := x.toUInt32.toNat_lt
    rw [show (8 : UInt32).toNat % 32 = 8 from rfl, Nat.shiftRight_eq_div_pow]
    omega
  have h2 : 0 ≤ ((x.toUInt32 >>> (8 : UInt32)).toInt32).toInt := by
    show 0 ≤ BitVec.toInt (x.toUInt32 >>> (8 : UInt32)).toBitVec
    rw [BitVec.toInt_eq_toNat_of_lt (by show 2 * (x.toUInt32 >>> (8 : UInt32)).toNat < 2 ^ 32; omega)]
    exact Int.natCast_nonneg _
  rw [rem_toInt]
  exact ⟨Int.tmod_nonneg _ h2, Int.tmod_lt_of_pos _ h⟩
theorem draw_up {l : Launch} (hfl : l.stackTraces = false) {V : Wd} {w n : Int32} {G : Mem} (h : 0 < n.toInt) : ML l yL_draw (Cond.code yL_draw cL_draw 2 (some .int)) 0 0 V [.ref (V.B + 0), .int n] (up w G) Value.int (fun v G1 => ∃ w', G1 = up w' G ∧ (0 ≤ v.toInt ∧ v.toInt < n.toInt)) := by
  refine tL_draw hfl V 0 n (up w G) ?_
  unfold wL_draw wL_draw_0
  refine ⟨w, up_gA, _, up_pA, _, up_gA, ?_, _, rfl, dr_rng _ h⟩
  intro e
  rw [e] at h
  exact absurd h (by decide)
theorem mt_up {w : Int32} {G : Mem} {o t : Nat} (h : mt G o = t) : mt (up w G) (o + 1) = t := h
def wS_notes_316  (s0 : Int32) (G : Mem) (c1 c2 : Nat) (K : Int32 → Mem → Prop) : Prop :=
  (s0 = 0 ∨ s0 = 1) ∧
  K s0 G

set_option maxRecDepth 100000 in
set_option maxHeartbeats 4000000 in
theorem jS_notes_316 {X : Cx} (ok : OK X cL_notes RL (some .boolean) 15 11 291) {P : Int32 → Mem → Prop} (uB : X.V.H0.size = X.V.B) (uc : 1 ≤ X.V.cc) (us : 1 ≤ X.V.cs) {c1 c2 : Nat} (hcc : X.V.cc - 1 = c1) (hcs : X.V.cs - 1 = c2) (he : EndP X Value.int (fun v G1 => ∃ w2 G2, G1 = up w2 G2 ∧ P v G2))  (s0 : Int32) (w : Int32) (G : Mem) (K : Int32 → Mem → Prop) (h : wS_notes_316 s0 G c1 c2 K) (hK : ∀ r w G', K r G' → (fun r (_ : Int32) G => P r G) r w G') : J X 15 316 [] [.int s0] (up w G) := by
  subst hcc
  subst hcs
  unfold wS_notes_316 at h
  obtain ⟨hz1, h⟩ := h
  exact jl_zret ok (P := fun v G1 => ∃ w2 G2, G1 = up w2 G2 ∧ P v G2) ⟨w, _, rfl, hK _ w _ h⟩ hz1 dL_notes_316 he

def wS_notes_315   (G : Mem) (c1 c2 : Nat) (K : Int32 → Mem → Prop) : Prop :=
  wS_notes_316 (0 : Int32) G c1 c2 K

set_option maxRecDepth 100000 in
set_option maxHeartbeats 4000000 in
theorem jS_notes_315 {X : Cx} (ok : OK X cL_notes RL (some .boolean) 15 11 291) {P : Int32 → Mem → Prop} (uB : X.V.H0.size = X.V.B) (uc : 1 ≤ X.V.cc) (us : 1 ≤ X.V.cs) {c1 c2 : Nat} (hcc : X.V.cc - 1 = c1) (hcs : X.V.cs - 1 = c2) (he : EndP X Value.int (fun v G1 => ∃ w2 G2, G1 = up w2 G2 ∧ P v G2))   (w : Int32) (G : Mem) (K : Int32 → Mem → Prop) (h : wS_notes_315  G c1 c2 K) (hK : ∀ r w G', K r G' → (fun r (_ : Int32) G => P r G) r w G') : J X 15 315 [] [] (up w G) := by
  subst hcc
  subst hcs
  unfold wS_notes_315 at h
  refine j_iconst (v := 0) ok dL_notes_315 (by decide) ?_
  exact J.sub [] rfl (jS_notes_316 ok uB uc us rfl rfl he (0 : Int32) w G _ h hK)

def wS_notes_308  (s0 : Int32) (s1 : Int32) (G : Mem) (c1 c2 : Nat) (K : Int32 → Mem → Prop) : Prop :=
  if s0 = s1 then
    wS_notes_316 (1 : Int32) G c1 c2 K
  else
    wS_notes_315 G c1 c2 K

set_option maxRecDepth 100000 in
set_option maxHeartbeats 4000000 in
theorem jS_notes_308 {X : Cx} (ok : OK X cL_notes RL (some .boolean) 15 11 291) {P : Int32 → Mem → Prop} (uB : X.V.H0.size = X.V.B) (uc : 1 ≤ X.V.cc) (us : 1 ≤ X.V.cs) {c1 c2 : Nat} (hcc : X.V.cc - 1 = c1) (hcs : X.V.cs - 1 = c2) (he : EndP X Value.int (fun v G1 => ∃ w2 G2, G1 = up w2 G2 ∧ P v G2))  (s0 : Int32) (s1 : Int32) (w : Int32) (G : Mem) (K : Int32 → Mem → Prop) (h : wS_notes_308 s0 s1 G c1 c2 K) (hK : ∀ r w G', K r G' → (fun r (_ : Int32) G => P r G) r w G') : J X 15 308 [] [.int s1, .int s0] (up w G) := by
  subst hcc
  subst hcs
  unfold wS_notes_308 at h
  rcases ite_prop h with ⟨c1, h⟩ | ⟨c1, h⟩
  · refine j_icmp_ne (tgt := 315) ok dL_notes_308 (by decide) (fun z => absurd c1 z) (fun _ => ?_)
    refine j_iconst (v := 1) ok dL_notes_311 (by decide) ?_
    refine j_goto (tgt := 316) ok dL_notes_312 (by decide) ?_
    exact J.sub [] rfl (jS_notes_316 ok uB uc us rfl rfl he (1 : Int32) w G _ h hK)
  · refine j_icmp_ne (tgt := 315) ok dL_notes_308 (by decide) (fun _ => ?_) (fun z => absurd z c1)
    exact J.sub [] rfl (jS_notes_315 ok uB uc us rfl rfl he  w G _ h hK)

def wS_notes_237  (s0 : Int32) (G : Mem) (c1 c2 : Nat) (K : Int32 → Mem → Prop) : Prop :=
  (s0 = 0 ∨ s0 = 1) ∧
  K s0 G

set_option maxRecDepth 100000 in
set_option maxHeartbeats 4000000 in
theorem jS_notes_237 {X : Cx} (ok : OK X cL_notes RL (some .boolean) 15 11 291) {P : Int32 → Mem → Prop} (uB : X.V.H0.size = X.V.B) (uc : 1 ≤ X.V.cc) (us : 1 ≤ X.V.cs) {c1 c2 : Nat} (hcc : X.V.cc - 1 = c1) (hcs : X.V.cs - 1 = c2) (he : EndP X Value.int (fun v G1 => ∃ w2 G2, G1 = up w2 G2 ∧ P v G2))  (s0 : Int32) (w : Int32) (G : Mem) (K : Int32 → Mem → Prop) (h : wS_notes_237 s0 G c1 c2 K) (hK : ∀ r w G', K r G' → (fun r (_ : Int32) G => P r G) r w G') : J X 15 237 [] [.int s0] (up w G) := by
  subst hcc
  subst hcs
  unfold wS_notes_237 at h
  obtain ⟨hz1, h⟩ := h
  exact jl_zret ok (P := fun v G1 => ∃ w2 G2, G1 = up w2 G2 ∧ P v G2) ⟨w, _, rfl, hK _ w _ h⟩ hz1 dL_notes_237 he

def wS_notes_236   (G : Mem) (c1 c2 : Nat) (K : Int32 → Mem → Prop) : Prop :=
  wS_notes_237 (0 : Int32) G c1 c2 K

set_option maxRecDepth 100000 in
set_option maxHeartbeats 4000000 in
theorem jS_notes_236 {X : Cx} (ok : OK X cL_notes RL (some .boolean) 15 11 291) {P : Int32 → Mem → Prop} (uB : X.V.H0.size = X.V.B) (uc : 1 ≤ X.V.cc) (us : 1 ≤ X.V.cs) {c1 c2 : Nat} (hcc : X.V.cc - 1 = c1) (hcs : X.V.cs - 1 = c2) (he : EndP X Value.int (fun v G1 => ∃ w2 G2, G1 = up w2 G2 ∧ P v G2))   (w : Int32) (G : Mem) (K : Int32 → Mem → Prop) (h : wS_notes_236  G c1 c2 K) (hK : ∀ r w G', K r G' → (fun r (_ : Int32) G => P r G) r w G') : J X 15 236 [] [] (up w G) := by
  subst hcc
  subst hcs
  unfold wS_notes_236 at h
  refine j_iconst (v := 0) ok dL_notes_236 (by decide) ?_
  exact J.sub [] rfl (jS_notes_237 ok uB uc us rfl rfl he (0 : Int32) w G _ h hK)

def wS_notes_198 (l0 : Nat) (l2 : Int32) (l6 : Int32) (l8 : Int64) (l12 : Int32) (l13 : Int32) (l14 : Int32)  (G : Mem) (c1 c2 : Nat) (K : Int32 → Mem → Prop) : Prop :=
  if (0 : Int32) < (lg_cmp l8 (0 : Int64)) then
    wpL (fL_positionsAfter l0 (l12 + (1 : Int32)) G) hsL_positionsAfter c1 c2 fun v2 G3 =>
    if l14 = v2 then
      mt G3 l0 = 16 ∧ ∃ q6, fX6_noteCount l0 G3 = some q6 ∧
      if q6.1 = (l12 + (1 : Int32)) then
        mt q6.2 l0 = 16 ∧ ∃ q8, fX6_gameCount l0 q6.2 = some q8 ∧
        if (lg_cmp q8.1 l8) = (0 : Int32) then
          wpL (fL_noteKind l0 l12 q8.2) hsL_noteKind c1 c2 fun v10 G11 =>
          if v10 = l2 then
            wpL (fL_noteFromRow l0 l12 G11) hsL_noteFromRow c1 c2 fun v14 G15 =>
            if v14 = (-1 : Int32) then
              wpL (fL_noteTakes l0 l12 G15) hsL_noteTakes c1 c2 fun v18 G19 =>
              if l6 = (0 : Int32) then
                wS_notes_308 v18 (0 : Int32) G19 c1 c2 K
              else
                wS_notes_308 v18 (1 : Int32) G19 c1 c2 K
            else
              wS_notes_315 G15 c1 c2 K
          else
            wS_notes_315 G11 c1 c2 K
        else
          wS_notes_315 q8.2 c1 c2 K
      else
        wS_notes_315 q6.2 c1 c2 K
    else
      wS_notes_315 G3 c1 c2 K
  else
    if l14 = (-19 : Int32) then
      mt G l0 = 16 ∧ ∃ q3, fX6_noteCount l0 G = some q3 ∧
      if q3.1 = l12 then
        wpL (fL_positionsAfter l0 l12 q3.2) hsL_positionsAfter c1 c2 fun v5 G6 =>
        if v5 = l13 then
          wS_notes_237 (1 : Int32) G6 c1 c2 K
        else
          wS_notes_236 G6 c1 c2 K
      else
        wS_notes_236 q3.2 c1 c2 K
    else
      wS_notes_236 G c1 c2 K

set_option maxRecDepth 100000 in
set_option maxHeartbeats 4000000 in
theorem jS_notes_198 {X : Cx} (ok : OK X cL_notes RL (some .boolean) 15 11 291) {P : Int32 → Mem → Prop} (uB : X.V.H0.size = X.V.B) (uc : 1 ≤ X.V.cc) (us : 1 ≤ X.V.cs) {c1 c2 : Nat} (hcc : X.V.cc - 1 = c1) (hcs : X.V.cs - 1 = c2) (he : EndP X Value.int (fun v G1 => ∃ w2 G2, G1 = up w2 G2 ∧ P v G2)) (l0 : Nat) (l2 : Int32) (l6 : Int32) (l8 : Int64) (l12 : Int32) (l13 : Int32) (l14 : Int32)  (w : Int32) (G : Mem) (K : Int32 → Mem → Prop) (h : wS_notes_198 l0 l2 l6 l8 l12 l13 l14 G c1 c2 K) (hK : ∀ r w G', K r G' → (fun r (_ : Int32) G => P r G) r w G') : J X 15 198 [(0, .ref (X.B + (l0 + 1))), (2, .int l2), (6, .int l6), (8, .long l8), (12, .int l12), (13, .int l13), (14, .int l14)] [] (up w G) := by
  subst hcc
  subst hcs
  unfold wS_notes_198 at h
  refine j_lload ok dL_notes_198 3 rfl ?_
  refine j_lconst (v := 0) ok dL_notes_200 (by decide) ?_
  refine j_lcmp ok dL_notes_201 ?_
  rcases ite_prop h with ⟨c1, h⟩ | ⟨c1, h⟩
  · refine j_if_gt (tgt := 238) ok dL_notes_202 (by decide) (fun _ => ?_) (fun z => absurd c1 z)
    refine j_iload ok dL_notes_238 6 rfl ?_
    refine j_aload_n ok dL_notes_240 rfl 0 rfl ?_
    refine j_iload ok dL_notes_241 4 rfl ?_
    refine j_iconst (v := 1) ok dL_notes_243 (by decide) ?_
    refine j_iadd ok dL_notes_244 ?_
    have hw4 := h
    obtain ⟨q0, hq0, -⟩ := h
    refine k_L ok kl_L_118 ⟨Nat.le_of_ble_eq_true rfl, Nat.le_of_ble_eq_true rfl⟩ [.ref (X.B + (l0 + 1)), .int (l12 + (1 : Int32))] rfl rfl (Nat.le_of_ble_eq_true rfl) (by have z := ml_up (V := X.V) (w := w) uB uc us (tL_positionsAfter ok.fl (upV X.V w) l0 (l12 + (1 : Int32)) G (by rw [hq0]; rfl)); simp only [ref_up] at z; exact z) dL_notes_245 (fun v2 G9 hP => ?_)
    obtain ⟨G3, rfl, hP⟩ := hP
    have h := pl_wp hw4 hP
    clear hw4 hP hq0
    rcases ite_prop h with ⟨c5, h⟩ | ⟨c5, h⟩
    · refine j_icmp_ne (tgt := 315) ok dL_notes_248 (by decide) (fun z => absurd c5 z) (fun _ => ?_)
      refine j_aload_n ok dL_notes_251 rfl 0 rfl ?_
      obtain ⟨kq6, h⟩ := h
      obtain ⟨q6, hq6, h⟩ := h
      refine k_V1 ok kl_L_115 ⟨Nat.le_of_ble_eq_true rfl, Nat.le_of_ble_eq_true rfl⟩ [] (mt_up kq6) rfl rfl (Nat.le_of_ble_eq_true rfl) (by have z := mx_up (V := X.V) (w := w) uB uc us (tX6_noteCount ok.fl (upV X.V w) l0 G3 hq6); simp only [ref_up] at z; exact z) dL_notes_252 ?_
      refine j_iload ok dL_notes_255 4 rfl ?_
      refine j_iconst (v := 1) ok dL_notes_257 (by decide) ?_
      refine j_iadd ok dL_notes_258 ?_
      rcases ite_prop h with ⟨c7, h⟩ | ⟨c7, h⟩
      · refine j_icmp_ne (tgt := 315) ok dL_notes_259 (by decide) (fun z => absurd c7 z) (fun _ => ?_)
        refine j_aload_n ok dL_notes_262 rfl 0 rfl ?_
        obtain ⟨kq8, h⟩ := h
        obtain ⟨q8, hq8, h⟩ := h
        refine k_V1 ok kl_L_140 ⟨Nat.le_of_ble_eq_true rfl, Nat.le_of_ble_eq_true rfl⟩ [] (mt_up kq8) rfl rfl (Nat.le_of_ble_eq_true rfl) (by have z := mx_up (V := X.V) (w := w) uB uc us (tX6_gameCount ok.fl (upV X.V w) l0 q6.2 hq8); simp only [ref_up] at z; exact z) dL_notes_263 ?_
        refine j_lload ok dL_notes_266 3 rfl ?_
        refine j_lcmp ok dL_notes_268 ?_
        rcases ite_prop h with ⟨c9, h⟩ | ⟨c9, h⟩
        · refine j_if_ne (tgt := 315) ok dL_notes_269 (by decide) (fun z => absurd c9 z) (fun _ => ?_)
          refine j_aload_n ok dL_notes_272 rfl 0 rfl ?_
          refine j_iload ok dL_notes_273 4 rfl ?_
          have hw12 := h
          obtain ⟨q0, hq0, -⟩ := h
          refine k_L ok kl_L_182 ⟨Nat.le_of_ble_eq_true rfl, Nat.le_of_ble_eq_true rfl⟩ [.ref (X.B + (l0 + 1)), .int l12] rfl rfl (Nat.le_of_ble_eq_true rfl) (by have z := ml_up (V := X.V) (w := w) uB uc us (tL_noteKind ok.fl (upV X.V w) l0 l12 q8.2 (by rw [hq0]; rfl)); simp only [ref_up] at z; exact z) dL_notes_275 (fun v10 G9 hP => ?_)
          obtain ⟨G11, rfl, hP⟩ := hP
          have h := pl_wp hw12 hP
          clear hw12 hP hq0
          refine j_iload_n ok dL_notes_278 rfl 1 rfl ?_
          rcases ite_prop h with ⟨c13, h⟩ | ⟨c13, h⟩
          · refine j_icmp_ne (tgt := 315) ok dL_notes_279 (by decide) (fun z => absurd c13 z) (fun _ => ?_)
            refine j_aload_n ok dL_notes_282 rfl 0 rfl ?_
            refine j_iload ok dL_notes_283 4 rfl ?_
            have hw16 := h
            obtain ⟨q0, hq0, -⟩ := h
            refine k_L ok kl_L_160 ⟨Nat.le_of_ble_eq_true rfl, Nat.le_of_ble_eq_true rfl⟩ [.ref (X.B + (l0 + 1)), .int l12] rfl rfl (Nat.le_of_ble_eq_true rfl) (by have z := ml_up (V := X.V) (w := w) uB uc us (tL_noteFromRow ok.fl (upV X.V w) l0 l12 G11 (by rw [hq0]; rfl)); simp only [ref_up] at z; exact z) dL_notes_285 (fun v14 G9 hP => ?_)
            obtain ⟨G15, rfl, hP⟩ := hP
            have h := pl_wp hw16 hP
            clear hw16 hP hq0
            refine j_iconst (v := -1) ok dL_notes_288 (by decide) ?_
            rcases ite_prop h with ⟨c17, h⟩ | ⟨c17, h⟩
            · refine j_icmp_ne (tgt := 315) ok dL_notes_289 (by decide) (fun z => absurd c17 z) (fun _ => ?_)
              refine j_aload_n ok dL_notes_292 rfl 0 rfl ?_
              refine j_iload ok dL_notes_293 4 rfl ?_
              have hw20 := h
              obtain ⟨q0, hq0, -⟩ := h
              refine k_L ok kl_L_184 ⟨Nat.le_of_ble_eq_true rfl, Nat.le_of_ble_eq_true rfl⟩ [.ref (X.B + (l0 + 1)), .int l12] rfl rfl (Nat.le_of_ble_eq_true rfl) (by have z := ml_up (V := X.V) (w := w) uB uc us (tL_noteTakes ok.fl (upV X.V w) l0 l12 G15 (by rw [hq0]; rfl)); simp only [ref_up] at z; exact z) dL_notes_295 (fun v18 G9 hP => ?_)
              obtain ⟨G19, rfl, hP⟩ := hP
              have h := pl_wp hw20 hP
              clear hw20 hP hq0
              refine j_iload ok dL_notes_298 2 rfl ?_
              rcases ite_prop h with ⟨c21, h⟩ | ⟨c21, h⟩
              · refine j_if_eq (tgt := 307) ok dL_notes_300 (by decide) (fun _ => ?_) (fun z => absurd c21 z)
                refine j_iconst (v := 0) ok dL_notes_307 (by decide) ?_
                exact J.sub [] rfl (jS_notes_308 ok uB uc us rfl rfl he v18 (0 : Int32) w G19 _ h hK)
              · refine j_if_eq (tgt := 307) ok dL_notes_300 (by decide) (fun z => absurd z c21) (fun _ => ?_)
                refine j_iconst (v := 1) ok dL_notes_303 (by decide) ?_
                refine j_goto (tgt := 308) ok dL_notes_304 (by decide) ?_
                exact J.sub [] rfl (jS_notes_308 ok uB uc us rfl rfl he v18 (1 : Int32) w G19 _ h hK)
            · refine j_icmp_ne (tgt := 315) ok dL_notes_289 (by decide) (fun _ => ?_) (fun z => absurd z c17)
              exact J.sub [] rfl (jS_notes_315 ok uB uc us rfl rfl he  w G15 _ h hK)
          · refine j_icmp_ne (tgt := 315) ok dL_notes_279 (by decide) (fun _ => ?_) (fun z => absurd z c13)
            exact J.sub [] rfl (jS_notes_315 ok uB uc us rfl rfl he  w G11 _ h hK)
        · refine j_if_ne (tgt := 315) ok dL_notes_269 (by decide) (fun _ => ?_) (fun z => absurd z c9)
          exact J.sub [] rfl (jS_notes_315 ok uB uc us rfl rfl he  w q8.2 _ h hK)
      · refine j_icmp_ne (tgt := 315) ok dL_notes_259 (by decide) (fun _ => ?_) (fun z => absurd z c7)
        exact J.sub [] rfl (jS_notes_315 ok uB uc us rfl rfl he  w q6.2 _ h hK)
    · refine j_icmp_ne (tgt := 315) ok dL_notes_248 (by decide) (fun _ => ?_) (fun z => absurd z c5)
      exact J.sub [] rfl (jS_notes_315 ok uB uc us rfl rfl he  w G3 _ h hK)
  · refine j_if_gt (tgt := 238) ok dL_notes_202 (by decide) (fun z => absurd z c1) (fun _ => ?_)
    refine j_iload ok dL_notes_205 6 rfl ?_
    refine j_bipush (v := -19) ok dL_notes_207 (by decide) ?_
    rcases ite_prop h with ⟨c2, h⟩ | ⟨c2, h⟩
    · refine j_icmp_ne (tgt := 236) ok dL_notes_209 (by decide) (fun z => absurd c2 z) (fun _ => ?_)
      refine j_aload_n ok dL_notes_212 rfl 0 rfl ?_
      obtain ⟨kq3, h⟩ := h
      obtain ⟨q3, hq3, h⟩ := h
      refine k_V1 ok kl_L_115 ⟨Nat.le_of_ble_eq_true rfl, Nat.le_of_ble_eq_true rfl⟩ [] (mt_up kq3) rfl rfl (Nat.le_of_ble_eq_true rfl) (by have z := mx_up (V := X.V) (w := w) uB uc us (tX6_noteCount ok.fl (upV X.V w) l0 G hq3); simp only [ref_up] at z; exact z) dL_notes_213 ?_
      refine j_iload ok dL_notes_216 4 rfl ?_
      rcases ite_prop h with ⟨c4, h⟩ | ⟨c4, h⟩
      · refine j_icmp_ne (tgt := 236) ok dL_notes_218 (by decide) (fun z => absurd c4 z) (fun _ => ?_)
        refine j_aload_n ok dL_notes_221 rfl 0 rfl ?_
        refine j_iload ok dL_notes_222 4 rfl ?_
        have hw7 := h
        obtain ⟨q0, hq0, -⟩ := h
        refine k_L ok kl_L_118 ⟨Nat.le_of_ble_eq_true rfl, Nat.le_of_ble_eq_true rfl⟩ [.ref (X.B + (l0 + 1)), .int l12] rfl rfl (Nat.le_of_ble_eq_true rfl) (by have z := ml_up (V := X.V) (w := w) uB uc us (tL_positionsAfter ok.fl (upV X.V w) l0 l12 q3.2 (by rw [hq0]; rfl)); simp only [ref_up] at z; exact z) dL_notes_224 (fun v5 G9 hP => ?_)
        obtain ⟨G6, rfl, hP⟩ := hP
        have h := pl_wp hw7 hP
        clear hw7 hP hq0
        refine j_iload ok dL_notes_227 5 rfl ?_
        rcases ite_prop h with ⟨c8, h⟩ | ⟨c8, h⟩
        · refine j_icmp_ne (tgt := 236) ok dL_notes_229 (by decide) (fun z => absurd c8 z) (fun _ => ?_)
          refine j_iconst (v := 1) ok dL_notes_232 (by decide) ?_
          refine j_goto (tgt := 237) ok dL_notes_233 (by decide) ?_
          exact J.sub [] rfl (jS_notes_237 ok uB uc us rfl rfl he (1 : Int32) w G6 _ h hK)
        · refine j_icmp_ne (tgt := 236) ok dL_notes_229 (by decide) (fun _ => ?_) (fun z => absurd z c8)
          exact J.sub [] rfl (jS_notes_236 ok uB uc us rfl rfl he  w G6 _ h hK)
      · refine j_icmp_ne (tgt := 236) ok dL_notes_218 (by decide) (fun _ => ?_) (fun z => absurd z c4)
        exact J.sub [] rfl (jS_notes_236 ok uB uc us rfl rfl he  w q3.2 _ h hK)
    · refine j_icmp_ne (tgt := 236) ok dL_notes_209 (by decide) (fun _ => ?_) (fun z => absurd z c2)
      exact J.sub [] rfl (jS_notes_236 ok uB uc us rfl rfl he  w G _ h hK)

def wS_notes_110 (l0 : Nat) (l2 : Int32) (l3 : Int32) (l4 : Int32) (l5 : Int32) (l6 : Int32) (s0 : Int32) (G : Mem) (c1 c2 : Nat) (K : Int32 → Mem → Prop) : Prop :=
  wpL (fL_gamesIfNoted l0 l2 l3 l4 l5 l6 s0 G) hsL_gamesIfNoted c1 c2 fun v1 G2 =>
  wpL (fL_gamesIfNoted l0 (-1 : Int32) l3 l4 l5 l6 s0 G2) hsL_gamesIfNoted c1 c2 fun v4 G5 =>
  mt G5 l0 = 16 ∧ ∃ q7, fX6_noteCount l0 G5 = some q7 ∧
  wpL (fL_positionsAfter l0 q7.1 q7.2) hsL_positionsAfter c1 c2 fun v8 G9 =>
  wpL (fL_addNote l0 l2 l3 l4 l5 l6 s0 G9) hsL_addNote c1 c2 fun v11 G12 =>
  if (lg_cmp v1 (0 : Int64)) < (0 : Int32) then
    wS_notes_198 l0 l2 l6 v1 q7.1 v8 v11 G12 c1 c2 K
  else
    if (lg_cmp v4 (0 : Int64)) < (0 : Int32) then
      wS_notes_198 l0 l2 l6 v1 q7.1 v8 v11 G12 c1 c2 K
    else
      if (0 : Int32) ≤ (lg_cmp v4 v1) then
        wS_notes_198 l0 l2 l6 v1 q7.1 v8 v11 G12 c1 c2 K
      else
        K (0 : Int32) G12

set_option maxRecDepth 100000 in
set_option maxHeartbeats 4000000 in
theorem jS_notes_110 {X : Cx} (ok : OK X cL_notes RL (some .boolean) 15 11 291) {P : Int32 → Mem → Prop} (uB : X.V.H0.size = X.V.B) (uc : 1 ≤ X.V.cc) (us : 1 ≤ X.V.cs) {c1 c2 : Nat} (hcc : X.V.cc - 1 = c1) (hcs : X.V.cs - 1 = c2) (he : EndP X Value.int (fun v G1 => ∃ w2 G2, G1 = up w2 G2 ∧ P v G2)) (l0 : Nat) (l2 : Int32) (l3 : Int32) (l4 : Int32) (l5 : Int32) (l6 : Int32) (s0 : Int32) (w : Int32) (G : Mem) (K : Int32 → Mem → Prop) (h : wS_notes_110 l0 l2 l3 l4 l5 l6 s0 G c1 c2 K) (hK : ∀ r w G', K r G' → (fun r (_ : Int32) G => P r G) r w G') : J X 15 110 [(0, .ref (X.B + (l0 + 1))), (2, .int l2), (3, .int l3), (4, .int l4), (5, .int l5), (6, .int l6)] [.int s0] (up w G) := by
  subst hcc
  subst hcs
  unfold wS_notes_110 at h
  refine j_istore (L' := [(7, .int s0), (0, .ref (X.B + (l0 + 1))), (2, .int l2), (3, .int l3), (4, .int l4), (5, .int l5), (6, .int l6)]) ok dL_notes_110 (by decide) rfl ?_
  refine j_aload_n ok dL_notes_112 rfl 1 rfl ?_
  refine j_iload_n ok dL_notes_113 rfl 2 rfl ?_
  refine j_iload_n ok dL_notes_114 rfl 3 rfl ?_
  refine j_iload ok dL_notes_115 4 rfl ?_
  refine j_iload ok dL_notes_117 5 rfl ?_
  refine j_iload ok dL_notes_119 6 rfl ?_
  refine j_iload ok dL_notes_121 0 rfl ?_
  have hw3 := h
  obtain ⟨q0, hq0, -⟩ := h
  refine k_L ok kl_L_176 ⟨Nat.le_of_ble_eq_true rfl, Nat.le_of_ble_eq_true rfl⟩ [.ref (X.B + (l0 + 1)), .int l2, .int l3, .int l4, .int l5, .int l6, .int s0] rfl rfl (Nat.le_of_ble_eq_true rfl) (by have z := ml_up (V := X.V) (w := w) uB uc us (tL_gamesIfNoted ok.fl (upV X.V w) l0 l2 l3 l4 l5 l6 s0 G (by rw [hq0]; rfl)); simp only [ref_up] at z; exact z) dL_notes_123 (fun v1 G9 hP => ?_)
  obtain ⟨G2, rfl, hP⟩ := hP
  have h := pl_wp hw3 hP
  clear hw3 hP hq0
  refine j_lstore (L' := [(8, .long v1), (7, .int s0), (0, .ref (X.B + (l0 + 1))), (2, .int l2), (3, .int l3), (4, .int l4), (5, .int l5), (6, .int l6)]) ok dL_notes_126 (by decide) rfl ?_
  refine j_aload_n ok dL_notes_128 rfl 2 rfl ?_
  refine j_iconst (v := -1) ok dL_notes_129 (by decide) ?_
  refine j_iload_n ok dL_notes_130 rfl 4 rfl ?_
  refine j_iload ok dL_notes_131 5 rfl ?_
  refine j_iload ok dL_notes_133 6 rfl ?_
  refine j_iload ok dL_notes_135 7 rfl ?_
  refine j_iload ok dL_notes_137 1 rfl ?_
  have hw6 := h
  obtain ⟨q0, hq0, -⟩ := h
  refine k_L ok kl_L_176 ⟨Nat.le_of_ble_eq_true rfl, Nat.le_of_ble_eq_true rfl⟩ [.ref (X.B + (l0 + 1)), .int (-1 : Int32), .int l3, .int l4, .int l5, .int l6, .int s0] rfl rfl (Nat.le_of_ble_eq_true rfl) (by have z := ml_up (V := X.V) (w := w) uB uc us (tL_gamesIfNoted ok.fl (upV X.V w) l0 (-1 : Int32) l3 l4 l5 l6 s0 G2 (by rw [hq0]; rfl)); simp only [ref_up] at z; exact z) dL_notes_139 (fun v4 G9 hP => ?_)
  obtain ⟨G5, rfl, hP⟩ := hP
  have h := pl_wp hw6 hP
  clear hw6 hP hq0
  refine j_lstore (L' := [(10, .long v4), (8, .long v1), (7, .int s0), (0, .ref (X.B + (l0 + 1))), (2, .int l2), (3, .int l3), (4, .int l4), (5, .int l5), (6, .int l6)]) ok dL_notes_142 (by decide) rfl ?_
  refine j_aload_n ok dL_notes_144 rfl 3 rfl ?_
  obtain ⟨kq7, h⟩ := h
  obtain ⟨q7, hq7, h⟩ := h
  refine k_V1 ok kl_L_115 ⟨Nat.le_of_ble_eq_true rfl, Nat.le_of_ble_eq_true rfl⟩ [] (mt_up kq7) rfl rfl (Nat.le_of_ble_eq_true rfl) (by have z := mx_up (V := X.V) (w := w) uB uc us (tX6_noteCount ok.fl (upV X.V w) l0 G5 hq7); simp only [ref_up] at z; exact z) dL_notes_145 ?_
  refine j_istore (L' := [(12, .int q7.1), (10, .long v4), (8, .long v1), (7, .int s0), (0, .ref (X.B + (l0 + 1))), (2, .int l2), (3, .int l3), (4, .int l4), (5, .int l5), (6, .int l6)]) ok dL_notes_148 (by decide) rfl ?_
  refine j_aload_n ok dL_notes_150 rfl 4 rfl ?_
  refine j_iload ok dL_notes_151 0 rfl ?_
  have hw10 := h
  obtain ⟨q0, hq0, -⟩ := h
  refine k_L ok kl_L_118 ⟨Nat.le_of_ble_eq_true rfl, Nat.le_of_ble_eq_true rfl⟩ [.ref (X.B + (l0 + 1)), .int q7.1] rfl rfl (Nat.le_of_ble_eq_true rfl) (by have z := ml_up (V := X.V) (w := w) uB uc us (tL_positionsAfter ok.fl (upV X.V w) l0 q7.1 q7.2 (by rw [hq0]; rfl)); simp only [ref_up] at z; exact z) dL_notes_153 (fun v8 G9 hP => ?_)
  obtain ⟨G9, rfl, hP⟩ := hP
  have h := pl_wp hw10 hP
  clear hw10 hP hq0
  refine j_istore (L' := [(13, .int v8), (12, .int q7.1), (10, .long v4), (8, .long v1), (7, .int s0), (0, .ref (X.B + (l0 + 1))), (2, .int l2), (3, .int l3), (4, .int l4), (5, .int l5), (6, .int l6)]) ok dL_notes_156 (by decide) rfl ?_
  refine j_aload_n ok dL_notes_158 rfl 5 rfl ?_
  refine j_iload_n ok dL_notes_159 rfl 6 rfl ?_
  refine j_iload_n ok dL_notes_160 rfl 7 rfl ?_
  refine j_iload ok dL_notes_161 8 rfl ?_
  refine j_iload ok dL_notes_163 9 rfl ?_
  refine j_iload ok dL_notes_165 10 rfl ?_
  refine j_iload ok dL_notes_167 4 rfl ?_
  have hw13 := h
  obtain ⟨q0, hq0, -⟩ := h
  refine k_L ok kl_L_179 ⟨Nat.le_of_ble_eq_true rfl, Nat.le_of_ble_eq_true rfl⟩ [.ref (X.B + (l0 + 1)), .int l2, .int l3, .int l4, .int l5, .int l6, .int s0] rfl rfl (Nat.le_of_ble_eq_true rfl) (by have z := ml_up (V := X.V) (w := w) uB uc us (tL_addNote ok.fl (upV X.V w) l0 l2 l3 l4 l5 l6 s0 G9 (by rw [hq0]; rfl)); simp only [ref_up] at z; exact z) dL_notes_169 (fun v11 G9 hP => ?_)
  obtain ⟨G12, rfl, hP⟩ := hP
  have h := pl_wp hw13 hP
  clear hw13 hP hq0
  refine j_istore (L' := [(14, .int v11), (13, .int v8), (12, .int q7.1), (10, .long v4), (8, .long v1), (7, .int s0), (0, .ref (X.B + (l0 + 1))), (2, .int l2), (3, .int l3), (4, .int l4), (5, .int l5), (6, .int l6)]) ok dL_notes_172 (by decide) rfl ?_
  refine j_lload ok dL_notes_174 4 rfl ?_
  refine j_lconst (v := 0) ok dL_notes_176 (by decide) ?_
  refine j_lcmp ok dL_notes_177 ?_
  rcases ite_prop h with ⟨c14, h⟩ | ⟨c14, h⟩
  · refine j_if_lt (tgt := 198) ok dL_notes_178 (by decide) (fun _ => ?_) (fun z => absurd c14 z)
    exact J.sub [6, 7, 11, 4, 2, 1, 0] rfl (jS_notes_198 ok uB uc us rfl rfl he l0 l2 l6 v1 q7.1 v8 v11 w G12 _ h hK)
  · refine j_if_lt (tgt := 198) ok dL_notes_178 (by decide) (fun z => absurd z c14) (fun _ => ?_)
    refine j_lload ok dL_notes_181 3 rfl ?_
    refine j_lconst (v := 0) ok dL_notes_183 (by decide) ?_
    refine j_lcmp ok dL_notes_184 ?_
    rcases ite_prop h with ⟨c15, h⟩ | ⟨c15, h⟩
    · refine j_if_lt (tgt := 198) ok dL_notes_185 (by decide) (fun _ => ?_) (fun z => absurd c15 z)
      exact J.sub [6, 7, 11, 4, 2, 1, 0] rfl (jS_notes_198 ok uB uc us rfl rfl he l0 l2 l6 v1 q7.1 v8 v11 w G12 _ h hK)
    · refine j_if_lt (tgt := 198) ok dL_notes_185 (by decide) (fun z => absurd z c15) (fun _ => ?_)
      refine j_lload ok dL_notes_188 3 rfl ?_
      refine j_lload ok dL_notes_190 4 rfl ?_
      refine j_lcmp ok dL_notes_192 ?_
      rcases ite_prop h with ⟨c16, h⟩ | ⟨c16, h⟩
      · refine j_if_ge (tgt := 198) ok dL_notes_193 (by decide) (fun _ => ?_) (fun z => absurd c16 z)
        exact J.sub [6, 7, 11, 4, 2, 1, 0] rfl (jS_notes_198 ok uB uc us rfl rfl he l0 l2 l6 v1 q7.1 v8 v11 w G12 _ h hK)
      · refine j_if_ge (tgt := 198) ok dL_notes_193 (by decide) (fun z => absurd z c16) (fun _ => ?_)
        refine j_iconst (v := 0) ok dL_notes_196 (by decide) ?_
        exact jl_zret ok (P := fun v G1 => ∃ w2 G2, G1 = up w2 G2 ∧ P v G2) ⟨w, _, rfl, hK _ w _ h⟩ (Or.inl rfl) dL_notes_197 he

def wS_notes_94 (l0 : Nat) (l2 : Int32) (l3 : Int32) (l4 : Int32) (l5 : Int32) (s0 : Int32) (G : Mem) (c1 c2 : Nat) (K : Int32 → Mem → Prop) : Prop :=
  0 < ((8 : Int32) : Int32).toInt ∧ ∀ v1 : Int32, (0 ≤ v1.toInt ∧ v1.toInt < ((8 : Int32) : Int32).toInt) →
  if v1 = (0 : Int32) then
    wS_notes_110 l0 l2 l3 l4 l5 s0 (1 : Int32) G c1 c2 K
  else
    wS_notes_110 l0 l2 l3 l4 l5 s0 (0 : Int32) G c1 c2 K

set_option maxRecDepth 100000 in
set_option maxHeartbeats 4000000 in
theorem jS_notes_94 {X : Cx} (ok : OK X cL_notes RL (some .boolean) 15 11 291) {P : Int32 → Mem → Prop} (uB : X.V.H0.size = X.V.B) (uc : 1 ≤ X.V.cc) (us : 1 ≤ X.V.cs) {c1 c2 : Nat} (hcc : X.V.cc - 1 = c1) (hcs : X.V.cs - 1 = c2) (he : EndP X Value.int (fun v G1 => ∃ w2 G2, G1 = up w2 G2 ∧ P v G2)) (l0 : Nat) (l2 : Int32) (l3 : Int32) (l4 : Int32) (l5 : Int32) (s0 : Int32) (w : Int32) (G : Mem) (K : Int32 → Mem → Prop) (h : wS_notes_94 l0 l2 l3 l4 l5 s0 G c1 c2 K) (hK : ∀ r w G', K r G' → (fun r (_ : Int32) G => P r G) r w G') : J X 15 94 [(0, .ref (X.B + (l0 + 1))), (1, .ref (X.B + 0)), (2, .int l2), (3, .int l3), (4, .int l4), (5, .int l5)] [.int s0] (up w G) := by
  subst hcc
  subst hcs
  unfold wS_notes_94 at h
  refine j_istore (L' := [(6, .int s0), (0, .ref (X.B + (l0 + 1))), (1, .ref (X.B + 0)), (2, .int l2), (3, .int l3), (4, .int l4), (5, .int l5)]) ok dL_notes_94 (by decide) rfl ?_
  refine j_aload_n ok dL_notes_96 rfl 2 rfl ?_
  refine j_bipush (v := 8) ok dL_notes_97 (by decide) ?_
  obtain ⟨hz3, h⟩ := h
  refine k_Q ok kl_L_172 ⟨Nat.le_of_ble_eq_true rfl, Nat.le_of_ble_eq_true rfl⟩ [.ref (X.B + 0), .int (8 : Int32)] rfl rfl (Nat.le_of_ble_eq_true rfl) (draw_up ok.fl hz3) dL_notes_99 (fun v1 G9 hP => ?_)
  obtain ⟨w, rfl, hP⟩ := hP
  replace h := h v1 hP
  clear hP
  rcases ite_prop h with ⟨c4, h⟩ | ⟨c4, h⟩
  · refine j_if_ne (tgt := 109) ok dL_notes_102 (by decide) (fun z => absurd c4 z) (fun _ => ?_)
    refine j_iconst (v := 1) ok dL_notes_105 (by decide) ?_
    refine j_goto (tgt := 110) ok dL_notes_106 (by decide) ?_
    exact J.sub [1, 3, 4, 5, 6, 0] rfl (jS_notes_110 ok uB uc us rfl rfl he l0 l2 l3 l4 l5 s0 (1 : Int32) w G _ h hK)
  · refine j_if_ne (tgt := 109) ok dL_notes_102 (by decide) (fun _ => ?_) (fun z => absurd z c4)
    refine j_iconst (v := 0) ok dL_notes_109 (by decide) ?_
    exact J.sub [1, 3, 4, 5, 6, 0] rfl (jS_notes_110 ok uB uc us rfl rfl he l0 l2 l3 l4 l5 s0 (0 : Int32) w G _ h hK)

def wS_notes_78 (l0 : Nat) (l2 : Int32) (l3 : Int32) (l4 : Int32) (s0 : Int32) (G : Mem) (c1 c2 : Nat) (K : Int32 → Mem → Prop) : Prop :=
  0 < ((6 : Int32) : Int32).toInt ∧ ∀ v1 : Int32, (0 ≤ v1.toInt ∧ v1.toInt < ((6 : Int32) : Int32).toInt) →
  if v1 = (0 : Int32) then
    wS_notes_94 l0 l2 l3 l4 s0 (1 : Int32) G c1 c2 K
  else
    wS_notes_94 l0 l2 l3 l4 s0 (0 : Int32) G c1 c2 K

set_option maxRecDepth 100000 in
set_option maxHeartbeats 4000000 in
theorem jS_notes_78 {X : Cx} (ok : OK X cL_notes RL (some .boolean) 15 11 291) {P : Int32 → Mem → Prop} (uB : X.V.H0.size = X.V.B) (uc : 1 ≤ X.V.cc) (us : 1 ≤ X.V.cs) {c1 c2 : Nat} (hcc : X.V.cc - 1 = c1) (hcs : X.V.cs - 1 = c2) (he : EndP X Value.int (fun v G1 => ∃ w2 G2, G1 = up w2 G2 ∧ P v G2)) (l0 : Nat) (l2 : Int32) (l3 : Int32) (l4 : Int32) (s0 : Int32) (w : Int32) (G : Mem) (K : Int32 → Mem → Prop) (h : wS_notes_78 l0 l2 l3 l4 s0 G c1 c2 K) (hK : ∀ r w G', K r G' → (fun r (_ : Int32) G => P r G) r w G') : J X 15 78 [(0, .ref (X.B + (l0 + 1))), (1, .ref (X.B + 0)), (2, .int l2), (3, .int l3), (4, .int l4)] [.int s0] (up w G) := by
  subst hcc
  subst hcs
  unfold wS_notes_78 at h
  refine j_istore (L' := [(5, .int s0), (0, .ref (X.B + (l0 + 1))), (1, .ref (X.B + 0)), (2, .int l2), (3, .int l3), (4, .int l4)]) ok dL_notes_78 (by decide) rfl ?_
  refine j_aload_n ok dL_notes_80 rfl 2 rfl ?_
  refine j_bipush (v := 6) ok dL_notes_81 (by decide) ?_
  obtain ⟨hz3, h⟩ := h
  refine k_Q ok kl_L_172 ⟨Nat.le_of_ble_eq_true rfl, Nat.le_of_ble_eq_true rfl⟩ [.ref (X.B + 0), .int (6 : Int32)] rfl rfl (Nat.le_of_ble_eq_true rfl) (draw_up ok.fl hz3) dL_notes_83 (fun v1 G9 hP => ?_)
  obtain ⟨w, rfl, hP⟩ := hP
  replace h := h v1 hP
  clear hP
  rcases ite_prop h with ⟨c4, h⟩ | ⟨c4, h⟩
  · refine j_if_ne (tgt := 93) ok dL_notes_86 (by decide) (fun z => absurd c4 z) (fun _ => ?_)
    refine j_iconst (v := 1) ok dL_notes_89 (by decide) ?_
    refine j_goto (tgt := 94) ok dL_notes_90 (by decide) ?_
    exact J.sub [1, 2, 3, 4, 5, 0] rfl (jS_notes_94 ok uB uc us rfl rfl he l0 l2 l3 l4 s0 (1 : Int32) w G _ h hK)
  · refine j_if_ne (tgt := 93) ok dL_notes_86 (by decide) (fun _ => ?_) (fun z => absurd z c4)
    refine j_iconst (v := 0) ok dL_notes_93 (by decide) ?_
    exact J.sub [1, 2, 3, 4, 5, 0] rfl (jS_notes_94 ok uB uc us rfl rfl he l0 l2 l3 l4 s0 (0 : Int32) w G _ h hK)

def wS_notes_59 (l0 : Nat) (l2 : Int32) (l3 : Int32) (s0 : Int32) (G : Mem) (c1 c2 : Nat) (K : Int32 → Mem → Prop) : Prop :=
  if s0 < (0 : Int32) then
    wS_notes_78 l0 l2 l3 s0 (-1 : Int32) G c1 c2 K
  else
    mt G l0 = 16 ∧ ∃ q2, fX6_rows l0 G = some q2 ∧
    0 < (q2.1 : Int32).toInt ∧ ∀ v3 : Int32, (0 ≤ v3.toInt ∧ v3.toInt < (q2.1 : Int32).toInt) →
    wS_notes_78 l0 l2 l3 s0 v3 q2.2 c1 c2 K

set_option maxRecDepth 100000 in
set_option maxHeartbeats 4000000 in
theorem jS_notes_59 {X : Cx} (ok : OK X cL_notes RL (some .boolean) 15 11 291) {P : Int32 → Mem → Prop} (uB : X.V.H0.size = X.V.B) (uc : 1 ≤ X.V.cc) (us : 1 ≤ X.V.cs) {c1 c2 : Nat} (hcc : X.V.cc - 1 = c1) (hcs : X.V.cs - 1 = c2) (he : EndP X Value.int (fun v G1 => ∃ w2 G2, G1 = up w2 G2 ∧ P v G2)) (l0 : Nat) (l2 : Int32) (l3 : Int32) (s0 : Int32) (w : Int32) (G : Mem) (K : Int32 → Mem → Prop) (h : wS_notes_59 l0 l2 l3 s0 G c1 c2 K) (hK : ∀ r w G', K r G' → (fun r (_ : Int32) G => P r G) r w G') : J X 15 59 [(0, .ref (X.B + (l0 + 1))), (1, .ref (X.B + 0)), (2, .int l2), (3, .int l3)] [.int s0] (up w G) := by
  subst hcc
  subst hcs
  unfold wS_notes_59 at h
  refine j_istore (L' := [(4, .int s0), (0, .ref (X.B + (l0 + 1))), (1, .ref (X.B + 0)), (2, .int l2), (3, .int l3)]) ok dL_notes_59 (by decide) rfl ?_
  refine j_iload ok dL_notes_61 0 rfl ?_
  rcases ite_prop h with ⟨c1, h⟩ | ⟨c1, h⟩
  · refine j_if_lt (tgt := 77) ok dL_notes_63 (by decide) (fun _ => ?_) (fun z => absurd c1 z)
    refine j_iconst (v := -1) ok dL_notes_77 (by decide) ?_
    exact J.sub [1, 2, 3, 4, 0] rfl (jS_notes_78 ok uB uc us rfl rfl he l0 l2 l3 s0 (-1 : Int32) w G _ h hK)
  · refine j_if_lt (tgt := 77) ok dL_notes_63 (by decide) (fun z => absurd z c1) (fun _ => ?_)
    refine j_aload_n ok dL_notes_66 rfl 2 rfl ?_
    refine j_aload_n ok dL_notes_67 rfl 1 rfl ?_
    obtain ⟨kq2, h⟩ := h
    obtain ⟨q2, hq2, h⟩ := h
    refine k_V1 ok kl_L_120 ⟨Nat.le_of_ble_eq_true rfl, Nat.le_of_ble_eq_true rfl⟩ [] (mt_up kq2) rfl rfl (Nat.le_of_ble_eq_true rfl) (by have z := mx_up (V := X.V) (w := w) uB uc us (tX6_rows ok.fl (upV X.V w) l0 G hq2); simp only [ref_up] at z; exact z) dL_notes_68 ?_
    obtain ⟨hz5, h⟩ := h
    refine k_Q ok kl_L_172 ⟨Nat.le_of_ble_eq_true rfl, Nat.le_of_ble_eq_true rfl⟩ [.ref (X.B + 0), .int q2.1] rfl rfl (Nat.le_of_ble_eq_true rfl) (draw_up ok.fl hz5) dL_notes_71 (fun v3 G9 hP => ?_)
    obtain ⟨w, rfl, hP⟩ := hP
    replace h := h v3 hP
    clear hP
    refine j_goto (tgt := 78) ok dL_notes_74 (by decide) ?_
    exact J.sub [1, 2, 3, 4, 0] rfl (jS_notes_78 ok uB uc us rfl rfl he l0 l2 l3 s0 v3 w q2.2 _ h hK)

def wS_notes_38 (l0 : Nat) (l2 : Int32) (s0 : Int32) (G : Mem) (c1 c2 : Nat) (K : Int32 → Mem → Prop) : Prop :=
  0 < ((2 : Int32) : Int32).toInt ∧ ∀ v1 : Int32, (0 ≤ v1.toInt ∧ v1.toInt < ((2 : Int32) : Int32).toInt) →
  if v1 = (0 : Int32) then
    mt G l0 = 16 ∧ ∃ q5, fX6_columns l0 G = some q5 ∧
    0 < (q5.1 : Int32).toInt ∧ ∀ v6 : Int32, (0 ≤ v6.toInt ∧ v6.toInt < (q5.1 : Int32).toInt) →
    wS_notes_59 l0 l2 s0 v6 q5.2 c1 c2 K
  else
    wS_notes_59 l0 l2 s0 (-1 : Int32) G c1 c2 K

set_option maxRecDepth 100000 in
set_option maxHeartbeats 4000000 in
theorem jS_notes_38 {X : Cx} (ok : OK X cL_notes RL (some .boolean) 15 11 291) {P : Int32 → Mem → Prop} (uB : X.V.H0.size = X.V.B) (uc : 1 ≤ X.V.cc) (us : 1 ≤ X.V.cs) {c1 c2 : Nat} (hcc : X.V.cc - 1 = c1) (hcs : X.V.cs - 1 = c2) (he : EndP X Value.int (fun v G1 => ∃ w2 G2, G1 = up w2 G2 ∧ P v G2)) (l0 : Nat) (l2 : Int32) (s0 : Int32) (w : Int32) (G : Mem) (K : Int32 → Mem → Prop) (h : wS_notes_38 l0 l2 s0 G c1 c2 K) (hK : ∀ r w G', K r G' → (fun r (_ : Int32) G => P r G) r w G') : J X 15 38 [(0, .ref (X.B + (l0 + 1))), (1, .ref (X.B + 0)), (2, .int l2)] [.int s0] (up w G) := by
  subst hcc
  subst hcs
  unfold wS_notes_38 at h
  refine j_istore_n (L' := [(3, .int s0), (0, .ref (X.B + (l0 + 1))), (1, .ref (X.B + 0)), (2, .int l2)]) ok dL_notes_38 rfl (by decide) rfl ?_
  refine j_aload_n ok dL_notes_39 rfl 2 rfl ?_
  refine j_iconst (v := 2) ok dL_notes_40 (by decide) ?_
  obtain ⟨hz3, h⟩ := h
  refine k_Q ok kl_L_172 ⟨Nat.le_of_ble_eq_true rfl, Nat.le_of_ble_eq_true rfl⟩ [.ref (X.B + 0), .int (2 : Int32)] rfl rfl (Nat.le_of_ble_eq_true rfl) (draw_up ok.fl hz3) dL_notes_41 (fun v1 G9 hP => ?_)
  obtain ⟨w, rfl, hP⟩ := hP
  replace h := h v1 hP
  clear hP
  rcases ite_prop h with ⟨c4, h⟩ | ⟨c4, h⟩
  · refine j_if_ne (tgt := 58) ok dL_notes_44 (by decide) (fun z => absurd c4 z) (fun _ => ?_)
    refine j_aload_n ok dL_notes_47 rfl 2 rfl ?_
    refine j_aload_n ok dL_notes_48 rfl 1 rfl ?_
    obtain ⟨kq5, h⟩ := h
    obtain ⟨q5, hq5, h⟩ := h
    refine k_V1 ok kl_L_123 ⟨Nat.le_of_ble_eq_true rfl, Nat.le_of_ble_eq_true rfl⟩ [] (mt_up kq5) rfl rfl (Nat.le_of_ble_eq_true rfl) (by have z := mx_up (V := X.V) (w := w) uB uc us (tX6_columns ok.fl (upV X.V w) l0 G hq5); simp only [ref_up] at z; exact z) dL_notes_49 ?_
    obtain ⟨hz8, h⟩ := h
    refine k_Q ok kl_L_172 ⟨Nat.le_of_ble_eq_true rfl, Nat.le_of_ble_eq_true rfl⟩ [.ref (X.B + 0), .int q5.1] rfl rfl (Nat.le_of_ble_eq_true rfl) (draw_up ok.fl hz8) dL_notes_52 (fun v6 G9 hP => ?_)
    obtain ⟨w, rfl, hP⟩ := hP
    replace h := h v6 hP
    clear hP
    refine j_goto (tgt := 59) ok dL_notes_55 (by decide) ?_
    exact J.sub [1, 2, 3, 0] rfl (jS_notes_59 ok uB uc us rfl rfl he l0 l2 s0 v6 w q5.2 _ h hK)
  · refine j_if_ne (tgt := 58) ok dL_notes_44 (by decide) (fun _ => ?_) (fun z => absurd z c4)
    refine j_iconst (v := -1) ok dL_notes_58 (by decide) ?_
    exact J.sub [1, 2, 3, 0] rfl (jS_notes_59 ok uB uc us rfl rfl he l0 l2 s0 (-1 : Int32) w G _ h hK)

def wS_notes_17 (l0 : Nat) (s0 : Int32) (G : Mem) (c1 c2 : Nat) (K : Int32 → Mem → Prop) : Prop :=
  0 < ((3 : Int32) : Int32).toInt ∧ ∀ v1 : Int32, (0 ≤ v1.toInt ∧ v1.toInt < ((3 : Int32) : Int32).toInt) →
  if v1 = (0 : Int32) then
    mt G l0 = 16 ∧ ∃ q5, fX6_columns l0 G = some q5 ∧
    0 < (q5.1 : Int32).toInt ∧ ∀ v6 : Int32, (0 ≤ v6.toInt ∧ v6.toInt < (q5.1 : Int32).toInt) →
    wS_notes_38 l0 s0 v6 q5.2 c1 c2 K
  else
    wS_notes_38 l0 s0 (-1 : Int32) G c1 c2 K

set_option maxRecDepth 100000 in
set_option maxHeartbeats 4000000 in
theorem jS_notes_17 {X : Cx} (ok : OK X cL_notes RL (some .boolean) 15 11 291) {P : Int32 → Mem → Prop} (uB : X.V.H0.size = X.V.B) (uc : 1 ≤ X.V.cc) (us : 1 ≤ X.V.cs) {c1 c2 : Nat} (hcc : X.V.cc - 1 = c1) (hcs : X.V.cs - 1 = c2) (he : EndP X Value.int (fun v G1 => ∃ w2 G2, G1 = up w2 G2 ∧ P v G2)) (l0 : Nat) (s0 : Int32) (w : Int32) (G : Mem) (K : Int32 → Mem → Prop) (h : wS_notes_17 l0 s0 G c1 c2 K) (hK : ∀ r w G', K r G' → (fun r (_ : Int32) G => P r G) r w G') : J X 15 17 [(0, .ref (X.B + (l0 + 1))), (1, .ref (X.B + 0))] [.int s0] (up w G) := by
  subst hcc
  subst hcs
  unfold wS_notes_17 at h
  refine j_istore_n (L' := [(2, .int s0), (0, .ref (X.B + (l0 + 1))), (1, .ref (X.B + 0))]) ok dL_notes_17 rfl (by decide) rfl ?_
  refine j_aload_n ok dL_notes_18 rfl 2 rfl ?_
  refine j_iconst (v := 3) ok dL_notes_19 (by decide) ?_
  obtain ⟨hz3, h⟩ := h
  refine k_Q ok kl_L_172 ⟨Nat.le_of_ble_eq_true rfl, Nat.le_of_ble_eq_true rfl⟩ [.ref (X.B + 0), .int (3 : Int32)] rfl rfl (Nat.le_of_ble_eq_true rfl) (draw_up ok.fl hz3) dL_notes_20 (fun v1 G9 hP => ?_)
  obtain ⟨w, rfl, hP⟩ := hP
  replace h := h v1 hP
  clear hP
  rcases ite_prop h with ⟨c4, h⟩ | ⟨c4, h⟩
  · refine j_if_ne (tgt := 37) ok dL_notes_23 (by decide) (fun z => absurd c4 z) (fun _ => ?_)
    refine j_aload_n ok dL_notes_26 rfl 2 rfl ?_
    refine j_aload_n ok dL_notes_27 rfl 1 rfl ?_
    obtain ⟨kq5, h⟩ := h
    obtain ⟨q5, hq5, h⟩ := h
    refine k_V1 ok kl_L_123 ⟨Nat.le_of_ble_eq_true rfl, Nat.le_of_ble_eq_true rfl⟩ [] (mt_up kq5) rfl rfl (Nat.le_of_ble_eq_true rfl) (by have z := mx_up (V := X.V) (w := w) uB uc us (tX6_columns ok.fl (upV X.V w) l0 G hq5); simp only [ref_up] at z; exact z) dL_notes_28 ?_
    obtain ⟨hz8, h⟩ := h
    refine k_Q ok kl_L_172 ⟨Nat.le_of_ble_eq_true rfl, Nat.le_of_ble_eq_true rfl⟩ [.ref (X.B + 0), .int q5.1] rfl rfl (Nat.le_of_ble_eq_true rfl) (draw_up ok.fl hz8) dL_notes_31 (fun v6 G9 hP => ?_)
    obtain ⟨w, rfl, hP⟩ := hP
    replace h := h v6 hP
    clear hP
    refine j_goto (tgt := 38) ok dL_notes_34 (by decide) ?_
    exact J.sub [1, 2, 0] rfl (jS_notes_38 ok uB uc us rfl rfl he l0 s0 v6 w q5.2 _ h hK)
  · refine j_if_ne (tgt := 37) ok dL_notes_23 (by decide) (fun _ => ?_) (fun z => absurd z c4)
    refine j_iconst (v := -1) ok dL_notes_37 (by decide) ?_
    exact J.sub [1, 2, 0] rfl (jS_notes_38 ok uB uc us rfl rfl he l0 s0 (-1 : Int32) w G _ h hK)

def wS_notes_0 (l0 : Nat)  (G : Mem) (c1 c2 : Nat) (K : Int32 → Mem → Prop) : Prop :=
  0 < ((3 : Int32) : Int32).toInt ∧ ∀ v1 : Int32, (0 ≤ v1.toInt ∧ v1.toInt < ((3 : Int32) : Int32).toInt) →
  if v1 ≤ (0 : Int32) then
    wS_notes_17 l0 (-1 : Int32) G c1 c2 K
  else
    0 < ((5 : Int32) : Int32).toInt ∧ ∀ v5 : Int32, (0 ≤ v5.toInt ∧ v5.toInt < ((5 : Int32) : Int32).toInt) →
    wS_notes_17 l0 v5 G c1 c2 K

set_option maxRecDepth 100000 in
set_option maxHeartbeats 4000000 in
theorem jS_notes_0 {X : Cx} (ok : OK X cL_notes RL (some .boolean) 15 11 291) {P : Int32 → Mem → Prop} (uB : X.V.H0.size = X.V.B) (uc : 1 ≤ X.V.cc) (us : 1 ≤ X.V.cs) {c1 c2 : Nat} (hcc : X.V.cc - 1 = c1) (hcs : X.V.cs - 1 = c2) (he : EndP X Value.int (fun v G1 => ∃ w2 G2, G1 = up w2 G2 ∧ P v G2)) (l0 : Nat)  (w : Int32) (G : Mem) (K : Int32 → Mem → Prop) (h : wS_notes_0 l0 G c1 c2 K) (hK : ∀ r w G', K r G' → (fun r (_ : Int32) G => P r G) r w G') : J X 15 0 [(0, .ref (X.B + (l0 + 1))), (1, .ref (X.B + 0))] [] (up w G) := by
  subst hcc
  subst hcs
  unfold wS_notes_0 at h
  refine j_aload_n ok dL_notes_0 rfl 1 rfl ?_
  refine j_iconst (v := 3) ok dL_notes_1 (by decide) ?_
  obtain ⟨hz3, h⟩ := h
  refine k_Q ok kl_L_172 ⟨Nat.le_of_ble_eq_true rfl, Nat.le_of_ble_eq_true rfl⟩ [.ref (X.B + 0), .int (3 : Int32)] rfl rfl (Nat.le_of_ble_eq_true rfl) (draw_up ok.fl hz3) dL_notes_2 (fun v1 G9 hP => ?_)
  obtain ⟨w, rfl, hP⟩ := hP
  replace h := h v1 hP
  clear hP
  rcases ite_prop h with ⟨c4, h⟩ | ⟨c4, h⟩
  · refine j_if_le (tgt := 16) ok dL_notes_5 (by decide) (fun _ => ?_) (fun z => absurd c4 z)
    refine j_iconst (v := -1) ok dL_notes_16 (by decide) ?_
    exact J.sub [0, 1] rfl (jS_notes_17 ok uB uc us rfl rfl he l0 (-1 : Int32) w G _ h hK)
  · refine j_if_le (tgt := 16) ok dL_notes_5 (by decide) (fun z => absurd z c4) (fun _ => ?_)
    refine j_aload_n ok dL_notes_8 rfl 1 rfl ?_
    refine j_iconst (v := 5) ok dL_notes_9 (by decide) ?_
    obtain ⟨hz7, h⟩ := h
    refine k_Q ok kl_L_172 ⟨Nat.le_of_ble_eq_true rfl, Nat.le_of_ble_eq_true rfl⟩ [.ref (X.B + 0), .int (5 : Int32)] rfl rfl (Nat.le_of_ble_eq_true rfl) (draw_up ok.fl hz7) dL_notes_10 (fun v5 G9 hP => ?_)
    obtain ⟨w, rfl, hP⟩ := hP
    replace h := h v5 hP
    clear hP
    refine j_goto (tgt := 17) ok dL_notes_13 (by decide) ?_
    exact J.sub [0, 1] rfl (jS_notes_17 ok uB uc us rfl rfl he l0 v5 w G _ h hK)

def wS_notes (l0 : Nat) (G : Mem) (c1 c2 : Nat) (K : Int32 → Mem → Prop) : Prop := wS_notes_0 l0 G c1 c2 K
set_option maxRecDepth 100000 in
theorem tS_notes {l : Launch} (hfl : l.stackTraces = false) (V : Wd) (uB : V.H0.size = V.B) (uc : 1 ≤ V.cc) (us : 1 ≤ V.cs) (l0 : Nat) (w : Int32) (G : Mem) {P : Int32 → Mem → Prop} (h : wS_notes l0 G (V.cc - 1) (V.cs - 1) P) : ML l yL_notes (Cond.code yL_notes cL_notes 15 (some .boolean)) 11 291 V [.ref (V.B + (l0 + 1)), .ref (V.B + 0)] (up w G) Value.int (fun v G1 => ∃ w2 G2, G1 = up w2 G2 ∧ P v G2) :=
  mp_of (L := [(0, .ref (V.B + (l0 + 1))), (1, .ref (V.B + 0))]) hfl (by decide +kernel) (Nat.le_of_ble_eq_true rfl) rfl (fun X hl hV ok he => by
    subst hl; subst hV
    exact J.sub [0, 1] rfl (jS_notes_0 ok uB uc us rfl rfl he l0 w G _ h (fun _ _ _ z => z)))

def wS_acts_60  (s0 : Int32) (G : Mem) (c1 c2 : Nat) (K : Int32 → Mem → Prop) : Prop :=
  (s0 = 0 ∨ s0 = 1) ∧
  K s0 G

set_option maxRecDepth 100000 in
set_option maxHeartbeats 4000000 in
theorem jS_acts_60 {X : Cx} (ok : OK X cL_acts RL (some .boolean) 9 12 325) {P : Int32 → Mem → Prop} (uB : X.V.H0.size = X.V.B) (uc : 1 ≤ X.V.cc) (us : 1 ≤ X.V.cs) {c1 c2 : Nat} (hcc : X.V.cc - 1 = c1) (hcs : X.V.cs - 1 = c2) (he : EndP X Value.int (fun v G1 => ∃ w2 G2, G1 = up w2 G2 ∧ P v G2))  (s0 : Int32) (w : Int32) (G : Mem) (K : Int32 → Mem → Prop) (h : wS_acts_60 s0 G c1 c2 K) (hK : ∀ r w G', K r G' → (fun r (_ : Int32) G => P r G) r w G') : J X 9 60 [] [.int s0] (up w G) := by
  subst hcc
  subst hcs
  unfold wS_acts_60 at h
  obtain ⟨hz1, h⟩ := h
  exact jl_zret ok (P := fun v G1 => ∃ w2 G2, G1 = up w2 G2 ∧ P v G2) ⟨w, _, rfl, hK _ w _ h⟩ hz1 dL_acts_60 he

def wS_acts_52  (s0 : Int32) (s1 : Int32) (G : Mem) (c1 c2 : Nat) (K : Int32 → Mem → Prop) : Prop :=
  if s0 = s1 then
    wS_acts_60 (1 : Int32) G c1 c2 K
  else
    wS_acts_60 (0 : Int32) G c1 c2 K

set_option maxRecDepth 100000 in
set_option maxHeartbeats 4000000 in
theorem jS_acts_52 {X : Cx} (ok : OK X cL_acts RL (some .boolean) 9 12 325) {P : Int32 → Mem → Prop} (uB : X.V.H0.size = X.V.B) (uc : 1 ≤ X.V.cc) (us : 1 ≤ X.V.cs) {c1 c2 : Nat} (hcc : X.V.cc - 1 = c1) (hcs : X.V.cs - 1 = c2) (he : EndP X Value.int (fun v G1 => ∃ w2 G2, G1 = up w2 G2 ∧ P v G2))  (s0 : Int32) (s1 : Int32) (w : Int32) (G : Mem) (K : Int32 → Mem → Prop) (h : wS_acts_52 s0 s1 G c1 c2 K) (hK : ∀ r w G', K r G' → (fun r (_ : Int32) G => P r G) r w G') : J X 9 52 [] [.int s1, .int s0] (up w G) := by
  subst hcc
  subst hcs
  unfold wS_acts_52 at h
  rcases ite_prop h with ⟨c1, h⟩ | ⟨c1, h⟩
  · refine j_icmp_ne (tgt := 59) ok dL_acts_52 (by decide) (fun z => absurd c1 z) (fun _ => ?_)
    refine j_iconst (v := 1) ok dL_acts_55 (by decide) ?_
    refine j_goto (tgt := 60) ok dL_acts_56 (by decide) ?_
    exact J.sub [] rfl (jS_acts_60 ok uB uc us rfl rfl he (1 : Int32) w G _ h hK)
  · refine j_icmp_ne (tgt := 59) ok dL_acts_52 (by decide) (fun _ => ?_) (fun z => absurd z c1)
    refine j_iconst (v := 0) ok dL_acts_59 (by decide) ?_
    exact J.sub [] rfl (jS_acts_60 ok uB uc us rfl rfl he (0 : Int32) w G _ h hK)

def wS_acts_175  (s0 : Int32) (G : Mem) (c1 c2 : Nat) (K : Int32 → Mem → Prop) : Prop :=
  (s0 = 0 ∨ s0 = 1) ∧
  K s0 G

set_option maxRecDepth 100000 in
set_option maxHeartbeats 4000000 in
theorem jS_acts_175 {X : Cx} (ok : OK X cL_acts RL (some .boolean) 9 12 325) {P : Int32 → Mem → Prop} (uB : X.V.H0.size = X.V.B) (uc : 1 ≤ X.V.cc) (us : 1 ≤ X.V.cs) {c1 c2 : Nat} (hcc : X.V.cc - 1 = c1) (hcs : X.V.cs - 1 = c2) (he : EndP X Value.int (fun v G1 => ∃ w2 G2, G1 = up w2 G2 ∧ P v G2))  (s0 : Int32) (w : Int32) (G : Mem) (K : Int32 → Mem → Prop) (h : wS_acts_175 s0 G c1 c2 K) (hK : ∀ r w G', K r G' → (fun r (_ : Int32) G => P r G) r w G') : J X 9 175 [] [.int s0] (up w G) := by
  subst hcc
  subst hcs
  unfold wS_acts_175 at h
  obtain ⟨hz1, h⟩ := h
  exact jl_zret ok (P := fun v G1 => ∃ w2 G2, G1 = up w2 G2 ∧ P v G2) ⟨w, _, rfl, hK _ w _ h⟩ hz1 dL_acts_175 he

def wS_acts_174   (G : Mem) (c1 c2 : Nat) (K : Int32 → Mem → Prop) : Prop :=
  wS_acts_175 (0 : Int32) G c1 c2 K

set_option maxRecDepth 100000 in
set_option maxHeartbeats 4000000 in
theorem jS_acts_174 {X : Cx} (ok : OK X cL_acts RL (some .boolean) 9 12 325) {P : Int32 → Mem → Prop} (uB : X.V.H0.size = X.V.B) (uc : 1 ≤ X.V.cc) (us : 1 ≤ X.V.cs) {c1 c2 : Nat} (hcc : X.V.cc - 1 = c1) (hcs : X.V.cs - 1 = c2) (he : EndP X Value.int (fun v G1 => ∃ w2 G2, G1 = up w2 G2 ∧ P v G2))   (w : Int32) (G : Mem) (K : Int32 → Mem → Prop) (h : wS_acts_174  G c1 c2 K) (hK : ∀ r w G', K r G' → (fun r (_ : Int32) G => P r G) r w G') : J X 9 174 [] [] (up w G) := by
  subst hcc
  subst hcs
  unfold wS_acts_174 at h
  refine j_iconst (v := 0) ok dL_acts_174 (by decide) ?_
  exact J.sub [] rfl (jS_acts_175 ok uB uc us rfl rfl he (0 : Int32) w G _ h hK)

def wS_acts_82  (s0 : Int32) (G : Mem) (c1 c2 : Nat) (K : Int32 → Mem → Prop) : Prop :=
  (s0 = 0 ∨ s0 = 1) ∧
  K s0 G

set_option maxRecDepth 100000 in
set_option maxHeartbeats 4000000 in
theorem jS_acts_82 {X : Cx} (ok : OK X cL_acts RL (some .boolean) 9 12 325) {P : Int32 → Mem → Prop} (uB : X.V.H0.size = X.V.B) (uc : 1 ≤ X.V.cc) (us : 1 ≤ X.V.cs) {c1 c2 : Nat} (hcc : X.V.cc - 1 = c1) (hcs : X.V.cs - 1 = c2) (he : EndP X Value.int (fun v G1 => ∃ w2 G2, G1 = up w2 G2 ∧ P v G2))  (s0 : Int32) (w : Int32) (G : Mem) (K : Int32 → Mem → Prop) (h : wS_acts_82 s0 G c1 c2 K) (hK : ∀ r w G', K r G' → (fun r (_ : Int32) G => P r G) r w G') : J X 9 82 [] [.int s0] (up w G) := by
  subst hcc
  subst hcs
  unfold wS_acts_82 at h
  obtain ⟨hz1, h⟩ := h
  exact jl_zret ok (P := fun v G1 => ∃ w2 G2, G1 = up w2 G2 ∧ P v G2) ⟨w, _, rfl, hK _ w _ h⟩ hz1 dL_acts_82 he

def wS_acts_0 (l0 : Nat)  (G : Mem) (c1 c2 : Nat) (K : Int32 → Mem → Prop) : Prop :=
  mt G l0 = 16 ∧ ∃ q1, fX6_noteCount l0 G = some q1 ∧
  0 < ((6 : Int32) : Int32).toInt ∧ ∀ v2 : Int32, (0 ≤ v2.toInt ∧ v2.toInt < ((6 : Int32) : Int32).toInt) →
  if v2 = (0 : Int32) then
    wpL (fL_dropNote l0 q1.2) hsL_dropNote c1 c2 fun v7 G8 =>
    if q1.1 = (0 : Int32) then
      wS_acts_52 v7 (-19 : Int32) G8 c1 c2 K
    else
      wS_acts_52 v7 (q1.1 - (1 : Int32)) G8 c1 c2 K
  else
  if v2 = (1 : Int32) then
    if q1.1 = (0 : Int32) then
      wpL (fL_clarify l0 (0 : Int32) (0 : Int32) (0 : Int32) q1.2) hsL_clarify c1 c2 fun v12 G13 =>
      if v12 = (-17 : Int32) then
        wS_acts_82 (1 : Int32) G13 c1 c2 K
      else
        wS_acts_82 (0 : Int32) G13 c1 c2 K
    else
      0 < (q1.1 : Int32).toInt ∧ ∀ v12 : Int32, (0 ≤ v12.toInt ∧ v12.toInt < (q1.1 : Int32).toInt) →
      wpL (fL_doubt l0 v12 q1.2) hsL_doubt c1 c2 fun v15 G16 =>
      0 < (v15 : Int32).toInt ∧ ∀ v18 : Int32, (0 ≤ v18.toInt ∧ v18.toInt < (v15 : Int32).toInt) →
      wpL (fL_moveOrigin l0 v12 v18 G16) hsL_moveOrigin c1 c2 fun v21 G22 =>
      wpL (fL_gamesWithMove l0 v12 v18 G22) hsL_gamesWithMove c1 c2 fun v24 G25 =>
      mt G25 l0 = 16 ∧ ∃ q27, fX6_columns l0 G25 = some q27 ∧
      ¬ q27.1 = 0 ∧
      mt q27.2 l0 = 16 ∧ ∃ q29, fX6_columns l0 q27.2 = some q29 ∧
      ¬ q29.1 = 0 ∧
      wpL (fL_clarify l0 v12 (v21 - v21 / q27.1 * q27.1) (v21 / q29.1) q29.2) hsL_clarify c1 c2 fun v31 G32 =>
      if v31 < (1 : Int32) then
        wS_acts_174 G32 c1 c2 K
      else
        mt G32 l0 = 16 ∧ ∃ q35, fX6_gameCount l0 G32 = some q35 ∧
        if (lg_cmp q35.1 v24) < (0 : Int32) then
          wS_acts_174 q35.2 c1 c2 K
        else
          wpL (fL_noteFromRow l0 v12 q35.2) hsL_noteFromRow c1 c2 fun v37 G38 =>
          mt G38 l0 = 16 ∧ ∃ q40, fX6_columns l0 G38 = some q40 ∧
          ¬ q40.1 = 0 ∧
          if v37 = (v21 / q40.1) then
            wS_acts_175 (1 : Int32) q40.2 c1 c2 K
          else
            wS_acts_174 q40.2 c1 c2 K
  else
    wS_notes l0 q1.2 c1 c2 fun v16 G17 =>
    (v16 = 0 ∨ v16 = 1) ∧
    K v16 G17

set_option maxRecDepth 100000 in
set_option maxHeartbeats 4000000 in
theorem jS_acts_0 {X : Cx} (ok : OK X cL_acts RL (some .boolean) 9 12 325) {P : Int32 → Mem → Prop} (uB : X.V.H0.size = X.V.B) (uc : 1 ≤ X.V.cc) (us : 1 ≤ X.V.cs) {c1 c2 : Nat} (hcc : X.V.cc - 1 = c1) (hcs : X.V.cs - 1 = c2) (he : EndP X Value.int (fun v G1 => ∃ w2 G2, G1 = up w2 G2 ∧ P v G2)) (l0 : Nat)  (w : Int32) (G : Mem) (K : Int32 → Mem → Prop) (h : wS_acts_0 l0 G c1 c2 K) (hK : ∀ r w G', K r G' → (fun r (_ : Int32) G => P r G) r w G') : J X 9 0 [(0, .ref (X.B + (l0 + 1))), (1, .ref (X.B + 0))] [] (up w G) := by
  subst hcc
  subst hcs
  unfold wS_acts_0 at h
  refine j_aload_n ok dL_acts_0 rfl 0 rfl ?_
  obtain ⟨kq1, h⟩ := h
  obtain ⟨q1, hq1, h⟩ := h
  refine k_V1 ok kl_L_115 ⟨Nat.le_of_ble_eq_true rfl, Nat.le_of_ble_eq_true rfl⟩ [] (mt_up kq1) rfl rfl (Nat.le_of_ble_eq_true rfl) (by have z := mx_up (V := X.V) (w := w) uB uc us (tX6_noteCount ok.fl (upV X.V w) l0 G hq1); simp only [ref_up] at z; exact z) dL_acts_1 ?_
  refine j_istore_n (L' := [(2, .int q1.1), (0, .ref (X.B + (l0 + 1))), (1, .ref (X.B + 0))]) ok dL_acts_4 rfl (by decide) rfl ?_
  refine j_aload_n ok dL_acts_5 rfl 2 rfl ?_
  refine j_bipush (v := 6) ok dL_acts_6 (by decide) ?_
  obtain ⟨hz4, h⟩ := h
  refine k_Q ok kl_L_172 ⟨Nat.le_of_ble_eq_true rfl, Nat.le_of_ble_eq_true rfl⟩ [.ref (X.B + 0), .int (6 : Int32)] rfl rfl (Nat.le_of_ble_eq_true rfl) (draw_up ok.fl hz4) dL_acts_8 (fun v2 G9 hP => ?_)
  obtain ⟨w, rfl, hP⟩ := hP
  replace h := h v2 hP
  clear hP
  rcases ite_prop h with ⟨c5, h⟩ | ⟨c5, h⟩
  · refine j_lkp2 (t0 := 36) (t1 := 61) (t2 := 176) ok dL_acts_11 (by decide) (by decide) (by decide) (fun _ => ?_) (fun z => absurd (c5.symm.trans z) (by decide)) (fun z _ => absurd c5 z)
    refine j_aload_n ok dL_acts_36 rfl 1 rfl ?_
    have hw9 := h
    obtain ⟨q0, hq0, -⟩ := h
    refine k_L ok kl_L_186 ⟨Nat.le_of_ble_eq_true rfl, Nat.le_of_ble_eq_true rfl⟩ [.ref (X.B + (l0 + 1))] rfl rfl (Nat.le_of_ble_eq_true rfl) (by have z := ml_up (V := X.V) (w := w) uB uc us (tL_dropNote ok.fl (upV X.V w) l0 q1.2 (by rw [hq0]; rfl)); simp only [ref_up] at z; exact z) dL_acts_37 (fun v7 G9 hP => ?_)
    obtain ⟨G8, rfl, hP⟩ := hP
    have h := pl_wp hw9 hP
    clear hw9 hP hq0
    refine j_iload_n ok dL_acts_40 rfl 0 rfl ?_
    rcases ite_prop h with ⟨c10, h⟩ | ⟨c10, h⟩
    · refine j_if_ne (tgt := 49) ok dL_acts_41 (by decide) (fun z => absurd c10 z) (fun _ => ?_)
      refine j_bipush (v := -19) ok dL_acts_44 (by decide) ?_
      refine j_goto (tgt := 52) ok dL_acts_46 (by decide) ?_
      exact J.sub [] rfl (jS_acts_52 ok uB uc us rfl rfl he v7 (-19 : Int32) w G8 _ h hK)
    · refine j_if_ne (tgt := 49) ok dL_acts_41 (by decide) (fun _ => ?_) (fun z => absurd z c10)
      refine j_iload_n ok dL_acts_49 rfl 0 rfl ?_
      refine j_iconst (v := 1) ok dL_acts_50 (by decide) ?_
      refine j_isub ok dL_acts_51 ?_
      exact J.sub [] rfl (jS_acts_52 ok uB uc us rfl rfl he v7 (q1.1 - (1 : Int32)) w G8 _ h hK)
  · rcases ite_prop h with ⟨c6, h⟩ | ⟨c6, h⟩
    · refine j_lkp2 (t0 := 36) (t1 := 61) (t2 := 176) ok dL_acts_11 (by decide) (by decide) (by decide) (fun z => absurd z c5) (fun _ => ?_) (fun _ z => absurd c6 z)
      refine j_iload_n ok dL_acts_61 rfl 0 rfl ?_
      rcases ite_prop h with ⟨c11, h⟩ | ⟨c11, h⟩
      · refine j_if_ne (tgt := 83) ok dL_acts_62 (by decide) (fun z => absurd c11 z) (fun _ => ?_)
        refine j_aload_n ok dL_acts_65 rfl 1 rfl ?_
        refine j_iconst (v := 0) ok dL_acts_66 (by decide) ?_
        refine j_iconst (v := 0) ok dL_acts_67 (by decide) ?_
        refine j_iconst (v := 0) ok dL_acts_68 (by decide) ?_
        have hw14 := h
        obtain ⟨q0, hq0, -⟩ := h
        refine k_L ok kl_L_189 ⟨Nat.le_of_ble_eq_true rfl, Nat.le_of_ble_eq_true rfl⟩ [.ref (X.B + (l0 + 1)), .int (0 : Int32), .int (0 : Int32), .int (0 : Int32)] rfl rfl (Nat.le_of_ble_eq_true rfl) (by have z := ml_up (V := X.V) (w := w) uB uc us (tL_clarify ok.fl (upV X.V w) l0 (0 : Int32) (0 : Int32) (0 : Int32) q1.2 (by rw [hq0]; rfl)); simp only [ref_up] at z; exact z) dL_acts_69 (fun v12 G9 hP => ?_)
        obtain ⟨G13, rfl, hP⟩ := hP
        have h := pl_wp hw14 hP
        clear hw14 hP hq0
        refine j_bipush (v := -17) ok dL_acts_72 (by decide) ?_
        rcases ite_prop h with ⟨c15, h⟩ | ⟨c15, h⟩
        · refine j_icmp_ne (tgt := 81) ok dL_acts_74 (by decide) (fun z => absurd c15 z) (fun _ => ?_)
          refine j_iconst (v := 1) ok dL_acts_77 (by decide) ?_
          refine j_goto (tgt := 82) ok dL_acts_78 (by decide) ?_
          exact J.sub [] rfl (jS_acts_82 ok uB uc us rfl rfl he (1 : Int32) w G13 _ h hK)
        · refine j_icmp_ne (tgt := 81) ok dL_acts_74 (by decide) (fun _ => ?_) (fun z => absurd z c15)
          refine j_iconst (v := 0) ok dL_acts_81 (by decide) ?_
          exact J.sub [] rfl (jS_acts_82 ok uB uc us rfl rfl he (0 : Int32) w G13 _ h hK)
      · refine j_if_ne (tgt := 83) ok dL_acts_62 (by decide) (fun _ => ?_) (fun z => absurd z c11)
        refine j_aload_n ok dL_acts_83 rfl 2 rfl ?_
        refine j_iload_n ok dL_acts_84 rfl 0 rfl ?_
        obtain ⟨hz14, h⟩ := h
        refine k_Q ok kl_L_172 ⟨Nat.le_of_ble_eq_true rfl, Nat.le_of_ble_eq_true rfl⟩ [.ref (X.B + 0), .int q1.1] rfl rfl (Nat.le_of_ble_eq_true rfl) (draw_up ok.fl hz14) dL_acts_85 (fun v12 G9 hP => ?_)
        obtain ⟨w, rfl, hP⟩ := hP
        replace h := h v12 hP
        clear hP
        refine j_istore_n (L' := [(3, .int v12), (2, .int q1.1), (0, .ref (X.B + (l0 + 1))), (1, .ref (X.B + 0))]) ok dL_acts_88 rfl (by decide) rfl ?_
        refine j_aload_n ok dL_acts_89 rfl 3 rfl ?_
        refine j_aload_n ok dL_acts_90 rfl 2 rfl ?_
        refine j_iload_n ok dL_acts_91 rfl 0 rfl ?_
        have hw17 := h
        obtain ⟨q0, hq0, -⟩ := h
        refine k_L ok kl_L_148 ⟨Nat.le_of_ble_eq_true rfl, Nat.le_of_ble_eq_true rfl⟩ [.ref (X.B + (l0 + 1)), .int v12] rfl rfl (Nat.le_of_ble_eq_true rfl) (by have z := ml_up (V := X.V) (w := w) uB uc us (tL_doubt ok.fl (upV X.V w) l0 v12 q1.2 (by rw [hq0]; rfl)); simp only [ref_up] at z; exact z) dL_acts_92 (fun v15 G9 hP => ?_)
        obtain ⟨G16, rfl, hP⟩ := hP
        have h := pl_wp hw17 hP
        clear hw17 hP hq0
        obtain ⟨hz20, h⟩ := h
        refine k_Q ok kl_L_172 ⟨Nat.le_of_ble_eq_true rfl, Nat.le_of_ble_eq_true rfl⟩ [.ref (X.B + 0), .int v15] rfl rfl (Nat.le_of_ble_eq_true rfl) (draw_up ok.fl hz20) dL_acts_95 (fun v18 G9 hP => ?_)
        obtain ⟨w, rfl, hP⟩ := hP
        replace h := h v18 hP
        clear hP
        refine j_istore (L' := [(4, .int v18), (3, .int v12), (2, .int q1.1), (0, .ref (X.B + (l0 + 1))), (1, .ref (X.B + 0))]) ok dL_acts_98 (by decide) rfl ?_
        refine j_aload_n ok dL_acts_100 rfl 3 rfl ?_
        refine j_iload_n ok dL_acts_101 rfl 1 rfl ?_
        refine j_iload ok dL_acts_102 0 rfl ?_
        have hw23 := h
        obtain ⟨q0, hq0, -⟩ := h
        refine k_L ok kl_L_150 ⟨Nat.le_of_ble_eq_true rfl, Nat.le_of_ble_eq_true rfl⟩ [.ref (X.B + (l0 + 1)), .int v12, .int v18] rfl rfl (Nat.le_of_ble_eq_true rfl) (by have z := ml_up (V := X.V) (w := w) uB uc us (tL_moveOrigin ok.fl (upV X.V w) l0 v12 v18 G16 (by rw [hq0]; rfl)); simp only [ref_up] at z; exact z) dL_acts_104 (fun v21 G9 hP => ?_)
        obtain ⟨G22, rfl, hP⟩ := hP
        have h := pl_wp hw23 hP
        clear hw23 hP hq0
        refine j_istore (L' := [(5, .int v21), (4, .int v18), (3, .int v12), (2, .int q1.1), (0, .ref (X.B + (l0 + 1))), (1, .ref (X.B + 0))]) ok dL_acts_107 (by decide) rfl ?_
        refine j_aload_n ok dL_acts_109 rfl 4 rfl ?_
        refine j_iload_n ok dL_acts_110 rfl 2 rfl ?_
        refine j_iload ok dL_acts_111 1 rfl ?_
        have hw26 := h
        obtain ⟨q0, hq0, -⟩ := h
        refine k_L ok kl_L_155 ⟨Nat.le_of_ble_eq_true rfl, Nat.le_of_ble_eq_true rfl⟩ [.ref (X.B + (l0 + 1)), .int v12, .int v18] rfl rfl (Nat.le_of_ble_eq_true rfl) (by have z := ml_up (V := X.V) (w := w) uB uc us (tL_gamesWithMove ok.fl (upV X.V w) l0 v12 v18 G22 (by rw [hq0]; rfl)); simp only [ref_up] at z; exact z) dL_acts_113 (fun v24 G9 hP => ?_)
        obtain ⟨G25, rfl, hP⟩ := hP
        have h := pl_wp hw26 hP
        clear hw26 hP hq0
        refine j_lstore (L' := [(6, .long v24), (5, .int v21), (4, .int v18), (3, .int v12), (2, .int q1.1), (0, .ref (X.B + (l0 + 1))), (1, .ref (X.B + 0))]) ok dL_acts_116 (by decide) rfl ?_
        refine j_aload_n ok dL_acts_118 rfl 5 rfl ?_
        refine j_iload_n ok dL_acts_119 rfl 3 rfl ?_
        refine j_iload ok dL_acts_120 1 rfl ?_
        refine j_aload_n ok dL_acts_122 rfl 5 rfl ?_
        obtain ⟨kq27, h⟩ := h
        obtain ⟨q27, hq27, h⟩ := h
        refine k_V1 ok kl_L_123 ⟨Nat.le_of_ble_eq_true rfl, Nat.le_of_ble_eq_true rfl⟩ [] (mt_up kq27) rfl rfl (Nat.le_of_ble_eq_true rfl) (by have z := mx_up (V := X.V) (w := w) uB uc us (tX6_columns ok.fl (upV X.V w) l0 G25 hq27); simp only [ref_up] at z; exact z) dL_acts_123 ?_
        obtain ⟨hz27, h⟩ := h
        refine j_irem ok dL_acts_126 hz27 ?_
        refine j_iload ok dL_acts_127 1 rfl ?_
        refine j_aload_n ok dL_acts_129 rfl 5 rfl ?_
        obtain ⟨kq29, h⟩ := h
        obtain ⟨q29, hq29, h⟩ := h
        refine k_V1 ok kl_L_123 ⟨Nat.le_of_ble_eq_true rfl, Nat.le_of_ble_eq_true rfl⟩ [] (mt_up kq29) rfl rfl (Nat.le_of_ble_eq_true rfl) (by have z := mx_up (V := X.V) (w := w) uB uc us (tX6_columns ok.fl (upV X.V w) l0 q27.2 hq29); simp only [ref_up] at z; exact z) dL_acts_130 ?_
        obtain ⟨hz29, h⟩ := h
        refine j_idiv ok dL_acts_133 hz29 ?_
        have hw33 := h
        obtain ⟨q0, hq0, -⟩ := h
        refine k_L ok kl_L_189 ⟨Nat.le_of_ble_eq_true rfl, Nat.le_of_ble_eq_true rfl⟩ [.ref (X.B + (l0 + 1)), .int v12, .int (v21 - v21 / q27.1 * q27.1), .int (v21 / q29.1)] rfl rfl (Nat.le_of_ble_eq_true rfl) (by have z := ml_up (V := X.V) (w := w) uB uc us (tL_clarify ok.fl (upV X.V w) l0 v12 (v21 - v21 / q27.1 * q27.1) (v21 / q29.1) q29.2 (by rw [hq0]; rfl)); simp only [ref_up] at z; exact z) dL_acts_134 (fun v31 G9 hP => ?_)
        obtain ⟨G32, rfl, hP⟩ := hP
        have h := pl_wp hw33 hP
        clear hw33 hP hq0
        refine j_istore (L' := [(8, .int v31), (6, .long v24), (5, .int v21), (4, .int v18), (3, .int v12), (2, .int q1.1), (0, .ref (X.B + (l0 + 1))), (1, .ref (X.B + 0))]) ok dL_acts_137 (by decide) rfl ?_
        refine j_iload ok dL_acts_139 0 rfl ?_
        refine j_iconst (v := 1) ok dL_acts_141 (by decide) ?_
        rcases ite_prop h with ⟨c34, h⟩ | ⟨c34, h⟩
        · refine j_icmp_lt (tgt := 174) ok dL_acts_142 (by decide) (fun _ => ?_) (fun z => absurd c34 z)
          exact J.sub [] rfl (jS_acts_174 ok uB uc us rfl rfl he  w G32 _ h hK)
        · refine j_icmp_lt (tgt := 174) ok dL_acts_142 (by decide) (fun z => absurd z c34) (fun _ => ?_)
          refine j_aload_n ok dL_acts_145 rfl 6 rfl ?_
          obtain ⟨kq35, h⟩ := h
          obtain ⟨q35, hq35, h⟩ := h
          refine k_V1 ok kl_L_140 ⟨Nat.le_of_ble_eq_true rfl, Nat.le_of_ble_eq_true rfl⟩ [] (mt_up kq35) rfl rfl (Nat.le_of_ble_eq_true rfl) (by have z := mx_up (V := X.V) (w := w) uB uc us (tX6_gameCount ok.fl (upV X.V w) l0 G32 hq35); simp only [ref_up] at z; exact z) dL_acts_146 ?_
          refine j_lload ok dL_acts_149 1 rfl ?_
          refine j_lcmp ok dL_acts_151 ?_
          rcases ite_prop h with ⟨c36, h⟩ | ⟨c36, h⟩
          · refine j_if_lt (tgt := 174) ok dL_acts_152 (by decide) (fun _ => ?_) (fun z => absurd c36 z)
            exact J.sub [] rfl (jS_acts_174 ok uB uc us rfl rfl he  w q35.2 _ h hK)
          · refine j_if_lt (tgt := 174) ok dL_acts_152 (by decide) (fun z => absurd z c36) (fun _ => ?_)
            refine j_aload_n ok dL_acts_155 rfl 6 rfl ?_
            refine j_iload_n ok dL_acts_156 rfl 4 rfl ?_
            have hw39 := h
            obtain ⟨q0, hq0, -⟩ := h
            refine k_L ok kl_L_160 ⟨Nat.le_of_ble_eq_true rfl, Nat.le_of_ble_eq_true rfl⟩ [.ref (X.B + (l0 + 1)), .int v12] rfl rfl (Nat.le_of_ble_eq_true rfl) (by have z := ml_up (V := X.V) (w := w) uB uc us (tL_noteFromRow ok.fl (upV X.V w) l0 v12 q35.2 (by rw [hq0]; rfl)); simp only [ref_up] at z; exact z) dL_acts_157 (fun v37 G9 hP => ?_)
            obtain ⟨G38, rfl, hP⟩ := hP
            have h := pl_wp hw39 hP
            clear hw39 hP hq0
            refine j_iload ok dL_acts_160 2 rfl ?_
            refine j_aload_n ok dL_acts_162 rfl 6 rfl ?_
            obtain ⟨kq40, h⟩ := h
            obtain ⟨q40, hq40, h⟩ := h
            refine k_V1 ok kl_L_123 ⟨Nat.le_of_ble_eq_true rfl, Nat.le_of_ble_eq_true rfl⟩ [] (mt_up kq40) rfl rfl (Nat.le_of_ble_eq_true rfl) (by have z := mx_up (V := X.V) (w := w) uB uc us (tX6_columns ok.fl (upV X.V w) l0 G38 hq40); simp only [ref_up] at z; exact z) dL_acts_163 ?_
            obtain ⟨hz40, h⟩ := h
            refine j_idiv ok dL_acts_166 hz40 ?_
            rcases ite_prop h with ⟨c42, h⟩ | ⟨c42, h⟩
            · refine j_icmp_ne (tgt := 174) ok dL_acts_167 (by decide) (fun z => absurd c42 z) (fun _ => ?_)
              refine j_iconst (v := 1) ok dL_acts_170 (by decide) ?_
              refine j_goto (tgt := 175) ok dL_acts_171 (by decide) ?_
              exact J.sub [] rfl (jS_acts_175 ok uB uc us rfl rfl he (1 : Int32) w q40.2 _ h hK)
            · refine j_icmp_ne (tgt := 174) ok dL_acts_167 (by decide) (fun _ => ?_) (fun z => absurd z c42)
              exact J.sub [] rfl (jS_acts_174 ok uB uc us rfl rfl he  w q40.2 _ h hK)
    · refine j_lkp2 (t0 := 36) (t1 := 61) (t2 := 176) ok dL_acts_11 (by decide) (by decide) (by decide) (fun z => absurd z c5) (fun z => absurd z c6) (fun _ _ => ?_)
      refine j_aload_n ok dL_acts_176 rfl 1 rfl ?_
      refine j_aload_n ok dL_acts_177 rfl 2 rfl ?_
      refine k_Q ok kl_L_191 ⟨Nat.le_of_ble_eq_true rfl, Nat.le_of_ble_eq_true rfl⟩ [.ref (X.B + (l0 + 1)), .ref (X.B + 0)] rfl rfl (Nat.le_of_ble_eq_true rfl) (tS_notes ok.fl X.V uB uc us l0 w q1.2 h) dL_acts_178 (fun v16 G9 hP => ?_)
      obtain ⟨w, G17, rfl, h⟩ := hP
      obtain ⟨hz18, h⟩ := h
      exact jl_zret ok (P := fun v G1 => ∃ w2 G2, G1 = up w2 G2 ∧ P v G2) ⟨w, _, rfl, hK _ w _ h⟩ hz18 dL_acts_181 he

def wS_acts (l0 : Nat) (G : Mem) (c1 c2 : Nat) (K : Int32 → Mem → Prop) : Prop := wS_acts_0 l0 G c1 c2 K
set_option maxRecDepth 100000 in
theorem tS_acts {l : Launch} (hfl : l.stackTraces = false) (V : Wd) (uB : V.H0.size = V.B) (uc : 1 ≤ V.cc) (us : 1 ≤ V.cs) (l0 : Nat) (w : Int32) (G : Mem) {P : Int32 → Mem → Prop} (h : wS_acts l0 G (V.cc - 1) (V.cs - 1) P) : ML l yL_acts (Cond.code yL_acts cL_acts 9 (some .boolean)) 12 325 V [.ref (V.B + (l0 + 1)), .ref (V.B + 0)] (up w G) Value.int (fun v G1 => ∃ w2 G2, G1 = up w2 G2 ∧ P v G2) :=
  mp_of (L := [(0, .ref (V.B + (l0 + 1))), (1, .ref (V.B + 0))]) hfl (by decide +kernel) (Nat.le_of_ble_eq_true rfl) rfl (fun X hl hV ok he => by
    subst hl; subst hV
    exact J.sub [0, 1] rfl (jS_acts_0 ok uB uc us rfl rfl he l0 w G _ h (fun _ _ _ z => z)))

def wS_law_316   (G : Mem) (c1 c2 : Nat) (K : Unit → Mem → Prop) : Prop :=
  False

set_option maxRecDepth 100000 in
set_option maxHeartbeats 4000000 in
theorem jS_law_316 {X : Cx} (ok : OK X cL_law RL (some .boolean) 8 LFR LLO) {b : Nat} {l1 : Int32} (uB : X.V.H0.size = X.V.B) (uc : 1 ≤ X.V.cc) (us : 1 ≤ X.V.cs) {c1 c2 : Nat} (hcc : X.V.cc - 1 = c1) (hcs : X.V.cs - 1 = c2)   (w : Int32) (G : Mem) (K : Unit → Mem → Prop) (h : wS_law_316  G c1 c2 K) (hK : ∀ r w G', K r G' → (fun (_ : Unit) w G => J X 8 318 [(0, .ref b), (1, .int l1)] [] (up w G)) r w G') : J X 8 316 [] [] (up w G) := by
  subst hcc
  subst hcs
  unfold wS_law_316 at h
  refine j_iconst (v := 0) ok dL_law_316 (by decide) ?_
  exact h.elim

def wS_law_233   (G : Mem) (c1 c2 : Nat) (K : Unit → Mem → Prop) : Prop :=
  False

set_option maxRecDepth 100000 in
set_option maxHeartbeats 4000000 in
theorem jS_law_233 {X : Cx} (ok : OK X cL_law RL (some .boolean) 8 LFR LLO) {b : Nat} {l1 : Int32} (uB : X.V.H0.size = X.V.B) (uc : 1 ≤ X.V.cc) (us : 1 ≤ X.V.cs) {c1 c2 : Nat} (hcc : X.V.cc - 1 = c1) (hcs : X.V.cs - 1 = c2)   (w : Int32) (G : Mem) (K : Unit → Mem → Prop) (h : wS_law_233  G c1 c2 K) (hK : ∀ r w G', K r G' → (fun (_ : Unit) w G => J X 8 318 [(0, .ref b), (1, .int l1)] [] (up w G)) r w G') : J X 8 233 [] [] (up w G) := by
  subst hcc
  subst hcs
  unfold wS_law_233 at h
  refine j_iconst (v := 0) ok dL_law_233 (by decide) ?_
  exact h.elim

def wS_law_226 (l1 : Int32) (l3 : Nat)  (G : Mem) (c1 c2 : Nat) (K : Unit → Mem → Prop) : Prop :=
  wL_isGame l3 G c1 c2 fun v1 G2 =>
  if v1 = (0 : Int32) then
    wS_law_233 G2 c1 c2 K
  else
    mt G2 l3 = 16 ∧ ∃ q4, fX6_undoableChanges l3 G2 = some q4 ∧
    mt q4.2 l3 = 16 ∧ ∃ q5, fX6_gameCount l3 q4.2 = some q5 ∧
    mt q5.2 l3 = 16 ∧ ∃ q6, fX6_noteCount l3 q5.2 = some q6 ∧
    if q6.1 = (0 : Int32) then
      K () q6.2
    else
      wpL (fL_dropNote l3 q6.2) hsL_dropNote c1 c2 fun v8 G9 =>
      if v8 = (q6.1 - (1 : Int32)) then
        wpL (fL_undo l3 G9) hsL_undo c1 c2 fun v12 G13 =>
        if v12 = ((if (q4.1 + (1 : Int32)) < (8 : Int32) then (q4.1 + (1 : Int32)) else (8 : Int32)) - (1 : Int32)) then
          mt G13 l3 = 16 ∧ ∃ q16, fX6_gameCount l3 G13 = some q16 ∧
          if (lg_cmp q16.1 q5.1) = (0 : Int32) then
            mt q16.2 l3 = 16 ∧ ∃ q18, fX6_noteCount l3 q16.2 = some q18 ∧
            if q18.1 = q6.1 then
              wL_isGame l3 q18.2 c1 c2 fun v20 G21 =>
              if v20 = (0 : Int32) then
                wS_law_316 G21 c1 c2 K
              else
                K () G21
            else
              wS_law_316 q18.2 c1 c2 K
          else
            wS_law_316 q16.2 c1 c2 K
        else
          wS_law_316 G13 c1 c2 K
      else
        wS_law_316 G9 c1 c2 K

set_option maxRecDepth 100000 in
set_option maxHeartbeats 4000000 in
theorem jS_law_226 {X : Cx} (ok : OK X cL_law RL (some .boolean) 8 LFR LLO) {b : Nat} (uB : X.V.H0.size = X.V.B) (uc : 1 ≤ X.V.cc) (us : 1 ≤ X.V.cs) {c1 c2 : Nat} (hcc : X.V.cc - 1 = c1) (hcs : X.V.cs - 1 = c2) (l1 : Int32) (l3 : Nat)  (w : Int32) (G : Mem) (K : Unit → Mem → Prop) (h : wS_law_226 l1 l3 G c1 c2 K) (hK : ∀ r w G', K r G' → (fun (_ : Unit) w G => J X 8 318 [(0, .ref b), (1, .int l1)] [] (up w G)) r w G') : J X 8 226 [(0, .ref b), (1, .int l1), (3, .ref (X.B + (l3 + 1)))] [] (up w G) := by
  subst hcc
  subst hcs
  unfold wS_law_226 at h
  refine j_aload_n ok dL_law_226 rfl 2 rfl ?_
  refine k_Q ok kl_L_240 ⟨Nat.le_of_ble_eq_true rfl, Nat.le_of_ble_eq_true rfl⟩ [.ref (X.B + (l3 + 1))] rfl rfl (Nat.le_of_ble_eq_true rfl) (by have z := ml_up (V := X.V) (w := w) uB uc us (tL_isGame ok.fl (upV X.V w) l3 G h); simp only [ref_up] at z; exact z) dL_law_227 (fun v1 G9 hP => ?_)
  obtain ⟨G2, rfl, h⟩ := hP
  rcases ite_prop h with ⟨c3, h⟩ | ⟨c3, h⟩
  · refine j_if_ne (tgt := 235) ok dL_law_230 (by decide) (fun z => absurd c3 z) (fun _ => ?_)
    exact J.sub [] rfl (jS_law_233 ok uB uc us rfl rfl  w G2 _ h hK)
  · refine j_if_ne (tgt := 235) ok dL_law_230 (by decide) (fun _ => ?_) (fun z => absurd z c3)
    refine j_aload_n ok dL_law_235 rfl 2 rfl ?_
    obtain ⟨kq4, h⟩ := h
    obtain ⟨q4, hq4, h⟩ := h
    refine k_V1 ok kl_L_244 ⟨Nat.le_of_ble_eq_true rfl, Nat.le_of_ble_eq_true rfl⟩ [] (mt_up kq4) rfl rfl (Nat.le_of_ble_eq_true rfl) (by have z := mx_up (V := X.V) (w := w) uB uc us (tX6_undoableChanges ok.fl (upV X.V w) l3 G2 hq4); simp only [ref_up] at z; exact z) dL_law_236 ?_
    refine j_istore (L' := [(4, .int q4.1), (0, .ref b), (1, .int l1), (3, .ref (X.B + (l3 + 1)))]) ok dL_law_239 (by decide) rfl ?_
    refine j_aload_n ok dL_law_241 rfl 3 rfl ?_
    obtain ⟨kq5, h⟩ := h
    obtain ⟨q5, hq5, h⟩ := h
    refine k_V1 ok kl_L_140 ⟨Nat.le_of_ble_eq_true rfl, Nat.le_of_ble_eq_true rfl⟩ [] (mt_up kq5) rfl rfl (Nat.le_of_ble_eq_true rfl) (by have z := mx_up (V := X.V) (w := w) uB uc us (tX6_gameCount ok.fl (upV X.V w) l3 q4.2 hq5); simp only [ref_up] at z; exact z) dL_law_242 ?_
    refine j_lstore (L' := [(5, .long q5.1), (4, .int q4.1), (0, .ref b), (1, .int l1), (3, .ref (X.B + (l3 + 1)))]) ok dL_law_245 (by decide) rfl ?_
    refine j_aload_n ok dL_law_247 rfl 4 rfl ?_
    obtain ⟨kq6, h⟩ := h
    obtain ⟨q6, hq6, h⟩ := h
    refine k_V1 ok kl_L_115 ⟨Nat.le_of_ble_eq_true rfl, Nat.le_of_ble_eq_true rfl⟩ [] (mt_up kq6) rfl rfl (Nat.le_of_ble_eq_true rfl) (by have z := mx_up (V := X.V) (w := w) uB uc us (tX6_noteCount ok.fl (upV X.V w) l3 q5.2 hq6); simp only [ref_up] at z; exact z) dL_law_248 ?_
    refine j_istore (L' := [(7, .int q6.1), (5, .long q5.1), (4, .int q4.1), (0, .ref b), (1, .int l1), (3, .ref (X.B + (l3 + 1)))]) ok dL_law_251 (by decide) rfl ?_
    refine j_iload ok dL_law_253 0 rfl ?_
    rcases ite_prop h with ⟨c7, h⟩ | ⟨c7, h⟩
    · refine j_if_ne (tgt := 261) ok dL_law_255 (by decide) (fun z => absurd c7 z) (fun _ => ?_)
      refine j_goto (tgt := 318) ok dL_law_258 (by decide) ?_
      exact J.sub [3, 4] rfl (hK _ w _ h)
    · refine j_if_ne (tgt := 261) ok dL_law_255 (by decide) (fun _ => ?_) (fun z => absurd z c7)
      refine j_aload_n ok dL_law_261 rfl 5 rfl ?_
      have hw10 := h
      obtain ⟨q0, hq0, -⟩ := h
      refine k_L ok kl_L_186 ⟨Nat.le_of_ble_eq_true rfl, Nat.le_of_ble_eq_true rfl⟩ [.ref (X.B + (l3 + 1))] rfl rfl (Nat.le_of_ble_eq_true rfl) (by have z := ml_up (V := X.V) (w := w) uB uc us (tL_dropNote ok.fl (upV X.V w) l3 q6.2 (by rw [hq0]; rfl)); simp only [ref_up] at z; exact z) dL_law_262 (fun v8 G9 hP => ?_)
      obtain ⟨G9, rfl, hP⟩ := hP
      have h := pl_wp hw10 hP
      clear hw10 hP hq0
      refine j_iload ok dL_law_265 0 rfl ?_
      refine j_iconst (v := 1) ok dL_law_267 (by decide) ?_
      refine j_isub ok dL_law_268 ?_
      rcases ite_prop h with ⟨c11, h⟩ | ⟨c11, h⟩
      · refine j_icmp_ne (tgt := 316) ok dL_law_269 (by decide) (fun z => absurd c11 z) (fun _ => ?_)
        refine j_aload_n ok dL_law_272 rfl 5 rfl ?_
        have hw14 := h
        obtain ⟨q0, hq0, -⟩ := h
        refine k_L ok kl_L_247 ⟨Nat.le_of_ble_eq_true rfl, Nat.le_of_ble_eq_true rfl⟩ [.ref (X.B + (l3 + 1))] rfl rfl (Nat.le_of_ble_eq_true rfl) (by have z := ml_up (V := X.V) (w := w) uB uc us (tL_undo ok.fl (upV X.V w) l3 G9 (by rw [hq0]; rfl)); simp only [ref_up] at z; exact z) dL_law_273 (fun v12 G9 hP => ?_)
        obtain ⟨G13, rfl, hP⟩ := hP
        have h := pl_wp hw14 hP
        clear hw14 hP hq0
        refine j_bipush (v := 8) ok dL_law_276 (by decide) ?_
        refine j_iload ok dL_law_278 2 rfl ?_
        refine j_iconst (v := 1) ok dL_law_280 (by decide) ?_
        refine j_iadd ok dL_law_281 ?_
        refine k_mmin ok wm_L_249 (Nat.le_of_ble_eq_true rfl) (Nat.le_of_ble_eq_true rfl) (Nat.le_of_ble_eq_true rfl) dL_law_282 ?_
        refine j_iconst (v := 1) ok dL_law_285 (by decide) ?_
        refine j_isub ok dL_law_286 ?_
        rcases ite_prop h with ⟨c15, h⟩ | ⟨c15, h⟩
        · refine j_icmp_ne (tgt := 316) ok dL_law_287 (by decide) (fun z => absurd c15 z) (fun _ => ?_)
          refine j_aload_n ok dL_law_290 rfl 5 rfl ?_
          obtain ⟨kq16, h⟩ := h
          obtain ⟨q16, hq16, h⟩ := h
          refine k_V1 ok kl_L_140 ⟨Nat.le_of_ble_eq_true rfl, Nat.le_of_ble_eq_true rfl⟩ [] (mt_up kq16) rfl rfl (Nat.le_of_ble_eq_true rfl) (by have z := mx_up (V := X.V) (w := w) uB uc us (tX6_gameCount ok.fl (upV X.V w) l3 G13 hq16); simp only [ref_up] at z; exact z) dL_law_291 ?_
          refine j_lload ok dL_law_294 1 rfl ?_
          refine j_lcmp ok dL_law_296 ?_
          rcases ite_prop h with ⟨c17, h⟩ | ⟨c17, h⟩
          · refine j_if_ne (tgt := 316) ok dL_law_297 (by decide) (fun z => absurd c17 z) (fun _ => ?_)
            refine j_aload_n ok dL_law_300 rfl 5 rfl ?_
            obtain ⟨kq18, h⟩ := h
            obtain ⟨q18, hq18, h⟩ := h
            refine k_V1 ok kl_L_115 ⟨Nat.le_of_ble_eq_true rfl, Nat.le_of_ble_eq_true rfl⟩ [] (mt_up kq18) rfl rfl (Nat.le_of_ble_eq_true rfl) (by have z := mx_up (V := X.V) (w := w) uB uc us (tX6_noteCount ok.fl (upV X.V w) l3 q16.2 hq18); simp only [ref_up] at z; exact z) dL_law_301 ?_
            refine j_iload ok dL_law_304 0 rfl ?_
            rcases ite_prop h with ⟨c19, h⟩ | ⟨c19, h⟩
            · refine j_icmp_ne (tgt := 316) ok dL_law_306 (by decide) (fun z => absurd c19 z) (fun _ => ?_)
              refine j_aload_n ok dL_law_309 rfl 5 rfl ?_
              refine k_Q ok kl_L_240 ⟨Nat.le_of_ble_eq_true rfl, Nat.le_of_ble_eq_true rfl⟩ [.ref (X.B + (l3 + 1))] rfl rfl (Nat.le_of_ble_eq_true rfl) (by have z := ml_up (V := X.V) (w := w) uB uc us (tL_isGame ok.fl (upV X.V w) l3 q18.2 h); simp only [ref_up] at z; exact z) dL_law_310 (fun v20 G9 hP => ?_)
              obtain ⟨G21, rfl, h⟩ := hP
              rcases ite_prop h with ⟨c22, h⟩ | ⟨c22, h⟩
              · refine j_if_ne (tgt := 318) ok dL_law_313 (by decide) (fun z => absurd c22 z) (fun _ => ?_)
                exact J.sub [] rfl (jS_law_316 ok uB uc us rfl rfl  w G21 _ h hK)
              · refine j_if_ne (tgt := 318) ok dL_law_313 (by decide) (fun _ => ?_) (fun z => absurd z c22)
                exact J.sub [3, 4] rfl (hK _ w _ h)
            · refine j_icmp_ne (tgt := 316) ok dL_law_306 (by decide) (fun _ => ?_) (fun z => absurd z c19)
              exact J.sub [] rfl (jS_law_316 ok uB uc us rfl rfl  w q18.2 _ h hK)
          · refine j_if_ne (tgt := 316) ok dL_law_297 (by decide) (fun _ => ?_) (fun z => absurd z c17)
            exact J.sub [] rfl (jS_law_316 ok uB uc us rfl rfl  w q16.2 _ h hK)
        · refine j_icmp_ne (tgt := 316) ok dL_law_287 (by decide) (fun _ => ?_) (fun z => absurd z c15)
          exact J.sub [] rfl (jS_law_316 ok uB uc us rfl rfl  w G13 _ h hK)
      · refine j_icmp_ne (tgt := 316) ok dL_law_269 (by decide) (fun _ => ?_) (fun z => absurd z c11)
        exact J.sub [] rfl (jS_law_316 ok uB uc us rfl rfl  w G9 _ h hK)

def wS_law_218   (G : Mem) (c1 c2 : Nat) (K : Unit → Mem → Prop) : Prop :=
  False

set_option maxRecDepth 100000 in
set_option maxHeartbeats 4000000 in
theorem jS_law_218 {X : Cx} (ok : OK X cL_law RL (some .boolean) 8 LFR LLO) {b : Nat} {l1 : Int32} (uB : X.V.H0.size = X.V.B) (uc : 1 ≤ X.V.cc) (us : 1 ≤ X.V.cs) {c1 c2 : Nat} (hcc : X.V.cc - 1 = c1) (hcs : X.V.cs - 1 = c2)   (w : Int32) (G : Mem) (K : Unit → Mem → Prop) (h : wS_law_218  G c1 c2 K) (hK : ∀ r w G', K r G' → (fun (_ : Unit) w G => J X 8 318 [(0, .ref b), (1, .int l1)] [] (up w G)) r w G') : J X 8 218 [] [] (up w G) := by
  subst hcc
  subst hcs
  unfold wS_law_218 at h
  refine j_iconst (v := 0) ok dL_law_218 (by decide) ?_
  exact h.elim

def wS_law_203 (l1 : Int32) (l3 : Nat) (l4 : Int32)  (G : Mem) (c1 c2 : Nat) (K : ((Int32) ⊕ Unit) → Mem → Prop) : Prop :=
  if (9 : Int32) ≤ l4 then
    wS_law_226 l1 l3 G c1 c2 (fun r G => K (.inr r) G)
  else
    wS_acts l3 G c1 c2 fun v2 G3 =>
    if v2 = (0 : Int32) then
      wS_law_218 G3 c1 c2 (fun r G => K (.inr r) G)
    else
      K (.inl ((l4 + (1 : Int32)))) G3

set_option maxRecDepth 100000 in
set_option maxHeartbeats 4000000 in
theorem jS_law_203 {X : Cx} (ok : OK X cL_law RL (some .boolean) 8 LFR LLO) {b : Nat} (uB : X.V.H0.size = X.V.B) (uc : 1 ≤ X.V.cc) (us : 1 ≤ X.V.cs) {c1 c2 : Nat} (hcc : X.V.cc - 1 = c1) (hcs : X.V.cs - 1 = c2) (l1 : Int32) (l3 : Nat) (l4 : Int32)  (w : Int32) (G : Mem) (K : ((Int32) ⊕ Unit) → Mem → Prop) (h : wS_law_203 l1 l3 l4 G c1 c2 K) (hK : ∀ r w G', K r G' → (finS X 8 203 (fun s : Int32 => [(0, .ref b), (1, .int l1), (2, .ref (X.B + 0)), (3, .ref (X.B + (l3 + 1))), (4, .int s)]) (fun (_ : Unit) w G => J X 8 318 [(0, .ref b), (1, .int l1)] [] (up w G))) r w G') : J X 8 203 [(0, .ref b), (1, .int l1), (2, .ref (X.B + 0)), (3, .ref (X.B + (l3 + 1))), (4, .int l4)] [] (up w G) := by
  subst hcc
  subst hcs
  unfold wS_law_203 at h
  refine j_iload ok dL_law_203 4 rfl ?_
  refine j_bipush (v := 9) ok dL_law_205 (by decide) ?_
  rcases ite_prop h with ⟨c1, h⟩ | ⟨c1, h⟩
  · refine j_icmp_ge (tgt := 226) ok dL_law_207 (by decide) (fun _ => ?_) (fun z => absurd c1 z)
    exact J.sub [0, 1, 3] rfl (jS_law_226 ok uB uc us rfl rfl l1 l3 w G _ h (fun r w G hr => hK (.inr r) w G hr))
  · refine j_icmp_ge (tgt := 226) ok dL_law_207 (by decide) (fun z => absurd z c1) (fun _ => ?_)
    refine j_aload_n ok dL_law_210 rfl 3 rfl ?_
    refine j_aload_n ok dL_law_211 rfl 2 rfl ?_
    refine k_Q ok kl_L_237 ⟨Nat.le_of_ble_eq_true rfl, Nat.le_of_ble_eq_true rfl⟩ [.ref (X.B + (l3 + 1)), .ref (X.B + 0)] rfl rfl (Nat.le_of_ble_eq_true rfl) (tS_acts ok.fl X.V uB uc us l3 w G h) dL_law_212 (fun v2 G9 hP => ?_)
    obtain ⟨w, G3, rfl, h⟩ := hP
    rcases ite_prop h with ⟨c4, h⟩ | ⟨c4, h⟩
    · refine j_if_ne (tgt := 220) ok dL_law_215 (by decide) (fun z => absurd c4 z) (fun _ => ?_)
      exact J.sub [] rfl (jS_law_218 ok uB uc us rfl rfl  w G3 _ h (fun r w G hr => hK (.inr r) w G hr))
    · refine j_if_ne (tgt := 220) ok dL_law_215 (by decide) (fun _ => ?_) (fun z => absurd z c4)
      refine j_iinc (L' := [(4, .int (l4 + (1 : Int32))), (0, .ref b), (1, .int l1), (2, .ref (X.B + 0)), (3, .ref (X.B + (l3 + 1)))]) (v := (l4 + (1 : Int32))) ok dL_law_220 (q := 4) rfl rfl (by decide) rfl ?_
      refine j_goto (tgt := 203) ok dL_law_223 (by decide) ?_
      have hJ : J X 8 203 [(0, .ref b), (1, .int l1), (2, .ref (X.B + 0)), (3, .ref (X.B + (l3 + 1))), (4, .int (l4 + (1 : Int32)))] [] (up w G3) := hK _ w _ h
      exact J.sub [1, 2, 3, 4, 0] rfl hJ

def wS_law_200 (l1 : Int32) (l3 : Nat)  (G : Mem) (c1 c2 : Nat) (K : Unit → Mem → Prop) : Prop :=
  loopW (fun (s : Int32) G K => wS_law_203 l1 l3 s G c1 c2 K) FU ((0 : Int32)) G K

set_option maxRecDepth 100000 in
set_option maxHeartbeats 4000000 in
theorem jS_law_200 {X : Cx} (ok : OK X cL_law RL (some .boolean) 8 LFR LLO) {b : Nat} (uB : X.V.H0.size = X.V.B) (uc : 1 ≤ X.V.cc) (us : 1 ≤ X.V.cs) {c1 c2 : Nat} (hcc : X.V.cc - 1 = c1) (hcs : X.V.cs - 1 = c2) (l1 : Int32) (l3 : Nat)  (w : Int32) (G : Mem) (K : Unit → Mem → Prop) (h : wS_law_200 l1 l3 G c1 c2 K) (hK : ∀ r w G', K r G' → (fun (_ : Unit) w G => J X 8 318 [(0, .ref b), (1, .int l1)] [] (up w G)) r w G') : J X 8 200 [(0, .ref b), (1, .int l1), (2, .ref (X.B + 0)), (3, .ref (X.B + (l3 + 1)))] [] (up w G) := by
  subst hcc
  subst hcs
  unfold wS_law_200 at h
  refine j_iconst (v := 0) ok dL_law_200 (by decide) ?_
  refine j_istore (L' := [(4, .int (0 : Int32)), (0, .ref b), (1, .int l1), (2, .ref (X.B + 0)), (3, .ref (X.B + (l3 + 1)))]) ok dL_law_201 (by decide) rfl ?_
  have hJ : J X 8 203 [(0, .ref b), (1, .int l1), (2, .ref (X.B + 0)), (3, .ref (X.B + (l3 + 1))), (4, .int (0 : Int32))] [] (up w G) := ju_loop (loc := fun s : Int32 => [(0, .ref b), (1, .int l1), (2, .ref (X.B + 0)), (3, .ref (X.B + (l3 + 1))), (4, .int s)]) (F := (fun (_ : Unit) w G => J X 8 318 [(0, .ref b), (1, .int l1)] [] (up w G))) (fun s w G K hb hk => jS_law_203 ok uB uc us rfl rfl l1 l3 s w G K hb hk) _ _ w _ _ h hK
  exact J.sub [1, 2, 3, 4, 0] rfl hJ

def wS_law_198   (G : Mem) (c1 c2 : Nat) (K : Unit → Mem → Prop) : Prop :=
  False

set_option maxRecDepth 100000 in
set_option maxHeartbeats 4000000 in
theorem jS_law_198 {X : Cx} (ok : OK X cL_law RL (some .boolean) 8 LFR LLO) {b : Nat} {l1 : Int32} (uB : X.V.H0.size = X.V.B) (uc : 1 ≤ X.V.cc) (us : 1 ≤ X.V.cs) {c1 c2 : Nat} (hcc : X.V.cc - 1 = c1) (hcs : X.V.cs - 1 = c2)   (w : Int32) (G : Mem) (K : Unit → Mem → Prop) (h : wS_law_198  G c1 c2 K) (hK : ∀ r w G', K r G' → (fun (_ : Unit) w G => J X 8 318 [(0, .ref b), (1, .int l1)] [] (up w G)) r w G') : J X 8 198 [] [] (up w G) := by
  subst hcc
  subst hcs
  unfold wS_law_198 at h
  refine j_iconst (v := 0) ok dL_law_198 (by decide) ?_
  exact h.elim

def wS_law_178 (l1 : Int32) (l3 : Nat) (l5 : Nat)  (G : Mem) (c1 c2 : Nat) (K : Unit → Mem → Prop) : Prop :=
  mt G l5 = 18 ∧ ∃ q1, fJ4_toString_0e30d l5 G = some q1 ∧
  wL_write l3 q1.1 q1.2 c1 c2 fun v2 G3 =>
  if v2 = (0 : Int32) then
    wS_law_198 G3 c1 c2 K
  else
    mt G3 l3 = 16 ∧ ∃ q5, fX6_load l3 G3 = some q5 ∧
    if q5.1 = (5 : Int32) then
      wS_law_200 l1 l3 q5.2 c1 c2 K
    else
      wS_law_198 q5.2 c1 c2 K

set_option maxRecDepth 100000 in
set_option maxHeartbeats 4000000 in
theorem jS_law_178 {X : Cx} (ok : OK X cL_law RL (some .boolean) 8 LFR LLO) {b : Nat} (uB : X.V.H0.size = X.V.B) (uc : 1 ≤ X.V.cc) (us : 1 ≤ X.V.cs) {c1 c2 : Nat} (hcc : X.V.cc - 1 = c1) (hcs : X.V.cs - 1 = c2) (l1 : Int32) (l3 : Nat) (l5 : Nat)  (w : Int32) (G : Mem) (K : Unit → Mem → Prop) (h : wS_law_178 l1 l3 l5 G c1 c2 K) (hK : ∀ r w G', K r G' → (fun (_ : Unit) w G => J X 8 318 [(0, .ref b), (1, .int l1)] [] (up w G)) r w G') : J X 8 178 [(0, .ref b), (1, .int l1), (2, .ref (X.B + 0)), (3, .ref (X.B + (l3 + 1))), (5, .ref (X.B + (l5 + 1)))] [] (up w G) := by
  subst hcc
  subst hcs
  unfold wS_law_178 at h
  refine j_aload_n ok dL_law_178 rfl 3 rfl ?_
  refine j_aload ok dL_law_179 4 rfl ?_
  obtain ⟨kq1, h⟩ := h
  obtain ⟨q1, hq1, h⟩ := h
  refine k_V1 ok kl_L_226 ⟨Nat.le_of_ble_eq_true rfl, Nat.le_of_ble_eq_true rfl⟩ [] (mt_up kq1) rfl rfl (Nat.le_of_ble_eq_true rfl) (by have z := mx_up (V := X.V) (w := w) uB uc us (tJ4_toString_0e30d ok.fl (upV X.V w) l5 G hq1); simp only [ref_up] at z; exact z) dL_law_181 ?_
  refine k_Q ok kl_L_230 ⟨Nat.le_of_ble_eq_true rfl, Nat.le_of_ble_eq_true rfl⟩ [.ref (X.B + (l3 + 1)), .ref (X.B + (q1.1 + 1))] rfl rfl (Nat.le_of_ble_eq_true rfl) (by have z := ml_up (V := X.V) (w := w) uB uc us (tL_write ok.fl (upV X.V w) l3 q1.1 q1.2 h); simp only [ref_up] at z; exact z) dL_law_184 (fun v2 G9 hP => ?_)
  obtain ⟨G3, rfl, h⟩ := hP
  rcases ite_prop h with ⟨c4, h⟩ | ⟨c4, h⟩
  · refine j_if_eq (tgt := 198) ok dL_law_187 (by decide) (fun _ => ?_) (fun z => absurd c4 z)
    exact J.sub [] rfl (jS_law_198 ok uB uc us rfl rfl  w G3 _ h hK)
  · refine j_if_eq (tgt := 198) ok dL_law_187 (by decide) (fun z => absurd z c4) (fun _ => ?_)
    refine j_aload_n ok dL_law_190 rfl 3 rfl ?_
    obtain ⟨kq5, h⟩ := h
    obtain ⟨q5, hq5, h⟩ := h
    refine k_V1 ok kl_L_234 ⟨Nat.le_of_ble_eq_true rfl, Nat.le_of_ble_eq_true rfl⟩ [] (mt_up kq5) rfl rfl (Nat.le_of_ble_eq_true rfl) (by have z := mx_up (V := X.V) (w := w) uB uc us (tX6_load ok.fl (upV X.V w) l3 G3 hq5); simp only [ref_up] at z; exact z) dL_law_191 ?_
    refine j_iconst (v := 5) ok dL_law_194 (by decide) ?_
    rcases ite_prop h with ⟨c6, h⟩ | ⟨c6, h⟩
    · refine j_icmp_eq (tgt := 200) ok dL_law_195 (by decide) (fun _ => ?_) (fun z => absurd c6 z)
      exact J.sub [0, 1, 2, 3] rfl (jS_law_200 ok uB uc us rfl rfl l1 l3 w q5.2 _ h hK)
    · refine j_icmp_eq (tgt := 200) ok dL_law_195 (by decide) (fun z => absurd z c6) (fun _ => ?_)
      exact J.sub [] rfl (jS_law_198 ok uB uc us rfl rfl  w q5.2 _ h hK)

def wS_law_163 (l1 : Int32) (l3 : Nat) (l4 : Nat) (l5 : Nat) (l6 : Int32) (s0 : Nat) (s1 : Int32) (G : Mem) (c1 c2 : Nat) (K : ((Int32) ⊕ Unit) → Mem → Prop) : Prop :=
  mt G s0 = 18 ∧ ∃ q1, fJ4_append_bf812 s0 s1 G = some q1 ∧
  mt q1.2 q1.1 = 18 ∧ ∃ q2, fJ4_append_cf468 q1.1 (59 : Int32) q1.2 = some q2 ∧
  K (.inl ((l6 + (1 : Int32)))) q2.2

set_option maxRecDepth 100000 in
set_option maxHeartbeats 4000000 in
theorem jS_law_163 {X : Cx} (ok : OK X cL_law RL (some .boolean) 8 LFR LLO) {b : Nat} (uB : X.V.H0.size = X.V.B) (uc : 1 ≤ X.V.cc) (us : 1 ≤ X.V.cs) {c1 c2 : Nat} (hcc : X.V.cc - 1 = c1) (hcs : X.V.cs - 1 = c2) (l1 : Int32) (l3 : Nat) (l4 : Nat) (l5 : Nat) (l6 : Int32) (s0 : Nat) (s1 : Int32) (w : Int32) (G : Mem) (K : ((Int32) ⊕ Unit) → Mem → Prop) (h : wS_law_163 l1 l3 l4 l5 l6 s0 s1 G c1 c2 K) (hK : ∀ r w G', K r G' → (finS X 8 84 (fun s : Int32 => [(0, .ref b), (1, .int l1), (2, .ref (X.B + 0)), (3, .ref (X.B + (l3 + 1))), (4, .ref (X.B + (l4 + 1))), (5, .ref (X.B + (l5 + 1))), (6, .int s)]) (fun (_ : Unit) w G => J X 8 318 [(0, .ref b), (1, .int l1)] [] (up w G))) r w G') : J X 8 163 [(0, .ref b), (1, .int l1), (2, .ref (X.B + 0)), (3, .ref (X.B + (l3 + 1))), (4, .ref (X.B + (l4 + 1))), (5, .ref (X.B + (l5 + 1))), (6, .int l6)] [.int s1, .ref (X.B + (s0 + 1))] (up w G) := by
  subst hcc
  subst hcs
  unfold wS_law_163 at h
  obtain ⟨kq1, h⟩ := h
  obtain ⟨q1, hq1, h⟩ := h
  refine k_V1 ok kl_L_223 ⟨Nat.le_of_ble_eq_true rfl, Nat.le_of_ble_eq_true rfl⟩ [.int s1] (mt_up kq1) rfl rfl (Nat.le_of_ble_eq_true rfl) (by have z := mx_up (V := X.V) (w := w) uB uc us (tJ4_append_bf812 ok.fl (upV X.V w) s0 s1 G hq1); simp only [ref_up] at z; exact z) dL_law_163 ?_
  refine j_bipush (v := 59) ok dL_law_166 (by decide) ?_
  obtain ⟨kq2, h⟩ := h
  obtain ⟨q2, hq2, h⟩ := h
  refine k_V1 ok kl_L_220 ⟨Nat.le_of_ble_eq_true rfl, Nat.le_of_ble_eq_true rfl⟩ [.int (59 : Int32)] (mt_up kq2) rfl rfl (Nat.le_of_ble_eq_true rfl) (by have z := mx_up (V := X.V) (w := w) uB uc us (tJ4_append_cf468 ok.fl (upV X.V w) q1.1 (59 : Int32) q1.2 hq2); simp only [ref_up] at z; exact z) dL_law_168 ?_
  refine j_pop ok dL_law_171 rfl ?_
  refine j_iinc (L' := [(6, .int (l6 + (1 : Int32))), (0, .ref b), (1, .int l1), (2, .ref (X.B + 0)), (3, .ref (X.B + (l3 + 1))), (4, .ref (X.B + (l4 + 1))), (5, .ref (X.B + (l5 + 1)))]) (v := (l6 + (1 : Int32))) ok dL_law_172 (q := 6) rfl rfl (by decide) rfl ?_
  refine j_goto (tgt := 84) ok dL_law_175 (by decide) ?_
  have hJ : J X 8 84 [(0, .ref b), (1, .int l1), (2, .ref (X.B + 0)), (3, .ref (X.B + (l3 + 1))), (4, .ref (X.B + (l4 + 1))), (5, .ref (X.B + (l5 + 1))), (6, .int (l6 + (1 : Int32)))] [] (up w q2.2) := hK _ w _ h
  exact J.sub [1, 2, 3, 4, 5, 6, 0] rfl hJ

def wS_law_144 (l1 : Int32) (l3 : Nat) (l4 : Nat) (l5 : Nat) (l6 : Int32) (s0 : Nat) (s1 : Int32) (G : Mem) (c1 c2 : Nat) (K : ((Int32) ⊕ Unit) → Mem → Prop) : Prop :=
  mt G s0 = 18 ∧ ∃ q1, fJ4_append_bf812 s0 s1 G = some q1 ∧
  mt q1.2 q1.1 = 18 ∧ ∃ q2, fJ4_append_cf468 q1.1 (32 : Int32) q1.2 = some q2 ∧
  if l6 = (2 : Int32) then
    wS_law_163 l1 l3 l4 l5 l6 q2.1 (2 : Int32) q2.2 c1 c2 K
  else
    wS_law_163 l1 l3 l4 l5 l6 q2.1 (0 : Int32) q2.2 c1 c2 K

set_option maxRecDepth 100000 in
set_option maxHeartbeats 4000000 in
theorem jS_law_144 {X : Cx} (ok : OK X cL_law RL (some .boolean) 8 LFR LLO) {b : Nat} (uB : X.V.H0.size = X.V.B) (uc : 1 ≤ X.V.cc) (us : 1 ≤ X.V.cs) {c1 c2 : Nat} (hcc : X.V.cc - 1 = c1) (hcs : X.V.cs - 1 = c2) (l1 : Int32) (l3 : Nat) (l4 : Nat) (l5 : Nat) (l6 : Int32) (s0 : Nat) (s1 : Int32) (w : Int32) (G : Mem) (K : ((Int32) ⊕ Unit) → Mem → Prop) (h : wS_law_144 l1 l3 l4 l5 l6 s0 s1 G c1 c2 K) (hK : ∀ r w G', K r G' → (finS X 8 84 (fun s : Int32 => [(0, .ref b), (1, .int l1), (2, .ref (X.B + 0)), (3, .ref (X.B + (l3 + 1))), (4, .ref (X.B + (l4 + 1))), (5, .ref (X.B + (l5 + 1))), (6, .int s)]) (fun (_ : Unit) w G => J X 8 318 [(0, .ref b), (1, .int l1)] [] (up w G))) r w G') : J X 8 144 [(0, .ref b), (1, .int l1), (2, .ref (X.B + 0)), (3, .ref (X.B + (l3 + 1))), (4, .ref (X.B + (l4 + 1))), (5, .ref (X.B + (l5 + 1))), (6, .int l6)] [.int s1, .ref (X.B + (s0 + 1))] (up w G) := by
  subst hcc
  subst hcs
  unfold wS_law_144 at h
  obtain ⟨kq1, h⟩ := h
  obtain ⟨q1, hq1, h⟩ := h
  refine k_V1 ok kl_L_223 ⟨Nat.le_of_ble_eq_true rfl, Nat.le_of_ble_eq_true rfl⟩ [.int s1] (mt_up kq1) rfl rfl (Nat.le_of_ble_eq_true rfl) (by have z := mx_up (V := X.V) (w := w) uB uc us (tJ4_append_bf812 ok.fl (upV X.V w) s0 s1 G hq1); simp only [ref_up] at z; exact z) dL_law_144 ?_
  refine j_bipush (v := 32) ok dL_law_147 (by decide) ?_
  obtain ⟨kq2, h⟩ := h
  obtain ⟨q2, hq2, h⟩ := h
  refine k_V1 ok kl_L_220 ⟨Nat.le_of_ble_eq_true rfl, Nat.le_of_ble_eq_true rfl⟩ [.int (32 : Int32)] (mt_up kq2) rfl rfl (Nat.le_of_ble_eq_true rfl) (by have z := mx_up (V := X.V) (w := w) uB uc us (tJ4_append_cf468 ok.fl (upV X.V w) q1.1 (32 : Int32) q1.2 hq2); simp only [ref_up] at z; exact z) dL_law_149 ?_
  refine j_iload ok dL_law_152 6 rfl ?_
  refine j_iconst (v := 2) ok dL_law_154 (by decide) ?_
  rcases ite_prop h with ⟨c3, h⟩ | ⟨c3, h⟩
  · refine j_icmp_ne (tgt := 162) ok dL_law_155 (by decide) (fun z => absurd c3 z) (fun _ => ?_)
    refine j_iconst (v := 2) ok dL_law_158 (by decide) ?_
    refine j_goto (tgt := 163) ok dL_law_159 (by decide) ?_
    exact J.sub [0, 1, 2, 3, 4, 5, 6] rfl (jS_law_163 ok uB uc us rfl rfl l1 l3 l4 l5 l6 q2.1 (2 : Int32) w q2.2 _ h hK)
  · refine j_icmp_ne (tgt := 162) ok dL_law_155 (by decide) (fun _ => ?_) (fun z => absurd z c3)
    refine j_iconst (v := 0) ok dL_law_162 (by decide) ?_
    exact J.sub [0, 1, 2, 3, 4, 5, 6] rfl (jS_law_163 ok uB uc us rfl rfl l1 l3 l4 l5 l6 q2.1 (0 : Int32) w q2.2 _ h hK)

def wS_law_107 (l1 : Int32) (l3 : Nat) (l4 : Nat) (l5 : Nat) (l6 : Int32) (s0 : Nat) (s1 : Nat) (G : Mem) (c1 c2 : Nat) (K : ((Int32) ⊕ Unit) → Mem → Prop) : Prop :=
  mt G s0 = 18 ∧ ∃ q1, fJ4_append_15ec4 s0 s1 G = some q1 ∧
  0 < ((4 : Int32) : Int32).toInt ∧ ∀ v2 : Int32, (0 ≤ v2.toInt ∧ v2.toInt < ((4 : Int32) : Int32).toInt) →
  ∃ v5, gQS q1.2 l4 ((1 : Int32) + v2) = some v5 ∧
  mt q1.2 q1.1 = 18 ∧ ∃ q6, fJ4_append_15ec4 q1.1 v5 q1.2 = some q6 ∧
  mt q6.2 q6.1 = 18 ∧ ∃ q7, fJ4_append_cf468 q6.1 (32 : Int32) q6.2 = some q7 ∧
  if (l6 + (1 : Int32)) = (3 : Int32) then
    wS_law_144 l1 l3 l4 l5 l6 q7.1 (1 : Int32) q7.2 c1 c2 K
  else
    wS_law_144 l1 l3 l4 l5 l6 q7.1 (l6 + (1 : Int32)) q7.2 c1 c2 K

set_option maxRecDepth 100000 in
set_option maxHeartbeats 4000000 in
theorem jS_law_107 {X : Cx} (ok : OK X cL_law RL (some .boolean) 8 LFR LLO) {b : Nat} (uB : X.V.H0.size = X.V.B) (uc : 1 ≤ X.V.cc) (us : 1 ≤ X.V.cs) {c1 c2 : Nat} (hcc : X.V.cc - 1 = c1) (hcs : X.V.cs - 1 = c2) (l1 : Int32) (l3 : Nat) (l4 : Nat) (l5 : Nat) (l6 : Int32) (s0 : Nat) (s1 : Nat) (w : Int32) (G : Mem) (K : ((Int32) ⊕ Unit) → Mem → Prop) (h : wS_law_107 l1 l3 l4 l5 l6 s0 s1 G c1 c2 K) (hK : ∀ r w G', K r G' → (finS X 8 84 (fun s : Int32 => [(0, .ref b), (1, .int l1), (2, .ref (X.B + 0)), (3, .ref (X.B + (l3 + 1))), (4, .ref (X.B + (l4 + 1))), (5, .ref (X.B + (l5 + 1))), (6, .int s)]) (fun (_ : Unit) w G => J X 8 318 [(0, .ref b), (1, .int l1)] [] (up w G))) r w G') : J X 8 107 [(0, .ref b), (1, .int l1), (2, .ref (X.B + 0)), (3, .ref (X.B + (l3 + 1))), (4, .ref (X.B + (l4 + 1))), (5, .ref (X.B + (l5 + 1))), (6, .int l6)] [.ref (X.V.sa s1), .ref (X.B + (s0 + 1))] (up w G) := by
  subst hcc
  subst hcs
  unfold wS_law_107 at h
  obtain ⟨kq1, h⟩ := h
  obtain ⟨q1, hq1, h⟩ := h
  refine k_V1 ok kl_L_217 ⟨Nat.le_of_ble_eq_true rfl, Nat.le_of_ble_eq_true rfl⟩ [.ref (X.V.sa s1)] (mt_up kq1) rfl rfl (Nat.le_of_ble_eq_true rfl) (by have z := mx_up (V := X.V) (w := w) uB uc us (tJ4_append_15ec4 ok.fl (upV X.V w) s0 s1 G hq1); simp only [ref_up] at z; exact z) dL_law_107 ?_
  refine j_aload ok dL_law_110 4 rfl ?_
  refine j_iconst (v := 1) ok dL_law_112 (by decide) ?_
  refine j_aload_n ok dL_law_113 rfl 2 rfl ?_
  refine j_iconst (v := 4) ok dL_law_114 (by decide) ?_
  obtain ⟨hz4, h⟩ := h
  refine k_Q ok kl_L_172 ⟨Nat.le_of_ble_eq_true rfl, Nat.le_of_ble_eq_true rfl⟩ [.ref (X.B + 0), .int (4 : Int32)] rfl rfl (Nat.le_of_ble_eq_true rfl) (draw_up ok.fl hz4) dL_law_115 (fun v2 G9 hP => ?_)
  obtain ⟨w, rfl, hP⟩ := hP
  replace h := h v2 hP
  clear hP
  refine j_iadd ok dL_law_118 ?_
  obtain ⟨v5, hv5, h⟩ := h
  refine j_aalds ok (up_gQS hv5) dL_law_119 ?_
  obtain ⟨kq6, h⟩ := h
  obtain ⟨q6, hq6, h⟩ := h
  refine k_V1 ok kl_L_217 ⟨Nat.le_of_ble_eq_true rfl, Nat.le_of_ble_eq_true rfl⟩ [.ref (X.V.sa v5)] (mt_up kq6) rfl rfl (Nat.le_of_ble_eq_true rfl) (by have z := mx_up (V := X.V) (w := w) uB uc us (tJ4_append_15ec4 ok.fl (upV X.V w) q1.1 v5 q1.2 hq6); simp only [ref_up] at z; exact z) dL_law_120 ?_
  refine j_bipush (v := 32) ok dL_law_123 (by decide) ?_
  obtain ⟨kq7, h⟩ := h
  obtain ⟨q7, hq7, h⟩ := h
  refine k_V1 ok kl_L_220 ⟨Nat.le_of_ble_eq_true rfl, Nat.le_of_ble_eq_true rfl⟩ [.int (32 : Int32)] (mt_up kq7) rfl rfl (Nat.le_of_ble_eq_true rfl) (by have z := mx_up (V := X.V) (w := w) uB uc us (tJ4_append_cf468 ok.fl (upV X.V w) q6.1 (32 : Int32) q6.2 hq7); simp only [ref_up] at z; exact z) dL_law_125 ?_
  refine j_iload ok dL_law_128 6 rfl ?_
  refine j_iconst (v := 1) ok dL_law_130 (by decide) ?_
  refine j_iadd ok dL_law_131 ?_
  refine j_iconst (v := 3) ok dL_law_132 (by decide) ?_
  rcases ite_prop h with ⟨c8, h⟩ | ⟨c8, h⟩
  · refine j_icmp_ne (tgt := 140) ok dL_law_133 (by decide) (fun z => absurd c8 z) (fun _ => ?_)
    refine j_iconst (v := 1) ok dL_law_136 (by decide) ?_
    refine j_goto (tgt := 144) ok dL_law_137 (by decide) ?_
    exact J.sub [0, 1, 2, 3, 4, 5, 6] rfl (jS_law_144 ok uB uc us rfl rfl l1 l3 l4 l5 l6 q7.1 (1 : Int32) w q7.2 _ h hK)
  · refine j_icmp_ne (tgt := 140) ok dL_law_133 (by decide) (fun _ => ?_) (fun z => absurd z c8)
    refine j_iload ok dL_law_140 6 rfl ?_
    refine j_iconst (v := 1) ok dL_law_142 (by decide) ?_
    refine j_iadd ok dL_law_143 ?_
    exact J.sub [0, 1, 2, 3, 4, 5, 6] rfl (jS_law_144 ok uB uc us rfl rfl l1 l3 l4 l5 l6 q7.1 (l6 + (1 : Int32)) w q7.2 _ h hK)

def wS_law_84 (l1 : Int32) (l3 : Nat) (l4 : Nat) (l5 : Nat) (l6 : Int32)  (G : Mem) (c1 c2 : Nat) (K : ((Int32) ⊕ Unit) → Mem → Prop) : Prop :=
  if (3 : Int32) ≤ l6 then
    wS_law_178 l1 l3 l5 G c1 c2 (fun r G => K (.inr r) G)
  else
    0 < ((2 : Int32) : Int32).toInt ∧ ∀ v2 : Int32, (0 ≤ v2.toInt ∧ v2.toInt < ((2 : Int32) : Int32).toInt) →
    if v2 = (0 : Int32) then
      wS_law_107 l1 l3 l4 l5 l6 l5 35 G c1 c2 K
    else
      wS_law_107 l1 l3 l4 l5 l6 l5 36 G c1 c2 K

set_option maxRecDepth 100000 in
set_option maxHeartbeats 4000000 in
theorem jS_law_84 {X : Cx} (ok : OK X cL_law RL (some .boolean) 8 LFR LLO) {b : Nat} (uB : X.V.H0.size = X.V.B) (uc : 1 ≤ X.V.cc) (us : 1 ≤ X.V.cs) {c1 c2 : Nat} (hcc : X.V.cc - 1 = c1) (hcs : X.V.cs - 1 = c2) (l1 : Int32) (l3 : Nat) (l4 : Nat) (l5 : Nat) (l6 : Int32)  (w : Int32) (G : Mem) (K : ((Int32) ⊕ Unit) → Mem → Prop) (h : wS_law_84 l1 l3 l4 l5 l6 G c1 c2 K) (hK : ∀ r w G', K r G' → (finS X 8 84 (fun s : Int32 => [(0, .ref b), (1, .int l1), (2, .ref (X.B + 0)), (3, .ref (X.B + (l3 + 1))), (4, .ref (X.B + (l4 + 1))), (5, .ref (X.B + (l5 + 1))), (6, .int s)]) (fun (_ : Unit) w G => J X 8 318 [(0, .ref b), (1, .int l1)] [] (up w G))) r w G') : J X 8 84 [(0, .ref b), (1, .int l1), (2, .ref (X.B + 0)), (3, .ref (X.B + (l3 + 1))), (4, .ref (X.B + (l4 + 1))), (5, .ref (X.B + (l5 + 1))), (6, .int l6)] [] (up w G) := by
  subst hcc
  subst hcs
  unfold wS_law_84 at h
  refine j_iload ok dL_law_84 6 rfl ?_
  refine j_iconst (v := 3) ok dL_law_86 (by decide) ?_
  rcases ite_prop h with ⟨c1, h⟩ | ⟨c1, h⟩
  · refine j_icmp_ge (tgt := 178) ok dL_law_87 (by decide) (fun _ => ?_) (fun z => absurd c1 z)
    exact J.sub [0, 1, 2, 3, 5] rfl (jS_law_178 ok uB uc us rfl rfl l1 l3 l5 w G _ h (fun r w G hr => hK (.inr r) w G hr))
  · refine j_icmp_ge (tgt := 178) ok dL_law_87 (by decide) (fun z => absurd z c1) (fun _ => ?_)
    refine j_aload ok dL_law_90 5 rfl ?_
    refine j_aload_n ok dL_law_92 rfl 2 rfl ?_
    refine j_iconst (v := 2) ok dL_law_93 (by decide) ?_
    obtain ⟨hz4, h⟩ := h
    refine k_Q ok kl_L_172 ⟨Nat.le_of_ble_eq_true rfl, Nat.le_of_ble_eq_true rfl⟩ [.ref (X.B + 0), .int (2 : Int32)] rfl rfl (Nat.le_of_ble_eq_true rfl) (draw_up ok.fl hz4) dL_law_94 (fun v2 G9 hP => ?_)
    obtain ⟨w, rfl, hP⟩ := hP
    replace h := h v2 hP
    clear hP
    rcases ite_prop h with ⟨c5, h⟩ | ⟨c5, h⟩
    · refine j_if_ne (tgt := 105) ok dL_law_97 (by decide) (fun z => absurd c5 z) (fun _ => ?_)
      refine k_str ok st_L_213 dL_law_100 ?_
      refine j_goto (tgt := 107) ok dL_law_102 (by decide) ?_
      exact J.sub [0, 1, 2, 3, 4, 5, 6] rfl (jS_law_107 ok uB uc us rfl rfl l1 l3 l4 l5 l6 l5 35 w G _ h hK)
    · refine j_if_ne (tgt := 105) ok dL_law_97 (by decide) (fun _ => ?_) (fun z => absurd z c5)
      refine k_str ok st_L_215 dL_law_105 ?_
      exact J.sub [0, 1, 2, 3, 4, 5, 6] rfl (jS_law_107 ok uB uc us rfl rfl l1 l3 l4 l5 l6 l5 36 w G _ h hK)

def wS_law_31 (l1 : Int32) (l3 : Nat)  (G : Mem) (c1 c2 : Nat) (K : Unit → Mem → Prop) : Prop :=
  0 < ((2 : Int32) : Int32).toInt ∧ ∀ v1 : Int32, (0 ≤ v1.toInt ∧ v1.toInt < ((2 : Int32) : Int32).toInt) →
  if v1 = (0 : Int32) then
    ∃ q5, nA G 8 (5 : Int32) = some q5 ∧
    ∃ G6, pQS q5.2 q5.1 (0 : Int32) 3 = some G6 ∧
    ∃ G7, pQS G6 q5.1 (1 : Int32) 4 = some G7 ∧
    ∃ G8, pQS G7 q5.1 (2 : Int32) 5 = some G8 ∧
    ∃ G9, pQS G8 q5.1 (3 : Int32) 6 = some G9 ∧
    ∃ G10, pQS G9 q5.1 (4 : Int32) 7 = some G10 ∧
    ∃ q11, nO G10 18 4 = some q11 ∧
    ∃ q12, fJ4_init_a7421 q11.1 34 q11.2 = some q12 ∧
    loopW (fun (s : Int32) G K => wS_law_84 l1 l3 q5.1 q11.1 s G c1 c2 K) FU ((0 : Int32)) q12.2 K
  else
    wS_law_200 l1 l3 G c1 c2 K

set_option maxRecDepth 100000 in
set_option maxHeartbeats 4000000 in
theorem jS_law_31 {X : Cx} (ok : OK X cL_law RL (some .boolean) 8 LFR LLO) {b : Nat} (uB : X.V.H0.size = X.V.B) (uc : 1 ≤ X.V.cc) (us : 1 ≤ X.V.cs) {c1 c2 : Nat} (hcc : X.V.cc - 1 = c1) (hcs : X.V.cs - 1 = c2) (l1 : Int32) (l3 : Nat)  (w : Int32) (G : Mem) (K : Unit → Mem → Prop) (h : wS_law_31 l1 l3 G c1 c2 K) (hK : ∀ r w G', K r G' → (fun (_ : Unit) w G => J X 8 318 [(0, .ref b), (1, .int l1)] [] (up w G)) r w G') : J X 8 31 [(0, .ref b), (1, .int l1), (2, .ref (X.B + 0)), (3, .ref (X.B + (l3 + 1)))] [] (up w G) := by
  subst hcc
  subst hcs
  unfold wS_law_31 at h
  refine j_aload_n ok dL_law_31 rfl 2 rfl ?_
  refine j_iconst (v := 2) ok dL_law_32 (by decide) ?_
  obtain ⟨hz3, h⟩ := h
  refine k_Q ok kl_L_172 ⟨Nat.le_of_ble_eq_true rfl, Nat.le_of_ble_eq_true rfl⟩ [.ref (X.B + 0), .int (2 : Int32)] rfl rfl (Nat.le_of_ble_eq_true rfl) (draw_up ok.fl hz3) dL_law_33 (fun v1 G9 hP => ?_)
  obtain ⟨w, rfl, hP⟩ := hP
  replace h := h v1 hP
  clear hP
  rcases ite_prop h with ⟨c4, h⟩ | ⟨c4, h⟩
  · refine j_if_ne (tgt := 200) ok dL_law_36 (by decide) (fun z => absurd c4 z) (fun _ => ?_)
    refine j_iconst (v := 5) ok dL_law_39 (by decide) ?_
    obtain ⟨q5, hq5, h⟩ := h
    refine k_anewS ok wl_L_93 (up_nA hq5) dL_law_40 ?_
    refine j_dup ok dL_law_43 rfl ?_
    refine j_iconst (v := 0) ok dL_law_44 (by decide) ?_
    refine k_str ok st_L_196 dL_law_45 ?_
    obtain ⟨G6, hG6, h⟩ := h
    refine j_aasts ok (up_pQS hG6) dL_law_47 ?_
    refine j_dup ok dL_law_48 rfl ?_
    refine j_iconst (v := 1) ok dL_law_49 (by decide) ?_
    refine k_str ok st_L_198 dL_law_50 ?_
    obtain ⟨G7, hG7, h⟩ := h
    refine j_aasts ok (up_pQS hG7) dL_law_52 ?_
    refine j_dup ok dL_law_53 rfl ?_
    refine j_iconst (v := 2) ok dL_law_54 (by decide) ?_
    refine k_str ok st_L_200 dL_law_55 ?_
    obtain ⟨G8, hG8, h⟩ := h
    refine j_aasts ok (up_pQS hG8) dL_law_57 ?_
    refine j_dup ok dL_law_58 rfl ?_
    refine j_iconst (v := 3) ok dL_law_59 (by decide) ?_
    refine k_str ok st_L_202 dL_law_60 ?_
    obtain ⟨G9, hG9, h⟩ := h
    refine j_aasts ok (up_pQS hG9) dL_law_62 ?_
    refine j_dup ok dL_law_63 rfl ?_
    refine j_iconst (v := 4) ok dL_law_64 (by decide) ?_
    refine k_str ok st_L_204 dL_law_65 ?_
    obtain ⟨G10, hG10, h⟩ := h
    refine j_aasts ok (up_pQS hG10) dL_law_67 ?_
    refine j_astore (L' := [(4, .ref (X.B + (q5.1 + 1))), (0, .ref b), (1, .int l1), (2, .ref (X.B + 0)), (3, .ref (X.B + (l3 + 1)))]) ok dL_law_68 (by decide) rfl ?_
    obtain ⟨q11, hq11, h⟩ := h
    refine k_new ok (ci := 8) in_X8 fp_X8 rfl rfl df_X8 wl_L_206 wx_X8 wn_X8 (up_nO hq11) dL_law_70 ?_
    refine j_dup ok dL_law_73 rfl ?_
    refine k_str ok st_L_208 dL_law_74 ?_
    obtain ⟨q12, hq12, h⟩ := h
    refine k_I ok kl_L_210 ⟨Nat.le_of_ble_eq_true rfl, Nat.le_of_ble_eq_true rfl⟩ [.ref (X.V.sa 34)] rfl rfl (Nat.le_of_ble_eq_true rfl) (by have z := mx_up (V := X.V) (w := w) uB uc us (tJ4_init_a7421 ok.fl (upV X.V w) q11.1 34 q11.2 hq12); simp only [ref_up] at z; exact z) dL_law_76 ?_
    refine j_astore (L' := [(5, .ref (X.B + (q11.1 + 1))), (4, .ref (X.B + (q5.1 + 1))), (0, .ref b), (1, .int l1), (2, .ref (X.B + 0)), (3, .ref (X.B + (l3 + 1)))]) ok dL_law_79 (by decide) rfl ?_
    refine j_iconst (v := 0) ok dL_law_81 (by decide) ?_
    refine j_istore (L' := [(6, .int (0 : Int32)), (5, .ref (X.B + (q11.1 + 1))), (4, .ref (X.B + (q5.1 + 1))), (0, .ref b), (1, .int l1), (2, .ref (X.B + 0)), (3, .ref (X.B + (l3 + 1)))]) ok dL_law_82 (by decide) rfl ?_
    have hJ : J X 8 84 [(0, .ref b), (1, .int l1), (2, .ref (X.B + 0)), (3, .ref (X.B + (l3 + 1))), (4, .ref (X.B + (q5.1 + 1))), (5, .ref (X.B + (q11.1 + 1))), (6, .int (0 : Int32))] [] (up w q12.2) := ju_loop (loc := fun s : Int32 => [(0, .ref b), (1, .int l1), (2, .ref (X.B + 0)), (3, .ref (X.B + (l3 + 1))), (4, .ref (X.B + (q5.1 + 1))), (5, .ref (X.B + (q11.1 + 1))), (6, .int s)]) (F := (fun (_ : Unit) w G => J X 8 318 [(0, .ref b), (1, .int l1)] [] (up w G))) (fun s w G K hb hk => jS_law_84 ok uB uc us rfl rfl l1 l3 q5.1 q11.1 s w G K hb hk) _ _ w _ _ h hK
    exact J.sub [3, 4, 5, 6, 2, 1, 0] rfl hJ
  · refine j_if_ne (tgt := 200) ok dL_law_36 (by decide) (fun _ => ?_) (fun z => absurd z c4)
    exact J.sub [0, 1, 2, 3] rfl (jS_law_200 ok uB uc us rfl rfl l1 l3 w G _ h hK)

