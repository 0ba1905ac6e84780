/-! ===== what the premises say of the start: tables, classes; all of it ===== -/
abbrev tmT (k : Nat) : Term := .static (tabN k).1 (tabN k).2.1 (tabN k).2.2.1
def tbP : List Nat := [34, 21, 10]
def tbX (k : Nat) : List Cond := [Cond.arrayOf (tmT k) (tabN k).2.2.2.1, Cond.eq (.length (tmT k)) (.int (Int32.ofNat (tabN k).2.2.2.2.length))] ++ (List.range (tabN k).2.2.2.2.length).map fun j => Cond.eq (.elem (tmT k) (.int (Int32.ofNat j))) (.int ((tabN k).2.2.2.2.getD j 0))
set_option maxRecDepth 100000 in
theorem tb_all : ∀ k, k < 3 → (NF.drop (tbP.getD k 0)).take (tbX k).length = tbX k := by decide +kernel
theorem tb_in {k : Nat} (hk : k < 3) {w : Cond} (hw : w ∈ tbX k) : w ∈ NF := by
  rw [← tb_all k hk] at hw
  exact List.mem_of_mem_drop (List.mem_of_mem_take hw)
set_option maxRecDepth 100000 in
theorem tb_w : ∀ k, k < 3 → lw_tbl[[864, 613, 608].getD k 0]? = some (Cond.laysStatic (tabN k).1 (tabN k).2.1 (tabN k).2.2.1) ∧ lw_tbl[[54, 42, 42].getD k 0]? = some (Cond.initialized (tabN k).1) ∧ (tabN k).2.2.2.2.length < 2 ^ 31 := by decide +kernel
theorem tb_start {args : Array Value} {s : State} (hts : ∀ w ∈ lw_tbl, w.before args s = true) (hn : ∀ w ∈ NF, w.before args s = true) {A : Nat → Prop} (hA : ∀ a : Nat, a < s.heap.size → ¬ A a) : ∃ ta : Nat → Nat, ∀ k, k < 3 → va_Z (tabN k).1 (tabN k).2.1 (tabN k).2.2.1 (.ref (ta k)) A s s.heap ∧ va_T (tabN k).2.2.2.1 (ta k) (tabN k).2.2.2.2.length (fun j => .int ((tabN k).2.2.2.2.getD j 0)) A s s.heap := by
  have h0 : ∀ k : Nat, ∃ t : Nat, k < 3 → va_Z (tabN k).1 (tabN k).2.1 (tabN k).2.2.1 (.ref t) A s s.heap ∧ va_T (tabN k).2.2.2.1 t (tabN k).2.2.2.2.length (fun j => .int ((tabN k).2.2.2.2.getD j 0)) A s s.heap := by
    intro k
    by_cases hk : k < 3
    · obtain ⟨w1, w2, w3⟩ := tb_w k hk
      obtain ⟨t, ht, hT⟩ := va_Tof (tm := tmT k) (ty := (tabN k).2.2.2.1) (N := (tabN k).2.2.2.2.length) (f := fun j => .int ((tabN k).2.2.2.2.getD j 0)) (A := A) w3 (hn _ (tb_in hk (List.mem_append_left _ List.mem_cons_self))) (va_eqt (hn _ (tb_in hk (List.mem_append_left _ (List.mem_cons_of_mem _ List.mem_cons_self)))))
        (fun j hj => va_eqt (hn _ (tb_in hk (List.mem_append_right _ (List.mem_map.mpr ⟨j, List.mem_range.mpr hj, rfl⟩))))) hA
      exact ⟨t, fun _ => ⟨va_Zref (hts _ (List.mem_of_getElem? w1)) (hts _ (List.mem_of_getElem? w2)) ht hA, hT⟩⟩
    · exact ⟨0, fun h => absurd h hk⟩
  exact Classical.axiomOfChoice h0
/-! classes and array classes -/
set_option maxRecDepth 100000 in
theorem cl_w : lw_tbl[216]? = some (Cond.instantiable RX0 7) ∧ lw_tbl[107]? = some (Cond.instantiable RX1 7) ∧ lw_tbl[71]? = some (Cond.instantiable RX2 11) ∧ lw_tbl[210]? = some (Cond.instantiable RX3 9) ∧ lw_tbl[190]? = some (Cond.instantiable RX4 3) ∧ lw_tbl[77]? = some (Cond.instantiable RX5 6) ∧ lw_tbl[63]? = some (Cond.instantiable RX6 12) ∧ lw_tbl[882]? = some (Cond.instantiable RJ0 4) ∧ lw_tbl[729]? = some (Cond.instantiable RJ4 4) := by decide +kernel
set_option maxRecDepth 100000 in
theorem ar_w : lw_tbl[250]? = some (Cond.arrayClass .int) ∧ lw_tbl[105]? = some (Cond.arrayClass .byte) ∧ lw_tbl[388]? = some (Cond.arrayClass .boolean) ∧ lw_tbl[206]? = some (Cond.arrayClass .long) ∧ lw_tbl[252]? = some (Cond.arrayOver (.object RX1)) ∧ lw_tbl[292]? = some (Cond.arrayOver (.object RX3)) ∧ lw_tbl[1388]? = some (Cond.arrayOver (.object RJ0)) := by decide +kernel
theorem ar_prim {args : Array Value} {s : State} {ty : FieldType} (h : (Cond.arrayClass ty).before args s = true) : ∃ c : ClassId, ArrOfT s c ty ∧ s.vm.findClass ("[" ++ ty.toString) = some c := by
  obtain ⟨c, k, comp, h1, h2, h3⟩ := Cond.arrayClass_spec h
  exact ⟨c, fun n z => ⟨fun k h => (by cases h), k, h2, comp, h3⟩, h1⟩
theorem ar_obj {args : Array Value} {s : State} {C : String} (h : (Cond.arrayOver (.object C)).before args s = true) : ∃ c : ClassId, ArrOfT s c (.object C) ∧ va_RA s c (.object C) := by
  obtain ⟨comp, c, k, h1, h2, h3, h4, h5⟩ := Cond.arrayOver_spec h
  exact ⟨c, fun n z => ⟨fun k h => (by cases h), k, h3, comp, h4⟩, k, comp, h3, h4, h1, h5⟩
def pvY : List MethodName := [yJ5_newCapacity_0f7a4, yJ5_inflateIfNeededFor_a7421, yJ5_ensureCapacityInternal_d00df, yJ5_putStringAt_47b60]
set_option maxRecDepth 100000 in
theorem pv_w : lw_tbl[798]? = some (Cond.selects RJ4 yJ5_isLatin1_aae02 yJ5_isLatin1_aae02) ∧ ∀ i, i < 4 → (lw_tbl[[775, 821, 771, 817].getD i 0]? = (pvY[i]?).map fun y => Cond.privateMethod y) ∧ (lw_tbl[[776, 822, 772, 818].getD i 0]? = (pvY[i]?).map fun y => Cond.instanceMethod y) ∧ ∀ y, pvY[i]? = some y → yJ5_isLatin1_aae02.cls = y.cls ∧ (y.cls ≠ "java/lang/invoke/MethodHandle" ∧ y.cls ≠ "java/lang/invoke/VarHandle") := by
  refine ⟨by decide +kernel, fun i hi => ?_⟩
  rcases (show i = 0 ∨ i = 1 ∨ i = 2 ∨ i = 3 by omega) with rfl | rfl | rfl | rfl <;> refine ⟨by decide +kernel, by decide +kernel, fun y hy => ?_⟩ <;> cases hy <;> exact ⟨by decide +kernel, by decide +kernel, by decide +kernel⟩
theorem wt_start {args : Array Value} {s : State} (hts : ∀ w ∈ lw_tbl, w.before args s = true) : ∀ w ∈ WT, w.before args s = true := fun w hw => by
  rcases List.mem_append.mp (List.mem_filter.mp hw).1 with h | h
  · exact hts w h
  · obtain ⟨y, hy, rfl⟩ := List.mem_map.mp h
    obtain ⟨i, hi⟩ := List.getElem?_of_mem hy
    have hi : pvY[i]? = some y := hi
    obtain ⟨s0, sw⟩ := pv_w
    have hl : i < 4 := (List.getElem?_eq_some_iff.mp hi).1
    obtain ⟨p1, p2, p3⟩ := sw i hl
    rw [hi] at p1 p2
    obtain ⟨q1, q2⟩ := p3 y hi
    exact sel_priv q1 q2 (hts _ (List.mem_of_getElem? s0)) (hts _ (List.mem_of_getElem? p1)) (hts _ (List.mem_of_getElem? p2))
theorem kc_start {args : Array Value} {s : State} (hts : ∀ w ∈ lw_tbl, w.before args s = true) : ∃ (D : va_G) (cy : Nat → ClassId), va_K D cls (tysOf cy) s := by
  have hwt := wt_start hts
  obtain ⟨w0, w1, w2, w3, w4, w5, w6, w7, w8⟩ := cl_w
  obtain ⟨a1, a2, a3, a4, a5, a6, a7⟩ := ar_w
  have kn : ∀ {C : String} {T : u_T} {N i : Nat}, (∀ w ∈ u_ws C T N, w ∈ WT) → lw_tbl[i]? = some (Cond.instantiable C N) → ∃ q : ClassId × (Nat → Nat), u_Kn s C T N q.1 q.2 := fun hin hw => by
    obtain ⟨c, i, h⟩ := u_known hwt hin (hts _ (List.mem_of_getElem? hw))
    exact ⟨(c, i), h⟩
  obtain ⟨q0, k0⟩ := kn in_X0 w0
  obtain ⟨q1, k1⟩ := kn in_X1 w1
  obtain ⟨q2, k2⟩ := kn in_X2 w2
  obtain ⟨q3, k3⟩ := kn in_X3 w3
  obtain ⟨q4, k4⟩ := kn in_X4 w4
  obtain ⟨q5, k5⟩ := kn in_X5 w5
  obtain ⟨q6, k6⟩ := kn in_X6 w6
  obtain ⟨q7, k7⟩ := kn in_X7 w7
  obtain ⟨q8, k8⟩ := kn in_X8 w8
  obtain ⟨c1, r1, n1⟩ := ar_prim (hts _ (List.mem_of_getElem? a1))
  obtain ⟨c2, r2, n2⟩ := ar_prim (hts _ (List.mem_of_getElem? a2))
  obtain ⟨c3, r3, n3⟩ := ar_prim (hts _ (List.mem_of_getElem? a3))
  obtain ⟨c5, r5, n5⟩ := ar_prim (hts _ (List.mem_of_getElem? a4))
  obtain ⟨c6, r6, n6⟩ := ar_obj (hts _ (List.mem_of_getElem? a5))
  obtain ⟨c7, r7, n7⟩ := ar_obj (hts _ (List.mem_of_getElem? a6))
  obtain ⟨c8, r8, n8⟩ := ar_obj (hts _ (List.mem_of_getElem? a7))
  refine ⟨(fun k => ([q0, q1, q2, q3, q4, q5, q6, q7, q8].getD k q0).1, fun k => ([q0, q1, q2, q3, q4, q5, q6, q7, q8].getD k q0).2), fun t => [c1, c1, c2, c3, c1, c5, c6, c7, c8].getD t c1, fun k q hq => ?_, fun k q hq => ?_⟩
  · match k, hq with
    | 0, hq => cases hq; exact k0
    | 1, hq => cases hq; exact k1
    | 2, hq => cases hq; exact k2
    | 3, hq => cases hq; exact k3
    | 4, hq => cases hq; exact k4
    | 5, hq => cases hq; exact k5
    | 6, hq => cases hq; exact k6
    | 7, hq => cases hq; exact k7
    | 8, hq => cases hq; exact k8
    | k + 9, hq => cases hq
  · match k, hq with
    | 0, hq => cases hq; exact ⟨r1, n1⟩
    | 1, hq => cases hq; exact ⟨r2, n2⟩
    | 2, hq => cases hq; exact ⟨r3, n3⟩
    | 3, hq => cases hq; exact ⟨r5, n5⟩
    | 4, hq => cases hq; exact ⟨r6, n6⟩
    | 5, hq => cases hq; exact ⟨r7, n7⟩
    | 6, hq => cases hq; exact ⟨r8, n8⟩
    | k + 7, hq => cases hq
/-! links, declarations, casts -/
def ntP : List Nat := [72, 78, 108, 208, 217, 253, 317, 514, 589, 592]
set_option maxRecDepth 100000 in
theorem nt_w : ∀ i, i < 10 → lw_tbl[ntP.getD i 0]? = (nestTab[i]?).map fun q => Cond.methodLinkNest q.1 q.2.1 q.2.2.1 q.2.2.2 := by decide +kernel
set_option maxRecDepth 100000 in
theorem dc_w : ∀ i, i < 3 → lw_tbl[[690, 692, 694].getD i 0]? = (declTab[i]?).map fun q => Cond.declares q := by decide +kernel
set_option maxRecDepth 100000 in
theorem ca_w : ∀ k, k < 3 → lw_tbl[[688, 1031, 1126].getD k 0]? = some (Cond.castable (exN k) (exN k)) := by decide +kernel
set_option maxRecDepth 100000 in
theorem nc_w : ∀ i, i < 3 → ∀ j, j < 3 → i ≠ j → NF[[0, 248, 272, 261, 0, 273, 262, 250, 0].getD (3 * i + j) 0]? = some (Cond.not (.castable (exN i) (exN j))) := by decide +kernel
set_option maxRecDepth 100000 in
theorem sv_w : (lw_tbl[437]? = some (Cond.laysStatic "java/lang/String" "COMPACT_STRINGS" "Z") ∧ lw_tbl[47]? = some (Cond.initialized "java/lang/String")) ∧ (lw_tbl[453]? = some (Cond.laysStatic "jdk/internal/util/Preconditions" "SIOOBE_FORMATTER" "Ljava/util/function/BiFunction;") ∧ lw_tbl[51]? = some (Cond.initialized "jdk/internal/util/Preconditions")) ∧ (lw_tbl[713]? = some (Cond.laysStatic Bundle.tN "UNASSIGNED_STACK" Bundle.steD) ∧ lw_tbl[715]? = some (Cond.laysStatic Bundle.tN "SUPPRESSED_SENTINEL" Bundle.listD) ∧ lw_tbl[55]? = some (Cond.initialized Bundle.tN)) := by decide +kernel
set_option maxRecDepth 100000 in
theorem sv_n : NF[4]? = some (Cond.eq (.static "java/lang/String" "COMPACT_STRINGS" "Z") (.int 1)) ∧ NF[5]? = some (Cond.isRef (.static "jdk/internal/util/Preconditions" "SIOOBE_FORMATTER" "Ljava/util/function/BiFunction;")) ∧ NF[31]? = some (Cond.isRef (.static Bundle.tN "UNASSIGNED_STACK" Bundle.steD)) ∧ NF[32]? = some (Cond.isRef (.static Bundle.tN "SUPPRESSED_SENTINEL" Bundle.listD)) := by decide +kernel
/-- all of it -/
theorem kw_start {args : Array Value} {s : State} (hts : ∀ w ∈ lw_tbl, w.before args s = true) (hgv : (Jvm.Cond.and given_1 narrow_1).before args s = true) : ∃ (D : va_G) (cy : Nat → ClassId) (ta sb : Nat → Nat) (fm : Option Nat), KW (s.heap.size, s.heap, D, cy, ta, ta, 600074, 7301550, sb, fm) s := by
  have hn := nf_all hgv
  have hA : ∀ a : Nat, a < s.heap.size → ¬ (fun q : Nat => s.heap.size ≤ q) a := fun a h => Nat.not_le.mpr h
  obtain ⟨D, cy, hK⟩ := kc_start hts
  obtain ⟨sa, sb, hS, hE⟩ := vk_start hn hA
  obtain ⟨ta, hT⟩ := tb_start hts hn hA
  obtain ⟨⟨v1, v2⟩, ⟨v3, v4⟩, v5, v6, v7⟩ := sv_w
  obtain ⟨n1, n2, n3, n4⟩ := sv_n
  obtain ⟨fm, hF⟩ : ∃ fm : Option Nat, va_Z "jdk/internal/util/Preconditions" "SIOOBE_FORMATTER" "Ljava/util/function/BiFunction;" (va_rf fm) (fun q : Nat => s.heap.size ≤ q) s s.heap := by
    rcases va_Zqof (hts _ (List.mem_of_getElem? v3)) (hts _ (List.mem_of_getElem? v4)) (hn _ (List.mem_of_getElem? n2)) hA with h | ⟨t, h⟩
    · exact ⟨none, h⟩
    · exact ⟨some t, h⟩
  obtain ⟨a1, a2, a3, a4, a5, a6, a7⟩ := ar_w
  have hsa : (fun i => (fun t => if 100 ≤ t then sa (t - 100) else cy t) (100 + i)) = sa := funext fun i => by
    show (if 100 ≤ 100 + i then sa (100 + i - 100) else cy (100 + i)) = sa i
    rw [if_pos (Nat.le_add_right _ _), Nat.add_sub_cancel_left]
  have hty : tysOf (fun t => if 100 ≤ t then sa (t - 100) else cy t) = tysOf cy := rfl
  refine ⟨D, fun t => if 100 ≤ t then sa (t - 100) else cy t, ta, sb, fm, hK, hT, ⟨vx_Zqof (hts _ (List.mem_of_getElem? v5)) (hts _ (List.mem_of_getElem? v7)) (hn _ (List.mem_of_getElem? n3)) hA, vx_Zqof (hts _ (List.mem_of_getElem? v6)) (hts _ (List.mem_of_getElem? v7)) (hn _ (List.mem_of_getElem? n4)) hA⟩, fun q hq => (by have z := sr_start hts hn hE q hq; rw [← congrFun hsa q.2.2.2] at z; exact z), ⟨va_Zof (hts _ (List.mem_of_getElem? v1)) (hts _ (List.mem_of_getElem? v2)) (va_eqi (hn _ (List.mem_of_getElem? n1))) hA, hF, (by rw [← hsa] at hS; exact hS)⟩, fun q hq => ?_, fun q hq => ?_, fun k hk => ?_, va_AO.of (hts _ (List.mem_of_getElem? a5)), va_AO.of (hts _ (List.mem_of_getElem? a6)), va_AO.of (hts _ (List.mem_of_getElem? a7)), fun i hi j hj hij => va_Nc.of (hn _ (List.mem_of_getElem? (nc_w i hi j hj hij)))⟩
  · obtain ⟨i, hi⟩ := List.getElem?_of_mem hq
    have h := nt_w i (List.getElem?_eq_some_iff.mp hi).1
    rw [hi] at h
    exact va_Nw.of rfl (hts _ (List.mem_of_getElem? h))
  · obtain ⟨i, hi⟩ := List.getElem?_of_mem hq
    have h := dc_w i (List.getElem?_eq_some_iff.mp hi).1
    rw [hi] at h
    exact va_Nw.of rfl (hts _ (List.mem_of_getElem? h))
  · exact va_Nw.of rfl (hts _ (List.mem_of_getElem? (ca_w k hk)))
