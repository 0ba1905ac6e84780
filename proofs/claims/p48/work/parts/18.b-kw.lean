/-! ===== what the premises say of the start: classes, statics, tables, Strings ===== -/
def NF : List Cond := flatC (Jvm.Cond.and given_1 narrow_1)
theorem nf_all {args : Array Value} {s : State} (h : (Jvm.Cond.and given_1 narrow_1).before args s = true) : ∀ w ∈ NF, w.before args s = true := flat_of_before _ h
/-! Strings -/
abbrev stT (i : Nat) : String × Nat × String × Nat := strTab.getD i ("", 0, "", 0)
abbrev tmS (i : Nat) : Term := .string (stT i).1 (stT i).2.1
abbrev tmV (i : Nat) : Term := .field (tmS i) "java/lang/String" "value" "[B"
def stX (i : Nat) : List Cond := [Cond.exactly (tmS i) "java/lang/String", Cond.eq (.field (tmS i) "java/lang/String" "coder" "B") (.int 0), Cond.arrayOf (tmV i) .byte, Cond.eq (.length (tmV i)) (.int (Int32.ofNat (strLen.getD i 0)))] ++ (List.range (strLen.getD i 0)).map fun j => Cond.eq (.elem (tmV i) (.int (Int32.ofNat j))) (.int ((strByt.getD i []).getD j 0))
def stB : List Nat := [300, 309, 318, 327, 335, 344, 352, 362, 372, 380, 390, 398, 405, 413, 419, 428, 437, 451, 467, 472, 479, 509, 529, 559, 577, 602, 622, 640, 658, 674, 690, 715, 745, 776, 854, 898, 908]
set_option maxRecDepth 100000 in
theorem st_all : ∀ i, i < 37 → (NF.drop (stB.getD i 0)).take (stX i).length = stX i := by decide +kernel
theorem st_in {i : Nat} (hi : i < 37) {w : Cond} (hw : w ∈ stX i) : w ∈ NF := by
  rw [← st_all i hi] at hw
  exact List.mem_of_mem_drop (List.mem_of_mem_take hw)
theorem st_in0 {i : Nat} (hi : i < 37) : Cond.exactly (tmS i) "java/lang/String" ∈ NF := st_in hi (List.mem_append_left _ List.mem_cons_self)
theorem st_in1 {i : Nat} (hi : i < 37) : Cond.eq (.field (tmS i) "java/lang/String" "coder" "B") (.int 0) ∈ NF := st_in hi (List.mem_append_left _ (List.mem_cons_of_mem _ List.mem_cons_self))
theorem st_in2 {i : Nat} (hi : i < 37) : Cond.arrayOf (tmV i) .byte ∈ NF := st_in hi (List.mem_append_left _ (List.mem_cons_of_mem _ (List.mem_cons_of_mem _ List.mem_cons_self)))
theorem st_in3 {i : Nat} (hi : i < 37) : Cond.eq (.length (tmV i)) (.int (Int32.ofNat (strLen.getD i 0))) ∈ NF := st_in hi (List.mem_append_left _ (List.mem_cons_of_mem _ (List.mem_cons_of_mem _ (List.mem_cons_of_mem _ List.mem_cons_self))))
theorem st_in4 {i j : Nat} (hi : i < 37) (hj : j < strLen.getD i 0) : Cond.eq (.elem (tmV i) (.int (Int32.ofNat j))) (.int ((strByt.getD i []).getD j 0)) ∈ NF := st_in hi (List.mem_append_right _ (List.mem_map.mpr ⟨j, List.mem_range.mpr hj, rfl⟩))
theorem st_len : ∀ i, i < 37 → strLen.getD i 0 < 2 ^ 31 := by decide +kernel
theorem st_leq : ∀ i, i < 37 → ∀ j, j < 37 → Int32.ofNat (strLen.getD i 0) = Int32.ofNat (strLen.getD j 0) → strLen.getD i 0 = strLen.getD j 0 := by decide +kernel
set_option maxRecDepth 100000 in
theorem st_ne : ∀ i, i < 37 → ∀ j, j < 37 → strLen.getD i 0 = strLen.getD j 0 → (∀ k, k < strLen.getD i 0 → (strByt.getD i []).getD k 0 = (strByt.getD j []).getD k 0) → i = j := by decide +kernel
theorem vk_start {args : Array Value} {s : State} (hn : ∀ w ∈ NF, w.before args s = true) {A : Nat → Prop} (hA : ∀ a : Nat, a < s.heap.size → ¬ A a) :
    ∃ adK adV : Nat → Nat, vk_S strN strLen strByt adK adV A s s.heap ∧ ∀ i : Nat, i < 37 → (tmS i).eval args s none [] s = some (.ref (adK i)) := by
  have h0 : ∀ i : Nat, ∃ q : Nat × Nat, i < 37 → (tmS i).eval args s none [] s = some (.ref q.1) ∧ va_O "java/lang/String" q.1 A s s.heap ∧ va_OF "java/lang/String" "coder" "B" (.int 0) q.1 A s s.heap ∧ va_OF "java/lang/String" "value" "[B" (.ref q.2) q.1 A s s.heap ∧ va_T .byte q.2 (strLen.getD i 0) (fun j => .int ((strByt.getD i []).getD j 0)) A s s.heap := by
    intro i
    by_cases hi : i < 37
    · obtain ⟨a, c, cA, kA, q1, q2, q3, q4, q5, q6, -⟩ := Cond.exactly_spec (args := args) (first := s) (o := none) (s := s) (idx := []) (t := tmS i) (cls := "java/lang/String") (hn _ (st_in0 hi))
      obtain ⟨t, ht, hT⟩ := va_Tof (f := fun j => .int ((strByt.getD i []).getD j 0)) (A := A) (st_len i hi) (hn _ (st_in2 hi)) (va_eqt (hn _ (st_in3 hi))) (fun j hj => va_eqt (hn _ (st_in4 hi hj))) hA
      exact ⟨(a, t), fun _ => ⟨q1, ⟨cA, q3, q5, by rw [q6]; exact q2, hA a (Array.getElem?_eq_some_iff.mp q3).1⟩, vk_OFof q1 (va_eqt (hn _ (st_in1 hi))) hA, vk_OFof q1 ht hA, hT⟩⟩
    · exact ⟨(0, 0), fun h => absurd h hi⟩
  obtain ⟨ad, had⟩ := Classical.axiomOfChoice h0
  refine ⟨fun i => (ad i).1, fun i => (ad i).2, ⟨fun i hi => (had i hi).2, fun i j hi hj e => ?_⟩, fun i hi => (had i hi).1⟩
  have hi : i < 37 := hi
  have hj : j < 37 := hj
  have e : (ad i).1 = (ad j).1 := e
  obtain ⟨-, -, -, ⟨cf, kf, fi, f, cell, a1, a2, a3, a4, a5, a6⟩, ⟨u1', b1, b2, b3, b4, b5, b6, b7⟩⟩ := had i hi
  obtain ⟨-, -, -, ⟨cf', kf', fi', f', cell', a1', a2', a3', a4', a5', a6'⟩, ⟨u2', b1', b2', b3', b4', b5', b6', b7'⟩⟩ := had j hj
  cases a1.symm.trans a1'
  rw [e] at a3
  cases a3.symm.trans a3'
  have ev : (ad i).2 = (ad j).2 := by
    have := a5.symm.trans a5'
    injection this with this
    injection this
  rw [ev] at b1
  cases b1.symm.trans b1'
  have el := st_leq i hi j hj (b5.symm.trans b5')
  refine st_ne i hi j hj el fun k hk => ?_
  have := (b6 k hk).symm.trans (b6' k (by rw [← el]; exact hk))
  injection this with this
  injection this
def stP : List Nat := [423, 498, 499, 508, 509, 510, 511, 512, 520, 521, 522, 537, 542, 547, 548, 549, 758, 875, 876, 913, 976, 1038, 1056, 1069, 1102, 1133, 1141, 1172, 1200, 1232, 1313, 1314, 1329, 1343, 1394, 1395, 1396, 1389, 1390, 1391, 1392, 1393]
def duP : List Nat := [812, 822, 831, 842, 853]
def duI : List Nat := [3, 4, 5, 6, 7]
set_option maxRecDepth 100000 in
theorem st_ref : ∀ i, i < 42 → lw_tbl[stP.getD i 0]? = some (Cond.stringRef (stT i).1 (stT i).2.1 (stT i).2.2.1) := by decide +kernel
theorem st_id : ∀ i, i < 37 → (stT i).2.2.2 = i := by decide +kernel
set_option maxRecDepth 100000 in
theorem st_dup : ∀ i, i < 5 → NF[duP.getD i 0]? = some (Cond.eq (tmS (duI.getD i 0)) (tmS (37 + i))) ∧ (stT (37 + i)).2.2.2 = duI.getD i 0 ∧ duI.getD i 0 < 37 := by decide +kernel
theorem st_at {q : String × Nat × String × Nat} (hq : q ∈ strTab) : ∃ i, i < 42 ∧ stT i = q := by
  obtain ⟨i, hi⟩ := List.getElem?_of_mem hq
  refine ⟨i, (List.getElem?_eq_some_iff.mp hi).1, ?_⟩
  show strTab.getD i _ = q
  rw [List.getD_eq_getElem?_getD, hi]; rfl
theorem sr_start {args : Array Value} {s : State} (hts : ∀ w ∈ lw_tbl, w.before args s = true) (hn : ∀ w ∈ NF, w.before args s = true) {adK : Nat → Nat} (h : ∀ i : Nat, i < 37 → (tmS i).eval args s none [] s = some (.ref (adK i))) : ∀ q ∈ strTab, vk_R q.1 q.2.1 q.2.2.1 (adK q.2.2.2) s := by
  intro q hq
  obtain ⟨i, hi, rfl⟩ := st_at hq
  refine vk_R.of (A := args) (hts _ (List.mem_of_getElem? (st_ref i hi))) ?_
  by_cases h38 : i < 37
  · rw [st_id i h38]; exact h i h38
  · obtain ⟨k, hk, rfl⟩ : ∃ k, k < 5 ∧ i = 37 + k := ⟨i - 37, by omega, by omega⟩
    obtain ⟨d1, d2, d3⟩ := st_dup k hk
    rw [d2]
    exact va_eqR (hn _ (List.mem_of_getElem? d1)) (h _ d3)
