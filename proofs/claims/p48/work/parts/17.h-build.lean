/-! ===== the drawn board's text is built ===== -/
def KND (G : Mem) : Prop := mt G 265 = 8 ∧ mn G 265 = 5 ∧ ∀ i, i < 5 → mP G 265 i = some (3 + i)
theorem KND.frm {G G' : Mem} {k s : Nat} (h : KND G) (hf : Frm 266 k s G G') : KND G' := by
  obtain ⟨x1, x2, x3, x4, x5⟩ := hf.2 265 (by decide)
  exact ⟨x1.trans h.1, x2.trans h.2.1, fun i hi => by rw [x5]; exact h.2.2 i hi⟩
theorem KND.get {G : Mem} (h : KND G) {k : Nat} (hk : k < 4) : gQS G 265 ((1 : Int32) + nW k) = some (4 + k) := by
  unfold gQS inb
  rw [show (1 : Int32) = nW 1 from rfl, nW_add, nW_int (by omega), nW_clamp (by omega), if_pos ⟨h.1, by omega, by rw [h.2.1]; omega⟩, h.2.2 _ (by omega)]
  congr 1; omega
def xi (i : Nat) : Nat := if i = 1 then 2 else 1
def yi (i : Nat) : Nat := if i = 2 then 2 else 0
theorem sB_len : (allN 37 fun a => !(decide (4 ≤ a) && decide (a < 8)) && !(decide (a = 35) || decide (a = 36)) || decide ((sB a).length ≤ 6)) = true := by decide +kernel
theorem sB_le {a : Nat} (h : (4 ≤ a ∧ a < 8) ∨ a = 35 ∨ a = 36) : (sB a).length ≤ 6 := by
  rcases (show a = 4 ∨ a = 5 ∨ a = 6 ∨ a = 7 ∨ a = 35 ∨ a = 36 by omega) with rfl | rfl | rfl | rfl | rfl | rfl <;> decide +kernel
theorem ad_len {B : List Nat} {c k x y : Nat} : (ad B c k x y).length = B.length + (sB c).length + (sB k).length + 5 := by
  unfold ad
  simp only [List.length_append, List.length_cons, List.length_nil]
section PIECE
variable {G : Mem} {o v cap : Nat} {B : List Nat} {c1 c2 : Nat} {l1 : Int32}
theorem piece_ok (h : SBs G o v cap B) (hcap : cap = 56 ∨ cap = 114) (hl : B.length + 17 ≤ 114) (hk : KND G) (hr : mz G + 8 ≤ cC G ∧ ml G + 900 ≤ cS G) {i : Nat} (hi : i < 3) {K : ((Int32) ⊕ Unit) → Mem → Prop}
    (hK : ∀ G' v' cap' c k, (c = 35 ∨ c = 36) → k < 4 → SBs G' o v' cap' (ad B c (4 + k) (xi i) (yi i)) → (cap' = 56 ∨ cap' = 114) → Frm 266 7 798 G G' → K (.inl (nW (i + 1))) G') : wS_law_84 l1 0 265 o (nW i) G c1 c2 K := by
  have go : ∀ c, (c = 35 ∨ c = 36) → wS_law_107 l1 0 265 o (nW i) o c G c1 c2 K := by
    intro c hc
    have lc := sB_le (a := c) (Or.inr hc)
    obtain ⟨G1, v1, cap1, e1, s1, k1, f1⟩ := h.str (a := c) (by omega) hcap (by omega) ⟨by omega, by omega⟩
    unfold wS_law_107
    refine ⟨h.t, _, e1, by decide, fun z hz => ?_⟩
    obtain ⟨k, hk4, rfl⟩ := i32_at (b := 4) hz
    have lk := sB_le (a := 4 + k) (Or.inl (by omega))
    have r1 := f1.1
    have L1 : (B ++ sB c).length = B.length + (sB c).length := List.length_append
    obtain ⟨G2, v2, cap2, e2, s2, k2, f2⟩ := s1.str (a := 4 + k) (by omega) k1 (by omega) ⟨by omega, by omega⟩
    have r2 := f2.1
    have L2 : ((B ++ sB c) ++ sB (4 + k)).length = B.length + (sB c).length + (sB (4 + k)).length := by rw [List.length_append, L1]
    refine ⟨_, (hk.frm f1).get hk4, s1.t, _, e2, ?_⟩
    obtain ⟨G3, v3, cap3, e3, s3, k3, f3⟩ := s2.chr (c := 32) (by decide) k2 (by omega) ⟨by omega, by omega⟩
    have r3 := f3.1
    have L3 : (((B ++ sB c) ++ sB (4 + k)) ++ [32]).length = B.length + (sB c).length + (sB (4 + k)).length + 1 := by rw [List.length_append, L2]; rfl
    refine ⟨s2.t, _, e3, ?_⟩
    have go2 : wS_law_144 l1 0 265 o (nW i) o (nW (xi i)) G3 c1 c2 K := by
      obtain ⟨G4, v4, cap4, e4, s4, k4, f4⟩ := s3.int (k := xi i) (by unfold xi; split <;> decide) k3 (by omega) ⟨by omega, by omega⟩
      have r4 := f4.1
      have L4 : ((((B ++ sB c) ++ sB (4 + k)) ++ [32]) ++ [48 + xi i]).length = B.length + (sB c).length + (sB (4 + k)).length + 2 := by rw [List.length_append, L3]; rfl
      obtain ⟨G5, v5, cap5, e5, s5, k5, f5⟩ := s4.chr (c := 32) (by decide) k4 (by omega) ⟨by omega, by omega⟩
      have r5 := f5.1
      have L5 : (((((B ++ sB c) ++ sB (4 + k)) ++ [32]) ++ [48 + xi i]) ++ [32]).length = B.length + (sB c).length + (sB (4 + k)).length + 3 := by rw [List.length_append, L4]; rfl
      unfold wS_law_144
      refine ⟨s3.t, _, e4, s4.t, _, e5, ?_⟩
      have go3 : wS_law_163 l1 0 265 o (nW i) o (nW (yi i)) G5 c1 c2 K := by
        obtain ⟨G6, v6, cap6, e6, s6, k6, f6⟩ := s5.int (k := yi i) (by unfold yi; split <;> decide) k5 (by omega) ⟨by omega, by omega⟩
        have r6 := f6.1
        have L6 : ((((((B ++ sB c) ++ sB (4 + k)) ++ [32]) ++ [48 + xi i]) ++ [32]) ++ [48 + yi i]).length = B.length + (sB c).length + (sB (4 + k)).length + 4 := by rw [List.length_append, L5]; rfl
        obtain ⟨G7, v7, cap7, e7, s7, k7, f7⟩ := s6.chr (c := 59) (by decide) k6 (by omega) ⟨by omega, by omega⟩
        unfold wS_law_163
        refine ⟨s5.t, _, e6, s6.t, _, e7, ?_⟩
        dsimp only
        rw [lits.2.1, nW_add]
        exact hK G7 v7 cap7 c k hc hk4 s7 k7 ((((((f1.trans f2).trans f3).trans f4).trans f5).trans f6).trans f7)
      rcases (show i = 0 ∨ i = 1 ∨ i = 2 by omega) with rfl | rfl | rfl
      · rw [if_neg (by decide)]; exact go3
      · rw [if_neg (by decide)]; exact go3
      · rw [if_pos (by decide)]; exact go3
    rcases (show i = 0 ∨ i = 1 ∨ i = 2 by omega) with rfl | rfl | rfl
    · rw [if_neg (by decide)]; exact go2
    · rw [if_neg (by decide)]; exact go2
    · rw [if_pos (by decide)]; exact go2
  unfold wS_law_84
  rw [if_neg (by rw [show (3 : Int32) = nW 3 from rfl, nW_le (by decide) (by omega)]; omega)]
  refine ⟨by decide, fun z _ => ?_⟩
  by_cases e : z = 0
  · rw [if_pos e]; exact go 35 (Or.inl rfl)
  · rw [if_neg e]; exact go 36 (Or.inr rfl)
end PIECE
