/-! ===== a note is made ===== -/
abbrev addA (A : ASt) (nt : Nat → Int32) : ASt := (A.1, A.2.1, addN A.2.2.1 A.2.2.2.2 nt, A.2.2.2.1, A.2.2.2.2 + 1)
section ADDN
variable {A : ASt} {nt : Nat → Int32}
theorem addN_at : addN A.2.2.1 (mN A) nt (mN A) = nt := if_pos rfl
theorem addN_ly : lyN A.1 (nN A) (addN A.2.2.1 (mN A) nt) A.2.2.2.1 (mN A) = lyN A.1 (nN A) A.2.2.1 A.2.2.2.1 (mN A) := lyN_cg _ (fun j hj => if_neg (by omega))
theorem addN_step {st : Lay × Edg} (h : stepL A.1 (nN A) nt (mN A % 2) (lyI A (mN A)) = some st) : lyN A.1 (nN A) (addN A.2.2.1 (mN A) nt) A.2.2.2.1 (mN A + 1) = st := lyN_of (by rw [addN_ly, addN_at]; exact h)
theorem add_cases (h : AAOK A) : (∃ st, mN A < 10 ∧ stepL A.1 (nN A) nt (mN A % 2) (lyI A (mN A)) = some st ∧ lyc st.1 ≠ 0 ∧ aAdd A nt = some (addA A nt) ∧ gmA (addA A nt) = gsm st.1 (lyc st.1)) ∨ (aAdd A nt = none ∧ ∀ st, mN A < 10 → stepL A.1 (nN A) nt (mN A % 2) (lyI A (mN A)) = some st → lyc st.1 = 0) := by
  have ok0 : okN A.1 (nN A) (addN A.2.2.1 (mN A) nt) A.2.2.2.1 (mN A) := okN_cg (fun j hj => (show addN A.2.2.1 (mN A) nt j = A.2.2.1 j from if_neg (by omega)).symm) h.2.2.2.1
  by_cases hc : A.2.2.2.2 < 10 ∧ okN A.1 (A.1 * A.2.1) (addN A.2.2.1 A.2.2.2.2 nt) A.2.2.2.1 (A.2.2.2.2 + 1)
  · refine Or.inl ?_
    obtain ⟨-, s1, s2⟩ := okN_succ.mp hc.2
    have s1 : stepL A.1 (nN A) (addN A.2.2.1 (mN A) nt (mN A)) (mN A % 2) (lyN A.1 (nN A) (addN A.2.2.1 (mN A) nt) A.2.2.2.1 (mN A)).1 = some (lyN A.1 (nN A) (addN A.2.2.1 (mN A) nt) A.2.2.2.1 (mN A + 1)) := s1
    rw [addN_ly, addN_at] at s1
    exact ⟨_, hc.1, s1, s2, if_pos hc, rfl⟩
  · refine Or.inr ⟨if_neg hc, fun st h10 hs => ?_⟩
    by_cases e : lyc st.1 = 0
    · exact e
    · refine absurd ⟨h10, okN_succ.mpr ⟨ok0, ?_, ?_⟩⟩ hc
      · show stepL A.1 (nN A) (addN A.2.2.1 (mN A) nt (mN A)) (mN A % 2) (lyN A.1 (nN A) (addN A.2.2.1 (mN A) nt) A.2.2.2.1 (mN A)).1 = some (lyN A.1 (nN A) (addN A.2.2.1 (mN A) nt) A.2.2.2.1 (mN A + 1))
        rw [addN_step hs, addN_ly, addN_at]; exact hs
      · show lyc (lyN A.1 (nN A) (addN A.2.2.1 (mN A) nt) A.2.2.2.1 (mN A + 1)).1 ≠ 0
        rw [addN_step hs]; exact e
end ADDN
noncomputable def ifv (A : ASt) (nt : Nat → Int32) : Int64 := match aAdd A nt with
  | none => if A.2.2.2.2 < 10 ∧ stepL A.1 (A.1 * A.2.1) nt (A.2.2.2.2 % 2) (lyN A.1 (A.1 * A.2.1) A.2.2.1 A.2.2.2.1 A.2.2.2.2).1 ≠ none then 0 else -1
  | some A => Int64.ofNat (gmA A)
/-- not stated, or a number below b -/
def Std (v : Int32) (b : Nat) : Prop := v = -1 ∨ (0 ≤ v.toInt ∧ v.toInt < b)
theorem Std.s {v : Int32} {b : Nat} (h : Std v b) (hb : b < 100) : sttd v b = true := by
  unfold sttd
  refine decide_eq_true ?_
  rcases h with rfl | ⟨h1, h2⟩
  · exact ⟨by decide, nW_le_m1 (by omega)⟩
  · constructor
    · rw [Int32.lt_iff_toInt_lt]
      have : (-nW 1 : Int32).toInt = -1 := by decide
      omega
    · rw [Int32.le_iff_toInt_le, nW_int (by omega)]; omega
section NOTES
variable {d : Nat} {W : WSt}
theorem wp_if {G : Mem} {c1 c2 : Nat} (hC : CI G (d + 1) W) {k fx tx ty tk ck : Int32} (h5 : tk = 0 ∨ tk = 1) (h6 : ck = 0 ∨ ck = 1) (hok : okNote W.1 k fx tx ty = true) {K : Int64 → Mem → Prop} (hK : ∀ G', CI G' (d + 1) W → K (ifv W.1 (ntF k fx tx ty tk ck)) G') : wpL (fL_gamesIfNoted 0 k fx tx ty tk ck G) hsL_gamesIfNoted c1 c2 K := by
  refine wp_in ?_ (cgamesIf_ok hC h5 h6) hC.ct hK
  unfold oIf ifv
  rw [if_neg (by rw [hok]; decide)]
  cases aAdd W.1 (ntF k fx tx ty tk ck) <;> rfl
theorem i32_nlt {x : Int32} (h : ¬ x < 0) : (0 : Int32) ≤ x := Int32.not_lt.mp h
theorem note_ok {G : Mem} (hC : CI G (d + 2) W) {k fx tx ty tk ck : Int32} (hk : Std k 5) (hfx : Std fx W.1.1) (htx : Std tx W.1.1) (hty : Std ty W.1.2.1) (h5 : tk = 0 ∨ tk = 1) (h6 : ck = 0 ∨ ck = 1) {K : Int32 → Mem → Prop} (hK : ∀ G' W', CI G' (d + 1) W' → K 1 G') : wS_notes_110 0 k fx tx ty tk ck G 600073 7301549 K := by
  have hA := hC.aok
  have hs := aok_sz hA
  have ok1 : okNote W.1 k fx tx ty = true := by
    unfold okNote
    rw [hk.s (by decide), hfx.s (by omega), htx.s (by omega), hty.s (by omega)]; rfl
  have ok2 : okNote W.1 (-1) fx tx ty = true := by
    unfold okNote
    rw [(show Std (-1) 5 from Or.inl rfl).s (by decide), hfx.s (by omega), htx.s (by omega), hty.s (by omega)]; rfl
  unfold wS_notes_110
  refine wp_if hC h5 h6 ok1 (fun G1 C1 => ?_)
  refine wp_if C1 h5 h6 ok2 (fun G2 C2 => ?_)
  refine pl_count C2 (fun G3 C3 => ?_)
  dsimp only
  refine wp_after C3 (Nat.le_refl _) (fun G4 C4 => ?_)
  rcases add_cases (nt := ntF k fx tx ty tk ck) hA with ⟨st, h10, hst, hne, hadd, hgm⟩ | ⟨hadd, hno⟩
  · -- the note stands
    refine wp_in (v := nW (pcA (addA W.1 (ntF k fx tx ty tk ck)))) (W' := (addA W.1 (ntF k fx tx ty tk ck), rem8 W.2.1 W.1, W.2.2)) ?_ (caddNote_ok C4 h5 h6) C4.ct (fun G5 C5 => ?_)
    · unfold oAdd
      rw [if_neg (by rw [ok1]; decide), hadd]
    have A5 : AAOK (addA W.1 (ntF k fx tx ty tk ck)) := C5.aok
    have g5 := aok_gm A5
    have v1 : ifv W.1 (ntF k fx tx ty tk ck) = Int64.ofNat (gmA (addA W.1 (ntF k fx tx ty tk ck))) := by
      unfold ifv; rw [hadd]
    have fin : wS_notes_198 0 k tk (ifv W.1 (ntF k fx tx ty tk ck)) (nW (mN W.1)) (nW (lyc (lyN W.1.1 (nN W.1) W.1.2.2.1 W.1.2.2.2.1 (mN W.1)).1)) (nW (pcA (addA W.1 (ntF k fx tx ty tk ck)))) G5 600073 7301549 K := by
      unfold wS_notes_198
      rw [v1, if_pos (show (0 : Int32) < lg_cmp (Int64.ofNat (gmA (addA W.1 (ntF k fx tx ty tk ck)))) (0 : Int64) from (lgc_gt (b := 0) g5.2 (by decide)).mpr (by omega)), lits.2.1, nW_add]
      have hi : mN W.1 < mN (addA W.1 (ntF k fx tx ty tk ck)) := Nat.lt_succ_self _
      have nat : ∀ j, (addA W.1 (ntF k fx tx ty tk ck)).2.2.1 (mN W.1) j = ntF k fx tx ty tk ck j := fun j => congrFun (addN_at (A := W.1)) j
      refine wp_after C5 (i := mN W.1 + 1) (Nat.le_refl _) (fun G6 C6 => ?_)
      rw [if_pos rfl]
      refine pl_count C6 (fun G7 C7 => ?_)
      dsimp only
      rw [if_pos rfl]
      refine pl_games C7 (fun G8 C8 => ?_)
      dsimp only
      rw [if_pos (show lg_cmp (Int64.ofNat (gmA (addA W.1 (ntF k fx tx ty tk ck)))) (Int64.ofNat (gmA (addA W.1 (ntF k fx tx ty tk ck)))) = 0 from (lgc_eq g5.2 g5.2).mpr rfl)]
      refine wp_note C8 hi (cnoteI_ok C8 (by decide) rfl) (fun G9 C9 => ?_)
      dsimp only
      rw [if_pos (show (addA W.1 (ntF k fx tx ty tk ck)).2.2.1 (mN W.1) 0 = k from nat 0)]
      refine wp_note C9 hi (cnoteI_ok C9 (by decide) rfl) (fun G10 C10 => ?_)
      dsimp only
      rw [if_pos (show (addA W.1 (ntF k fx tx ty tk ck)).2.2.1 (mN W.1) 2 = -nW 1 from nat 2)]
      refine wp_note C10 hi (cnoteB_ok C10 (Or.inl rfl) rfl) (fun G11 C11 => ?_)
      dsimp only
      rw [show addN W.1.2.2.1 W.1.2.2.2.2 (ntF k fx tx ty tk ck) (mN W.1) 5 = tk from nat 5]
      show (if tk = 0 then wS_notes_308 (bz tk) 0 G11 600073 7301549 K else wS_notes_308 (bz tk) 1 G11 600073 7301549 K)
      have f8 : ∀ v, wS_notes_308 v v G11 600073 7301549 K := fun v => by
        unfold wS_notes_308
        rw [if_pos rfl]
        unfold wS_notes_316
        exact ⟨Or.inr rfl, hK _ _ (C11.mono (by omega))⟩
      rcases h5 with rfl | rfl
      · rw [if_pos rfl]; exact f8 0
      · rw [if_neg (by decide)]; exact f8 1
    by_cases c1 : lg_cmp (ifv W.1 (ntF k fx tx ty tk ck)) (0 : Int64) < (0 : Int32)
    · rw [if_pos c1]; exact fin
    rw [if_neg c1]
    by_cases c2 : lg_cmp (ifv W.1 (ntF (-1) fx tx ty tk ck)) (0 : Int64) < (0 : Int32)
    · rw [if_pos c2]; exact fin
    rw [if_neg c2, if_pos]
    · exact fin
    have wide : ∀ st', stepL W.1.1 (nN W.1) (ntF (-1) fx tx ty tk ck) (mN W.1 % 2) (lyI W.1 (mN W.1)) = some st' → gsm st.1 (lyc st.1) ≤ gsm st'.1 (lyc st'.1) := fun st' h' => step_wide (fun j hj => by
        match j, hj with
        | 0, h => exact absurd h (by decide)
        | 1, h => exact absurd h (by decide)
        | 2, h => exact absurd h (by decide)
        | 3, _ => rfl
        | 4, _ => rfl
        | 5, _ => rfl
        | 6, _ => rfl
        | j + 7, _ => rfl) (fun P f ho => by
        unfold orgB at ho ⊢
        rw [Bool.and_eq_true] at ho ⊢
        exact ⟨rfl, ho.2⟩) hst h'
    rcases add_cases (nt := ntF (-1) fx tx ty tk ck) hA with ⟨st', -, hst', -, hadd', hgm'⟩ | ⟨hadd', hno'⟩
    · have v4 : ifv W.1 (ntF (-1) fx tx ty tk ck) = Int64.ofNat (gmA (addA W.1 (ntF (-1) fx tx ty tk ck))) := by
        unfold ifv; rw [hadd']
      have le := wide st' hst'
      rw [← hgm, ← hgm'] at le
      have lt : gmA (addA W.1 (ntF (-1) fx tx ty tk ck)) < 9223372036854775808 := by
        have A' : AAOK (addA W.1 (ntF (-1) fx tx ty tk ck)) := by
          by_cases hc : W.1.2.2.2.2 < 10 ∧ okN W.1.1 (W.1.1 * W.1.2.1) (addN W.1.2.2.1 W.1.2.2.2.2 (ntF (-1) fx tx ty tk ck)) W.1.2.2.2.1 (W.1.2.2.2.2 + 1)
          · exact hA.add hc.1 hc.2 h5 h6
          · rw [show aAdd W.1 (ntF (-1) fx tx ty tk ck) = none from if_neg hc] at hadd'; cases hadd'
        exact (aok_gm A').2
      rw [v1, v4]
      exact (lgc_ge lt g5.2).mpr le
    · exfalso
      refine c2 ?_
      have : ifv W.1 (ntF (-1) fx tx ty tk ck) = -1 := by
        unfold ifv
        rw [hadd']
        refine if_neg (fun q => ?_)
        cases hh : stepL W.1.1 (W.1.1 * W.1.2.1) (ntF (-1) fx tx ty tk ck) (W.1.2.2.2.2 % 2) (lyN W.1.1 (W.1.1 * W.1.2.1) W.1.2.2.1 W.1.2.2.2.1 W.1.2.2.2.2).1 with
        | none => exact q.2 hh
        | some st' =>
          have le := wide st' hh
          have z := hno' st' h10 hh
          rw [z, show gsm st'.1 0 = 0 from rfl, ← hgm] at le
          omega
      rw [this]
      decide
  · -- the note can't stand
    refine wp_ex (k := 1) (W' := W) ?_ (caddNote_ok C4 h5 h6) C4.ct (by decide) (fun G5 C5 => ?_)
    · unfold oAdd
      rw [if_neg (by rw [ok1]; decide), hadd]
    have v1 : ifv W.1 (ntF k fx tx ty tk ck) = 0 ∨ ifv W.1 (ntF k fx tx ty tk ck) = -1 := by
      unfold ifv
      rw [hadd]
      show (if _ then (0 : Int64) else -1) = 0 ∨ (if _ then (0 : Int64) else -1) = -1
      split
      · exact Or.inl rfl
      · exact Or.inr rfl
    have fin : wS_notes_198 0 k tk (ifv W.1 (ntF k fx tx ty tk ck)) (nW (mN W.1)) (nW (lyc (lyN W.1.1 (nN W.1) W.1.2.2.1 W.1.2.2.2.1 (mN W.1)).1)) (-19) G5 600073 7301549 K := by
      unfold wS_notes_198
      rw [if_neg (by rcases v1 with e | e <;> rw [e] <;> decide), if_pos rfl]
      refine pl_count C5 (fun G6 C6 => ?_)
      dsimp only
      rw [if_pos rfl]
      refine wp_after C6 (Nat.le_refl _) (fun G7 C7 => ?_)
      rw [if_pos rfl]
      unfold wS_notes_237
      exact ⟨Or.inr rfl, hK _ _ C7⟩
    by_cases c1 : lg_cmp (ifv W.1 (ntF k fx tx ty tk ck)) (0 : Int64) < (0 : Int32)
    · rw [if_pos c1]; exact fin
    rw [if_neg c1]
    by_cases c2 : lg_cmp (ifv W.1 (ntF (-1) fx tx ty tk ck)) (0 : Int64) < (0 : Int32)
    · rw [if_pos c2]; exact fin
    rw [if_neg c2, if_pos]
    · exact fin
    rcases v1 with e | e
    · rw [e]; exact i32_nlt c2
    · rw [e] at c1; exact absurd (by decide) c1
/-- what is drawn -/
theorem nt_ok {G : Mem} (hC : CI G (d + 2) W) {K : Int32 → Mem → Prop} (hK : ∀ G' W', CI G' (d + 1) W' → K 1 G') : wS_notes 0 G 600073 7301549 K := by
  have hs := aok_sz hC.aok
  have m1 : ∀ b, Std (-1) b := fun b => Or.inl rfl
  have c : (nW W.1.1).toInt = W.1.1 := nW_int (by omega)
  have r : (nW W.1.2.1).toInt = W.1.2.1 := nW_int (by omega)
  have s94 : ∀ (k fx tx ty tk : Int32) (G' : Mem), CI G' (d + 2) W → Std k 5 → Std fx W.1.1 → Std tx W.1.1 → Std ty W.1.2.1 → (tk = 0 ∨ tk = 1) → wS_notes_94 0 k fx tx ty tk G' 600073 7301549 K := by
    intro k fx tx ty tk G' C a1 a2 a3 a4 a5
    unfold wS_notes_94
    refine ⟨by decide, fun v _ => ?_⟩
    by_cases e : v = 0
    · rw [if_pos e]; exact note_ok C a1 a2 a3 a4 a5 (Or.inr rfl) hK
    · rw [if_neg e]; exact note_ok C a1 a2 a3 a4 a5 (Or.inl rfl) hK
  have s78 : ∀ (k fx tx ty : Int32) (G' : Mem), CI G' (d + 2) W → Std k 5 → Std fx W.1.1 → Std tx W.1.1 → Std ty W.1.2.1 → wS_notes_78 0 k fx tx ty G' 600073 7301549 K := by
    intro k fx tx ty G' C a1 a2 a3 a4
    unfold wS_notes_78
    refine ⟨by decide, fun v _ => ?_⟩
    by_cases e : v = 0
    · rw [if_pos e]; exact s94 k fx tx ty 1 G' C a1 a2 a3 a4 (Or.inr rfl)
    · rw [if_neg e]; exact s94 k fx tx ty 0 G' C a1 a2 a3 a4 (Or.inl rfl)
  have s59 : ∀ (k fx tx : Int32) (G' : Mem), CI G' (d + 2) W → Std k 5 → Std fx W.1.1 → Std tx W.1.1 → wS_notes_59 0 k fx tx G' 600073 7301549 K := by
    intro k fx tx G' C a1 a2 a3
    unfold wS_notes_59
    by_cases e : tx < 0
    · rw [if_pos e]; exact s78 k fx tx (-1) G' C a1 a2 a3 (m1 _)
    · rw [if_neg e]
      refine pl_rows C (fun G1 C1 => ⟨by dsimp only; rw [r]; omega, fun v hv => ?_⟩)
      dsimp only at hv
      rw [r] at hv
      exact s78 k fx tx v G1 C1 a1 a2 a3 (Or.inr hv)
  have s38 : ∀ (k fx : Int32) (G' : Mem), CI G' (d + 2) W → Std k 5 → Std fx W.1.1 → wS_notes_38 0 k fx G' 600073 7301549 K := by
    intro k fx G' C a1 a2
    unfold wS_notes_38
    refine ⟨by decide, fun v _ => ?_⟩
    by_cases e : v = 0
    · rw [if_pos e]
      refine pl_cols C (fun G1 C1 => ⟨by dsimp only; rw [c]; omega, fun v hv => ?_⟩)
      dsimp only at hv
      rw [c] at hv
      exact s59 k fx v G1 C1 a1 a2 (Or.inr hv)
    · rw [if_neg e]; exact s59 k fx (-1) G' C a1 a2 (m1 _)
  have s17 : ∀ (k : Int32) (G' : Mem), CI G' (d + 2) W → Std k 5 → wS_notes_17 0 k G' 600073 7301549 K := by
    intro k G' C a1
    unfold wS_notes_17
    refine ⟨by decide, fun v _ => ?_⟩
    by_cases e : v = 0
    · rw [if_pos e]
      refine pl_cols C (fun G1 C1 => ⟨by dsimp only; rw [c]; omega, fun v hv => ?_⟩)
      dsimp only at hv
      rw [c] at hv
      exact s38 k v G1 C1 a1 (Or.inr hv)
    · rw [if_neg e]; exact s38 k (-1) G' C a1 (m1 _)
  unfold wS_notes wS_notes_0
  refine ⟨by decide, fun v _ => ?_⟩
  by_cases e : v ≤ 0
  · rw [if_pos e]; exact s17 (-1) G hC (m1 _)
  · rw [if_neg e]
    refine ⟨by decide, fun v2 hv => s17 v2 G hC (Or.inr hv)⟩
end NOTES
