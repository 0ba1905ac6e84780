/-! ===== a memory whose first cells are the start's ===== -/
theorem G1_mz : mz G1 = 265 ∧ ml G1 ≤ 100000 ∧ cC G1 = 600073 ∧ cS G1 = 7301549 := s1_some.2
def Eq1 (G : Mem) : Prop := ∀ b, b < 265 → mt G b = mt G1 b ∧ mn G b = mn G1 b ∧ mI G b = mI G1 b ∧ mJ G b = mJ G1 b ∧ mP G b = mP G1 b
section ANY
variable {G : Mem}
theorem eq1_t (h : Eq1 G) : ∀ b, b < 265 → mt G b = mt G1 b := fun b hb => (h b hb).1
theorem eq1_n (h : Eq1 G) : ∀ b, b < 265 → mn G b = mn G1 b := fun b hb => (h b hb).2.1
theorem eq1_I (h : Eq1 G) : ∀ b, b < 265 → mI G b = mI G1 b := fun b hb => (h b hb).2.2.1
theorem eq1_J (h : Eq1 G) : ∀ b, b < 265 → mJ G b = mJ G1 b := fun b hb => (h b hb).2.2.2.1
theorem eq1_P (h : Eq1 G) : ∀ b, b < 265 → mP G b = mP G1 b := fun b hb => (h b hb).2.2.2.2
theorem any_ss (h : Eq1 G) : ∀ e, e < 12 → SS G (fa e) (fa e + 10) 0 := fun e he => by
  have fe := fa_ok he
  have a0 := G1_s1 e he
  have a1 := G1_s2 e he
  obtain ⟨a2, a3⟩ := G1_s3 e he
  obtain ⟨b1, b2, b3, b4, b5, b6⟩ := G1_s4 e he
  have t1 := eq1_t h
  have t2 := eq1_n h
  have t3 := eq1_P h
  unfold SS SSh BSh
  unfold BSh at a1
  refine ⟨⟨?_, ?_, ?_, fun i hi => ?_, ?_, ?_, ?_, ?_, ?_, ?_, by decide⟩, by decide, Or.inl rfl⟩
  · rw [t1 _ (by omega), t3 _ (by omega)]; exact a0
  · rw [t1 _ (by omega), t3 _ (by omega), t1 (fa e + 1 + 1) (by omega), t2 (fa e + 1 + 1) (by omega), t1 (fa e + 1 + 2) (by omega), t2 (fa e + 1 + 2) (by omega)]; exact a1
  · rw [t1 _ (by omega), t2 _ (by omega)]; exact a2
  · rw [t3 _ (by omega), t1 (fa e + 11 + i) (by omega)]; exact a3 i hi
  · rw [t1 _ (by omega), t2 _ (by omega)]; exact b1
  · rw [t1 _ (by omega), t2 _ (by omega)]; exact b2
  · rw [t1 _ (by omega), t2 _ (by omega)]; exact b3
  · rw [t1 _ (by omega), t2 _ (by omega)]; exact b4
  · rw [t1 _ (by omega), t2 _ (by omega)]; exact b5
  · rw [t1 _ (by omega), t2 _ (by omega)]; exact b6
theorem any_ci (h : Eq1 G) (hF : Frsh G) (hz : 265 ≤ mz G ∧ mz G ≤ 400 ∧ ml G ≤ 200000 ∧ cC G = 600073 ∧ cS G = 7301549) : CI G 100 W00 := by
  obtain ⟨⟨a1, a2⟩, a3, a4, a5⟩ := G1_a
  have t1 := eq1_t h
  have t2 := eq1_n h
  have t3 := eq1_P h
  have t4 := eq1_I h
  have t5 := eq1_J h
  have ss := any_ss h
  obtain ⟨z1, z2, z3, z4, z5⟩ := hz
  refine ⟨fun e => e, fun e => fa e + 10, fun _ => 0, ⟨?_, ?_, ⟨?_, fun i hi => ?_⟩, ⟨?_, fun j hj => ?_⟩, ⟨?_, ?_, ?_⟩, ss, ⟨fun e _ => Or.inl rfl, fun e e' _ _ hn => ?_⟩, ⟨fun i hi => hi, fun i j _ _ hij => hij⟩, hF, z1⟩, ⟨?_, ?_, z4, z5⟩, cd00 ⟨?_, fun j hj => ?_, fun e he => ?_, ?_, fun p hp => ?_⟩ ⟨?_, fun p hp => ?_⟩ (fun q hq => ?_) (ss 0 (by decide))⟩
  · rw [t1 0 (by decide), t3 0 (by decide)]; exact a1
  · obtain ⟨⟨⟨x1, x2, x3⟩, ⟨x4, x5⟩, ⟨x6, x7⟩, x8⟩, ⟨⟨y1, y2, y3⟩, ⟨y4, y5⟩, ⟨y6, y7⟩, y8⟩, w1⟩ := a2
    refine ⟨⟨⟨?_, ?_, ?_⟩, ⟨?_, ?_⟩, ⟨?_, ?_⟩, ?_⟩, ⟨⟨?_, ?_, ?_⟩, ⟨?_, ?_⟩, ⟨?_, ?_⟩, y8⟩, ?_⟩
    · rw [t1 1 (by decide)]; exact x1
    · rw [t3 1 (by decide)]; exact x2
    · rw [t3 1 (by decide)]; exact x3
    · rw [t1 2 (by decide)]; exact x4
    · rw [t3 2 (by decide)]; exact x5
    · rw [t1 3 (by decide)]; exact x6
    · rw [t2 3 (by decide)]; exact x7
    · rw [t1 4 (by decide)]; exact x8
    · rw [t1 5 (by decide)]; exact y1
    · rw [t3 5 (by decide)]; exact y2
    · rw [t3 5 (by decide)]; exact y3
    · rw [t1 6 (by decide)]; exact y4
    · rw [t2 6 (by decide)]; exact y5
    · rw [t1 7 (by decide)]; exact y6
    · rw [t2 7 (by decide)]; exact y7
    · rw [t1 8 (by decide)]; exact w1
  · rw [t1 51 (by decide), t2 51 (by decide)]; exact a3.1
  · rw [t3 51 (by decide)]; exact a3.2 i hi
  · rw [t1 52 (by decide), t2 52 (by decide)]; exact a4.1
  · rw [t3 52 (by decide)]; exact a4.2 j hj
  · rw [t1 53 (by decide), t2 53 (by decide)]; exact a5.1
  · rw [t1 54 (by decide), t2 54 (by decide)]; exact a5.2.1
  · rw [t1 0 (by decide)]; exact a5.2.2
  · have := fa_ne hn
    show fa e + 10 ≠ fa e' + 10
    omega
  · rw [z4]
    have : sumN 12 (fun _ => 6 - 0) = 72 := by decide
    show mz G + sumN 12 (fun _ => 6 - 0) + 100 ≤ 600073
    omega
  · rw [z5]
    have : sumN 12 (fun _ => 32000 - 2 * (250 * 2 ^ 0)) = 378000 := by decide +kernel
    show ml G + sumN 12 (fun _ => 32000 - 2 * (250 * 2 ^ 0)) + 6 * 100 ≤ 7301549
    omega
  · rw [t4 0 (by decide), t4 1 (by decide), t4 2 (by decide)]; exact G1_cells.1
  · rw [t4 53 (by decide)]; exact G1_cells.2.1 j hj
  · have := fa_ok he
    rw [t4 (fa e + 9) (by omega)]; exact G1_cells.2.2.1 e he
  · rw [t4 10 (by decide), t4 9 (by decide)]; exact G1_cells.2.2.2.1
  · rw [t5 7 (by decide)]; exact G1_cells.2.2.2.2 p hp
  · rw [t4 14 (by decide), t5 15 (by decide), t4 18 (by decide)]; exact G1_cells2.1
  · rw [t4 12 (by decide)]; exact G1_cells2.2 p hp
  · rw [t5 16 (by decide)]; exact G1_pk q hq
end ANY
