/-! ===== the start: the packed position ===== -/
set_option maxRecDepth 100000 in
theorem G1_pk : ∀ q, q < 48 → nib (mJ G1 16 (q / 16)) (q % 16) = enc (P00 q) := by decide +kernel
