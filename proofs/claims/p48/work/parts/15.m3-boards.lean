/-! ===== the boards, read by the kernel: 36 36 ===== -/
set_option maxRecDepth 100000 in
theorem bd_110 : (allN 4 fun k0 => allN 4 fun k1 => allN 4 fun k2 => frc (txt 36 (4 + k0) 36 (4 + k1) 35 (4 + k2)) bdok) = true := by decide +kernel
set_option maxRecDepth 100000 in
theorem bd_111 : (allN 4 fun k0 => allN 4 fun k1 => allN 4 fun k2 => frc (txt 36 (4 + k0) 36 (4 + k1) 36 (4 + k2)) bdok) = true := by decide +kernel
