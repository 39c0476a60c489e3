/-! ===== least: bytes of distances ===== -/
theorem byt_p : ∀ n : Fin 14, vp_nar .byte ((nI n.1 + 1).toInt8.toInt32) = nI (n.1 + 1) := by decide
theorem byt_0 : vp_nar .byte 0 = nI 0 := by decide
theorem byt_m : vp_nar .byte (-1) = -1 := by decide
