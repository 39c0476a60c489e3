/-! closed balls, kind sets 16 .. 23 (wip/proto/bfs.py) -/
theorem clK_16 : clK 16 2 = true := by decide +kernel
theorem clK_17 : clK 17 8 = true := by decide +kernel
theorem clK_18 : clK 18 7 = true := by decide +kernel
theorem clK_19 : clK 19 8 = true := by decide +kernel
theorem clK_20 : clK 20 3 = true := by decide +kernel
theorem clK_21 : clK 21 10 = true := by decide +kernel
theorem clK_22 : clK 22 7 = true := by decide +kernel
theorem clK_23 : clK 23 7 = true := by decide +kernel
