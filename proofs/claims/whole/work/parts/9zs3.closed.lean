/-! closed balls, kind sets 24 .. 31 (wip/proto/bfs.py) -/
theorem clK_24 : clK 24 4 = true := by decide +kernel
theorem clK_25 : clK 25 6 = true := by decide +kernel
theorem clK_26 : clK 26 7 = true := by decide +kernel
theorem clK_27 : clK 27 8 = true := by decide +kernel
theorem clK_28 : clK 28 5 = true := by decide +kernel
theorem clK_29 : clK 29 10 = true := by decide +kernel
theorem clK_30 : clK 30 6 = true := by decide +kernel
theorem clK_31 : clK 31 7 = true := by decide +kernel
