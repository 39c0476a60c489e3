/-! closed balls, kind sets 0 .. 7 (wip/proto/bfs.py) -/
theorem clK_0 : clK 0 0 = true := by decide +kernel
theorem clK_1 : clK 1 3 = true := by decide +kernel
theorem clK_2 : clK 2 6 = true := by decide +kernel
theorem clK_3 : clK 3 7 = true := by decide +kernel
theorem clK_4 : clK 4 4 = true := by decide +kernel
theorem clK_5 : clK 5 12 = true := by decide +kernel
theorem clK_6 : clK 6 8 = true := by decide +kernel
theorem clK_7 : clK 7 8 = true := by decide +kernel
