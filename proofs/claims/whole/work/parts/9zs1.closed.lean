/-! closed balls, kind sets 8 .. 15 (wip/proto/bfs.py) -/
theorem clK_8 : clK 8 2 = true := by decide +kernel
theorem clK_9 : clK 9 5 = true := by decide +kernel
theorem clK_10 : clK 10 4 = true := by decide +kernel
theorem clK_11 : clK 11 6 = true := by decide +kernel
theorem clK_12 : clK 12 6 = true := by decide +kernel
theorem clK_13 : clK 13 11 = true := by decide +kernel
theorem clK_14 : clK 14 7 = true := by decide +kernel
theorem clK_15 : clK 15 8 = true := by decide +kernel
