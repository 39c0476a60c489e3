/-! counts, kind sets 8 .. 15 (wip/proto/bfs.py) -/
theorem smK_8 : smK 8 2 = true := by decide +kernel
theorem smK_9 : smK 9 5 = true := by decide +kernel
theorem smK_10 : smK 10 4 = true := by decide +kernel
theorem smK_11 : smK 11 6 = true := by decide +kernel
theorem smK_12 : smK 12 6 = true := by decide +kernel
theorem lgK_13 : lgK 13 6 11 = true := by decide +kernel
theorem smK_14 : smK 14 7 = true := by decide +kernel
theorem lgK_15 : lgK 15 5 8 = true := by decide +kernel
