/-! counts, kind sets 16 .. 23 (wip/proto/bfs.py) -/
theorem smK_16 : smK 16 2 = true := by decide +kernel
theorem smK_17 : smK 17 8 = true := by decide +kernel
theorem smK_18 : smK 18 7 = true := by decide +kernel
theorem lgK_19 : lgK 19 5 8 = true := by decide +kernel
theorem smK_20 : smK 20 3 = true := by decide +kernel
theorem lgK_21 : lgK 21 6 10 = true := by decide +kernel
theorem smK_22 : smK 22 7 = true := by decide +kernel
theorem lgK_23 : lgK 23 4 7 = true := by decide +kernel
