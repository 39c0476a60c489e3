/-! counts, kind sets 0 .. 7 (wip/proto/bfs.py) -/
theorem smK_0 : smK 0 0 = true := by decide +kernel
theorem smK_1 : smK 1 3 = true := by decide +kernel
theorem smK_2 : smK 2 6 = true := by decide +kernel
theorem smK_3 : smK 3 7 = true := by decide +kernel
theorem smK_4 : smK 4 4 = true := by decide +kernel
theorem lgK_5 : lgK 5 7 12 = true := by decide +kernel
theorem smK_6 : smK 6 8 = true := by decide +kernel
theorem lgK_7 : lgK 7 5 8 = true := by decide +kernel
