/-! counts, kind sets 24 .. 31 (wip/proto/bfs.py) -/
theorem smK_24 : smK 24 4 = true := by decide +kernel
theorem smK_25 : smK 25 6 = true := by decide +kernel
theorem smK_26 : smK 26 7 = true := by decide +kernel
theorem lgK_27 : lgK 27 4 8 = true := by decide +kernel
theorem smK_28 : smK 28 5 = true := by decide +kernel
theorem lgK_29 : lgK 29 5 10 = true := by decide +kernel
theorem smK_30 : smK 30 6 = true := by decide +kernel
theorem lgK_31 : lgK 31 4 7 = true := by decide +kernel
