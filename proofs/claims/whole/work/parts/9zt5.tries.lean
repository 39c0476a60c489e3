/-! the same, further kind sets -/
theorem nrK_21 : nrK 21 6 10 = true := by decide +kernel
theorem nrK_23 : nrK 23 4 7 = true := by decide +kernel
theorem nrK_27 : nrK 27 4 8 = true := by decide +kernel
theorem nrK_29 : nrK 29 5 10 = true := by decide +kernel
theorem nrK_31 : nrK 31 4 7 = true := by decide +kernel
