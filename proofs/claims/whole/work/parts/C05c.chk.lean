/-! ===== a constructor, run: its arrays ===== -/
set_option maxRecDepth 1000000 in
theorem my_chkD_n : my_chkD .null = true := by decide +kernel
