/-! ===== a constructor, run: its arrays ===== -/
set_option maxRecDepth 1000000 in
theorem my_chkC_n : my_chkC .null = true := by decide +kernel
