/-! ===== a constructor, run ===== -/
set_option maxRecDepth 1000000 in
theorem my_chkA_n : my_chkA .null = true := by decide +kernel
