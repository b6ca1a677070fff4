/-! ===== a constructor, run ===== -/
set_option maxRecDepth 1000000 in
theorem my_chkB_n : my_chkB .null = true := by decide +kernel
