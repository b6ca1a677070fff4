/-! ===== a constructor, run ===== -/
set_option maxRecDepth 1000000 in
theorem my_chkB_r : my_chkB (.ref 31) = true := by decide +kernel
