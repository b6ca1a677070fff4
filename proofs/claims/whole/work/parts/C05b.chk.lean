/-! ===== a constructor, run: its arrays ===== -/
set_option maxRecDepth 1000000 in
theorem my_chkC_r : my_chkC (.ref 31) = true := by decide +kernel
