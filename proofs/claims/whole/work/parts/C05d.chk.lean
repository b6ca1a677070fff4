/-! ===== a constructor, run: its arrays ===== -/
set_option maxRecDepth 1000000 in
theorem my_chkD_r : my_chkD (.ref 31) = true := by decide +kernel
