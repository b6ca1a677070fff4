/-! ===== a constructor, run ===== -/
set_option maxRecDepth 1000000 in
theorem my_chkA_r : my_chkA (.ref 31) = true := by decide +kernel
