/-! the check of the law, by blocks -/
set_option maxRecDepth 1000000 in
theorem lawC_6 : ((List.range 20).all fun i => lawAt (120 + i)) = true := by decide +kernel
set_option maxRecDepth 1000000 in
theorem lawC_7 : ((List.range 20).all fun i => lawAt (140 + i)) = true := by decide +kernel
