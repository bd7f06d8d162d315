/-! the check of the law, by blocks -/
set_option maxRecDepth 1000000 in
theorem lawC_8 : ((List.range 20).all fun i => lawAt (160 + i)) = true := by decide +kernel
set_option maxRecDepth 1000000 in
theorem lawC_9 : ((List.range 20).all fun i => lawAt (180 + i)) = true := by decide +kernel
