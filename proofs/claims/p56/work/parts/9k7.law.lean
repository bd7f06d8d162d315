/-! the check of the law, by blocks -/
set_option maxRecDepth 1000000 in
theorem lawC_4 : ((List.range 20).all fun i => lawAt (80 + i)) = true := by decide +kernel
set_option maxRecDepth 1000000 in
theorem lawC_5 : ((List.range 20).all fun i => lawAt (100 + i)) = true := by decide +kernel
