/-! the check of the law, by blocks -/
set_option maxRecDepth 1000000 in
theorem lawC_12 : ((List.range 20).all fun i => lawAt (240 + i)) = true := by decide +kernel
set_option maxRecDepth 1000000 in
theorem lawC_13 : ((List.range 5).all fun i => lawAt (260 + i)) = true := by decide +kernel
