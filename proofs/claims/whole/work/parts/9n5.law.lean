/-! the check of the law, by blocks -/
set_option maxRecDepth 1000000 in
theorem lawC_12 : ((List.range 208).all fun i => lawAt (2496 + i)) = true := by decide +kernel
set_option maxRecDepth 1000000 in
theorem lawC_13 : ((List.range 208).all fun i => lawAt (2704 + i)) = true := by decide +kernel
