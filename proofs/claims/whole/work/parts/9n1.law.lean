/-! the check of the law, by blocks -/
set_option maxRecDepth 1000000 in
theorem lawC_4 : ((List.range 208).all fun i => lawAt (832 + i)) = true := by decide +kernel
set_option maxRecDepth 1000000 in
theorem lawC_5 : ((List.range 208).all fun i => lawAt (1040 + i)) = true := by decide +kernel
