/-! the check of the law, by blocks -/
set_option maxRecDepth 1000000 in
theorem lawC_6 : ((List.range 208).all fun i => lawAt (1248 + i)) = true := by decide +kernel
set_option maxRecDepth 1000000 in
theorem lawC_7 : ((List.range 208).all fun i => lawAt (1456 + i)) = true := by decide +kernel
