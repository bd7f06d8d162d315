/-! the check of the law, by blocks -/
set_option maxRecDepth 1000000 in
theorem lawC_2 : ((List.range 20).all fun i => lawAt (40 + i)) = true := by decide +kernel
set_option maxRecDepth 1000000 in
theorem lawC_3 : ((List.range 20).all fun i => lawAt (60 + i)) = true := by decide +kernel
