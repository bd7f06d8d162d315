/-! the check of the law, by blocks -/
set_option maxRecDepth 1000000 in
theorem lawC_10 : ((List.range 20).all fun i => lawAt (200 + i)) = true := by decide +kernel
set_option maxRecDepth 1000000 in
theorem lawC_11 : ((List.range 20).all fun i => lawAt (220 + i)) = true := by decide +kernel
