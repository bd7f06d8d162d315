/-! the check of the law, by blocks -/
set_option maxRecDepth 1000000 in
theorem lawC_8 : ((List.range 208).all fun i => lawAt (1664 + i)) = true := by decide +kernel
set_option maxRecDepth 1000000 in
theorem lawC_9 : ((List.range 208).all fun i => lawAt (1872 + i)) = true := by decide +kernel
