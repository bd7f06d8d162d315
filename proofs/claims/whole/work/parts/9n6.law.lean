/-! the check of the law, by blocks -/
set_option maxRecDepth 1000000 in
theorem lawD_28 : ((List.range 26).all fun i => lawAt (2184 + i)) = true := by decide +kernel
set_option maxRecDepth 1000000 in
theorem lawD_29 : ((List.range 26).all fun i => lawAt (2210 + i)) = true := by decide +kernel
set_option maxRecDepth 1000000 in
theorem lawD_30 : ((List.range 26).all fun i => lawAt (2236 + i)) = true := by decide +kernel
set_option maxRecDepth 1000000 in
theorem lawD_31 : ((List.range 26).all fun i => lawAt (2262 + i)) = true := by decide +kernel
set_option maxRecDepth 1000000 in
theorem lawD_32 : ((List.range 26).all fun i => lawAt (2288 + i)) = true := by decide +kernel
set_option maxRecDepth 1000000 in
theorem lawD_33 : ((List.range 26).all fun i => lawAt (2314 + i)) = true := by decide +kernel
set_option maxRecDepth 1000000 in
theorem lawD_34 : ((List.range 26).all fun i => lawAt (2340 + i)) = true := by decide +kernel
