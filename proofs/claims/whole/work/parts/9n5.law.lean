/-! the check of the law, by blocks -/
set_option maxRecDepth 1000000 in
theorem lawD_21 : ((List.range 26).all fun i => lawAt (2002 + i)) = true := by decide +kernel
set_option maxRecDepth 1000000 in
theorem lawD_22 : ((List.range 26).all fun i => lawAt (2028 + i)) = true := by decide +kernel
set_option maxRecDepth 1000000 in
theorem lawD_23 : ((List.range 26).all fun i => lawAt (2054 + i)) = true := by decide +kernel
set_option maxRecDepth 1000000 in
theorem lawD_24 : ((List.range 26).all fun i => lawAt (2080 + i)) = true := by decide +kernel
set_option maxRecDepth 1000000 in
theorem lawD_25 : ((List.range 26).all fun i => lawAt (2106 + i)) = true := by decide +kernel
set_option maxRecDepth 1000000 in
theorem lawD_26 : ((List.range 26).all fun i => lawAt (2132 + i)) = true := by decide +kernel
set_option maxRecDepth 1000000 in
theorem lawD_27 : ((List.range 26).all fun i => lawAt (2158 + i)) = true := by decide +kernel
