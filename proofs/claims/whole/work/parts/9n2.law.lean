/-! the check of the law, by blocks -/
set_option maxRecDepth 1000000 in
theorem lawC_6 : ((List.range 208).all fun i => lawAt (1248 + i)) = true := by decide +kernel
set_option maxRecDepth 1000000 in
theorem lawD_0 : ((List.range 26).all fun i => lawAt (1456 + i)) = true := by decide +kernel
set_option maxRecDepth 1000000 in
theorem lawD_1 : ((List.range 26).all fun i => lawAt (1482 + i)) = true := by decide +kernel
set_option maxRecDepth 1000000 in
theorem lawD_2 : ((List.range 26).all fun i => lawAt (1508 + i)) = true := by decide +kernel
set_option maxRecDepth 1000000 in
theorem lawD_3 : ((List.range 26).all fun i => lawAt (1534 + i)) = true := by decide +kernel
set_option maxRecDepth 1000000 in
theorem lawD_4 : ((List.range 26).all fun i => lawAt (1560 + i)) = true := by decide +kernel
set_option maxRecDepth 1000000 in
theorem lawD_5 : ((List.range 26).all fun i => lawAt (1586 + i)) = true := by decide +kernel
set_option maxRecDepth 1000000 in
theorem lawD_6 : ((List.range 26).all fun i => lawAt (1612 + i)) = true := by decide +kernel
