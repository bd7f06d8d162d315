/-! the check of the law, by blocks -/
set_option maxRecDepth 1000000 in
theorem lawD_7 : ((List.range 26).all fun i => lawAt (1638 + i)) = true := by decide +kernel
set_option maxRecDepth 1000000 in
theorem lawD_8 : ((List.range 26).all fun i => lawAt (1664 + i)) = true := by decide +kernel
set_option maxRecDepth 1000000 in
theorem lawD_9 : ((List.range 26).all fun i => lawAt (1690 + i)) = true := by decide +kernel
set_option maxRecDepth 1000000 in
theorem lawD_10 : ((List.range 26).all fun i => lawAt (1716 + i)) = true := by decide +kernel
set_option maxRecDepth 1000000 in
theorem lawD_11 : ((List.range 26).all fun i => lawAt (1742 + i)) = true := by decide +kernel
set_option maxRecDepth 1000000 in
theorem lawD_12 : ((List.range 26).all fun i => lawAt (1768 + i)) = true := by decide +kernel
set_option maxRecDepth 1000000 in
theorem lawD_13 : ((List.range 26).all fun i => lawAt (1794 + i)) = true := by decide +kernel
