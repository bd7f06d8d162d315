/-! the check of the law, by blocks -/
set_option maxRecDepth 1000000 in
theorem lawD_14 : ((List.range 26).all fun i => lawAt (1820 + i)) = true := by decide +kernel
set_option maxRecDepth 1000000 in
theorem lawD_15 : ((List.range 26).all fun i => lawAt (1846 + i)) = true := by decide +kernel
set_option maxRecDepth 1000000 in
theorem lawD_16 : ((List.range 26).all fun i => lawAt (1872 + i)) = true := by decide +kernel
set_option maxRecDepth 1000000 in
theorem lawD_17 : ((List.range 26).all fun i => lawAt (1898 + i)) = true := by decide +kernel
set_option maxRecDepth 1000000 in
theorem lawD_18 : ((List.range 26).all fun i => lawAt (1924 + i)) = true := by decide +kernel
set_option maxRecDepth 1000000 in
theorem lawD_19 : ((List.range 26).all fun i => lawAt (1950 + i)) = true := by decide +kernel
set_option maxRecDepth 1000000 in
theorem lawD_20 : ((List.range 26).all fun i => lawAt (1976 + i)) = true := by decide +kernel
