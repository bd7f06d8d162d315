/-! the check of the law, by blocks -/
set_option maxRecDepth 1000000 in
theorem lawD_49 : ((List.range 26).all fun i => lawAt (2730 + i)) = true := by decide +kernel
set_option maxRecDepth 1000000 in
theorem lawD_50 : ((List.range 26).all fun i => lawAt (2756 + i)) = true := by decide +kernel
set_option maxRecDepth 1000000 in
theorem lawD_51 : ((List.range 26).all fun i => lawAt (2782 + i)) = true := by decide +kernel
set_option maxRecDepth 1000000 in
theorem lawD_52 : ((List.range 26).all fun i => lawAt (2808 + i)) = true := by decide +kernel
set_option maxRecDepth 1000000 in
theorem lawD_53 : ((List.range 26).all fun i => lawAt (2834 + i)) = true := by decide +kernel
set_option maxRecDepth 1000000 in
theorem lawD_54 : ((List.range 26).all fun i => lawAt (2860 + i)) = true := by decide +kernel
set_option maxRecDepth 1000000 in
theorem lawD_55 : ((List.range 26).all fun i => lawAt (2886 + i)) = true := by decide +kernel
