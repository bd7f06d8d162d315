/-! the check of the law, by blocks -/
set_option maxRecDepth 1000000 in
theorem lawD_42 : ((List.range 26).all fun i => lawAt (2548 + i)) = true := by decide +kernel
set_option maxRecDepth 1000000 in
theorem lawD_43 : ((List.range 26).all fun i => lawAt (2574 + i)) = true := by decide +kernel
set_option maxRecDepth 1000000 in
theorem lawD_44 : ((List.range 26).all fun i => lawAt (2600 + i)) = true := by decide +kernel
set_option maxRecDepth 1000000 in
theorem lawD_45 : ((List.range 26).all fun i => lawAt (2626 + i)) = true := by decide +kernel
set_option maxRecDepth 1000000 in
theorem lawD_46 : ((List.range 26).all fun i => lawAt (2652 + i)) = true := by decide +kernel
set_option maxRecDepth 1000000 in
theorem lawD_47 : ((List.range 26).all fun i => lawAt (2678 + i)) = true := by decide +kernel
set_option maxRecDepth 1000000 in
theorem lawD_48 : ((List.range 26).all fun i => lawAt (2704 + i)) = true := by decide +kernel
