/-! the check of the law, by blocks -/
set_option maxRecDepth 1000000 in
theorem lawD_35 : ((List.range 26).all fun i => lawAt (2366 + i)) = true := by decide +kernel
set_option maxRecDepth 1000000 in
theorem lawD_36 : ((List.range 26).all fun i => lawAt (2392 + i)) = true := by decide +kernel
set_option maxRecDepth 1000000 in
theorem lawD_37 : ((List.range 26).all fun i => lawAt (2418 + i)) = true := by decide +kernel
set_option maxRecDepth 1000000 in
theorem lawD_38 : ((List.range 26).all fun i => lawAt (2444 + i)) = true := by decide +kernel
set_option maxRecDepth 1000000 in
theorem lawD_39 : ((List.range 26).all fun i => lawAt (2470 + i)) = true := by decide +kernel
set_option maxRecDepth 1000000 in
theorem lawD_40 : ((List.range 26).all fun i => lawAt (2496 + i)) = true := by decide +kernel
set_option maxRecDepth 1000000 in
theorem lawD_41 : ((List.range 26).all fun i => lawAt (2522 + i)) = true := by decide +kernel
