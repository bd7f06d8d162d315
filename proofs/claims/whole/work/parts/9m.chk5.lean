/-! the checks of all entries (written by wip/whole/gen_chk.py) -/
def hcL_addProp (q : Nat) : List Nat × List Nat := if q = 5 then ([3066, 3067, 3068, 1001, 3069], []) else ([], [])
set_option maxRecDepth 1000000 in
theorem mL_addProp : pmMOk pgN Pg pmTB 26 := mok_of (size := 23) (hint := hcL_addProp) (hh := [2225, 3065]) chk_u chk_x (by decide +kernel) (fun q h => if_neg (Nat.not_lt.mpr h)) (by decide +kernel)
def hcL_removeProp (q : Nat) : List Nat × List Nat := if q = 5 then ([3191, 3192, 3193, 1001, 3194], []) else ([], [])
set_option maxRecDepth 1000000 in
theorem mL_removeProp : pmMOk pgN Pg pmTB 43 := mok_of (size := 23) (hint := hcL_removeProp) (hh := [2225, 3065]) chk_u chk_x (by decide +kernel) (fun q h => if_neg (Nat.not_lt.mpr h)) (by decide +kernel)
def hcL_isFree (q : Nat) : List Nat × List Nat := if q = 5 then ([3207, 3208, 3209, 1001, 3210], []) else ([], [])
set_option maxRecDepth 1000000 in
theorem mL_isFree : pmMOk pgN Pg pmTB 47 := mok_of (size := 26) (hint := hcL_isFree) (hh := [2225]) chk_u chk_x (by decide +kernel) (fun q h => if_neg (Nat.not_lt.mpr h)) (by decide +kernel)
def hcL_areaSize (q : Nat) : List Nat × List Nat := if q = 5 then ([3214, 3215, 3216, 1001, 3217], []) else ([], [])
set_option maxRecDepth 1000000 in
theorem mL_areaSize : pmMOk pgN Pg pmTB 68 := mok_of (size := 19) (hint := hcL_areaSize) (hh := [2225]) chk_u chk_x (by decide +kernel) (fun q h => if_neg (Nat.not_lt.mpr h)) (by decide +kernel)
def hcL_addDancer (q : Nat) : List Nat × List Nat := if q = 7 then ([3224, 3225, 3226, 1001, 3227], []) else ([], [])
set_option maxRecDepth 1000000 in
theorem mL_addDancer : pmMOk pgN Pg pmTB 73 := mok_of (size := 29) (hint := hcL_addDancer) (hh := [2225, 3223, 3065]) chk_u chk_x (by decide +kernel) (fun q h => if_neg (Nat.not_lt.mpr h)) (by decide +kernel)
def hcL_removeDancer (q : Nat) : List Nat × List Nat := if q = 4 then ([4001, 4002, 4003, 1001, 4004], []) else ([], [])
set_option maxRecDepth 1000000 in
theorem mL_removeDancer : pmMOk pgN Pg pmTB 82 := mok_of (size := 17) (hint := hcL_removeDancer) (hh := [4000]) chk_u chk_x (by decide +kernel) (fun q h => if_neg (Nat.not_lt.mpr h)) (by decide +kernel)
def hcL_pair (q : Nat) : List Nat × List Nat := if q = 5 then ([4020, 4021, 4022, 1001, 4023], []) else ([], [])
set_option maxRecDepth 1000000 in
theorem mL_pair : pmMOk pgN Pg pmTB 93 := mok_of (size := 27) (hint := hcL_pair) (hh := [4000, 3223, 3065]) chk_u chk_x (by decide +kernel) (fun q h => if_neg (Nat.not_lt.mpr h)) (by decide +kernel)
def hcL_unpair (q : Nat) : List Nat × List Nat := if q = 4 then ([4040, 4041, 4042, 1001, 4043], []) else ([], [])
set_option maxRecDepth 1000000 in
theorem mL_unpair : pmMOk pgN Pg pmTB 98 := mok_of (size := 20) (hint := hcL_unpair) (hh := [4000, 3065]) chk_u chk_x (by decide +kernel) (fun q h => if_neg (Nat.not_lt.mpr h)) (by decide +kernel)
def hcL_renewNails (q : Nat) : List Nat × List Nat := if q = 4 then ([4052, 4053, 4054, 1001, 4055], []) else ([], [])
set_option maxRecDepth 1000000 in
theorem mL_renewNails : pmMOk pgN Pg pmTB 102 := mok_of (size := 17) (hint := hcL_renewNails) (hh := [4000]) chk_u chk_x (by decide +kernel) (fun q h => if_neg (Nat.not_lt.mpr h)) (by decide +kernel)
def hcL_column (q : Nat) : List Nat × List Nat := if q = 4 then ([4063, 4064, 4065, 1001, 4066], []) else ([], [])
set_option maxRecDepth 1000000 in
theorem mL_column : pmMOk pgN Pg pmTB 111 := mok_of (size := 17) (hint := hcL_column) (hh := [4000]) chk_u chk_x (by decide +kernel) (fun q h => if_neg (Nat.not_lt.mpr h)) (by decide +kernel)
def hcL_row (q : Nat) : List Nat × List Nat := if q = 4 then ([4070, 4071, 4072, 1001, 4073], []) else ([], [])
set_option maxRecDepth 1000000 in
theorem mL_row : pmMOk pgN Pg pmTB 115 := mok_of (size := 17) (hint := hcL_row) (hh := [4000]) chk_u chk_x (by decide +kernel) (fun q h => if_neg (Nat.not_lt.mpr h)) (by decide +kernel)
def hcL_nails (q : Nat) : List Nat × List Nat := if q = 4 then ([4077, 4078, 4079, 1001, 4080], []) else ([], [])
set_option maxRecDepth 1000000 in
theorem mL_nails : pmMOk pgN Pg pmTB 118 := mok_of (size := 17) (hint := hcL_nails) (hh := [4000]) chk_u chk_x (by decide +kernel) (fun q h => if_neg (Nat.not_lt.mpr h)) (by decide +kernel)
def hcL_partner (q : Nat) : List Nat × List Nat := if q = 4 then ([4084, 4085, 4086, 1001, 4087], []) else ([], [])
set_option maxRecDepth 1000000 in
theorem mL_partner : pmMOk pgN Pg pmTB 121 := mok_of (size := 17) (hint := hcL_partner) (hh := [4000]) chk_u chk_x (by decide +kernel) (fun q h => if_neg (Nat.not_lt.mpr h)) (by decide +kernel)
def hcL_dancerByNails (q : Nat) : List Nat × List Nat := if q = 4 then ([4091, 4092, 4093, 1001, 4094], []) else ([], [])
set_option maxRecDepth 1000000 in
theorem mL_dancerByNails : pmMOk pgN Pg pmTB 126 := mok_of (size := 17) (hint := hcL_dancerByNails) (hh := [4000]) chk_u chk_x (by decide +kernel) (fun q h => if_neg (Nat.not_lt.mpr h)) (by decide +kernel)
def hcL_addMove (q : Nat) : List Nat × List Nat := if q = 5 then ([4106, 4107, 4108, 1001, 4109], []) else ([], [])
set_option maxRecDepth 1000000 in
theorem mL_addMove : pmMOk pgN Pg pmTB 134 := mok_of (size := 27) (hint := hcL_addMove) (hh := [2225, 3223, 3065]) chk_u chk_x (by decide +kernel) (fun q h => if_neg (Nat.not_lt.mpr h)) (by decide +kernel)
def hcL_clearFigure (q : Nat) : List Nat × List Nat := if q = 4 then ([4130, 4131, 4132, 1001, 4133], []) else ([], [])
set_option maxRecDepth 1000000 in
theorem mL_clearFigure : pmMOk pgN Pg pmTB 142 := mok_of (size := 17) (hint := hcL_clearFigure) (hh := [2225]) chk_u chk_x (by decide +kernel) (fun q h => if_neg (Nat.not_lt.mpr h)) (by decide +kernel)
def hcL_figureLength (q : Nat) : List Nat × List Nat := if q = 4 then ([4141, 4142, 4143, 1001, 4144], []) else ([], [])
set_option maxRecDepth 1000000 in
theorem mL_figureLength : pmMOk pgN Pg pmTB 146 := mok_of (size := 17) (hint := hcL_figureLength) (hh := [2225]) chk_u chk_x (by decide +kernel) (fun q h => if_neg (Nat.not_lt.mpr h)) (by decide +kernel)
def hcL_perform (q : Nat) : List Nat × List Nat := if q = 5 then ([4149, 4150, 4151, 1001, 4152], []) else ([], [])
set_option maxRecDepth 1000000 in
theorem mL_perform : pmMOk pgN Pg pmTB 158 := mok_of (size := 27) (hint := hcL_perform) (hh := [2225, 4000, 4148]) chk_u chk_x (by decide +kernel) (fun q h => if_neg (Nat.not_lt.mpr h)) (by decide +kernel)
def hcL_blockedBeat (q : Nat) : List Nat × List Nat := if q = 5 then ([4196, 4197, 4198, 1001, 4199], []) else ([], [])
set_option maxRecDepth 1000000 in
theorem mL_blockedBeat : pmMOk pgN Pg pmTB 169 := mok_of (size := 23) (hint := hcL_blockedBeat) (hh := [2225, 4000]) chk_u chk_x (by decide +kernel) (fun q h => if_neg (Nat.not_lt.mpr h)) (by decide +kernel)
def hcL_distance (q : Nat) : List Nat × List Nat := if q = 7 then ([4203, 4204, 4205, 1001, 4206], []) else ([], [])
set_option maxRecDepth 1000000 in
theorem mL_distance : pmMOk pgN Pg pmTB 176 := mok_of (size := 25) (hint := hcL_distance) (hh := [4000, 2225]) chk_u chk_x (by decide +kernel) (fun q h => if_neg (Nat.not_lt.mpr h)) (by decide +kernel)
def hcL_distanceByRounds (q : Nat) : List Nat × List Nat := if q = 7 then ([4229, 4230, 4231, 1001, 4232], []) else ([], [])
set_option maxRecDepth 1000000 in
theorem mL_distanceByRounds : pmMOk pgN Pg pmTB 182 := mok_of (size := 25) (hint := hcL_distanceByRounds) (hh := [4000, 2225]) chk_u chk_x (by decide +kernel) (fun q h => if_neg (Nat.not_lt.mpr h)) (by decide +kernel)
def hcL_walk (q : Nat) : List Nat × List Nat := if q = 7 then ([5004, 5005, 5006, 1001, 5007], []) else ([], [])
set_option maxRecDepth 1000000 in
theorem mL_walk : pmMOk pgN Pg pmTB 187 := mok_of (size := 33) (hint := hcL_walk) (hh := [4000, 2225, 4148, 3065]) chk_u chk_x (by decide +kernel) (fun q h => if_neg (Nat.not_lt.mpr h)) (by decide +kernel)
def hcL_addExit (q : Nat) : List Nat × List Nat := if q = 5 then ([5020, 5021, 5022, 1001, 5023], []) else ([], [])
set_option maxRecDepth 1000000 in
theorem mL_addExit : pmMOk pgN Pg pmTB 194 := mok_of (size := 23) (hint := hcL_addExit) (hh := [2225, 3065]) chk_u chk_x (by decide +kernel) (fun q h => if_neg (Nat.not_lt.mpr h)) (by decide +kernel)
def hcL_removeExit (q : Nat) : List Nat × List Nat := if q = 4 then ([5039, 5040, 5041, 1001, 5042], []) else ([], [])
set_option maxRecDepth 1000000 in
theorem mL_removeExit : pmMOk pgN Pg pmTB 201 := mok_of (size := 17) (hint := hcL_removeExit) (hh := [2225]) chk_u chk_x (by decide +kernel) (fun q h => if_neg (Nat.not_lt.mpr h)) (by decide +kernel)
def hcL_exitDistance (q : Nat) : List Nat × List Nat := if q = 5 then ([5054, 5055, 5056, 1001, 5057], []) else ([], [])
set_option maxRecDepth 1000000 in
theorem mL_exitDistance : pmMOk pgN Pg pmTB 207 := mok_of (size := 23) (hint := hcL_exitDistance) (hh := [4000, 2225]) chk_u chk_x (by decide +kernel) (fun q h => if_neg (Nat.not_lt.mpr h)) (by decide +kernel)
def hcL_exitCost (q : Nat) : List Nat × List Nat := if q = 3 then ([5061, 5062, 5063, 1001, 5064], []) else ([], [])
set_option maxRecDepth 1000000 in
theorem mL_exitCost : pmMOk pgN Pg pmTB 216 := mok_of (size := 16) (hint := hcL_exitCost) (hh := [4000]) chk_u chk_x (by decide +kernel) (fun q h => if_neg (Nat.not_lt.mpr h)) (by decide +kernel)
def hcL_exitCostByPotentials (q : Nat) : List Nat × List Nat := if q = 3 then ([5097, 5098, 5099, 1001, 5100], []) else ([], [])
set_option maxRecDepth 1000000 in
theorem mL_exitCostByPotentials : pmMOk pgN Pg pmTB 227 := mok_of (size := 16) (hint := hcL_exitCostByPotentials) (hh := [4000]) chk_u chk_x (by decide +kernel) (fun q h => if_neg (Nat.not_lt.mpr h)) (by decide +kernel)
def hcL_exitOf (q : Nat) : List Nat × List Nat := if q = 4 then ([5130, 5131, 5132, 1001, 5133], []) else ([], [])
set_option maxRecDepth 1000000 in
theorem mL_exitOf : pmMOk pgN Pg pmTB 232 := mok_of (size := 17) (hint := hcL_exitOf) (hh := [4000]) chk_u chk_x (by decide +kernel) (fun q h => if_neg (Nat.not_lt.mpr h)) (by decide +kernel)
def hcL_leaveAll (q : Nat) : List Nat × List Nat := if q = 3 then ([5145, 5146, 5147, 1001, 5148], []) else ([], [])
set_option maxRecDepth 1000000 in
theorem mL_leaveAll : pmMOk pgN Pg pmTB 238 := mok_of (size := 19) (hint := hcL_leaveAll) (hh := [3065, 4148]) chk_u chk_x (by decide +kernel) (fun q h => if_neg (Nat.not_lt.mpr h)) (by decide +kernel)
def hcL_meanNails (q : Nat) : List Nat × List Nat := if q = 3 then ([5174, 5175, 5176, 1001, 5177], []) else ([], [])
set_option maxRecDepth 1000000 in
theorem mL_meanNails : pmMOk pgN Pg pmTB 253 := mok_of (size := 15) (hint := hcL_meanNails) (hh := [5160]) chk_u chk_x (by decide +kernel) (fun q h => if_neg (Nat.not_lt.mpr h)) (by decide +kernel)
def hcL_meanNailsBits (q : Nat) : List Nat × List Nat := if q = 3 then ([5187, 5188, 5189, 1001, 5190], []) else ([], [])
set_option maxRecDepth 1000000 in
theorem mL_meanNailsBits : pmMOk pgN Pg pmTB 257 := mok_of (size := 15) (hint := hcL_meanNailsBits) (hh := [5160]) chk_u chk_x (by decide +kernel) (fun q h => if_neg (Nat.not_lt.mpr h)) (by decide +kernel)
def hcL_pairedShare (q : Nat) : List Nat × List Nat := if q = 3 then ([5200, 5201, 5202, 1001, 5203], []) else ([], [])
set_option maxRecDepth 1000000 in
theorem mL_pairedShare : pmMOk pgN Pg pmTB 262 := mok_of (size := 16) (hint := hcL_pairedShare) (hh := [5160]) chk_u chk_x (by decide +kernel) (fun q h => if_neg (Nat.not_lt.mpr h)) (by decide +kernel)
def hcL_pairedShareBits (q : Nat) : List Nat × List Nat := if q = 3 then ([5207, 5208, 5209, 1001, 5210], []) else ([], [])
set_option maxRecDepth 1000000 in
theorem mL_pairedShareBits : pmMOk pgN Pg pmTB 267 := mok_of (size := 16) (hint := hcL_pairedShareBits) (hh := [5160]) chk_u chk_x (by decide +kernel) (fun q h => if_neg (Nat.not_lt.mpr h)) (by decide +kernel)
def hcL_writeRow (q : Nat) : List Nat × List Nat := if q = 4 then ([5219, 5220, 5221, 1001, 5222], []) else ([], [])
set_option maxRecDepth 1000000 in
theorem mL_writeRow : pmMOk pgN Pg pmTB 281 := mok_of (size := 17) (hint := hcL_writeRow) (hh := [2225]) chk_u chk_x (by decide +kernel) (fun q h => if_neg (Nat.not_lt.mpr h)) (by decide +kernel)
def hcL_writeFigure (q : Nat) : List Nat × List Nat := if q = 4 then ([5238, 5239, 6000, 1001, 6001], []) else ([], [])
set_option maxRecDepth 1000000 in
theorem mL_writeFigure : pmMOk pgN Pg pmTB 287 := mok_of (size := 17) (hint := hcL_writeFigure) (hh := [2225]) chk_u chk_x (by decide +kernel) (fun q h => if_neg (Nat.not_lt.mpr h)) (by decide +kernel)
def hcL_charAt (q : Nat) : List Nat × List Nat := if q = 4 then ([6014, 6015, 6016, 1001, 6017], []) else ([], [])
set_option maxRecDepth 1000000 in
theorem mL_charAt : pmMOk pgN Pg pmTB 291 := mok_of (size := 17) (hint := hcL_charAt) (hh := [2225]) chk_u chk_x (by decide +kernel) (fun q h => if_neg (Nat.not_lt.mpr h)) (by decide +kernel)
def hcL_type (q : Nat) : List Nat × List Nat := if q = 4 then ([6021, 6022, 6023, 1001, 6024], []) else ([], [])
set_option maxRecDepth 1000000 in
theorem mL_type : pmMOk pgN Pg pmTB 295 := mok_of (size := 17) (hint := hcL_type) (hh := [3065]) chk_u chk_x (by decide +kernel) (fun q h => if_neg (Nat.not_lt.mpr h)) (by decide +kernel)
def hcL_run (q : Nat) : List Nat × List Nat := if q = 3 then ([6032, 6033, 6034, 1001, 6035], []) else ([], [])
set_option maxRecDepth 1000000 in
theorem mL_run : pmMOk pgN Pg pmTB 320 := mok_of (size := 19) (hint := hcL_run) (hh := [3223, 4148]) chk_u chk_x (by decide +kernel) (fun q h => if_neg (Nat.not_lt.mpr h)) (by decide +kernel)
def hcL_errorPosition (q : Nat) : List Nat × List Nat := if q = 3 then ([6182, 6183, 6184, 1001, 6185], []) else ([], [])
set_option maxRecDepth 1000000 in
theorem mL_errorPosition : pmMOk pgN Pg pmTB 336 := mok_of (size := 16) (hint := hcL_errorPosition) (hh := [4000]) chk_u chk_x (by decide +kernel) (fun q h => if_neg (Nat.not_lt.mpr h)) (by decide +kernel)
def hcL_failedCommand (q : Nat) : List Nat × List Nat := if q = 3 then ([6189, 6190, 6191, 1001, 6192], []) else ([], [])
set_option maxRecDepth 1000000 in
theorem mL_failedCommand : pmMOk pgN Pg pmTB 339 := mok_of (size := 16) (hint := hcL_failedCommand) (hh := [4000]) chk_u chk_x (by decide +kernel) (fun q h => if_neg (Nat.not_lt.mpr h)) (by decide +kernel)
def hcL_undo (q : Nat) : List Nat × List Nat := if q = 3 then ([6196, 6197, 6198, 1001, 6199], []) else ([], [])
set_option maxRecDepth 1000000 in
theorem mL_undo : pmMOk pgN Pg pmTB 343 := mok_of (size := 16) (hint := hcL_undo) (hh := [3065]) chk_u chk_x (by decide +kernel) (fun q h => if_neg (Nat.not_lt.mpr h)) (by decide +kernel)
def hcL_restore (q : Nat) : List Nat × List Nat := if q = 3 then ([6207, 6208, 6209, 1001, 6210], []) else ([], [])
set_option maxRecDepth 1000000 in
theorem mL_restore : pmMOk pgN Pg pmTB 348 := mok_of (size := 16) (hint := hcL_restore) (hh := [3065]) chk_u chk_x (by decide +kernel) (fun q h => if_neg (Nat.not_lt.mpr h)) (by decide +kernel)
