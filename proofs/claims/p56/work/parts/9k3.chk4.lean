/-! the checks of all entries (written by wip/whole/gen_chk.py) -/
def hcL_cell (q : Nat) : List Nat × List Nat := if q < 33 then (if q = 0 then ([3037], []) else ([], [])) else (if q = 33 then ([3038], []) else ([], []))
set_option maxRecDepth 1000000 in
theorem mL_cell : pmMOk pgN Pg pmTB 9 := mok_of (size := 44) (hint := hcL_cell) (hh := []) chk_u chk_x (by decide +kernel) (fun q h => if_neg (Nat.not_lt.mpr h)) (by decide +kernel)
def hcL_in (q : Nat) : List Nat × List Nat := if q < 5 then (if q = 2 then ([3034, 3035, 1000, 3036], []) else ([], [])) else (if q = 5 then ([3039], []) else ([], []))
set_option maxRecDepth 1000000 in
theorem mL_in : pmMOk pgN Pg pmTB 10 := mok_of (size := 11) (hint := hcL_in) (hh := []) chk_u chk_x (by decide +kernel) (fun q h => if_neg (Nat.not_lt.mpr h)) (by decide +kernel)
def hcL_addProp (q : Nat) : List Nat × List Nat := if q < 8 then (if q = 3 then ([4078, 4079, 4080, 1001, 4081], []) else ([], [])) else (if q < 12 then (if q = 8 then ([2043], []) else ([], [])) else (if q = 12 then ([2044], []) else ([], [])))
set_option maxRecDepth 1000000 in
theorem mL_addProp : pmMOk pgN Pg pmTB 27 := mok_of (size := 15) (hint := hcL_addProp) (hh := [1214, 2008]) chk_u chk_x (by decide +kernel) (fun q h => if_neg (Nat.not_lt.mpr h)) (by decide +kernel)
def hcL_addDancer (q : Nat) : List Nat × List Nat := if q < 15 then (if q < 10 then (if q = 4 then ([2009, 2010, 2011, 1001, 2012], []) else ([], [])) else (if q = 10 then ([2043], []) else ([], []))) else (if q < 20 then (if q = 15 then ([2044], []) else ([], [])) else (if q = 20 then ([2045], []) else ([], [])))
set_option maxRecDepth 1000000 in
theorem mL_addDancer : pmMOk pgN Pg pmTB 32 := mok_of (size := 23) (hint := hcL_addDancer) (hh := [1214, 2007, 2008]) chk_u chk_x (by decide +kernel) (fun q h => if_neg (Nat.not_lt.mpr h)) (by decide +kernel)
def hcL_pair (q : Nat) : List Nat × List Nat := if q < 12 then (if q < 8 then (if q = 3 then ([4103, 4104, 4105, 1001, 4106], []) else ([], [])) else (if q = 8 then ([2043], []) else ([], []))) else (if q < 16 then (if q = 12 then ([2044], []) else ([], [])) else (if q = 16 then ([2045], []) else ([], [])))
set_option maxRecDepth 1000000 in
theorem mL_pair : pmMOk pgN Pg pmTB 40 := mok_of (size := 19) (hint := hcL_pair) (hh := [2049, 2007, 2008]) chk_u chk_x (by decide +kernel) (fun q h => if_neg (Nat.not_lt.mpr h)) (by decide +kernel)
def hcL_addMove (q : Nat) : List Nat × List Nat := if q < 12 then (if q < 8 then (if q = 3 then ([4164, 4165, 4166, 1001, 4167], []) else ([], [])) else (if q = 8 then ([2043], []) else ([], []))) else (if q < 16 then (if q = 12 then ([2044], []) else ([], [])) else (if q = 16 then ([2045], []) else ([], [])))
set_option maxRecDepth 1000000 in
theorem mL_addMove : pmMOk pgN Pg pmTB 52 := mok_of (size := 19) (hint := hcL_addMove) (hh := [1214, 2007, 2008]) chk_u chk_x (by decide +kernel) (fun q h => if_neg (Nat.not_lt.mpr h)) (by decide +kernel)
def hcL_addExit (q : Nat) : List Nat × List Nat := if q < 8 then (if q = 3 then ([4186, 4187, 4188, 1001, 4189], []) else ([], [])) else (if q < 12 then (if q = 8 then ([2043], []) else ([], [])) else (if q = 12 then ([2044], []) else ([], [])))
set_option maxRecDepth 1000000 in
theorem mL_addExit : pmMOk pgN Pg pmTB 57 := mok_of (size := 15) (hint := hcL_addExit) (hh := [1214, 2008]) chk_u chk_x (by decide +kernel) (fun q h => if_neg (Nat.not_lt.mpr h)) (by decide +kernel)
def hcL_dancerByNails (q : Nat) : List Nat × List Nat := if q < 7 then (if q = 2 then ([4233, 4234, 4235, 1001, 4236], []) else ([], [])) else (if q = 7 then ([2043], []) else ([], []))
set_option maxRecDepth 1000000 in
theorem mL_dancerByNails : pmMOk pgN Pg pmTB 63 := mok_of (size := 10) (hint := hcL_dancerByNails) (hh := [2049]) chk_u chk_x (by decide +kernel) (fun q h => if_neg (Nat.not_lt.mpr h)) (by decide +kernel)
def hcL_partner (q : Nat) : List Nat × List Nat := if q < 7 then (if q = 2 then ([6227, 6228, 6229, 1001, 6230], []) else ([], [])) else (if q = 7 then ([2043], []) else ([], []))
set_option maxRecDepth 1000000 in
theorem mL_partner : pmMOk pgN Pg pmTB 69 := mok_of (size := 10) (hint := hcL_partner) (hh := [2049]) chk_u chk_x (by decide +kernel) (fun q h => if_neg (Nat.not_lt.mpr h)) (by decide +kernel)
def hcL_on (q : Nat) : List Nat × List Nat := if q < 20 then (if q < 12 then (if q = 4 then ([4226, 4227, 4228, 1001, 4229], []) else ([], [])) else (if q = 12 then ([4230, 4231, 1000, 4232], []) else ([], []))) else (if q < 30 then (if q = 20 then ([6213, 6214, 6215, 1001, 6216], []) else ([], [])) else (if q = 30 then ([6206, 6207, 6208, 1001, 6209], []) else ([], [])))
set_option maxRecDepth 1000000 in
theorem mL_on : pmMOk pgN Pg pmTB 71 := mok_of (size := 48) (hint := hcL_on) (hh := []) chk_u chk_x (by decide +kernel) (fun q h => if_neg (Nat.not_lt.mpr h)) (by decide +kernel)
def hcL_isProp (q : Nat) : List Nat × List Nat := if q = 3 then ([7019, 7020, 7021, 1001, 7022], []) else ([], [])
set_option maxRecDepth 1000000 in
theorem mL_isProp : pmMOk pgN Pg pmTB 76 := mok_of (size := 15) (hint := hcL_isProp) (hh := []) chk_u chk_x (by decide +kernel) (fun q h => if_neg (Nat.not_lt.mpr h)) (by decide +kernel)
def hcL_distance (q : Nat) : List Nat × List Nat := if q < 10 then (if q = 4 then ([2140, 2141, 2142, 1001, 2143], []) else ([], [])) else (if q < 15 then (if q = 10 then ([2043], []) else ([], [])) else (if q = 15 then ([2044], []) else ([], [])))
set_option maxRecDepth 1000000 in
theorem mL_distance : pmMOk pgN Pg pmTB 84 := mok_of (size := 18) (hint := hcL_distance) (hh := [2049, 1214]) chk_u chk_x (by decide +kernel) (fun q h => if_neg (Nat.not_lt.mpr h)) (by decide +kernel)
def hcL_exitCost (q : Nat) : List Nat × List Nat := if q < 6 then (if q = 1 then ([2200, 2201, 2202, 1001, 2203], []) else ([], [])) else (if q = 6 then ([2043], []) else ([], []))
set_option maxRecDepth 1000000 in
theorem mL_exitCost : pmMOk pgN Pg pmTB 115 := mok_of (size := 9) (hint := hcL_exitCost) (hh := [2049]) chk_u chk_x (by decide +kernel) (fun q h => if_neg (Nat.not_lt.mpr h)) (by decide +kernel)
def hcL_exitCostByPotentials (q : Nat) : List Nat × List Nat := if q < 6 then (if q = 1 then ([7138, 7139, 7140, 1001, 7141], []) else ([], [])) else (if q = 6 then ([2043], []) else ([], []))
set_option maxRecDepth 1000000 in
theorem mL_exitCostByPotentials : pmMOk pgN Pg pmTB 123 := mok_of (size := 9) (hint := hcL_exitCostByPotentials) (hh := [2049]) chk_u chk_x (by decide +kernel) (fun q h => if_neg (Nat.not_lt.mpr h)) (by decide +kernel)
def hcL_exitDistance (q : Nat) : List Nat × List Nat := if q < 8 then (if q = 3 then ([6234, 6235, 6236, 1001, 6237], []) else ([], [])) else (if q < 12 then (if q = 8 then ([2043], []) else ([], [])) else (if q = 12 then ([2044], []) else ([], [])))
set_option maxRecDepth 1000000 in
theorem mL_exitDistance : pmMOk pgN Pg pmTB 133 := mok_of (size := 15) (hint := hcL_exitDistance) (hh := [2049, 1214]) chk_u chk_x (by decide +kernel) (fun q h => if_neg (Nat.not_lt.mpr h)) (by decide +kernel)
def hcL_removeProp (q : Nat) : List Nat × List Nat := if q < 8 then (if q = 3 then ([4209, 4210, 4211, 1001, 4212], []) else ([], [])) else (if q < 12 then (if q = 8 then ([2043], []) else ([], [])) else (if q = 12 then ([2044], []) else ([], [])))
set_option maxRecDepth 1000000 in
theorem mL_removeProp : pmMOk pgN Pg pmTB 145 := mok_of (size := 15) (hint := hcL_removeProp) (hh := [1214, 2008]) chk_u chk_x (by decide +kernel) (fun q h => if_neg (Nat.not_lt.mpr h)) (by decide +kernel)
def hcL_dancer (q : Nat) : List Nat × List Nat := if q < 16 then (if q = 1 then ([4226, 4227, 4228, 1001, 4229], []) else ([], [])) else (if q < 20 then (if q = 16 then ([4226, 4227, 4228, 1001, 4229], []) else ([], [])) else (if q = 20 then ([4230, 4231, 1000, 4232], []) else ([], [])))
set_option maxRecDepth 1000000 in
theorem mL_dancer : pmMOk pgN Pg pmTB 146 := mok_of (size := 28) (hint := hcL_dancer) (hh := []) chk_u chk_x (by decide +kernel) (fun q h => if_neg (Nat.not_lt.mpr h)) (by decide +kernel)
def hcL_removeDancer (q : Nat) : List Nat × List Nat := if q < 7 then (if q = 2 then ([5008, 5009, 5010, 1001, 5011], []) else ([], [])) else (if q = 7 then ([2043], []) else ([], []))
set_option maxRecDepth 1000000 in
theorem mL_removeDancer : pmMOk pgN Pg pmTB 150 := mok_of (size := 10) (hint := hcL_removeDancer) (hh := [2049]) chk_u chk_x (by decide +kernel) (fun q h => if_neg (Nat.not_lt.mpr h)) (by decide +kernel)
def hcL_unpair (q : Nat) : List Nat × List Nat := if q < 7 then (if q = 2 then ([5023, 5024, 5025, 1001, 5026], []) else ([], [])) else (if q < 11 then (if q = 7 then ([2043], []) else ([], [])) else (if q = 11 then ([2044], []) else ([], [])))
set_option maxRecDepth 1000000 in
theorem mL_unpair : pmMOk pgN Pg pmTB 153 := mok_of (size := 14) (hint := hcL_unpair) (hh := [2049, 2008]) chk_u chk_x (by decide +kernel) (fun q h => if_neg (Nat.not_lt.mpr h)) (by decide +kernel)
def hcL_clearFigure (q : Nat) : List Nat × List Nat := if q < 7 then (if q = 2 then ([5036, 5037, 5038, 1001, 5039], []) else ([], [])) else (if q = 7 then ([2043], []) else ([], []))
set_option maxRecDepth 1000000 in
theorem mL_clearFigure : pmMOk pgN Pg pmTB 156 := mok_of (size := 10) (hint := hcL_clearFigure) (hh := [1214]) chk_u chk_x (by decide +kernel) (fun q h => if_neg (Nat.not_lt.mpr h)) (by decide +kernel)
def hcL_perform (q : Nat) : List Nat × List Nat := if q < 12 then (if q < 8 then (if q = 3 then ([2070, 2071, 2072, 1001, 2073], []) else ([], [])) else (if q = 8 then ([2043], []) else ([], []))) else (if q < 16 then (if q = 12 then ([2044], []) else ([], [])) else (if q = 16 then ([2045], []) else ([], [])))
set_option maxRecDepth 1000000 in
theorem mL_perform : pmMOk pgN Pg pmTB 165 := mok_of (size := 19) (hint := hcL_perform) (hh := [1214, 2049, 2069]) chk_u chk_x (by decide +kernel) (fun q h => if_neg (Nat.not_lt.mpr h)) (by decide +kernel)
def hcL_walk (q : Nat) : List Nat × List Nat := if q < 15 then (if q < 10 then (if q = 4 then ([2168, 2169, 2170, 1001, 2171], []) else ([], [])) else (if q = 10 then ([2043], []) else ([], []))) else (if q < 20 then (if q = 15 then ([2044], []) else ([], [])) else (if q < 25 then (if q = 20 then ([2045], []) else ([], [])) else (if q = 25 then ([2181], []) else ([], []))))
set_option maxRecDepth 1000000 in
theorem mL_walk : pmMOk pgN Pg pmTB 169 := mok_of (size := 28) (hint := hcL_walk) (hh := [2049, 1214, 2069, 2008]) chk_u chk_x (by decide +kernel) (fun q h => if_neg (Nat.not_lt.mpr h)) (by decide +kernel)
def hcL_renewNails (q : Nat) : List Nat × List Nat := if q < 7 then (if q = 2 then ([2050, 2051, 2052, 1001, 2053], []) else ([], [])) else (if q = 7 then ([2043], []) else ([], []))
set_option maxRecDepth 1000000 in
theorem mL_renewNails : pmMOk pgN Pg pmTB 172 := mok_of (size := 10) (hint := hcL_renewNails) (hh := [2049]) chk_u chk_x (by decide +kernel) (fun q h => if_neg (Nat.not_lt.mpr h)) (by decide +kernel)
def hcL_removeExit (q : Nat) : List Nat × List Nat := if q < 7 then (if q = 2 then ([2185, 2186, 2187, 1001, 2188], []) else ([], [])) else (if q = 7 then ([2043], []) else ([], []))
set_option maxRecDepth 1000000 in
theorem mL_removeExit : pmMOk pgN Pg pmTB 175 := mok_of (size := 10) (hint := hcL_removeExit) (hh := [1214]) chk_u chk_x (by decide +kernel) (fun q h => if_neg (Nat.not_lt.mpr h)) (by decide +kernel)
def hcL_leaveAll (q : Nat) : List Nat × List Nat := if q < 6 then (if q = 1 then ([5047, 5048, 5049, 1001, 5050], []) else ([], [])) else (if q < 10 then (if q = 6 then ([2043], []) else ([], [])) else (if q = 10 then ([2044], []) else ([], [])))
set_option maxRecDepth 1000000 in
theorem mL_leaveAll : pmMOk pgN Pg pmTB 179 := mok_of (size := 13) (hint := hcL_leaveAll) (hh := [2008, 2069]) chk_u chk_x (by decide +kernel) (fun q h => if_neg (Nat.not_lt.mpr h)) (by decide +kernel)
def hcL_run (q : Nat) : List Nat × List Nat := if q < 6 then (if q = 1 then ([6072, 6073, 6074, 1001, 6075], []) else ([], [])) else (if q < 10 then (if q = 6 then ([2043], []) else ([], [])) else (if q = 10 then ([2044], []) else ([], [])))
set_option maxRecDepth 1000000 in
theorem mL_run : pmMOk pgN Pg pmTB 230 := mok_of (size := 13) (hint := hcL_run) (hh := [2007, 2069]) chk_u chk_x (by decide +kernel) (fun q h => if_neg (Nat.not_lt.mpr h)) (by decide +kernel)
def hcL_does (q : Nat) : List Nat × List Nat := if q < 19 then (if q < 16 then (if q = 6 then ([6059, 5157, 5158, 1015, 5159], []) else ([], [])) else (if q = 16 then ([4121, 4122, 4123, 1015, 4124], []) else ([], []))) else (if q < 34 then (if q = 19 then ([6060, 6061, 6062, 1001, 6063], []) else ([], [])) else (if q < 40 then (if q = 34 then ([6068], []) else ([], [])) else (if q = 40 then ([6069, 6070, 1000, 6071], []) else ([], []))))
set_option maxRecDepth 1000000 in
theorem mL_does : pmMOk pgN Pg pmTB 231 := mok_of (size := 44) (hint := hcL_does) (hh := []) chk_u chk_x (by decide +kernel) (fun q h => if_neg (Nat.not_lt.mpr h)) (by decide +kernel)
def hcL_areAlike (q : Nat) : List Nat × List Nat := ([], [])
set_option maxRecDepth 1000000 in
theorem mL_areAlike : pmMOk pgN Pg pmTB 233 := mok_of (size := 27) (hint := hcL_areAlike) (hh := []) chk_u chk_x (by decide +kernel) (fun q h => if_neg (Nat.not_lt.mpr h)) (by decide +kernel)
def hcL_undo (q : Nat) : List Nat × List Nat := if q < 6 then (if q = 1 then ([3016, 3017, 3018, 1001, 3019], []) else ([], [])) else (if q = 6 then ([2043], []) else ([], []))
set_option maxRecDepth 1000000 in
theorem mL_undo : pmMOk pgN Pg pmTB 236 := mok_of (size := 9) (hint := hcL_undo) (hh := [2008]) chk_u chk_x (by decide +kernel) (fun q h => if_neg (Nat.not_lt.mpr h)) (by decide +kernel)
def hcL_blockedBeat (q : Nat) : List Nat × List Nat := if q < 8 then (if q = 3 then ([2133, 2134, 2135, 1001, 2136], []) else ([], [])) else (if q < 12 then (if q = 8 then ([2043], []) else ([], [])) else (if q = 12 then ([2044], []) else ([], [])))
set_option maxRecDepth 1000000 in
theorem mL_blockedBeat : pmMOk pgN Pg pmTB 239 := mok_of (size := 15) (hint := hcL_blockedBeat) (hh := [1214, 2049]) chk_u chk_x (by decide +kernel) (fun q h => if_neg (Nat.not_lt.mpr h)) (by decide +kernel)
def hcL_exitOf (q : Nat) : List Nat × List Nat := if q < 7 then (if q = 2 then ([2237, 2238, 2239, 1001, 3000], []) else ([], [])) else (if q = 7 then ([2043], []) else ([], []))
set_option maxRecDepth 1000000 in
theorem mL_exitOf : pmMOk pgN Pg pmTB 245 := mok_of (size := 10) (hint := hcL_exitOf) (hh := [2049]) chk_u chk_x (by decide +kernel) (fun q h => if_neg (Nat.not_lt.mpr h)) (by decide +kernel)
def hcL_restore (q : Nat) : List Nat × List Nat := if q < 6 then (if q = 1 then ([3027, 3028, 3029, 1001, 3030], []) else ([], [])) else (if q = 6 then ([2043], []) else ([], []))
set_option maxRecDepth 1000000 in
theorem mL_restore : pmMOk pgN Pg pmTB 247 := mok_of (size := 9) (hint := hcL_restore) (hh := [2008]) chk_u chk_x (by decide +kernel) (fun q h => if_neg (Nat.not_lt.mpr h)) (by decide +kernel)
