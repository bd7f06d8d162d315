/-! the check of the law, together -/
theorem lawC_all : chkC pgN Pg 248 265 hcL_law = true := List.all_eq_true.mpr fun q hq => lawC_at (List.mem_range.mp hq)
set_option maxRecDepth 1000000 in
theorem mL_law : pmMOk pgN Pg pmTB 248 := mok_of (size := 265) (hint := hcL_law) (hh := []) chk_u chk_x lawC_all (fun q h => if_neg (Nat.not_lt.mpr h)) (by decide +kernel)
