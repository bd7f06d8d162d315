/-! the check of the law, together -/
theorem lawC_at {q : Nat} (h : q < 2912) : lawAt q = true := by
  by_cases h0 : q < 208
  · have := List.all_eq_true.mp lawC_0 (q - 0) (List.mem_range.mpr (by omega))
    rw [show 0 + (q - 0) = q by omega] at this
    exact this
  by_cases h1 : q < 416
  · have := List.all_eq_true.mp lawC_1 (q - 208) (List.mem_range.mpr (by omega))
    rw [show 208 + (q - 208) = q by omega] at this
    exact this
  by_cases h2 : q < 624
  · have := List.all_eq_true.mp lawC_2 (q - 416) (List.mem_range.mpr (by omega))
    rw [show 416 + (q - 416) = q by omega] at this
    exact this
  by_cases h3 : q < 832
  · have := List.all_eq_true.mp lawC_3 (q - 624) (List.mem_range.mpr (by omega))
    rw [show 624 + (q - 624) = q by omega] at this
    exact this
  by_cases h4 : q < 1040
  · have := List.all_eq_true.mp lawC_4 (q - 832) (List.mem_range.mpr (by omega))
    rw [show 832 + (q - 832) = q by omega] at this
    exact this
  by_cases h5 : q < 1248
  · have := List.all_eq_true.mp lawC_5 (q - 1040) (List.mem_range.mpr (by omega))
    rw [show 1040 + (q - 1040) = q by omega] at this
    exact this
  by_cases h6 : q < 1456
  · have := List.all_eq_true.mp lawC_6 (q - 1248) (List.mem_range.mpr (by omega))
    rw [show 1248 + (q - 1248) = q by omega] at this
    exact this
  by_cases h7 : q < 1664
  · have := List.all_eq_true.mp lawC_7 (q - 1456) (List.mem_range.mpr (by omega))
    rw [show 1456 + (q - 1456) = q by omega] at this
    exact this
  by_cases h8 : q < 1872
  · have := List.all_eq_true.mp lawC_8 (q - 1664) (List.mem_range.mpr (by omega))
    rw [show 1664 + (q - 1664) = q by omega] at this
    exact this
  by_cases h9 : q < 2080
  · have := List.all_eq_true.mp lawC_9 (q - 1872) (List.mem_range.mpr (by omega))
    rw [show 1872 + (q - 1872) = q by omega] at this
    exact this
  by_cases h10 : q < 2288
  · have := List.all_eq_true.mp lawC_10 (q - 2080) (List.mem_range.mpr (by omega))
    rw [show 2080 + (q - 2080) = q by omega] at this
    exact this
  by_cases h11 : q < 2496
  · have := List.all_eq_true.mp lawC_11 (q - 2288) (List.mem_range.mpr (by omega))
    rw [show 2288 + (q - 2288) = q by omega] at this
    exact this
  by_cases h12 : q < 2704
  · have := List.all_eq_true.mp lawC_12 (q - 2496) (List.mem_range.mpr (by omega))
    rw [show 2496 + (q - 2496) = q by omega] at this
    exact this
  by_cases h13 : q < 2912
  · have := List.all_eq_true.mp lawC_13 (q - 2704) (List.mem_range.mpr (by omega))
    rw [show 2704 + (q - 2704) = q by omega] at this
    exact this
  omega
theorem lawC : chkC pgN Pg 350 2912 hcL_law = true := List.all_eq_true.mpr (fun q hq => lawC_at (List.mem_range.mp hq))
set_option maxRecDepth 1000000 in
theorem mL_law : pmMOk pgN Pg pmTB 350 := mok_of (size := 2912) (hint := hcL_law) (hh := []) chk_u chk_x lawC (fun q h => if_neg (Nat.not_lt.mpr h)) (by decide +kernel)
