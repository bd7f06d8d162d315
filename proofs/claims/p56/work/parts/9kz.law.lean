/-! the check of the law, together -/
theorem lawC_at {q : Nat} (h : q < 265) : lawAt q = true := by
  by_cases h0 : q < 20
  · have := List.all_eq_true.mp lawC_0 (q - 0) (List.mem_range.mpr (by omega))
    rw [show 0 + (q - 0) = q by omega] at this
    exact this
  by_cases h1 : q < 40
  · have := List.all_eq_true.mp lawC_1 (q - 20) (List.mem_range.mpr (by omega))
    rw [show 20 + (q - 20) = q by omega] at this
    exact this
  by_cases h2 : q < 60
  · have := List.all_eq_true.mp lawC_2 (q - 40) (List.mem_range.mpr (by omega))
    rw [show 40 + (q - 40) = q by omega] at this
    exact this
  by_cases h3 : q < 80
  · have := List.all_eq_true.mp lawC_3 (q - 60) (List.mem_range.mpr (by omega))
    rw [show 60 + (q - 60) = q by omega] at this
    exact this
  by_cases h4 : q < 100
  · have := List.all_eq_true.mp lawC_4 (q - 80) (List.mem_range.mpr (by omega))
    rw [show 80 + (q - 80) = q by omega] at this
    exact this
  by_cases h5 : q < 120
  · have := List.all_eq_true.mp lawC_5 (q - 100) (List.mem_range.mpr (by omega))
    rw [show 100 + (q - 100) = q by omega] at this
    exact this
  by_cases h6 : q < 140
  · have := List.all_eq_true.mp lawC_6 (q - 120) (List.mem_range.mpr (by omega))
    rw [show 120 + (q - 120) = q by omega] at this
    exact this
  by_cases h7 : q < 160
  · have := List.all_eq_true.mp lawC_7 (q - 140) (List.mem_range.mpr (by omega))
    rw [show 140 + (q - 140) = q by omega] at this
    exact this
  by_cases h8 : q < 180
  · have := List.all_eq_true.mp lawC_8 (q - 160) (List.mem_range.mpr (by omega))
    rw [show 160 + (q - 160) = q by omega] at this
    exact this
  by_cases h9 : q < 200
  · have := List.all_eq_true.mp lawC_9 (q - 180) (List.mem_range.mpr (by omega))
    rw [show 180 + (q - 180) = q by omega] at this
    exact this
  by_cases h10 : q < 220
  · have := List.all_eq_true.mp lawC_10 (q - 200) (List.mem_range.mpr (by omega))
    rw [show 200 + (q - 200) = q by omega] at this
    exact this
  by_cases h11 : q < 240
  · have := List.all_eq_true.mp lawC_11 (q - 220) (List.mem_range.mpr (by omega))
    rw [show 220 + (q - 220) = q by omega] at this
    exact this
  by_cases h12 : q < 260
  · have := List.all_eq_true.mp lawC_12 (q - 240) (List.mem_range.mpr (by omega))
    rw [show 240 + (q - 240) = q by omega] at this
    exact this
  have := List.all_eq_true.mp lawC_13 (q - 260) (List.mem_range.mpr (by omega))
  rw [show 260 + (q - 260) = q by omega] at this
  exact this
theorem lawC_all : chkC pgN Pg 248 265 hcL_law = true := List.all_eq_true.mpr fun q hq => lawC_at (List.mem_range.mp hq)
set_option maxRecDepth 1000000 in
theorem mL_law : pmMOk pgN Pg pmTB 248 := mok_of (size := 265) (hint := hcL_law) (hh := []) chk_u chk_x lawC_all (fun q h => if_neg (Nat.not_lt.mpr h)) (by decide +kernel)
