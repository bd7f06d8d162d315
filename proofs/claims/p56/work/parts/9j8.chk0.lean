/-! the checks of all entries (written by wip/whole/gen_chk.py) -/
set_option maxRecDepth 1000000 in
theorem chk_u0 : hk (u_ws (pmCN 0) (pmT 0) (pmN 0)) [3144, 3146] = true := by decide +kernel
set_option maxRecDepth 1000000 in
theorem chk_u1 : hk (u_ws (pmCN 1) (pmT 1) (pmN 1)) [3208, 3210, 3212, 3214, 3216, 3218, 3220, 3222, 3224, 3226] = true := by decide +kernel
set_option maxRecDepth 1000000 in
theorem chk_u2 : hk (u_ws (pmCN 2) (pmT 2) (pmN 2)) [3129, 3131, 3133] = true := by decide +kernel
set_option maxRecDepth 1000000 in
theorem chk_u3 : hk (u_ws (pmCN 3) (pmT 3) (pmN 3)) [4030, 4032] = true := by decide +kernel
set_option maxRecDepth 1000000 in
theorem chk_u4 : hk (u_ws (pmCN 4) (pmT 4) (pmN 4)) [4005, 4007, 4009, 4011, 4013, 4015, 4017] = true := by decide +kernel
set_option maxRecDepth 1000000 in
theorem chk_u5 : hk (u_ws (pmCN 5) (pmT 5) (pmN 5)) [3176, 3178, 3180, 3182, 3184, 3186, 3188, 3190] = true := by decide +kernel
set_option maxRecDepth 1000000 in
theorem chk_u6 : hk (u_ws (pmCN 6) (pmT 6) (pmN 6)) [3085, 3087, 3089, 3091, 3093, 3095, 3097, 3099, 3101, 3103, 3105, 3107, 3109, 3111, 3113] = true := by decide +kernel
set_option maxRecDepth 1000000 in
theorem chk_u7 : hk (u_ws (pmCN 7) (pmT 7) (pmN 7)) [3157, 3159] = true := by decide +kernel
set_option maxRecDepth 1000000 in
theorem chk_u8 : hk (u_ws (pmCN 8) (pmT 8) (pmN 8)) [4048, 4050, 4052, 4054, 4056, 4058, 4060, 4062, 4064, 4066, 4068, 4070, 4072] = true := by decide +kernel
set_option maxRecDepth 1000000 in
theorem chk_u9 : hk (u_ws (pmCN 9) (pmT 9) (pmN 9)) [2003, 2005, 6043, 6045] = true := by decide +kernel
set_option maxRecDepth 1000000 in
theorem chk_u10 : hk (u_ws (pmCN 10) (pmT 10) (pmN 10)) [5084, 5086, 5088, 5090] = true := by decide +kernel
theorem chk_u : ∀ c, c < 11 → ∀ w ∈ u_ws (pmCN c) (pmT c) (pmN c), w ∈ pmTB := by
  intro c hc
  rcases (show c = 0 ∨ c = 1 ∨ c = 2 ∨ c = 3 ∨ c = 4 ∨ c = 5 ∨ c = 6 ∨ c = 7 ∨ c = 8 ∨ c = 9 ∨ c = 10 by omega) with rfl | rfl | rfl | rfl | rfl | rfl | rfl | rfl | rfl | rfl | rfl
  · exact hk_ok chk_u0
  · exact hk_ok chk_u1
  · exact hk_ok chk_u2
  · exact hk_ok chk_u3
  · exact hk_ok chk_u4
  · exact hk_ok chk_u5
  · exact hk_ok chk_u6
  · exact hk_ok chk_u7
  · exact hk_ok chk_u8
  · exact hk_ok chk_u9
  · exact hk_ok chk_u10
set_option maxRecDepth 1000000 in
theorem chk_x0 : (List.range 6).all (fun k => (vxT (pmXn k) pmUp).all (fun w => !(vx_no w) || !(goodWord w) || inTabs w)) = true := by decide +kernel
theorem chk_x : ∀ k, k < 6 → ∀ w ∈ vxT (pmXn k) pmUp, vx_no w = true → goodWord w = true → w ∈ pmTB := by
  intro k hk w hw h1 h2
  have h3 := List.all_eq_true.mp (List.all_eq_true.mp chk_x0 k (List.mem_range.mpr hk)) w hw
  rw [h1, h2] at h3
  exact List.mem_filter.mpr ⟨inTabs_ok h3, h2⟩
