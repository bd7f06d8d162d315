/-! the checks of all entries (written by wip/whole/gen_chk.py) -/
set_option maxRecDepth 1000000 in
theorem chk_u0 : hk (u_ws (pmCN 0) (pmT 0) (pmN 0)) [1137, 1139] = true := by decide +kernel
set_option maxRecDepth 1000000 in
theorem chk_u1 : hk (u_ws (pmCN 1) (pmT 1) (pmN 1)) [1203, 1205, 1207, 1209, 1211, 1213, 1215, 1217, 1219, 1221] = true := by decide +kernel
set_option maxRecDepth 1000000 in
theorem chk_u2 : hk (u_ws (pmCN 2) (pmT 2) (pmN 2)) [1122, 1124, 1126] = true := by decide +kernel
set_option maxRecDepth 1000000 in
theorem chk_u3 : hk (u_ws (pmCN 3) (pmT 3) (pmN 3)) [2026, 2028] = true := by decide +kernel
set_option maxRecDepth 1000000 in
theorem chk_u4 : hk (u_ws (pmCN 4) (pmT 4) (pmN 4)) [2000, 2002, 2004, 2006, 2008, 2010, 2012] = true := by decide +kernel
set_option maxRecDepth 1000000 in
theorem chk_u5 : hk (u_ws (pmCN 5) (pmT 5) (pmN 5)) [1170, 1172, 1174, 1176, 1178, 1180, 1182, 1184] = true := by decide +kernel
set_option maxRecDepth 1000000 in
theorem chk_u6 : hk (u_ws (pmCN 6) (pmT 6) (pmN 6)) [1077, 1079, 1081, 1083, 1085, 1087, 1089, 1091, 1093, 1095, 1097, 1099, 1101, 1103, 1105] = true := by decide +kernel
set_option maxRecDepth 1000000 in
theorem chk_u7 : hk (u_ws (pmCN 7) (pmT 7) (pmN 7)) [1150, 1152] = true := by decide +kernel
set_option maxRecDepth 1000000 in
theorem chk_u8 : hk (u_ws (pmCN 8) (pmT 8) (pmN 8)) [2044, 2046, 2048, 2050, 2052, 2054, 2056, 2058, 2060, 2062, 2064, 2066, 2068] = true := by decide +kernel
set_option maxRecDepth 1000000 in
theorem chk_u9 : hk (u_ws (pmCN 9) (pmT 9) (pmN 9)) [7001, 7003, 7005, 7007, 7009, 7011, 7013, 7015, 7017, 7019, 7021, 7023, 7025, 7027, 7029, 7031, 7033, 7035, 7037, 7039, 7041, 7043, 7045, 7047] = true := by decide +kernel
theorem chk_u : ∀ c, c < 10 → ∀ w ∈ u_ws (pmCN c) (pmT c) (pmN c), w ∈ pmTB := by
  intro c hc
  rcases (show c = 0 ∨ c = 1 ∨ c = 2 ∨ c = 3 ∨ c = 4 ∨ c = 5 ∨ c = 6 ∨ c = 7 ∨ c = 8 ∨ c = 9 by omega) with rfl | rfl | rfl | rfl | rfl | rfl | rfl | rfl | rfl | rfl
  · exact hk_ok chk_u0
  · exact hk_ok chk_u1
  · exact hk_ok chk_u2
  · exact hk_ok chk_u3
  · exact hk_ok chk_u4
  · exact hk_ok chk_u5
  · exact hk_ok chk_u6
  · exact hk_ok chk_u7
  · exact hk_ok chk_u8
  · exact hk_ok chk_u9
set_option maxRecDepth 1000000 in
theorem chk_x0 : (List.range 6).all (fun k => (vxT (pmXn k) pmUp).all (fun w => !(vx_no w) || !(goodWord w) || inTabs w)) = true := by decide +kernel
theorem chk_x : ∀ k, k < 6 → ∀ w ∈ vxT (pmXn k) pmUp, vx_no w = true → goodWord w = true → w ∈ pmTB := by
  intro k hk w hw h1 h2
  have h3 := List.all_eq_true.mp (List.all_eq_true.mp chk_x0 k (List.mem_range.mpr hk)) w hw
  rw [h1, h2] at h3
  exact List.mem_filter.mpr ⟨inTabs_ok h3, h2⟩
