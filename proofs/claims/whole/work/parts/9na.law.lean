/-! the check of the law, together -/
theorem lawC_at {q : Nat} (h : q < 2912) : lawAt q = true := by
  by_cases h0 : q < 208
  · have := List.all_eq_true.mp lawC_0 (q - 0) (List.mem_range.mpr (by omega))
    rw [show 0 + (q - 0) = q by omega] at this
    exact this
  by_cases h1 : q < 416
  · have := List.all_eq_true.mp lawC_1 (q - 208) (List.mem_range.mpr (by omega))
    rw [show 208 + (q - 208) = q by omega] at this
    exact this
  by_cases h2 : q < 624
  · have := List.all_eq_true.mp lawC_2 (q - 416) (List.mem_range.mpr (by omega))
    rw [show 416 + (q - 416) = q by omega] at this
    exact this
  by_cases h3 : q < 832
  · have := List.all_eq_true.mp lawC_3 (q - 624) (List.mem_range.mpr (by omega))
    rw [show 624 + (q - 624) = q by omega] at this
    exact this
  by_cases h4 : q < 1040
  · have := List.all_eq_true.mp lawC_4 (q - 832) (List.mem_range.mpr (by omega))
    rw [show 832 + (q - 832) = q by omega] at this
    exact this
  by_cases h5 : q < 1248
  · have := List.all_eq_true.mp lawC_5 (q - 1040) (List.mem_range.mpr (by omega))
    rw [show 1040 + (q - 1040) = q by omega] at this
    exact this
  by_cases h6 : q < 1456
  · have := List.all_eq_true.mp lawC_6 (q - 1248) (List.mem_range.mpr (by omega))
    rw [show 1248 + (q - 1248) = q by omega] at this
    exact this
  by_cases d0 : q < 1482
  · have := List.all_eq_true.mp lawD_0 (q - 1456) (List.mem_range.mpr (by omega))
    rw [show 1456 + (q - 1456) = q by omega] at this
    exact this
  by_cases d1 : q < 1508
  · have := List.all_eq_true.mp lawD_1 (q - 1482) (List.mem_range.mpr (by omega))
    rw [show 1482 + (q - 1482) = q by omega] at this
    exact this
  by_cases d2 : q < 1534
  · have := List.all_eq_true.mp lawD_2 (q - 1508) (List.mem_range.mpr (by omega))
    rw [show 1508 + (q - 1508) = q by omega] at this
    exact this
  by_cases d3 : q < 1560
  · have := List.all_eq_true.mp lawD_3 (q - 1534) (List.mem_range.mpr (by omega))
    rw [show 1534 + (q - 1534) = q by omega] at this
    exact this
  by_cases d4 : q < 1586
  · have := List.all_eq_true.mp lawD_4 (q - 1560) (List.mem_range.mpr (by omega))
    rw [show 1560 + (q - 1560) = q by omega] at this
    exact this
  by_cases d5 : q < 1612
  · have := List.all_eq_true.mp lawD_5 (q - 1586) (List.mem_range.mpr (by omega))
    rw [show 1586 + (q - 1586) = q by omega] at this
    exact this
  by_cases d6 : q < 1638
  · have := List.all_eq_true.mp lawD_6 (q - 1612) (List.mem_range.mpr (by omega))
    rw [show 1612 + (q - 1612) = q by omega] at this
    exact this
  by_cases d7 : q < 1664
  · have := List.all_eq_true.mp lawD_7 (q - 1638) (List.mem_range.mpr (by omega))
    rw [show 1638 + (q - 1638) = q by omega] at this
    exact this
  by_cases d8 : q < 1690
  · have := List.all_eq_true.mp lawD_8 (q - 1664) (List.mem_range.mpr (by omega))
    rw [show 1664 + (q - 1664) = q by omega] at this
    exact this
  by_cases d9 : q < 1716
  · have := List.all_eq_true.mp lawD_9 (q - 1690) (List.mem_range.mpr (by omega))
    rw [show 1690 + (q - 1690) = q by omega] at this
    exact this
  by_cases d10 : q < 1742
  · have := List.all_eq_true.mp lawD_10 (q - 1716) (List.mem_range.mpr (by omega))
    rw [show 1716 + (q - 1716) = q by omega] at this
    exact this
  by_cases d11 : q < 1768
  · have := List.all_eq_true.mp lawD_11 (q - 1742) (List.mem_range.mpr (by omega))
    rw [show 1742 + (q - 1742) = q by omega] at this
    exact this
  by_cases d12 : q < 1794
  · have := List.all_eq_true.mp lawD_12 (q - 1768) (List.mem_range.mpr (by omega))
    rw [show 1768 + (q - 1768) = q by omega] at this
    exact this
  by_cases d13 : q < 1820
  · have := List.all_eq_true.mp lawD_13 (q - 1794) (List.mem_range.mpr (by omega))
    rw [show 1794 + (q - 1794) = q by omega] at this
    exact this
  by_cases d14 : q < 1846
  · have := List.all_eq_true.mp lawD_14 (q - 1820) (List.mem_range.mpr (by omega))
    rw [show 1820 + (q - 1820) = q by omega] at this
    exact this
  by_cases d15 : q < 1872
  · have := List.all_eq_true.mp lawD_15 (q - 1846) (List.mem_range.mpr (by omega))
    rw [show 1846 + (q - 1846) = q by omega] at this
    exact this
  by_cases d16 : q < 1898
  · have := List.all_eq_true.mp lawD_16 (q - 1872) (List.mem_range.mpr (by omega))
    rw [show 1872 + (q - 1872) = q by omega] at this
    exact this
  by_cases d17 : q < 1924
  · have := List.all_eq_true.mp lawD_17 (q - 1898) (List.mem_range.mpr (by omega))
    rw [show 1898 + (q - 1898) = q by omega] at this
    exact this
  by_cases d18 : q < 1950
  · have := List.all_eq_true.mp lawD_18 (q - 1924) (List.mem_range.mpr (by omega))
    rw [show 1924 + (q - 1924) = q by omega] at this
    exact this
  by_cases d19 : q < 1976
  · have := List.all_eq_true.mp lawD_19 (q - 1950) (List.mem_range.mpr (by omega))
    rw [show 1950 + (q - 1950) = q by omega] at this
    exact this
  by_cases d20 : q < 2002
  · have := List.all_eq_true.mp lawD_20 (q - 1976) (List.mem_range.mpr (by omega))
    rw [show 1976 + (q - 1976) = q by omega] at this
    exact this
  by_cases d21 : q < 2028
  · have := List.all_eq_true.mp lawD_21 (q - 2002) (List.mem_range.mpr (by omega))
    rw [show 2002 + (q - 2002) = q by omega] at this
    exact this
  by_cases d22 : q < 2054
  · have := List.all_eq_true.mp lawD_22 (q - 2028) (List.mem_range.mpr (by omega))
    rw [show 2028 + (q - 2028) = q by omega] at this
    exact this
  by_cases d23 : q < 2080
  · have := List.all_eq_true.mp lawD_23 (q - 2054) (List.mem_range.mpr (by omega))
    rw [show 2054 + (q - 2054) = q by omega] at this
    exact this
  by_cases d24 : q < 2106
  · have := List.all_eq_true.mp lawD_24 (q - 2080) (List.mem_range.mpr (by omega))
    rw [show 2080 + (q - 2080) = q by omega] at this
    exact this
  by_cases d25 : q < 2132
  · have := List.all_eq_true.mp lawD_25 (q - 2106) (List.mem_range.mpr (by omega))
    rw [show 2106 + (q - 2106) = q by omega] at this
    exact this
  by_cases d26 : q < 2158
  · have := List.all_eq_true.mp lawD_26 (q - 2132) (List.mem_range.mpr (by omega))
    rw [show 2132 + (q - 2132) = q by omega] at this
    exact this
  by_cases d27 : q < 2184
  · have := List.all_eq_true.mp lawD_27 (q - 2158) (List.mem_range.mpr (by omega))
    rw [show 2158 + (q - 2158) = q by omega] at this
    exact this
  by_cases d28 : q < 2210
  · have := List.all_eq_true.mp lawD_28 (q - 2184) (List.mem_range.mpr (by omega))
    rw [show 2184 + (q - 2184) = q by omega] at this
    exact this
  by_cases d29 : q < 2236
  · have := List.all_eq_true.mp lawD_29 (q - 2210) (List.mem_range.mpr (by omega))
    rw [show 2210 + (q - 2210) = q by omega] at this
    exact this
  by_cases d30 : q < 2262
  · have := List.all_eq_true.mp lawD_30 (q - 2236) (List.mem_range.mpr (by omega))
    rw [show 2236 + (q - 2236) = q by omega] at this
    exact this
  by_cases d31 : q < 2288
  · have := List.all_eq_true.mp lawD_31 (q - 2262) (List.mem_range.mpr (by omega))
    rw [show 2262 + (q - 2262) = q by omega] at this
    exact this
  by_cases d32 : q < 2314
  · have := List.all_eq_true.mp lawD_32 (q - 2288) (List.mem_range.mpr (by omega))
    rw [show 2288 + (q - 2288) = q by omega] at this
    exact this
  by_cases d33 : q < 2340
  · have := List.all_eq_true.mp lawD_33 (q - 2314) (List.mem_range.mpr (by omega))
    rw [show 2314 + (q - 2314) = q by omega] at this
    exact this
  by_cases d34 : q < 2366
  · have := List.all_eq_true.mp lawD_34 (q - 2340) (List.mem_range.mpr (by omega))
    rw [show 2340 + (q - 2340) = q by omega] at this
    exact this
  by_cases d35 : q < 2392
  · have := List.all_eq_true.mp lawD_35 (q - 2366) (List.mem_range.mpr (by omega))
    rw [show 2366 + (q - 2366) = q by omega] at this
    exact this
  by_cases d36 : q < 2418
  · have := List.all_eq_true.mp lawD_36 (q - 2392) (List.mem_range.mpr (by omega))
    rw [show 2392 + (q - 2392) = q by omega] at this
    exact this
  by_cases d37 : q < 2444
  · have := List.all_eq_true.mp lawD_37 (q - 2418) (List.mem_range.mpr (by omega))
    rw [show 2418 + (q - 2418) = q by omega] at this
    exact this
  by_cases d38 : q < 2470
  · have := List.all_eq_true.mp lawD_38 (q - 2444) (List.mem_range.mpr (by omega))
    rw [show 2444 + (q - 2444) = q by omega] at this
    exact this
  by_cases d39 : q < 2496
  · have := List.all_eq_true.mp lawD_39 (q - 2470) (List.mem_range.mpr (by omega))
    rw [show 2470 + (q - 2470) = q by omega] at this
    exact this
  by_cases d40 : q < 2522
  · have := List.all_eq_true.mp lawD_40 (q - 2496) (List.mem_range.mpr (by omega))
    rw [show 2496 + (q - 2496) = q by omega] at this
    exact this
  by_cases d41 : q < 2548
  · have := List.all_eq_true.mp lawD_41 (q - 2522) (List.mem_range.mpr (by omega))
    rw [show 2522 + (q - 2522) = q by omega] at this
    exact this
  by_cases d42 : q < 2574
  · have := List.all_eq_true.mp lawD_42 (q - 2548) (List.mem_range.mpr (by omega))
    rw [show 2548 + (q - 2548) = q by omega] at this
    exact this
  by_cases d43 : q < 2600
  · have := List.all_eq_true.mp lawD_43 (q - 2574) (List.mem_range.mpr (by omega))
    rw [show 2574 + (q - 2574) = q by omega] at this
    exact this
  by_cases d44 : q < 2626
  · have := List.all_eq_true.mp lawD_44 (q - 2600) (List.mem_range.mpr (by omega))
    rw [show 2600 + (q - 2600) = q by omega] at this
    exact this
  by_cases d45 : q < 2652
  · have := List.all_eq_true.mp lawD_45 (q - 2626) (List.mem_range.mpr (by omega))
    rw [show 2626 + (q - 2626) = q by omega] at this
    exact this
  by_cases d46 : q < 2678
  · have := List.all_eq_true.mp lawD_46 (q - 2652) (List.mem_range.mpr (by omega))
    rw [show 2652 + (q - 2652) = q by omega] at this
    exact this
  by_cases d47 : q < 2704
  · have := List.all_eq_true.mp lawD_47 (q - 2678) (List.mem_range.mpr (by omega))
    rw [show 2678 + (q - 2678) = q by omega] at this
    exact this
  by_cases d48 : q < 2730
  · have := List.all_eq_true.mp lawD_48 (q - 2704) (List.mem_range.mpr (by omega))
    rw [show 2704 + (q - 2704) = q by omega] at this
    exact this
  by_cases d49 : q < 2756
  · have := List.all_eq_true.mp lawD_49 (q - 2730) (List.mem_range.mpr (by omega))
    rw [show 2730 + (q - 2730) = q by omega] at this
    exact this
  by_cases d50 : q < 2782
  · have := List.all_eq_true.mp lawD_50 (q - 2756) (List.mem_range.mpr (by omega))
    rw [show 2756 + (q - 2756) = q by omega] at this
    exact this
  by_cases d51 : q < 2808
  · have := List.all_eq_true.mp lawD_51 (q - 2782) (List.mem_range.mpr (by omega))
    rw [show 2782 + (q - 2782) = q by omega] at this
    exact this
  by_cases d52 : q < 2834
  · have := List.all_eq_true.mp lawD_52 (q - 2808) (List.mem_range.mpr (by omega))
    rw [show 2808 + (q - 2808) = q by omega] at this
    exact this
  by_cases d53 : q < 2860
  · have := List.all_eq_true.mp lawD_53 (q - 2834) (List.mem_range.mpr (by omega))
    rw [show 2834 + (q - 2834) = q by omega] at this
    exact this
  by_cases d54 : q < 2886
  · have := List.all_eq_true.mp lawD_54 (q - 2860) (List.mem_range.mpr (by omega))
    rw [show 2860 + (q - 2860) = q by omega] at this
    exact this
  by_cases d55 : q < 2912
  · have := List.all_eq_true.mp lawD_55 (q - 2886) (List.mem_range.mpr (by omega))
    rw [show 2886 + (q - 2886) = q by omega] at this
    exact this
  omega
theorem lawC : chkC pgN Pg 350 2912 hcL_law = true := List.all_eq_true.mpr (fun q hq => lawC_at (List.mem_range.mp hq))
set_option maxRecDepth 1000000 in
theorem mL_law : pmMOk pgN Pg pmTB 350 := mok_of (size := 2912) (hint := hcL_law) (hh := []) chk_u chk_x lawC (fun q h => if_neg (Nat.not_lt.mpr h)) (by decide +kernel)
