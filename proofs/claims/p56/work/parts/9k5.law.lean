/-! the check of the law: the call of acts, its bytes by their name -/
def hcL_law (q : Nat) : List Nat × List Nat := if q < 142 then (if q < 71 then (if q < 45 then (if q < 27 then (if q < 10 then (if q = 1 then ([3040, 3041, 1000, 3042], []) else ([], [])) else (if q = 10 then ([7028, 7029, 1000, 7030], []) else ([], []))) else (if q < 39 then (if q = 27 then ([6171, 6172, 1000, 6173], []) else ([], [])) else (if q = 39 then ([4203, 4204, 1000, 4205], []) else ([], [])))) else (if q < 60 then (if q < 53 then (if q = 45 then ([7028, 7029, 1000, 7030], []) else ([], [])) else (if q = 53 then ([6068], []) else ([], []))) else (if q < 68 then (if q = 60 then ([7187], []) else ([], [])) else (if q = 68 then ([6171, 6172, 1000, 6173], []) else ([], []))))) else (if q < 108 then (if q < 93 then (if q < 81 then (if q = 71 then ([7025, 7026, 1000, 7027], []) else ([], [])) else (if q = 81 then ([7187], []) else ([], []))) else (if q < 100 then (if q = 93 then ([3031, 3032, 1000, 3033], []) else ([], [])) else (if q = 100 then ([3013, 3014, 1000, 3015], []) else ([], [])))) else (if q < 126 then (if q < 111 then (if q = 108 then ([6171, 6172, 1000, 6173], []) else ([], [])) else (if q = 111 then ([7025, 7026, 1000, 7027], []) else ([], []))) else (if q < 131 then (if q = 126 then ([6171, 6172, 1000, 6173], []) else ([], [])) else (if q < 136 then (if q = 131 then ([1200, 1201, 1202, 1001, 1203], []) else ([], [])) else (if q = 136 then ([2197, 2198, 1000, 2199], []) else ([], []))))))) else (if q < 204 then (if q < 172 then (if q < 158 then (if q < 152 then (if q = 142 then ([2130, 2131, 1000, 2132], []) else ([], [])) else (if q = 152 then ([2137, 2138, 1000, 2139], []) else ([], []))) else (if q < 164 then (if q = 158 then ([1035, 1036, 1037, 1001, 1038], []) else ([], [])) else (if q = 164 then ([2234, 2235, 1000, 2236], []) else ([], [])))) else (if q < 189 then (if q < 175 then (if q = 172 then ([6171, 6172, 1000, 6173], []) else ([], [])) else (if q = 175 then ([7025, 7026, 1000, 7027], []) else ([], []))) else (if q < 194 then (if q = 189 then ([2165, 2166, 1000, 2167], []) else ([], [])) else (if q = 194 then ([2046, 2047, 1000, 2048], []) else ([], []))))) else (if q < 232 then (if q < 217 then (if q < 211 then (if q = 204 then ([1211, 1212, 1000, 1213], []) else ([], [])) else (if q = 211 then ([2066, 2067, 1000, 2068], []) else ([], []))) else (if q < 226 then (if q = 217 then ([2182, 2183, 1000, 2184], []) else ([], [])) else (if q = 226 then ([4202], []) else ([], [])))) else (if q < 244 then (if q < 241 then (if q = 232 then ([3024, 3025, 1000, 3026], []) else ([], [])) else (if q = 241 then ([6171, 6172, 1000, 6173], []) else ([], []))) else (if q < 251 then (if q = 244 then ([7025, 7026, 1000, 7027], []) else ([], [])) else (if q < 254 then (if q = 251 then ([3013, 3014, 1000, 3015], []) else ([], [])) else (if q = 254 then ([2043], []) else ([], [])))))))
def lawAt (q : Nat) : Bool := match pmCo (Pg 248) q with | none => true | some e => chkE pgN Pg 248 q e (hcL_law q).1 (hcL_law q).2
theorem hk_c {w : Cond} {ws : List Cond} {h : Nat} {hs : List Nat} (h1 : (tabP (h / 1000))[h % 1000]? = some w) (h2 : goodWord w = true) (h3 : hk ws hs = true) : hk (w :: ws) (h :: hs) = true := by
  unfold hk
  rw [decide_eq_true h1, h2, h3]
  rfl
theorem an_t {a b : Bool} (h1 : a = true) (h2 : b = true) : (a && b) = true := by
  rw [h1, h2]
  rfl
set_option maxRecDepth 1000000 in
theorem lawS_1 : lawAt 1 = true := by
  show chkE pgN Pg 248 1 (.invokestatic 319, 3, 0, 58) [3040, 3041, 1000, 3042] [] = true
  unfold chkE
  refine an_t (an_t (an_t (an_t (an_t (an_t (an_t (an_t (an_t ?_ ?_) ?_) ?_) ?_) ?_) ?_) ?_) ?_) ?_
  · decide +kernel
  · decide +kernel
  · exact hk_c rfl rfl (hk_c rfl rfl (hk_c rfl rfl (hk_c rfl rfl (rfl))))
  · decide +kernel
  · decide +kernel
  · decide +kernel
  · decide +kernel
  · decide +kernel
  · decide +kernel
  · decide +kernel
set_option maxRecDepth 1000000 in
theorem lawS_10 : lawAt 10 = true := by
  show chkE pgN Pg 248 10 (.invokestatic 323, 3, 0, 129) [7028, 7029, 1000, 7030] [] = true
  unfold chkE
  refine an_t (an_t (an_t (an_t (an_t (an_t (an_t (an_t (an_t ?_ ?_) ?_) ?_) ?_) ?_) ?_) ?_) ?_) ?_
  · decide +kernel
  · decide +kernel
  · exact hk_c rfl rfl (hk_c rfl rfl (hk_c rfl rfl (hk_c rfl rfl (rfl))))
  · decide +kernel
  · decide +kernel
  · decide +kernel
  · decide +kernel
  · decide +kernel
  · decide +kernel
  · decide +kernel
set_option maxRecDepth 1000000 in
theorem lawS_27 : lawAt 27 = true := by
  show chkE pgN Pg 248 27 (.invokestatic 327, 3, 0, 141) [6171, 6172, 1000, 6173] [] = true
  unfold chkE
  refine an_t (an_t (an_t (an_t (an_t (an_t (an_t (an_t (an_t ?_ ?_) ?_) ?_) ?_) ?_) ?_) ?_) ?_) ?_
  · decide +kernel
  · decide +kernel
  · exact hk_c rfl rfl (hk_c rfl rfl (hk_c rfl rfl (hk_c rfl rfl (rfl))))
  · decide +kernel
  · decide +kernel
  · decide +kernel
  · decide +kernel
  · decide +kernel
  · decide +kernel
  · decide +kernel
set_option maxRecDepth 1000000 in
theorem lawS_39 : lawAt 39 = true := by
  show chkE pgN Pg 248 39 (.invokestatic 331, 3, 0, 232) [4203, 4204, 1000, 4205] [] = true
  unfold chkE
  refine an_t (an_t (an_t (an_t (an_t (an_t (an_t (an_t (an_t ?_ ?_) ?_) ?_) ?_) ?_) ?_) ?_) ?_) ?_
  · decide +kernel
  · decide +kernel
  · exact hk_c rfl rfl (hk_c rfl rfl (hk_c rfl rfl (hk_c rfl rfl (rfl))))
  · decide +kernel
  · decide +kernel
  · decide +kernel
  · decide +kernel
  · decide +kernel
  · decide +kernel
  · decide +kernel
set_option maxRecDepth 1000000 in
theorem lawS_45 : lawAt 45 = true := by
  show chkE pgN Pg 248 45 (.invokestatic 323, 3, 0, 129) [7028, 7029, 1000, 7030] [] = true
  unfold chkE
  refine an_t (an_t (an_t (an_t (an_t (an_t (an_t (an_t (an_t ?_ ?_) ?_) ?_) ?_) ?_) ?_) ?_) ?_) ?_
  · decide +kernel
  · decide +kernel
  · exact hk_c rfl rfl (hk_c rfl rfl (hk_c rfl rfl (hk_c rfl rfl (rfl))))
  · decide +kernel
  · decide +kernel
  · decide +kernel
  · decide +kernel
  · decide +kernel
  · decide +kernel
  · decide +kernel
set_option maxRecDepth 1000000 in
theorem lawS_68 : lawAt 68 = true := by
  show chkE pgN Pg 248 68 (.invokestatic 327, 3, 0, 141) [6171, 6172, 1000, 6173] [] = true
  unfold chkE
  refine an_t (an_t (an_t (an_t (an_t (an_t (an_t (an_t (an_t ?_ ?_) ?_) ?_) ?_) ?_) ?_) ?_) ?_) ?_
  · decide +kernel
  · decide +kernel
  · exact hk_c rfl rfl (hk_c rfl rfl (hk_c rfl rfl (hk_c rfl rfl (rfl))))
  · decide +kernel
  · decide +kernel
  · decide +kernel
  · decide +kernel
  · decide +kernel
  · decide +kernel
  · decide +kernel
set_option maxRecDepth 1000000 in
theorem lawS_108 : lawAt 108 = true := by
  show chkE pgN Pg 248 108 (.invokestatic 327, 3, 0, 141) [6171, 6172, 1000, 6173] [] = true
  unfold chkE
  refine an_t (an_t (an_t (an_t (an_t (an_t (an_t (an_t (an_t ?_ ?_) ?_) ?_) ?_) ?_) ?_) ?_) ?_) ?_
  · decide +kernel
  · decide +kernel
  · exact hk_c rfl rfl (hk_c rfl rfl (hk_c rfl rfl (hk_c rfl rfl (rfl))))
  · decide +kernel
  · decide +kernel
  · decide +kernel
  · decide +kernel
  · decide +kernel
  · decide +kernel
  · decide +kernel
set_option maxRecDepth 1000000 in
theorem lawS_126 : lawAt 126 = true := by
  show chkE pgN Pg 248 126 (.invokestatic 327, 3, 0, 141) [6171, 6172, 1000, 6173] [] = true
  unfold chkE
  refine an_t (an_t (an_t (an_t (an_t (an_t (an_t (an_t (an_t ?_ ?_) ?_) ?_) ?_) ?_) ?_) ?_) ?_) ?_
  · decide +kernel
  · decide +kernel
  · exact hk_c rfl rfl (hk_c rfl rfl (hk_c rfl rfl (hk_c rfl rfl (rfl))))
  · decide +kernel
  · decide +kernel
  · decide +kernel
  · decide +kernel
  · decide +kernel
  · decide +kernel
  · decide +kernel
set_option maxRecDepth 1000000 in
theorem lawS_172 : lawAt 172 = true := by
  show chkE pgN Pg 248 172 (.invokestatic 327, 3, 0, 141) [6171, 6172, 1000, 6173] [] = true
  unfold chkE
  refine an_t (an_t (an_t (an_t (an_t (an_t (an_t (an_t (an_t ?_ ?_) ?_) ?_) ?_) ?_) ?_) ?_) ?_) ?_
  · decide +kernel
  · decide +kernel
  · exact hk_c rfl rfl (hk_c rfl rfl (hk_c rfl rfl (hk_c rfl rfl (rfl))))
  · decide +kernel
  · decide +kernel
  · decide +kernel
  · decide +kernel
  · decide +kernel
  · decide +kernel
  · decide +kernel
set_option maxRecDepth 1000000 in
theorem lawS_241 : lawAt 241 = true := by
  show chkE pgN Pg 248 241 (.invokestatic 327, 3, 0, 141) [6171, 6172, 1000, 6173] [] = true
  unfold chkE
  refine an_t (an_t (an_t (an_t (an_t (an_t (an_t (an_t (an_t ?_ ?_) ?_) ?_) ?_) ?_) ?_) ?_) ?_) ?_
  · decide +kernel
  · decide +kernel
  · exact hk_c rfl rfl (hk_c rfl rfl (hk_c rfl rfl (hk_c rfl rfl (rfl))))
  · decide +kernel
  · decide +kernel
  · decide +kernel
  · decide +kernel
  · decide +kernel
  · decide +kernel
  · decide +kernel
def lawSp : List Nat := [1, 10, 27, 39, 45, 68, 108, 126, 172, 241]
set_option maxRecDepth 1000000 in
theorem lawC_r : ((List.range 265).all fun q => lawSp.contains q || lawAt q) = true := by decide +kernel
theorem lawC_at {q : Nat} (h : q < 265) : lawAt q = true := by
  have h1 := List.all_eq_true.mp lawC_r q (List.mem_range.mpr h)
  rcases (Bool.or_eq_true _ _).mp h1 with h2 | h2
  · have h3 : q ∈ lawSp := List.contains_iff_mem.mp h2
    unfold lawSp at h3
    simp only [List.mem_cons, List.not_mem_nil, or_false] at h3
    rcases h3 with rfl | rfl | rfl | rfl | rfl | rfl | rfl | rfl | rfl | rfl
    · exact lawS_1
    · exact lawS_10
    · exact lawS_27
    · exact lawS_39
    · exact lawS_45
    · exact lawS_68
    · exact lawS_108
    · exact lawS_126
    · exact lawS_172
    · exact lawS_241
  · exact h2
