/-! what stands at the law's entry: premises by their places (written by wip/whole/gen_start.py) -/
def FC : List Cond := flatC (Jvm.Cond.and given_1 narrow_1)
def hkF : List Cond → List Nat → Bool
  | [], _ => true
  | w :: ws, h :: hs => decide (FC[h]? = some w) && hkF ws hs
  | _ :: _, [] => false
theorem hkF_ok : ∀ {ws : List Cond} {hs : List Nat}, hkF ws hs = true → ∀ w ∈ ws, w ∈ FC
  | [], _, _, _, h => absurd h List.not_mem_nil
  | w :: ws, [], hh, _, _ => by cases hh
  | w :: ws, h :: hs, hh, v, hv => by
    unfold hkF at hh
    rw [Bool.and_eq_true, decide_eq_true_eq] at hh
    rcases List.mem_cons.mp hv with rfl | hv
    · exact List.mem_of_getElem? hh.1
    · exact hkF_ok hh.2 v hv
def hkT : List Cond → List Nat → Bool
  | [], _ => true
  | w :: ws, h :: hs => decide ((tabP (h / 1000))[h % 1000]? = some w) && hkT ws hs
  | _ :: _, [] => false
theorem hkT_ok : ∀ {ws : List Cond} {hs : List Nat}, hkT ws hs = true → ∀ w ∈ ws, w ∈ lw_tbl
  | [], _, _, _, h => absurd h List.not_mem_nil
  | w :: ws, [], hh, _, _ => by cases hh
  | w :: ws, h :: hs, hh, v, hv => by
    unfold hkT at hh
    rw [Bool.and_eq_true, decide_eq_true_eq] at hh
    rcases List.mem_cons.mp hv with rfl | hv
    · exact tabP_in (List.mem_of_getElem? hh.1)
    · exact hkT_ok hh.2 v hv
def stTm (k : Nat) : Term := .string (pmStT k).1 (pmStT k).2.1
def stVa (k : Nat) : Term := .field (stTm k) "java/lang/String" "value" "[B"
def stW (k : Nat) : List Cond := [.exactly (stTm k) "java/lang/String", .eq (.field (stTm k) "java/lang/String" "coder" "B") (.int 0), .arrayOf (stVa k) .byte, .eq (.length (stVa k)) (.int (Int32.ofNat (pmStB k).length))] ++ (List.range (pmStB k).length).map fun j => .eq (.elem (stVa k) (.int (Int32.ofNat j))) (.int ((pmStB k).getD j 0))
set_option maxRecDepth 100000 in
theorem stF_0 : hkF (stW 0) [114, 115, 116, 117, 118, 119, 120, 121, 122] = true := by decide +kernel
set_option maxRecDepth 100000 in
theorem stF_1 : hkF (stW 1) [123, 124, 125, 126, 127, 128, 129, 130, 131, 132, 133] = true := by decide +kernel
set_option maxRecDepth 100000 in
theorem stF_2 : hkF (stW 2) [134, 135, 136, 137, 138, 139, 140, 141, 142] = true := by decide +kernel
set_option maxRecDepth 100000 in
theorem stF_3 : hkF (stW 3) [143, 144, 145, 146, 147, 148, 149, 150, 151, 152, 153] = true := by decide +kernel
set_option maxRecDepth 100000 in
theorem stF_4 : hkF (stW 4) [154, 155, 156, 157, 158, 159, 160, 161, 162, 163, 164, 165] = true := by decide +kernel
set_option maxRecDepth 100000 in
theorem stF_5 : hkF (stW 5) [166, 167, 168, 169, 170, 171, 172, 173, 174] = true := by decide +kernel
set_option maxRecDepth 100000 in
theorem stF_6 : hkF (stW 6) [175, 176, 177, 178, 179, 180, 181, 182, 183] = true := by decide +kernel
set_option maxRecDepth 100000 in
theorem stF_7 : hkF (stW 7) [184, 185, 186, 187, 188, 189, 190, 191, 192, 193] = true := by decide +kernel
set_option maxRecDepth 100000 in
theorem stF_8 : hkF (stW 8) [194, 195, 196, 197, 198, 199, 200, 201, 202] = true := by decide +kernel
set_option maxRecDepth 100000 in
theorem stF_9 : hkF (stW 9) [203, 204, 205, 206, 207, 208] = true := by decide +kernel
set_option maxRecDepth 100000 in
theorem stF_10 : hkF (stW 10) [209, 210, 211, 212, 213, 214, 215, 216] = true := by decide +kernel
set_option maxRecDepth 100000 in
theorem stF_11 : hkF (stW 11) [217, 218, 219, 220, 221, 222, 223] = true := by decide +kernel
set_option maxRecDepth 100000 in
theorem stF_12 : hkF (stW 12) [224, 225, 226, 227, 228, 229, 230] = true := by decide +kernel
set_option maxRecDepth 100000 in
theorem stF_13 : hkF (stW 13) [231, 232, 233, 234, 235, 236, 237] = true := by decide +kernel
set_option maxRecDepth 100000 in
theorem stF_14 : hkF (stW 14) [238, 239, 240, 241, 242, 243, 244, 245] = true := by decide +kernel
set_option maxRecDepth 100000 in
theorem stF_15 : hkF (stW 15) [246, 247, 248, 249, 250] = true := by decide +kernel
set_option maxRecDepth 100000 in
theorem stF_16 : hkF (stW 16) [251, 252, 253, 254] = true := by decide +kernel
set_option maxRecDepth 100000 in
theorem stF_17 : hkF (stW 17) [255, 256, 257, 258, 259, 260, 261, 262] = true := by decide +kernel
set_option maxRecDepth 100000 in
theorem stF_18 : hkF (stW 18) [263, 264, 265, 266, 267, 268, 269] = true := by decide +kernel
set_option maxRecDepth 100000 in
theorem stF_19 : hkF (stW 19) [270, 271, 272, 273, 274, 275, 276] = true := by decide +kernel
set_option maxRecDepth 100000 in
theorem stF_20 : hkF (stW 20) [277, 278, 279, 280, 281, 282, 283, 284, 285, 286, 287] = true := by decide +kernel
set_option maxRecDepth 100000 in
theorem stF_21 : hkF (stW 21) [288, 289, 290, 291, 292, 293, 294, 295, 296, 297] = true := by decide +kernel
set_option maxRecDepth 100000 in
theorem stF_22 : hkF (stW 22) [298, 299, 300, 301, 302, 303, 304, 305, 306, 307] = true := by decide +kernel
set_option maxRecDepth 100000 in
theorem stF_23 : hkF (stW 23) [308, 309, 310, 311, 312, 313, 314, 315] = true := by decide +kernel
set_option maxRecDepth 100000 in
theorem stF_24 : hkF (stW 24) [316, 317, 318, 319, 320, 321, 322, 323] = true := by decide +kernel
set_option maxRecDepth 100000 in
theorem stF_25 : hkF (stW 25) [324, 325, 326, 327, 328, 329, 330, 331, 332] = true := by decide +kernel
set_option maxRecDepth 100000 in
theorem stF_26 : hkF (stW 26) [333, 334, 335, 336, 337, 338, 339, 340] = true := by decide +kernel
def stRefs : List Cond := (List.range 27).map fun k => .stringRef (pmStT k).1 (pmStT k).2.1 (pmStT k).2.2.1
set_option maxRecDepth 100000 in
theorem stR_t : hkT stRefs [6051, 6052, 6053, 6054, 6055, 6056, 6057, 6058, 6059, 6122, 6123, 6124, 6125, 6126, 6127, 6128, 6129, 7119, 9000, 9014, 9015, 9016, 9021, 9022, 9023, 9024, 9025] = true := by decide +kernel
theorem stF_at {k : Nat} (h : k < 27) : ∀ w ∈ stW k, w ∈ FC := by
  rcases (show k = 0 ∨ k = 1 ∨ k = 2 ∨ k = 3 ∨ k = 4 ∨ k = 5 ∨ k = 6 ∨ k = 7 ∨ k = 8 ∨ k = 9 ∨ k = 10 ∨ k = 11 ∨ k = 12 ∨ k = 13 ∨ k = 14 ∨ k = 15 ∨ k = 16 ∨ k = 17 ∨ k = 18 ∨ k = 19 ∨ k = 20 ∨ k = 21 ∨ k = 22 ∨ k = 23 ∨ k = 24 ∨ k = 25 ∨ k = 26 by omega) with rfl | rfl | rfl | rfl | rfl | rfl | rfl | rfl | rfl | rfl | rfl | rfl | rfl | rfl | rfl | rfl | rfl | rfl | rfl | rfl | rfl | rfl | rfl | rfl | rfl | rfl | rfl
  · exact hkF_ok stF_0
  · exact hkF_ok stF_1
  · exact hkF_ok stF_2
  · exact hkF_ok stF_3
  · exact hkF_ok stF_4
  · exact hkF_ok stF_5
  · exact hkF_ok stF_6
  · exact hkF_ok stF_7
  · exact hkF_ok stF_8
  · exact hkF_ok stF_9
  · exact hkF_ok stF_10
  · exact hkF_ok stF_11
  · exact hkF_ok stF_12
  · exact hkF_ok stF_13
  · exact hkF_ok stF_14
  · exact hkF_ok stF_15
  · exact hkF_ok stF_16
  · exact hkF_ok stF_17
  · exact hkF_ok stF_18
  · exact hkF_ok stF_19
  · exact hkF_ok stF_20
  · exact hkF_ok stF_21
  · exact hkF_ok stF_22
  · exact hkF_ok stF_23
  · exact hkF_ok stF_24
  · exact hkF_ok stF_25
  · exact hkF_ok stF_26
def prW : List Cond := [.not (.castable (pmXn 0) (pmXn 1)), .not (.castable (pmXn 0) (pmXn 2)), .not (.castable (pmXn 0) (pmXn 3)), .not (.castable (pmXn 0) (pmXn 4)), .not (.castable (pmXn 0) (pmXn 5)), .not (.castable (pmXn 1) (pmXn 0)), .not (.castable (pmXn 1) (pmXn 2)), .not (.castable (pmXn 1) (pmXn 3)), .not (.castable (pmXn 1) (pmXn 4)), .not (.castable (pmXn 1) (pmXn 5)), .not (.castable (pmXn 2) (pmXn 0)), .not (.castable (pmXn 2) (pmXn 1)), .not (.castable (pmXn 2) (pmXn 3)), .not (.castable (pmXn 2) (pmXn 4)), .not (.castable (pmXn 2) (pmXn 5)), .not (.castable (pmXn 3) (pmXn 0)), .not (.castable (pmXn 3) (pmXn 1)), .not (.castable (pmXn 3) (pmXn 2)), .not (.castable (pmXn 3) (pmXn 4)), .not (.castable (pmXn 3) (pmXn 5)), .not (.castable (pmXn 4) (pmXn 0)), .not (.castable (pmXn 4) (pmXn 1)), .not (.castable (pmXn 4) (pmXn 2)), .not (.castable (pmXn 4) (pmXn 3)), .not (.castable (pmXn 4) (pmXn 5)), .not (.castable (pmXn 5) (pmXn 0)), .not (.castable (pmXn 5) (pmXn 1)), .not (.castable (pmXn 5) (pmXn 2)), .not (.castable (pmXn 5) (pmXn 3)), .not (.castable (pmXn 5) (pmXn 4))]
set_option maxRecDepth 100000 in
theorem prW_t : hkF prW [61, 45, 77, 93, 109, 29, 46, 78, 94, 110, 30, 62, 79, 95, 111, 31, 63, 47, 96, 112, 32, 64, 48, 80, 113, 33, 65, 49, 81, 97] = true := by decide +kernel
theorem prW_at {a b : Nat} (ha : a < 6) (hb : b < 6) (hab : ¬ a = b) : .not (.castable (pmXn a) (pmXn b)) ∈ prW := by
  rcases (show a = 0 ∨ a = 1 ∨ a = 2 ∨ a = 3 ∨ a = 4 ∨ a = 5 by omega) with rfl | rfl | rfl | rfl | rfl | rfl
  · rcases (show b = 0 ∨ b = 1 ∨ b = 2 ∨ b = 3 ∨ b = 4 ∨ b = 5 by omega) with rfl | rfl | rfl | rfl | rfl | rfl
    · exact absurd rfl hab
    · exact List.mem_of_getElem? (i := 0) rfl
    · exact List.mem_of_getElem? (i := 1) rfl
    · exact List.mem_of_getElem? (i := 2) rfl
    · exact List.mem_of_getElem? (i := 3) rfl
    · exact List.mem_of_getElem? (i := 4) rfl
  · rcases (show b = 0 ∨ b = 1 ∨ b = 2 ∨ b = 3 ∨ b = 4 ∨ b = 5 by omega) with rfl | rfl | rfl | rfl | rfl | rfl
    · exact List.mem_of_getElem? (i := 5) rfl
    · exact absurd rfl hab
    · exact List.mem_of_getElem? (i := 6) rfl
    · exact List.mem_of_getElem? (i := 7) rfl
    · exact List.mem_of_getElem? (i := 8) rfl
    · exact List.mem_of_getElem? (i := 9) rfl
  · rcases (show b = 0 ∨ b = 1 ∨ b = 2 ∨ b = 3 ∨ b = 4 ∨ b = 5 by omega) with rfl | rfl | rfl | rfl | rfl | rfl
    · exact List.mem_of_getElem? (i := 10) rfl
    · exact List.mem_of_getElem? (i := 11) rfl
    · exact absurd rfl hab
    · exact List.mem_of_getElem? (i := 12) rfl
    · exact List.mem_of_getElem? (i := 13) rfl
    · exact List.mem_of_getElem? (i := 14) rfl
  · rcases (show b = 0 ∨ b = 1 ∨ b = 2 ∨ b = 3 ∨ b = 4 ∨ b = 5 by omega) with rfl | rfl | rfl | rfl | rfl | rfl
    · exact List.mem_of_getElem? (i := 15) rfl
    · exact List.mem_of_getElem? (i := 16) rfl
    · exact List.mem_of_getElem? (i := 17) rfl
    · exact absurd rfl hab
    · exact List.mem_of_getElem? (i := 18) rfl
    · exact List.mem_of_getElem? (i := 19) rfl
  · rcases (show b = 0 ∨ b = 1 ∨ b = 2 ∨ b = 3 ∨ b = 4 ∨ b = 5 by omega) with rfl | rfl | rfl | rfl | rfl | rfl
    · exact List.mem_of_getElem? (i := 20) rfl
    · exact List.mem_of_getElem? (i := 21) rfl
    · exact List.mem_of_getElem? (i := 22) rfl
    · exact List.mem_of_getElem? (i := 23) rfl
    · exact absurd rfl hab
    · exact List.mem_of_getElem? (i := 24) rfl
  · rcases (show b = 0 ∨ b = 1 ∨ b = 2 ∨ b = 3 ∨ b = 4 ∨ b = 5 by omega) with rfl | rfl | rfl | rfl | rfl | rfl
    · exact List.mem_of_getElem? (i := 25) rfl
    · exact List.mem_of_getElem? (i := 26) rfl
    · exact List.mem_of_getElem? (i := 27) rfl
    · exact List.mem_of_getElem? (i := 28) rfl
    · exact List.mem_of_getElem? (i := 29) rfl
    · exact absurd rfl hab
def sfW : List Cond := (List.range 6).map fun k => .castable (pmXn k) (pmXn k)
set_option maxRecDepth 100000 in
theorem sfW_t : hkT sfW [3092, 3113, 3128, 3143, 3158, 5172] = true := by decide +kernel
def inW : List Cond := (List.range 10).map fun c => .instantiable (pmCN c) (pmN c)
set_option maxRecDepth 100000 in
theorem inW_t : hkT inW [1130, 1188, 1110, 2017, 1225, 1156, 1041, 1143, 1033, 6212] = true := by decide +kernel
def ltTm : Term := .static "StageBallet" "MOVE_LETTERS" "[C"
def fcW2 : List Cond := [.arrayOf ltTm .char, .eq (.length ltTm) (.int (Int32.ofNat 5)), .isRef (.static Bundle.tN "UNASSIGNED_STACK" Bundle.steD), .isRef (.static Bundle.tN "SUPPRESSED_SENTINEL" Bundle.listD), .eq (.static "java/lang/String" "COMPACT_STRINGS" "Z") (.int 1), .isRef (.static "jdk/internal/util/Preconditions" "SIOOBE_FORMATTER" "Ljava/util/function/BiFunction;")] ++ (List.range 5).map fun j => .eq (.elem ltTm (.int (Int32.ofNat j))) (.int (pmLt j))
set_option maxRecDepth 100000 in
theorem fcW2_t : hkF fcW2 [7, 8, 4, 5, 14, 15, 9, 10, 11, 12, 13] = true := by decide +kernel
def tbW2 : List Cond := [.laysStatic Bundle.tN "UNASSIGNED_STACK" Bundle.steD, .laysStatic Bundle.tN "SUPPRESSED_SENTINEL" Bundle.listD, .initialized Bundle.tN, .laysStatic "StageBallet" "MOVE_LETTERS" "[C", .initialized "StageBallet", .laysStatic "java/lang/String" "COMPACT_STRINGS" "Z", .initialized "java/lang/String", .laysStatic "jdk/internal/util/Preconditions" "SIOOBE_FORMATTER" "Ljava/util/function/BiFunction;", .initialized "jdk/internal/util/Preconditions", .arrayClass .int, .arrayClass .long, .arrayClass .char, .arrayClass .double, .arrayOver (.object RX6)]
set_option maxRecDepth 100000 in
theorem tbW2_t : hkT tbW2 [3003, 3005, 1011, 4114, 1001, 6073, 1016, 6093, 1025, 1108, 9054, 2015, 9055, 1116] = true := by decide +kernel
