/-! what stands at the law's entry: premises by their places (written by wip/whole/gen_start.py) -/
def FC : List Cond := flatC (Jvm.Cond.and given_1 narrow_1)
def hkF : List Cond → List Nat → Bool
  | [], _ => true
  | w :: ws, h :: hs => decide (FC[h]? = some w) && hkF ws hs
  | _ :: _, [] => false
theorem hkF_ok : ∀ {ws : List Cond} {hs : List Nat}, hkF ws hs = true → ∀ w ∈ ws, w ∈ FC
  | [], _, _, _, h => absurd h List.not_mem_nil
  | w :: ws, [], hh, _, _ => by cases hh
  | w :: ws, h :: hs, hh, v, hv => by
    unfold hkF at hh
    rw [Bool.and_eq_true, decide_eq_true_eq] at hh
    rcases List.mem_cons.mp hv with rfl | hv
    · exact List.mem_of_getElem? hh.1
    · exact hkF_ok hh.2 v hv
def hkT : List Cond → List Nat → Bool
  | [], _ => true
  | w :: ws, h :: hs => decide ((tabP (h / 1000))[h % 1000]? = some w) && hkT ws hs
  | _ :: _, [] => false
theorem hkT_ok : ∀ {ws : List Cond} {hs : List Nat}, hkT ws hs = true → ∀ w ∈ ws, w ∈ lw_tb2
  | [], _, _, _, h => absurd h List.not_mem_nil
  | w :: ws, [], hh, _, _ => by cases hh
  | w :: ws, h :: hs, hh, v, hv => by
    unfold hkT at hh
    rw [Bool.and_eq_true, decide_eq_true_eq] at hh
    rcases List.mem_cons.mp hv with rfl | hv
    · exact tabP_in (List.mem_of_getElem? hh.1)
    · exact hkT_ok hh.2 v hv
def stTm (k : Nat) : Term := .string (pmStT k).1 (pmStT k).2.1
def stVa (k : Nat) : Term := .field (stTm k) "java/lang/String" "value" "[B"
def stW (k : Nat) : List Cond := [.exactly (stTm k) "java/lang/String", .eq (.field (stTm k) "java/lang/String" "coder" "B") (.int 0), .arrayOf (stVa k) .byte, .eq (.length (stVa k)) (.int (Int32.ofNat (pmStB k).length))] ++ (List.range (pmStB k).length).map fun j => .eq (.elem (stVa k) (.int (Int32.ofNat j))) (.int ((pmStB k).getD j 0))
set_option maxRecDepth 100000 in
theorem stF_0 : hkF (stW 0) [441, 442, 443, 444, 445, 446, 447, 448, 449] = true := by decide +kernel
set_option maxRecDepth 100000 in
theorem stF_1 : hkF (stW 1) [451, 452, 453, 454, 455, 456, 457, 458, 459, 460, 461] = true := by decide +kernel
set_option maxRecDepth 100000 in
theorem stF_2 : hkF (stW 2) [462, 463, 464, 465, 466, 467, 468, 469, 470] = true := by decide +kernel
set_option maxRecDepth 100000 in
theorem stF_3 : hkF (stW 3) [471, 472, 473, 474, 475, 476, 477, 478, 479, 480, 481] = true := by decide +kernel
set_option maxRecDepth 100000 in
theorem stF_4 : hkF (stW 4) [483, 484, 485, 486, 487, 488, 489, 490, 491, 492, 493, 494] = true := by decide +kernel
set_option maxRecDepth 100000 in
theorem stF_5 : hkF (stW 5) [495, 496, 497, 498, 499, 500, 501, 502, 503] = true := by decide +kernel
set_option maxRecDepth 100000 in
theorem stF_6 : hkF (stW 6) [505, 506, 507, 508, 509, 510, 511, 512, 513] = true := by decide +kernel
set_option maxRecDepth 100000 in
theorem stF_7 : hkF (stW 7) [515, 516, 517, 518, 519, 520, 521, 522, 523, 524] = true := by decide +kernel
set_option maxRecDepth 100000 in
theorem stF_8 : hkF (stW 8) [525, 526, 527, 528, 529, 530, 531, 532, 533] = true := by decide +kernel
set_option maxRecDepth 100000 in
theorem stF_9 : hkF (stW 9) [534, 535, 536, 537, 538, 539] = true := by decide +kernel
set_option maxRecDepth 100000 in
theorem stF_10 : hkF (stW 10) [540, 541, 542, 543, 544, 545, 546, 547] = true := by decide +kernel
set_option maxRecDepth 100000 in
theorem stF_11 : hkF (stW 11) [548, 549, 550, 551, 552, 553, 554] = true := by decide +kernel
set_option maxRecDepth 100000 in
theorem stF_12 : hkF (stW 12) [555, 556, 557, 558, 559, 560, 561] = true := by decide +kernel
set_option maxRecDepth 100000 in
theorem stF_13 : hkF (stW 13) [562, 563, 564, 565, 566, 567, 568] = true := by decide +kernel
set_option maxRecDepth 100000 in
theorem stF_14 : hkF (stW 14) [569, 570, 571, 572, 573, 574, 575, 576] = true := by decide +kernel
set_option maxRecDepth 100000 in
theorem stF_15 : hkF (stW 15) [577, 578, 579, 580, 581] = true := by decide +kernel
set_option maxRecDepth 100000 in
theorem stF_16 : hkF (stW 16) [582, 583, 584, 585] = true := by decide +kernel
set_option maxRecDepth 100000 in
theorem stF_17 : hkF (stW 17) [309, 310, 311, 312, 313, 314, 315, 316, 317] = true := by decide +kernel
set_option maxRecDepth 100000 in
theorem stF_18 : hkF (stW 18) [318, 319, 320, 321, 322, 323, 324, 325, 326, 327] = true := by decide +kernel
set_option maxRecDepth 100000 in
theorem stF_19 : hkF (stW 19) [328, 329, 330, 331, 332, 333, 334, 335, 336, 337, 338] = true := by decide +kernel
set_option maxRecDepth 100000 in
theorem stF_20 : hkF (stW 20) [339, 340, 341, 342, 343, 344, 345, 346, 347, 348, 349, 350, 351, 352, 353, 354, 355] = true := by decide +kernel
set_option maxRecDepth 100000 in
theorem stF_21 : hkF (stW 21) [356, 357, 358, 359, 360] = true := by decide +kernel
set_option maxRecDepth 100000 in
theorem stF_22 : hkF (stW 22) [368, 369, 370, 371, 372, 373, 374, 375, 376] = true := by decide +kernel
set_option maxRecDepth 100000 in
theorem stF_23 : hkF (stW 23) [377, 378, 379, 380, 381] = true := by decide +kernel
set_option maxRecDepth 100000 in
theorem stF_24 : hkF (stW 24) [382, 383, 384, 385, 386, 387, 388, 389, 390, 391, 392] = true := by decide +kernel
set_option maxRecDepth 100000 in
theorem stF_25 : hkF (stW 25) [393, 394, 395, 396, 397, 398, 399, 400, 401] = true := by decide +kernel
set_option maxRecDepth 100000 in
theorem stF_26 : hkF (stW 26) [402, 403, 404, 405, 406, 407, 408, 409, 410, 411, 412, 413] = true := by decide +kernel
set_option maxRecDepth 100000 in
theorem stF_27 : hkF (stW 27) [414, 415, 416, 417, 418] = true := by decide +kernel
set_option maxRecDepth 100000 in
theorem stF_28 : hkF (stW 28) [419, 420, 421, 422, 423, 424, 425, 426, 427] = true := by decide +kernel
set_option maxRecDepth 100000 in
theorem stF_29 : hkF (stW 29) [428, 429, 430, 431, 432, 433, 434, 435, 436, 437, 438, 439, 440] = true := by decide +kernel
def stRefs : List Cond := (List.range 30).map fun k => .stringRef (pmStT k).1 (pmStT k).2.1 (pmStT k).2.2.1
set_option maxRecDepth 100000 in
theorem stR_t : hkT stRefs [6091, 6092, 6093, 6094, 6095, 6096, 6097, 6098, 6099, 6114, 6115, 6116, 6117, 6118, 6119, 6120, 6121, 4120, 5032, 5093, 5223, 5224, 6048, 6049, 6050, 6051, 6052, 6053, 6054, 6055] = true := by decide +kernel
theorem stF_at {k : Nat} (h : k < 30) : ∀ w ∈ stW k, w ∈ FC := by
  rcases (show k = 0 ∨ k = 1 ∨ k = 2 ∨ k = 3 ∨ k = 4 ∨ k = 5 ∨ k = 6 ∨ k = 7 ∨ k = 8 ∨ k = 9 ∨ k = 10 ∨ k = 11 ∨ k = 12 ∨ k = 13 ∨ k = 14 ∨ k = 15 ∨ k = 16 ∨ k = 17 ∨ k = 18 ∨ k = 19 ∨ k = 20 ∨ k = 21 ∨ k = 22 ∨ k = 23 ∨ k = 24 ∨ k = 25 ∨ k = 26 ∨ k = 27 ∨ k = 28 ∨ k = 29 by omega) with rfl | rfl | rfl | rfl | rfl | rfl | rfl | rfl | rfl | rfl | rfl | rfl | rfl | rfl | rfl | rfl | rfl | rfl | rfl | rfl | rfl | rfl | rfl | rfl | rfl | rfl | rfl | rfl | rfl | rfl
  · exact hkF_ok stF_0
  · exact hkF_ok stF_1
  · exact hkF_ok stF_2
  · exact hkF_ok stF_3
  · exact hkF_ok stF_4
  · exact hkF_ok stF_5
  · exact hkF_ok stF_6
  · exact hkF_ok stF_7
  · exact hkF_ok stF_8
  · exact hkF_ok stF_9
  · exact hkF_ok stF_10
  · exact hkF_ok stF_11
  · exact hkF_ok stF_12
  · exact hkF_ok stF_13
  · exact hkF_ok stF_14
  · exact hkF_ok stF_15
  · exact hkF_ok stF_16
  · exact hkF_ok stF_17
  · exact hkF_ok stF_18
  · exact hkF_ok stF_19
  · exact hkF_ok stF_20
  · exact hkF_ok stF_21
  · exact hkF_ok stF_22
  · exact hkF_ok stF_23
  · exact hkF_ok stF_24
  · exact hkF_ok stF_25
  · exact hkF_ok stF_26
  · exact hkF_ok stF_27
  · exact hkF_ok stF_28
  · exact hkF_ok stF_29
def prW : List Cond := [.not (.castable (pmXn 0) (pmXn 1)), .not (.castable (pmXn 0) (pmXn 2)), .not (.castable (pmXn 0) (pmXn 3)), .not (.castable (pmXn 0) (pmXn 4)), .not (.castable (pmXn 1) (pmXn 0)), .not (.castable (pmXn 1) (pmXn 2)), .not (.castable (pmXn 1) (pmXn 3)), .not (.castable (pmXn 1) (pmXn 4)), .not (.castable (pmXn 2) (pmXn 0)), .not (.castable (pmXn 2) (pmXn 1)), .not (.castable (pmXn 2) (pmXn 3)), .not (.castable (pmXn 2) (pmXn 4)), .not (.castable (pmXn 3) (pmXn 0)), .not (.castable (pmXn 3) (pmXn 1)), .not (.castable (pmXn 3) (pmXn 2)), .not (.castable (pmXn 3) (pmXn 4)), .not (.castable (pmXn 4) (pmXn 0)), .not (.castable (pmXn 4) (pmXn 1)), .not (.castable (pmXn 4) (pmXn 2)), .not (.castable (pmXn 4) (pmXn 3)), .not (.castable (pmXn 5) (pmXn 0)), .not (.castable (pmXn 5) (pmXn 1)), .not (.castable (pmXn 5) (pmXn 2)), .not (.castable (pmXn 5) (pmXn 3)), .not (.castable (pmXn 5) (pmXn 4))]
set_option maxRecDepth 100000 in
theorem prW_t : hkF prW [251, 268, 285, 302, 234, 269, 286, 303, 235, 252, 287, 304, 236, 253, 270, 305, 237, 254, 271, 288, 238, 255, 272, 289, 306] = true := by decide +kernel
theorem prW_at {a b : Nat} (ha : a < 6) (hb : b < 5) (hab : ¬ a = b) : .not (.castable (pmXn a) (pmXn b)) ∈ prW := by
  rcases (show a = 0 ∨ a = 1 ∨ a = 2 ∨ a = 3 ∨ a = 4 ∨ a = 5 by omega) with rfl | rfl | rfl | rfl | rfl | rfl
  · rcases (show b = 0 ∨ b = 1 ∨ b = 2 ∨ b = 3 ∨ b = 4 by omega) with rfl | rfl | rfl | rfl | rfl
    · exact absurd rfl hab
    · exact List.mem_of_getElem? (i := 0) rfl
    · exact List.mem_of_getElem? (i := 1) rfl
    · exact List.mem_of_getElem? (i := 2) rfl
    · exact List.mem_of_getElem? (i := 3) rfl
  · rcases (show b = 0 ∨ b = 1 ∨ b = 2 ∨ b = 3 ∨ b = 4 by omega) with rfl | rfl | rfl | rfl | rfl
    · exact List.mem_of_getElem? (i := 4) rfl
    · exact absurd rfl hab
    · exact List.mem_of_getElem? (i := 5) rfl
    · exact List.mem_of_getElem? (i := 6) rfl
    · exact List.mem_of_getElem? (i := 7) rfl
  · rcases (show b = 0 ∨ b = 1 ∨ b = 2 ∨ b = 3 ∨ b = 4 by omega) with rfl | rfl | rfl | rfl | rfl
    · exact List.mem_of_getElem? (i := 8) rfl
    · exact List.mem_of_getElem? (i := 9) rfl
    · exact absurd rfl hab
    · exact List.mem_of_getElem? (i := 10) rfl
    · exact List.mem_of_getElem? (i := 11) rfl
  · rcases (show b = 0 ∨ b = 1 ∨ b = 2 ∨ b = 3 ∨ b = 4 by omega) with rfl | rfl | rfl | rfl | rfl
    · exact List.mem_of_getElem? (i := 12) rfl
    · exact List.mem_of_getElem? (i := 13) rfl
    · exact List.mem_of_getElem? (i := 14) rfl
    · exact absurd rfl hab
    · exact List.mem_of_getElem? (i := 15) rfl
  · rcases (show b = 0 ∨ b = 1 ∨ b = 2 ∨ b = 3 ∨ b = 4 by omega) with rfl | rfl | rfl | rfl | rfl
    · exact List.mem_of_getElem? (i := 16) rfl
    · exact List.mem_of_getElem? (i := 17) rfl
    · exact List.mem_of_getElem? (i := 18) rfl
    · exact List.mem_of_getElem? (i := 19) rfl
    · exact absurd rfl hab
  · rcases (show b = 0 ∨ b = 1 ∨ b = 2 ∨ b = 3 ∨ b = 4 by omega) with rfl | rfl | rfl | rfl | rfl
    · exact List.mem_of_getElem? (i := 20) rfl
    · exact List.mem_of_getElem? (i := 21) rfl
    · exact List.mem_of_getElem? (i := 22) rfl
    · exact List.mem_of_getElem? (i := 23) rfl
    · exact List.mem_of_getElem? (i := 24) rfl
def sfW : List Cond := (List.range 6).map fun k => .castable (pmXn k) (pmXn k)
set_option maxRecDepth 100000 in
theorem sfW_t : hkT sfW [1047, 1117, 1132, 1147, 1162, 7048] = true := by decide +kernel
def inW : List Cond := (List.range 11).map fun c => .instantiable (pmCN c) (pmN c)
set_option maxRecDepth 100000 in
theorem inW_t : hkT inW [3137, 2229, 2033, 4022, 3230, 2108, 3049, 3150, 2016, 2001, 5064] = true := by decide +kernel
def ltTm : Term := .static "StageBallet" "MOVE_LETTERS" "[C"
def fcW2 : List Cond := [.arrayOf ltTm .char, .eq (.length ltTm) (.int (Int32.ofNat 5)), .isRef (.static Bundle.tN "UNASSIGNED_STACK" Bundle.steD), .isRef (.static Bundle.tN "SUPPRESSED_SENTINEL" Bundle.listD), .eq (.static "java/lang/String" "COMPACT_STRINGS" "Z") (.int 1), .isRef (.static "jdk/internal/util/Preconditions" "SIOOBE_FORMATTER" "Ljava/util/function/BiFunction;")] ++ (List.range 5).map fun j => .eq (.elem ltTm (.int (Int32.ofNat j))) (.int (pmLt j))
set_option maxRecDepth 100000 in
theorem fcW2_t : hkF fcW2 [12, 13, 4, 5, 6, 7, 14, 15, 16, 17, 18] = true := by decide +kernel
def tbW2 : List Cond := [.laysStatic Bundle.tN "UNASSIGNED_STACK" Bundle.steD, .laysStatic Bundle.tN "SUPPRESSED_SENTINEL" Bundle.listD, .initialized Bundle.tN, .laysStatic "StageBallet" "MOVE_LETTERS" "[C", .initialized "StageBallet", .laysStatic "java/lang/String" "COMPACT_STRINGS" "Z", .initialized "java/lang/String", .laysStatic "jdk/internal/util/Preconditions" "SIOOBE_FORMATTER" "Ljava/util/function/BiFunction;", .initialized "jdk/internal/util/Preconditions", .arrayClass .int, .arrayClass .byte, .arrayClass .char, .arrayClass .int, .arrayOver (.object RX6), .laysStatic "java/lang/Integer" "DigitOnes" "[B", .laysStatic "java/lang/Integer" "DigitTens" "[B", .initialized "java/lang/Integer"]
set_option maxRecDepth 100000 in
theorem tbW2_t : hkT tbW2 [1074, 1076, 1010, 4172, 1001, 4130, 1015, 4138, 1024, 3116, 2002, 4020, 3116, 3123, 5212, 5214, 1029] = true := by decide +kernel
def doTm : Term := .static "java/lang/Integer" "DigitOnes" "[B"
def dtTm : Term := .static "java/lang/Integer" "DigitTens" "[B"
def fcD : List Cond := [.arrayOf doTm .byte, .eq (.length doTm) (.int (Int32.ofNat 100)), .arrayOf dtTm .byte, .eq (.length dtTm) (.int (Int32.ofNat 100))]
def fcDo : List Cond := (List.range 100).map fun j => .eq (.elem doTm (.int (Int32.ofNat j))) (.int (pmDo j))
def fcDt : List Cond := (List.range 100).map fun j => .eq (.elem dtTm (.int (Int32.ofNat j))) (.int (pmDt j))
set_option maxRecDepth 1000000 in
theorem fcD_t : hkF fcD [20, 21, 123, 124] = true := by decide +kernel
set_option maxRecDepth 1000000 in
theorem fcDo_t : hkF fcDo [22, 23, 24, 25, 26, 27, 28, 29, 30, 31, 32, 33, 34, 35, 36, 37, 38, 39, 40, 41, 42, 43, 44, 45, 46, 47, 48, 49, 50, 51, 52, 53, 54, 55, 56, 57, 58, 59, 60, 61, 62, 63, 64, 65, 66, 67, 68, 69, 70, 71, 72, 73, 74, 75, 76, 77, 78, 79, 80, 81, 82, 83, 84, 85, 86, 87, 88, 89, 90, 91, 92, 93, 94, 95, 96, 97, 98, 99, 100, 101, 102, 103, 104, 105, 106, 107, 108, 109, 110, 111, 112, 113, 114, 115, 116, 117, 118, 119, 120, 121] = true := by decide +kernel
set_option maxRecDepth 1000000 in
theorem fcDt_t : hkF fcDt [125, 126, 127, 128, 129, 130, 131, 132, 133, 134, 135, 136, 137, 138, 139, 140, 141, 142, 143, 144, 145, 146, 147, 148, 149, 150, 151, 152, 153, 154, 155, 156, 157, 158, 159, 160, 161, 162, 163, 164, 165, 166, 167, 168, 169, 170, 171, 172, 173, 174, 175, 176, 177, 178, 179, 180, 181, 182, 183, 184, 185, 186, 187, 188, 189, 190, 191, 192, 193, 194, 195, 196, 197, 198, 199, 200, 201, 202, 203, 204, 205, 206, 207, 208, 209, 210, 211, 212, 213, 214, 215, 216, 217, 218, 219, 220, 221, 222, 223, 224] = true := by decide +kernel
