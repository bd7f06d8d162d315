/-! every entry of the table is right (written from the list of the checks) -/
theorem mall_0 {j : Nat} (h1 : 0 ≤ j) (h2 : j < 16) : pmMOk pgN Pg pmTB j := by
  rcases (show j = 0 ∨ j = 1 ∨ j = 2 ∨ j = 3 ∨ j = 4 ∨ j = 5 ∨ j = 6 ∨ j = 7 ∨ j = 8 ∨ j = 9 ∨ j = 10 ∨ j = 11 ∨ j = 12 ∨ j = 13 ∨ j = 14 ∨ j = 15 by omega) with rfl | rfl | rfl | rfl | rfl | rfl | rfl | rfl | rfl | rfl | rfl | rfl | rfl | rfl | rfl | rfl
  · exact mX6_init
  · exact mX2_init
  · exact mX0_init
  · exact mX7_init
  · exact mX5_init
  · exact mX1_init
  · exact mX4_init
  · exact mX3_init
  · exact mX8_init
  · exact mL_cell
  · exact mL_in
  · exact mX8_cellFault
  · exact mX8_cellAt
  · exact mX8_holds
  · exact mX8_at
  · exact mX6_slotAt
theorem mall_16 {j : Nat} (h1 : 16 ≤ j) (h2 : j < 32) : pmMOk pgN Pg pmTB j := by
  rcases (show j = 16 ∨ j = 17 ∨ j = 18 ∨ j = 19 ∨ j = 20 ∨ j = 21 ∨ j = 22 ∨ j = 23 ∨ j = 24 ∨ j = 25 ∨ j = 26 ∨ j = 27 ∨ j = 28 ∨ j = 29 ∨ j = 30 ∨ j = 31 by omega) with rfl | rfl | rfl | rfl | rfl | rfl | rfl | rfl | rfl | rfl | rfl | rfl | rfl | rfl | rfl | rfl
  · exact mX6_isOpen
  · exact mJ13_bitCount_95d88
  · exact mX6_countProps
  · exact mX8_addPropFault
  · exact mX8_throwFor
  · exact mX2_placeAt
  · exact mX6_copyFrom
  · exact mX2_push
  · exact mX8_remember
  · exact mX6_placeProp
  · exact mX8_addProp
  · exact mL_addProp
  · exact mX8_addDancerFault
  · exact mX8_set
  · exact mX6_bringDancer
  · exact mX8_addDancer
theorem mall_32 {j : Nat} (h1 : 32 ≤ j) (h2 : j < 48) : pmMOk pgN Pg pmTB j := by
  rcases (show j = 32 ∨ j = 33 ∨ j = 34 ∨ j = 35 ∨ j = 36 ∨ j = 37 ∨ j = 38 ∨ j = 39 ∨ j = 40 ∨ j = 41 ∨ j = 42 ∨ j = 43 ∨ j = 44 ∨ j = 45 ∨ j = 46 ∨ j = 47 by omega) with rfl | rfl | rfl | rfl | rfl | rfl | rfl | rfl | rfl | rfl | rfl | rfl | rfl | rfl | rfl | rfl
  · exact mL_addDancer
  · exact mX6_slotOf
  · exact mX8_presenceFault
  · exact mX6_partnerOf
  · exact mX8_pairFault
  · exact mX6_bind
  · exact mX6_countPaired
  · exact mX8_pair
  · exact mL_pair
  · exact mJ0_isLatin1_aae02
  · exact mJ3_checkIndex_8e157
  · exact mJ0_checkIndex_df160
  · exact mJ1_charAt_3b067
  · exact mJ0_charAt_5068e
  · exact mX8_moveIndex
  · exact mX8_figureFault
theorem mall_48 {j : Nat} (h1 : 48 ≤ j) (h2 : j < 64) : pmMOk pgN Pg pmTB j := by
  rcases (show j = 48 ∨ j = 49 ∨ j = 50 ∨ j = 51 ∨ j = 52 ∨ j = 53 ∨ j = 54 ∨ j = 55 ∨ j = 56 ∨ j = 57 ∨ j = 58 ∨ j = 59 ∨ j = 60 ∨ j = 61 ∨ j = 62 ∨ j = 63 by omega) with rfl | rfl | rfl | rfl | rfl | rfl | rfl | rfl | rfl | rfl | rfl | rfl | rfl | rfl | rfl | rfl
  · exact mX6_movesIn
  · exact mX8_addMoveFault
  · exact mX6_appendMove
  · exact mX8_addMove
  · exact mL_addMove
  · exact mX6_hasExitAt
  · exact mX8_addExitFault
  · exact mX6_openExit
  · exact mX8_addExit
  · exact mL_addExit
  · exact mL_begun
  · exact mX8_dancers
  · exact mX6_rankOf
  · exact mX6_numberAtRank
  · exact mX8_dancerByNails
  · exact mL_dancerByNails
theorem mall_64 {j : Nat} (h1 : 64 ≤ j) (h2 : j < 80) : pmMOk pgN Pg pmTB j := by
  rcases (show j = 64 ∨ j = 65 ∨ j = 66 ∨ j = 67 ∨ j = 68 ∨ j = 69 ∨ j = 70 ∨ j = 71 ∨ j = 72 ∨ j = 73 ∨ j = 74 ∨ j = 75 ∨ j = 76 ∨ j = 77 ∨ j = 78 ∨ j = 79 by omega) with rfl | rfl | rfl | rfl | rfl | rfl | rfl | rfl | rfl | rfl | rfl | rfl | rfl | rfl | rfl | rfl
  · exact mX8_columnOf
  · exact mX8_column
  · exact mX8_rowOf
  · exact mX8_row
  · exact mX8_partner
  · exact mL_partner
  · exact mX8_nails
  · exact mL_on
  · exact mX8_isPresent
  · exact mX8_cellAfter
  · exact mX0_fillFrom
  · exact mX8_areaSize
  · exact mL_isProp
  · exact mX8_isFree
  · exact mX6_cellsOfOthers
  · exact mX8_fill
theorem mall_80 {j : Nat} (h1 : 80 ≤ j) (h2 : j < 96) : pmMOk pgN Pg pmTB j := by
  rcases (show j = 80 ∨ j = 81 ∨ j = 82 ∨ j = 83 ∨ j = 84 ∨ j = 85 ∨ j = 86 ∨ j = 87 ∨ j = 88 ∨ j = 89 ∨ j = 90 ∨ j = 91 ∨ j = 92 ∨ j = 93 ∨ j = 94 ∨ j = 95 by omega) with rfl | rfl | rfl | rfl | rfl | rfl | rfl | rfl | rfl | rfl | rfl | rfl | rfl | rfl | rfl | rfl
  · exact mX7_searchBreadthFirst
  · exact mX7_lengthTo
  · exact mX8_walkLength
  · exact mX8_distance
  · exact mL_distance
  · exact mX6_sumOfNails
  · exact mX8_meanNails
  · exact mX8_doubleBits
  · exact mX8_meanNailsBits
  · exact mJxe99ae_isNaN_b9ae7
  · exact mJxe99ae_doubleToLongBits_ccdee
  · exact mX8_pairedShare
  · exact mX8_floatBits
  · exact mX8_pairedShareBits
  · exact mJxf58ca_isNaN_12338
  · exact mJxf58ca_floatToIntBits_5c35a
theorem mall_96 {j : Nat} (h1 : 96 ≤ j) (h2 : j < 112) : pmMOk pgN Pg pmTB j := by
  rcases (show j = 96 ∨ j = 97 ∨ j = 98 ∨ j = 99 ∨ j = 100 ∨ j = 101 ∨ j = 102 ∨ j = 103 ∨ j = 104 ∨ j = 105 ∨ j = 106 ∨ j = 107 ∨ j = 108 ∨ j = 109 ∨ j = 110 ∨ j = 111 by omega) with rfl | rfl | rfl | rfl | rfl | rfl | rfl | rfl | rfl | rfl | rfl | rfl | rfl | rfl | rfl | rfl
  · exact mX0_countByFilling
  · exact mX8_areas
  · exact mX0_rootOf
  · exact mX0_unite
  · exact mX0_countByUniting
  · exact mX8_areasByUnions
  · exact mX8_isMirrored
  · exact mX8_reversed
  · exact mX8_isMirroredByRows
  · exact mX8_lostNails
  · exact mX6_lostByParts
  · exact mX8_lostNailsByParts
  · exact mX1_measure
  · exact mJ6_bitCount_0f7a4
  · exact mJ9_min_7cf53
  · exact mX1_smallestRest
theorem mall_112 {j : Nat} (h1 : 112 ≤ j) (h2 : j < 128) : pmMOk pgN Pg pmTB j := by
  rcases (show j = 112 ∨ j = 113 ∨ j = 114 ∨ j = 115 ∨ j = 116 ∨ j = 117 ∨ j = 118 ∨ j = 119 ∨ j = 120 ∨ j = 121 ∨ j = 122 ∨ j = 123 ∨ j = 124 ∨ j = 125 ∨ j = 126 ∨ j = 127 by omega) with rfl | rfl | rfl | rfl | rfl | rfl | rfl | rfl | rfl | rfl | rfl | rfl | rfl | rfl | rfl | rfl
  · exact mX1_costByTable
  · exact mX8_planCost
  · exact mX8_exitCost
  · exact mL_exitCost
  · exact mX1_costOf
  · exact mX1_updateSlack
  · exact mX1_leastSlack
  · exact mX1_shiftPotentials
  · exact mX1_place
  · exact mX1_costByPotentials
  · exact mX8_exitCostByPotentials
  · exact mL_exitCostByPotentials
  · exact mX6_hasSoundStage
  · exact mX6_isSoundDancer
  · exact mX6_hasSoundDancers
  · exact mX6_hasSoundFigures
theorem mall_128 {j : Nat} (h1 : 128 ≤ j) (h2 : j < 144) : pmMOk pgN Pg pmTB j := by
  rcases (show j = 128 ∨ j = 129 ∨ j = 130 ∨ j = 131 ∨ j = 132 ∨ j = 133 ∨ j = 134 ∨ j = 135 ∨ j = 136 ∨ j = 137 ∨ j = 138 ∨ j = 139 ∨ j = 140 ∨ j = 141 ∨ j = 142 ∨ j = 143 by omega) with rfl | rfl | rfl | rfl | rfl | rfl | rfl | rfl | rfl | rfl | rfl | rfl | rfl | rfl | rfl | rfl
  · exact mX8_isConsistent
  · exact mL_isWell
  · exact mX8_exits
  · exact mX8_exitFault
  · exact mX8_exitDistance
  · exact mL_exitDistance
  · exact mX3_empty
  · exact mX6_moveAt
  · exact mX8_moveLetter
  · exact mX3_put
  · exact mX3_putRepeated
  · exact mX8_writeFigure
  · exact mX8_figureLength
  · exact mL_seen
  · exact mX8_removePropFault
  · exact mX6_takeProp
theorem mall_144 {j : Nat} (h1 : 144 ≤ j) (h2 : j < 160) : pmMOk pgN Pg pmTB j := by
  rcases (show j = 144 ∨ j = 145 ∨ j = 146 ∨ j = 147 ∨ j = 148 ∨ j = 149 ∨ j = 150 ∨ j = 151 ∨ j = 152 ∨ j = 153 ∨ j = 154 ∨ j = 155 ∨ j = 156 ∨ j = 157 ∨ j = 158 ∨ j = 159 by omega) with rfl | rfl | rfl | rfl | rfl | rfl | rfl | rfl | rfl | rfl | rfl | rfl | rfl | rfl | rfl | rfl
  · exact mX8_removeProp
  · exact mL_removeProp
  · exact mL_dancer
  · exact mX6_separate
  · exact mX6_dismissDancer
  · exact mX8_removeDancer
  · exact mL_removeDancer
  · exact mX8_unpairFault
  · exact mX8_unpair
  · exact mL_unpair
  · exact mX6_emptyFigure
  · exact mX8_clearFigure
  · exact mL_clearFigure
  · exact mX5_canCome
  · exact mX8_mirroredMove
  · exact mX5_goOn
theorem mall_160 {j : Nat} (h1 : 160 ≤ j) (h2 : j < 176) : pmMOk pgN Pg pmTB j := by
  rcases (show j = 160 ∨ j = 161 ∨ j = 162 ∨ j = 163 ∨ j = 164 ∨ j = 165 ∨ j = 166 ∨ j = 167 ∨ j = 168 ∨ j = 169 ∨ j = 170 ∨ j = 171 ∨ j = 172 ∨ j = 173 ∨ j = 174 ∨ j = 175 by omega) with rfl | rfl | rfl | rfl | rfl | rfl | rfl | rfl | rfl | rfl | rfl | rfl | rfl | rfl | rfl | rfl
  · exact mX5_firstBlocked
  · exact mX8_performFault
  · exact mX5_showOn
  · exact mX8_performNow
  · exact mX8_perform
  · exact mL_perform
  · exact mX8_walkFault
  · exact mX8_walkNow
  · exact mX8_walk
  · exact mL_walk
  · exact mX6_fillNails
  · exact mX8_renewNails
  · exact mL_renewNails
  · exact mX6_closeExit
  · exact mX8_removeExit
  · exact mL_removeExit
theorem mall_176 {j : Nat} (h1 : 176 ≤ j) (h2 : j < 192) : pmMOk pgN Pg pmTB j := by
  rcases (show j = 176 ∨ j = 177 ∨ j = 178 ∨ j = 179 ∨ j = 180 ∨ j = 181 ∨ j = 182 ∨ j = 183 ∨ j = 184 ∨ j = 185 ∨ j = 186 ∨ j = 187 ∨ j = 188 ∨ j = 189 ∨ j = 190 ∨ j = 191 by omega) with rfl | rfl | rfl | rfl | rfl | rfl | rfl | rfl | rfl | rfl | rfl | rfl | rfl | rfl | rfl | rfl
  · exact mX8_leaveFault
  · exact mX6_dismissAll
  · exact mX8_leaveAll
  · exact mL_leaveAll
  · exact mJ5_init_d00df
  · exact mJ4_init_da8c8
  · exact mJ0_coder_7d493
  · exact mJ0_length_8abf5
  · exact mJ9_max_7cf53
  · exact mJ8_newLength_cabcc
  · exact mJ5_newCapacity_0f7a4
  · exact mJ7_copyOf_9075b
  · exact mJ5_ensureCapacityInternal_d00df
  · exact mJ5_inflateIfNeededFor_a7421
  · exact mJ0_getBytes_840e7
  · exact mJ5_putStringAt_47b60
theorem mall_192 {j : Nat} (h1 : 192 ≤ j) (h2 : j < 208) : pmMOk pgN Pg pmTB j := by
  rcases (show j = 192 ∨ j = 193 ∨ j = 194 ∨ j = 195 ∨ j = 196 ∨ j = 197 ∨ j = 198 ∨ j = 199 ∨ j = 200 ∨ j = 201 ∨ j = 202 ∨ j = 203 ∨ j = 204 ∨ j = 205 ∨ j = 206 ∨ j = 207 by omega) with rfl | rfl | rfl | rfl | rfl | rfl | rfl | rfl | rfl | rfl | rfl | rfl | rfl | rfl | rfl | rfl
  · exact mJ5_append_cf1ce
  · exact mJ4_append_15ec4
  · exact mJ6_stringSize_0f7a4
  · exact mJ5_isLatin1_aae02
  · exact mJ6_getChars_ba4f3
  · exact mJ5_append_c97b9
  · exact mJ4_append_bf812
  · exact mJ5_getValue_6d5f1
  · exact mJ5_length_8abf5
  · exact mJ4_length_8abf5
  · exact mJ7_checkLength_df160
  · exact mJ7_copyOfRangeByte_39247
  · exact mJ7_copyOfRange_39247
  · exact mJ0_init_db425
  · exact mJ0_init_81219
  · exact mJ4_toString_0e30d
theorem mall_208 {j : Nat} (h1 : 208 ≤ j) (h2 : j < 224) : pmMOk pgN Pg pmTB j := by
  rcases (show j = 208 ∨ j = 209 ∨ j = 210 ∨ j = 211 ∨ j = 212 ∨ j = 213 ∨ j = 214 ∨ j = 215 ∨ j = 216 ∨ j = 217 ∨ j = 218 ∨ j = 219 ∨ j = 220 ∨ j = 221 ∨ j = 222 ∨ j = 223 by omega) with rfl | rfl | rfl | rfl | rfl | rfl | rfl | rfl | rfl | rfl | rfl | rfl | rfl | rfl | rfl | rfl
  · exact mX4_append
  · exact mX8_type
  · exact mX4_wordOf
  · exact mX4_signAt
  · exact mX4_countMatching
  · exact mX4_readWord
  · exact mX4_shapeOf
  · exact mX4_isDigit
  · exact mX4_keepArgument
  · exact mX4_readNumber
  · exact mX4_readMoves
  · exact mX4_readSign
  · exact mX4_readPart
  · exact mX4_readCommand
  · exact mX4_parse
  · exact mX4_argument
theorem mall_224 {j : Nat} (h1 : 224 ≤ j) (h2 : j < 240) : pmMOk pgN Pg pmTB j := by
  rcases (show j = 224 ∨ j = 225 ∨ j = 226 ∨ j = 227 ∨ j = 228 ∨ j = 229 ∨ j = 230 ∨ j = 231 ∨ j = 232 ∨ j = 233 ∨ j = 234 ∨ j = 235 ∨ j = 236 ∨ j = 237 ∨ j = 238 ∨ j = 239 by omega) with rfl | rfl | rfl | rfl | rfl | rfl | rfl | rfl | rfl | rfl | rfl | rfl | rfl | rfl | rfl | rfl
  · exact mX8_rewriteFault
  · exact mX8_commandFault
  · exact mX4_moveAt
  · exact mX8_rewriteFigure
  · exact mX8_execute
  · exact mX8_run
  · exact mL_run
  · exact mL_does
  · exact mL_acts
  · exact mL_areAlike
  · exact mX2_popInto
  · exact mX8_undo
  · exact mL_undo
  · exact mX8_save
  · exact mX8_blockedBeat
  · exact mL_blockedBeat
theorem mall_240 {j : Nat} (h1 : 240 ≤ j) (h2 : j < 249) : pmMOk pgN Pg pmTB j := by
  rcases (show j = 240 ∨ j = 241 ∨ j = 242 ∨ j = 243 ∨ j = 244 ∨ j = 245 ∨ j = 246 ∨ j = 247 ∨ j = 248 by omega) with rfl | rfl | rfl | rfl | rfl | rfl | rfl | rfl | rfl
  · exact mX6_signAt
  · exact mX8_writeRow
  · exact mX1_firstExitFor
  · exact mX1_exitForSlot
  · exact mX8_exitOf
  · exact mL_exitOf
  · exact mX8_restore
  · exact mL_restore
  · exact mL_law
theorem mall : ∀ j, j < pgN → pmMOk pgN Pg pmTB j := by
  intro j hj
  have hj : j < 249 := hj
  by_cases h16 : j < 16
  · exact mall_0 (by omega) h16
  by_cases h32 : j < 32
  · exact mall_16 (by omega) h32
  by_cases h48 : j < 48
  · exact mall_32 (by omega) h48
  by_cases h64 : j < 64
  · exact mall_48 (by omega) h64
  by_cases h80 : j < 80
  · exact mall_64 (by omega) h80
  by_cases h96 : j < 96
  · exact mall_80 (by omega) h96
  by_cases h112 : j < 112
  · exact mall_96 (by omega) h112
  by_cases h128 : j < 128
  · exact mall_112 (by omega) h128
  by_cases h144 : j < 144
  · exact mall_128 (by omega) h144
  by_cases h160 : j < 160
  · exact mall_144 (by omega) h160
  by_cases h176 : j < 176
  · exact mall_160 (by omega) h176
  by_cases h192 : j < 192
  · exact mall_176 (by omega) h192
  by_cases h208 : j < 208
  · exact mall_192 (by omega) h208
  by_cases h224 : j < 224
  · exact mall_208 (by omega) h224
  by_cases h240 : j < 240
  · exact mall_224 (by omega) h240
  exact mall_240 (by omega) hj
