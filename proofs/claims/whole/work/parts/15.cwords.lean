theorem inX0_ : ∀ w ∈ u_ws RX0 TX0 1, w ∈ lw_w := by decide +kernel
theorem icX0 : Cond.instantiable RX0 1 ∈ lw_w := tq1 (List.mem_of_getElem? (i := 40) rfl) rfl
theorem iiX0 : Cond.initialized RX0 ∈ lw_w := tq1 (List.mem_of_getElem? (i := 3) rfl) rfl
theorem dfX0 : ∀ j, j < 1 → defaultValue (tyX0 j) = vp_V [.long 0] j := by
  intro j hj
  rcases (show j = 0 by omega) with rfl <;> rfl
theorem inX1_ : ∀ w ∈ u_ws RX1 TX1 2, w ∈ lw_w := by decide +kernel
theorem icX1 : Cond.instantiable RX1 2 ∈ lw_w := tq2 (List.mem_of_getElem? (i := 28) rfl) rfl
theorem iiX1 : Cond.initialized RX1 ∈ lw_w := tq1 (List.mem_of_getElem? (i := 10) rfl) rfl
theorem dfX1 : ∀ j, j < 2 → defaultValue (tyX1 j) = vp_V [.int 0, .null] j := by
  intro j hj
  rcases (show j = 0 ∨ j = 1 by omega) with rfl | rfl <;> rfl
theorem inX2_ : ∀ w ∈ u_ws RX2 TX2 2, w ∈ lw_w := by decide +kernel
theorem icX2 : Cond.instantiable RX2 2 ∈ lw_w := tq1 (List.mem_of_getElem? (i := 57) rfl) rfl
theorem iiX2 : Cond.initialized RX2 ∈ lw_w := tq1 (List.mem_of_getElem? (i := 5) rfl) rfl
theorem dfX2 : ∀ j, j < 2 → defaultValue (tyX2 j) = vp_V [.null, .int 0] j := by
  intro j hj
  rcases (show j = 0 ∨ j = 1 by omega) with rfl | rfl <;> rfl
theorem inX3_ : ∀ w ∈ u_ws RX3 TX3 2, w ∈ lw_w := by decide +kernel
theorem icX3 : Cond.instantiable RX3 2 ∈ lw_w := tq1 (List.mem_of_getElem? (i := 20) rfl) rfl
theorem iiX3 : Cond.initialized RX3 ∈ lw_w := tq1 (List.mem_of_getElem? (i := 2) rfl) rfl
theorem dfX3 : ∀ j, j < 2 → defaultValue (tyX3 j) = vp_V [.null, .int 0] j := by
  intro j hj
  rcases (show j = 0 ∨ j = 1 by omega) with rfl | rfl <;> rfl
theorem inX4_ : ∀ w ∈ u_ws RX4 TX4 3, w ∈ lw_w := by decide +kernel
theorem icX4 : Cond.instantiable RX4 3 ∈ lw_w := tq1 (List.mem_of_getElem? (i := 72) rfl) rfl
theorem iiX4 : Cond.initialized RX4 ∈ lw_w := tq1 (List.mem_of_getElem? (i := 6) rfl) rfl
theorem dfX4 : ∀ j, j < 3 → defaultValue (tyX4 j) = vp_V [.null, .null, .int 0] j := by
  intro j hj
  rcases (show j = 0 ∨ j = 1 ∨ j = 2 by omega) with rfl | rfl | rfl <;> rfl
theorem inX5_ : ∀ w ∈ u_ws RX5 TX5 13, w ∈ lw_w := by decide +kernel
theorem icX5 : Cond.instantiable RX5 13 ∈ lw_w := tq1 (List.mem_of_getElem? (i := 12) rfl) rfl
theorem iiX5 : Cond.initialized RX5 ∈ lw_w := tq1 (List.mem_of_getElem? (i := 1) rfl) rfl
theorem dfX5 : ∀ j, j < 13 → defaultValue (tyX5 j) = vp_V [.null, .null, .null, .null, .null, .int 0, .int 0, .null, .null, .null, .int 0, .int 0, .int 0] j := by
  intro j hj
  rcases (show j = 0 ∨ j = 1 ∨ j = 2 ∨ j = 3 ∨ j = 4 ∨ j = 5 ∨ j = 6 ∨ j = 7 ∨ j = 8 ∨ j = 9 ∨ j = 10 ∨ j = 11 ∨ j = 12 by omega) with rfl | rfl | rfl | rfl | rfl | rfl | rfl | rfl | rfl | rfl | rfl | rfl | rfl <;> rfl
theorem okX5_init : mOK yX5_init cX5_init 1 none 0 := ⟨tq1 (List.mem_of_getElem? (i := 15) rfl) rfl, tq1 (List.mem_of_getElem? (i := 1) rfl) rfl, by decide, by decide, by decide +kernel⟩
theorem inX5_init : Cond.instanceMethod yX5_init ∈ lw_w := tq1 (List.mem_of_getElem? (i := 14) rfl) rfl
theorem okX3_init : mOK yX3_init cX3_init 1 none 0 := ⟨tq1 (List.mem_of_getElem? (i := 23) rfl) rfl, tq1 (List.mem_of_getElem? (i := 2) rfl) rfl, by decide, by decide, by decide +kernel⟩
theorem inX3_init : Cond.instanceMethod yX3_init ∈ lw_w := tq1 (List.mem_of_getElem? (i := 22) rfl) rfl
theorem okX5_startAnew : mOK yX5_startAnew cX5_startAnew 3 none 2 := ⟨tq1 (List.mem_of_getElem? (i := 38) rfl) rfl, tq1 (List.mem_of_getElem? (i := 1) rfl) rfl, by decide, by decide, by decide +kernel⟩
theorem inX5_startAnew : mIN yX5_startAnew := ⟨tq1 (List.mem_of_getElem? (i := 37) rfl) rfl, tp1 (List.mem_of_getElem? (i := 0) rfl)⟩
theorem okX0_init : mOK yX0_init cX0_init 2 none 1 := ⟨tq1 (List.mem_of_getElem? (i := 43) rfl) rfl, tq1 (List.mem_of_getElem? (i := 3) rfl) rfl, by decide, by decide, by decide +kernel⟩
theorem inX0_init : Cond.instanceMethod yX0_init ∈ lw_w := tq1 (List.mem_of_getElem? (i := 42) rfl) rfl
theorem okJ9_max_7cf53 : mOK yJ9_max_7cf53 cJ9_max_7cf53 2 (some .int) 2 := ⟨tq1 (List.mem_of_getElem? (i := 47) rfl) rfl, tq1 (List.mem_of_getElem? (i := 4) rfl) rfl, by decide, by decide, by decide +kernel⟩
theorem inJ9_max_7cf53 : Cond.static yJ9_max_7cf53 ∈ lw_w := tq1 (List.mem_of_getElem? (i := 46) rfl) rfl
theorem okX2_init : mOK yX2_init cX2_init 3 none 2 := ⟨tq1 (List.mem_of_getElem? (i := 60) rfl) rfl, tq1 (List.mem_of_getElem? (i := 5) rfl) rfl, by decide, by decide, by decide +kernel⟩
theorem inX2_init : Cond.instanceMethod yX2_init ∈ lw_w := tq1 (List.mem_of_getElem? (i := 59) rfl) rfl
theorem okX4_init : mOK yX4_init cX4_init 2 none 1 := ⟨tq1 (List.mem_of_getElem? (i := 75) rfl) rfl, tq1 (List.mem_of_getElem? (i := 6) rfl) rfl, by decide, by decide, by decide +kernel⟩
theorem inX4_init : Cond.instanceMethod yX4_init ∈ lw_w := tq1 (List.mem_of_getElem? (i := 74) rfl) rfl
theorem okX3_empty : mOK yX3_empty cX3_empty 1 none 0 := ⟨tq1 (List.mem_of_getElem? (i := 90) rfl) rfl, tq1 (List.mem_of_getElem? (i := 2) rfl) rfl, by decide, by decide, by decide +kernel⟩
theorem inX3_empty : mIN yX3_empty := ⟨tq1 (List.mem_of_getElem? (i := 88) rfl) rfl, tq1 (List.mem_of_getElem? (i := 89) rfl) rfl⟩
theorem okJ7_fill_d0a16 : mOK yJ7_fill_d0a16 cJ7_fill_d0a16 5 none 2 := ⟨tq1 (List.mem_of_getElem? (i := 93) rfl) rfl, tq1 (List.mem_of_getElem? (i := 7) rfl) rfl, by decide, by decide, by decide +kernel⟩
theorem inJ7_fill_d0a16 : Cond.static yJ7_fill_d0a16 ∈ lw_w := tq1 (List.mem_of_getElem? (i := 92) rfl) rfl
theorem okX5_begin : mOK yX5_begin cX5_begin 3 (some .int) 2 := ⟨tq1 (List.mem_of_getElem? (i := 137) rfl) rfl, tq1 (List.mem_of_getElem? (i := 1) rfl) rfl, by decide, by decide, by decide +kernel⟩
theorem inX5_begin : mIN yX5_begin := ⟨tq1 (List.mem_of_getElem? (i := 135) rfl) rfl, tq1 (List.mem_of_getElem? (i := 136) rfl) rfl⟩
theorem okX0_isOddPrime : mOK yX0_isOddPrime cX0_isOddPrime 2 (some .boolean) 1 := ⟨tq1 (List.mem_of_getElem? (i := 140) rfl) rfl, tq1 (List.mem_of_getElem? (i := 3) rfl) rfl, by decide, by decide, by decide +kernel⟩
theorem inX0_isOddPrime : Cond.static yX0_isOddPrime ∈ lw_w := tq1 (List.mem_of_getElem? (i := 139) rfl) rfl
theorem okX5_put : mOK yX5_put cX5_put 4 (some .int) 2 := ⟨tq1 (List.mem_of_getElem? (i := 144) rfl) rfl, tq1 (List.mem_of_getElem? (i := 1) rfl) rfl, by decide, by decide, by decide +kernel⟩
theorem inX5_put : mIN yX5_put := ⟨tq1 (List.mem_of_getElem? (i := 142) rfl) rfl, tq1 (List.mem_of_getElem? (i := 143) rfl) rfl⟩
theorem okX0_reduced : mOK yX0_reduced cX0_reduced 3 (some .long) 1 := ⟨tq1 (List.mem_of_getElem? (i := 148) rfl) rfl, tq1 (List.mem_of_getElem? (i := 3) rfl) rfl, by decide, by decide, by decide +kernel⟩
theorem inX0_reduced : mIN yX0_reduced := ⟨tq1 (List.mem_of_getElem? (i := 146) rfl) rfl, tq1 (List.mem_of_getElem? (i := 147) rfl) rfl⟩
theorem okJ9_floorMod_f86c9 : mOK yJ9_floorMod_f86c9 cJ9_floorMod_f86c9 6 (some .long) 2 := ⟨tq1 (List.mem_of_getElem? (i := 151) rfl) rfl, tq1 (List.mem_of_getElem? (i := 4) rfl) rfl, by decide, by decide, by decide +kernel⟩
theorem inJ9_floorMod_f86c9 : Cond.static yJ9_floorMod_f86c9 ∈ lw_w := tq1 (List.mem_of_getElem? (i := 150) rfl) rfl
theorem okX5_make : mOK yX5_make cX5_make 4 (some .int) 1 := ⟨tq1 (List.mem_of_getElem? (i := 155) rfl) rfl, tq1 (List.mem_of_getElem? (i := 1) rfl) rfl, by decide, by decide, by decide +kernel⟩
theorem inX5_make : mIN yX5_make := ⟨tq1 (List.mem_of_getElem? (i := 153) rfl) rfl, tq1 (List.mem_of_getElem? (i := 154) rfl) rfl⟩
theorem okX5_lengthOf : mOK yX5_lengthOf cX5_lengthOf 3 (some .int) 1 := ⟨tq1 (List.mem_of_getElem? (i := 159) rfl) rfl, tq1 (List.mem_of_getElem? (i := 1) rfl) rfl, by decide, by decide, by decide +kernel⟩
theorem inX5_lengthOf : mIN yX5_lengthOf := ⟨tq1 (List.mem_of_getElem? (i := 158) rfl) rfl, tp1 (List.mem_of_getElem? (i := 1) rfl)⟩
theorem okJ7_copyOf_c38d5 : mOK yJ7_copyOf_c38d5 cJ7_copyOf_c38d5 3 (some (.array .long)) 2 := ⟨tq1 (List.mem_of_getElem? (i := 162) rfl) rfl, tq1 (List.mem_of_getElem? (i := 7) rfl) rfl, by decide, by decide, by decide +kernel⟩
theorem inJ7_copyOf_c38d5 : Cond.static yJ7_copyOf_c38d5 ∈ lw_w := tq1 (List.mem_of_getElem? (i := 161) rfl) rfl
theorem okJ9_min_7cf53 : mOK yJ9_min_7cf53 cJ9_min_7cf53 2 (some .int) 2 := ⟨tq1 (List.mem_of_getElem? (i := 172) rfl) rfl, tq1 (List.mem_of_getElem? (i := 4) rfl) rfl, by decide, by decide, by decide +kernel⟩
theorem inJ9_min_7cf53 : Cond.static yJ9_min_7cf53 ∈ lw_w := tq1 (List.mem_of_getElem? (i := 171) rfl) rfl
theorem okX5_isRowOf : mOK yX5_isRowOf cX5_isRowOf 3 (some .boolean) 2 := ⟨tq1 (List.mem_of_getElem? (i := 179) rfl) rfl, tq1 (List.mem_of_getElem? (i := 1) rfl) rfl, by decide, by decide, by decide +kernel⟩
theorem inX5_isRowOf : mIN yX5_isRowOf := ⟨tq1 (List.mem_of_getElem? (i := 178) rfl) rfl, tp1 (List.mem_of_getElem? (i := 2) rfl)⟩
theorem okX4_linesMeet : mOK yX4_linesMeet cX4_linesMeet 3 (some .boolean) 2 := ⟨tq1 (List.mem_of_getElem? (i := 183) rfl) rfl, tq1 (List.mem_of_getElem? (i := 6) rfl) rfl, by decide, by decide, by decide +kernel⟩
theorem inX4_linesMeet : mIN yX4_linesMeet := ⟨tq1 (List.mem_of_getElem? (i := 181) rfl) rfl, tq1 (List.mem_of_getElem? (i := 182) rfl) rfl⟩
theorem okX4_flipped : mOK yX4_flipped cX4_flipped 6 (some (.array .long)) 1 := ⟨tq1 (List.mem_of_getElem? (i := 187) rfl) rfl, tq1 (List.mem_of_getElem? (i := 6) rfl) rfl, by decide, by decide, by decide +kernel⟩
theorem inX4_flipped : mIN yX4_flipped := ⟨tq1 (List.mem_of_getElem? (i := 185) rfl) rfl, tq1 (List.mem_of_getElem? (i := 186) rfl) rfl⟩
theorem okX0_negative : mOK yX0_negative cX0_negative 3 (some .long) 1 := ⟨tq1 (List.mem_of_getElem? (i := 191) rfl) rfl, tq1 (List.mem_of_getElem? (i := 3) rfl) rfl, by decide, by decide, by decide +kernel⟩
theorem inX0_negative : mIN yX0_negative := ⟨tq1 (List.mem_of_getElem? (i := 189) rfl) rfl, tq1 (List.mem_of_getElem? (i := 190) rfl) rfl⟩
theorem okX2_dot : mOK yX2_dot cX2_dot 6 (some .long) 2 := ⟨tq1 (List.mem_of_getElem? (i := 195) rfl) rfl, tq1 (List.mem_of_getElem? (i := 5) rfl) rfl, by decide, by decide, by decide +kernel⟩
theorem inX2_dot : mIN yX2_dot := ⟨tq1 (List.mem_of_getElem? (i := 193) rfl) rfl, tq1 (List.mem_of_getElem? (i := 194) rfl) rfl⟩
theorem okX0_times : mOK yX0_times cX0_times 5 (some .long) 2 := ⟨tq1 (List.mem_of_getElem? (i := 199) rfl) rfl, tq1 (List.mem_of_getElem? (i := 3) rfl) rfl, by decide, by decide, by decide +kernel⟩
theorem inX0_times : mIN yX0_times := ⟨tq1 (List.mem_of_getElem? (i := 197) rfl) rfl, tq1 (List.mem_of_getElem? (i := 198) rfl) rfl⟩
theorem okX0_plus : mOK yX0_plus cX0_plus 5 (some .long) 2 := ⟨tq1 (List.mem_of_getElem? (i := 203) rfl) rfl, tq1 (List.mem_of_getElem? (i := 3) rfl) rfl, by decide, by decide, by decide +kernel⟩
theorem inX0_plus : mIN yX0_plus := ⟨tq1 (List.mem_of_getElem? (i := 201) rfl) rfl, tq1 (List.mem_of_getElem? (i := 202) rfl) rfl⟩
theorem okX2_rankOfSquare : mOK yX2_rankOfSquare cX2_rankOfSquare 2 (some .int) 1 := ⟨tq1 (List.mem_of_getElem? (i := 207) rfl) rfl, tq1 (List.mem_of_getElem? (i := 5) rfl) rfl, by decide, by decide, by decide +kernel⟩
theorem inX2_rankOfSquare : mIN yX2_rankOfSquare := ⟨tq1 (List.mem_of_getElem? (i := 205) rfl) rfl, tq1 (List.mem_of_getElem? (i := 206) rfl) rfl⟩
theorem okX2_linesOf : mOK yX2_linesOf cX2_linesOf 5 (some (.array (.array .long))) 2 := ⟨tq1 (List.mem_of_getElem? (i := 211) rfl) rfl, tq1 (List.mem_of_getElem? (i := 5) rfl) rfl, by decide, by decide, by decide +kernel⟩
theorem inX2_linesOf : mIN yX2_linesOf := ⟨tq1 (List.mem_of_getElem? (i := 210) rfl) rfl, tp1 (List.mem_of_getElem? (i := 3) rfl)⟩
theorem okX2_eliminate : mOK yX2_eliminate cX2_eliminate 7 (some .int) 2 := ⟨tq1 (List.mem_of_getElem? (i := 218) rfl) rfl, tq1 (List.mem_of_getElem? (i := 5) rfl) rfl, by decide, by decide, by decide +kernel⟩
theorem inX2_eliminate : mIN yX2_eliminate := ⟨tq1 (List.mem_of_getElem? (i := 216) rfl) rfl, tq1 (List.mem_of_getElem? (i := 217) rfl) rfl⟩
theorem okX0_reciprocal : mOK yX0_reciprocal cX0_reciprocal 3 (some .long) 1 := ⟨tq1 (List.mem_of_getElem? (i := 222) rfl) rfl, tq1 (List.mem_of_getElem? (i := 3) rfl) rfl, by decide, by decide, by decide +kernel⟩
theorem inX0_reciprocal : mIN yX0_reciprocal := ⟨tq1 (List.mem_of_getElem? (i := 220) rfl) rfl, tq1 (List.mem_of_getElem? (i := 221) rfl) rfl⟩
theorem okX0_power : mOK yX0_power cX0_power 11 (some .long) 2 := ⟨tq1 (List.mem_of_getElem? (i := 227) rfl) rfl, tq1 (List.mem_of_getElem? (i := 3) rfl) rfl, by decide, by decide, by decide +kernel⟩
theorem inX0_power : mIN yX0_power := ⟨tq1 (List.mem_of_getElem? (i := 225) rfl) rfl, tq1 (List.mem_of_getElem? (i := 226) rfl) rfl⟩
theorem okX2_scale : mOK yX2_scale cX2_scale 5 none 2 := ⟨tq1 (List.mem_of_getElem? (i := 231) rfl) rfl, tq1 (List.mem_of_getElem? (i := 5) rfl) rfl, by decide, by decide, by decide +kernel⟩
theorem inX2_scale : mIN yX2_scale := ⟨tq1 (List.mem_of_getElem? (i := 230) rfl) rfl, tp1 (List.mem_of_getElem? (i := 4) rfl)⟩
theorem okX2_clearColumn : mOK yX2_clearColumn cX2_clearColumn 10 none 3 := ⟨tq1 (List.mem_of_getElem? (i := 235) rfl) rfl, tq1 (List.mem_of_getElem? (i := 5) rfl) rfl, by decide, by decide, by decide +kernel⟩
theorem inX2_clearColumn : mIN yX2_clearColumn := ⟨tq1 (List.mem_of_getElem? (i := 234) rfl) rfl, tp1 (List.mem_of_getElem? (i := 5) rfl)⟩
theorem okX0_minus : mOK yX0_minus cX0_minus 5 (some .long) 2 := ⟨tq1 (List.mem_of_getElem? (i := 239) rfl) rfl, tq1 (List.mem_of_getElem? (i := 3) rfl) rfl, by decide, by decide, by decide +kernel⟩
theorem inX0_minus : mIN yX0_minus := ⟨tq1 (List.mem_of_getElem? (i := 237) rfl) rfl, tq1 (List.mem_of_getElem? (i := 238) rfl) rfl⟩
theorem okX2_turned : mOK yX2_turned cX2_turned 5 (some (.array .long)) 1 := ⟨tq2 (List.mem_of_getElem? (i := 3) rfl) rfl, tq1 (List.mem_of_getElem? (i := 5) rfl) rfl, by decide, by decide, by decide +kernel⟩
theorem inX2_turned : mIN yX2_turned := ⟨tq2 (List.mem_of_getElem? (i := 1) rfl) rfl, tq2 (List.mem_of_getElem? (i := 2) rfl) rfl⟩
theorem okX2_isSame : mOK yX2_isSame cX2_isSame 3 (some .boolean) 2 := ⟨tq2 (List.mem_of_getElem? (i := 6) rfl) rfl, tq1 (List.mem_of_getElem? (i := 5) rfl) rfl, by decide, by decide, by decide +kernel⟩
theorem inX2_isSame : Cond.static yX2_isSame ∈ lw_w := tq2 (List.mem_of_getElem? (i := 5) rfl) rfl
theorem okX5_keep : mOK yX5_keep cX5_keep 3 (some .int) 2 := ⟨tq2 (List.mem_of_getElem? (i := 10) rfl) rfl, tq1 (List.mem_of_getElem? (i := 1) rfl) rfl, by decide, by decide, by decide +kernel⟩
theorem inX5_keep : mIN yX5_keep := ⟨tq2 (List.mem_of_getElem? (i := 9) rfl) rfl, tp1 (List.mem_of_getElem? (i := 6) rfl)⟩
theorem okX2_isZero : mOK yX2_isZero cX2_isZero 1 (some .boolean) 1 := ⟨tq2 (List.mem_of_getElem? (i := 13) rfl) rfl, tq1 (List.mem_of_getElem? (i := 5) rfl) rfl, by decide, by decide, by decide +kernel⟩
theorem inX2_isZero : Cond.static yX2_isZero ∈ lw_w := tq2 (List.mem_of_getElem? (i := 12) rfl) rfl
theorem okX2_lead : mOK yX2_lead cX2_lead 2 (some .int) 1 := ⟨tq2 (List.mem_of_getElem? (i := 16) rfl) rfl, tq1 (List.mem_of_getElem? (i := 5) rfl) rfl, by decide, by decide, by decide +kernel⟩
theorem inX2_lead : Cond.static yX2_lead ∈ lw_w := tq2 (List.mem_of_getElem? (i := 15) rfl) rfl
theorem okX2_normal : mOK yX2_normal cX2_normal 4 (some (.array .long)) 1 := ⟨tq2 (List.mem_of_getElem? (i := 20) rfl) rfl, tq1 (List.mem_of_getElem? (i := 5) rfl) rfl, by decide, by decide, by decide +kernel⟩
theorem inX2_normal : mIN yX2_normal := ⟨tq2 (List.mem_of_getElem? (i := 18) rfl) rfl, tq2 (List.mem_of_getElem? (i := 19) rfl) rfl⟩
theorem okX3_place : mOK yX3_place cX3_place 4 (some .int) 2 := ⟨tq2 (List.mem_of_getElem? (i := 26) rfl) rfl, tq1 (List.mem_of_getElem? (i := 2) rfl) rfl, by decide, by decide, by decide +kernel⟩
theorem inX3_place : mIN yX3_place := ⟨tq2 (List.mem_of_getElem? (i := 24) rfl) rfl, tq2 (List.mem_of_getElem? (i := 25) rfl) rfl⟩
theorem okX1_init : mOK yX1_init cX1_init 3 none 2 := ⟨tq2 (List.mem_of_getElem? (i := 31) rfl) rfl, tq1 (List.mem_of_getElem? (i := 10) rfl) rfl, by decide, by decide, by decide +kernel⟩
theorem inX1_init : Cond.instanceMethod yX1_init ∈ lw_w := tq2 (List.mem_of_getElem? (i := 30) rfl) rfl
theorem okX5_number : mOK yX5_number cX5_number 4 (some .int) 2 := ⟨tq2 (List.mem_of_getElem? (i := 47) rfl) rfl, tq1 (List.mem_of_getElem? (i := 1) rfl) rfl, by decide, by decide, by decide +kernel⟩
theorem inX5_number : mIN yX5_number := ⟨tq2 (List.mem_of_getElem? (i := 45) rfl) rfl, tq2 (List.mem_of_getElem? (i := 46) rfl) rfl⟩
theorem okX3_item : mOK yX3_item cX3_item 2 (some (.object "ProjectiveRows$Item")) 1 := ⟨tq2 (List.mem_of_getElem? (i := 51) rfl) rfl, tq1 (List.mem_of_getElem? (i := 2) rfl) rfl, by decide, by decide, by decide +kernel⟩
theorem inX3_item : mIN yX3_item := ⟨tq2 (List.mem_of_getElem? (i := 49) rfl) rfl, tq2 (List.mem_of_getElem? (i := 50) rfl) rfl⟩
theorem okX5_sort : mOK yX5_sort cX5_sort 3 (some .int) 1 := ⟨tq2 (List.mem_of_getElem? (i := 55) rfl) rfl, tq1 (List.mem_of_getElem? (i := 1) rfl) rfl, by decide, by decide, by decide +kernel⟩
theorem inX5_sort : mIN yX5_sort := ⟨tq2 (List.mem_of_getElem? (i := 53) rfl) rfl, tq2 (List.mem_of_getElem? (i := 54) rfl) rfl⟩
theorem okX5_join : mOK yX5_join cX5_join 5 (some .int) 2 := ⟨tq2 (List.mem_of_getElem? (i := 59) rfl) rfl, tq1 (List.mem_of_getElem? (i := 1) rfl) rfl, by decide, by decide, by decide +kernel⟩
theorem inX5_join : mIN yX5_join := ⟨tq2 (List.mem_of_getElem? (i := 57) rfl) rfl, tq2 (List.mem_of_getElem? (i := 58) rfl) rfl⟩
theorem okX3_lower : mOK yX3_lower cX3_lower 5 (some (.object "ProjectiveRows$Item")) 2 := ⟨tq2 (List.mem_of_getElem? (i := 63) rfl) rfl, tq1 (List.mem_of_getElem? (i := 2) rfl) rfl, by decide, by decide, by decide +kernel⟩
theorem inX3_lower : mIN yX3_lower := ⟨tq2 (List.mem_of_getElem? (i := 61) rfl) rfl, tq2 (List.mem_of_getElem? (i := 62) rfl) rfl⟩
theorem okX3_higher : mOK yX3_higher cX3_higher 5 (some (.object "ProjectiveRows$Item")) 2 := ⟨tq2 (List.mem_of_getElem? (i := 68) rfl) rfl, tq1 (List.mem_of_getElem? (i := 2) rfl) rfl, by decide, by decide, by decide +kernel⟩
theorem inX3_higher : mIN yX3_higher := ⟨tq2 (List.mem_of_getElem? (i := 66) rfl) rfl, tq2 (List.mem_of_getElem? (i := 67) rfl) rfl⟩
theorem okX4_lineThrough : mOK yX4_lineThrough cX4_lineThrough 4 (some (.array .long)) 2 := ⟨tq2 (List.mem_of_getElem? (i := 72) rfl) rfl, tq1 (List.mem_of_getElem? (i := 6) rfl) rfl, by decide, by decide, by decide +kernel⟩
theorem inX4_lineThrough : mIN yX4_lineThrough := ⟨tq2 (List.mem_of_getElem? (i := 70) rfl) rfl, tq2 (List.mem_of_getElem? (i := 71) rfl) rfl⟩
theorem okX4_wedge : mOK yX4_wedge cX4_wedge 7 (some (.array .long)) 2 := ⟨tq2 (List.mem_of_getElem? (i := 76) rfl) rfl, tq1 (List.mem_of_getElem? (i := 6) rfl) rfl, by decide, by decide, by decide +kernel⟩
theorem inX4_wedge : mIN yX4_wedge := ⟨tq2 (List.mem_of_getElem? (i := 74) rfl) rfl, tq2 (List.mem_of_getElem? (i := 75) rfl) rfl⟩
theorem okX4_isPlane : mOK yX4_isPlane cX4_isPlane 1 (some .boolean) 0 := ⟨tq2 (List.mem_of_getElem? (i := 82) rfl) rfl, tq1 (List.mem_of_getElem? (i := 6) rfl) rfl, by decide, by decide, by decide +kernel⟩
theorem inX4_isPlane : mIN yX4_isPlane := ⟨tq2 (List.mem_of_getElem? (i := 81) rfl) rfl, tp1 (List.mem_of_getElem? (i := 7) rfl)⟩
theorem okX4_planeThrough : mOK yX4_planeThrough cX4_planeThrough 3 (some (.array .long)) 2 := ⟨tq2 (List.mem_of_getElem? (i := 86) rfl) rfl, tq1 (List.mem_of_getElem? (i := 6) rfl) rfl, by decide, by decide, by decide +kernel⟩
theorem inX4_planeThrough : mIN yX4_planeThrough := ⟨tq2 (List.mem_of_getElem? (i := 84) rfl) rfl, tq2 (List.mem_of_getElem? (i := 85) rfl) rfl⟩
theorem okX4_skew : mOK yX4_skew cX4_skew 6 (some (.array .long)) 1 := ⟨tq2 (List.mem_of_getElem? (i := 90) rfl) rfl, tq1 (List.mem_of_getElem? (i := 6) rfl) rfl, by decide, by decide, by decide +kernel⟩
theorem inX4_skew : mIN yX4_skew := ⟨tq2 (List.mem_of_getElem? (i := 89) rfl) rfl, tp1 (List.mem_of_getElem? (i := 8) rfl)⟩
theorem okX2_image : mOK yX2_image cX2_image 4 (some (.array .long)) 2 := ⟨tq2 (List.mem_of_getElem? (i := 94) rfl) rfl, tq1 (List.mem_of_getElem? (i := 5) rfl) rfl, by decide, by decide, by decide +kernel⟩
theorem inX2_image : mIN yX2_image := ⟨tq2 (List.mem_of_getElem? (i := 92) rfl) rfl, tq2 (List.mem_of_getElem? (i := 93) rfl) rfl⟩
theorem okX2_imageInto : mOK yX2_imageInto cX2_imageInto 8 none 3 := ⟨tq2 (List.mem_of_getElem? (i := 98) rfl) rfl, tq1 (List.mem_of_getElem? (i := 5) rfl) rfl, by decide, by decide, by decide +kernel⟩
theorem inX2_imageInto : mIN yX2_imageInto := ⟨tq2 (List.mem_of_getElem? (i := 97) rfl) rfl, tp1 (List.mem_of_getElem? (i := 9) rfl)⟩
theorem okX4_planeOfLines : mOK yX4_planeOfLines cX4_planeOfLines 3 (some (.array .long)) 2 := ⟨tq2 (List.mem_of_getElem? (i := 102) rfl) rfl, tq1 (List.mem_of_getElem? (i := 6) rfl) rfl, by decide, by decide, by decide +kernel⟩
theorem inX4_planeOfLines : mIN yX4_planeOfLines := ⟨tq2 (List.mem_of_getElem? (i := 100) rfl) rfl, tq2 (List.mem_of_getElem? (i := 101) rfl) rfl⟩
theorem okX4_pointOfLines : mOK yX4_pointOfLines cX4_pointOfLines 6 (some (.array .long)) 2 := ⟨tq2 (List.mem_of_getElem? (i := 106) rfl) rfl, tq1 (List.mem_of_getElem? (i := 6) rfl) rfl, by decide, by decide, by decide +kernel⟩
theorem inX4_pointOfLines : mIN yX4_pointOfLines := ⟨tq2 (List.mem_of_getElem? (i := 104) rfl) rfl, tq2 (List.mem_of_getElem? (i := 105) rfl) rfl⟩
theorem okX4_baseOfWedge : mOK yX4_baseOfWedge cX4_baseOfWedge 9 (some (.array (.array .long))) 1 := ⟨tq2 (List.mem_of_getElem? (i := 111) rfl) rfl, tq1 (List.mem_of_getElem? (i := 6) rfl) rfl, by decide, by decide, by decide +kernel⟩
theorem inX4_baseOfWedge : mIN yX4_baseOfWedge := ⟨tq2 (List.mem_of_getElem? (i := 110) rfl) rfl, tp1 (List.mem_of_getElem? (i := 10) rfl)⟩
theorem okX4_lineOf : mOK yX4_lineOf cX4_lineOf 7 (some (.array .long)) 3 := ⟨tq2 (List.mem_of_getElem? (i := 117) rfl) rfl, tq1 (List.mem_of_getElem? (i := 6) rfl) rfl, by decide, by decide, by decide +kernel⟩
theorem inX4_lineOf : mIN yX4_lineOf := ⟨tq2 (List.mem_of_getElem? (i := 116) rfl) rfl, tp1 (List.mem_of_getElem? (i := 11) rfl)⟩
theorem okX4_pointOnPlane : mOK yX4_pointOnPlane cX4_pointOnPlane 3 (some (.array .long)) 2 := ⟨tq2 (List.mem_of_getElem? (i := 122) rfl) rfl, tq1 (List.mem_of_getElem? (i := 6) rfl) rfl, by decide, by decide, by decide +kernel⟩
theorem inX4_pointOnPlane : mIN yX4_pointOnPlane := ⟨tq2 (List.mem_of_getElem? (i := 120) rfl) rfl, tq2 (List.mem_of_getElem? (i := 121) rfl) rfl⟩
theorem okX5_meet : mOK yX5_meet cX5_meet 5 (some .int) 2 := ⟨tq2 (List.mem_of_getElem? (i := 127) rfl) rfl, tq1 (List.mem_of_getElem? (i := 1) rfl) rfl, by decide, by decide, by decide +kernel⟩
theorem inX5_meet : mIN yX5_meet := ⟨tq2 (List.mem_of_getElem? (i := 125) rfl) rfl, tq2 (List.mem_of_getElem? (i := 126) rfl) rfl⟩
theorem okX5_isBetweenLineAndFlat : mOK yX5_isBetweenLineAndFlat cX5_isBetweenLineAndFlat 2 (some .boolean) 1 := ⟨tq2 (List.mem_of_getElem? (i := 131) rfl) rfl, tq1 (List.mem_of_getElem? (i := 1) rfl) rfl, by decide, by decide, by decide +kernel⟩
theorem inX5_isBetweenLineAndFlat : mIN yX5_isBetweenLineAndFlat := ⟨tq2 (List.mem_of_getElem? (i := 130) rfl) rfl, tp1 (List.mem_of_getElem? (i := 12) rfl)⟩
theorem okX4_crossing : mOK yX4_crossing cX4_crossing 3 (some (.array .long)) 2 := ⟨tq2 (List.mem_of_getElem? (i := 135) rfl) rfl, tq1 (List.mem_of_getElem? (i := 6) rfl) rfl, by decide, by decide, by decide +kernel⟩
theorem inX4_crossing : mIN yX4_crossing := ⟨tq2 (List.mem_of_getElem? (i := 133) rfl) rfl, tq2 (List.mem_of_getElem? (i := 134) rfl) rfl⟩
theorem okX5_on : mOK yX5_on cX5_on 5 (some .int) 2 := ⟨tq2 (List.mem_of_getElem? (i := 141) rfl) rfl, tq1 (List.mem_of_getElem? (i := 1) rfl) rfl, by decide, by decide, by decide +kernel⟩
theorem inX5_on : mIN yX5_on := ⟨tq2 (List.mem_of_getElem? (i := 139) rfl) rfl, tq2 (List.mem_of_getElem? (i := 140) rfl) rfl⟩
theorem okX5_pointIsOn : mOK yX5_pointIsOn cX5_pointIsOn 3 (some .int) 2 := ⟨tq2 (List.mem_of_getElem? (i := 145) rfl) rfl, tq1 (List.mem_of_getElem? (i := 1) rfl) rfl, by decide, by decide, by decide +kernel⟩
theorem inX5_pointIsOn : mIN yX5_pointIsOn := ⟨tq2 (List.mem_of_getElem? (i := 144) rfl) rfl, tp1 (List.mem_of_getElem? (i := 13) rfl)⟩
theorem okX5_oneIf : mOK yX5_oneIf cX5_oneIf 1 (some .int) 1 := ⟨tq2 (List.mem_of_getElem? (i := 149) rfl) rfl, tq1 (List.mem_of_getElem? (i := 1) rfl) rfl, by decide, by decide, by decide +kernel⟩
theorem inX5_oneIf : Cond.static yX5_oneIf ∈ lw_w := tq2 (List.mem_of_getElem? (i := 148) rfl) rfl
theorem okX4_pointIsOnLine : mOK yX4_pointIsOnLine cX4_pointIsOnLine 3 (some .boolean) 2 := ⟨tq2 (List.mem_of_getElem? (i := 153) rfl) rfl, tq1 (List.mem_of_getElem? (i := 6) rfl) rfl, by decide, by decide, by decide +kernel⟩
theorem inX4_pointIsOnLine : mIN yX4_pointIsOnLine := ⟨tq2 (List.mem_of_getElem? (i := 151) rfl) rfl, tq2 (List.mem_of_getElem? (i := 152) rfl) rfl⟩
theorem okX2_form : mOK yX2_form cX2_form 4 (some .long) 3 := ⟨tq2 (List.mem_of_getElem? (i := 158) rfl) rfl, tq1 (List.mem_of_getElem? (i := 5) rfl) rfl, by decide, by decide, by decide +kernel⟩
theorem inX2_form : mIN yX2_form := ⟨tq2 (List.mem_of_getElem? (i := 156) rfl) rfl, tq2 (List.mem_of_getElem? (i := 157) rfl) rfl⟩
theorem okX4_lineIsOnPlane : mOK yX4_lineIsOnPlane cX4_lineIsOnPlane 3 (some .boolean) 2 := ⟨tq2 (List.mem_of_getElem? (i := 164) rfl) rfl, tq1 (List.mem_of_getElem? (i := 6) rfl) rfl, by decide, by decide, by decide +kernel⟩
theorem inX4_lineIsOnPlane : mIN yX4_lineIsOnPlane := ⟨tq2 (List.mem_of_getElem? (i := 162) rfl) rfl, tq2 (List.mem_of_getElem? (i := 163) rfl) rfl⟩
theorem okX5_cross : mOK yX5_cross cX5_cross 6 (some .long) 4 := ⟨tq2 (List.mem_of_getElem? (i := 168) rfl) rfl, tq1 (List.mem_of_getElem? (i := 1) rfl) rfl, by decide, by decide, by decide +kernel⟩
theorem inX5_cross : mIN yX5_cross := ⟨tq2 (List.mem_of_getElem? (i := 166) rfl) rfl, tq2 (List.mem_of_getElem? (i := 167) rfl) rfl⟩
theorem okX5_rowsOfOneSort : mOK yX5_rowsOfOneSort cX5_rowsOfOneSort 5 (some (.array (.array .long))) 1 := ⟨tq2 (List.mem_of_getElem? (i := 172) rfl) rfl, tq1 (List.mem_of_getElem? (i := 1) rfl) rfl, by decide, by decide, by decide +kernel⟩
theorem inX5_rowsOfOneSort : mIN yX5_rowsOfOneSort := ⟨tq2 (List.mem_of_getElem? (i := 171) rfl) rfl, tp1 (List.mem_of_getElem? (i := 14) rfl)⟩
theorem okX3_row : mOK yX3_row cX3_row 4 (some (.array .long)) 2 := ⟨tq2 (List.mem_of_getElem? (i := 177) rfl) rfl, tq1 (List.mem_of_getElem? (i := 2) rfl) rfl, by decide, by decide, by decide +kernel⟩
theorem inX3_row : mIN yX3_row := ⟨tq2 (List.mem_of_getElem? (i := 175) rfl) rfl, tq2 (List.mem_of_getElem? (i := 176) rfl) rfl⟩
theorem okX2_rankOf : mOK yX2_rankOf cX2_rankOf 4 (some .int) 1 := ⟨tq2 (List.mem_of_getElem? (i := 182) rfl) rfl, tq1 (List.mem_of_getElem? (i := 5) rfl) rfl, by decide, by decide, by decide +kernel⟩
theorem inX2_rankOf : mIN yX2_rankOf := ⟨tq2 (List.mem_of_getElem? (i := 180) rfl) rfl, tq2 (List.mem_of_getElem? (i := 181) rfl) rfl⟩
theorem okX4_crossRatio : mOK yX4_crossRatio cX4_crossRatio 7 (some .long) 1 := ⟨tq2 (List.mem_of_getElem? (i := 186) rfl) rfl, tq1 (List.mem_of_getElem? (i := 6) rfl) rfl, by decide, by decide, by decide +kernel⟩
theorem inX4_crossRatio : mIN yX4_crossRatio := ⟨tq2 (List.mem_of_getElem? (i := 184) rfl) rfl, tq2 (List.mem_of_getElem? (i := 185) rfl) rfl⟩
theorem okX4_placeOfBrackets : mOK yX4_placeOfBrackets cX4_placeOfBrackets 4 (some .int) 1 := ⟨tq2 (List.mem_of_getElem? (i := 190) rfl) rfl, tq1 (List.mem_of_getElem? (i := 6) rfl) rfl, by decide, by decide, by decide +kernel⟩
theorem inX4_placeOfBrackets : mIN yX4_placeOfBrackets := ⟨tq2 (List.mem_of_getElem? (i := 189) rfl) rfl, tp1 (List.mem_of_getElem? (i := 15) rfl)⟩
theorem okX4_bracket : mOK yX4_bracket cX4_bracket 4 (some .long) 3 := ⟨tq2 (List.mem_of_getElem? (i := 195) rfl) rfl, tq1 (List.mem_of_getElem? (i := 6) rfl) rfl, by decide, by decide, by decide +kernel⟩
theorem inX4_bracket : mIN yX4_bracket := ⟨tq2 (List.mem_of_getElem? (i := 194) rfl) rfl, tp2 (List.mem_of_getElem? (i := 0) rfl)⟩
theorem okX5_fourth : mOK yX5_fourth cX5_fourth 8 (some .int) 4 := ⟨tq2 (List.mem_of_getElem? (i := 201) rfl) rfl, tq1 (List.mem_of_getElem? (i := 1) rfl) rfl, by decide, by decide, by decide +kernel⟩
theorem inX5_fourth : mIN yX5_fourth := ⟨tq2 (List.mem_of_getElem? (i := 199) rfl) rfl, tq2 (List.mem_of_getElem? (i := 200) rfl) rfl⟩
theorem okX4_fourthOf : mOK yX4_fourthOf cX4_fourthOf 9 (some (.array .long)) 2 := ⟨tq2 (List.mem_of_getElem? (i := 205) rfl) rfl, tq1 (List.mem_of_getElem? (i := 6) rfl) rfl, by decide, by decide, by decide +kernel⟩
theorem inX4_fourthOf : mIN yX4_fourthOf := ⟨tq2 (List.mem_of_getElem? (i := 203) rfl) rfl, tq2 (List.mem_of_getElem? (i := 204) rfl) rfl⟩
theorem okX2_sum : mOK yX2_sum cX2_sum 9 (some (.array .long)) 4 := ⟨tq2 (List.mem_of_getElem? (i := 209) rfl) rfl, tq1 (List.mem_of_getElem? (i := 5) rfl) rfl, by decide, by decide, by decide +kernel⟩
theorem inX2_sum : mIN yX2_sum := ⟨tq2 (List.mem_of_getElem? (i := 207) rfl) rfl, tq2 (List.mem_of_getElem? (i := 208) rfl) rfl⟩
theorem okX5_pair : mOK yX5_pair cX5_pair 3 (some .int) 2 := ⟨tq2 (List.mem_of_getElem? (i := 213) rfl) rfl, tq1 (List.mem_of_getElem? (i := 1) rfl) rfl, by decide, by decide, by decide +kernel⟩
theorem inX5_pair : mIN yX5_pair := ⟨tq2 (List.mem_of_getElem? (i := 211) rfl) rfl, tq2 (List.mem_of_getElem? (i := 212) rfl) rfl⟩
theorem okX5_map : mOK yX5_map cX5_map 5 (some .int) 0 := ⟨tq2 (List.mem_of_getElem? (i := 217) rfl) rfl, tq1 (List.mem_of_getElem? (i := 1) rfl) rfl, by decide, by decide, by decide +kernel⟩
theorem inX5_map : mIN yX5_map := ⟨tq2 (List.mem_of_getElem? (i := 215) rfl) rfl, tq2 (List.mem_of_getElem? (i := 216) rfl) rfl⟩
theorem okX5_pointRows : mOK yX5_pointRows cX5_pointRows 6 (some (.array (.array .long))) 2 := ⟨tq2 (List.mem_of_getElem? (i := 221) rfl) rfl, tq1 (List.mem_of_getElem? (i := 1) rfl) rfl, by decide, by decide, by decide +kernel⟩
theorem inX5_pointRows : mIN yX5_pointRows := ⟨tq2 (List.mem_of_getElem? (i := 220) rfl) rfl, tp2 (List.mem_of_getElem? (i := 1) rfl)⟩
theorem okX2_frameOf : mOK yX2_frameOf cX2_frameOf 8 (some (.array .long)) 1 := ⟨tq2 (List.mem_of_getElem? (i := 225) rfl) rfl, tq1 (List.mem_of_getElem? (i := 5) rfl) rfl, by decide, by decide, by decide +kernel⟩
theorem inX2_frameOf : mIN yX2_frameOf := ⟨tq2 (List.mem_of_getElem? (i := 223) rfl) rfl, tq2 (List.mem_of_getElem? (i := 224) rfl) rfl⟩
theorem okX2_inverted : mOK yX2_inverted cX2_inverted 5 (some (.array .long)) 1 := ⟨tq2 (List.mem_of_getElem? (i := 229) rfl) rfl, tq1 (List.mem_of_getElem? (i := 5) rfl) rfl, by decide, by decide, by decide +kernel⟩
theorem inX2_inverted : mIN yX2_inverted := ⟨tq2 (List.mem_of_getElem? (i := 227) rfl) rfl, tq2 (List.mem_of_getElem? (i := 228) rfl) rfl⟩
theorem okX2_product : mOK yX2_product cX2_product 9 (some (.array .long)) 2 := ⟨tq2 (List.mem_of_getElem? (i := 233) rfl) rfl, tq1 (List.mem_of_getElem? (i := 5) rfl) rfl, by decide, by decide, by decide +kernel⟩
theorem inX2_product : mIN yX2_product := ⟨tq2 (List.mem_of_getElem? (i := 231) rfl) rfl, tq2 (List.mem_of_getElem? (i := 232) rfl) rfl⟩
theorem okX5_apply : mOK yX5_apply cX5_apply 6 (some .int) 2 := ⟨tq2 (List.mem_of_getElem? (i := 237) rfl) rfl, tq1 (List.mem_of_getElem? (i := 1) rfl) rfl, by decide, by decide, by decide +kernel⟩
theorem inX5_apply : mIN yX5_apply := ⟨tq2 (List.mem_of_getElem? (i := 235) rfl) rfl, tq2 (List.mem_of_getElem? (i := 236) rfl) rfl⟩
theorem okX4_lineImage : mOK yX4_lineImage cX4_lineImage 4 (some (.array .long)) 2 := ⟨tq3 (List.mem_of_getElem? (i := 2) rfl) rfl, tq1 (List.mem_of_getElem? (i := 6) rfl) rfl, by decide, by decide, by decide +kernel⟩
theorem inX4_lineImage : mIN yX4_lineImage := ⟨tq3 (List.mem_of_getElem? (i := 0) rfl) rfl, tq3 (List.mem_of_getElem? (i := 1) rfl) rfl⟩
theorem okX4_baseOfLine : mOK yX4_baseOfLine cX4_baseOfLine 2 (some (.array (.array .long))) 1 := ⟨tq3 (List.mem_of_getElem? (i := 6) rfl) rfl, tq1 (List.mem_of_getElem? (i := 6) rfl) rfl, by decide, by decide, by decide +kernel⟩
theorem inX4_baseOfLine : mIN yX4_baseOfLine := ⟨tq3 (List.mem_of_getElem? (i := 4) rfl) rfl, tq3 (List.mem_of_getElem? (i := 5) rfl) rfl⟩
theorem okX5_compose : mOK yX5_compose cX5_compose 5 (some .int) 2 := ⟨tq3 (List.mem_of_getElem? (i := 10) rfl) rfl, tq1 (List.mem_of_getElem? (i := 1) rfl) rfl, by decide, by decide, by decide +kernel⟩
theorem inX5_compose : mIN yX5_compose := ⟨tq3 (List.mem_of_getElem? (i := 8) rfl) rfl, tq3 (List.mem_of_getElem? (i := 9) rfl) rfl⟩
theorem okX5_inverse : mOK yX5_inverse cX5_inverse 3 (some .int) 1 := ⟨tq3 (List.mem_of_getElem? (i := 14) rfl) rfl, tq1 (List.mem_of_getElem? (i := 1) rfl) rfl, by decide, by decide, by decide +kernel⟩
theorem inX5_inverse : mIN yX5_inverse := ⟨tq3 (List.mem_of_getElem? (i := 12) rfl) rfl, tq3 (List.mem_of_getElem? (i := 13) rfl) rfl⟩
theorem okX5_order : mOK yX5_order cX5_order 6 (some .int) 1 := ⟨tq3 (List.mem_of_getElem? (i := 18) rfl) rfl, tq1 (List.mem_of_getElem? (i := 1) rfl) rfl, by decide, by decide, by decide +kernel⟩
theorem inX5_order : mIN yX5_order := ⟨tq3 (List.mem_of_getElem? (i := 16) rfl) rfl, tq3 (List.mem_of_getElem? (i := 17) rfl) rfl⟩
theorem okX2_framePoint : mOK yX2_framePoint cX2_framePoint 3 (some (.array .long)) 1 := ⟨tq3 (List.mem_of_getElem? (i := 22) rfl) rfl, tq1 (List.mem_of_getElem? (i := 5) rfl) rfl, by decide, by decide, by decide +kernel⟩
theorem inX2_framePoint : mIN yX2_framePoint := ⟨tq3 (List.mem_of_getElem? (i := 20) rfl) rfl, tq3 (List.mem_of_getElem? (i := 21) rfl) rfl⟩
theorem okX2_timesUntilBack : mOK yX2_timesUntilBack cX2_timesUntilBack 8 (some .int) 3 := ⟨tq3 (List.mem_of_getElem? (i := 27) rfl) rfl, tq1 (List.mem_of_getElem? (i := 5) rfl) rfl, by decide, by decide, by decide +kernel⟩
theorem inX2_timesUntilBack : mIN yX2_timesUntilBack := ⟨tq3 (List.mem_of_getElem? (i := 25) rfl) rfl, tq3 (List.mem_of_getElem? (i := 26) rfl) rfl⟩
theorem okX2_isMultiple : mOK yX2_isMultiple cX2_isMultiple 5 (some .boolean) 2 := ⟨tq3 (List.mem_of_getElem? (i := 31) rfl) rfl, tq1 (List.mem_of_getElem? (i := 5) rfl) rfl, by decide, by decide, by decide +kernel⟩
theorem inX2_isMultiple : mIN yX2_isMultiple := ⟨tq3 (List.mem_of_getElem? (i := 30) rfl) rfl, tp2 (List.mem_of_getElem? (i := 2) rfl)⟩
theorem okX2_power : mOK yX2_power cX2_power 6 (some (.array .long)) 2 := ⟨tq3 (List.mem_of_getElem? (i := 35) rfl) rfl, tq1 (List.mem_of_getElem? (i := 5) rfl) rfl, by decide, by decide, by decide +kernel⟩
theorem inX2_power : mIN yX2_power := ⟨tq3 (List.mem_of_getElem? (i := 33) rfl) rfl, tq3 (List.mem_of_getElem? (i := 34) rfl) rfl⟩
theorem okX5_gather : mOK yX5_gather cX5_gather 2 (some .int) 1 := ⟨tq3 (List.mem_of_getElem? (i := 40) rfl) rfl, tq1 (List.mem_of_getElem? (i := 1) rfl) rfl, by decide, by decide, by decide +kernel⟩
theorem inX5_gather : mIN yX5_gather := ⟨tq3 (List.mem_of_getElem? (i := 38) rfl) rfl, tq3 (List.mem_of_getElem? (i := 39) rfl) rfl⟩
theorem okX5_forget : mOK yX5_forget cX5_forget 2 (some .int) 0 := ⟨tq3 (List.mem_of_getElem? (i := 44) rfl) rfl, tq1 (List.mem_of_getElem? (i := 1) rfl) rfl, by decide, by decide, by decide +kernel⟩
theorem inX5_forget : mIN yX5_forget := ⟨tq3 (List.mem_of_getElem? (i := 42) rfl) rfl, tq3 (List.mem_of_getElem? (i := 43) rfl) rfl⟩
theorem okX5_quadric : mOK yX5_quadric cX5_quadric 2 (some .int) 0 := ⟨tq3 (List.mem_of_getElem? (i := 48) rfl) rfl, tq1 (List.mem_of_getElem? (i := 1) rfl) rfl, by decide, by decide, by decide +kernel⟩
theorem inX5_quadric : mIN yX5_quadric := ⟨tq3 (List.mem_of_getElem? (i := 46) rfl) rfl, tq3 (List.mem_of_getElem? (i := 47) rfl) rfl⟩
theorem okX4_quadricThrough : mOK yX4_quadricThrough cX4_quadricThrough 8 (some (.array .long)) 1 := ⟨tq3 (List.mem_of_getElem? (i := 52) rfl) rfl, tq1 (List.mem_of_getElem? (i := 6) rfl) rfl, by decide, by decide, by decide +kernel⟩
theorem inX4_quadricThrough : mIN yX4_quadricThrough := ⟨tq3 (List.mem_of_getElem? (i := 50) rfl) rfl, tq3 (List.mem_of_getElem? (i := 51) rfl) rfl⟩
theorem okX4_quadricConditions : mOK yX4_quadricConditions cX4_quadricConditions 9 (some (.array (.array .long))) 1 := ⟨tq3 (List.mem_of_getElem? (i := 56) rfl) rfl, tq1 (List.mem_of_getElem? (i := 6) rfl) rfl, by decide, by decide, by decide +kernel⟩
theorem inX4_quadricConditions : mIN yX4_quadricConditions := ⟨tq3 (List.mem_of_getElem? (i := 54) rfl) rfl, tq3 (List.mem_of_getElem? (i := 55) rfl) rfl⟩
theorem okX2_onlySolution : mOK yX2_onlySolution cX2_onlySolution 6 (some (.array .long)) 2 := ⟨tq3 (List.mem_of_getElem? (i := 61) rfl) rfl, tq1 (List.mem_of_getElem? (i := 5) rfl) rfl, by decide, by decide, by decide +kernel⟩
theorem inX2_onlySolution : mIN yX2_onlySolution := ⟨tq3 (List.mem_of_getElem? (i := 59) rfl) rfl, tq3 (List.mem_of_getElem? (i := 60) rfl) rfl⟩
theorem okX5_rank : mOK yX5_rank cX5_rank 3 (some .int) 1 := ⟨tq3 (List.mem_of_getElem? (i := 66) rfl) rfl, tq1 (List.mem_of_getElem? (i := 1) rfl) rfl, by decide, by decide, by decide +kernel⟩
theorem inX5_rank : mIN yX5_rank := ⟨tq3 (List.mem_of_getElem? (i := 64) rfl) rfl, tq3 (List.mem_of_getElem? (i := 65) rfl) rfl⟩
theorem okX5_polar : mOK yX5_polar cX5_polar 6 (some .int) 2 := ⟨tq3 (List.mem_of_getElem? (i := 70) rfl) rfl, tq1 (List.mem_of_getElem? (i := 1) rfl) rfl, by decide, by decide, by decide +kernel⟩
theorem inX5_polar : mIN yX5_polar := ⟨tq3 (List.mem_of_getElem? (i := 68) rfl) rfl, tq3 (List.mem_of_getElem? (i := 69) rfl) rfl⟩
theorem okX5_touches : mOK yX5_touches cX5_touches 6 (some .long) 2 := ⟨tq3 (List.mem_of_getElem? (i := 74) rfl) rfl, tq1 (List.mem_of_getElem? (i := 1) rfl) rfl, by decide, by decide, by decide +kernel⟩
theorem inX5_touches : mIN yX5_touches := ⟨tq3 (List.mem_of_getElem? (i := 72) rfl) rfl, tq3 (List.mem_of_getElem? (i := 73) rfl) rfl⟩
theorem okX4_stepsOnQuadric : mOK yX4_stepsOnQuadric cX4_stepsOnQuadric 13 (some (.array .long)) 2 := ⟨tq3 (List.mem_of_getElem? (i := 79) rfl) rfl, tq1 (List.mem_of_getElem? (i := 6) rfl) rfl, by decide, by decide, by decide +kernel⟩
theorem inX4_stepsOnQuadric : mIN yX4_stepsOnQuadric := ⟨tq3 (List.mem_of_getElem? (i := 77) rfl) rfl, tq3 (List.mem_of_getElem? (i := 78) rfl) rfl⟩
theorem okX4_stepsOfSquare : mOK yX4_stepsOfSquare cX4_stepsOfSquare 15 (some (.array .long)) 3 := ⟨tq3 (List.mem_of_getElem? (i := 84) rfl) rfl, tq1 (List.mem_of_getElem? (i := 6) rfl) rfl, by decide, by decide, by decide +kernel⟩
theorem inX4_stepsOfSquare : mIN yX4_stepsOfSquare := ⟨tq3 (List.mem_of_getElem? (i := 83) rfl) rfl, tp2 (List.mem_of_getElem? (i := 3) rfl)⟩
theorem okX0_squareRoot : mOK yX0_squareRoot cX0_squareRoot 15 (some .long) 1 := ⟨tq3 (List.mem_of_getElem? (i := 88) rfl) rfl, tq1 (List.mem_of_getElem? (i := 3) rfl) rfl, by decide, by decide, by decide +kernel⟩
theorem inX0_squareRoot : mIN yX0_squareRoot := ⟨tq3 (List.mem_of_getElem? (i := 86) rfl) rfl, tq3 (List.mem_of_getElem? (i := 87) rfl) rfl⟩
theorem okX0_leastNonSquare : mOK yX0_leastNonSquare cX0_leastNonSquare 3 (some .long) 0 := ⟨tq3 (List.mem_of_getElem? (i := 93) rfl) rfl, tq1 (List.mem_of_getElem? (i := 3) rfl) rfl, by decide, by decide, by decide +kernel⟩
theorem inX0_leastNonSquare : mIN yX0_leastNonSquare := ⟨tq3 (List.mem_of_getElem? (i := 92) rfl) rfl, tp2 (List.mem_of_getElem? (i := 4) rfl)⟩
theorem okJ9_min_f86c9 : mOK yJ9_min_f86c9 cJ9_min_f86c9 4 (some .long) 2 := ⟨tq3 (List.mem_of_getElem? (i := 97) rfl) rfl, tq1 (List.mem_of_getElem? (i := 4) rfl) rfl, by decide, by decide, by decide +kernel⟩
theorem inJ9_min_f86c9 : Cond.static yJ9_min_f86c9 ∈ lw_w := tq3 (List.mem_of_getElem? (i := 96) rfl) rfl
theorem okJ9_max_f86c9 : mOK yJ9_max_f86c9 cJ9_max_f86c9 4 (some .long) 2 := ⟨tq3 (List.mem_of_getElem? (i := 101) rfl) rfl, tq1 (List.mem_of_getElem? (i := 4) rfl) rfl, by decide, by decide, by decide +kernel⟩
theorem inJ9_max_f86c9 : Cond.static yJ9_max_f86c9 ∈ lw_w := tq3 (List.mem_of_getElem? (i := 100) rfl) rfl
theorem okX5_common : mOK yX5_common cX5_common 8 (some .int) 3 := ⟨tq3 (List.mem_of_getElem? (i := 105) rfl) rfl, tq1 (List.mem_of_getElem? (i := 1) rfl) rfl, by decide, by decide, by decide +kernel⟩
theorem inX5_common : mIN yX5_common := ⟨tq3 (List.mem_of_getElem? (i := 103) rfl) rfl, tq3 (List.mem_of_getElem? (i := 104) rfl) rfl⟩
theorem okX4_pointAt : mOK yX4_pointAt cX4_pointAt 4 (some (.array .long)) 2 := ⟨tq3 (List.mem_of_getElem? (i := 109) rfl) rfl, tq1 (List.mem_of_getElem? (i := 6) rfl) rfl, by decide, by decide, by decide +kernel⟩
theorem inX4_pointAt : mIN yX4_pointAt := ⟨tq3 (List.mem_of_getElem? (i := 107) rfl) rfl, tq3 (List.mem_of_getElem? (i := 108) rfl) rfl⟩
theorem okX5_root : mOK yX5_root cX5_root 3 (some .int) 1 := ⟨tq3 (List.mem_of_getElem? (i := 113) rfl) rfl, tq1 (List.mem_of_getElem? (i := 1) rfl) rfl, by decide, by decide, by decide +kernel⟩
theorem inX5_root : mIN yX5_root := ⟨tq3 (List.mem_of_getElem? (i := 111) rfl) rfl, tq3 (List.mem_of_getElem? (i := 112) rfl) rfl⟩
theorem okX5_dual : mOK yX5_dual cX5_dual 4 (some .int) 1 := ⟨tq3 (List.mem_of_getElem? (i := 118) rfl) rfl, tq1 (List.mem_of_getElem? (i := 1) rfl) rfl, by decide, by decide, by decide +kernel⟩
theorem inX5_dual : mIN yX5_dual := ⟨tq3 (List.mem_of_getElem? (i := 116) rfl) rfl, tq3 (List.mem_of_getElem? (i := 117) rfl) rfl⟩
theorem okX5_ideal : mOK yX5_ideal cX5_ideal 3 (some .int) 1 := ⟨tq3 (List.mem_of_getElem? (i := 123) rfl) rfl, tq1 (List.mem_of_getElem? (i := 1) rfl) rfl, by decide, by decide, by decide +kernel⟩
theorem inX5_ideal : mIN yX5_ideal := ⟨tq3 (List.mem_of_getElem? (i := 121) rfl) rfl, tq3 (List.mem_of_getElem? (i := 122) rfl) rfl⟩
theorem okX5_parallel : mOK yX5_parallel cX5_parallel 6 (some .int) 2 := ⟨tq3 (List.mem_of_getElem? (i := 127) rfl) rfl, tq1 (List.mem_of_getElem? (i := 1) rfl) rfl, by decide, by decide, by decide +kernel⟩
theorem inX5_parallel : mIN yX5_parallel := ⟨tq3 (List.mem_of_getElem? (i := 125) rfl) rfl, tq3 (List.mem_of_getElem? (i := 126) rfl) rfl⟩
theorem okX5_liesFar : mOK yX5_liesFar cX5_liesFar 3 (some .boolean) 2 := ⟨tq3 (List.mem_of_getElem? (i := 131) rfl) rfl, tq1 (List.mem_of_getElem? (i := 1) rfl) rfl, by decide, by decide, by decide +kernel⟩
theorem inX5_liesFar : mIN yX5_liesFar := ⟨tq3 (List.mem_of_getElem? (i := 130) rfl) rfl, tp2 (List.mem_of_getElem? (i := 5) rfl)⟩
theorem okX5_meetFar : mOK yX5_meetFar cX5_meetFar 5 (some .boolean) 3 := ⟨tq3 (List.mem_of_getElem? (i := 135) rfl) rfl, tq1 (List.mem_of_getElem? (i := 1) rfl) rfl, by decide, by decide, by decide +kernel⟩
theorem inX5_meetFar : mIN yX5_meetFar := ⟨tq3 (List.mem_of_getElem? (i := 134) rfl) rfl, tp2 (List.mem_of_getElem? (i := 6) rfl)⟩
theorem okX5_middle : mOK yX5_middle cX5_middle 10 (some .int) 2 := ⟨tq3 (List.mem_of_getElem? (i := 139) rfl) rfl, tq1 (List.mem_of_getElem? (i := 1) rfl) rfl, by decide, by decide, by decide +kernel⟩
theorem inX5_middle : mIN yX5_middle := ⟨tq3 (List.mem_of_getElem? (i := 137) rfl) rfl, tq3 (List.mem_of_getElem? (i := 138) rfl) rfl⟩
theorem okX5_holds : mOK yX5_holds cX5_holds 8 (some .int) 1 := ⟨tq3 (List.mem_of_getElem? (i := 144) rfl) rfl, tq1 (List.mem_of_getElem? (i := 1) rfl) rfl, by decide, by decide, by decide +kernel⟩
theorem inX5_holds : mIN yX5_holds := ⟨tq3 (List.mem_of_getElem? (i := 142) rfl) rfl, tq3 (List.mem_of_getElem? (i := 143) rfl) rfl⟩
theorem okX5_isSupposed : mOK yX5_isSupposed cX5_isSupposed 5 (some .boolean) 2 := ⟨tq3 (List.mem_of_getElem? (i := 148) rfl) rfl, tq1 (List.mem_of_getElem? (i := 1) rfl) rfl, by decide, by decide, by decide +kernel⟩
theorem inX5_isSupposed : mIN yX5_isSupposed := ⟨tq3 (List.mem_of_getElem? (i := 147) rfl) rfl, tp2 (List.mem_of_getElem? (i := 7) rfl)⟩
theorem okX5_told : mOK yX5_told cX5_told 2 (some .int) 1 := ⟨tq3 (List.mem_of_getElem? (i := 157) rfl) rfl, tq1 (List.mem_of_getElem? (i := 1) rfl) rfl, by decide, by decide, by decide +kernel⟩
theorem inX5_told : mIN yX5_told := ⟨tq3 (List.mem_of_getElem? (i := 155) rfl) rfl, tq3 (List.mem_of_getElem? (i := 156) rfl) rfl⟩
theorem lkX5_1 : Cond.methodLink RX5 1 Lib.objectInit ∈ lw_w := tq1 (List.mem_of_getElem? (i := 16) rfl) rfl
theorem lkX3_3 : Cond.methodLink RX3 3 Lib.objectInit ∈ lw_w := tq1 (List.mem_of_getElem? (i := 24) rfl) rfl
theorem lkX5_30 : Cond.methodLink RX5 30 yX5_startAnew ∈ lw_w := tq1 (List.mem_of_getElem? (i := 35) rfl) rfl
theorem lkX5_271 : Cond.methodLink RX5 271 yX0_init ∈ lw_w := tq1 (List.mem_of_getElem? (i := 41) rfl) rfl
theorem lkX0_3 : Cond.methodLink RX0 3 Lib.objectInit ∈ lw_w := tq1 (List.mem_of_getElem? (i := 44) rfl) rfl
theorem lkX0_9 : Cond.methodLink RX0 9 yJ9_max_7cf53 ∈ lw_w := tq1 (List.mem_of_getElem? (i := 45) rfl) rfl
theorem lkX5_274 : Cond.methodLink RX5 274 yX2_init ∈ lw_w := tq1 (List.mem_of_getElem? (i := 58) rfl) rfl
theorem lkX2_1 : Cond.methodLink RX2 1 Lib.objectInit ∈ lw_w := tq1 (List.mem_of_getElem? (i := 61) rfl) rfl
theorem lkX5_277 : Cond.methodLink RX5 277 yX4_init ∈ lw_w := tq1 (List.mem_of_getElem? (i := 73) rfl) rfl
theorem lkX4_3 : Cond.methodLink RX4 3 Lib.objectInit ∈ lw_w := tq1 (List.mem_of_getElem? (i := 76) rfl) rfl
theorem lkX5_280 : Cond.methodLink RX5 280 yX3_empty ∈ lw_w := tq1 (List.mem_of_getElem? (i := 87) rfl) rfl
theorem lkX5_283 : Cond.methodLink RX5 283 yJ7_fill_d0a16 ∈ lw_w := tq1 (List.mem_of_getElem? (i := 91) rfl) rfl
theorem lkX5_34 : Cond.methodLink RX5 34 yX0_isOddPrime ∈ lw_w := tq1 (List.mem_of_getElem? (i := 138) rfl) rfl
theorem lkX5_44 : Cond.methodLink RX5 44 yX0_reduced ∈ lw_w := tq1 (List.mem_of_getElem? (i := 145) rfl) rfl
theorem lkX0_21 : Cond.methodLink RX0 21 yJ9_floorMod_f86c9 ∈ lw_w := tq1 (List.mem_of_getElem? (i := 149) rfl) rfl
theorem lkX5_48 : Cond.methodLink RX5 48 yX5_lengthOf ∈ lw_w := tq1 (List.mem_of_getElem? (i := 156) rfl) rfl
theorem lkX5_52 : Cond.methodLink RX5 52 yJ7_copyOf_c38d5 ∈ lw_w := tq1 (List.mem_of_getElem? (i := 160) rfl) rfl
theorem lkJ7_319 : Cond.methodLink RJ7 319 ⟨"[J", "clone", "()Ljava/lang/Object;"⟩ ∈ lw_w := tq1 (List.mem_of_getElem? (i := 163) rfl) rfl
theorem lkJ7_304 : Cond.methodLink RJ7 304 yJ9_min_7cf53 ∈ lw_w := tq1 (List.mem_of_getElem? (i := 170) rfl) rfl
theorem lkJ7_150 : Cond.methodLink RJ7 150 arraycopyName ∈ lw_w := tq1 (List.mem_of_getElem? (i := 173) rfl) rfl
theorem lkX5_58 : Cond.methodLink RX5 58 yX5_isRowOf ∈ lw_w := tq1 (List.mem_of_getElem? (i := 176) rfl) rfl
theorem lkX5_125 : Cond.methodLink RX5 125 yX4_linesMeet ∈ lw_w := tq1 (List.mem_of_getElem? (i := 180) rfl) rfl
theorem lkX4_48 : Cond.methodLink RX4 48 yX4_flipped ∈ lw_w := tq1 (List.mem_of_getElem? (i := 184) rfl) rfl
theorem lkX4_36 : Cond.methodLink RX4 36 yX0_negative ∈ lw_w := tq1 (List.mem_of_getElem? (i := 188) rfl) rfl
theorem lkX4_76 : Cond.methodLink RX4 76 yX2_dot ∈ lw_w := tq1 (List.mem_of_getElem? (i := 192) rfl) rfl
theorem lkX2_37 : Cond.methodLink RX2 37 yX0_times ∈ lw_w := tq1 (List.mem_of_getElem? (i := 196) rfl) rfl
theorem lkX2_41 : Cond.methodLink RX2 41 yX0_plus ∈ lw_w := tq1 (List.mem_of_getElem? (i := 200) rfl) rfl
theorem lkX5_213 : Cond.methodLink RX5 213 yX2_rankOfSquare ∈ lw_w := tq1 (List.mem_of_getElem? (i := 204) rfl) rfl
theorem lkX2_59 : Cond.methodLink RX2 59 yX2_linesOf ∈ lw_w := tq1 (List.mem_of_getElem? (i := 208) rfl) rfl
theorem lkX2_67 : Cond.methodLink RX2 67 arraycopyName ∈ lw_w := tq1 (List.mem_of_getElem? (i := 214) rfl) rfl
theorem lkX2_63 : Cond.methodLink RX2 63 yX2_eliminate ∈ lw_w := tq1 (List.mem_of_getElem? (i := 215) rfl) rfl
theorem lkX2_27 : Cond.methodLink RX2 27 yX0_reciprocal ∈ lw_w := tq1 (List.mem_of_getElem? (i := 219) rfl) rfl
theorem lkX0_27 : Cond.methodLink RX0 27 yX0_power ∈ lw_w := tq1 (List.mem_of_getElem? (i := 224) rfl) rfl
theorem lkX2_33 : Cond.methodLink RX2 33 yX2_scale ∈ lw_w := tq1 (List.mem_of_getElem? (i := 228) rfl) rfl
theorem lkX2_75 : Cond.methodLink RX2 75 yX2_clearColumn ∈ lw_w := tq1 (List.mem_of_getElem? (i := 232) rfl) rfl
theorem lkX2_79 : Cond.methodLink RX2 79 yX0_minus ∈ lw_w := tq1 (List.mem_of_getElem? (i := 236) rfl) rfl
theorem lkX5_187 : Cond.methodLink RX5 187 yX2_turned ∈ lw_w := tq2 (List.mem_of_getElem? (i := 0) rfl) rfl
theorem lkX5_287 : Cond.methodLink RX5 287 yX2_isSame ∈ lw_w := tq2 (List.mem_of_getElem? (i := 4) rfl) rfl
theorem lkX5_62 : Cond.methodLink RX5 62 yX5_keep ∈ lw_w := tq2 (List.mem_of_getElem? (i := 7) rfl) rfl
theorem lkX5_264 : Cond.methodLink RX5 264 yX2_isZero ∈ lw_w := tq2 (List.mem_of_getElem? (i := 11) rfl) rfl
theorem lkX2_17 : Cond.methodLink RX2 17 yX2_lead ∈ lw_w := tq2 (List.mem_of_getElem? (i := 14) rfl) rfl
theorem lkX5_290 : Cond.methodLink RX5 290 yX2_normal ∈ lw_w := tq2 (List.mem_of_getElem? (i := 17) rfl) rfl
theorem lkX2_21 : Cond.methodLink RX2 21 ⟨"[J", "clone", "()Ljava/lang/Object;"⟩ ∈ lw_w := tq2 (List.mem_of_getElem? (i := 21) rfl) rfl
theorem lkX5_293 : Cond.methodLink RX5 293 yX3_place ∈ lw_w := tq2 (List.mem_of_getElem? (i := 23) rfl) rfl
theorem lkX3_32 : Cond.methodLink RX3 32 yX2_isSame ∈ lw_w := tq2 (List.mem_of_getElem? (i := 27) rfl) rfl
theorem lkX3_38 : Cond.methodLink RX3 38 yX1_init ∈ lw_w := tq2 (List.mem_of_getElem? (i := 29) rfl) rfl
theorem lkX1_1 : Cond.methodLink RX1 1 Lib.objectInit ∈ lw_w := tq2 (List.mem_of_getElem? (i := 32) rfl) rfl
theorem lkX5_66 : Cond.methodLink RX5 66 yX3_item ∈ lw_w := tq2 (List.mem_of_getElem? (i := 48) rfl) rfl
theorem lkX5_79 : Cond.methodLink RX5 79 yX3_lower ∈ lw_w := tq2 (List.mem_of_getElem? (i := 60) rfl) rfl
theorem lkX3_21 : Cond.methodLink RX3 21 yX3_item ∈ lw_w := tq2 (List.mem_of_getElem? (i := 64) rfl) rfl
theorem lkX5_83 : Cond.methodLink RX5 83 yX3_higher ∈ lw_w := tq2 (List.mem_of_getElem? (i := 65) rfl) rfl
theorem lkX5_90 : Cond.methodLink RX5 90 yX4_lineThrough ∈ lw_w := tq2 (List.mem_of_getElem? (i := 69) rfl) rfl
theorem lkX4_40 : Cond.methodLink RX4 40 yX4_wedge ∈ lw_w := tq2 (List.mem_of_getElem? (i := 73) rfl) rfl
theorem lkX4_27 : Cond.methodLink RX4 27 yX0_times ∈ lw_w := tq2 (List.mem_of_getElem? (i := 77) rfl) rfl
theorem lkX4_33 : Cond.methodLink RX4 33 yX0_minus ∈ lw_w := tq2 (List.mem_of_getElem? (i := 78) rfl) rfl
theorem lkX4_44 : Cond.methodLink RX4 44 yX4_isPlane ∈ lw_w := tq2 (List.mem_of_getElem? (i := 79) rfl) rfl
theorem lkX5_99 : Cond.methodLink RX5 99 yX4_planeThrough ∈ lw_w := tq2 (List.mem_of_getElem? (i := 83) rfl) rfl
theorem lkX4_52 : Cond.methodLink RX4 52 yX4_skew ∈ lw_w := tq2 (List.mem_of_getElem? (i := 87) rfl) rfl
theorem lkX4_55 : Cond.methodLink RX4 55 yX2_image ∈ lw_w := tq2 (List.mem_of_getElem? (i := 91) rfl) rfl
theorem lkX2_44 : Cond.methodLink RX2 44 yX2_imageInto ∈ lw_w := tq2 (List.mem_of_getElem? (i := 95) rfl) rfl
theorem lkX5_102 : Cond.methodLink RX5 102 yX4_planeOfLines ∈ lw_w := tq2 (List.mem_of_getElem? (i := 99) rfl) rfl
theorem lkX4_73 : Cond.methodLink RX4 73 yX4_pointOfLines ∈ lw_w := tq2 (List.mem_of_getElem? (i := 103) rfl) rfl
theorem lkX4_58 : Cond.methodLink RX4 58 yX4_linesMeet ∈ lw_w := tq2 (List.mem_of_getElem? (i := 107) rfl) rfl
theorem lkX4_62 : Cond.methodLink RX4 62 yX4_baseOfWedge ∈ lw_w := tq2 (List.mem_of_getElem? (i := 108) rfl) rfl
theorem lkX4_83 : Cond.methodLink RX4 83 yX0_reciprocal ∈ lw_w := tq2 (List.mem_of_getElem? (i := 112) rfl) rfl
theorem lkX4_88 : Cond.methodLink RX4 88 yX4_lineOf ∈ lw_w := tq2 (List.mem_of_getElem? (i := 114) rfl) rfl
theorem lkX4_66 : Cond.methodLink RX4 66 yX4_pointOnPlane ∈ lw_w := tq2 (List.mem_of_getElem? (i := 119) rfl) rfl
theorem lkX4_69 : Cond.methodLink RX4 69 yX2_isZero ∈ lw_w := tq2 (List.mem_of_getElem? (i := 123) rfl) rfl
theorem lkX5_105 : Cond.methodLink RX5 105 yX5_isBetweenLineAndFlat ∈ lw_w := tq2 (List.mem_of_getElem? (i := 128) rfl) rfl
theorem lkX5_112 : Cond.methodLink RX5 112 yX4_crossing ∈ lw_w := tq2 (List.mem_of_getElem? (i := 132) rfl) rfl
theorem lkX5_115 : Cond.methodLink RX5 115 yX4_pointOnPlane ∈ lw_w := tq2 (List.mem_of_getElem? (i := 136) rfl) rfl
theorem lkX5_118 : Cond.methodLink RX5 118 yX4_pointOfLines ∈ lw_w := tq2 (List.mem_of_getElem? (i := 137) rfl) rfl
theorem lkX5_121 : Cond.methodLink RX5 121 yX5_pointIsOn ∈ lw_w := tq2 (List.mem_of_getElem? (i := 142) rfl) rfl
theorem lkX5_245 : Cond.methodLink RX5 245 yX2_dot ∈ lw_w := tq2 (List.mem_of_getElem? (i := 146) rfl) rfl
theorem lkX5_129 : Cond.methodLink RX5 129 yX5_oneIf ∈ lw_w := tq2 (List.mem_of_getElem? (i := 147) rfl) rfl
theorem lkX5_296 : Cond.methodLink RX5 296 yX4_pointIsOnLine ∈ lw_w := tq2 (List.mem_of_getElem? (i := 150) rfl) rfl
theorem lkX4_80 : Cond.methodLink RX4 80 yX4_planeThrough ∈ lw_w := tq2 (List.mem_of_getElem? (i := 154) rfl) rfl
theorem lkX5_299 : Cond.methodLink RX5 299 yX2_form ∈ lw_w := tq2 (List.mem_of_getElem? (i := 155) rfl) rfl
theorem lkX2_48 : Cond.methodLink RX2 48 yX2_image ∈ lw_w := tq2 (List.mem_of_getElem? (i := 159) rfl) rfl
theorem lkX2_52 : Cond.methodLink RX2 52 yX2_dot ∈ lw_w := tq2 (List.mem_of_getElem? (i := 160) rfl) rfl
theorem lkX5_133 : Cond.methodLink RX5 133 yX4_lineIsOnPlane ∈ lw_w := tq2 (List.mem_of_getElem? (i := 161) rfl) rfl
theorem lkX5_136 : Cond.methodLink RX5 136 yX5_rowsOfOneSort ∈ lw_w := tq2 (List.mem_of_getElem? (i := 169) rfl) rfl
theorem lkX5_166 : Cond.methodLink RX5 166 yX3_row ∈ lw_w := tq2 (List.mem_of_getElem? (i := 174) rfl) rfl
theorem lkX5_146 : Cond.methodLink RX5 146 yX2_rankOf ∈ lw_w := tq2 (List.mem_of_getElem? (i := 179) rfl) rfl
theorem lkX5_152 : Cond.methodLink RX5 152 yX4_crossRatio ∈ lw_w := tq2 (List.mem_of_getElem? (i := 183) rfl) rfl
theorem lkX4_97 : Cond.methodLink RX4 97 yX4_placeOfBrackets ∈ lw_w := tq2 (List.mem_of_getElem? (i := 187) rfl) rfl
theorem lkX4_115 : Cond.methodLink RX4 115 yX2_lead ∈ lw_w := tq2 (List.mem_of_getElem? (i := 191) rfl) rfl
theorem lkX4_101 : Cond.methodLink RX4 101 yX4_bracket ∈ lw_w := tq2 (List.mem_of_getElem? (i := 192) rfl) rfl
theorem lkX5_162 : Cond.methodLink RX5 162 yX4_fourthOf ∈ lw_w := tq2 (List.mem_of_getElem? (i := 202) rfl) rfl
theorem lkX4_111 : Cond.methodLink RX4 111 yX2_sum ∈ lw_w := tq2 (List.mem_of_getElem? (i := 206) rfl) rfl
theorem lkX5_172 : Cond.methodLink RX5 172 yX5_pointRows ∈ lw_w := tq2 (List.mem_of_getElem? (i := 218) rfl) rfl
theorem lkX5_176 : Cond.methodLink RX5 176 yX2_frameOf ∈ lw_w := tq2 (List.mem_of_getElem? (i := 222) rfl) rfl
theorem lkX5_180 : Cond.methodLink RX5 180 yX2_inverted ∈ lw_w := tq2 (List.mem_of_getElem? (i := 226) rfl) rfl
theorem lkX5_184 : Cond.methodLink RX5 184 yX2_product ∈ lw_w := tq2 (List.mem_of_getElem? (i := 230) rfl) rfl
theorem lkX5_190 : Cond.methodLink RX5 190 yX2_image ∈ lw_w := tq2 (List.mem_of_getElem? (i := 238) rfl) rfl
theorem lkX5_193 : Cond.methodLink RX5 193 yX4_lineImage ∈ lw_w := tq2 (List.mem_of_getElem? (i := 239) rfl) rfl
theorem lkX4_94 : Cond.methodLink RX4 94 yX4_baseOfLine ∈ lw_w := tq3 (List.mem_of_getElem? (i := 3) rfl) rfl
theorem lkX5_196 : Cond.methodLink RX5 196 yX2_framePoint ∈ lw_w := tq3 (List.mem_of_getElem? (i := 19) rfl) rfl
theorem lkX2_85 : Cond.methodLink RX2 85 yJ7_fill_d0a16 ∈ lw_w := tq3 (List.mem_of_getElem? (i := 23) rfl) rfl
theorem lkX5_200 : Cond.methodLink RX5 200 yX2_timesUntilBack ∈ lw_w := tq3 (List.mem_of_getElem? (i := 24) rfl) rfl
theorem lkX2_90 : Cond.methodLink RX2 90 yX2_isMultiple ∈ lw_w := tq3 (List.mem_of_getElem? (i := 28) rfl) rfl
theorem lkX5_204 : Cond.methodLink RX5 204 yX2_power ∈ lw_w := tq3 (List.mem_of_getElem? (i := 32) rfl) rfl
theorem lkX2_56 : Cond.methodLink RX2 56 yX2_product ∈ lw_w := tq3 (List.mem_of_getElem? (i := 36) rfl) rfl
theorem lkX5_210 : Cond.methodLink RX5 210 yX4_quadricThrough ∈ lw_w := tq3 (List.mem_of_getElem? (i := 49) rfl) rfl
theorem lkX4_122 : Cond.methodLink RX4 122 yX4_quadricConditions ∈ lw_w := tq3 (List.mem_of_getElem? (i := 53) rfl) rfl
theorem lkX4_119 : Cond.methodLink RX4 119 yX0_plus ∈ lw_w := tq3 (List.mem_of_getElem? (i := 57) rfl) rfl
theorem lkX4_126 : Cond.methodLink RX4 126 yX2_onlySolution ∈ lw_w := tq3 (List.mem_of_getElem? (i := 58) rfl) rfl
theorem lkX2_82 : Cond.methodLink RX2 82 yX0_negative ∈ lw_w := tq3 (List.mem_of_getElem? (i := 62) rfl) rfl
theorem lkX5_217 : Cond.methodLink RX5 217 yX4_baseOfLine ∈ lw_w := tq3 (List.mem_of_getElem? (i := 75) rfl) rfl
theorem lkX5_221 : Cond.methodLink RX5 221 yX4_stepsOnQuadric ∈ lw_w := tq3 (List.mem_of_getElem? (i := 76) rfl) rfl
theorem lkX4_130 : Cond.methodLink RX4 130 yX2_form ∈ lw_w := tq3 (List.mem_of_getElem? (i := 80) rfl) rfl
theorem lkX4_134 : Cond.methodLink RX4 134 yX4_stepsOfSquare ∈ lw_w := tq3 (List.mem_of_getElem? (i := 81) rfl) rfl
theorem lkX4_138 : Cond.methodLink RX4 138 yX0_squareRoot ∈ lw_w := tq3 (List.mem_of_getElem? (i := 85) rfl) rfl
theorem lkX0_32 : Cond.methodLink RX0 32 yX0_leastNonSquare ∈ lw_w := tq3 (List.mem_of_getElem? (i := 90) rfl) rfl
theorem lkX0_36 : Cond.methodLink RX0 36 yX0_times ∈ lw_w := tq3 (List.mem_of_getElem? (i := 94) rfl) rfl
theorem lkX0_39 : Cond.methodLink RX0 39 yJ9_min_f86c9 ∈ lw_w := tq3 (List.mem_of_getElem? (i := 95) rfl) rfl
theorem lkX4_141 : Cond.methodLink RX4 141 yJ9_min_f86c9 ∈ lw_w := tq3 (List.mem_of_getElem? (i := 98) rfl) rfl
theorem lkX4_146 : Cond.methodLink RX4 146 yJ9_max_f86c9 ∈ lw_w := tq3 (List.mem_of_getElem? (i := 99) rfl) rfl
theorem lkX5_225 : Cond.methodLink RX5 225 yX4_pointAt ∈ lw_w := tq3 (List.mem_of_getElem? (i := 106) rfl) rfl
theorem lkX5_228 : Cond.methodLink RX5 228 yX0_squareRoot ∈ lw_w := tq3 (List.mem_of_getElem? (i := 114) rfl) rfl
theorem lkX5_231 : Cond.methodLink RX5 231 yX4_flipped ∈ lw_w := tq3 (List.mem_of_getElem? (i := 119) rfl) rfl
theorem lkX5_237 : Cond.methodLink RX5 237 yX5_liesFar ∈ lw_w := tq3 (List.mem_of_getElem? (i := 128) rfl) rfl
theorem lkX5_241 : Cond.methodLink RX5 241 yX5_meetFar ∈ lw_w := tq3 (List.mem_of_getElem? (i := 132) rfl) rfl
theorem lkX5_249 : Cond.methodLink RX5 249 yX2_sum ∈ lw_w := tq3 (List.mem_of_getElem? (i := 140) rfl) rfl
theorem lkX5_253 : Cond.methodLink RX5 253 yX5_isSupposed ∈ lw_w := tq3 (List.mem_of_getElem? (i := 145) rfl) rfl
theorem lkX5_303 : Cond.methodLink RX5 303 yX4_quadricConditions ∈ lw_w := tq3 (List.mem_of_getElem? (i := 149) rfl) rfl
theorem flX3_11 : Cond.fieldLink RX3 11 "ProjectiveRows$Shelf" "items" "[LProjectiveRows$Item;" ∈ lw_w := tq1 (List.mem_of_getElem? (i := 27) rfl) rfl
theorem flX3_17 : Cond.fieldLink RX3 17 "ProjectiveRows$Shelf" "count" "I" ∈ lw_w := tq1 (List.mem_of_getElem? (i := 28) rfl) rfl
theorem flX5_268 : Cond.fieldLink RX5 268 "ProjectiveRows$Shelf" "count" "I" ∈ lw_w := tq1 (List.mem_of_getElem? (i := 29) rfl) rfl
theorem flX0_15 : Cond.fieldLink RX0 15 "ProjectiveRows$Field" "p" "J" ∈ lw_w := tq1 (List.mem_of_getElem? (i := 48) rfl) rfl
theorem flX5_158 : Cond.fieldLink RX5 158 "ProjectiveRows$Field" "p" "J" ∈ lw_w := tq1 (List.mem_of_getElem? (i := 49) rfl) rfl
theorem flX4_107 : Cond.fieldLink RX4 107 "ProjectiveRows$Field" "p" "J" ∈ lw_w := tq1 (List.mem_of_getElem? (i := 50) rfl) rfl
theorem flX2_7 : Cond.fieldLink RX2 7 "ProjectiveRows$Rows" "field" "LProjectiveRows$Field;" ∈ lw_w := tq1 (List.mem_of_getElem? (i := 62) rfl) rfl
theorem flX4_15 : Cond.fieldLink RX4 15 "ProjectiveRows$Rows" "field" "LProjectiveRows$Field;" ∈ lw_w := tq1 (List.mem_of_getElem? (i := 63) rfl) rfl
theorem flX2_13 : Cond.fieldLink RX2 13 "ProjectiveRows$Rows" "width" "I" ∈ lw_w := tq1 (List.mem_of_getElem? (i := 64) rfl) rfl
theorem flX4_22 : Cond.fieldLink RX4 22 "ProjectiveRows$Rows" "width" "I" ∈ lw_w := tq1 (List.mem_of_getElem? (i := 65) rfl) rfl
theorem flX4_9 : Cond.fieldLink RX4 9 "ProjectiveRows$Space" "rows" "LProjectiveRows$Rows;" ∈ lw_w := tq1 (List.mem_of_getElem? (i := 77) rfl) rfl
theorem flX4_21 : Cond.fieldLink RX4 21 "ProjectiveRows$Space" "field" "LProjectiveRows$Field;" ∈ lw_w := tq1 (List.mem_of_getElem? (i := 78) rfl) rfl
theorem flX4_26 : Cond.fieldLink RX4 26 "ProjectiveRows$Space" "width" "I" ∈ lw_w := tq1 (List.mem_of_getElem? (i := 79) rfl) rfl
theorem flX5_10 : Cond.fieldLink RX5 10 "ProjectiveRows" "shelf" "LProjectiveRows$Shelf;" ∈ lw_w := tq1 (List.mem_of_getElem? (i := 94) rfl) rfl
theorem flX5_16 : Cond.fieldLink RX5 16 "ProjectiveRows" "hand" "[J" ∈ lw_w := tq1 (List.mem_of_getElem? (i := 95) rfl) rfl
theorem flX5_20 : Cond.fieldLink RX5 20 "ProjectiveRows" "gathered" "[I" ∈ lw_w := tq1 (List.mem_of_getElem? (i := 96) rfl) rfl
theorem flX5_24 : Cond.fieldLink RX5 24 "ProjectiveRows" "pairFrom" "[I" ∈ lw_w := tq1 (List.mem_of_getElem? (i := 97) rfl) rfl
theorem flX5_27 : Cond.fieldLink RX5 27 "ProjectiveRows" "pairTo" "[I" ∈ lw_w := tq1 (List.mem_of_getElem? (i := 98) rfl) rfl
theorem flX5_96 : Cond.fieldLink RX5 96 "ProjectiveRows" "n" "I" ∈ lw_w := tq1 (List.mem_of_getElem? (i := 99) rfl) rfl
theorem flX5_109 : Cond.fieldLink RX5 109 "ProjectiveRows" "flat" "I" ∈ lw_w := tq1 (List.mem_of_getElem? (i := 100) rfl) rfl
theorem flX5_40 : Cond.fieldLink RX5 40 "ProjectiveRows" "field" "LProjectiveRows$Field;" ∈ lw_w := tq1 (List.mem_of_getElem? (i := 101) rfl) rfl
theorem flX5_142 : Cond.fieldLink RX5 142 "ProjectiveRows" "rows" "LProjectiveRows$Rows;" ∈ lw_w := tq1 (List.mem_of_getElem? (i := 102) rfl) rfl
theorem flX5_86 : Cond.fieldLink RX5 86 "ProjectiveRows" "space" "LProjectiveRows$Space;" ∈ lw_w := tq1 (List.mem_of_getElem? (i := 103) rfl) rfl
theorem flX5_207 : Cond.fieldLink RX5 207 "ProjectiveRows" "gatheredCount" "I" ∈ lw_w := tq1 (List.mem_of_getElem? (i := 104) rfl) rfl
theorem flX5_169 : Cond.fieldLink RX5 169 "ProjectiveRows" "pairCount" "I" ∈ lw_w := tq1 (List.mem_of_getElem? (i := 105) rfl) rfl
theorem flX5_234 : Cond.fieldLink RX5 234 "ProjectiveRows" "idealOne" "I" ∈ lw_w := tq1 (List.mem_of_getElem? (i := 106) rfl) rfl
theorem flX1_7 : Cond.fieldLink RX1 7 "ProjectiveRows$Item" "sort" "I" ∈ lw_w := tq2 (List.mem_of_getElem? (i := 33) rfl) rfl
theorem flX3_25 : Cond.fieldLink RX3 25 "ProjectiveRows$Item" "sort" "I" ∈ lw_w := tq2 (List.mem_of_getElem? (i := 34) rfl) rfl
theorem flX5_75 : Cond.fieldLink RX5 75 "ProjectiveRows$Item" "sort" "I" ∈ lw_w := tq2 (List.mem_of_getElem? (i := 35) rfl) rfl
theorem flX1_13 : Cond.fieldLink RX1 13 "ProjectiveRows$Item" "row" "[J" ∈ lw_w := tq2 (List.mem_of_getElem? (i := 36) rfl) rfl
theorem flX3_28 : Cond.fieldLink RX3 28 "ProjectiveRows$Item" "row" "[J" ∈ lw_w := tq2 (List.mem_of_getElem? (i := 37) rfl) rfl
theorem flX5_70 : Cond.fieldLink RX5 70 "ProjectiveRows$Item" "row" "[J" ∈ lw_w := tq2 (List.mem_of_getElem? (i := 38) rfl) rfl
theorem flX5_257 : Cond.fieldLink RX5 257 "ProjectiveRows" "SIDES_OF_TRIANGLES" "[I" ∈ lw_w := tq3 (List.mem_of_getElem? (i := 150) rfl) rfl
theorem flX5_260 : Cond.fieldLink RX5 260 "ProjectiveRows" "SIDES_OF_HEXAGON" "[I" ∈ lw_w := tq3 (List.mem_of_getElem? (i := 152) rfl) rfl
theorem cnX5_7 : Cond.classLink RX5 7 RX3 ∈ lw_w := tq1 (List.mem_of_getElem? (i := 19) rfl) rfl
theorem cnX3_9 : Cond.classLink RX3 9 "ProjectiveRows$Item" ∈ lw_w := tq1 (List.mem_of_getElem? (i := 25) rfl) rfl
theorem cnX5_35 : Cond.classLink RX5 35 RX0 ∈ lw_w := tq1 (List.mem_of_getElem? (i := 39) rfl) rfl
theorem cnX5_147 : Cond.classLink RX5 147 RX2 ∈ lw_w := tq1 (List.mem_of_getElem? (i := 56) rfl) rfl
theorem cnX5_91 : Cond.classLink RX5 91 RX4 ∈ lw_w := tq1 (List.mem_of_getElem? (i := 71) rfl) rfl
theorem cnJ7_320 : Cond.classLink RJ7 320 "[J" ∈ lw_w := tq1 (List.mem_of_getElem? (i := 169) rfl) rfl
theorem cnX2_73 : Cond.classLink RX2 73 "[[J" ∈ lw_w := tq1 (List.mem_of_getElem? (i := 212) rfl) rfl
theorem cnX2_22 : Cond.classLink RX2 22 "[J" ∈ lw_w := tq2 (List.mem_of_getElem? (i := 22) rfl) rfl
theorem cnX4_86 : Cond.classLink RX4 86 "[J" ∈ lw_w := tq2 (List.mem_of_getElem? (i := 113) rfl) rfl
theorem cnX4_92 : Cond.classLink RX4 92 "[[J" ∈ lw_w := tq2 (List.mem_of_getElem? (i := 118) rfl) rfl
theorem cnX5_263 : Cond.classLink RX5 263 "[J" ∈ lw_w := tq2 (List.mem_of_getElem? (i := 173) rfl) rfl
theorem clX0_25 : Cond.constantLong RX0 25 (2) ∈ lw_w := tq1 (List.mem_of_getElem? (i := 223) rfl) rfl
theorem clX5_140 : Cond.constantLong RX5 140 (-2) ∈ lw_w := tq2 (List.mem_of_getElem? (i := 178) rfl) rfl
theorem clX4_105 : Cond.constantLong RX4 105 (-1) ∈ lw_w := tq2 (List.mem_of_getElem? (i := 196) rfl) rfl
theorem clX5_156 : Cond.constantLong RX5 156 (-1) ∈ lw_w := tq2 (List.mem_of_getElem? (i := 197) rfl) rfl
theorem clX0_30 : Cond.constantLong RX0 30 (-1) ∈ lw_w := tq3 (List.mem_of_getElem? (i := 89) rfl) rfl
theorem oi1 : Cond.instanceMethod Lib.objectInit ∈ lw_w := tq1 (List.mem_of_getElem? (i := 17) rfl) rfl
theorem oi2 : Cond.code Lib.objectInit ⟨#[0xb1]⟩ 1 none ∈ lw_w := tq1 (List.mem_of_getElem? (i := 18) rfl) rfl
theorem aM.ofF {G : gT} {y : MethodName} {cc : ByteArray} {nL : Nat} {ret : Option FieldType} {fr lc mc ms : Nat} {As : List Value} {hp : cH} {sz : Nat} {O : oT} (own : String) (hy : plainFor y = true) (ho : y.cls = own) (hL : (lg_sl As).length ≤ nL) (w : ∀ K : kT, aC K cc own y.name fr lc mc ms nL ret O → aW K hp sz mc ms 0 (lv_args 0 As) []) : aM G y cc nL ret fr lc mc ms As hp sz O := by
  refine va_MetF (cc := cc) (maxL := nL) (ret := ret) hy rfl ?_
  intro p e s m args below meth c s₁ B hml hv
  obtain ⟨rfl, hh, hk⟩ := hv
  have hts := atoms_spec (ws := Cond.code y cc nL ret :: lw_w) B.pre
  have hown : s.vm.findClass own = some m.cls := by rw [← ho]; exact findClass_of_methodNamed B.named
  have hl := lv_entry As (n := nL) hL
  rw [lg_entry_eq]
  exact w (G, p, e, _, s, m, _, below, meth, c, nL, O) ⟨B.exec, B.bytes, hml, hown, fun x hx => hts x (List.mem_cons_of_mem _ hx), hk, B.returns, B.notSynchronized, rfl, rfl, rfl, (name_of_methodNamed B.named B.method).1⟩ s.heap [] 0 0 _ hh (fun _ h => by cases h) hl (Nat.le_of_eq (Nat.zero_add _)) (Nat.le_of_eq (Nat.zero_add _))
theorem rf_cat (x : Option Nat) : (va_rf x).category = 1 := by cases x <;> rfl
theorem r_areturnA {cc : ByteArray} {own mn : String} {fr lc mc ms nL : Nat} {O : oT} {hp : cH} {sz rc rs pc : Nat} {lv : List (Nat × Value)} {K : kT} {rt : FieldType} (C : aC K cc own mn fr lc mc ms nL (some rt) O) (hrt : (∃ n, rt = .object n) ∨ ∃ t, rt = .array t) {a : Nat} (hO : O = (some (.ref a), hp, sz)) (d : decode cc pc = .ok (.areturn, 1)) : aW K hp sz rc rs pc lv [.ref a] := r_areturn C hrt (v := some a) hO d
theorem ct_i (x : Int32) : (Value.int x).category = 1 := rfl
theorem ct_l (x : Int64) : (Value.long x).category = 2 := rfl
theorem ct_r (x : Nat) : (Value.ref x).category = 1 := rfl
theorem k_nMM {K : kT} {cc : ByteArray} {own mn : String} {fr lc mc ms nL : Nat} {ret : Option FieldType} {O : oT} {hp h1 : cH} {sz z1 rc pc : Nat} {lv : List (Nat × Value)} {st : List Value} (C : aC K cc own mn fr lc mc ms nL ret O) {n k : Int32} {index : Nat} (rc' : Nat) (hcl : Cond.classLink own index "[[J" ∈ lw_w) (e : nM hp sz n k = some (h1, z1)) (d : decode cc pc = .ok (.multianewarray index 2, 4)) (hrc : 10 + rc' = rc) (kk : aW K h1 z1 rc' (64 * rc') (pc + 4) lv (.ref sz :: st)) : aW K hp sz rc (64 * rc) pc lv (.int k :: .int n :: st) := k_nM C rc' hcl e d hrc kk
