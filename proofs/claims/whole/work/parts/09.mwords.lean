theorem tq1 {w : Cond} (h : w ∈ tables_1_1) (g : goodWord w = true) : w ∈ lw_w := List.mem_filter.mpr ⟨List.mem_append_right _ (List.mem_append_left _ h), g⟩
theorem tq2 {w : Cond} (h : w ∈ tables_1_2) (g : goodWord w = true) : w ∈ lw_w := List.mem_filter.mpr ⟨List.mem_append_right _ (List.mem_append_right _ (List.mem_append_left _ h)), g⟩
theorem tq3 {w : Cond} (h : w ∈ tables_1_3) (g : goodWord w = true) : w ∈ lw_w := List.mem_filter.mpr ⟨List.mem_append_right _ (List.mem_append_right _ (List.mem_append_right _ (List.mem_append_left _ h))), g⟩
theorem tq4 {w : Cond} (h : w ∈ tables_1_4) (g : goodWord w = true) : w ∈ lw_w := List.mem_filter.mpr ⟨List.mem_append_right _ (List.mem_append_right _ (List.mem_append_right _ (List.mem_append_right _ (List.mem_append_left _ h)))), g⟩
theorem tq5 {w : Cond} (h : w ∈ tables_1_5) (g : goodWord w = true) : w ∈ lw_w := List.mem_filter.mpr ⟨List.mem_append_right _ (List.mem_append_right _ (List.mem_append_right _ (List.mem_append_right _ (List.mem_append_right _ h)))), g⟩
theorem tp0 {y : MethodName} {n : Nat} (h : (y, n) ∈ lw_privs) : Cond.selects y.cls y y ∈ lw_w := List.mem_filter.mpr ⟨List.mem_append_left _ (List.mem_map.mpr ⟨_, h, rfl⟩), rfl⟩
theorem tp1 {y : MethodName} {n : Nat} (h : (y, n) ∈ lw_privs_1) : Cond.selects y.cls y y ∈ lw_w := tp0 (List.mem_append_left _ h)
theorem tp2 {y : MethodName} {n : Nat} (h : (y, n) ∈ lw_privs_2) : Cond.selects y.cls y y ∈ lw_w := tp0 (List.mem_append_right _ (List.mem_append_left _ h))
theorem tp3 {y : MethodName} {n : Nat} (h : (y, n) ∈ lw_privs_3) : Cond.selects y.cls y y ∈ lw_w := tp0 (List.mem_append_right _ (List.mem_append_right _ (List.mem_append_left _ h)))
theorem tp4 {y : MethodName} {n : Nat} (h : (y, n) ∈ lw_privs_4) : Cond.selects y.cls y y ∈ lw_w := tp0 (List.mem_append_right _ (List.mem_append_right _ (List.mem_append_right _ (List.mem_append_left _ h))))
theorem tp5 {y : MethodName} {n : Nat} (h : (y, n) ∈ lw_privs_5) : Cond.selects y.cls y y ∈ lw_w := tp0 (List.mem_append_right _ (List.mem_append_right _ (List.mem_append_right _ (List.mem_append_right _ (List.mem_append_left _ h)))))
theorem tp6 {y : MethodName} {n : Nat} (h : (y, n) ∈ lw_privs_6) : Cond.selects y.cls y y ∈ lw_w := tp0 (List.mem_append_right _ (List.mem_append_right _ (List.mem_append_right _ (List.mem_append_right _ (List.mem_append_right _ h)))))
theorem ok_begin : mOK yX6_begin cX6_begin 4 (some .int) 2 := ⟨tq3 (List.mem_of_getElem? (i := 167) rfl) rfl, tq1 (List.mem_of_getElem? (i := 8) rfl) rfl, by decide, by decide, by decide +kernel⟩
theorem in_begin : mIN yX6_begin := ⟨tq3 (List.mem_of_getElem? (i := 165) rfl) rfl, tq3 (List.mem_of_getElem? (i := 166) rfl) rfl⟩
theorem ok_isPrime : mOK yX6_isPrime cX6_isPrime 4 (some .boolean) 1 := ⟨tq3 (List.mem_of_getElem? (i := 170) rfl) rfl, tq1 (List.mem_of_getElem? (i := 8) rfl) rfl, by decide, by decide, by decide +kernel⟩
theorem in_isPrime : Cond.static yX6_isPrime ∈ lw_w := tq3 (List.mem_of_getElem? (i := 169) rfl) rfl
theorem ok_root : mOK yX6_root cX6_root 5 (some .int) 1 := ⟨tq4 (List.mem_of_getElem? (i := 4) rfl) rfl, tq1 (List.mem_of_getElem? (i := 8) rfl) rfl, by decide, by decide, by decide +kernel⟩
theorem in_root : mIN yX6_root := ⟨tq4 (List.mem_of_getElem? (i := 2) rfl) rfl, tq4 (List.mem_of_getElem? (i := 3) rfl) rfl⟩
theorem ok_mod : mOK yX6_mod cX6_mod 5 (some .long) 1 := ⟨tq4 (List.mem_of_getElem? (i := 8) rfl) rfl, tq1 (List.mem_of_getElem? (i := 8) rfl) rfl, by decide, by decide, by decide +kernel⟩
theorem in_mod : mIN yX6_mod := ⟨tq4 (List.mem_of_getElem? (i := 7) rfl) rfl, tp2 (List.mem_of_getElem? (i := 8) rfl)⟩
theorem ok_isSquare : mOK yX6_isSquare cX6_isSquare 3 (some .boolean) 1 := ⟨tq4 (List.mem_of_getElem? (i := 12) rfl) rfl, tq1 (List.mem_of_getElem? (i := 8) rfl) rfl, by decide, by decide, by decide +kernel⟩
theorem in_isSquare : mIN yX6_isSquare := ⟨tq4 (List.mem_of_getElem? (i := 11) rfl) rfl, tp2 (List.mem_of_getElem? (i := 9) rfl)⟩
theorem ok_power : mOK yX6_power cX6_power 11 (some .long) 2 := ⟨tq4 (List.mem_of_getElem? (i := 16) rfl) rfl, tq1 (List.mem_of_getElem? (i := 8) rfl) rfl, by decide, by decide, by decide +kernel⟩
theorem in_power : mIN yX6_power := ⟨tq4 (List.mem_of_getElem? (i := 15) rfl) rfl, tp2 (List.mem_of_getElem? (i := 10) rfl)⟩
theorem ok_times : mOK yX6_times cX6_times 5 (some .long) 2 := ⟨tq4 (List.mem_of_getElem? (i := 20) rfl) rfl, tq1 (List.mem_of_getElem? (i := 8) rfl) rfl, by decide, by decide, by decide +kernel⟩
theorem in_times : mIN yX6_times := ⟨tq4 (List.mem_of_getElem? (i := 19) rfl) rfl, tp2 (List.mem_of_getElem? (i := 11) rfl)⟩
theorem ok_rootOf : mOK yX6_rootOf cX6_rootOf 19 (some .long) 1 := ⟨tq4 (List.mem_of_getElem? (i := 24) rfl) rfl, tq1 (List.mem_of_getElem? (i := 8) rfl) rfl, by decide, by decide, by decide +kernel⟩
theorem in_rootOf : mIN yX6_rootOf := ⟨tq4 (List.mem_of_getElem? (i := 23) rfl) rfl, tp2 (List.mem_of_getElem? (i := 12) rfl)⟩
theorem ok_put : mOK yX6_put cX6_put 4 (some .int) 2 := ⟨tq4 (List.mem_of_getElem? (i := 28) rfl) rfl, tq1 (List.mem_of_getElem? (i := 8) rfl) rfl, by decide, by decide, by decide +kernel⟩
theorem in_put : mIN yX6_put := ⟨tq4 (List.mem_of_getElem? (i := 26) rfl) rfl, tq4 (List.mem_of_getElem? (i := 27) rfl) rfl⟩
theorem ok_make : mOK yX6_make cX6_make 4 (some .int) 1 := ⟨tq4 (List.mem_of_getElem? (i := 32) rfl) rfl, tq1 (List.mem_of_getElem? (i := 8) rfl) rfl, by decide, by decide, by decide +kernel⟩
theorem in_make : mIN yX6_make := ⟨tq4 (List.mem_of_getElem? (i := 30) rfl) rfl, tq4 (List.mem_of_getElem? (i := 31) rfl) rfl⟩
theorem ok_clear : mOK yX6_clear cX6_clear 2 none 0 := ⟨tq4 (List.mem_of_getElem? (i := 36) rfl) rfl, tq1 (List.mem_of_getElem? (i := 8) rfl) rfl, by decide, by decide, by decide +kernel⟩
theorem in_clear : mIN yX6_clear := ⟨tq4 (List.mem_of_getElem? (i := 35) rfl) rfl, tp2 (List.mem_of_getElem? (i := 13) rfl)⟩
theorem ok_width : mOK yX6_width cX6_width 2 (some .int) 1 := ⟨tq4 (List.mem_of_getElem? (i := 40) rfl) rfl, tq1 (List.mem_of_getElem? (i := 8) rfl) rfl, by decide, by decide, by decide +kernel⟩
theorem in_width : mIN yX6_width := ⟨tq4 (List.mem_of_getElem? (i := 39) rfl) rfl, tp2 (List.mem_of_getElem? (i := 14) rfl)⟩
theorem ok_side : mOK yX6_side cX6_side 1 (some .int) 0 := ⟨tq4 (List.mem_of_getElem? (i := 44) rfl) rfl, tq1 (List.mem_of_getElem? (i := 8) rfl) rfl, by decide, by decide, by decide +kernel⟩
theorem in_side : mIN yX6_side := ⟨tq4 (List.mem_of_getElem? (i := 43) rfl) rfl, tp2 (List.mem_of_getElem? (i := 15) rfl)⟩
theorem ok_isNothing : mOK yX6_isNothing cX6_isNothing 4 (some .boolean) 1 := ⟨tq4 (List.mem_of_getElem? (i := 48) rfl) rfl, tq1 (List.mem_of_getElem? (i := 8) rfl) rfl, by decide, by decide, by decide +kernel⟩
theorem in_isNothing : mIN yX6_isNothing := ⟨tq4 (List.mem_of_getElem? (i := 47) rfl) rfl, tp3 (List.mem_of_getElem? (i := 0) rfl)⟩
theorem ok_less : mOK yX6_less cX6_less 5 (some .long) 2 := ⟨tq4 (List.mem_of_getElem? (i := 52) rfl) rfl, tq1 (List.mem_of_getElem? (i := 8) rfl) rfl, by decide, by decide, by decide +kernel⟩
theorem in_less : mIN yX6_less := ⟨tq4 (List.mem_of_getElem? (i := 51) rfl) rfl, tp3 (List.mem_of_getElem? (i := 1) rfl)⟩
theorem ok_set : mOK yX6_set cX6_set 5 none 3 := ⟨tq4 (List.mem_of_getElem? (i := 56) rfl) rfl, tq1 (List.mem_of_getElem? (i := 8) rfl) rfl, by decide, by decide, by decide +kernel⟩
theorem in_set : mIN yX6_set := ⟨tq4 (List.mem_of_getElem? (i := 55) rfl) rfl, tp3 (List.mem_of_getElem? (i := 2) rfl)⟩
theorem ok_reduce : mOK yX6_reduce cX6_reduce 13 (some .int) 3 := ⟨tq4 (List.mem_of_getElem? (i := 60) rfl) rfl, tq1 (List.mem_of_getElem? (i := 8) rfl) rfl, by decide, by decide, by decide +kernel⟩
theorem in_reduce : mIN yX6_reduce := ⟨tq4 (List.mem_of_getElem? (i := 59) rfl) rfl, tp3 (List.mem_of_getElem? (i := 3) rfl)⟩
theorem ok_at : mOK yX6_at cX6_at 3 (some .long) 2 := ⟨tq4 (List.mem_of_getElem? (i := 64) rfl) rfl, tq1 (List.mem_of_getElem? (i := 8) rfl) rfl, by decide, by decide, by decide +kernel⟩
theorem in_at : mIN yX6_at := ⟨tq4 (List.mem_of_getElem? (i := 63) rfl) rfl, tp3 (List.mem_of_getElem? (i := 4) rfl)⟩
theorem ok_over : mOK yX6_over cX6_over 3 (some .long) 1 := ⟨tq4 (List.mem_of_getElem? (i := 68) rfl) rfl, tq1 (List.mem_of_getElem? (i := 8) rfl) rfl, by decide, by decide, by decide +kernel⟩
theorem in_over : mIN yX6_over := ⟨tq4 (List.mem_of_getElem? (i := 67) rfl) rfl, tp3 (List.mem_of_getElem? (i := 5) rfl)⟩
theorem ok_made : mOK yX6_made cX6_made 5 (some .int) 1 := ⟨tq4 (List.mem_of_getElem? (i := 72) rfl) rfl, tq1 (List.mem_of_getElem? (i := 8) rfl) rfl, by decide, by decide, by decide +kernel⟩
theorem in_made : mIN yX6_made := ⟨tq4 (List.mem_of_getElem? (i := 71) rfl) rfl, tp3 (List.mem_of_getElem? (i := 6) rfl)⟩
theorem ok_scale : mOK yX6_scale cX6_scale 6 none 1 := ⟨tq4 (List.mem_of_getElem? (i := 76) rfl) rfl, tq1 (List.mem_of_getElem? (i := 8) rfl) rfl, by decide, by decide, by decide +kernel⟩
theorem in_scale : mIN yX6_scale := ⟨tq4 (List.mem_of_getElem? (i := 75) rfl) rfl, tp3 (List.mem_of_getElem? (i := 7) rfl)⟩
theorem ok_of : mOK yX6_of cX6_of 3 (some .long) 2 := ⟨tq4 (List.mem_of_getElem? (i := 80) rfl) rfl, tq1 (List.mem_of_getElem? (i := 8) rfl) rfl, by decide, by decide, by decide +kernel⟩
theorem in_of : mIN yX6_of := ⟨tq4 (List.mem_of_getElem? (i := 79) rfl) rfl, tp3 (List.mem_of_getElem? (i := 8) rfl)⟩
theorem ok_number : mOK yX6_number cX6_number 3 (some .int) 2 := ⟨tq4 (List.mem_of_getElem? (i := 84) rfl) rfl, tq1 (List.mem_of_getElem? (i := 8) rfl) rfl, by decide, by decide, by decide +kernel⟩
theorem in_number : mIN yX6_number := ⟨tq4 (List.mem_of_getElem? (i := 82) rfl) rfl, tq4 (List.mem_of_getElem? (i := 83) rfl) rfl⟩
theorem ok_isObject : mOK yX6_isObject cX6_isObject 2 (some .boolean) 1 := ⟨tq4 (List.mem_of_getElem? (i := 88) rfl) rfl, tq1 (List.mem_of_getElem? (i := 8) rfl) rfl, by decide, by decide, by decide +kernel⟩
theorem in_isObject : mIN yX6_isObject := ⟨tq4 (List.mem_of_getElem? (i := 87) rfl) rfl, tp3 (List.mem_of_getElem? (i := 9) rfl)⟩
theorem ok_sort : mOK yX6_sort cX6_sort 2 (some .int) 1 := ⟨tq4 (List.mem_of_getElem? (i := 92) rfl) rfl, tq1 (List.mem_of_getElem? (i := 8) rfl) rfl, by decide, by decide, by decide +kernel⟩
theorem in_sort : mIN yX6_sort := ⟨tq4 (List.mem_of_getElem? (i := 90) rfl) rfl, tq4 (List.mem_of_getElem? (i := 91) rfl) rfl⟩
theorem ok_join : mOK yX6_join cX6_join 5 (some .int) 2 := ⟨tq4 (List.mem_of_getElem? (i := 96) rfl) rfl, tq1 (List.mem_of_getElem? (i := 8) rfl) rfl, by decide, by decide, by decide +kernel⟩
theorem in_join : mIN yX6_join := ⟨tq4 (List.mem_of_getElem? (i := 94) rfl) rfl, tq4 (List.mem_of_getElem? (i := 95) rfl) rfl⟩
theorem ok_is : mOK yX6_is cX6_is 3 (some .boolean) 2 := ⟨tq4 (List.mem_of_getElem? (i := 100) rfl) rfl, tq1 (List.mem_of_getElem? (i := 8) rfl) rfl, by decide, by decide, by decide +kernel⟩
theorem in_is : mIN yX6_is := ⟨tq4 (List.mem_of_getElem? (i := 99) rfl) rfl, tp3 (List.mem_of_getElem? (i := 10) rfl)⟩
theorem ok_takeOne : mOK yX6_takeOne cX6_takeOne 3 none 1 := ⟨tq4 (List.mem_of_getElem? (i := 104) rfl) rfl, tq1 (List.mem_of_getElem? (i := 8) rfl) rfl, by decide, by decide, by decide +kernel⟩
theorem in_takeOne : mIN yX6_takeOne := ⟨tq4 (List.mem_of_getElem? (i := 103) rfl) rfl, tp3 (List.mem_of_getElem? (i := 11) rfl)⟩
theorem ok_takeTwo : mOK yX6_takeTwo cX6_takeTwo 3 none 1 := ⟨tq4 (List.mem_of_getElem? (i := 108) rfl) rfl, tq1 (List.mem_of_getElem? (i := 8) rfl) rfl, by decide, by decide, by decide +kernel⟩
theorem in_takeTwo : mIN yX6_takeTwo := ⟨tq4 (List.mem_of_getElem? (i := 107) rfl) rfl, tp3 (List.mem_of_getElem? (i := 12) rfl)⟩
theorem ok_through : mOK yX6_through cX6_through 4 none 0 := ⟨tq4 (List.mem_of_getElem? (i := 112) rfl) rfl, tq1 (List.mem_of_getElem? (i := 8) rfl) rfl, by decide, by decide, by decide +kernel⟩
theorem in_through : mIN yX6_through := ⟨tq4 (List.mem_of_getElem? (i := 111) rfl) rfl, tp3 (List.mem_of_getElem? (i := 13) rfl)⟩
theorem ok_slot : mOK yX6_slot cX6_slot 2 (some .int) 2 := ⟨tq4 (List.mem_of_getElem? (i := 115) rfl) rfl, tq1 (List.mem_of_getElem? (i := 8) rfl) rfl, by decide, by decide, by decide +kernel⟩
theorem in_slot : Cond.static yX6_slot ∈ lw_w := tq4 (List.mem_of_getElem? (i := 114) rfl) rfl
theorem ok_isCrossed : mOK yX6_isCrossed cX6_isCrossed 8 (some .boolean) 2 := ⟨tq4 (List.mem_of_getElem? (i := 119) rfl) rfl, tq1 (List.mem_of_getElem? (i := 8) rfl) rfl, by decide, by decide, by decide +kernel⟩
theorem in_isCrossed : mIN yX6_isCrossed := ⟨tq4 (List.mem_of_getElem? (i := 118) rfl) rfl, tp3 (List.mem_of_getElem? (i := 14) rfl)⟩
theorem ok_joined : mOK yX6_joined cX6_joined 4 (some .int) 2 := ⟨tq4 (List.mem_of_getElem? (i := 123) rfl) rfl, tq1 (List.mem_of_getElem? (i := 8) rfl) rfl, by decide, by decide, by decide +kernel⟩
theorem in_joined : mIN yX6_joined := ⟨tq4 (List.mem_of_getElem? (i := 122) rfl) rfl, tp3 (List.mem_of_getElem? (i := 15) rfl)⟩
theorem ok_base : mOK yX6_base cX6_base 4 none 1 := ⟨tq4 (List.mem_of_getElem? (i := 127) rfl) rfl, tq1 (List.mem_of_getElem? (i := 8) rfl) rfl, by decide, by decide, by decide +kernel⟩
theorem in_base : mIN yX6_base := ⟨tq4 (List.mem_of_getElem? (i := 126) rfl) rfl, tp4 (List.mem_of_getElem? (i := 0) rfl)⟩
theorem ok_entry : mOK yX6_entry cX6_entry 4 (some .long) 3 := ⟨tq4 (List.mem_of_getElem? (i := 131) rfl) rfl, tq1 (List.mem_of_getElem? (i := 8) rfl) rfl, by decide, by decide, by decide +kernel⟩
theorem in_entry : mIN yX6_entry := ⟨tq4 (List.mem_of_getElem? (i := 130) rfl) rfl, tp4 (List.mem_of_getElem? (i := 1) rfl)⟩
theorem ok_spanned : mOK yX6_spanned cX6_spanned 8 none 1 := ⟨tq4 (List.mem_of_getElem? (i := 135) rfl) rfl, tq1 (List.mem_of_getElem? (i := 8) rfl) rfl, by decide, by decide, by decide +kernel⟩
theorem in_spanned : mIN yX6_spanned := ⟨tq4 (List.mem_of_getElem? (i := 134) rfl) rfl, tp4 (List.mem_of_getElem? (i := 2) rfl)⟩
theorem ok_madeOrNone : mOK yX6_madeOrNone cX6_madeOrNone 2 (some .int) 1 := ⟨tq4 (List.mem_of_getElem? (i := 139) rfl) rfl, tq1 (List.mem_of_getElem? (i := 8) rfl) rfl, by decide, by decide, by decide +kernel⟩
theorem in_madeOrNone : mIN yX6_madeOrNone := ⟨tq4 (List.mem_of_getElem? (i := 138) rfl) rfl, tp4 (List.mem_of_getElem? (i := 3) rfl)⟩
theorem ok_meet : mOK yX6_meet cX6_meet 4 (some .int) 2 := ⟨tq4 (List.mem_of_getElem? (i := 143) rfl) rfl, tq1 (List.mem_of_getElem? (i := 8) rfl) rfl, by decide, by decide, by decide +kernel⟩
theorem in_meet : mIN yX6_meet := ⟨tq4 (List.mem_of_getElem? (i := 141) rfl) rfl, tq4 (List.mem_of_getElem? (i := 142) rfl) rfl⟩
theorem ok_both : mOK yX6_both cX6_both 5 (some .int) 2 := ⟨tq4 (List.mem_of_getElem? (i := 147) rfl) rfl, tq1 (List.mem_of_getElem? (i := 8) rfl) rfl, by decide, by decide, by decide +kernel⟩
theorem in_both : mIN yX6_both := ⟨tq4 (List.mem_of_getElem? (i := 146) rfl) rfl, tp4 (List.mem_of_getElem? (i := 4) rfl)⟩
theorem ok_turn : mOK yX6_turn cX6_turn 4 none 0 := ⟨tq4 (List.mem_of_getElem? (i := 151) rfl) rfl, tq1 (List.mem_of_getElem? (i := 8) rfl) rfl, by decide, by decide, by decide +kernel⟩
theorem in_turn : mIN yX6_turn := ⟨tq4 (List.mem_of_getElem? (i := 150) rfl) rfl, tp4 (List.mem_of_getElem? (i := 5) rfl)⟩
theorem ok_crossing : mOK yX6_crossing cX6_crossing 9 none 2 := ⟨tq4 (List.mem_of_getElem? (i := 155) rfl) rfl, tq1 (List.mem_of_getElem? (i := 8) rfl) rfl, by decide, by decide, by decide +kernel⟩
theorem in_crossing : mIN yX6_crossing := ⟨tq4 (List.mem_of_getElem? (i := 154) rfl) rfl, tp4 (List.mem_of_getElem? (i := 6) rfl)⟩
theorem ok_pierced : mOK yX6_pierced cX6_pierced 5 none 2 := ⟨tq4 (List.mem_of_getElem? (i := 159) rfl) rfl, tq1 (List.mem_of_getElem? (i := 8) rfl) rfl, by decide, by decide, by decide +kernel⟩
theorem in_pierced : mIN yX6_pierced := ⟨tq4 (List.mem_of_getElem? (i := 158) rfl) rfl, tp4 (List.mem_of_getElem? (i := 7) rfl)⟩
theorem ok_on : mOK yX6_on cX6_on 3 (some .int) 2 := ⟨tq4 (List.mem_of_getElem? (i := 163) rfl) rfl, tq1 (List.mem_of_getElem? (i := 8) rfl) rfl, by decide, by decide, by decide +kernel⟩
theorem in_on : mIN yX6_on := ⟨tq4 (List.mem_of_getElem? (i := 161) rfl) rfl, tq4 (List.mem_of_getElem? (i := 162) rfl) rfl⟩
theorem ok_isOn : mOK yX6_isOn cX6_isOn 5 (some .int) 2 := ⟨tq4 (List.mem_of_getElem? (i := 167) rfl) rfl, tq1 (List.mem_of_getElem? (i := 8) rfl) rfl, by decide, by decide, by decide +kernel⟩
theorem in_isOn : mIN yX6_isOn := ⟨tq4 (List.mem_of_getElem? (i := 166) rfl) rfl, tp4 (List.mem_of_getElem? (i := 8) rfl)⟩
theorem ok_form : mOK yX6_form cX6_form 10 (some .long) 3 := ⟨tq4 (List.mem_of_getElem? (i := 171) rfl) rfl, tq1 (List.mem_of_getElem? (i := 8) rfl) rfl, by decide, by decide, by decide +kernel⟩
theorem in_form : mIN yX6_form := ⟨tq4 (List.mem_of_getElem? (i := 170) rfl) rfl, tp4 (List.mem_of_getElem? (i := 9) rfl)⟩
theorem ok_dot : mOK yX6_dot cX6_dot 6 (some .long) 2 := ⟨tq4 (List.mem_of_getElem? (i := 175) rfl) rfl, tq1 (List.mem_of_getElem? (i := 8) rfl) rfl, by decide, by decide, by decide +kernel⟩
theorem in_dot : mIN yX6_dot := ⟨tq4 (List.mem_of_getElem? (i := 174) rfl) rfl, tp4 (List.mem_of_getElem? (i := 10) rfl)⟩
theorem ok_cross : mOK yX6_cross cX6_cross 9 (some .long) 4 := ⟨tq4 (List.mem_of_getElem? (i := 179) rfl) rfl, tq1 (List.mem_of_getElem? (i := 8) rfl) rfl, by decide, by decide, by decide +kernel⟩
theorem in_cross : mIN yX6_cross := ⟨tq4 (List.mem_of_getElem? (i := 177) rfl) rfl, tq4 (List.mem_of_getElem? (i := 178) rfl) rfl⟩
theorem ok_areOne : mOK yX6_areOne cX6_areOne 3 (some .boolean) 2 := ⟨tq4 (List.mem_of_getElem? (i := 183) rfl) rfl, tq1 (List.mem_of_getElem? (i := 8) rfl) rfl, by decide, by decide, by decide +kernel⟩
theorem in_areOne : mIN yX6_areOne := ⟨tq4 (List.mem_of_getElem? (i := 182) rfl) rfl, tp4 (List.mem_of_getElem? (i := 11) rfl)⟩
theorem ok_rankOf : mOK yX6_rankOf cX6_rankOf 5 (some .int) 4 := ⟨tq4 (List.mem_of_getElem? (i := 188) rfl) rfl, tq1 (List.mem_of_getElem? (i := 8) rfl) rfl, by decide, by decide, by decide +kernel⟩
theorem in_rankOf : mIN yX6_rankOf := ⟨tq4 (List.mem_of_getElem? (i := 187) rfl) rfl, tp4 (List.mem_of_getElem? (i := 12) rfl)⟩
theorem ok_lay : mOK yX6_lay cX6_lay 5 none 3 := ⟨tq4 (List.mem_of_getElem? (i := 192) rfl) rfl, tq1 (List.mem_of_getElem? (i := 8) rfl) rfl, by decide, by decide, by decide +kernel⟩
theorem in_lay : mIN yX6_lay := ⟨tq4 (List.mem_of_getElem? (i := 191) rfl) rfl, tp4 (List.mem_of_getElem? (i := 13) rfl)⟩
theorem ok_places : mOK yX6_places cX6_places 8 none 4 := ⟨tq4 (List.mem_of_getElem? (i := 197) rfl) rfl, tq1 (List.mem_of_getElem? (i := 8) rfl) rfl, by decide, by decide, by decide +kernel⟩
theorem in_places : mIN yX6_places := ⟨tq4 (List.mem_of_getElem? (i := 196) rfl) rfl, tp4 (List.mem_of_getElem? (i := 14) rfl)⟩
theorem ok_bracket : mOK yX6_bracket cX6_bracket 5 (some .long) 4 := ⟨tq4 (List.mem_of_getElem? (i := 201) rfl) rfl, tq1 (List.mem_of_getElem? (i := 8) rfl) rfl, by decide, by decide, by decide +kernel⟩
theorem in_bracket : mIN yX6_bracket := ⟨tq4 (List.mem_of_getElem? (i := 200) rfl) rfl, tp4 (List.mem_of_getElem? (i := 15) rfl)⟩
theorem ok_brackets : mOK yX6_brackets cX6_brackets 3 (some .long) 2 := ⟨tq4 (List.mem_of_getElem? (i := 205) rfl) rfl, tq1 (List.mem_of_getElem? (i := 8) rfl) rfl, by decide, by decide, by decide +kernel⟩
theorem in_brackets : mIN yX6_brackets := ⟨tq4 (List.mem_of_getElem? (i := 204) rfl) rfl, tp5 (List.mem_of_getElem? (i := 0) rfl)⟩
theorem ok_fourth : mOK yX6_fourth cX6_fourth 11 (some .int) 4 := ⟨tq4 (List.mem_of_getElem? (i := 209) rfl) rfl, tq1 (List.mem_of_getElem? (i := 8) rfl) rfl, by decide, by decide, by decide +kernel⟩
theorem in_fourth : mIN yX6_fourth := ⟨tq4 (List.mem_of_getElem? (i := 207) rfl) rfl, tq4 (List.mem_of_getElem? (i := 208) rfl) rfl⟩
theorem ok_map : mOK yX6_map cX6_map 4 (some .int) 0 := ⟨tq4 (List.mem_of_getElem? (i := 213) rfl) rfl, tq1 (List.mem_of_getElem? (i := 8) rfl) rfl, by decide, by decide, by decide +kernel⟩
theorem in_map : mIN yX6_map := ⟨tq4 (List.mem_of_getElem? (i := 211) rfl) rfl, tq4 (List.mem_of_getElem? (i := 212) rfl) rfl⟩
theorem ok_isWide : mOK yX6_isWide cX6_isWide 6 (some .boolean) 1 := ⟨tq4 (List.mem_of_getElem? (i := 217) rfl) rfl, tq1 (List.mem_of_getElem? (i := 8) rfl) rfl, by decide, by decide, by decide +kernel⟩
theorem in_isWide : mIN yX6_isWide := ⟨tq4 (List.mem_of_getElem? (i := 216) rfl) rfl, tp5 (List.mem_of_getElem? (i := 1) rfl)⟩
theorem ok_columns : mOK yX6_columns cX6_columns 8 none 1 := ⟨tq4 (List.mem_of_getElem? (i := 221) rfl) rfl, tq1 (List.mem_of_getElem? (i := 8) rfl) rfl, by decide, by decide, by decide +kernel⟩
theorem in_columns : mIN yX6_columns := ⟨tq4 (List.mem_of_getElem? (i := 220) rfl) rfl, tp5 (List.mem_of_getElem? (i := 2) rfl)⟩
theorem ok_compose : mOK yX6_compose cX6_compose 3 (some .int) 2 := ⟨tq4 (List.mem_of_getElem? (i := 225) rfl) rfl, tq1 (List.mem_of_getElem? (i := 8) rfl) rfl, by decide, by decide, by decide +kernel⟩
theorem in_compose : mIN yX6_compose := ⟨tq4 (List.mem_of_getElem? (i := 223) rfl) rfl, tq4 (List.mem_of_getElem? (i := 224) rfl) rfl⟩
theorem ok_product : mOK yX6_product cX6_product 6 none 2 := ⟨tq4 (List.mem_of_getElem? (i := 229) rfl) rfl, tq1 (List.mem_of_getElem? (i := 8) rfl) rfl, by decide, by decide, by decide +kernel⟩
theorem in_product : mIN yX6_product := ⟨tq4 (List.mem_of_getElem? (i := 228) rfl) rfl, tp5 (List.mem_of_getElem? (i := 3) rfl)⟩
theorem ok_inverse : mOK yX6_inverse cX6_inverse 3 (some .int) 1 := ⟨tq4 (List.mem_of_getElem? (i := 233) rfl) rfl, tq1 (List.mem_of_getElem? (i := 8) rfl) rfl, by decide, by decide, by decide +kernel⟩
theorem in_inverse : mIN yX6_inverse := ⟨tq4 (List.mem_of_getElem? (i := 231) rfl) rfl, tq4 (List.mem_of_getElem? (i := 232) rfl) rfl⟩
theorem ok_isTurned : mOK yX6_isTurned cX6_isTurned 4 (some .boolean) 1 := ⟨tq4 (List.mem_of_getElem? (i := 237) rfl) rfl, tq1 (List.mem_of_getElem? (i := 8) rfl) rfl, by decide, by decide, by decide +kernel⟩
theorem in_isTurned : mIN yX6_isTurned := ⟨tq4 (List.mem_of_getElem? (i := 236) rfl) rfl, tp5 (List.mem_of_getElem? (i := 4) rfl)⟩
theorem ok_apply : mOK yX6_apply cX6_apply 6 (some .int) 2 := ⟨tq5 (List.mem_of_getElem? (i := 1) rfl) rfl, tq1 (List.mem_of_getElem? (i := 8) rfl) rfl, by decide, by decide, by decide +kernel⟩
theorem in_apply : mIN yX6_apply := ⟨tq4 (List.mem_of_getElem? (i := 239) rfl) rfl, tq5 (List.mem_of_getElem? (i := 0) rfl) rfl⟩
theorem ok_mapped : mOK yX6_mapped cX6_mapped 5 none 2 := ⟨tq5 (List.mem_of_getElem? (i := 5) rfl) rfl, tq1 (List.mem_of_getElem? (i := 8) rfl) rfl, by decide, by decide, by decide +kernel⟩
theorem in_mapped : mIN yX6_mapped := ⟨tq5 (List.mem_of_getElem? (i := 4) rfl) rfl, tp5 (List.mem_of_getElem? (i := 5) rfl)⟩
theorem ok_squared : mOK yX6_squared cX6_squared 11 none 3 := ⟨tq5 (List.mem_of_getElem? (i := 9) rfl) rfl, tq1 (List.mem_of_getElem? (i := 8) rfl) rfl, by decide, by decide, by decide +kernel⟩
theorem in_squared : mIN yX6_squared := ⟨tq5 (List.mem_of_getElem? (i := 8) rfl) rfl, tp5 (List.mem_of_getElem? (i := 6) rfl)⟩
theorem ok_order : mOK yX6_order cX6_order 8 (some .int) 1 := ⟨tq5 (List.mem_of_getElem? (i := 13) rfl) rfl, tq1 (List.mem_of_getElem? (i := 8) rfl) rfl, by decide, by decide, by decide +kernel⟩
theorem in_order : mIN yX6_order := ⟨tq5 (List.mem_of_getElem? (i := 11) rfl) rfl, tq5 (List.mem_of_getElem? (i := 12) rfl) rfl⟩
theorem ok_pair : mOK yX6_pair cX6_pair 3 (some .int) 2 := ⟨tq5 (List.mem_of_getElem? (i := 17) rfl) rfl, tq1 (List.mem_of_getElem? (i := 8) rfl) rfl, by decide, by decide, by decide +kernel⟩
theorem in_pair : mIN yX6_pair := ⟨tq5 (List.mem_of_getElem? (i := 15) rfl) rfl, tq5 (List.mem_of_getElem? (i := 16) rfl) rfl⟩
theorem ok_gather : mOK yX6_gather cX6_gather 2 (some .int) 1 := ⟨tq5 (List.mem_of_getElem? (i := 21) rfl) rfl, tq1 (List.mem_of_getElem? (i := 8) rfl) rfl, by decide, by decide, by decide +kernel⟩
theorem in_gather : mIN yX6_gather := ⟨tq5 (List.mem_of_getElem? (i := 19) rfl) rfl, tq5 (List.mem_of_getElem? (i := 20) rfl) rfl⟩
theorem ok_forget : mOK yX6_forget cX6_forget 2 (some .int) 0 := ⟨tq5 (List.mem_of_getElem? (i := 25) rfl) rfl, tq1 (List.mem_of_getElem? (i := 8) rfl) rfl, by decide, by decide, by decide +kernel⟩
theorem in_forget : mIN yX6_forget := ⟨tq5 (List.mem_of_getElem? (i := 23) rfl) rfl, tq5 (List.mem_of_getElem? (i := 24) rfl) rfl⟩
theorem ok_quadric : mOK yX6_quadric cX6_quadric 8 (some .int) 0 := ⟨tq5 (List.mem_of_getElem? (i := 29) rfl) rfl, tq1 (List.mem_of_getElem? (i := 8) rfl) rfl, by decide, by decide, by decide +kernel⟩
theorem in_quadric : mIN yX6_quadric := ⟨tq5 (List.mem_of_getElem? (i := 27) rfl) rfl, tq5 (List.mem_of_getElem? (i := 28) rfl) rfl⟩
theorem ok_conditions : mOK yX6_conditions cX6_conditions 7 (some .int) 0 := ⟨tq5 (List.mem_of_getElem? (i := 33) rfl) rfl, tq1 (List.mem_of_getElem? (i := 8) rfl) rfl, by decide, by decide, by decide +kernel⟩
theorem in_conditions : mIN yX6_conditions := ⟨tq5 (List.mem_of_getElem? (i := 32) rfl) rfl, tp5 (List.mem_of_getElem? (i := 7) rfl)⟩
theorem ok_rank : mOK yX6_rank cX6_rank 2 (some .int) 1 := ⟨tq5 (List.mem_of_getElem? (i := 37) rfl) rfl, tq1 (List.mem_of_getElem? (i := 8) rfl) rfl, by decide, by decide, by decide +kernel⟩
theorem in_rank : mIN yX6_rank := ⟨tq5 (List.mem_of_getElem? (i := 35) rfl) rfl, tq5 (List.mem_of_getElem? (i := 36) rfl) rfl⟩
theorem ok_squareRank : mOK yX6_squareRank cX6_squareRank 4 (some .int) 1 := ⟨tq5 (List.mem_of_getElem? (i := 41) rfl) rfl, tq1 (List.mem_of_getElem? (i := 8) rfl) rfl, by decide, by decide, by decide +kernel⟩
theorem in_squareRank : mIN yX6_squareRank := ⟨tq5 (List.mem_of_getElem? (i := 40) rfl) rfl, tp5 (List.mem_of_getElem? (i := 8) rfl)⟩
theorem ok_polar : mOK yX6_polar cX6_polar 6 (some .int) 2 := ⟨tq5 (List.mem_of_getElem? (i := 45) rfl) rfl, tq1 (List.mem_of_getElem? (i := 8) rfl) rfl, by decide, by decide, by decide +kernel⟩
theorem in_polar : mIN yX6_polar := ⟨tq5 (List.mem_of_getElem? (i := 43) rfl) rfl, tq5 (List.mem_of_getElem? (i := 44) rfl) rfl⟩
theorem ok_touches : mOK yX6_touches cX6_touches 3 (some .long) 2 := ⟨tq5 (List.mem_of_getElem? (i := 49) rfl) rfl, tq1 (List.mem_of_getElem? (i := 8) rfl) rfl, by decide, by decide, by decide +kernel⟩
theorem in_touches : mIN yX6_touches := ⟨tq5 (List.mem_of_getElem? (i := 47) rfl) rfl, tq5 (List.mem_of_getElem? (i := 48) rfl) rfl⟩
theorem ok_forms : mOK yX6_forms cX6_forms 3 none 2 := ⟨tq5 (List.mem_of_getElem? (i := 53) rfl) rfl, tq1 (List.mem_of_getElem? (i := 8) rfl) rfl, by decide, by decide, by decide +kernel⟩
theorem in_forms : mIN yX6_forms := ⟨tq5 (List.mem_of_getElem? (i := 52) rfl) rfl, tp5 (List.mem_of_getElem? (i := 9) rfl)⟩
theorem ok_many : mOK yX6_many cX6_many 3 (some .long) 0 := ⟨tq5 (List.mem_of_getElem? (i := 57) rfl) rfl, tq1 (List.mem_of_getElem? (i := 8) rfl) rfl, by decide, by decide, by decide +kernel⟩
theorem in_many : mIN yX6_many := ⟨tq5 (List.mem_of_getElem? (i := 56) rfl) rfl, tp5 (List.mem_of_getElem? (i := 10) rfl)⟩
theorem ok_common : mOK yX6_common cX6_common 17 (some .int) 3 := ⟨tq5 (List.mem_of_getElem? (i := 61) rfl) rfl, tq1 (List.mem_of_getElem? (i := 8) rfl) rfl, by decide, by decide, by decide +kernel⟩
theorem in_common : mIN yX6_common := ⟨tq5 (List.mem_of_getElem? (i := 59) rfl) rfl, tq5 (List.mem_of_getElem? (i := 60) rfl) rfl⟩
theorem ok_dual : mOK yX6_dual cX6_dual 5 (some .int) 1 := ⟨tq5 (List.mem_of_getElem? (i := 65) rfl) rfl, tq1 (List.mem_of_getElem? (i := 8) rfl) rfl, by decide, by decide, by decide +kernel⟩
theorem in_dual : mIN yX6_dual := ⟨tq5 (List.mem_of_getElem? (i := 63) rfl) rfl, tq5 (List.mem_of_getElem? (i := 64) rfl) rfl⟩
theorem ok_ideal : mOK yX6_ideal cX6_ideal 3 (some .int) 1 := ⟨tq5 (List.mem_of_getElem? (i := 69) rfl) rfl, tq1 (List.mem_of_getElem? (i := 8) rfl) rfl, by decide, by decide, by decide +kernel⟩
theorem in_ideal : mIN yX6_ideal := ⟨tq5 (List.mem_of_getElem? (i := 67) rfl) rfl, tq5 (List.mem_of_getElem? (i := 68) rfl) rfl⟩
theorem ok_flat : mOK yX6_flat cX6_flat 1 (some .int) 0 := ⟨tq5 (List.mem_of_getElem? (i := 73) rfl) rfl, tq1 (List.mem_of_getElem? (i := 8) rfl) rfl, by decide, by decide, by decide +kernel⟩
theorem in_flat : mIN yX6_flat := ⟨tq5 (List.mem_of_getElem? (i := 72) rfl) rfl, tp5 (List.mem_of_getElem? (i := 11) rfl)⟩
theorem ok_parallel : mOK yX6_parallel cX6_parallel 6 (some .int) 2 := ⟨tq5 (List.mem_of_getElem? (i := 77) rfl) rfl, tq1 (List.mem_of_getElem? (i := 8) rfl) rfl, by decide, by decide, by decide +kernel⟩
theorem in_parallel : mIN yX6_parallel := ⟨tq5 (List.mem_of_getElem? (i := 75) rfl) rfl, tq5 (List.mem_of_getElem? (i := 76) rfl) rfl⟩
theorem ok_isFar : mOK yX6_isFar cX6_isFar 2 (some .boolean) 1 := ⟨tq5 (List.mem_of_getElem? (i := 81) rfl) rfl, tq1 (List.mem_of_getElem? (i := 8) rfl) rfl, by decide, by decide, by decide +kernel⟩
theorem in_isFar : mIN yX6_isFar := ⟨tq5 (List.mem_of_getElem? (i := 80) rfl) rfl, tp5 (List.mem_of_getElem? (i := 12) rfl)⟩
theorem ok_isIdeal : mOK yX6_isIdeal cX6_isIdeal 9 (some .boolean) 1 := ⟨tq5 (List.mem_of_getElem? (i := 85) rfl) rfl, tq1 (List.mem_of_getElem? (i := 8) rfl) rfl, by decide, by decide, by decide +kernel⟩
theorem in_isIdeal : mIN yX6_isIdeal := ⟨tq5 (List.mem_of_getElem? (i := 84) rfl) rfl, tp5 (List.mem_of_getElem? (i := 13) rfl)⟩
theorem ok_middle : mOK yX6_middle cX6_middle 8 (some .int) 2 := ⟨tq5 (List.mem_of_getElem? (i := 89) rfl) rfl, tq1 (List.mem_of_getElem? (i := 8) rfl) rfl, by decide, by decide, by decide +kernel⟩
theorem in_middle : mIN yX6_middle := ⟨tq5 (List.mem_of_getElem? (i := 87) rfl) rfl, tq5 (List.mem_of_getElem? (i := 88) rfl) rfl⟩
theorem ok_holds : mOK yX6_holds cX6_holds 4 (some .int) 1 := ⟨tq5 (List.mem_of_getElem? (i := 93) rfl) rfl, tq1 (List.mem_of_getElem? (i := 8) rfl) rfl, by decide, by decide, by decide +kernel⟩
theorem in_holds : mIN yX6_holds := ⟨tq5 (List.mem_of_getElem? (i := 91) rfl) rfl, tq5 (List.mem_of_getElem? (i := 92) rfl) rfl⟩
theorem ok_rankOfThree : mOK yX6_rankOfThree cX6_rankOfThree 4 (some .int) 3 := ⟨tq5 (List.mem_of_getElem? (i := 97) rfl) rfl, tq1 (List.mem_of_getElem? (i := 8) rfl) rfl, by decide, by decide, by decide +kernel⟩
theorem in_rankOfThree : mIN yX6_rankOfThree := ⟨tq5 (List.mem_of_getElem? (i := 96) rfl) rfl, tp5 (List.mem_of_getElem? (i := 14) rfl)⟩
theorem ok_areThree : mOK yX6_areThree cX6_areThree 3 (some .boolean) 0 := ⟨tq5 (List.mem_of_getElem? (i := 101) rfl) rfl, tq1 (List.mem_of_getElem? (i := 8) rfl) rfl, by decide, by decide, by decide +kernel⟩
theorem in_areThree : mIN yX6_areThree := ⟨tq5 (List.mem_of_getElem? (i := 100) rfl) rfl, tp5 (List.mem_of_getElem? (i := 15) rfl)⟩
theorem ok_isLine : mOK yX6_isLine cX6_isLine 9 (some .boolean) 3 := ⟨tq5 (List.mem_of_getElem? (i := 105) rfl) rfl, tq1 (List.mem_of_getElem? (i := 8) rfl) rfl, by decide, by decide, by decide +kernel⟩
theorem in_isLine : mIN yX6_isLine := ⟨tq5 (List.mem_of_getElem? (i := 104) rfl) rfl, tp6 (List.mem_of_getElem? (i := 0) rfl)⟩
theorem ok_isMet : mOK yX6_isMet cX6_isMet 7 (some .boolean) 5 := ⟨tq5 (List.mem_of_getElem? (i := 109) rfl) rfl, tq1 (List.mem_of_getElem? (i := 8) rfl) rfl, by decide, by decide, by decide +kernel⟩
theorem in_isMet : mIN yX6_isMet := ⟨tq5 (List.mem_of_getElem? (i := 108) rfl) rfl, tp6 (List.mem_of_getElem? (i := 1) rfl)⟩
theorem ok_told : mOK yX6_told cX6_told 2 (some .int) 1 := ⟨tq5 (List.mem_of_getElem? (i := 113) rfl) rfl, tq1 (List.mem_of_getElem? (i := 8) rfl) rfl, by decide, by decide, by decide +kernel⟩
theorem in_told : mIN yX6_told := ⟨tq5 (List.mem_of_getElem? (i := 111) rfl) rfl, tq5 (List.mem_of_getElem? (i := 112) rfl) rfl⟩
theorem lk6_44 : Cond.methodLink RX6 44 yX6_begin ∈ lw_w := tq3 (List.mem_of_getElem? (i := 164) rfl) rfl
theorem lk6_52 : Cond.methodLink RX6 52 yX6_isPrime ∈ lw_w := tq3 (List.mem_of_getElem? (i := 168) rfl) rfl
theorem lk6_76 : Cond.methodLink RX6 76 yX6_times ∈ lw_w := tq4 (List.mem_of_getElem? (i := 17) rfl) rfl
theorem lk6_80 : Cond.methodLink RX6 80 yX6_power ∈ lw_w := tq4 (List.mem_of_getElem? (i := 13) rfl) rfl
theorem lk6_83 : Cond.methodLink RX6 83 yX6_isSquare ∈ lw_w := tq4 (List.mem_of_getElem? (i := 9) rfl) rfl
theorem lk6_87 : Cond.methodLink RX6 87 yX6_mod ∈ lw_w := tq4 (List.mem_of_getElem? (i := 5) rfl) rfl
theorem lk6_91 : Cond.methodLink RX6 91 yX6_rootOf ∈ lw_w := tq4 (List.mem_of_getElem? (i := 21) rfl) rfl
theorem lk6_94 : Cond.methodLink RX6 94 yX6_at ∈ lw_w := tq4 (List.mem_of_getElem? (i := 61) rfl) rfl
theorem lk6_98 : Cond.methodLink RX6 98 yX6_over ∈ lw_w := tq4 (List.mem_of_getElem? (i := 65) rfl) rfl
theorem lk6_101 : Cond.methodLink RX6 101 yX6_set ∈ lw_w := tq4 (List.mem_of_getElem? (i := 53) rfl) rfl
theorem lk6_105 : Cond.methodLink RX6 105 yX6_less ∈ lw_w := tq4 (List.mem_of_getElem? (i := 49) rfl) rfl
theorem lk6_108 : Cond.methodLink RX6 108 yX6_of ∈ lw_w := tq4 (List.mem_of_getElem? (i := 77) rfl) rfl
theorem lk6_111 : Cond.methodLink RX6 111 yX6_side ∈ lw_w := tq4 (List.mem_of_getElem? (i := 41) rfl) rfl
theorem lk6_115 : Cond.methodLink RX6 115 yX6_reduce ∈ lw_w := tq4 (List.mem_of_getElem? (i := 57) rfl) rfl
theorem lk6_119 : Cond.methodLink RX6 119 yX6_isObject ∈ lw_w := tq4 (List.mem_of_getElem? (i := 85) rfl) rfl
theorem lk6_122 : Cond.methodLink RX6 122 yX6_width ∈ lw_w := tq4 (List.mem_of_getElem? (i := 37) rfl) rfl
theorem lk6_126 : Cond.methodLink RX6 126 yX6_scale ∈ lw_w := tq4 (List.mem_of_getElem? (i := 73) rfl) rfl
theorem lk6_130 : Cond.methodLink RX6 130 yX6_isNothing ∈ lw_w := tq4 (List.mem_of_getElem? (i := 45) rfl) rfl
theorem lk6_133 : Cond.methodLink RX6 133 yX6_made ∈ lw_w := tq4 (List.mem_of_getElem? (i := 69) rfl) rfl
theorem lk6_136 : Cond.methodLink RX6 136 yX6_clear ∈ lw_w := tq4 (List.mem_of_getElem? (i := 33) rfl) rfl
theorem lk6_139 : Cond.methodLink RX6 139 yX6_slot ∈ lw_w := tq4 (List.mem_of_getElem? (i := 113) rfl) rfl
theorem lk6_142 : Cond.methodLink RX6 142 yX6_entry ∈ lw_w := tq4 (List.mem_of_getElem? (i := 128) rfl) rfl
theorem lk6_146 : Cond.methodLink RX6 146 yX6_is ∈ lw_w := tq4 (List.mem_of_getElem? (i := 97) rfl) rfl
theorem lk6_150 : Cond.methodLink RX6 150 yX6_takeOne ∈ lw_w := tq4 (List.mem_of_getElem? (i := 101) rfl) rfl
theorem lk6_153 : Cond.methodLink RX6 153 yX6_takeTwo ∈ lw_w := tq4 (List.mem_of_getElem? (i := 105) rfl) rfl
theorem lk6_156 : Cond.methodLink RX6 156 yX6_through ∈ lw_w := tq4 (List.mem_of_getElem? (i := 109) rfl) rfl
theorem lk6_159 : Cond.methodLink RX6 159 yX6_isCrossed ∈ lw_w := tq4 (List.mem_of_getElem? (i := 116) rfl) rfl
theorem lk6_162 : Cond.methodLink RX6 162 yX6_joined ∈ lw_w := tq4 (List.mem_of_getElem? (i := 120) rfl) rfl
theorem lk6_165 : Cond.methodLink RX6 165 yX6_spanned ∈ lw_w := tq4 (List.mem_of_getElem? (i := 132) rfl) rfl
theorem lk6_168 : Cond.methodLink RX6 168 yX6_madeOrNone ∈ lw_w := tq4 (List.mem_of_getElem? (i := 136) rfl) rfl
theorem lk6_171 : Cond.methodLink RX6 171 yX6_base ∈ lw_w := tq4 (List.mem_of_getElem? (i := 124) rfl) rfl
theorem lk6_174 : Cond.methodLink RX6 174 yX6_turn ∈ lw_w := tq4 (List.mem_of_getElem? (i := 148) rfl) rfl
theorem lk6_177 : Cond.methodLink RX6 177 yX6_crossing ∈ lw_w := tq4 (List.mem_of_getElem? (i := 152) rfl) rfl
theorem lk6_181 : Cond.methodLink RX6 181 yX6_pierced ∈ lw_w := tq4 (List.mem_of_getElem? (i := 156) rfl) rfl
theorem lk6_184 : Cond.methodLink RX6 184 yX6_both ∈ lw_w := tq4 (List.mem_of_getElem? (i := 144) rfl) rfl
theorem lk6_187 : Cond.methodLink RX6 187 yX6_form ∈ lw_w := tq4 (List.mem_of_getElem? (i := 168) rfl) rfl
theorem lk6_191 : Cond.methodLink RX6 191 yX6_dot ∈ lw_w := tq4 (List.mem_of_getElem? (i := 172) rfl) rfl
theorem lk6_194 : Cond.methodLink RX6 194 yX6_isOn ∈ lw_w := tq4 (List.mem_of_getElem? (i := 164) rfl) rfl
theorem lk6_197 : Cond.methodLink RX6 197 yX6_lay ∈ lw_w := tq4 (List.mem_of_getElem? (i := 189) rfl) rfl
theorem lk6_204 : Cond.methodLink RX6 204 yX6_bracket ∈ lw_w := tq4 (List.mem_of_getElem? (i := 198) rfl) rfl
theorem lk6_211 : Cond.methodLink RX6 211 yX6_areOne ∈ lw_w := tq4 (List.mem_of_getElem? (i := 180) rfl) rfl
theorem lk6_216 : Cond.methodLink RX6 216 yX6_rankOf ∈ lw_w := tq4 (List.mem_of_getElem? (i := 185) rfl) rfl
theorem lk6_222 : Cond.methodLink RX6 222 yX6_places ∈ lw_w := tq4 (List.mem_of_getElem? (i := 194) rfl) rfl
theorem lk6_226 : Cond.methodLink RX6 226 yX6_brackets ∈ lw_w := tq4 (List.mem_of_getElem? (i := 202) rfl) rfl
theorem lk6_229 : Cond.methodLink RX6 229 yX6_isWide ∈ lw_w := tq4 (List.mem_of_getElem? (i := 214) rfl) rfl
theorem lk6_233 : Cond.methodLink RX6 233 yX6_columns ∈ lw_w := tq4 (List.mem_of_getElem? (i := 218) rfl) rfl
theorem lk6_237 : Cond.methodLink RX6 237 yX6_product ∈ lw_w := tq4 (List.mem_of_getElem? (i := 226) rfl) rfl
theorem lk6_240 : Cond.methodLink RX6 240 yX6_isTurned ∈ lw_w := tq4 (List.mem_of_getElem? (i := 234) rfl) rfl
theorem lk6_243 : Cond.methodLink RX6 243 yX6_mapped ∈ lw_w := tq5 (List.mem_of_getElem? (i := 2) rfl) rfl
theorem lk6_247 : Cond.methodLink RX6 247 yX6_squared ∈ lw_w := tq5 (List.mem_of_getElem? (i := 6) rfl) rfl
theorem lk6_250 : Cond.methodLink RX6 250 yX6_conditions ∈ lw_w := tq5 (List.mem_of_getElem? (i := 30) rfl) rfl
theorem lk6_253 : Cond.methodLink RX6 253 yX6_squareRank ∈ lw_w := tq5 (List.mem_of_getElem? (i := 38) rfl) rfl
theorem lk6_265 : Cond.methodLink RX6 265 yX6_forms ∈ lw_w := tq5 (List.mem_of_getElem? (i := 50) rfl) rfl
theorem lk6_268 : Cond.methodLink RX6 268 yX6_many ∈ lw_w := tq5 (List.mem_of_getElem? (i := 54) rfl) rfl
theorem lk6_272 : Cond.methodLink RX6 272 yX6_flat ∈ lw_w := tq5 (List.mem_of_getElem? (i := 70) rfl) rfl
theorem lk6_275 : Cond.methodLink RX6 275 yX6_isFar ∈ lw_w := tq5 (List.mem_of_getElem? (i := 78) rfl) rfl
theorem lk6_278 : Cond.methodLink RX6 278 yX6_isIdeal ∈ lw_w := tq5 (List.mem_of_getElem? (i := 82) rfl) rfl
theorem lk6_281 : Cond.methodLink RX6 281 yX6_isLine ∈ lw_w := tq5 (List.mem_of_getElem? (i := 102) rfl) rfl
theorem lk6_285 : Cond.methodLink RX6 285 yX6_rankOfThree ∈ lw_w := tq5 (List.mem_of_getElem? (i := 94) rfl) rfl
theorem lk6_288 : Cond.methodLink RX6 288 yX6_areThree ∈ lw_w := tq5 (List.mem_of_getElem? (i := 98) rfl) rfl
theorem lk6_292 : Cond.methodLink RX6 292 yX6_isMet ∈ lw_w := tq5 (List.mem_of_getElem? (i := 106) rfl) rfl
theorem cl6_48 : Cond.constantLong RX6 48 (3) ∈ lw_w := tq3 (List.mem_of_getElem? (i := 171) rfl) rfl
theorem cl6_50 : Cond.constantLong RX6 50 (2) ∈ lw_w := tq3 (List.mem_of_getElem? (i := 172) rfl) rfl
theorem cl6_214 : Cond.constantLong RX6 214 (-2) ∈ lw_w := tq4 (List.mem_of_getElem? (i := 184) rfl) rfl
theorem cl6_220 : Cond.constantLong RX6 220 (-1) ∈ lw_w := tq4 (List.mem_of_getElem? (i := 193) rfl) rfl
theorem r_lve {K : kT} {hp : cH} {sz rc rs pc : Nat} {lv lv' : List (Nat × Value)} {st : List Value} (e : lv = lv') (k : aW K hp sz rc rs pc lv' st) : aW K hp sz rc rs pc lv st := e ▸ k
theorem gd_n {α : Type} {c : Prop} [Decidable c] {a : Option α} {x : α} (h : (if c then none else a) = some x) : ¬ c ∧ a = some x := by
  by_cases hc : c
  · rw [if_pos hc] at h; cases h
  · rw [if_neg hc] at h; exact ⟨hc, h⟩
